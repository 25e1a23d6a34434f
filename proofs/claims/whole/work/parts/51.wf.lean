/-- the pool behind a change: only lists and their arrays are others -/
def FrK (L : List Nat) (f : Nat → va_E) (u : PU) : Prop := (∀ y ∈ L, y ∈ u.1) ∧ ∀ y ∈ L, kd (f y) ≠ 17 → kd (f y) ≠ 2 → u.2 y = f y
theorem FrK.tr {L : List Nat} {f : Nat → va_E} {u w : PU} (h : FrK L f u) (h2 : FrK u.1 u.2 w) : FrK L f w := ⟨fun y hy => h2.1 y (h.1 y hy), fun y hy a b => by
  have e := h.2 y hy a b
  rw [h2.2 y (h.1 y hy) (by rw [e]; exact a) (by rw [e]; exact b), e]⟩
theorem FrK.ok {cI : ClassId} {L : List Nat} {f : Nat → va_E} {u : PU} (h : FrK L f u) {i : VI} (hi : okI cI L f i) : okI cI u.1 u.2 i := by
  refine hi.keep h.1 (h.2 _ hi.1 ?_ ?_) (fun s => h.2 _ (hi.2.2 s).1 ?_ ?_)
  · rw [hi.2.1]; have := kd_it i; omega
  · rw [hi.2.1]; have := kd_it i; omega
  · rw [(hi.2.2 s).2.1]; show (1 : Nat) ≠ 17; decide
  · rw [(hi.2.2 s).2.1]; show (1 : Nat) ≠ 2; decide
section RepD
variable {cI cZ cO : ClassId} {t : Nat} {L : List Nat} {f : Nat → va_E} {ad : Nat → Nat} {v : VS}
theorem Rep.fr58 (h : Rep cI cZ cO t L f ad v) {u : PU} (hu : Fr58 ad L f u) : FrK L f u := ⟨hu.1, fun y hy a b => hu.2 y hy (ne_k (f := f) (by rw [h.k5]; exact a)) (fun z => b (by rw [z]; exact h.k8 (z ▸ hy)))⟩
theorem rem_map {l : List VI} {k : Nat} (hn : (l.map iA).Nodup) (hk : k < l.length) : (l.filter (fun j => !decide (iA j = iA l[k]))).map iA = (l.map iA).eraseIdx k := by
  have key : ∀ (l : List VI) (k : Nat) (hk : k < l.length), (l.map iA).Nodup → l.filter (fun j => !decide (iA j = iA l[k])) = l.eraseIdx k := by
    intro l
    induction l with
    | nil => intro k hk; exact absurd hk (Nat.not_lt_zero _)
    | cons a l ih =>
      intro k hk hn
      rw [List.map_cons, List.nodup_cons] at hn
      cases k with
      | zero =>
        rw [List.eraseIdx_cons_zero]
        show List.filter (fun j => !decide (iA j = iA a)) (a :: l) = l
        rw [List.filter_cons_of_neg (by simp)]
        refine List.filter_eq_self.mpr (fun j hj => ?_)
        simp only [Bool.not_eq_true', decide_eq_false_iff_not]
        exact fun z => hn.1 (by rw [← z]; exact List.mem_map.mpr ⟨j, hj, rfl⟩)
      | succ k =>
        have hk' : k < l.length := by simpa using hk
        rw [List.eraseIdx_cons_succ]
        show List.filter (fun j => !decide (iA j = iA l[k])) (a :: l) = _
        rw [List.filter_cons_of_pos, ih k hk' hn.2]
        simp only [Bool.not_eq_true', decide_eq_false_iff_not]
        exact fun z => hn.1 (by rw [z]; exact List.mem_map.mpr ⟨l[k], List.getElem_mem hk', rfl⟩)
  rw [key l k hk hn, map_er]
/-- an item is taken out of the list -/
theorem Rep.remI (h : Rep cI cZ cO t L f ad v) {u : PU} {q k : Nat} (hk : k < (vIt v).length) (ht : t ∉ u.1) (hln : ∀ n ∈ vLn v, ¬ lI n = iA (vAt v k)) (hnl : ∀ j ∈ vIt v, iIsJ j = true → ¬ iFi j = iA (vAt v k)) (hAL : AL cO t u.1 u.2 (ad 2) q (((vIt v).map iA).eraseIdx k)) (hu : (u.1 = L ∧ q = ad 7) ∨ (q ∉ L ∧ u.1 = L ++ [q])) (hfr : ∀ y ∈ L, y ≠ ad 2 → y ≠ ad 7 → u.2 y = f y) : Rep cI cZ cO t u.1 u.2 (va_up ad 7 q) (sIt v ((vIt v).filter (fun j => !decide (iA j = iA (vAt v k))))) ∧ FrK L f u := by
  have hget : vAt v k = (vIt v)[k] := vAt_get hk
  have mem : ∀ {j : VI}, j ∈ (vIt v).filter (fun j => !decide (iA j = iA (vAt v k))) ↔ j ∈ vIt v ∧ ¬ iA j = iA (vAt v k) := fun {j} => by rw [List.mem_filter]; simp
  have hm : ((vIt v).filter (fun j => !decide (iA j = iA (vAt v k)))).map iA = ((vIt v).map iA).eraseIdx k := by
    have := rem_map h.nd hk
    rw [← hget] at this
    exact this
  have hcap : (vIt v).length ≠ 0 := by omega
  have hqt : q ≠ t := by
    rcases hu with ⟨h1, h2⟩ | ⟨h1, h2⟩
    · rw [h2]
      obtain ⟨-, cap, mc, -, hle, -, h3⟩ := h.items
      rcases h3 with ⟨-, e3⟩ | ⟨he, -⟩
      · rw [List.length_map] at hle; omega
      · exact fun z => h.tL (z ▸ he)
    · exact fun z => ht (by rw [h2, ← z]; exact List.mem_append_right _ (List.mem_singleton.mpr rfl))
  refine ⟨h.items' hu hqt hfr (by rw [hm]; exact hAL) (fun j hj => h.it (mem.mp hj).1) (fun n hn => ?_) (fun j hj hJ => ?_) (Nat.le_trans (List.length_filter_le _ _) h.len) (fun z => h.r1 ?_) ?_ ?_ (fun j hj hs => h.b6 (mem.mp hj).1 hs), (pool_mem hu).1, fun y hy a b => hfr y hy (ne_k (f := f) (by rw [h.k2]; exact a)) (fun z => b (by rw [z]; exact h.k7 (z ▸ hy)))⟩
  · obtain ⟨j, h1, h2⟩ := h.lnI hn
    exact ⟨j, mem.mpr ⟨h1, fun z => hln n hn (by rw [← h2, z])⟩, h2⟩
  · obtain ⟨w, h1, h2, h3⟩ := h.lk (mem.mp hj).1 hJ
    exact ⟨w, mem.mpr ⟨h1, fun z => hnl j (mem.mp hj).1 hJ (by rw [← h3, z])⟩, h2, h3⟩
  · obtain ⟨j, h1, h2⟩ := List.mem_map.mp z
    exact List.mem_map.mpr ⟨j, (mem.mp h1).1, h2⟩
  · exact h.nd.sublist (List.filter_sublist.map _)
  · exact h.ndB.sublist ((List.filter_sublist.filter _).map _)
end RepD

set_option maxHeartbeats 4000000 in
set_option maxRecDepth 100000 in
theorem c_V_drop (l : Launch) (D : va_G) (cI cZ cO : ClassId) (L : List Nat) (f : Nat → va_E) (t : Nat) (sz : Nat) (ad : Nat → Nat) (v : VS) (hRep : Rep cI cZ cO t L f ad v) (i : VI) (hi : i ∈ vIt v) (hln : ∀ n ∈ vLn (vDel (vDel v (iA i) false) (iA i) true), ¬ lI n = iA i) (hnl : ∀ j ∈ vIt v, iIsJ j = true → ¬ iFi j = iA i) : Met l y_V_drop (wM y_V_drop b_V_drop 3 none) ({ frames := 5, cells := 0, slots := 0, locals := 177 }) (va_Pc [.ref (ad 0), .ref (iA i)] (fun U => U.heap.size = sz ∧ va_P D cvC (va_pl L f) U.heap ∧ KS D cI cZ cO U ∧ va_D (fun _ => True) (va_pl L f) ∧ ZT t (va_A (va_pl L f) sz) U U.heap)) (va_Qv (fun u : PU => ∃ q7 q8 : Nat, Rep cI cZ cO t u.1 u.2 (aU ad q7 q8) (vRem v (iA i)) ∧ FrK L f u) (fun u t9 => va_P D cvC (va_pl u.1 u.2) t9.heap ∧ va_D (va_A (va_pl L f) sz) (va_pl u.1 u.2)) (va_A (va_pl L f) sz)) 0 0 (va_A (va_pl L f) sz) := by
  refine Met.ofW (cc := b_V_drop) (maxL := 3) (ret := none) (by decide) rfl ?_
  intro p e s m args below meth c s₁ B hml hv
  obtain ⟨rfl, hsz, hP, hK, hD0, hZ⟩ := hv
  have hx := B.exec
  have hb := B.bytes
  have hr := B.returns
  have hU : ∀ w ∈ wU, w.before _ s = true := fun w h => atoms_spec (ws := wM y_V_drop b_V_drop 3 none) B.pre w (List.mem_cons_of_mem _ h)
  have hown : s.vm.findClass R_V = some m.cls := findClass_of_methodNamed B.named
  have hlocks := B.notSynchronized
  subst hsz
  have hD := hD0.self (sz := s.heap.size)
  generalize hAe : va_A (va_pl L f) s.heap.size = A at hD hZ ⊢
  have hA : ∀ q : Nat, s.heap.size ≤ q → A q := fun q h => by rw [← hAe]; exact Or.inr h
  have hS : va_S A s.heap s.heap [] := va_S.rf
  have hl := lv_entry ([.ref (ad 0), .ref (iA i)]) (n := 3) (Nat.le_of_ble_eq_true rfl)
  rw [lg_entry_eq]
  generalize (lg_sl ([.ref (ad 0), .ref (iA i)]) ++ List.replicate (3 - (lg_sl ([.ref (ad 0), .ref (iA i)])).length) Slot.unset).toArray = ls at hl ⊢
  have hl : lv_has ls 3 [(0, .ref (ad 0)), (1, .ref (iA i))] := hl
  refine lv_aload_n hx hb d_V_drop_0 rfl (lv_at hl 0 rfl) ?_
  refine gV_catalog (ad := ad) hx hb hU hown hK hP hRep d_V_drop_1 ?_
  refine lv_aload_n hx hb d_V_drop_4 rfl (lv_at hl 1 rfl) ?_
  refine lv_iconst (v := 0) hx hb d_V_drop_5 (by decide) ?_
  have hRepB := hRep
  refine kV_K_delete hx hb hml hown hU hK hP hD hS hA (hZ.kept hS.2.1) ad v hRep (iA i) false hl.1 ⟨Nat.le_of_ble_eq_true rfl, Nat.le_of_ble_eq_true rfl⟩ (Nat.le_of_ble_eq_true rfl) ⟨Nat.le_of_ble_eq_true rfl, Nat.le_of_ble_eq_true rfl⟩ d_V_drop_6 (fun u r H locs hpost hP hD hS => ?_)
  obtain ⟨hr9, e1, hRep, hFr⟩ := hpost
  obtain ⟨L2, f3⟩ := u
  have hFr1 := hRepB.fr58 hFr
  refine lv_pop hx hb d_V_drop_9 rfl ?_
  refine lv_aload_n hx hb d_V_drop_10 rfl (lv_at hl 0 rfl) ?_
  refine gV_catalog (ad := (va_up ad 8 e1)) hx hb hU hown hK hP hRep d_V_drop_11 ?_
  refine lv_aload_n hx hb d_V_drop_14 rfl (lv_at hl 1 rfl) ?_
  refine lv_iconst (v := 1) hx hb d_V_drop_15 (by decide) ?_
  have hRepB := hRep
  refine kV_K_delete hx hb hml hown hU hK hP hD hS hA (hZ.kept hS.2.1) (va_up ad 8 e1) (vDel v (iA i) false) hRep (iA i) true hl.1 ⟨Nat.le_of_ble_eq_true rfl, Nat.le_of_ble_eq_true rfl⟩ (Nat.le_of_ble_eq_true rfl) ⟨Nat.le_of_ble_eq_true rfl, Nat.le_of_ble_eq_true rfl⟩ d_V_drop_16 (fun u r H locs hpost hP hD hS => ?_)
  obtain ⟨hr9, e4, hRep, hFr⟩ := hpost
  obtain ⟨L5, f6⟩ := u
  have hFr2 := hRepB.fr58 hFr
  refine lv_pop hx hb d_V_drop_19 rfl ?_
  refine lv_iconst (v := 0) hx hb d_V_drop_20 (by decide) ?_
  refine lv_istore_n (lv' := [(2, .int 0), (0, .ref (ad 0)), (1, .ref (iA i))]) hx hb d_V_drop_21 rfl hl (by decide) rfl (fun ls hl => ?_)
  obtain ⟨v2, hv2⟩ : ∃ z, z = (vDel (vDel v (iA i) false) (iA i) true) := ⟨_, rfl⟩
  rw [← hv2] at hRep
  have hI2 : vIt v2 = vIt v := by rw [hv2, del_It, del_It]
  have LP7 : ∀ (n k : Nat) (ls : Array Slot), k + n = (vIt v2).length → lv_has ls 3 [(0, .ref (ad 0)), (1, .ref (iA i)), (2, .int (nI k))] → vIxA v2 (iA i) = fdF (fun k => decide (iA (vAt v2 k) = iA i)) n k → W p l e (headSpec (wM y_V_drop b_V_drop 3 none) ({ frames := 5, cells := 0, slots := 0, locals := 177 })).room s m ([.ref (ad 0), .ref (iA i)] : List Value).toArray below meth c H locs 0 0 (MQ below (va_Qv (fun u : PU => ∃ q7 q8 : Nat, Rep cI cZ cO t u.1 u.2 (aU ad q7 q8) (vRem v (iA i)) ∧ FrK L f u) (fun u t9 => va_P D cvC (va_pl u.1 u.2) t9.heap ∧ va_D A (va_pl u.1 u.2)) A) ([.ref (ad 0), .ref (iA i)] : List Value).toArray s 0 0 A) (F0 m 22 ls []) := by
    intro n
    induction n with
    | zero =>
      intro k ls hk hl hE
      have hlen := hRep.len
      refine lv_iload_n hx hb d_V_drop_22 rfl (lv_at hl 2 rfl) ?_
      refine lv_aload_n hx hb d_V_drop_23 rfl (lv_at hl 0 rfl) ?_
      refine gV_items (ad := (va_up (va_up ad 8 e1) 8 e4)) hx hb hU hown hK hP hRep d_V_drop_24 ?_
      refine rV_size_it (ad := (va_up (va_up ad 8 e1) 8 e4)) hx hb hml hU hown hK hP hRep hl.1 ⟨Nat.le_of_ble_eq_true rfl, Nat.le_of_ble_eq_true rfl⟩ (Nat.le_of_ble_eq_true rfl) d_V_drop_27 ?_
      refine lv_icmp_ge (tgt := 61) hx hb d_V_drop_30 rfl (fun _ => ?_) (fun h => absurd (nI_le (a := (vIt v2).length) (b := k) (by omega) (by omega)) h)
      refine W.widen (k := 0) (n := 0) (Nat.le_of_ble_eq_true rfl) (Nat.le_of_ble_eq_true rfl) ?_
      exact W.vret hx hb hr (fun t9 ht hW => ⟨⟨(L5, f6), rfl, (by exfalso; obtain ⟨k9, q1, q2, q3⟩ := vIxA_some (v := v2) (i := i) (by rw [hI2]; exact hi); rw [hE] at q2; cases q2), by rw [ht]; exact hP, hD⟩, hS.F ht⟩) hS.2.2 d_V_drop_61
    | succ n ih =>
      intro k ls hk hl hE
      have hlen := hRep.len
      refine lv_iload_n hx hb d_V_drop_22 rfl (lv_at hl 2 rfl) ?_
      refine lv_aload_n hx hb d_V_drop_23 rfl (lv_at hl 0 rfl) ?_
      refine gV_items (ad := (va_up (va_up ad 8 e1) 8 e4)) hx hb hU hown hK hP hRep d_V_drop_24 ?_
      refine rV_size_it (ad := (va_up (va_up ad 8 e1) 8 e4)) hx hb hml hU hown hK hP hRep hl.1 ⟨Nat.le_of_ble_eq_true rfl, Nat.le_of_ble_eq_true rfl⟩ (Nat.le_of_ble_eq_true rfl) d_V_drop_27 ?_
      refine lv_icmp_ge (tgt := 61) hx hb d_V_drop_30 rfl (fun h => absurd h (nI_ge (a := k) (b := (vIt v2).length) (by omega) (by omega))) (fun _ => ?_)
      refine lv_aload_n hx hb d_V_drop_33 rfl (lv_at hl 0 rfl) ?_
      refine gV_items (ad := (va_up (va_up ad 8 e1) 8 e4)) hx hb hU hown hK hP hRep d_V_drop_34 ?_
      refine lv_iload_n hx hb d_V_drop_37 rfl (lv_at hl 2 rfl) ?_
      refine rV_get_it (ad := (va_up (va_up ad 8 e1) 8 e4)) hx hb hml hU hown hK hP hRep k (by omega) hl.1 ⟨Nat.le_of_ble_eq_true rfl, Nat.le_of_ble_eq_true rfl⟩ (Nat.le_of_ble_eq_true rfl) d_V_drop_38 ?_
      refine lv_aload_n hx hb d_V_drop_41 rfl (lv_at hl 1 rfl) ?_
      refine lv_acmp_ne (rx := some (iA (vAt v2 k))) (ry := some (iA i)) (tgt := 55) hx hb d_V_drop_42 rfl (fun h8 => ?_) (fun h8 => ?_)
      · have h8 : ¬ (iA (vAt v2 k) = iA i) := fun z => h8 (by rw [z])
        refine lv_iinc (k := 2) (v := nI (k + 1)) (lv' := [(2, .int (nI (k + 1))), (0, .ref (ad 0)), (1, .ref (iA i))]) hx hb d_V_drop_55 hl rfl (ic_nat k) (by decide) rfl (fun ls hl => ?_)
        refine lv_goto (tgt := 22) hx hb d_V_drop_58 rfl ?_
        exact ih (k + 1)  ls (by omega)  (lv_sub hl [1, 2, 0] rfl) (by rw [hE]; simp [fdF, h8])
      · have h8 : iA (vAt v2 k) = iA i := Option.some.inj h8
        refine lv_aload_n hx hb d_V_drop_45 rfl (lv_at hl 0 rfl) ?_
        refine gV_items (ad := (va_up (va_up ad 8 e1) 8 e4)) hx hb hU hown hK hP hRep d_V_drop_46 ?_
        refine lv_iload_n hx hb d_V_drop_49 rfl (lv_at hl 2 rfl) ?_
        refine lV_remove hx hb hml hown hU hK hP hD hS hA hRep.items hRep.itOb k (by rw [List.length_map]; omega) hl.1 ⟨Nat.le_of_ble_eq_true rfl, Nat.le_of_ble_eq_true rfl⟩ (Nat.le_of_ble_eq_true rfl) ⟨Nat.le_of_ble_eq_true rfl, Nat.le_of_ble_eq_true rfl⟩ d_V_drop_50 (fun u e7 y0 H locs hAL hu hfr hP hD hS => ?_)
        obtain ⟨hRep, hFr3⟩ := hRep.remI (k := k) (by omega) (t_out hZ hD) (fun n hn => by rw [h8, hv2] at *; exact hln n hn) (fun j hj => by rw [h8]; rw [hI2] at hj; exact hnl j hj) hAL hu hfr
        rw [h8, hI2, hv2] at hRep
        obtain ⟨L9, f10⟩ := u
        refine lv_pop hx hb d_V_drop_53 rfl ?_
        refine W.widen (k := 0) (n := 0) (Nat.le_of_ble_eq_true rfl) (Nat.le_of_ble_eq_true rfl) ?_
        exact W.vret hx hb hr (fun t9 ht hW => ⟨⟨(L9, f10), rfl, ⟨_, _, hRep.norm (fun k hk => by have h7 : ¬ k = 7 := (by omega); have h8 : ¬ k = 8 := (by omega); simp [aU, va_up, h7, h8]), hFr1.tr (hFr2.tr hFr3)⟩, by rw [ht]; exact hP, hD⟩, hS.F ht⟩) hS.2.2 d_V_drop_54
  exact LP7 ((vIt v2).length) 0  ls (by omega)  (lv_sub hl [1, 2, 0] rfl) (rfl)

theorem kV_V_drop {p : Program} {l : Launch} {e : Env} {R : Room} {s : State} {m : MethodId} {args : Array Value} {below : List Frame} {meth : Method} {c : Code} {H : Heap} {locs : List Loc} {cells slots : Nat} {Q : State → Prop} {cc : ByteArray} {pc nL : Nat} {ls : Array Slot} {rest : List Value} {D : va_G} {cI cZ cO : ClassId} {L : List Nat} {f : Nat → va_E} {t : Nat} {A : Nat → Prop} {H0 : Heap} (hx : p.tables.exec = Jvm.exec) (hb : c.code = cc) (hml : c.maxLocals = nL) (hown : s.vm.findClass R_V = some m.cls) (hU : ∀ w ∈ wU, w.before args s = true) (hK : KS D cI cZ cO s) (hP : va_P D cvC (va_pl L f) H) (hD : va_D A (va_pl L f)) (hS : va_S A H0 H locs) (hA : ∀ q, H0.size ≤ q → A q) (hZ : ZT t A s H) (ad : Nat → Nat) (v : VS) (hRep : Rep cI cZ cO t L f ad v) (i : VI) (hi : i ∈ vIt v) (hln : ∀ n ∈ vLn (vDel (vDel v (iA i) false) (iA i) true), ¬ lI n = iA i) (hnl : ∀ j ∈ vIt v, iIsJ j = true → ¬ iFi j = iA i) (hls : ls.size = nL) (hR : 5 + 1 ≤ R.frames ∧ 8 + (3 + 11) + 177 ≤ R.locals) (hst : (rest.map fun v => v.category).sum ≤ 8) (hcs : cells + 0 ≤ R.cells ∧ slots + 0 ≤ R.slots) (hdg : decode cc pc = .ok (.invokevirtual 101, 3)) (kk : ∀ (u : PU) (H1 : Heap) (locs1 : List Loc), (∃ q7 q8 : Nat, Rep cI cZ cO t u.1 u.2 (aU ad q7 q8) (vRem v (iA i)) ∧ FrK L f u) → va_P D cvC (va_pl u.1 u.2) H1 → va_D A (va_pl u.1 u.2) → va_S A H0 H1 locs1 → W p l e R s m args below meth c H1 locs1 (cells + 0) (slots + 0) Q (F0 m (pc + 3) ls (rest))) : W p l e R s m args below meth c H locs cells slots Q (F0 m pc ls (.ref (iA i) :: .ref (ad 0) :: rest)) := by
  have hF := pA hD hS hA
  refine va_callv (va_runV (As := [.ref (iA i)]) (rest := rest) ⟨hx, hb, hml, hown, hU⟩ (c_V_drop l D cI cZ cO L f t H.size ad v hRep i hi hln hnl) (cwV 1 hU (gV w_375 w_377 s_V_drop w_1 w_378) rfl rfl rfl (by decide +kernel) hR) ⟨fun a9 U g9 mk9 q => by obtain ⟨q0, q1, qP, qK, qD, qZ⟩ := q; exact ⟨q0, q1, qP, qK.same rfl, qD, qZ.moved (Vm.Alike.refl U.vm)⟩, p_recv hK hP hRep.obj.1 hRep.obj.2 (r := (R_V, T_V, 6)) rfl, fun U hU9 hW => ⟨rfl, by rw [hU9], by rw [hU9]; exact hP, hK.warm hW, hD.weaken (fun _ _ _ _ => trivial), by rw [hU9]; exact (hZ.narrow hF).moved hW.alike⟩⟩ rfl rfl hls rfl (lv_room hst) hdg hcs) hS (fun q _ h => hF q h) hF (fun u t9 H1 locs1 ht hvm hw hB hz1 hk1 hS1 => ?_)
  obtain ⟨hP1, hD1⟩ := hB
  rw [ht] at hP1
  exact kk u H1 locs1 hw hP1 (hD1.weaken (fun _ q _ h => hF q.1 h)) hS1

