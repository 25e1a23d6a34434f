theorem map_ins {α β : Type} (g : α → β) (x : α) : ∀ (l : List α) (k : Nat), (l.map g).insertIdx k (g x) = (l.insertIdx k x).map g := by
  intro l
  induction l with
  | nil =>
    intro k
    cases k with
    | zero => simp
    | succ k => simp
  | cons a l ih =>
    intro k
    cases k with
    | zero => simp
    | succ k => simp [ih]
/-- the first place from k on where P fails -/
def insF (P : Nat → Bool) : Nat → Nat → Nat
  | 0, k => k
  | n + 1, k => if P k = true then insF P n (k + 1) else k
/-- where the line n2 of the item i2 goes -/
def vIns (v : VS) (n2 : VLn) (i2 : VI) : Nat := insF (fun k => lBef (vLt v k) (lIt v (vLt v k)) n2 i2) (vLn v).length 0
def vPut (v : VS) (n2 : VLn) (i2 : VI) : VS := sLn v ((vLn v).insertIdx (vIns v n2 i2) n2)
theorem Rep.insLn {cI cZ cO : ClassId} {t : Nat} {L : List Nat} {f : Nat → va_E} {ad : Nat → Nat} {v : VS} (h : Rep cI cZ cO t L f ad v) {u : PU} {q k : Nat} {n2 : VLn} (hk : k ≤ (vLn v).length) (hlen : (vLn v).length < 120) (hn2 : okN L f n2) {i2 : VI} (hi2 : i2 ∈ vIt v) (hni2 : iA i2 = lI n2) (hnn : lA n2 ∉ (vLn v).map lA) (ht : t ∉ u.1) (hAL : AL cO t u.1 u.2 (ad 5) q (((vLn v).map lA).insertIdx k (lA n2))) (hu : (u.1 = L ∧ q = ad 8) ∨ (q ∉ L ∧ u.1 = L ++ [q])) (hfr : ∀ y ∈ L, y ≠ ad 5 → y ≠ ad 8 → u.2 y = f y) : Rep cI cZ cO t u.1 u.2 (va_up ad 8 q) (sLn v ((vLn v).insertIdx k n2)) := by
  have hl1 : ((vLn v).insertIdx k n2).length = (vLn v).length + 1 := List.length_insertIdx_of_le_length hk n2
  rw [map_ins] at hAL
  have hqt : q ≠ t := by
    obtain ⟨-, cap, mc, -, hle, -, h3⟩ := hAL
    rcases h3 with ⟨-, e3⟩ | ⟨he, -⟩
    · rw [List.length_map] at hle
      omega
    · exact fun z => ht (z ▸ he)
  have hp := List.perm_insertIdx n2 (vLn v) hk
  refine h.lines' hu hqt hfr hAL (fun n hn => ?_) (by omega) ?_
  · rcases List.mem_cons.mp (hp.mem_iff.mp hn) with e | hn
    · rw [e]
      exact ⟨hn2, i2, hi2, hni2⟩
    · exact ⟨h.ln hn, h.lnI hn⟩
  · rw [(hp.map lA).nodup_iff, List.map_cons]
    exact List.nodup_cons.mpr ⟨hnn, h.ndN⟩

set_option maxHeartbeats 4000000 in
set_option maxRecDepth 100000 in
theorem c_K_insert (l : Launch) (D : va_G) (cI cZ cO : ClassId) (L : List Nat) (f : Nat → va_E) (t : Nat) (sz : Nat) (ad : Nat → Nat) (v : VS) (hRep : Rep cI cZ cO t L f ad v) (n2 : VLn) (hn2 : okN L f n2) (i2 : VI) (hi2 : i2 ∈ vIt v) (hni2 : iA i2 = lI n2) (hnn : lA n2 ∉ (vLn v).map lA) (hl120 : (vLn v).length < 120) : Met l y_K_insert (wM y_K_insert b_K_insert 3 none) ({ frames := 6, cells := 1, slots := 300, locals := 151 }) (va_Pc [.ref (ad 3), .ref (lA n2)] (fun U => U.heap.size = sz ∧ va_P D cvC (va_pl L f) U.heap ∧ KS D cI cZ cO U ∧ va_D (fun _ => True) (va_pl L f) ∧ ZT t (va_A (va_pl L f) sz) U U.heap)) (va_Qv (fun u : PU => ∃ q8 : Nat, Rep cI cZ cO t u.1 u.2 (va_up ad 8 q8) (vPut v n2 i2)) (fun u t9 => va_P D cvC (va_pl u.1 u.2) t9.heap ∧ va_D (va_A (va_pl L f) sz) (va_pl u.1 u.2)) (va_A (va_pl L f) sz)) 1 300 (va_A (va_pl L f) sz) := by
  refine Met.ofW (cc := b_K_insert) (maxL := 3) (ret := none) (by decide) rfl ?_
  intro p e s m args below meth c s₁ B hml hv
  obtain ⟨rfl, hsz, hP, hK, hD0, hZ⟩ := hv
  have hx := B.exec
  have hb := B.bytes
  have hr := B.returns
  have hU : ∀ w ∈ wU, w.before _ s = true := fun w h => atoms_spec (ws := wM y_K_insert b_K_insert 3 none) B.pre w (List.mem_cons_of_mem _ h)
  have hown : s.vm.findClass R_K = some m.cls := findClass_of_methodNamed B.named
  have hlocks := B.notSynchronized
  subst hsz
  have hD := hD0.self (sz := s.heap.size)
  generalize hAe : va_A (va_pl L f) s.heap.size = A at hD hZ ⊢
  have hA : ∀ q : Nat, s.heap.size ≤ q → A q := fun q h => by rw [← hAe]; exact Or.inr h
  have hS : va_S A s.heap s.heap [] := va_S.rf
  have hl := lv_entry ([.ref (ad 3), .ref (lA n2)]) (n := 3) (Nat.le_of_ble_eq_true rfl)
  rw [lg_entry_eq]
  generalize (lg_sl ([.ref (ad 3), .ref (lA n2)]) ++ List.replicate (3 - (lg_sl ([.ref (ad 3), .ref (lA n2)])).length) Slot.unset).toArray = ls at hl ⊢
  have hl : lv_has ls 3 [(0, .ref (ad 3)), (1, .ref (lA n2))] := hl
  refine lv_iconst (v := 0) hx hb d_K_insert_0 (by decide) ?_
  refine lv_istore_n (lv' := [(2, .int 0), (0, .ref (ad 3)), (1, .ref (lA n2))]) hx hb d_K_insert_1 rfl hl (by decide) rfl (fun ls hl => ?_)
  have LP1 : ∀ (n k : Nat) (ls : Array Slot), k + n = (vLn v).length → lv_has ls 3 [(0, .ref (ad 3)), (1, .ref (lA n2)), (2, .int (nI k))] → vIns v n2 i2 = insF (fun k => lBef (vLt v k) (lIt v (vLt v k)) n2 i2) n k → W p l e (headSpec (wM y_K_insert b_K_insert 3 none) ({ frames := 6, cells := 1, slots := 300, locals := 151 })).room s m ([.ref (ad 3), .ref (lA n2)] : List Value).toArray below meth c s.heap [] 0 0 (MQ below (va_Qv (fun u : PU => ∃ q8 : Nat, Rep cI cZ cO t u.1 u.2 (va_up ad 8 q8) (vPut v n2 i2)) (fun u t9 => va_P D cvC (va_pl u.1 u.2) t9.heap ∧ va_D A (va_pl u.1 u.2)) A) ([.ref (ad 3), .ref (lA n2)] : List Value).toArray s 1 300 A) (F0 m 2 ls []) := by
    intro n
    induction n with
    | zero =>
      intro k ls hk hl hE
      refine lv_iload_n hx hb d_K_insert_2 rfl (lv_at hl 2 rfl) ?_
      refine lv_aload_n hx hb d_K_insert_3 rfl (lv_at hl 0 rfl) ?_
      refine gK_lines hx hb hU hown hK hP hRep d_K_insert_4 ?_
      refine rK_size_ln hx hb hml hU hown hK hP hRep hl.1 ⟨Nat.le_of_ble_eq_true rfl, Nat.le_of_ble_eq_true rfl⟩ (Nat.le_of_ble_eq_true rfl) d_K_insert_7 ?_
      refine lv_icmp_ge (tgt := 37) hx hb d_K_insert_10 rfl (fun _ => ?_) (fun h => absurd (nI_le (a := (vLn v).length) (b := k) (by omega) (by omega)) h)
      refine lv_aload_n hx hb d_K_insert_37 rfl (lv_at hl 0 rfl) ?_
      refine gK_lines hx hb hU hown hK hP hRep d_K_insert_38 ?_
      refine lv_iload_n hx hb d_K_insert_41 rfl (lv_at hl 2 rfl) ?_
      refine lv_aload_n hx hb d_K_insert_42 rfl (lv_at hl 1 rfl) ?_
      refine lK_insert hx hb hml hown hU hK hP hD hS hA hZ hRep.tL hRep.lines (by rw [List.length_map]; exact hl120) hRep.lnOb (lA n2) hn2.1 ⟨6, _, hn2.2, by simp⟩ k (by rw [List.length_map]; omega) hl.1 ⟨Nat.le_of_ble_eq_true rfl, Nat.le_of_ble_eq_true rfl⟩ (Nat.le_of_ble_eq_true rfl) ⟨Nat.le_of_ble_eq_true rfl, Nat.le_of_ble_eq_true rfl⟩ d_K_insert_43 (fun u q8 H locs hAL hu hfr hP hD hS => ?_)
      have hvi : vIns v n2 i2 = k := by rw [hE]; simp [insF]
      have hRep := hRep.insLn (by omega) hl120 hn2 hi2 hni2 hnn (t_out hZ hD) hAL hu hfr
      rw [← hvi] at hRep
      obtain ⟨Lq, fq⟩ := u
      refine W.widen (k := 1) (n := 300) (Nat.le_of_ble_eq_true rfl) (Nat.le_of_ble_eq_true rfl) ?_
      exact W.vret hx hb hr (fun t9 ht hW => ⟨⟨(Lq, fq), rfl, ⟨q8, hRep⟩, by rw [ht]; exact hP, hD⟩, hS.F ht⟩) hS.2.2 d_K_insert_46
    | succ n ih =>
      intro k ls hk hl hE
      refine lv_iload_n hx hb d_K_insert_2 rfl (lv_at hl 2 rfl) ?_
      refine lv_aload_n hx hb d_K_insert_3 rfl (lv_at hl 0 rfl) ?_
      refine gK_lines hx hb hU hown hK hP hRep d_K_insert_4 ?_
      refine rK_size_ln hx hb hml hU hown hK hP hRep hl.1 ⟨Nat.le_of_ble_eq_true rfl, Nat.le_of_ble_eq_true rfl⟩ (Nat.le_of_ble_eq_true rfl) d_K_insert_7 ?_
      refine lv_icmp_ge (tgt := 37) hx hb d_K_insert_10 rfl (fun h => absurd h (nI_ge (a := k) (b := (vLn v).length) (by omega) (by omega))) (fun _ => ?_)
      refine lv_aload_n hx hb d_K_insert_13 rfl (lv_at hl 0 rfl) ?_
      refine gK_lines hx hb hU hown hK hP hRep d_K_insert_14 ?_
      refine lv_iload_n hx hb d_K_insert_17 rfl (lv_at hl 2 rfl) ?_
      refine rK_get_ln hx hb hml hU hown hK hP hRep k (by omega) hl.1 ⟨Nat.le_of_ble_eq_true rfl, Nat.le_of_ble_eq_true rfl⟩ (Nat.le_of_ble_eq_true rfl) d_K_insert_18 ?_
      refine cK_N hx hb hU hown hK hP (vLt v k) (hRep.ln (vLt_mem (by omega))) d_K_insert_21 ?_
      refine lv_aload_n hx hb d_K_insert_24 rfl (lv_at hl 1 rfl) ?_
      refine kK_N_comesBefore hx hb hml hown hU hK hP (vLt v k) (hRep.ln (vLt_mem (by omega))) (lIt v (vLt v k)) (hRep.it (hRep.lit (vLt_mem (k := k) (by omega))).1) (hRep.lit (vLt_mem (k := k) (by omega))).2 n2 hn2 i2 (hRep.it hi2) hni2 hl.1 ⟨Nat.le_of_ble_eq_true rfl, Nat.le_of_ble_eq_true rfl⟩ (Nat.le_of_ble_eq_true rfl) d_K_insert_25 ?_
      refine lv_if_eq (tgt := 37) hx hb d_K_insert_28 rfl (fun h2 => ?_) (fun h2 => ?_)
      · have h2 : ¬ (lBef (vLt v k) (lIt v (vLt v k)) n2 i2 = true) := bI_f h2
        refine lv_aload_n hx hb d_K_insert_37 rfl (lv_at hl 0 rfl) ?_
        refine gK_lines hx hb hU hown hK hP hRep d_K_insert_38 ?_
        refine lv_iload_n hx hb d_K_insert_41 rfl (lv_at hl 2 rfl) ?_
        refine lv_aload_n hx hb d_K_insert_42 rfl (lv_at hl 1 rfl) ?_
        refine lK_insert hx hb hml hown hU hK hP hD hS hA hZ hRep.tL hRep.lines (by rw [List.length_map]; exact hl120) hRep.lnOb (lA n2) hn2.1 ⟨6, _, hn2.2, by simp⟩ k (by rw [List.length_map]; omega) hl.1 ⟨Nat.le_of_ble_eq_true rfl, Nat.le_of_ble_eq_true rfl⟩ (Nat.le_of_ble_eq_true rfl) ⟨Nat.le_of_ble_eq_true rfl, Nat.le_of_ble_eq_true rfl⟩ d_K_insert_43 (fun u q8 H locs hAL hu hfr hP hD hS => ?_)
        have hvi : vIns v n2 i2 = k := by rw [hE]; simp [insF, h2]
        have hRep := hRep.insLn (by omega) hl120 hn2 hi2 hni2 hnn (t_out hZ hD) hAL hu hfr
        rw [← hvi] at hRep
        obtain ⟨Lq, fq⟩ := u
        refine W.widen (k := 1) (n := 300) (Nat.le_of_ble_eq_true rfl) (Nat.le_of_ble_eq_true rfl) ?_
        exact W.vret hx hb hr (fun t9 ht hW => ⟨⟨(Lq, fq), rfl, ⟨q8, hRep⟩, by rw [ht]; exact hP, hD⟩, hS.F ht⟩) hS.2.2 d_K_insert_46
      · have h2 : lBef (vLt v k) (lIt v (vLt v k)) n2 i2 = true := bI_t h2
        refine lv_iinc (k := 2) (v := nI (k + 1)) (lv' := [(2, .int (nI (k + 1))), (0, .ref (ad 3)), (1, .ref (lA n2))]) hx hb d_K_insert_31 hl rfl (ic_nat k) (by decide) rfl (fun ls hl => ?_)
        refine lv_goto (tgt := 2) hx hb d_K_insert_34 rfl ?_
        exact ih (k + 1)  ls (by omega)  (lv_sub hl [1, 2, 0] rfl) (by rw [hE]; simp [insF, h2])
  exact LP1 ((vLn v).length) 0  ls (by omega)  (lv_sub hl [1, 2, 0] rfl) (rfl)

theorem kV_K_insert {p : Program} {l : Launch} {e : Env} {R : Room} {s : State} {m : MethodId} {args : Array Value} {below : List Frame} {meth : Method} {c : Code} {H : Heap} {locs : List Loc} {cells slots : Nat} {Q : State → Prop} {cc : ByteArray} {pc nL : Nat} {ls : Array Slot} {rest : List Value} {D : va_G} {cI cZ cO : ClassId} {L : List Nat} {f : Nat → va_E} {t : Nat} {A : Nat → Prop} {H0 : Heap} (hx : p.tables.exec = Jvm.exec) (hb : c.code = cc) (hml : c.maxLocals = nL) (hown : s.vm.findClass R_V = some m.cls) (hU : ∀ w ∈ wU, w.before args s = true) (hK : KS D cI cZ cO s) (hP : va_P D cvC (va_pl L f) H) (hD : va_D A (va_pl L f)) (hS : va_S A H0 H locs) (hA : ∀ q, H0.size ≤ q → A q) (hZ : ZT t A s H) (ad : Nat → Nat) (v : VS) (hRep : Rep cI cZ cO t L f ad v) (n2 : VLn) (hn2 : okN L f n2) (i2 : VI) (hi2 : i2 ∈ vIt v) (hni2 : iA i2 = lI n2) (hnn : lA n2 ∉ (vLn v).map lA) (hl120 : (vLn v).length < 120) (hls : ls.size = nL) (hR : 6 + 1 ≤ R.frames ∧ 8 + (3 + 11) + 151 ≤ R.locals) (hst : (rest.map fun v => v.category).sum ≤ 8) (hcs : cells + 1 ≤ R.cells ∧ slots + 300 ≤ R.slots) (hdg : decode cc pc = .ok (.invokevirtual 238, 3)) (kk : ∀ (u : PU) (H1 : Heap) (locs1 : List Loc), (∃ q8 : Nat, Rep cI cZ cO t u.1 u.2 (va_up ad 8 q8) (vPut v n2 i2)) → va_P D cvC (va_pl u.1 u.2) H1 → va_D A (va_pl u.1 u.2) → va_S A H0 H1 locs1 → W p l e R s m args below meth c H1 locs1 (cells + 1) (slots + 300) Q (F0 m (pc + 3) ls (rest))) : W p l e R s m args below meth c H locs cells slots Q (F0 m pc ls (.ref (lA n2) :: .ref (ad 3) :: rest)) := by
  have hF := pA hD hS hA
  refine va_callv (va_runV (As := [.ref (lA n2)]) (rest := rest) ⟨hx, hb, hml, hown, hU⟩ (c_K_insert l D cI cZ cO L f t H.size ad v hRep n2 hn2 i2 hi2 hni2 hnn hl120) (cwV 1 hU (gV w_286 w_287 w_288 w_7 w_289) rfl rfl rfl (by decide +kernel) hR) ⟨fun a9 U g9 mk9 q => by obtain ⟨q0, q1, qP, qK, qD, qZ⟩ := q; exact ⟨q0, q1, qP, qK.same rfl, qD, qZ.moved (Vm.Alike.refl U.vm)⟩, p_recv hK hP hRep.cat.1 hRep.cat.2 (r := (R_K, T_K, 1)) rfl, fun U hU9 hW => ⟨rfl, by rw [hU9], by rw [hU9]; exact hP, hK.warm hW, hD.weaken (fun _ _ _ _ => trivial), by rw [hU9]; exact (hZ.narrow hF).moved hW.alike⟩⟩ rfl rfl hls rfl (lv_room hst) hdg hcs) hS (fun q _ h => hF q h) hF (fun u t9 H1 locs1 ht hvm hw hB hz1 hk1 hS1 => ?_)
  obtain ⟨hP1, hD1⟩ := hB
  rw [ht] at hP1
  exact kk u H1 locs1 hw hP1 (hD1.weaken (fun _ q _ h => hF q.1 h)) hS1

