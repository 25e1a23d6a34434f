theorem one_D {A : Nat → Prop} {q : Nat} {e : va_E} (h : A q) : va_D A [(q, e)] := by
  refine ⟨fun i j p r h1 h2 _ => ?_, fun k r hr => ?_⟩
  · rcases i with _ | i
    · rcases j with _ | j
      · rfl
      · cases h2
    · cases h1
  · rcases k with _ | k
    · cases hr; exact h
    · cases hr

/-- both worlds stand: behind the reference's constructor -/
theorem LW.first {D : va_G} {cI cZ cO : ClassId} {A : Nat → Prop} {t : Nat} {L : List Nat} {f : Nat → va_E} {ad : Nat → Nat} {v : VS} {am : Nat → Nat} {σ : MS} {H H1 : Heap} {q : Nat} {e : va_E} (hq : q ∉ L) (hP : va_P D cvC (va_pl L f) H) (hD : va_D A (va_pl L f)) (hRep : Rep cI cZ cO t L f ad v) (hP1 : va_P D cvC (mW cI cZ am σ) H1) (hDA : va_D A (mW cI cZ am σ)) (hD1 : va_D (va_A [(q, e)] H.size) (mW cI cZ am σ)) (hk : ∀ y : Nat, y < H.size → ¬ va_A [(q, e)] H.size y → H1[y]? = H[y]?) : LW D cI cZ cO A t L f ad v am σ H1 := by
  have hin : ∀ y ∈ L, y < H.size := fun y hy => by
    obtain ⟨j, hj⟩ := pl_at (f := f) hy
    exact (hP j (y, f y) hj).lt
  have one : ∀ (j : Nat) (y : Nat) (e2 : va_E), ([(q, e)] : va_W)[j]? = some (y, e2) → y = q := fun j y e2 z => by
    rcases j with _ | j
    · cases z; rfl
    · cases z
  refine ⟨hP.kept (fun k x hx => ?_), hD, hRep, hP1, hDA, fun k x hx => ⟨fun z => ?_, (hP1 k x hx).lt⟩⟩
  · have hm : x.1 ∈ L := pl_in (e := x.2) hx
    refine hk _ (hin _ hm) (fun z => ?_)
    rcases z with ⟨j, e2, z⟩ | z
    · rw [one j _ e2 z] at hm; exact hq hm
    · have := hin _ hm; omega
  · rcases hD1.2 k x hx with ⟨j, e2, z2⟩ | z2
    · rw [one j _ e2 z2] at z; exact hq z
    · have := hin _ z; omega
theorem whole_start {p : Program} {e : Env} {s : State} {m : MethodId} {below : List Frame} {meth : Method} {c : Code} (l : Launch) {b L : Nat} {xs : Nat → Int32} (hL : L ≤ 2560) (C0 : lw_At p s m meth c b L xs) : W p l e room_1 s m #[Value.ref b] below meth c s.heap [] 0 0 (lw_Z below #[Value.ref b] s) (entryFrame m ([Value.ref b] : List Value).toArray 4) := by
  obtain ⟨D, cI, cZ, cO, hK⟩ := lw_KS C0
  obtain ⟨t, hZ0⟩ := lw_ZT C0
  obtain ⟨hx, hb, hr, hml, hown, hts, hX, hbl, hlocks, -⟩ := C0
  have hU := lw_words hts
  have hZ0 : ZT t (lwA s) s s.heap := hZ0
  have E : LE p s m c b L t xs D cI cZ cO := ⟨⟨hx, hb, hml, hown, hU⟩, hK, hZ0, hX, hbl, hL⟩
  have hA : ∀ q, s.heap.size ≤ q → lwA s q := fun q h => h
  have hS : va_S (lwA s) s.heap s.heap [] := va_S.rf
  have hown : s.vm.findClass R_Lw = some m.cls := hown
  have hl := lv_entry ([.ref b]) (n := 4) (Nat.le_of_ble_eq_true rfl)
  rw [lg_entry_eq]
  generalize (lg_sl ([.ref b]) ++ List.replicate (4 - (lg_sl ([.ref b])).length) Slot.unset).toArray = ls at hl ⊢
  have hl : lv_has ls 4 [(0, .ref b)] := hl
  refine p_new (ci := 0) (C := R_V) (T := T_V) (N := 6) (L := []) (f := fun _ => .inr (0, [])) (fs := [.null, .null, .null, .null, .int 0, .int 0]) hx hb hU u_V t_V t_V_ok hown w_19 w_20 w_1 hK (fun k q hq => by cases hq) ⟨fun i j p q h1 => (by cases h1), fun k q hq => by cases hq⟩ hS hA rfl (fun j hj => by rcases j with _ | _ | _ | _ | _ | _ | j <;> first | rfl | omega) (by decide) (by decide) d_L_0 (fun a H hqa hP hD hS => ?_)
  refine lv_dup hx hb d_L_3 rfl ?_
  refine kLw_V_init hx hb hml hown hU hK hP hD hS hA (hZ0.kept hS.2.1) a (List.mem_append_right _ (List.mem_singleton.mpr rfl)) (va_up_self _ _ _) hl.1 ⟨Nat.le_of_ble_eq_true rfl, Nat.le_of_ble_eq_true rfl⟩ (Nat.le_of_ble_eq_true rfl) (by decide) d_L_4 (fun u H locs hpost hP hD hS => ?_)
  obtain ⟨ad, ha0, hRep, -, -⟩ := hpost
  refine lv_astore_n (lv' := [(1, .ref a), (0, .ref b)]) hx hb d_L_7 rfl hl (by decide) rfl (fun ls hl => ?_)
  refine p_new (ci := 8) (C := R_M) (T := T_M) (N := 13) (fs := [.int 0, .int 0, .null, .null, .null, .null, .null, .null, .null, .int 0, .null, .null, .null]) hx hb hU u_M t_M t_M_ok hown w_614 w_615 w_9 hK hP hD hS hA rfl (fun j hj => by rcases j with _ | _ | _ | _ | _ | _ | _ | _ | _ | _ | _ | _ | _ | j <;> first | rfl | omega) (by decide) (by decide) d_L_8 (fun q H hq hP hD hS => ?_)
  rw [← va_pl_push hq] at hP hD
  refine lv_dup hx hb d_L_11 rfl ?_
  refine kLw_M_init hx hb hml hown hU hK.1 q hP.right (one_D (hD.2 u.1.length (q, .inr (8, [.int 0, .int 0, .null, .null, .null, .null, .null, .null, .null, .int 0, .null, .null, .null])) (by simp [va_pl]))) hS hA hl.1 ⟨Nat.le_of_ble_eq_true rfl, Nat.le_of_ble_eq_true rfl⟩ (Nat.le_of_ble_eq_true rfl) (by decide) d_L_12 (fun am H2 locs2 ham hP2 hD2 hS2 hz2 hk2 hDA2 => ?_)
  have hLW := LW.first hq hP.left hD.left hRep hP2 hD2 hDA2 hk2
  subst ha0
  subst ham
  refine lv_astore_n (lv' := [(2, .ref (am 0)), (1, .ref (ad 0)), (0, .ref b)]) hx hb d_L_15 rfl hl (by decide) rfl (fun ls hl => ?_)
  refine lv_iconst (v := 0) hx hb d_L_16 (by decide) ?_
  refine lv_istore_n (lv' := [(3, .int 0), (2, .ref (am 0)), (1, .ref (ad 0)), (0, .ref b)]) hx hb d_L_17 rfl hl (by decide) rfl (fun ls hl => ?_)
  exact lw_loop E hr hlocks 512 0 H2 locs2 _ _ ls (by omega) (by omega) (lv_sub hl [3, 2, 1, 0] rfl) ⟨u.1, u.2, ad, vS0, mS0, fun _ => 0, rfl, hLW, inv0, hS2⟩ (by decide) (by decide)

