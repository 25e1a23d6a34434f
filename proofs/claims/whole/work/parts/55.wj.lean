theorem iSetE_id {i : VI} (h : iIsD i = true) : iSetE i (iEn i) = i := by
  obtain ⟨a, b, c, d, k⟩ := i
  rcases k with k | k | k
  · rfl
  · cases h
  · cases h
theorem iSetL_id {i : VI} (h : iIsS i = true) : iSetL i (iLk i) = i := by
  obtain ⟨a, b, c, d, k⟩ := i
  rcases k with k | k | k
  · cases h
  · rfl
  · cases h
theorem upd_id {v : VS} (hp : PR v) {i : VI} (hi : i ∈ vIt v) : vUpd v (iA i) i = v := by
  show sIt v (updA (iA i) i (vIt v)) = v
  have : updA (iA i) i (vIt v) = vIt v := by
    unfold updA
    refine (List.map_congr_left (g := id) (fun j hj => ?_)).trans (List.map_id _)
    show (if iA j = iA i then i else j) = j
    by_cases e : iA j = iA i
    · rw [if_pos e]; exact (iA_inj hp.nd hj hi e).symm
    · rw [if_neg e]
  rw [this]; rfl
/-- the first k of a list changed by G -/
def fxK (G : VI → VI) : Nat → List VI → List VI
  | _, [] => []
  | 0, l => l
  | k + 1, a :: l => G a :: fxK G k l
theorem fxK_0 (G : VI → VI) (l : List VI) : fxK G 0 l = l := by cases l <;> rfl
theorem fxK_map {β : Type} (G : VI → VI) (h : VI → β) (hh : ∀ i, h (G i) = h i) : ∀ (l : List VI) (k : Nat), (fxK G k l).map h = l.map h := by
  intro l
  induction l with
  | nil => intro k; cases k <;> rfl
  | cons a l ih =>
    intro k
    cases k with
    | zero => rfl
    | succ k => show h (G a) :: (fxK G k l).map h = _; rw [hh, ih]; rfl
theorem fxK_len (G : VI → VI) (l : List VI) (k : Nat) : (fxK G k l).length = l.length := by
  have := congrArg List.length (fxK_map G (fun _ => ()) (fun _ => rfl) l k)
  simpa using this
theorem fxK_all (G : VI → VI) : ∀ l : List VI, fxK G l.length l = l.map G := by
  intro l
  induction l with
  | nil => rfl
  | cons a l ih => show G a :: fxK G l.length l = _; rw [ih]; rfl
theorem fxK_get (G : VI → VI) : ∀ (l : List VI) (k : Nat) (d : VI), k < l.length → (fxK G k l).getD k d = l.getD k d := by
  intro l
  induction l with
  | nil => intro k d h; exact absurd h (Nat.not_lt_zero _)
  | cons a l ih =>
    intro k d h
    cases k with
    | zero => rfl
    | succ k => exact ih k d (by simpa using h)
theorem fxK_same (G : VI → VI) : ∀ (l : List VI) (k : Nat) (d : VI), k < l.length → G (l.getD k d) = l.getD k d → fxK G (k + 1) l = fxK G k l := by
  intro l
  induction l with
  | nil => intro k d h; exact absurd h (Nat.not_lt_zero _)
  | cons a l ih =>
    intro k d h e
    cases k with
    | zero => show G a :: fxK G 0 l = a :: l; rw [fxK_0, show G a = a from e]
    | succ k => show G a :: fxK G (k + 1) l = G a :: fxK G k l; rw [ih k d (by simpa using h) e]
theorem fxK_upd (G : VI → VI) (hG : ∀ i, iA (G i) = iA i) : ∀ (l : List VI) (k : Nat) (d : VI), k < l.length → (l.map iA).Nodup → updA (iA (l.getD k d)) (G (l.getD k d)) (fxK G k l) = fxK G (k + 1) l := by
  intro l
  induction l with
  | nil => intro k d h; exact absurd h (Nat.not_lt_zero _)
  | cons a l ih =>
    intro k d h hn
    rw [List.map_cons, List.nodup_cons] at hn
    cases k with
    | zero =>
      show (if iA a = iA a then G a else a) :: updA (iA a) (G a) l = G a :: fxK G 0 l
      rw [if_pos rfl, fxK_0]
      congr 1
      unfold updA
      refine (List.map_congr_left (g := id) (fun j hj => ?_)).trans (List.map_id _)
      exact if_neg (fun z => hn.1 (by rw [← z]; exact List.mem_map.mpr ⟨j, hj, rfl⟩))
    | succ k =>
      have hk : k < l.length := by simpa using h
      show (if iA (G a) = iA (l.getD k d) then G (l.getD k d) else G a) :: updA (iA (l.getD k d)) (G (l.getD k d)) (fxK G k l) = G a :: fxK G (k + 1) l
      rw [if_neg, ih k d hk hn.2]
      rw [hG, getD_lt hk]
      exact fun z => hn.1 (by rw [z]; exact List.mem_map.mpr ⟨_, List.getElem_mem hk, rfl⟩)
/-- the state where the first k items are mended -/
def vFK (v w : VS) (G : VI → VI) (k : Nat) : VS := sIt w (fxK G k (vIt v))
section VFK
variable {v w : VS} {G : VI → VI} {k : Nat}
theorem vFK_len (v w : VS) (G : VI → VI) (k : Nat) : (vIt (vFK v w G k)).length = (vIt v).length := fxK_len G (vIt v) k
theorem vFK_at (hk : k < (vIt v).length) : vAt (vFK v w G k) k = vAt v k := fxK_get G (vIt v) k vI0 hk
theorem vFK_mem (hk : k < (vIt v).length) : vAt v k ∈ vIt (vFK v w G k) := by
  rw [← vFK_at (w := w) (G := G) hk]; exact vAt_mem (by rw [vFK_len]; exact hk)
theorem vFK_eIn (hG : ∀ i, Kp G i) (fo : Int32) : vEntriesIn (vFK v w G k) fo = vEntriesIn v fo := by
  rw [eIn_n, eIn_n]
  have := congrArg (fun l => l.countP (fun x : Int32 => decide (x = fo))) (fxK_map G iFo (fun i => (hG i).2.2.1) (vIt v) k)
  simp only [List.countP_map] at this
  exact congrArg nI this
theorem vFK_lFor (hG : ∀ i, Kp G i) (q : Nat) : vLinksFor (vFK v w G k) q = vLinksFor v q := by
  rw [lFor_n, lFor_n]
  have := congrArg (fun l => l.countP (fun x : Bool × Nat => decide (x.1 = true ∧ x.2 = q))) (fxK_map G (fun i => (iIsJ i, iFi i)) (fun i => by rw [(hG i).2.2.2.2.2.2.1, (hG i).2.2.2.2.2.2.2.1]) (vIt v) k)
  simp only [List.countP_map] at this
  exact congrArg nI this
theorem vFK_up (hG : ∀ i, Kp G i) (hn : ((vIt v).map iA).Nodup) (hk : k < (vIt v).length) : vUpd (vFK v w G k) (iA (vAt v k)) (G (vAt v k)) = vFK v w G (k + 1) := by
  show sIt w (updA (iA ((vIt v).getD k vI0)) (G ((vIt v).getD k vI0)) (fxK G k (vIt v))) = _
  rw [fxK_upd G (fun i => (hG i).1) (vIt v) k vI0 hk hn]; rfl
theorem vFK_st (hk : k < (vIt v).length) (e : G (vAt v k) = vAt v k) : vFK v w G k = vFK v w G (k + 1) := by
  show sIt w _ = sIt w _
  rw [fxK_same G (vIt v) k vI0 hk e]
end VFK
theorem words_st {v : VS} {li : Bool} {k : Nat} (h : ¬ (vListed v k = li ∧ ¬ vUs v k = li)) : (fun b => if b < k + 1 ∧ vListed v b = li then li else vUs v b) = (fun b => if b < k ∧ vListed v b = li then li else vUs v b) := funext (fun b => by
  by_cases e : b = k
  · subst e
    rw [if_neg (show ¬ (b < b ∧ vListed v b = li) from fun z => Nat.lt_irrefl _ z.1)]
    by_cases z : vListed v b = li
    · rw [if_pos ⟨by omega, z⟩]
      exact (Decidable.byContradiction (fun y => h ⟨z, fun q => y q.symm⟩))
    · rw [if_neg (fun q => z q.2)]
  · by_cases z : b < k ∧ vListed v b = li
    · rw [if_pos z, if_pos ⟨by omega, z.2⟩]
    · rw [if_neg z, if_neg (fun q => z ⟨by omega, q.2⟩)])
theorem words_up {v : VS} {li : Bool} {k : Nat} (h : vListed v k = li) : va_up (fun b => if b < k ∧ vListed v b = li then li else vUs v b) k li = (fun b => if b < k + 1 ∧ vListed v b = li then li else vUs v b) := funext (fun b => by
  by_cases e : b = k
  · subst e
    rw [va_up_self, if_pos ⟨by omega, h⟩]
  · rw [va_up_ne _ _ e]
    by_cases z : b < k ∧ vListed v b = li
    · rw [if_pos z, if_pos ⟨by omega, z.2⟩]
    · rw [if_neg z, if_neg (fun q => z ⟨by omega, q.2⟩)])

set_option maxHeartbeats 4000000 in
set_option maxRecDepth 100000 in
theorem c_V_harm (l : Launch) (D : va_G) (cI cZ cO : ClassId) (L : List Nat) (f : Nat → va_E) (t : Nat) (sz : Nat) (ad : Nat → Nat) (v : VS) (hRep : Rep cI cZ cO t L f ad v) (wh a : Int32) : Met l y_V_harm (wM y_V_harm b_V_harm 3 (some .boolean)) ({ frames := 6, cells := 0, slots := 0, locals := 199 }) (va_Pc [.ref (ad 0), .int wh, .int a] (fun U => U.heap.size = sz ∧ va_P D cvC (va_pl L f) U.heap ∧ KS D cI cZ cO U ∧ va_D (fun _ => True) (va_pl L f) ∧ ZT t (va_A (va_pl L f) sz) U U.heap)) (va_Qi (fun (r : Int32) (u : PU) => ∃ (v1 : VS) (q7 q8 : Nat), HmS v wh a r v1 ∧ Rep cI cZ cO t u.1 u.2 (aU ad q7 q8) v1) (fun u t9 => va_P D cvC (va_pl u.1 u.2) t9.heap ∧ va_D (va_A (va_pl L f) sz) (va_pl u.1 u.2)) (va_A (va_pl L f) sz)) 0 0 (va_A (va_pl L f) sz) := by
  refine Met.ofW (cc := b_V_harm) (maxL := 3) (ret := (some .boolean)) (by decide) rfl ?_
  intro p e s m args below meth c s₁ B hml hv
  obtain ⟨rfl, hsz, hP, hK, hD0, hZ⟩ := hv
  have hx := B.exec
  have hb := B.bytes
  have hr := B.returns
  have hU : ∀ w ∈ wU, w.before _ s = true := fun w h => atoms_spec (ws := wM y_V_harm b_V_harm 3 (some .boolean)) B.pre w (List.mem_cons_of_mem _ h)
  have hown : s.vm.findClass R_V = some m.cls := findClass_of_methodNamed B.named
  have hlocks := B.notSynchronized
  subst hsz
  have hD := hD0.self (sz := s.heap.size)
  generalize hAe : va_A (va_pl L f) s.heap.size = A at hD hZ ⊢
  have hA : ∀ q : Nat, s.heap.size ≤ q → A q := fun q h => by rw [← hAe]; exact Or.inr h
  have hS : va_S A s.heap s.heap [] := va_S.rf
  have hl := lv_entry ([.ref (ad 0), .int wh, .int a]) (n := 3) (Nat.le_of_ble_eq_true rfl)
  rw [lg_entry_eq]
  generalize (lg_sl ([.ref (ad 0), .int wh, .int a]) ++ List.replicate (3 - (lg_sl ([.ref (ad 0), .int wh, .int a])).length) Slot.unset).toArray = ls at hl ⊢
  have hl : lv_has ls 3 [(0, .ref (ad 0)), (1, .int wh), (2, .int a)] := hl
  refine lv_aload_n hx hb d_V_harm_0 rfl (lv_at hl 0 rfl) ?_
  refine gV_mounted hx hb hU hown hK hP hRep d_V_harm_1 ?_
  refine lv_if_eq (tgt := 9) hx hb d_V_harm_4 rfl (fun h1 => ?_) (fun h1 => ?_)
  · have h1 : ¬ (vMo v = true) := bI_f h1
    refine lv_iload_n hx hb d_V_harm_9 rfl (lv_at hl 1 rfl) ?_
    by_cases h2 : wh = 0
    · refine lv_tableIn (tgt := 40) hx hb d_V_harm_10 (by rw [h2]; decide) (by rw [h2]; decide) (by rw [h2]; rfl) rfl ?_
      refine lv_aload_n hx hb d_V_harm_40 rfl (lv_at hl 0 rfl) ?_
      refine lv_iload_n hx hb d_V_harm_41 rfl (lv_at hl 2 rfl) ?_
      refine kV_V_harmValence hx hb hml hown hU hK hP hD hS hA t ad v hRep a hl.1 ⟨Nat.le_of_ble_eq_true rfl, Nat.le_of_ble_eq_true rfl⟩ (Nat.le_of_ble_eq_true rfl) ⟨Nat.le_of_ble_eq_true rfl, Nat.le_of_ble_eq_true rfl⟩ d_V_harm_42 (fun u r H locs hpost hP hD hS => ?_)
      obtain ⟨v1, e7, e8, hHs, hRep⟩ := hpost
      obtain ⟨L3, f4⟩ := u
      have hnar : narrow .boolean (.int r) = .int r := by rcases hHs with ⟨-, z, -⟩ | ⟨-, -, z, -⟩ <;> rw [z] <;> rfl
      refine W.widen (k := 0) (n := 0) (Nat.le_of_ble_eq_true rfl) (Nat.le_of_ble_eq_true rfl) ?_
      exact W.zret hx hb hr (by first | rfl | exact hnar | exact bI_nar _) (fun t9 ht hW => ⟨⟨_, (L3, f4), rfl, ⟨v1, _, _, Or.inr ⟨by simpa using h1, Or.inl ⟨h2, hHs⟩⟩, hRep⟩, by rw [ht]; exact hP, hD⟩, hS.F ht⟩) hS.2.2 d_V_harm_45
    · by_cases h5 : wh = 1
      · refine lv_tableIn (tgt := 46) hx hb d_V_harm_10 (by rw [h5]; decide) (by rw [h5]; decide) (by rw [h5]; rfl) rfl ?_
        refine lv_aload_n hx hb d_V_harm_46 rfl (lv_at hl 0 rfl) ?_
        refine gV_map hx hb hU hown hK hP hRep d_V_harm_47 ?_
        refine lv_iload_n hx hb d_V_harm_50 rfl (lv_at hl 2 rfl) ?_
        refine kV_B_turnRound hx hb hml hown hU hK hP hD hS hA t ad v hRep a hl.1 ⟨Nat.le_of_ble_eq_true rfl, Nat.le_of_ble_eq_true rfl⟩ (Nat.le_of_ble_eq_true rfl) ⟨Nat.le_of_ble_eq_true rfl, Nat.le_of_ble_eq_true rfl⟩ d_V_harm_51 (fun u r H locs hpost hP hD hS => ?_)
        obtain ⟨hr9, hRep⟩ := hpost
        rw [hr9]
        obtain ⟨L6, f7⟩ := u
        refine W.widen (k := 0) (n := 0) (Nat.le_of_ble_eq_true rfl) (Nat.le_of_ble_eq_true rfl) ?_
        exact W.zret hx hb hr (by first | rfl | exact hnar | exact bI_nar _) (fun t9 ht hW => ⟨⟨_, (L6, f7), rfl, ⟨_, _, _, Or.inr ⟨by simpa using h1, Or.inr (Or.inl ⟨h5, rfl, rfl⟩)⟩, hRep.norm (ad := ad) (fun _ _ => rfl)⟩, by rw [ht]; exact hP, hD⟩, hS.F ht⟩) hS.2.2 d_V_harm_54
      · by_cases h8 : wh = 2
        · refine lv_tableIn (tgt := 55) hx hb d_V_harm_10 (by rw [h8]; decide) (by rw [h8]; decide) (by rw [h8]; rfl) rfl ?_
          refine lv_aload_n hx hb d_V_harm_55 rfl (lv_at hl 0 rfl) ?_
          refine lv_iload_n hx hb d_V_harm_56 rfl (lv_at hl 2 rfl) ?_
          refine kV_V_harmThread hx hb hml hown hU hK hP hD hS hA (hZ.kept hS.2.1) ad v hRep a hl.1 ⟨Nat.le_of_ble_eq_true rfl, Nat.le_of_ble_eq_true rfl⟩ (Nat.le_of_ble_eq_true rfl) ⟨Nat.le_of_ble_eq_true rfl, Nat.le_of_ble_eq_true rfl⟩ d_V_harm_57 (fun u r H locs hpost hP hD hS => ?_)
          obtain ⟨v1, e7, e8, hHs, hRep⟩ := hpost
          obtain ⟨L9, f10⟩ := u
          have hnar : narrow .boolean (.int r) = .int r := by rcases hHs with ⟨-, z, -⟩ | ⟨-, -, -, -, z, -⟩ <;> rw [z] <;> rfl
          refine W.widen (k := 0) (n := 0) (Nat.le_of_ble_eq_true rfl) (Nat.le_of_ble_eq_true rfl) ?_
          exact W.zret hx hb hr (by first | rfl | exact hnar | exact bI_nar _) (fun t9 ht hW => ⟨⟨_, (L9, f10), rfl, ⟨v1, _, _, Or.inr ⟨by simpa using h1, Or.inr (Or.inr (Or.inl ⟨h8, hHs⟩))⟩, hRep⟩, by rw [ht]; exact hP, hD⟩, hS.F ht⟩) hS.2.2 d_V_harm_60
        · by_cases h11 : wh = 3
          · refine lv_tableIn (tgt := 61) hx hb d_V_harm_10 (by rw [h11]; decide) (by rw [h11]; decide) (by rw [h11]; rfl) rfl ?_
            refine lv_aload_n hx hb d_V_harm_61 rfl (lv_at hl 0 rfl) ?_
            refine lv_iload_n hx hb d_V_harm_62 rfl (lv_at hl 2 rfl) ?_
            refine kV_V_harmLinkCount hx hb hml hown hU hK hP hD hS hA t ad v hRep a hl.1 ⟨Nat.le_of_ble_eq_true rfl, Nat.le_of_ble_eq_true rfl⟩ (Nat.le_of_ble_eq_true rfl) ⟨Nat.le_of_ble_eq_true rfl, Nat.le_of_ble_eq_true rfl⟩ d_V_harm_63 (fun u r H locs hpost hP hD hS => ?_)
            obtain ⟨v1, e7, e8, hHs, hRep⟩ := hpost
            obtain ⟨L12, f13⟩ := u
            have hnar : narrow .boolean (.int r) = .int r := by rcases hHs with ⟨-, z, -⟩ | ⟨-, -, -, -, z, -⟩ <;> rw [z] <;> rfl
            refine W.widen (k := 0) (n := 0) (Nat.le_of_ble_eq_true rfl) (Nat.le_of_ble_eq_true rfl) ?_
            exact W.zret hx hb hr (by first | rfl | exact hnar | exact bI_nar _) (fun t9 ht hW => ⟨⟨_, (L12, f13), rfl, ⟨v1, _, _, Or.inr ⟨by simpa using h1, Or.inr (Or.inr (Or.inr (Or.inl ⟨h11, hHs⟩)))⟩, hRep⟩, by rw [ht]; exact hP, hD⟩, hS.F ht⟩) hS.2.2 d_V_harm_66
          · refine lv_tableOut (tgt := 67) hx hb d_V_harm_10 (sw_out4 h2 h5 h8 h11) rfl ?_
            refine lv_iconst (v := 0) hx hb d_V_harm_67 (by decide) ?_
            refine W.widen (k := 0) (n := 0) (Nat.le_of_ble_eq_true rfl) (Nat.le_of_ble_eq_true rfl) ?_
            exact W.zret hx hb hr (by first | rfl | exact hnar | exact bI_nar _) (fun t9 ht hW => ⟨⟨_, (L, f), rfl, ⟨v, _, _, Or.inr ⟨by simpa using h1, Or.inr (Or.inr (Or.inr (Or.inr ⟨⟨h2, h5, h8, h11⟩, rfl, rfl⟩)))⟩, hRep.norm (ad := ad) (fun _ _ => rfl)⟩, by rw [ht]; exact hP, hD⟩, hS.F ht⟩) hS.2.2 d_V_harm_68
  · have h1 : vMo v = true := bI_t h1
    refine lv_iconst (v := 0) hx hb d_V_harm_7 (by decide) ?_
    refine W.widen (k := 0) (n := 0) (Nat.le_of_ble_eq_true rfl) (Nat.le_of_ble_eq_true rfl) ?_
    exact W.zret hx hb hr (by first | rfl | exact hnar | exact bI_nar _) (fun t9 ht hW => ⟨⟨_, (L, f), rfl, ⟨v, _, _, Or.inl ⟨h1, rfl, rfl⟩, hRep.norm (ad := ad) (fun _ _ => rfl)⟩, by rw [ht]; exact hP, hD⟩, hS.F ht⟩) hS.2.2 d_V_harm_8

set_option maxHeartbeats 4000000 in
set_option maxRecDepth 100000 in
theorem c_V_wrongValenceT (l : Launch) (D : va_G) (cI cZ cO : ClassId) (L : List Nat) (f : Nat → va_E) (sz : Nat) (t : Nat) (ad : Nat → Nat) (v : VS) (hRep : Rep cI cZ cO t L f ad v) (i : VI) (hi : i ∈ vIt v) (hk : iIsD i = true) : Met l y_V_wrongValence (wM y_V_wrongValence b_V_wrongValence 4 (some .int)) ({ frames := 4, cells := 0, slots := 0, locals := 87 }) (va_Pc [.ref (ad 0), .ref (iA i), .int (bI true)] (fun U => U.heap.size = sz ∧ va_P D cvC (va_pl L f) U.heap ∧ KS D cI cZ cO U ∧ va_D (fun _ => True) (va_pl L f))) (va_Qi (fun (r : Int32) (u : PU) => r = iWv v i ∧ Rep cI cZ cO t u.1 u.2 ad (vUpd v (iA i) (iSetE i (vEntriesIn v (iId i))))) (fun u t9 => va_P D cvC (va_pl u.1 u.2) t9.heap ∧ va_D (va_A (va_pl L f) sz) (va_pl u.1 u.2)) (va_A (va_pl L f) sz)) 0 0 (va_A (va_pl L f) sz) := by
  refine Met.ofW (cc := b_V_wrongValence) (maxL := 4) (ret := (some .int)) (by decide) rfl ?_
  intro p e s m args below meth c s₁ B hml hv
  obtain ⟨rfl, hsz, hP, hK, hD0⟩ := hv
  have hx := B.exec
  have hb := B.bytes
  have hr := B.returns
  have hU : ∀ w ∈ wU, w.before _ s = true := fun w h => atoms_spec (ws := wM y_V_wrongValence b_V_wrongValence 4 (some .int)) B.pre w (List.mem_cons_of_mem _ h)
  have hown : s.vm.findClass R_V = some m.cls := findClass_of_methodNamed B.named
  have hlocks := B.notSynchronized
  subst hsz
  have hD := hD0.self (sz := s.heap.size)
  generalize hAe : va_A (va_pl L f) s.heap.size = A at hD ⊢
  have hA : ∀ q : Nat, s.heap.size ≤ q → A q := fun q h => by rw [← hAe]; exact Or.inr h
  have hS : va_S A s.heap s.heap [] := va_S.rf
  have hl := lv_entry ([.ref (ad 0), .ref (iA i), .int (bI true)]) (n := 4) (Nat.le_of_ble_eq_true rfl)
  rw [lg_entry_eq]
  generalize (lg_sl ([.ref (ad 0), .ref (iA i), .int (bI true)]) ++ List.replicate (4 - (lg_sl ([.ref (ad 0), .ref (iA i), .int (bI true)])).length) Slot.unset).toArray = ls at hl ⊢
  have hl : lv_has ls 4 [(0, .ref (ad 0)), (1, .ref (iA i)), (2, .int (bI true))] := hl
  refine lv_aload_n hx hb d_V_wrongValence_0 rfl (lv_at hl 0 rfl) ?_
  refine lv_aload_n hx hb d_V_wrongValence_1 rfl (lv_at hl 1 rfl) ?_
  refine gV_D_id hx hb hU hown hK hP i (hRep.it hi) hk d_V_wrongValence_2 ?_
  refine kV_V_entriesIn hx hb hml hown hU hK hP t ad v hRep (iId i) hl.1 ⟨Nat.le_of_ble_eq_true rfl, Nat.le_of_ble_eq_true rfl⟩ (Nat.le_of_ble_eq_true rfl) d_V_wrongValence_5 ?_
  refine lv_istore_n (lv' := [(3, .int (vEntriesIn v (iId i))), (0, .ref (ad 0)), (1, .ref (iA i)), (2, .int (bI true))]) hx hb d_V_wrongValence_8 rfl hl (by decide) rfl (fun ls hl => ?_)
  refine lv_aload_n hx hb d_V_wrongValence_9 rfl (lv_at hl 2 rfl) ?_
  refine gV_D_entries hx hb hU hown hK hP i (hRep.it hi) hk d_V_wrongValence_10 ?_
  refine lv_iload_n hx hb d_V_wrongValence_13 rfl (lv_at hl 0 rfl) ?_
  refine lv_icmp_ne (tgt := 19) hx hb d_V_wrongValence_14 rfl (fun h1 => ?_) (fun h1 => ?_)
  · have h1 : ¬ (iEn i = vEntriesIn v (iId i)) := h1
    refine lv_iload_n hx hb d_V_wrongValence_19 rfl (lv_at hl 3 rfl) ?_
    refine lv_if_eq (tgt := 28) hx hb d_V_wrongValence_20 rfl (fun h => by have h : ¬ (true = true) := bI_f h; exact absurd rfl h) (fun _ => ?_)
    refine lv_aload_n hx hb d_V_wrongValence_23 rfl (lv_at hl 2 rfl) ?_
    refine lv_iload_n hx hb d_V_wrongValence_24 rfl (lv_at hl 0 rfl) ?_
    refine pV_D_entries hx hb hU hown hK hP hD hS hRep i hi hk (vEntriesIn v (iId i)) d_V_wrongValence_25 (fun f9 H locs hRep hf9 hP hD hS => ?_)
    refine lv_iconst (v := 1) hx hb d_V_wrongValence_28 (by decide) ?_
    refine W.widen (k := 0) (n := 0) (Nat.le_of_ble_eq_true rfl) (Nat.le_of_ble_eq_true rfl) ?_
    exact W.zret hx hb hr rfl (fun t9 ht hW => ⟨⟨_, (L, f9), rfl, ⟨by unfold iWv; rw [if_neg h1], hRep⟩, by rw [ht]; exact hP, hD⟩, hS.F ht⟩) hS.2.2 d_V_wrongValence_29
  · have h1 : iEn i = vEntriesIn v (iId i) := h1
    refine lv_iconst (v := 0) hx hb d_V_wrongValence_17 (by decide) ?_
    refine W.widen (k := 0) (n := 0) (Nat.le_of_ble_eq_true rfl) (Nat.le_of_ble_eq_true rfl) ?_
    exact W.zret hx hb hr rfl (fun t9 ht hW => ⟨⟨_, (L, f), rfl, ⟨by unfold iWv; rw [if_pos h1], by rw [← h1, iSetE_id hk, upd_id hRep.pr hi]; exact hRep⟩, by rw [ht]; exact hP, hD⟩, hS.F ht⟩) hS.2.2 d_V_wrongValence_18

theorem kV_V_wrongValenceT {p : Program} {l : Launch} {e : Env} {R : Room} {s : State} {m : MethodId} {args : Array Value} {below : List Frame} {meth : Method} {c : Code} {H : Heap} {locs : List Loc} {cells slots : Nat} {Q : State → Prop} {cc : ByteArray} {pc nL : Nat} {ls : Array Slot} {rest : List Value} {D : va_G} {cI cZ cO : ClassId} {L : List Nat} {f : Nat → va_E} {A : Nat → Prop} {H0 : Heap} (hx : p.tables.exec = Jvm.exec) (hb : c.code = cc) (hml : c.maxLocals = nL) (hown : s.vm.findClass R_V = some m.cls) (hU : ∀ w ∈ wU, w.before args s = true) (hK : KS D cI cZ cO s) (hP : va_P D cvC (va_pl L f) H) (hD : va_D A (va_pl L f)) (hS : va_S A H0 H locs) (hA : ∀ q, H0.size ≤ q → A q) (t : Nat) (ad : Nat → Nat) (v : VS) (hRep : Rep cI cZ cO t L f ad v) (i : VI) (hi : i ∈ vIt v) (hk : iIsD i = true) (hls : ls.size = nL) (hR : 4 + 1 ≤ R.frames ∧ 8 + (4 + 11) + 87 ≤ R.locals) (hst : (rest.map fun v => v.category).sum ≤ 8) (hcs : cells + 0 ≤ R.cells ∧ slots + 0 ≤ R.slots) (hdg : decode cc pc = .ok (.invokevirtual 267, 3)) (kk : ∀ (u : PU) (r : Int32) (H1 : Heap) (locs1 : List Loc), (r = iWv v i ∧ Rep cI cZ cO t u.1 u.2 ad (vUpd v (iA i) (iSetE i (vEntriesIn v (iId i))))) → va_P D cvC (va_pl u.1 u.2) H1 → va_D A (va_pl u.1 u.2) → va_S A H0 H1 locs1 → W p l e R s m args below meth c H1 locs1 (cells + 0) (slots + 0) Q (F0 m (pc + 3) ls (.int r :: rest))) : W p l e R s m args below meth c H locs cells slots Q (F0 m pc ls (.int (bI true) :: .ref (iA i) :: .ref (ad 0) :: rest)) := by
  have hF := pA hD hS hA
  refine va_calli (va_runV (As := [.ref (iA i), .int (bI true)]) (rest := rest) ⟨hx, hb, hml, hown, hU⟩ (c_V_wrongValenceT l D cI cZ cO L f H.size t ad v hRep i hi hk) (cwV 2 hU (gV w_568 w_570 s_V_wrongValence w_1 w_571) rfl rfl rfl (by decide +kernel) hR) ⟨fun a9 U g9 mk9 q => by obtain ⟨q0, q1, qP, qK, qD⟩ := q; exact ⟨q0, q1, qP, qK.same rfl, qD⟩, p_recv hK hP hRep.obj.1 hRep.obj.2 (r := (R_V, T_V, 6)) rfl, fun U hU9 hW => ⟨rfl, by rw [hU9], by rw [hU9]; exact hP, hK.warm hW, hD.weaken (fun _ _ _ _ => trivial)⟩⟩ rfl rfl hls rfl (lv_room hst) hdg hcs) hS (fun q _ h => hF q h) hF (fun r u t9 H1 locs1 ht hvm hw hB hz1 hk1 hS1 => ?_)
  obtain ⟨hP1, hD1⟩ := hB
  rw [ht] at hP1
  exact kk u r H1 locs1 hw hP1 (hD1.weaken (fun _ q _ h => hF q.1 h)) hS1

set_option maxHeartbeats 4000000 in
set_option maxRecDepth 100000 in
theorem c_V_wrongValenceTR (l : Launch) (D : va_G) (cI cZ cO : ClassId) (L : List Nat) (f : Nat → va_E) (sz : Nat) (t : Nat) (ad : Nat → Nat) (v : VS) (hRep : Rep cI cZ cO t L f ad v) : Met l y_V_wrongValence (wM y_V_wrongValence b_V_wrongValence 4 (some .int)) ({ frames := 4, cells := 0, slots := 0, locals := 87 }) (va_Pc [.ref (ad 0), .ref (ad 1), .int (bI true)] (fun U => U.heap.size = sz ∧ va_P D cvC (va_pl L f) U.heap ∧ KS D cI cZ cO U ∧ va_D (fun _ => True) (va_pl L f))) (va_Qi (fun (r : Int32) (u : PU) => r = vWr v ∧ Rep cI cZ cO t u.1 u.2 ad (sRe' v (vEntriesIn v 2))) (fun u t9 => va_P D cvC (va_pl u.1 u.2) t9.heap ∧ va_D (va_A (va_pl L f) sz) (va_pl u.1 u.2)) (va_A (va_pl L f) sz)) 0 0 (va_A (va_pl L f) sz) := by
  refine Met.ofW (cc := b_V_wrongValence) (maxL := 4) (ret := (some .int)) (by decide) rfl ?_
  intro p e s m args below meth c s₁ B hml hv
  obtain ⟨rfl, hsz, hP, hK, hD0⟩ := hv
  have hx := B.exec
  have hb := B.bytes
  have hr := B.returns
  have hU : ∀ w ∈ wU, w.before _ s = true := fun w h => atoms_spec (ws := wM y_V_wrongValence b_V_wrongValence 4 (some .int)) B.pre w (List.mem_cons_of_mem _ h)
  have hown : s.vm.findClass R_V = some m.cls := findClass_of_methodNamed B.named
  have hlocks := B.notSynchronized
  subst hsz
  have hD := hD0.self (sz := s.heap.size)
  generalize hAe : va_A (va_pl L f) s.heap.size = A at hD ⊢
  have hA : ∀ q : Nat, s.heap.size ≤ q → A q := fun q h => by rw [← hAe]; exact Or.inr h
  have hS : va_S A s.heap s.heap [] := va_S.rf
  have hl := lv_entry ([.ref (ad 0), .ref (ad 1), .int (bI true)]) (n := 4) (Nat.le_of_ble_eq_true rfl)
  rw [lg_entry_eq]
  generalize (lg_sl ([.ref (ad 0), .ref (ad 1), .int (bI true)]) ++ List.replicate (4 - (lg_sl ([.ref (ad 0), .ref (ad 1), .int (bI true)])).length) Slot.unset).toArray = ls at hl ⊢
  have hl : lv_has ls 4 [(0, .ref (ad 0)), (1, .ref (ad 1)), (2, .int (bI true))] := hl
  refine lv_aload_n hx hb d_V_wrongValence_0 rfl (lv_at hl 0 rfl) ?_
  refine lv_aload_n hx hb d_V_wrongValence_1 rfl (lv_at hl 1 rfl) ?_
  refine gV_R_id hx hb hU hown hK hP hRep d_V_wrongValence_2 ?_
  refine kV_V_entriesIn hx hb hml hown hU hK hP t ad v hRep 2 hl.1 ⟨Nat.le_of_ble_eq_true rfl, Nat.le_of_ble_eq_true rfl⟩ (Nat.le_of_ble_eq_true rfl) d_V_wrongValence_5 ?_
  refine lv_istore_n (lv' := [(3, .int (vEntriesIn v 2)), (0, .ref (ad 0)), (1, .ref (ad 1)), (2, .int (bI true))]) hx hb d_V_wrongValence_8 rfl hl (by decide) rfl (fun ls hl => ?_)
  refine lv_aload_n hx hb d_V_wrongValence_9 rfl (lv_at hl 2 rfl) ?_
  refine gV_R_entries hx hb hU hown hK hP hRep d_V_wrongValence_10 ?_
  refine lv_iload_n hx hb d_V_wrongValence_13 rfl (lv_at hl 0 rfl) ?_
  refine lv_icmp_ne (tgt := 19) hx hb d_V_wrongValence_14 rfl (fun h1 => ?_) (fun h1 => ?_)
  · have h1 : ¬ (vRe v = vEntriesIn v 2) := h1
    refine lv_iload_n hx hb d_V_wrongValence_19 rfl (lv_at hl 3 rfl) ?_
    refine lv_if_eq (tgt := 28) hx hb d_V_wrongValence_20 rfl (fun h => by have h : ¬ (true = true) := bI_f h; exact absurd rfl h) (fun _ => ?_)
    refine lv_aload_n hx hb d_V_wrongValence_23 rfl (lv_at hl 2 rfl) ?_
    refine lv_iload_n hx hb d_V_wrongValence_24 rfl (lv_at hl 0 rfl) ?_
    refine pV_R_entries hx hb hU hown hK hP hD hS hRep (vEntriesIn v 2) d_V_wrongValence_25 (fun f9 H locs hRep hf9 hP hD hS => ?_)
    refine lv_iconst (v := 1) hx hb d_V_wrongValence_28 (by decide) ?_
    refine W.widen (k := 0) (n := 0) (Nat.le_of_ble_eq_true rfl) (Nat.le_of_ble_eq_true rfl) ?_
    exact W.zret hx hb hr rfl (fun t9 ht hW => ⟨⟨_, (L, f9), rfl, ⟨by unfold vWr; rw [if_neg h1], hRep⟩, by rw [ht]; exact hP, hD⟩, hS.F ht⟩) hS.2.2 d_V_wrongValence_29
  · have h1 : vRe v = vEntriesIn v 2 := h1
    refine lv_iconst (v := 0) hx hb d_V_wrongValence_17 (by decide) ?_
    refine W.widen (k := 0) (n := 0) (Nat.le_of_ble_eq_true rfl) (Nat.le_of_ble_eq_true rfl) ?_
    exact W.zret hx hb hr rfl (fun t9 ht hW => ⟨⟨_, (L, f), rfl, ⟨by unfold vWr; rw [if_pos h1], by rw [← h1]; exact hRep⟩, by rw [ht]; exact hP, hD⟩, hS.F ht⟩) hS.2.2 d_V_wrongValence_18

theorem kV_V_wrongValenceTR {p : Program} {l : Launch} {e : Env} {R : Room} {s : State} {m : MethodId} {args : Array Value} {below : List Frame} {meth : Method} {c : Code} {H : Heap} {locs : List Loc} {cells slots : Nat} {Q : State → Prop} {cc : ByteArray} {pc nL : Nat} {ls : Array Slot} {rest : List Value} {D : va_G} {cI cZ cO : ClassId} {L : List Nat} {f : Nat → va_E} {A : Nat → Prop} {H0 : Heap} (hx : p.tables.exec = Jvm.exec) (hb : c.code = cc) (hml : c.maxLocals = nL) (hown : s.vm.findClass R_V = some m.cls) (hU : ∀ w ∈ wU, w.before args s = true) (hK : KS D cI cZ cO s) (hP : va_P D cvC (va_pl L f) H) (hD : va_D A (va_pl L f)) (hS : va_S A H0 H locs) (hA : ∀ q, H0.size ≤ q → A q) (t : Nat) (ad : Nat → Nat) (v : VS) (hRep : Rep cI cZ cO t L f ad v) (hls : ls.size = nL) (hR : 4 + 1 ≤ R.frames ∧ 8 + (4 + 11) + 87 ≤ R.locals) (hst : (rest.map fun v => v.category).sum ≤ 8) (hcs : cells + 0 ≤ R.cells ∧ slots + 0 ≤ R.slots) (hdg : decode cc pc = .ok (.invokevirtual 267, 3)) (kk : ∀ (u : PU) (r : Int32) (H1 : Heap) (locs1 : List Loc), (r = vWr v ∧ Rep cI cZ cO t u.1 u.2 ad (sRe' v (vEntriesIn v 2))) → va_P D cvC (va_pl u.1 u.2) H1 → va_D A (va_pl u.1 u.2) → va_S A H0 H1 locs1 → W p l e R s m args below meth c H1 locs1 (cells + 0) (slots + 0) Q (F0 m (pc + 3) ls (.int r :: rest))) : W p l e R s m args below meth c H locs cells slots Q (F0 m pc ls (.int (bI true) :: .ref (ad 1) :: .ref (ad 0) :: rest)) := by
  have hF := pA hD hS hA
  refine va_calli (va_runV (As := [.ref (ad 1), .int (bI true)]) (rest := rest) ⟨hx, hb, hml, hown, hU⟩ (c_V_wrongValenceTR l D cI cZ cO L f H.size t ad v hRep) (cwV 2 hU (gV w_568 w_570 s_V_wrongValence w_1 w_571) rfl rfl rfl (by decide +kernel) hR) ⟨fun a9 U g9 mk9 q => by obtain ⟨q0, q1, qP, qK, qD⟩ := q; exact ⟨q0, q1, qP, qK.same rfl, qD⟩, p_recv hK hP hRep.obj.1 hRep.obj.2 (r := (R_V, T_V, 6)) rfl, fun U hU9 hW => ⟨rfl, by rw [hU9], by rw [hU9]; exact hP, hK.warm hW, hD.weaken (fun _ _ _ _ => trivial)⟩⟩ rfl rfl hls rfl (lv_room hst) hdg hcs) hS (fun q _ h => hF q h) hF (fun r u t9 H1 locs1 ht hvm hw hB hz1 hk1 hS1 => ?_)
  obtain ⟨hP1, hD1⟩ := hB
  rw [ht] at hP1
  exact kk u r H1 locs1 hw hP1 (hD1.weaken (fun _ q _ h => hF q.1 h)) hS1

set_option maxHeartbeats 4000000 in
set_option maxRecDepth 100000 in
theorem c_V_wrongLinkCountT (l : Launch) (D : va_G) (cI cZ cO : ClassId) (L : List Nat) (f : Nat → va_E) (sz : Nat) (t : Nat) (ad : Nat → Nat) (v : VS) (hRep : Rep cI cZ cO t L f ad v) (i : VI) (hi : i ∈ vIt v) (hk : iIsS i = true) : Met l y_V_wrongLinkCount (wM y_V_wrongLinkCount b_V_wrongLinkCount 4 (some .int)) ({ frames := 4, cells := 0, slots := 0, locals := 89 }) (va_Pc [.ref (ad 0), .ref (iA i), .int (bI true)] (fun U => U.heap.size = sz ∧ va_P D cvC (va_pl L f) U.heap ∧ KS D cI cZ cO U ∧ va_D (fun _ => True) (va_pl L f))) (va_Qi (fun (r : Int32) (u : PU) => r = iWl v i ∧ Rep cI cZ cO t u.1 u.2 ad (vUpd v (iA i) (iSetL i (vLinksFor v (iA i))))) (fun u t9 => va_P D cvC (va_pl u.1 u.2) t9.heap ∧ va_D (va_A (va_pl L f) sz) (va_pl u.1 u.2)) (va_A (va_pl L f) sz)) 0 0 (va_A (va_pl L f) sz) := by
  refine Met.ofW (cc := b_V_wrongLinkCount) (maxL := 4) (ret := (some .int)) (by decide) rfl ?_
  intro p e s m args below meth c s₁ B hml hv
  obtain ⟨rfl, hsz, hP, hK, hD0⟩ := hv
  have hx := B.exec
  have hb := B.bytes
  have hr := B.returns
  have hU : ∀ w ∈ wU, w.before _ s = true := fun w h => atoms_spec (ws := wM y_V_wrongLinkCount b_V_wrongLinkCount 4 (some .int)) B.pre w (List.mem_cons_of_mem _ h)
  have hown : s.vm.findClass R_V = some m.cls := findClass_of_methodNamed B.named
  have hlocks := B.notSynchronized
  subst hsz
  have hD := hD0.self (sz := s.heap.size)
  generalize hAe : va_A (va_pl L f) s.heap.size = A at hD ⊢
  have hA : ∀ q : Nat, s.heap.size ≤ q → A q := fun q h => by rw [← hAe]; exact Or.inr h
  have hS : va_S A s.heap s.heap [] := va_S.rf
  have hl := lv_entry ([.ref (ad 0), .ref (iA i), .int (bI true)]) (n := 4) (Nat.le_of_ble_eq_true rfl)
  rw [lg_entry_eq]
  generalize (lg_sl ([.ref (ad 0), .ref (iA i), .int (bI true)]) ++ List.replicate (4 - (lg_sl ([.ref (ad 0), .ref (iA i), .int (bI true)])).length) Slot.unset).toArray = ls at hl ⊢
  have hl : lv_has ls 4 [(0, .ref (ad 0)), (1, .ref (iA i)), (2, .int (bI true))] := hl
  refine lv_aload_n hx hb d_V_wrongLinkCount_0 rfl (lv_at hl 0 rfl) ?_
  refine lv_aload_n hx hb d_V_wrongLinkCount_1 rfl (lv_at hl 1 rfl) ?_
  refine kV_V_linksFor hx hb hml hown hU hK hP t ad v hRep (iA i) hl.1 ⟨Nat.le_of_ble_eq_true rfl, Nat.le_of_ble_eq_true rfl⟩ (Nat.le_of_ble_eq_true rfl) d_V_wrongLinkCount_2 ?_
  refine lv_istore_n (lv' := [(3, .int (vLinksFor v (iA i))), (0, .ref (ad 0)), (1, .ref (iA i)), (2, .int (bI true))]) hx hb d_V_wrongLinkCount_5 rfl hl (by decide) rfl (fun ls hl => ?_)
  refine lv_aload_n hx hb d_V_wrongLinkCount_6 rfl (lv_at hl 2 rfl) ?_
  refine gV_S_links hx hb hU hown hK hP i (hRep.it hi) hk d_V_wrongLinkCount_7 ?_
  refine lv_iload_n hx hb d_V_wrongLinkCount_10 rfl (lv_at hl 0 rfl) ?_
  refine lv_icmp_ne (tgt := 16) hx hb d_V_wrongLinkCount_11 rfl (fun h1 => ?_) (fun h1 => ?_)
  · have h1 : ¬ (iLk i = vLinksFor v (iA i)) := h1
    refine lv_iload_n hx hb d_V_wrongLinkCount_16 rfl (lv_at hl 3 rfl) ?_
    refine lv_if_eq (tgt := 25) hx hb d_V_wrongLinkCount_17 rfl (fun h => by have h : ¬ (true = true) := bI_f h; exact absurd rfl h) (fun _ => ?_)
    refine lv_aload_n hx hb d_V_wrongLinkCount_20 rfl (lv_at hl 2 rfl) ?_
    refine lv_iload_n hx hb d_V_wrongLinkCount_21 rfl (lv_at hl 0 rfl) ?_
    refine pV_S_links hx hb hU hown hK hP hD hS hRep i hi hk (vLinksFor v (iA i)) d_V_wrongLinkCount_22 (fun f9 H locs hRep hf9 hP hD hS => ?_)
    refine lv_iconst (v := 1) hx hb d_V_wrongLinkCount_25 (by decide) ?_
    refine W.widen (k := 0) (n := 0) (Nat.le_of_ble_eq_true rfl) (Nat.le_of_ble_eq_true rfl) ?_
    exact W.zret hx hb hr rfl (fun t9 ht hW => ⟨⟨_, (L, f9), rfl, ⟨by unfold iWl; rw [if_neg h1], hRep⟩, by rw [ht]; exact hP, hD⟩, hS.F ht⟩) hS.2.2 d_V_wrongLinkCount_26
  · have h1 : iLk i = vLinksFor v (iA i) := h1
    refine lv_iconst (v := 0) hx hb d_V_wrongLinkCount_14 (by decide) ?_
    refine W.widen (k := 0) (n := 0) (Nat.le_of_ble_eq_true rfl) (Nat.le_of_ble_eq_true rfl) ?_
    exact W.zret hx hb hr rfl (fun t9 ht hW => ⟨⟨_, (L, f), rfl, ⟨by unfold iWl; rw [if_pos h1], by rw [← h1, iSetL_id hk, upd_id hRep.pr hi]; exact hRep⟩, by rw [ht]; exact hP, hD⟩, hS.F ht⟩) hS.2.2 d_V_wrongLinkCount_15

theorem kV_V_wrongLinkCountT {p : Program} {l : Launch} {e : Env} {R : Room} {s : State} {m : MethodId} {args : Array Value} {below : List Frame} {meth : Method} {c : Code} {H : Heap} {locs : List Loc} {cells slots : Nat} {Q : State → Prop} {cc : ByteArray} {pc nL : Nat} {ls : Array Slot} {rest : List Value} {D : va_G} {cI cZ cO : ClassId} {L : List Nat} {f : Nat → va_E} {A : Nat → Prop} {H0 : Heap} (hx : p.tables.exec = Jvm.exec) (hb : c.code = cc) (hml : c.maxLocals = nL) (hown : s.vm.findClass R_V = some m.cls) (hU : ∀ w ∈ wU, w.before args s = true) (hK : KS D cI cZ cO s) (hP : va_P D cvC (va_pl L f) H) (hD : va_D A (va_pl L f)) (hS : va_S A H0 H locs) (hA : ∀ q, H0.size ≤ q → A q) (t : Nat) (ad : Nat → Nat) (v : VS) (hRep : Rep cI cZ cO t L f ad v) (i : VI) (hi : i ∈ vIt v) (hk : iIsS i = true) (hls : ls.size = nL) (hR : 4 + 1 ≤ R.frames ∧ 8 + (4 + 11) + 89 ≤ R.locals) (hst : (rest.map fun v => v.category).sum ≤ 8) (hcs : cells + 0 ≤ R.cells ∧ slots + 0 ≤ R.slots) (hdg : decode cc pc = .ok (.invokevirtual 284, 3)) (kk : ∀ (u : PU) (r : Int32) (H1 : Heap) (locs1 : List Loc), (r = iWl v i ∧ Rep cI cZ cO t u.1 u.2 ad (vUpd v (iA i) (iSetL i (vLinksFor v (iA i))))) → va_P D cvC (va_pl u.1 u.2) H1 → va_D A (va_pl u.1 u.2) → va_S A H0 H1 locs1 → W p l e R s m args below meth c H1 locs1 (cells + 0) (slots + 0) Q (F0 m (pc + 3) ls (.int r :: rest))) : W p l e R s m args below meth c H locs cells slots Q (F0 m pc ls (.int (bI true) :: .ref (iA i) :: .ref (ad 0) :: rest)) := by
  have hF := pA hD hS hA
  refine va_calli (va_runV (As := [.ref (iA i), .int (bI true)]) (rest := rest) ⟨hx, hb, hml, hown, hU⟩ (c_V_wrongLinkCountT l D cI cZ cO L f H.size t ad v hRep i hi hk) (cwV 2 hU (gV w_597 w_599 s_V_wrongLinkCount w_1 w_600) rfl rfl rfl (by decide +kernel) hR) ⟨fun a9 U g9 mk9 q => by obtain ⟨q0, q1, qP, qK, qD⟩ := q; exact ⟨q0, q1, qP, qK.same rfl, qD⟩, p_recv hK hP hRep.obj.1 hRep.obj.2 (r := (R_V, T_V, 6)) rfl, fun U hU9 hW => ⟨rfl, by rw [hU9], by rw [hU9]; exact hP, hK.warm hW, hD.weaken (fun _ _ _ _ => trivial)⟩⟩ rfl rfl hls rfl (lv_room hst) hdg hcs) hS (fun q _ h => hF q h) hF (fun r u t9 H1 locs1 ht hvm hw hB hz1 hk1 hS1 => ?_)
  obtain ⟨hP1, hD1⟩ := hB
  rw [ht] at hP1
  exact kk u r H1 locs1 hw hP1 (hD1.weaken (fun _ q _ h => hF q.1 h)) hS1

