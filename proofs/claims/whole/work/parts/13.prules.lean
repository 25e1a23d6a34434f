def kC : List (String × String) := [("CatalogVolume$Folder", "CatalogVolume$Item"), ("CatalogVolume$Link", "CatalogVolume$Item"), ("CatalogVolume$StoredFile", "CatalogVolume$Item"), ("CatalogVolume$Folder", "CatalogVolume$Folder"), ("CatalogVolume$Line", "CatalogVolume$Line"), ("CatalogVolume$Link", "CatalogVolume$Link"), ("CatalogVolume$StoredFile", "CatalogVolume$StoredFile"), ("CatalogVolume", "java/lang/Object"), ("CatalogVolume$Folder", "java/lang/Object"), ("CatalogVolume$Catalog", "java/lang/Object"), ("CatalogVolume$BlockMap", "java/lang/Object"), ("CatalogVolumeModel", "java/lang/Object"), ("CatalogVolume$StoredFile", "java/lang/Object"), ("CatalogVolume$Line", "java/lang/Object"), ("CatalogVolume$Link", "java/lang/Object")]
def kN : List (String × String) := [("CatalogVolume", "CatalogVolume$Folder"), ("java/util/ArrayList", "CatalogVolume$Folder"), ("CatalogVolume$Catalog", "CatalogVolume$Folder"), ("CatalogVolume$BlockMap", "CatalogVolume$Folder"), ("CatalogVolumeModel", "CatalogVolume$Folder"), ("CatalogVolume$StoredFile", "CatalogVolume$Folder"), ("CatalogVolume$Line", "CatalogVolume$Folder"), ("CatalogVolume$Link", "CatalogVolume$Folder"), ("CatalogVolume", "CatalogVolume$Link"), ("CatalogVolume$Folder", "CatalogVolume$Link"), ("java/util/ArrayList", "CatalogVolume$Link"), ("CatalogVolume$Catalog", "CatalogVolume$Link"), ("CatalogVolume$BlockMap", "CatalogVolume$Link"), ("CatalogVolumeModel", "CatalogVolume$Link"), ("CatalogVolume$StoredFile", "CatalogVolume$Link"), ("CatalogVolume$Line", "CatalogVolume$Link"), ("CatalogVolume", "CatalogVolume$StoredFile"), ("CatalogVolume$Folder", "CatalogVolume$StoredFile"), ("java/util/ArrayList", "CatalogVolume$StoredFile"), ("CatalogVolume$Catalog", "CatalogVolume$StoredFile"), ("CatalogVolume$BlockMap", "CatalogVolume$StoredFile"), ("CatalogVolumeModel", "CatalogVolume$StoredFile"), ("CatalogVolume$Line", "CatalogVolume$StoredFile"), ("CatalogVolume$Link", "CatalogVolume$StoredFile")]
def kDl : List MethodName := [y_I_isHidden, ⟨"CatalogVolume$Item", "threadKind", "()I"⟩, ⟨"CatalogVolume$Item", "ownKind", "()I"⟩, ⟨"CatalogVolume$Item", "ownMore", "()I"⟩, ⟨"java/lang/Object", "getClass", "()Ljava/lang/Class;"⟩]
def kNs : List (String × Nat × MethodName × String) := [("CatalogVolume", 27, y_K_init, "CatalogVolume"), ("CatalogVolume", 34, y_B_init, "CatalogVolume")]
/-- what the tables say, beside the kept words: classes and arrays, what can be cast, nest mates, the class object of Object[] -/
def KS (D : va_G) (cI cZ cO : ClassId) (U : State) : Prop := va_K D cvC (tyS cI cZ cO) U ∧ (∀ q ∈ kC, va_Nw (.castable q.1 q.2) U) ∧ (∀ q ∈ kN, va_Nc q.1 q.2 U) ∧ (∀ y ∈ kDl, va_Nw (.declares y) U) ∧ (∀ q ∈ kNs, va_Nw (.methodLinkNest q.1 q.2.1 q.2.2.1 q.2.2.2) U) ∧ va_AO "java/lang/Object" U ∧ va_Dc U ∧ ∃ mi : Nat, va_Mi "[Ljava/lang/Object;" mi U
theorem KS.warm {D : va_G} {cI cZ cO : ClassId} {s U : State} (hW : s.WarmedH U.vm) (h : KS D cI cZ cO s) : KS D cI cZ cO U := by
  obtain ⟨h1, h2, h3, h4, h5, h6, h7, mi, h8⟩ := h
  exact ⟨va_K.moved hW.alike h1, fun q hq => va_Nw.warmC hW (h2 q hq), fun q hq => va_Nc.moved hW.alike (h3 q hq), fun y hy => va_Nw.warmD hW (h4 y hy), fun q hq => va_Nw.warmM hW (h5 q hq), va_AO.moved hW.alike h6, va_Dc.moved hW.alike h7, mi, va_Mi.moved hW.alike h8⟩
theorem KS.same {D : va_G} {cI cZ cO : ClassId} {u U : State} (hv : u.vm = U.vm) (h : KS D cI cZ cO u) : KS D cI cZ cO U := by
  obtain ⟨h1, h2, h3, h4, h5, h6, h7, mi, h8⟩ := h
  have ha : u.vm.Alike U.vm := by rw [hv]; exact Vm.Alike.refl U.vm
  exact ⟨va_K.moved ha h1, fun q hq => va_Nw.same rfl hv (h2 q hq), fun q hq => va_Nc.moved ha (h3 q hq), fun y hy => va_Nw.same rfl hv (h4 y hy), fun q hq => va_Nw.same rfl hv (h5 q hq), va_AO.moved ha h6, va_Dc.moved ha h7, mi, va_Mi.moved ha h8⟩
theorem pl_at {L : List Nat} {f : Nat → va_E} {a : Nat} (h : a ∈ L) : ∃ k : Nat, (va_pl L f)[k]? = some (a, f a) := by
  have h1 := va_pl_get (X := []) (f := f) h
  simpa using h1
theorem pl_set {A : Nat → Prop} {L : List Nat} {f : Nat → va_E} {a k : Nat} {e : va_E} (hD : va_D A (va_pl L f)) (h : a ∈ L) (hk : (va_pl L f)[k]? = some (a, f a)) : (va_pl L f).set k (a, e) = va_pl L (va_up f a e) := by
  have h1 := va_pl_set (X := []) (A := A) (f := f) (a := a) (k := k) (e := e) (by simpa using hD) h (by simpa using hk)
  simpa using h1
theorem pl_new {A : Nat → Prop} {L : List Nat} {f : Nat → va_E} {q : Nat} {e : va_E} (hD : va_D A (va_pl L f ++ [(q, e)])) : q ∉ L := va_pl_fresh2 (X := []) (by simpa using hD)
/-- an object of the pool, as a thing that may go into an Object[] -/
def isOb (e : va_E) : Prop := ∃ ci fs, e = .inr (ci, fs) ∧ (ci = 3 ∨ ci = 4 ∨ ci = 5 ∨ ci = 6)
section PR
variable {p : Program} {l : Launch} {e : Env} {R : Room} {s : State} {m : MethodId} {args : Array Value} {below : List Frame} {meth : Method} {c : Code} {H : Heap} {locs : List Loc} {cells slots : Nat} {Q : State → Prop}
variable {cc : ByteArray} {pc : Nat} {ls : Array Slot} {rest : List Value} {D : va_G} {A : Nat → Prop} {cI cZ cO : ClassId} {L : List Nat} {f : Nat → va_E} {H0 : Heap} {a : Nat}
theorem p_recv (hK : KS D cI cZ cO s) (hP : va_P D cvC (va_pl L f) H) (ha : a ∈ L) {ci : Nat} {fs : List Value} (hf : f a = .inr (ci, fs)) {r : vw_C} (hc : cvC[ci]? = some r) : ∃ cell : Cell, H[a]? = some cell ∧ cell.vm.isStatics = false ∧ s.vm.findClass r.1 = some cell.cls := by
  obtain ⟨q, hq⟩ := pl_at (f := f) ha
  rw [hf] at hq
  exact va_recv hK.1 hP hc hq
theorem p_get (hx : p.tables.exec = Jvm.exec) (hb : c.code = cc) (hU : ∀ w ∈ wU, w.before args s = true) {own ref C : String} {T : u_T} {N ci index : Nat} (hin : ∀ w ∈ u_ws C T N, w ∈ wU) (hown : s.vm.findClass own = some m.cls) (hK : KS D cI cZ cO s) (hP : va_P D cvC (va_pl L f) H) (ha : a ∈ L) {fs : List Value} (hf : f a = .inr (ci, fs)) (hc : cvC[ci]? = some (C, T, N)) (k : Nat) (hk : k < N) (hlink : Cond.fieldLink own index ref (T k).2.1 (T k).2.2.1 ∈ wU) (hsame : ∀ x, s.fieldFound? (T k).1 (T k).2.1 (T k).2.2.1 = some x → s.fieldFound? ref (T k).2.1 (T k).2.2.1 = some x) {v : Value} (hv : fs[k]? = some v) (hdg : decode cc pc = .ok (.getfield index, 3)) (kk : W p l e R s m args below meth c H locs cells slots Q (F0 m (pc + 3) ls (v :: rest))) : W p l e R s m args below meth c H locs cells slots Q (F0 m pc ls (.ref a :: rest)) := by
  obtain ⟨q, hq⟩ := pl_at (f := f) ha
  rw [hf] at hq
  exact va_get (D := D) hx hb hU hin hown hK.1 hP q hq hc k hk (hU _ hlink) hsame hv hdg kk
theorem p_put (hx : p.tables.exec = Jvm.exec) (hb : c.code = cc) (hU : ∀ w ∈ wU, w.before args s = true) {own ref C : String} {T : u_T} {N ci index : Nat} (hin : ∀ w ∈ u_ws C T N, w ∈ wU) (ty0 : Nat → FieldType) (hty : ∀ k, k < N → parseFieldDescriptor (T k).2.2.1 = some (ty0 k)) (hnm : ∀ a, a < N → ∀ b, b < N → a ≠ b → (T a).2.1 ≠ (T b).2.1) (hown : s.vm.findClass own = some m.cls) (hK : KS D cI cZ cO s) (hP : va_P D cvC (va_pl L f) H) (hD : va_D A (va_pl L f)) (hS : va_S A H0 H locs) (ha : a ∈ L) {fs : List Value} (hf : f a = .inr (ci, fs)) (hc : cvC[ci]? = some (C, T, N)) (k : Nat) (hk : k < N) (hlink : Cond.fieldLink own index ref (T k).2.1 (T k).2.2.1 ∈ wU) (hsame : ∀ x, s.fieldFound? (T k).1 (T k).2.1 (T k).2.2.1 = some x → s.fieldFound? ref (T k).2.1 (T k).2.2.1 = some x) (hfin : (T k).2.2.2 = false) {ty : FieldType} {v : Value} (hd : parseFieldDescriptor (T k).2.2.1 = some ty) (hn : narrow ty v = v) (hfit : fits ty v = true) (hl : k < fs.length) (hdg : decode cc pc = .ok (.putfield index, 3)) (kk : ∀ (H1 : Heap) (locs1 : List Loc), va_P D cvC (va_pl L (va_up f a (.inr (ci, fs.set k v)))) H1 → va_D A (va_pl L (va_up f a (.inr (ci, fs.set k v)))) → va_S A H0 H1 locs1 → W p l e R s m args below meth c H1 locs1 cells slots Q (F0 m (pc + 3) ls rest)) : W p l e R s m args below meth c H locs cells slots Q (F0 m pc ls (v :: .ref a :: rest)) := by
  obtain ⟨q, hq0⟩ := pl_at (f := f) ha
  have hq := hq0
  rw [hf] at hq
  exact va_put (D := D) hx hb hU hin ty0 hty hnm hown hK.1 hP hD hS q hq hc k hk (hU _ hlink) hsame hfin hd hn hfit hl hdg (fun H1 locs1 hP hD1 hS => kk H1 locs1 (by rw [pl_set hD ha hq0] at hP; exact hP) (by rw [pl_set hD ha hq0] at hD1; exact hD1) hS)
theorem p_putF (hx : p.tables.exec = Jvm.exec) (hb : c.code = cc) (hU : ∀ w ∈ wU, w.before args s = true) {own ref C : String} {T : u_T} {N ci index : Nat} (hin : ∀ w ∈ u_ws C T N, w ∈ wU) (ty0 : Nat → FieldType) (hty : ∀ k, k < N → parseFieldDescriptor (T k).2.2.1 = some (ty0 k)) (hnm : ∀ a, a < N → ∀ b, b < N → a ≠ b → (T a).2.1 ≠ (T b).2.1) (hown : s.vm.findClass own = some m.cls) (hK : KS D cI cZ cO s) (hP : va_P D cvC (va_pl L f) H) (hD : va_D A (va_pl L f)) (hS : va_S A H0 H locs) (ha : a ∈ L) {fs : List Value} (hf : f a = .inr (ci, fs)) (hc : cvC[ci]? = some (C, T, N)) (k : Nat) (hk : k < N) (hlink : Cond.fieldLink own index ref (T k).2.1 (T k).2.2.1 ∈ wU) (hsame : ∀ x, s.fieldFound? (T k).1 (T k).2.1 (T k).2.2.1 = some x → s.fieldFound? ref (T k).2.1 (T k).2.2.1 = some x) (hfin : (T k).2.2.2 = true) (hin2 : meth.name = "<init>") (hdecl : (T k).1 = own) {ty : FieldType} {v : Value} (hd : parseFieldDescriptor (T k).2.2.1 = some ty) (hn : narrow ty v = v) (hfit : fits ty v = true) (hl : k < fs.length) (hdg : decode cc pc = .ok (.putfield index, 3)) (kk : ∀ (H1 : Heap) (locs1 : List Loc), va_P D cvC (va_pl L (va_up f a (.inr (ci, fs.set k v)))) H1 → va_D A (va_pl L (va_up f a (.inr (ci, fs.set k v)))) → va_S A H0 H1 locs1 → W p l e R s m args below meth c H1 locs1 cells slots Q (F0 m (pc + 3) ls rest)) : W p l e R s m args below meth c H locs cells slots Q (F0 m pc ls (v :: .ref a :: rest)) := by
  obtain ⟨q, hq0⟩ := pl_at (f := f) ha
  have hq := hq0
  rw [hf] at hq
  exact va_putF (D := D) hx hb hU hin ty0 hty hnm hown hK.1 hP hD hS q hq hc k hk (hU _ hlink) hsame hfin hin2 hdecl hd hn hfit hl hdg (fun H1 locs1 hP hD1 hS => kk H1 locs1 (by rw [pl_set hD ha hq0] at hP; exact hP) (by rw [pl_set hD ha hq0] at hD1; exact hD1) hS)
theorem p_new (hx : p.tables.exec = Jvm.exec) (hb : c.code = cc) (hU : ∀ w ∈ wU, w.before args s = true) {own C : String} {T : u_T} {N ci index : Nat} (hin : ∀ w ∈ u_ws C T N, w ∈ wU) (ty : Nat → FieldType) (hty : ∀ k, k < N → parseFieldDescriptor (T k).2.2.1 = some (ty k)) (hown : s.vm.findClass own = some m.cls) (hcl : Cond.classLink own index C ∈ wU) (hinst : Cond.instantiable C N ∈ wU) (hini : Cond.initialized C ∈ wU) (hK : KS D cI cZ cO s) (hP : va_P D cvC (va_pl L f) H) (hD : va_D A (va_pl L f)) (hS : va_S A H0 H locs) (hA : ∀ q, H0.size ≤ q → A q) (hc : cvC[ci]? = some (C, T, N)) {fs : List Value} (hfs : ∀ j, j < N → defaultValue (ty j) = vp_V fs j) (hcells : cells + 1 ≤ R.cells) (hslots : slots + N ≤ R.slots) (hdg : decode cc pc = .ok (.new index, 3)) (kk : ∀ (q : Nat) (H1 : Heap), q ∉ L → va_P D cvC (va_pl (L ++ [q]) (va_up f q (.inr (ci, fs)))) H1 → va_D A (va_pl (L ++ [q]) (va_up f q (.inr (ci, fs)))) → va_S A H0 H1 locs → W p l e R s m args below meth c H1 locs (cells + 1) (slots + N) Q (F0 m (pc + 3) ls (.ref q :: rest))) : W p l e R s m args below meth c H locs cells slots Q (F0 m pc ls rest) := by
  refine va_new (D := D) hx hb hU hin ty hty hown (hU _ hcl) (hU _ hinst) (hU _ hini) hK.1 hP hD hS hA hc hfs hcells hslots hdg (fun q H1 hP hD hS => ?_)
  have hq := pl_new hD
  rw [va_pl_push hq] at hP hD
  exact kk q H1 hq hP hD hS
theorem p_ild (hx : p.tables.exec = Jvm.exec) (hb : c.code = cc) (hK : KS D cI cZ cO s) (hP : va_P D cvC (va_pl L f) H) (ha : a ∈ L) {n : Nat} {g : Nat → Int32} (hf : f a = .inl (cI, n, .inl (g))) (i : Nat) (hi : i < n) (hn : n < 2 ^ 31) (hdg : decode cc pc = .ok (.iaload, 1)) (kk : W p l e R s m args below meth c H locs cells slots Q (F0 m (pc + 1) ls (.int (g i) :: rest))) : W p l e R s m args below meth c H locs cells slots Q (F0 m pc ls (.int (nI i) :: .ref a :: rest)) := by
  obtain ⟨q, hq⟩ := pl_at (f := f) ha
  rw [hf] at hq
  exact va_iald (i := nI i) hx hb hK.1 hP q 0 hq rfl (vp_in_nI hi hn) hdg (by rw [nI_clamp (by omega)]; exact kk)
theorem p_ist (hx : p.tables.exec = Jvm.exec) (hb : c.code = cc) (hK : KS D cI cZ cO s) (hP : va_P D cvC (va_pl L f) H) (hD : va_D A (va_pl L f)) (hS : va_S A H0 H locs) (ha : a ∈ L) {n : Nat} {g : Nat → Int32} (hf : f a = .inl (cI, n, .inl (g))) (i : Nat) (hi : i < n) (hn : n < 2 ^ 31) (v : Int32) (hdg : decode cc pc = .ok (.iastore, 1)) (kk : ∀ (H1 : Heap) (locs1 : List Loc), va_P D cvC (va_pl L (va_up f a (.inl (cI, n, .inl (va_up g i v))))) H1 → va_D A (va_pl L (va_up f a (.inl (cI, n, .inl (va_up g i v))))) → va_S A H0 H1 locs1 → W p l e R s m args below meth c H1 locs1 cells slots Q (F0 m (pc + 1) ls rest)) : W p l e R s m args below meth c H locs cells slots Q (F0 m pc ls (.int (v) :: .int (nI i) :: .ref a :: rest)) := by
  obtain ⟨q, hq0⟩ := pl_at (f := f) ha
  have hq := hq0
  rw [hf] at hq
  have e1 : upd (g) i (v) = va_up g i v := funext fun j => by first | rfl | (simp only [upd, va_up]; split <;> rfl)
  exact va_iast (i := nI i) hx hb hK.1 hP hD hS q 0 hq rfl (vp_in_nI hi hn) hdg (fun H1 locs1 hP hD1 hS => kk H1 locs1 (by rw [nI_clamp (by omega), e1, pl_set hD ha hq0] at hP; exact hP) (by rw [nI_clamp (by omega), e1, pl_set hD ha hq0] at hD1; exact hD1) hS)
theorem p_inew (hx : p.tables.exec = Jvm.exec) (hb : c.code = cc) (hU : ∀ w ∈ wU, w.before args s = true) (hK : KS D cI cZ cO s) (hP : va_P D cvC (va_pl L f) H) (hD : va_D A (va_pl L f)) (hS : va_S A H0 H locs) (hA : ∀ q, H0.size ≤ q → A q) {k : Int32} {N : Nat} (hk : k = nI N) (hN : N < 1000000) (hcells : cells + 1 ≤ R.cells) (hslots : slots + N ≤ R.slots) (hdg : decode cc pc = .ok (.newarray .int, 2)) (kk : ∀ (q : Nat) (H1 : Heap), q ∉ L → va_P D cvC (va_pl (L ++ [q]) (va_up f q (.inl (cI, N, .inl (fun _ => (0 : Int32)))))) H1 → va_D A (va_pl (L ++ [q]) (va_up f q (.inl (cI, N, .inl (fun _ => (0 : Int32)))))) → va_S A H0 H1 locs → W p l e R s m args below meth c H1 locs (cells + 1) (slots + N) Q (F0 m (pc + 2) ls (.ref q :: rest))) : W p l e R s m args below meth c H locs cells slots Q (F0 m pc ls (.int k :: rest)) := by
  subst hk
  have hby : N * componentBytes .int ≤ 536870912 := Nat.le_trans (Nat.mul_le_mul (Nat.le_of_lt hN) (show componentBytes .int ≤ 4 by decide)) (by decide)
  refine va_newa (atype := .int) (ty := .int) (n := nI N) (N' := N) (a0 := (N, .inl (fun _ => (0 : Int32)))) hx hb (hU _ w_210) rfl hK.1 hP hD hS hA (fun cA => rfl) (nI_pos (by omega)) (nI_clamp (by omega)) hby hcells hslots hdg (fun q cA H1 hK1 hP hD hS => ?_)
  have hcA : cA = cI := Option.some.inj ((va_nm_int (hK1.2 3 _ rfl).2).symm.trans (va_nm_int (hK1.2 0 _ rfl).2))
  rw [hcA] at hP hD
  have hq := pl_new hD
  rw [va_pl_push hq] at hP hD
  exact kk q H1 hq hP hD hS
theorem p_zld (hx : p.tables.exec = Jvm.exec) (hb : c.code = cc) (hK : KS D cI cZ cO s) (hP : va_P D cvC (va_pl L f) H) (ha : a ∈ L) {n : Nat} {g : Nat → Bool} (hf : f a = .inl (cZ, n, .inl (fun j => bI (g j)))) (i : Nat) (hi : i < n) (hn : n < 2 ^ 31) (hdg : decode cc pc = .ok (.baload, 1)) (kk : W p l e R s m args below meth c H locs cells slots Q (F0 m (pc + 1) ls (.int (bI (g i)) :: rest))) : W p l e R s m args below meth c H locs cells slots Q (F0 m pc ls (.int (nI i) :: .ref a :: rest)) := by
  obtain ⟨q, hq⟩ := pl_at (f := f) ha
  rw [hf] at hq
  exact va_zald (i := nI i) hx hb hK.1 hP q 1 hq rfl (vp_in_nI hi hn) hdg (by rw [nI_clamp (by omega)]; exact kk)
theorem p_zst (hx : p.tables.exec = Jvm.exec) (hb : c.code = cc) (hK : KS D cI cZ cO s) (hP : va_P D cvC (va_pl L f) H) (hD : va_D A (va_pl L f)) (hS : va_S A H0 H locs) (ha : a ∈ L) {n : Nat} {g : Nat → Bool} (hf : f a = .inl (cZ, n, .inl (fun j => bI (g j)))) (i : Nat) (hi : i < n) (hn : n < 2 ^ 31) (v : Bool) (hdg : decode cc pc = .ok (.bastore, 1)) (kk : ∀ (H1 : Heap) (locs1 : List Loc), va_P D cvC (va_pl L (va_up f a (.inl (cZ, n, .inl (fun j => bI (va_up g i v j)))))) H1 → va_D A (va_pl L (va_up f a (.inl (cZ, n, .inl (fun j => bI (va_up g i v j)))))) → va_S A H0 H1 locs1 → W p l e R s m args below meth c H1 locs1 cells slots Q (F0 m (pc + 1) ls rest)) : W p l e R s m args below meth c H locs cells slots Q (F0 m pc ls (.int (bI v) :: .int (nI i) :: .ref a :: rest)) := by
  obtain ⟨q, hq0⟩ := pl_at (f := f) ha
  have hq := hq0
  rw [hf] at hq
  have e1 : upd (fun j => bI (g j)) i (bI v) = fun j => bI (va_up g i v j) := funext fun j => by first | rfl | (simp only [upd, va_up]; split <;> rfl)
  exact va_zast (i := nI i) hx hb hK.1 hP hD hS q 1 hq rfl (vp_in_nI hi hn) hdg (fun H1 locs1 hP hD1 hS => kk H1 locs1 (by rw [nI_clamp (by omega), bI_vnar, e1, pl_set hD ha hq0] at hP; exact hP) (by rw [nI_clamp (by omega), bI_vnar, e1, pl_set hD ha hq0] at hD1; exact hD1) hS)
theorem p_znew (hx : p.tables.exec = Jvm.exec) (hb : c.code = cc) (hU : ∀ w ∈ wU, w.before args s = true) (hK : KS D cI cZ cO s) (hP : va_P D cvC (va_pl L f) H) (hD : va_D A (va_pl L f)) (hS : va_S A H0 H locs) (hA : ∀ q, H0.size ≤ q → A q) {k : Int32} {N : Nat} (hk : k = nI N) (hN : N < 1000000) (hcells : cells + 1 ≤ R.cells) (hslots : slots + N ≤ R.slots) (hdg : decode cc pc = .ok (.newarray .boolean, 2)) (kk : ∀ (q : Nat) (H1 : Heap), q ∉ L → va_P D cvC (va_pl (L ++ [q]) (va_up f q (.inl (cZ, N, .inl (fun _ => bI false))))) H1 → va_D A (va_pl (L ++ [q]) (va_up f q (.inl (cZ, N, .inl (fun _ => bI false))))) → va_S A H0 H1 locs → W p l e R s m args below meth c H1 locs (cells + 1) (slots + N) Q (F0 m (pc + 2) ls (.ref q :: rest))) : W p l e R s m args below meth c H locs cells slots Q (F0 m pc ls (.int k :: rest)) := by
  subst hk
  have hby : N * componentBytes .boolean ≤ 536870912 := Nat.le_trans (Nat.mul_le_mul (Nat.le_of_lt hN) (show componentBytes .boolean ≤ 4 by decide)) (by decide)
  refine va_newa (atype := .boolean) (ty := .boolean) (n := nI N) (N' := N) (a0 := (N, .inl (fun _ => bI false))) hx hb (hU _ w_116) rfl hK.1 hP hD hS hA (fun cA => rfl) (nI_pos (by omega)) (nI_clamp (by omega)) hby hcells hslots hdg (fun q cA H1 hK1 hP hD hS => ?_)
  have hcA : cA = cZ := Option.some.inj ((va_nm_boolean (hK1.2 3 _ rfl).2).symm.trans (va_nm_boolean (hK1.2 1 _ rfl).2))
  rw [hcA] at hP hD
  have hq := pl_new hD
  rw [va_pl_push hq] at hP hD
  exact kk q H1 hq hP hD hS
theorem p_any (hK : KS D cI cZ cO s) (hP : va_P D cvC (va_pl L f) H) (ha : a ∈ L) (hf : isOb (f a)) : va_Any "java/lang/Object" s H a := by
  obtain ⟨q, hq⟩ := pl_at (f := f) ha
  obtain ⟨ci, fs, e0, hci⟩ := hf
  rw [e0] at hq
  rcases hci with rfl | rfl | rfl | rfl
  · exact va_rAny (r := (R_D, T_D, 4)) hK.1 hP hq rfl (fun comp c0 h1 h2 => vb_asgC (hK.2.1 ("CatalogVolume$Folder", "java/lang/Object") (by decide)) comp c0 h1 h2)
  · exact va_rAny (r := (R_S, T_S, 6)) hK.1 hP hq rfl (fun comp c0 h1 h2 => vb_asgC (hK.2.1 ("CatalogVolume$StoredFile", "java/lang/Object") (by decide)) comp c0 h1 h2)
  · exact va_rAny (r := (R_J, T_J, 4)) hK.1 hP hq rfl (fun comp c0 h1 h2 => vb_asgC (hK.2.1 ("CatalogVolume$Link", "java/lang/Object") (by decide)) comp c0 h1 h2)
  · exact va_rAny (r := (R_N, T_N, 2)) hK.1 hP hq rfl (fun comp c0 h1 h2 => vb_asgC (hK.2.1 ("CatalogVolume$Line", "java/lang/Object") (by decide)) comp c0 h1 h2)
theorem p_qld (hx : p.tables.exec = Jvm.exec) (hb : c.code = cc) (hK : KS D cI cZ cO s) (hP : va_P D cvC (va_pl L f) H) (ha : a ∈ L) {n : Nat} {g : Nat → Option Nat} (hf : f a = .inl (cO, n, .inr (.inr (.inr (.inr g))))) (i : Nat) (hi : i < n) (hn : n < 2 ^ 31) (hdg : decode cc pc = .ok (.aaload, 1)) (kk : W p l e R s m args below meth c H locs cells slots Q (F0 m (pc + 1) ls (va_rf (g i) :: rest))) : W p l e R s m args below meth c H locs cells slots Q (F0 m pc ls (.int (nI i) :: .ref a :: rest)) := by
  obtain ⟨q, hq⟩ := pl_at (f := f) ha
  rw [hf] at hq
  exact va_aldq (i := nI i) hx hb hK.1 hP q 2 hq rfl (vp_in_nI hi hn) hdg (by rw [nI_clamp (by omega)]; exact kk)
theorem p_qst (hx : p.tables.exec = Jvm.exec) (hb : c.code = cc) (hK : KS D cI cZ cO s) (hP : va_P D cvC (va_pl L f) H) (hD : va_D A (va_pl L f)) (hS : va_S A H0 H locs) (ha : a ∈ L) {n : Nat} {g : Nat → Option Nat} (hf : f a = .inl (cO, n, .inr (.inr (.inr (.inr g))))) (i : Nat) (hi : i < n) (hn : n < 2 ^ 31) {v : Nat} (hv : v ∈ L) (hvo : isOb (f v)) (hdg : decode cc pc = .ok (.aastore, 1)) (kk : ∀ (H1 : Heap) (locs1 : List Loc), va_P D cvC (va_pl L (va_up f a (.inl (cO, n, .inr (.inr (.inr (.inr (va_up g i (some v))))))))) H1 → va_D A (va_pl L (va_up f a (.inl (cO, n, .inr (.inr (.inr (.inr (va_up g i (some v))))))))) → va_S A H0 H1 locs1 → W p l e R s m args below meth c H1 locs1 cells slots Q (F0 m (pc + 1) ls rest)) : W p l e R s m args below meth c H locs cells slots Q (F0 m pc ls (.ref v :: .int (nI i) :: .ref a :: rest)) := by
  obtain ⟨q, hq0⟩ := pl_at (f := f) ha
  have hq := hq0
  rw [hf] at hq
  exact va_astqM (i := nI i) hx hb hK.1 hP hD hS q 2 hq rfl (p_any hK hP hv hvo) (vp_in_nI hi hn) hdg (fun H1 locs1 hP hD1 hS => kk H1 locs1 (by rw [nI_clamp (by omega), pl_set hD ha hq0] at hP; exact hP) (by rw [nI_clamp (by omega), pl_set hD ha hq0] at hD1; exact hD1) hS)
theorem p_qstN (hx : p.tables.exec = Jvm.exec) (hb : c.code = cc) (hK : KS D cI cZ cO s) (hP : va_P D cvC (va_pl L f) H) (hD : va_D A (va_pl L f)) (hS : va_S A H0 H locs) (ha : a ∈ L) {n : Nat} {g : Nat → Option Nat} (hf : f a = .inl (cO, n, .inr (.inr (.inr (.inr g))))) (i : Nat) (hi : i < n) (hn : n < 2 ^ 31) (hdg : decode cc pc = .ok (.aastore, 1)) (kk : ∀ (H1 : Heap) (locs1 : List Loc), va_P D cvC (va_pl L (va_up f a (.inl (cO, n, .inr (.inr (.inr (.inr (va_up g i none)))))))) H1 → va_D A (va_pl L (va_up f a (.inl (cO, n, .inr (.inr (.inr (.inr (va_up g i none)))))))) → va_S A H0 H1 locs1 → W p l e R s m args below meth c H1 locs1 cells slots Q (F0 m (pc + 1) ls rest)) : W p l e R s m args below meth c H locs cells slots Q (F0 m pc ls (.null :: .int (nI i) :: .ref a :: rest)) := by
  obtain ⟨q, hq0⟩ := pl_at (f := f) ha
  have hq := hq0
  rw [hf] at hq
  exact va_astqN (i := nI i) hx hb hK.1 hP hD hS q 2 hq rfl (vp_in_nI hi hn) hdg (fun H1 locs1 hP hD1 hS => kk H1 locs1 (by rw [nI_clamp (by omega), pl_set hD ha hq0] at hP; exact hP) (by rw [nI_clamp (by omega), pl_set hD ha hq0] at hD1; exact hD1) hS)
theorem p_qlen (hx : p.tables.exec = Jvm.exec) (hb : c.code = cc) (hK : KS D cI cZ cO s) (hP : va_P D cvC (va_pl L f) H) (ha : a ∈ L) {n : Nat} {g : Nat → Option Nat} (hf : f a = .inl (cO, n, .inr (.inr (.inr (.inr g))))) (hdg : decode cc pc = .ok (.arraylength, 1)) (kk : W p l e R s m args below meth c H locs cells slots Q (F0 m (pc + 1) ls (.int (nI n) :: rest))) : W p l e R s m args below meth c H locs cells slots Q (F0 m pc ls (.ref a :: rest)) := by
  obtain ⟨q, hq⟩ := pl_at (f := f) ha
  rw [hf] at hq
  exact va_alen (v := nI n) hx hb hK.1 hP q 2 hq rfl rfl hdg kk
theorem p_qnew (hx : p.tables.exec = Jvm.exec) (hb : c.code = cc) (hU : ∀ w ∈ wU, w.before args s = true) {own : String} {index : Nat} (hown : s.vm.findClass own = some m.cls) (hcl : Cond.classLink own index "java/lang/Object" ∈ wU) (hK : KS D cI cZ cO s) (hP : va_P D cvC (va_pl L f) H) (hD : va_D A (va_pl L f)) (hS : va_S A H0 H locs) (hA : ∀ q, H0.size ≤ q → A q) {k : Int32} {N : Nat} (hk : k = nI N) (hN : N < 1000000) (hcells : cells + 1 ≤ R.cells) (hslots : slots + N ≤ R.slots) (hdg : decode cc pc = .ok (.anewarray index, 3)) (kk : ∀ (q : Nat) (H1 : Heap), q ∉ L → va_P D cvC (va_pl (L ++ [q]) (va_up f q (.inl (cO, N, .inr (.inr (.inr (.inr (fun _ => none)))))))) H1 → va_D A (va_pl (L ++ [q]) (va_up f q (.inl (cO, N, .inr (.inr (.inr (.inr (fun _ => none)))))))) → va_S A H0 H1 locs → W p l e R s m args below meth c H1 locs (cells + 1) (slots + N) Q (F0 m (pc + 3) ls (.ref q :: rest))) : W p l e R s m args below meth c H locs cells slots Q (F0 m pc ls (.int k :: rest)) := by
  subst hk
  refine va_newq (n := nI N) (N' := N) hx hb hown (hU _ hcl) hK.2.2.2.2.2.1 hK.1 hP hD hS hA (nI_pos (by omega)) (nI_clamp (by omega)) (by omega) hcells hslots hdg (fun q cA H1 hK1 hP hD hS => ?_)
  have hcA : cA = cO := Option.some.inj ((va_nmO (nm := "[Ljava/lang/Object;") (hK1.2 3 _ rfl).2 (by decide)).symm.trans (va_nmO (hK1.2 2 _ rfl).2 (by decide)))
  rw [hcA] at hP hD
  have hq := pl_new hD
  rw [va_pl_push hq] at hP hD
  exact kk q H1 hq hP hD hS
end PR
