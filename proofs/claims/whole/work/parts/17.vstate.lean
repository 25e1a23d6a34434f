-- the class's state: items (address, id, folder, name, what it is), lines, the map, mounted, the next id, the root's entries
abbrev VK : Type := Int32 ⊕ ((Nat × (Nat → Nat) × Nat × Int32) ⊕ Nat)
abbrev VI : Type := Nat × Int32 × Int32 × Int32 × VK
def iA (i : VI) : Nat := i.1
def iId (i : VI) : Int32 := i.2.1
def iFo (i : VI) : Int32 := i.2.2.1
def iNa (i : VI) : Int32 := i.2.2.2.1
def iK (i : VI) : VK := i.2.2.2.2
def iIsD (i : VI) : Bool := match iK i with
  | .inl _ => true
  | _ => false
def iIsS (i : VI) : Bool := match iK i with
  | .inr (.inl _) => true
  | _ => false
def iIsJ (i : VI) : Bool := match iK i with
  | .inr (.inr _) => true
  | _ => false
def iEn (i : VI) : Int32 := match iK i with
  | .inl en => en
  | _ => 0
def iBa (i : VI) : Nat := match iK i with
  | .inr (.inl q) => q.1
  | _ => 0
def iBl (i : VI) : Nat → Nat := match iK i with
  | .inr (.inl q) => q.2.1
  | _ => fun _ => 0
def iLe (i : VI) : Nat := match iK i with
  | .inr (.inl q) => q.2.2.1
  | _ => 0
def iLk (i : VI) : Int32 := match iK i with
  | .inr (.inl q) => q.2.2.2
  | _ => 0
def iFi (i : VI) : Nat := match iK i with
  | .inr (.inr q) => q
  | _ => 0
def iCell (i : VI) : va_E := match iK i with
  | .inl en => .inr (3, [.int (iId i), .int (iFo i), .int (iNa i), .int en])
  | .inr (.inl q) => .inr (4, [.int (iId i), .int (iFo i), .int (iNa i), .ref q.1, .int (nI q.2.2.1), .int q.2.2.2])
  | .inr (.inr q) => .inr (5, [.int (iId i), .int (iFo i), .int (iNa i), .ref q])
def vI0 : VI := (0, 0, 0, 0, .inl 0)
abbrev VLn : Type := Nat × Nat × Bool
def lA (n : VLn) : Nat := n.1
def lI (n : VLn) : Nat := n.2.1
def lT (n : VLn) : Bool := n.2.2
abbrev VS : Type := List VI × List VLn × (Nat → Bool) × Bool × Int32 × Int32
def vIt (v : VS) : List VI := v.1
def vLn (v : VS) : List VLn := v.2.1
def vUs (v : VS) : Nat → Bool := v.2.2.1
def vMo (v : VS) : Bool := v.2.2.2.1
def vNx (v : VS) : Int32 := v.2.2.2.2.1
def vRe (v : VS) : Int32 := v.2.2.2.2.2
def vAt (v : VS) (k : Nat) : VI := (vIt v).getD k vI0
def vLt (v : VS) (k : Nat) : VLn := (vLn v).getD k (0, 0, false)
/-- an ArrayList at a, its array at ed (t: the shared empty one), with the elements xs -/
def AL (cO : ClassId) (t : Nat) (L : List Nat) (f : Nat → va_E) (a ed : Nat) (xs : List Nat) : Prop := a ∈ L ∧ ∃ (cap : Nat) (mc : Int32), f a = .inr (7, [.int mc, .ref ed, .int (nI xs.length)]) ∧ xs.length ≤ cap ∧ cap ≤ 200 ∧ ((ed = t ∧ cap = 0) ∨ (ed ∈ L ∧ 10 ≤ cap ∧ ∃ g : Nat → Option Nat, f ed = .inl (cO, cap, .inr (.inr (.inr (.inr g)))) ∧ ∀ i : Nat, i < xs.length → g i = some (xs.getD i 0)))
def okI (cI : ClassId) (L : List Nat) (f : Nat → va_E) (i : VI) : Prop := iA i ∈ L ∧ f (iA i) = iCell i ∧ (iIsS i = true → iBa i ∈ L ∧ f (iBa i) = .inl (cI, 48, .inl (fun j => nI (iBl i j))) ∧ iLe i ≤ 48 ∧ ∀ j, iBl i j < 48)
def okN (L : List Nat) (f : Nat → va_E) (n : VLn) : Prop := lA n ∈ L ∧ f (lA n) = .inr (6, [.ref (lI n), .int (bI (lT n))])
/-- the pool holds the state v; ad: the object, root, items, catalog, map, lines, used, the two arrays -/
def Rep (cI cZ cO : ClassId) (t : Nat) (L : List Nat) (f : Nat → va_E) (ad : Nat → Nat) (v : VS) : Prop :=
  (ad 0 ∈ L ∧ f (ad 0) = .inr (0, [.ref (ad 1), .ref (ad 2), .ref (ad 3), .ref (ad 4), .int (bI (vMo v)), .int (vNx v)])) ∧
  (ad 1 ∈ L ∧ f (ad 1) = .inr (3, [.int 2, .int (-1), .int (-1), .int (vRe v)])) ∧
  (ad 3 ∈ L ∧ f (ad 3) = .inr (2, [.ref (ad 5)])) ∧
  (ad 4 ∈ L ∧ f (ad 4) = .inr (1, [.ref (ad 6)])) ∧
  (ad 6 ∈ L ∧ f (ad 6) = .inl (cZ, 48, .inl (fun j => bI (vUs v j)))) ∧
  AL cO t L f (ad 2) (ad 7) ((vIt v).map iA) ∧
  AL cO t L f (ad 5) (ad 8) ((vLn v).map lA) ∧
  (∀ i ∈ vIt v, okI cI L f i) ∧
  (∀ n ∈ vLn v, okN L f n ∧ ∃ i ∈ vIt v, iA i = lI n) ∧
  (∀ i ∈ vIt v, iIsJ i = true → ∃ j ∈ vIt v, iIsS j = true ∧ iA j = iFi i) ∧
  (vIt v).length ≤ 60 ∧ (vLn v).length ≤ 120 ∧
  ad 1 ∉ (vIt v).map iA ∧ ad 2 ≠ ad 5 ∧ (ad 7 ∈ L → ad 8 ∈ L → ad 7 ≠ ad 8) ∧ ((vIt v).map iA).Nodup ∧ (((vIt v).filter iIsS).map iBa).Nodup ∧ ((vLn v).map lA).Nodup ∧ t ∉ L ∧ (∀ i ∈ vIt v, iIsS i = true → iBa i ≠ ad 6)
theorem getD_lt {α : Type} {l : List α} {k : Nat} {d : α} (h : k < l.length) : l.getD k d = l[k] := by simp [List.getD_eq_getElem?_getD, h]
theorem vAt_mem {v : VS} {k : Nat} (h : k < (vIt v).length) : vAt v k ∈ vIt v := by
  unfold vAt
  rw [getD_lt h]
  exact List.getElem_mem h
theorem vLt_mem {v : VS} {k : Nat} (h : k < (vLn v).length) : vLt v k ∈ vLn v := by
  unfold vLt
  rw [getD_lt h]
  exact List.getElem_mem h
theorem vAt_A {v : VS} {k : Nat} (h : k < (vIt v).length) : ((vIt v).map iA).getD k 0 = iA (vAt v k) := by
  unfold vAt
  rw [getD_lt (by simpa using h), getD_lt h, List.getElem_map]
theorem vLt_A {v : VS} {k : Nat} (h : k < (vLn v).length) : ((vLn v).map lA).getD k 0 = lA (vLt v k) := by
  unfold vLt
  rw [getD_lt (by simpa using h), getD_lt h, List.getElem_map]
section RepP
variable {cI cZ cO : ClassId} {t : Nat} {L : List Nat} {f : Nat → va_E} {ad : Nat → Nat} {v : VS}
theorem Rep.obj (h : Rep cI cZ cO t L f ad v) : ad 0 ∈ L ∧ f (ad 0) = .inr (0, [.ref (ad 1), .ref (ad 2), .ref (ad 3), .ref (ad 4), .int (bI (vMo v)), .int (vNx v)]) := h.1
theorem Rep.root (h : Rep cI cZ cO t L f ad v) : ad 1 ∈ L ∧ f (ad 1) = .inr (3, [.int 2, .int (-1), .int (-1), .int (vRe v)]) := h.2.1
theorem Rep.cat (h : Rep cI cZ cO t L f ad v) : ad 3 ∈ L ∧ f (ad 3) = .inr (2, [.ref (ad 5)]) := h.2.2.1
theorem Rep.map (h : Rep cI cZ cO t L f ad v) : ad 4 ∈ L ∧ f (ad 4) = .inr (1, [.ref (ad 6)]) := h.2.2.2.1
theorem Rep.used (h : Rep cI cZ cO t L f ad v) : ad 6 ∈ L ∧ f (ad 6) = .inl (cZ, 48, .inl (fun j => bI (vUs v j))) := h.2.2.2.2.1
theorem Rep.items (h : Rep cI cZ cO t L f ad v) : AL cO t L f (ad 2) (ad 7) ((vIt v).map iA) := h.2.2.2.2.2.1
theorem Rep.lines (h : Rep cI cZ cO t L f ad v) : AL cO t L f (ad 5) (ad 8) ((vLn v).map lA) := h.2.2.2.2.2.2.1
theorem Rep.it (h : Rep cI cZ cO t L f ad v) {i : VI} (hi : i ∈ vIt v) : okI cI L f i := h.2.2.2.2.2.2.2.1 i hi
theorem Rep.at (h : Rep cI cZ cO t L f ad v) {k : Nat} (hk : k < (vIt v).length) : okI cI L f (vAt v k) := h.it (vAt_mem hk)
theorem Rep.ln (h : Rep cI cZ cO t L f ad v) {n : VLn} (hn : n ∈ vLn v) : okN L f n := (h.2.2.2.2.2.2.2.2.1 n hn).1
theorem Rep.lnI (h : Rep cI cZ cO t L f ad v) {n : VLn} (hn : n ∈ vLn v) : ∃ i ∈ vIt v, iA i = lI n := (h.2.2.2.2.2.2.2.2.1 n hn).2
theorem Rep.lk (h : Rep cI cZ cO t L f ad v) {i : VI} (hi : i ∈ vIt v) (hj : iIsJ i = true) : ∃ j ∈ vIt v, iIsS j = true ∧ iA j = iFi i := h.2.2.2.2.2.2.2.2.2.1 i hi hj
theorem Rep.len (h : Rep cI cZ cO t L f ad v) : (vIt v).length ≤ 60 := h.2.2.2.2.2.2.2.2.2.2.1
theorem Rep.lenN (h : Rep cI cZ cO t L f ad v) : (vLn v).length ≤ 120 := h.2.2.2.2.2.2.2.2.2.2.2.1
theorem Rep.r1 (h : Rep cI cZ cO t L f ad v) : ad 1 ∉ (vIt v).map iA := h.2.2.2.2.2.2.2.2.2.2.2.2.1
theorem Rep.r25 (h : Rep cI cZ cO t L f ad v) : ad 2 ≠ ad 5 := h.2.2.2.2.2.2.2.2.2.2.2.2.2.1
theorem Rep.r78 (h : Rep cI cZ cO t L f ad v) : ad 7 ∈ L → ad 8 ∈ L → ad 7 ≠ ad 8 := h.2.2.2.2.2.2.2.2.2.2.2.2.2.2.1
theorem Rep.ndB (h : Rep cI cZ cO t L f ad v) : (((vIt v).filter iIsS).map iBa).Nodup := h.2.2.2.2.2.2.2.2.2.2.2.2.2.2.2.2.1
theorem Rep.ndN (h : Rep cI cZ cO t L f ad v) : ((vLn v).map lA).Nodup := h.2.2.2.2.2.2.2.2.2.2.2.2.2.2.2.2.2.1
theorem Rep.tL (h : Rep cI cZ cO t L f ad v) : t ∉ L := h.2.2.2.2.2.2.2.2.2.2.2.2.2.2.2.2.2.2.1
theorem Rep.b6 (h : Rep cI cZ cO t L f ad v) {i : VI} (hi : i ∈ vIt v) (hs : iIsS i = true) : iBa i ≠ ad 6 := h.2.2.2.2.2.2.2.2.2.2.2.2.2.2.2.2.2.2.2 i hi hs
theorem Rep.nd (h : Rep cI cZ cO t L f ad v) : ((vIt v).map iA).Nodup := h.2.2.2.2.2.2.2.2.2.2.2.2.2.2.2.1
end RepP
theorem iCellD {i : VI} (h : iIsD i = true) : iCell i = .inr (3, [.int (iId i), .int (iFo i), .int (iNa i), .int (iEn i)]) := by
  obtain ⟨a, b, c, d, k⟩ := i
  rcases k with k | k | k
  · rfl
  · cases h
  · cases h
theorem iCellS {i : VI} (h : iIsS i = true) : iCell i = .inr (4, [.int (iId i), .int (iFo i), .int (iNa i), .ref (iBa i), .int (nI (iLe i)), .int (iLk i)]) := by
  obtain ⟨a, b, c, d, k⟩ := i
  rcases k with k | k | k
  · cases h
  · rfl
  · cases h
theorem iCellJ {i : VI} (h : iIsJ i = true) : iCell i = .inr (5, [.int (iId i), .int (iFo i), .int (iNa i), .ref (iFi i)]) := by
  obtain ⟨a, b, c, d, k⟩ := i
  rcases k with k | k | k
  · cases h
  · cases h
  · rfl
theorem i3 (i : VI) : (iIsD i = true ∧ iIsS i = false ∧ iIsJ i = false) ∨ (iIsD i = false ∧ iIsS i = true ∧ iIsJ i = false) ∨ (iIsD i = false ∧ iIsS i = false ∧ iIsJ i = true) := by
  obtain ⟨a, b, c, d, k⟩ := i
  rcases k with k | k | k
  · exact Or.inl ⟨rfl, rfl, rfl⟩
  · exact Or.inr (Or.inl ⟨rfl, rfl, rfl⟩)
  · exact Or.inr (Or.inr ⟨rfl, rfl, rfl⟩)
