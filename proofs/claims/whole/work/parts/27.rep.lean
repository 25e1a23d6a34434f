-- cells of different kinds are different cells
def kd (e : va_E) : Nat := match e with
  | .inr q => q.1 + 10
  | .inl (_, _, .inl _) => 1
  | .inl (_, _, .inr _) => 2
theorem ne_k {f : Nat → va_E} {a b : Nat} (h : kd (f a) ≠ kd (f b)) : a ≠ b := fun z => h (by rw [z])
theorem kd_it (i : VI) : kd (iCell i) = 13 ∨ kd (iCell i) = 14 ∨ kd (iCell i) = 15 := by
  obtain ⟨a, b, c, d, k⟩ := i
  rcases k with k | k | k
  · exact Or.inl rfl
  · exact Or.inr (Or.inl rfl)
  · exact Or.inr (Or.inr rfl)
theorem AL.keep {cO : ClassId} {t : Nat} {L L' : List Nat} {f f' : Nat → va_E} {a ed : Nat} {xs : List Nat} (h : AL cO t L f a ed xs) (hL : ∀ q ∈ L, q ∈ L') (h1 : f' a = f a) (h2 : ed ∈ L → f' ed = f ed) : AL cO t L' f' a ed xs := by
  obtain ⟨ha, cap, mc, g1, g2, g3, g4⟩ := h
  refine ⟨hL a ha, cap, mc, h1.trans g1, g2, g3, ?_⟩
  rcases g4 with g4 | ⟨g4, g5, g, g6, g7⟩
  · exact Or.inl g4
  · exact Or.inr ⟨hL ed g4, g5, g, (h2 g4).trans g6, g7⟩
theorem AL.kd {cO : ClassId} {t : Nat} {L : List Nat} {f : Nat → va_E} {a ed : Nat} {xs : List Nat} (h : AL cO t L f a ed xs) (ht : t ∉ L) : kd (f a) = 17 ∧ (ed ∈ L → kd (f ed) = 2) := by
  obtain ⟨ha, cap, mc, g1, g2, g3, g4⟩ := h
  refine ⟨by rw [g1]; rfl, fun he => ?_⟩
  rcases g4 with ⟨g4, -⟩ | ⟨-, -, g, g6, -⟩
  · exact absurd (g4 ▸ he) ht
  · rw [g6]; rfl
theorem okI.keep {cI : ClassId} {L L' : List Nat} {f f' : Nat → va_E} {i : VI} (h : okI cI L f i) (hL : ∀ q ∈ L, q ∈ L') (h1 : f' (iA i) = f (iA i)) (h2 : iIsS i = true → f' (iBa i) = f (iBa i)) : okI cI L' f' i :=
  ⟨hL _ h.1, h1.trans h.2.1, fun hs => ⟨hL _ (h.2.2 hs).1, (h2 hs).trans (h.2.2 hs).2.1, (h.2.2 hs).2.2⟩⟩
theorem okN.keep {L L' : List Nat} {f f' : Nat → va_E} {n : VLn} (h : okN L f n) (hL : ∀ q ∈ L, q ∈ L') (h1 : f' (lA n) = f (lA n)) : okN L' f' n := ⟨hL _ h.1, h1.trans h.2⟩
section RepK
variable {cI cZ cO : ClassId} {t : Nat} {L : List Nat} {f : Nat → va_E} {ad : Nat → Nat} {v : VS}
theorem Rep.k0 (h : Rep cI cZ cO t L f ad v) : kd (f (ad 0)) = 10 := by rw [h.obj.2]; rfl
theorem Rep.k1 (h : Rep cI cZ cO t L f ad v) : kd (f (ad 1)) = 13 := by rw [h.root.2]; rfl
theorem Rep.k3 (h : Rep cI cZ cO t L f ad v) : kd (f (ad 3)) = 12 := by rw [h.cat.2]; rfl
theorem Rep.k4 (h : Rep cI cZ cO t L f ad v) : kd (f (ad 4)) = 11 := by rw [h.map.2]; rfl
theorem Rep.k6 (h : Rep cI cZ cO t L f ad v) : kd (f (ad 6)) = 1 := by rw [h.used.2]; rfl
theorem Rep.k2 (h : Rep cI cZ cO t L f ad v) : kd (f (ad 2)) = 17 := (h.items.kd h.tL).1
theorem Rep.k5 (h : Rep cI cZ cO t L f ad v) : kd (f (ad 5)) = 17 := (h.lines.kd h.tL).1
theorem Rep.k7 (h : Rep cI cZ cO t L f ad v) (h7 : ad 7 ∈ L) : kd (f (ad 7)) = 2 := (h.items.kd h.tL).2 h7
theorem Rep.k8 (h : Rep cI cZ cO t L f ad v) (h8 : ad 8 ∈ L) : kd (f (ad 8)) = 2 := (h.lines.kd h.tL).2 h8
theorem Rep.kI (h : Rep cI cZ cO t L f ad v) {i : VI} (hi : i ∈ vIt v) : kd (f (iA i)) = 13 ∨ kd (f (iA i)) = 14 ∨ kd (f (iA i)) = 15 := by rw [(h.it hi).2.1]; exact kd_it i
theorem Rep.kB (h : Rep cI cZ cO t L f ad v) {i : VI} (hi : i ∈ vIt v) (hs : iIsS i = true) : kd (f (iBa i)) = 1 := by rw [((h.it hi).2.2 hs).2.1]; rfl
theorem Rep.kN (h : Rep cI cZ cO t L f ad v) {n : VLn} (hn : n ∈ vLn v) : kd (f (lA n)) = 16 := by rw [(h.ln hn).2]; rfl
/-- the same state over another pool that holds all its cells as they were -/
theorem Rep.same (h : Rep cI cZ cO t L f ad v) {L' : List Nat} {f' : Nat → va_E} (hL : ∀ q ∈ L, q ∈ L') (ht : t ∉ L') (hf : ∀ q ∈ L, f' q = f q) (h7 : ad 7 ∈ L' → ad 7 ∈ L) (h8 : ad 8 ∈ L' → ad 8 ∈ L) : Rep cI cZ cO t L' f' ad v :=
  ⟨⟨hL _ h.obj.1, (hf _ h.obj.1).trans h.obj.2⟩, ⟨hL _ h.root.1, (hf _ h.root.1).trans h.root.2⟩, ⟨hL _ h.cat.1, (hf _ h.cat.1).trans h.cat.2⟩, ⟨hL _ h.map.1, (hf _ h.map.1).trans h.map.2⟩, ⟨hL _ h.used.1, (hf _ h.used.1).trans h.used.2⟩,
   h.items.keep hL (hf _ h.items.1) (fun z => hf _ z), h.lines.keep hL (hf _ h.lines.1) (fun z => hf _ z),
   fun i hi => (h.it hi).keep hL (hf _ (h.it hi).1) (fun hs => hf _ ((h.it hi).2.2 hs).1),
   fun n hn => ⟨(h.ln hn).keep hL (hf _ (h.ln hn).1), h.lnI hn⟩, fun i hi hj => h.lk hi hj, h.len, h.lenN, h.r1, h.r25, fun a b => h.r78 (h7 a) (h8 b), h.nd, h.ndB, h.ndN, ht, fun i hi hs => h.b6 hi hs⟩
/-- the pool has grown by a cell -/
theorem Rep.grow (h : Rep cI cZ cO t L f ad v) {q : Nat} {e : va_E} (hq : q ∉ L) (hqt : q ≠ t) (h7 : q ≠ ad 7) (h8 : q ≠ ad 8) : Rep cI cZ cO t (L ++ [q]) (va_up f q e) ad v := by
  have hm : ∀ y, y ∈ L ++ [q] → y ∈ L ∨ y = q := fun y hy => by
    rcases List.mem_append.mp hy with h | h
    · exact Or.inl h
    · exact Or.inr (List.mem_singleton.mp h)
  refine h.same (fun y hy => List.mem_append_left _ hy) (fun z => ?_) (fun y hy => va_up_ne _ _ (fun z => hq (z ▸ hy))) (fun z => ?_) (fun z => ?_)
  · rcases hm _ z with z | z
    · exact h.tL z
    · exact hqt z.symm
  · rcases hm _ z with z | z
    · exact z
    · exact absurd z.symm h7
  · rcases hm _ z with z | z
    · exact z
    · exact absurd z.symm h8
def sUs (v : VS) (u : Nat → Bool) : VS := (v.1, v.2.1, u, v.2.2.2)
def sMo' (v : VS) (b : Bool) : VS := (v.1, v.2.1, v.2.2.1, b, v.2.2.2.2)
def sNx' (v : VS) (n : Int32) : VS := (v.1, v.2.1, v.2.2.1, v.2.2.2.1, n, v.2.2.2.2.2)
def sRe' (v : VS) (n : Int32) : VS := (v.1, v.2.1, v.2.2.1, v.2.2.2.1, v.2.2.2.2.1, n)
def sIt (v : VS) (l : List VI) : VS := (l, v.2)
def sLn (v : VS) (l : List VLn) : VS := (v.1, l, v.2.2)
theorem Rep.setUs (h : Rep cI cZ cO t L f ad v) (u : Nat → Bool) : Rep cI cZ cO t L (va_up f (ad 6) (.inl (cZ, 48, .inl (fun j => bI (u j))))) ad (sUs v u) := by
  have n : ∀ {y : Nat}, y ∈ L → kd (f y) ≠ 1 → va_up f (ad 6) (.inl (cZ, 48, .inl (fun j => bI (u j)))) y = f y := fun {y} _ hk => va_up_ne _ _ (ne_k (f := f) (by rw [h.k6]; exact hk))
  exact ⟨⟨h.obj.1, (n h.obj.1 (by rw [h.k0]; decide)).trans h.obj.2⟩, ⟨h.root.1, (n h.root.1 (by rw [h.k1]; decide)).trans h.root.2⟩, ⟨h.cat.1, (n h.cat.1 (by rw [h.k3]; decide)).trans h.cat.2⟩, ⟨h.map.1, (n h.map.1 (by rw [h.k4]; decide)).trans h.map.2⟩, ⟨h.used.1, va_up_self _ _ _⟩,
    h.items.keep (fun _ z => z) (n h.items.1 (by rw [h.k2]; decide)) (fun z => n z (by rw [h.k7 z]; decide)), h.lines.keep (fun _ z => z) (n h.lines.1 (by rw [h.k5]; decide)) (fun z => n z (by rw [h.k8 z]; decide)),
    fun i hi => (h.it hi).keep (fun _ z => z) (n (h.it hi).1 (by have := h.kI hi; omega)) (fun hs => va_up_ne _ _ (h.b6 hi hs)),
    fun m hm => ⟨(h.ln hm).keep (fun _ z => z) (n (h.ln hm).1 (by rw [h.kN hm]; decide)), h.lnI hm⟩, fun i hi hj => h.lk hi hj, h.len, h.lenN, h.r1, h.r25, h.r78, h.nd, h.ndB, h.ndN, h.tL, fun i hi hs => h.b6 hi hs⟩
theorem Rep.setObj (h : Rep cI cZ cO t L f ad v) (b : Bool) (n0 : Int32) : Rep cI cZ cO t L (va_up f (ad 0) (.inr (0, [.ref (ad 1), .ref (ad 2), .ref (ad 3), .ref (ad 4), .int (bI b), .int n0]))) ad (sNx' (sMo' v b) n0) := by
  have n : ∀ {y : Nat}, y ∈ L → kd (f y) ≠ 10 → va_up f (ad 0) (.inr (0, [.ref (ad 1), .ref (ad 2), .ref (ad 3), .ref (ad 4), .int (bI b), .int n0])) y = f y := fun {y} _ hk => va_up_ne _ _ (ne_k (f := f) (by rw [h.k0]; exact hk))
  exact ⟨⟨h.obj.1, va_up_self _ _ _⟩, ⟨h.root.1, (n h.root.1 (by rw [h.k1]; decide)).trans h.root.2⟩, ⟨h.cat.1, (n h.cat.1 (by rw [h.k3]; decide)).trans h.cat.2⟩, ⟨h.map.1, (n h.map.1 (by rw [h.k4]; decide)).trans h.map.2⟩, ⟨h.used.1, (n h.used.1 (by rw [h.k6]; decide)).trans h.used.2⟩,
    h.items.keep (fun _ z => z) (n h.items.1 (by rw [h.k2]; decide)) (fun z => n z (by rw [h.k7 z]; decide)), h.lines.keep (fun _ z => z) (n h.lines.1 (by rw [h.k5]; decide)) (fun z => n z (by rw [h.k8 z]; decide)),
    fun i hi => (h.it hi).keep (fun _ z => z) (n (h.it hi).1 (by have := h.kI hi; omega)) (fun hs => n ((h.it hi).2.2 hs).1 (by rw [h.kB hi hs]; decide)),
    fun m hm => ⟨(h.ln hm).keep (fun _ z => z) (n (h.ln hm).1 (by rw [h.kN hm]; decide)), h.lnI hm⟩, fun i hi hj => h.lk hi hj, h.len, h.lenN, h.r1, h.r25, h.r78, h.nd, h.ndB, h.ndN, h.tL, fun i hi hs => h.b6 hi hs⟩
theorem Rep.setRe (h : Rep cI cZ cO t L f ad v) (n0 : Int32) : Rep cI cZ cO t L (va_up f (ad 1) (.inr (3, [.int 2, .int (-1), .int (-1), .int n0]))) ad (sRe' v n0) := by
  have n : ∀ {y : Nat}, y ∈ L → kd (f y) ≠ 13 → va_up f (ad 1) (.inr (3, [.int 2, .int (-1), .int (-1), .int n0])) y = f y := fun {y} _ hk => va_up_ne _ _ (ne_k (f := f) (by rw [h.k1]; exact hk))
  exact ⟨⟨h.obj.1, (n h.obj.1 (by rw [h.k0]; decide)).trans h.obj.2⟩, ⟨h.root.1, va_up_self _ _ _⟩, ⟨h.cat.1, (n h.cat.1 (by rw [h.k3]; decide)).trans h.cat.2⟩, ⟨h.map.1, (n h.map.1 (by rw [h.k4]; decide)).trans h.map.2⟩, ⟨h.used.1, (n h.used.1 (by rw [h.k6]; decide)).trans h.used.2⟩,
    h.items.keep (fun _ z => z) (n h.items.1 (by rw [h.k2]; decide)) (fun z => n z (by rw [h.k7 z]; decide)), h.lines.keep (fun _ z => z) (n h.lines.1 (by rw [h.k5]; decide)) (fun z => n z (by rw [h.k8 z]; decide)),
    fun i hi => (h.it hi).keep (fun _ z => z) (va_up_ne _ _ (fun z => h.r1 (z ▸ List.mem_map.mpr ⟨i, hi, rfl⟩))) (fun hs => n ((h.it hi).2.2 hs).1 (by rw [h.kB hi hs]; decide)),
    fun m hm => ⟨(h.ln hm).keep (fun _ z => z) (n (h.ln hm).1 (by rw [h.kN hm]; decide)), h.lnI hm⟩, fun i hi hj => h.lk hi hj, h.len, h.lenN, h.r1, h.r25, h.r78, h.nd, h.ndB, h.ndN, h.tL, fun i hi hs => h.b6 hi hs⟩
end RepK
