-- loops over places, as counts over lists
theorem fdF_none (P : Nat → Bool) : ∀ (n k : Nat), fdF P n k = none ↔ ∀ j, k ≤ j → j < k + n → ¬ P j = true := by
  intro n
  induction n with
  | zero => intro k; exact ⟨fun _ j h1 h2 => by omega, fun _ => rfl⟩
  | succ n ih =>
    intro k
    rw [fdF]
    by_cases hp : P k = true
    · rw [if_pos hp]
      exact ⟨fun h => (by cases h), fun h => absurd hp (h k (by omega) (by omega))⟩
    · rw [if_neg hp, ih (k + 1)]
      refine ⟨fun h j h1 h2 => ?_, fun h j h1 h2 => h j (by omega) (by omega)⟩
      by_cases e : j = k
      · rw [e]; exact hp
      · exact h j (by omega) (by omega)
theorem fdF_first (P : Nat → Bool) : ∀ (n k q : Nat), fdF P n k = some q → ∀ j, k ≤ j → j < q → ¬ P j = true := by
  intro n
  induction n with
  | zero => intro k q h; cases h
  | succ n ih =>
    intro k q h j h1 h2
    rw [fdF] at h
    by_cases hp : P k = true
    · rw [if_pos hp] at h
      cases h
      omega
    · rw [if_neg hp] at h
      by_cases e : j = k
      · rw [e]; exact hp
      · exact ih (k + 1) q h j (by omega) h2
/-- the only hit -/
theorem fdF_one {P : Nat → Bool} {n q : Nat} (hq : q < n) (hP : P q = true) (hu : ∀ j, j < n → P j = true → j = q) : fdF P n 0 = some q := by
  obtain ⟨r, hr⟩ := fdF_some P n 0 q (by omega) (by omega) hP
  have h := fdF_lt _ _ _ _ hr
  rw [hr, hu r (by omega) h.2.2]
theorem anF_iff (P : Nat → Bool) : ∀ (n k : Nat), anF P n k = true ↔ ∃ j, k ≤ j ∧ j < k + n ∧ P j = true := by
  intro n
  induction n with
  | zero => intro k; exact ⟨fun h => (by cases h), fun ⟨j, h1, h2, _⟩ => by omega⟩
  | succ n ih =>
    intro k
    rw [anF]
    by_cases hp : P k = true
    · rw [if_pos hp]
      exact ⟨fun _ => ⟨k, by omega, by omega, hp⟩, fun _ => rfl⟩
    · rw [if_neg hp, ih (k + 1)]
      refine ⟨fun ⟨j, h1, h2, h3⟩ => ⟨j, by omega, by omega, h3⟩, fun ⟨j, h1, h2, h3⟩ => ⟨j, ?_, by omega, h3⟩⟩
      have : j ≠ k := fun e => hp (e ▸ h3)
      omega
theorem cnF_eq (P : Nat → Bool) : ∀ (n k : Nat) (a : Int32), cnF P n k a = a + nI ((List.range' k n).countP P) := by
  intro n
  induction n with
  | zero => intro k a; show a = a + nI 0; rw [nI_0]; simp
  | succ n ih =>
    intro k a
    rw [cnF, ih, List.range'_succ, List.countP_cons]
    by_cases hp : P k = true
    · rw [if_pos hp, if_pos hp, ← nI_add, Int32.add_assoc, Int32.add_comm 1]; rfl
    · rw [if_neg hp, if_neg hp]; simp
theorem cnM (P : Nat → Bool) (n : Nat) : cnF P n 0 0 = nI ((List.range n).countP P) := by
  rw [cnF_eq, List.range_eq_range']; simp
theorem map_at {α : Type} (l : List α) (d : α) : (List.range l.length).map (fun k => l.getD k d) = l := by
  refine List.ext_getElem (by simp) (fun i h1 h2 => ?_)
  rw [List.getElem_map, List.getElem_range]
  exact getD_lt h2
theorem cnL {α : Type} (l : List α) (d : α) (Q : α → Bool) : cnF (fun k => Q (l.getD k d)) l.length 0 0 = nI (l.countP Q) := by
  rw [cnM]
  conv => rhs; rw [← map_at l d, List.countP_map]
  rfl
theorem cnV (v : VS) (Q : VI → Bool) : cnF (fun k => Q (vAt v k)) (vIt v).length 0 0 = nI ((vIt v).countP Q) := cnL _ _ _
theorem cnt_perm {P : Nat → Bool} {n : Nat} {ps : List Nat} (hnd : ps.Nodup) (hlt : ∀ p ∈ ps, p < n) (hP : ∀ p, p < n → P p = true → p ∈ ps) : (List.range n).countP P = ps.countP P := by
  rw [List.countP_eq_length_filter, List.countP_eq_length_filter]
  refine List.Perm.length_eq ((List.perm_ext_iff_of_nodup (List.nodup_range.filter _) (hnd.filter _)).mpr (fun p => ?_))
  rw [List.mem_filter, List.mem_filter, List.mem_range]
  exact ⟨fun h => ⟨hP p h.1 h.2, h.2⟩, fun h => ⟨hlt p h.1, h.2⟩⟩
/-- sums -/
def smF (g : Nat → Int32) : List Nat → Int32
  | [] => 0
  | p :: l => g p + smF g l
theorem smF_perm {g : Nat → Int32} {l m : List Nat} (h : l.Perm m) : smF g l = smF g m := by
  induction h with
  | nil => rfl
  | cons x _ ih => rw [smF, smF, ih]
  | swap x y l => simp only [smF]; rw [← Int32.add_assoc, Int32.add_comm (g y), Int32.add_assoc]
  | trans _ _ h1 h2 => exact h1.trans h2
theorem smF_map {g : Nat → Int32} (f : Nat → Nat) : ∀ l : List Nat, smF g (l.map f) = smF (fun k => g (f k)) l := by
  intro l
  induction l with
  | nil => rfl
  | cons x l ih => rw [List.map_cons, smF, smF, ih]
theorem smF_filter {g : Nat → Int32} {P : Nat → Bool} : ∀ l : List Nat, (∀ p ∈ l, ¬ P p = true → g p = 0) → smF g l = smF g (l.filter P) := by
  intro l
  induction l with
  | nil => intro _; rfl
  | cons x l ih =>
    intro h
    have h1 := ih (fun p hp => h p (List.mem_cons_of_mem _ hp))
    by_cases hx : P x = true
    · rw [List.filter_cons_of_pos hx, smF, smF, h1]
    · rw [List.filter_cons_of_neg hx, smF, h x (List.mem_cons_self) hx, h1]; simp
theorem smF_cong {g g2 : Nat → Int32} : ∀ l : List Nat, (∀ p ∈ l, g p = g2 p) → smF g l = smF g2 l := by
  intro l
  induction l with
  | nil => intro _; rfl
  | cons x l ih => intro h; rw [smF, smF, h x List.mem_cons_self, ih (fun p hp => h p (List.mem_cons_of_mem _ hp))]
theorem flF_eq (g : Nat → Int32) : ∀ (n k : Nat) (a : Int32), flF (fun k a => a + g k) n k a = a + smF g (List.range' k n) := by
  intro n
  induction n with
  | zero => intro k a; show a = a + 0; simp
  | succ n ih => intro k a; rw [flF, ih, List.range'_succ, smF, Int32.add_assoc]
/-- a sum over the places below n, all of it at the places of ps -/
theorem sm_perm {g : Nat → Int32} {n : Nat} {ps : List Nat} (hnd : ps.Nodup) (hlt : ∀ p ∈ ps, p < n) (hP : ∀ p, p < n → p ∉ ps → g p = 0) : smF g (List.range n) = smF g ps := by
  rw [smF_filter (P := fun p => decide (p ∈ ps)) (List.range n) (fun p hp h => hP p (List.mem_range.mp hp) (by simpa using h))]
  refine smF_perm ((List.perm_ext_iff_of_nodup (List.nodup_range.filter _) hnd).mpr (fun p => ?_))
  rw [List.mem_filter, List.mem_range]
  exact ⟨fun h => by simpa using h.2, fun h => ⟨hlt p h, by simpa using h⟩⟩
-- how a state of the reference and one of the class belong together
def kdI (i : VI) : Int32 := if iIsD i = true then 1 else if iIsS i = true then (if iHid i = true then 4 else 2) else 3
def sOf (sl : Nat → Nat) (i : VI) : Nat := sl (iA i)
def rOf (sl : Nat → Nat) (n : VLn) : Nat := 2 * sl (lI n) + (if lT n = true then 1 else 0)
/-- the slot p of the reference holds what the item i is -/
def Mt (σ : MS) (v : VS) (p : Nat) (i : VI) : Prop :=
  (sId σ p = iId i ∧ sFo σ p = iFo i ∧ sNa σ p = iNa i ∧ sKd σ p = kdI i) ∧
  (iIsJ i = true → sTa σ p = iId (fIt v i)) ∧
  (iIsS i = true → sMa σ p = iLe i ∧ ∀ j, j < iLe i → sLi σ (48 * p + j) = iBl i j)
/-- the counts that are kept, and how much they are harmed (at most c) -/
def KC (σ : MS) (v : VS) (sl : Nat → Nat) (c : Nat) : Prop :=
  (∀ i ∈ vIt v, ∃ e, e ≤ c ∧ sEx σ (sOf sl i) = nI e ∧ (iIsD i = true → iEn i = vEntriesIn v (iId i) + nI e) ∧ (iIsS i = true → iLk i = vLinksFor v (iA i) + nI e ∧ (iHid i = false → e = 0)) ∧ (iIsJ i = true → e = 0)) ∧
  (∃ e, e ≤ c ∧ sRe σ = nI e ∧ vRe v = vEntriesIn v 2 + nI e)
/-- of the class's state alone: what its pool also says -/
def PR (v : VS) : Prop :=
  (∀ n ∈ vLn v, ∃ i ∈ vIt v, iA i = lI n) ∧ (∀ i ∈ vIt v, iIsJ i = true → ∃ j ∈ vIt v, iIsS j = true ∧ iA j = iFi i) ∧ ((vIt v).map iA).Nodup ∧ (∀ i ∈ vIt v, iIsS i = true → iLe i ≤ 48 ∧ ∀ j, iBl i j < 48)
/-- the class's state is one that calls lead to -/
def VG (v : VS) (c : Nat) : Prop :=
  (vIt v).Pairwise (fun i j => iId i < iId j) ∧
  (∃ nx, vNx v = nI nx ∧ 16 ≤ nx ∧ nx ≤ 16 + 2 * c ∧ ∀ i ∈ vIt v, ∃ d, iId i = nI d ∧ 16 ≤ d ∧ d < nx) ∧
  (∀ i ∈ vIt v, ¬ iNa i < 0) ∧
  (∀ i ∈ vIt v, (iIsS i = true ∧ iHid i = true ∧ iNa i = iId i) ∨ (iHid i = false ∧ (iFo i = 2 ∨ ∃ j ∈ vIt v, iIsD j = true ∧ iId j = iFo i))) ∧
  (∀ i ∈ vIt v, ∀ j ∈ vIt v, iFo i = iFo j → iNa i = iNa j → i = j) ∧
  (∀ i ∈ vIt v, ∀ j ∈ vIt v, iIsS i = true → iIsS j = true → ∀ a b, a < iLe i → b < iLe j → iBl i a = iBl j b → i = j ∧ a = b) ∧
  (∀ i ∈ vIt v, iIsJ i = true → iHid (fIt v i) = true) ∧
  (vIt v).countP (fun i => !iHid i) ≤ 20
/-- a hidden file has a link (but the one at x) -/
def VH (v : VS) (x : Option Nat) : Prop := ∀ i ∈ vIt v, iIsS i = true → iHid i = true → ¬ x = some (iA i) → ∃ j ∈ vIt v, iIsJ j = true ∧ iFi j = iA i
def RL (σ : MS) (v : VS) (sl : Nat → Nat) : Prop :=
  (sMo σ = vMo v ∧ sNx σ = vNx v) ∧
  (((vIt v).map (sOf sl)).Nodup ∧ (∀ i ∈ vIt v, sOf sl i < 40) ∧ ∀ p, p < 40 → ¬ sKd σ p = 0 → ∃ i ∈ vIt v, sOf sl i = p) ∧
  (∀ i ∈ vIt v, Mt σ v (sOf sl i) i) ∧
  (∀ b, b < 48 → vUs v b = mUsed σ b) ∧
  (((vLn v).map (rOf sl)).Nodup ∧ (∀ r, r ∈ (vLn v).map (rOf sl) ↔ r < 80 ∧ mIsRecord σ r = true) ∧ ((vLn v).map (rOf sl)).Pairwise (fun r q => mBefore σ r q = true)) ∧
  (vMo v = true → (∀ p, p < 40 → ¬ sKd σ p = 0 → sEx σ p = 0 ∧ sLo σ p = false) ∧ sRe σ = 0 ∧ ∀ b, b < 48 → sTu σ b = false) ∧
  mOk σ
section RLP
variable {σ : MS} {v : VS} {sl : Nat → Nat} {c : Nat}
theorem PR.ln (h : PR v) {n : VLn} (hn : n ∈ vLn v) : ∃ i ∈ vIt v, iA i = lI n := h.1 n hn
theorem PR.lk (h : PR v) {i : VI} (hi : i ∈ vIt v) (hj : iIsJ i = true) : ∃ j ∈ vIt v, iIsS j = true ∧ iA j = iFi i := h.2.1 i hi hj
theorem PR.nd (h : PR v) : ((vIt v).map iA).Nodup := h.2.2.1
theorem PR.bl (h : PR v) {i : VI} (hi : i ∈ vIt v) (hs : iIsS i = true) : iLe i ≤ 48 ∧ ∀ j, iBl i j < 48 := h.2.2.2 i hi hs
theorem VG.asc (h : VG v c) : (vIt v).Pairwise (fun i j => iId i < iId j) := h.1
theorem VG.nx (h : VG v c) : ∃ nx, vNx v = nI nx ∧ 16 ≤ nx ∧ nx ≤ 16 + 2 * c ∧ ∀ i ∈ vIt v, ∃ d, iId i = nI d ∧ 16 ≤ d ∧ d < nx := h.2.1
theorem VG.na (h : VG v c) {i : VI} (hi : i ∈ vIt v) : ¬ iNa i < 0 := h.2.2.1 i hi
theorem VG.fo (h : VG v c) {i : VI} (hi : i ∈ vIt v) : (iIsS i = true ∧ iHid i = true ∧ iNa i = iId i) ∨ (iHid i = false ∧ (iFo i = 2 ∨ ∃ j ∈ vIt v, iIsD j = true ∧ iId j = iFo i)) := h.2.2.2.1 i hi
theorem VG.key (h : VG v c) {i j : VI} (hi : i ∈ vIt v) (hj : j ∈ vIt v) (e : iFo i = iFo j) (e2 : iNa i = iNa j) : i = j := h.2.2.2.2.1 i hi j hj e e2
theorem VG.bl (h : VG v c) {i j : VI} (hi : i ∈ vIt v) (hj : j ∈ vIt v) (si : iIsS i = true) (sj : iIsS j = true) {a b : Nat} (ha : a < iLe i) (hb : b < iLe j) (e : iBl i a = iBl j b) : i = j ∧ a = b := h.2.2.2.2.2.1 i hi j hj si sj a b ha hb e
theorem VG.fh (h : VG v c) {i : VI} (hi : i ∈ vIt v) (hj : iIsJ i = true) : iHid (fIt v i) = true := h.2.2.2.2.2.2.1 i hi hj
theorem VG.n20 (h : VG v c) : (vIt v).countP (fun i => !iHid i) ≤ 20 := h.2.2.2.2.2.2.2
theorem RL.mo (h : RL σ v sl) : sMo σ = vMo v := h.1.1
theorem RL.nx (h : RL σ v sl) : sNx σ = vNx v := h.1.2
theorem RL.snd (h : RL σ v sl) : ((vIt v).map (sOf sl)).Nodup := h.2.1.1
theorem RL.slt (h : RL σ v sl) {i : VI} (hi : i ∈ vIt v) : sOf sl i < 40 := h.2.1.2.1 i hi
theorem RL.sat (h : RL σ v sl) {p : Nat} (hp : p < 40) (hk : ¬ sKd σ p = 0) : ∃ i ∈ vIt v, sOf sl i = p := h.2.1.2.2 p hp hk
theorem RL.mt (h : RL σ v sl) {i : VI} (hi : i ∈ vIt v) : Mt σ v (sOf sl i) i := h.2.2.1 i hi
theorem RL.us (h : RL σ v sl) {b : Nat} (hb : b < 48) : vUs v b = mUsed σ b := h.2.2.2.1 b hb
theorem RL.lnd (h : RL σ v sl) : ((vLn v).map (rOf sl)).Nodup := h.2.2.2.2.1.1
theorem RL.rec (h : RL σ v sl) (r : Nat) : r ∈ (vLn v).map (rOf sl) ↔ r < 80 ∧ mIsRecord σ r = true := h.2.2.2.2.1.2.1 r
theorem RL.srt (h : RL σ v sl) : ((vLn v).map (rOf sl)).Pairwise (fun r q => mBefore σ r q = true) := h.2.2.2.2.1.2.2
theorem RL.cln (h : RL σ v sl) (hm : vMo v = true) : (∀ p, p < 40 → ¬ sKd σ p = 0 → sEx σ p = 0 ∧ sLo σ p = false) ∧ sRe σ = 0 ∧ ∀ b, b < 48 → sTu σ b = false := h.2.2.2.2.2.1 hm
theorem RL.ok (h : RL σ v sl) : mOk σ := h.2.2.2.2.2.2
end RLP
theorem Mt.id {σ : MS} {v : VS} {p : Nat} {i : VI} (h : Mt σ v p i) : sId σ p = iId i := h.1.1
theorem Mt.fo {σ : MS} {v : VS} {p : Nat} {i : VI} (h : Mt σ v p i) : sFo σ p = iFo i := h.1.2.1
theorem Mt.na {σ : MS} {v : VS} {p : Nat} {i : VI} (h : Mt σ v p i) : sNa σ p = iNa i := h.1.2.2.1
theorem Mt.kd {σ : MS} {v : VS} {p : Nat} {i : VI} (h : Mt σ v p i) : sKd σ p = kdI i := h.1.2.2.2
theorem Mt.ta {σ : MS} {v : VS} {p : Nat} {i : VI} (h : Mt σ v p i) : iIsJ i = true → sTa σ p = iId (fIt v i) := h.2.1
theorem Mt.bl {σ : MS} {v : VS} {p : Nat} {i : VI} (h : Mt σ v p i) : iIsS i = true → sMa σ p = iLe i ∧ ∀ j, j < iLe i → sLi σ (48 * p + j) = iBl i j := h.2.2
theorem kdI_D {i : VI} (h : iIsD i = true) : kdI i = 1 := by unfold kdI; rw [if_pos h]
theorem kdI_SH {i : VI} (h : iIsS i = true) (hh : iHid i = true) : kdI i = 4 := by
  rcases i3 i with ⟨h1, h2, h3⟩ | ⟨h1, h2, h3⟩ | ⟨h1, h2, h3⟩
  · rw [h2] at h; cases h
  · unfold kdI; simp [h1, h2, hh]
  · rw [h2] at h; cases h
theorem kdI_SN {i : VI} (h : iIsS i = true) (hh : ¬ iHid i = true) : kdI i = 2 := by
  rcases i3 i with ⟨h1, h2, h3⟩ | ⟨h1, h2, h3⟩ | ⟨h1, h2, h3⟩
  · rw [h2] at h; cases h
  · unfold kdI; simp [h1, h2, hh]
  · rw [h2] at h; cases h
theorem kdI_J {i : VI} (h : iIsJ i = true) : kdI i = 3 := by
  rcases i3 i with ⟨h1, h2, h3⟩ | ⟨h1, h2, h3⟩ | ⟨h1, h2, h3⟩
  · rw [h3] at h; cases h
  · rw [h3] at h; cases h
  · unfold kdI; simp [h1, h2]
/-- the four kinds -/
theorem kd4 (i : VI) : (iIsD i = true ∧ iIsS i = false ∧ iIsJ i = false ∧ kdI i = 1) ∨ (iIsS i = true ∧ iIsD i = false ∧ iIsJ i = false ∧ iHid i = false ∧ kdI i = 2) ∨ (iIsJ i = true ∧ iIsD i = false ∧ iIsS i = false ∧ kdI i = 3) ∨ (iIsS i = true ∧ iIsD i = false ∧ iIsJ i = false ∧ iHid i = true ∧ kdI i = 4) := by
  rcases i3 i with ⟨h1, h2, h3⟩ | ⟨h1, h2, h3⟩ | ⟨h1, h2, h3⟩
  · exact Or.inl ⟨h1, h2, h3, kdI_D h1⟩
  · by_cases hh : iHid i = true
    · exact Or.inr (Or.inr (Or.inr ⟨h2, h1, h3, hh, kdI_SH h2 hh⟩))
    · exact Or.inr (Or.inl ⟨h2, h1, h3, by simpa using hh, kdI_SN h2 hh⟩)
  · exact Or.inr (Or.inr (Or.inl ⟨h3, h1, h2, kdI_J h3⟩))
theorem kdI_ne (i : VI) : ¬ kdI i = 0 := by
  rcases kd4 i with h | h | h | h
  · rw [h.2.2.2]; decide
  · rw [h.2.2.2.2]; decide
  · rw [h.2.2.2]; decide
  · rw [h.2.2.2.2]; decide
section RLQ
variable {σ : MS} {v : VS} {sl : Nat → Nat} {c : Nat}
theorem id_inj (g : VG v c) {i j : VI} (hi : i ∈ vIt v) (hj : j ∈ vIt v) (e : iId i = iId j) : i = j := by
  obtain ⟨a, ha, ea⟩ := List.mem_iff_getElem.mp hi
  obtain ⟨b, hb, eb⟩ := List.mem_iff_getElem.mp hj
  have hp := List.pairwise_iff_getElem.mp g.asc
  rcases Nat.lt_trichotomy a b with h | h | h
  · have := hp a b ha hb h
    rw [ea, eb, e] at this
    exact absurd this (fun z => Int32.lt_irrefl z)
  · subst h; rw [← ea, ← eb]
  · have := hp b a hb ha h
    rw [ea, eb, e] at this
    exact absurd this (fun z => Int32.lt_irrefl z)
theorem sOf_inj (h : RL σ v sl) {i j : VI} (hi : i ∈ vIt v) (hj : j ∈ vIt v) (e : sOf sl i = sOf sl j) : i = j := by
  obtain ⟨a, ha, ea⟩ := List.mem_iff_getElem.mp hi
  obtain ⟨b, hb, eb⟩ := List.mem_iff_getElem.mp hj
  have : a = b := nd_inj h.snd (i := a) (j := b) (by simpa using ha) (by simpa using hb) (by rw [List.getElem_map, List.getElem_map, ea, eb]; exact e)
  subst this
  rw [← ea, ← eb]
theorem mem_at {i : VI} (hi : i ∈ vIt v) : ∃ k, k < (vIt v).length ∧ vAt v k = i := by
  obtain ⟨a, ha, ea⟩ := List.mem_iff_getElem.mp hi
  exact ⟨a, ha, by rw [vAt_get ha]; exact ea⟩
theorem RL.place (h : RL σ v sl) (g : VG v c) {i : VI} (hi : i ∈ vIt v) : mPlaceOf σ (iId i) = some (sOf sl i) := by
  have m := h.mt hi
  refine fdF_one (h.slt hi) (by simp [m.kd, m.id, kdI_ne]) (fun j hj hp => ?_)
  have hp := of_decide_eq_true hp
  obtain ⟨i2, h2, e2⟩ := h.sat hj hp.1
  have := (h.mt h2).id
  rw [e2, hp.2] at this
  rw [id_inj g hi h2 this, e2]
theorem RL.place0 (h : RL σ v sl) {d : Int32} (hn : ∀ i ∈ vIt v, ¬ iId i = d) : mPlaceOf σ d = none := by
  refine (fdF_none _ _ _).mpr (fun j _ hj hp => ?_)
  have hp := of_decide_eq_true hp
  obtain ⟨i2, h2, e2⟩ := h.sat (by omega) hp.1
  have := (h.mt h2).id
  rw [e2, hp.2] at this
  exact hn i2 h2 this.symm
theorem vIx_some {d : Int32} {k : Nat} (h : vIx v d = some k) : k < (vIt v).length ∧ vAt v k ∈ vIt v ∧ iId (vAt v k) = d := by
  have h1 := fdF_lt _ _ _ _ h
  exact ⟨by omega, vAt_mem (by omega), of_decide_eq_true h1.2.2⟩
theorem vIx_none {d : Int32} (h : vIx v d = none) : ∀ i ∈ vIt v, ¬ iId i = d := fun i hi e => by
  obtain ⟨k, hk, ek⟩ := mem_at hi
  exact (fdF_none _ _ _).mp h k (by omega) (by omega) (by simp [ek, e])
def slK (v : VS) (sl : Nat → Nat) (k : Nat) : Nat := sOf sl (vAt v k)
theorem RL.place' (h : RL σ v sl) (g : VG v c) (d : Int32) : mPlaceOf σ d = (vIx v d).map (slK v sl) := by
  match e : vIx v d with
  | none => exact h.place0 (vIx_none e)
  | some k =>
    obtain ⟨h1, h2, h3⟩ := vIx_some e
    rw [← h3]
    exact h.place g h2
theorem vEn_some {fo na : Int32} {k : Nat} (h : vEn v fo na = some k) : k < (vIt v).length ∧ vAt v k ∈ vIt v ∧ iHid (vAt v k) = false ∧ iFo (vAt v k) = fo ∧ iNa (vAt v k) = na := by
  have h1 := fdF_lt _ _ _ _ h
  have h2 := of_decide_eq_true h1.2.2
  exact ⟨by omega, vAt_mem (by omega), by simpa using h2.1, h2.2⟩
theorem vEn_none {fo na : Int32} (h : vEn v fo na = none) : ∀ i ∈ vIt v, iHid i = false → iFo i = fo → ¬ iNa i = na := fun i hi e1 e2 e3 => by
  obtain ⟨k, hk, ek⟩ := mem_at hi
  exact (fdF_none _ _ _).mp h k (by omega) (by omega) (by simp [ek, e1, e2, e3])
theorem kd13 (i : VI) : (¬ kdI i < 1 ∧ ¬ 3 < kdI i) ↔ iHid i = false ∨ iIsS i = false := by
  rcases kd4 i with h | h | h | h
  · rw [h.2.2.2]; simp [h.2.1]
  · rw [h.2.2.2.2]; simp [h.2.2.2.1]
  · rw [h.2.2.2]; simp [h.2.2.1]
  · rw [h.2.2.2.2]; simp [h.1, h.2.2.2.1]
theorem hidS (g : VG v c) {i : VI} (hi : i ∈ vIt v) : (iHid i = false ∨ iIsS i = false) ↔ iHid i = false := by
  refine ⟨fun h => ?_, Or.inl⟩
  rcases h with h | h
  · exact h
  · rcases g.fo hi with h1 | h1
    · rw [h1.1] at h; cases h
    · exact h1.1
theorem RL.ent (h : RL σ v sl) (g : VG v c) {i : VI} (hi : i ∈ vIt v) : (¬ sKd σ (sOf sl i) < 1 ∧ ¬ 3 < sKd σ (sOf sl i)) ↔ iHid i = false := by
  rw [(h.mt hi).kd, kd13, hidS g hi]
theorem kd0 {k : Int32} (h1 : ¬ k < 1) : ¬ k = 0 := fun e => h1 (by rw [e]; decide)
theorem RL.entry (h : RL σ v sl) (g : VG v c) (fo na : Int32) : mEntryOf σ fo na = (vEn v fo na).map (slK v sl) := by
  match e : vEn v fo na with
  | none =>
    refine (fdF_none _ _ _).mpr (fun j _ hj hp => ?_)
    have hp := of_decide_eq_true hp
    obtain ⟨i2, h2, e2⟩ := h.sat (by omega) (kd0 hp.1)
    subst e2
    exact vEn_none e i2 h2 ((h.ent g h2).mp ⟨hp.1, hp.2.1⟩) ((h.mt h2).fo.symm.trans hp.2.2.1) ((h.mt h2).na.symm.trans hp.2.2.2)
  | some k =>
    obtain ⟨h1, h2, h3, h4, h5⟩ := vEn_some e
    have m := h.mt h2
    have he := (h.ent g h2).mpr h3
    refine fdF_one (h.slt h2) (decide_eq_true ⟨he.1, he.2, m.fo.trans h4, m.na.trans h5⟩) (fun j hj hp => ?_)
    have hp := of_decide_eq_true hp
    obtain ⟨i2, g2, e2⟩ := h.sat hj (kd0 hp.1)
    subst e2
    rw [g.key g2 h2 ((h.mt g2).fo.symm.trans (hp.2.2.1.trans h4.symm)) ((h.mt g2).na.symm.trans (hp.2.2.2.trans h5.symm))]
    rfl
end RLQ
section RLR
variable {σ : MS} {v : VS} {sl : Nat → Nat} {c : Nat}
-- ids are at least 16
theorem VG.id16 (g : VG v c) {i : VI} (hi : i ∈ vIt v) (hc : c ≤ 600) : ∃ d, iId i = nI d ∧ 16 ≤ d ∧ d < 2000 := by
  obtain ⟨nx, -, -, h3, h4⟩ := g.nx
  obtain ⟨d, h5, h6, h7⟩ := h4 i hi
  exact ⟨d, h5, h6, by omega⟩
theorem VG.idne (g : VG v c) {i : VI} (hi : i ∈ vIt v) (hc : c ≤ 600) {k : Nat} (hk : k < 16) : ¬ iId i = nI k := fun e => by
  obtain ⟨d, h5, h6, h7⟩ := g.id16 hi hc
  rw [h5] at e
  have := (nI_eq (by omega) (by omega)).mp e
  omega
theorem RL.isFo (h : RL σ v sl) (g : VG v c) (d : Int32) : mIsFolder σ d = (vFo v d).isSome := by
  unfold mIsFolder vFo
  rw [h.place' g d]
  match e : vIx v d with
  | none =>
    by_cases e2 : d = 2
    · simp [e2]
    · simp [e2]
  | some k =>
    by_cases e2 : d = 2
    · simp [e2]
    · obtain ⟨h1, h2, h3⟩ := vIx_some e
      show decide (d = 2 ∨ sKd σ (sOf sl (vAt v k)) = 1) = _
      rw [if_neg e2, (h.mt h2).kd]
      rcases kd4 (vAt v k) with q | q | q | q
      · simp [q.1, q.2.2.2]
      · simp [q.2.1, q.2.2.2.2, e2]
      · simp [q.2.1, q.2.2.2, e2]
      · simp [q.2.1, q.2.2.2.2, e2]
/-- the item with the address q -/
theorem vIxA_eq (hp : PR v) {j : VI} (hj : j ∈ vIt v) : ∃ k, k < (vIt v).length ∧ vIxA v (iA j) = some k ∧ vAt v k = j := by
  obtain ⟨k, h1, h2, h3⟩ := vIxA_some hj
  exact ⟨k, h1, h2, iA_inj hp.nd (vAt_mem h1) hj h3⟩
theorem fIt_eq (hp : PR v) {i j : VI} (hj : j ∈ vIt v) (e : iA j = iFi i) : fIt v i = j := by
  obtain ⟨k, h1, h2, h3⟩ := vIxA_eq hp hj
  unfold fIt
  rw [← e, h2]
  exact h3
theorem lIt_eq (hp : PR v) {n : VLn} {j : VI} (hj : j ∈ vIt v) (e : iA j = lI n) : lIt v n = j := by
  obtain ⟨k, h1, h2, h3⟩ := vIxA_eq hp hj
  unfold lIt
  rw [← e, h2]
  exact h3
theorem fIt_mem (hp : PR v) {i : VI} (hi : i ∈ vIt v) (hj : iIsJ i = true) : fIt v i ∈ vIt v ∧ iIsS (fIt v i) = true ∧ iA (fIt v i) = iFi i := by
  obtain ⟨j, h1, h2, h3⟩ := hp.lk hi hj
  rw [fIt_eq hp h1 h3]
  exact ⟨h1, h2, h3⟩
theorem mFileAt_S (h : RL σ v sl) {i : VI} (hi : i ∈ vIt v) : mFileAt σ (sOf sl i) = if iIsS i = true then some (sOf sl i) else none := by
  unfold mFileAt
  rw [(h.mt hi).kd]
  rcases kd4 i with q | q | q | q
  · simp [q.2.1, q.2.2.2]
  · simp [q.1, q.2.2.2.2]
  · simp [q.2.2.1, q.2.2.2]
  · simp [q.1, q.2.2.2.2]
theorem RL.file (h : RL σ v sl) (g : VG v c) (hp : PR v) (d : Int32) : mFileOf σ d = (vFi v d).map (slK v sl) := by
  unfold mFileOf vFi
  rw [h.place' g d]
  match e : vIx v d with
  | none => rfl
  | some k =>
    obtain ⟨h1, h2, h3⟩ := vIx_some e
    show (if sKd σ (sOf sl (vAt v k)) = 3 then _ else mFileAt σ (sOf sl (vAt v k))) = _
    rw [mFileAt_S h h2, (h.mt h2).kd]
    show _ = (vFb v k).map _
    unfold vFb
    rcases kd4 (vAt v k) with q | q | q | q
    · simp [q.2.1, q.2.2.1, q.2.2.2]
    · simp [q.1, q.2.2.1, q.2.2.2.2, slK]
    · obtain ⟨m1, m2, m3⟩ := fIt_mem hp h2 q.1
      obtain ⟨k2, n1, n2, n3⟩ := vIxA_eq hp m1
      rw [if_pos q.2.2.2, if_pos q.1, show sTa σ (slK v sl k) = _ from (h.mt h2).ta q.1, h.place g m1]
      show mFileAt σ (sOf sl (fIt v (vAt v k))) = _
      rw [mFileAt_S h m1, if_pos m2, ← m3, n2]
      show some _ = some (sOf sl (vAt v k2))
      rw [n3]
    · simp [q.1, q.2.2.1, q.2.2.2.2, slK]
-- counts over the slots are counts over the items
theorem RL.cnt (h : RL σ v sl) {P : Nat → Bool} {Q : VI → Bool} (hP : ∀ p, p < 40 → P p = true → ¬ sKd σ p = 0) (hQ : ∀ i ∈ vIt v, P (sOf sl i) = Q i) : cnF P 40 0 0 = nI ((vIt v).countP Q) := by
  rw [cnM, cnt_perm h.snd (fun p hp => by
    obtain ⟨i, hi, e⟩ := List.mem_map.mp hp
    rw [← e]; exact h.slt hi) (fun p hp hp2 => by
      obtain ⟨i, hi, e⟩ := h.sat hp (hP p hp hp2)
      exact List.mem_map.mpr ⟨i, hi, e⟩), List.countP_map]
  exact congrArg nI (List.countP_congr (fun i hi => by show P (sOf sl i) = true ↔ _; rw [hQ i hi]))
theorem RL.entries (h : RL σ v sl) (g : VG v c) : mEntries σ = vEntries v := by
  unfold mEntries vEntries
  rw [cnV v (fun i => !iHid i)]
  refine h.cnt (fun p _ hp => kd0 (of_decide_eq_true hp).1) (fun i hi => ?_)
  have := h.ent g hi
  by_cases e : iHid i = true
  · rw [e] at this ⊢; simpa using this
  · have e : iHid i = false := by simpa using e
    rw [e] at this ⊢; simpa using this
theorem RL.entriesIn (h : RL σ v sl) (g : VG v c) {fo : Int32} (h3 : ¬ fo = 3) : mEntriesIn σ fo = vEntriesIn v fo := by
  unfold mEntriesIn vEntriesIn
  rw [cnV v (fun i => decide (iFo i = fo))]
  refine h.cnt (fun p _ hp => kd0 (of_decide_eq_true hp).1) (fun i hi => ?_)
  have he := h.ent g hi
  rw [(h.mt hi).fo]
  by_cases e : iFo i = fo
  · have e2 : iHid i = false := by unfold iHid; simp [e, h3]
    rw [decide_eq_true e, decide_eq_true]
    exact ⟨(he.mpr e2).1, (he.mpr e2).2, e⟩
  · rw [decide_eq_false e, decide_eq_false]
    exact fun z => e z.2.2
theorem RL.links (h : RL σ v sl) (g : VG v c) (hp : PR v) {j : VI} (hj : j ∈ vIt v) : mLinksFor σ (iId j) = vLinksFor v (iA j) := by
  unfold mLinksFor vLinksFor
  rw [cnV v (fun i => decide (iIsJ i = true ∧ iFi i = iA j))]
  refine h.cnt (fun p _ hp => by rw [(of_decide_eq_true hp).1]; decide) (fun i hi => ?_)
  rw [(h.mt hi).kd]
  by_cases e : iIsJ i = true
  · obtain ⟨m1, m2, m3⟩ := fIt_mem hp hi e
    rw [(h.mt hi).ta e, kdI_J e]
    by_cases e2 : iFi i = iA j
    · have : fIt v i = j := fIt_eq hp hj e2.symm
      rw [this]; simp [e, e2]
    · have : ¬ iId (fIt v i) = iId j := fun z => e2 (by rw [← id_inj g m1 hj z]; exact m3.symm)
      simp [e2, this]
  · have : ¬ kdI i = 3 := by
      rcases kd4 i with q | q | q | q
      · rw [q.2.2.2]; decide
      · rw [q.2.2.2.2]; decide
      · exact absurd q.1 e
      · rw [q.2.2.2.2]; decide
    simp [e, this]
theorem RL.isF (h : RL σ v sl) {i : VI} (hi : i ∈ vIt v) : mIsF σ (sOf sl i) = iIsS i := by
  unfold mIsF
  rw [(h.mt hi).kd]
  rcases kd4 i with q | q | q | q
  · simp [q.2.1, q.2.2.2]
  · simp [q.1, q.2.2.2.2]
  · simp [q.2.2.1, q.2.2.2]
  · simp [q.1, q.2.2.2.2]
theorem isF0 {p : Nat} (h : mIsF σ p = true) : ¬ sKd σ p = 0 := fun e => by
  rcases of_decide_eq_true h with z | z <;> rw [e] at z <;> revert z <;> decide
theorem RL.has (h : RL σ v sl) {i : VI} (hi : i ∈ vIt v) (hs : iIsS i = true) (b : Nat) : mHas σ b (sOf sl i) = sHas i b := by
  unfold mHas sHas
  obtain ⟨m1, m2⟩ := (h.mt hi).bl hs
  rw [m1, Bool.eq_iff_iff, anF_iff, anF_iff]
  refine ⟨fun ⟨j, h1, h2, h3⟩ => ⟨j, h1, h2, ?_⟩, fun ⟨j, h1, h2, h3⟩ => ⟨j, h1, h2, ?_⟩⟩
  · rw [m2 j (by omega)] at h3; exact h3
  · rw [m2 j (by omega)]; exact h3
theorem vListed_iff {b : Nat} : vListed v b = true ↔ ∃ i ∈ vIt v, iIsS i = true ∧ sHas i b = true := by
  unfold vListed
  rw [anF_iff]
  refine ⟨fun ⟨j, h1, h2, h3⟩ => ⟨vAt v j, vAt_mem (by omega), by simpa using h3⟩, fun ⟨i, hi, h1⟩ => ?_⟩
  obtain ⟨k, hk, ek⟩ := mem_at hi
  exact ⟨k, by omega, by omega, by rw [ek]; simpa using h1⟩
theorem RL.listed (h : RL σ v sl) (b : Nat) : mListed σ b = vListed v b := by
  rw [Bool.eq_iff_iff, vListed_iff]
  unfold mListed
  rw [anF_iff]
  refine ⟨fun ⟨p, _, h2, h3⟩ => ?_, fun ⟨i, hi, h1, h2⟩ => ⟨sOf sl i, by omega, by have := h.slt hi; omega, ?_⟩⟩
  · have h3 : mIsF σ p = true ∧ mHas σ b p = true := by simpa using h3
    obtain ⟨i, hi, e⟩ := h.sat (by omega) (isF0 h3.1)
    subst e
    rw [h.isF hi] at h3
    rw [h.has hi h3.1] at h3
    exact ⟨i, hi, h3⟩
  · rw [h.isF hi, h.has hi h1, h1, h2]; rfl
theorem RL.free (h : RL σ v sl) : mFreeBlocks σ = vUnused v := by
  unfold mFreeBlocks vUnused
  rw [cnM, cnM]
  refine congrArg nI (List.countP_congr (fun b hb => ?_))
  rw [h.us (List.mem_range.mp hb)]
theorem RL.exts (h : RL σ v sl) {i : VI} (hi : i ∈ vIt v) (hs : iIsS i = true) : mExtentsOf σ (sOf sl i) = sExt i := by
  unfold mExtentsOf sExt
  obtain ⟨m1, m2⟩ := (h.mt hi).bl hs
  rw [m1, cnM, cnM]
  refine congrArg nI (List.countP_congr (fun j hj => ?_))
  have hj := List.mem_range.mp hj
  unfold mBegins sBeg
  rw [decide_eq_true_iff, decide_eq_true_iff, m2 j hj]
  by_cases e : j = 0
  · simp [e]
  · rw [show 48 * sOf sl i + j - 1 = 48 * sOf sl i + (j - 1) by omega, m2 (j - 1) (by omega)]
end RLR
section RLS
variable {σ : MS} {v : VS} {sl : Nat → Nat} {c : Nat}
-- the answers of the reading calls are alike
theorem noName_eq (n : Int32) : mNoName n = !vIsName n := by
  unfold mNoName vIsName
  have h : (¬ n ≤ 99) ↔ 100 ≤ n := by
    rw [Int32.le_iff_toInt_le, Int32.le_iff_toInt_le, show (99 : Int32).toInt = 99 by decide, show (100 : Int32).toInt = 100 by decide]; omega
  by_cases h1 : n < 0
  · simp [h1]
  · by_cases h2 : 100 ≤ n
    · have := h.mpr h2; simp [h1, h2, this]
    · have : n ≤ 99 := Decidable.byContradiction (fun z => h2 (h.mp z))
      simp [h1, h2, this]
/-- an entry's folder is a folder -/
theorem VG.foF (g : VG v c) {i : VI} (hi : i ∈ vIt v) (hh : iHid i = false) : (vFo v (iFo i)).isSome = true := by
  rcases g.fo hi with h | ⟨-, h | ⟨j, hj, h1, h2⟩⟩
  · rw [h.2.1] at hh; cases hh
  · unfold vFo; simp [h]
  · unfold vFo
    by_cases e : iFo i = 2
    · simp [e]
    · rw [if_neg e]
      match e2 : vIx v (iFo i) with
      | none => exact absurd h2 (vIx_none e2 j hj)
      | some k =>
        obtain ⟨a1, a2, a3⟩ := vIx_some e2
        have : vAt v k = j := id_inj g a2 hj (a3.trans h2.symm)
        simp [this, h1]
theorem RL.find (h : RL σ v sl) (g : VG v c) (par nm : Int32) : mFind σ par nm = vFind v par nm := by
  unfold mFind vFind
  rw [h.mo, noName_eq, h.entry g, h.isFo g]
  by_cases hm : vMo v = true
  · rw [if_pos hm, if_pos hm]
    by_cases hn : vIsName nm = true
    · rw [hn, if_neg (by decide), if_pos rfl]
      match e : vEn v par nm with
      | none => rfl
      | some k =>
        obtain ⟨h1, h2, h3, h4, h5⟩ := vEn_some e
        show (if (vFo v par).isSome = true then sId σ (sOf sl (vAt v k)) else -3) = iId (vAt v k)
        have := g.foF h2 h3
        rw [h4] at this
        rw [if_pos this, (h.mt h2).id]
    · have hn : vIsName nm = false := by simpa using hn
      rw [hn]; rfl
  · rw [if_neg hm, if_neg hm]
theorem vFi_some (hp : PR v) {d : Int32} {k : Nat} (h : vFi v d = some k) : k < (vIt v).length ∧ vAt v k ∈ vIt v ∧ iIsS (vAt v k) = true := by
  unfold vFi at h
  match e : vIx v d with
  | none => rw [e] at h; cases h
  | some j =>
    rw [e] at h
    obtain ⟨a1, a2, a3⟩ := vIx_some e
    have h : vFb v j = some k := h
    unfold vFb at h
    by_cases hj : iIsJ (vAt v j) = true
    · rw [if_pos hj] at h
      obtain ⟨m1, m2, m3⟩ := fIt_mem hp a2 hj
      obtain ⟨k2, n1, n2, n3⟩ := vIxA_eq hp m1
      rw [← m3, n2] at h
      cases h
      rw [n3]
      exact ⟨n1, m1, m2⟩
    · rw [if_neg hj] at h
      by_cases hs : iIsS (vAt v j) = true
      · rw [if_pos hs] at h
        cases h
        exact ⟨a1, a2, hs⟩
      · rw [if_neg hs] at h; cases h
theorem RL.size (h : RL σ v sl) (g : VG v c) (hp : PR v) (d : Int32) : mSize σ d = vSize v d := by
  unfold mSize vSize
  rw [h.mo, h.file g hp]
  by_cases hm : vMo v = true
  · rw [if_pos hm, if_pos hm]
    match e : vFi v d with
    | none => rfl
    | some k =>
      obtain ⟨h1, h2, h3⟩ := vFi_some hp e
      show nI (sMa σ (sOf sl (vAt v k))) = _
      rw [((h.mt h2).bl h3).1]
  · rw [if_neg hm, if_neg hm]
theorem RL.block (h : RL σ v sl) (g : VG v c) (hp : PR v) (d j : Int32) : mBlock σ d j = vBlock v d j := by
  unfold mBlock vBlock
  rw [h.mo, h.file g hp]
  by_cases hm : vMo v = true
  · rw [if_pos hm, if_pos hm]
    match e : vFi v d with
    | none => rfl
    | some k =>
      obtain ⟨h1, h2, h3⟩ := vFi_some hp e
      obtain ⟨m1, m2⟩ := (h.mt h2).bl h3
      have hle := (hp.bl h2 h3).1
      show (if j < 0 then (-2 : Int32) else if j < nI (sMa σ (sOf sl (vAt v k))) then nI (sLi σ (48 * sOf sl (vAt v k) + j.toNatClampNeg)) else -2) = _
      rw [m1]
      by_cases hj : j < 0
      · rw [if_pos hj]; simp [hj]
      · rw [if_neg hj]
        by_cases hj2 : j < nI (iLe (vAt v k))
        · rw [if_pos hj2, m2 _ (nn_lt hj (by omega) hj2)]; simp [hj, hj2]
        · rw [if_neg hj2]; simp [hj, hj2]
  · rw [if_neg hm, if_neg hm]
theorem RL.extents (h : RL σ v sl) (g : VG v c) (hp : PR v) (d : Int32) : mExtents σ d = vExtents v d := by
  unfold mExtents vExtents
  rw [h.mo, h.file g hp]
  by_cases hm : vMo v = true
  · rw [if_pos hm, if_pos hm]
    match e : vFi v d with
    | none => rfl
    | some k =>
      obtain ⟨h1, h2, h3⟩ := vFi_some hp e
      exact h.exts h2 h3
  · rw [if_neg hm, if_neg hm]
theorem RL.kept (h : RL σ v sl) (g : VG v c) (kc : KC σ v sl c) (hc : c ≤ 600) {i : VI} (hi : i ∈ vIt v) (hd : iIsD i = true) : mKeptValence σ (iId i) = iEn i := by
  obtain ⟨e, e1, e2, e3, e4⟩ := kc.1 i hi
  unfold mKeptValence
  rw [h.entriesIn g (g.idne hi hc (k := 3) (by omega)), if_neg (show ¬ iId i = 2 from g.idne hi hc (k := 2) (by omega)), h.place g hi, e3 hd]
  show _ + sEx σ (sOf sl i) = _
  rw [e2]
theorem RL.valence (h : RL σ v sl) (g : VG v c) (kc : KC σ v sl c) (hc : c ≤ 600) (d : Int32) : mValence σ d = vValence v d := by
  unfold mValence vValence
  rw [h.mo, h.isFo g]
  by_cases hm : vMo v = true
  · rw [if_pos hm, if_pos hm]
    match e : vFo v d with
    | none => rfl
    | some none =>
      have e2 : d = 2 := Decidable.byContradiction (fun z => by
        unfold vFo at e
        rw [if_neg z] at e
        split at e
        · cases e
        · split at e <;> cases e)
      obtain ⟨x, x1, x2, x3⟩ := kc.2
      show mKeptValence σ d = vRe v
      unfold mKeptValence
      rw [e2, if_pos rfl, h.entriesIn g (by decide), x2, x3]
    | some (some k) =>
      have hd : ¬ d = 2 := fun z => by unfold vFo at e; rw [if_pos z] at e; cases e
      unfold vFo at e
      rw [if_neg hd] at e
      match e2 : vIx v d with
      | none => rw [e2] at e; cases e
      | some j =>
        rw [e2] at e
        obtain ⟨a1, a2, a3⟩ := vIx_some e2
        have e : (if iIsD (vAt v j) = true then some (some j) else none) = some (some k) := e
        by_cases hD : iIsD (vAt v j) = true
        · rw [if_pos hD] at e
          cases e
          rw [← a3]
          exact h.kept g kc hc a2 hD
        · rw [if_neg hD] at e; cases e
  · rw [if_neg hm, if_neg hm]
-- records
theorem rOf_mod (sl : Nat → Nat) (n : VLn) : rOf sl n % 2 = if lT n = true then 1 else 0 := by unfold rOf; split <;> omega
theorem rOf_div (sl : Nat → Nat) (n : VLn) : rOf sl n / 2 = sl (lI n) := by unfold rOf; split <;> omega
theorem RL.keyId (h : RL σ v sl) {n : VLn} {i : VI} (hi : i ∈ vIt v) (e : iA i = lI n) : mKeyId σ (rOf sl n) = lKid n i ∧ mKeyName σ (rOf sl n) = lKna n i := by
  unfold mKeyId mKeyName lKid lKna
  have m := h.mt hi
  have d : rOf sl n / 2 = sOf sl i := by rw [rOf_div, ← e]; rfl
  rw [rOf_mod, d]
  by_cases ht : lT n = true
  · simp [ht, m.id]
  · simp [ht, m.fo, m.na]
theorem ltI {a b : Int32} : a < b ↔ ¬ b ≤ a := by rw [Int32.lt_iff_toInt_lt, Int32.le_iff_toInt_le]; omega
theorem RL.bef (h : RL σ v sl) {n n2 : VLn} {i i2 : VI} (hi : i ∈ vIt v) (e : iA i = lI n) (hi2 : i2 ∈ vIt v) (e2 : iA i2 = lI n2) : mBefore σ (rOf sl n) (rOf sl n2) = lBef n i n2 i2 := by
  unfold mBefore lBef
  rw [(h.keyId hi e).1, (h.keyId hi e).2, (h.keyId hi2 e2).1, (h.keyId hi2 e2).2, Bool.eq_iff_iff, decide_eq_true_iff]
  by_cases z : lKid n i = lKid n2 i2
  · rw [if_pos z, decide_eq_true_iff, z]
    exact ⟨fun q => q.elim (fun q => absurd q (fun z => Int32.lt_irrefl z)) (fun q => q.2), fun q => Or.inr ⟨rfl, q⟩⟩
  · rw [if_neg z, decide_eq_true_iff, ltI]
    exact ⟨fun q => q.elim id (fun q => absurd q.1 z), Or.inl⟩
theorem bef_asym {r q : Nat} (h : mBefore σ r q = true) : ¬ mBefore σ q r = true := fun h2 => by
  have a := of_decide_eq_true h
  have b := of_decide_eq_true h2
  rw [Int32.lt_iff_toInt_lt, Int32.le_iff_toInt_le, ← Int32.toInt_inj] at a b
  omega
theorem bef_irr {r : Nat} : ¬ mBefore σ r r = true := fun h => bef_asym h h
/-- in a list in order, as many come before an element as its place says -/
theorem cnt_sorted {P : Nat → Nat → Bool} (ha : ∀ a b, P a b = true → ¬ P b a = true) : ∀ (l : List Nat) (_ : l.Pairwise (fun a b => P a b = true)) (k : Nat) (hk : k < l.length), l.countP (fun q => P q l[k]) = k := by
  intro l
  induction l with
  | nil => intro _ k hk; exact absurd hk (Nat.not_lt_zero _)
  | cons x l ih =>
    intro hs k hk
    rw [List.pairwise_cons] at hs
    cases k with
    | zero =>
      rw [List.countP_eq_zero]
      intro q hq
      show ¬ P q x = true
      rcases List.mem_cons.mp hq with e | e
      · rw [e]; exact fun z => ha _ _ z z
      · exact ha _ _ (hs.1 q e)
    | succ k =>
      have hk' : k < l.length := by simpa using hk
      rw [List.countP_cons]
      show List.countP (fun q => P q l[k]) l + (if P x l[k] = true then 1 else 0) = _
      rw [ih hs.2 k hk', if_pos (show P x l[k] = true from hs.1 _ (List.getElem_mem hk'))]
theorem RL.rank (h : RL σ v sl) {k : Nat} (hk : k < (vLn v).length) : mRank σ (rOf sl (vLt v k)) = nI k := by
  unfold mRank
  rw [cnM, cnt_perm h.lnd (fun p hp => ((h.rec p).mp hp).1) (fun p hp hq => (h.rec p).mpr ⟨hp, by simp at hq; exact hq.1⟩)]
  have hk2 : k < ((vLn v).map (rOf sl)).length := by simpa using hk
  have e : rOf sl (vLt v k) = ((vLn v).map (rOf sl))[k] := by rw [List.getElem_map]; unfold vLt; rw [getD_lt hk]
  rw [e]
  refine congrArg nI (Eq.trans ?_ (cnt_sorted (P := fun a b => mBefore σ a b) (fun a b => bef_asym) _ h.srt k hk2))
  refine List.countP_congr (fun q hq => ?_)
  have := ((h.rec q).mp hq).2
  simp [this]
theorem RL.len80 (h : RL σ v sl) : (vLn v).length ≤ 80 := by
  have h2 := cnt_perm (P := fun r => decide (r ∈ (vLn v).map (rOf sl))) h.lnd (fun p hp => ((h.rec p).mp hp).1) (fun p hp hq => of_decide_eq_true hq)
  rw [(List.countP_eq_length (l := (vLn v).map (rOf sl))).mpr (fun r hr => decide_eq_true hr), List.length_map] at h2
  rw [← h2]
  exact Nat.le_trans List.countP_le_length (by simp)
theorem RL.recs (h : RL σ v sl) : mRecords σ = nI (vLn v).length := by
  unfold mRecords
  rw [cnM, cnt_perm h.lnd (fun p hp => ((h.rec p).mp hp).1) (fun p hp hq => (h.rec p).mpr ⟨hp, hq⟩)]
  rw [List.countP_eq_length.mpr (fun r hr => ((h.rec r).mp hr).2), List.length_map]
end RLS
section RLT
variable {σ : MS} {v : VS} {sl : Nat → Nat} {c : Nat}
theorem vLt_of {n : VLn} (hn : n ∈ vLn v) : ∃ k, k < (vLn v).length ∧ vLt v k = n := by
  obtain ⟨a, ha, ea⟩ := List.mem_iff_getElem.mp hn
  exact ⟨a, ha, by unfold vLt; rw [getD_lt ha]; exact ea⟩
theorem RL.ranked (h : RL σ v sl) {k : Nat} (hk : k < (vLn v).length) : mRanked σ (nI k) = some (rOf sl (vLt v k)) := by
  have h80 := h.len80
  have hm : rOf sl (vLt v k) ∈ (vLn v).map (rOf sl) := List.mem_map.mpr ⟨_, vLt_mem hk, rfl⟩
  have hr := (h.rec _).mp hm
  refine fdF_one hr.1 (by simp [hr.2, h.rank hk]) (fun j hj hp => ?_)
  have hp : mIsRecord σ j = true ∧ mRank σ j = nI k := by simpa using hp
  obtain ⟨n, hn, e⟩ := List.mem_map.mp ((h.rec j).mpr ⟨hj, hp.1⟩)
  obtain ⟨k2, hk2, e2⟩ := vLt_of hn
  rw [← e, ← e2, h.rank hk2] at hp
  have := (nI_eq (by omega) (by omega)).mp hp.2
  rw [← e, ← e2, this]
theorem RL.ranked0 (h : RL σ v sl) {x : Int32} (hx : ∀ k, k < (vLn v).length → ¬ nI k = x) : mRanked σ x = none := by
  refine (fdF_none _ _ _).mpr (fun j _ hj hp => ?_)
  have hp : mIsRecord σ j = true ∧ mRank σ j = x := by simpa using hp
  obtain ⟨n, hn, e⟩ := List.mem_map.mp ((h.rec j).mpr ⟨by omega, hp.1⟩)
  obtain ⟨k2, hk2, e2⟩ := vLt_of hn
  rw [← e, ← e2, h.rank hk2] at hp
  exact hx k2 hk2 hp.2
theorem le4 {w : Int32} (h0 : ¬ w < 0) (h4 : w ≤ 4) : w = 0 ∨ w = 1 ∨ w = 2 ∨ w = 3 ∨ w = 4 := by
  obtain ⟨j, hj, rfl⟩ := nI_of h0
  have := (nI_leI hj (by omega)).mp (show nI j ≤ nI 4 from h4)
  have : j = 0 ∨ j = 1 ∨ j = 2 ∨ j = 3 ∨ j = 4 := by omega
  rcases this with e | e | e | e | e <;> subst e <;> decide
theorem RL.row (h : RL σ v sl) (g : VG v c) (hp : PR v) (kc : KC σ v sl c) (hc : c ≤ 600) (x w : Int32) : mRow σ x w = vRow v x w := by
  have h80 := h.len80
  unfold mRow vRow
  by_cases hx : x < 0
  · rw [if_neg (by rw [Int32.le_iff_toInt_le]; rw [Int32.lt_iff_toInt_lt] at hx; omega), if_pos hx]
  · rw [if_pos (by rw [Int32.le_iff_toInt_le]; rw [Int32.lt_iff_toInt_lt] at hx; omega), if_neg hx]
    obtain ⟨k, hk, rfl⟩ := nI_of hx
    by_cases hk2 : k < (vLn v).length
    · rw [if_pos ((nI_ltI hk (by omega)).mpr hk2), h.ranked hk2, nI_clamp hk]
      have hn := vLt_mem hk2
      obtain ⟨i, hi, e⟩ := hp.ln hn
      have el : lIt v (vLt v k) = i := lIt_eq hp hi e
      have m := h.mt hi
      have d : rOf sl (vLt v k) / 2 = sOf sl i := by rw [rOf_div, ← e]; rfl
      have md := rOf_mod sl (vLt v k)
      show (if w < 0 then (-2 : Int32) else if w ≤ 4 then _ else -2) = if w = 0 then _ else _
      rw [el]
      obtain ⟨k1, k2⟩ := h.keyId hi e
      have kk : mKindOf σ (rOf sl (vLt v k)) = lKin (vLt v k) i := by
        unfold mKindOf lKin
        rw [d, md, m.kd]
        unfold iTk iOk
        by_cases ht : lT (vLt v k) = true
        · rcases kd4 i with q | q | q | q
          · simp [ht, q.1, q.2.2.2]
          · simp [ht, q.2.1, q.2.2.2.2]
          · simp [ht, q.2.1, q.2.2.2]
          · simp [ht, q.2.1, q.2.2.2.2]
        · rcases kd4 i with q | q | q | q
          · simp [ht, q.1, q.2.2.2]
          · simp [ht, q.1, q.2.1, q.2.2.2.2]
          · simp [ht, q.2.1, q.2.2.1, q.2.2.2]
          · simp [ht, q.1, q.2.1, q.2.2.2.2]
      have kv : mValueOf σ (rOf sl (vLt v k)) = lVal (vLt v k) i := by
        unfold mValueOf lVal
        rw [d, md, m.id, m.fo]
        by_cases ht : lT (vLt v k) = true
        · simp [ht]
        · simp [ht]
      have km : mMoreOf σ (rOf sl (vLt v k)) = lMor (vLt v k) i (fIt v i) := by
        unfold mMoreOf lMor iOm
        rw [d, md, m.id, m.na, m.kd]
        by_cases ht : lT (vLt v k) = true
        · simp [ht]
        · rcases kd4 i with q | q | q | q
          · simp [ht, q.1, q.2.2.2, h.kept g kc hc hi q.1]
          · simp [ht, q.1, q.2.1, q.2.2.2.2, (m.bl q.1).1]
          · simp [ht, q.2.1, q.2.2.1, q.2.2.2, m.ta q.1]
          · simp [ht, q.1, q.2.1, q.2.2.2.2, (m.bl q.1).1]
      rw [k1, k2, kk, kv, km]
      by_cases hw : w < 0
      · have n0 : ¬ w = 0 := fun z => by rw [z] at hw; exact absurd hw (by decide)
        have n1 : ¬ w = 1 := fun z => by rw [z] at hw; exact absurd hw (by decide)
        have n2 : ¬ w = 2 := fun z => by rw [z] at hw; exact absurd hw (by decide)
        have n3 : ¬ w = 3 := fun z => by rw [z] at hw; exact absurd hw (by decide)
        have n4 : ¬ w = 4 := fun z => by rw [z] at hw; exact absurd hw (by decide)
        simp [hw, n0, n1, n2, n3, n4]
      · by_cases hw4 : w ≤ 4
        · rcases le4 hw hw4 with z | z | z | z | z <;> subst z <;> simp [hw, hw4]
        · have n0 : ¬ w = 0 := fun z => hw4 (by rw [z]; decide)
          have n1 : ¬ w = 1 := fun z => hw4 (by rw [z]; decide)
          have n2 : ¬ w = 2 := fun z => hw4 (by rw [z]; decide)
          have n3 : ¬ w = 3 := fun z => hw4 (by rw [z]; decide)
          have n4 : ¬ w = 4 := fun z => hw4 (by rw [z]; decide)
          simp [hw, hw4, n0, n1, n2, n3, n4]
    · rw [if_neg (fun z => hk2 ((nI_ltI hk (by omega)).mp z)), h.ranked0 (fun k2 h2 z => hk2 (by rw [(nI_eq (by omega) hk).mp z] at h2; exact h2))]
-- sums over the slots are sums over the items
theorem smF_range {g : Nat → Int32} (n : Nat) (a : Int32) : flF (fun k a => a + g k) n 0 a = a + smF g (List.range n) := by
  rw [flF_eq, List.range_eq_range']
def smI (g : VI → Int32) : List VI → Int32
  | [] => 0
  | i :: l => g i + smI g l
theorem smI_map (g : Nat → Int32) (f : VI → Nat) : ∀ l : List VI, smF g (l.map f) = smI (fun i => g (f i)) l := by
  intro l
  induction l with
  | nil => rfl
  | cons x l ih => rw [List.map_cons, smF, smI, ih]
theorem smI_cong {g g2 : VI → Int32} : ∀ l : List VI, (∀ p ∈ l, g p = g2 p) → smI g l = smI g2 l := by
  intro l
  induction l with
  | nil => intro _; rfl
  | cons x l ih => intro h; rw [smI, smI, h x List.mem_cons_self, ih (fun p hp => h p (List.mem_cons_of_mem _ hp))]
theorem flF_cong {g g2 : Nat → Int32 → Int32} (h : ∀ k a, g k a = g2 k a) (n k : Nat) (a : Int32) : flF g n k a = flF g2 n k a := by
  rw [show g = g2 from funext (fun k => funext (fun a => h k a))]
theorem flV (v : VS) (g : VI → Int32) (a : Int32) : flF (fun k a => a + g (vAt v k)) (vIt v).length 0 a = a + smI g (vIt v) := by
  rw [smF_range]
  congr 1
  have h1 : smI g ((List.range (vIt v).length).map (vAt v)) = smI g (vIt v) := congrArg _ (map_at (vIt v) vI0)
  rw [← h1]
  generalize List.range (vIt v).length = l
  induction l with
  | nil => rfl
  | cons x l ih => rw [List.map_cons, smF, smI, ih]
theorem RL.sum (h : RL σ v sl) {P : Nat → Int32} {Q : VI → Int32} (hP : ∀ p, p < 40 → sKd σ p = 0 → P p = 0) (hQ : ∀ i ∈ vIt v, P (sOf sl i) = Q i) : smF P (List.range 40) = smI Q (vIt v) := by
  rw [sm_perm h.snd (fun p hp => by
    obtain ⟨i, hi, e⟩ := List.mem_map.mp hp
    rw [← e]; exact h.slt hi) (fun p hp hp2 => hP p hp (Decidable.byContradiction (fun z => by
      obtain ⟨i, hi, e⟩ := h.sat hp z
      exact hp2 (List.mem_map.mpr ⟨i, hi, e⟩)))), smI_map]
  exact smI_cong _ hQ
theorem sExt_n {i : VI} (hl : iLe i ≤ 48) : ∃ n, sExt i = nI n ∧ n ≤ 48 := by
  refine ⟨(List.range (iLe i)).countP (fun j => sBeg i j), cnM _ _, ?_⟩
  have : (List.range (iLe i)).countP (fun j => sBeg i j) ≤ (List.range (iLe i)).length := List.countP_le_length
  rw [List.length_range] at this
  omega
theorem ov_eq {n : Nat} (hn : n ≤ 48) : (if nI n ≤ 2 then (0 : Int32) else nI n - 2) = if 0 < nI n - 2 then nI n - 2 else 0 := by
  by_cases h2 : n ≤ 2
  · have : n = 0 ∨ n = 1 ∨ n = 2 := by omega
    rcases this with e | e | e <;> subst e <;> decide
  · rw [show (2 : Int32) = nI 2 from rfl, if_neg (show ¬ nI n ≤ nI 2 from fun z => h2 ((nI_leI (by omega) (by omega)).mp z)), pk_sub (by omega), if_pos (show (0 : Int32) < nI (n - 2) from nI_lt (a := 0) (by omega) (by omega))]
theorem RL.overflows (h : RL σ v sl) (hp : PR v) : mOverflows σ = vOverflows v := by
  unfold mOverflows vOverflows
  rw [flF_cong (g2 := fun k a => a + (if mE σ k ≤ 2 then 0 else mE σ k - 2)) (fun k a => by
    split
    · simp
    · rw [Int32.sub_eq_add_neg, Int32.add_assoc, ← Int32.sub_eq_add_neg]), smF_range, flV v iOv]
  refine congrArg (fun z => (0 : Int32) + z) ?_
  refine h.sum (fun p _ hk => ?_) (fun i hi => ?_)
  · have : mE σ p = 0 := by
      unfold mE
      rw [if_neg (fun z => isF0 z hk)]
    rw [this]; decide
  · unfold mE iOv
    rw [h.isF hi]
    by_cases hs : iIsS i = true
    · rw [if_pos hs, if_pos hs, h.exts hi hs]
      obtain ⟨n, e, hn⟩ := sExt_n (hp.bl hi hs).1
      rw [e]
      exact ov_eq hn
    · rw [if_neg hs, if_neg hs]; decide
end RLT
section RLU
variable {σ : MS} {v : VS} {sl : Nat → Nat} {c : Nat}
theorem nI_le0 {n : Nat} (h : n < 2 ^ 31) : nI n ≤ 0 ↔ n = 0 := by
  have := nI_leI h (b := 0) (by omega)
  rw [show nI 0 = (0 : Int32) from rfl] at this
  rw [this]; omega
theorem cn_pos {P : Nat → Bool} {n : Nat} (h : n < 2 ^ 31) : cnF P n 0 0 ≤ 0 ↔ anF P n 0 = false := by
  have hl : (List.range n).countP P ≤ n := Nat.le_trans List.countP_le_length (by simp)
  rw [cnM, nI_le0 (by omega), List.countP_eq_zero, ← Bool.not_eq_true, anF_iff]
  exact ⟨fun h ⟨j, _, h2, h3⟩ => h j (List.mem_range.mpr (by omega)) h3, fun h j hj h3 => h ⟨j, by omega, by have := List.mem_range.mp hj; omega, h3⟩⟩
/-- what is harmed in the reference -/
def hV (σ : MS) (p : Nat) : Bool := decide (sKd σ p = 1 ∧ ¬ sEx σ p ≤ 0)
def hT (σ : MS) (p : Nat) : Bool := decide (¬ sKd σ p = 0 ∧ sLo σ p = true)
def hC (σ : MS) (p : Nat) : Bool := decide (sKd σ p = 4 ∧ ¬ sEx σ p ≤ 0)
def hW (σ : MS) (li : Bool) (b : Nat) : Bool := decide (sTu σ b = true ∧ mListed σ b = li)
theorem ck2_eq (σ : MS) (x t y : Int32) : ∀ (n k : Nat) (B C : Bool), ck2 σ x t y n k ((if B = true then 2 else 0) ||| (if C = true then 4 else 0)) = x + ((if (B || anF (hW σ true) n k) = true then 2 else 0) ||| (if (C || anF (hW σ false) n k) = true then 4 else 0)) + t + y := by
  intro n
  induction n with
  | zero => intro k B C; rw [ck2, anF, anF, Bool.or_false, Bool.or_false]
  | succ n ih =>
    intro k B C
    rw [ck2, anF, anF]
    have e : ((if B = true then (2 : Int32) else 0) ||| (if C = true then 4 else 0)) ||| (if sTu σ k = true then (if mListed σ k = true then 2 else 4) else 0) = (if (B || hW σ true k) = true then 2 else 0) ||| (if (C || hW σ false k) = true then 4 else 0) := by
      unfold hW
      cases B <;> cases C <;> cases sTu σ k <;> cases mListed σ k <;> decide
    rw [e, ih]
    have f : ∀ (B P A : Bool), ((B || P) || A) = (B || if P = true then true else A) := by decide
    rw [f, f]
theorem ck1_eq (σ : MS) : ∀ (n k : Nat) (V T C : Bool), ck1 σ n k (if V = true then 1 else 0) (if T = true then 8 else 0) (if C = true then 16 else 0) = ck2 σ (if (V || anF (hV σ) n k) = true then 1 else 0) (if (T || anF (hT σ) n k) = true then 8 else 0) (if (C || anF (hC σ) n k) = true then 16 else 0) 48 0 0 := by
  intro n
  induction n with
  | zero => intro k V T C; rw [ck1, anF, anF, anF, Bool.or_false, Bool.or_false, Bool.or_false]
  | succ n ih =>
    intro k V T C
    rw [ck1, anF, anF, anF]
    have e : ∀ (q : Prop) [Decidable q] (V : Bool) (x : Int32), (if q then x else if V = true then x else 0) = if (V || decide q) = true then x else 0 := fun q _ V x => by
      by_cases hq : q
      · simp [hq]
      · simp [hq]
    rw [e, e, e, ih]
    have f : ∀ (B P A : Bool), ((B || P) || A) = (B || if P = true then true else A) := by decide
    rw [f, f, f]
    rfl
theorem mCheck_eq (σ : MS) : mCheck σ = (if (!decide (sRe σ ≤ 0) || anF (hV σ) 40 0) = true then 1 else 0) + ((if anF (hW σ true) 48 0 = true then 2 else 0) ||| (if anF (hW σ false) 48 0 = true then 4 else 0)) + (if anF (hT σ) 40 0 = true then 8 else 0) + (if anF (hC σ) 40 0 = true then 16 else 0) := by
  unfold mCheck
  have e : (if sRe σ ≤ 0 then (0 : Int32) else 1) = if (!decide (sRe σ ≤ 0)) = true then 1 else 0 := by
    by_cases h : sRe σ ≤ 0
    · simp [h]
    · simp [h]
  rw [e]
  have h1 := ck1_eq σ 40 0 (!decide (sRe σ ≤ 0)) false false
  rw [show (if false = true then (8 : Int32) else 0) = 0 from rfl, show (if false = true then (16 : Int32) else 0) = 0 from rfl] at h1
  rw [h1]
  have h2 := ck2_eq σ (if ((!decide (sRe σ ≤ 0)) || anF (hV σ) 40 0) = true then 1 else 0) (if (false || anF (hT σ) 40 0) = true then 8 else 0) (if (false || anF (hC σ) 40 0) = true then 16 else 0) 48 0 false false
  rw [show ((if false = true then (2 : Int32) else 0) ||| (if false = true then 4 else 0)) = 0 by decide] at h2
  rw [h2]
  rfl
-- the class's counts of what is wrong
theorem smI_cnt {g : VI → Int32} {Q : VI → Bool} : ∀ l : List VI, (∀ i ∈ l, g i = if Q i = true then 1 else 0) → smI g l = nI (l.countP Q) := by
  intro l
  induction l with
  | nil => intro _; rfl
  | cons x l ih =>
    intro h
    rw [smI, ih (fun i hi => h i (List.mem_cons_of_mem _ hi)), h x List.mem_cons_self, List.countP_cons]
    by_cases hx : Q x = true
    · rw [if_pos hx, if_pos hx, Int32.add_comm]; exact nI_1 _
    · rw [if_neg hx, if_neg hx]; simp
theorem add_same {x : Int32} {e : Nat} (he : e < 2 ^ 31) : x + nI e = x ↔ e = 0 := by
  refine ⟨fun h => ?_, fun h => by subst h; rw [nI_0]; simp⟩
  have : nI e = 0 := by
    have := congrArg (fun z => z - x) h
    simp only [Int32.sub_self] at this
    rw [Int32.add_comm, Int32.add_sub_cancel] at this
    exact this
  exact Decidable.byContradiction (fun z => nI_ne0 (by omega) he this)
theorem KC.wr (kc : KC σ v sl c) (hc : c ≤ 600) : vWr v = if (!decide (sRe σ ≤ 0)) = true then 1 else 0 := by
  obtain ⟨e, e1, e2, e3⟩ := kc.2
  unfold vWr
  rw [e2, e3]
  by_cases h0 : e = 0
  · rw [if_pos ((add_same (by omega)).mpr h0), (decide_eq_true ((nI_le0 (by omega)).mpr h0))]; rfl
  · rw [if_neg (fun z => h0 ((add_same (by omega)).mp z)), (decide_eq_false (fun z => h0 ((nI_le0 (by omega)).mp z)))]; rfl
theorem KC.exle (kc : KC σ v sl c) (hc : c ≤ 600) {i : VI} (hi : i ∈ vIt v) : ∃ e, sEx σ (sOf sl i) = nI e ∧ e ≤ c ∧ (sEx σ (sOf sl i) ≤ 0 ↔ e = 0) ∧ (iIsD i = true → iEn i = vEntriesIn v (iId i) + nI e) ∧ (iIsS i = true → iLk i = vLinksFor v (iA i) + nI e ∧ (iHid i = false → e = 0)) ∧ (iIsJ i = true → e = 0) := by
  obtain ⟨e, e1, e2, e3⟩ := kc.1 i hi
  exact ⟨e, e2, e1, by rw [e2]; exact nI_le0 (by omega), e3⟩
theorem RL.iwv (h : RL σ v sl) (kc : KC σ v sl c) (hc : c ≤ 600) {i : VI} (hi : i ∈ vIt v) : (if iIsD i = true then iWv v i else 0) = if hV σ (sOf sl i) = true then 1 else 0 := by
  obtain ⟨e, -, e1, e2, e3, -⟩ := kc.exle hc hi
  unfold hV
  rw [(h.mt hi).kd]
  by_cases hd : iIsD i = true
  · rw [if_pos hd, kdI_D hd]
    unfold iWv
    rw [e3 hd]
    by_cases h0 : e = 0
    · rw [if_pos ((add_same (by omega)).mpr h0), if_neg]
      exact fun z => (of_decide_eq_true z).2 (e2.mpr h0)
    · rw [if_neg (fun z => h0 ((add_same (by omega)).mp z)), if_pos]
      exact decide_eq_true ⟨rfl, fun z => h0 (e2.mp z)⟩
  · rw [if_neg hd, if_neg]
    intro z
    have z := (of_decide_eq_true z).1
    rcases kd4 i with q | q | q | q
    · exact hd q.1
    · rw [q.2.2.2.2] at z; revert z; decide
    · rw [q.2.2.2] at z; revert z; decide
    · rw [q.2.2.2.2] at z; revert z; decide
theorem RL.wv (h : RL σ v sl) (kc : KC σ v sl c) (hc : c ≤ 600) : vWv v = vWr v + cnF (hV σ) 40 0 0 := by
  unfold vWv
  rw [flF_cong (g2 := fun k a => a + (if iIsD (vAt v k) = true then iWv v (vAt v k) else 0)) (fun k a => by split <;> simp), flV v (fun i => if iIsD i = true then iWv v i else 0), smI_cnt (Q := fun i => hV σ (sOf sl i)) _ (fun i hi => h.iwv kc hc hi)]
  refine congrArg (fun z => vWr v + z) ?_
  exact (h.cnt (P := hV σ) (Q := fun i => hV σ (sOf sl i)) (fun p _ hp => by rw [(of_decide_eq_true hp).1]; decide) (fun i _ => rfl)).symm
theorem RL.ww (h : RL σ v sl) (li : Bool) : vWw v li = cnF (hW σ li) 48 0 0 := by
  unfold vWw
  rw [cnM, cnM]
  refine congrArg nI (List.countP_congr (fun b hb => ?_))
  rw [h.us (List.mem_range.mp hb)]
  unfold hW mUsed
  rw [← h.listed b]
  cases li <;> cases mListed σ b <;> cases sTu σ b <;> decide
theorem RL.lost (h : RL σ v sl) (hp : PR v) {i : VI} (hi : i ∈ vIt v) : sLo σ (sOf sl i) = true ↔ vPos v (iA i) true = none := by
  have hr := h.rec (2 * sOf sl i + 1)
  have hlt := h.slt hi
  have d : (2 * sOf sl i + 1) / 2 = sOf sl i := by omega
  have m : (2 * sOf sl i + 1) % 2 = 1 := by omega
  have hk : mIsRecord σ (2 * sOf sl i + 1) = true ↔ ¬ sLo σ (sOf sl i) = true := by
    unfold mIsRecord
    rw [d, m, decide_eq_true_iff, (h.mt hi).kd]
    exact ⟨fun q => q.2.elim (fun z => by omega) id, fun q => ⟨kdI_ne i, Or.inr q⟩⟩
  constructor
  · intro hl
    refine (fdF_none _ _ _).mpr (fun j _ hj hq => ?_)
    have hq := of_decide_eq_true hq
    have hn : vLt v j ∈ vLn v := vLt_mem (by omega)
    have : rOf sl (vLt v j) ∈ (vLn v).map (rOf sl) := List.mem_map.mpr ⟨_, hn, rfl⟩
    have e : rOf sl (vLt v j) = 2 * sOf sl i + 1 := by unfold rOf; rw [hq.1, if_pos hq.2]; rfl
    rw [e] at this
    exact hk.mp (hr.mp this).2 hl
  · intro hn
    refine Decidable.byContradiction (fun hl => ?_)
    obtain ⟨n, hn1, hn2⟩ := List.mem_map.mp (hr.mpr ⟨by omega, hk.mpr hl⟩)
    have ht : lT n = true := Decidable.byContradiction (fun z => by unfold rOf at hn2; rw [if_neg z] at hn2; omega)
    obtain ⟨j, hj, ej⟩ := hp.ln hn1
    have : sOf sl j = sOf sl i := by unfold rOf at hn2; rw [if_pos ht, ← ej] at hn2; unfold sOf; unfold sOf at hn2; omega
    have := sOf_inj h hj hi this
    subst this
    obtain ⟨k, hk1, hk2⟩ := vLt_of hn1
    exact (fdF_none _ _ _).mp hn k (by omega) (by omega) (by rw [hk2]; simp [ej, ht])
theorem oI_m1 {o : Option Nat} (h : ∀ k, o = some k → k < 2 ^ 31) : oI o = -1 ↔ o = none := by
  cases o with
  | none => simp [oI]
  | some k =>
    refine ⟨fun z => ?_, fun z => by cases z⟩
    have z : nI k = -1 := z
    have := nI_pos (h k rfl)
    rw [z] at this
    exact absurd (by decide) this
theorem RL.mtN (h : RL σ v sl) (hp : PR v) : vMt v = cnF (hT σ) 40 0 0 := by
  have h80 := h.len80
  unfold vMt
  rw [cnV v (fun i => decide (oI (vPos v (iA i) true) = -1))]
  refine (h.cnt (P := hT σ) (fun p _ hp => (of_decide_eq_true hp).1) (fun i hi => ?_)).symm
  unfold hT
  rw [Bool.eq_iff_iff, decide_eq_true_iff, decide_eq_true_iff, oI_m1 (fun k hk => by have := (fdF_lt _ _ _ _ hk).2.1; omega), ← h.lost hp hi, (h.mt hi).kd]
  exact ⟨fun q => q.2, fun q => ⟨kdI_ne i, q⟩⟩
theorem RL.iwl (h : RL σ v sl) (kc : KC σ v sl c) (hc : c ≤ 600) {i : VI} (hi : i ∈ vIt v) : (if iIsS i = true ∧ iHid i = true then iWl v i else 0) = if hC σ (sOf sl i) = true then 1 else 0 := by
  obtain ⟨e, -, e1, e2, -, e3, -⟩ := kc.exle hc hi
  unfold hC
  rw [(h.mt hi).kd]
  by_cases hd : iIsS i = true ∧ iHid i = true
  · rw [if_pos hd, kdI_SH hd.1 hd.2]
    unfold iWl
    rw [(e3 hd.1).1]
    by_cases h0 : e = 0
    · rw [if_pos ((add_same (by omega)).mpr h0), if_neg]
      exact fun z => (of_decide_eq_true z).2 (e2.mpr h0)
    · rw [if_neg (fun z => h0 ((add_same (by omega)).mp z)), if_pos]
      exact decide_eq_true ⟨rfl, fun z => h0 (e2.mp z)⟩
  · rw [if_neg hd, if_neg]
    intro z
    have z := (of_decide_eq_true z).1
    rcases kd4 i with q | q | q | q
    · rw [q.2.2.2] at z; revert z; decide
    · rw [q.2.2.2.2] at z; revert z; decide
    · rw [q.2.2.2] at z; revert z; decide
    · exact hd ⟨q.1, q.2.2.2.1⟩
theorem RL.wl (h : RL σ v sl) (kc : KC σ v sl c) (hc : c ≤ 600) : vWl v = cnF (hC σ) 40 0 0 := by
  unfold vWl
  rw [flF_cong (g2 := fun k a => a + (if iIsS (vAt v k) = true ∧ iHid (vAt v k) = true then iWl v (vAt v k) else 0)) (fun k a => by split <;> simp), flV v (fun i => if iIsS i = true ∧ iHid i = true then iWl v i else 0), smI_cnt (Q := fun i => hC σ (sOf sl i)) _ (fun i hi => h.iwl kc hc hi)]
  rw [h.cnt (P := hC σ) (Q := fun i => hC σ (sOf sl i)) (fun p _ hp => by rw [(of_decide_eq_true hp).1]; decide) (fun i _ => rfl)]
  simp
theorem if_le0 {x y : Int32} {b : Bool} (h : x ≤ 0 ↔ b = false) : (if x ≤ 0 then 0 else y) = if b = true then y else 0 := by
  cases b with
  | true => rw [if_neg (fun z => by have := h.mp z; cases this), if_pos rfl]
  | false => rw [if_pos (h.mpr rfl), if_neg (by decide)]
theorem RL.check (h : RL σ v sl) (hp : PR v) (kc : KC σ v sl c) (hc : c ≤ 600) : mCheck σ = vCheck v := by
  rw [mCheck_eq]
  unfold vCheck
  rw [h.ww, h.ww, h.mtN hp, h.wl kc hc, if_le0 (cn_pos (by decide)), if_le0 (cn_pos (by decide)), if_le0 (cn_pos (by decide)), if_le0 (cn_pos (by decide))]
  have e : vWv v ≤ 0 ↔ (!decide (sRe σ ≤ 0) || anF (hV σ) 40 0) = false := by
    have h1 := cn_pos (P := hV σ) (n := 40) (by decide)
    have hl : (List.range 40).countP (hV σ) ≤ 40 := Nat.le_trans List.countP_le_length (by simp)
    rw [h.wv kc hc, kc.wr hc]
    rw [cnM] at h1 ⊢
    rw [nI_le0 (by omega)] at h1
    by_cases h0 : sRe σ ≤ 0
    · rw [decide_eq_true h0]
      show (0 : Int32) + nI _ ≤ 0 ↔ _
      rw [show (0 : Int32) + nI ((List.range 40).countP (hV σ)) = nI ((List.range 40).countP (hV σ)) by simp, nI_le0 (by omega), h1]
      simp
    · rw [decide_eq_false h0]
      show nI 1 + nI _ ≤ 0 ↔ _
      rw [nI_add, nI_le0 (by omega)]
      simp
  rw [if_le0 e]
  generalize (!decide (sRe σ ≤ 0) || anF (hV σ) 40 0) = A
  generalize anF (hW σ true) 48 0 = B
  generalize anF (hW σ false) 48 0 = C
  generalize anF (hT σ) 40 0 = D
  generalize anF (hC σ) 40 0 = E
  cases A <;> cases B <;> cases C <;> cases D <;> cases E <;> decide
end RLU
