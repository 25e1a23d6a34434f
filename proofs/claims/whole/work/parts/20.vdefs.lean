-- what the class's reading methods answer
def iHid (i : VI) : Bool := decide (iFo i = 3)
def vIsName (n : Int32) : Bool := decide (¬ n < 0 ∧ ¬ 100 ≤ n)
def vIx (v : VS) (id : Int32) : Option Nat := fdF (fun k => decide (iId (vAt v k) = id)) (vIt v).length 0
def vEn (v : VS) (fo na : Int32) : Option Nat := fdF (fun k => decide (¬ iHid (vAt v k) = true ∧ iFo (vAt v k) = fo ∧ iNa (vAt v k) = na)) (vIt v).length 0
def vEntries (v : VS) : Int32 := cnF (fun k => !iHid (vAt v k)) (vIt v).length 0 0
def vEntriesIn (v : VS) (fo : Int32) : Int32 := cnF (fun k => decide (iFo (vAt v k) = fo)) (vIt v).length 0 0
def vLinksFor (v : VS) (q : Nat) : Int32 := cnF (fun k => decide (iIsJ (vAt v k) = true ∧ iFi (vAt v k) = q)) (vIt v).length 0 0
def vAd (v : VS) (o : Option Nat) : Option Nat := o.map (fun k => iA (vAt v k))
def sHas (i : VI) (b : Nat) : Bool := anF (fun j => decide (iBl i j = b)) (iLe i) 0
def sBeg (i : VI) (a : Nat) : Bool := decide (a = 0 ∨ ¬ iBl i a = iBl i (a - 1) + 1)
def sExt (i : VI) : Int32 := cnF (fun j => sBeg i j) (iLe i) 0 0
def epF (i : VI) (x : Int32) : Nat → Nat → Int32 → Nat
  | 0, _, _ => iLe i
  | n + 1, k, b => if sBeg i k = true then (if b = x then k else epF i x n (k + 1) (b + 1)) else epF i x n (k + 1) b
def sPlace (i : VI) (x : Int32) : Nat := epF i x (iLe i) 0 0
theorem epF_le (i : VI) (x : Int32) : ∀ (n k : Nat) (b : Int32), k + n = iLe i → epF i x n k b ≤ iLe i := by
  intro n
  induction n with
  | zero => intro k b h; exact Nat.le_refl _
  | succ n ih =>
    intro k b h
    rw [epF]
    split
    · split
      · omega
      · exact ih _ _ (by omega)
    · exact ih _ _ (by omega)
def sLast (i : VI) : Int32 := if iLe i = 0 then -1 else nI (iBl i (iLe i - 1))
def bIsB (n : Int32) : Bool := decide (¬ n < 0 ∧ ¬ 48 ≤ n)
theorem bIsB_t {b : Nat} (h : b < 48) : bIsB (nI b) = true := by
  have h1 : ¬ nI b < 0 := nI_pos (by omega)
  have h2 : ¬ nI 48 ≤ nI b := nI_ge h (by decide)
  have h3 : ¬ (48 : Int32) ≤ nI b := h2
  simp [bIsB, h1, h3]
theorem bIsB_n {n : Int32} (h : bIsB n = true) : n = nI n.toNatClampNeg ∧ n.toNatClampNeg < 48 := by
  have h1 := of_decide_eq_true h
  refine ⟨nn_eq h1.1, ?_⟩
  obtain ⟨j, hj, rfl⟩ := nI_of h1.1
  rw [nI_clamp hj]
  exact Nat.not_le.mp (fun z => h1.2 (show nI 48 ≤ nI j from nI_le z hj))
def vUnused (v : VS) : Int32 := cnF (fun b => !vUs v b) 48 0 0
def vFirst (v : VS) : Option Nat := fdF (fun b => !vUs v b) 48 0
def vAfter (v : VS) (la : Int32) : Int32 := if bIsB (la + 1) = true ∧ vUs v (la + 1).toNatClampNeg = false then la + 1 else oI (vFirst v)
-- an item by its address; a link's file; a line's item
def vIxA (v : VS) (q : Nat) : Option Nat := fdF (fun k => decide (iA (vAt v k) = q)) (vIt v).length 0
theorem vIxA_some {v : VS} {i : VI} (h : i ∈ vIt v) : ∃ k, k < (vIt v).length ∧ vIxA v (iA i) = some k ∧ iA (vAt v k) = iA i := by
  obtain ⟨j, hj, he⟩ := List.mem_iff_getElem.mp h
  have h1 : vAt v j = i := by unfold vAt; rw [getD_lt hj]; exact he
  obtain ⟨k, hk⟩ := fdF_some (fun k => decide (iA (vAt v k) = iA i)) (vIt v).length 0 j (by omega) (by omega) (by simp [h1])
  have h2 := fdF_lt _ _ _ _ hk
  exact ⟨k, by omega, hk, of_decide_eq_true h2.2.2⟩
theorem nd_inj {α : Type} {l : List α} (h : l.Nodup) {i j : Nat} (hi : i < l.length) (hj : j < l.length) (e : l[i] = l[j]) : i = j := by
  have hp := List.pairwise_iff_getElem.mp h
  rcases Nat.lt_trichotomy i j with h1 | h1 | h1
  · exact absurd e (hp i j hi hj h1)
  · exact h1
  · exact absurd e.symm (hp j i hj hi h1)
theorem iA_inj {v : VS} (hn : ((vIt v).map iA).Nodup) {i j : VI} (hi : i ∈ vIt v) (hj : j ∈ vIt v) (h : iA i = iA j) : i = j := by
  obtain ⟨a, ha, ea⟩ := List.mem_iff_getElem.mp hi
  obtain ⟨b, hb, eb⟩ := List.mem_iff_getElem.mp hj
  have hab : a = b := by
    refine nd_inj hn (by simpa using ha) (by simpa using hb) ?_
    rw [List.getElem_map, List.getElem_map, ea, eb]
    exact h
  subst hab
  rw [← ea, ← eb]
def vFb (v : VS) (k : Nat) : Option Nat := if iIsJ (vAt v k) = true then vIxA v (iFi (vAt v k)) else if iIsS (vAt v k) = true then some k else none
def vFi (v : VS) (id : Int32) : Option Nat := match vIx v id with
  | none => none
  | some k => vFb v k
def vFo (v : VS) (id : Int32) : Option (Option Nat) := if id = 2 then some none else match vIx v id with
  | none => none
  | some k => if iIsD (vAt v k) = true then some (some k) else none
def vFoA (v : VS) (ad : Nat → Nat) (o : Option (Option Nat)) : Option Nat := match o with
  | none => none
  | some none => some (ad 1)
  | some (some k) => some (iA (vAt v k))
section RepF
variable {cI cZ cO : ClassId} {t : Nat} {L : List Nat} {f : Nat → va_E} {ad : Nat → Nat} {v : VS}
theorem Rep.link (h : Rep cI cZ cO t L f ad v) {i : VI} (hi : i ∈ vIt v) (hj : iIsJ i = true) : ∃ k, k < (vIt v).length ∧ vIxA v (iFi i) = some k ∧ iA (vAt v k) = iFi i ∧ iIsS (vAt v k) = true := by
  obtain ⟨j, h1, h2, h3⟩ := h.lk hi hj
  obtain ⟨k, g1, g2, g3⟩ := vIxA_some h1
  rw [h3] at g2 g3
  refine ⟨k, g1, g2, g3, ?_⟩
  rw [iA_inj h.nd (vAt_mem g1) h1 (g3.trans h3.symm)]
  exact h2
theorem Rep.fb (h : Rep cI cZ cO t L f ad v) {k j : Nat} (hk : k < (vIt v).length) (hj : vFb v k = some j) : j < (vIt v).length ∧ iIsS (vAt v j) = true := by
  unfold vFb at hj
  split at hj
  · rename_i hJ
    obtain ⟨q, g1, g2, g3, g4⟩ := h.link (vAt_mem hk) hJ
    rw [g2] at hj
    cases hj
    exact ⟨g1, g4⟩
  · split at hj
    · rename_i hS
      cases hj
      exact ⟨hk, hS⟩
    · cases hj
theorem vIx_lt {id : Int32} {k : Nat} (h : vIx v id = some k) : k < (vIt v).length := by have := (fdF_lt _ _ _ _ h).2.1; omega
theorem Rep.fi (h : Rep cI cZ cO t L f ad v) {id : Int32} {j : Nat} (hj : vFi v id = some j) : j < (vIt v).length ∧ iIsS (vAt v j) = true := by
  unfold vFi at hj
  split at hj
  · cases hj
  · rename_i k hk
    exact h.fb (vIx_lt hk) hj
theorem vFo_some {id : Int32} {k : Nat} (h : vFo v id = some (some k)) : k < (vIt v).length ∧ iIsD (vAt v k) = true := by
  unfold vFo at h
  split at h
  · cases h
  · split at h
    · cases h
    · rename_i j hj
      split at h
      · rename_i hD
        cases h
        exact ⟨vIx_lt hj, hD⟩
      · cases h
end RepF
def lIt (v : VS) (n : VLn) : VI := vAt v ((vIxA v (lI n)).getD 0)
theorem Rep.lit {cI cZ cO : ClassId} {t : Nat} {L : List Nat} {f : Nat → va_E} {ad : Nat → Nat} {v : VS} (h : Rep cI cZ cO t L f ad v) {n : VLn} (hn : n ∈ vLn v) : lIt v n ∈ vIt v ∧ iA (lIt v n) = lI n := by
  obtain ⟨i, h1, h2⟩ := h.lnI hn
  obtain ⟨k, g1, g2, g3⟩ := vIxA_some h1
  rw [h2] at g2 g3
  unfold lIt
  rw [g2]
  exact ⟨vAt_mem g1, g3⟩
def fIt (v : VS) (i : VI) : VI := vAt v ((vIxA v (iFi i)).getD 0)
theorem Rep.fit {cI cZ cO : ClassId} {t : Nat} {L : List Nat} {f : Nat → va_E} {ad : Nat → Nat} {v : VS} (h : Rep cI cZ cO t L f ad v) {i : VI} (hi : i ∈ vIt v) (hj : iIsJ i = true) : okI cI L f (fIt v i) ∧ iIsS (fIt v i) = true ∧ iA (fIt v i) = iFi i := by
  obtain ⟨k, g1, g2, g3, g4⟩ := h.link hi hj
  unfold fIt
  rw [g2]
  exact ⟨h.it (vAt_mem g1), g4, g3⟩
def iOk (i : VI) : Int32 := if iIsD i = true then 1 else if iIsS i = true then 2 else 3
def iTk (i : VI) : Int32 := if iIsD i = true then 4 else 5
def iOm (i j : VI) : Int32 := if iIsD i = true then iEn i else if iIsS i = true then nI (iLe i) else iId j
def lKid (n : VLn) (i : VI) : Int32 := if lT n = true then iId i else iFo i
def lKna (n : VLn) (i : VI) : Int32 := if lT n = true then -1 else iNa i
def lKin (n : VLn) (i : VI) : Int32 := if lT n = true then iTk i else iOk i
def lVal (n : VLn) (i : VI) : Int32 := if lT n = true then iFo i else iId i
def lMor (n : VLn) (i j : VI) : Int32 := if lT n = true then iNa i else iOm i j
def lBef (n : VLn) (i : VI) (n2 : VLn) (i2 : VI) : Bool := if lKid n i = lKid n2 i2 then decide (¬ lKna n2 i2 ≤ lKna n i) else decide (¬ lKid n2 i2 ≤ lKid n i)
def vPos (v : VS) (q : Nat) (th : Bool) : Option Nat := fdF (fun k => decide (lI (vLt v k) = q ∧ lT (vLt v k) = th)) (vLn v).length 0
def iOv (i : VI) : Int32 := if iIsS i = true then (if 0 < sExt i - 2 then sExt i - 2 else 0) else 0
def vOverflows (v : VS) : Int32 := flF (fun k a => a + iOv (vAt v k)) (vIt v).length 0 0
def iOf (i : VI) (x w : Int32) : Int32 := if sPlace i x < iLe i then (if w = 0 then iId i else if w = 1 then nI (sPlace i x) else if w = 2 then nI (iBl i (sPlace i x)) else if w = 3 then nI (sPlace i (x + 1)) - nI (sPlace i x) else -2) else -2
def voF (v : VS) (w : Int32) : Nat → Nat → Int32 → Int32
  | 0, _, _ => -2
  | n + 1, k, lf => if iOv (vAt v k) ≤ lf then voF v w n (k + 1) (lf - iOv (vAt v k)) else if iIsS (vAt v k) = true then iOf (vAt v k) (2 + lf) w else voF v w n (k + 1) (lf - iOv (vAt v k))
def vOverflow (v : VS) (i w : Int32) : Int32 := if 0 ≤ i then voF v w (vIt v).length 0 i else -2
def vListed (v : VS) (b : Nat) : Bool := anF (fun k => iIsS (vAt v k) && sHas (vAt v k) b) (vIt v).length 0
def vFind (v : VS) (par nm : Int32) : Int32 := if vMo v = true then (if vIsName nm = true then (match vEn v par nm with
  | none => -3
  | some k => iId (vAt v k)) else -2) else -1
def vSize (v : VS) (id : Int32) : Int32 := if vMo v = true then (match vFi v id with
  | none => -3
  | some k => nI (iLe (vAt v k))) else -1
def vBlock (v : VS) (id j : Int32) : Int32 := if vMo v = true then (match vFi v id with
  | none => -3
  | some k => if j < 0 then -2 else if j < nI (iLe (vAt v k)) then nI (iBl (vAt v k) j.toNatClampNeg) else -2) else -1
def vExtents (v : VS) (id : Int32) : Int32 := if vMo v = true then (match vFi v id with
  | none => -3
  | some k => sExt (vAt v k)) else -1
def vValence (v : VS) (id : Int32) : Int32 := if vMo v = true then (match vFo v id with
  | none => -3
  | some none => vRe v
  | some (some k) => iEn (vAt v k)) else -1
def vRow (v : VS) (i w : Int32) : Int32 := if i < 0 then -2 else if i < nI (vLn v).length then (
    let n := vLt v i.toNatClampNeg
    if w = 0 then lKid n (lIt v n) else if w = 1 then lKna n (lIt v n) else if w = 2 then lKin n (lIt v n) else if w = 3 then lVal n (lIt v n) else if w = 4 then lMor n (lIt v n) (fIt v (lIt v n)) else -2) else -2
def lwF (v : VS) (x : Int32) : Nat → Option (Option Nat) → Bool
  | 0, _ => false
  | _ + 1, none => false
  | n + 1, some none => if (2 : Int32) = x then true else lwF v x n none
  | n + 1, some (some k) => if iId (vAt v k) = x then true else if iId (vAt v k) = 2 then lwF v x n none else lwF v x n (vFo v (iFo (vAt v k)))
def vWithin (v : VS) (o : Option Nat) (x : Int32) : Bool := lwF v x 21 (some o)
def iWv (v : VS) (i : VI) : Int32 := if iEn i = vEntriesIn v (iId i) then 0 else 1
def vWr (v : VS) : Int32 := if vRe v = vEntriesIn v 2 then 0 else 1
def vWv (v : VS) : Int32 := flF (fun k a => if iIsD (vAt v k) = true then a + iWv v (vAt v k) else a) (vIt v).length 0 (vWr v)
def vWw (v : VS) (li : Bool) : Int32 := cnF (fun b => decide (vListed v b = li ∧ ¬ vUs v b = li)) 48 0 0
def vMt (v : VS) : Int32 := cnF (fun k => decide (oI (vPos v (iA (vAt v k)) true) = -1)) (vIt v).length 0 0
def iWl (v : VS) (i : VI) : Int32 := if iLk i = vLinksFor v (iA i) then 0 else 1
def vWl (v : VS) : Int32 := flF (fun k a => if iIsS (vAt v k) = true ∧ iHid (vAt v k) = true then a + iWl v (vAt v k) else a) (vIt v).length 0 0
def vCheck (v : VS) : Int32 := (if vWv v ≤ 0 then 0 else 1) + (if vWw v true ≤ 0 then 0 else 2) + (if vWw v false ≤ 0 then 0 else 4) + (if vMt v ≤ 0 then 0 else 8) + (if vWl v ≤ 0 then 0 else 16)
