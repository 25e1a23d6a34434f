-- what the class's reading methods answer
def iHid (i : VI) : Bool := decide (iFo i = 3)
def vIsName (n : Int32) : Bool := decide (¬ n < 0 ∧ ¬ 100 ≤ n)
def vIx (v : VS) (id : Int32) : Option Nat := fdF (fun k => decide (iId (vAt v k) = id)) (vIt v).length 0
def vEn (v : VS) (fo na : Int32) : Option Nat := fdF (fun k => decide (¬ iHid (vAt v k) = true ∧ iFo (vAt v k) = fo ∧ iNa (vAt v k) = na)) (vIt v).length 0
def vEntries (v : VS) : Int32 := cnF (fun k => !iHid (vAt v k)) (vIt v).length 0 0
def vEntriesIn (v : VS) (fo : Int32) : Int32 := cnF (fun k => decide (iFo (vAt v k) = fo)) (vIt v).length 0 0
def vLinksFor (v : VS) (q : Nat) : Int32 := cnF (fun k => decide (iIsJ (vAt v k) = true ∧ iFi (vAt v k) = q)) (vIt v).length 0 0
def vAd (v : VS) (o : Option Nat) : Option Nat := o.map (fun k => iA (vAt v k))
def sHas (i : VI) (b : Nat) : Bool := anF (fun j => decide (iBl i j = b)) (iLe i) 0
def sBeg (i : VI) (a : Nat) : Bool := decide (a = 0 ∨ ¬ iBl i a = iBl i (a - 1) + 1)
def sExt (i : VI) : Int32 := cnF (fun j => sBeg i j) (iLe i) 0 0
def epF (i : VI) (x : Int32) : Nat → Nat → Int32 → Nat
  | 0, _, _ => iLe i
  | n + 1, k, b => if sBeg i k = true then (if b = x then k else epF i x n (k + 1) (b + 1)) else epF i x n (k + 1) b
def sPlace (i : VI) (x : Int32) : Nat := epF i x (iLe i) 0 0
theorem epF_le (i : VI) (x : Int32) : ∀ (n k : Nat) (b : Int32), k + n = iLe i → epF i x n k b ≤ iLe i := by
  intro n
  induction n with
  | zero => intro k b h; exact Nat.le_refl _
  | succ n ih =>
    intro k b h
    rw [epF]
    split
    · split
      · omega
      · exact ih _ _ (by omega)
    · exact ih _ _ (by omega)
def sLast (i : VI) : Int32 := if iLe i = 0 then -1 else nI (iBl i (iLe i - 1))
def bIsB (n : Int32) : Bool := decide (¬ n < 0 ∧ ¬ 48 ≤ n)
theorem bIsB_t {b : Nat} (h : b < 48) : bIsB (nI b) = true := by
  have h1 : ¬ nI b < 0 := nI_pos (by omega)
  have h2 : ¬ nI 48 ≤ nI b := nI_ge h (by decide)
  have h3 : ¬ (48 : Int32) ≤ nI b := h2
  simp [bIsB, h1, h3]
theorem bIsB_n {n : Int32} (h : bIsB n = true) : n = nI n.toNatClampNeg ∧ n.toNatClampNeg < 48 := by
  have h1 := of_decide_eq_true h
  refine ⟨nn_eq h1.1, ?_⟩
  obtain ⟨j, hj, rfl⟩ := nI_of h1.1
  rw [nI_clamp hj]
  exact Nat.not_le.mp (fun z => h1.2 (show nI 48 ≤ nI j from nI_le z hj))
def vUnused (v : VS) : Int32 := cnF (fun b => !vUs v b) 48 0 0
def vFirst (v : VS) : Option Nat := fdF (fun b => !vUs v b) 48 0
def vAfter (v : VS) (la : Int32) : Int32 := if bIsB (la + 1) = true ∧ vUs v (la + 1).toNatClampNeg = false then la + 1 else oI (vFirst v)
