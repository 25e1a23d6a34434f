-- what a state of the reference is, and what each of its methods answers, as functions
def bI (b : Bool) : Int32 := if b = true then 1 else 0
theorem bI_t {b : Bool} (h : ¬ bI b = 0) : b = true := by cases b <;> simp_all [bI]
theorem bI_f {b : Bool} (h : bI b = 0) : ¬ b = true := by cases b <;> simp_all [bI]
theorem bI_inj {a b : Bool} (h : bI a = bI b) : a = b := by cases a <;> cases b <;> simp_all [bI]
theorem bI_ninj {a b : Bool} (h : ¬ bI a = bI b) : ¬ a = b := fun z => h (by rw [z])
theorem bI_nar (b : Bool) : narrow .boolean (.int (bI b)) = .int (bI b) := by cases b <;> rfl
theorem bI_vnar (b : Bool) : vp_nar .boolean (bI b) = bI b := by cases b <;> rfl
theorem bI_fit (b : Bool) : fits .boolean (.int (bI b)) = true := by cases b <;> rfl
def oI (o : Option Nat) : Int32 := match o with
  | none => -1
  | some k => nI k
theorem ic_nat (p : Nat) : nI p + Int32.ofInt 1 = nI (p + 1) := nI_1 p
theorem nn_eq {x : Int32} (h : ¬ x < 0) : x = nI x.toNatClampNeg := by
  obtain ⟨j, hj, rfl⟩ := nI_of h
  rw [nI_clamp hj]
theorem nn_lt {x : Int32} {n : Nat} (h : ¬ x < 0) (hn : n < 2 ^ 31) (h2 : x < nI n) : x.toNatClampNeg < n := by
  obtain ⟨j, hj, rfl⟩ := nI_of h
  rw [nI_clamp hj]
  exact (nI_ltI hj hn).mp h2
theorem nn_lt31 (x : Int32) : x.toNatClampNeg < 2 ^ 31 := by
  by_cases h : x < 0
  · have : x.toInt < 0 := by simpa using Int32.lt_iff_toInt_lt.mp h
    have e : x.toNatClampNeg = x.toInt.toNat := rfl
    omega
  · obtain ⟨j, hj, rfl⟩ := nI_of h
    rw [nI_clamp hj]; exact hj
-- loops: the first hit, a count, a walk as long as a word holds, any hit, a fold
def fdF (P : Nat → Bool) : Nat → Nat → Option Nat
  | 0, _ => none
  | n + 1, k => if P k = true then some k else fdF P n (k + 1)
def cnF (P : Nat → Bool) : Nat → Nat → Int32 → Int32
  | 0, _, a => a
  | n + 1, k, a => cnF P n (k + 1) (if P k = true then a + 1 else a)
def whF (P : Nat → Bool) : Nat → Nat → Nat
  | 0, k => k
  | n + 1, k => if P k = true then whF P n (k + 1) else k
def anF (P : Nat → Bool) : Nat → Nat → Bool
  | 0, _ => false
  | n + 1, k => if P k = true then true else anF P n (k + 1)
def flF (g : Nat → Int32 → Int32) : Nat → Nat → Int32 → Int32
  | 0, _, a => a
  | n + 1, k, a => flF g n (k + 1) (g k a)
theorem fdF_lt (P : Nat → Bool) : ∀ (n k q : Nat), fdF P n k = some q → k ≤ q ∧ q < k + n ∧ P q = true := by
  intro n
  induction n with
  | zero => intro k q h; cases h
  | succ n ih =>
    intro k q h
    rw [fdF] at h
    by_cases hp : P k = true
    · rw [if_pos hp] at h
      cases h
      exact ⟨Nat.le_refl _, by omega, hp⟩
    · rw [if_neg hp] at h
      obtain ⟨h1, h2, h3⟩ := ih (k + 1) q h
      exact ⟨by omega, by omega, h3⟩
theorem whF_le (P : Nat → Bool) : ∀ (n k : Nat), k ≤ whF P n k ∧ whF P n k ≤ k + n := by
  intro n
  induction n with
  | zero => intro k; exact ⟨Nat.le_refl _, Nat.le_refl _⟩
  | succ n ih =>
    intro k
    rw [whF]
    by_cases hp : P k = true
    · rw [if_pos hp]
      have := ih (k + 1)
      omega
    · rw [if_neg hp]
      omega
-- the reference's state: mounted, next, kind, id, folder, name, target, extra, lost, rootExtra, many, list, turned
abbrev MS : Type := Bool × Int32 × (Nat → Int32) × (Nat → Int32) × (Nat → Int32) × (Nat → Int32) × (Nat → Int32) × (Nat → Int32) × (Nat → Bool) × Int32 × (Nat → Nat) × (Nat → Nat) × (Nat → Bool)
def sMo (s : MS) : Bool := s.1
def sNx (s : MS) : Int32 := s.2.1
def sKd (s : MS) : Nat → Int32 := s.2.2.1
def sId (s : MS) : Nat → Int32 := s.2.2.2.1
def sFo (s : MS) : Nat → Int32 := s.2.2.2.2.1
def sNa (s : MS) : Nat → Int32 := s.2.2.2.2.2.1
def sTa (s : MS) : Nat → Int32 := s.2.2.2.2.2.2.1
def sEx (s : MS) : Nat → Int32 := s.2.2.2.2.2.2.2.1
def sLo (s : MS) : Nat → Bool := s.2.2.2.2.2.2.2.2.1
def sRe (s : MS) : Int32 := s.2.2.2.2.2.2.2.2.2.1
def sMa (s : MS) : Nat → Nat := s.2.2.2.2.2.2.2.2.2.2.1
def sLi (s : MS) : Nat → Nat := s.2.2.2.2.2.2.2.2.2.2.2.1
def sTu (s : MS) : Nat → Bool := s.2.2.2.2.2.2.2.2.2.2.2.2
def pMo (s : MS) (v : Bool) : MS := (v, s.2)
def pNx (s : MS) (v : Int32) : MS := (s.1, v, s.2.2)
def pKd (s : MS) (v : Nat → Int32) : MS := (s.1, s.2.1, v, s.2.2.2)
def pId (s : MS) (v : Nat → Int32) : MS := (s.1, s.2.1, s.2.2.1, v, s.2.2.2.2)
def pFo (s : MS) (v : Nat → Int32) : MS := (s.1, s.2.1, s.2.2.1, s.2.2.2.1, v, s.2.2.2.2.2)
def pNa (s : MS) (v : Nat → Int32) : MS := (s.1, s.2.1, s.2.2.1, s.2.2.2.1, s.2.2.2.2.1, v, s.2.2.2.2.2.2)
def pTa (s : MS) (v : Nat → Int32) : MS := (s.1, s.2.1, s.2.2.1, s.2.2.2.1, s.2.2.2.2.1, s.2.2.2.2.2.1, v, s.2.2.2.2.2.2.2)
def pEx (s : MS) (v : Nat → Int32) : MS := (s.1, s.2.1, s.2.2.1, s.2.2.2.1, s.2.2.2.2.1, s.2.2.2.2.2.1, s.2.2.2.2.2.2.1, v, s.2.2.2.2.2.2.2.2)
def pLo (s : MS) (v : Nat → Bool) : MS := (s.1, s.2.1, s.2.2.1, s.2.2.2.1, s.2.2.2.2.1, s.2.2.2.2.2.1, s.2.2.2.2.2.2.1, s.2.2.2.2.2.2.2.1, v, s.2.2.2.2.2.2.2.2.2)
def pRe (s : MS) (v : Int32) : MS := (s.1, s.2.1, s.2.2.1, s.2.2.2.1, s.2.2.2.2.1, s.2.2.2.2.2.1, s.2.2.2.2.2.2.1, s.2.2.2.2.2.2.2.1, s.2.2.2.2.2.2.2.2.1, v, s.2.2.2.2.2.2.2.2.2.2)
def pMa (s : MS) (v : Nat → Nat) : MS := (s.1, s.2.1, s.2.2.1, s.2.2.2.1, s.2.2.2.2.1, s.2.2.2.2.2.1, s.2.2.2.2.2.2.1, s.2.2.2.2.2.2.2.1, s.2.2.2.2.2.2.2.2.1, s.2.2.2.2.2.2.2.2.2.1, v, s.2.2.2.2.2.2.2.2.2.2.2)
def pLi (s : MS) (v : Nat → Nat) : MS := (s.1, s.2.1, s.2.2.1, s.2.2.2.1, s.2.2.2.2.1, s.2.2.2.2.2.1, s.2.2.2.2.2.2.1, s.2.2.2.2.2.2.2.1, s.2.2.2.2.2.2.2.2.1, s.2.2.2.2.2.2.2.2.2.1, s.2.2.2.2.2.2.2.2.2.2.1, v, s.2.2.2.2.2.2.2.2.2.2.2.2)
def pTu (s : MS) (v : Nat → Bool) : MS := (s.1, s.2.1, s.2.2.1, s.2.2.2.1, s.2.2.2.2.1, s.2.2.2.2.2.1, s.2.2.2.2.2.2.1, s.2.2.2.2.2.2.2.1, s.2.2.2.2.2.2.2.2.1, s.2.2.2.2.2.2.2.2.2.1, s.2.2.2.2.2.2.2.2.2.2.1, s.2.2.2.2.2.2.2.2.2.2.2.1, v)
-- what its reading methods answer
def mPlaceOf (σ : MS) (i : Int32) : Option Nat := fdF (fun p => decide (¬ sKd σ p = 0 ∧ sId σ p = i)) 40 0
def mIsFolder (σ : MS) (i : Int32) : Bool := match mPlaceOf σ i with
  | none => decide (i = 2)
  | some p => decide (i = 2 ∨ sKd σ p = 1)
def mFileAt (σ : MS) (p : Nat) : Option Nat := if sKd σ p = 2 ∨ sKd σ p = 4 then some p else none
def mFileOf (σ : MS) (i : Int32) : Option Nat := match mPlaceOf σ i with
  | none => none
  | some p => if sKd σ p = 3 then (match mPlaceOf σ (sTa σ p) with
      | none => none
      | some q => mFileAt σ q) else mFileAt σ p
def mEntryOf (σ : MS) (par n : Int32) : Option Nat := fdF (fun p => decide (¬ sKd σ p < 1 ∧ ¬ 3 < sKd σ p ∧ sFo σ p = par ∧ sNa σ p = n)) 40 0
def mEntries (σ : MS) : Int32 := cnF (fun p => decide (¬ sKd σ p < 1 ∧ ¬ 3 < sKd σ p)) 40 0 0
def mEntriesIn (σ : MS) (par : Int32) : Int32 := cnF (fun p => decide (¬ sKd σ p < 1 ∧ ¬ 3 < sKd σ p ∧ sFo σ p = par)) 40 0 0
def mLinksFor (σ : MS) (i : Int32) : Int32 := cnF (fun p => decide (sKd σ p = 3 ∧ sTa σ p = i)) 40 0 0
def mNoName (n : Int32) : Bool := decide (n < 0 ∨ ¬ n ≤ 99)
def mFree (σ : MS) : Nat := whF (fun p => decide (¬ sKd σ p = 0)) 39 0
def mEnter (σ : MS) (k par n t : Int32) : MS :=
  let p := mFree σ
  pNx (pMa (pLo (pEx (pTa (pNa (pFo (pId (pKd σ (va_up (sKd σ) p k)) (va_up (sId σ) p (sNx σ))) (va_up (sFo σ) p par)) (va_up (sNa σ) p n)) (va_up (sTa σ) p t)) (va_up (sEx σ) p 0)) (va_up (sLo σ) p false)) (va_up (sMa σ) p 0)) (sNx σ + 1)
def mWithinF (σ : MS) (x : Int32) : Nat → Int32 → Bool
  | 0, a => decide (a = x)
  | n + 1, a => if a = 2 then decide (a = x) else if a = x then true else mWithinF σ x n (match mPlaceOf σ a with
      | none => 2
      | some p => sFo σ p)
def mWithin (σ : MS) (i x : Int32) : Bool := mWithinF σ x 22 i
def mHas (σ : MS) (b p : Nat) : Bool := anF (fun i => decide (sLi σ (48 * p + i) = b)) (sMa σ p) 0
def mIsF (σ : MS) (p : Nat) : Bool := decide (sKd σ p = 2 ∨ sKd σ p = 4)
def mListed (σ : MS) (b : Nat) : Bool := anF (fun p => mIsF σ p && mHas σ b p) 40 0
def mUsed (σ : MS) (b : Nat) : Bool := decide (¬ mListed σ b = sTu σ b)
def mFreeBlocks (σ : MS) : Int32 := cnF (fun b => !mUsed σ b) 48 0 0
def mAfter (σ : MS) (p : Nat) : Nat := if sMa σ p = 0 then 48 else sLi σ (48 * p + sMa σ p - 1) + 1
def mNextBlock (σ : MS) (p : Nat) : Nat := if mAfter σ p < 48 ∧ mUsed σ (mAfter σ p) = false then mAfter σ p else whF (fun b => mUsed σ b) 47 0
def mGrowF (p : Nat) : Nat → MS → MS
  | 0, σ => σ
  | n + 1, σ => mGrowF p n (pMa (pLi σ (va_up (sLi σ) (48 * p + sMa σ p) (mNextBlock σ p))) (va_up (sMa σ) p (sMa σ p + 1)))
def mBegins (σ : MS) (p i : Nat) : Bool := decide (i = 0 ∨ ¬ sLi σ (48 * p + i) = sLi σ (48 * p + i - 1) + 1)
def mExtentsOf (σ : MS) (p : Nat) : Int32 := cnF (fun i => mBegins σ p i) (sMa σ p) 0 0
def mKeptValence (σ : MS) (i : Int32) : Int32 := mEntriesIn σ i + (if i = 2 then sRe σ else sEx σ ((mPlaceOf σ i).getD 0))
def mIsRecord (σ : MS) (r : Nat) : Bool := decide (¬ sKd σ (r / 2) = 0 ∧ (r % 2 = 0 ∨ ¬ sLo σ (r / 2) = true))
def mKeyId (σ : MS) (r : Nat) : Int32 := if r % 2 = 0 then sFo σ (r / 2) else sId σ (r / 2)
def mKeyName (σ : MS) (r : Nat) : Int32 := if r % 2 = 0 then sNa σ (r / 2) else -1
def mRecords (σ : MS) : Int32 := cnF (fun r => mIsRecord σ r) 80 0 0
def mBefore (σ : MS) (r q : Nat) : Bool := decide (mKeyId σ r < mKeyId σ q ∨ (mKeyId σ r = mKeyId σ q ∧ ¬ mKeyName σ q ≤ mKeyName σ r))
def mRank (σ : MS) (r : Nat) : Int32 := cnF (fun q => mIsRecord σ q && mBefore σ q r) 80 0 0
def mRanked (σ : MS) (i : Int32) : Option Nat := fdF (fun r => mIsRecord σ r && decide (mRank σ r = i)) 80 0
def mValueOf (σ : MS) (r : Nat) : Int32 := if r % 2 = 0 then sId σ (r / 2) else sFo σ (r / 2)
def mMoreOf (σ : MS) (r : Nat) : Int32 := if r % 2 = 1 then sNa σ (r / 2) else if sKd σ (r / 2) = 1 then mKeptValence σ (sId σ (r / 2)) else if sKd σ (r / 2) = 3 then sTa σ (r / 2) else nI (sMa σ (r / 2))
def mOk (σ : MS) : Prop := (∀ p, sMa σ p ≤ 48) ∧ ∀ j, sLi σ j < 48
theorem mFileAt_eq {σ : MS} {p q : Nat} (h : mFileAt σ p = some q) : p = q := by
  unfold mFileAt at h
  split at h
  · exact Option.some.inj h
  · cases h
theorem mPlaceOf_lt {σ : MS} {i : Int32} {q : Nat} (h : mPlaceOf σ i = some q) : q < 40 := by have := (fdF_lt _ _ _ _ h).2.1; omega
theorem mFileOf_lt {σ : MS} {i : Int32} {q : Nat} (h : mFileOf σ i = some q) : q < 40 := by
  unfold mFileOf at h
  split at h
  · cases h
  · rename_i p hp
    split at h
    · split at h
      · cases h
      · rename_i r hr
        rw [← mFileAt_eq h]
        exact mPlaceOf_lt hr
    · rw [← mFileAt_eq h]
      exact mPlaceOf_lt hp
theorem fdF_some (P : Nat → Bool) : ∀ (n k p : Nat), k ≤ p → p < k + n → P p = true → ∃ q, fdF P n k = some q := by
  intro n
  induction n with
  | zero => intro k p h1 h2; omega
  | succ n ih =>
    intro k p h1 h2 hp
    rw [fdF]
    by_cases hk : P k = true
    · exact ⟨k, by rw [if_pos hk]⟩
    · rw [if_neg hk]
      have hne : k ≠ p := fun z => hk (by rw [z]; exact hp)
      exact ih (k + 1) p (by omega) (by omega) hp
theorem mPlaceOf_self {σ : MS} {p : Nat} (hp : p < 40) (h : ¬ sKd σ p = 0) : ∃ q, mPlaceOf σ (sId σ p) = some q := fdF_some _ 40 0 p (by omega) (by omega) (by simp [h])
theorem mIsFolder_pre {σ : MS} {i : Int32} (h : mIsFolder σ i = true) : i = 2 ∨ ∃ q, mPlaceOf σ i = some q := by
  unfold mIsFolder at h
  split at h
  · exact Or.inl (of_decide_eq_true h)
  · rename_i p hp
    exact Or.inr ⟨p, hp⟩
theorem mUsed_lt : True := trivial
theorem mAfter_le {σ : MS} (hok : mOk σ) (p : Nat) : mAfter σ p ≤ 48 := by
  unfold mAfter
  split
  · exact Nat.le_refl _
  · have := hok.2 (48 * p + sMa σ p - 1)
    omega
theorem mNextBlock_lt (σ : MS) (p : Nat) : mNextBlock σ p < 48 := by
  unfold mNextBlock
  split
  · rename_i h; exact h.1
  · have := (whF_le (fun b => mUsed σ b) 47 0).2
    omega
theorem n1_n0 {x : Int32} (h : ¬ x < 1) : ¬ x < 0 := by
  intro z
  have h1 := Int32.lt_iff_toInt_lt.mp z
  have h2 := mt Int32.lt_iff_toInt_lt.mpr h
  have e0 : (0 : Int32).toInt = 0 := by decide
  have e1 : (1 : Int32).toInt = 1 := by decide
  omega
theorem nn_le {x : Int32} {n : Nat} (h : ¬ x < 0) (hn : n < 2 ^ 31) (h2 : x ≤ nI n) : x.toNatClampNeg ≤ n := by
  obtain ⟨j, hj, rfl⟩ := nI_of h
  rw [nI_clamp hj]
  exact (nI_leI hj hn).mp h2
theorem sw_out4 {x : Int32} (h0 : ¬ x = 0) (h1 : ¬ x = 1) (h2 : ¬ x = 2) (h3 : ¬ x = 3) : x.toInt < 0 ∨ 3 < x.toInt := by
  have a0 := lv_neT h0 (a := 0) (by decide)
  have a1 := lv_neT h1 (a := 1) (by decide)
  have a2 := lv_neT h2 (a := 2) (by decide)
  have a3 := lv_neT h3 (a := 3) (by decide)
  omega
theorem sw_out5 {x : Int32} (h0 : ¬ x = 0) (h1 : ¬ x = 1) (h2 : ¬ x = 2) (h3 : ¬ x = 3) (h4 : ¬ x = 4) : x.toInt < 0 ∨ 4 < x.toInt := by
  have a := sw_out4 h0 h1 h2 h3
  have a4 := lv_neT h4 (a := 4) (by decide)
  omega
-- the public methods that read
def mFind (σ : MS) (par nm : Int32) : Int32 := if sMo σ = true then (if mNoName nm = true then -2 else match mEntryOf σ par nm with
  | none => -3
  | some p => if mIsFolder σ par = true then sId σ p else -3) else -1
def mSize (σ : MS) (i : Int32) : Int32 := if sMo σ = true then (match mFileOf σ i with
  | none => -3
  | some p => nI (sMa σ p)) else -1
def mBlock (σ : MS) (i j : Int32) : Int32 := if sMo σ = true then (match mFileOf σ i with
  | none => -3
  | some p => if j < 0 then -2 else if j < nI (sMa σ p) then nI (sLi σ (48 * p + j.toNatClampNeg)) else -2) else -1
def mExtents (σ : MS) (i : Int32) : Int32 := if sMo σ = true then (match mFileOf σ i with
  | none => -3
  | some p => mExtentsOf σ p) else -1
def mValence (σ : MS) (i : Int32) : Int32 := if sMo σ = true then (if mIsFolder σ i = true then mKeptValence σ i else -3) else -1
def mKindOf (σ : MS) (r : Nat) : Int32 := if r % 2 = 0 then (if sKd σ (r / 2) = 4 then 2 else sKd σ (r / 2)) else (if sKd σ (r / 2) = 1 then 4 else 5)
def mRow (σ : MS) (i w : Int32) : Int32 := if 0 ≤ i then (match mRanked σ i with
  | none => -2
  | some r => if w < 0 then -2 else if w ≤ 4 then (if w = 0 then mKeyId σ r else if w = 1 then mKeyName σ r else if w = 2 then mKindOf σ r else if w = 3 then mValueOf σ r else mMoreOf σ r) else -2) else -2
def mE (σ : MS) (p : Nat) : Int32 := if mIsF σ p = true then mExtentsOf σ p else 0
def mOverflows (σ : MS) : Int32 := flF (fun p a => if mE σ p ≤ 2 then a else a + mE σ p - 2) 40 0 0
def mBetter (σ : MS) (k : Nat) (b : Option Nat) : Bool := match b with
  | none => true
  | some q => decide (¬ sId σ q ≤ sId σ k)
def fbF (σ : MS) (ab : Int32) : Nat → Nat → Option Nat → Option Nat
  | 0, _, b => b
  | n + 1, k, b => fbF σ ab n (k + 1) (if mIsF σ k = true ∧ ¬ sId σ k ≤ ab ∧ mBetter σ k b = true then some k else b)
def mFileAfter (σ : MS) (ab : Int32) : Option Nat := fbF σ ab 40 0 none
theorem fbF_lt (σ : MS) (ab : Int32) : ∀ (n k : Nat) (b : Option Nat) (q : Nat), (∀ r, b = some r → r < k) → fbF σ ab n k b = some q → q < k + n := by
  intro n
  induction n with
  | zero => intro k b q hb h; exact hb q h
  | succ n ih =>
    intro k b q hb h
    rw [fbF] at h
    have := ih (k + 1) _ q (fun r hr => by
      split at hr
      · cases hr; omega
      · have := hb r hr; omega) h
    omega
theorem mFileAfter_lt {σ : MS} {ab : Int32} {q : Nat} (h : mFileAfter σ ab = some q) : q < 40 := by
  have := fbF_lt σ ab 40 0 none q (fun r hr => by cases hr) h
  omega
def mLen (σ : MS) (p a : Nat) : Nat := whF (fun j => !mBegins σ p (a + j)) (sMa σ p - a - 1) 1
def mTold (σ : MS) (p a : Nat) (w : Int32) : Int32 := if w = 0 then sId σ p else if w = 1 then nI a else if w = 2 then nI (sLi σ (48 * p + a)) else nI (mLen σ p a)
def ovI (σ : MS) (p : Nat) (w : Int32) : Nat → Nat → Int32 → Int32 → Int32 ⊕ Int32
  | 0, _, _, lf => .inr lf
  | n + 1, a, sn, lf => if mBegins σ p a = true then (if sn + 1 ≤ 2 then ovI σ p w n (a + 1) (sn + 1) lf else if lf = 0 then .inl (mTold σ p a w) else ovI σ p w n (a + 1) (sn + 1) (lf - 1)) else ovI σ p w n (a + 1) sn lf
def ovO (σ : MS) (w : Int32) : Nat → Option Nat → Int32 → Int32
  | 0, _, _ => -2
  | _ + 1, none, _ => -2
  | n + 1, some p, lf => match ovI σ p w (sMa σ p) 0 0 lf with
    | .inl r => r
    | .inr lf' => ovO σ w n (mFileAfter σ (sId σ p)) lf'
def mOverflow (σ : MS) (i w : Int32) : Int32 := if i < 0 then -2 else if w < 0 then -2 else if w ≤ 3 then ovO σ w 40 (mFileAfter σ 0) i else -2
def ck2 (σ : MS) (v t c : Int32) : Nat → Nat → Int32 → Int32
  | 0, _, b => v + b + t + c
  | n + 1, k, b => ck2 σ v t c n (k + 1) (b ||| (if sTu σ k = true then (if mListed σ k = true then 2 else 4) else 0))
def ck1 (σ : MS) : Nat → Nat → Int32 → Int32 → Int32 → Int32
  | 0, _, v, t, c => ck2 σ v t c 48 0 0
  | n + 1, k, v, t, c => ck1 σ n (k + 1) (if sKd σ k = 1 ∧ ¬ sEx σ k ≤ 0 then 1 else v) (if ¬ sKd σ k = 0 ∧ sLo σ k = true then 8 else t) (if sKd σ k = 4 ∧ ¬ sEx σ k ≤ 0 then 16 else c)
def mCheck (σ : MS) : Int32 := ck1 σ 40 0 (if sRe σ ≤ 0 then 0 else 1) 0 0
-- the public methods that write: answer and new state
def mMake (σ : MS) (par nm fl : Int32) : Int32 × MS := if sMo σ = true then (if mNoName nm = true then (-2, σ) else if mIsFolder σ par = true then (match mEntryOf σ par nm with
  | some _ => (-4, σ)
  | none => if mEntries σ = 20 then (-5, σ) else (sNx σ, mEnter σ (if fl = 0 then 2 else 1) par nm 0)) else (-3, σ)) else (-1, σ)
def mOf (σ : MS) (p : Nat) : Int32 := if sKd σ p = 3 then sTa σ p else sId σ p
def mHide (σ : MS) (p : Nat) (par nm : Int32) : MS := if sKd σ p = 2 then mEnter (pNa (pFo (pKd σ (va_up (sKd σ) p 4)) (va_up (sFo σ) p 3)) (va_up (sNa σ) p (mOf σ p))) 3 par nm (mOf σ p) else σ
def mLink (σ : MS) (par nm tp tn : Int32) : Int32 × MS := if sMo σ = true then (if mNoName nm = true then (-2, σ) else if mNoName tn = true then (-2, σ) else match mEntryOf σ par nm with
  | none => (-3, σ)
  | some p => if mIsFolder σ par = true ∧ ¬ sKd σ p = 1 ∧ mIsFolder σ tp = true then (match mEntryOf σ tp tn with
      | some _ => (-4, σ)
      | none => if mEntries σ = 20 then (-5, σ) else (sNx (mHide σ p par nm), mEnter (mHide σ p par nm) 3 tp tn (mOf σ p))) else (-3, σ)) else (-1, σ)
def mDrop (σ : MS) (p : Nat) : MS := pKd σ (va_up (sKd σ) p 0)
def mUnlink (σ : MS) (p : Nat) : MS := if sKd σ p = 3 ∧ mLinksFor (mDrop σ p) (sTa σ p) = 0 then mDrop (mDrop σ p) ((mPlaceOf (mDrop σ p) (sTa σ p)).getD 0) else mDrop σ p
def mRemove (σ : MS) (par nm : Int32) : Int32 × MS := if sMo σ = true then (if mNoName nm = true then (-2, σ) else match mEntryOf σ par nm with
  | none => (-3, σ)
  | some p => if mIsFolder σ par = true then (if sKd σ p = 1 ∧ ¬ mEntriesIn σ (sId σ p) ≤ 0 then (-6, σ) else (sId σ p, mUnlink σ p)) else (-3, σ)) else (-1, σ)
def mMove (σ : MS) (par nm tp tn : Int32) : Int32 × MS := if sMo σ = true then (if mNoName nm = true then (-2, σ) else if mNoName tn = true then (-2, σ) else match mEntryOf σ par nm with
  | none => (-3, σ)
  | some p => if mIsFolder σ par = true ∧ mIsFolder σ tp = true then (if sKd σ p = 1 ∧ mWithin σ tp (sId σ p) = true then (-7, σ) else if par = tp ∧ nm = tn then (sId σ p, σ) else match mEntryOf σ tp tn with
      | some _ => (-4, σ)
      | none => (sId σ p, pNa (pFo σ (va_up (sFo σ) p tp)) (va_up (sNa σ) p tn))) else (-3, σ)) else (-1, σ)
def mGrow (σ : MS) (i nn : Int32) : Int32 × MS := if sMo σ = true then (if nn < 1 then (-2, σ) else if nn ≤ 48 then (match mFileOf σ i with
  | none => (-3, σ)
  | some p => if nn ≤ mFreeBlocks σ then (nI (sMa (mGrowF p nn.toNatClampNeg σ) p), mGrowF p nn.toNatClampNeg σ) else (-8, σ)) else (-2, σ)) else (-1, σ)
def mShrink (σ : MS) (i nn : Int32) : Int32 × MS := if sMo σ = true then (if nn < 1 then (-2, σ) else if nn ≤ 48 then (match mFileOf σ i with
  | none => (-3, σ)
  | some p => if nn ≤ nI (sMa σ p) then (nI (sMa σ p - nn.toNatClampNeg), pMa σ (va_up (sMa σ) p (sMa σ p - nn.toNatClampNeg))) else (-2, σ)) else (-2, σ)) else (-1, σ)
def mUnmount (σ : MS) : Bool × MS := (sMo σ, pMo σ false)
def mHarm (σ : MS) (w a : Int32) : Bool × MS := if sMo σ = true then (false, σ) else if w < 0 then (false, σ) else if w ≤ 3 then (
    if w = 0 then (if a = 2 then (true, pRe σ (sRe σ + 1)) else match mPlaceOf σ a with
      | none => (false, σ)
      | some p => if sKd σ p = 1 then (true, pEx σ (va_up (sEx σ) p (sEx σ p + 1))) else (false, σ))
    else if w = 1 then (if a < 0 then (false, σ) else if a ≤ 47 then (true, pTu σ (va_up (sTu σ) a.toNatClampNeg (!sTu σ a.toNatClampNeg))) else (false, σ))
    else if w = 2 then (match mPlaceOf σ a with
      | none => (false, σ)
      | some p => if sLo σ p = true then (false, σ) else (true, pLo σ (va_up (sLo σ) p true)))
    else (match mPlaceOf σ a with
      | none => (false, σ)
      | some p => if sKd σ p = 4 then (true, pEx σ (va_up (sEx σ) p (sEx σ p + 1))) else (false, σ))) else (false, σ)
def mMount (σ : MS) : Bool × MS := if sMo σ = true then (false, σ) else if mCheck σ = 0 then (true, pMo σ true) else (false, σ)
def md2 : Nat → Nat → Int32 → MS → Int32 × MS
  | 0, _, a, σ => (a, σ)
  | n + 1, k, a, σ => md2 n (k + 1) (if sTu σ k = true then a + 1 else a) (pTu σ (va_up (sTu σ) k false))
def md1 : Nat → Nat → Int32 → MS → Int32 × MS
  | 0, _, a, σ => md2 48 0 a σ
  | n + 1, k, a, σ => if sKd σ k = 0 then md1 n (k + 1) a σ else md1 n (k + 1) (if sLo σ k = true then (if sEx σ k ≤ 0 then a else a + 1) + 1 else (if sEx σ k ≤ 0 then a else a + 1)) (pLo (pEx σ (va_up (sEx σ) k 0)) (va_up (sLo σ) k false))
def mMend (σ : MS) : Int32 × MS := if sMo σ = true then (-1, σ) else md1 40 0 (if sRe σ ≤ 0 then 0 else 1) (pRe σ 0)
theorem mGrow_ma (τ : MS) (p b : Nat) : sMa (pMa (pLi τ (va_up (sLi τ) (48 * p + sMa τ p) b)) (va_up (sMa τ) p (sMa τ p + 1))) p = sMa τ p + 1 := by simp [sMa, pMa, va_up]
theorem mOk_grow {τ : MS} {p : Nat} (h : mOk τ) (hm : sMa τ p + 1 ≤ 48) : mOk (pMa (pLi τ (va_up (sLi τ) (48 * p + sMa τ p) (mNextBlock τ p))) (va_up (sMa τ) p (sMa τ p + 1))) := by
  refine ⟨fun q => ?_, fun j => ?_⟩
  · show va_up (sMa τ) p (sMa τ p + 1) q ≤ 48
    unfold va_up
    split
    · exact hm
    · exact h.1 q
  · show va_up (sLi τ) (48 * p + sMa τ p) (mNextBlock τ p) j < 48
    unfold va_up
    split
    · exact mNextBlock_lt τ p
    · exact h.2 j
