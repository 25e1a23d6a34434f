-- what a state of the reference is, and what each of its methods answers, as functions
def bI (b : Bool) : Int32 := if b = true then 1 else 0
theorem bI_t {b : Bool} (h : ¬ bI b = 0) : b = true := by cases b <;> simp_all [bI]
theorem bI_f {b : Bool} (h : bI b = 0) : ¬ b = true := by cases b <;> simp_all [bI]
theorem bI_inj {a b : Bool} (h : bI a = bI b) : a = b := by cases a <;> cases b <;> simp_all [bI]
theorem bI_ninj {a b : Bool} (h : ¬ bI a = bI b) : ¬ a = b := fun z => h (by rw [z])
theorem bI_nar (b : Bool) : narrow .boolean (.int (bI b)) = .int (bI b) := by cases b <;> rfl
theorem bI_vnar (b : Bool) : vp_nar .boolean (bI b) = bI b := by cases b <;> rfl
theorem bI_fit (b : Bool) : fits .boolean (.int (bI b)) = true := by cases b <;> rfl
def oI (o : Option Nat) : Int32 := match o with
  | none => -1
  | some k => nI k
theorem ic_nat (p : Nat) : nI p + Int32.ofInt 1 = nI (p + 1) := nI_1 p
theorem nn_eq {x : Int32} (h : ¬ x < 0) : x = nI x.toNatClampNeg := by
  obtain ⟨j, hj, rfl⟩ := nI_of h
  rw [nI_clamp hj]
theorem nn_lt {x : Int32} {n : Nat} (h : ¬ x < 0) (hn : n < 2 ^ 31) (h2 : x < nI n) : x.toNatClampNeg < n := by
  obtain ⟨j, hj, rfl⟩ := nI_of h
  rw [nI_clamp hj]
  exact (nI_ltI hj hn).mp h2
theorem nn_lt31 (x : Int32) : x.toNatClampNeg < 2 ^ 31 := by
  by_cases h : x < 0
  · have : x.toInt < 0 := by simpa using Int32.lt_iff_toInt_lt.mp h
    have e : x.toNatClampNeg = x.toInt.toNat := rfl
    omega
  · obtain ⟨j, hj, rfl⟩ := nI_of h
    rw [nI_clamp hj]; exact hj
-- loops: the first hit, a count, a walk as long as a word holds, any hit, a fold
def fdF (P : Nat → Bool) : Nat → Nat → Option Nat
  | 0, _ => none
  | n + 1, k => if P k = true then some k else fdF P n (k + 1)
def cnF (P : Nat → Bool) : Nat → Nat → Int32 → Int32
  | 0, _, a => a
  | n + 1, k, a => cnF P n (k + 1) (if P k = true then a + 1 else a)
def whF (P : Nat → Bool) : Nat → Nat → Nat
  | 0, k => k
  | n + 1, k => if P k = true then whF P n (k + 1) else k
def anF (P : Nat → Bool) : Nat → Nat → Bool
  | 0, _ => false
  | n + 1, k => if P k = true then true else anF P n (k + 1)
def flF (g : Nat → Int32 → Int32) : Nat → Nat → Int32 → Int32
  | 0, _, a => a
  | n + 1, k, a => flF g n (k + 1) (g k a)
theorem fdF_lt (P : Nat → Bool) : ∀ (n k q : Nat), fdF P n k = some q → k ≤ q ∧ q < k + n ∧ P q = true := by
  intro n
  induction n with
  | zero => intro k q h; cases h
  | succ n ih =>
    intro k q h
    rw [fdF] at h
    by_cases hp : P k = true
    · rw [if_pos hp] at h
      cases h
      exact ⟨Nat.le_refl _, by omega, hp⟩
    · rw [if_neg hp] at h
      obtain ⟨h1, h2, h3⟩ := ih (k + 1) q h
      exact ⟨by omega, by omega, h3⟩
theorem whF_le (P : Nat → Bool) : ∀ (n k : Nat), k ≤ whF P n k ∧ whF P n k ≤ k + n := by
  intro n
  induction n with
  | zero => intro k; exact ⟨Nat.le_refl _, Nat.le_refl _⟩
  | succ n ih =>
    intro k
    rw [whF]
    by_cases hp : P k = true
    · rw [if_pos hp]
      have := ih (k + 1)
      omega
    · rw [if_neg hp]
      omega
-- the reference's state: mounted, next, kind, id, folder, name, target, extra, lost, rootExtra, many, list, turned
abbrev MS : Type := Bool × Int32 × (Nat → Int32) × (Nat → Int32) × (Nat → Int32) × (Nat → Int32) × (Nat → Int32) × (Nat → Int32) × (Nat → Bool) × Int32 × (Nat → Nat) × (Nat → Nat) × (Nat → Bool)
def sMo (s : MS) : Bool := s.1
def sNx (s : MS) : Int32 := s.2.1
def sKd (s : MS) : Nat → Int32 := s.2.2.1
def sId (s : MS) : Nat → Int32 := s.2.2.2.1
def sFo (s : MS) : Nat → Int32 := s.2.2.2.2.1
def sNa (s : MS) : Nat → Int32 := s.2.2.2.2.2.1
def sTa (s : MS) : Nat → Int32 := s.2.2.2.2.2.2.1
def sEx (s : MS) : Nat → Int32 := s.2.2.2.2.2.2.2.1
def sLo (s : MS) : Nat → Bool := s.2.2.2.2.2.2.2.2.1
def sRe (s : MS) : Int32 := s.2.2.2.2.2.2.2.2.2.1
def sMa (s : MS) : Nat → Nat := s.2.2.2.2.2.2.2.2.2.2.1
def sLi (s : MS) : Nat → Nat := s.2.2.2.2.2.2.2.2.2.2.2.1
def sTu (s : MS) : Nat → Bool := s.2.2.2.2.2.2.2.2.2.2.2.2
def pMo (s : MS) (v : Bool) : MS := (v, s.2)
def pNx (s : MS) (v : Int32) : MS := (s.1, v, s.2.2)
def pKd (s : MS) (v : Nat → Int32) : MS := (s.1, s.2.1, v, s.2.2.2)
def pId (s : MS) (v : Nat → Int32) : MS := (s.1, s.2.1, s.2.2.1, v, s.2.2.2.2)
def pFo (s : MS) (v : Nat → Int32) : MS := (s.1, s.2.1, s.2.2.1, s.2.2.2.1, v, s.2.2.2.2.2)
def pNa (s : MS) (v : Nat → Int32) : MS := (s.1, s.2.1, s.2.2.1, s.2.2.2.1, s.2.2.2.2.1, v, s.2.2.2.2.2.2)
def pTa (s : MS) (v : Nat → Int32) : MS := (s.1, s.2.1, s.2.2.1, s.2.2.2.1, s.2.2.2.2.1, s.2.2.2.2.2.1, v, s.2.2.2.2.2.2.2)
def pEx (s : MS) (v : Nat → Int32) : MS := (s.1, s.2.1, s.2.2.1, s.2.2.2.1, s.2.2.2.2.1, s.2.2.2.2.2.1, s.2.2.2.2.2.2.1, v, s.2.2.2.2.2.2.2.2)
def pLo (s : MS) (v : Nat → Bool) : MS := (s.1, s.2.1, s.2.2.1, s.2.2.2.1, s.2.2.2.2.1, s.2.2.2.2.2.1, s.2.2.2.2.2.2.1, s.2.2.2.2.2.2.2.1, v, s.2.2.2.2.2.2.2.2.2)
def pRe (s : MS) (v : Int32) : MS := (s.1, s.2.1, s.2.2.1, s.2.2.2.1, s.2.2.2.2.1, s.2.2.2.2.2.1, s.2.2.2.2.2.2.1, s.2.2.2.2.2.2.2.1, s.2.2.2.2.2.2.2.2.1, v, s.2.2.2.2.2.2.2.2.2.2)
def pMa (s : MS) (v : Nat → Nat) : MS := (s.1, s.2.1, s.2.2.1, s.2.2.2.1, s.2.2.2.2.1, s.2.2.2.2.2.1, s.2.2.2.2.2.2.1, s.2.2.2.2.2.2.2.1, s.2.2.2.2.2.2.2.2.1, s.2.2.2.2.2.2.2.2.2.1, v, s.2.2.2.2.2.2.2.2.2.2.2)
def pLi (s : MS) (v : Nat → Nat) : MS := (s.1, s.2.1, s.2.2.1, s.2.2.2.1, s.2.2.2.2.1, s.2.2.2.2.2.1, s.2.2.2.2.2.2.1, s.2.2.2.2.2.2.2.1, s.2.2.2.2.2.2.2.2.1, s.2.2.2.2.2.2.2.2.2.1, s.2.2.2.2.2.2.2.2.2.2.1, v, s.2.2.2.2.2.2.2.2.2.2.2.2)
def pTu (s : MS) (v : Nat → Bool) : MS := (s.1, s.2.1, s.2.2.1, s.2.2.2.1, s.2.2.2.2.1, s.2.2.2.2.2.1, s.2.2.2.2.2.2.1, s.2.2.2.2.2.2.2.1, s.2.2.2.2.2.2.2.2.1, s.2.2.2.2.2.2.2.2.2.1, s.2.2.2.2.2.2.2.2.2.2.1, s.2.2.2.2.2.2.2.2.2.2.2.1, v)
-- what its reading methods answer
def mPlaceOf (σ : MS) (i : Int32) : Option Nat := fdF (fun p => decide (¬ sKd σ p = 0 ∧ sId σ p = i)) 40 0
def mIsFolder (σ : MS) (i : Int32) : Bool := match mPlaceOf σ i with
  | none => decide (i = 2)
  | some p => decide (i = 2 ∨ sKd σ p = 1)
def mFileAt (σ : MS) (p : Nat) : Option Nat := if sKd σ p = 2 ∨ sKd σ p = 4 then some p else none
def mFileOf (σ : MS) (i : Int32) : Option Nat := match mPlaceOf σ i with
  | none => none
  | some p => if sKd σ p = 3 then (match mPlaceOf σ (sTa σ p) with
      | none => none
      | some q => mFileAt σ q) else mFileAt σ p
def mEntryOf (σ : MS) (par n : Int32) : Option Nat := fdF (fun p => decide (¬ sKd σ p < 1 ∧ ¬ 3 < sKd σ p ∧ sFo σ p = par ∧ sNa σ p = n)) 40 0
def mEntries (σ : MS) : Int32 := cnF (fun p => decide (¬ sKd σ p < 1 ∧ ¬ 3 < sKd σ p)) 40 0 0
def mEntriesIn (σ : MS) (par : Int32) : Int32 := cnF (fun p => decide (¬ sKd σ p < 1 ∧ ¬ 3 < sKd σ p ∧ sFo σ p = par)) 40 0 0
def mLinksFor (σ : MS) (i : Int32) : Int32 := cnF (fun p => decide (sKd σ p = 3 ∧ sTa σ p = i)) 40 0 0
def mNoName (n : Int32) : Bool := decide (n < 0 ∨ ¬ n ≤ 99)
def mFree (σ : MS) : Nat := whF (fun p => decide (¬ sKd σ p = 0)) 39 0
def mEnter (σ : MS) (k par n t : Int32) : MS :=
  let p := mFree σ
  pNx (pMa (pLo (pEx (pTa (pNa (pFo (pId (pKd σ (va_up (sKd σ) p k)) (va_up (sId σ) p (sNx σ))) (va_up (sFo σ) p par)) (va_up (sNa σ) p n)) (va_up (sTa σ) p t)) (va_up (sEx σ) p 0)) (va_up (sLo σ) p false)) (va_up (sMa σ) p 0)) (sNx σ + 1)
def mWithinF (σ : MS) (x : Int32) : Nat → Int32 → Bool
  | 0, a => decide (a = x)
  | n + 1, a => if a = 2 then decide (a = x) else if a = x then true else mWithinF σ x n (match mPlaceOf σ a with
      | none => 2
      | some p => sFo σ p)
def mWithin (σ : MS) (i x : Int32) : Bool := mWithinF σ x 22 i
def mHas (σ : MS) (b p : Nat) : Bool := anF (fun i => decide (sLi σ (48 * p + i) = b)) (sMa σ p) 0
def mIsF (σ : MS) (p : Nat) : Bool := decide (sKd σ p = 2 ∨ sKd σ p = 4)
def mListed (σ : MS) (b : Nat) : Bool := anF (fun p => mIsF σ p && mHas σ b p) 40 0
def mUsed (σ : MS) (b : Nat) : Bool := decide (¬ mListed σ b = sTu σ b)
def mFreeBlocks (σ : MS) : Int32 := cnF (fun b => !mUsed σ b) 48 0 0
def mAfter (σ : MS) (p : Nat) : Nat := if sMa σ p = 0 then 48 else sLi σ (48 * p + sMa σ p - 1) + 1
def mNextBlock (σ : MS) (p : Nat) : Nat := if mAfter σ p < 48 ∧ mUsed σ (mAfter σ p) = false then mAfter σ p else whF (fun b => mUsed σ b) 47 0
def mGrowF (p : Nat) : Nat → MS → MS
  | 0, σ => σ
  | n + 1, σ => mGrowF p n (pMa (pLi σ (va_up (sLi σ) (48 * p + sMa σ p) (mNextBlock σ p))) (va_up (sMa σ) p (sMa σ p + 1)))
def mBegins (σ : MS) (p i : Nat) : Bool := decide (i = 0 ∨ ¬ sLi σ (48 * p + i) = sLi σ (48 * p + i - 1) + 1)
def mExtentsOf (σ : MS) (p : Nat) : Int32 := cnF (fun i => mBegins σ p i) (sMa σ p) 0 0
def mKeptValence (σ : MS) (i : Int32) : Int32 := mEntriesIn σ i + (if i = 2 then sRe σ else sEx σ ((mPlaceOf σ i).getD 0))
def mIsRecord (σ : MS) (r : Nat) : Bool := decide (¬ sKd σ (r / 2) = 0 ∧ (r % 2 = 0 ∨ ¬ sLo σ (r / 2) = true))
def mKeyId (σ : MS) (r : Nat) : Int32 := if r % 2 = 0 then sFo σ (r / 2) else sId σ (r / 2)
def mKeyName (σ : MS) (r : Nat) : Int32 := if r % 2 = 0 then sNa σ (r / 2) else -1
def mRecords (σ : MS) : Int32 := cnF (fun r => mIsRecord σ r) 80 0 0
def mBefore (σ : MS) (r q : Nat) : Bool := decide (mKeyId σ r < mKeyId σ q ∨ (mKeyId σ r = mKeyId σ q ∧ ¬ mKeyName σ q ≤ mKeyName σ r))
def mRank (σ : MS) (r : Nat) : Int32 := cnF (fun q => mIsRecord σ q && mBefore σ q r) 80 0 0
def mRanked (σ : MS) (i : Int32) : Option Nat := fdF (fun r => mIsRecord σ r && decide (mRank σ r = i)) 80 0
def mValueOf (σ : MS) (r : Nat) : Int32 := if r % 2 = 0 then sId σ (r / 2) else sFo σ (r / 2)
def mMoreOf (σ : MS) (r : Nat) : Int32 := if r % 2 = 1 then sNa σ (r / 2) else if sKd σ (r / 2) = 1 then mKeptValence σ (sId σ (r / 2)) else if sKd σ (r / 2) = 3 then sTa σ (r / 2) else nI (sMa σ (r / 2))
def mOk (σ : MS) : Prop := (∀ p, sMa σ p ≤ 48) ∧ ∀ j, sLi σ j < 48
theorem mFileAt_eq {σ : MS} {p q : Nat} (h : mFileAt σ p = some q) : p = q := by
  unfold mFileAt at h
  split at h
  · exact Option.some.inj h
  · cases h
theorem mPlaceOf_lt {σ : MS} {i : Int32} {q : Nat} (h : mPlaceOf σ i = some q) : q < 40 := by have := (fdF_lt _ _ _ _ h).2.1; omega
theorem mFileOf_lt {σ : MS} {i : Int32} {q : Nat} (h : mFileOf σ i = some q) : q < 40 := by
  unfold mFileOf at h
  split at h
  · cases h
  · rename_i p hp
    split at h
    · split at h
      · cases h
      · rename_i r hr
        rw [← mFileAt_eq h]
        exact mPlaceOf_lt hr
    · rw [← mFileAt_eq h]
      exact mPlaceOf_lt hp
