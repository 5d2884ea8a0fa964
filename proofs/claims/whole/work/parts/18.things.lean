/-! THINGS: what their methods do to the machine -/
theorem i0 : (0 : Int32).toInt = 0 := rfl
theorem i1 : (1 : Int32).toInt = 1 := rfl
theorem i5 : (5 : Int32).toInt = 5 := rfl
theorem i7 : (7 : Int32).toInt = 7 := rfl
theorem i8 : (8 : Int32).toInt = 8 := rfl
theorem i9 : (9 : Int32).toInt = 9 := rfl
theorem isRw_iff {k : Int32} : isRw k ↔ 1 ≤ k.toInt ∧ k.toInt ≤ 7 := by
  unfold isRw
  rw [Int32.le_iff_toInt_le, Int32.le_iff_toInt_le, i1, i7]
theorem kRow_0 {k : Int32} : kRow k = 0 ↔ ¬ isRw k := by
  rw [isRw_iff]
  unfold kRow
  by_cases h1 : k ≤ 0
  · rw [if_pos h1]
    rw [Int32.le_iff_toInt_le, i0] at h1
    exact ⟨fun _ => by omega, fun _ => rfl⟩
  · rw [if_neg h1]
    rw [Int32.le_iff_toInt_le, i0] at h1
    by_cases h2 : (7 : Int32) < k
    · rw [if_pos h2]
      rw [Int32.lt_iff_toInt_lt, i7] at h2
      exact ⟨fun _ => by omega, fun _ => rfl⟩
    · rw [if_neg h2]
      rw [Int32.lt_iff_toInt_lt, i7] at h2
      exact ⟨fun z => absurd z (by decide), fun z => absurd (by omega) z⟩
def mSetSl (M : mT) (s t : Nat) : mT := (M.1, mKd M, mBg M, mLn M, mNm M, mIt M, va_up (mSl M) s t, mRg M, mCn M)
def mSetRg (M : mT) (r : Nat) (x : Int64) : mT := (M.1, mKd M, mBg M, mLn M, mNm M, mIt M, mSl M, vp_updL (mRg M) r x, mCn M)
def mSetIt (M : mT) (f : Nat → Int64) : mT := (M.1, mKd M, mBg M, mLn M, mNm M, f, mSl M, mRg M, mCn M)
def mSetCn (M : mT) (k : Nat) (x : Int32) : mT := (M.1, mKd M, mBg M, mLn M, mNm M, mIt M, mSl M, mRg M, upd (mCn M) k x)
def mAddRow (M : mT) (k : Int32) (len : Nat) : mT := ((mMade M + 1, mUsed M + len), upd (mKd M) (mMade M + 1) k, va_up (mBg M) (mMade M + 1) (mUsed M), va_up (mLn M) (mMade M + 1) len, mNm M, (fun j => if mUsed M ≤ j ∧ j < mUsed M + len then 0 else mIt M j), mSl M, mRg M, mCn M)
def mAddFig (M : mT) (k v : Int32) : mT := ((mMade M + 1, mUsed M), upd (mKd M) (mMade M + 1) k, va_up (mBg M) (mMade M + 1) (mUsed M), va_up (mLn M) (mMade M + 1) 0, upd (mNm M) (mMade M + 1) v, mIt M, mSl M, mRg M, mCn M)
/-- the invariant through the changes -/
theorem mInv.setSl {M : mT} (I : mInv M) {s t : Nat} (ht : t ≤ mMade M) : mInv (mSetSl M s t) := by
  obtain ⟨h1, h2, h3, h4, h5, h6, h7, h8⟩ := I
  refine ⟨h1, h2, h3, h4, h5, h6, fun q hq => ?_, h8⟩
  show va_up (mSl M) s t q ≤ mMade M
  simp only [va_up]
  split
  · exact ht
  · exact h7 q hq
theorem mInv.setRg {M : mT} (I : mInv M) {r : Nat} {x : Int64} : mInv (mSetRg M r x) := I
theorem mInv.setCn {M : mT} (I : mInv M) {k : Nat} {x : Int32} : mInv (mSetCn M k x) := I
/-- new items in one row: of a row of THINGS they are THINGS -/
theorem mInv.setIt {M : mT} (I : mInv M) {t : Nat} (h1 : 1 ≤ t) (ht : t ≤ mMade M) (hr : isRw (mKd M t)) {f : Nat → Int64} (ho : ∀ j, j < mBg M t ∨ mBg M t + mLn M t ≤ j → f j = mIt M j) (hi : 5 ≤ mKd M t → ∀ i, i < mLn M t → ∃ u : Nat, u ≤ mMade M ∧ f (mBg M t + i) = lN u ∧ mOk M (mKd M t) u) : mInv (mSetIt M f) := by
  obtain ⟨g1, g2, g3, g4, g5, g6, g7, g8⟩ := I
  refine ⟨g1, g2, g3, g4, g5, g6, g7, fun u hu1 hu2 hk5 hk7 i hi2 => ?_⟩
  show ∃ w : Nat, w ≤ mMade M ∧ f (mBg M u + i) = lN w ∧ mOk M (mKd M u) w
  have hk5 : 5 ≤ mKd M u := hk5
  have hk7 : mKd M u ≤ 7 := hk7
  have hu2 : u ≤ mMade M := hu2
  have hi2 : i < mLn M u := hi2
  have hru : isRw (mKd M u) := by
    rw [isRw_iff]
    have a := Int32.le_iff_toInt_le.mp hk5
    have b := Int32.le_iff_toInt_le.mp hk7
    rw [i5] at a; rw [i7] at b
    omega
  rcases Nat.lt_trichotomy u t with e | e | e
  · have := g6 u t hu1 e ht hru hr
    rw [ho _ (Or.inl (by have : i < mLn M u := hi2; omega))]
    exact g8 u hu1 hu2 hk5 hk7 i hi2
  · subst e
    exact hi hk5 i hi2
  · have := g6 t u h1 e hu2 hr hru
    rw [ho _ (Or.inr (by omega))]
    exact g8 u hu1 hu2 hk5 hk7 i hi2
theorem mInv.addRow {M : mT} (I : mInv M) {k : Int32} {len : Nat} (hk : isRw k) (h1 : mMade M + 1 ≤ 200) (h2 : mUsed M + len ≤ 3000) : mInv (mAddRow M k len) := by
  obtain ⟨g1, g2, g3, g4, g5, g6, g7, g8⟩ := I
  have eK : ∀ t, t ≤ mMade M → mKd (mAddRow M k len) t = mKd M t := fun t ht => by show upd (mKd M) _ k t = _; simp [upd]; omega
  have eB : ∀ t, t ≤ mMade M → mBg (mAddRow M k len) t = mBg M t := fun t ht => by show va_up (mBg M) _ _ t = _; simp [va_up]; omega
  have eL : ∀ t, t ≤ mMade M → mLn (mAddRow M k len) t = mLn M t := fun t ht => by show va_up (mLn M) _ _ t = _; simp [va_up]; omega
  have nK : mKd (mAddRow M k len) (mMade M + 1) = k := by show upd (mKd M) _ k _ = _; simp [upd]
  have nB : mBg (mAddRow M k len) (mMade M + 1) = mUsed M := by show va_up (mBg M) _ _ _ = _; simp [va_up]
  have nL : mLn (mAddRow M k len) (mMade M + 1) = len := by show va_up (mLn M) _ _ _ = _; simp [va_up]
  have hk' := hk
  rw [isRw_iff] at hk'
  refine ⟨h1, h2, ?_, ?_, ?_, ?_, fun s hs => Nat.le_succ_of_le (g7 s hs), ?_⟩
  · rw [eK 0 (Nat.zero_le _)]; exact g3
  · intro t ht1 ht2
    have ht2 : t ≤ mMade M + 1 := ht2
    by_cases e : t = mMade M + 1
    · subst e; rw [nK]
      rw [Int32.le_iff_toInt_le, Int32.le_iff_toInt_le, i1, i9]; omega
    · rw [eK t (by omega)]; exact g4 t ht1 (by omega)
  · intro t ht1 ht2 hr
    have ht2 : t ≤ mMade M + 1 := ht2
    show _ ≤ mUsed M + len
    by_cases e : t = mMade M + 1
    · subst e; rw [nB, nL]; exact Nat.le_refl _
    · rw [eK t (by omega)] at hr
      rw [eB t (by omega), eL t (by omega)]
      have := g5 t ht1 (by omega) hr
      omega
  · intro t u ht1 htu hu2 hr1 hr2
    have hu2 : u ≤ mMade M + 1 := hu2
    rw [eK t (by omega)] at hr1
    rw [eB t (by omega), eL t (by omega)]
    by_cases e : u = mMade M + 1
    · subst e; rw [nB]; exact g5 t ht1 (by omega) hr1
    · rw [eK u (by omega)] at hr2
      rw [eB u (by omega)]
      exact g6 t u ht1 htu (by omega) hr1 hr2
  · intro t ht1 ht2 hk5 hk7 i hi
    have ht2 : t ≤ mMade M + 1 := ht2
    by_cases e : t = mMade M + 1
    · subst e
      rw [nL] at hi
      refine ⟨0, Nat.zero_le _, ?_, Or.inl rfl⟩
      show (if mUsed M ≤ mBg (mAddRow M k len) (mMade M + 1) + i ∧ mBg (mAddRow M k len) (mMade M + 1) + i < mUsed M + len then 0 else mIt M _) = lN 0
      rw [nB, if_pos (by omega)]
      rfl
    · rw [eK t (by omega)] at hk5 hk7
      rw [eL t (by omega)] at hi
      have hrt : isRw (mKd M t) := by
        rw [isRw_iff]
        have a := Int32.le_iff_toInt_le.mp hk5
        have b := Int32.le_iff_toInt_le.mp hk7
        rw [i5] at a; rw [i7] at b
        omega
      have := g5 t ht1 (by omega) hrt
      obtain ⟨w, hw1, hw2, hw3⟩ := g8 t ht1 (by omega) hk5 hk7 i hi
      refine ⟨w, Nat.le_succ_of_le hw1, ?_, by unfold mOk at hw3 ⊢; rw [eK t (by omega), eK w hw1]; exact hw3⟩
      show (if mUsed M ≤ mBg (mAddRow M k len) t + i ∧ mBg (mAddRow M k len) t + i < mUsed M + len then 0 else mIt M _) = _
      rw [eB t (by omega), if_neg (by omega)]
      exact hw2
theorem mInv.addFig {M : mT} (I : mInv M) {k v : Int32} (hk : k = 8 ∨ k = 9) (h1 : mMade M + 1 ≤ 200) : mInv (mAddFig M k v) := by
  obtain ⟨g1, g2, g3, g4, g5, g6, g7, g8⟩ := I
  have eK : ∀ t, t ≤ mMade M → mKd (mAddFig M k v) t = mKd M t := fun t ht => by show upd (mKd M) _ k t = _; simp [upd]; omega
  have eB : ∀ t, t ≤ mMade M → mBg (mAddFig M k v) t = mBg M t := fun t ht => by show va_up (mBg M) _ _ t = _; simp [va_up]; omega
  have eL : ∀ t, t ≤ mMade M → mLn (mAddFig M k v) t = mLn M t := fun t ht => by show va_up (mLn M) _ _ t = _; simp [va_up]; omega
  have nK : mKd (mAddFig M k v) (mMade M + 1) = k := by show upd (mKd M) _ k _ = _; simp [upd]
  have kI : k.toInt = 8 ∨ k.toInt = 9 := by rcases hk with rfl | rfl; exact Or.inl rfl; exact Or.inr rfl
  have nR : ¬ isRw k := by rw [isRw_iff]; omega
  refine ⟨h1, g2, ?_, ?_, ?_, ?_, fun s hs => Nat.le_succ_of_le (g7 s hs), ?_⟩
  · rw [eK 0 (Nat.zero_le _)]; exact g3
  · intro t ht1 ht2
    have ht2 : t ≤ mMade M + 1 := ht2
    by_cases e : t = mMade M + 1
    · subst e; rw [nK]
      rw [Int32.le_iff_toInt_le, Int32.le_iff_toInt_le, i1, i9]; omega
    · rw [eK t (by omega)]; exact g4 t ht1 (by omega)
  · intro t ht1 ht2 hr
    have ht2 : t ≤ mMade M + 1 := ht2
    by_cases e : t = mMade M + 1
    · subst e; rw [nK] at hr; exact absurd hr nR
    · rw [eK t (by omega)] at hr
      rw [eB t (by omega), eL t (by omega)]
      exact g5 t ht1 (by omega) hr
  · intro t u ht1 htu hu2 hr1 hr2
    have hu2 : u ≤ mMade M + 1 := hu2
    by_cases e : u = mMade M + 1
    · subst e; rw [nK] at hr2; exact absurd hr2 nR
    · rw [eK t (by omega)] at hr1
      rw [eK u (by omega)] at hr2
      rw [eB t (by omega), eL t (by omega), eB u (by omega)]
      exact g6 t u ht1 htu (by omega) hr1 hr2
  · intro t ht1 ht2 hk5 hk7 i hi
    have ht2 : t ≤ mMade M + 1 := ht2
    by_cases e : t = mMade M + 1
    · subst e; rw [nK] at hk7
      have b := Int32.le_iff_toInt_le.mp hk7
      rw [i7] at b
      omega
    · rw [eK t (by omega)] at hk5 hk7
      rw [eL t (by omega)] at hi
      obtain ⟨w, hw1, hw2, hw3⟩ := g8 t ht1 (by omega) hk5 hk7 i hi
      refine ⟨w, Nat.le_succ_of_le hw1, ?_, by unfold mOk at hw3 ⊢; rw [eK t (by omega), eK w hw1]; exact hw3⟩
      show mIt M (mBg (mAddFig M k v) t + i) = _
      rw [eB t (by omega)]
      exact hw2
