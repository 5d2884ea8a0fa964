/-! THE MACHINE, as both sides have it: ((made, used), kinds, begins, lengths of rows, numbers of figures, items, slots, registers, counters (0 begun, 1 failed, 2 came, 3 last parts, 4 lost, 5 latest failed)) -/
abbrev mT : Type := (Nat × Nat) × (Nat → Int32) × (Nat → Nat) × (Nat → Nat) × (Nat → Int32) × (Nat → Int64) × (Nat → Nat) × (Nat → Int64) × (Nat → Int32)
abbrev mMade (M : mT) : Nat := M.1.1
abbrev mUsed (M : mT) : Nat := M.1.2
abbrev mKd (M : mT) : Nat → Int32 := M.2.1
abbrev mBg (M : mT) : Nat → Nat := M.2.2.1
abbrev mLn (M : mT) : Nat → Nat := M.2.2.2.1
abbrev mNm (M : mT) : Nat → Int32 := M.2.2.2.2.1
abbrev mIt (M : mT) : Nat → Int64 := M.2.2.2.2.2.1
abbrev mSl (M : mT) : Nat → Nat := M.2.2.2.2.2.2.1
abbrev mRg (M : mT) : Nat → Int64 := M.2.2.2.2.2.2.2.1
abbrev mCn (M : mT) : Nat → Int32 := M.2.2.2.2.2.2.2.2
/-- a KIND of rows -/
def isRw (k : Int32) : Prop := 1 ≤ k ∧ k ≤ 7
/-- THING u may lie in a row of KIND k -/
def mOk (M : mT) (k : Int32) (u : Nat) : Prop := u = 0 ∨ ¬ kIs (mKd M u) (kTab 4 k) = 0
/-- what holds of the machine at all times -/
def mInv (M : mT) : Prop :=
  mMade M ≤ 200 ∧ mUsed M ≤ 3000 ∧ mKd M 0 = 0 ∧ (∀ t, 1 ≤ t → t ≤ mMade M → 1 ≤ mKd M t ∧ mKd M t ≤ 9) ∧
  (∀ t, 1 ≤ t → t ≤ mMade M → isRw (mKd M t) → mBg M t + mLn M t ≤ mUsed M) ∧
  (∀ t u, 1 ≤ t → t < u → u ≤ mMade M → isRw (mKd M t) → isRw (mKd M u) → mBg M t + mLn M t ≤ mBg M u) ∧
  (∀ s, s < 12 → mSl M s ≤ mMade M) ∧
  (∀ t, 1 ≤ t → t ≤ mMade M → 5 ≤ mKd M t → mKd M t ≤ 7 → ∀ i, i < mLn M t → ∃ u : Nat, u ≤ mMade M ∧ mIt M (mBg M t + i) = lN u ∧ mOk M (mKd M t) u)
/-- the class' cells of the machine -/
def LayC (X : Nat) (S : sS) : Prop :=
  S (X + 1) = some (.inr (4, [some (some (X + 2)), some (some (X + 7)), some (some (X + 8)), none, none, none, none, none, none])) ∧
  S (X + 2) = some (.inr (6, [some (some (X + 3)), some (some (X + 4)), some (some (X + 5)), some (some (X + 6)), none, none])) ∧
  S (X + 3) = some (.inl (0, 201)) ∧ S (X + 4) = some (.inl (0, 201)) ∧ S (X + 5) = some (.inl (0, 201)) ∧ S (X + 6) = some (.inl (1, 3000)) ∧ S (X + 7) = some (.inl (0, 12)) ∧ S (X + 8) = some (.inl (1, 8))
def cRep (X : Nat) (M : mT) (D : sD) : Prop :=
  D.1 (X + 2) 4 = nI (mMade M) ∧ D.1 (X + 2) 5 = nI (mUsed M) ∧
  (∀ t, t ≤ mMade M → D.2.1 (X + 3) t = mKd M t) ∧
  (∀ t, t ≤ mMade M → isRw (mKd M t) → D.2.1 (X + 4) t = nI (mBg M t) ∧ D.2.1 (X + 5) t = nI (mLn M t)) ∧
  (∀ t, t ≤ mMade M → ¬ isRw (mKd M t) → t ≠ 0 → D.2.1 (X + 5) t = mNm M t) ∧
  (∀ j, j < 3000 → D.2.2.1 (X + 6) j = mIt M j) ∧
  (∀ s, s < 12 → D.2.1 (X + 7) s = nI (mSl M s)) ∧
  (∀ r, r < 8 → D.2.2.1 (X + 8) r = mRg M r) ∧
  (∀ k, k < 6 → D.1 (X + 1) (3 + k) = mCn M k)
/-- nothing but the class' cells of the machine has changed -/
def cOut (X : Nat) (D D' : sD) : Prop := ∀ a, ¬ (X + 1 ≤ a ∧ a ≤ X + 8) → D'.1 a = D.1 a ∧ D'.2.1 a = D.2.1 a ∧ D'.2.2.1 a = D.2.2.1 a ∧ D'.2.2.2 a = D.2.2.2 a
theorem cOut.rf {X : Nat} {D : sD} : cOut X D D := fun _ _ => ⟨rfl, rfl, rfl, rfl⟩
theorem cOut.tr {X : Nat} {D D' D'' : sD} (h : cOut X D D') (h' : cOut X D' D'') : cOut X D D'' := fun a ha => ⟨(h' a ha).1.trans (h a ha).1, (h' a ha).2.1.trans (h a ha).2.1, (h' a ha).2.2.1.trans (h a ha).2.2.1, (h' a ha).2.2.2.trans (h a ha).2.2.2⟩
theorem cOut.O {X : Nat} {D : sD} {a k : Nat} {v : Int32} (ha : X + 1 ≤ a ∧ a ≤ X + 8) : cOut X D (uO D a k v) := fun b hb => ⟨by simp [uO, va_up, show b ≠ a from fun e => hb (e ▸ ha)], rfl, rfl, rfl⟩
theorem cOut.F {X : Nat} {D : sD} {a : Nat} {f : Nat → Int32} (ha : X + 1 ≤ a ∧ a ≤ X + 8) : cOut X D (uF D a f) := fun b hb => ⟨rfl, by simp [uF, va_up, show b ≠ a from fun e => hb (e ▸ ha)], rfl, rfl⟩
theorem cOut.B {X : Nat} {D : sD} {a : Nat} {f : Nat → Int64} (ha : X + 1 ≤ a ∧ a ≤ X + 8) : cOut X D (uB D a f) := fun b hb => ⟨rfl, rfl, by simp [uB, va_up, show b ≠ a from fun e => hb (e ▸ ha)], rfl⟩
/-- the class' machine stands so -/
def CM (X : Nat) (M : mT) (n : Nat) (S : sS) (D : sD) (h : aH) : Prop := HR n S D h ∧ LayC X S ∧ cRep X M D ∧ mInv M
/-- the numbers of the machine's small ints -/
theorem nI_le0 {t : Nat} (h : t < 2 ^ 31) : nI t ≤ 0 ↔ t = 0 := by
  rw [← nI_0, nI_leI h (by omega)]; omega
theorem nI_eq0 {t : Nat} (h : t < 2 ^ 31) : nI t = 0 ↔ t = 0 := by
  rw [← nI_0, nI_eq h (by omega)]
section CMS
variable {X n : Nat} {M : mT} {S : sS} {D : sD} {h : aH}
theorem CM.vm (C : CM X M n S D h) {s : Nat} (hs : s < 12) : mSl M s ≤ mMade M := C.2.2.2.2.2.2.2.2.2.1 s hs
theorem CM.m200 (C : CM X M n S D h) : mMade M ≤ 200 := C.2.2.2.1
theorem CM.u3000 (C : CM X M n S D h) : mUsed M ≤ 3000 := C.2.2.2.2.1
theorem CM.kd0 (C : CM X M n S D h) : mKd M 0 = 0 := C.2.2.2.2.2.1
theorem CM.kd (C : CM X M n S D h) {t : Nat} (h1 : 1 ≤ t) (ht : t ≤ mMade M) : 1 ≤ mKd M t ∧ mKd M t ≤ 9 := C.2.2.2.2.2.2.1 t h1 ht
theorem CM.row (C : CM X M n S D h) {t : Nat} (h1 : 1 ≤ t) (ht : t ≤ mMade M) (hr : isRw (mKd M t)) : mBg M t + mLn M t ≤ mUsed M := C.2.2.2.2.2.2.2.1 t h1 ht hr
theorem CM.rMade (C : CM X M n S D h) : D.1 (X + 2) 4 = nI (mMade M) := C.2.2.1.1
theorem CM.rUsed (C : CM X M n S D h) : D.1 (X + 2) 5 = nI (mUsed M) := C.2.2.1.2.1
theorem CM.rKd (C : CM X M n S D h) {t : Nat} (ht : t ≤ mMade M) : D.2.1 (X + 3) t = mKd M t := C.2.2.1.2.2.1 t ht
theorem CM.rBg (C : CM X M n S D h) {t : Nat} (ht : t ≤ mMade M) (hr : isRw (mKd M t)) : D.2.1 (X + 4) t = nI (mBg M t) := (C.2.2.1.2.2.2.1 t ht hr).1
theorem CM.rLn (C : CM X M n S D h) {t : Nat} (ht : t ≤ mMade M) (hr : isRw (mKd M t)) : D.2.1 (X + 5) t = nI (mLn M t) := (C.2.2.1.2.2.2.1 t ht hr).2
theorem CM.rNm (C : CM X M n S D h) {t : Nat} (ht : t ≤ mMade M) (hr : ¬ isRw (mKd M t)) (h0 : t ≠ 0) : D.2.1 (X + 5) t = mNm M t := C.2.2.1.2.2.2.2.1 t ht hr h0
theorem CM.rIt (C : CM X M n S D h) {j : Nat} (hj : j < 3000) : D.2.2.1 (X + 6) j = mIt M j := C.2.2.1.2.2.2.2.2.1 j hj
theorem CM.rSl (C : CM X M n S D h) {s : Nat} (hs : s < 12) : D.2.1 (X + 7) s = nI (mSl M s) := C.2.2.1.2.2.2.2.2.2.1 s hs
theorem CM.rRg (C : CM X M n S D h) {r : Nat} (hr : r < 8) : D.2.2.1 (X + 8) r = mRg M r := C.2.2.1.2.2.2.2.2.2.2.1 r hr
theorem CM.rCn (C : CM X M n S D h) {k : Nat} (hk : k < 6) : D.1 (X + 1) (3 + k) = mCn M k := C.2.2.1.2.2.2.2.2.2.2.2 k hk
/-- Things.kindOf -/
theorem sc_kindOf (C : CM X M n S D h) {t : Nat} (ht : t ≤ mMade M) {Q : Int32 → aH → Prop} (hq : Q (mKd M t) h) : wX8_kindOf h (X + 2) (nI t) Q := by
  have h2 := C.m200
  obtain ⟨R, L, -⟩ := id C
  unfold wX8_kindOf wbX8_kindOf_21 wbX8_kindOf_22
  refine ⟨fun z => ?_, fun z => R_I R L.2.1 rfl ⟨fun y => ?_, fun _ => R_R R L.2.1 rfl (R_aI R L.2.2.1 (vp_in_nI (by omega) (by omega)) ?_)⟩⟩
  · have : t = 0 := (nI_le0 (by omega)).mp z
    subst this
    rw [C.kd0] at hq
    exact hq
  · rw [C.rMade] at y
    exact absurd y (nI_nlt (by omega) (by omega))
  · rw [nI_clamp (by omega), C.rKd ht]
    exact hq
theorem sc_slot (C : CM X M n S D h) {s : Nat} (hs : s < 12) {K : Int32 → Prop} (hK : K (nI (mSl M s))) : rR h (X + 1) 4 1 (fun r => aI h r (nI s) K) := by
  obtain ⟨R, L, -⟩ := id C
  refine R_R R L.1 rfl (R_aI R L.2.2.2.2.2.2.1 (vp_in_nI hs (by omega)) ?_)
  rw [nI_clamp (by omega), C.rSl hs]
  exact hK
theorem sc_holds (C : CM X M n S D h) {s : Nat} (hs : s < 12) {k : Int32} {Q : Int32 → aH → Prop} (hq : Q (kIs (mKd M (mSl M s)) k) h) : wX5_holds h (X + 1) (nI s) k Q := by
  obtain ⟨R, L, -⟩ := id C
  refine sp_are (R_R R L.1 rfl (sc_slot C hs ?_))
  exact R_O R L.2.1 (sc_kindOf C (C.vm hs) (sp_has ⟨kHas_B _ _, hq⟩))
theorem sc_kindIn (C : CM X M n S D h) {s : Nat} (hs : s < 12) {Q : Int32 → aH → Prop} (hq : Q (mKd M (mSl M s)) h) : wX5_kindIn h (X + 1) (nI s) Q := by
  obtain ⟨R, L, -⟩ := id C
  refine R_R R L.1 rfl (sc_slot C hs ?_)
  exact R_O R L.2.1 (sc_kindOf C (C.vm hs) hq)
/-- SLOT s AS k -/
def mAs (M : mT) (s : Nat) (k : Int32) : Int32 := if mSl M s = 0 then 0 else if kIs (mKd M (mSl M s)) k = 0 then 2 else 0
theorem sc_unlessAs (C : CM X M n S D h) {s : Nat} (hs : s < 12) {k : Int32} {Q : Int32 → aH → Prop} (hq : Q (mAs M s k) h) : wX5_unlessAs h (X + 1) (nI s) k Q := by
  obtain ⟨R, L, -⟩ := id C
  have hv := C.vm hs
  have h2 := C.m200
  unfold mAs at hq
  refine sc_slot C hs ⟨fun z => ?_, fun z => R_O R L.1 (sc_holds C hs ⟨fun y => ?_, fun y => ?_⟩)⟩
  · rw [if_pos ((nI_eq0 (by omega)).mp z)] at hq
    exact hq
  · rw [if_neg (fun e => z ((nI_eq0 (by omega)).mpr e)), if_pos y] at hq
    exact hq
  · rw [if_neg (fun e => z ((nI_eq0 (by omega)).mpr e)), if_neg y] at hq
    exact hq
def mSome (M : mT) (s : Nat) (k : Int32) : Int32 := if mSl M s = 0 then 1 else if kIs (mKd M (mSl M s)) k = 0 then 2 else 0
theorem sc_unlessSomething (C : CM X M n S D h) {s : Nat} (hs : s < 12) {k : Int32} {Q : Int32 → aH → Prop} (hq : Q (mSome M s k) h) : wX5_unlessSomething h (X + 1) (nI s) k Q := by
  obtain ⟨R, L, -⟩ := id C
  have hv := C.vm hs
  have h2 := C.m200
  unfold mSome at hq
  refine sc_slot C hs ⟨fun z => R_O R L.1 (sc_holds C hs ⟨fun y => ?_, fun y => ?_⟩), fun z => ?_⟩
  · rw [if_neg (fun e => z ((nI_eq0 (by omega)).mpr e)), if_pos y] at hq
    exact hq
  · rw [if_neg (fun e => z ((nI_eq0 (by omega)).mpr e)), if_neg y] at hq
    exact hq
  · rw [if_pos ((nI_eq0 (by omega)).mp z)] at hq
    exact hq
end CMS
