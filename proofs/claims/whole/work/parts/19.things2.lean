/-! the class' cells through the changes -/
section CRP
variable {X n : Nat} {M : mT} {S : sS} {D : sD} {h : aH}
theorem cRep.setSl (r : cRep X M D) {s t : Nat} : cRep X (mSetSl M s t) (uF D (X + 7) (upd (D.2.1 (X + 7)) s (nI t))) := by
  obtain ⟨r1, r2, r3, r4, r5, r6, r7, r8, r9⟩ := r
  have e : ∀ a, a ≠ X + 7 → (uF D (X + 7) (upd (D.2.1 (X + 7)) s (nI t))).2.1 a = D.2.1 a := fun a ha => by simp [uF, va_up, ha]
  refine ⟨r1, r2, fun t ht => ?_, fun t ht hr => ?_, fun t ht hr h0 => ?_, r6, fun q hq => ?_, r8, r9⟩
  · rw [e _ (by omega)]; exact r3 t ht
  · rw [e _ (by omega), e _ (by omega)]; exact r4 t ht hr
  · rw [e _ (by omega)]; exact r5 t ht hr h0
  · show (uF D (X + 7) _).2.1 (X + 7) q = nI (va_up (mSl M) s t q)
    rw [uF_at]
    simp only [upd, va_up]
    split
    · rfl
    · exact r7 q hq
theorem cRep.setRg (r : cRep X M D) {q : Nat} {x : Int64} : cRep X (mSetRg M q x) (uB D (X + 8) (vp_updL (D.2.2.1 (X + 8)) q x)) := by
  obtain ⟨r1, r2, r3, r4, r5, r6, r7, r8, r9⟩ := r
  refine ⟨r1, r2, r3, r4, r5, fun j hj => ?_, r7, fun k hk => ?_, r9⟩
  · show (uB D (X + 8) _).2.2.1 (X + 6) j = _
    simp [uB, va_up]; exact r6 j hj
  · show (uB D (X + 8) _).2.2.1 (X + 8) k = vp_updL (mRg M) q x k
    rw [uB_at]
    simp only [vp_updL]
    split
    · rfl
    · exact r8 k hk
theorem cRep.setCn (r : cRep X M D) {k : Nat} {x : Int32} : cRep X (mSetCn M k x) (uO D (X + 1) (3 + k) x) := by
  obtain ⟨r1, r2, r3, r4, r5, r6, r7, r8, r9⟩ := r
  refine ⟨?_, ?_, r3, r4, r5, r6, r7, r8, fun j hj => ?_⟩
  · show (uO D (X + 1) _ _).1 (X + 2) 4 = _
    simp [uO, va_up]; exact r1
  · show (uO D (X + 1) _ _).1 (X + 2) 5 = _
    simp [uO, va_up]; exact r2
  · show (uO D (X + 1) _ _).1 (X + 1) (3 + j) = upd (mCn M) k x j
    simp only [uO, va_up, if_pos, upd]
    by_cases e : j = k
    · subst e; simp
    · rw [if_neg (by omega), if_neg e]; exact r9 j hj
theorem cRep.setIt (r : cRep X M D) {f g : Nat → Int64} (hf : ∀ j, j < 3000 → f j = g j) : cRep X (mSetIt M g) (uB D (X + 6) f) := by
  obtain ⟨r1, r2, r3, r4, r5, r6, r7, r8, r9⟩ := r
  refine ⟨r1, r2, r3, r4, r5, fun j hj => ?_, r7, fun k hk => ?_, r9⟩
  · show (uB D (X + 6) _).2.2.1 (X + 6) j = g j
    rw [uB_at]; exact hf j hj
  · show (uB D (X + 6) _).2.2.1 (X + 8) k = _
    simp [uB, va_up]; exact r8 k hk
/-- SLOT s becomes THING t -/
theorem sc_setSl (C : CM X M n S D h) {s t : Nat} (hs : s < 12) (ht : t ≤ mMade M) {K : aH → Prop} (hK : ∀ h' D', CM X (mSetSl M s t) n S D' h' → cOut X D D' → K h') : rR h (X + 1) 4 1 (fun r => sI h r (nI s) (nI t) K) := by
  obtain ⟨R, L, r, I⟩ := id C
  refine R_R R L.1 rfl (R_sI R L.2.2.2.2.2.2.1 (vp_in_nI hs (by omega)) fun h' R' => ?_)
  rw [nI_clamp (by omega)] at R'
  exact hK h' _ ⟨R', L, r.setSl, I.setSl ht⟩ (cOut.F (by omega))
/-- writes that come with the row's address -/
theorem sc_setSl' (C : CM X M n S D h) {s t : Nat} (hs : s < 12) (ht : t ≤ mMade M) {K : aH → Prop} (hK : ∀ h' D', CM X (mSetSl M s t) n S D' h' → cOut X D D' → K h') : sI h (X + 7) (nI s) (nI t) K := by
  obtain ⟨R, L, r, I⟩ := id C
  refine R_sI R L.2.2.2.2.2.2.1 (vp_in_nI hs (by omega)) fun h' R' => ?_
  rw [nI_clamp (by omega)] at R'
  exact hK h' _ ⟨R', L, r.setSl, I.setSl ht⟩ (cOut.F (by omega))
theorem sc_setRg' (C : CM X M n S D h) {q : Nat} (hq : q < 8) {x : Int64} {K : aH → Prop} (hK : ∀ h' D', CM X (mSetRg M q x) n S D' h' → cOut X D D' → K h') : sL h (X + 8) (nI q) x K := by
  obtain ⟨R, L, r, I⟩ := id C
  refine R_sL R L.2.2.2.2.2.2.2 (vp_in_nI hq (by omega)) fun h' R' => ?_
  rw [nI_clamp (by omega)] at R'
  exact hK h' _ ⟨R', L, r.setRg, I.setRg⟩ (cOut.B (by omega))
theorem sc_reg (C : CM X M n S D h) {q : Nat} (hq : q < 8) {K : Int64 → Prop} (hK : K (mRg M q)) : aL h (X + 8) (nI q) K := by
  obtain ⟨R, L, r, I⟩ := id C
  refine R_aL R L.2.2.2.2.2.2.2 (vp_in_nI hq (by omega)) ?_
  rw [nI_clamp (by omega), C.rRg hq]
  exact hK
theorem sc_slot' (C : CM X M n S D h) {s : Nat} (hs : s < 12) {K : Int32 → Prop} (hK : K (nI (mSl M s))) : aI h (X + 7) (nI s) K := by
  obtain ⟨R, L, r, I⟩ := id C
  refine R_aI R L.2.2.2.2.2.2.1 (vp_in_nI hs (by omega)) ?_
  rw [nI_clamp (by omega), C.rSl hs]
  exact hK
theorem sc_cn (C : CM X M n S D h) {k : Nat} (hk : k < 6) {K : Int32 → Prop} (hK : K (mCn M k)) : rI h (X + 1) 4 (3 + k) K := by
  obtain ⟨R, L, r, I⟩ := id C
  refine R_I R L.1 (by rcases (show k = 0 ∨ k = 1 ∨ k = 2 ∨ k = 3 ∨ k = 4 ∨ k = 5 by omega) with rfl | rfl | rfl | rfl | rfl | rfl <;> rfl) ?_
  rw [C.rCn hk]
  exact hK
theorem sc_setCn (C : CM X M n S D h) {k : Nat} (hk : k < 6) {x : Int32} {K : aH → Prop} (hK : ∀ h' D', CM X (mSetCn M k x) n S D' h' → cOut X D D' → K h') : wF h (X + 1) 4 (3 + k) (.int x) K := by
  obtain ⟨R, L, r, I⟩ := id C
  refine R_wF R L.1 (by rcases (show k = 0 ∨ k = 1 ∨ k = 2 ∨ k = 3 ∨ k = 4 ∨ k = 5 by omega) with rfl | rfl | rfl | rfl | rfl | rfl <;> rfl) fun h' R' => ?_
  exact hK h' _ ⟨R', L, r.setCn, I.setCn⟩ (cOut.O (by omega))
/-- Things.sizeOf, hasItem, read -/
def mSz (M : mT) (t : Nat) : Int32 := if t = 0 then 0 else if kRow (mKd M t) = 0 then mNm M t else nI (mLn M t)
theorem CM.rSz (C : CM X M n S D h) {t : Nat} (h1 : 1 ≤ t) (ht : t ≤ mMade M) : D.2.1 (X + 5) t = mSz M t := by
  unfold mSz
  rw [if_neg (by omega)]
  by_cases hr : isRw (mKd M t)
  · rw [if_neg (fun z => (kRow_0.mp z) hr)]; exact C.rLn ht hr
  · rw [if_pos (kRow_0.mpr hr)]; exact C.rNm ht hr (by omega)
theorem sc_sizeOf (C : CM X M n S D h) {t : Nat} (ht : t ≤ mMade M) {Q : Int32 → aH → Prop} (hq : Q (mSz M t) h) : wX8_sizeOf h (X + 2) (nI t) Q := by
  have h2 := C.m200
  obtain ⟨R, L, -⟩ := id C
  unfold wX8_sizeOf wbX8_sizeOf_21 wbX8_sizeOf_22
  refine ⟨fun z => ?_, fun z => R_I R L.2.1 rfl ⟨fun y => ?_, fun _ => R_R R L.2.1 rfl (R_aI R L.2.2.2.2.1 (vp_in_nI (by omega) (by omega)) ?_)⟩⟩
  · have : t = 0 := (nI_le0 (by omega)).mp z
    subst this
    exact hq
  · rw [C.rMade] at y
    exact absurd y (nI_nlt (by omega) (by omega))
  · have h1 : 1 ≤ t := Nat.pos_of_ne_zero fun e => z ((nI_le0 (by omega)).mpr e)
    rw [nI_clamp (by omega), C.rSz h1 ht]
    exact hq
def mHas (M : mT) (t : Nat) (i : Int32) : Int32 := if kRow (mKd M t) = 0 then 0 else if i < 0 then 0 else if nI (mLn M t) ≤ i then 0 else 1
theorem mHas_1 {M : mT} {t : Nat} {i : Int32} (h0 : mKd M 0 = 0) (h : ¬ mHas M t i = 0) : 1 ≤ t ∧ isRw (mKd M t) ∧ ∃ j, j < 2 ^ 31 ∧ i = nI j ∧ ¬ nI (mLn M t) ≤ nI j := by
  unfold mHas at h
  by_cases a : kRow (mKd M t) = 0
  · rw [if_pos a] at h; exact absurd rfl h
  rw [if_neg a] at h
  by_cases b : i < 0
  · rw [if_pos b] at h; exact absurd rfl h
  rw [if_neg b] at h
  by_cases c : nI (mLn M t) ≤ i
  · rw [if_pos c] at h; exact absurd rfl h
  obtain ⟨j, hj, e⟩ := nI_of b
  have hr : isRw (mKd M t) := by
    by_cases q : isRw (mKd M t)
    · exact q
    · exact absurd (kRow_0.mpr q) a
  refine ⟨Nat.pos_of_ne_zero fun e0 => ?_, hr, j, hj, e, by rw [← e]; exact c⟩
  subst e0
  rw [h0] at a
  exact a rfl
theorem sc_hasItem (C : CM X M n S D h) {t : Nat} (ht : t ≤ mMade M) {i : Int32} {Q : Int32 → aH → Prop} (hq : Q (mHas M t i) h) : wX8_hasItem h (X + 2) (nI t) i Q := by
  have h2 := C.m200
  obtain ⟨R, L, -⟩ := id C
  unfold mHas at hq
  unfold wX8_hasItem wbX8_hasItem_29 wbX8_hasItem_30
  refine R_O R L.2.1 (sc_kindOf C ht (sp_isRow ⟨fun z => ⟨Or.inl rfl, ?_⟩, fun z => ⟨fun y => ⟨Or.inl rfl, ?_⟩, fun y => R_R R L.2.1 rfl (R_aI R L.2.2.2.2.1 (vp_in_nI (by omega) (by omega)) ⟨fun x => ⟨Or.inl rfl, ?_⟩, fun x => ⟨Or.inr rfl, ?_⟩⟩)⟩⟩))
  · rw [if_pos z] at hq; exact hq
  · rw [if_neg z, if_pos y] at hq; exact hq
  · have hr : isRw (mKd M t) := by
      by_cases q : isRw (mKd M t)
      · exact q
      · exact absurd (kRow_0.mpr q) z
    rw [nI_clamp (by omega), C.rLn ht hr] at x
    rw [if_neg z, if_neg y, if_pos x] at hq; exact hq
  · have hr : isRw (mKd M t) := by
      by_cases q : isRw (mKd M t)
      · exact q
      · exact absurd (kRow_0.mpr q) z
    rw [nI_clamp (by omega), C.rLn ht hr] at x
    rw [if_neg z, if_neg y, if_neg x] at hq; exact hq
def mRead (M : mT) (t : Nat) (i : Int32) : Int64 := if mHas M t i = 0 then 0 else mIt M (mBg M t + i.toNatClampNeg)
theorem sc_read (C : CM X M n S D h) {t : Nat} (ht : t ≤ mMade M) {i : Int32} {Q : Int64 → aH → Prop} (hq : Q (mRead M t i) h) : wX8_read h (X + 2) (nI t) i Q := by
  have h2 := C.m200
  have h3 := C.u3000
  obtain ⟨R, L, -⟩ := id C
  unfold mRead at hq
  refine R_O R L.2.1 (sc_hasItem C ht ⟨fun z => ?_, fun z => ?_⟩)
  · rw [if_pos z] at hq; exact hq
  · rw [if_neg z] at hq
    obtain ⟨h1, hr, j, hj, rfl, hl⟩ := mHas_1 C.kd0 z
    have hrow := C.row h1 ht hr
    have hjl : j < mLn M t := Nat.not_le.mp fun q => hl (nI_le q hj)
    refine R_R R L.2.1 rfl (R_R R L.2.1 rfl (R_aI R L.2.2.2.1 (vp_in_nI (by omega) (by omega)) ?_))
    rw [nI_clamp (by omega), C.rBg ht hr, nI_add]
    refine R_aL R L.2.2.2.2.2.1 (vp_in_nI (by omega) (by omega)) ?_
    rw [nI_clamp (by omega), C.rIt (by omega)]
    rw [nI_clamp hj] at hq
    exact hq
/-- an ITEM i of a ROW in SLOT s AS k -/
def mItem (M : mT) (s : Nat) (k i : Int32) : Int32 := if mSl M s = 0 then 1 else if kIs (mKd M (mSl M s)) k = 0 then 2 else if mHas M (mSl M s) i = 0 then 3 else 0
theorem sc_unlessItem (C : CM X M n S D h) {s : Nat} (hs : s < 12) {k i : Int32} {Q : Int32 → aH → Prop} (hq : Q (mItem M s k i) h) : wX5_unlessItem h (X + 1) (nI s) k i Q := by
  obtain ⟨R, L, -⟩ := id C
  have hv := C.vm hs
  have h2 := C.m200
  unfold mItem at hq
  refine sc_slot C hs ⟨fun z => R_O R L.1 (sc_holds C hs ⟨fun y => R_R R L.1 rfl (sc_slot C hs (R_O R L.2.1 (sc_hasItem C hv ⟨fun x => ?_, fun x => ?_⟩))), fun y => ?_⟩), fun z => ?_⟩
  · rw [if_neg (fun e => z ((nI_eq0 (by omega)).mpr e)), if_neg y, if_pos x] at hq; exact hq
  · rw [if_neg (fun e => z ((nI_eq0 (by omega)).mpr e)), if_neg y, if_neg x] at hq; exact hq
  · rw [if_neg (fun e => z ((nI_eq0 (by omega)).mpr e)), if_pos y] at hq; exact hq
  · rw [if_pos ((nI_eq0 (by omega)).mp z)] at hq; exact hq
/-- GET -/
def mGet (M : mT) (r s : Nat) (k i : Int32) : Int32 × mT := (mItem M s k i, if mItem M s k i = 0 then mSetRg M r (mRead M (mSl M s) i) else M)
theorem sc_get (C : CM X M n S D h) {r s : Nat} (hr : r < 8) (hs : s < 12) {k i : Int32} {Q : Int32 → aH → Prop} (hq : ∀ h' D', CM X (mGet M r s k i).2 n S D' h' → cOut X D D' → Q (mGet M r s k i).1 h') : wX5_get h (X + 1) (nI r) (nI s) k i Q := by
  obtain ⟨R, L, -⟩ := id C
  unfold mGet at hq
  refine R_O R L.1 (sc_unlessItem C hs ⟨fun z => ?_, fun z => ?_⟩)
  · rw [if_neg z] at hq; exact hq h D C cOut.rf
  · rw [if_pos z] at hq
    refine R_R R L.1 rfl (R_R R L.1 rfl (sc_slot C hs (R_O R L.2.1 (sc_read C (C.vm hs) (sc_setRg' C hr fun h' D' C' O' => ?_)))))
    exact hq h' D' C' O'
end CRP
