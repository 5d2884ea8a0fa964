/-! THE MODEL'S MACHINE -/
def mSh : List (Nat × Nat) := [(9, 9), (0, 201), (0, 201), (0, 201), (0, 201), (1, 3000), (0, 12), (1, 8), (0, 80), (0, 80), (0, 80), (0, 80), (0, 80), (0, 80), (0, 80), (1, 3000), (0, 82), (0, 82), (0, 82), (0, 12), (2, 12), (2, 80), (0, 80), (0, 960), (0, 80), (0, 80), (0, 8856), (0, 8856), (0, 984), (0, 12)]
def LayM (Y : Nat) (S : sS) : Prop :=
  S Y = some (.inr (9, [none, none, some (some (Y + 1)), some (some (Y + 2)), some (some (Y + 3)), some (some (Y + 4)), some (some (Y + 5)), some (some (Y + 6)), some (some (Y + 7)), none, some (some (Y + 8)), some (some (Y + 9)), some (some (Y + 10)), some (some (Y + 11)), some (some (Y + 12)), some (some (Y + 13)), some (some (Y + 14)), none, none, none, none, none, none, some (some (Y + 15)), some (some (Y + 16)), some (some (Y + 17)), some (some (Y + 18)), none, none, some (some (Y + 19)), some (some (Y + 20)), some (some (Y + 21)), some (some (Y + 22)), some (some (Y + 23)), some (some (Y + 24)), some (some (Y + 25)), some (some (Y + 26)), some (some (Y + 27)), some (some (Y + 28)), some (some (Y + 29))])) ∧
  ∀ k, 1 ≤ k → k < 30 → S (Y + k) = some (.inl (mSh.getD k (0, 0)))
theorem LayM.s1 {Y : Nat} {S : sS} (L : LayM Y S) : S (Y + 1) = some (.inl (0, 201)) := L.2 1 (by decide) (by decide)
theorem LayM.s2 {Y : Nat} {S : sS} (L : LayM Y S) : S (Y + 2) = some (.inl (0, 201)) := L.2 2 (by decide) (by decide)
theorem LayM.s3 {Y : Nat} {S : sS} (L : LayM Y S) : S (Y + 3) = some (.inl (0, 201)) := L.2 3 (by decide) (by decide)
theorem LayM.s4 {Y : Nat} {S : sS} (L : LayM Y S) : S (Y + 4) = some (.inl (0, 201)) := L.2 4 (by decide) (by decide)
theorem LayM.s5 {Y : Nat} {S : sS} (L : LayM Y S) : S (Y + 5) = some (.inl (1, 3000)) := L.2 5 (by decide) (by decide)
theorem LayM.s6 {Y : Nat} {S : sS} (L : LayM Y S) : S (Y + 6) = some (.inl (0, 12)) := L.2 6 (by decide) (by decide)
theorem LayM.s7 {Y : Nat} {S : sS} (L : LayM Y S) : S (Y + 7) = some (.inl (1, 8)) := L.2 7 (by decide) (by decide)
theorem LayM.s8 {Y : Nat} {S : sS} (L : LayM Y S) : S (Y + 8) = some (.inl (0, 80)) := L.2 8 (by decide) (by decide)
theorem LayM.s9 {Y : Nat} {S : sS} (L : LayM Y S) : S (Y + 9) = some (.inl (0, 80)) := L.2 9 (by decide) (by decide)
theorem LayM.s10 {Y : Nat} {S : sS} (L : LayM Y S) : S (Y + 10) = some (.inl (0, 80)) := L.2 10 (by decide) (by decide)
theorem LayM.s11 {Y : Nat} {S : sS} (L : LayM Y S) : S (Y + 11) = some (.inl (0, 80)) := L.2 11 (by decide) (by decide)
theorem LayM.s12 {Y : Nat} {S : sS} (L : LayM Y S) : S (Y + 12) = some (.inl (0, 80)) := L.2 12 (by decide) (by decide)
theorem LayM.s13 {Y : Nat} {S : sS} (L : LayM Y S) : S (Y + 13) = some (.inl (0, 80)) := L.2 13 (by decide) (by decide)
theorem LayM.s14 {Y : Nat} {S : sS} (L : LayM Y S) : S (Y + 14) = some (.inl (0, 80)) := L.2 14 (by decide) (by decide)
theorem LayM.s15 {Y : Nat} {S : sS} (L : LayM Y S) : S (Y + 15) = some (.inl (1, 3000)) := L.2 15 (by decide) (by decide)
theorem LayM.s16 {Y : Nat} {S : sS} (L : LayM Y S) : S (Y + 16) = some (.inl (0, 82)) := L.2 16 (by decide) (by decide)
theorem LayM.s17 {Y : Nat} {S : sS} (L : LayM Y S) : S (Y + 17) = some (.inl (0, 82)) := L.2 17 (by decide) (by decide)
theorem LayM.s18 {Y : Nat} {S : sS} (L : LayM Y S) : S (Y + 18) = some (.inl (0, 82)) := L.2 18 (by decide) (by decide)
theorem LayM.s19 {Y : Nat} {S : sS} (L : LayM Y S) : S (Y + 19) = some (.inl (0, 12)) := L.2 19 (by decide) (by decide)
theorem LayM.s20 {Y : Nat} {S : sS} (L : LayM Y S) : S (Y + 20) = some (.inl (2, 12)) := L.2 20 (by decide) (by decide)
theorem LayM.s21 {Y : Nat} {S : sS} (L : LayM Y S) : S (Y + 21) = some (.inl (2, 80)) := L.2 21 (by decide) (by decide)
theorem LayM.s22 {Y : Nat} {S : sS} (L : LayM Y S) : S (Y + 22) = some (.inl (0, 80)) := L.2 22 (by decide) (by decide)
theorem LayM.s23 {Y : Nat} {S : sS} (L : LayM Y S) : S (Y + 23) = some (.inl (0, 960)) := L.2 23 (by decide) (by decide)
theorem LayM.s24 {Y : Nat} {S : sS} (L : LayM Y S) : S (Y + 24) = some (.inl (0, 80)) := L.2 24 (by decide) (by decide)
theorem LayM.s25 {Y : Nat} {S : sS} (L : LayM Y S) : S (Y + 25) = some (.inl (0, 80)) := L.2 25 (by decide) (by decide)
theorem LayM.s26 {Y : Nat} {S : sS} (L : LayM Y S) : S (Y + 26) = some (.inl (0, 8856)) := L.2 26 (by decide) (by decide)
theorem LayM.s27 {Y : Nat} {S : sS} (L : LayM Y S) : S (Y + 27) = some (.inl (0, 8856)) := L.2 27 (by decide) (by decide)
theorem LayM.s28 {Y : Nat} {S : sS} (L : LayM Y S) : S (Y + 28) = some (.inl (0, 984)) := L.2 28 (by decide) (by decide)
theorem LayM.s29 {Y : Nat} {S : sS} (L : LayM Y S) : S (Y + 29) = some (.inl (0, 12)) := L.2 29 (by decide) (by decide)
def mRep (Y : Nat) (M : mT) (D : sD) : Prop :=
  D.1 Y 0 = nI (mMade M) ∧ D.1 Y 1 = nI (mUsed M) ∧
  (∀ t, t ≤ mMade M → D.2.1 (Y + 1) t = mKd M t) ∧
  (∀ t, t ≤ mMade M → isRw (mKd M t) → D.2.1 (Y + 2) t = nI (mBg M t) ∧ D.2.1 (Y + 3) t = nI (mLn M t) ∧ D.2.1 (Y + 4) t = 0) ∧
  (∀ t, t ≤ mMade M → ¬ isRw (mKd M t) → t ≠ 0 → D.2.1 (Y + 3) t = 0 ∧ D.2.1 (Y + 4) t = mNm M t) ∧
  (∀ j, j < 3000 → D.2.2.1 (Y + 5) j = mIt M j) ∧
  (∀ s, s < 12 → D.2.1 (Y + 6) s = nI (mSl M s)) ∧
  (∀ r, r < 8 → D.2.2.1 (Y + 7) r = mRg M r) ∧
  (∀ k, k < 6 → D.1 Y (17 + k) = mCn M k)
/-- nothing but the model's cells of the machine has changed -/
def mOut (Y : Nat) (D D' : sD) : Prop := (∀ a, ¬ (Y ≤ a ∧ a ≤ Y + 7) → a ≠ Y + 15 → D'.1 a = D.1 a ∧ D'.2.1 a = D.2.1 a ∧ D'.2.2.1 a = D.2.2.1 a ∧ D'.2.2.2 a = D.2.2.2 a) ∧ ∀ k, (2 ≤ k ∧ k ≤ 16) ∨ 23 ≤ k → D'.1 Y k = D.1 Y k
theorem mOut.rf {Y : Nat} {D : sD} : mOut Y D D := ⟨fun _ _ _ => ⟨rfl, rfl, rfl, rfl⟩, fun _ _ => rfl⟩
theorem mOut.tr {Y : Nat} {D D' D'' : sD} (h : mOut Y D D') (h' : mOut Y D' D'') : mOut Y D D'' := ⟨fun a ha hb => ⟨(h'.1 a ha hb).1.trans (h.1 a ha hb).1, (h'.1 a ha hb).2.1.trans (h.1 a ha hb).2.1, (h'.1 a ha hb).2.2.1.trans (h.1 a ha hb).2.2.1, (h'.1 a ha hb).2.2.2.trans (h.1 a ha hb).2.2.2⟩, fun k hk => (h'.2 k hk).trans (h.2 k hk)⟩
theorem mOut.O {Y : Nat} {D : sD} {k : Nat} {v : Int32} (hk : k < 2 ∨ (17 ≤ k ∧ k ≤ 22)) : mOut Y D (uO D Y k v) := ⟨fun b hb _ => ⟨by simp [uO, va_up, show b ≠ Y from fun e => hb (by omega)], rfl, rfl, rfl⟩, fun j hj => by simp [uO, va_up, upd, show j ≠ k by omega]⟩
theorem mOut.F {Y : Nat} {D : sD} {a : Nat} {f : Nat → Int32} (ha : Y ≤ a ∧ a ≤ Y + 7) : mOut Y D (uF D a f) := ⟨fun b hb _ => ⟨rfl, by simp [uF, va_up, show b ≠ a from fun e => hb (e ▸ ha)], rfl, rfl⟩, fun _ _ => rfl⟩
theorem mOut.B {Y : Nat} {D : sD} {a : Nat} {f : Nat → Int64} (ha : (Y ≤ a ∧ a ≤ Y + 7) ∨ a = Y + 15) : mOut Y D (uB D a f) := ⟨fun b hb hc => ⟨rfl, rfl, by simp [uB, va_up, show b ≠ a from fun e => ha.elim (fun ha => hb (e ▸ ha)) (fun ha => hc (e.trans ha))], rfl⟩, fun _ _ => rfl⟩
def MM (Y : Nat) (M : mT) (n : Nat) (S : sS) (D : sD) (h : aH) : Prop := HR n S D h ∧ LayM Y S ∧ mRep Y M D ∧ mInv M
section MMS
variable {Y n : Nat} {M : mT} {S : sS} {D : sD} {h : aH}
theorem MM.vm (C : MM Y M n S D h) {s : Nat} (hs : s < 12) : mSl M s ≤ mMade M := C.2.2.2.2.2.2.2.2.2.1 s hs
theorem MM.m200 (C : MM Y M n S D h) : mMade M ≤ 200 := C.2.2.2.1
theorem MM.u3000 (C : MM Y M n S D h) : mUsed M ≤ 3000 := C.2.2.2.2.1
theorem MM.kd0 (C : MM Y M n S D h) : mKd M 0 = 0 := C.2.2.2.2.2.1
theorem MM.kd (C : MM Y M n S D h) {t : Nat} (h1 : 1 ≤ t) (ht : t ≤ mMade M) : 1 ≤ mKd M t ∧ mKd M t ≤ 9 := C.2.2.2.2.2.2.1 t h1 ht
theorem MM.row (C : MM Y M n S D h) {t : Nat} (h1 : 1 ≤ t) (ht : t ≤ mMade M) (hr : isRw (mKd M t)) : mBg M t + mLn M t ≤ mUsed M := C.2.2.2.2.2.2.2.1 t h1 ht hr
theorem MM.rMade (C : MM Y M n S D h) : D.1 Y 0 = nI (mMade M) := C.2.2.1.1
theorem MM.rUsed (C : MM Y M n S D h) : D.1 Y 1 = nI (mUsed M) := C.2.2.1.2.1
theorem MM.rIt (C : MM Y M n S D h) {j : Nat} (hj : j < 3000) : D.2.2.1 (Y + 5) j = mIt M j := C.2.2.1.2.2.2.2.2.1 j hj
theorem MM.kdn (C : MM Y M n S D h) {t : Nat} (ht : t ≤ mMade M) : ∃ a : Nat, a < 10 ∧ mKd M t = nI a := by
  by_cases e : t = 0
  · subst e; exact ⟨0, by decide, C.kd0⟩
  · obtain ⟨h1, h2⟩ := C.kd (Nat.pos_of_ne_zero e) ht
    refine k_small (Int32.le_iff_toInt_le.mpr ?_) h2
    have := Int32.le_iff_toInt_le.mp h1
    rw [i1] at this; rw [i0]; omega
/-- reads -/
theorem sm_aSl (C : MM Y M n S D h) {s : Nat} (hs : s < 12) {K : Int32 → Prop} (hK : K (nI (mSl M s))) : aI h (Y + 6) (nI s) K := by
  obtain ⟨R, L, r, I⟩ := id C
  refine R_aI R L.s6 (vp_in_nI hs (by omega)) ?_
  rw [nI_clamp (by omega), r.2.2.2.2.2.2.1 s hs]; exact hK
theorem sm_aKd (C : MM Y M n S D h) {t : Nat} (ht : t ≤ mMade M) {K : Int32 → Prop} (hK : K (mKd M t)) : aI h (Y + 1) (nI t) K := by
  have h2 := C.m200
  obtain ⟨R, L, r, I⟩ := id C
  refine R_aI R L.s1 (vp_in_nI (by omega) (by omega)) ?_
  rw [nI_clamp (by omega), r.2.2.1 t ht]; exact hK
theorem sm_aBg (C : MM Y M n S D h) {t : Nat} (ht : t ≤ mMade M) (hr : isRw (mKd M t)) {K : Int32 → Prop} (hK : K (nI (mBg M t))) : aI h (Y + 2) (nI t) K := by
  have h2 := C.m200
  obtain ⟨R, L, r, I⟩ := id C
  refine R_aI R L.s2 (vp_in_nI (by omega) (by omega)) ?_
  rw [nI_clamp (by omega), (r.2.2.2.1 t ht hr).1]; exact hK
theorem sm_aLn (C : MM Y M n S D h) {t : Nat} (ht : t ≤ mMade M) (hr : isRw (mKd M t)) {K : Int32 → Prop} (hK : K (nI (mLn M t))) : aI h (Y + 3) (nI t) K := by
  have h2 := C.m200
  obtain ⟨R, L, r, I⟩ := id C
  refine R_aI R L.s3 (vp_in_nI (by omega) (by omega)) ?_
  rw [nI_clamp (by omega), (r.2.2.2.1 t ht hr).2.1]; exact hK
theorem sm_aNm (C : MM Y M n S D h) {t : Nat} (ht : t ≤ mMade M) (hr : ¬ isRw (mKd M t)) (h0 : t ≠ 0) {K : Int32 → Prop} (hK : K (mNm M t)) : aI h (Y + 4) (nI t) K := by
  have h2 := C.m200
  obtain ⟨R, L, r, I⟩ := id C
  refine R_aI R L.s4 (vp_in_nI (by omega) (by omega)) ?_
  rw [nI_clamp (by omega), (r.2.2.2.2.1 t ht hr h0).2]; exact hK
theorem sm_aIt (C : MM Y M n S D h) {j : Nat} (hj : j < 3000) {K : Int64 → Prop} (hK : K (mIt M j)) : aL h (Y + 5) (nI j) K := by
  obtain ⟨R, L, r, I⟩ := id C
  refine R_aL R L.s5 (vp_in_nI hj (by omega)) ?_
  rw [nI_clamp (by omega), C.rIt hj]; exact hK
theorem sm_aRg (C : MM Y M n S D h) {q : Nat} (hq : q < 8) {K : Int64 → Prop} (hK : K (mRg M q)) : aL h (Y + 7) (nI q) K := by
  obtain ⟨R, L, r, I⟩ := id C
  refine R_aL R L.s7 (vp_in_nI hq (by omega)) ?_
  rw [nI_clamp (by omega), r.2.2.2.2.2.2.2.1 q hq]; exact hK
theorem sm_cn (C : MM Y M n S D h) {k : Nat} (hk : k < 6) {K : Int32 → Prop} (hK : K (mCn M k)) : rI h Y 9 (17 + k) K := by
  obtain ⟨R, L, r, I⟩ := id C
  refine R_I R L.1 (by rcases (show k = 0 ∨ k = 1 ∨ k = 2 ∨ k = 3 ∨ k = 4 ∨ k = 5 by omega) with rfl | rfl | rfl | rfl | rfl | rfl <;> rfl) ?_
  rw [r.2.2.2.2.2.2.2.2 k hk]; exact hK
/-- writes -/
theorem mRep.setSl (r : mRep Y M D) {s t : Nat} : mRep Y (mSetSl M s t) (uF D (Y + 6) (upd (D.2.1 (Y + 6)) s (nI t))) := by
  obtain ⟨r1, r2, r3, r4, r5, r6, r7, r8, r9⟩ := r
  have e : ∀ a, a ≠ Y + 6 → (uF D (Y + 6) (upd (D.2.1 (Y + 6)) s (nI t))).2.1 a = D.2.1 a := fun a ha => by simp [uF, va_up, ha]
  refine ⟨r1, r2, fun t ht => ?_, fun t ht hr => ?_, fun t ht hr h0 => ?_, r6, fun q hq => ?_, r8, r9⟩
  · rw [e _ (by omega)]; exact r3 t ht
  · rw [e _ (by omega), e _ (by omega), e _ (by omega)]; exact r4 t ht hr
  · rw [e _ (by omega), e _ (by omega)]; exact r5 t ht hr h0
  · show (uF D (Y + 6) _).2.1 (Y + 6) q = nI (va_up (mSl M) s t q)
    rw [uF_at]
    simp only [upd, va_up]
    split
    · rfl
    · exact r7 q hq
theorem mRep.setRg (r : mRep Y M D) {q : Nat} {x : Int64} : mRep Y (mSetRg M q x) (uB D (Y + 7) (vp_updL (D.2.2.1 (Y + 7)) q x)) := by
  obtain ⟨r1, r2, r3, r4, r5, r6, r7, r8, r9⟩ := r
  refine ⟨r1, r2, r3, r4, r5, fun j hj => ?_, r7, fun k hk => ?_, r9⟩
  · show (uB D (Y + 7) _).2.2.1 (Y + 5) j = _
    simp [uB, va_up]; exact r6 j hj
  · show (uB D (Y + 7) _).2.2.1 (Y + 7) k = vp_updL (mRg M) q x k
    rw [uB_at]
    simp only [vp_updL]
    split
    · rfl
    · exact r8 k hk
theorem mRep.setCn (r : mRep Y M D) {k : Nat} {x : Int32} : mRep Y (mSetCn M k x) (uO D Y (17 + k) x) := by
  obtain ⟨r1, r2, r3, r4, r5, r6, r7, r8, r9⟩ := r
  refine ⟨?_, ?_, r3, r4, r5, r6, r7, r8, fun j hj => ?_⟩
  · show (uO D Y _ _).1 Y 0 = _
    simp [uO, va_up, upd]; rw [if_neg (by omega)]; exact r1
  · show (uO D Y _ _).1 Y 1 = _
    simp [uO, va_up, upd]; rw [if_neg (by omega)]; exact r2
  · show (uO D Y _ _).1 Y (17 + j) = upd (mCn M) k x j
    simp only [uO, va_up, if_pos, upd]
    by_cases e : j = k
    · subst e; simp
    · rw [if_neg (by omega), if_neg e]; exact r9 j hj
theorem mRep.setIt (r : mRep Y M D) {f g : Nat → Int64} (hf : ∀ j, j < 3000 → f j = g j) : mRep Y (mSetIt M g) (uB D (Y + 5) f) := by
  obtain ⟨r1, r2, r3, r4, r5, r6, r7, r8, r9⟩ := r
  refine ⟨r1, r2, r3, r4, r5, fun j hj => ?_, r7, fun k hk => ?_, r9⟩
  · show (uB D (Y + 5) _).2.2.1 (Y + 5) j = g j
    rw [uB_at]; exact hf j hj
  · show (uB D (Y + 5) _).2.2.1 (Y + 7) k = _
    simp [uB, va_up]; exact r8 k hk
theorem sm_sSl (C : MM Y M n S D h) {s t : Nat} (hs : s < 12) (ht : t ≤ mMade M) {K : aH → Prop} (hK : ∀ h' D', MM Y (mSetSl M s t) n S D' h' → mOut Y D D' → K h') : sI h (Y + 6) (nI s) (nI t) K := by
  obtain ⟨R, L, r, I⟩ := id C
  refine R_sI R L.s6 (vp_in_nI hs (by omega)) fun h' R' => ?_
  rw [nI_clamp (by omega)] at R'
  exact hK h' _ ⟨R', L, r.setSl, I.setSl ht⟩ (mOut.F (by omega))
theorem sm_sRg (C : MM Y M n S D h) {q : Nat} (hq : q < 8) {x : Int64} {K : aH → Prop} (hK : ∀ h' D', MM Y (mSetRg M q x) n S D' h' → mOut Y D D' → K h') : sL h (Y + 7) (nI q) x K := by
  obtain ⟨R, L, r, I⟩ := id C
  refine R_sL R L.s7 (vp_in_nI hq (by omega)) fun h' R' => ?_
  rw [nI_clamp (by omega)] at R'
  exact hK h' _ ⟨R', L, r.setRg, I.setRg⟩ (mOut.B (by omega))
theorem sm_sIt (C : MM Y M n S D h) {j : Nat} (hj : j < 3000) {x : Int64} (I' : mInv (mSetIt M (vp_updL (mIt M) j x))) {K : aH → Prop} (hK : ∀ h' D', MM Y (mSetIt M (vp_updL (mIt M) j x)) n S D' h' → mOut Y D D' → K h') : sL h (Y + 5) (nI j) x K := by
  obtain ⟨R, L, r, I⟩ := id C
  refine R_sL R L.s5 (vp_in_nI hj (by omega)) fun h' R' => ?_
  rw [nI_clamp (by omega)] at R'
  refine hK h' _ ⟨R', L, r.setIt (fun q hq => ?_), I'⟩ (mOut.B (by omega))
  simp only [vp_updL]
  split
  · rfl
  · exact C.rIt hq
theorem sm_setCn (C : MM Y M n S D h) {k : Nat} (hk : k < 6) {x : Int32} {K : aH → Prop} (hK : ∀ h' D', MM Y (mSetCn M k x) n S D' h' → mOut Y D D' → K h') : wF h Y 9 (17 + k) (.int x) K := by
  obtain ⟨R, L, r, I⟩ := id C
  refine R_wF R L.1 (by rcases (show k = 0 ∨ k = 1 ∨ k = 2 ∨ k = 3 ∨ k = 4 ∨ k = 5 by omega) with rfl | rfl | rfl | rfl | rfl | rfl <;> rfl) fun h' R' => ?_
  exact hK h' _ ⟨R', L, r.setCn, I.setCn⟩ (mOut.O (by omega))
/-- in, mask, is, as, row, itemOf, fits -/
def mIn (v l u : Int32) : Int32 := if v < l then 0 else if u < v then 0 else 1
theorem mIn_B (v l u : Int32) : oB (mIn v l u) := by unfold mIn; split; exact Or.inl rfl; split; exact Or.inl rfl; exact Or.inr rfl
theorem sm_in {v l u : Int32} {Q : Int32 → aH → Prop} (hq : Q (mIn v l u) h) : wX11_in h v l u Q := by
  unfold wX11_in wbX11_in_14 wbX11_in_15
  unfold mIn at hq
  refine ⟨fun z => ⟨Or.inl rfl, ?_⟩, fun z => ⟨fun y => ⟨Or.inl rfl, ?_⟩, fun y => ⟨Or.inr rfl, ?_⟩⟩⟩
  · rwa [if_pos z] at hq
  · rwa [if_neg z, if_pos y] at hq
  · rwa [if_neg z, if_neg y] at hq
theorem nI_m1 {l : Nat} {i : Int32} (hl : l < 2 ^ 31) (hi : ¬ i < 0) : nI l - 1 < i ↔ nI l ≤ i := by
  obtain ⟨j, hj, rfl⟩ := nI_of hi
  cases l with
  | zero =>
    have e : nI 0 - 1 = -1 := by decide
    rw [e]
    refine ⟨fun _ => nI_le (Nat.zero_le _) hj, fun _ => ?_⟩
    rw [Int32.lt_iff_toInt_lt, nI_toInt hj]
    have : (-1 : Int32).toInt = -1 := by decide
    rw [this]; omega
  | succ l => rw [nI_pred, nI_ltI (by omega) hj, nI_leI hl hj]; exact Iff.rfl
theorem mIn_has {t : Nat} {i : Int32} (hr : isRw (mKd M t)) (hl : mLn M t < 2 ^ 31) : mIn i 0 (nI (mLn M t) - 1) = mHas M t i := by
  unfold mIn mHas
  rw [if_neg (fun z => (kRow_0.mp z) hr)]
  by_cases c : i < 0
  · rw [if_pos c, if_pos c]
  · rw [if_neg c, if_neg c]
    by_cases e : nI (mLn M t) ≤ i
    · rw [if_pos e, if_pos ((nI_m1 hl c).mpr e)]
    · rw [if_neg e, if_neg (fun q => e ((nI_m1 hl c).mp q))]
def mMask (k : Int32) : Int32 := ((1 <<< (k &&& 31)) ||| (if k = 8 then 512 else 0)) ||| (if k = 6 then 128 else 0)
theorem sm_mask {k : Int32} {Q : Int32 → aH → Prop} (hq : Q (mMask k) h) : wX11_mask h k Q := by
  unfold wX11_mask wbX11_mask_16 wbX11_mask_30
  unfold mMask at hq
  refine ⟨fun z => ⟨fun y => ?_, fun y => ?_⟩, fun z => ⟨fun y => ?_, fun y => ?_⟩⟩
  · rwa [if_neg z, if_neg y] at hq
  · rwa [if_neg z, if_pos y] at hq
  · rwa [if_pos z, if_neg y] at hq
  · rwa [if_pos z, if_pos y] at hq
theorem mMask_is : ∀ a, a < 10 → ∀ b, b < 10 → (if (mMask (nI b) >>> (nI a &&& 31)) &&& 1 = 1 then (1 : Int32) else 0) = kIs (nI a) (nI b) := by decide +kernel
theorem sm_is (C : MM Y M n S D h) {t : Nat} (ht : t ≤ mMade M) {b : Nat} (hb : b < 10) {Q : Int32 → aH → Prop} (hq : Q (kIs (mKd M t) (nI b)) h) : wX11_is h Y (nI t) (nI b) Q := by
  obtain ⟨R, L, r, I⟩ := id C
  obtain ⟨a, ha, ea⟩ := C.kdn ht
  unfold wX11_is wbX11_is_22
  refine sm_mask (R_R R L.1 rfl (sm_aKd C ht ?_))
  have key := mMask_is a ha b hb
  rw [ea] at hq ⊢
  rw [← key] at hq
  refine ⟨fun z => ⟨Or.inl rfl, ?_⟩, fun z => ⟨Or.inr rfl, ?_⟩⟩
  · rwa [if_neg z] at hq
  · rwa [if_pos z] at hq
theorem sm_as (C : MM Y M n S D h) {s : Nat} (hs : s < 12) {b : Nat} (hb : b < 10) {Q : Int32 → aH → Prop} (hq : Q (mAs M s (nI b)) h) : wX11_as h Y (nI s) (nI b) Q := by
  obtain ⟨R, L, r, I⟩ := id C
  have hv := C.vm hs
  have h2 := C.m200
  unfold mAs at hq
  unfold wX11_as wbX11_as_27 wbX11_as_28
  refine R_R R L.1 rfl (sm_aSl C hs ⟨fun z => ?_, fun z => R_R R L.1 rfl (sm_aSl C hs (R_O R L.1 (sm_is C hv hb ⟨fun y => ?_, fun y => ?_⟩)))⟩)
  · rwa [if_pos ((nI_eq0 (by omega)).mp z)] at hq
  · rwa [if_neg (fun e => z ((nI_eq0 (by omega)).mpr e)), if_neg y] at hq
  · rwa [if_neg (fun e => z ((nI_eq0 (by omega)).mpr e)), if_pos y] at hq
theorem mAs_some (M : mT) (s : Nat) (k : Int32) : mSome M s k = if mAs M s k = 0 then (if mSl M s = 0 then 1 else 0) else 2 := by
  unfold mSome mAs
  by_cases a : mSl M s = 0
  · simp [a]
  · by_cases b : kIs (mKd M (mSl M s)) k = 0
    · simp [a, b]
    · simp [a, b]
theorem sm_row (C : MM Y M n S D h) {s : Nat} (hs : s < 12) {b : Nat} (hb : b < 10) {Q : Int32 → aH → Prop} (hq : Q (mSome M s (nI b)) h) : wX11_row h Y (nI s) (nI b) Q := by
  obtain ⟨R, L, r, I⟩ := id C
  have hv := C.vm hs
  have h2 := C.m200
  rw [mAs_some] at hq
  unfold wX11_row wbX11_row_27
  refine R_O R L.1 (sm_as C hs hb ⟨fun z => R_R R L.1 rfl (sm_aSl C hs ⟨fun y => ?_, fun y => ?_⟩), fun z => ?_⟩)
  · rwa [if_pos z, if_neg (fun e => y ((nI_eq0 (by omega)).mpr e))] at hq
  · rwa [if_pos z, if_pos ((nI_eq0 (by omega)).mp y)] at hq
  · rwa [if_neg z] at hq
theorem mItem_some (M : mT) (s : Nat) (k i : Int32) : mItem M s k i = if mSome M s k = 0 then (if mHas M (mSl M s) i = 0 then 3 else 0) else mSome M s k := by
  unfold mItem mSome
  by_cases a : mSl M s = 0
  · simp [a]
  · by_cases b : kIs (mKd M (mSl M s)) k = 0
    · simp [a, b]
    · simp [a, b]
theorem kIs_rw0 : ∀ a, a < 10 → ∀ b, b < 10 → ((1 ≤ b ∧ b ≤ 7) ∧ ¬ kIs (nI a) (nI b) = 0) → (1 ≤ a ∧ a ≤ 7) := by decide
theorem kIs_nrw0 : ∀ a, a < 10 → ¬ kIs (nI a) 8 = 0 → (8 ≤ a ∧ a ≤ 9) := by decide
theorem isRw_nI {a : Nat} (h1 : 1 ≤ a) (h7 : a ≤ 7) : isRw (nI a) := by
  rw [isRw_iff, nI_toInt (by omega)]; omega
theorem isRw_nI8 {a : Nat} (h1 : 8 ≤ a) (h7 : a ≤ 9) : ¬ isRw (nI a) := by
  rw [isRw_iff, nI_toInt (by omega)]; omega
/-- what row(s, k) == 0 says -/
theorem mSome_row (C : MM Y M n S D h) {s : Nat} (hs : s < 12) {b : Nat} (h1 : 1 ≤ b) (h7 : b ≤ 7) (z : mSome M s (nI b) = 0) : 1 ≤ mSl M s ∧ isRw (mKd M (mSl M s)) := by
  obtain ⟨z1, z2⟩ := mSome_0 z
  obtain ⟨a, ha, ea⟩ := C.kdn (C.vm hs)
  rw [ea] at z2 ⊢
  have := kIs_rw0 a ha b (by omega) ⟨⟨h1, h7⟩, z2⟩
  exact ⟨Nat.pos_of_ne_zero z1, isRw_nI this.1 this.2⟩
theorem sm_itemOf (C : MM Y M n S D h) {s : Nat} (hs : s < 12) {b : Nat} (h1 : 1 ≤ b) (h7 : b ≤ 7) {i : Int32} {Q : Int32 → aH → Prop} (hq : Q (mItem M s (nI b) i) h) : wX11_itemOf h Y (nI s) (nI b) i Q := by
  obtain ⟨R, L, r, I⟩ := id C
  rw [mItem_some] at hq
  unfold wX11_itemOf wbX11_itemOf_44
  refine R_O R L.1 (sm_row C hs (by omega) ⟨fun z => ?_, fun z => ?_⟩)
  · rw [if_pos z] at hq
    obtain ⟨p1, pr⟩ := mSome_row C hs h1 h7 z
    have hl := I.ln p1 (C.vm hs) pr
    refine R_R R L.1 rfl (R_R R L.1 rfl (sm_aSl C hs (sm_aLn C (C.vm hs) pr (sm_in ?_))))
    rw [mIn_has pr (by omega)]
    refine ⟨fun y => ?_, fun y => ?_⟩
    · rwa [if_pos y] at hq
    · rwa [if_neg y] at hq
  · rwa [if_neg z] at hq
theorem sm_fits (C : MM Y M n S D h) {a b : Int64} {Q : Int32 → aH → Prop} (h1 : mFit M a b → Q 1 h) (h0 : ¬ mFit M a b → Q 0 h) : wX11_fits h Y a b Q := by
  obtain ⟨R, L, -⟩ := id C
  have h2 := C.m200
  have h3 := C.u3000
  unfold wX11_fits wbX11_fits_32 wbX11_fits_33
  refine R_I R L.1 rfl ?_
  rw [C.rMade, nI_l (by omega)]
  refine ⟨fun z => ⟨Or.inl rfl, h0 fun q => q.1 (lg_pos.mp z)⟩, fun z => R_I R L.1 rfl ?_⟩
  rw [C.rUsed, nI_l (by omega)]
  exact ⟨fun y => ⟨Or.inl rfl, h0 fun q => q.2 (lg_pos.mp y)⟩, fun y => ⟨Or.inr rfl, h1 ⟨fun q => z (lg_pos.mpr q), fun q => y (lg_pos.mpr q)⟩⟩⟩
end MMS
