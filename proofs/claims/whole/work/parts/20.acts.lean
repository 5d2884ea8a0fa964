/-! the class' machine: acts -/
theorem k_small {k : Int32} (h0 : 0 ≤ k) (h9 : k ≤ 9) : ∃ a : Nat, a < 10 ∧ k = nI a := by
  obtain ⟨j, hj, e⟩ := nI_of2 (M := 9) (n := 9) rfl (Int32.not_lt.mpr h0) h9
  exact ⟨j, by omega, e⟩
theorem kIs_num : ∀ a, a < 10 → ∀ b, b < 10 → 1 ≤ b → b ≤ 4 → ¬ kIs (nI a) (nI b) = 0 → a = b := by decide
theorem kIs_row0 : ∀ a, a < 10 → ∀ b, b < 10 → ((5 ≤ b ∧ b ≤ 7) ∧ ¬ kIs (nI a) (nI b) = 0) → (5 ≤ a ∧ a ≤ 7) := by decide
theorem kIs_row (a : Nat) (ha : a < 10) (b : Nat) (hb : b < 10) (h5 : 5 ≤ b) (h7 : b ≤ 7) (h : ¬ kIs (nI a) (nI b) = 0) : 5 ≤ a ∧ a ≤ 7 := kIs_row0 a ha b hb ⟨⟨h5, h7⟩, h⟩
theorem kIs_fig0 : ∀ a, a < 10 → ∀ b, b < 10 → ((8 ≤ b ∧ b ≤ 9) ∧ ¬ kIs (nI a) (nI b) = 0) → (8 ≤ a ∧ a ≤ 9) := by decide
theorem kIs_fig (a : Nat) (ha : a < 10) (b : Nat) (hb : b < 10) (h5 : 8 ≤ b) (h7 : b ≤ 9) (h : ¬ kIs (nI a) (nI b) = 0) : 8 ≤ a ∧ a ≤ 9 := kIs_fig0 a ha b hb ⟨⟨h5, h7⟩, h⟩
section CAC
variable {X n : Nat} {M : mT} {S : sS} {D : sD} {h : aH}
theorem CM.kdn (C : CM X M n S D h) {t : Nat} (ht : t ≤ mMade M) : ∃ a : Nat, a < 10 ∧ mKd M t = nI a := by
  by_cases e : t = 0
  · subst e; exact ⟨0, by decide, C.kd0⟩
  · obtain ⟨h1, h2⟩ := C.kd (Nat.pos_of_ne_zero e) ht
    refine k_small (Int32.le_iff_toInt_le.mpr ?_) h2
    have := Int32.le_iff_toInt_le.mp h1
    rw [i1] at this; rw [i0]; omega
def mAs64 (k : Int32) (v : Int64) : Int64 := if k.toInt = 1 then v.toInt32.toInt64 else if k.toInt = 2 then v.toInt32.toInt8.toInt32.toInt64 else if k.toInt = 4 then (if (9218868437227405312 : Int64) < v &&& 9223372036854775807 then 9221120237041090560 else v) else v
theorem sp_asItem {k : Int32} {v : Int64} {Q : Int64 → aH → Prop} (hq : Q (mAs64 k v) h) : wX8_asItem h k v Q := by
  unfold mAs64 at hq
  unfold wX8_asItem wbX8_asItem_61 wbX8_asItem_60
  refine ⟨fun z => ?_, fun z => ?_, fun z => ?_, fun z => ?_, fun z => ⟨fun y => ?_, fun y => ?_⟩⟩
  · rw [if_neg (by omega), if_neg (by omega), if_neg (by omega)] at hq; exact hq
  · rw [if_pos z] at hq; exact hq
  · rw [if_neg (by omega), if_pos z] at hq; exact hq
  · rw [if_neg (by omega), if_neg (by omega), if_neg (by omega)] at hq; exact hq
  · rw [if_neg (by omega), if_neg (by omega), if_pos z, if_neg (lg_le.mp y)] at hq; exact hq
  · have y' : (9218868437227405312 : Int64) < v &&& 9223372036854775807 := by
      by_cases q : (9218868437227405312 : Int64) < v &&& 9223372036854775807
      · exact q
      · exact absurd (lg_le.mpr q) y
    rw [if_neg (by omega), if_neg (by omega), if_pos z, if_pos y'] at hq; exact hq
def mWrite (M : mT) (t : Nat) (i : Int32) (v : Int64) : mT := if mHas M t i = 0 then M else mSetIt M (vp_updL (mIt M) (mBg M t + i.toNatClampNeg) (mAs64 (mKd M t) v))
theorem mInv.write {M : mT} (I : mInv M) {t : Nat} (ht : t ≤ mMade M) {i : Int32} {v : Int64} (hv : 5 ≤ mKd M t → ∃ u : Nat, u ≤ mMade M ∧ v = lN u ∧ mOk M (mKd M t) u) : mInv (mWrite M t i v) := by
  unfold mWrite
  by_cases z : mHas M t i = 0
  · rw [if_pos z]; exact I
  · rw [if_neg z]
    obtain ⟨h1, hr, j, hj, rfl, hl⟩ := mHas_1 I.2.2.1 z
    have hjl : j < mLn M t := Nat.not_le.mp fun q => hl (nI_le q hj)
    refine I.setIt h1 ht hr (fun q hq => ?_) (fun h5 i hi => ?_)
    · rw [nI_clamp hj]
      simp only [vp_updL]
      rw [if_neg (by omega)]
    · rw [nI_clamp hj]
      simp only [vp_updL]
      by_cases e : mBg M t + i = mBg M t + j
      · rw [if_pos e]
        obtain ⟨u, hu, rfl, hok⟩ := hv h5
        refine ⟨u, hu, ?_, hok⟩
        have h5' := Int32.le_iff_toInt_le.mp h5
        rw [i5] at h5'
        unfold mAs64
        rw [if_neg (by omega), if_neg (by omega), if_neg (by omega)]
      · rw [if_neg e]
        have h7 : mKd M t ≤ 7 := hr.2
        exact I.2.2.2.2.2.2.2 t h1 ht h5 h7 i hi
theorem sc_write (C : CM X M n S D h) {t : Nat} (ht : t ≤ mMade M) {i : Int32} {v : Int64} (hv : 5 ≤ mKd M t → ∃ u : Nat, u ≤ mMade M ∧ v = lN u ∧ mOk M (mKd M t) u) {Q : aH → Prop} (hq : ∀ h' D', CM X (mWrite M t i v) n S D' h' → cOut X D D' → Q h') : wX8_write h (X + 2) (nI t) i v Q := by
  have h2 := C.m200
  have h3 := C.u3000
  have I' := C.2.2.2.write (i := i) ht hv
  obtain ⟨R, L, r, I⟩ := id C
  unfold mWrite at hq I'
  unfold wX8_write wbX8_write_32
  refine R_O R L.2.1 (sc_hasItem C ht ⟨fun z => ?_, fun z => ?_⟩)
  · rw [if_pos z] at hq; exact hq h D C cOut.rf
  · rw [if_neg z] at hq I'
    obtain ⟨h1, hr, j, hj, rfl, hl⟩ := mHas_1 C.kd0 z
    have hrow := C.row h1 ht hr
    have hjl : j < mLn M t := Nat.not_le.mp fun q => hl (nI_le q hj)
    refine R_R R L.2.1 rfl (R_R R L.2.1 rfl (R_aI R L.2.2.2.1 (vp_in_nI (by omega) (by omega)) (R_R R L.2.1 rfl (R_aI R L.2.2.1 (vp_in_nI (by omega) (by omega)) ?_))))
    rw [nI_clamp (by omega), C.rBg ht hr, C.rKd ht, nI_add]
    refine sp_asItem (R_sL R L.2.2.2.2.2.1 (vp_in_nI (by omega) (by omega)) fun h' R' => ?_)
    rw [nI_clamp (by omega)] at R'
    rw [nI_clamp hj] at hq I'
    refine hq h' _ ⟨R', L, r.setIt (fun q hq => ?_), I'⟩ (cOut.B (by omega))
    simp only [vp_updL]
    split
    · rfl
    · exact C.rIt hq
/-- SET -/
def mSet (M : mT) (s : Nat) (k i : Int32) (r : Nat) : Int32 × mT := (mItem M s k i, if mItem M s k i = 0 then mWrite M (mSl M s) i (mRg M r) else M)
theorem mItem_0 {M : mT} {s : Nat} {k i : Int32} (h : mItem M s k i = 0) : ¬ mSl M s = 0 ∧ ¬ kIs (mKd M (mSl M s)) k = 0 ∧ ¬ mHas M (mSl M s) i = 0 := by
  unfold mItem at h
  by_cases a : mSl M s = 0
  · rw [if_pos a] at h; exact absurd h (by decide)
  rw [if_neg a] at h
  by_cases b : kIs (mKd M (mSl M s)) k = 0
  · rw [if_pos b] at h; exact absurd h (by decide)
  rw [if_neg b] at h
  by_cases c : mHas M (mSl M s) i = 0
  · rw [if_pos c] at h; exact absurd h (by decide)
  exact ⟨a, b, c⟩
theorem sc_set (C : CM X M n S D h) {s r : Nat} (hs : s < 12) (hr : r < 8) {k : Nat} (hk1 : 1 ≤ k) (hk4 : k ≤ 4) {i : Int32} {Q : Int32 → aH → Prop} (hq : ∀ h' D', CM X (mSet M s (nI k) i r).2 n S D' h' → cOut X D D' → Q (mSet M s (nI k) i r).1 h') : wX5_set h (X + 1) (nI s) (nI k) i (nI r) Q := by
  obtain ⟨R, L, -⟩ := id C
  unfold mSet at hq
  refine R_O R L.1 (sc_unlessItem C hs ⟨fun z => ?_, fun z => ?_⟩)
  · rw [if_neg z] at hq; exact hq h D C cOut.rf
  · rw [if_pos z] at hq
    obtain ⟨z1, z2, z3⟩ := mItem_0 z
    obtain ⟨a, ha, ea⟩ := C.kdn (C.vm hs)
    have hak : a = k := by rw [ea] at z2; exact kIs_num a ha k (by omega) hk1 hk4 z2
    refine R_R R L.1 rfl (sc_slot C hs (R_R R L.1 rfl (sc_reg C hr (R_O R L.2.1 (sc_write C (C.vm hs) (fun h5 => ?_) fun h' D' C' O' => ?_)))))
    · rw [ea, hak] at h5
      have := (nI_leI (a := 5) (by omega) (by omega)).mp h5
      omega
    · exact hq h' D' C' O'
/-- TAKE -/
def mTake (M : mT) (s f : Nat) (k i : Int32) : Int32 × mT := (mItem M f k i, if mItem M f k i = 0 then mSetSl M s (mRead M (mSl M f) i).toInt32.toNatClampNeg else M)
theorem CM.thing (C : CM X M n S D h) {t : Nat} (ht : t ≤ mMade M) {i : Int32} (h5 : 5 ≤ mKd M t) (z : ¬ mHas M t i = 0) : ∃ u : Nat, u ≤ mMade M ∧ mRead M t i = lN u ∧ mOk M (mKd M t) u := by
  obtain ⟨h1, hr, j, hj, rfl, hl⟩ := mHas_1 C.kd0 z
  have hjl : j < mLn M t := Nat.not_le.mp fun q => hl (nI_le q hj)
  unfold mRead
  rw [if_neg z, nI_clamp hj]
  exact C.2.2.2.2.2.2.2.2.2.2 t h1 ht h5 hr.2 j hjl
theorem nI_5 {a : Nat} (h : 5 ≤ a) (h2 : a < 10) : (5 : Int32) ≤ nI a := nI_le (a := 5) h (by omega)
theorem sc_take (C : CM X M n S D h) {s f : Nat} (hs : s < 12) (hf : f < 12) {k : Nat} (hk1 : 5 ≤ k) (hk4 : k ≤ 7) {i : Int32} {Q : Int32 → aH → Prop} (hq : ∀ h' D', CM X (mTake M s f (nI k) i).2 n S D' h' → cOut X D D' → Q (mTake M s f (nI k) i).1 h') : wX5_take h (X + 1) (nI s) (nI f) (nI k) i Q := by
  obtain ⟨R, L, -⟩ := id C
  have h2 := C.m200
  unfold mTake at hq
  refine R_O R L.1 (sc_unlessItem C hf ⟨fun z => ?_, fun z => ?_⟩)
  · rw [if_neg z] at hq; exact hq h D C cOut.rf
  · rw [if_pos z] at hq
    obtain ⟨z1, z2, z3⟩ := mItem_0 z
    obtain ⟨a, ha, ea⟩ := C.kdn (C.vm hf)
    have hak : 5 ≤ a ∧ a ≤ 7 := by rw [ea] at z2; exact kIs_row a ha k (by omega) hk1 hk4 z2
    obtain ⟨u, hu, eu, -⟩ := C.thing (C.vm hf) (by rw [ea]; exact nI_5 hak.1 ha) z3
    refine R_R R L.1 rfl (R_R R L.1 rfl (sc_slot C hf (R_O R L.2.1 (sc_read C (C.vm hf) ?_))))
    rw [eu, lN_i, nI_clamp (by omega)] at hq
    rw [eu, lN_i]
    exact sc_setSl' C hs hu hq
/-- LENGTH, TELLS, MOVE, DIVIDE, REST -/
def mLength (M : mT) (r s : Nat) (k : Int32) : Int32 × mT := (mSome M s k, if mSome M s k = 0 then mSetRg M r (mSz M (mSl M s)).toInt64 else M)
theorem sc_length (C : CM X M n S D h) {r s : Nat} (hr : r < 8) (hs : s < 12) {k : Int32} {Q : Int32 → aH → Prop} (hq : ∀ h' D', CM X (mLength M r s k).2 n S D' h' → cOut X D D' → Q (mLength M r s k).1 h') : wX5_length h (X + 1) (nI r) (nI s) k Q := by
  obtain ⟨R, L, -⟩ := id C
  unfold mLength at hq
  refine R_O R L.1 (sc_unlessSomething C hs ⟨fun z => ?_, fun z => ?_⟩)
  · rw [if_neg z] at hq; exact hq h D C cOut.rf
  · rw [if_pos z] at hq
    exact R_R R L.1 rfl (R_R R L.1 rfl (sc_slot C hs (R_O R L.2.1 (sc_sizeOf C (C.vm hs) (sc_setRg' C hr hq)))))
def mTell (M : mT) (r s : Nat) : Int32 × mT := (mSome M s 8, if mSome M s 8 = 0 then mSetRg M r (if kIs (mKd M (mSl M s)) 9 = 0 then (mSz M (mSl M s)).toInt64 else (2 * mSz M (mSl M s) + 1).toInt64) else M)
theorem sc_tell (C : CM X M n S D h) {r s : Nat} (hr : r < 8) (hs : s < 12) {Q : Int32 → aH → Prop} (hq : ∀ h' D', CM X (mTell M r s).2 n S D' h' → cOut X D D' → Q (mTell M r s).1 h') : wX5_tell h (X + 1) (nI r) (nI s) Q := by
  obtain ⟨R, L, -⟩ := id C
  unfold mTell at hq
  refine R_O R L.1 (sc_unlessSomething C hs ⟨fun z => ?_, fun z => ?_⟩)
  · rw [if_neg z] at hq; exact hq h D C cOut.rf
  · rw [if_pos z] at hq
    refine R_R R L.1 rfl (sc_slot C hs (R_O R L.2.1 (sc_sizeOf C (C.vm hs) (R_R R L.1 rfl (R_O R L.1 (sc_holds C hs ⟨fun y => ?_, fun y => ?_⟩))))))
    · rw [if_pos y] at hq; exact sc_setRg' C hr hq
    · rw [if_neg y] at hq; exact sc_setRg' C hr hq
def mMoveF (M : mT) (f : Nat) (k : Int32) : Int32 := if k = 0 then 0 else mAs M f k
def mMove (M : mT) (s f : Nat) (k : Int32) : Int32 × mT := (mMoveF M f k, if mMoveF M f k = 0 then mSetSl M s (mSl M f) else M)
theorem sc_move (C : CM X M n S D h) {s f : Nat} (hs : s < 12) (hf : f < 12) {k : Int32} {Q : Int32 → aH → Prop} (hq : ∀ h' D', CM X (mMove M s f k).2 n S D' h' → cOut X D D' → Q (mMove M s f k).1 h') : wX5_move h (X + 1) (nI s) (nI f) k Q := by
  obtain ⟨R, L, -⟩ := id C
  unfold mMove at hq
  have key : ∀ c, c = mMoveF M f k → wbX5_move_14 (X + 1) (nI s) (nI f) c h Q := by
    intro c hc
    subst hc
    refine ⟨fun z => ?_, fun z => ?_⟩
    · rw [if_neg z] at hq; exact hq h D C cOut.rf
    · rw [if_pos z] at hq
      exact R_R R L.1 rfl (sc_slot C hf (sc_setSl' C hs (C.vm hf) hq))
  refine ⟨fun z => R_O R L.1 (sc_unlessAs C hf (key _ ?_)), fun z => key _ ?_⟩
  · unfold mMoveF; rw [if_neg z]
  · unfold mMoveF; rw [if_pos z]
def mDiv (M : mT) (r a b : Nat) : Int32 × mT := if mRg M b = 0 then (6, M) else (0, mSetRg M r (mRg M a / mRg M b))
def mRest (M : mT) (r a b : Nat) : Int32 × mT := if mRg M b = 0 then (6, M) else (0, mSetRg M r (mRg M a - mRg M a / mRg M b * mRg M b))
theorem sc_divide (C : CM X M n S D h) {r a b : Nat} (hr : r < 8) (ha : a < 8) (hb : b < 8) {Q : Int32 → aH → Prop} (hq : ∀ h' D', CM X (mDiv M r a b).2 n S D' h' → cOut X D D' → Q (mDiv M r a b).1 h') : wX5_divide h (X + 1) (nI r) (nI a) (nI b) Q := by
  obtain ⟨R, L, -⟩ := id C
  unfold mDiv at hq
  refine R_R R L.1 rfl (sc_reg C hb ⟨fun z => ?_, fun z => ?_⟩)
  · have z' : ¬ mRg M b = 0 := fun e => z (lg_eq.mpr e)
    rw [if_neg z'] at hq
    exact R_R R L.1 rfl (R_R R L.1 rfl (sc_reg C ha (R_R R L.1 rfl (sc_reg C hb ⟨z', sc_setRg' C hr hq⟩))))
  · rw [if_pos (lg_eq.mp z)] at hq; exact hq h D C cOut.rf
theorem sc_rest (C : CM X M n S D h) {r a b : Nat} (hr : r < 8) (ha : a < 8) (hb : b < 8) {Q : Int32 → aH → Prop} (hq : ∀ h' D', CM X (mRest M r a b).2 n S D' h' → cOut X D D' → Q (mRest M r a b).1 h') : wX5_rest h (X + 1) (nI r) (nI a) (nI b) Q := by
  obtain ⟨R, L, -⟩ := id C
  unfold mRest at hq
  refine R_R R L.1 rfl (sc_reg C hb ⟨fun z => ?_, fun z => ?_⟩)
  · have z' : ¬ mRg M b = 0 := fun e => z (lg_eq.mpr e)
    rw [if_neg z'] at hq
    exact R_R R L.1 rfl (R_R R L.1 rfl (sc_reg C ha (R_R R L.1 rfl (sc_reg C hb ⟨z', sc_setRg' C hr hq⟩))))
  · rw [if_pos (lg_eq.mp z)] at hq; exact hq h D C cOut.rf
end CAC
