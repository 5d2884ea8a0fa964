/-! alike -/
def same (M : mT) (t u : Nat) : Prop := mLn M t = mLn M u ∧ ∀ i, i < mLn M t → mIt M (mBg M t + i) = mIt M (mBg M u + i)
def ia (M : mT) (t i : Nat) : Nat := tN (mIt M (mBg M t + i)).toInt32
def deep (M : mT) (t u : Nat) : Prop := ∀ i, i < mLn M t → ia M t i = ia M u i ∨ (ia M t i ≠ 0 ∧ ia M u i ≠ 0 ∧ same M (ia M t i) (ia M u i))
def alP (M : mT) (t u : Nat) : Prop := mKd M t = mKd M u ∧ (¬ isRw (mKd M t) → mNm M t = mNm M u) ∧ (isRw (mKd M t) → mLn M t = mLn M u ∧ (¬ mKd M t = 5 → same M t u) ∧ (mKd M t = 5 → deep M t u))
theorem kIs_1 : ∀ a, a < 10 → ¬ kIs (nI a) 1 = 0 → a = 1 := by decide +kernel
theorem kTab45 : kTab 4 5 = 1 := by decide +kernel
/-- what lies in a ROW OF ROWS -/
theorem mInv.in5 {M : mT} (I : mInv M) {t : Nat} (h1 : 1 ≤ t) (ht : t ≤ mMade M) (h5 : mKd M t = 5) {i : Nat} (hi : i < mLn M t) : ia M t i ≤ mMade M ∧ mIt M (mBg M t + i) = lN (ia M t i) ∧ (ia M t i = 0 ∨ (1 ≤ ia M t i ∧ mKd M (ia M t i) = 1)) := by
  have m200 := I.1
  obtain ⟨u, hu, e, ok⟩ := I.2.2.2.2.2.2.2 t h1 ht (by rw [h5]; decide) (by rw [h5]; decide) i hi
  have ea : ia M t i = u := by unfold ia; rw [e, lN_i, tN_nI (show u < 2 ^ 31 by omega)]
  rw [ea]
  refine ⟨hu, e, ?_⟩
  rcases ok with ok | ok
  · exact Or.inl ok
  · rcases Nat.eq_zero_or_pos u with z | z
    · exact Or.inl z
    · refine Or.inr ⟨z, ?_⟩
      rw [h5, kTab45] at ok
      obtain ⟨g1, g2⟩ := I.2.2.2.1 u z hu
      have g0 : ¬ mKd M u < 0 := fun q => absurd (Int32.lt_of_le_of_lt g1 q) (by decide)
      obtain ⟨a, ha, e2⟩ := nI_of g0
      have a9 : a ≤ 9 := (nI_leI (b := 9) ha (by omega)).mp (by rw [← e2]; exact g2)
      rw [e2] at ok ⊢
      rw [kIs_1 a (by omega) ok]; rfl
section ALK
variable {X Y cnt n : Nat} {P : Nat → Nat} {N : nT} {M : mT} {ρ : rD} {gs : rS} {S : sS} {D : sD} {h : aH}
theorem mRead_row {t i : Nat} (I : mInv M) (h1 : 1 ≤ t) (ht : t ≤ mMade M) (hr : isRw (mKd M t)) (hi : i < mLn M t) : mRead M t (nI i) = mIt M (mBg M t + i) := by
  have u3 := I.2.1
  have fit := I.2.2.2.2.1 t h1 ht hr
  have : ¬ mHas M t (nI i) = 0 := by
    unfold mHas
    rw [if_neg (fun e => kRow_0.mp e hr), if_neg (nI_pos (by omega)), if_neg (fun e => absurd ((nI_leI (by omega) (by omega)).mp e) (by omega))]
    decide
  unfold mRead
  rw [if_neg this, nI_clamp (by omega)]
theorem mSz_row {t : Nat} (h1 : 1 ≤ t) (hr : isRw (mKd M t)) : mSz M t = nI (mLn M t) := by
  unfold mSz; rw [if_neg (by omega), if_neg (fun e => kRow_0.mp e hr)]
theorem sc_num_loop (C : CM X M n S D h) {t u : Nat} (t1 : 1 ≤ t) (ht : t ≤ mMade M) (tr : isRw (mKd M t)) (u1 : 1 ≤ u) (hu : u ≤ mMade M) (ur : isRw (mKd M u)) (el : mLn M t = mLn M u) {Q : Int32 → aH → Prop} (q1 : same M t u → Q 1 h) (q0 : ¬ same M t u → Q 0 h) : ∀ (j i : Nat), j + i = mLn M t → (∀ k, k < i → mIt M (mBg M t + k) = mIt M (mBg M u + k)) → wbX8_numbersMatch_20 (j + 1) (X + 2) (nI t) (nI u) (nI (mLn M t)) (nI i) h Q
  | 0, i, hi, hk => by
    have e : i = mLn M t := by omega
    have u3 := C.u3000
    have fit := C.row t1 ht tr
    rw [e]
    exact ⟨fun _ => ⟨Or.inr rfl, q1 ⟨el, fun k hk' => hk k (by omega)⟩⟩, fun z => absurd (nI_le (Nat.le_refl _) (by omega)) z⟩
  | j + 1, i, hi, hk => by
    have u3 := C.u3000
    have fit := C.row t1 ht tr
    refine ⟨fun z => absurd ((nI_leI (by omega) (by omega)).mp z) (by omega), fun _ => R_O C.1 C.2.1.2.1 (sc_read C ht (R_O C.1 C.2.1.2.1 (sc_read C hu ?_)))⟩
    rw [mRead_row C.2.2.2 t1 ht tr (by omega), mRead_row C.2.2.2 u1 hu ur (by omega)]
    refine ⟨fun z => ?_, fun z => ⟨Or.inl rfl, q0 fun e => z (lg_eq.mpr (e.2 i (by omega)))⟩⟩
    show wbX8_numbersMatch_20 (j + 1) (X + 2) (nI t) (nI u) (nI (mLn M t)) (nI i + 1) h Q
    rw [nI_1]
    refine sc_num_loop C t1 ht tr u1 hu ur el q1 q0 j (i + 1) (by omega) fun k hk' => ?_
    by_cases e : k = i
    · rw [e]; exact lg_eq.mp z
    · exact hk k (by omega)
theorem sc_num (C : CM X M n S D h) {t u : Nat} (t1 : 1 ≤ t) (ht : t ≤ mMade M) (tr : isRw (mKd M t)) (u1 : 1 ≤ u) (hu : u ≤ mMade M) (ur : isRw (mKd M u)) {Q : Int32 → aH → Prop} (q1 : same M t u → Q 1 h) (q0 : ¬ same M t u → Q 0 h) : isO h (X + 2) 6 (wX8_numbersMatch h (X + 2) (nI t) (nI u) Q) := by
  have u3 := C.u3000
  have ft := C.row t1 ht tr
  have fu := C.row u1 hu ur
  refine R_O C.1 C.2.1.2.1 (R_O C.1 C.2.1.2.1 (sc_sizeOf C ht (R_O C.1 C.2.1.2.1 (sc_sizeOf C hu ?_))))
  rw [mSz_row t1 tr, mSz_row u1 ur]
  refine ⟨fun z => ⟨mLn M t + 1, sc_num_loop C t1 ht tr u1 hu ur ((nI_eq (by omega) (by omega)).mp z) q1 q0 (mLn M t) 0 rfl fun k hk => absurd hk (Nat.not_lt_zero k)⟩, fun z => ⟨Or.inl rfl, q0 fun e => z (by rw [e.1])⟩⟩
theorem sc_rows_loop (C : CM X M n S D h) {t u : Nat} (t1 : 1 ≤ t) (ht : t ≤ mMade M) (t5 : mKd M t = 5) (u1 : 1 ≤ u) (hu : u ≤ mMade M) (u5 : mKd M u = 5) (el : mLn M t = mLn M u) {Q : Int32 → aH → Prop} (q1 : deep M t u → Q 1 h) (q0 : ¬ deep M t u → Q 0 h) : ∀ (j i : Nat), j + i = mLn M t → (∀ k, k < i → ia M t k = ia M u k ∨ (ia M t k ≠ 0 ∧ ia M u k ≠ 0 ∧ same M (ia M t k) (ia M u k))) → wbX8_rowsMatch_9 (j + 1) (X + 2) (nI t) (nI u) (nI (mLn M t)) (nI i) h Q
  | 0, i, hi, hk => by
    have tr : isRw (mKd M t) := by rw [t5]; exact ⟨by decide, by decide⟩
    have e : i = mLn M t := by omega
    have u3 := C.u3000
    have fit := C.row t1 ht tr
    rw [e]
    exact ⟨fun _ => ⟨Or.inr rfl, q1 fun k hk' => hk k (by omega)⟩, fun z => absurd (nI_le (Nat.le_refl _) (by omega)) z⟩
  | j + 1, i, hi, hk => by
    have tr : isRw (mKd M t) := by rw [t5]; exact ⟨by decide, by decide⟩
    have ur : isRw (mKd M u) := by rw [u5]; exact ⟨by decide, by decide⟩
    have u3 := C.u3000
    have m200 := C.m200
    have fit := C.row t1 ht tr
    obtain ⟨a1, a2, a3⟩ := C.2.2.2.in5 t1 ht t5 (i := i) (by omega)
    obtain ⟨b1, b2, b3⟩ := C.2.2.2.in5 u1 hu u5 (i := i) (by omega)
    refine ⟨fun z => absurd ((nI_leI (by omega) (by omega)).mp z) (by omega), fun _ => R_O C.1 C.2.1.2.1 (sc_read C ht (R_O C.1 C.2.1.2.1 (sc_read C hu ?_)))⟩
    rw [mRead_row C.2.2.2 t1 ht tr (by omega), mRead_row C.2.2.2 u1 hu ur (by omega), a2, b2, lN_i, lN_i]
    have nx : (ia M t i = ia M u i ∨ (ia M t i ≠ 0 ∧ ia M u i ≠ 0 ∧ same M (ia M t i) (ia M u i))) → wbX8_rowsMatch_9 (j + 1) (X + 2) (nI t) (nI u) (nI (mLn M t)) (nI i + 1) h Q := by
      intro hh
      rw [nI_1]
      refine sc_rows_loop C t1 ht t5 u1 hu u5 el q1 q0 j (i + 1) (by omega) fun k hk' => ?_
      by_cases e : k = i
      · rw [e]; exact hh
      · exact hk k (by omega)
    have bad : ¬ (ia M t i = ia M u i ∨ (ia M t i ≠ 0 ∧ ia M u i ≠ 0 ∧ same M (ia M t i) (ia M u i))) → Q 0 h := fun hh => q0 fun e => hh (e i (by omega))
    have k45 : (ia M t i = 0 ∨ ia M u i = 0) → wbX8_rowsMatch_45 (fun v0 v1 v2 v3 v4 h => wbX8_rowsMatch_9 (j + 1) v0 v1 v2 v3 v4 h Q) (X + 2) (nI t) (nI u) (nI (mLn M t)) (nI i) (nI (ia M t i)) (nI (ia M u i)) h Q := by
      intro hz
      refine ⟨fun e => nx (Or.inl ((nI_eq (by omega) (by omega)).mp e)), fun e => ⟨fun _ => ⟨Or.inl rfl, bad fun q => ?_⟩, fun w => absurd w (by decide)⟩⟩
      rcases q with q | ⟨q1, q2, -⟩
      · exact e (by rw [q])
      · exact hz.elim q1 q2
    refine ⟨fun z => k45 (Or.inl ((nI_eq0 (by omega)).mp z)), fun z => ⟨fun y => ⟨fun e => nx (Or.inl ((nI_eq (by omega) (by omega)).mp e)), fun e => ⟨fun w => absurd rfl w, fun _ => ?_⟩⟩, fun y => k45 (Or.inr ((nI_eq0 (by omega)).mp y))⟩⟩
    have ta : ia M t i ≠ 0 := fun q => z (by rw [q]; rfl)
    have ua : ia M u i ≠ 0 := fun q => y (by rw [q]; rfl)
    obtain ⟨c1, c2⟩ := a3.resolve_left ta
    obtain ⟨d1, d2⟩ := b3.resolve_left ua
    refine sc_num C c1 a1 (by rw [c2]; exact isRw_1) d1 b1 (by rw [d2]; exact isRw_1) (fun s => ⟨fun _ => nx (Or.inr ⟨ta, ua, s⟩), fun w => absurd w (by decide)⟩) (fun s => ⟨fun w => absurd rfl w, fun _ => ⟨Or.inl rfl, bad fun q => ?_⟩⟩)
    rcases q with q | q
    · exact e (by rw [q])
    · exact s q.2.2
theorem sc_match (C : CM X M n S D h) {t u : Nat} (ht : t ≤ mMade M) (hu : u ≤ mMade M) (ne : t ≠ u) {Q : Int32 → aH → Prop} (q1 : 1 ≤ t → 1 ≤ u → alP M t u → Q 1 h) (q0 : ¬ (1 ≤ t ∧ 1 ≤ u ∧ alP M t u) → Q 0 h) : isO h (X + 2) 6 (wX8_match h (X + 2) (nI t) (nI u) Q) := by
  have m200 := C.m200
  have u3 := C.u3000
  have kd0 := C.kd0
  refine R_O C.1 C.2.1.2.1 (R_O C.1 C.2.1.2.1 (sc_kindOf C ht (R_O C.1 C.2.1.2.1 (sc_kindOf C hu ⟨fun z => ⟨Or.inl rfl, q0 fun e => z e.2.2.1⟩, fun z => ?_⟩))))
  have t1 : 1 ≤ t := by
    rcases Nat.eq_zero_or_pos t with e | e
    · subst e
      have u1 : 1 ≤ u := by omega
      have := (C.kd u1 hu).1
      rw [← z, kd0] at this
      exact absurd this (by decide)
    · exact e
  have u1 : 1 ≤ u := by
    rcases Nat.eq_zero_or_pos u with e | e
    · subst e
      have := (C.kd t1 ht).1
      rw [z, kd0] at this
      exact absurd this (by decide)
    · exact e
  refine R_O C.1 C.2.1.2.1 (sc_sizeOf C ht (R_O C.1 C.2.1.2.1 (sc_sizeOf C hu ?_)))
  by_cases tr : isRw (mKd M t)
  · have ur : isRw (mKd M u) := by rw [← z]; exact tr
    have ft := C.row t1 ht tr
    have fu := C.row u1 hu ur
    rw [mSz_row t1 tr, mSz_row u1 ur]
    refine ⟨fun el => sp_isRow ⟨fun _ => ⟨fun k5 => ?_, fun k5 => ?_⟩, fun w => absurd tr (kRow_0.mp w)⟩, fun el => ⟨Or.inl rfl, q0 fun e => el (by rw [(e.2.2.2.2 tr).1])⟩⟩
    · have el := (nI_eq (by omega) (by omega)).mp el
      exact sc_num C t1 ht tr u1 hu ur (fun s => ⟨Or.inr rfl, q1 t1 u1 ⟨z, fun w => absurd tr w, fun _ => ⟨el, fun _ => s, fun w => absurd w k5⟩⟩⟩) (fun s => ⟨Or.inl rfl, q0 fun e => s ((e.2.2.2.2 tr).2.1 k5)⟩)
    · have el := (nI_eq (by omega) (by omega)).mp el
      have hu5 : mKd M u = 5 := by rw [← z]; exact k5
      refine R_O C.1 C.2.1.2.1 (R_O C.1 C.2.1.2.1 (sc_sizeOf C ht ⟨mLn M t + 1, ?_⟩))
      rw [mSz_row t1 tr]
      exact sc_rows_loop C t1 ht k5 u1 hu hu5 el (fun s => ⟨Or.inr rfl, q1 t1 u1 ⟨z, fun w => absurd tr w, fun _ => ⟨el, fun w => absurd k5 w, fun _ => s⟩⟩⟩) (fun s => ⟨Or.inl rfl, q0 fun e => s ((e.2.2.2.2 tr).2.2 k5)⟩) (mLn M t) 0 rfl fun k hk => absurd hk (Nat.not_lt_zero k)
  · have ur : ¬ isRw (mKd M u) := by rw [← z]; exact tr
    have e1 : mSz M t = mNm M t := by unfold mSz; rw [if_neg (by omega), if_pos (kRow_0.mpr tr)]
    have e2 : mSz M u = mNm M u := by unfold mSz; rw [if_neg (by omega), if_pos (kRow_0.mpr ur)]
    rw [e1, e2]
    exact ⟨fun el => sp_isRow ⟨fun w => absurd (kRow_0.mpr tr) w, fun _ => ⟨Or.inr rfl, q1 t1 u1 ⟨z, fun _ => el, fun w => absurd w tr⟩⟩⟩, fun el => ⟨Or.inl rfl, q0 fun e => el (e.2.2.2.1 tr)⟩⟩
def alA (M : mT) (t u : Nat) (r : Int32) : Prop := (t = u ∧ r = 1) ∨ (t ≠ u ∧ 1 ≤ t ∧ 1 ≤ u ∧ alP M t u ∧ r = 2) ∨ (t ≠ u ∧ ¬ (1 ≤ t ∧ 1 ≤ u ∧ alP M t u) ∧ r = 0)
theorem alA_u {t u : Nat} {r r' : Int32} (h : alA M t u r) (h' : alA M t u r') : r = r' := by
  rcases h with ⟨a, b⟩ | ⟨a, b, c, d, e⟩ | ⟨a, b, c⟩ <;> rcases h' with ⟨a', b'⟩ | ⟨a', b', c', d', e'⟩ | ⟨a', b', c'⟩
  · rw [b, b']
  · exact absurd a a'
  · exact absurd a a'
  · exact absurd a' a
  · rw [e, e']
  · exact absurd ⟨b, c, d⟩ b'
  · exact absurd a' a
  · exact absurd ⟨b', c', d'⟩ b
  · rw [c, c']
theorem cc_alike (C : CI X cnt P N M ρ gs n S D h) {v w : Int32} {Q : Int32 → aH → Prop} (q0 : ¬ (nS v 12 ∧ nS w 12) → Q (-1) h) (q1 : ∀ s s', s < 12 → s' < 12 → v = nI s → w = nI s' → ∀ r, alA M (mSl M s) (mSl M s') r → Q r h) : wX10_alike h X v w Q := by
  have m200 := C.1.m200
  refine cc_isSlot (fun nv => ⟨fun e => absurd e (by decide), fun _ => cc_isSlot (fun nw => ⟨fun _ => ?_, fun e => absurd e (by decide)⟩) (fun nw => ⟨fun e => absurd rfl e, fun _ => q0 fun e => nw e.2⟩)⟩) (fun nv => ⟨fun _ => q0 fun e => nv e.1, fun e => absurd rfl e⟩)
  obtain ⟨s, hs, rfl⟩ := nv
  obtain ⟨s', hs', rfl⟩ := nw
  have vm := C.1.vm hs
  have vm' := C.1.vm hs'
  have hq := q1 s s' hs hs' rfl rfl
  refine R_R C.R C.s0 rfl (sc_slot C.1 hs (R_R C.R C.s0 rfl (sc_slot C.1 hs' ⟨fun z => R_R C.R C.s0 rfl (R_R C.R C.1.2.1.1 rfl ?_), fun z => hq 1 (Or.inl ⟨(nI_eq (by omega) (by omega)).mp z, rfl⟩)⟩)))
  have ne : mSl M s ≠ mSl M s' := fun e => z (by rw [e])
  exact sc_match C.1 vm vm' ne (fun t1 u1 a => ⟨fun e => absurd e (by decide), fun _ => hq 2 (Or.inr (Or.inl ⟨ne, t1, u1, a, rfl⟩))⟩) (fun a => ⟨fun _ => hq 0 (Or.inr (Or.inr ⟨ne, a, rfl⟩)), fun e => absurd rfl e⟩)
end ALK
