section CA2
variable {X n : Nat} {M : mT} {S : sS} {D : sD} {h : aH}
/-- LAY -/
def mLay2 (M : mT) (s : Nat) (k : Int32) (f : Nat) : Int32 := if mAs M s k = 0 then mAs M f (kTab 4 k) else mAs M s k
def mLay3 (M : mT) (s : Nat) (k i : Int32) (f : Nat) : Int32 := if mLay2 M s k f = 0 then mItem M s k i else mLay2 M s k f
def mLayF (M : mT) (s : Nat) (k i : Int32) (f : Nat) : Int32 := if mLay3 M s k i f = 0 ∧ mKd M (mSl M s) = 7 ∧ mKd M (mSl M f) = 8 then 5 else mLay3 M s k i f
def mLay (M : mT) (s : Nat) (k i : Int32) (f : Nat) : Int32 × mT := (mLayF M s k i f, if mLayF M s k i f = 0 then mWrite M (mSl M s) i (lN (mSl M f)) else M)
theorem kLay5 : ∀ a, a < 10 → ∀ b, b < 10 → (¬ kIs (nI a) (nI 5) = 0 ∧ ¬ kIs (nI b) (kTab 4 (nI 5)) = 0 ∧ ¬ (a = 7 ∧ b = 8)) → ¬ kIs (nI b) (kTab 4 (nI a)) = 0 := by decide +kernel
theorem kLay6 : ∀ a, a < 10 → ∀ b, b < 10 → (¬ kIs (nI a) (nI 6) = 0 ∧ ¬ kIs (nI b) (kTab 4 (nI 6)) = 0 ∧ ¬ (a = 7 ∧ b = 8)) → ¬ kIs (nI b) (kTab 4 (nI a)) = 0 := by decide +kernel
theorem kLay7 : ∀ a, a < 10 → ∀ b, b < 10 → (¬ kIs (nI a) (nI 7) = 0 ∧ ¬ kIs (nI b) (kTab 4 (nI 7)) = 0 ∧ ¬ (a = 7 ∧ b = 8)) → ¬ kIs (nI b) (kTab 4 (nI a)) = 0 := by decide +kernel
theorem kLay0 (k : Nat) (a : Nat) (ha : a < 10) (b : Nat) (hb : b < 10) (h : (5 ≤ k ∧ k ≤ 7) ∧ ¬ kIs (nI a) (nI k) = 0 ∧ ¬ kIs (nI b) (kTab 4 (nI k)) = 0 ∧ ¬ (a = 7 ∧ b = 8)) : ¬ kIs (nI b) (kTab 4 (nI a)) = 0 := by
  obtain ⟨hk, h⟩ := h
  rcases (show k = 5 ∨ k = 6 ∨ k = 7 by omega) with rfl | rfl | rfl
  · exact kLay5 a ha b hb h
  · exact kLay6 a ha b hb h
  · exact kLay7 a ha b hb h
theorem mLay_ok {M : mT} {s f k : Nat} {i : Int32} (hk5 : 5 ≤ k) (hk7 : k ≤ 7) {a b : Nat} (ha : a < 10) (hb : b < 10) (ea : mKd M (mSl M s) = nI a) (eb : mKd M (mSl M f) = nI b) (hz : mLayF M s (nI k) i f = 0) : mOk M (mKd M (mSl M s)) (mSl M f) := by
  unfold mLayF at hz
  by_cases c5 : mLay3 M s (nI k) i f = 0 ∧ mKd M (mSl M s) = 7 ∧ mKd M (mSl M f) = 8
  · rw [if_pos c5] at hz; exact absurd hz (by decide)
  rw [if_neg c5] at hz
  have h3 := hz
  unfold mLay3 at hz
  by_cases c2 : mLay2 M s (nI k) f = 0
  · rw [if_pos c2] at hz
    obtain ⟨z1, z2, z3⟩ := mItem_0 hz
    unfold mLay2 at c2
    by_cases c1 : mAs M s (nI k) = 0
    · rw [if_pos c1] at c2
      unfold mAs at c2
      by_cases e0 : mSl M f = 0
      · exact Or.inl e0
      · rw [if_neg e0] at c2
        by_cases e1 : kIs (mKd M (mSl M f)) (kTab 4 (nI k)) = 0
        · rw [if_pos e1] at c2; exact absurd c2 (by decide)
        · right
          rw [ea, eb] at c5
          rw [ea] at z2
          rw [eb] at e1
          rw [ea, eb]
          exact kLay0 k a ha b hb ⟨⟨hk5, hk7⟩, z2, e1, fun q => c5 ⟨h3, by rw [q.1]; rfl, by rw [q.2]; rfl⟩⟩
    · rw [if_neg c1] at c2; exact absurd c2 c1
  · rw [if_neg c2] at hz; exact absurd hz c2
theorem sc_lay (C : CM X M n S D h) {s f k : Nat} (hs : s < 12) (hf : f < 12) (hk5 : 5 ≤ k) (hk7 : k ≤ 7) {i : Int32} {Q : Int32 → aH → Prop} (hq : ∀ h' D', CM X (mLay M s (nI k) i f).2 n S D' h' → cOut X D D' → Q (mLay M s (nI k) i f).1 h') : wX5_lay h (X + 1) (nI s) (nI k) i (nI f) Q := by
  obtain ⟨R, L, -⟩ := id C
  have h2 := C.m200
  have hvf := C.vm hf
  obtain ⟨a, ha, ea⟩ := C.kdn (C.vm hs)
  obtain ⟨b, hb, eb⟩ := C.kdn (C.vm hf)
  unfold mLay at hq
  have k68 : ∀ c, c = mLayF M s (nI k) i f → wbX5_lay_68 (X + 1) (nI s) i (nI f) c h Q := by
    intro c hc
    subst hc
    refine ⟨fun z => ?_, fun z => ?_⟩
    · rw [if_neg z] at hq; exact hq h D C cOut.rf
    · rw [if_pos z] at hq
      refine R_R R L.1 rfl (sc_slot C hs (sc_slot C hf (R_O R L.2.1 ?_)))
      rw [nI_l (by omega)]
      exact sc_write C (C.vm hs) (fun _ => ⟨mSl M f, hvf, rfl, mLay_ok hk5 hk7 ha hb ea eb z⟩) hq
  have k39 : ∀ c, c = mLay3 M s (nI k) i f → wbX5_lay_39 (X + 1) (nI s) i (nI f) c h Q := by
    intro c hc
    subst hc
    refine ⟨fun z => k68 _ ?_, fun z => R_O R L.1 (sc_kindIn C hs ⟨fun y => k68 _ ?_, fun y => R_O R L.1 (sc_kindIn C hf ⟨fun x => k68 _ ?_, fun x => k68 _ ?_⟩)⟩)⟩
    · unfold mLayF; rw [if_neg (fun q => z q.1)]
    · unfold mLayF; rw [if_neg (fun q => y q.2.1)]
    · unfold mLayF; rw [if_neg (fun q => x q.2.2)]
    · unfold mLayF; rw [if_pos ⟨z, y, x⟩]
  have k25 : ∀ c, c = mLay2 M s (nI k) f → wbX5_lay_25 (X + 1) (nI s) (nI k) i (nI f) c h Q := by
    intro c hc
    subst hc
    refine ⟨fun z => k39 _ ?_, fun z => R_O R L.1 (sc_unlessItem C hs (k39 _ ?_))⟩
    · unfold mLay3; rw [if_neg z]
    · unfold mLay3; rw [if_pos z]
  refine R_O R L.1 (sc_unlessAs C hs ⟨fun z => k25 _ ?_, fun z => sp_ofItems (R_O R L.1 (sc_unlessAs C hf (k25 _ ?_)))⟩)
  · unfold mLay2; rw [if_neg z]
  · unfold mLay2; rw [if_pos z]
/-- room for more -/
def mFit (M : mT) (a b : Int64) : Prop := ¬ (200 : Int64) < lN (mMade M) + a ∧ ¬ (3000 : Int64) < lN (mUsed M) + b
theorem sc_haveRoom (C : CM X M n S D h) {a b : Int64} {Q : Int32 → aH → Prop} (h1 : mFit M a b → Q 1 h) (h0 : ¬ mFit M a b → Q 0 h) : wX8_haveRoom h (X + 2) a b Q := by
  obtain ⟨R, L, -⟩ := id C
  have h2 := C.m200
  have h3 := C.u3000
  unfold wX8_haveRoom wbX8_haveRoom_32 wbX8_haveRoom_33
  refine R_I R L.2.1 rfl ?_
  rw [C.rMade, nI_l (by omega)]
  refine ⟨fun z => ⟨Or.inl rfl, h0 fun q => q.1 (lg_pos.mp z)⟩, fun z => R_I R L.2.1 rfl ?_⟩
  rw [C.rUsed, nI_l (by omega)]
  exact ⟨fun y => ⟨Or.inl rfl, h0 fun q => q.2 (lg_pos.mp y)⟩, fun y => ⟨Or.inr rfl, h1 ⟨fun q => z (lg_pos.mpr q), fun q => y (lg_pos.mpr q)⟩⟩⟩
theorem mFit_1 {M : mT} (h1 : mMade M ≤ 200) (h2 : mUsed M ≤ 3000) {len : Nat} (hl : len < 2 ^ 31) : mFit M 1 (lN len) ↔ mMade M + 1 ≤ 200 ∧ mUsed M + len ≤ 3000 := by
  unfold mFit
  rw [lN_1, lN_add, show (200 : Int64) = lN 200 from rfl, show (3000 : Int64) = lN 3000 from rfl, pk_lLT (by omega) (by omega), pk_lLT (by omega) (by omega)]
  omega
/-- Things.addRow, addFigure -/
theorem sc_addRow (C : CM X M n S D h) {k : Int32} (hk : isRw k) {len : Nat} (f1 : mMade M + 1 ≤ 200) (f2 : mUsed M + len ≤ 3000) {Q : Int32 → aH → Prop} (hq : ∀ h' D', CM X (mAddRow M k len) n S D' h' → cOut X D D' → Q (nI (mMade M + 1)) h') : wX8_addRow h (X + 2) k (nI len) Q := by
  obtain ⟨R, L, r, I⟩ := id C
  have h2 := C.m200
  have h3 := C.u3000
  refine ⟨fun z => absurd z (nI_pos (by omega)), fun _ => R_O R L.2.1 ?_⟩
  rw [nI_l (by omega)]
  refine sc_haveRoom C (fun _ => ⟨fun _ => ?_, fun z => absurd z (by decide)⟩) (fun z => absurd ((mFit_1 h2 h3 (by omega)).mpr ⟨f1, f2⟩) z)
  refine R_I R L.2.1 rfl (R_wF R L.2.1 rfl fun g1 R1 => ?_)
  rw [C.rMade, nI_1] at R1
  generalize hD1 : uO D (X + 2) 4 (nI (mMade M + 1)) = D1 at R1
  have a4 : D1.1 (X + 2) 4 = nI (mMade M + 1) := by rw [← hD1]; simp [uO, va_up, upd]
  have a5 : D1.1 (X + 2) 5 = nI (mUsed M) := by rw [← hD1]; simp [uO, va_up, upd]; exact C.rUsed
  refine R_R R1 L.2.1 rfl (R_I R1 L.2.1 rfl ?_)
  rw [a4]
  refine R_sI R1 L.2.2.1 (vp_in_nI (by omega) (by omega)) fun g2 R2 => ?_
  rw [nI_clamp (by omega)] at R2
  generalize hD2 : uF D1 (X + 3) (upd (D1.2.1 (X + 3)) (mMade M + 1) k) = D2 at R2
  have b4 : D2.1 (X + 2) 4 = nI (mMade M + 1) := by rw [← hD2]; exact a4
  have b5 : D2.1 (X + 2) 5 = nI (mUsed M) := by rw [← hD2]; exact a5
  refine R_R R2 L.2.1 rfl (R_I R2 L.2.1 rfl (R_I R2 L.2.1 rfl ?_))
  rw [b4, b5]
  refine R_sI R2 L.2.2.2.1 (vp_in_nI (by omega) (by omega)) fun g3 R3 => ?_
  rw [nI_clamp (by omega)] at R3
  generalize hD3 : uF D2 (X + 4) (upd (D2.2.1 (X + 4)) (mMade M + 1) (nI (mUsed M))) = D3 at R3
  have c4 : D3.1 (X + 2) 4 = nI (mMade M + 1) := by rw [← hD3]; exact b4
  have c5 : D3.1 (X + 2) 5 = nI (mUsed M) := by rw [← hD3]; exact b5
  refine R_R R3 L.2.1 rfl (R_I R3 L.2.1 rfl ?_)
  rw [c4]
  refine R_sI R3 L.2.2.2.2.1 (vp_in_nI (by omega) (by omega)) fun g4 R4 => ?_
  rw [nI_clamp (by omega)] at R4
  generalize hD4 : uF D3 (X + 5) (upd (D3.2.1 (X + 5)) (mMade M + 1) (nI len)) = D4 at R4
  have d4 : D4.1 (X + 2) 4 = nI (mMade M + 1) := by rw [← hD4]; exact c4
  have d5 : D4.1 (X + 2) 5 = nI (mUsed M) := by rw [← hD4]; exact c5
  refine R_R R4 L.2.1 rfl (R_I R4 L.2.1 rfl (R_I R4 L.2.1 rfl ?_))
  rw [d5, nI_add]
  refine sj_fillR (by omega) L.2.2.2.2.2.1 (by omega) (by omega) R4 fun g5 R5 => ?_
  generalize hD5 : uB D4 (X + 6) (fun j => if mUsed M ≤ j ∧ j < mUsed M + len then 0 else D4.2.2.1 (X + 6) j) = D5 at R5
  have e4 : D5.1 (X + 2) 4 = nI (mMade M + 1) := by rw [← hD5]; exact d4
  have e5 : D5.1 (X + 2) 5 = nI (mUsed M) := by rw [← hD5]; exact d5
  refine R_I R5 L.2.1 rfl (R_wF R5 L.2.1 rfl fun g6 R6 => ?_)
  rw [e5, nI_add] at R6
  refine R_I R6 L.2.1 rfl ?_
  have e6 : (uO D5 (X + 2) 5 (nI (mUsed M + len))).1 (X + 2) 4 = nI (mMade M + 1) := by simp [uO, va_up, upd]; exact e4
  rw [e6]
  refine hq g6 _ ⟨R6, L, ?_, I.addRow hk f1 f2⟩ ?_
  · obtain ⟨r1, r2, r3, r4, r5, r6, r7, r8, r9⟩ := r
    subst hD5 hD4 hD3 hD2 hD1
    refine ⟨e6, by simp [uO, va_up, upd]; rfl, fun t ht => ?_, fun t ht hr => ?_, fun t ht hr h0 => ?_, fun j hj => ?_, fun s hs => ?_, fun q hq => ?_, fun c hc => ?_⟩
    · have ht : t ≤ mMade M + 1 := ht
      show _ = upd (mKd M) (mMade M + 1) k t
      simp [uO, uF, uB, va_up, upd]
      split
      · rfl
      · exact r3 t (by omega)
    · have ht : t ≤ mMade M + 1 := ht
      have hr : isRw (upd (mKd M) (mMade M + 1) k t) := hr
      show _ = nI (va_up (mBg M) (mMade M + 1) (mUsed M) t) ∧ _ = nI (va_up (mLn M) (mMade M + 1) len t)
      simp [uO, uF, uB, va_up, upd]
      by_cases e : t = mMade M + 1
      · simp [e]
      · simp [e]
        simp [upd, e] at hr
        exact r4 t (by omega) hr
    · have ht : t ≤ mMade M + 1 := ht
      have hr : ¬ isRw (upd (mKd M) (mMade M + 1) k t) := hr
      show _ = mNm M t
      by_cases e : t = mMade M + 1
      · simp [upd, e] at hr; exact absurd hk hr
      · simp [uO, uF, uB, va_up, upd, e]
        simp [upd, e] at hr
        exact r5 t (by omega) hr h0
    · show _ = (if mUsed M ≤ j ∧ j < mUsed M + len then 0 else mIt M j)
      simp [uO, uF, uB, va_up, upd]
      split
      · rfl
      · exact r6 j hj
    · simp [uO, uF, uB, va_up, upd]; exact r7 s hs
    · simp [uO, uF, uB, va_up, upd]; exact r8 q hq
    · simp [uO, uF, uB, va_up, upd]; exact r9 c hc
  · subst hD5 hD4 hD3 hD2 hD1
    exact (((((cOut.O (by omega)).tr (cOut.F (by omega))).tr (cOut.F (by omega))).tr (cOut.F (by omega))).tr (cOut.B (by omega))).tr (cOut.O (by omega))
end CA2
