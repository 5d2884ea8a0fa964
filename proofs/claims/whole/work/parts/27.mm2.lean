section MM2
variable {Y n : Nat} {M : mT} {S : sS} {D : sD} {h : aH}
theorem uO_at {D : sD} {a k j : Nat} {v : Int32} : (uO D a k v).1 a j = if j = k then v else D.1 a j := by simp [uO, va_up, upd]
theorem sm_fresh_loop {u len m : Nat} (hu : u + len ≤ 3000) (L : LayM Y S) {Q : Int32 → aH → Prop} : ∀ (j i : Nat) (D : sD) (h : aH), j + i = len → HR n S D h → D.1 Y 0 = nI m → D.1 Y 1 = nI u → (∀ h', HR n S (uO (uB D (Y + 5) (fun k => if u + i ≤ k ∧ k < u + len then 0 else D.2.2.1 (Y + 5) k)) Y 1 (nI (u + len))) h' → Q (nI m) h') → wbX11_fresh_55 (j + 1) Y (nI len) (nI i) h Q
  | 0, i, D, h, hi, R, e0, e1, hq => by
    have e : i = len := by omega
    subst e
    refine ⟨fun _ => R_I R L.1 rfl (R_wF R L.1 rfl fun h' R' => R_I R' L.1 rfl ?_), fun z => absurd (nI_le (Nat.le_refl i) (by omega)) z⟩
    rw [e1, nI_add] at R' ⊢
    have eq : (uO D Y 1 (nI (u + i))).1 Y 0 = nI m := by rw [uO_at]; exact e0
    rw [eq]
    refine hq h' ?_
    have ef : (fun k => if u + i ≤ k ∧ k < u + i then 0 else D.2.2.1 (Y + 5) k) = D.2.2.1 (Y + 5) := by funext k; rw [if_neg (by omega)]
    rw [ef, uB_self]; exact R'
  | j + 1, i, D, h, hi, R, e0, e1, hq => by
    refine ⟨fun z => absurd ((nI_leI (by omega) (by omega)).mp z) (by omega), fun _ => R_R R L.1 rfl (R_I R L.1 rfl ?_)⟩
    rw [e1, nI_add]
    refine R_sL R L.s5 (vp_in_nI (by omega) (by omega)) fun h' R' => ?_
    rw [nI_clamp (by omega)] at R'
    show wbX11_fresh_55 (j + 1) Y (nI len) (nI i + 1) h' Q
    rw [nI_1]
    refine sm_fresh_loop hu L j (i + 1) _ h' (by omega) R' e0 e1 fun h2 R2 => hq h2 ?_
    rw [uB_at, uB_uB] at R2
    have ef : (fun k => if u + (i + 1) ≤ k ∧ k < u + len then 0 else vp_updL (D.2.2.1 (Y + 5)) (u + i) 0 k) = (fun k => if u + i ≤ k ∧ k < u + len then 0 else D.2.2.1 (Y + 5) k) := by
      funext k
      by_cases hk : k = u + i
      · subst hk; simp [vp_updL]; omega
      · simp only [vp_updL, if_neg hk]
        by_cases h1 : u + (i + 1) ≤ k ∧ k < u + len
        · rw [if_pos h1, if_pos (by omega)]
        · rw [if_neg h1, if_neg (by omega)]
    rw [ef] at R2
    exact R2
/-- what fresh leaves -/
def mFr (Y : Nat) (D : sD) (m u len : Nat) (k : Int32) : sD := uO (uB (uF (uF (uF (uF (uO D Y 0 (nI (m + 1))) (Y + 1) (upd (D.2.1 (Y + 1)) (m + 1) k)) (Y + 2) (upd (D.2.1 (Y + 2)) (m + 1) (nI u))) (Y + 3) (upd (D.2.1 (Y + 3)) (m + 1) (nI len))) (Y + 4) (upd (D.2.1 (Y + 4)) (m + 1) 0)) (Y + 5) (fun j => if u ≤ j ∧ j < u + len then 0 else D.2.2.1 (Y + 5) j)) Y 1 (nI (u + len))
theorem mFr_out {D : sD} {m u len : Nat} {k : Int32} : mOut Y D (mFr Y D m u len k) := by
  unfold mFr
  exact ((((((mOut.O (by omega)).tr (mOut.F (by omega))).tr (mOut.F (by omega))).tr (mOut.F (by omega))).tr (mOut.F (by omega))).tr (mOut.B (by omega))).tr (mOut.O (by omega))
theorem sm_fresh (C : MM Y M n S D h) {k : Int32} {len : Nat} (f1 : mMade M + 1 ≤ 200) (f2 : mUsed M + len ≤ 3000) {Q : Int32 → aH → Prop} (hq : ∀ h', HR n S (mFr Y D (mMade M) (mUsed M) len k) h' → Q (nI (mMade M + 1)) h') : wX11_fresh h Y k (nI len) Q := by
  obtain ⟨R, L, r, I⟩ := id C
  refine R_I R L.1 rfl (R_wF R L.1 rfl fun g1 R1 => ?_)
  rw [C.rMade, nI_1] at R1
  generalize hD1 : uO D Y 0 (nI (mMade M + 1)) = D1 at R1
  have a4 : D1.1 Y 0 = nI (mMade M + 1) := by rw [← hD1, uO_at]; rfl
  have a5 : D1.1 Y 1 = nI (mUsed M) := by rw [← hD1, uO_at]; exact C.rUsed
  refine R_R R1 L.1 rfl (R_I R1 L.1 rfl ?_)
  rw [a4]
  refine R_sI R1 L.s1 (vp_in_nI (by omega) (by omega)) fun g2 R2 => ?_
  rw [nI_clamp (by omega)] at R2
  generalize hD2 : uF D1 (Y + 1) (upd (D1.2.1 (Y + 1)) (mMade M + 1) k) = D2 at R2
  have b4 : D2.1 Y 0 = nI (mMade M + 1) := by rw [← hD2]; exact a4
  have b5 : D2.1 Y 1 = nI (mUsed M) := by rw [← hD2]; exact a5
  refine R_R R2 L.1 rfl (R_I R2 L.1 rfl (R_I R2 L.1 rfl ?_))
  rw [b4, b5]
  refine R_sI R2 L.s2 (vp_in_nI (by omega) (by omega)) fun g3 R3 => ?_
  rw [nI_clamp (by omega)] at R3
  generalize hD3 : uF D2 (Y + 2) (upd (D2.2.1 (Y + 2)) (mMade M + 1) (nI (mUsed M))) = D3 at R3
  have c4 : D3.1 Y 0 = nI (mMade M + 1) := by rw [← hD3]; exact b4
  have c5 : D3.1 Y 1 = nI (mUsed M) := by rw [← hD3]; exact b5
  refine R_R R3 L.1 rfl (R_I R3 L.1 rfl ?_)
  rw [c4]
  refine R_sI R3 L.s3 (vp_in_nI (by omega) (by omega)) fun g4 R4 => ?_
  rw [nI_clamp (by omega)] at R4
  generalize hD4 : uF D3 (Y + 3) (upd (D3.2.1 (Y + 3)) (mMade M + 1) (nI len)) = D4 at R4
  have d4 : D4.1 Y 0 = nI (mMade M + 1) := by rw [← hD4]; exact c4
  have d5 : D4.1 Y 1 = nI (mUsed M) := by rw [← hD4]; exact c5
  refine R_R R4 L.1 rfl (R_I R4 L.1 rfl ?_)
  rw [d4]
  refine R_sI R4 L.s4 (vp_in_nI (by omega) (by omega)) fun g5 R5 => ⟨len + 1, ?_⟩
  rw [nI_clamp (by omega)] at R5
  refine sm_fresh_loop f2 L len 0 _ g5 (by omega) R5 d4 d5 fun h' R' => hq h' ?_
  subst hD4 hD3 hD2 hD1
  unfold mFr
  have e1 : ∀ (D : sD) (b : Nat) (v : Int32), (uO D Y b v).2 = D.2 := fun _ _ _ => rfl
  have e2 : ∀ (D : sD) (a b : Nat) (f : Nat → Int32), b ≠ a → (uF D a f).2.1 b = D.2.1 b := fun D a b f hb => by simp [uF, va_up, hb]
  have e3 : ∀ (D : sD) (a : Nat) (f : Nat → Int32), (uF D a f).2.2 = D.2.2 := fun _ _ _ => rfl
  simp only [Nat.add_zero, e1, e3] at R'
  rw [e2 _ _ _ _ (show Y + 4 ≠ Y + 3 by omega), e2 _ _ _ _ (show Y + 4 ≠ Y + 2 by omega), e2 _ _ _ _ (show Y + 4 ≠ Y + 1 by omega), e2 _ _ _ _ (show Y + 3 ≠ Y + 2 by omega), e2 _ _ _ _ (show Y + 3 ≠ Y + 1 by omega), e2 _ _ _ _ (show Y + 2 ≠ Y + 1 by omega)] at R'
  exact R'
theorem sm_freshR (C : MM Y M n S D h) {k : Int32} (hk : isRw k) {len : Nat} (f1 : mMade M + 1 ≤ 200) (f2 : mUsed M + len ≤ 3000) {Q : Int32 → aH → Prop} (hq : ∀ h' D', MM Y (mAddRow M k len) n S D' h' → mOut Y D D' → Q (nI (mMade M + 1)) h') : wX11_fresh h Y k (nI len) Q := by
  obtain ⟨R, L, r, I⟩ := id C
  refine sm_fresh C f1 f2 fun h' R' => hq h' _ ⟨R', L, ?_, I.addRow hk f1 f2⟩ mFr_out
  obtain ⟨r1, r2, r3, r4, r5, r6, r7, r8, r9⟩ := r
  unfold mFr
  refine ⟨by simp [uO, uF, uB, va_up, upd]; rfl, by simp [uO, uF, uB, va_up, upd]; rfl, fun t ht => ?_, fun t ht hr => ?_, fun t ht hr h0 => ?_, fun j hj => ?_, fun s hs => ?_, fun q hq => ?_, fun c hc => ?_⟩
  · have ht : t ≤ mMade M + 1 := ht
    show _ = upd (mKd M) (mMade M + 1) k t
    simp [uO, uF, uB, va_up, upd]
    split
    · rfl
    · exact r3 t (by omega)
  · have ht : t ≤ mMade M + 1 := ht
    have hr : isRw (upd (mKd M) (mMade M + 1) k t) := hr
    show _ = nI (va_up (mBg M) (mMade M + 1) (mUsed M) t) ∧ _ = nI (va_up (mLn M) (mMade M + 1) len t) ∧ _ = 0
    simp [uO, uF, uB, va_up, upd]
    by_cases e : t = mMade M + 1
    · simp [e]
    · simp [e]
      simp [upd, e] at hr
      exact r4 t (by omega) hr
  · have ht : t ≤ mMade M + 1 := ht
    have hr : ¬ isRw (upd (mKd M) (mMade M + 1) k t) := hr
    show _ = 0 ∧ _ = mNm M t
    by_cases e : t = mMade M + 1
    · simp [upd, e] at hr; exact absurd hk hr
    · simp [uO, uF, uB, va_up, upd, e]
      simp [upd, e] at hr
      exact r5 t (by omega) hr h0
  · show _ = (if mUsed M ≤ j ∧ j < mUsed M + len then 0 else mIt M j)
    simp [uO, uF, uB, va_up, upd]
    split
    · rfl
    · exact r6 j hj
  · simp [uO, uF, uB, va_up, upd]; exact r7 s hs
  · simp [uO, uF, uB, va_up, upd]; exact r8 q hq
  · show (uO _ Y 1 _).1 Y (17 + c) = _
    rw [uO_at, if_neg (by omega)]
    show (uO _ Y 0 _).1 Y (17 + c) = _
    rw [uO_at, if_neg (by omega)]
    exact r9 c hc
theorem sm_freshF (C : MM Y M n S D h) {k : Int32} (hk : k = 8 ∨ k = 9) (f1 : mMade M + 1 ≤ 200) {Q : Int32 → aH → Prop} (hq : ∀ h' D', MM Y (mAddFig M k 0) n S D' h' → mOut Y D D' → Q (nI (mMade M + 1)) h') : wX11_fresh h Y k 0 Q := by
  obtain ⟨R, L, r, I⟩ := id C
  have h3 := C.u3000
  have kI : k.toInt = 8 ∨ k.toInt = 9 := by rcases hk with rfl | rfl; exact Or.inl rfl; exact Or.inr rfl
  have nR : ¬ isRw k := by rw [isRw_iff]; omega
  refine sm_fresh (len := 0) C f1 (by omega) fun h' R' => hq h' _ ⟨R', L, ?_, I.addFig hk f1⟩ mFr_out
  obtain ⟨r1, r2, r3, r4, r5, r6, r7, r8, r9⟩ := r
  unfold mFr
  refine ⟨by simp [uO, uF, uB, va_up, upd]; rfl, by simp [uO, uF, uB, va_up, upd]; rfl, fun t ht => ?_, fun t ht hr => ?_, fun t ht hr h0 => ?_, fun j hj => ?_, fun s hs => ?_, fun q hq => ?_, fun c hc => ?_⟩
  · have ht : t ≤ mMade M + 1 := ht
    show _ = upd (mKd M) (mMade M + 1) k t
    simp [uO, uF, uB, va_up, upd]
    split
    · rfl
    · exact r3 t (by omega)
  · have ht : t ≤ mMade M + 1 := ht
    have hr : isRw (upd (mKd M) (mMade M + 1) k t) := hr
    show _ = nI (va_up (mBg M) (mMade M + 1) (mUsed M) t) ∧ _ = nI (va_up (mLn M) (mMade M + 1) 0 t) ∧ _ = 0
    by_cases e : t = mMade M + 1
    · simp [upd, e] at hr; exact absurd hr nR
    · simp [uO, uF, uB, va_up, upd, e]
      simp [upd, e] at hr
      exact r4 t (by omega) hr
  · have ht : t ≤ mMade M + 1 := ht
    have hr : ¬ isRw (upd (mKd M) (mMade M + 1) k t) := hr
    show _ = 0 ∧ _ = upd (mNm M) (mMade M + 1) 0 t
    by_cases e : t = mMade M + 1
    · simp [uO, uF, uB, va_up, upd, e]; rfl
    · simp [uO, uF, uB, va_up, upd, e]
      simp [upd, e] at hr
      exact r5 t (by omega) hr h0
  · show _ = mIt M j
    simp [uO, uF, uB, va_up, upd]
    rw [if_neg (by omega)]
    exact r6 j hj
  · simp [uO, uF, uB, va_up, upd]; exact r7 s hs
  · simp [uO, uF, uB, va_up, upd]; exact r8 q hq
  · show (uO _ Y 1 _).1 Y (17 + c) = _
    rw [uO_at, if_neg (by omega)]
    show (uO _ Y 0 _).1 Y (17 + c) = _
    rw [uO_at, if_neg (by omega)]
    exact r9 c hc
theorem sm_make (C : MM Y M n S D h) {s : Nat} (hs : s < 12) {k c : Int32} (hk : isRw k) {Q : Int32 → aH → Prop} (hq : ∀ h' D', MM Y (mMake M s k c).2 n S D' h' → mOut Y D D' → Q (mMake M s k c).1 h') : wX11_make h Y (nI s) k c Q := by
  obtain ⟨R, L, r, I⟩ := id C
  have h2 := C.m200
  have h3 := C.u3000
  unfold mMake at hq
  refine ⟨fun z => ?_, fun z => ?_⟩
  · rw [if_pos z] at hq
    obtain ⟨len, hl, rfl⟩ := nI_of (Int32.not_lt.mpr z)
    rw [nI_clamp hl] at hq
    refine R_O R L.1 ?_
    rw [nI_l hl]
    refine sm_fits C (fun f => ⟨fun _ => ?_, fun z => absurd z (by decide)⟩) (fun f => ⟨fun z => absurd rfl z, fun _ => ?_⟩)
    · have f' := (mFit_1 h2 h3 hl).mp f
      rw [if_pos f'] at hq
      refine R_R R L.1 rfl (R_O R L.1 (sm_freshR C hk f'.1 f'.2 fun h' D' C' O' => sm_sSl C' hs (Nat.le_refl _) fun h'' D'' C'' O'' => ?_))
      exact hq h'' D'' C'' (O'.tr O'')
    · rw [if_neg (fun t => f ((mFit_1 h2 h3 hl).mpr t))] at hq
      exact hq h D C mOut.rf
  · rw [if_neg z] at hq; exact hq h D C mOut.rf
def mSetNm (M : mT) (t : Nat) (v : Int32) : mT := (M.1, mKd M, mBg M, mLn M, upd (mNm M) t v, mIt M, mSl M, mRg M, mCn M)
theorem sm_sNm (C : MM Y M n S D h) {t : Nat} (ht : t ≤ mMade M) (hr : ¬ isRw (mKd M t)) {v : Int32} {K : aH → Prop} (hK : ∀ h' D', MM Y (mSetNm M t v) n S D' h' → mOut Y D D' → K h') : sI h (Y + 4) (nI t) v K := by
  have h2 := C.m200
  obtain ⟨R, L, r, I⟩ := id C
  refine R_sI R L.s4 (vp_in_nI (by omega) (by omega)) fun h' R' => ?_
  rw [nI_clamp (by omega)] at R'
  refine hK h' _ ⟨R', L, ?_, I⟩ (mOut.F (by omega))
  obtain ⟨r1, r2, r3, r4, r5, r6, r7, r8, r9⟩ := r
  have e : ∀ a, a ≠ Y + 4 → (uF D (Y + 4) (upd (D.2.1 (Y + 4)) t v)).2.1 a = D.2.1 a := fun a ha => by simp [uF, va_up, ha]
  refine ⟨r1, r2, fun t ht => ?_, fun q hq hrq => ?_, fun q hq hrq h0 => ?_, r6, fun q hq => ?_, r8, r9⟩
  · rw [e _ (by omega)]; exact r3 t ht
  · rw [e _ (by omega), e _ (by omega), uF_at]
    have hne : q ≠ t := fun e => by subst e; exact hr hrq
    simp only [upd, if_neg hne]
    exact r4 q hq hrq
  · rw [e _ (by omega), uF_at]
    show _ ∧ _ = upd (mNm M) t v q
    simp only [upd]
    split
    · exact ⟨(r5 q hq hrq h0).1, rfl⟩
    · exact r5 q hq hrq h0
  · rw [e _ (by omega)]; exact r7 q hq
theorem sm_figure (C : MM Y M n S D h) {s : Nat} (hs : s < 12) {k v : Int32} (hk : k = 8 ∨ k = 9) {Q : Int32 → aH → Prop} (hq : ∀ h' D', MM Y (mFigure M s k v).2 n S D' h' → mOut Y D D' → Q (mFigure M s k v).1 h') : wX11_figure h Y (nI s) k v Q := by
  obtain ⟨R, L, r, I⟩ := id C
  have h2 := C.m200
  have h3 := C.u3000
  have kI : k.toInt = 8 ∨ k.toInt = 9 := by rcases hk with rfl | rfl; exact Or.inl rfl; exact Or.inr rfl
  have nR : ¬ isRw k := by rw [isRw_iff]; omega
  unfold mFigure at hq
  refine R_O R L.1 (sm_fits C (fun f => ⟨fun _ => ?_, fun z => absurd z (by decide)⟩) (fun f => ⟨fun z => absurd rfl z, fun _ => ?_⟩))
  · have f' := ((mFit_1 h2 h3 (len := 0) (by omega)).mp f).1
    rw [if_pos f'] at hq
    refine R_R R L.1 rfl (R_O R L.1 (sm_freshF C hk f' fun h' D' C' O' => sm_sSl C' hs (Nat.le_refl _) fun h'' D'' C'' O'' => ?_))
    obtain ⟨R2, L2, -⟩ := id C''
    have esl : mSl (mSetSl (mAddFig M k 0) s (mMade (mAddFig M k 0))) s = mMade M + 1 := by show va_up (mSl M) s _ s = _; simp [va_up]; rfl
    have ekd : mKd (mSetSl (mAddFig M k 0) s (mMade (mAddFig M k 0))) (mMade M + 1) = k := by show upd (mKd M) _ k _ = _; simp [upd]
    refine R_R R2 L2.1 rfl (R_R R2 L2.1 rfl (sm_aSl C'' hs ?_))
    rw [esl]
    refine sm_sNm (t := mMade M + 1) C'' (Nat.le_refl _) (by rw [ekd]; exact nR) fun h3 D3 C3 O3 => ?_
    have em : mSetNm (mSetSl (mAddFig M k 0) s (mMade (mAddFig M k 0))) (mMade M + 1) v = mSetSl (mAddFig M k v) s (mMade M + 1) := by
      unfold mSetNm mSetSl mAddFig
      have : upd (upd (mNm M) (mMade M + 1) 0) (mMade M + 1) v = upd (mNm M) (mMade M + 1) v := by funext j; simp only [upd]; split <;> rfl
      show (_, _, _, _, upd (upd (mNm M) (mMade M + 1) 0) (mMade M + 1) v, _, _, _, _) = _
      rw [this]
    rw [em] at C3
    exact hq h3 D3 C3 ((O'.tr O'').tr O3)
  · rw [if_neg (fun q => f ((mFit_1 h2 h3 (len := 0) (by omega)).mpr ⟨q, by omega⟩))] at hq
    exact hq h D C mOut.rf
/-- a write into a row, as mWrite says -/
theorem mHas_of {M : mT} {t j : Nat} (hr : isRw (mKd M t)) (hl : mLn M t < 2 ^ 31) (hj : j < mLn M t) : ¬ mHas M t (nI j) = 0 := by
  unfold mHas
  rw [if_neg (fun z => (kRow_0.mp z) hr), if_neg (nI_pos (by omega)), if_neg (nI_ge hj hl)]
  decide
theorem sm_sWr (C : MM Y M n S D h) {t j : Nat} (h1 : 1 ≤ t) (ht : t ≤ mMade M) (hr : isRw (mKd M t)) (hj : j < mLn M t) {v x : Int64} (hx : mAs64 (mKd M t) v = x) (hv : 5 ≤ mKd M t → ∃ u : Nat, u ≤ mMade M ∧ v = lN u ∧ mOk M (mKd M t) u) {K : aH → Prop} (hK : ∀ h' D', MM Y (mWrite M t (nI j) v) n S D' h' → mOut Y D D' → K h') : sL h (Y + 5) (nI (mBg M t + j)) x K := by
  obtain ⟨R, L, r, I⟩ := id C
  have hl := I.ln h1 ht hr
  have hrow := C.row h1 ht hr
  have h3 := C.u3000
  have I' := I.write (i := nI j) ht hv
  have em : mWrite M t (nI j) v = mSetIt M (vp_updL (mIt M) (mBg M t + j) x) := by
    unfold mWrite; rw [if_neg (mHas_of hr (by omega) hj), nI_clamp (by omega), hx]
  rw [em] at hK I'
  exact sm_sIt C (by omega) I' hK
theorem sm_deep_loop {s a b deep : Nat} (ha : a ≤ 3000) (hs : s < 12) (hd1 : 1 ≤ deep) {Q : Int32 → aH → Prop} : ∀ (j i : Nat) (M : mT) (D : sD) (h : aH), j + i = a → MM Y M n S D h → deep ≤ mMade M → mKd M deep = 5 → mLn M deep = a → mMade M + j ≤ 200 → mUsed M + j * b ≤ 3000 → (∀ h' D', MM Y (mSetSl (mDeepN b deep j i M) s deep) n S D' h' → mOut Y D D' → Q 0 h') → wbX11_deep_43 (j + 1) Y (nI s) (nI a) (nI b) (nI deep) (nI i) h Q
  | 0, i, M, D, h, hi, C, hd, hk, hln, hm, hu, hq => by
    have e : i = a := by omega
    subst e
    obtain ⟨R, L, r, I⟩ := id C
    exact ⟨fun _ => R_R R L.1 rfl (sm_sSl C hs hd hq), fun z => absurd (nI_le (Nat.le_refl i) (by omega)) z⟩
  | j + 1, i, M, D, h, hi, C, hd, hk, hln, hm, hu, hq => by
    obtain ⟨R, L, r, I⟩ := id C
    have hmul : (j + 1) * b = j * b + b := by rw [Nat.add_mul, Nat.one_mul]
    have hr : isRw (mKd M deep) := by rw [hk]; exact isRw_5
    have h2 := C.m200
    refine ⟨fun z => absurd ((nI_leI (by omega) (by omega)).mp z) (by omega), fun _ => R_R R L.1 rfl (R_R R L.1 rfl (sm_aBg C hd hr (R_O R L.1 (sm_freshR C isRw_1 (by omega) (by omega) fun h1 D1 C1 O1 => ?_))))⟩
    rw [nI_add, nI_l (by omega)]
    have eb : mBg (mAddRow M 1 b) deep = mBg M deep := by show va_up (mBg M) _ _ _ = _; simp only [va_up]; rw [if_neg (by omega)]
    have el : mLn (mAddRow M 1 b) deep = mLn M deep := by show va_up (mLn M) _ _ _ = _; simp only [va_up]; rw [if_neg (by omega)]
    have ek : mKd (mAddRow M 1 b) deep = 5 := by rw [kd_addRow hd, hk]
    rw [← eb]
    refine sm_sWr (v := lN (mMade M + 1)) C1 hd1 (Nat.le_succ_of_le hd) (by rw [ek]; exact isRw_5) (by rw [el]; omega) (by rw [ek]; rfl) (fun _ => ⟨mMade M + 1, Nat.le_refl _, rfl, Or.inr ?_⟩) fun h2 D2 C2 O2 => ?_
    · rw [kd_addRowN, ek]; decide
    · show wbX11_deep_43 (j + 1) Y (nI s) (nI a) (nI b) (nI deep) (nI i + 1) h2 Q
      rw [nI_1]
      have w := mWrite_made (mAddRow M 1 b) deep (nI i) (lN (mMade M + 1))
      have wl : mLn (mWrite (mAddRow M 1 b) deep (nI i) (lN (mMade M + 1))) = mLn (mAddRow M 1 b) := by unfold mWrite; split <;> rfl
      have e1 : mMade (mAddRow M 1 b) = mMade M + 1 := rfl
      have e2 : mUsed (mAddRow M 1 b) = mUsed M + b := rfl
      refine sm_deep_loop ha hs hd1 j (i + 1) _ D2 h2 (by omega) C2 (by rw [w.1, e1]; omega) (by rw [w.2.2, kd_addRow hd, hk]) (by rw [wl, el, hln]) (by rw [w.1, e1]; omega) (by rw [w.2.1, e2]; omega) fun h3 D3 C3 O3 => hq h3 D3 C3 ((O1.tr O2).tr O3)
theorem sm_deep (C : MM Y M n S D h) {s : Nat} (hs : s < 12) {a b : Int32} {Q : Int32 → aH → Prop} (hq : ∀ h' D', MM Y (mDeep M s a b).2 n S D' h' → mOut Y D D' → Q (mDeep M s a b).1 h') : wX11_deep h Y (nI s) a b Q := by
  obtain ⟨R, L, r, I⟩ := id C
  have h2 := C.m200
  have h3 := C.u3000
  unfold mDeep at hq
  refine ⟨fun z => ?_, fun z => ⟨fun y => ?_, fun y => ?_⟩⟩
  · rw [if_pos z] at hq; exact hq h D C mOut.rf
  · rw [if_neg z, if_pos y] at hq
    obtain ⟨p, hp, rfl⟩ := nI_of z
    obtain ⟨q, hq1, rfl⟩ := nI_of (Int32.not_lt.mpr y)
    rw [nI_clamp hp, nI_clamp hq1] at hq
    refine R_O R L.1 ?_
    rw [nI_l hp, nI_l hq1]
    refine sm_fits C (fun f => ⟨fun _ => ?_, fun z => absurd z (by decide)⟩) (fun f => ⟨fun z => absurd rfl z, fun _ => ?_⟩)
    · have f' := (mFit_2 h2 h3 hp hq1).mp f
      rw [if_pos f'] at hq
      refine R_O R L.1 (sm_freshR C isRw_5 (by omega) (by omega) fun h1 D1 C1 O1 => ⟨p + 1, ?_⟩)
      have e1 : mMade (mAddRow M 5 p) = mMade M + 1 := rfl
      have e2 : mUsed (mAddRow M 5 p) = mUsed M + p := rfl
      have e3 : mLn (mAddRow M 5 p) (mMade M + 1) = p := by show va_up (mLn M) _ _ _ = _; simp [va_up]
      exact sm_deep_loop (by omega) hs (by omega) p 0 _ D1 h1 (by omega) C1 (by rw [e1]; exact Nat.le_refl _) kd_addRowN e3 (by rw [e1]; omega) (by rw [e2]; omega) fun h4 D4 C4 O4 => hq h4 D4 C4 (O1.tr O4)
    · rw [if_neg (fun t => f ((mFit_2 h2 h3 hp hq1).mpr t))] at hq
      exact hq h D C mOut.rf
  · rw [if_neg z, if_neg y] at hq; exact hq h D C mOut.rf
end MM2
