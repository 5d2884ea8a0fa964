section CA5
variable {X n : Nat} {M : mT} {S : sS} {D : sD} {h : aH}
theorem mSome_0 {M : mT} {s : Nat} {k : Int32} (h : mSome M s k = 0) : ¬ mSl M s = 0 ∧ ¬ kIs (mKd M (mSl M s)) k = 0 := by
  unfold mSome at h
  by_cases a : mSl M s = 0
  · rw [if_pos a] at h; exact absurd h (by decide)
  rw [if_neg a] at h
  by_cases b : kIs (mKd M (mSl M s)) k = 0
  · rw [if_pos b] at h; exact absurd h (by decide)
  exact ⟨a, b⟩
/-- CLONE -/
def mClone (M : mT) (s f : Nat) : Int32 × mT := if mSome M f 1 = 0 then (if (mMake M s 1 (mSz M (mSl M f))).1 = 0 then (0, (mBring (mMake M s 1 (mSz M (mSl M f))).2 (mSl M f) 0 (mMade M + 1) 0 (mLn M (mSl M f))).2) else mMake M s 1 (mSz M (mSl M f))) else (mSome M f 1, M)
theorem sc_cloneRow (C : CM X M n S D h) {s f : Nat} (hs : s < 12) (hf : f < 12) {Q : Int32 → aH → Prop} (hq : ∀ h' D', CM X (mClone M s f).2 n S D' h' → cOut X D D' → Q (mClone M s f).1 h') : wX5_cloneRow h (X + 1) (nI s) (nI f) Q := by
  obtain ⟨R, L, r, I⟩ := id C
  have h2 := C.m200
  have h3 := C.u3000
  have hvf := C.vm hf
  unfold mClone at hq
  refine R_O R L.1 (sc_unlessSomething C hf ⟨fun z => ?_, fun z => ?_⟩)
  · rw [if_pos z] at hq
    obtain ⟨z1, z2⟩ := mSome_0 z
    obtain ⟨a, ha, ea⟩ := C.kdn hvf
    have ha1 : a = 1 := by rw [ea] at z2; exact kIs_num a ha 1 (by omega) (by omega) (by omega) z2
    subst ha1
    have hx1 : 1 ≤ mSl M f := Nat.pos_of_ne_zero z1
    have rx : isRw (mKd M (mSl M f)) := by rw [ea]; exact isRw_1
    have lx := I.ln hx1 hvf rx
    have esz : mSz M (mSl M f) = nI (mLn M (mSl M f)) := by
      unfold mSz; rw [if_neg z1, if_neg (fun q => (kRow_0.mp q) rx)]
    refine sc_slot C hf (R_R R L.1 rfl (R_O R L.2.1 (sc_sizeOf C hvf (R_O R L.1 ?_))))
    refine sc_make C hs isRw_1 fun h1 D1 C1 O1 => ?_
    refine ⟨fun y => ?_, fun y => ?_⟩
    · rw [if_neg y] at hq
      exact hq h1 D1 C1 O1
    · rw [if_pos y] at hq
      obtain ⟨R1, L1, r1, I1⟩ := id C1
      have em : mMake M s 1 (mSz M (mSl M f)) = (0, mSetSl (mAddRow M 1 (mLn M (mSl M f))) s (mMade M + 1)) := by
        rw [esz] at y ⊢
        unfold mMake at y ⊢
        rw [if_pos (nI_pos' (by omega)), nI_clamp (by omega)] at y ⊢
        by_cases c : mMade M + 1 ≤ 200 ∧ mUsed M + mLn M (mSl M f) ≤ 3000
        · rw [if_pos c]
        · rw [if_neg c] at y; exact absurd (show (8 : Int32) = 0 from y) (by decide)
      rw [em] at C1 hq
      have hsl : mSl (mSetSl (mAddRow M 1 (mLn M (mSl M f))) s (mMade M + 1)) s = mMade M + 1 := by show va_up (mSl M) s _ s = _; simp [va_up]
      refine R_R R1 L1.1 rfl (sc_slot C1 hs (R_O R1 L1.2.1 ?_))
      rw [hsl, esz]
      have kx : mKd (mSetSl (mAddRow M 1 (mLn M (mSl M f))) s (mMade M + 1)) (mSl M f) = 1 := by show mKd (mAddRow M 1 (mLn M (mSl M f))) (mSl M f) = 1; rw [kd_addRow hvf, ea]; rfl
      have ky : mKd (mSetSl (mAddRow M 1 (mLn M (mSl M f))) s (mMade M + 1)) (mMade M + 1) = 1 := kd_addRowN (len := mLn M (mSl M f))
      have lnx : mLn (mSetSl (mAddRow M 1 (mLn M (mSl M f))) s (mMade M + 1)) (mSl M f) = mLn M (mSl M f) := by show va_up (mLn M) _ _ _ = _; simp only [va_up]; rw [if_neg (by omega)]
      have lny : mLn (mSetSl (mAddRow M 1 (mLn M (mSl M f))) s (mMade M + 1)) (mMade M + 1) = mLn M (mSl M f) := by show va_up (mLn M) _ _ _ = _; simp [va_up]
      have np : ∀ t, mKd (mSetSl (mAddRow M 1 (mLn M (mSl M f))) s (mMade M + 1)) t = 1 → mLn (mSetSl (mAddRow M 1 (mLn M (mSl M f))) s (mMade M + 1)) t = mLn M (mSl M f) → ¬ mPart (mSetSl (mAddRow M 1 (mLn M (mSl M f))) s (mMade M + 1)) t (nI 0) (nI (mLn M (mSl M f))) = 0 := by
        intro t h1 h2
        unfold mPart
        rw [h1, h2, if_neg (by decide), if_neg (by decide), if_neg (nI_pos (by omega)), if_neg (by rw [nI_l (by omega), nI_l (by omega), lN_add, pk_lLT (by omega) (by omega)]; omega)]
        decide
      refine sc_bring (p := 0) (q := 0) C1 (Nat.le_succ_of_le hvf) (Nat.le_refl _) (np _ kx lnx) (np _ ky lny) (by omega) (by omega) (by omega) (fun q => absurd (kx.trans ky.symm) q) fun h4 D4 C4 O4 => ?_
      have y0 : (mMake M s 1 (nI (mLn M (mSl M f)))).1 = 0 := by rw [← esz]; exact y
      show Q (mMake M s 1 (nI (mLn M (mSl M f)))).1 h4
      rw [y0]
      exact hq h4 D4 C4 (O1.tr O4)
  · rw [if_neg z] at hq; exact hq h D C cOut.rf
/-- COPY -/
def mCopy (M : mT) (a : Nat) (p : Int32) (c : Nat) (q : Int32) : Int32 × mT :=
  if mSl M a = 0 then (1, M) else if mSl M c = 0 then (1, M) else if kHas (kTab 2 (mKd M (mSl M a))) (mKd M (mSl M c)) = 0 then (5, M) else if mPart M (mSl M a) p (mRg M 7).toInt32 = 0 then (3, M) else if mPart M (mSl M c) q (mRg M 7).toInt32 = 0 then (3, M) else
    (if nI (mBring M (mSl M a) p.toNatClampNeg (mSl M c) q.toNatClampNeg (mRg M 7).toInt32.toNatClampNeg).1 = (mRg M 7).toInt32 then 0 else 5, mSetCn (mBring M (mSl M a) p.toNatClampNeg (mSl M c) q.toNatClampNeg (mRg M 7).toInt32.toNatClampNeg).2 2 (mCn (mBring M (mSl M a) p.toNatClampNeg (mSl M c) q.toNatClampNeg (mRg M 7).toInt32.toNatClampNeg).2 2 + nI (mBring M (mSl M a) p.toNatClampNeg (mSl M c) q.toNatClampNeg (mRg M 7).toInt32.toNatClampNeg).1))
theorem kMeet0 : ∀ a, a < 10 → ∀ b, b < 10 → (¬ kHas (kTab 2 (nI a)) (nI b) = 0 ∧ a ≠ b) → 5 ≤ a := by decide +kernel
theorem sc_copy (C : CM X M n S D h) {a c : Nat} (ha : a < 12) (hc : c < 12) {p q : Int32} {Q : Int32 → aH → Prop} (hq : ∀ h' D', CM X (mCopy M a p c q).2 n S D' h' → cOut X D D' → Q (mCopy M a p c q).1 h') : wX5_copy h (X + 1) (nI a) p (nI c) q Q := by
  obtain ⟨R, L, r, I⟩ := id C
  have h2 := C.m200
  have h3 := C.u3000
  have hva := C.vm ha
  have hvc := C.vm hc
  unfold mCopy at hq
  refine sc_slot C ha (sc_slot C hc (R_R R L.1 rfl (sc_reg (q := 7) C (by omega) ⟨fun z => ?_, fun z => ⟨fun y => R_O R L.1 (sc_kindIn C ha (sp_meet (R_O R L.1 (sc_kindIn C hc (sp_has ⟨fun x => R_R R L.1 rfl (R_O R L.2.1 (sc_hasPart C hva ⟨fun w => ?_, fun w => R_R R L.1 rfl (R_O R L.2.1 (sc_hasPart C hvc ⟨fun v => ?_, fun v => ?_⟩))⟩)), fun x => ?_⟩))))), fun y => ?_⟩⟩)))
  · rw [if_pos ((nI_eq0 (by omega)).mp z)] at hq; exact hq h D C cOut.rf
  · have z' : ¬ mSl M a = 0 := fun e => z ((nI_eq0 (by omega)).mpr e)
    have y' : ¬ mSl M c = 0 := fun e => y ((nI_eq0 (by omega)).mpr e)
    rw [if_neg z', if_neg y', if_neg x, if_pos w] at hq; exact hq h D C cOut.rf
  · have z' : ¬ mSl M a = 0 := fun e => z ((nI_eq0 (by omega)).mpr e)
    have y' : ¬ mSl M c = 0 := fun e => y ((nI_eq0 (by omega)).mpr e)
    rw [if_neg z', if_neg y', if_neg x, if_neg w, if_neg v] at hq
    have ra : isRw (mKd M (mSl M a)) := by
      unfold mPart at w
      by_cases a0 : kRow (mKd M (mSl M a)) = 0
      · rw [if_pos a0] at w; exact absurd rfl w
      · exact isRw_of a0
    have rc : isRw (mKd M (mSl M c)) := by
      unfold mPart at v
      by_cases a0 : kRow (mKd M (mSl M c)) = 0
      · rw [if_pos a0] at v; exact absurd rfl v
      · exact isRw_of a0
    have la := I.ln (Nat.pos_of_ne_zero z') hva ra
    have lc := I.ln (Nat.pos_of_ne_zero y') hvc rc
    obtain ⟨hx1, -, p', l', bp, bl, ep, el, sx⟩ := mPart_1 C.kd0 (by omega) w
    obtain ⟨hy1, -, q', m', bq, bm, eq, em, sy⟩ := mPart_1 C.kd0 (by omega) v
    subst ep eq
    rw [el] at w v hq
    rw [nI_clamp bp, nI_clamp bq, nI_clamp bl] at hq
    refine R_R R L.1 rfl (R_O R L.2.1 ?_)
    rw [el]
    obtain ⟨ka, hka, eka⟩ := C.kdn hva
    obtain ⟨kc, hkc, ekc⟩ := C.kdn hvc
    refine sc_bring C hva hvc w v bp bq bl (fun ne => ?_) fun h1 D1 C1 O1 => ?_
    · rw [eka, ekc] at x
      rw [eka, ekc] at ne
      rw [eka]
      exact nI_5 (kMeet0 ka hka kc hkc ⟨x, fun e => ne (by rw [e])⟩) hka
    · refine sc_cn (k := 2) C1 (by omega) (sc_setCn (k := 2) C1 (by omega) fun h4 D4 C4 O4 => ⟨fun u => ?_, fun u => ?_⟩)
      · rw [if_neg u] at hq; exact hq h4 D4 C4 (O1.tr O4)
      · rw [if_pos u] at hq; exact hq h4 D4 C4 (O1.tr O4)
  · have z' : ¬ mSl M a = 0 := fun e => z ((nI_eq0 (by omega)).mpr e)
    have y' : ¬ mSl M c = 0 := fun e => y ((nI_eq0 (by omega)).mpr e)
    rw [if_neg z', if_neg y', if_neg x, if_neg w, if_pos v] at hq; exact hq h D C cOut.rf
  · have z' : ¬ mSl M a = 0 := fun e => z ((nI_eq0 (by omega)).mpr e)
    have y' : ¬ mSl M c = 0 := fun e => y ((nI_eq0 (by omega)).mpr e)
    rw [if_neg z', if_neg y', if_pos x] at hq; exact hq h D C cOut.rf
  · have z' : ¬ mSl M a = 0 := fun e => z ((nI_eq0 (by omega)).mpr e)
    rw [if_neg z', if_pos ((nI_eq0 (by omega)).mp y)] at hq; exact hq h D C cOut.rf
end CA5
