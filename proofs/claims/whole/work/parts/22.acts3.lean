section CA3
variable {X n : Nat} {M : mT} {S : sS} {D : sD} {h : aH}
theorem sc_addFigure (C : CM X M n S D h) {k v : Int32} (hk : k = 8 ∨ k = 9) (f1 : mMade M + 1 ≤ 200) {Q : Int32 → aH → Prop} (hq : ∀ h' D', CM X (mAddFig M k v) n S D' h' → cOut X D D' → Q (nI (mMade M + 1)) h') : wX8_addFigure h (X + 2) k v Q := by
  obtain ⟨R, L, r, I⟩ := id C
  have h2 := C.m200
  have h3 := C.u3000
  have kI : k.toInt = 8 ∨ k.toInt = 9 := by rcases hk with rfl | rfl; exact Or.inl rfl; exact Or.inr rfl
  have nR : ¬ isRw k := by rw [isRw_iff]; omega
  refine R_O R L.2.1 (sc_haveRoom C (fun _ => ⟨fun _ => ?_, fun z => absurd z (by decide)⟩) (fun z => absurd ((mFit_1 h2 h3 (len := 0) (by omega)).mpr ⟨f1, by omega⟩) z))
  refine R_I R L.2.1 rfl (R_wF R L.2.1 rfl fun g1 R1 => ?_)
  rw [C.rMade, nI_1] at R1
  generalize hD1 : uO D (X + 2) 4 (nI (mMade M + 1)) = D1 at R1
  have a4 : D1.1 (X + 2) 4 = nI (mMade M + 1) := by rw [← hD1]; simp [uO, va_up, upd]
  have a5 : D1.1 (X + 2) 5 = nI (mUsed M) := by rw [← hD1]; simp [uO, va_up, upd]; exact C.rUsed
  refine R_R R1 L.2.1 rfl (R_I R1 L.2.1 rfl ?_)
  rw [a4]
  refine R_sI R1 L.2.2.1 (vp_in_nI (by omega) (by omega)) fun g2 R2 => ?_
  rw [nI_clamp (by omega)] at R2
  generalize hD2 : uF D1 (X + 3) (upd (D1.2.1 (X + 3)) (mMade M + 1) k) = D2 at R2
  have b4 : D2.1 (X + 2) 4 = nI (mMade M + 1) := by rw [← hD2]; exact a4
  have b5 : D2.1 (X + 2) 5 = nI (mUsed M) := by rw [← hD2]; exact a5
  refine R_R R2 L.2.1 rfl (R_I R2 L.2.1 rfl ?_)
  rw [b4]
  refine R_sI R2 L.2.2.2.1 (vp_in_nI (by omega) (by omega)) fun g3 R3 => ?_
  rw [nI_clamp (by omega)] at R3
  generalize hD3 : uF D2 (X + 4) (upd (D2.2.1 (X + 4)) (mMade M + 1) 0) = D3 at R3
  have c4 : D3.1 (X + 2) 4 = nI (mMade M + 1) := by rw [← hD3]; exact b4
  have c5 : D3.1 (X + 2) 5 = nI (mUsed M) := by rw [← hD3]; exact b5
  refine R_R R3 L.2.1 rfl (R_I R3 L.2.1 rfl ?_)
  rw [c4]
  refine R_sI R3 L.2.2.2.2.1 (vp_in_nI (by omega) (by omega)) fun g4 R4 => ?_
  rw [nI_clamp (by omega)] at R4
  have d4 : (uF D3 (X + 5) (upd (D3.2.1 (X + 5)) (mMade M + 1) v)).1 (X + 2) 4 = nI (mMade M + 1) := c4
  have d5 : (uF D3 (X + 5) (upd (D3.2.1 (X + 5)) (mMade M + 1) v)).1 (X + 2) 5 = nI (mUsed M) := c5
  refine R_I R4 L.2.1 rfl ?_
  rw [d4]
  refine hq g4 _ ⟨R4, L, ?_, I.addFig hk f1⟩ ?_
  · obtain ⟨r1, r2, r3, r4, r5, r6, r7, r8, r9⟩ := r
    subst hD3 hD2 hD1
    refine ⟨d4, d5, fun t ht => ?_, fun t ht hr => ?_, fun t ht hr h0 => ?_, fun j hj => ?_, fun s hs => ?_, fun q hq => ?_, fun c hc => ?_⟩
    · have ht : t ≤ mMade M + 1 := ht
      show _ = upd (mKd M) (mMade M + 1) k t
      simp [uO, uF, va_up, upd]
      split
      · rfl
      · exact r3 t (by omega)
    · have ht : t ≤ mMade M + 1 := ht
      have hr : isRw (upd (mKd M) (mMade M + 1) k t) := hr
      show _ = nI (va_up (mBg M) (mMade M + 1) (mUsed M) t) ∧ _ = nI (va_up (mLn M) (mMade M + 1) 0 t)
      by_cases e : t = mMade M + 1
      · simp [upd, e] at hr; exact absurd hr nR
      · simp [uO, uF, va_up, upd, e]
        simp [upd, e] at hr
        exact r4 t (by omega) hr
    · have ht : t ≤ mMade M + 1 := ht
      have hr : ¬ isRw (upd (mKd M) (mMade M + 1) k t) := hr
      show _ = upd (mNm M) (mMade M + 1) v t
      by_cases e : t = mMade M + 1
      · simp [uO, uF, va_up, upd, e]
      · simp [uO, uF, va_up, upd, e]
        simp [upd, e] at hr
        exact r5 t (by omega) hr h0
    · exact r6 j hj
    · simp [uO, uF, va_up, upd]; exact r7 s hs
    · exact r8 q hq
    · simp [uO, uF, va_up, upd]; exact r9 c hc
  · subst hD3 hD2 hD1
    exact (((cOut.O (by omega)).tr (cOut.F (by omega))).tr (cOut.F (by omega))).tr (cOut.F (by omega))
/-- MAKE (and THIN) -/
def mMake (M : mT) (s : Nat) (k c : Int32) : Int32 × mT := if 0 ≤ c then (if mMade M + 1 ≤ 200 ∧ mUsed M + c.toNatClampNeg ≤ 3000 then (0, mSetSl (mAddRow M k c.toNatClampNeg) s (mMade M + 1)) else (8, M)) else (4, M)
theorem sc_make (C : CM X M n S D h) {s : Nat} (hs : s < 12) {k c : Int32} (hk : isRw k) {Q : Int32 → aH → Prop} (hq : ∀ h' D', CM X (mMake M s k c).2 n S D' h' → cOut X D D' → Q (mMake M s k c).1 h') : wX5_make h (X + 1) (nI s) k c Q := by
  obtain ⟨R, L, r, I⟩ := id C
  have h2 := C.m200
  have h3 := C.u3000
  unfold mMake at hq
  refine ⟨fun z => ?_, fun z => ?_⟩
  · rw [if_pos z] at hq
    obtain ⟨len, hl, rfl⟩ := nI_of (Int32.not_lt.mpr z)
    rw [nI_clamp hl] at hq
    refine R_R R L.1 rfl (R_O R L.2.1 ?_)
    rw [nI_l hl]
    refine sc_haveRoom C (fun f => ⟨fun _ => ?_, fun z => absurd z (by decide)⟩) (fun f => ⟨fun z => absurd rfl z, fun _ => ?_⟩)
    · have f' := (mFit_1 h2 h3 hl).mp f
      rw [if_pos f'] at hq
      refine R_R R L.1 rfl (R_R R L.1 rfl (R_O R L.2.1 (sc_addRow C hk f'.1 f'.2 fun h' D' C' O' => sc_setSl' C' hs (Nat.le_refl _) fun h'' D'' C'' O'' => ?_)))
      exact hq h'' D'' C'' (O'.tr O'')
    · rw [if_neg (fun q => f ((mFit_1 h2 h3 hl).mpr q))] at hq
      exact hq h D C cOut.rf
  · rw [if_neg z] at hq
    exact hq h D C cOut.rf
def mFigure (M : mT) (s : Nat) (k v : Int32) : Int32 × mT := if mMade M + 1 ≤ 200 then (0, mSetSl (mAddFig M k v) s (mMade M + 1)) else (8, M)
theorem sc_makeFigure (C : CM X M n S D h) {s : Nat} (hs : s < 12) {k v : Int32} (hk : k = 8 ∨ k = 9) {Q : Int32 → aH → Prop} (hq : ∀ h' D', CM X (mFigure M s k v).2 n S D' h' → cOut X D D' → Q (mFigure M s k v).1 h') : wX5_makeFigure h (X + 1) (nI s) k v Q := by
  obtain ⟨R, L, r, I⟩ := id C
  have h2 := C.m200
  have h3 := C.u3000
  unfold mFigure at hq
  refine R_R R L.1 rfl (R_O R L.2.1 (sc_haveRoom C (fun f => ⟨fun _ => ?_, fun z => absurd z (by decide)⟩) (fun f => ⟨fun z => absurd rfl z, fun _ => ?_⟩)))
  · have f' := ((mFit_1 h2 h3 (len := 0) (by omega)).mp f).1
    rw [if_pos f'] at hq
    refine R_R R L.1 rfl (R_R R L.1 rfl (R_O R L.2.1 (sc_addFigure C hk f' fun h' D' C' O' => sc_setSl' C' hs (Nat.le_refl _) fun h'' D'' C'' O'' => ?_)))
    exact hq h'' D'' C'' (O'.tr O'')
  · rw [if_neg (fun q => f ((mFit_1 h2 h3 (len := 0) (by omega)).mpr ⟨q, by omega⟩))] at hq
    exact hq h D C cOut.rf
/-- DEEP -/
def mDeepN (b deep : Nat) : Nat → Nat → mT → mT
  | 0, _, M => M
  | j + 1, i, M => mDeepN b deep j (i + 1) (mWrite (mAddRow M 1 b) deep (nI i) (lN (mMade M + 1)))
def mDeep (M : mT) (s : Nat) (a b : Int32) : Int32 × mT := if a < 0 then (4, M) else if 0 ≤ b then (if mMade M + 1 + a.toNatClampNeg ≤ 200 ∧ mUsed M + (a.toNatClampNeg + a.toNatClampNeg * b.toNatClampNeg) ≤ 3000 then (0, mSetSl (mDeepN b.toNatClampNeg (mMade M + 1) a.toNatClampNeg 0 (mAddRow M 5 a.toNatClampNeg)) s (mMade M + 1)) else (8, M)) else (4, M)
theorem mWrite_made (M : mT) (t : Nat) (i : Int32) (v : Int64) : mMade (mWrite M t i v) = mMade M ∧ mUsed (mWrite M t i v) = mUsed M ∧ mKd (mWrite M t i v) = mKd M := by
  unfold mWrite; split <;> exact ⟨rfl, rfl, rfl⟩
theorem kd_addRow {M : mT} {k : Int32} {len t : Nat} (ht : t ≤ mMade M) : mKd (mAddRow M k len) t = mKd M t := by
  show upd (mKd M) _ k t = _; simp [upd]; omega
theorem kd_addRowN {M : mT} {k : Int32} {len : Nat} : mKd (mAddRow M k len) (mMade M + 1) = k := by
  show upd (mKd M) _ k _ = _; simp [upd]
theorem isRw_1 : isRw 1 := by unfold isRw; exact ⟨by decide, by decide⟩
theorem isRw_5 : isRw 5 := by unfold isRw; exact ⟨by decide, by decide⟩
theorem sc_deep_loop {s a b deep : Nat} (ha : a < 2 ^ 31) (hs : s < 12) {Q : Int32 → aH → Prop} : ∀ (j i : Nat) (M : mT) (D : sD) (h : aH), j + i = a → CM X M n S D h → deep ≤ mMade M → mKd M deep = 5 → mMade M + j ≤ 200 → mUsed M + j * b ≤ 3000 → (∀ h' D', CM X (mSetSl (mDeepN b deep j i M) s deep) n S D' h' → cOut X D D' → Q 0 h') → wbX5_makeDeep_49 (j + 1) (X + 1) (nI s) (nI a) (nI b) (nI deep) (nI i) h Q
  | 0, i, M, D, h, hi, C, hd, hk, hm, hu, hq => by
    have e : i = a := by omega
    subst e
    obtain ⟨R, L, r, I⟩ := id C
    exact ⟨fun _ => R_R R L.1 rfl (sc_setSl' C hs hd hq), fun z => absurd (nI_le (Nat.le_refl i) ha) z⟩
  | j + 1, i, M, D, h, hi, C, hd, hk, hm, hu, hq => by
    obtain ⟨R, L, r, I⟩ := id C
    have hmul : (j + 1) * b = j * b + b := by rw [Nat.add_mul, Nat.one_mul]
    refine ⟨fun z => absurd ((nI_leI ha (by omega)).mp z) (by omega), fun _ => R_R R L.1 rfl (R_R R L.1 rfl (R_O R L.2.1 (sc_addRow C isRw_1 (by omega) (by omega) fun h1 D1 C1 O1 => ?_)))⟩
    obtain ⟨R1, L1, r1, I1⟩ := id C1
    refine R_O R1 L1.2.1 ?_
    have h2 := C.m200
    rw [nI_l (by omega)]
    refine sc_write C1 (Nat.le_succ_of_le hd) (fun _ => ⟨mMade M + 1, Nat.le_refl _, rfl, Or.inr ?_⟩) fun h2 D2 C2 O2 => ?_
    · rw [kd_addRowN, kd_addRow hd, hk]; decide
    · show wbX5_makeDeep_49 (j + 1) (X + 1) (nI s) (nI a) (nI b) (nI deep) (nI i + 1) h2 Q
      rw [nI_1]
      have w := mWrite_made (mAddRow M 1 b) deep (nI i) (lN (mMade M + 1))
      have e1 : mMade (mAddRow M 1 b) = mMade M + 1 := rfl
      have e2 : mUsed (mAddRow M 1 b) = mUsed M + b := rfl
      refine sc_deep_loop ha hs j (i + 1) _ D2 h2 (by omega) C2 (by rw [w.1, e1]; omega) (by rw [w.2.2, kd_addRow hd, hk]) (by rw [w.1, e1]; omega) (by rw [w.2.1, e2]; omega) fun h3 D3 C3 O3 => hq h3 D3 C3 ((O1.tr O2).tr O3)
theorem mFit_2 {M : mT} (h1 : mMade M ≤ 200) (h2 : mUsed M ≤ 3000) {a b : Nat} (ha : a < 2 ^ 31) (hb : b < 2 ^ 31) : mFit M (1 + lN a) (lN a + lN a * lN b) ↔ mMade M + 1 + a ≤ 200 ∧ mUsed M + (a + a * b) ≤ 3000 := by
  have hab : a * b < 2 ^ 62 := by
    calc a * b ≤ (2 ^ 31 - 1) * (2 ^ 31 - 1) := Nat.mul_le_mul (by omega) (by omega)
      _ < 2 ^ 62 := by decide
  unfold mFit
  rw [show (1 : Int64) = lN 1 from rfl, lN_mul, lN_add, lN_add, lN_add, lN_add, show (200 : Int64) = lN 200 from rfl, show (3000 : Int64) = lN 3000 from rfl, pk_lLT (by omega) (by omega), pk_lLT (by omega) (by omega)]
  omega
theorem sc_makeDeep (C : CM X M n S D h) {s : Nat} (hs : s < 12) {a b : Int32} {Q : Int32 → aH → Prop} (hq : ∀ h' D', CM X (mDeep M s a b).2 n S D' h' → cOut X D D' → Q (mDeep M s a b).1 h') : wX5_makeDeep h (X + 1) (nI s) a b Q := by
  obtain ⟨R, L, r, I⟩ := id C
  have h2 := C.m200
  have h3 := C.u3000
  unfold mDeep at hq
  refine ⟨fun z => ?_, fun z => ⟨fun y => ?_, fun y => ?_⟩⟩
  · rw [if_pos z] at hq; exact hq h D C cOut.rf
  · rw [if_neg z, if_pos y] at hq
    obtain ⟨p, hp, rfl⟩ := nI_of z
    obtain ⟨q, hq1, rfl⟩ := nI_of (Int32.not_lt.mpr y)
    rw [nI_clamp hp, nI_clamp hq1] at hq
    refine R_R R L.1 rfl (R_O R L.2.1 ?_)
    rw [nI_l hp, nI_l hq1]
    refine sc_haveRoom C (fun f => ⟨fun _ => ?_, fun z => absurd z (by decide)⟩) (fun f => ⟨fun z => absurd rfl z, fun _ => ?_⟩)
    · have f' := (mFit_2 h2 h3 hp hq1).mp f
      rw [if_pos f'] at hq
      refine R_R R L.1 rfl (R_O R L.2.1 (sc_addRow C isRw_5 (by omega) (by omega) fun h1 D1 C1 O1 => ⟨p + 1, ?_⟩))
      have e1 : mMade (mAddRow M 5 p) = mMade M + 1 := rfl
      have e2 : mUsed (mAddRow M 5 p) = mUsed M + p := rfl
      exact sc_deep_loop hp hs p 0 _ D1 h1 (by omega) C1 (by rw [e1]; exact Nat.le_refl _) kd_addRowN (by rw [e1]; omega) (by rw [e2]; omega) fun h4 D4 C4 O4 => hq h4 D4 C4 (O1.tr O4)
    · rw [if_neg (fun t => f ((mFit_2 h2 h3 hp hq1).mpr t))] at hq
      exact hq h D C cOut.rf
  · rw [if_neg z, if_neg y] at hq; exact hq h D C cOut.rf
end CA3
