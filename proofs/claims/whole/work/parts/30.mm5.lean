section MM5
variable {Y n : Nat} {M : mT} {S : sS} {D : sD} {h : aH}
theorem cpy_0 {α : Type} (f : Nat → α) (src tgt : Nat) : va_cpy f f src tgt 0 = f := by
  funext k; simp only [va_cpy]; rw [if_neg (by omega)]
theorem mSetIt_0 (M : mT) (src tgt : Nat) : mSetIt M (va_cpy (mIt M) (mIt M) src tgt 0) = M := by
  rw [cpy_0]; rfl
theorem mCpI_0 (M : mT) (src tgt : Nat) : mCpI M src tgt 0 = M := by
  unfold mCpI
  rw [mSetIt_0]
  unfold mSetCn
  have : upd (mCn M) 2 (mCn M 2 + nI 0) = mCn M := by
    funext k; simp only [upd]
    split
    · rename_i e; subst e; rw [nI_0, Int32.add_zero]
    · rfl
  rw [this]
theorem mPart_no {M : mT} {t : Nat} {f l : Int32} (c : f < 0 ∨ l < 0 ∨ (nI (mLn M t)).toInt64 < f.toInt64 + l.toInt64) : mPart M t f l = 0 := by
  unfold mPart
  by_cases a : kRow (mKd M t) = 0
  · rw [if_pos a]
  rw [if_neg a]
  by_cases b : f < 0
  · rw [if_pos b]
  rw [if_neg b]
  by_cases d : l < 0
  · rw [if_pos d]
  rw [if_neg d, if_pos (c.elim (fun q => absurd q b) (fun q => q.elim (fun q => absurd q d) id))]
theorem mPart_yes {M : mT} {t : Nat} {f l : Int32} (hr : isRw (mKd M t)) (a : ¬ f < 0) (b : ¬ l < 0) (c : ¬ (nI (mLn M t)).toInt64 < f.toInt64 + l.toInt64) : ¬ mPart M t f l = 0 := by
  unfold mPart
  rw [if_neg (fun z => (kRow_0.mp z) hr), if_neg a, if_neg b, if_neg c]; decide
theorem sm_copy (C : MM Y M n S D h) {a c : Nat} (ha : a < 12) (hc : c < 12) {p q : Int32} {Q : Int32 → aH → Prop} (hq : ∀ h' D', MM Y (mCopy M a p c q).2 n S D' h' → mOut Y D D' → Q (mCopy M a p c q).1 h') : wX11_copy h Y (nI a) p (nI c) q (mRg M 7).toInt32 Q := by
  obtain ⟨R, L, r, I⟩ := id C
  have h2 := C.m200
  have h3 := C.u3000
  have hva := C.vm ha
  have hvc := C.vm hc
  obtain ⟨ka, hka, eka⟩ := C.kdn hva
  obtain ⟨kc, hkc, ekc⟩ := C.kdn hvc
  generalize hl : (mRg M 7).toInt32 = l
  unfold mCopy at hq
  rw [hl] at hq
  refine R_R R L.1 rfl (sm_aSl C ha (R_R R L.1 rfl (sm_aSl C hc ⟨fun z => ?_, fun z => ⟨fun y => R_R R L.1 rfl (sm_aKd C hva (R_R R L.1 rfl (sm_aKd C hvc (sm_meet ⟨fun x => ?_, fun x => ?_⟩)))), fun y => ?_⟩⟩)))
  · rw [if_pos ((nI_eq0 (by omega)).mp z)] at hq; exact hq h D C mOut.rf
  · have z' : ¬ mSl M a = 0 := fun e => z ((nI_eq0 (by omega)).mpr e)
    have y' : ¬ mSl M c = 0 := fun e => y ((nI_eq0 (by omega)).mpr e)
    have ka1 : 1 ≤ ka := by
      have := (C.kd (Nat.pos_of_ne_zero z') hva).1
      rw [eka] at this
      exact (nI_leI (a := 1) (by omega) (by omega)).mp this
    have x' : ¬ kHas (kTab 2 (mKd M (mSl M a))) (mKd M (mSl M c)) = 0 := by
      rw [eka, ekc] at x ⊢; rw [← mMeet_k ka hka kc hkc ka1]; exact x
    rw [if_neg z', if_neg y', if_neg x'] at hq
    obtain ⟨rwa, rwc, rab⟩ := (kMeet_rw ka hka kc hkc).resolve_left (by rw [← eka, ← ekc]; exact x')
    have ra : isRw (mKd M (mSl M a)) := by rw [eka]; exact isRw_nI rwa.1 rwa.2
    have rc : isRw (mKd M (mSl M c)) := by rw [ekc]; exact isRw_nI rwc.1 rwc.2
    have la := I.ln (Nat.pos_of_ne_zero z') hva ra
    have lc := I.ln (Nat.pos_of_ne_zero y') hvc rc
    have key3 : (mPart M (mSl M a) p l = 0 ∨ mPart M (mSl M c) q l = 0) → Q 3 h := by
      intro k
      by_cases k1 : mPart M (mSl M a) p l = 0
      · rw [if_pos k1] at hq; exact hq h D C mOut.rf
      · rw [if_neg k1, if_pos (k.resolve_left k1)] at hq; exact hq h D C mOut.rf
    refine ⟨fun w => key3 (Or.inl (mPart_no (Or.inl w))), fun w => ⟨fun v => key3 (Or.inr (mPart_no (Or.inl v))), fun v => ⟨fun u => key3 (Or.inl (mPart_no (Or.inr (Or.inl u)))), fun u => R_R R L.1 rfl (sm_aLn C hva ra ⟨fun t => key3 (Or.inl (mPart_no (Or.inr (Or.inr (lg_pos.mp t))))), fun t => R_R R L.1 rfl (sm_aLn C hvc rc ⟨fun t' => ?_, fun t' => key3 (Or.inr (mPart_no (Or.inr (Or.inr ?_))))⟩)⟩)⟩⟩⟩
    · have m1 := mPart_yes ra w u (fun q => t (lg_pos.mpr q))
      have m2 := mPart_yes rc v u (lg_le.mp t')
      rw [if_neg m1, if_neg m2] at hq
      obtain ⟨hx1, -, p', len, bp, bl, ep, el, sx⟩ := mPart_1 C.kd0 (by omega) m1
      obtain ⟨hy1, -, q', m', bq, bm, eq, em, sy⟩ := mPart_1 C.kd0 (by omega) m2
      have e4 : len = m' := (nI_eq bl bm).mp (el.symm.trans em)
      subst ep eq el e4
      rw [nI_clamp bp, nI_clamp bq, nI_clamp bl] at hq
      have hk : ∀ w : Nat, (mKd M (mSl M c) < 5 ∨ nI w = kTab 4 (mKd M (mSl M c))) → mKd M (mSl M c) < 5 ∨ (5 ≤ mKd M (mSl M c) ∧ nI w = kTab 4 (mKd M (mSl M c)) ∧ ∀ k, k < len → ∃ u : Nat, u ≤ mMade M ∧ mIt M (mBg M (mSl M a) + p' + k) = lN u) := by
        intro w hw
        by_cases c5 : mKd M (mSl M c) < 5
        · exact Or.inl c5
        · have k5 := Int32.not_lt.mp c5
          have kc5 : 5 ≤ kc := by rw [ekc] at k5; exact (nI_leI (a := 5) (by omega) (by omega)).mp k5
          have ka5 : 5 ≤ ka := rab.elim (fun e => by omega) (fun e => e.1)
          refine Or.inr ⟨k5, hw.resolve_left c5, fun k hk => ?_⟩
          obtain ⟨u, hu, eu, -⟩ := C.thing hx1 hva ra (by rw [eka]; exact nI_5 ka5 hka) (j := p' + k) (by omega)
          exact ⟨u, hu, by rw [Nat.add_assoc]; exact eu⟩
      have eB : mBring M (mSl M a) p' (mSl M c) q' len = (mCnt M (mSl M c) (mBg M (mSl M a) + p') len 0, mSetIt M (va_cpy (mIt M) (mIt M) (mBg M (mSl M a) + p') (mBg M (mSl M c) + q') (mCnt M (mSl M c) (mBg M (mSl M a) + p') len 0))) := by
        unfold mBring
        by_cases e : mKd M (mSl M a) = mKd M (mSl M c)
        · rw [if_pos e]
          have : mCnt M (mSl M c) (mBg M (mSl M a) + p') len 0 = len := by
            refine mCnt_all (fun k hk => ?_) len 0 (by omega)
            by_cases c5 : mKd M (mSl M c) < 5
            · exact Or.inl c5
            · have k5 := Int32.not_lt.mp c5
              obtain ⟨u, hu, eu, ok⟩ := C.thing hx1 hva ra (by rw [e]; exact k5) (j := p' + k) (by omega)
              rw [Nat.add_assoc, eu, lN_i, nI_clamp (by omega), nI_eq0 (by omega), ← e]
              exact Or.inr ok
          rw [this]
        · rw [if_neg e]
          have ne : ¬ ka = kc := fun q => e (by rw [eka, ekc, q])
          have k55 := rab.resolve_left ne
          have := mBringN_cnt (M := M) (y := mSl M c) (src := mBg M (mSl M a) + p') (tgt := mBg M (mSl M c) + q') (len := len) (by rw [ekc]; exact nI_5 k55.2 hkc) (by
            have hne : mSl M a ≠ mSl M c := fun q => e (by rw [q])
            rcases Nat.lt_or_gt_of_ne hne with o | o
            · have := I.2.2.2.2.2.1 _ _ hx1 o hvc ra rc
              left; omega
            · have := I.2.2.2.2.2.1 _ _ hy1 o hva rc ra
              right; omega) (fun k hk => by
            obtain ⟨u, hu, eu, -⟩ := C.thing hx1 hva ra (by rw [eka]; exact nI_5 k55.1 hka) (j := p' + k) (by omega)
            exact ⟨u, by omega, by rw [Nat.add_assoc]; exact eu⟩) len 0 (by omega)
          rw [mSetIt_0] at this
          exact this
      rw [eB] at hq
      have cl := mCnt_le M (mSl M c) (mBg M (mSl M a) + p') len 0
      have run : ∀ w, w < 10 → (mKd M (mSl M c) < 5 ∨ nI w = kTab 4 (mKd M (mSl M c))) → wbX11_copy_137 Y (nI p') (nI q') (nI len) (nI (mSl M a)) (nI (mSl M c)) (nI w) h Q := by
        intro w hw hw2
        refine ⟨len + 1, sm_mid_loop hx1 hva ra sx len 0 D h (by omega) C (fun k hk => absurd hk (Nat.not_lt_zero _)) fun h' D' C' O' H' => ⟨len + 1, ?_⟩⟩
        rw [← mCpI_0 M (mBg M (mSl M a) + p') (mBg M (mSl M c) + q')] at C'
        refine sm_copy_loop hw hy1 hvc rc rfl sy (hk w hw2) len 0 D' h' (by omega) C' H' fun h4 D4 C4 O4 => ?_
        have hq' := hq h4 D4 C4 (O'.tr O4)
        have ei : (if mCnt M (mSl M c) (mBg M (mSl M a) + p') len 0 = len then (0 : Int32) else 5) = (if nI (mCnt M (mSl M c) (mBg M (mSl M a) + p') len 0) = nI len then (0 : Int32) else 5) := by
          by_cases e : mCnt M (mSl M c) (mBg M (mSl M a) + p') len 0 = len
          · rw [if_pos e, if_pos (by rw [e])]
          · rw [if_neg e, if_neg (fun q => e ((nI_eq (by omega) (by omega)).mp q))]
        rw [ei]
        exact hq'
      refine R_R R L.1 rfl (sm_aKd C hvc ⟨fun k5 => R_R R L.1 rfl (sm_aKd C hvc ⟨fun k6 => run 9 (by omega) ?_, fun k6 => run 8 (by omega) (Or.inr (by rw [k6]; decide))⟩), fun k5 => run 1 (by omega) (Or.inr (by rw [k5]; decide))⟩)
      rw [ekc] at k5 k6 ⊢
      by_cases c5 : kc < 5
      · exact Or.inl (nI_lt (b := 5) c5 (by omega))
      · have : ¬ kc = 5 := fun e => k5 (by rw [e]; rfl)
        have : ¬ kc = 6 := fun e => k6 (by rw [e]; rfl)
        have : kc = 7 := by omega
        subst this
        exact Or.inr kTab4_7.symm
    · by_cases o : (nI (mLn M (mSl M c))).toInt64 < q.toInt64 + l.toInt64
      · exact o
      · exact absurd (lg_le.mpr o) t'
  · have z' : ¬ mSl M a = 0 := fun e => z ((nI_eq0 (by omega)).mpr e)
    have y' : ¬ mSl M c = 0 := fun e => y ((nI_eq0 (by omega)).mpr e)
    have ka1 : 1 ≤ ka := by
      have := (C.kd (Nat.pos_of_ne_zero z') hva).1
      rw [eka] at this
      exact (nI_leI (a := 1) (by omega) (by omega)).mp this
    have x' : kHas (kTab 2 (mKd M (mSl M a))) (mKd M (mSl M c)) = 0 := by
      rw [eka, ekc] at x ⊢; rw [← mMeet_k ka hka kc hkc ka1]; exact x
    rw [if_neg z', if_neg y', if_pos x'] at hq; exact hq h D C mOut.rf
  · have z' : ¬ mSl M a = 0 := fun e => z ((nI_eq0 (by omega)).mpr e)
    rw [if_neg z', if_pos ((nI_eq0 (by omega)).mp y)] at hq; exact hq h D C mOut.rf
theorem sm_clone_loop {M : mT} {s src y len : Nat} (hs : s < 12) (es : mSl M s = y) (h1 : 1 ≤ y) (hy : y ≤ mMade M) (ky : mKd M y = 1) (hl : mLn M y = len) (hd : src + len ≤ mBg M y) {Q : Int32 → aH → Prop} : ∀ (j i : Nat) (D : sD) (h : aH), j + i = len → MM Y (mSetIt M (va_cpy (mIt M) (mIt M) src (mBg M y) i)) n S D h → (∀ h' D', MM Y (mSetIt M (va_cpy (mIt M) (mIt M) src (mBg M y) len)) n S D' h' → mOut Y D D' → Q 0 h') → wbX11_cloned_69 (j + 1) Y (nI s) (nI len) (nI src) (nI i) h Q
  | 0, i, D, h, hi, C, hq => by
    have e : i = len := by omega
    subst e
    have ry : isRw (mKd M y) := by rw [ky]; exact isRw_1
    have hl2 : mLn M y ≤ 3000 := C.2.2.2.ln h1 hy ry
    exact ⟨fun _ => hq h D C mOut.rf, fun z => absurd (nI_le (Nat.le_refl i) (by omega)) z⟩
  | j + 1, i, D, h, hi, C, hq => by
    obtain ⟨R, L, r, I⟩ := id C
    have ry : isRw (mKd M y) := by rw [ky]; exact isRw_1
    have hl2 : mLn M y ≤ 3000 := I.ln h1 hy ry
    have hrow : mBg M y + mLn M y ≤ mUsed M := C.row h1 hy ry
    have h3 : mUsed M ≤ 3000 := C.u3000
    refine ⟨fun z => absurd ((nI_leI (by omega) (by omega)).mp z) (by omega), fun _ => R_R R L.1 rfl (R_R R L.1 rfl (R_R R L.1 rfl (sm_aSl C hs ?_)))⟩
    show aI h (Y + 2) (nI (mSl M s)) _
    rw [es]
    refine sm_aBg C hy ry (R_R R L.1 rfl ?_)
    rw [nI_add]
    refine sm_aIt C (by omega) ?_
    have e1 : mIt (mSetIt M (va_cpy (mIt M) (mIt M) src (mBg M y) i)) (src + i) = mIt M (src + i) := by
      show va_cpy (mIt M) (mIt M) src (mBg M y) i (src + i) = _
      simp only [va_cpy]; rw [if_neg (by omega)]
    rw [e1]
    show sL h (Y + 5) (nI (mBg M y) + nI i) _ _
    rw [nI_add]
    refine sm_sIt C (by omega) ?_ fun h4 D4 C4 O4 => ?_
    · refine I.setIt h1 hy ry (fun z hz => ?_) (fun h5 k hk2 => ?_)
      · have hz : z < mBg M y ∨ mBg M y + mLn M y ≤ z := hz
        simp only [vp_updL]; rw [if_neg (by omega)]
      · have h5 : 5 ≤ mKd M y := h5
        rw [ky] at h5; exact absurd h5 (by decide)
    · have ee : mSetIt (mSetIt M (va_cpy (mIt M) (mIt M) src (mBg M y) i)) (vp_updL (mIt (mSetIt M (va_cpy (mIt M) (mIt M) src (mBg M y) i))) (mBg M y + i) (mIt M (src + i))) = mSetIt M (va_cpy (mIt M) (mIt M) src (mBg M y) (i + 1)) := by
        unfold mSetIt
        show (_, _, _, _, _, vp_updL (va_cpy (mIt M) (mIt M) src (mBg M y) i) (mBg M y + i) (mIt M (src + i)), _, _, _) = _
        rw [cpy_step (mIt M) src (mBg M y) i (vp_updL (va_cpy (mIt M) (mIt M) src (mBg M y) i) (mBg M y + i) (mIt M (src + i))) (fun k => rfl)]
      rw [ee] at C4
      show wbX11_cloned_69 (j + 1) Y (nI s) (nI len) (nI src) (nI i + 1) h4 Q
      rw [nI_1]
      exact sm_clone_loop hs es h1 hy ky hl hd j (i + 1) D4 h4 (by omega) C4 fun h5 D5 C5 O5 => hq h5 D5 C5 (O4.tr O5)
theorem sm_cloned (C : MM Y M n S D h) {s f : Nat} (hs : s < 12) (hf : f < 12) {Q : Int32 → aH → Prop} (hq : ∀ h' D', MM Y (mClone M s f).2 n S D' h' → mOut Y D D' → Q (mClone M s f).1 h') : wX11_cloned h Y (nI s) (nI f) Q := by
  obtain ⟨R, L, r, I⟩ := id C
  have h2 := C.m200
  have h3 := C.u3000
  have hvf := C.vm hf
  unfold mClone at hq
  refine R_O R L.1 (sm_row (b := 1) C hf (by omega) ⟨fun z => ?_, fun z => ?_⟩)
  · have z : mSome M f 1 = 0 := z
    rw [if_pos z] at hq
    obtain ⟨hx1, rx⟩ := mSome_row (b := 1) C hf (by omega) (by omega) z
    obtain ⟨z1, z2⟩ := mSome_0 z
    obtain ⟨a, ha, ea⟩ := C.kdn hvf
    have ha1 : a = 1 := by rw [ea] at z2; exact kIs_num a ha 1 (by omega) (by omega) (by omega) z2
    subst ha1
    have lx := I.ln hx1 hvf rx
    have rw1 := C.row hx1 hvf rx
    have esz : mSz M (mSl M f) = nI (mLn M (mSl M f)) := by
      unfold mSz; rw [if_neg z1, if_neg (fun q => (kRow_0.mp q) rx)]
    rw [esz] at hq
    refine R_R R L.1 rfl (R_R R L.1 rfl (sm_aSl C hf (sm_aLn C hvf rx (R_O R L.1 ?_))))
    rw [nI_l (by omega)]
    refine sm_fits C (fun ft => ⟨fun _ => ?_, fun z => absurd z (by decide)⟩) (fun ft => ⟨fun z => absurd rfl z, fun _ => ?_⟩)
    · have f' := (mFit_1 h2 h3 (by omega)).mp ft
      have em : mMake M s 1 (nI (mLn M (mSl M f))) = (0, mSetSl (mAddRow M 1 (mLn M (mSl M f))) s (mMade M + 1)) := by
        unfold mMake
        rw [if_pos (nI_pos' (by omega)), nI_clamp (by omega), if_pos f']
      rw [em, if_pos rfl] at hq
      refine R_R R L.1 rfl (R_R R L.1 rfl (sm_aSl C hf (sm_aBg C hvf rx (R_R R L.1 rfl (R_O R L.1 (sm_freshR C isRw_1 f'.1 f'.2 fun h1 D1 C1 O1 => sm_sSl (t := mMade M + 1) C1 hs (Nat.le_refl _) fun h4 D4 C4 O4 => ⟨mLn M (mSl M f) + 1, ?_⟩))))))
      have hsl : mSl (mSetSl (mAddRow M 1 (mLn M (mSl M f))) s (mMade M + 1)) s = mMade M + 1 := by show va_up (mSl M) s _ s = _; simp [va_up]
      have kx : mKd (mSetSl (mAddRow M 1 (mLn M (mSl M f))) s (mMade M + 1)) (mSl M f) = 1 := by show mKd (mAddRow M 1 (mLn M (mSl M f))) (mSl M f) = 1; rw [kd_addRow hvf, ea]; rfl
      have ky : mKd (mSetSl (mAddRow M 1 (mLn M (mSl M f))) s (mMade M + 1)) (mMade M + 1) = 1 := kd_addRowN (len := mLn M (mSl M f))
      have bgx : mBg (mSetSl (mAddRow M 1 (mLn M (mSl M f))) s (mMade M + 1)) (mSl M f) = mBg M (mSl M f) := by show va_up (mBg M) _ _ _ = _; simp only [va_up]; rw [if_neg (by omega)]
      have bgy : mBg (mSetSl (mAddRow M 1 (mLn M (mSl M f))) s (mMade M + 1)) (mMade M + 1) = mUsed M := by show va_up (mBg M) _ _ _ = _; simp [va_up]
      have lny : mLn (mSetSl (mAddRow M 1 (mLn M (mSl M f))) s (mMade M + 1)) (mMade M + 1) = mLn M (mSl M f) := by show va_up (mLn M) _ _ _ = _; simp [va_up]
      unfold mBring at hq
      simp only at hq
      rw [kx, ky, if_pos rfl, Nat.add_zero, Nat.add_zero, bgx] at hq
      have C4' : MM Y (mSetIt (mSetSl (mAddRow M 1 (mLn M (mSl M f))) s (mMade M + 1)) (va_cpy (mIt (mSetSl (mAddRow M 1 (mLn M (mSl M f))) s (mMade M + 1))) (mIt (mSetSl (mAddRow M 1 (mLn M (mSl M f))) s (mMade M + 1))) (mBg M (mSl M f)) (mBg (mSetSl (mAddRow M 1 (mLn M (mSl M f))) s (mMade M + 1)) (mMade M + 1)) 0)) n S D4 h4 := by
        rw [mSetIt_0]; exact C4
      exact sm_clone_loop hs hsl (by omega) (Nat.le_refl _) ky lny (by rw [bgy]; omega) _ 0 D4 h4 (by omega) C4' fun h5 D5 C5 O5 => hq h5 D5 C5 ((O1.tr O4).tr O5)
    · have em : mMake M s 1 (nI (mLn M (mSl M f))) = (8, M) := by
        unfold mMake
        rw [if_pos (nI_pos' (by omega)), nI_clamp (by omega), if_neg (fun t => ft ((mFit_1 h2 h3 (by omega)).mpr t))]
      rw [em, if_neg (show ¬ (8 : Int32) = 0 by decide)] at hq
      exact hq h D C mOut.rf
  · have z : ¬ mSome M f 1 = 0 := z
    rw [if_neg z] at hq; exact hq h D C mOut.rf
/-- an ACT is done: the model -/
theorem sm_done (C : MM Y M n S D h) {m : Nat} (hm : m < 80) {op : Nat} {a b c d : Int32} (e1 : D.2.1 (Y + 9) m = nI op) (e2 : D.2.1 (Y + 10) m = a) (e3 : D.2.1 (Y + 11) m = b) (e4 : D.2.1 (Y + 12) m = c) (e5 : D.2.1 (Y + 13) m = d) (ok : actOk op a b c d) {Q : Int32 → aH → Prop} (hq : ∀ h' D', MM Y (mAct M op a b c d).2 n S D' h' → mOut Y D D' → Q (mAct M op a b c d).1 h') : wX11_done h Y (nI m) Q := by
  obtain ⟨R, L, r, I⟩ := id C
  have hop : op < 18 := by
    rcases Nat.lt_or_ge op 18 with z | z
    · exact z
    · obtain ⟨e, rfl⟩ : ∃ e, op = e + 18 := ⟨op - 18, by omega⟩
      exact ok.elim
  have eo : (nI op).toInt = (op : Int) := nI_int (by omega)
  have vi : vp_in (nI m) 80 := vp_in_nI hm (by omega)
  unfold wX11_done
  refine R_R R L.1 rfl (R_aI R L.s10 vi (R_R R L.1 rfl (R_aI R L.s11 vi (R_R R L.1 rfl (R_aI R L.s12 vi (R_R R L.1 rfl (R_aI R L.s13 vi (R_R R L.1 rfl (R_aI R L.s9 vi ?_)))))))))
  rw [nI_clamp (by omega), e1, e2, e3, e4, e5, eo]
  refine ⟨fun z => ?_, fun z => ?_, fun z => ?_, fun z => ?_, fun z => ?_, fun z => ?_, fun z => ?_, fun z => ?_, fun z => ?_, fun z => ?_, fun z => ?_, fun z => ?_, fun z => ?_, fun z => ?_, fun z => ?_, fun z => ?_, fun z => ?_, fun z => ?_⟩
  · have e : op = 17 := by omega
    subst e; exact hq h D C mOut.rf
  · have e : op = 0 := by omega
    subst e
    obtain ⟨⟨s, hs, rfl⟩, hk⟩ := ok
    refine R_O R L.1 (sm_make C hs (isRw_make hk) ?_)
    simp only [mAct, tN_nI (show s < 2 ^ 31 by omega)] at hq; exact hq
  · have e : op = 1 := by omega
    subst e
    obtain ⟨s, hs, rfl⟩ := ok
    refine R_O R L.1 (sm_deep C hs ?_)
    simp only [mAct, tN_nI (show s < 2 ^ 31 by omega)] at hq; exact hq
  · have e : op = 2 := by omega
    subst e
    obtain ⟨s, hs, rfl⟩ := ok
    refine R_O R L.1 (sm_make C hs isRw_5 ?_)
    simp only [mAct, tN_nI (show s < 2 ^ 31 by omega)] at hq; exact hq
  · have e : op = 3 := by omega
    subst e
    obtain ⟨s, hs, rfl⟩ := ok
    simp only [mAct, tN_nI (show s < 2 ^ 31 by omega)] at hq
    refine ⟨fun y => R_O R L.1 (sm_figure C hs (Or.inr rfl) ?_), fun y => R_O R L.1 (sm_figure C hs (Or.inl rfl) ?_)⟩
    · rw [if_neg y] at hq; exact hq
    · rw [if_pos y] at hq; exact hq
  · have e : op = 4 := by omega
    subst e
    obtain ⟨⟨s, hs, rfl⟩, ⟨f, hf, rfl⟩, ⟨k, hk, rfl⟩⟩ := ok
    refine R_O R L.1 (sm_move C hs hf hk ?_)
    simp only [mAct, tN_nI (show s < 2 ^ 31 by omega), tN_nI (show f < 2 ^ 31 by omega)] at hq; exact hq
  · have e : op = 5 := by omega
    subst e
    obtain ⟨⟨s, hs, rfl⟩, ⟨f, hf, rfl⟩, ⟨k, hk1, hk4, rfl⟩⟩ := ok
    refine R_O R L.1 (sm_get C hs hf hk1 (by omega) ?_)
    simp only [mAct, tN_nI (show s < 2 ^ 31 by omega), tN_nI (show f < 2 ^ 31 by omega)] at hq; exact hq
  · have e : op = 6 := by omega
    subst e
    obtain ⟨⟨s, hs, rfl⟩, ⟨k, hk1, hk4, rfl⟩, ⟨f, hf, rfl⟩⟩ := ok
    refine R_O R L.1 (sm_set C hs hf hk1 hk4 ?_)
    simp only [mAct, tN_nI (show s < 2 ^ 31 by omega), tN_nI (show f < 2 ^ 31 by omega)] at hq; exact hq
  · have e : op = 7 := by omega
    subst e
    obtain ⟨⟨s, hs, rfl⟩, ⟨f, hf, rfl⟩, ⟨k, hk1, hk4, rfl⟩⟩ := ok
    refine R_O R L.1 (sm_take C hs hf hk1 hk4 ?_)
    simp only [mAct, tN_nI (show s < 2 ^ 31 by omega), tN_nI (show f < 2 ^ 31 by omega)] at hq; exact hq
  · have e : op = 8 := by omega
    subst e
    obtain ⟨⟨s, hs, rfl⟩, ⟨k, hk1, hk4, rfl⟩, ⟨f, hf, rfl⟩⟩ := ok
    refine R_O R L.1 (sm_lay C hs hf hk1 hk4 ?_)
    simp only [mAct, tN_nI (show s < 2 ^ 31 by omega), tN_nI (show f < 2 ^ 31 by omega)] at hq; exact hq
  · have e : op = 9 := by omega
    subst e
    obtain ⟨⟨s, hs, rfl⟩, ⟨f, hf, rfl⟩, ⟨k, hk1, hk4, rfl⟩⟩ := ok
    refine R_O R L.1 (sm_measure C hs hf hk1 hk4 ?_)
    simp only [mAct, tN_nI (show s < 2 ^ 31 by omega), tN_nI (show f < 2 ^ 31 by omega)] at hq; exact hq
  · have e : op = 10 := by omega
    subst e
    obtain ⟨⟨s, hs, rfl⟩, ⟨f, hf, rfl⟩⟩ := ok
    refine R_O R L.1 (sm_cloned C hs hf ?_)
    simp only [mAct, tN_nI (show s < 2 ^ 31 by omega), tN_nI (show f < 2 ^ 31 by omega)] at hq; exact hq
  · have e : op = 11 := by omega
    subst e
    obtain ⟨⟨s, hs, rfl⟩, ⟨f, hf, rfl⟩⟩ := ok
    refine R_O R L.1 (sm_tell C hs hf ?_)
    simp only [mAct, tN_nI (show s < 2 ^ 31 by omega), tN_nI (show f < 2 ^ 31 by omega)] at hq; exact hq
  · have e : op = 12 := by omega
    subst e
    obtain ⟨⟨s, hs, rfl⟩, ⟨f, hf, rfl⟩⟩ := ok
    refine R_R R L.1 rfl (sm_aRg (q := 7) C (by omega) (R_O R L.1 (sm_copy C hs hf ?_)))
    simp only [mAct, tN_nI (show s < 2 ^ 31 by omega), tN_nI (show f < 2 ^ 31 by omega)] at hq; exact hq
  · have e : op = 13 := by omega
    subst e
    obtain ⟨s, hs, rfl⟩ := ok
    refine R_R R L.1 rfl (sm_sRg C hs ?_)
    simp only [mAct, tN_nI (show s < 2 ^ 31 by omega)] at hq; exact hq
  · have e : op = 14 := by omega
    subst e
    obtain ⟨⟨s, hs, rfl⟩, ⟨f, hf, rfl⟩, ⟨g, hg, rfl⟩⟩ := ok
    refine R_R R L.1 rfl (R_R R L.1 rfl (sm_aRg C hf (R_R R L.1 rfl (sm_aRg C hg (sm_sRg C hs ?_)))))
    simp only [mAct, tN_nI (show s < 2 ^ 31 by omega), tN_nI (show f < 2 ^ 31 by omega), tN_nI (show g < 2 ^ 31 by omega)] at hq; exact hq
  · have e : op = 15 := by omega
    subst e
    obtain ⟨⟨s, hs, rfl⟩, ⟨f, hf, rfl⟩, ⟨g, hg, rfl⟩⟩ := ok
    simp only [mAct, tN_nI (show s < 2 ^ 31 by omega), tN_nI (show f < 2 ^ 31 by omega), tN_nI (show g < 2 ^ 31 by omega)] at hq
    refine R_R R L.1 rfl (R_aI R L.s9 vi ?_)
    rw [nI_clamp (by omega), e1]
    exact ⟨fun _ => R_O R L.1 (sm_divide (t := 0) C hs hf hg (by rw [if_pos rfl]; exact hq)), fun z => absurd z (by decide)⟩
  · have e : op = 16 := by omega
    subst e
    obtain ⟨⟨s, hs, rfl⟩, ⟨f, hf, rfl⟩, ⟨g, hg, rfl⟩⟩ := ok
    simp only [mAct, tN_nI (show s < 2 ^ 31 by omega), tN_nI (show f < 2 ^ 31 by omega), tN_nI (show g < 2 ^ 31 by omega)] at hq
    refine R_R R L.1 rfl (R_aI R L.s9 vi ?_)
    rw [nI_clamp (by omega), e1]
    exact ⟨fun z => absurd rfl z, fun _ => R_O R L.1 (sm_divide (t := 1) C hs hf hg (by rw [if_neg (show ¬ (1 : Int32) = 0 by decide)]; exact hq))⟩
end MM5
