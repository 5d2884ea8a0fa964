section ALM
variable {Y cnt n : Nat} {N : nT} {M : mT} {ρ : rD} {gs : rS} {S : sS} {D : sD} {h : aH}
def pl (M : mT) (t u : Nat) : Prop := mKd M t = mKd M u ∧ (¬ isRw (mKd M t) → mNm M t = mNm M u) ∧ (isRw (mKd M t) → same M t u)
theorem sm_pl_loop (C : MM Y M n S D h) {t u : Nat} (t1 : 1 ≤ t) (ht : t ≤ mMade M) (tr : isRw (mKd M t)) (u1 : 1 ≤ u) (hu : u ≤ mMade M) (ur : isRw (mKd M u)) (el : mLn M t = mLn M u) {Q : Int32 → aH → Prop} (q1 : same M t u → Q 1 h) (q0 : ¬ same M t u → Q 0 h) : ∀ (j i : Nat), j + i = mLn M t → (∀ k, k < i → mIt M (mBg M t + k) = mIt M (mBg M u + k)) → wbX11_plainTwins_54 (j + 2) Y (nI t) (nI u) 1 (nI i) h Q
  | 0, i, hi, hk => by
    obtain ⟨R, L, r, I⟩ := id C
    have e : i = mLn M t := by omega
    have u3 := I.2.1
    have fit := I.2.2.2.2.1 t t1 ht tr
    refine ⟨fun w => absurd w (by decide), fun _ => R_R R L.1 rfl (sm_aLn C ht tr ⟨fun _ => ⟨Or.inr rfl, q1 ⟨el, fun k hk' => hk k (by omega)⟩⟩, fun z => absurd (nI_le (by omega) (by omega)) z⟩)⟩
  | j + 1, i, hi, hk => by
    obtain ⟨R, L, r, I⟩ := id C
    have u3 := I.2.1
    have fit := I.2.2.2.2.1 t t1 ht tr
    have fiu := I.2.2.2.2.1 u u1 hu ur
    refine ⟨fun w => absurd w (by decide), fun _ => R_R R L.1 rfl (sm_aLn C ht tr ⟨fun z => absurd ((nI_leI (by omega) (by omega)).mp z) (by omega), fun _ => R_R R L.1 rfl (R_R R L.1 rfl (sm_aBg C ht tr ?_))⟩)⟩
    rw [nI_add]
    refine sm_aIt C (by omega) (R_R R L.1 rfl (R_R R L.1 rfl (sm_aBg C hu ur ?_)))
    rw [nI_add]
    refine sm_aIt C (by omega) ⟨fun z => ?_, fun z => ?_⟩
    · exact ⟨fun _ => ⟨Or.inl rfl, q0 fun e => z (lg_eq.mpr (e.2 i (by omega)))⟩, fun w => absurd rfl w⟩
    · show wbX11_plainTwins_54 (j + 2) Y (nI t) (nI u) 1 (nI i + 1) h Q
      rw [nI_1]
      refine sm_pl_loop C t1 ht tr u1 hu ur el q1 q0 j (i + 1) (by omega) fun k hk' => ?_
      by_cases e : k = i
      · rw [e]; exact lg_eq.mp z
      · exact hk k (by omega)
theorem sm_pl (C : MM Y M n S D h) {t u : Nat} (t1 : 1 ≤ t) (ht : t ≤ mMade M) (u1 : 1 ≤ u) (hu : u ≤ mMade M) {Q : Int32 → aH → Prop} (q1 : pl M t u → Q 1 h) (q0 : ¬ pl M t u → Q 0 h) : isO h Y 9 (wX11_plainTwins h Y (nI t) (nI u) Q) := by
  obtain ⟨R, L, r, I⟩ := id C
  have u3 := I.2.1
  have m200 := I.1
  have k49 : ¬ pl M t u → wbX11_plainTwins_49 Y (nI t) (nI u) h Q := fun e => ⟨1, fun _ => ⟨Or.inl rfl, q0 e⟩, fun w => absurd rfl w⟩
  refine R_O R L.1 (R_R R L.1 rfl (sm_aKd C ht (R_R R L.1 rfl (sm_aKd C hu ⟨fun z => k49 fun e => z e.1, fun z => ?_⟩))))
  by_cases tr : isRw (mKd M t)
  · have ur : isRw (mKd M u) := by rw [← z]; exact tr
    have fit := I.2.2.2.2.1 t t1 ht tr
    have fiu := I.2.2.2.2.1 u u1 hu ur
    refine R_R R L.1 rfl (sm_aLn C ht tr (R_R R L.1 rfl (sm_aLn C hu ur ⟨fun el => k49 fun e => el (by rw [(e.2.2 tr).1]), fun el => ?_⟩)))
    have el := (nI_eq (by omega) (by omega)).mp el
    have n1 := (r.2.2.2.1 t ht tr).2.2
    have n2 := (r.2.2.2.1 u hu ur).2.2
    refine R_R R L.1 rfl (R_aI R L.s4 (vp_in_nI (by omega) (by omega)) (R_R R L.1 rfl (R_aI R L.s4 (vp_in_nI (by omega) (by omega)) ?_)))
    rw [nI_clamp (by omega), nI_clamp (by omega), n1, n2]
    refine ⟨fun w => absurd rfl w, fun _ => ⟨mLn M t + 2, ?_⟩⟩
    exact sm_pl_loop C t1 ht tr u1 hu ur el (fun s => q1 ⟨z, fun w => absurd tr w, fun _ => s⟩) (fun s => q0 fun e => s (e.2.2 tr)) (mLn M t) 0 rfl fun k hk => absurd hk (Nat.not_lt_zero k)
  · have ur : ¬ isRw (mKd M u) := by rw [← z]; exact tr
    have e1 := (r.2.2.2.2.1 t ht tr (by omega)).1
    have e2 := (r.2.2.2.2.1 u hu ur (by omega)).1
    refine R_R R L.1 rfl (R_aI R L.s3 (vp_in_nI (by omega) (by omega)) (R_R R L.1 rfl (R_aI R L.s3 (vp_in_nI (by omega) (by omega)) ?_)))
    rw [nI_clamp (by omega), nI_clamp (by omega), e1, e2]
    refine ⟨fun w => absurd rfl w, fun _ => R_R R L.1 rfl (sm_aNm C ht tr (by omega) (R_R R L.1 rfl (sm_aNm C hu ur (by omega) ⟨fun el => k49 fun e => el (e.2.1 tr), fun el => ⟨1, fun w => absurd w (by decide), fun _ => R_R R L.1 rfl (R_aI R L.s3 (vp_in_nI (by omega) (by omega)) ?_)⟩⟩)))⟩
    rw [nI_clamp (by omega), e1]
    exact ⟨fun _ => ⟨Or.inr rfl, q1 ⟨z, fun _ => el, fun w => absurd w tr⟩⟩, fun w => absurd (by decide) w⟩
theorem pl_al {t u : Nat} (k5 : ¬ mKd M t = 5) : pl M t u ↔ alP M t u := by
  constructor
  · rintro ⟨a, b, c⟩
    exact ⟨a, b, fun w => ⟨(c w).1, fun _ => c w, fun e => absurd e k5⟩⟩
  · rintro ⟨a, b, c⟩
    exact ⟨a, b, fun w => (c w).2.1 k5⟩
theorem sm_tw_loop (C : MM Y M n S D h) {t u : Nat} (t1 : 1 ≤ t) (ht : t ≤ mMade M) (t5 : mKd M t = 5) (u1 : 1 ≤ u) (hu : u ≤ mMade M) (u5 : mKd M u = 5) (el : mLn M t = mLn M u) {Q : Int32 → aH → Prop} (q1 : deep M t u → Q 1 h) (q0 : ¬ deep M t u → Q 0 h) : ∀ (j i : Nat), j + i = mLn M t → (∀ k, k < i → ia M t k = ia M u k ∨ (ia M t k ≠ 0 ∧ ia M u k ≠ 0 ∧ same M (ia M t k) (ia M u k))) → wbX11_twins_51 (j + 2) Y (nI t) (nI u) 1 (nI i) h Q
  | 0, i, hi, hk => by
    obtain ⟨R, L, r, I⟩ := id C
    have tr : isRw (mKd M t) := by rw [t5]; exact ⟨by decide, by decide⟩
    have u3 := I.2.1
    have fit := I.2.2.2.2.1 t t1 ht tr
    refine ⟨fun w => absurd w (by decide), fun _ => R_R R L.1 rfl (sm_aLn C ht tr ⟨fun _ => ⟨Or.inr rfl, q1 fun k hk' => hk k (by omega)⟩, fun z => absurd (nI_le (by omega) (by omega)) z⟩)⟩
  | j + 1, i, hi, hk => by
    obtain ⟨R, L, r, I⟩ := id C
    have tr : isRw (mKd M t) := by rw [t5]; exact ⟨by decide, by decide⟩
    have ur : isRw (mKd M u) := by rw [u5]; exact ⟨by decide, by decide⟩
    have u3 := I.2.1
    have m200 := I.1
    have fit := I.2.2.2.2.1 t t1 ht tr
    have fiu := I.2.2.2.2.1 u u1 hu ur
    obtain ⟨a1, a2, a3⟩ := I.in5 t1 ht t5 (i := i) (by omega)
    obtain ⟨b1, b2, b3⟩ := I.in5 u1 hu u5 (i := i) (by omega)
    have nx : (ia M t i = ia M u i ∨ (ia M t i ≠ 0 ∧ ia M u i ≠ 0 ∧ same M (ia M t i) (ia M u i))) → wbX11_twins_51 (j + 2) Y (nI t) (nI u) 1 (nI i + 1) h Q := by
      intro hh
      rw [nI_1]
      refine sm_tw_loop C t1 ht t5 u1 hu u5 el q1 q0 j (i + 1) (by omega) fun k hk' => ?_
      by_cases e : k = i
      · rw [e]; exact hh
      · exact hk k (by omega)
    have bad : ¬ (ia M t i = ia M u i ∨ (ia M t i ≠ 0 ∧ ia M u i ≠ 0 ∧ same M (ia M t i) (ia M u i))) → wbX11_twins_51 (j + 2) Y (nI t) (nI u) 0 (nI i + 1) h Q := fun hh => ⟨fun _ => ⟨Or.inl rfl, q0 fun e => hh (e i (by omega))⟩, fun w => absurd rfl w⟩
    refine ⟨fun w => absurd w (by decide), fun _ => R_R R L.1 rfl (sm_aLn C ht tr ⟨fun z => absurd ((nI_leI (by omega) (by omega)).mp z) (by omega), fun _ => R_R R L.1 rfl (R_R R L.1 rfl (sm_aBg C ht tr ?_))⟩)⟩
    rw [nI_add]
    refine sm_aIt C (by omega) (R_R R L.1 rfl (R_R R L.1 rfl (sm_aBg C hu ur ?_)))
    rw [nI_add]
    refine sm_aIt C (by omega) ?_
    rw [a2, b2, lN_i, lN_i]
    refine ⟨fun e => nx (Or.inl ((nI_eq (by omega) (by omega)).mp e)), fun e => ⟨fun z => bad fun q => ?_, fun z => ⟨fun y => bad fun q => ?_, fun y => ?_⟩⟩⟩
    · rcases q with q | q
      · exact e (by rw [q])
      · exact q.1 ((nI_eq0 (by omega)).mp z)
    · rcases q with q | q
      · exact e (by rw [q])
      · exact q.2.1 ((nI_eq0 (by omega)).mp y)
    · have ta : ia M t i ≠ 0 := fun q => z (by rw [q]; rfl)
      have ua : ia M u i ≠ 0 := fun q => y (by rw [q]; rfl)
      obtain ⟨c1, c2⟩ := a3.resolve_left ta
      obtain ⟨d1, d2⟩ := b3.resolve_left ua
      have r1 : isRw (mKd M (ia M t i)) := by rw [c2]; exact ⟨by decide, by decide⟩
      refine sm_pl C c1 a1 d1 b1 (fun s => ⟨fun w => absurd w (by decide), fun _ => nx (Or.inr ⟨ta, ua, s.2.2 r1⟩)⟩) (fun s => ⟨fun _ => bad fun q => ?_, fun w => absurd rfl w⟩)
      rcases q with q | q
      · exact e (by rw [q])
      · exact s ⟨by rw [c2, d2], fun w => absurd r1 w, fun _ => q.2.2⟩
theorem sm_tw (C : MM Y M n S D h) {t u : Nat} (t1 : 1 ≤ t) (ht : t ≤ mMade M) (u1 : 1 ≤ u) (hu : u ≤ mMade M) {Q : Int32 → aH → Prop} (q1 : alP M t u → Q 1 h) (q0 : ¬ alP M t u → Q 0 h) : isO h Y 9 (wX11_twins h Y (nI t) (nI u) Q) := by
  obtain ⟨R, L, r, I⟩ := id C
  have u3 := I.2.1
  refine R_O R L.1 (R_R R L.1 rfl (sm_aKd C ht ⟨fun k5 => ?_, fun k5 => R_R R L.1 rfl (sm_aKd C hu ⟨fun u5 => ?_, fun u5 => ?_⟩)⟩))
  · rw [← pl_al k5] at q1 q0
    exact sm_pl C t1 ht u1 hu (fun e => ⟨Or.inr rfl, q1 e⟩) (fun e => ⟨Or.inl rfl, q0 e⟩)
  · have tr : isRw (mKd M t) := by rw [k5]; exact ⟨by decide, by decide⟩
    have ur : isRw (mKd M u) := by rw [u5]; exact ⟨by decide, by decide⟩
    have fit := I.2.2.2.2.1 t t1 ht tr
    have fiu := I.2.2.2.2.1 u u1 hu ur
    refine R_R R L.1 rfl (sm_aLn C ht tr (R_R R L.1 rfl (sm_aLn C hu ur ⟨fun el => ⟨1, fun _ => ⟨Or.inl rfl, q0 fun e => el (by rw [(e.2.2 tr).1])⟩, fun w => absurd rfl w⟩, fun el => ⟨mLn M t + 2, ?_⟩⟩)))
    have el := (nI_eq (by omega) (by omega)).mp el
    exact sm_tw_loop C t1 ht k5 u1 hu u5 el (fun s => q1 ⟨by rw [k5, u5], fun w => absurd tr w, fun _ => ⟨el, fun w => absurd k5 w, fun _ => s⟩⟩) (fun s => q0 fun e => s ((e.2.2 tr).2.2 k5)) (mLn M t) 0 rfl fun k hk => absurd hk (Nat.not_lt_zero k)
  · exact sm_pl C t1 ht u1 hu (fun e => absurd (e.1.symm.trans k5) u5) (fun _ => ⟨Or.inl rfl, q0 fun e => u5 (e.1.symm.trans k5)⟩)
theorem mm_alike (C : MI Y cnt N M ρ gs n S D h) {v w : Int32} {Q : Int32 → aH → Prop} (q0 : ¬ (nS v 12 ∧ nS w 12) → Q (-1) h) (q1 : ∀ s s', s < 12 → s' < 12 → v = nI s → w = nI s' → ∀ r, alA M (mSl M s) (mSl M s') r → Q r h) : wX11_alike h Y v w Q := by
  obtain ⟨R, L, r, I⟩ := id C.1.1
  have m200 := I.1
  refine mm_isSlot (fun nv => ⟨fun e => absurd e (by decide), fun _ => mm_isSlot (fun nw => ⟨fun _ => ?_, fun e => absurd e (by decide)⟩) (fun nw => ⟨fun e => absurd rfl e, fun _ => q0 fun e => nw e.2⟩)⟩) (fun nv => ⟨fun _ => q0 fun e => nv e.1, fun e => absurd rfl e⟩)
  obtain ⟨s, hs, rfl⟩ := nv
  obtain ⟨s', hs', rfl⟩ := nw
  have vm : mSl M s ≤ mMade M := I.2.2.2.2.2.2.1 s hs
  have vm' : mSl M s' ≤ mMade M := I.2.2.2.2.2.2.1 s' hs'
  have hq := q1 s s' hs hs' rfl rfl
  refine R_R R L.1 rfl (sm_aSl C.1.1 hs (R_R R L.1 rfl (sm_aSl C.1.1 hs' ⟨fun z => ?_, fun z => hq 1 (Or.inl ⟨(nI_eq (by omega) (by omega)).mp z, rfl⟩)⟩)))
  have ne : mSl M s ≠ mSl M s' := fun e => z (by rw [e])
  refine ⟨fun t0 => hq 0 (Or.inr (Or.inr ⟨ne, fun e => ?_, rfl⟩)), fun t0 => ⟨fun u0 => hq 0 (Or.inr (Or.inr ⟨ne, fun e => ?_, rfl⟩)), fun u0 => ?_⟩⟩
  · have := (nI_eq0 (by omega)).mp t0; omega
  · have := (nI_eq0 (by omega)).mp u0; omega
  · have t1 : 1 ≤ mSl M s := by
      rcases Nat.eq_zero_or_pos (mSl M s) with e | e
      · exact absurd (by rw [e]; rfl) t0
      · exact e
    have u1 : 1 ≤ mSl M s' := by
      rcases Nat.eq_zero_or_pos (mSl M s') with e | e
      · exact absurd (by rw [e]; rfl) u0
      · exact e
    exact sm_tw C.1.1 t1 vm u1 vm' (fun a => ⟨fun e => absurd e (by decide), fun _ => hq 2 (Or.inr (Or.inl ⟨ne, t1, u1, a, rfl⟩))⟩) (fun a => ⟨fun _ => hq 0 (Or.inr (Or.inr ⟨ne, fun e => a e.2.2, rfl⟩)), fun e => absurd rfl e⟩)
end ALM
