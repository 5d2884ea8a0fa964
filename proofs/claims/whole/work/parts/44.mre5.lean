section MY3
variable {Y d n : Nat} {q : rP} {S : sS} {D : sD} {h : aH}
theorem mPartly_B (j k : Int32) : mPartly j k = 0 ∨ mPartly j k = 1 := by
  unfold mPartly; split
  · exact Or.inr rfl
  · exact Or.inl rfl
/-- the inner loop -/
theorem my_cIn (C : YX Y d q n S D h) {a c : Nat} (ha : a < 12) (hc : c < 12) {j : Nat} {K81 : Nat → Int32 → Int32 → Int32 → Int32 → Int32 → Int32 → Int32 → aH → Prop} {Q : Int32 → aH → Prop} : ∀ (i k : Nat) (t : cT), i + k = 10 → (∀ t', (t' = if (q.1 a >>> (nI j &&& 31)) &&& 1 = 1 then cIn (q.1 c) j i k t else t) → K81 Y (nI d) (nI a) (nI c) t'.1 t'.2.1 t'.2.2 (nI (j + 1)) h) → wbX11_mayCopy_91 K81 (i + 1) Y (nI d) (nI a) (nI c) t.1 t.2.1 t.2.2 (nI j) (nI k) h Q
  | 0, k, t, hi, hq => by
    have e : k = 10 := by omega
    subst e
    refine ⟨fun _ => ?_, fun z => absurd (nI_le (Nat.le_refl 10) (by omega)) z⟩
    rw [nI_1]
    refine hq t ?_
    split <;> rfl
  | i + 1, k, t, hi, hq => by
    obtain ⟨R, L, -⟩ := id C
    refine ⟨fun z => absurd ((nI_leI (a := 10) (by omega) (by omega)).mp z) (by omega), fun _ => R_R R L.1 rfl (my_now C ha ?_)⟩
    have nx : ∀ t1 : cT, (∀ t', (t' = if (q.1 a >>> (nI j &&& 31)) &&& 1 = 1 then cIn (q.1 c) j i (k + 1) t1 else t1) → K81 Y (nI d) (nI a) (nI c) t'.1 t'.2.1 t'.2.2 (nI (j + 1)) h) → wbX11_mayCopy_204 K81 (fun v0 v1 v2 v3 v4 v5 v6 v7 v8 h => wbX11_mayCopy_91 K81 (i + 1) v0 v1 v2 v3 v4 v5 v6 v7 v8 h Q) Y (nI d) (nI a) (nI c) t1.1 t1.2.1 t1.2.2 (nI j) (nI k) h Q := by
      intro t1 ht
      show wbX11_mayCopy_91 K81 (i + 1) Y (nI d) (nI a) (nI c) t1.1 t1.2.1 t1.2.2 (nI j) (nI k + 1) h Q
      rw [nI_1]
      exact my_cIn C ha hc i (k + 1) t1 (by omega) ht
    refine ⟨fun z => nx t fun t' e => hq t' (by rw [e, if_neg z, if_neg z]), fun z => R_R R L.1 rfl (my_now C hc ?_)⟩
    simp only [if_pos z] at nx hq
    refine ⟨fun y => nx t fun t' e => hq t' ?_, fun y => ?_⟩
    · rw [e, cIn, if_neg y]
    · have nx2 := nx (cStep j k t) fun t' e => hq t' (by rw [e, cIn, if_pos y])
      have k155 : ∀ s0 : Int32, (s0 = if mMeet (nI j) (nI k) = 0 then 1 else mPartly (nI j) (nI k)) → wbX11_mayCopy_155 K81 (fun v0 v1 v2 v3 v4 v5 v6 v7 v8 h => wbX11_mayCopy_91 K81 (i + 1) v0 v1 v2 v3 v4 v5 v6 v7 v8 h Q) Y (nI d) (nI a) (nI c) t.2.1 t.2.2 (nI j) (nI k) s0 t.1 h Q := by
        intro s0 hs
        unfold cStep at nx2
        rw [← hs] at nx2
        refine sm_meet ⟨fun x => sm_meet ⟨fun w => ?_, fun w => absurd x w⟩, fun x => sm_meet ⟨fun w => absurd w x, fun w => ?_⟩⟩
        · simp only [if_pos x] at nx2
          exact nx2
        · simp only [if_neg x] at nx2
          exact nx2
      refine sm_meet ⟨fun x => k155 1 (by rw [if_pos x]), fun x => sm_partly ⟨fun w => k155 0 (by rw [if_neg x, w]), fun w => k155 1 ?_⟩⟩
      rw [if_neg x]; exact ((mPartly_B _ _).resolve_left w).symm
/-- the outer loop -/
theorem my_cOu (C : YX Y d q n S D h) {a c : Nat} (ha : a < 12) (hc : c < 12) {Q : Int32 → aH → Prop} : ∀ (i j : Nat) (t : cT), i + j = 10 → (∀ t', t' = cOu (q.1 a) (q.1 c) i j t → (t'.1 = 0 → wbX11_mayCopy_229 Y (nI d) (nI a) (nI c) t'.2.1 t'.2.2 h Q) ∧ (¬ t'.1 = 0 → isO h Y 9 (wX11_mayFail h Y (nI d) 5 (-1) 0 (fun h22 => wbX11_mayCopy_229 Y (nI d) (nI a) (nI c) t'.2.1 t'.2.2 h22 Q)))) → wbX11_mayCopy_81 (i + 1) Y (nI d) (nI a) (nI c) t.1 t.2.1 t.2.2 (nI j) h Q
  | 0, j, t, hi, hq => by
    have e : j = 10 := by omega
    subst e
    exact ⟨fun _ => hq t rfl, fun z => absurd (nI_le (Nat.le_refl 10) (by omega)) z⟩
  | i + 1, j, t, hi, hq => by
    refine ⟨fun z => absurd ((nI_leI (a := 10) (by omega) (by omega)).mp z) (by omega), fun _ => ⟨10, ?_⟩⟩
    refine my_cIn C ha hc 9 1 t rfl fun t' e => ?_
    refine my_cOu C ha hc i (j + 1) t' (by omega) fun t2 e2 => hq t2 ?_
    rw [e2, e]; rfl
theorem and_m2_id {x : Int32} (h : kHas x 0 = 0) : x &&& (-2) = x := by
  have z : ¬ (x >>> (0 &&& 31)) &&& 1 = 1 := kHas_iff.mp h
  have e : (0 : Int32) &&& 31 = 0 := by decide
  rw [e, Int32.shiftRight_zero] at z
  have z' := (and1 x).resolve_right z
  have : x &&& (1 ^^^ (-1) ^^^ (-1)) = 0 := by
    have e2 : (1 : Int32) ^^^ (-1) ^^^ (-1) = 1 := by decide
    rw [e2]; exact z'
  rw [m2_not]
  exact keep_all this
theorem m2_m2 (x : Int32) : (x &&& (-2)) &&& (-2) = x &&& (-2) := by rw [Int32.and_assoc, Int32.and_self]
theorem has0 {x : Int32} : kHas x 0 = 0 ↔ ¬ x &&& 1 = 1 := by
  rw [kHas_iff]
  have e : (0 : Int32) &&& 31 = 0 := by decide
  rw [e, Int32.shiftRight_zero]
theorem or1 (x y : Int32) : ¬ (x ||| y) &&& 1 = 1 ↔ kHas x 0 = 0 ∧ kHas y 0 = 0 := by
  rw [has0, has0, or_and]
  rcases and1 x with e | e <;> rcases and1 y with f | f <;> rw [e, f] <;> decide
theorem pCopy_z {a c : Nat} {p : rP} (h : (pCopy1 a c p).1 = rZ) : pCopy a c p = pCopy1 a c p := by
  unfold pCopy pCopy3 pCopy2
  generalize pCopy1 a c p = q at h ⊢
  have e : (if kStore (q.1 a) (q.1 c) = 0 then q else pMay 5 q) = q := by
    split
    · rfl
    · exact pMay_z h
  rw [e, pKeep_z h, pKeep_z h, pMay_z h]
theorem my_mayCopy (C : YX Y d q n S D h) (ok : okS q.1) {a c : Nat} (ha : a < 12) (hc : c < 12) {Q : Int32 → aH → Prop} (hq : ∀ h' D' r, YO Y d (pCopy a c q) n S D' h' r → yOn Y d D D' → Q r h') : wX11_mayCopy h Y (nI d) (nI a) (nI c) Q := by
  obtain ⟨R, L, -⟩ := id C
  -- after the first question
  have k27 : ∀ (W' : rW) (D1 : sD) (h1 : aH), YX Y d (q.1, W') n S D1 h1 → yOn Y d D D1 → (pCopy1 a c q).2 = W' → wbX11_mayCopy_27 Y (nI d) (nI a) (nI c) h1 Q := by
    intro W' D1 h1 C1 O1 e2
    refine R_R C1.1 C1.2.1.1 rfl (my_now C1 ha (my_setNow C1 ha fun h2 D2 C2 O2 => R_R C2.1 C2.2.1.1 rfl (my_now C2 hc (my_setNow C2 hc fun h3 D3 C3 O3 => R_R C3.1 C3.2.1.1 rfl (my_now C3 ha ?_)))))
    have O03 := (O1.tr O2).tr O3
    simp only at C3
    show ((upd (upd q.1 a (q.1 a &&& (-2))) c (upd q.1 a (q.1 a &&& (-2)) c &&& (-2))) a = 0 → _) ∧ (¬ (upd (upd q.1 a (q.1 a &&& (-2))) c (upd q.1 a (q.1 a &&& (-2)) c &&& (-2))) a = 0 → _)
    have ec : upd q.1 a (q.1 a &&& (-2)) c &&& (-2) = q.1 c &&& (-2) := by
      simp only [upd]; split
      · rename_i e; rw [m2_m2, e]
      · rfl
    rw [ec] at C3 ⊢
    have eu : upd (upd q.1 a (q.1 a &&& (-2))) c (q.1 c &&& (-2)) = fun i => if i = a ∨ i = c then q.1 i &&& (-2) else q.1 i := by
      funext i; simp only [upd]
      by_cases e1 : i = c
      · rw [if_pos e1, if_pos (Or.inr e1), e1]
      · rw [if_neg e1]
        by_cases e3 : i = a
        · rw [if_pos e3, if_pos (Or.inl e3), e3]
        · rw [if_neg e3, if_neg (fun e => e.elim e3 e1)]
    rw [eu] at C3 ⊢
    show ((if a = a ∨ a = c then q.1 a &&& (-2) else q.1 a) = 0 → _) ∧ (¬ (if a = a ∨ a = c then q.1 a &&& (-2) else q.1 a) = 0 → _)
    rw [if_pos (Or.inl rfl)]
    -- what the first question leaves
    have e1 : (pCopy1 a c q).1 = if q.1 a &&& (-2) = 0 ∨ q.1 c &&& (-2) = 0 then rZ else fun i => if i = a ∨ i = c then q.1 i &&& (-2) else q.1 i := by
      unfold pCopy1
      by_cases z : kHas (q.1 a) 0 = 0 ∧ kHas (q.1 c) 0 = 0
      · have za := and_m2_id z.1
        have zc := and_m2_id z.2
        rw [if_pos z, za, zc, if_neg (fun e => e.elim (ok a).1 (ok c).1)]
        funext i
        split
        · rename_i e
          rcases e with e | e
          · rw [e, za]
          · rw [e, zc]
        · rfl
      · rw [if_neg z]
        show kp (kp q.1 a (-2)) c (-2) = _
        by_cases y : q.1 a &&& (-2) = 0
        · rw [if_pos (Or.inl y)]
          have : kp q.1 a (-2) = rZ := by unfold kp; rw [if_pos y]
          rw [this, kp_z]
        · have k1 : kp q.1 a (-2) = upd q.1 a (q.1 a &&& (-2)) := by unfold kp; rw [if_neg y]
          rw [k1]
          unfold kp
          rw [ec, eu]
          by_cases x : q.1 c &&& (-2) = 0
          · rw [if_pos x, if_pos (Or.inr x)]
          · rw [if_neg x, if_neg (fun e => e.elim y x)]
    refine ⟨fun z => ⟨Or.inl rfl, hq h3 D3 0 ?_ O03⟩, fun z => R_R C3.1 C3.2.1.1 rfl (my_now C3 hc ?_)⟩
    · rw [if_pos (Or.inl z)] at e1
      rw [pCopy_z e1]
      exact C3.off e1 e2
    · show (¬ (if c = a ∨ c = c then q.1 c &&& (-2) else q.1 c) = 0 → _) ∧ ((if c = a ∨ c = c then q.1 c &&& (-2) else q.1 c) = 0 → _)
      rw [if_pos (Or.inr rfl)]
      refine ⟨fun y => ⟨10, ?_⟩, fun y => ⟨Or.inl rfl, hq h3 D3 0 ?_ O03⟩⟩
      · rw [if_neg (fun e => e.elim z y), ← eu] at e1
        rw [← eu] at C3
        have okq : okS (pCopy1 a c q).1 := by
          rw [e1]
          exact (ok.up z (by rw [and_sw, (ok a).2])).up y (by rw [and_sw, (ok c).2])
        have ea : (pCopy1 a c q).1 a = q.1 a &&& (-2) := by
          rw [e1, eu]
          show (if a = a ∨ a = c then q.1 a &&& (-2) else q.1 a) = _
          rw [if_pos (Or.inl rfl)]
        have ecc : (pCopy1 a c q).1 c = q.1 c &&& (-2) := by
          rw [e1, eu]
          show (if c = a ∨ c = c then q.1 c &&& (-2) else q.1 c) = _
          rw [if_pos (Or.inr rfl)]
        have C3' : YX Y d (pCopy1 a c q) n S D3 h3 := by
          have : pCopy1 a c q = (upd (upd q.1 a (q.1 a &&& (-2))) c (q.1 c &&& (-2)), W') := Prod.ext e1 e2
          rw [this]; exact C3
        unfold pCopy at hq
        have eva : (pCopy1 a c q).1 a &&& (-2) = (pCopy1 a c q).1 a := by rw [ea, m2_m2]
        have evc : (pCopy1 a c q).1 c &&& (-2) = (pCopy1 a c q).1 c := by rw [ecc, m2_m2]
        generalize pCopy1 a c q = q1 at C3' okq hq eva evc
        obtain ⟨A, hA, eA⟩ := even10 (okq a).2 eva
        obtain ⟨B, hB, eB⟩ := even10 (okq c).2 evc
        refine my_cOu C3' ha hc 9 1 (0, 0, 0) rfl fun t' et => ?_
        obtain ⟨x1, x2, x3, x4⟩ := cOu_all hA hB
        rw [← eA, ← eB, ← et] at x1 x2 x3
        rw [← eA, ← eB] at x4
        have sa : q1.1 a &&& kMeeting (q1.1 a) (q1.1 c) = kMeeting (q1.1 a) (q1.1 c) := by
          rw [Int32.and_comm, eA]; exact kMeet_sub (by omega)
        have sc : q1.1 c &&& kMeeting (q1.1 c) (q1.1 a) = kMeeting (q1.1 c) (q1.1 a) := by
          rw [Int32.and_comm, eB]; exact kMeet_sub (by omega)
        rw [x1, x2]
        -- the end
        have k229 : ∀ (D4 : sD) (h4 : aH) (q2 : rP), YX Y d q2 n S D4 h4 → yOn Y d D D4 → q2.1 = q1.1 → (∀ h' D' r, YO Y d (pCopy3 a c (q1.1 a) (q1.1 c) q2) n S D' h' r → yOn Y d D D' → Q r h') → wbX11_mayCopy_229 Y (nI d) (nI a) (nI c) (kMeeting (q1.1 a) (q1.1 c)) (kMeeting (q1.1 c) (q1.1 a)) h4 Q := by
          intro D4 h4 q2 C4 O4 eq1 hq4
          have ok2 : okS q2.1 := by rw [eq1]; exact okq
          refine R_R C4.1 C4.2.1.1 rfl (my_setNow C4 ha fun h5 D5 C5 O5 => R_R C5.1 C5.2.1.1 rfl (my_setNow C5 hc fun h6 D6 C6 O6 => ?_))
          have O06 := (O4.tr O5).tr O6
          unfold pCopy3 at hq4
          refine ⟨fun w => R_O C6.1 C6.2.1.1 (my_mayFail (f := 3) C6 (by omega) fun h7 D7 C7 O7 => ⟨Or.inr rfl, hq4 h7 D7 1 ?_ (O06.tr O7)⟩), fun w => ⟨Or.inl rfl, hq4 h6 D6 0 ?_ O06⟩⟩
          · have w2 : ¬ kMeeting (q1.1 c) (q1.1 a) = 0 := fun e => w (x4.mpr e)
            have p1 : pKeep a (kMeeting (q1.1 a) (q1.1 c)) q2 = (upd q2.1 a (kMeeting (q1.1 a) (q1.1 c)), q2.2) := by
              unfold pKeep kp; rw [eq1, sa, if_neg w]
            have p2 : pKeep c (kMeeting (q1.1 c) (q1.1 a)) (upd q2.1 a (kMeeting (q1.1 a) (q1.1 c)), q2.2) = (upd (upd q2.1 a (kMeeting (q1.1 a) (q1.1 c))) c (kMeeting (q1.1 c) (q1.1 a)), q2.2) := by
              unfold pKeep kp
              have : upd q2.1 a (kMeeting (q1.1 a) (q1.1 c)) c &&& kMeeting (q1.1 c) (q1.1 a) = kMeeting (q1.1 c) (q1.1 a) := by
                simp only [upd]; split
                · rename_i e; subst e; rw [Int32.and_self]
                · rw [eq1]; exact sc
              simp only
              rw [this, if_neg w2]
            rw [p1, p2]
            refine C7.on ?_
            refine (ok2.up w ?_).up w2 ?_
            · rw [← sa, and_sw, (okq a).2]
            · rw [← sc, and_sw, (okq c).2]
          · have p1 : pKeep a (kMeeting (q1.1 a) (q1.1 c)) q2 = (rZ, q2.2) := by
              unfold pKeep kp; rw [eq1, sa, if_pos w]
            rw [p1, pKeep_z rfl, pMay_z rfl]
            exact C6.off rfl rfl
        unfold pCopy2 at hq
        refine ⟨fun w => k229 D3 h3 q1 C3' O03 rfl ?_, fun w => R_O C3'.1 C3'.2.1.1 (my_mayFail (f := 5) C3' (by omega) fun h4 D4 C4 O4 => k229 D4 h4 _ C4 (O03.tr O4) rfl ?_)⟩
        · rw [if_pos (x3.mp w)] at hq; exact hq
        · rw [if_neg (fun e => w (x3.mpr e))] at hq; exact hq
      · rw [if_pos (Or.inr y)] at e1
        rw [pCopy_z e1]
        exact C3.off e1 e2
  refine R_R R L.1 rfl (my_now C ha (R_R R L.1 rfl (my_now C hc ⟨fun z => k27 q.2 D h C yOn.rf ?_, fun z => R_O R L.1 (my_mayFail (f := 1) C (by omega) fun h1 D1 C1 O1 => k27 _ D1 h1 C1 O1 ?_)⟩)))
  · unfold pCopy1; rw [if_pos ((or1 _ _).mp z)]
  · unfold pCopy1; rw [if_neg (fun e => (or1 _ _).mpr e z)]
    rfl
end MY3
