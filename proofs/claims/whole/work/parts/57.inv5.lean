/-! forget, run, ran, clear, count, slot, item, register, given -/
def rD0 : rD := (fun _ _ => 0, fun _ => 0, fun _ => 0, fun _ => 0)
theorem rOk_0 {cnt : Nat} : rOk cnt rD0 := ⟨fun _ _ => ⟨fun _ => rfl, rfl, rfl, rfl⟩, fun _ _ => rfl⟩
section CL2
variable {X Y cnt n : Nat} {P : Nat → Nat} {N : nT} {M : mT} {ρ : rD} {gs : rS} {S : sS} {D : sD} {h : aH}
theorem cc_forget_loop (C : CI X cnt P N M ρ gs n S D h) {Q : Int32 → aH → Prop} (hq : ∀ h' D', CI X 0 P N M rD0 gs n S D' h' → inC (X + 12) S D S D' → Q (nI cnt) h') : ∀ (j i : Nat) (D1 : sD) (h1 : aH), j + i = 80 → HR n S D1 h1 → D1.1 = D.1 → D1.2.1 = D.2.1 → D1.2.2.1 = D.2.2.1 → (∀ a, a ≠ X + 9 → D1.2.2.2 a = D.2.2.2 a) → wbX10_forget_7 (j + 1) X (nI cnt) (nI i) h1 Q
  | 0, i, D1, h1, hi, R1, e1, e2, e3, e4 => by
    have e : i = 80 := by omega
    subst e
    obtain ⟨c1, c2, c3, c4, c5, c6, c7, c8, c9, c10, c11, c12, c13⟩ := C
    refine ⟨fun _ => R_wF R1 c2.1 rfl fun h2 R2 => ?_, fun z => absurd (nI_le (Nat.le_refl 80) (by omega)) z⟩
    have o1 : ∀ a, a ≠ X → (uO D1 X 3 0).1 a = D.1 a := fun a ha => by simp [uO, va_up, ha, e1]
    refine hq h2 _ ⟨⟨R2, c1.2.1, c1.2.2.1.eq fun a g1 g2 => ⟨o1 a (by omega), by show D1.2.1 a = _; rw [e2], by show D1.2.2.1 a = _; rw [e3]⟩, c1.2.2.2⟩, c2, c3, fun m hm => absurd hm (Nat.not_lt_zero m), fun i j _ hj => absurd hj (Nat.not_lt_zero j), fun m hm => absurd hm (Nat.not_lt_zero m), c7, by rw [uO_at, if_pos rfl]; rfl, fun m hm => absurd hm (Nat.not_lt_zero m), c10.cg (by show D1.2.1 _ = _; rw [e2]), c11, fun m hm => absurd hm (Nat.not_lt_zero m), by omega⟩ fun a g1 g2 => ⟨rfl, o1 a (by omega), by show D1.2.1 a = _; rw [e2], by show D1.2.2.1 a = _; rw [e3], e4 a (by omega)⟩
  | j + 1, i, D1, h1, hi, R1, e1, e2, e3, e4 => by
    refine ⟨fun z => absurd ((nI_leI (a := 80) (by omega) (by omega)).mp z) (by omega), fun _ => R_R R1 C.s0 rfl (R_sN R1 C.2.1.2.1 (vp_in_nI (by omega) (by omega)) fun h2 R2 => ?_)⟩
    show wbX10_forget_7 (j + 1) X (nI cnt) (nI i + 1) h2 Q
    rw [nI_1]
    exact cc_forget_loop C hq j (i + 1) _ h2 (by omega) R2 e1 e2 e3 (fun a ha => by simp only [uP, va_up, if_neg ha]; exact e4 a ha)
theorem cc_forget (C : CI X cnt P N M ρ gs n S D h) {Q : Int32 → aH → Prop} (hq : ∀ h' D', CI X 0 P N M rD0 gs n S D' h' → inC (X + 12) S D S D' → Q (nI cnt) h') : wX10_forget h X Q := by
  refine R_I C.R C.s0 rfl ?_
  rw [C.cn]
  exact ⟨81, cc_forget_loop C hq 80 0 D h rfl C.R rfl rfl rfl (fun _ _ => rfl)⟩
theorem mm_forget (C : MI Y cnt N M ρ gs n S D h) {Q : Int32 → aH → Prop} (hq : ∀ h' D', MI Y 0 N M rD0 gs n S D' h' → inM Y D D' → Q (nI cnt) h') : wX11_forget h Y Q := by
  obtain ⟨⟨⟨R, L, mr, mi⟩, nd, c80⟩, so1, fl⟩ := C
  refine R_I R L.1 rfl ?_
  rw [nd.1]
  refine R_wF R L.1 rfl fun h1 R1 => R_wF R1 L.1 rfl fun h2 R2 => hq h2 _ ⟨⟨⟨R2, L, mr.eq2 (fun k hk => by rw [uO_at, if_neg (by omega), uO_at, if_neg (by omega)]) (fun _ _ _ => ⟨rfl, rfl⟩), mi⟩, ⟨by rw [uO_at, if_neg (by omega), uO_at, if_pos rfl]; rfl, fun m hm => absurd hm (Nat.not_lt_zero m)⟩, by omega⟩, so1, Or.inl ⟨by rw [uO_at, if_pos rfl], fun _ => rfl⟩⟩ (inM.O.tr inM.O)
/-! run -/
def mBeg (M : mT) : mT := mSetCn (mSetCn (mSetCn (mSetCn (mSetCn (mSetCn M 0 0) 1 0) 2 0) 3 0) 4 0) 5 (-1)
theorem cc_nodeRow (C : CI X cnt P N M ρ gs n S D h) {s : Nat} (hs : s < cnt) {K : Nat → Prop} (hK : K (P s)) : rR h X 8 1 (fun r => aR h 3 r (nI s) K) := by
  have c80 := C.c80
  refine R_R C.R C.s0 rfl (R_aR3 C.R C.2.1.2.1 (vp_in_nI (by omega) (by omega)) (b := P s) ?_ hK)
  rw [nI_clamp (by omega)]; exact C.2.2.2.2.2.2.2.2.1 s hs
theorem cc_run (C : CI X cnt P N M ρ gs n S D h) {v : Int32} {Q : Int32 → aH → Prop} (q0 : ¬ nS v cnt → Q (-1) h) (q1 : ∀ s, s < cnt → v = nI s → ∀ h' D', CI X cnt P N (runS N 85 s (mBeg M)).2 ρ gs n S D' h' → inC (X + 12) S D S D' → Q (runS N 85 s (mBeg M)).1 h') : wX10_run (RdN 85) h X v Q := by
  refine cc_isNode C (fun nv => ⟨fun _ => ?_, fun w => absurd w (by decide)⟩) (fun nv => ⟨fun w => absurd rfl w, fun _ => q0 nv⟩)
  obtain ⟨s, hs, rfl⟩ := nv
  have c80 := C.c80
  refine R_R C.R C.s0 rfl (R_O C.R C.1.2.1.1 ?_)
  refine sc_setCn (k := 0) C.1 (by omega) fun h1 D1 C1 O1 => sc_setCn (k := 1) C1 (by omega) fun h2 D2 C2 O2 => sc_setCn (k := 2) C2 (by omega) fun h3 D3 C3 O3 => sc_setCn (k := 3) C3 (by omega) fun h4 D4 C4 O4 => sc_setCn (k := 4) C4 (by omega) fun h5 D5 C5 O5 => sc_setCn (k := 5) C5 (by omega) fun h6 D6 C6 O6 => ?_
  have O06 := ((((O1.tr O2).tr O3).tr O4).tr O5).tr O6
  have C6' : CI X cnt P N (mBeg M) ρ gs n S D6 h6 := C.m C6 O06
  obtain ⟨o, hp, L, dd⟩ := C6'.W s hs
  refine cc_nodeRow C6' hs (R_R C6'.R C6'.s0 rfl (R_N C6'.R L.1 o.s4 ?_))
  refine sc_run c80 85 s (mBeg M) D6 h6 _ (by omega) hs C6'.W C6'.1 fun h7 D7 C7 O7 => q1 s hs rfl h7 D7 (C6'.m C7 O7) (O06.tr O7).i
theorem mm_run (C : MI Y cnt N M ρ gs n S D h) {v : Int32} {Q : Int32 → aH → Prop} (q0 : ¬ nS v cnt → Q (-1) h) (q1 : ∀ s, s < cnt → v = nI s → ∀ h' D', MI Y cnt N (runS N 85 s (mBeg M)).2 ρ gs n S D' h' → inM Y D D' → Q (runS N 85 s (mBeg M)).1 h') : wX11_run h Y v Q := by
  refine mm_isNode C (fun nv => ⟨fun _ => ?_, fun w => absurd w (by decide)⟩) (fun nv => ⟨fun w => absurd rfl w, fun _ => q0 nv⟩)
  obtain ⟨s, hs, rfl⟩ := nv
  have c80 := C.c80
  refine sm_setCn (k := 0) C.1.1 (by omega) fun h1 D1 C1 O1 => sm_setCn (k := 1) C1 (by omega) fun h2 D2 C2 O2 => sm_setCn (k := 2) C2 (by omega) fun h3 D3 C3 O3 => sm_setCn (k := 3) C3 (by omega) fun h4 D4 C4 O4 => sm_setCn (k := 4) C4 (by omega) fun h5 D5 C5 O5 => sm_setCn (k := 5) C5 (by omega) fun h6 D6 C6 O6 => R_O C6.1 C6.2.1.1 ?_
  have O06 := ((((O1.tr O2).tr O3).tr O4).tr O5).tr O6
  have C6' : MI Y cnt N (mBeg M) ρ gs n S D6 h6 := C.m C6 O06
  refine sm_setTop C6'.1 0 fun h7 D7 C7 O7 e7 _ => R_O C7.1.1 C7.1.2.1.1 ?_
  refine sm_push (d := 0) C7 e7 (by omega) (by decide) fun h8 D8 C8 O8 e8 s8 => ⟨stpS N 85 s (mBeg M) + 1, ?_⟩
  refine sm_run 85 s 0 (mBeg M) D8 h8 0 1 Q (by omega) hs (by omega) C8 e8 s8 fun h9 D9 C9 O9 e9 => ?_
  have e9' : D9.1 Y 27 = -1 := by rw [e9]; decide
  have O9' := (O7.tr O8).tr O9
  exact sm_top C9 e9' ⟨fun _ => q1 s hs rfl h9 D9 (C6'.r C9 O9') (O06.i.tr O9'.i), fun z => absurd (by decide) z⟩
/-! ran -/
def ranA (M : mT) (v : Int32) : Int32 := if v.toInt < 0 ∨ 5 < v.toInt then -1 else mCn M v.toInt.toNat
theorem cc_ran (C : CI X cnt P N M ρ gs n S D h) {v : Int32} {Q : Int32 → aH → Prop} (hq : Q (ranA M v) h) : wX10_ran h X v Q := by
  unfold ranA at hq
  have k : ∀ j : Nat, j < 6 → v.toInt = (j : Int) → Q (mCn M j) h := by
    intro j hj e
    rw [if_neg (by omega), e] at hq; exact hq
  refine ⟨fun z => by rw [if_pos z] at hq; exact hq, fun z => ?_, fun z => ?_, fun z => ?_, fun z => ?_, fun z => ?_, fun z => ?_⟩
  · exact R_R C.R C.s0 rfl (sc_cn (k := 0) C.1 (by omega) (k 0 (by omega) z))
  · exact R_R C.R C.s0 rfl (sc_cn (k := 1) C.1 (by omega) (k 1 (by omega) z))
  · exact R_R C.R C.s0 rfl (sc_cn (k := 2) C.1 (by omega) (k 2 (by omega) z))
  · exact R_R C.R C.s0 rfl (sc_cn (k := 3) C.1 (by omega) (k 3 (by omega) z))
  · exact R_R C.R C.s0 rfl (sc_cn (k := 4) C.1 (by omega) (k 4 (by omega) z))
  · exact R_R C.R C.s0 rfl (sc_cn (k := 5) C.1 (by omega) (k 5 (by omega) z))
theorem mm_ran (C : MI Y cnt N M ρ gs n S D h) {v : Int32} {Q : Int32 → aH → Prop} (hq : Q (ranA M v) h) : wX11_ran h Y v Q := by
  unfold ranA at hq
  have k : ∀ j : Nat, j < 6 → v.toInt = (j : Int) → Q (mCn M j) h := by
    intro j hj e
    rw [if_neg (by omega), e] at hq; exact hq
  refine ⟨fun z => by rw [if_pos z] at hq; exact hq, fun z => ?_, fun z => ?_, fun z => ?_, fun z => ?_, fun z => ?_, fun z => ?_⟩
  · exact sm_cn (k := 0) C.1.1 (by omega) (k 0 (by omega) z)
  · exact sm_cn (k := 1) C.1.1 (by omega) (k 1 (by omega) z)
  · exact sm_cn (k := 2) C.1.1 (by omega) (k 2 (by omega) z)
  · exact sm_cn (k := 3) C.1.1 (by omega) (k 3 (by omega) z)
  · exact sm_cn (k := 4) C.1.1 (by omega) (k 4 (by omega) z)
  · exact sm_cn (k := 5) C.1.1 (by omega) (k 5 (by omega) z)
/-! clear -/
def mClr (M : mT) : mT := ((0, 0), mKd M, mBg M, mLn M, mNm M, mIt M, fun _ => 0, fun _ => 0, mCn M)
theorem not_rw0 : ¬ isRw 0 := fun e => absurd e.1 (by decide)
theorem mClr_inv (I : mInv M) : mInv (mClr M) := by
  obtain ⟨i1, i2, i3, i4, i5, i6, i7, i8⟩ := I
  refine ⟨Nat.zero_le _, Nat.zero_le _, i3, fun t h1 h2 => ?_, fun t h1 h2 => ?_, fun t u h1 h2 h3 => ?_, fun s hs => Nat.le_refl _, fun t h1 h2 => ?_⟩
  all_goals exfalso
  all_goals first | exact absurd (Nat.le_trans h1 h2) (by show ¬ 1 ≤ 0; omega) | exact absurd (Nat.le_trans (Nat.le_trans h1 (Nat.le_of_lt h2)) h3) (by show ¬ 1 ≤ 0; omega)
theorem cc_clear (C : CI X cnt P N M ρ gs n S D h) {Q : Int32 → aH → Prop} (hq : ∀ h' D', CI X cnt P N (mClr M) ρ gs n S D' h' → inC (X + 12) S D S D' → Q (nI (mMade M)) h') : wX10_clear h X Q := by
  obtain ⟨R, L, r, I⟩ := id C.1
  refine R_R R C.s0 rfl (R_O R L.1 (R_R R L.1 rfl (sj_fillI (by omega) L.2.2.2.2.2.2.1 R fun h1 R1 => R_R R1 L.1 rfl (sj_fillL (by omega) L.2.2.2.2.2.2.2 R1 fun h2 R2 => R_R R2 L.1 rfl (R_O R2 L.2.1 (R_I R2 L.2.1 rfl ?_))))))
  have O2 : cOut X D (uB (uF D (X + 7) (fun k => if k < 12 then 0 else D.2.1 (X + 7) k)) (X + 8) (fun k => if k < 8 then 0 else (uF D (X + 7) (fun k => if k < 12 then 0 else D.2.1 (X + 7) k)).2.2.1 (X + 8) k)) := (cOut.F (by omega)).tr (cOut.B (by omega))
  have e7 : (uB (uF D (X + 7) (fun k => if k < 12 then 0 else D.2.1 (X + 7) k)) (X + 8) (fun k => if k < 8 then 0 else (uF D (X + 7) (fun k => if k < 12 then 0 else D.2.1 (X + 7) k)).2.2.1 (X + 8) k)).2.1 (X + 7) = (fun k => if k < 12 then 0 else D.2.1 (X + 7) k) := uF_at
  have e8 : (uB (uF D (X + 7) (fun k => if k < 12 then 0 else D.2.1 (X + 7) k)) (X + 8) (fun k => if k < 8 then 0 else (uF D (X + 7) (fun k => if k < 12 then 0 else D.2.1 (X + 7) k)).2.2.1 (X + 8) k)).2.2.1 (X + 8) = (fun k => if k < 8 then 0 else D.2.2.1 (X + 8) k) := uB_at
  have eo : (uB (uF D (X + 7) (fun k => if k < 12 then 0 else D.2.1 (X + 7) k)) (X + 8) (fun k => if k < 8 then 0 else (uF D (X + 7) (fun k => if k < 12 then 0 else D.2.1 (X + 7) k)).2.2.1 (X + 8) k)).1 = D.1 := rfl
  have ef : ∀ a, a ≠ X + 7 → (uB (uF D (X + 7) (fun k => if k < 12 then 0 else D.2.1 (X + 7) k)) (X + 8) (fun k => if k < 8 then 0 else (uF D (X + 7) (fun k => if k < 12 then 0 else D.2.1 (X + 7) k)).2.2.1 (X + 8) k)).2.1 a = D.2.1 a := fun a ha => uF_ne ha
  have eb : (uB (uF D (X + 7) (fun k => if k < 12 then 0 else D.2.1 (X + 7) k)) (X + 8) (fun k => if k < 8 then 0 else (uF D (X + 7) (fun k => if k < 12 then 0 else D.2.1 (X + 7) k)).2.2.1 (X + 8) k)).2.2.1 (X + 6) = D.2.2.1 (X + 6) := by simp [uB, uF, va_up]
  generalize uB (uF D (X + 7) (fun k => if k < 12 then 0 else D.2.1 (X + 7) k)) (X + 8) (fun k => if k < 8 then 0 else (uF D (X + 7) (fun k => if k < 12 then 0 else D.2.1 (X + 7) k)).2.2.1 (X + 8) k) = D2 at R2 O2 e7 e8 eo ef eb
  rw [eo, C.1.rMade]
  refine R_wF R2 L.2.1 rfl fun h3 R3 => R_wF R3 L.2.1 rfl fun h4 R4 => ?_
  have O4 : cOut X D (uO (uO D2 (X + 2) 4 0) (X + 2) 5 0) := (O2.tr (cOut.O (by omega))).tr (cOut.O (by omega))
  refine hq h4 _ (C.m ⟨R4, L, ?_, mClr_inv I⟩ O4) O4.i
  obtain ⟨r1, r2, r3, r4, r5, r6, r7, r8, r9⟩ := r
  have k0 : mKd M 0 = 0 := C.1.kd0
  refine ⟨?_, ?_, fun t ht => ?_, fun t ht hr => ?_, fun t ht hr h0 => ?_, fun j hj => ?_, fun s hs => ?_, fun q hq => ?_, fun k hk => ?_⟩
  · rw [uO_at, if_neg (by omega), uO_at, if_pos rfl]; rfl
  · rw [uO_at, if_pos rfl]; rfl
  · have ht : t ≤ 0 := ht
    show D2.2.1 (X + 3) t = mKd M t
    rw [ef _ (by omega)]; exact r3 t (by omega)
  · have ht : t ≤ 0 := ht
    have : t = 0 := by omega
    subst this
    have hr : isRw (mKd M 0) := hr
    rw [k0] at hr; exact absurd hr not_rw0
  · have ht : t ≤ 0 := ht
    omega
  · show D2.2.2.1 (X + 6) j = mIt M j
    rw [eb]; exact r6 j hj
  · show D2.2.1 (X + 7) s = nI 0
    rw [e7]; simp only [if_pos hs]; rfl
  · show D2.2.2.1 (X + 8) q = 0
    rw [e8]; simp only [if_pos hq]
  · have : (uO (uO D2 (X + 2) 4 0) (X + 2) 5 0).1 (X + 1) = D.1 (X + 1) := by simp [uO, va_up, eo]
    rw [this]; exact r9 k hk
theorem mm_clr38 {Q : Int32 → aH → Prop} {v1 : Int32} (L : LayM Y S) {D0 : sD} (hq : ∀ h' D', HR n S D' h' → D' = uB D0 (Y + 7) (fun k => if k < 8 then 0 else D0.2.2.1 (Y + 7) k) → Q v1 h') : ∀ (j i : Nat) (D1 : sD) (h1 : aH), j + i = 8 → HR n S D1 h1 → D1 = uB D0 (Y + 7) (fun k => if k < i then 0 else D0.2.2.1 (Y + 7) k) → wbX11_clear_38 (j + 1) Y v1 (nI i) h1 Q
  | 0, i, D1, h1, hi, R1, e1 => by
    have e : i = 8 := by omega
    subst e
    exact ⟨fun _ => hq h1 D1 R1 e1, fun z => absurd (nI_le (Nat.le_refl 8) (by omega)) z⟩
  | j + 1, i, D1, h1, hi, R1, e1 => by
    refine ⟨fun z => absurd ((nI_leI (a := 8) (by omega) (by omega)).mp z) (by omega), fun _ => R_R R1 L.1 rfl (R_sL R1 L.s7 (vp_in_nI (by omega) (by omega)) fun h2 R2 => ?_)⟩
    rw [nI_clamp (by omega)] at R2
    show wbX11_clear_38 (j + 1) Y v1 (nI i + 1) h2 Q
    rw [nI_1]
    refine mm_clr38 L hq j (i + 1) _ h2 (by omega) R2 ?_
    rw [e1, uB_at, uB_uB]
    congr 1
    funext k
    simp only [vp_updL]
    by_cases e : k = i
    · rw [if_pos e, if_pos (by omega)]
    · rw [if_neg e]
      by_cases e2 : k < i
      · rw [if_pos e2, if_pos (by omega)]
      · rw [if_neg e2, if_neg (by omega)]
theorem mm_clr17 {Q : Int32 → aH → Prop} {v1 : Int32} (L : LayM Y S) {D0 : sD} (hq : ∀ h' D', HR n S D' h' → D' = uF D0 (Y + 6) (fun k => if k < 12 then 0 else D0.2.1 (Y + 6) k) → ∃ m, wbX11_clear_38 m Y v1 0 h' Q) : ∀ (j i : Nat) (D1 : sD) (h1 : aH), j + i = 12 → HR n S D1 h1 → D1 = uF D0 (Y + 6) (fun k => if k < i then 0 else D0.2.1 (Y + 6) k) → wbX11_clear_17 (j + 1) Y v1 (nI i) h1 Q
  | 0, i, D1, h1, hi, R1, e1 => by
    have e : i = 12 := by omega
    subst e
    exact ⟨fun _ => hq h1 D1 R1 e1, fun z => absurd (nI_le (Nat.le_refl 12) (by omega)) z⟩
  | j + 1, i, D1, h1, hi, R1, e1 => by
    refine ⟨fun z => absurd ((nI_leI (a := 12) (by omega) (by omega)).mp z) (by omega), fun _ => R_R R1 L.1 rfl (R_sI R1 L.s6 (vp_in_nI (by omega) (by omega)) fun h2 R2 => ?_)⟩
    rw [nI_clamp (by omega)] at R2
    show wbX11_clear_17 (j + 1) Y v1 (nI i + 1) h2 Q
    rw [nI_1]
    refine mm_clr17 L hq j (i + 1) _ h2 (by omega) R2 ?_
    rw [e1, uF_at, uF_uF]
    congr 1
    funext k
    simp only [upd]
    by_cases e : k = i
    · rw [if_pos e, if_pos (by omega)]
    · rw [if_neg e]
      by_cases e2 : k < i
      · rw [if_pos e2, if_pos (by omega)]
      · rw [if_neg e2, if_neg (by omega)]
theorem mm_clear (C : MI Y cnt N M ρ gs n S D h) {Q : Int32 → aH → Prop} (hq : ∀ h' D', MI Y cnt N (mClr M) ρ gs n S D' h' → inM Y D D' → Q (nI (mMade M)) h') : wX11_clear h Y Q := by
  obtain ⟨R, L, r, I⟩ := id C.1.1
  have k0 : mKd M 0 = 0 := I.2.2.1
  refine R_I R L.1 rfl ?_
  rw [r.1]
  refine R_wF R L.1 rfl fun h1 R1 => R_wF R1 L.1 rfl fun h2 R2 => ⟨13, ?_⟩
  refine mm_clr17 L (D0 := uO (uO D Y 0 0) Y 1 0) (fun h3 D3 R3 e3 => ⟨9, mm_clr38 L (D0 := D3) (fun h4 D4 R4 e4 => ?_) 8 0 D3 h3 rfl R3 ?_⟩) 12 0 _ h2 rfl R2 ?_
  · have o2 : mOut Y D (uO (uO D Y 0 0) Y 1 0) := (mOut.O (by omega)).tr (mOut.O (by omega))
    have o3 : mOut Y (uO (uO D Y 0 0) Y 1 0) D3 := by rw [e3]; exact mOut.F (by omega)
    have o4 : mOut Y D3 D4 := by rw [e4]; exact mOut.B (Or.inl (by omega))
    have O4 := (o2.tr o3).tr o4
    have d4 : D4.1 = (uO (uO D Y 0 0) Y 1 0).1 := by rw [e4, e3]; rfl
    have f4 : D4.2.1 = D3.2.1 := by rw [e4]; rfl
    have f3 : D3.2.1 (Y + 6) = fun k => if k < 12 then 0 else D.2.1 (Y + 6) k := by rw [e3]; exact uF_at
    have f3' : ∀ a, a ≠ Y + 6 → D3.2.1 a = D.2.1 a := fun a ha => by rw [e3]; exact uF_ne ha
    have g4 : D4.2.2.1 (Y + 7) = fun k => if k < 8 then 0 else D3.2.2.1 (Y + 7) k := by rw [e4]; exact uB_at
    have g4' : D4.2.2.1 (Y + 5) = D.2.2.1 (Y + 5) := by rw [e4, e3]; simp [uB, uF, uO, va_up]
    refine hq h4 D4 (C.m ⟨R4, L, ?_, mClr_inv I⟩ O4) O4.i
    obtain ⟨r1, r2, r3, r4, r5, r6, r7, r8, r9⟩ := r
    refine ⟨?_, ?_, fun t ht => ?_, fun t ht hr => ?_, fun t ht hr h0 => ?_, fun j hj => ?_, fun s hs => ?_, fun q hq => ?_, fun k hk => ?_⟩
    · rw [d4, uO_at, if_neg (by omega), uO_at, if_pos rfl]; rfl
    · rw [d4, uO_at, if_pos rfl]; rfl
    · have ht : t ≤ 0 := ht
      show D4.2.1 (Y + 1) t = mKd M t
      rw [f4, f3' _ (by omega)]; exact r3 t (by omega)
    · have ht : t ≤ 0 := ht
      have : t = 0 := by omega
      subst this
      have hr : isRw (mKd M 0) := hr
      rw [k0] at hr; exact absurd hr not_rw0
    · have ht : t ≤ 0 := ht
      omega
    · show D4.2.2.1 (Y + 5) j = mIt M j
      rw [g4']; exact r6 j hj
    · show D4.2.1 (Y + 6) s = nI 0
      rw [f4, f3]; simp only [if_pos hs]; rfl
    · show D4.2.2.1 (Y + 7) q = 0
      rw [g4]; simp only [if_pos hq]
    · rw [d4, uO_at, if_neg (by omega), uO_at, if_neg (by omega)]; exact r9 k hk
  · have : (fun k => if k < 0 then (0 : Int64) else D3.2.2.1 (Y + 7) k) = D3.2.2.1 (Y + 7) := by funext k; rw [if_neg (Nat.not_lt_zero k)]
    rw [this, uB_self]
  · have : (fun k => if k < 0 then (0 : Int32) else (uO (uO D Y 0 0) Y 1 0).2.1 (Y + 6) k) = (uO (uO D Y 0 0) Y 1 0).2.1 (Y + 6) := by funext k; rw [if_neg (Nat.not_lt_zero k)]
    rw [this, uF_self]
end CL2
