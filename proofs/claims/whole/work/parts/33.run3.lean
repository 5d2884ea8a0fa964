section MR3
variable {Y n cnt : Nat} {N : nT} {M : mT} {S : sS} {D : sD} {h : aH}
theorem sm_g0 (C : RM Y cnt N M n S D h) {m d : Nat} {r q u : Int32} (hm : m < cnt) (hd : d + 1 < 82) (ht : D.1 Y 27 = nI d) (sa : sAt Y D d u 0 q) {Q : Int32 → aH → Prop}
    (q0 : ∀ h' D', RM Y cnt N M n S D' h' → rOut Y d D D' → D'.1 Y 27 = nI (d + 1) → sAt Y D' (d + 1) (nA N m) 0 0 → sAt Y D' d u 1 q → Q 0 h') : wX11_ofGuard h Y (nI m) r Q := by
  obtain ⟨R, L, -⟩ := id C.1
  exact R_R R L.1 rfl (sm_top C ht (sm_ph C (by omega) sa.2.1 ⟨fun z => absurd rfl z, fun _ => R_R R L.1 rfl (sm_nA C hm (R_O R L.1 (sm_step C ht hd sa q0)))⟩))
theorem sm_g157 (C : RM Y cnt N M n S D h) {m d : Nat} {f p q u : Int32} (hm : m < cnt) (hd : d + 1 < 82) (ht : D.1 Y 27 = nI d) (sa : sAt Y D d u p q) {Q : Int32 → aH → Prop}
    (qd : 0 ≤ nD N m → ∀ h' D', RM Y cnt N (mSetCn M 3 (mCn M 3 + 1)) n S D' h' → rOut Y d D D' → D'.1 Y 27 = nI (d + 1) → sAt Y D' (d + 1) (nD N m) 0 0 → sAt Y D' d u 3 f → Q 0 h')
    (qn : ¬ 0 ≤ nD N m → ∀ h' D', RM Y cnt N M n S D' h' → rOut Y d D D' → D'.1 Y 27 = nI d - 1 → Q f h') : wbX11_ofGuard_157 Y (nI m) f h Q := by
  obtain ⟨R, L, -⟩ := id C.1
  refine R_R R L.1 rfl (sm_nD C hm ⟨fun z => sm_cn (k := 3) C.1 (by omega) (sm_setCn (k := 3) C.1 (by omega) fun h1 D1 C1 O1 => ?_), fun z => sm_pop C ht (qn z)⟩)
  have C1' := C.m C1 O1
  have t1 : D1.1 Y 27 = nI d := (O1.2 27 (by omega)).trans ht
  have s1 : sAt Y D1 d u p q := by
    obtain ⟨g1, g2, g3⟩ := (O1.r (d := d + 1)).2.2 d (by omega)
    exact ⟨g1.trans sa.1, g2.trans sa.2.1, g3.trans sa.2.2⟩
  refine R_R C1.1 C1.2.1.1 rfl (sm_top C1' t1 (sm_setStk C1' (by omega) (Or.inr (Or.inr rfl)) fun h2 D2 C2 O2 f2 => ?_))
  have t2 : D2.1 Y 27 = nI d := by rw [f2]; exact t1
  have s2 : sAt Y D2 d u p f := by
    subst f2
    refine ⟨?_, ?_, ?_⟩
    · simp [uF, va_up, upd]; exact s1.1
    · simp [uF, va_up, upd]; exact s1.2.1
    · simp [uF, va_up, upd]
  exact R_R C2.1.1 C2.1.2.1.1 rfl (sm_nD C2 hm (R_O C2.1.1 C2.1.2.1.1 (sm_step C2 t2 hd s2 fun h3 D3 C3 O3 t3 s3 s3' => qd z h3 D3 C3 ((O1.r.tr O2).tr O3) t3 s3 s3')))
theorem sm_g12 (C : RM Y cnt N M n S D h) {m d : Nat} {r p q u : Int32} (hm : m < cnt) (hd : d + 1 < 82) (ht : D.1 Y 27 = nI d) (sa : sAt Y D d u p q) (hp : p = 1 ∨ p = 2) {Q : Int32 → aH → Prop}
    (q1 : p = 1 → ¬ tkB (nB N m) r = 0 → 0 ≤ nC N m → ∀ h' D', RM Y cnt N M n S D' h' → rOut Y d D D' → D'.1 Y 27 = nI (d + 1) → sAt Y D' (d + 1) (nC N m) 0 0 → sAt Y D' d u 2 q → Q 0 h')
    (q2 : p = 1 → ¬ tkB (nB N m) r = 0 → ¬ 0 ≤ nC N m → wbX11_ofGuard_157 Y (nI m) 0 h Q)
    (q3 : (p = 1 → tkB (nB N m) r = 0) → wbX11_ofGuard_157 Y (nI m) r h Q) : wX11_ofGuard h Y (nI m) r Q := by
  obtain ⟨R, L, -⟩ := id C.1
  have k117 : (p = 1 → tkB (nB N m) r = 0) → wbX11_ofGuard_117 Y (nI m) r h Q := fun a => ⟨fun _ => ⟨fun _ => q3 a, fun z => absurd rfl z⟩, fun z => absurd rfl z⟩
  refine R_R R L.1 rfl (sm_top C ht (sm_ph C (by omega) sa.2.1 ⟨fun z => ⟨fun y => ⟨fun x => k117 (fun e => absurd e x), fun x => R_R R L.1 rfl (sm_nB C hm ⟨fun w => k117 (fun _ => ?_), fun w => ?_⟩)⟩, fun y => ?_⟩, fun z => ?_⟩))
  · unfold tkB; rw [if_neg w]
  · have tb : ¬ tkB (nB N m) r = 0 := by unfold tkB; rw [if_pos w]; decide
    refine ⟨fun e => absurd e (by decide), fun _ => R_R R L.1 rfl (sm_nC C hm ⟨fun v => ⟨fun e => absurd e (by decide), fun _ => q2 x tb (Int32.not_le.mpr v)⟩, fun v => R_R R L.1 rfl (sm_nC C hm (R_O R L.1 (sm_step C ht hd sa (q1 x tb (Int32.not_lt.mp v)))))⟩)⟩
  · rcases hp with e | e <;> rw [e] at y <;> exact absurd y (by decide)
  · rcases hp with e | e <;> rw [e] at z <;> exact absurd z (by decide)
theorem sm_g3 (C : RM Y cnt N M n S D h) {m d : Nat} {r q u : Int32} (hm : m < cnt) (hd : d + 1 < 82) (ht : D.1 Y 27 = nI d) (sa : sAt Y D d u 3 q) {Q : Int32 → aH → Prop}
    (hq : ∀ h' D', RM Y cnt N (if r = 0 then M else if q = 0 then M else mSetCn M 4 (mCn M 4 + 1)) n S D' h' → rOut Y d D D' → D'.1 Y 27 = nI d - 1 → Q (if r = 0 then q else r) h') : wX11_ofGuard h Y (nI m) r Q := by
  obtain ⟨R, L, -⟩ := id C.1
  have fin : ∀ (M' : mT) (D1 : sD) (h1 : aH) (v : Int32), MM Y M' n S D1 h1 → mOut Y D D1 → M' = (if r = 0 then M else if q = 0 then M else mSetCn M 4 (mCn M 4 + 1)) → v = (if r = 0 then q else r) → wbX11_ofGuard_79 Y v h1 Q := by
    intro M' D1 h1 v C1 O1 e1 e2
    subst e1 e2
    exact sm_pop (C.m C1 O1) ((O1.2 27 (by omega)).trans ht) fun h2 D2 C2 O2 e2 => hq h2 D2 C2 (O1.r.tr O2) e2
  have k58 : ∀ s0 : Int32, (s0 = 0 ∧ (r = 0 ∨ q = 0)) ∨ (s0 = 1 ∧ ¬ r = 0 ∧ ¬ q = 0) → wbX11_ofGuard_58 Y r s0 (mCn M 4) Y h Q := by
    intro s0 hs
    refine sm_setCn (k := 4) C.1 (by omega) fun h1 D1 C1 O1 => ?_
    have eM : mSetCn M 4 (mCn M 4 + s0) = (if r = 0 then M else if q = 0 then M else mSetCn M 4 (mCn M 4 + 1)) := by
      rcases hs with ⟨e, c⟩ | ⟨e, c1, c2⟩
      · rw [e, Int32.add_zero, mSetCn_id]
        by_cases c1 : r = 0
        · rw [if_pos c1]
        · rw [if_neg c1, if_pos (c.resolve_left c1)]
      · rw [if_neg c1, if_neg c2, e]
    have C1' := C.m C1 O1
    have t1 : D1.1 Y 27 = nI d := (O1.2 27 (by omega)).trans ht
    have hh : D1.2.1 (Y + 18) d = q := by
      obtain ⟨g1, g2, g3⟩ := (O1.r (d := d + 1)).2.2 d (by omega)
      exact g3.trans sa.2.2
    refine ⟨fun z => R_R C1.1 C1.2.1.1 rfl (sm_top C1' t1 (sm_hd C1' (by omega) hh (fin _ D1 h1 _ C1 O1 eM (by rw [if_pos z])))), fun z => fin _ D1 h1 _ C1 O1 eM (by rw [if_neg z])⟩
  refine R_R R L.1 rfl (sm_top C ht (sm_ph C (by omega) sa.2.1 ⟨fun z => ⟨fun y => absurd rfl y, fun y => sm_cn (k := 4) C.1 (by omega) ⟨fun x => k58 0 (Or.inl ⟨rfl, Or.inl x⟩), fun x => R_R R L.1 rfl (sm_top C ht (sm_hd C (by omega) sa.2.2 ⟨fun w => k58 0 (Or.inl ⟨rfl, Or.inr w⟩), fun w => k58 1 (Or.inr ⟨rfl, x, w⟩)⟩))⟩⟩, fun z => absurd z (by decide)⟩))
/-- how many rounds of the loop a node's run takes -/
def stpL (sd : mT → Nat) (d : Int32) (M : mT) : Nat := if 0 ≤ d then sd (mSetCn M 3 (mCn M 3 + 1)) + 1 else 0
def stpB (ra : mT → Int32 × mT) (sc : mT → Nat) (b c : Int32) (M : mT) : Nat := if tkB b (ra M).1 = 0 then 0 else if 0 ≤ c then sc (ra M).2 + 1 else 0
def stpS (N : nT) : Nat → Nat → mT → Nat
  | 0, _, _ => 0
  | k + 1, m, M => if nSo N m = 0 then 1
    else if nSo N m = 1 then stpS N k (tN (nA N m)) M + ((if (runS N k (tN (nA N m)) M).1 = 0 then stpS N k (tN (nB N m)) (runS N k (tN (nA N m)) M).2 + 1 else 0) + 1) + 1
    else if nSo N m = 2 then (if kIs (mKd M (mSl M (tN (nA N m)))) (nB N m) = 0 then stpS N k (tN (nD N m)) M else stpS N k (tN (nC N m)) M) + 1 + 1
    else stpS N k (tN (nA N m)) M + (stpB (runS N k (tN (nA N m))) (stpS N k (tN (nC N m))) (nB N m) (nC N m) M + stpL (stpS N k (tN (nD N m))) (nD N m) (bodyS (runS N k (tN (nA N m))) (runS N k (tN (nC N m))) (nB N m) (nC N m) M).2 + 1) + 1
theorem ar1 (A B j : Nat) : A + (B + 1) + 1 + j = (A + (B + j + 1)) + 1 := by omega
theorem ar2 (A B L j : Nat) : A + (B + L + 1) + 1 + j = (A + (B + (L + j) + 1)) + 1 := by omega
theorem sm_run : ∀ (k m d : Nat) (M : mT) (D : sD) (h : aH) (r0 : Int32) (j : Nat) (Q : Int32 → aH → Prop), m < k → m < cnt → m + d ≤ 80 → RM Y cnt N M n S D h → D.1 Y 27 = nI d → sAt Y D d (nI m) 0 0 → (∀ h' D', RM Y cnt N (runS N k m M).2 n S D' h' → rOut Y d D D' → D'.1 Y 27 = nI d - 1 → wbX11_goes_12 j Y (runS N k m M).1 h' Q) → wbX11_goes_12 (stpS N k m M + j) Y r0 h Q
  | 0, m, d, M, D, h, r0, j, Q, hk, hm, hd, C, ht, sa, hq => absurd hk (Nat.not_lt_zero _)
  | k + 1, m, d, M, D, h, r0, j, Q, hk, hm, hd, C, ht, sa, hq => by
    have ih := sm_run k
    have o := (C.2.1.2 m hm).1
    have h80 := C.2.2
    -- a child's run, from a step
    have call : ∀ (c : Int32) (M : mT) (D1 : sD) (h1 : aH) (r1 : Int32) (p q : Int32) (j : Nat), nS c m → RM Y cnt N M n S D1 h1 → rOut Y d D D1 → D1.1 Y 27 = nI (d + 1) → sAt Y D1 (d + 1) c 0 0 → sAt Y D1 d (nI m) p q → (∀ h' D', RM Y cnt N (runS N k (tN c) M).2 n S D' h' → rOut Y d D D' → D'.1 Y 27 = nI d → sAt Y D' d (nI m) p q → wbX11_goes_12 j Y (runS N k (tN c) M).1 h' Q) → wbX11_goes_12 (stpS N k (tN c) M + j) Y r1 h1 Q := by
      intro c M D1 h1 r1 p q j hc C1 O1 t1 s1 s1' hq
      have lc := tN_lt hc (by omega)
      rw [lc.2] at s1
      refine ih (tN c) (d + 1) M D1 h1 r1 j Q (by omega) (by omega) (by omega) C1 t1 s1 fun h2 D2 C2 O2 t2 => ?_
      rw [nI_pred] at t2
      obtain ⟨g1, g2, g3⟩ := O2.2.2 d (by omega)
      exact hq h2 D2 C2 (O1.tr (O2.mono (by omega))) t2 ⟨g1.trans s1'.1, g2.trans s1'.2.1, g3.trans s1'.2.2⟩
    unfold runS at hq
    unfold stpS
    rcases id o with o | o | o | o
    · rw [if_pos o.1] at hq ⊢
      rw [Nat.add_comm]
      refine sm_iter C hm (by omega) ht sa.1 (fun s => sm_ofAct C hm s ht hq) (fun s => ?_) (fun s => ?_) <;> omega
    · obtain ⟨s1, ⟨oa, ob⟩⟩ := o
      rw [if_neg (by omega), if_pos s1] at hq ⊢
      rw [ar1]
      refine sm_iter C hm (by omega) ht sa.1 (fun s => by omega) (fun s => by omega) (fun _ => sm_oth1 C hm (by omega) ht sa s1 (fun _ h1 D1 C1 O1 t1 s1a s1b => ?_) (fun e => absurd e (by decide)) (fun e => absurd rfl e))
      refine call _ M D1 h1 0 1 0 _ oa C1 O1 t1 s1a s1b fun h2 D2 C2 O2 t2 s2 => ?_
      refine sm_iter C2 hm (by omega) t2 s2.1 (fun s => by omega) (fun s => by omega) (fun _ => sm_oth1 C2 hm (by omega) t2 s2 s1 (fun e => absurd e (by decide)) (fun _ z h3 D3 C3 O3 t3 s3a s3b => ?_) (fun _ z h3 D3 C3 O3 t3 => ?_))
      · rw [if_pos z] at hq ⊢
        rw [Nat.add_assoc]
        refine call _ _ D3 h3 0 2 0 _ ob C3 (O2.tr O3) t3 s3a s3b fun h4 D4 C4 O4 t4 s4 => ?_
        rw [Nat.add_comm 1]
        exact sm_iter C4 hm (by omega) t4 s4.1 (fun s => by omega) (fun s => by omega) (fun _ => sm_oth1 C4 hm (by omega) t4 s4 s1 (fun e => absurd e (by decide)) (fun e => absurd e (by decide)) (fun _ _ h5 D5 C5 O5 t5 => hq h5 D5 C5 (O4.tr O5) t5))
      · have z' : ¬ (runS N k (tN (nA N m)) M).1 = 0 := fun e => z ⟨rfl, e⟩
        rw [if_neg z'] at hq ⊢
        rw [Nat.zero_add]
        exact hq h3 D3 C3 (O2.tr O3) t3
    · obtain ⟨s2, oa, ob, oc, od⟩ := o
      rw [if_neg (by omega), if_neg (by omega), if_pos s2] at hq ⊢
      rw [Nat.add_right_comm]
      refine sm_iter C hm (by omega) ht sa.1 (fun s => by omega) (fun s => by omega) (fun _ => sm_oth2 C hm (by omega) ht sa s2 (fun _ h1 D1 C1 O1 t1 s1a s1b => ?_) (fun e => absurd rfl e))
      have fin : ∀ c : Int32, nS c m → sAt Y D1 (d + 1) c 0 0 → (∀ h' D', RM Y cnt N (runS N k (tN c) M).2 n S D' h' → rOut Y d D D' → D'.1 Y 27 = nI d - 1 → wbX11_goes_12 j Y (runS N k (tN c) M).1 h' Q) → wbX11_goes_12 (stpS N k (tN c) M + (1 + j)) Y 0 h1 Q := by
        intro c hc sc hq
        refine call c M D1 h1 0 1 0 _ hc C1 O1 t1 sc s1b fun h2 D2 C2 O2 t2 s2' => ?_
        rw [Nat.add_comm 1]
        exact sm_iter C2 hm (by omega) t2 s2'.1 (fun s => by omega) (fun s => by omega) (fun _ => sm_oth2 C2 hm (by omega) t2 s2' s2 (fun e => absurd e (by decide)) (fun _ h3 D3 C3 O3 t3 => hq h3 D3 C3 (O2.tr O3) t3))
      rw [Nat.add_assoc]
      by_cases c : kIs (mKd M (mSl M (tN (nA N m)))) (nB N m) = 0
      · rw [if_pos c] at hq s1a ⊢; exact fin _ od s1a hq
      · rw [if_neg c] at hq s1a ⊢; exact fin _ oc s1a hq
    · obtain ⟨s3, oa, ob, oc, od⟩ := o
      rw [if_neg (by omega), if_neg (by omega), if_neg (by omega)] at hq ⊢
      rw [ar2]
      refine sm_iter C hm (by omega) ht sa.1 (fun s => by omega) (fun _ => sm_g0 C hm (by omega) ht sa fun h1 D1 C1 O1 t1 s1a s1b => ?_) (fun s => by omega)
      have fin : ∀ (f : Int32) (M1 : mT) (D2 : sD) (h2 : aH) (p : Int32), (f, M1) = bodyS (runS N k (tN (nA N m))) (runS N k (tN (nC N m))) (nB N m) (nC N m) M → RM Y cnt N M1 n S D2 h2 → rOut Y d D D2 → D2.1 Y 27 = nI d → sAt Y D2 d (nI m) p 0 → wbX11_ofGuard_157 Y (nI m) f h2 (fun r h => wbX11_goes_12 (stpL (stpS N k (tN (nD N m))) (nD N m) (bodyS (runS N k (tN (nA N m))) (runS N k (tN (nC N m))) (nB N m) (nC N m) M).2 + j) Y r h Q) := by
        intro f M1 D2 h2 p e C2 O2 t2 s2
        rw [← e] at hq ⊢
        refine sm_g157 C2 hm (by omega) t2 s2 (fun d0 h3 D3 C3 O3 t3 s3a s3b => ?_) (fun d0 h3 D3 C3 O3 t3 => ?_)
        · unfold stpL
          rw [if_pos d0, Nat.add_assoc]
          rw [if_pos d0] at hq
          unfold lastS at hq
          refine call _ _ D3 h3 0 3 f _ (ge0_nS od d0) C3 (O2.tr O3) t3 s3a s3b fun h4 D4 C4 O4 t4 s4 => ?_
          rw [Nat.add_comm 1]
          exact sm_iter C4 hm (by omega) t4 s4.1 (fun s => by omega) (fun _ => sm_g3 C4 hm (by omega) t4 s4 fun h5 D5 C5 O5 t5 => hq h5 D5 C5 (O4.tr O5) t5) (fun s => by omega)
        · unfold stpL
          rw [if_neg d0, Nat.zero_add]
          rw [if_neg d0] at hq
          exact hq h3 D3 C3 (O2.tr O3) t3
      refine call _ M D1 h1 0 1 0 _ oa C1 O1 t1 s1a s1b fun h2 D2 C2 O2 t2 s2 => ?_
      refine sm_iter C2 hm (by omega) t2 s2.1 (fun s => by omega) (fun _ => sm_g12 C2 hm (by omega) t2 s2 (Or.inl rfl) (fun _ tb c0 h3 D3 C3 O3 t3 s3a s3b => ?_) (fun _ tb c0 => ?_) (fun tb => ?_)) (fun s => by omega)
      · have eB : stpB (runS N k (tN (nA N m))) (stpS N k (tN (nC N m))) (nB N m) (nC N m) M = stpS N k (tN (nC N m)) (runS N k (tN (nA N m)) M).2 + 1 := by
          unfold stpB; rw [if_neg tb, if_pos c0]
        rw [eB, Nat.add_assoc]
        refine call _ _ D3 h3 0 2 0 _ (ge0_nS oc c0) C3 (O2.tr O3) t3 s3a s3b fun h4 D4 C4 O4 t4 s4 => ?_
        rw [Nat.add_comm 1]
        refine sm_iter C4 hm (by omega) t4 s4.1 (fun s => by omega) (fun _ => sm_g12 C4 hm (by omega) t4 s4 (Or.inr rfl) (fun e => absurd e (by decide)) (fun e => absurd e (by decide)) (fun _ => fin _ _ D4 h4 2 ?_ C4 O4 t4 s4)) (fun s => by omega)
        unfold bodyS; rw [if_neg tb, if_pos c0]
      · have eB : stpB (runS N k (tN (nA N m))) (stpS N k (tN (nC N m))) (nB N m) (nC N m) M = 0 := by
          unfold stpB; rw [if_neg tb, if_neg c0]
        rw [eB, Nat.zero_add]
        refine fin _ _ D2 h2 1 ?_ C2 O2 t2 s2
        unfold bodyS; rw [if_neg tb, if_neg c0]
      · have tb := tb rfl
        have eB : stpB (runS N k (tN (nA N m))) (stpS N k (tN (nC N m))) (nB N m) (nC N m) M = 0 := by
          unfold stpB; rw [if_pos tb]
        rw [eB, Nat.zero_add]
        refine fin _ _ D2 h2 1 ?_ C2 O2 t2 s2
        unfold bodyS; rw [if_pos tb]
end MR3
