/-! count, slot, item, register, given -/
section CL3
variable {X Y cnt n : Nat} {P : Nat → Nat} {N : nT} {M : mT} {ρ : rD} {gs : rS} {S : sS} {D : sD} {h : aH}
def cntA (M : mT) (N : nT) (cnt : Nat) (v : Int32) : Int32 := if v = 0 then nI (mMade M) else if v = 1 then nI (mUsed M) else if v = 2 then nI cnt else if v = 3 then (if cnt = 0 then 0 else nCo N (cnt - 1)) else -1
theorem cc_count (C : CI X cnt P N M ρ gs n S D h) {v : Int32} {Q : Int32 → aH → Prop} (hq : Q (cntA M N cnt v) h) : wX10_count h X v Q := by
  have c80 := C.c80
  unfold cntA at hq
  obtain ⟨R, L, r, I⟩ := id C.1
  have k : ∀ j : Nat, j < 4 → v.toInt = (j : Int) → v = nI j := fun j hj e => i32_of e (by omega)
  refine ⟨fun z => ?_, fun z => ?_, fun z => ?_, fun z => ?_, fun z => ?_⟩
  · rw [if_neg (fun e => by rw [e] at z; revert z; decide), if_neg (fun e => by rw [e] at z; revert z; decide), if_neg (fun e => by rw [e] at z; revert z; decide), if_neg (fun e => by rw [e] at z; revert z; decide)] at hq
    exact hq
  · have e : v = 0 := k 0 (by omega) z
    rw [if_pos e] at hq
    refine R_R R C.s0 rfl (R_R R L.1 rfl (R_I R L.2.1 rfl ?_))
    rw [C.1.rMade]; exact hq
  · have e : v = 1 := k 1 (by omega) z
    subst e
    rw [if_neg (by decide), if_pos rfl] at hq
    refine R_R R C.s0 rfl (R_R R L.1 rfl (R_I R L.2.1 rfl ?_))
    rw [C.1.rUsed]; exact hq
  · have e : v = 2 := k 2 (by omega) z
    subst e
    rw [if_neg (by decide), if_neg (by decide), if_pos rfl] at hq
    refine R_I R C.s0 rfl ?_
    rw [C.cn]; exact hq
  · have e : v = 3 := k 3 (by omega) z
    subst e
    rw [if_neg (by decide), if_neg (by decide), if_neg (by decide), if_pos rfl] at hq
    refine R_I R C.s0 rfl ?_
    rw [C.cn]
    by_cases c0 : cnt = 0
    · rw [if_pos c0] at hq
      subst c0
      exact cc_costOf0 C (fun ⟨s, hs, _⟩ => absurd hs (Nat.not_lt_zero s)) hq
    · rw [if_neg c0] at hq
      obtain ⟨c, rfl⟩ : ∃ c, cnt = c + 1 := ⟨cnt - 1, by omega⟩
      rw [nI_pred]
      exact cc_costOf C (by omega) hq
theorem mm_count (C : MI Y cnt N M ρ gs n S D h) {v : Int32} {Q : Int32 → aH → Prop} (hq : Q (cntA M N cnt v) h) : wX11_count h Y v Q := by
  have c80 := C.c80
  unfold cntA at hq
  obtain ⟨R, L, r, I⟩ := id C.1.1
  refine ⟨fun z0 => ⟨fun z1 => ⟨fun z2 => ⟨fun z3 => ?_, fun z3 => R_I R L.1 rfl ?_⟩, fun z2 => R_I R L.1 rfl ?_⟩, fun z1 => R_I R L.1 rfl ?_⟩, fun z0 => R_I R L.1 rfl ?_⟩
  · rw [if_neg z0, if_neg z1, if_neg z2, if_neg z3] at hq; exact hq
  · rw [if_neg z0, if_neg z1, if_neg z2, if_pos z3] at hq
    rw [C.cn]
    refine ⟨fun y => R_R R L.1 rfl (R_I R L.1 rfl ?_), fun y => ?_⟩
    · have c0 : ¬ cnt = 0 := fun e => y (by rw [e]; rfl)
      rw [if_neg c0] at hq
      obtain ⟨c, rfl⟩ : ∃ c, cnt = c + 1 := ⟨cnt - 1, by omega⟩
      rw [C.cn, nI_pred]
      exact sm_nCo C.1 (by omega) hq
    · rw [if_pos ((nI_eq0 (by omega)).mp y)] at hq; exact hq
  · rw [if_neg z0, if_neg z1, if_pos z2] at hq
    rw [C.cn]; exact hq
  · rw [if_neg z0, if_pos z1] at hq
    rw [r.2.1]; exact hq
  · rw [if_pos z0] at hq
    rw [r.1]; exact hq
/-! slot -/
def sltA (M : mT) (s : Nat) (w : Int32) : Int32 := if w = 0 then nI (mSl M s) else if w = 1 then mKd M (mSl M s) else if w = 2 then mSz M (mSl M s) else -1
theorem cc_slot (C : CI X cnt P N M ρ gs n S D h) {v w : Int32} {Q : Int32 → aH → Prop} (q0 : ¬ nS v 12 → Q (-1) h) (q1 : ∀ s, s < 12 → v = nI s → Q (sltA M s w) h) : wX10_slot h X v w Q := by
  obtain ⟨R, L, r, I⟩ := id C.1
  refine cc_isSlot (fun nv => ⟨fun _ => ?_, fun e => absurd e (by decide)⟩) (fun nv => ⟨fun e => absurd rfl e, fun _ => q0 nv⟩)
  obtain ⟨s, hs, rfl⟩ := nv
  have hq := q1 s hs rfl
  have vm := C.1.vm hs
  unfold sltA at hq
  refine R_R R C.s0 rfl (sc_slot C.1 hs ⟨fun z => ?_, fun z => ?_, fun z => ?_, fun z => ?_⟩)
  · rw [if_neg (fun e => by rw [e] at z; revert z; decide), if_neg (fun e => by rw [e] at z; revert z; decide), if_neg (fun e => by rw [e] at z; revert z; decide)] at hq
    exact hq
  · have e : w = 0 := i32_of (o := 0) z (by omega)
    rw [if_pos e] at hq; exact hq
  · have e : w = 1 := i32_of (o := 1) z (by omega)
    subst e
    rw [if_neg (by decide), if_pos rfl] at hq
    exact R_R R C.s0 rfl (R_R R L.1 rfl (R_O R L.2.1 (sc_kindOf C.1 vm hq)))
  · have e : w = 2 := i32_of (o := 2) z (by omega)
    subst e
    rw [if_neg (by decide), if_neg (by decide), if_pos rfl] at hq
    exact R_R R C.s0 rfl (R_R R L.1 rfl (R_O R L.2.1 (sc_sizeOf C.1 vm hq)))
theorem kd_rw {t : Nat} (I : mInv M) (h1 : 1 ≤ t) (ht : t ≤ mMade M) : (8 ≤ mKd M t ↔ ¬ isRw (mKd M t)) := by
  obtain ⟨g1, g2⟩ := I.2.2.2.1 t h1 ht
  rw [Int32.le_iff_toInt_le, isRw_iff]
  rw [Int32.le_iff_toInt_le] at g1 g2
  have a1 : (1 : Int32).toInt = 1 := rfl
  have a9 : (9 : Int32).toInt = 9 := rfl
  have a8 : (8 : Int32).toInt = 8 := rfl
  rw [a1] at g1
  rw [a9] at g2
  rw [a8]
  omega
theorem mm_slot (C : MI Y cnt N M ρ gs n S D h) {v w : Int32} {Q : Int32 → aH → Prop} (q0 : ¬ nS v 12 → Q (-1) h) (q1 : ∀ s, s < 12 → v = nI s → Q (sltA M s w) h) : wX11_slot h Y v w Q := by
  obtain ⟨R, L, r, I⟩ := id C.1.1
  refine mm_isSlot (fun nv => ⟨fun e => absurd e (by decide), fun _ => ?_⟩) (fun nv => ⟨fun _ => q0 nv, fun e => absurd rfl e⟩)
  obtain ⟨s, hs, rfl⟩ := nv
  have hq := q1 s hs rfl
  have vm : mSl M s ≤ mMade M := I.2.2.2.2.2.2.1 s hs
  have m200 := I.1
  have k0 : mKd M 0 = 0 := I.2.2.1
  unfold sltA at hq
  refine mm_in (a := 0) (b := 2) (by omega) (by omega) (fun nw => ⟨fun _ => R_R R L.1 rfl (sm_aSl C.1.1 hs ⟨fun z0 => ⟨fun t0 => ?_, fun t0 => ?_⟩, fun z0 => ?_⟩), fun e => absurd e (by decide)⟩) (fun nw => ⟨fun e => absurd rfl e, fun _ => ?_⟩)
  · have t1 : 1 ≤ mSl M s := by
      rcases Nat.eq_zero_or_pos (mSl M s) with e | e
      · exact absurd (by rw [e]; rfl) t0
      · exact e
    rw [if_neg z0] at hq
    refine ⟨fun z1 => R_R R L.1 rfl (sm_aKd C.1.1 vm ?_), fun z1 => R_R R L.1 rfl (sm_aKd C.1.1 vm ?_)⟩
    · have z2 : w = 2 := by
        obtain ⟨k, -, hk, rfl⟩ := nw
        have e0 : k ≠ 0 := fun e => z0 (by rw [e]; rfl)
        have e1 : k ≠ 1 := fun e => z1 (by rw [e]; rfl)
        rw [show k = 2 by omega]; rfl
      rw [if_neg z1, if_pos z2] at hq
      unfold mSz at hq
      rw [if_neg (by omega)] at hq
      refine ⟨fun y => R_R R L.1 rfl ?_, fun y => R_R R L.1 rfl ?_⟩
      · have nr := (kd_rw I t1 vm).mp y
        rw [if_pos (kRow_0.mpr nr)] at hq
        exact sm_aNm C.1.1 vm nr (by omega) hq
      · have rw' : isRw (mKd M (mSl M s)) := by
          by_cases e : isRw (mKd M (mSl M s))
          · exact e
          · exact absurd ((kd_rw I t1 vm).mpr e) y
        rw [if_neg (fun e => kRow_0.mp e rw')] at hq
        exact sm_aLn C.1.1 vm rw' hq
    · rw [if_pos z1] at hq; exact hq
  · have t1 : mSl M s = 0 := (nI_eq0 (by omega)).mp t0
    rw [if_neg z0] at hq
    by_cases z1 : w = 1
    · rw [if_pos z1, t1, k0] at hq; exact hq
    · have z2 : w = 2 := by
        obtain ⟨k, -, hk, rfl⟩ := nw
        have e0 : k ≠ 0 := fun e => z0 (by rw [e]; rfl)
        have e1 : k ≠ 1 := fun e => z1 (by rw [e]; rfl)
        rw [show k = 2 by omega]; rfl
      rw [if_neg z1, if_pos z2] at hq
      unfold mSz at hq
      rw [if_pos t1] at hq; exact hq
  · rw [if_pos z0] at hq; exact hq
  · have n0 : ¬ w = 0 := fun e => nw ⟨0, by omega, by omega, e⟩
    have n1 : ¬ w = 1 := fun e => nw ⟨1, by omega, by omega, e⟩
    have n2 : ¬ w = 2 := fun e => nw ⟨2, by omega, by omega, e⟩
    rw [if_neg n0, if_neg n1, if_neg n2] at hq
    exact hq
/-! item -/
theorem cc_item (C : CI X cnt P N M ρ gs n S D h) {v i : Int32} {Q : Int64 → aH → Prop} (q0 : ¬ nS v 12 → Q 0 h) (q1 : ∀ s, s < 12 → v = nI s → Q (mRead M (mSl M s) i) h) : wX10_item h X v i Q := by
  obtain ⟨R, L, r, I⟩ := id C.1
  refine cc_isSlot (fun nv => ⟨fun e => absurd e (by decide), fun _ => ?_⟩) (fun nv => ⟨fun _ => q0 nv, fun e => absurd rfl e⟩)
  obtain ⟨s, hs, rfl⟩ := nv
  exact R_R R C.s0 rfl (R_R R L.1 rfl (R_R R C.s0 rfl (sc_slot C.1 hs (R_O R L.2.1 (sc_read C.1 (C.1.vm hs) (q1 s hs rfl))))))
theorem mm_item (C : MI Y cnt N M ρ gs n S D h) {v i : Int32} {Q : Int64 → aH → Prop} (q0 : ¬ nS v 12 → Q 0 h) (q1 : ∀ s, s < 12 → v = nI s → Q (mRead M (mSl M s) i) h) : wX11_item h Y v i Q := by
  obtain ⟨R, L, r, I⟩ := id C.1.1
  refine mm_isSlot (fun nv => ⟨fun e => absurd e (by decide), fun _ => ?_⟩) (fun nv => ⟨fun _ => ⟨fun _ => q0 nv, fun e => absurd rfl e⟩, fun e => absurd rfl e⟩)
  obtain ⟨s, hs, rfl⟩ := nv
  have hq := q1 s hs rfl
  have vm : mSl M s ≤ mMade M := I.2.2.2.2.2.2.1 s hs
  have m200 := I.1
  have k0 : mKd M 0 = 0 := I.2.2.1
  have z0 : mRead M (mSl M s) i = 0 → wbX11_item_41 Y (nI s) i h Q := fun e => by rw [e] at hq; exact ⟨fun _ => hq, fun e => absurd rfl e⟩
  refine R_R R L.1 rfl (sm_aSl C.1.1 hs ⟨fun t0 => z0 ?_, fun t0 => R_R R L.1 rfl (R_R R L.1 rfl (sm_aSl C.1.1 hs ?_))⟩)
  · have : mSl M s = 0 := (nI_eq0 (by omega)).mp t0
    have k00 : kRow 0 = 0 := by decide
    unfold mRead mHas
    rw [this, k0, if_pos k00, if_pos rfl]
  · have t1 : 1 ≤ mSl M s := by
      rcases Nat.eq_zero_or_pos (mSl M s) with e | e
      · exact absurd (by rw [e]; rfl) t0
      · exact e
    by_cases hr : isRw (mKd M (mSl M s))
    · have kr : ¬ kRow (mKd M (mSl M s)) = 0 := fun e => kRow_0.mp e hr
      have fit := I.2.2.2.2.1 (mSl M s) t1 vm hr
      have u3 := I.2.1
      unfold mRead mHas at hq z0
      rw [if_neg kr] at hq z0
      refine sm_aLn C.1.1 vm hr (sm_in ?_)
      unfold mIn
      by_cases i0 : i < 0
      · rw [if_pos i0] at hq z0 ⊢
        exact ⟨fun _ => z0 (if_pos rfl), fun e => absurd rfl e⟩
      · rw [if_neg i0] at hq z0 ⊢
        by_cases i1 : nI (mLn M (mSl M s)) ≤ i
        · rw [if_pos i1] at hq z0
          rw [if_pos ((nI_m1 (by omega) i0).mpr i1)]
          exact ⟨fun _ => z0 (if_pos rfl), fun e => absurd rfl e⟩
        · rw [if_neg i1, if_neg (by decide)] at hq
          rw [if_neg (fun e => i1 ((nI_m1 (by omega) i0).mp e))]
          refine ⟨fun e => absurd e (by decide), fun _ => ⟨fun e => absurd e (by decide), fun _ => R_R R L.1 rfl (R_R R L.1 rfl (R_R R L.1 rfl (sm_aSl C.1.1 hs (sm_aBg C.1.1 vm hr ?_))))⟩⟩
          obtain ⟨j, hj, rfl⟩ := nI_of i0
          have : ¬ mLn M (mSl M s) ≤ j := fun e => i1 ((nI_leI (by omega) hj).mpr e)
          rw [nI_add]
          rw [nI_clamp hj] at hq
          exact sm_aIt C.1.1 (by omega) hq
    · have kr : kRow (mKd M (mSl M s)) = 0 := kRow_0.mpr hr
      have zz : mRead M (mSl M s) i = 0 := by unfold mRead mHas; rw [if_pos kr, if_pos rfl]
      refine R_aI R L.s3 (vp_in_nI (by omega) (by omega)) (sm_in ?_)
      rw [nI_clamp (by omega), (r.2.2.2.2.1 (mSl M s) vm hr (by omega)).1]
      have : mIn i 0 (0 - 1) = 0 := by
        unfold mIn
        by_cases i0 : i < 0
        · rw [if_pos i0]
        · rw [if_neg i0, if_pos]
          exact Int32.lt_of_lt_of_le (by decide) (Int32.not_lt.mp i0)
      rw [this]
      exact ⟨fun _ => z0 zz, fun e => absurd rfl e⟩
/-! register -/
theorem cc_register (C : CI X cnt P N M ρ gs n S D h) {v : Int32} {Q : Int64 → aH → Prop} (q0 : ¬ nS v 8 → Q 0 h) (q1 : ∀ s, s < 8 → v = nI s → Q (mRg M s) h) : wX10_register h X v Q := by
  obtain ⟨R, L, r, I⟩ := id C.1
  have e := nS_iff (v := v) (k := 8) (by omega)
  refine ⟨fun z => q0 fun w => (e.mp w).1 z, fun z => ⟨fun y => q0 fun w => (e.mp w).2 y, fun y => ?_⟩⟩
  obtain ⟨s, hs, rfl⟩ := e.mpr ⟨z, y⟩
  exact R_R R C.s0 rfl (R_R R L.1 rfl (sc_reg C.1 hs (q1 s hs rfl)))
theorem mm_register (C : MI Y cnt N M ρ gs n S D h) {v : Int32} {Q : Int64 → aH → Prop} (q0 : ¬ nS v 8 → Q 0 h) (q1 : ∀ s, s < 8 → v = nI s → Q (mRg M s) h) : wX11_register h Y v Q := by
  obtain ⟨R, L, r, I⟩ := id C.1.1
  refine mm_isReg (fun nv => ⟨fun e => absurd e (by decide), fun _ => ?_⟩) (fun nv => ⟨fun _ => q0 nv, fun e => absurd rfl e⟩)
  obtain ⟨s, hs, rfl⟩ := nv
  exact R_R R L.1 rfl (sm_aRg C.1.1 hs (q1 s hs rfl))
/-! given -/
def gvO (v w : Int32) : Prop := nS v 12 ∧ ¬ w ≤ 0 ∧ w ≤ 1023
theorem gv_ok {w : Int32} (h1 : ¬ w ≤ 0) (h2 : w ≤ 1023) : ¬ w = 0 ∧ w &&& 1023 = w := by
  have z : ¬ w < 0 := fun e => h1 (Int32.le_of_lt e)
  obtain ⟨j, hj, rfl⟩ := nI_of z
  have hj2 : j ≤ 1023 := (nI_leI (b := 1023) hj (by omega)).mp h2
  have : ∀ j, j < 1024 → nI j &&& 1023 = nI j := by decide +kernel
  exact ⟨fun e => h1 (by rw [e]; decide), this j (by omega)⟩
theorem cc_given (C : CI X cnt P N M ρ gs n S D h) {v w : Int32} {Q : Int32 → aH → Prop} (q0 : ¬ gvO v w → Q (-1) h) (q1 : ∀ s, s < 12 → v = nI s → ¬ w ≤ 0 → w ≤ 1023 → ∀ h' D', CI X cnt P N M ρ (upd gs s w) n S D' h' → inC (X + 12) S D S D' → Q (gs s) h') : wX10_given h X v w Q := by
  refine cc_isSlot (fun nv => ⟨fun e => absurd e (by decide), fun _ => ⟨fun z => q0 fun e => e.2.1 z, fun z => ⟨fun y => ?_, fun y => q0 fun e => y e.2.2⟩⟩⟩) (fun nv => ⟨fun _ => q0 fun e => nv e.1, fun e => absurd rfl e⟩)
  obtain ⟨s, hs, rfl⟩ := nv
  obtain ⟨c1, c2, c3, c4, c5, c6, c7, c8, c9, c10, c11, c12, c13⟩ := C
  refine R_R c1.1 c2.1 rfl (R_O c1.1 c2.2.2.1 (st_of c1.1 c2.2.2 c10 hs (R_R c1.1 c2.1 rfl (R_O c1.1 c2.2.2.1 (st_put c1.1 c2.2.2 c10 hs fun h1 D1 R1 o1 s1 => ?_)))))
  have o2 : ∀ a, a ≠ X + 11 → D1.1 a = D.1 a ∧ D1.2.1 a = D.2.1 a ∧ D1.2.2.1 a = D.2.2.1 a ∧ D1.2.2.2 a = D.2.2.2 a := fun a ha => ⟨by rw [o1.1], o1.2.2 a ha, by rw [o1.2.1], by rw [o1.2.1]⟩
  have g := gv_ok z y
  refine q1 s hs rfl z y h1 D1 ⟨⟨R1, c1.2.1, c1.2.2.1.eq fun a g1 g2 => ⟨(o2 a (by omega)).1, (o2 a (by omega)).2.1, (o2 a (by omega)).2.2.1⟩, c1.2.2.2⟩, c2, c3, c4.cg fun a ha => ⟨(o2 a (by omega)).1, (o2 a (by omega)).2.2.2⟩, c5, c6, c7, by rw [o1.1]; exact c8, by rw [o1.2.1]; exact c9, s1, c11.up g.1 g.2, fun g hg => (c12 g hg).cg (fun a h1 h2 => ?_) rAt.rf, c13⟩ fun a g1 g2 => ⟨rfl, o2 a (by omega)⟩
  have := (c4 g hg).2.1
  exact ⟨(o2 a (by omega)).1, (o2 a (by omega)).2.1⟩
theorem mm_startOf (C : MI Y cnt N M ρ gs n S D h) {s : Nat} (hs : s < 12) {Q : Int32 → aH → Prop} (hq : Q (gs s) h) : isO h Y 9 (wX11_startOf h Y (nI s) Q) := by
  refine R_O C.R C.L.1 (R_R C.R C.L.1 rfl (R_aZ C.R C.L.s20 (vp_in_nI hs (by omega)) ?_))
  rw [nI_clamp (by omega)]
  rcases C.2.1 s hs with ⟨e1, e2⟩ | ⟨e1, e2⟩
  · refine ⟨fun _ => ?_, fun z => absurd e1 z⟩
    rw [e2] at hq; exact hq
  · refine ⟨fun z => absurd z e1, fun _ => R_R C.R C.L.1 rfl (R_aI C.R C.L.s19 (vp_in_nI hs (by omega)) ?_)⟩
    rw [nI_clamp (by omega), e2]; exact hq
theorem mm_given (C : MI Y cnt N M ρ gs n S D h) {v w : Int32} {Q : Int32 → aH → Prop} (q0 : ¬ gvO v w → Q (-1) h) (q1 : ∀ s, s < 12 → v = nI s → ¬ w ≤ 0 → w ≤ 1023 → ∀ h' D', MI Y cnt N M ρ (upd gs s w) n S D' h' → inM Y D D' → Q (gs s) h') : wX11_given h Y v w Q := by
  have lt1 : w < 1 ↔ w ≤ 0 := by
    rw [Int32.lt_iff_toInt_lt, Int32.le_iff_toInt_le]
    have a1 : (1 : Int32).toInt = 1 := rfl
    have a0 : (0 : Int32).toInt = 0 := rfl
    rw [a1, a0]; omega
  refine mm_isSlot (fun nv => ⟨fun e => absurd e (by decide), fun _ => ⟨fun z => q0 fun e => e.2.1 (lt1.mp z), fun z => ⟨fun y => ?_, fun y => q0 fun e => y e.2.2⟩⟩⟩) (fun nv => ⟨fun _ => q0 fun e => nv e.1, fun e => absurd rfl e⟩)
  obtain ⟨s, hs, rfl⟩ := nv
  refine mm_startOf C hs (R_R C.R C.L.1 rfl (R_sI C.R C.L.s19 (vp_in_nI hs (by omega)) fun h1 R1 => R_R R1 C.L.1 rfl (R_sZ R1 C.L.s20 (vp_in_nI hs (by omega)) fun h2 R2 => ?_)))
  rw [nI_clamp (by omega)] at R1 R2
  have x1 : eqx (Y + 19) D (uF D (Y + 19) (upd (D.2.1 (Y + 19)) s w)) := eqx.u
  have r1 : (uF D (Y + 19) (upd (D.2.1 (Y + 19)) s w)).2.1 (Y + 19) = upd (D.2.1 (Y + 19)) s w := uF_at
  generalize uF D (Y + 19) (upd (D.2.1 (Y + 19)) s w) = D1 at R1 R2 x1 r1
  have x2 : eqx (Y + 20) D1 (uF D1 (Y + 20) (upd (D1.2.1 (Y + 20)) s (vp_nar .boolean 1))) := eqx.u
  have r2 : (uF D1 (Y + 20) (upd (D1.2.1 (Y + 20)) s (vp_nar .boolean 1))).2.1 (Y + 20) = upd (D.2.1 (Y + 20)) s 1 := by rw [uF_at, x1.2.2 _ (by omega)]; rfl
  have i2 : inM Y D1 (uF D1 (Y + 20) (upd (D1.2.1 (Y + 20)) s (vp_nar .boolean 1))) := inM.F (by omega)
  generalize uF D1 (Y + 20) (upd (D1.2.1 (Y + 20)) s (vp_nar .boolean 1)) = D2 at R2 x2 r2 i2
  have i1 : inM Y D D1 := fun a ha => ⟨by rw [x1.1], x1.2.2 a (by omega), by rw [x1.2.1], by rw [x1.2.1]⟩
  refine q1 s hs rfl (fun e => z (lt1.mpr e)) y h2 D2 ⟨?_, fun i hi => ?_, ?_⟩ (i1.tr i2)
  · exact (C.1.x (b := 19) R1 x1 (by omega)).x (b := 20) R2 x2 (by omega)
  · rw [r2, x2.2.2 (Y + 19) (by omega), r1]
    simp only [upd]
    by_cases e : i = s
    · rw [if_pos e, if_pos e, if_pos e]; exact Or.inr ⟨by decide, rfl⟩
    · simp only [if_neg e]; exact C.2.1 i hi
  · rw [x2.1, x1.1]
    rcases C.2.2 with c8 | ⟨e, c8⟩
    · exact Or.inl c8
    · exact Or.inr ⟨e, (c8.w fun b h1 h2 => x1.2.2 _ (by omega)).w fun b h1 h2 => x2.2.2 _ (by omega)⟩
end CL3
