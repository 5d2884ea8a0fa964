/-! the model's run -/
def NdM (Y cnt : Nat) (N : nT) (D : sD) : Prop := D.1 Y 9 = nI cnt ∧ ∀ m, m < cnt → nOk N m ∧ D.2.1 (Y + 8) m = nI (nSo N m) ∧ D.2.1 (Y + 9) m = nI (nOp N m) ∧ D.2.1 (Y + 10) m = nA N m ∧ D.2.1 (Y + 11) m = nB N m ∧ D.2.1 (Y + 12) m = nC N m ∧ D.2.1 (Y + 13) m = nD N m ∧ D.2.1 (Y + 14) m = nCo N m
/-- what a run changes: the machine's cells, the stack from level d on -/
def rOut (Y d : Nat) (D D' : sD) : Prop := (∀ a, ¬ (Y ≤ a ∧ a ≤ Y + 7) → a ≠ Y + 15 → a ≠ Y + 16 → a ≠ Y + 17 → a ≠ Y + 18 → D'.1 a = D.1 a ∧ D'.2.1 a = D.2.1 a ∧ D'.2.2.1 a = D.2.2.1 a ∧ D'.2.2.2 a = D.2.2.2 a) ∧ (∀ k, ((2 ≤ k ∧ k ≤ 16) ∨ 23 ≤ k) → k ≠ 27 → D'.1 Y k = D.1 Y k) ∧ ∀ i, i < d → D'.2.1 (Y + 16) i = D.2.1 (Y + 16) i ∧ D'.2.1 (Y + 17) i = D.2.1 (Y + 17) i ∧ D'.2.1 (Y + 18) i = D.2.1 (Y + 18) i
theorem rOut.rf {Y d : Nat} {D : sD} : rOut Y d D D := ⟨fun _ _ _ _ _ _ => ⟨rfl, rfl, rfl, rfl⟩, fun _ _ _ => rfl, fun _ _ => ⟨rfl, rfl, rfl⟩⟩
theorem rOut.tr {Y d : Nat} {D D' D'' : sD} (h : rOut Y d D D') (h' : rOut Y d D' D'') : rOut Y d D D'' :=
  ⟨fun a h1 h2 h3 h4 h5 => ⟨(h'.1 a h1 h2 h3 h4 h5).1.trans (h.1 a h1 h2 h3 h4 h5).1, (h'.1 a h1 h2 h3 h4 h5).2.1.trans (h.1 a h1 h2 h3 h4 h5).2.1, (h'.1 a h1 h2 h3 h4 h5).2.2.1.trans (h.1 a h1 h2 h3 h4 h5).2.2.1, (h'.1 a h1 h2 h3 h4 h5).2.2.2.trans (h.1 a h1 h2 h3 h4 h5).2.2.2⟩, fun k h1 h2 => (h'.2.1 k h1 h2).trans (h.2.1 k h1 h2), fun i hi => ⟨(h'.2.2 i hi).1.trans (h.2.2 i hi).1, (h'.2.2 i hi).2.1.trans (h.2.2 i hi).2.1, (h'.2.2 i hi).2.2.trans (h.2.2 i hi).2.2⟩⟩
theorem rOut.mono {Y d e : Nat} {D D' : sD} (h : rOut Y e D D') (he : d ≤ e) : rOut Y d D D' := ⟨h.1, h.2.1, fun i hi => h.2.2 i (by omega)⟩
theorem mOut.r {Y d : Nat} {D D' : sD} (h : mOut Y D D') : rOut Y d D D' := ⟨fun a h1 h2 _ _ _ => h.1 a h1 h2, fun k hk _ => h.2 k hk, fun i _ => ⟨by rw [(h.1 (Y + 16) (by omega) (by omega)).2.1], by rw [(h.1 (Y + 17) (by omega) (by omega)).2.1], by rw [(h.1 (Y + 18) (by omega) (by omega)).2.1]⟩⟩
theorem NdM.r {Y cnt d : Nat} {N : nT} {D D' : sD} (W : NdM Y cnt N D) (o : rOut Y d D D') : NdM Y cnt N D' := by
  obtain ⟨h1, h2⟩ := W
  refine ⟨(o.2.1 9 (by omega) (by omega)).trans h1, ?_⟩
  rw [(o.1 (Y + 8) (by omega) (by omega) (by omega) (by omega) (by omega)).2.1, (o.1 (Y + 9) (by omega) (by omega) (by omega) (by omega) (by omega)).2.1, (o.1 (Y + 10) (by omega) (by omega) (by omega) (by omega) (by omega)).2.1, (o.1 (Y + 11) (by omega) (by omega) (by omega) (by omega) (by omega)).2.1, (o.1 (Y + 12) (by omega) (by omega) (by omega) (by omega) (by omega)).2.1, (o.1 (Y + 13) (by omega) (by omega) (by omega) (by omega) (by omega)).2.1, (o.1 (Y + 14) (by omega) (by omega) (by omega) (by omega) (by omega)).2.1]
  exact h2
theorem mRep.eq {Y : Nat} {M : mT} {D D' : sD} (r : mRep Y M D) (h1 : ∀ k, k ≤ 22 → D'.1 Y k = D.1 Y k) (h2 : ∀ a, Y ≤ a → a ≤ Y + 7 → D'.2.1 a = D.2.1 a ∧ D'.2.2.1 a = D.2.2.1 a) : mRep Y M D' := by
  unfold mRep at r ⊢
  rw [h1 0 (by omega), h1 1 (by omega), (h2 (Y + 1) (by omega) (by omega)).1, (h2 (Y + 2) (by omega) (by omega)).1, (h2 (Y + 3) (by omega) (by omega)).1, (h2 (Y + 4) (by omega) (by omega)).1, (h2 (Y + 5) (by omega) (by omega)).2, (h2 (Y + 6) (by omega) (by omega)).1, (h2 (Y + 7) (by omega) (by omega)).2]
  obtain ⟨r1, r2, r3, r4, r5, r6, r7, r8, r9⟩ := r
  exact ⟨r1, r2, r3, r4, r5, r6, r7, r8, fun k hk => (h1 _ (by omega)).trans (r9 k hk)⟩
def RM (Y cnt : Nat) (N : nT) (M : mT) (n : Nat) (S : sS) (D : sD) (h : aH) : Prop := MM Y M n S D h ∧ NdM Y cnt N D ∧ cnt ≤ 80
section MRN
variable {Y n cnt : Nat} {N : nT} {M : mT} {S : sS} {D : sD} {h : aH}
theorem sm_nSo (C : RM Y cnt N M n S D h) {m : Nat} (hm : m < cnt) {K : Int32 → Prop} (hK : K (nI (nSo N m))) : aI h (Y + 8) (nI m) K := by
  have := C.2.2
  refine R_aI C.1.1 C.1.2.1.s8 (vp_in_nI (by omega) (by omega)) ?_
  rw [nI_clamp (by omega), (C.2.1.2 m hm).2.1]; exact hK
theorem sm_nA (C : RM Y cnt N M n S D h) {m : Nat} (hm : m < cnt) {K : Int32 → Prop} (hK : K (nA N m)) : aI h (Y + 10) (nI m) K := by
  have := C.2.2
  refine R_aI C.1.1 C.1.2.1.s10 (vp_in_nI (by omega) (by omega)) ?_
  rw [nI_clamp (by omega), (C.2.1.2 m hm).2.2.2.1]; exact hK
theorem sm_nB (C : RM Y cnt N M n S D h) {m : Nat} (hm : m < cnt) {K : Int32 → Prop} (hK : K (nB N m)) : aI h (Y + 11) (nI m) K := by
  have := C.2.2
  refine R_aI C.1.1 C.1.2.1.s11 (vp_in_nI (by omega) (by omega)) ?_
  rw [nI_clamp (by omega), (C.2.1.2 m hm).2.2.2.2.1]; exact hK
theorem sm_nC (C : RM Y cnt N M n S D h) {m : Nat} (hm : m < cnt) {K : Int32 → Prop} (hK : K (nC N m)) : aI h (Y + 12) (nI m) K := by
  have := C.2.2
  refine R_aI C.1.1 C.1.2.1.s12 (vp_in_nI (by omega) (by omega)) ?_
  rw [nI_clamp (by omega), (C.2.1.2 m hm).2.2.2.2.2.1]; exact hK
theorem sm_nD (C : RM Y cnt N M n S D h) {m : Nat} (hm : m < cnt) {K : Int32 → Prop} (hK : K (nD N m)) : aI h (Y + 13) (nI m) K := by
  have := C.2.2
  refine R_aI C.1.1 C.1.2.1.s13 (vp_in_nI (by omega) (by omega)) ?_
  rw [nI_clamp (by omega), (C.2.1.2 m hm).2.2.2.2.2.2.1]; exact hK
theorem sm_nCo (C : RM Y cnt N M n S D h) {m : Nat} (hm : m < cnt) {K : Int32 → Prop} (hK : K (nCo N m)) : aI h (Y + 14) (nI m) K := by
  have := C.2.2
  refine R_aI C.1.1 C.1.2.1.s14 (vp_in_nI (by omega) (by omega)) ?_
  rw [nI_clamp (by omega), (C.2.1.2 m hm).2.2.2.2.2.2.2]; exact hK
theorem sm_top (C : RM Y cnt N M n S D h) {t : Int32} (ht : D.1 Y 27 = t) {K : Int32 → Prop} (hK : K t) : rI h Y 9 27 K := by
  refine R_I C.1.1 C.1.2.1.1 rfl ?_
  rw [ht]; exact hK
theorem sm_stk (C : RM Y cnt N M n S D h) {d : Nat} (hd : d < 82) {v : Int32} (e : D.2.1 (Y + 16) d = v) {K : Int32 → Prop} (hK : K v) : aI h (Y + 16) (nI d) K := by
  refine R_aI C.1.1 C.1.2.1.s16 (vp_in_nI (by omega) (by omega)) ?_
  rw [nI_clamp (by omega), e]; exact hK
theorem sm_ph (C : RM Y cnt N M n S D h) {d : Nat} (hd : d < 82) {v : Int32} (e : D.2.1 (Y + 17) d = v) {K : Int32 → Prop} (hK : K v) : aI h (Y + 17) (nI d) K := by
  refine R_aI C.1.1 C.1.2.1.s17 (vp_in_nI (by omega) (by omega)) ?_
  rw [nI_clamp (by omega), e]; exact hK
theorem sm_hd (C : RM Y cnt N M n S D h) {d : Nat} (hd : d < 82) {v : Int32} (e : D.2.1 (Y + 18) d = v) {K : Int32 → Prop} (hK : K v) : aI h (Y + 18) (nI d) K := by
  refine R_aI C.1.1 C.1.2.1.s18 (vp_in_nI (by omega) (by omega)) ?_
  rw [nI_clamp (by omega), e]; exact hK
/-- writes of the stack -/
theorem rOut.O27 {d : Nat} {D : sD} {v : Int32} : rOut Y d D (uO D Y 27 v) := ⟨fun a h1 _ _ _ _ => ⟨by simp [uO, va_up, show a ≠ Y by omega], rfl, rfl, rfl⟩, fun k _ hk => by rw [uO_at, if_neg hk], fun _ _ => ⟨rfl, rfl, rfl⟩⟩
theorem rOut.F {d a : Nat} {D : sD} {v : Int32} (ha : a = Y + 16 ∨ a = Y + 17 ∨ a = Y + 18) : rOut Y d D (uF D a (upd (D.2.1 a) d v)) := by
  refine ⟨fun b h1 h2 h3 h4 h5 => ⟨rfl, by simp [uF, va_up, show b ≠ a by omega], rfl, rfl⟩, fun _ _ _ => rfl, fun i hi => ?_⟩
  simp only [uF, va_up, upd]
  refine ⟨?_, ?_, ?_⟩
  · split
    · rename_i e; simp only [upd]; rw [if_neg (by omega), e]
    · rfl
  · split
    · rename_i e; simp only [upd]; rw [if_neg (by omega), e]
    · rfl
  · split
    · rename_i e; simp only [upd]; rw [if_neg (by omega), e]
    · rfl
theorem RM.stk (C : RM Y cnt N M n S D h) {D' : sD} {h' : aH} {d : Nat} (R' : HR n S D' h') (o : rOut Y d D D') (h1 : ∀ k, k ≤ 22 → D'.1 Y k = D.1 Y k) (h2 : ∀ a, Y ≤ a → a ≤ Y + 7 → D'.2.1 a = D.2.1 a ∧ D'.2.2.1 a = D.2.2.1 a) : RM Y cnt N M n S D' h' :=
  ⟨⟨R', C.1.2.1, C.1.2.2.1.eq h1 h2, C.1.2.2.2⟩, C.2.1.r o, C.2.2⟩
theorem sm_setTop (C : RM Y cnt N M n S D h) {t : Int32} (d : Nat) {Q : aH → Prop} (hq : ∀ h' D', RM Y cnt N M n S D' h' → rOut Y d D D' → D'.1 Y 27 = t → D'.2 = D.2 → Q h') : wF h Y 9 27 (.int t) Q := by
  refine R_wF C.1.1 C.1.2.1.1 rfl fun h' R' => hq h' _ (C.stk R' (d := d) rOut.O27 (fun k hk => by rw [uO_at, if_neg (by omega)]) (fun _ _ _ => ⟨rfl, rfl⟩)) rOut.O27 (by rw [uO_at, if_pos rfl]) rfl
theorem sm_setStk (C : RM Y cnt N M n S D h) {d a : Nat} (hd : d < 82) {v : Int32} (ha : a = Y + 16 ∨ a = Y + 17 ∨ a = Y + 18) {Q : aH → Prop} (hq : ∀ h' D', RM Y cnt N M n S D' h' → rOut Y d D D' → D' = uF D a (upd (D.2.1 a) d v) → Q h') : sI h a (nI d) v Q := by
  have hs : S a = some (.inl (0, 82)) := by
    rcases ha with e | e | e
    · rw [e]; exact C.1.2.1.s16
    · rw [e]; exact C.1.2.1.s17
    · rw [e]; exact C.1.2.1.s18
  refine R_sI C.1.1 hs (vp_in_nI hd (by omega)) fun h' R' => ?_
  rw [nI_clamp (by omega)] at R'
  exact hq h' _ (C.stk R' (rOut.F ha) (fun _ _ => rfl) (fun b h1 h2 => ⟨by simp [uF, va_up, show b ≠ a by omega], rfl⟩)) (rOut.F ha) rfl
theorem sm_pop (C : RM Y cnt N M n S D h) {d : Nat} (ht : D.1 Y 27 = nI d) {Q : aH → Prop} (hq : ∀ h' D', RM Y cnt N M n S D' h' → rOut Y d D D' → D'.1 Y 27 = nI d - 1 → Q h') : rI h Y 9 27 (fun r => wF h Y 9 27 (.int (r - 1)) Q) :=
  sm_top C ht (sm_setTop C d fun h' D' C' O' e _ => hq h' D' C' O' e)
def sAt (Y : Nat) (D : sD) (d : Nat) (v p q : Int32) : Prop := D.2.1 (Y + 16) d = v ∧ D.2.1 (Y + 17) d = p ∧ D.2.1 (Y + 18) d = q
theorem sm_push (C : RM Y cnt N M n S D h) {d : Nat} {t v : Int32} (ht : D.1 Y 27 = t) (hd : d < 82) (et : t + 1 = nI d) {Q : aH → Prop} (hq : ∀ h' D', RM Y cnt N M n S D' h' → rOut Y d D D' → D'.1 Y 27 = nI d → sAt Y D' d v 0 0 → Q h') : wX11_push h Y v Q := by
  refine sm_top C ht ?_
  rw [et]
  refine sm_setTop C d fun h1 D1 C1 O1 e1 f1 => R_R C1.1.1 C1.1.2.1.1 rfl (sm_top C1 e1 (sm_setStk C1 hd (Or.inl rfl) fun h2 D2 C2 O2 f2 => ?_))
  have e2 : D2.1 Y 27 = nI d := by rw [f2]; exact e1
  refine R_R C2.1.1 C2.1.2.1.1 rfl (sm_top C2 e2 (sm_setStk C2 hd (Or.inr (Or.inl rfl)) fun h3 D3 C3 O3 f3 => ?_))
  have e3 : D3.1 Y 27 = nI d := by rw [f3]; exact e2
  refine R_R C3.1.1 C3.1.2.1.1 rfl (sm_top C3 e3 (sm_setStk C3 hd (Or.inr (Or.inr rfl)) fun h4 D4 C4 O4 f4 => ?_))
  have e4 : D4.1 Y 27 = nI d := by rw [f4]; exact e3
  refine hq h4 D4 C4 (((O1.tr O2).tr O3).tr O4) e4 ?_
  subst f4 f3 f2
  refine ⟨?_, ?_, ?_⟩ <;> simp [uF, va_up, upd]
/-- step: the phase, and a push -/
theorem sm_step (C : RM Y cnt N M n S D h) {d : Nat} {v p p' q u : Int32} (ht : D.1 Y 27 = nI d) (hd : d + 1 < 82) (sa : sAt Y D d u p q) {Q : aH → Prop} (hq : ∀ h' D', RM Y cnt N M n S D' h' → rOut Y d D D' → D'.1 Y 27 = nI (d + 1) → sAt Y D' (d + 1) v 0 0 → sAt Y D' d u p' q → Q h') : wX11_step h Y p' v Q := by
  refine R_R C.1.1 C.1.2.1.1 rfl (sm_top C ht (sm_setStk C (by omega) (Or.inr (Or.inl rfl)) fun h1 D1 C1 O1 f1 => R_O C1.1.1 C1.1.2.1.1 ?_))
  have e1 : D1.1 Y 27 = nI d := by rw [f1]; exact ht
  have s1 : sAt Y D1 d u p' q := by
    subst f1
    refine ⟨?_, ?_, ?_⟩
    · simp [uF, va_up, upd]; exact sa.1
    · simp [uF, va_up, upd]
    · simp [uF, va_up, upd]; exact sa.2.2
  refine sm_push C1 e1 hd (nI_1 d) fun h2 D2 C2 O2 e2 s2 => hq h2 D2 C2 (O1.tr (O2.mono (by omega))) e2 s2 ?_
  obtain ⟨g1, g2, g3⟩ := O2.2.2 d (by omega)
  exact ⟨g1.trans s1.1, g2.trans s1.2.1, g3.trans s1.2.2⟩
/-- the model's counters -/
theorem mSetCn_id (M : mT) (k : Nat) : mSetCn M k (mCn M k) = M := by
  unfold mSetCn
  have : upd (mCn M) k (mCn M k) = mCn M := by
    funext j; simp only [upd]; split
    · rename_i e; rw [e]
    · rfl
  rw [this]
theorem RM.m (C : RM Y cnt N M n S D h) {M' : mT} {D' : sD} {h' : aH} (C' : MM Y M' n S D' h') (o : mOut Y D D') : RM Y cnt N M' n S D' h' := ⟨C', C.2.1.r (d := 0) o.r, C.2.2⟩
theorem sm_ofAct (C : RM Y cnt N M n S D h) {m d : Nat} (hm : m < cnt) (s0 : nSo N m = 0) (ht : D.1 Y 27 = nI d) {Q : Int32 → aH → Prop} (hq : ∀ h' D', RM Y cnt N (actS N m M).2 n S D' h' → rOut Y d D D' → D'.1 Y 27 = nI d - 1 → Q (actS N m M).1 h') : wX11_ofAct h Y (nI m) Q := by
  have o := (C.2.1.2 m hm).1
  have h80 := C.2.2
  have ok : actOk (nOp N m) (nA N m) (nB N m) (nC N m) (nD N m) := by
    rcases o with o | o | o | o
    · exact o.2
    all_goals omega
  unfold actS at hq
  refine sm_cn (k := 0) C.1 (by omega) (sm_setCn (k := 0) C.1 (by omega) fun h1 D1 C1 O1 => R_O C1.1 C1.2.1.1 ?_)
  obtain ⟨-, -, e2, e3, e4, e5, e6, -⟩ := (C.2.1.r (d := d) O1.r).2 m hm
  refine sm_done C1 (by omega) e2 e3 e4 e5 e6 ok fun h2 D2 C2 O2 => sm_cn (k := 1) C2 (by omega) ⟨fun z => ?_, fun z => ?_⟩
  · rw [if_neg z] at hq
    refine sm_setCn (k := 1) C2 (by omega) fun h3 D3 C3 O3 => ⟨fun _ => sm_setCn (k := 5) C3 (by omega) fun h4 D4 C4 O4 => ?_, fun y => absurd y z⟩
    have O5 := ((O1.tr O2).tr O3).tr O4
    exact sm_pop (C.m C4 O5) ((O5.2 27 (by omega)).trans ht) fun h6 D6 C6 O6 e6 => hq h6 D6 C6 (O5.r.tr O6) e6
  · rw [if_pos z] at hq
    refine sm_setCn (k := 1) C2 (by omega) fun h3 D3 C3 O3 => ⟨fun y => absurd z y, fun _ => ?_⟩
    rw [Int32.add_zero, mSetCn_id] at C3
    refine sm_cn (k := 5) C3 (by omega) (sm_setCn (k := 5) C3 (by omega) fun h4 D4 C4 O4 => ?_)
    rw [mSetCn_id] at C4
    have O5 := ((O1.tr O2).tr O3).tr O4
    exact sm_pop (C.m C4 O5) ((O5.2 27 (by omega)).trans ht) fun h6 D6 C6 O6 e6 => hq h6 D6 C6 (O5.r.tr O6) e6
/-- a round of the loop -/
theorem sm_iter (C : RM Y cnt N M n S D h) {m d j : Nat} {r : Int32} (hm : m < cnt) (hd : d < 82) (ht : D.1 Y 27 = nI d) (es : D.2.1 (Y + 16) d = nI m) {Q : Int32 → aH → Prop} (h0 : nSo N m = 0 → wX11_ofAct h Y (nI m) (fun r h => wbX11_goes_12 j Y r h Q)) (h3 : nSo N m = 3 → wX11_ofGuard h Y (nI m) r (fun r h => wbX11_goes_12 j Y r h Q)) (h12 : nSo N m = 1 ∨ nSo N m = 2 → wX11_ofOther h Y (nI m) r (fun r h => wbX11_goes_12 j Y r h Q)) : wbX11_goes_12 (j + 1) Y r h Q := by
  have o := (C.2.1.2 m hm).1.s4
  obtain ⟨R, L, -⟩ := id C.1
  refine sm_top C ht ⟨fun z => absurd z (nI_pos (by omega)), fun _ => R_R R L.1 rfl (sm_top C ht (sm_stk C hd es (R_R R L.1 rfl (sm_nSo C hm ⟨fun z => R_R R L.1 rfl (sm_nSo C hm ⟨fun y => R_O R L.1 (h12 ?_), fun y => R_O R L.1 (h3 ?_)⟩), fun z => R_O R L.1 (h0 ?_)⟩))))⟩
  · have a1 : ¬ nSo N m = 0 := fun e => z (by rw [e]; rfl)
    have a2 : ¬ nSo N m = 3 := fun e => y (by rw [e]; rfl)
    omega
  · exact (nI_eq (b := 3) (by omega) (by omega)).mp y
  · exact (nI_eq0 (by omega)).mp z
/-- ofOther, by sort and phase -/
theorem sm_oth1 (C : RM Y cnt N M n S D h) {m d : Nat} {r p q u : Int32} (hm : m < cnt) (hd : d + 1 < 82) (ht : D.1 Y 27 = nI d) (sa : sAt Y D d u p q) (s1 : nSo N m = 1) {Q : Int32 → aH → Prop}
    (q0 : p = 0 → ∀ h' D', RM Y cnt N M n S D' h' → rOut Y d D D' → D'.1 Y 27 = nI (d + 1) → sAt Y D' (d + 1) (nA N m) 0 0 → sAt Y D' d u 1 q → Q 0 h')
    (q1 : p = 1 → r = 0 → ∀ h' D', RM Y cnt N M n S D' h' → rOut Y d D D' → D'.1 Y 27 = nI (d + 1) → sAt Y D' (d + 1) (nB N m) 0 0 → sAt Y D' d u 2 q → Q 0 h')
    (q2 : ¬ p = 0 → ¬ (p = 1 ∧ r = 0) → ∀ h' D', RM Y cnt N M n S D' h' → rOut Y d D D' → D'.1 Y 27 = nI d - 1 → Q r h') : wX11_ofOther h Y (nI m) r Q := by
  obtain ⟨R, L, -⟩ := id C.1
  have k61 : ¬ p = 0 → ¬ (p = 1 ∧ r = 0) → wbX11_ofOther_61 Y (nI m) r p h Q := fun a b =>
    R_R R L.1 rfl (sm_nSo C hm ⟨fun _ => sm_pop C ht (q2 a b), fun z => absurd z (by rw [s1]; decide)⟩)
  have k33 : (p = 0 ∨ (p = 1 ∧ r = 0)) → wbX11_ofOther_33 Y (nI m) p h Q := fun a =>
    ⟨fun z => R_R R L.1 rfl (sm_nB C hm (R_O R L.1 (sm_step C ht hd sa (by
      have e := a.resolve_left z
      rw [e.1]; exact q1 e.1 e.2)))), fun z => R_R R L.1 rfl (sm_nA C hm (R_O R L.1 (sm_step C ht hd sa (by rw [z]; exact q0 z))))⟩
  refine R_R R L.1 rfl (sm_top C ht (sm_ph C (by omega) sa.2.1 (R_R R L.1 rfl (sm_nSo C hm ⟨fun z => absurd (by rw [s1]; rfl) z, fun _ => ⟨fun z => k33 (Or.inl z), fun z => ⟨fun y => k61 z (fun e => y e.1), fun y => ⟨fun x => k61 z (fun e => x e.2), fun x => k33 (Or.inr ⟨y, x⟩)⟩⟩⟩⟩))))
theorem kIs_b0 : ∀ a, a < 10 → (kIs (nI a) 0 = 0 ↔ ¬ a = 0) := by decide
theorem kIs_a0 : ∀ b, b < 10 → (kIs 0 (nI b) = 0 ↔ ¬ b = 0) := by decide
theorem sm_oth2 (C : RM Y cnt N M n S D h) {m d : Nat} {r p q u : Int32} (hm : m < cnt) (hd : d + 1 < 82) (ht : D.1 Y 27 = nI d) (sa : sAt Y D d u p q) (s2 : nSo N m = 2) {Q : Int32 → aH → Prop}
    (q0 : p = 0 → ∀ h' D', RM Y cnt N M n S D' h' → rOut Y d D D' → D'.1 Y 27 = nI (d + 1) → sAt Y D' (d + 1) (if kIs (mKd M (mSl M (tN (nA N m)))) (nB N m) = 0 then nD N m else nC N m) 0 0 → sAt Y D' d u 1 q → Q 0 h')
    (q2 : ¬ p = 0 → ∀ h' D', RM Y cnt N M n S D' h' → rOut Y d D D' → D'.1 Y 27 = nI d - 1 → Q r h') : wX11_ofOther h Y (nI m) r Q := by
  obtain ⟨R, L, -⟩ := id C.1
  have o := (C.2.1.2 m hm).1
  have h80 := C.2.2
  obtain ⟨oa, ob⟩ : nS (nA N m) 12 ∧ nS (nB N m) 10 := by
    rcases o with o | o | o | o
    · omega
    · omega
    · exact ⟨o.2.1, o.2.2.1⟩
    · omega
  have la := tN_lt oa (by omega)
  obtain ⟨b, hb, eb⟩ := ob
  have hv := C.1.vm la.1
  have h2 := C.1.m200
  obtain ⟨a, ha, ea⟩ := C.1.kdn hv
  have k135 : p = 0 → ∀ s : Int32, (s = 0 ↔ kIs (mKd M (mSl M (tN (nA N m)))) (nB N m) = 0) → wbX11_ofOther_135 Y (nI m) s h Q := by
    intro hp s hs
    refine ⟨fun z => R_R R L.1 rfl (sm_nD C hm (R_O R L.1 (sm_step C ht hd sa ?_))), fun z => R_R R L.1 rfl (sm_nC C hm (R_O R L.1 (sm_step C ht hd sa ?_)))⟩
    · have := q0 hp; rw [if_pos (hs.mp z)] at this; exact this
    · have := q0 hp; rw [if_neg (fun e => z (hs.mpr e))] at this; exact this
  refine R_R R L.1 rfl (sm_top C ht (sm_ph C (by omega) sa.2.1 (R_R R L.1 rfl (sm_nSo C hm ⟨fun _ => R_R R L.1 rfl (sm_nSo C hm ⟨fun z => absurd (by rw [s2]; rfl) z, fun _ => ⟨fun z => sm_pop C ht (q2 z), fun z => R_R R L.1 rfl (R_R R L.1 rfl (sm_nA C hm ?_))⟩⟩), fun z => absurd z (by rw [s2]; decide)⟩))))
  rw [la.2]
  refine sm_aSl C.1 la.1 (R_R R L.1 rfl (sm_nB C hm ?_))
  rw [eb]
  refine ⟨fun y => ⟨fun x => k135 z 0 ⟨fun _ => ?_, fun _ => rfl⟩, fun x => R_R R L.1 rfl (sm_nB C hm (R_O R L.1 ?_))⟩, fun y => ⟨fun x => k135 z 0 ⟨fun _ => ?_, fun _ => rfl⟩, fun x => k135 z 1 ⟨fun q => absurd q (by decide), fun q => ?_⟩⟩⟩
  · have x' : mSl M (tN (nA N m)) = 0 := (nI_eq0 (by omega)).mp x
    rw [x', C.1.kd0, eb]
    exact (kIs_a0 b hb).mpr fun e => y (by rw [e]; rfl)
  · rw [eb]
    refine sm_is C.1 hv hb ⟨fun w => k135 z 0 ⟨fun _ => ?_, fun _ => rfl⟩, fun w => k135 z 1 ⟨fun q => absurd q (by decide), fun q => ?_⟩⟩
    · rw [eb]; exact w
    · rw [eb] at q; exact absurd q w
  · have y' : b = 0 := (nI_eq0 (by omega)).mp y
    rw [eb, y', ea]
    refine (kIs_b0 a ha).mpr fun e => ?_
    have hne : ¬ mSl M (tN (nA N m)) = 0 := fun e => x ((nI_eq0 (by omega)).mpr e)
    have := (C.1.kd (Nat.pos_of_ne_zero hne) hv).1
    rw [ea, e] at this
    exact absurd this (by decide)
  · have y' : b = 0 := (nI_eq0 (by omega)).mp y
    have x' : mSl M (tN (nA N m)) = 0 := (nI_eq0 (by omega)).mp x
    rw [eb, y', x', C.1.kd0] at q
    exact absurd q (by decide)
end MRN
