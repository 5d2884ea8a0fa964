section MM4
variable {Y n : Nat} {M : mT} {S : sS} {D : sD} {h : aH}
def mMeet2 (j k : Int32) : Int32 := if mIn j 5 7 = 0 then 0 else if mIn k 5 7 = 0 then 0 else 1
def mMeet (j k : Int32) : Int32 := if j = k then (if j < 8 then 1 else mMeet2 j k) else mMeet2 j k
theorem mMeet_B (j k : Int32) : oB (mMeet j k) := by
  unfold mMeet mMeet2
  repeat' split
  all_goals first | exact Or.inl rfl | exact Or.inr rfl
theorem sm_meet {j k : Int32} {Q : Int32 → aH → Prop} (hq : Q (mMeet j k) h) : wX11_meet h j k Q := by
  have k2 : Q (mMeet2 j k) h → wbX11_meet_11 j k h Q := by
    intro hq
    unfold mMeet2 at hq
    refine sm_in ⟨fun z => ⟨Or.inl rfl, ?_⟩, fun z => sm_in ⟨fun y => ⟨Or.inl rfl, ?_⟩, fun y => ⟨Or.inr rfl, ?_⟩⟩⟩
    · rwa [if_pos z] at hq
    · rwa [if_neg z, if_pos y] at hq
    · rwa [if_neg z, if_neg y] at hq
  unfold mMeet at hq
  refine ⟨fun z => k2 ?_, fun z => ⟨fun y => ⟨Or.inr rfl, ?_⟩, fun y => k2 ?_⟩⟩
  · rwa [if_neg z] at hq
  · rwa [if_pos z, if_pos y] at hq
  · rwa [if_pos z, if_neg y] at hq
theorem mMeet_k : ∀ a, a < 10 → ∀ b, b < 10 → 1 ≤ a → mMeet (nI a) (nI b) = kHas (kTab 2 (nI a)) (nI b) := by decide +kernel
theorem kMeet_rw : ∀ a, a < 10 → ∀ b, b < 10 → (kHas (kTab 2 (nI a)) (nI b) = 0 ∨ ((1 ≤ a ∧ a ≤ 7) ∧ (1 ≤ b ∧ b ≤ 7) ∧ (a = b ∨ (5 ≤ a ∧ 5 ≤ b)))) := by decide +kernel
/-- the items that came: up to the first that the row can't hold -/
def mCnt (M : mT) (y src : Nat) : Nat → Nat → Nat
  | 0, i => i
  | j + 1, i => if mKd M y < 5 ∨ (mIt M (src + i)).toInt32 = 0 ∨ ¬ kIs (mKd M (mIt M (src + i)).toInt32.toNatClampNeg) (kTab 4 (mKd M y)) = 0 then mCnt M y src j (i + 1) else i
def mCpI (M : mT) (src tgt i : Nat) : mT := mSetCn (mSetIt M (va_cpy (mIt M) (mIt M) src tgt i)) 2 (mCn M 2 + nI i)
theorem cpy_step {α : Type} (f : Nat → α) (src tgt i : Nat) (g : Nat → α) (hg : ∀ k, g k = if k = tgt + i then f (src + i) else va_cpy f f src tgt i k) : g = va_cpy f f src tgt (i + 1) := by
  funext k
  rw [hg]
  simp only [va_cpy]
  by_cases e : k = tgt + i
  · subst e
    rw [if_pos rfl, if_pos (by omega)]
    congr 1; omega
  · rw [if_neg e]
    by_cases c : tgt ≤ k ∧ k < tgt + i
    · rw [if_pos c, if_pos (by omega)]
    · rw [if_neg c, if_neg (by omega)]
theorem mCpI_step (M : mT) (src tgt i : Nat) : mSetCn (mSetIt (mCpI M src tgt i) (vp_updL (mIt (mCpI M src tgt i)) (tgt + i) (mIt M (src + i)))) 2 (mCn (mCpI M src tgt i) 2 + 1) = mCpI M src tgt (i + 1) := by
  have e1 : vp_updL (va_cpy (mIt M) (mIt M) src tgt i) (tgt + i) (mIt M (src + i)) = va_cpy (mIt M) (mIt M) src tgt (i + 1) := cpy_step _ _ _ _ _ (fun k => rfl)
  have e2 : upd (upd (mCn M) 2 (mCn M 2 + nI i)) 2 (upd (mCn M) 2 (mCn M 2 + nI i) 2 + 1) = upd (mCn M) 2 (mCn M 2 + nI (i + 1)) := by
    funext k
    simp only [upd]
    by_cases e : k = 2
    · subst e; simp only [if_true]; rw [Int32.add_assoc, nI_1]
    · rw [if_neg e, if_neg e, if_neg e]
  unfold mCpI mSetCn mSetIt
  show (_, _, _, _, _, vp_updL (va_cpy (mIt M) (mIt M) src tgt i) (tgt + i) (mIt M (src + i)), _, _, upd (upd (mCn M) 2 (mCn M 2 + nI i)) 2 (upd (mCn M) 2 (mCn M 2 + nI i) 2 + 1)) = _
  rw [e1, e2]
theorem lg0_lN {u : Nat} (hu : u < 2 ^ 31) : lg_cmp (lN u) 0 = 0 ↔ u = 0 := by
  rw [lg_eq, show (0 : Int64) = lN 0 from rfl, lN_eq hu (by omega)]
theorem sm_sIt' (C : MM Y M n S D h) {j : Nat} (hj : j < 3000) {x : Int64} (I' : mInv (mSetIt M (vp_updL (mIt M) j x))) {K : aH → Prop} (hK : ∀ h' D', MM Y (mSetIt M (vp_updL (mIt M) j x)) n S D' h' → mOut Y D D' → D'.2.2.1 (Y + 15) = D.2.2.1 (Y + 15) → K h') : sL h (Y + 5) (nI j) x K := by
  obtain ⟨R, L, r, I⟩ := id C
  refine R_sL R L.s5 (vp_in_nI hj (by omega)) fun h' R' => ?_
  rw [nI_clamp (by omega)] at R'
  refine hK h' _ ⟨R', L, r.setIt (fun q hq => ?_), I'⟩ (mOut.B (by omega)) (by simp [uB, va_up])
  simp only [vp_updL]
  split
  · rfl
  · exact C.rIt hq
theorem sm_setCn' (C : MM Y M n S D h) {k : Nat} (hk : k < 6) {x : Int32} {K : aH → Prop} (hK : ∀ h' D', MM Y (mSetCn M k x) n S D' h' → mOut Y D D' → D'.2.2.1 (Y + 15) = D.2.2.1 (Y + 15) → K h') : wF h Y 9 (17 + k) (.int x) K := by
  obtain ⟨R, L, r, I⟩ := id C
  refine R_wF R L.1 (by rcases (show k = 0 ∨ k = 1 ∨ k = 2 ∨ k = 3 ∨ k = 4 ∨ k = 5 by omega) with rfl | rfl | rfl | rfl | rfl | rfl <;> rfl) fun h' R' => ?_
  exact hK h' _ ⟨R', L, r.setCn, I.setCn⟩ (mOut.O (by omega)) rfl
theorem sm_copy_loop {M : mT} {src tgt y q len w : Nat} (hw : w < 10) (h1 : 1 ≤ y) (hy : y ≤ mMade M) (ry : isRw (mKd M y)) (etgt : tgt = mBg M y + q) (hl : q + len ≤ mLn M y) (hk : mKd M y < 5 ∨ (5 ≤ mKd M y ∧ nI w = kTab 4 (mKd M y) ∧ ∀ k, k < len → ∃ u : Nat, u ≤ mMade M ∧ mIt M (src + k) = lN u)) {Q : Int32 → aH → Prop} : ∀ (j i : Nat) (D : sD) (h : aH), j + i = len → MM Y (mCpI M src tgt i) n S D h → (∀ k, k < len → D.2.2.1 (Y + 15) k = mIt M (src + k)) → (∀ h' D', MM Y (mCpI M src tgt (mCnt M y src j i)) n S D' h' → mOut Y D D' → Q (if mCnt M y src j i = len then 0 else 5) h') → wbX11_copy_182 (j + 1) Y (nI q) (nI len) (nI y) (nI w) (nI i) h Q
  | 0, i, D, h, hi, C, hmid, hq => by
    have e : i = len := by omega
    subst e
    have hl2 := C.2.2.2.ln h1 hy ry
    have hl2 : mLn M y ≤ 3000 := hl2
    unfold mCnt at hq
    rw [if_pos rfl] at hq
    exact ⟨fun _ => hq h D C mOut.rf, fun z => absurd (nI_le (Nat.le_refl i) (by omega)) z⟩
  | j + 1, i, D, h, hi, C, hmid, hq => by
    obtain ⟨R, L, r, I⟩ := id C
    have h2 := C.m200
    have h2 : mMade M ≤ 200 := h2
    have hl2 : mLn M y ≤ 3000 := I.ln h1 hy ry
    have hrow : mBg M y + mLn M y ≤ mUsed M := C.row h1 hy ry
    have h3 : mUsed M ≤ 3000 := C.u3000
    unfold mCnt at hq
    have mid : ∀ K : Int64 → Prop, K (mIt M (src + i)) → aL h (Y + 15) (nI i) K := fun K hK => by
      refine R_aL R L.s15 (vp_in_nI (by omega) (by omega)) ?_
      rw [nI_clamp (by omega), hmid i (by omega)]; exact hK
    have next : (mKd M y < 5 ∨ (mIt M (src + i)).toInt32 = 0 ∨ ¬ kIs (mKd M (mIt M (src + i)).toInt32.toNatClampNeg) (kTab 4 (mKd M y)) = 0) → wbX11_copy_231 (fun v0 v4 v5 v7 v8 v9 h => wbX11_copy_182 (j + 1) v0 v4 v5 v7 v8 v9 h Q) Y (nI q) (nI len) (nI y) (nI w) (nI i) h Q := by
      intro ok
      rw [if_pos ok] at hq
      refine R_R R L.1 rfl (R_R R L.1 rfl (sm_aBg C hy ry (R_R R L.1 rfl (mid _ ?_))))
      show sL h (Y + 5) (nI (mBg M y) + nI q + nI i) _ _
      rw [nI_add, nI_add, ← etgt]
      have I' : mInv (mSetIt (mCpI M src tgt i) (vp_updL (mIt (mCpI M src tgt i)) (tgt + i) (mIt M (src + i)))) := by
        refine I.setIt h1 hy ry (fun z hz => ?_) (fun h5 k hk2 => ?_)
        · have hz : z < mBg M y ∨ mBg M y + mLn M y ≤ z := hz
          simp only [vp_updL]; rw [if_neg (by omega)]
        · have h5 : 5 ≤ mKd M y := h5
          have hk2 : k < mLn M y := hk2
          show ∃ u : Nat, u ≤ mMade M ∧ vp_updL (mIt (mCpI M src tgt i)) (tgt + i) (mIt M (src + i)) (mBg M y + k) = lN u ∧ mOk (mCpI M src tgt i) (mKd M y) u
          simp only [vp_updL]
          by_cases e : mBg M y + k = tgt + i
          · rw [if_pos e]
            rcases hk with c | ⟨-, -, c⟩
            · exact absurd h5 (Int32.not_le.mpr c)
            · obtain ⟨u, hu, eu⟩ := c i (by omega)
              refine ⟨u, hu, eu, ?_⟩
              rw [eu, lN_i, nI_clamp (by omega), nI_eq0 (by omega)] at ok
              rcases ok with c | c | c
              · exact absurd h5 (Int32.not_le.mpr c)
              · exact Or.inl c
              · exact Or.inr c
          · rw [if_neg e]; exact I.2.2.2.2.2.2.2 y h1 hy h5 ry.2 k hk2
      refine sm_sIt' C (by omega) I' fun h4 D4 C4 O4 E4 => ?_
      refine sm_cn (k := 2) C4 (by omega) (sm_setCn' (k := 2) C4 (by omega) fun h5 D5 C5 O5 E5 => ?_)
      have ec : mCn (mSetIt (mCpI M src tgt i) (vp_updL (mIt (mCpI M src tgt i)) (tgt + i) (mIt M (src + i)))) 2 = mCn (mCpI M src tgt i) 2 := rfl
      rw [ec, mCpI_step] at C5
      show wbX11_copy_182 (j + 1) Y (nI q) (nI len) (nI y) (nI w) (nI i + 1) h5 Q
      rw [nI_1]
      refine sm_copy_loop hw h1 hy ry etgt hl hk j (i + 1) D5 h5 (by omega) C5 (fun k hk => ?_) fun h6 D6 C6 O6 => hq h6 D6 C6 ((O4.tr O5).tr O6)
      rw [E5, E4]; exact hmid k hk
    refine ⟨fun z => absurd ((nI_leI (by omega) (by omega)).mp z) (by omega), fun _ => R_R R L.1 rfl (sm_aKd C hy ⟨fun c => next (Or.inl c), fun c => R_R R L.1 rfl (mid _ ?_)⟩)⟩
    have c5 : ¬ mKd M y < 5 := c
    rcases hk with c' | ⟨hk5, ew, hu⟩
    · exact absurd c' c5
    obtain ⟨u, hu, eu⟩ := hu i (by omega)
    have e32 : (mIt M (src + i)).toInt32 = nI u := by rw [eu, lN_i]
    refine ⟨fun z => next (Or.inr (Or.inl ?_)), fun z => R_R R L.1 rfl (mid _ (R_O R L.1 ?_))⟩
    · rw [eu] at z
      rw [e32, nI_eq0 (by omega)]; exact (lg0_lN (by omega)).mp z
    · have z' : ¬ u = 0 := fun q => z (by rw [eu]; exact (lg0_lN (by omega)).mpr q)
      show wX11_is h Y (mIt M (src + i)).toInt32 (nI w) _
      rw [e32]
      refine sm_is C hu hw ⟨fun x => next (Or.inr (Or.inr ?_)), fun x => ?_⟩
      · rw [e32, nI_clamp (by omega), ← ew]; exact x
      · have nok : ¬ (mKd M y < 5 ∨ (mIt M (src + i)).toInt32 = 0 ∨ ¬ kIs (mKd M (mIt M (src + i)).toInt32.toNatClampNeg) (kTab 4 (mKd M y)) = 0) := by
          rw [e32, nI_clamp (by omega), nI_eq0 (by omega), ← ew]
          exact fun q => q.elim c5 (fun q => q.elim z' (fun q => q x))
        rw [if_neg nok, if_neg (by omega)] at hq
        exact hq h D C mOut.rf
theorem sm_mid_loop {M : mT} {x p len : Nat} (h1 : 1 ≤ x) (hx : x ≤ mMade M) (rx : isRw (mKd M x)) (hl : p + len ≤ mLn M x) {q y w : Int32} {Q : Int32 → aH → Prop} : ∀ (j i : Nat) (D : sD) (h : aH), j + i = len → MM Y M n S D h → (∀ k, k < i → D.2.2.1 (Y + 15) k = mIt M (mBg M x + p + k)) → (∀ h' D', MM Y M n S D' h' → mOut Y D D' → (∀ k, k < len → D'.2.2.1 (Y + 15) k = mIt M (mBg M x + p + k)) → ∃ m, wbX11_copy_182 m Y q (nI len) y w 0 h' Q) → wbX11_copy_142 (j + 1) Y (nI p) q (nI len) (nI x) y w (nI i) h Q
  | 0, i, D, h, hi, C, hmid, hq => by
    have e : i = len := by omega
    subst e
    have hl2 := C.2.2.2.ln h1 hx rx
    exact ⟨fun _ => hq h D C mOut.rf hmid, fun z => absurd (nI_le (Nat.le_refl i) (by omega)) z⟩
  | j + 1, i, D, h, hi, C, hmid, hq => by
    obtain ⟨R, L, r, I⟩ := id C
    have hl2 := I.ln h1 hx rx
    have hrow := C.row h1 hx rx
    have h3 := C.u3000
    refine ⟨fun z => absurd ((nI_leI (by omega) (by omega)).mp z) (by omega), fun _ => R_R R L.1 rfl (R_R R L.1 rfl (R_R R L.1 rfl (sm_aBg C hx rx ?_)))⟩
    rw [nI_add, nI_add]
    refine sm_aIt C (by omega) (R_sL R L.s15 (vp_in_nI (by omega) (by omega)) fun h' R' => ?_)
    rw [nI_clamp (by omega)] at R'
    show wbX11_copy_142 (j + 1) Y (nI p) q (nI len) (nI x) y w (nI i + 1) h' Q
    rw [nI_1]
    have C' : MM Y M n S (uB D (Y + 15) (vp_updL (D.2.2.1 (Y + 15)) i (mIt M (mBg M x + p + i)))) h' := by
      refine ⟨R', L, ?_, I⟩
      obtain ⟨r1, r2, r3, r4, r5, r6, r7, r8, r9⟩ := r
      refine ⟨r1, r2, r3, r4, r5, fun j hj => ?_, r7, fun k hk => ?_, r9⟩
      · simp [uB, va_up]; exact r6 j hj
      · simp [uB, va_up]; exact r8 k hk
    refine sm_mid_loop h1 hx rx hl j (i + 1) _ h' (by omega) C' (fun k hk => ?_) fun h4 D4 C4 O4 H4 => hq h4 D4 C4 ((mOut.B (Or.inr rfl)).tr O4) H4
    rw [uB_at]
    simp only [vp_updL]
    by_cases e : k = i
    · rw [if_pos e, e]
    · rw [if_neg e]; exact hmid k (by omega)
/-- the pure side: what came -/
theorem mCnt_le (M : mT) (y src : Nat) : ∀ j i, i ≤ mCnt M y src j i ∧ mCnt M y src j i ≤ i + j
  | 0, i => ⟨Nat.le_refl _, Nat.le_refl _⟩
  | j + 1, i => by
    unfold mCnt
    have := mCnt_le M y src j (i + 1)
    split
    · omega
    · omega
theorem mCnt_all {M : mT} {y src len : Nat} (hall : ∀ k, k < len → mKd M y < 5 ∨ (mIt M (src + k)).toInt32 = 0 ∨ ¬ kIs (mKd M (mIt M (src + k)).toInt32.toNatClampNeg) (kTab 4 (mKd M y)) = 0) : ∀ j i, j + i = len → mCnt M y src j i = len
  | 0, i, hi => by unfold mCnt; omega
  | j + 1, i, hi => by
    unfold mCnt
    rw [if_pos (hall i (by omega))]
    exact mCnt_all hall j (i + 1) (by omega)
theorem mBringN_cnt {M : mT} {y src tgt len : Nat} (h5 : 5 ≤ mKd M y) (hd : src + len ≤ tgt ∨ tgt + len ≤ src) (hu : ∀ k, k < len → ∃ u : Nat, u < 2 ^ 31 ∧ mIt M (src + k) = lN u) : ∀ j i, j + i = len → mBringN src tgt (kTab 4 (mKd M y)) j i (mSetIt M (va_cpy (mIt M) (mIt M) src tgt i)) = (mCnt M y src j i, mSetIt M (va_cpy (mIt M) (mIt M) src tgt (mCnt M y src j i)))
  | 0, i, hi => rfl
  | j + 1, i, hi => by
    have es : mIt (mSetIt M (va_cpy (mIt M) (mIt M) src tgt i)) (src + i) = mIt M (src + i) := by
      show va_cpy (mIt M) (mIt M) src tgt i (src + i) = _
      simp only [va_cpy]; rw [if_neg (by omega)]
    unfold mBringN mCnt
    rw [es]
    obtain ⟨u, hu1, eu⟩ := hu i (by omega)
    have ek : mKd (mSetIt M (va_cpy (mIt M) (mIt M) src tgt i)) = mKd M := rfl
    rw [ek]
    have eo : ((mIt M (src + i)).toInt32 = 0 ∨ ¬ kIs (mKd M (mIt M (src + i)).toInt32.toNatClampNeg) (kTab 4 (mKd M y)) = 0) ↔ (mKd M y < 5 ∨ (mIt M (src + i)).toInt32 = 0 ∨ ¬ kIs (mKd M (mIt M (src + i)).toInt32.toNatClampNeg) (kTab 4 (mKd M y)) = 0) := ⟨Or.inr, fun q => q.elim (fun c => absurd h5 (Int32.not_le.mpr c)) id⟩
    by_cases c : (mIt M (src + i)).toInt32 = 0 ∨ ¬ kIs (mKd M (mIt M (src + i)).toInt32.toNatClampNeg) (kTab 4 (mKd M y)) = 0
    · rw [if_pos c, if_pos (eo.mp c)]
      have ee : mSetIt (mSetIt M (va_cpy (mIt M) (mIt M) src tgt i)) (vp_updL (mIt (mSetIt M (va_cpy (mIt M) (mIt M) src tgt i))) (tgt + i) (mIt M (src + i)).toInt32.toInt64) = mSetIt M (va_cpy (mIt M) (mIt M) src tgt (i + 1)) := by
        have e0 : (mIt M (src + i)).toInt32.toInt64 = mIt M (src + i) := by rw [eu, lN_i, nI_l hu1]
        rw [e0]
        unfold mSetIt
        show (_, _, _, _, _, vp_updL (va_cpy (mIt M) (mIt M) src tgt i) (tgt + i) (mIt M (src + i)), _, _, _) = _
        rw [cpy_step (mIt M) src tgt i (vp_updL (va_cpy (mIt M) (mIt M) src tgt i) (tgt + i) (mIt M (src + i))) (fun k => rfl)]
      rw [ee]
      exact mBringN_cnt h5 hd hu j (i + 1) (by omega)
    · rw [if_neg c, if_neg (fun q => c (eo.mpr q))]
end MM4
