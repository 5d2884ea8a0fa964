section MM3
variable {Y n : Nat} {M : mT} {S : sS} {D : sD} {h : aH}
/-- which long is no number -/
theorem nan_iff (v : Int64) : ((v >>> ((52 : Int32).toInt64 &&& 63)) &&& 2047 = 2047 ∧ ¬ v &&& 4503599627370495 = 0) ↔ (9218868437227405312 : Int64) < v &&& 9223372036854775807 := by
  have hx : v.toBitVec.toNat < 2 ^ 64 := v.toBitVec.isLt
  have e1 : ((v >>> ((52 : Int32).toInt64 &&& 63)) &&& 2047).toBitVec.toNat = v.toBitVec.toNat / 2 ^ 52 % 2 ^ 11 := by
    rw [Int64.toBitVec_and, Int64.toBitVec_shiftRight]
    have eb : (((52 : Int32).toInt64 &&& 63).toBitVec.smod 64) = 52#64 := by decide
    rw [eb]
    have : (v.toBitVec.sshiftRight' 52#64 &&& Int64.toBitVec 2047) = (v.toBitVec >>> 52 &&& 2047#64) := by
      have e2 : (Int64.toBitVec 2047) = 2047#64 := by decide
      rw [e2]
      apply BitVec.eq_of_getLsbD_eq
      intro i hi
      simp only [BitVec.getLsbD_and]
      by_cases c : i < 11
      · have : v.toBitVec.sshiftRight' 52#64 = v.toBitVec.sshiftRight 52 := rfl
        rw [this, BitVec.getLsbD_sshiftRight, BitVec.getLsbD_ushiftRight]
        simp [show ¬ 64 ≤ i by omega, show 52 + i < 64 by omega]
      · have : (2047#64).getLsbD i = false := by
          rw [BitVec.getLsbD_ofNat]
          simp
          intro _
          exact Nat.testBit_lt_two_pow (Nat.lt_of_lt_of_le (by decide : 2047 < 2 ^ 11) (Nat.pow_le_pow_right (by decide) (by omega)))
        rw [this]; simp
    rw [this, BitVec.toNat_and, BitVec.toNat_ushiftRight, Nat.shiftRight_eq_div_pow]
    exact Nat.and_two_pow_sub_one_eq_mod _ 11
  have e2 : (v &&& 4503599627370495).toBitVec.toNat = v.toBitVec.toNat % 2 ^ 52 := by
    rw [Int64.toBitVec_and, BitVec.toNat_and]
    exact Nat.and_two_pow_sub_one_eq_mod _ 52
  have e3 : (v &&& 9223372036854775807).toBitVec.toNat = v.toBitVec.toNat % 2 ^ 63 := by
    rw [Int64.toBitVec_and, BitVec.toNat_and]
    exact Nat.and_two_pow_sub_one_eq_mod _ 63
  have i1 : ((v >>> ((52 : Int32).toInt64 &&& 63)) &&& 2047 = 2047) ↔ v.toBitVec.toNat / 2 ^ 52 % 2 ^ 11 = 2047 := by
    rw [← e1, ← Int64.toBitVec_inj, ← BitVec.toNat_inj]; exact Iff.rfl
  have i2 : (v &&& 4503599627370495 = 0) ↔ v.toBitVec.toNat % 2 ^ 52 = 0 := by
    rw [← e2, ← Int64.toBitVec_inj, ← BitVec.toNat_inj]; exact Iff.rfl
  have i3 : ((9218868437227405312 : Int64) < v &&& 9223372036854775807) ↔ 9218868437227405312 < v.toBitVec.toNat % 2 ^ 63 := by
    rw [← e3, Int64.lt_iff_toInt_lt]
    have : (9218868437227405312 : Int64).toInt = 9218868437227405312 := by decide
    rw [this]
    have hlt : (v &&& 9223372036854775807).toBitVec.toNat < 2 ^ 63 := by rw [e3]; exact Nat.mod_lt _ (by decide)
    have : (v &&& 9223372036854775807).toInt = ((v &&& 9223372036854775807).toBitVec.toNat : Int) := by
      show (v &&& 9223372036854775807).toBitVec.toInt = _
      rw [BitVec.toInt_eq_toNat_cond, if_pos (by omega)]
    rw [this]; omega
  rw [i1, i2, i3]
  omega
theorem mAs64_n {k : Nat} (hk : k < 10) {v : Int64} : mAs64 (nI k) v = if k = 1 then v.toInt32.toInt64 else if k = 2 then v.toInt32.toInt8.toInt32.toInt64 else if k = 4 then (if (9218868437227405312 : Int64) < v &&& 9223372036854775807 then 9221120237041090560 else v) else v := by
  unfold mAs64
  rw [nI_toInt (by omega)]
  simp only [show ((k : Int) = 1) ↔ k = 1 by omega, show ((k : Int) = 2) ↔ k = 2 by omega, show ((k : Int) = 4) ↔ k = 4 by omega]
theorem sm_told {k : Nat} (hk : k < 10) {v : Int64} {Q : Int64 → aH → Prop} (hq : Q (mAs64 (nI k) v) h) : wX11_told h (nI k) v Q := by
  rw [mAs64_n hk] at hq
  have n1 : nI k = 1 ↔ k = 1 := nI_eq (b := 1) (by omega) (by omega)
  have n2 : nI k = 2 ↔ k = 2 := nI_eq (b := 2) (by omega) (by omega)
  have n4 : nI k = 4 ↔ k = 4 := nI_eq (b := 4) (by omega) (by omega)
  have key : ∀ s : Int32, (¬ s = 0 ↔ (9218868437227405312 : Int64) < v &&& 9223372036854775807) → wbX11_told_30 (nI k) v s h Q := by
    intro s hs
    unfold wbX11_told_30 wbX11_told_69 wbX11_told_70
    refine ⟨fun a => ⟨fun b => ⟨fun c => ?_, fun c => ⟨fun d => ?_, fun d => ?_⟩⟩, fun b => ?_⟩, fun a => ?_⟩
    · rwa [if_neg (fun q => a (n1.mpr q)), if_neg (fun q => b (n2.mpr q)), if_neg (fun q => c (n4.mpr q))] at hq
    · rwa [if_neg (fun q => a (n1.mpr q)), if_neg (fun q => b (n2.mpr q)), if_pos (n4.mp c), if_neg (fun q => (hs.mpr q) d)] at hq
    · rwa [if_neg (fun q => a (n1.mpr q)), if_neg (fun q => b (n2.mpr q)), if_pos (n4.mp c), if_pos (hs.mp d)] at hq
    · rwa [if_neg (fun q => a (n1.mpr q)), if_pos (n2.mp b)] at hq
    · rwa [if_pos (n1.mp a)] at hq
  refine ⟨fun a => key 0 ?_, fun a => ⟨fun b => key 0 ?_, fun b => key 1 ?_⟩⟩
  · exact ⟨fun z => absurd rfl z, fun z => absurd (lg_eq.mpr ((nan_iff v).mpr z).1) a⟩
  · exact ⟨fun z => absurd rfl z, fun z => absurd (lg_eq.mp b) ((nan_iff v).mpr z).2⟩
  · exact ⟨fun _ => (nan_iff v).mp ⟨lg_eq.mp a, fun q => b (lg_eq.mpr q)⟩, fun _ => by decide⟩
/-- what itemOf(s, k, i) == 0 says -/
theorem mItem_row (C : MM Y M n S D h) {s : Nat} (hs : s < 12) {b : Nat} (h1 : 1 ≤ b) (h7 : b ≤ 7) {i : Int32} (z : mItem M s (nI b) i = 0) : 1 ≤ mSl M s ∧ isRw (mKd M (mSl M s)) ∧ ∃ j, j < mLn M (mSl M s) ∧ i = nI j ∧ mBg M (mSl M s) + j < 3000 ∧ mRead M (mSl M s) i = mIt M (mBg M (mSl M s) + j) := by
  obtain ⟨z1, z2, z3⟩ := mItem_0 z
  obtain ⟨p1, pr, j, hj, ej, hl⟩ := mHas_1 C.kd0 z3
  have hjl : j < mLn M (mSl M s) := Nat.not_le.mp fun q => hl (nI_le q hj)
  have hrow := C.row p1 (C.vm hs) pr
  have h3 := C.u3000
  refine ⟨p1, pr, j, hjl, ej, by omega, ?_⟩
  unfold mRead
  rw [if_neg z3, ej, nI_clamp hj]
theorem sm_get (C : MM Y M n S D h) {r s : Nat} (hr : r < 8) (hs : s < 12) {b : Nat} (h1 : 1 ≤ b) (h7 : b ≤ 7) {i : Int32} {Q : Int32 → aH → Prop} (hq : ∀ h' D', MM Y (mGet M r s (nI b) i).2 n S D' h' → mOut Y D D' → Q (mGet M r s (nI b) i).1 h') : wX11_get h Y (nI r) (nI s) (nI b) i Q := by
  obtain ⟨R, L, -⟩ := id C
  unfold mGet at hq
  refine R_O R L.1 (sm_itemOf C hs h1 h7 ⟨fun z => ?_, fun z => ?_⟩)
  · rw [if_neg z] at hq; exact hq h D C mOut.rf
  · rw [if_pos z] at hq
    obtain ⟨p1, pr, j, hj, rfl, hb, er⟩ := mItem_row C hs h1 h7 z
    refine R_R R L.1 rfl (R_R R L.1 rfl (R_R R L.1 rfl (R_R R L.1 rfl (sm_aSl C hs (sm_aBg C (C.vm hs) pr ?_)))))
    rw [nI_add]
    refine sm_aIt C hb ?_
    rw [← er]
    exact sm_sRg C hr hq
theorem sm_set (C : MM Y M n S D h) {s r : Nat} (hs : s < 12) (hr : r < 8) {k : Nat} (hk1 : 1 ≤ k) (hk4 : k ≤ 4) {i : Int32} {Q : Int32 → aH → Prop} (hq : ∀ h' D', MM Y (mSet M s (nI k) i r).2 n S D' h' → mOut Y D D' → Q (mSet M s (nI k) i r).1 h') : wX11_set h Y (nI s) (nI k) i (nI r) Q := by
  obtain ⟨R, L, -⟩ := id C
  unfold mSet at hq
  refine R_O R L.1 (sm_itemOf C hs hk1 (by omega) ⟨fun z => ?_, fun z => ?_⟩)
  · rw [if_neg z] at hq; exact hq h D C mOut.rf
  · rw [if_pos z] at hq
    obtain ⟨z1, z2, z3⟩ := mItem_0 z
    obtain ⟨p1, pr, j, hj, rfl, hb, er⟩ := mItem_row C hs hk1 (by omega) z
    obtain ⟨a, ha, ea⟩ := C.kdn (C.vm hs)
    have hak : a = k := by rw [ea] at z2; exact kIs_num a ha k (by omega) hk1 hk4 z2
    rw [hak] at ea
    refine R_R R L.1 rfl (R_R R L.1 rfl (R_R R L.1 rfl (sm_aSl C hs (sm_aBg C (C.vm hs) pr (R_R R L.1 rfl (sm_aRg C hr (sm_told (by omega) ?_)))))))
    rw [nI_add]
    refine sm_sWr (v := mRg M r) C p1 (C.vm hs) pr hj (by rw [ea]) (fun h5 => ?_) hq
    rw [ea] at h5
    have := (nI_leI (a := 5) (by omega) (by omega)).mp h5
    omega
theorem MM.thing (C : MM Y M n S D h) {t j : Nat} (h1 : 1 ≤ t) (ht : t ≤ mMade M) (hr : isRw (mKd M t)) (h5 : 5 ≤ mKd M t) (hj : j < mLn M t) : ∃ u : Nat, u ≤ mMade M ∧ mIt M (mBg M t + j) = lN u ∧ mOk M (mKd M t) u :=
  C.2.2.2.2.2.2.2.2.2.2 t h1 ht h5 hr.2 j hj
theorem sm_take (C : MM Y M n S D h) {s f : Nat} (hs : s < 12) (hf : f < 12) {k : Nat} (hk1 : 5 ≤ k) (hk4 : k ≤ 7) {i : Int32} {Q : Int32 → aH → Prop} (hq : ∀ h' D', MM Y (mTake M s f (nI k) i).2 n S D' h' → mOut Y D D' → Q (mTake M s f (nI k) i).1 h') : wX11_take h Y (nI s) (nI f) (nI k) i Q := by
  obtain ⟨R, L, -⟩ := id C
  have h2 := C.m200
  unfold mTake at hq
  refine R_O R L.1 (sm_itemOf C hf (by omega) hk4 ⟨fun z => ?_, fun z => ?_⟩)
  · rw [if_neg z] at hq; exact hq h D C mOut.rf
  · rw [if_pos z] at hq
    obtain ⟨z1, z2, z3⟩ := mItem_0 z
    obtain ⟨p1, pr, j, hj, rfl, hb, er⟩ := mItem_row C hf (by omega) hk4 z
    obtain ⟨a, ha, ea⟩ := C.kdn (C.vm hf)
    have hak : 5 ≤ a ∧ a ≤ 7 := by rw [ea] at z2; exact kIs_row a ha k (by omega) hk1 hk4 z2
    obtain ⟨u, hu, eu, -⟩ := C.thing p1 (C.vm hf) pr (by rw [ea]; exact nI_5 hak.1 ha) hj
    refine R_R R L.1 rfl (R_R R L.1 rfl (R_R R L.1 rfl (R_R R L.1 rfl (sm_aSl C hf (sm_aBg C (C.vm hf) pr ?_)))))
    rw [nI_add]
    refine sm_aIt C hb ?_
    rw [er, eu, lN_i, nI_clamp (by omega)] at hq
    rw [eu, lN_i]
    exact sm_sSl C hs hu hq
theorem sm_measure (C : MM Y M n S D h) {r s : Nat} (hr : r < 8) (hs : s < 12) {b : Nat} (h1 : 1 ≤ b) (h7 : b ≤ 7) {Q : Int32 → aH → Prop} (hq : ∀ h' D', MM Y (mLength M r s (nI b)).2 n S D' h' → mOut Y D D' → Q (mLength M r s (nI b)).1 h') : wX11_measure h Y (nI r) (nI s) (nI b) Q := by
  obtain ⟨R, L, -⟩ := id C
  unfold mLength at hq
  refine R_O R L.1 (sm_row C hs (by omega) ⟨fun z => ?_, fun z => ?_⟩)
  · rw [if_neg z] at hq; exact hq h D C mOut.rf
  · rw [if_pos z] at hq
    obtain ⟨p1, pr⟩ := mSome_row C hs h1 h7 z
    have es : mSz M (mSl M s) = nI (mLn M (mSl M s)) := by unfold mSz; rw [if_neg (by omega), if_neg (fun q => (kRow_0.mp q) pr)]
    rw [es] at hq
    exact R_R R L.1 rfl (R_R R L.1 rfl (R_R R L.1 rfl (sm_aSl C hs (sm_aLn C (C.vm hs) pr (sm_sRg C hr hq)))))
theorem kIs_9 : ∀ a, a < 10 → (kIs (nI a) 9 = 0 ↔ ¬ nI a = 9) := by decide
theorem sm_tell (C : MM Y M n S D h) {r s : Nat} (hr : r < 8) (hs : s < 12) {Q : Int32 → aH → Prop} (hq : ∀ h' D', MM Y (mTell M r s).2 n S D' h' → mOut Y D D' → Q (mTell M r s).1 h') : wX11_tell h Y (nI r) (nI s) Q := by
  obtain ⟨R, L, -⟩ := id C
  unfold mTell at hq
  refine R_O R L.1 (sm_row (b := 8) C hs (by omega) ⟨fun z => ?_, fun z => ?_⟩)
  · have z : ¬ mSome M s 8 = 0 := z
    rw [if_neg z] at hq; exact hq h D C mOut.rf
  · have z : mSome M s 8 = 0 := z
    rw [if_pos z] at hq
    obtain ⟨z1, z2⟩ := mSome_0 z
    obtain ⟨a, ha, ea⟩ := C.kdn (C.vm hs)
    have h8 := kIs_nrw0 a ha (by rw [← ea]; exact z2)
    have nr : ¬ isRw (mKd M (mSl M s)) := by rw [ea]; exact isRw_nI8 h8.1 h8.2
    have es : mSz M (mSl M s) = mNm M (mSl M s) := by unfold mSz; rw [if_neg z1, if_pos (kRow_0.mpr nr)]
    have e9 := kIs_9 a ha
    rw [es, ea] at hq
    refine R_R R L.1 rfl (R_R R L.1 rfl (sm_aSl C hs (sm_aNm C (C.vm hs) nr z1 (R_R R L.1 rfl (R_R R L.1 rfl (R_R R L.1 rfl (sm_aSl C hs (sm_aKd C (C.vm hs) ⟨fun y => ?_, fun y => ?_⟩))))))))
    · rw [ea] at y
      rw [if_pos (e9.mpr y)] at hq; exact sm_sRg C hr hq
    · rw [ea] at y
      rw [if_neg (fun q => (e9.mp q) y)] at hq; exact sm_sRg C hr hq
theorem sm_move (C : MM Y M n S D h) {s f : Nat} (hs : s < 12) (hf : f < 12) {b : Nat} (hb : b < 10) {Q : Int32 → aH → Prop} (hq : ∀ h' D', MM Y (mMove M s f (nI b)).2 n S D' h' → mOut Y D D' → Q (mMove M s f (nI b)).1 h') : wX11_move h Y (nI s) (nI f) (nI b) Q := by
  obtain ⟨R, L, -⟩ := id C
  unfold mMove at hq
  have key : ∀ c, c = mMoveF M f (nI b) → wbX11_move_14 Y (nI s) (nI f) c h Q := by
    intro c hc
    subst hc
    refine ⟨fun z => ?_, fun z => ?_⟩
    · rw [if_neg z] at hq; exact hq h D C mOut.rf
    · rw [if_pos z] at hq
      exact R_R R L.1 rfl (R_R R L.1 rfl (sm_aSl C hf (sm_sSl C hs (C.vm hf) hq)))
  refine ⟨fun z => R_O R L.1 (sm_as C hf hb (key _ ?_)), fun z => key _ ?_⟩
  · unfold mMoveF; rw [if_neg z]
  · unfold mMoveF; rw [if_pos z]
theorem div_m1 (x : Int64) : x / (-1) = -x := by
  apply Int64.toBitVec_inj.mp
  rw [Int64.toBitVec_div]
  show x.toBitVec.sdiv (-1#64) = (-x).toBitVec
  rw [Int64.toBitVec_neg]
  have m : (-1#64).msb = true := by decide
  have e : -(-1#64) = 1#64 := by decide
  have u : ∀ y : BitVec 64, y.udiv 1#64 = y := fun y => by
    show y / 1#64 = y
    exact BitVec.udiv_one
  unfold BitVec.sdiv
  rw [m]
  cases x.toBitVec.msb
  · show -(x.toBitVec.udiv (-(-1#64))) = _
    rw [e, u]
  · show (-x.toBitVec).udiv (-(-1#64)) = _
    rw [e, u]
theorem sm_divide (C : MM Y M n S D h) {r a b : Nat} (hr : r < 8) (ha : a < 8) (hb : b < 8) {t : Int32} {Q : Int32 → aH → Prop} (hq : ∀ h' D', MM Y (if t = 0 then mDiv M r a b else mRest M r a b).2 n S D' h' → mOut Y D D' → Q (if t = 0 then mDiv M r a b else mRest M r a b).1 h') : wX11_divide h Y (nI r) (nI a) (nI b) t Q := by
  obtain ⟨R, L, -⟩ := id C
  unfold mDiv mRest at hq
  refine R_R R L.1 rfl (sm_aRg C hb ⟨fun z => ?_, fun z => ?_⟩)
  · have z' : ¬ mRg M b = 0 := fun e => z (lg_eq.mpr e)
    rw [if_neg z', if_neg z'] at hq
    have key : wbX11_divide_50 Y (nI r) (nI a) (nI b) t (mRg M a / mRg M b) h Q := by
      refine R_R R L.1 rfl ⟨fun w => ?_, fun w => R_R R L.1 rfl (sm_aRg C ha (R_R R L.1 rfl (sm_aRg C hb ?_)))⟩
      · rw [if_pos w] at hq; exact sm_sRg C hr hq
      · rw [if_neg w] at hq; exact sm_sRg C hr hq
    refine R_R R L.1 rfl (sm_aRg C hb ⟨fun y => R_R R L.1 rfl (sm_aRg C ha (R_R R L.1 rfl (sm_aRg C hb ⟨z', key⟩))), fun y => R_R R L.1 rfl (sm_aRg C ha ?_)⟩)
    have y' : mRg M b = -1 := lg_eq.mp y
    rw [y', div_m1] at key
    exact key
  · have z' : mRg M b = 0 := lg_eq.mp z
    rw [if_pos z', if_pos z'] at hq
    have hq' := hq h D
    by_cases w : t = 0
    · rw [if_pos w] at hq'; exact hq' C mOut.rf
    · rw [if_neg w] at hq'; exact hq' C mOut.rf
theorem kTab4_5 : kTab 4 (nI 5) = nI 1 := by decide
theorem kTab4_6 : kTab 4 (nI 6) = nI 8 := by decide
theorem kTab4_7 : kTab 4 (nI 7) = nI 9 := by decide
theorem sm_lay (C : MM Y M n S D h) {s f k : Nat} (hs : s < 12) (hf : f < 12) (hk5 : 5 ≤ k) (hk7 : k ≤ 7) {i : Int32} {Q : Int32 → aH → Prop} (hq : ∀ h' D', MM Y (mLay M s (nI k) i f).2 n S D' h' → mOut Y D D' → Q (mLay M s (nI k) i f).1 h') : wX11_lay h Y (nI s) (nI k) i (nI f) Q := by
  obtain ⟨R, L, -⟩ := id C
  have h2 := C.m200
  have hvf := C.vm hf
  obtain ⟨a, ha, ea⟩ := C.kdn (C.vm hs)
  obtain ⟨b, hb, eb⟩ := C.kdn (C.vm hf)
  unfold mLay at hq
  have k65 : ∀ c, c = mLay3 M s (nI k) i f → wbX11_lay_65 Y (nI s) i (nI f) c h Q := by
    intro c hc
    subst hc
    refine ⟨fun z => ?_, fun z => ?_⟩
    · have hi : mItem M s (nI k) i = 0 := by
        have z2 := z
        unfold mLay3 at z2
        by_cases c2 : mLay2 M s (nI k) f = 0
        · rwa [if_pos c2] at z2
        · rw [if_neg c2] at z2; exact absurd z2 c2
      obtain ⟨p1, pr, j, hj, rfl, hb3, er⟩ := mItem_row C hs (by omega) hk7 hi
      have k120 : mLayF M s (nI k) (nI j) f = 0 → wbX11_lay_120 Y (nI s) (nI j) (nI f) h Q := by
        intro w
        rw [if_pos w] at hq
        refine R_R R L.1 rfl (R_R R L.1 rfl (R_R R L.1 rfl (sm_aSl C hs (sm_aBg C (C.vm hs) pr (R_R R L.1 rfl (sm_aSl C hf ?_))))))
        rw [nI_add, nI_l (by omega)]
        obtain ⟨z1, z2, z3⟩ := mItem_0 hi
        have h5 : 5 ≤ a ∧ a ≤ 7 := by rw [ea] at z2; exact kIs_row a ha k (by omega) hk5 hk7 z2
        refine sm_sWr (v := lN (mSl M f)) C p1 (C.vm hs) pr hj ?_ (fun _ => ⟨mSl M f, hvf, rfl, mLay_ok hk5 hk7 ha hb ea eb w⟩) ?_
        · rw [ea, mAs64_n (by omega), if_neg (by omega), if_neg (by omega), if_neg (by omega)]
        · rw [w] at hq; exact hq
      refine R_R R L.1 rfl (R_R R L.1 rfl (sm_aSl C hs (sm_aKd C (C.vm hs) ⟨fun y => k120 ?_, fun y => R_R R L.1 rfl (sm_aSl C hf ⟨fun x => k120 ?_, fun x => R_R R L.1 rfl (R_R R L.1 rfl (sm_aSl C hf (sm_aKd C (C.vm hf) ⟨fun w => k120 ?_, fun w => ?_⟩)))⟩)⟩)))
      · unfold mLayF; rw [if_neg (fun q => y q.2.1)]; exact z
      · have x' : mSl M f = 0 := (nI_eq0 (by omega)).mp x
        unfold mLayF; rw [if_neg (fun q => by have := q.2.2; rw [x', C.kd0] at this; exact absurd this (by decide))]; exact z
      · unfold mLayF; rw [if_neg (fun q => w q.2.2)]; exact z
      · have e5 : mLayF M s (nI k) (nI j) f = 5 := by unfold mLayF; rw [if_pos ⟨z, y, w⟩]
        rw [e5] at hq
        exact hq h D C mOut.rf
    · have e : mLayF M s (nI k) i f = mLay3 M s (nI k) i f := by unfold mLayF; rw [if_neg (fun q => z q.1)]
      rw [e, if_neg z] at hq
      exact hq h D C mOut.rf
  have k46 : ∀ c, c = mLay2 M s (nI k) f → wbX11_lay_46 Y (nI s) (nI k) i (nI f) c h Q := by
    intro c hc
    subst hc
    refine ⟨fun z => R_O R L.1 (sm_itemOf C hs (by omega) hk7 (k65 _ ?_)), fun z => k65 _ ?_⟩
    · unfold mLay3; rw [if_pos z]
    · unfold mLay3; rw [if_neg z]
  have k43 : ∀ b', b' < 10 → kTab 4 (nI k) = nI b' → mAs M s (nI k) = 0 → wbX11_lay_43 Y (nI s) (nI k) i (nI f) (nI b') (nI f) Y h Q := by
    intro b' hb' e z
    refine R_O R L.1 (sm_as C hf hb' (k46 _ ?_))
    unfold mLay2; rw [if_pos z, e]
  refine R_O R L.1 (sm_as C hs (by omega) ⟨fun z => ⟨fun y => ⟨fun x => ?_, fun x => ?_⟩, fun y => ?_⟩, fun z => k46 _ ?_⟩)
  · rcases (show k = 5 ∨ k = 6 ∨ k = 7 by omega) with rfl | rfl | rfl
    · exact absurd rfl y
    · exact absurd rfl x
    · exact k43 9 (by omega) kTab4_7 z
  · rcases (show k = 5 ∨ k = 6 ∨ k = 7 by omega) with rfl | rfl | rfl
    · exact absurd rfl y
    · exact k43 8 (by omega) kTab4_6 z
    · exact absurd x (by decide)
  · rcases (show k = 5 ∨ k = 6 ∨ k = 7 by omega) with rfl | rfl | rfl
    · exact k43 1 (by omega) kTab4_5 z
    · exact absurd y (by decide)
    · exact absurd y (by decide)
  · unfold mLay2; rw [if_neg z]
end MM3
