theorem upd_self {f : Nat → Int32} {s : Nat} : upd f s (f s) = f := by
  funext k; simp only [upd]; split
  · rename_i e; rw [e]
  · rfl
theorem pFor_1 {f s : Nat} {nn : Int32} {q : rP} (ok : okS q.1) : (pFor f s (nn ^^^ (-1)) q).1 = if q.1 s &&& nn = 0 then rZ else upd q.1 s (q.1 s &&& nn) := by
  unfold pFor
  by_cases c : q.1 s &&& (nn ^^^ (-1)) = 0
  · rw [if_pos c, keep_all c, if_neg (ok s).1, upd_self]
  · rw [if_neg c]
    show kp q.1 s _ = _
    unfold kp
    rw [keep_not]
theorem m2_not : (-2 : Int32) = 1 ^^^ (-1) := by decide
theorem m2_not' : (-2 : Int32) ^^^ (-1) = 1 := by decide
theorem and_m2 (x m : Int32) : (x &&& (m ^^^ (-1))) &&& (-2) = x &&& ((m ||| 1) ^^^ (-1)) := by
  rw [m2_not]
  apply i32_ext; intro i hi; simp only [bt_and, bt_or, bt_not _ hi]; cases x.toBitVec.getLsbD i <;> cases m.toBitVec.getLsbD i <;> cases (1 : Int32).toBitVec.getLsbD i <;> rfl
theorem mMask_are : ∀ k, k < 10 → mMask (nI k) = kTab 1 (nI k) := by decide +kernel
section MY2
variable {Y d n : Nat} {q : rP} {S : sS} {D : sD} {h : aH}
/-- the set that is kept of a slot, and whether it is empty -/
theorem my_keep {W' : rW} {D1 : sD} {h1 : aH} (C1 : YX Y d (q.1, W') n S D1 h1) (ok : okS q.1) {s : Nat} (hs : s < 12) {v : Int32} (hv : v &&& 1023 = v) {q' : rP} (e1 : q'.1 = if v = 0 then rZ else upd q.1 s v) (e2 : q'.2 = W') {K : Int32 → aH → Prop} (hq : ∀ h' D' r, YO Y d q' n S D' h' r → yOn Y d D1 D' → K r h') : sI h1 (Y + 29) (nI s) v (fun h6 => rR h6 Y 9 39 (fun r7 => aI h6 r7 (nI s) (fun r9 => (r9 = 0 → oB 0 ∧ K 0 h6) ∧ (¬ r9 = 0 → oB 1 ∧ K 1 h6)))) := by
  refine my_setNow C1 hs fun h2 D2 C2 O2 => R_R C2.1 C2.2.1.1 rfl (my_now C2 hs ?_)
  have ev : upd q.1 s v s = v := by simp [upd]
  show (upd q.1 s v s = 0 → _) ∧ (¬ upd q.1 s v s = 0 → _)
  rw [ev]
  refine ⟨fun z => ⟨Or.inl rfl, hq h2 D2 0 (C2.off (by rw [e1, if_pos z]) e2) O2⟩, fun z => ⟨Or.inr rfl, hq h2 D2 1 ?_ O2⟩⟩
  have eq : q' = (upd q.1 s v, W') := by
    rw [if_neg z] at e1
    exact Prod.ext e1 e2
  rw [eq]
  exact C2.on (ok.up z hv)
theorem my_mayAs (C : YX Y d q n S D h) (ok : okS q.1) {s : Nat} (hs : s < 12) {k : Nat} (hk : k < 10) {Q : Int32 → aH → Prop} (hq : ∀ h' D' r, YO Y d (pAs s (nI k) q) n S D' h' r → yOn Y d D D' → Q r h') : wX11_mayAs h Y (nI d) (nI s) (nI k) Q := by
  obtain ⟨R, L, -⟩ := id C
  have k32 : ∀ (W' : rW) (D1 : sD) (h1 : aH), YX Y d (q.1, W') n S D1 h1 → yOn Y d D D1 → (pAs s (nI k) q).2 = W' → wbX11_mayAs_32 Y (nI s) (nI k) h1 Q := by
    intro W' D1 h1 C1 O1 e2
    refine R_R C1.1 C1.2.1.1 rfl (my_now C1 hs (sm_mask ?_))
    rw [mMask_are k hk]
    refine my_keep C1 ok hs (by rw [and_sw, (ok s).2]) (q' := pAs s (nI k) q) (pFor_1 ok) e2 fun h2 D2 r C2 O2 => hq h2 D2 r C2 (O1.tr O2)
  refine R_R R L.1 rfl (my_now C hs (sm_mask ?_))
  rw [mMask_are k hk, and_m2]
  refine ⟨fun z => k32 q.2 D h C yOn.rf ?_, fun z => R_O R L.1 (my_mayFailS (f := 2) C (by omega) hs fun h1 D1 C1 O1 => k32 _ D1 h1 C1 O1 ?_)⟩
  · unfold pAs pFor; rw [if_pos z]
  · unfold pAs pFor; rw [if_neg z]
theorem my_mayRow (C : YX Y d q n S D h) (ok : okS q.1) {s : Nat} (hs : s < 12) {Q : Int32 → aH → Prop} (hq : ∀ h' D' r, YO Y d (pFor 1 s 1 q) n S D' h' r → yOn Y d D D' → Q r h') : wX11_mayRow h Y (nI d) (nI s) Q := by
  obtain ⟨R, L, -⟩ := id C
  have ep : (pFor 1 s 1 q).1 = if q.1 s &&& (-2) = 0 then rZ else upd q.1 s (q.1 s &&& (-2)) := by
    have := pFor_1 (f := 1) (s := s) (nn := -2) ok
    rw [m2_not'] at this; exact this
  have k20 : ∀ (W' : rW) (D1 : sD) (h1 : aH), YX Y d (q.1, W') n S D1 h1 → yOn Y d D D1 → (pFor 1 s 1 q).2 = W' → wbX11_mayRow_20 Y (nI s) h1 Q := by
    intro W' D1 h1 C1 O1 e2
    refine R_R C1.1 C1.2.1.1 rfl (my_now C1 hs ?_)
    exact my_keep C1 ok hs (by show (q.1 s &&& (-2)) &&& 1023 = q.1 s &&& (-2); rw [and_sw, (ok s).2]) (q' := pFor 1 s 1 q) ep e2 fun h2 D2 r C2 O2 => hq h2 D2 r C2 (O1.tr O2)
  refine R_R R L.1 rfl (my_now C hs ⟨fun z => k20 q.2 D h C yOn.rf ?_, fun z => R_O R L.1 (my_mayFailS (f := 1) (x := 1) C (by omega) hs fun h1 D1 C1 O1 => k20 _ D1 h1 C1 O1 ?_)⟩)
  · have z' : q.1 s &&& 1 = 0 := (and1 _).resolve_right z
    unfold pFor; rw [if_pos z']
  · unfold pFor; rw [if_neg (by rw [z]; decide), z]
theorem my_some (C : YX Y d q n S D h) (ok : okS q.1) {s : Nat} (hs : s < 12) {k : Nat} (hk : k < 10) {Q : Int32 → aH → Prop} (hq : ∀ h' D' r, YO Y d (pSome s (nI k) q) n S D' h' r → yOn Y d D D' → Q r h') : wX11_mayAs h Y (nI d) (nI s) (nI k) (fun r3 h2 => (r3 = 0 → Q 0 h2) ∧ (¬ r3 = 0 → isO h2 Y 9 (wX11_mayRow h2 Y (nI d) (nI s) Q))) := by
  refine my_mayAs C ok hs hk fun h1 D1 r C1 O1 => ⟨fun z => hq h1 D1 0 ?_ O1, fun z => ?_⟩
  · have := C1.no z
    rw [z] at C1
    exact C1.cg (pFor_z this)
  · obtain ⟨C1', ok1⟩ := C1.yes z
    exact R_O C1'.1 C1'.2.1.1 (my_mayRow C1' ok1 hs fun h2 D2 r2 C2 O2 => hq h2 D2 r2 C2 (O1.tr O2))
theorem my_mayItem (C : YX Y d q n S D h) (ok : okS q.1) {s : Nat} (hs : s < 12) {k : Nat} (hk : k < 10) {Q : Int32 → aH → Prop} (hq : ∀ h' D' r, YO Y d (pMay 3 (pSome s (nI k) q)) n S D' h' r → yOn Y d D D' → Q r h') : wX11_mayItem h Y (nI d) (nI s) (nI k) Q := by
  obtain ⟨R, L, -⟩ := id C
  have k24 : ∀ (r : Int32) (D1 : sD) (h1 : aH), YO Y d (pSome s (nI k) q) n S D1 h1 r → yOn Y d D D1 → wbX11_mayItem_24 Y (nI d) r h1 Q := by
    intro r D1 h1 C1 O1
    refine ⟨fun z => ⟨C1.B, hq h1 D1 r (C1.cg (pMay_z (C1.no z))) O1⟩, fun z => ?_⟩
    obtain ⟨C1', ok1⟩ := C1.yes z
    refine R_O C1'.1 C1'.2.1.1 (my_mayFail (f := 3) C1' (by omega) fun h2 D2 C2 O2 => ⟨C1.B, hq h2 D2 r ?_ (O1.tr O2)⟩)
    have : r = 1 := C1.B.resolve_left z
    rw [this]; exact C2.on ok1
  refine R_O R L.1 (my_mayAs C ok hs hk fun h1 D1 r C1 O1 => ⟨fun z => k24 0 D1 h1 ?_ O1, fun z => ?_⟩)
  · have := C1.no z
    rw [z] at C1
    exact C1.cg (pFor_z this)
  · obtain ⟨C1', ok1⟩ := C1.yes z
    refine R_O C1'.1 C1'.2.1.1 (my_mayRow C1' ok1 hs fun h2 D2 r2 C2 O2 => ⟨fun y => ?_, fun y => ?_⟩)
    · rw [y] at C2; exact k24 0 D2 h2 C2 (O1.tr O2)
    · have : r2 = 1 := C2.B.resolve_left y
      rw [this] at C2; exact k24 1 D2 h2 C2 (O1.tr O2)
theorem my_mayNew (C : YX Y d q n S D h) (ok : okS q.1) {a : Nat} (ha : a < 12) {w x : Int32} (hx : ¬ x = 0 ∧ x &&& 1023 = x) {Q : Int32 → aH → Prop} (hq : ∀ h' D' r, YO Y d (pAsk w a x q) n S D' h' r → yOn Y d D D' → Q r h') : wX11_mayNew h Y (nI d) w (nI a) x Q := by
  obtain ⟨R, L, -⟩ := id C
  unfold pAsk at hq
  refine ⟨fun z => R_O R L.1 (my_mayFail (f := 8) C (by omega) fun h1 D1 C1 O1 => R_R C1.1 C1.2.1.1 rfl (my_setNow C1 ha fun h2 D2 C2 O2 => ⟨Or.inr rfl, ?_⟩)), fun z => R_O R L.1 (my_mayFail (f := 4) C (by omega) fun h1 D1 C1 O1 => ⟨Or.inl rfl, ?_⟩)⟩
  · rw [if_pos z] at hq
    refine hq h2 D2 1 ?_ (O1.tr O2)
    have e : pNew a x (pMay 8 q) = (upd q.1 a x, (pMay 8 q).2) := by unfold pNew; rw [if_neg (show ¬ (pMay 8 q).1 0 = 0 from (ok 0).1)]; rfl
    rw [e]
    exact C2.on (ok.up hx.1 hx.2)
  · rw [if_neg z] at hq
    refine hq h1 D1 0 ?_ O1
    have e : pNew a x (pMay 8 (pMust 4 q)) = pMust 4 q := by rw [pMay_z rfl, pNew_z rfl]
    rw [e]
    exact C1.off rfl rfl
theorem kHas_iff {x k : Int32} : kHas x k = 0 ↔ ¬ (x >>> (k &&& 31)) &&& 1 = 1 := by
  unfold kHas
  rcases and1 (x >>> (k &&& 31)) with e | e
  · rw [e]; simp
  · rw [e]; simp
theorem my_mayTake (C : YX Y d q n S D h) (ok : okS q.1) {a b : Nat} (ha : a < 12) (hb : b < 12) {k : Nat} (hk : k < 10) {Q : Int32 → aH → Prop} (hq : ∀ h' D' r, YO Y d (pTake a b (nI k) q) n S D' h' r → yOn Y d D D' → Q r h') : wX11_mayTake h Y (nI d) (nI a) (nI b) (nI k) Q := by
  obtain ⟨R, L, -⟩ := id C
  unfold pTake at hq
  refine R_O R L.1 (my_mayItem C ok hb hk fun h1 D1 r C1 O1 => ⟨fun z => ⟨C1.B, hq h1 D1 r (C1.cg (pNew_z (C1.no z))) O1⟩, fun z => ?_⟩)
  obtain ⟨C1', ok1⟩ := C1.yes z
  have er : r = 1 := C1.B.resolve_left z
  subst er
  generalize pMay 3 (pSome b (nI k) q) = q1 at C1' ok1 hq
  have en : ∀ x, pNew a x q1 = (upd q1.1 a x, q1.2) := fun x => by unfold pNew; rw [if_neg (ok1 0).1]
  simp only at hq
  rw [en] at hq
  have k37 : ∀ s0 : Int32, (513 ||| s0 = if kHas (q1.1 b) 6 = 0 then 513 else 769) → wbX11_mayTake_37 Y (nI a) (nI k) 1 s0 h1 Q := by
    intro s0 hs
    refine R_R C1'.1 C1'.2.1.1 rfl ⟨fun y => my_setNow C1' ha fun h2 D2 C2 O2 => ⟨Or.inr rfl, ?_⟩, fun y => my_setNow C1' ha fun h2 D2 C2 O2 => ⟨Or.inr rfl, ?_⟩⟩
    · rw [if_neg y, ← hs] at hq
      refine hq h2 D2 1 (C2.on (ok1.up ?_ ?_)) (O1.tr O2)
      · rw [hs]; split <;> decide
      · rw [hs]; split <;> decide
    · rw [if_pos y] at hq
      exact hq h2 D2 1 (C2.on (ok1.up (by decide) (by decide))) (O1.tr O2)
  refine R_R C1'.1 C1'.2.1.1 rfl (my_now C1' hb ⟨fun y => k37 0 ?_, fun y => k37 256 ?_⟩)
  · rw [if_pos (kHas_iff.mpr y)]; decide
  · rw [if_neg (fun e => kHas_iff.mp e y)]; decide
theorem small10 {x : Int32} (h : x &&& 1023 = x) : ∃ j : Nat, j < 1024 ∧ x = nI j := by
  have e : (x &&& 1023).toBitVec.toNat = x.toBitVec.toNat % 2 ^ 10 := by
    rw [Int32.toBitVec_and, BitVec.toNat_and]
    exact Nat.and_two_pow_sub_one_eq_mod _ 10
  rw [h] at e
  have hl : x.toBitVec.toNat < 1024 := by rw [e]; exact Nat.mod_lt _ (by decide)
  refine ⟨x.toBitVec.toNat, hl, ?_⟩
  rw [← Int32.toBitVec_inj, ← BitVec.toNat_inj]
  show _ = (BitVec.ofNat 32 x.toBitVec.toNat).toNat
  rw [BitVec.toNat_ofNat, Nat.mod_eq_of_lt (by omega)]
theorem lay7 : ∀ j, j < 1024 → (¬ (nI j >>> (7 &&& 31)) &&& 1 = 1 ∨ nI j = 128 ∨ ¬ nI j &&& (-129) = 0) := by decide +kernel
theorem lay8 : ∀ j, j < 1024 → (¬ (nI j >>> (8 &&& 31)) &&& 1 = 1 ∨ nI j = 256 ∨ ¬ nI j &&& (-257) = 0) := by decide +kernel
theorem my_mayLay (C : YX Y d q n S D h) (ok : okS q.1) {a dd : Nat} (ha : a < 12) (hd : dd < 12) {k : Nat} (hk5 : 5 ≤ k) (hk7 : k ≤ 7) {Q : Int32 → aH → Prop} (hq : ∀ h' D' r, YO Y d (pLay a (nI k) dd q) n S D' h' r → yOn Y d D D' → Q r h') : wX11_mayLay h Y (nI d) (nI a) (nI k) (nI dd) Q := by
  obtain ⟨R, L, -⟩ := id C
  have kz : ∀ p : rP, p.1 = rZ → pLay0 a (nI k) dd q = p → pLay a (nI k) dd q = p := by
    intro p hp e
    unfold pLay
    rw [e, if_pos]
    rw [hp]; show kHas 0 7 = 0; decide
  have k51 : ∀ (p : rP) (D1 : sD) (h1 : aH), YO Y d p n S D1 h1 0 → yOn Y d D D1 → pLay0 a (nI k) dd q = p → wbX11_mayLay_51 h1 Q := fun p D1 h1 C1 O1 e => ⟨Or.inl rfl, hq h1 D1 0 (C1.cg (kz p (C1.no rfl) e)) O1⟩
  -- all but the store
  have k36 : ∀ it, it < 10 → kTab 4 (nI k) = nI it → ∀ (D1 : sD) (h1 : aH), YX Y d (pAs a (nI k) q) n S D1 h1 → okS (pAs a (nI k) q).1 → yOn Y d D D1 → wbX11_mayLay_36 Y (nI d) (nI a) (nI dd) (nI it) (nI dd) (nI d) Y h1 Q := by
    intro it hit eit D1 h1 C1 ok1 O1
    have e0 : pLay0 a (nI k) dd q = pMay 3 (pFor 1 a 1 (pAs dd (nI it) (pAs a (nI k) q))) := by unfold pLay0; rw [eit]
    refine R_O C1.1 C1.2.1.1 (my_mayAs C1 ok1 hd hit fun h2 D2 r2 C2 O2 => ⟨fun z => ?_, fun z => ?_⟩)
    · have := C2.no z
      rw [z] at C2
      exact k51 _ D2 h2 C2 (O1.tr O2) (by rw [e0, pFor_z this, pMay_z this])
    · obtain ⟨C2', ok2⟩ := C2.yes z
      refine R_O C2'.1 C2'.2.1.1 (my_mayRow C2' ok2 ha fun h3 D3 r3 C3 O3 => ⟨fun y => ?_, fun y => ?_⟩)
      · obtain ⟨C3', ok3⟩ := C3.yes y
        refine R_O C3'.1 C3'.2.1.1 (my_mayFail (f := 3) C3' (by omega) fun h4 D4 C4 O4 => ?_)
        rw [← e0] at C4
        have ok4 : okS (pLay0 a (nI k) dd q).1 := by rw [e0]; exact ok3
        have O04 := ((O1.tr O2).tr O3).tr O4
        unfold pLay at hq
        generalize pLay0 a (nI k) dd q = p at C4 ok4 hq
        refine R_R C4.1 C4.2.1.1 rfl (my_now C4 ha (R_R C4.1 C4.2.1.1 rfl (my_now C4 hd ?_)))
        have k168 : ∀ (p' : rP) (D5 : sD) (h5 : aH), YX Y d p' n S D5 h5 → yOn Y d D D5 → (p'.1 a = 0 ∨ p'.1 dd = 0 → ∀ h' D', YX Y d p' n S D' h' → yOn Y d D D' → Q 0 h') → (¬ p'.1 a = 0 → ¬ p'.1 dd = 0 → Q 1 h5) → wbX11_mayLay_168 Y (nI a) (nI dd) h5 Q := by
          intro p' D5 h5 C5 O5 q0 q1
          refine R_R C5.1 C5.2.1.1 rfl (my_now C5 ha ⟨fun w => ⟨Or.inl rfl, q0 (Or.inl w) h5 D5 C5 O5⟩, fun w => R_R C5.1 C5.2.1.1 rfl (my_now C5 hd ⟨fun v => ⟨Or.inl rfl, q0 (Or.inr v) h5 D5 C5 O5⟩, fun v => ⟨Or.inr rfl, q1 w v⟩⟩)⟩)
        refine ⟨fun x7 => ?_, fun x7 => ⟨fun y8 => ?_, fun y8 => R_O C4.1 C4.2.1.1 (my_mayFail (f := 5) C4 (by omega) fun h5 D5 C5 O5 => ?_)⟩⟩
        · rw [if_pos (kHas_iff.mpr x7)] at hq
          exact k168 p D4 h4 C4 O04 (fun e => e.elim (fun e => absurd e (ok4 a).1) (fun e => absurd e (ok4 dd).1)) (fun _ _ => hq h4 D4 1 (C4.on ok4) O04)
        · rw [if_neg (fun e => kHas_iff.mp e x7), if_pos (kHas_iff.mpr y8)] at hq
          exact k168 p D4 h4 C4 O04 (fun e => e.elim (fun e => absurd e (ok4 a).1) (fun e => absurd e (ok4 dd).1)) (fun _ _ => hq h4 D4 1 (C4.on ok4) O04)
        · rw [if_neg (fun e => kHas_iff.mp e x7), if_neg (fun e => kHas_iff.mp e y8)] at hq
          have O05 := O04.tr O5
          unfold pLays at hq
          have ok5 : okS (pMay 5 p).1 := ok4
          have ex : (pMay 5 p).1 a = p.1 a := rfl
          have ey : (pMay 5 p).1 dd = p.1 dd := rfl
          have e5 : (pMay 5 p).1 = p.1 := rfl
          generalize pMay 5 p = p5 at C5 hq ok5 ex ey e5
          rw [ex, ey] at hq
          obtain ⟨jx, hjx, ejx⟩ := small10 (ok4 a).2
          obtain ⟨jy, hjy, ejy⟩ := small10 (ok4 dd).2
          have l7 : p.1 a = 128 ∨ ¬ p.1 a &&& (-129) = 0 := by
            have := lay7 jx hjx; rw [← ejx] at this; exact this.resolve_left fun e => e x7
          have l8 : p.1 dd = 256 ∨ ¬ p.1 dd &&& (-257) = 0 := by
            have := lay8 jy hjy; rw [← ejy] at this; exact this.resolve_left fun e => e y8
          have n1 : (128 : Int32) ^^^ (-1) = -129 := by decide
          have n2 : (256 : Int32) ^^^ (-1) = -257 := by decide
          have na : p.1 dd = 256 → a ≠ dd := fun e e2 => by
            rw [e2, e] at x7; exact absurd x7 (by decide)
          have nb : p.1 a = 128 → a ≠ dd := fun e e2 => by
            rw [← e2, e] at y8; exact absurd y8 (by decide)
          simp only [n1, n2] at hq
          -- the second write, and the end
          have k136 : ∀ v : Int32, (v = if p.1 dd = 256 then p.1 a &&& (-129) else p.1 a) → wbX11_mayLay_136 Y (nI a) (nI dd) (p.1 a) (p.1 dd) v (nI a) (Y + 29) h5 Q := by
            intro v hv
            refine my_setNow C5 ha fun h6 D6 C6 O6 => R_R C6.1 C6.2.1.1 rfl ?_
            have fin : ∀ w : Int32, (w = if p.1 a = 128 then p.1 dd &&& (-257) else upd p5.1 a v dd) → wbX11_mayLay_167 Y (nI a) (nI dd) w (nI dd) (Y + 29) h6 Q := by
              intro w hw
              refine my_setNow C6 hd fun h7 D7 C7 O7 => ?_
              have O07 := (O05.tr O6).tr O7
              simp only at C7
              by_cases cy : p.1 dd = 256
              · have hne := na cy
                rw [if_pos cy] at hv hq
                by_cases cx : p.1 a = 128
                · rw [if_pos cx] at hw hq
                  have hv0 : v = 0 := by rw [hv, cx]; decide
                  have ekp : kp p5.1 a (-129) = rZ := by unfold kp; rw [ex, cx, if_pos (by decide)]
                  refine k168 _ D7 h7 C7 O07 (fun _ h' D' C' O' => hq h' D' 0 (C'.off ?_ ?_) O') (fun e _ => ?_)
                  · show kp (kp p5.1 a (-129)) dd (-257) = rZ
                    rw [ekp, kp_z]
                  · rfl
                  · exfalso
                    apply e
                    show upd (upd p5.1 a v) dd w a = 0
                    simp only [upd]; rw [if_neg hne, if_pos trivial, hv0]
                · rw [if_neg cx] at hw hq
                  have hv1 : ¬ v = 0 := by rw [hv]; exact l7.resolve_left cx
                  have ew : w = p5.1 dd := by rw [hw]; simp only [upd]; rw [if_neg (fun e => hne e.symm)]
                  have eu : upd (upd p5.1 a v) dd w = upd p5.1 a v := by
                    funext i; simp only [upd]
                    split
                    · rename_i e; rw [e, if_neg (fun e => hne e.symm), ew]
                    · rfl
                  rw [eu] at C7
                  have ekp : kp p5.1 a (-129) = upd p5.1 a v := by unfold kp; rw [ex, ← hv, if_neg hv1]
                  have okf : okS (upd p5.1 a v) := ok5.up hv1 (by rw [hv, and_sw, (ok4 a).2])
                  refine k168 _ D7 h7 C7 O07 (fun e => e.elim (fun e => absurd e (okf a).1) (fun e => absurd e (okf dd).1)) (fun _ _ => hq h7 D7 1 ?_ O07)
                  have : pKeep a (-129) p5 = (upd p5.1 a v, p5.2) := by unfold pKeep; rw [ekp]
                  rw [this]
                  exact C7.on okf
              · rw [if_neg cy] at hv hq
                have ev : upd p5.1 a v = p5.1 := by rw [hv, ← ex]; exact upd_self
                rw [ev] at C7 hw
                by_cases cx : p.1 a = 128
                · rw [if_pos cx] at hw hq
                  have hw1 : ¬ w = 0 := by rw [hw]; exact l8.resolve_left cy
                  have ekp : kp p5.1 dd (-257) = upd p5.1 dd w := by unfold kp; rw [ey, ← hw, if_neg hw1]
                  have okf : okS (upd p5.1 dd w) := ok5.up hw1 (by rw [hw, and_sw, (ok4 dd).2])
                  refine k168 _ D7 h7 C7 O07 (fun e => e.elim (fun e => absurd e (okf a).1) (fun e => absurd e (okf dd).1)) (fun _ _ => hq h7 D7 1 ?_ O07)
                  have : pKeep dd (-257) p5 = (upd p5.1 dd w, p5.2) := by unfold pKeep; rw [ekp]
                  rw [this]
                  exact C7.on okf
                · rw [if_neg cx] at hw hq
                  have ew : upd p5.1 dd w = p5.1 := by rw [hw]; exact upd_self
                  rw [ew] at C7
                  exact k168 _ D7 h7 C7 O07 (fun e => e.elim (fun e => absurd e (ok5 a).1) (fun e => absurd e (ok5 dd).1)) (fun _ _ => hq h7 D7 1 (C7.on ok5) O07)
            refine ⟨fun w => R_R C6.1 C6.2.1.1 rfl (my_now C6 hd (fin _ ?_)), fun w => fin _ ?_⟩
            · rw [if_neg w]
            · rw [if_pos w]
          refine R_R C5.1 C5.2.1.1 rfl ⟨fun w => R_R C5.1 C5.2.1.1 rfl (my_now C5 ha ?_), fun w => k136 _ ?_⟩
          · rw [ex]; exact k136 _ (by rw [if_neg w])
          · rw [if_pos w]
      · have := C3.no y
        rw [y] at C3
        exact k51 _ D3 h3 C3 ((O1.tr O2).tr O3) (by rw [e0, pMay_z this])
  refine R_O R L.1 (my_mayAs C ok ha (by omega) fun h1 D1 r C1 O1 => ⟨fun z => ?_, fun z => ?_⟩)
  · have := C1.no z
    rw [z] at C1
    refine k51 _ D1 h1 C1 O1 ?_
    unfold pLay0 pAs
    unfold pAs at this
    rw [pFor_z this, pFor_z this, pMay_z this]
  · obtain ⟨C1', ok1⟩ := C1.yes z
    refine ⟨fun y => ⟨fun x => ?_, fun x => ?_⟩, fun y => ?_⟩
    · rcases (show k = 5 ∨ k = 6 ∨ k = 7 by omega) with rfl | rfl | rfl
      · exact absurd rfl y
      · exact absurd rfl x
      · exact k36 9 (by omega) kTab4_7 D1 h1 C1' ok1 O1
    · rcases (show k = 5 ∨ k = 6 ∨ k = 7 by omega) with rfl | rfl | rfl
      · exact absurd rfl y
      · exact k36 8 (by omega) kTab4_6 D1 h1 C1' ok1 O1
      · exact absurd x (by decide)
    · rcases (show k = 5 ∨ k = 6 ∨ k = 7 by omega) with rfl | rfl | rfl
      · exact k36 1 (by omega) kTab4_5 D1 h1 C1' ok1 O1
      · exact absurd y (by decide)
      · exact absurd y (by decide)
end MY2
