/-! the class' ACTS in a report -/
def aOn (p : Nat) (D D' : sD) : Prop := D'.1 = D.1 ∧ D'.2.2 = D.2.2 ∧ ∀ b, ¬ (p + 6 ≤ b ∧ b ≤ p + 24) → D'.2.1 b = D.2.1 b
theorem aOn.rf {p : Nat} {D : sD} : aOn p D D := ⟨rfl, rfl, fun _ _ => rfl⟩
theorem aOn.tr {p : Nat} {D D' D'' : sD} (h : aOn p D D') (h' : aOn p D' D'') : aOn p D D'' := ⟨h'.1.trans h.1, h'.2.1.trans h.2.1, fun b hb => (h'.2.2 b hb).trans (h.2.2 b hb)⟩
theorem sOn.a {p : Nat} {D D' : sD} (h : sOn (p + 23 + 1) D D') : aOn p D D' := ⟨h.1, h.2.1, fun b hb => h.2.2 b (by omega)⟩
theorem wOn.a {p : Nat} {D D' : sD} (h : wOn (p + 3) D D') : aOn p D D' := ⟨h.1, h.2.1, fun b hb => h.2.2 b (by omega)⟩
def ANd (p op : Nat) (a b c d : Int32) (S : sS) (D : sD) : Prop :=
  S p = some (.inr (0, [none, none, some (some (p + 1)), some (some (p + 3)), none, none, none, none, none, none, some (some (p + 23))])) ∧ WyL (p + 3) S ∧ StL (p + 23) S ∧ wyP (p + 3) D ∧ D.1 p 5 = nI op ∧ D.1 p 6 = a ∧ D.1 p 7 = b ∧ D.1 p 8 = c ∧ D.1 p 9 = d
def AX (p op : Nat) (a b c d : Int32) (q : rP) (n : Nat) (S : sS) (D : sD) (h : aH) : Prop := HR n S D h ∧ ANd p op a b c d S D ∧ stR (p + 23) q.1 D ∧ wyR (p + 3) q.2 D
theorem ANd.on {p op : Nat} {a b c d : Int32} {S : sS} {D D' : sD} (h : ANd p op a b c d S D) (o : aOn p D D') : ANd p op a b c d S D' := by
  obtain ⟨h1, h2, h3, h4, h5⟩ := h
  exact ⟨h1, h2, h3, h4.cg o.2.1, by rw [o.1]; exact h5⟩
section CAR
variable {p op n : Nat} {a b c d : Int32} {q : rP} {S : sS} {D : sD} {h : aH}
theorem ca_mayFail (C : AX p op a b c d q n S D h) {f : Nat} (hf : f < 9) {Q : aH → Prop} (hq : ∀ h' D', AX p op a b c d (pMay f q) n S D' h' → aOn p D D' → Q h') : wX0_mayFail h p (nI f) Q := by
  obtain ⟨R, A, sl, wy⟩ := id C
  refine R_R R A.1 rfl (R_O R A.2.1.1 (wy_by R A.2.1 A.2.2.2.1 hf ⟨_, rfl, R_R R A.1 rfl (R_O R (A.2.1.2.2 f hf).1 (wy_jn R A.2.1 wy hf A.2.2.1 sl fun h' D' R' O' w' => ?_))⟩))
  exact hq h' D' ⟨R', A.on O'.a, sl.won O' (by omega), w'⟩ O'.a
theorem ca_erase (C : AX p op a b c d q n S D h) {Q : aH → Prop} (hq : ∀ h' D', AX p op a b c d (rZ, q.2) n S D' h' → aOn p D D' → Q h') : wX7_erase h (p + 23) Q := by
  obtain ⟨R, A, sl, wy⟩ := id C
  exact st_erase R A.2.2.1 fun h' D' R' O' s' => hq h' D' ⟨R', A.on O'.a, s', wy.on O' (by omega)⟩ O'.a
theorem ca_mustFail (C : AX p op a b c d q n S D h) {f : Nat} (hf : f < 9) {Q : aH → Prop} (hq : ∀ h' D', AX p op a b c d (pMust f q) n S D' h' → aOn p D D' → Q h') : wX0_mustFail h p (nI f) Q := by
  obtain ⟨R, A, -⟩ := id C
  refine R_O R A.1 (ca_mayFail C hf fun h1 D1 C1 O1 => ?_)
  obtain ⟨R1, A1, -⟩ := id C1
  exact R_R R1 A1.1 rfl (R_O R1 A1.2.2.1.1 (ca_erase C1 fun h2 D2 C2 O2 => hq h2 D2 C2 (O1.tr O2)))
theorem ca_keep (C : AX p op a b c d q n S D h) {s : Nat} (hs : s < 12) {k : Int32} {Q : aH → Prop} (hq : ∀ h' D', AX p op a b c d (pKeep s k q) n S D' h' → aOn p D D' → Q h') : wX7_keep h (p + 23) (nI s) k Q := by
  obtain ⟨R, A, sl, wy⟩ := id C
  exact st_keep R A.2.2.1 sl hs fun h' D' R' O' s' => hq h' D' ⟨R', A.on O'.a, s', wy.on O' (by omega)⟩ O'.a
theorem ca_makeAnew (C : AX p op a b c d q n S D h) (ha : nS a 12) {x : Int32} {Q : aH → Prop} (hq : ∀ h' D', AX p op a b c d (pNew (tN a) x q) n S D' h' → aOn p D D' → Q h') : wX0_makeAnew h p x Q := by
  obtain ⟨R, A, sl, wy⟩ := id C
  have la := tN_lt ha (by omega)
  unfold pNew at hq
  refine R_R R A.1 rfl (R_O R A.2.2.1.1 (st_isThere R A.2.2.1 sl (fun z => ⟨fun _ => ?_, fun y => absurd rfl y⟩) (fun z => ⟨fun y => absurd y (by decide), fun _ => R_R R A.1 rfl (R_I R A.1 rfl (R_O R A.2.2.1.1 ?_))⟩)))
  · rw [if_pos z] at hq; exact hq h D C aOn.rf
  · rw [if_neg z] at hq
    rw [A.2.2.2.2.2.1, la.2]
    exact st_put R A.2.2.1 sl la.1 fun h' D' R' O' s' => hq h' D' ⟨R', A.on O'.a, s', wy.on O' (by omega)⟩ O'.a
theorem ca_failFor (C : AX p op a b c d q n S D h) {f : Nat} (hf : f < 9) {s : Nat} (hs : s < 12) {k : Int32} {Q : aH → Prop} (hq : ∀ h' D', AX p op a b c d (pFor f s k q) n S D' h' → aOn p D D' → Q h') : wX0_failFor h p (nI f) (nI s) k Q := by
  obtain ⟨R, A, sl, wy⟩ := id C
  unfold pFor at hq
  refine R_R R A.1 rfl (R_O R A.2.2.1.1 (st_of R A.2.2.1 sl hs ⟨fun z => ?_, fun z => R_R R A.1 rfl (R_O R A.2.1.1 (wy_by R A.2.1 A.2.2.2.1 hf ⟨_, rfl, R_R R A.1 rfl (R_O R (A.2.1.2.2 f hf).1 (st_joinWith R (A.2.1.2.2 f hf) A.2.2.1 (by omega) hs (wy f hf) sl fun h1 D1 R1 O1 s1 => ?_))⟩))⟩))
  · rw [if_pos z] at hq; exact hq h D C aOn.rf
  · rw [if_neg z] at hq
    have O1' := O1.w hf
    have sl1 : stR (p + 23) q.1 D1 := sl.won O1' (by omega)
    have A1 := A.on O1'.a
    have w1 : wyR (p + 3) (jn q.2 f (upd q.1 s (q.1 s &&& k))) D1 := (wy.set hf O1 s1).eq fun g i => by
      unfold jn
      by_cases e : g = f
      · rw [if_pos e, if_pos e, e]
      · rw [if_neg e, if_neg e]
    refine R_R R1 A1.1 rfl (R_O R1 A1.2.2.1.1 (st_keep R1 A1.2.2.1 sl1 hs fun h2 D2 R2 O2 s2 => ?_))
    exact hq h2 D2 ⟨R2, A1.on O2.a, s2, w1.on O2 (by omega)⟩ (O1'.a.tr O2.a)
theorem ca_askAs (C : AX p op a b c d q n S D h) {s : Nat} (hs : s < 12) {k : Int32} {Q : aH → Prop} (hq : ∀ h' D', AX p op a b c d (pAs s k q) n S D' h' → aOn p D D' → Q h') : wX0_askAs h p (nI s) k Q :=
  sp_are (R_O C.1 C.2.1.1 (ca_failFor (f := 2) C (by omega) hs hq))
theorem ca_askSomething (C : AX p op a b c d q n S D h) {s : Nat} (hs : s < 12) {k : Int32} {Q : aH → Prop} (hq : ∀ h' D', AX p op a b c d (pSome s k q) n S D' h' → aOn p D D' → Q h') : wX0_askSomething h p (nI s) k Q :=
  sp_are (R_O C.1 C.2.1.1 (ca_failFor (f := 2) C (by omega) hs fun h1 D1 C1 O1 => R_O C1.1 C1.2.1.1 (ca_failFor (f := 1) C1 (by omega) hs fun h2 D2 C2 O2 => hq h2 D2 C2 (O1.tr O2))))
theorem ca_askNew (C : AX p op a b c d q n S D h) (ha : nS a 12) {w x : Int32} {Q : aH → Prop} (hq : ∀ h' D', AX p op a b c d (pAsk w (tN a) x q) n S D' h' → aOn p D D' → Q h') : wX0_askNew h p w x Q := by
  unfold pAsk at hq
  have k9 : ∀ q' D1 h1, AX p op a b c d q' n S D1 h1 → aOn p D D1 → q' = (if w = 0 then q else pMust 4 q) → wbX0_askNew_9 p x h1 Q := by
    intro q' D1 h1 C1 O1 e
    subst e
    exact R_O C1.1 C1.2.1.1 (ca_mayFail (f := 8) C1 (by omega) fun h2 D2 C2 O2 => R_O C2.1 C2.2.1.1 (ca_makeAnew C2 ha fun h3 D3 C3 O3 => hq h3 D3 C3 ((O1.tr O2).tr O3)))
  exact ⟨fun z => k9 q D h C aOn.rf (by rw [if_pos z]), fun z => R_O C.1 C.2.1.1 (ca_mustFail (f := 4) C (by omega) fun h1 D1 C1 O1 => k9 _ D1 h1 C1 O1 (by rw [if_neg z]))⟩
theorem ca_askMove (C : AX p op a b c d q n S D h) (ha : nS a 12) (hb : nS b 12) {Q : aH → Prop} (hq : ∀ h' D', AX p op a b c d (pMove (tN a) (tN b) c q) n S D' h' → aOn p D D' → Q h') : wX0_askMove h p Q := by
  have lb := tN_lt hb (by omega)
  unfold pMove at hq
  have k19 : ∀ q' D1 h1, AX p op a b c d q' n S D1 h1 → aOn p D D1 → q' = (if c = 0 then q else pAs (tN b) c q) → wbX0_askMove_19 p h1 Q := by
    intro q' D1 h1 C1 O1 e
    subst e
    obtain ⟨R, A, sl, wy⟩ := id C1
    refine R_R R A.1 rfl (R_I R A.1 rfl (R_O R A.2.2.1.1 ?_))
    rw [A.2.2.2.2.2.2.1, lb.2]
    exact st_of R A.2.2.1 sl lb.1 (R_O R A.1 (ca_makeAnew C1 ha fun h3 D3 C3 O3 => hq h3 D3 C3 (O1.tr O3)))
  obtain ⟨R, A, -⟩ := id C
  refine R_I R A.1 rfl ?_
  rw [A.2.2.2.2.2.2.2.1]
  refine ⟨fun z => k19 q D h C aOn.rf (by rw [if_pos z]), fun z => R_I R A.1 rfl (R_I R A.1 rfl (R_O R A.1 ?_))⟩
  rw [A.2.2.2.2.2.2.1, A.2.2.2.2.2.2.2.1, lb.2]
  exact ca_askAs C lb.1 fun h1 D1 C1 O1 => k19 _ D1 h1 C1 O1 (by rw [if_neg z])
theorem ca_askTake (C : AX p op a b c d q n S D h) (ha : nS a 12) (hb : nS b 12) {Q : aH → Prop} (hq : ∀ h' D', AX p op a b c d (pTake (tN a) (tN b) c q) n S D' h' → aOn p D D' → Q h') : wX0_askTake h p Q := by
  have lb := tN_lt hb (by omega)
  unfold pTake at hq
  obtain ⟨R, A, -⟩ := id C
  refine R_I R A.1 rfl (R_I R A.1 rfl (R_O R A.1 ?_))
  rw [A.2.2.2.2.2.2.1, A.2.2.2.2.2.2.2.1, lb.2]
  refine ca_askSomething C lb.1 fun h1 D1 C1 O1 => R_O C1.1 C1.2.1.1 (ca_mayFail (f := 3) C1 (by omega) fun h2 D2 C2 O2 => ?_)
  obtain ⟨R2, A2, sl2, -⟩ := id C2
  refine R_I R2 A2.1 rfl ?_
  rw [A2.2.2.2.2.2.2.2.1]
  refine ⟨fun z => sp_setOf (R_R R2 A2.1 rfl (R_I R2 A2.1 rfl (R_O R2 A2.2.2.1.1 ?_))), fun z => sp_setOf (R_O R2 A2.1 (ca_makeAnew C2 ha fun h3 D3 C3 O3 => ?_))⟩
  · rw [A2.2.2.2.2.2.2.1, lb.2]
    refine st_has R2 A2.2.2.1 sl2 lb.1 ⟨fun y => R_O R2 A2.1 (ca_makeAnew C2 ha fun h3 D3 C3 O3 => ?_), fun y => sp_setOf (R_O R2 A2.1 (ca_makeAnew C2 ha fun h3 D3 C3 O3 => ?_))⟩
    · simp only at hq
      rw [if_neg z, if_pos y] at hq
      exact hq h3 D3 C3 ((O1.tr O2).tr O3)
    · simp only at hq
      rw [if_neg z, if_neg y] at hq
      exact hq h3 D3 C3 ((O1.tr O2).tr O3)
  · simp only at hq
    rw [if_pos z] at hq
    exact hq h3 D3 C3 ((O1.tr O2).tr O3)
theorem ca_keepWhatLays (C : AX p op a b c d q n S D h) (ha : nS a 12) (hd : nS d 12) {Q : aH → Prop} (hq : ∀ h' D', AX p op a b c d (pLays (tN a) (tN d) q) n S D' h' → aOn p D D' → Q h') : wX0_keepWhatLays h p Q := by
  have la := tN_lt ha (by omega)
  have ld := tN_lt hd (by omega)
  unfold pLays at hq
  obtain ⟨R, A, sl, -⟩ := id C
  have k74 : ∀ v3 : Int32, (v3 = 0 ↔ ¬ q.1 (tN a) = 128) → ∀ q' D1 h1, AX p op a b c d q' n S D1 h1 → aOn p D D1 → q' = (if q.1 (tN d) = 256 then pKeep (tN a) (128 ^^^ (-1)) q else q) → wbX0_keepWhatLays_74 p 256 v3 h1 Q := by
    intro v3 hv q' D1 h1 C1 O1 e
    simp only at hq
    rw [← e] at hq
    refine ⟨fun z => ?_, fun z => R_R C1.1 C1.2.1.1 rfl (R_I C1.1 C1.2.1.1 rfl (R_O C1.1 C1.2.1.2.2.1.1 ?_))⟩
    · rw [if_neg (hv.mp z)] at hq; exact hq h1 D1 C1 O1
    · have e1 : q.1 (tN a) = 128 := by
        by_cases e1 : q.1 (tN a) = 128
        · exact e1
        · exact absurd (hv.mpr e1) z
      rw [if_pos e1] at hq
      rw [C1.2.1.2.2.2.2.2.2.2.2, ld.2]
      exact ca_keep C1 ld.1 fun h2 D2 C2 O2 => hq h2 D2 C2 (O1.tr O2)
  have k53 : ∀ v3 s0 : Int32, (v3 = 0 ↔ ¬ q.1 (tN a) = 128) → (s0 = 0 ↔ ¬ q.1 (tN d) = 256) → wbX0_keepWhatLays_53 p 128 256 v3 s0 h Q := by
    intro v3 s0 hv hs
    refine ⟨fun z => k74 v3 hv q D h C aOn.rf (by rw [if_neg (hs.mp z)]), fun z => R_R R A.1 rfl (R_I R A.1 rfl (R_O R A.2.2.1.1 ?_))⟩
    have e1 : q.1 (tN d) = 256 := by
      by_cases e1 : q.1 (tN d) = 256
      · exact e1
      · exact absurd (hs.mpr e1) z
    rw [A.2.2.2.2.2.1, la.2]
    exact ca_keep C la.1 fun h2 D2 C2 O2 => k74 v3 hv _ D2 h2 C2 O2 (by rw [if_pos e1])
  have k32 : ∀ v3 : Int32, (v3 = 0 ↔ ¬ q.1 (tN a) = 128) → wbX0_keepWhatLays_32 p 128 256 v3 h Q := by
    intro v3 hv
    refine R_R R A.1 rfl (R_I R A.1 rfl (R_O R A.2.2.1.1 ?_))
    rw [A.2.2.2.2.2.2.2.2, ld.2]
    refine st_of R A.2.2.1 sl ld.1 ⟨fun z => k53 v3 0 hv ⟨fun _ => z, fun _ => rfl⟩, fun z => k53 v3 1 hv ⟨fun q => absurd q (by decide), fun q => absurd z q⟩⟩
  refine sp_setOf (sp_setOf (R_R R A.1 rfl (R_I R A.1 rfl (R_O R A.2.2.1.1 ?_))))
  rw [A.2.2.2.2.2.1, la.2]
  exact st_of R A.2.2.1 sl la.1 ⟨fun z => k32 0 ⟨fun _ => z, fun _ => rfl⟩, fun z => k32 1 ⟨fun q => absurd q (by decide), fun q => absurd z q⟩⟩
theorem ca_askLay (C : AX p op a b c d q n S D h) (ha : nS a 12) (hd : nS d 12) {Q : aH → Prop} (hq : ∀ h' D', AX p op a b c d (pLay (tN a) b (tN d) q) n S D' h' → aOn p D D' → Q h') : wX0_askLay h p Q := by
  have la := tN_lt ha (by omega)
  have ld := tN_lt hd (by omega)
  obtain ⟨R, A, -⟩ := id C
  refine R_I R A.1 rfl (R_I R A.1 rfl (R_O R A.1 ?_))
  rw [A.2.2.2.2.2.1, A.2.2.2.2.2.2.1, la.2]
  refine ca_askAs C la.1 fun h1 D1 C1 O1 => ?_
  obtain ⟨R1, A1, -⟩ := id C1
  refine R_I R1 A1.1 rfl (R_I R1 A1.1 rfl ?_)
  rw [A1.2.2.2.2.2.2.2.2, A1.2.2.2.2.2.2.1]
  refine sp_ofItems (R_O R1 A1.1 ?_)
  rw [ld.2]
  refine ca_askAs C1 ld.1 fun h2 D2 C2 O2 => ?_
  obtain ⟨R2, A2, -⟩ := id C2
  refine R_I R2 A2.1 rfl (R_O R2 A2.1 ?_)
  rw [A2.2.2.2.2.2.1, la.2]
  refine ca_failFor (f := 1) C2 (by omega) la.1 fun h3 D3 C3 O3 => R_O C3.1 C3.2.1.1 (ca_mayFail (f := 3) C3 (by omega) fun h4 D4 C4 O4 => ?_)
  have O := ((O1.tr O2).tr O3).tr O4
  have e0 : pMay 3 (pFor 1 (tN a) 1 (pAs (tN d) (kTab 4 b) (pAs (tN a) b q))) = pLay0 (tN a) b (tN d) q := rfl
  rw [e0] at C4
  obtain ⟨R4, A4, sl4, -⟩ := id C4
  unfold pLay at hq
  refine R_R R4 A4.1 rfl (R_I R4 A4.1 rfl (R_O R4 A4.2.2.1.1 ?_))
  rw [A4.2.2.2.2.2.1, la.2]
  refine st_has R4 A4.2.2.1 sl4 la.1 ⟨fun z => ?_, fun z => R_R R4 A4.1 rfl (R_I R4 A4.1 rfl (R_O R4 A4.2.2.1.1 ?_))⟩
  · rw [if_pos z] at hq; exact hq h4 D4 C4 O
  · rw [if_neg z] at hq
    rw [A4.2.2.2.2.2.2.2.2, ld.2]
    refine st_has R4 A4.2.2.1 sl4 ld.1 ⟨fun y => ?_, fun y => R_O R4 A4.1 (ca_mayFail (f := 5) C4 (by omega) fun h5 D5 C5 O5 => R_O C5.1 C5.2.1.1 (ca_keepWhatLays C5 ha hd fun h6 D6 C6 O6 => ?_))⟩
    · rw [if_pos y] at hq; exact hq h4 D4 C4 O
    · rw [if_neg y] at hq; exact hq h6 D6 C6 ((O.tr O5).tr O6)
theorem ca_askCopy (C : AX p op a b c d q n S D h) (ha : nS a 12) (hc : nS c 12) {Q : aH → Prop} (hq : ∀ h' D', AX p op a b c d (pCopy (tN a) (tN c) q) n S D' h' → aOn p D D' → Q h') : wX0_askCopy h p Q := by
  have la := tN_lt ha (by omega)
  have lc := tN_lt hc (by omega)
  unfold pCopy at hq
  have k98 : ∀ x y q' D1 h1, AX p op a b c d q' n S D1 h1 → aOn p D D1 → (∀ h' D', AX p op a b c d (pCopy3 (tN a) (tN c) x y q') n S D' h' → aOn p D D' → Q h') → wbX0_askCopy_98 p x y h1 Q := by
    intro x y q' D1 h1 C1 O1 hq
    obtain ⟨R1, A1, -⟩ := id C1
    refine R_R R1 A1.1 rfl (R_I R1 A1.1 rfl (sp_meeting (R_O R1 A1.2.2.1.1 ?_)))
    rw [A1.2.2.2.2.2.1, la.2]
    refine ca_keep C1 la.1 fun h2 D2 C2 O2 => ?_
    obtain ⟨R2, A2, -⟩ := id C2
    refine R_R R2 A2.1 rfl (R_I R2 A2.1 rfl (sp_meeting (R_O R2 A2.2.2.1.1 ?_)))
    rw [A2.2.2.2.2.2.2.2.1, lc.2]
    refine ca_keep C2 lc.1 fun h3 D3 C3 O3 => R_O C3.1 C3.2.1.1 (ca_mayFail (f := 3) C3 (by omega) fun h4 D4 C4 O4 => hq h4 D4 ?_ (((O1.tr O2).tr O3).tr O4))
    exact C4
  have k61 : ∀ q' D1 h1, AX p op a b c d q' n S D1 h1 → aOn p D D1 → q' = pCopy1 (tN a) (tN c) q → wbX0_askCopy_61 p h1 Q := by
    intro q' D1 h1 C1 O1 e
    rw [← e] at hq
    unfold pCopy2 at hq
    obtain ⟨R1, A1, sl1, -⟩ := id C1
    refine R_R R1 A1.1 rfl (R_I R1 A1.1 rfl (R_O R1 A1.2.2.1.1 ?_))
    rw [A1.2.2.2.2.2.1, la.2]
    refine st_of R1 A1.2.2.1 sl1 la.1 (R_R R1 A1.1 rfl (R_I R1 A1.1 rfl (R_O R1 A1.2.2.1.1 ?_)))
    rw [A1.2.2.2.2.2.2.2.1, lc.2]
    refine st_of R1 A1.2.2.1 sl1 lc.1 (sp_store ⟨fun z => k98 _ _ q' D1 h1 C1 O1 ?_, fun z => R_O R1 A1.1 (ca_mayFail (f := 5) C1 (by omega) fun h2 D2 C2 O2 => k98 _ _ _ D2 h2 C2 (O1.tr O2) ?_)⟩)
    · rw [if_pos z] at hq; exact hq
    · rw [if_neg z] at hq; exact hq
  have k30 : ¬ (kHas (q.1 (tN a)) 0 = 0 ∧ kHas (q.1 (tN c)) 0 = 0) → wbX0_askCopy_30 p h Q := by
    intro hn
    refine R_O C.1 C.2.1.1 (ca_mayFail (f := 1) C (by omega) fun h1 D1 C1 O1 => ?_)
    obtain ⟨R1, A1, -⟩ := id C1
    refine R_R R1 A1.1 rfl (R_I R1 A1.1 rfl (R_O R1 A1.2.2.1.1 ?_))
    rw [A1.2.2.2.2.2.1, la.2]
    refine ca_keep C1 la.1 fun h2 D2 C2 O2 => ?_
    obtain ⟨R2, A2, -⟩ := id C2
    refine R_R R2 A2.1 rfl (R_I R2 A2.1 rfl (R_O R2 A2.2.2.1.1 ?_))
    rw [A2.2.2.2.2.2.2.2.1, lc.2]
    exact ca_keep C2 lc.1 fun h3 D3 C3 O3 => k61 _ D3 h3 C3 ((O1.tr O2).tr O3) (by unfold pCopy1; rw [if_neg hn])
  obtain ⟨R, A, sl, -⟩ := id C
  refine R_R R A.1 rfl (R_I R A.1 rfl (R_O R A.2.2.1.1 ?_))
  rw [A.2.2.2.2.2.1, la.2]
  refine st_has R A.2.2.1 sl la.1 ⟨fun z => k30 (fun e => z e.1), fun z => R_R R A.1 rfl (R_I R A.1 rfl (R_O R A.2.2.1.1 ?_))⟩
  rw [A.2.2.2.2.2.2.2.1, lc.2]
  exact st_has R A.2.2.1 sl lc.1 ⟨fun y => k61 q D h C aOn.rf (by unfold pCopy1; rw [if_pos ⟨z, y⟩]), fun y => k30 (fun e => y e.2)⟩
theorem ca_end (C : AX p op a b c d q n S D h) {Q : aH → Prop} (hq : ∀ h' D', HR n S D' h' → aOn p D D' → wyR (p + 3) (pEnd q) D' → Q h') : wbX0_findWays_348 p h Q := by
  obtain ⟨R, A, sl, wy⟩ := id C
  refine R_R R A.1 rfl (R_O R A.2.1.1 (wy_by (f := 0) R A.2.1 A.2.2.2.1 (by omega) ⟨_, rfl, R_R R A.1 rfl (R_O R (A.2.1.2.2 0 (by omega)).1 (wy_jn (f := 0) R A.2.1 wy (by omega) A.2.2.1 sl fun h' D' R' O' w' => hq h' D' R' O'.a w'))⟩))
theorem ca_findWays {fr : Nat} {s : rS} (R : HR n S D h) (A : ANd p op a b c d S D) (wy : wyR (p + 3) rZW D) (Lf : StL fr S) (sf : stR fr s D) (ok : actOk op a b c d) {Q : aH → Prop} (hq : ∀ h' D', HR n S D' h' → aOn p D D' → wyR (p + 3) (fwS op a b c d s) D' → Q h') : wX0_findWays h p fr Q := by
  have hop : op < 18 := by
    rcases Nat.lt_or_ge op 18 with z | z
    · exact z
    · obtain ⟨e, rfl⟩ : ∃ e, op = e + 18 := ⟨op - 18, by omega⟩
      exact ok.elim
  have eo : (nI op).toInt = (op : Int) := nI_int (by omega)
  unfold wX0_findWays
  refine R_R R A.1 rfl (R_O R A.2.2.1.1 (st_become R A.2.2.1 Lf sf fun h0 D0 R0 O0 s0 => ?_))
  have C : AX p op a b c d (s, rZW) n S D0 h0 := ⟨R0, A.on O0.a, s0, wy.on O0 (by omega)⟩
  obtain ⟨-, A0, -⟩ := id C
  have fin : ∀ q' D1 h1, AX p op a b c d q' n S D1 h1 → aOn p D0 D1 → q' = fwP op a b c d (s, rZW) → wbX0_findWays_348 p h1 Q := by
    intro q' D1 h1 C1 O1 e
    subst e
    exact ca_end C1 fun h2 D2 R2 O2 w2 => hq h2 D2 R2 ((O0.a.tr O1).tr O2) w2
  have fin0 : fwP op a b c d (s, rZW) = (s, rZW) → wbX0_findWays_348 p h0 Q := fun e => fin _ D0 h0 C aOn.rf e.symm
  refine R_I R0 A0.1 rfl ?_
  rw [A0.2.2.2.2.1, eo]
  refine ⟨fun z => by omega, fun z => ?_, fun z => ?_, fun z => ?_, fun z => ?_, fun z => ?_, fun z => ?_, fun z => ?_, fun z => ?_, fun z => ?_, fun z => ?_, fun z => ?_, fun z => ?_, fun z => ?_, fun z => ?_, fun z => ?_, fun z => ?_, fun z => ?_, fun z => ?_⟩
  · have e : op = 0 := by omega
    subst e
    have k : ∀ w, w = ngB c → wbX0_findWays_113 p w p h0 Q := by
      intro w hw
      refine R_I R0 A0.1 rfl ?_
      rw [A0.2.2.2.2.2.2.1]
      exact sp_setOf (R_O R0 A0.1 (ca_askNew C ok.1 fun h1 D1 C1 O1 => fin _ D1 h1 C1 O1 (by rw [hw]; rfl)))
    refine R_I R0 A0.1 rfl ?_
    rw [A0.2.2.2.2.2.2.2.1]
    exact ⟨fun y => k 0 (by unfold ngB; rw [if_pos y]), fun y => k 1 (by unfold ngB; rw [if_neg y])⟩
  · have e : op = 1 := by omega
    subst e
    have k : ∀ w, w = (if b < 0 then 1 else ngB c) → wbX0_findWays_146 p w p h0 Q := by
      intro w hw
      exact sp_setOf (R_O R0 A0.1 (ca_askNew C ok fun h1 D1 C1 O1 => fin _ D1 h1 C1 O1 (by rw [hw]; rfl)))
    refine R_I R0 A0.1 rfl ?_
    rw [A0.2.2.2.2.2.2.1]
    refine ⟨fun y => k 1 (by rw [if_pos y]), fun y => R_I R0 A0.1 rfl ?_⟩
    rw [A0.2.2.2.2.2.2.2.1]
    exact ⟨fun x => k 0 (by rw [if_neg y]; unfold ngB; rw [if_pos x]), fun x => k 1 (by rw [if_neg y]; unfold ngB; rw [if_neg x])⟩
  · have e : op = 2 := by omega
    subst e
    have k : ∀ w, w = ngB b → wbX0_findWays_169 p w p h0 Q := by
      intro w hw
      exact sp_setOf (R_O R0 A0.1 (ca_askNew C ok fun h1 D1 C1 O1 => fin _ D1 h1 C1 O1 (by rw [hw]; rfl)))
    refine R_I R0 A0.1 rfl ?_
    rw [A0.2.2.2.2.2.2.1]
    exact ⟨fun y => k 0 (by unfold ngB; rw [if_pos y]), fun y => k 1 (by unfold ngB; rw [if_neg y])⟩
  · have e : op = 3 := by omega
    subst e
    refine R_I R0 A0.1 rfl ?_
    rw [A0.2.2.2.2.2.2.1]
    refine ⟨fun y => sp_setOf (R_O R0 A0.1 (ca_askNew C ok fun h1 D1 C1 O1 => fin _ D1 h1 C1 O1 ?_)), fun y => sp_setOf (R_O R0 A0.1 (ca_askNew C ok fun h1 D1 C1 O1 => fin _ D1 h1 C1 O1 ?_))⟩
    · unfold fwP; simp only; rw [if_neg y]; rfl
    · unfold fwP; simp only; rw [if_pos y]; rfl
  · have e : op = 4 := by omega
    subst e
    exact R_O R0 A0.1 (ca_askMove C ok.1 ok.2.1 fun h1 D1 C1 O1 => fin _ D1 h1 C1 O1 rfl)
  · have e : op = 5 := by omega
    subst e
    have lb := tN_lt ok.2.1 (by omega)
    refine R_I R0 A0.1 rfl (R_I R0 A0.1 rfl (R_O R0 A0.1 ?_))
    rw [A0.2.2.2.2.2.2.1, A0.2.2.2.2.2.2.2.1, lb.2]
    exact ca_askSomething C lb.1 fun h1 D1 C1 O1 => R_O C1.1 C1.2.1.1 (ca_mayFail (f := 3) C1 (by omega) fun h2 D2 C2 O2 => fin _ D2 h2 C2 (O1.tr O2) rfl)
  · have e : op = 6 := by omega
    subst e
    have la := tN_lt ok.1 (by omega)
    refine R_I R0 A0.1 rfl (R_I R0 A0.1 rfl (R_O R0 A0.1 ?_))
    rw [A0.2.2.2.2.2.1, A0.2.2.2.2.2.2.1, la.2]
    exact ca_askSomething C la.1 fun h1 D1 C1 O1 => R_O C1.1 C1.2.1.1 (ca_mayFail (f := 3) C1 (by omega) fun h2 D2 C2 O2 => fin _ D2 h2 C2 (O1.tr O2) rfl)
  · have e : op = 7 := by omega
    subst e
    exact R_O R0 A0.1 (ca_askTake C ok.1 ok.2.1 fun h1 D1 C1 O1 => fin _ D1 h1 C1 O1 rfl)
  · have e : op = 8 := by omega
    subst e
    exact R_O R0 A0.1 (ca_askLay C ok.1 ok.2.2 fun h1 D1 C1 O1 => fin _ D1 h1 C1 O1 rfl)
  · have e : op = 9 := by omega
    subst e
    have lb := tN_lt ok.2.1 (by omega)
    refine R_I R0 A0.1 rfl (R_I R0 A0.1 rfl (R_O R0 A0.1 ?_))
    rw [A0.2.2.2.2.2.2.1, A0.2.2.2.2.2.2.2.1, lb.2]
    exact ca_askSomething C lb.1 fun h1 D1 C1 O1 => fin _ D1 h1 C1 O1 rfl
  · have e : op = 10 := by omega
    subst e
    have lb := tN_lt ok.2 (by omega)
    refine R_I R0 A0.1 rfl (R_O R0 A0.1 ?_)
    rw [A0.2.2.2.2.2.2.1, lb.2]
    exact ca_askSomething C lb.1 fun h1 D1 C1 O1 => sp_setOf (R_O C1.1 C1.2.1.1 (ca_askNew C1 ok.1 fun h2 D2 C2 O2 => fin _ D2 h2 C2 (O1.tr O2) rfl))
  · have e : op = 11 := by omega
    subst e
    have lb := tN_lt ok.2 (by omega)
    refine R_I R0 A0.1 rfl (R_O R0 A0.1 ?_)
    rw [A0.2.2.2.2.2.2.1, lb.2]
    exact ca_askSomething C lb.1 fun h1 D1 C1 O1 => fin _ D1 h1 C1 O1 rfl
  · have e : op = 12 := by omega
    subst e
    exact R_O R0 A0.1 (ca_askCopy C ok.1 ok.2 fun h1 D1 C1 O1 => fin _ D1 h1 C1 O1 rfl)
  · have e : op = 13 := by omega
    subst e; exact fin0 rfl
  · have e : op = 14 := by omega
    subst e; exact fin0 rfl
  · have e : op = 15 := by omega
    subst e
    exact R_O R0 A0.1 (ca_mayFail (f := 6) C (by omega) fun h1 D1 C1 O1 => fin _ D1 h1 C1 O1 rfl)
  · have e : op = 16 := by omega
    subst e
    exact R_O R0 A0.1 (ca_mayFail (f := 6) C (by omega) fun h1 D1 C1 O1 => fin _ D1 h1 C1 O1 rfl)
  · have e : op = 17 := by omega
    subst e
    exact R_O R0 A0.1 (ca_mustFail (f := 7) C (by omega) fun h1 D1 C1 O1 => fin _ D1 h1 C1 O1 rfl)
end CAR
