/-! NODES, as both sides have them: (sort, op, a, b, c, d, cost) by number; runs -/
abbrev nR : Type := Nat × Nat × Int32 × Int32 × Int32 × Int32 × Int32
abbrev nT : Type := Nat → nR
abbrev nSo (N : nT) (m : Nat) : Nat := (N m).1
abbrev nOp (N : nT) (m : Nat) : Nat := (N m).2.1
abbrev nA (N : nT) (m : Nat) : Int32 := (N m).2.2.1
abbrev nB (N : nT) (m : Nat) : Int32 := (N m).2.2.2.1
abbrev nC (N : nT) (m : Nat) : Int32 := (N m).2.2.2.2.1
abbrev nD (N : nT) (m : Nat) : Int32 := (N m).2.2.2.2.2.1
abbrev nCo (N : nT) (m : Nat) : Int32 := (N m).2.2.2.2.2.2
def nOk (N : nT) (m : Nat) : Prop :=
  (nSo N m = 0 ∧ actOk (nOp N m) (nA N m) (nB N m) (nC N m) (nD N m)) ∨
  (nSo N m = 1 ∧ nS (nA N m) m ∧ nS (nB N m) m) ∨
  (nSo N m = 2 ∧ nS (nA N m) 12 ∧ nS (nB N m) 10 ∧ nS (nC N m) m ∧ nS (nD N m) m) ∨
  (nSo N m = 3 ∧ nS (nA N m) m ∧ nB N m &&& 510 = nB N m ∧ (nC N m = -1 ∨ nS (nC N m) m) ∧ (nD N m = -1 ∨ nS (nD N m) m))
theorem nOk.s4 {N : nT} {m : Nat} (o : nOk N m) : nSo N m < 4 := by
  rcases o with o | o | o | o <;> omega
/-- does the set take the FAILURE -/
def tk (b r : Int32) : Prop := (b >>> (r &&& 31)) &&& 1 = 1
def tkB (b r : Int32) : Int32 := if (b >>> (r &&& 31)) &&& 1 = 1 then 1 else 0
theorem and1 (x : Int32) : x &&& 1 = 0 ∨ x &&& 1 = 1 := by
  have h : (x &&& 1).toBitVec.toNat = x.toBitVec.toNat % 2 := by
    rw [Int32.toBitVec_and, BitVec.toNat_and]
    exact Nat.and_two_pow_sub_one_eq_mod _ 1
  rcases Nat.mod_two_eq_zero_or_one x.toBitVec.toNat with e | e
  · left
    rw [← Int32.toBitVec_inj, ← BitVec.toNat_inj, h, e]; rfl
  · right
    rw [← Int32.toBitVec_inj, ← BitVec.toNat_inj, h, e]; rfl
theorem and1_ne {x : Int32} : ¬ x &&& 1 = 0 ↔ x &&& 1 = 1 := by
  rcases and1 x with e | e
  · rw [e]; decide
  · rw [e]; decide
theorem tk_0 {b : Int32} (hb : b &&& 510 = b) : ¬ tk b 0 := by
  unfold tk
  rw [← hb]
  have : (b &&& 510) >>> (0 &&& 31) = b &&& 510 := by
    have e : ((0 : Int32) &&& 31) = 0 := by decide
    rw [e]; exact Int32.shiftRight_zero
  rw [this, Int32.and_assoc]
  have e : (510 : Int32) &&& 1 = 0 := by decide
  rw [e, Int32.and_zero]; decide
def actS (N : nT) (m : Nat) (M : mT) : Int32 × mT :=
  if (mAct (mSetCn M 0 (mCn M 0 + 1)) (nOp N m) (nA N m) (nB N m) (nC N m) (nD N m)).1 = 0 then mAct (mSetCn M 0 (mCn M 0 + 1)) (nOp N m) (nA N m) (nB N m) (nC N m) (nD N m)
  else ((mAct (mSetCn M 0 (mCn M 0 + 1)) (nOp N m) (nA N m) (nB N m) (nC N m) (nD N m)).1, mSetCn (mSetCn (mAct (mSetCn M 0 (mCn M 0 + 1)) (nOp N m) (nA N m) (nB N m) (nC N m) (nD N m)).2 1 (mCn (mAct (mSetCn M 0 (mCn M 0 + 1)) (nOp N m) (nA N m) (nB N m) (nC N m) (nD N m)).2 1 + 1)) 5 (nI m))
/-- a GUARD's last part, behind the failure f -/
def lastS (run : mT → Int32 × mT) (f : Int32) (M : mT) : Int32 × mT :=
  (if (run (mSetCn M 3 (mCn M 3 + 1))).1 = 0 then f else (run (mSetCn M 3 (mCn M 3 + 1))).1,
   if (run (mSetCn M 3 (mCn M 3 + 1))).1 = 0 then (run (mSetCn M 3 (mCn M 3 + 1))).2 else if f = 0 then (run (mSetCn M 3 (mCn M 3 + 1))).2 else mSetCn (run (mSetCn M 3 (mCn M 3 + 1))).2 4 (mCn (run (mSetCn M 3 (mCn M 3 + 1))).2 4 + 1))
/-- a GUARD's body and handler -/
def bodyS (ra rc : mT → Int32 × mT) (b c : Int32) (M : mT) : Int32 × mT :=
  if tkB b (ra M).1 = 0 then ra M else if 0 ≤ c then rc (ra M).2 else (0, (ra M).2)
def runS (N : nT) : Nat → Nat → mT → Int32 × mT
  | 0, _, M => (0, M)
  | k + 1, m, M => if nSo N m = 0 then actS N m M
    else if nSo N m = 1 then (if (runS N k (tN (nA N m)) M).1 = 0 then runS N k (tN (nB N m)) (runS N k (tN (nA N m)) M).2 else runS N k (tN (nA N m)) M)
    else if nSo N m = 2 then (if kIs (mKd M (mSl M (tN (nA N m)))) (nB N m) = 0 then runS N k (tN (nD N m)) M else runS N k (tN (nC N m)) M)
    else if 0 ≤ nD N m then lastS (runS N k (tN (nD N m))) (bodyS (runS N k (tN (nA N m))) (runS N k (tN (nC N m))) (nB N m) (nC N m) M).1 (bodyS (runS N k (tN (nA N m))) (runS N k (tN (nC N m))) (nB N m) (nC N m) M).2
    else bodyS (runS N k (tN (nA N m))) (runS N k (tN (nC N m))) (nB N m) (nC N m) M
/-! the class' nodes: where they stand -/
def StL (q : Nat) (S : sS) : Prop := S q = some (.inr (5, [some (some (q + 1))])) ∧ S (q + 1) = some (.inl (0, 12))
def WyL (q : Nat) (S : sS) : Prop := S q = some (.inr (7, [some (some (q + 1))])) ∧ S (q + 1) = some (.inl (4, 9)) ∧ ∀ i, i < 9 → StL (q + 2 + 2 * i) S
def nRef (P : Nat → Nat) (c : Int32) : Option Nat := if 0 ≤ c then some (P (tN c)) else none
def nFl (P : Nat → Nat) (N : nT) (m : Nat) : List (Option (Option Nat)) :=
  [none, none, some (some (P m + 1)), some (some (P m + 3)), none] ++
  (if nSo N m = 0 then [none, none, none, none, none, some (some (P m + 23))]
   else if nSo N m = 1 then [some (some (P (tN (nA N m)))), some (some (P (tN (nB N m)))), some (some (P m + 23))]
   else if nSo N m = 2 then [none, none, some (some (P (tN (nC N m)))), some (some (P (tN (nD N m)))), some (some (P m + 23))]
   else [some (some (P (tN (nA N m)))), none, some (nRef P (nC N m)), some (nRef P (nD N m)), some (some (P m + 23)), some (some (P m + 25)), none, none])
def NdL (S : sS) (P : Nat → Nat) (N : nT) (m : Nat) : Prop :=
  S (P m) = some (.inr (nSo N m, nFl P N m)) ∧ StL (P m + 1) S ∧ WyL (P m + 3) S ∧ StL (P m + 23) S ∧ (nSo N m = 3 → WyL (P m + 25) S)
def NdD (D : sD) (P : Nat → Nat) (N : nT) (m : Nat) : Prop :=
  D.1 (P m) 0 = nI m ∧ D.1 (P m) 1 = nCo N m ∧
  (nSo N m = 0 → D.1 (P m) 5 = nI (nOp N m) ∧ D.1 (P m) 6 = nA N m ∧ D.1 (P m) 7 = nB N m ∧ D.1 (P m) 8 = nC N m ∧ D.1 (P m) 9 = nD N m) ∧
  (nSo N m = 2 → D.1 (P m) 5 = nA N m ∧ D.1 (P m) 6 = nB N m) ∧
  (nSo N m = 3 → D.1 (P m) 6 = nB N m) ∧
  (∀ i, i < 9 → D.2.2.2 (P m + 4) i = some (P m + 5 + 2 * i)) ∧
  (nSo N m = 3 → ∀ i, i < 9 → D.2.2.2 (P m + 26) i = some (P m + 27 + 2 * i))
/-- all nodes of the class -/
def NdC (X cnt : Nat) (P : Nat → Nat) (N : nT) (S : sS) (D : sD) : Prop := ∀ m, m < cnt → nOk N m ∧ X + 42 ≤ P m ∧ NdL S P N m ∧ NdD D P N m
theorem NdC.cOut {X cnt : Nat} {P : Nat → Nat} {N : nT} {S : sS} {D D' : sD} (W : NdC X cnt P N S D) (o : cOut X D D') : NdC X cnt P N S D' := by
  intro m hm
  obtain ⟨h1, h2, h3, h4⟩ := W m hm
  refine ⟨h1, h2, h3, ?_⟩
  unfold NdD at h4 ⊢
  rw [(o (P m) (by omega)).1, (o (P m + 4) (by omega)).2.2.2, (o (P m + 26) (by omega)).2.2.2]
  exact h4
section CRN
variable {X n cnt : Nat} {P : Nat → Nat} {N : nT} {M : mT} {S : sS} {D : sD} {h : aH}
theorem sc_act (C : CM X M n S D h) (W : NdC X cnt P N S D) {m : Nat} (hm : m < cnt) (s0 : nSo N m = 0) {Q : Int32 → aH → Prop} (hq : ∀ h' D', CM X (actS N m M).2 n S D' h' → cOut X D D' → Q (actS N m M).1 h') : wX0_done h (P m) (X + 1) Q := by
  obtain ⟨o, hp, L, dd⟩ := W m hm
  have ok : actOk (nOp N m) (nA N m) (nB N m) (nC N m) (nD N m) := by
    rcases o with o | o | o | o
    · exact o.2
    all_goals omega
  have sh : S (P m) = some (.inr (0, [none, none, some (some (P m + 1)), some (some (P m + 3)), none, none, none, none, none, none, some (some (P m + 23))])) := by
    rw [L.1, s0]; unfold nFl; rw [if_pos s0]; rfl
  unfold actS at hq
  refine sc_cn (k := 0) C (by omega) (sc_setCn (k := 0) C (by omega) fun h1 D1 C1 O1 => ?_)
  obtain ⟨-, -, -, dd1⟩ := W.cOut O1 m hm
  obtain ⟨e5, e6, e7, e8, e9⟩ := dd1.2.2.1 s0
  obtain ⟨R1, L1, -⟩ := id C1
  refine R_I R1 sh rfl (R_I R1 sh rfl (R_I R1 sh rfl (R_I R1 sh rfl (R_I R1 sh rfl (R_O R1 L1.1 ?_)))))
  rw [e5, e6, e7, e8, e9]
  refine sc_perform C1 ok fun h2 D2 C2 O2 => ⟨fun z => ?_, fun z => ?_⟩
  · rw [if_pos z] at hq; exact hq h2 D2 C2 (O1.tr O2)
  · rw [if_neg z] at hq
    refine sc_cn (k := 1) C2 (by omega) (sc_setCn (k := 1) C2 (by omega) fun h3 D3 C3 O3 => ?_)
    obtain ⟨-, -, -, dd3⟩ := ((W.cOut O1).cOut O2).cOut O3 m hm
    refine R_I C3.1 sh rfl ?_
    rw [dd3.1]
    exact sc_setCn (k := 5) C3 (by omega) fun h4 D4 C4 O4 => hq h4 D4 C4 (((O1.tr O2).tr O3).tr O4)
theorem tN_lt {x : Int32} {m : Nat} (h : nS x m) (hm : m ≤ 2 ^ 31) : tN x < m ∧ x = nI (tN x) := by
  obtain ⟨s, hs, rfl⟩ := h
  rw [tN_nI (by omega)]; exact ⟨hs, rfl⟩
theorem m1_neg : ¬ (0 : Int32) ≤ -1 := by decide
theorem ge0_nS {c : Int32} {m : Nat} (h : c = -1 ∨ nS c m) (h0 : 0 ≤ c) : nS c m := h.resolve_left fun e => by rw [e] at h0; exact absurd h0 m1_neg
theorem sc_run (hcnt : cnt ≤ 80) : ∀ (k m : Nat) (M : mT) (D : sD) (h : aH) (Q : Int32 → aH → Prop), m < k → m < cnt → NdC X cnt P N S D → CM X M n S D h → (∀ h' D', CM X (runS N k m M).2 n S D' h' → cOut X D D' → Q (runS N k m M).1 h') → RdN k (nSo N m) h (P m) (X + 1) Q
  | 0, m, M, D, h, Q, hk, hm, W, C, hq => absurd hk (Nat.not_lt_zero _)
  | k + 1, m, M, D, h, Q, hk, hm, W, C, hq => by
    obtain ⟨o, hp, L, dd⟩ := W m hm
    have ih := sc_run hcnt k
    have call : ∀ (c : Nat) (M : mT) (D' : sD) (h : aH) (Q : Int32 → aH → Prop), c < m → cOut X D D' → CM X M n S D' h → (∀ h' D'', CM X (runS N k c M).2 n S D'' h' → cOut X D D'' → Q (runS N k c M).1 h') → isN h (P c) (fun ci => RdN k ci h (P c) (X + 1) Q) := by
      intro c M D' h Q hc O C hq
      have W' := W.cOut O
      obtain ⟨o', hp', L', dd'⟩ := W' c (by omega)
      exact R_N C.1 L'.1 o'.s4 (ih c M D' h Q (by omega) (by omega) W' C fun h' D'' C' O' => hq h' D'' C' (O.tr O'))
    unfold runS at hq
    rcases id o with o | o | o | o
    · rw [if_pos o.1] at hq
      show (match nSo N m with | 0 => _ | 1 => _ | 2 => _ | _ => _)
      rw [o.1]
      exact sc_act C W hm o.1 hq
    · obtain ⟨s1, ⟨oa, ob⟩⟩ := o
      have sh : S (P m) = some (.inr (1, [none, none, some (some (P m + 1)), some (some (P m + 3)), none, some (some (P (tN (nA N m)))), some (some (P (tN (nB N m)))), some (some (P m + 23))])) := by
        rw [L.1, s1]; unfold nFl; rw [if_neg (by omega), if_pos s1]; rfl
      rw [if_neg (by omega), if_pos s1] at hq
      show (match nSo N m with | 0 => _ | 1 => _ | 2 => _ | _ => _)
      rw [s1]
      show wX1_done (RdN k) h (P m) (X + 1) Q
      have la := tN_lt oa (by omega)
      have lb := tN_lt ob (by omega)
      refine R_R C.1 sh rfl (call _ M D h _ la.1 cOut.rf C fun h1 D1 C1 O1 => ⟨fun z => ?_, fun z => R_R C1.1 sh rfl (call _ _ D1 h1 _ lb.1 O1 C1 fun h2 D2 C2 O2 => ?_)⟩)
      · rw [if_neg z] at hq; exact hq h1 D1 C1 O1
      · rw [if_pos z] at hq; exact hq h2 D2 C2 O2
    · obtain ⟨s2, oa, ob, oc, od⟩ := o
      have sh : S (P m) = some (.inr (2, [none, none, some (some (P m + 1)), some (some (P m + 3)), none, none, none, some (some (P (tN (nC N m)))), some (some (P (tN (nD N m)))), some (some (P m + 23))])) := by
        rw [L.1, s2]; unfold nFl; rw [if_neg (by omega), if_neg (by omega), if_pos s2]; rfl
      rw [if_neg (by omega), if_neg (by omega), if_pos s2] at hq
      show (match nSo N m with | 0 => _ | 1 => _ | 2 => _ | _ => _)
      rw [s2]
      show wX2_done (RdN k) h (P m) (X + 1) Q
      have lc := tN_lt oc (by omega)
      have ld := tN_lt od (by omega)
      have la := tN_lt oa (by omega)
      obtain ⟨e5, e6⟩ := dd.2.2.2.1 s2
      refine R_I C.1 sh rfl (R_I C.1 sh rfl (R_O C.1 C.2.1.1 ?_))
      rw [e5, e6, la.2]
      refine sc_holds C la.1 ⟨fun z => R_R C.1 sh rfl (call _ M D h _ ld.1 cOut.rf C fun h1 D1 C1 O1 => ?_), fun z => R_R C.1 sh rfl (call _ M D h _ lc.1 cOut.rf C fun h1 D1 C1 O1 => ?_)⟩
      · rw [if_pos z] at hq; exact hq h1 D1 C1 O1
      · rw [if_neg z] at hq; exact hq h1 D1 C1 O1
    · obtain ⟨s3, oa, ob, oc, od⟩ := o
      have sh : S (P m) = some (.inr (3, [none, none, some (some (P m + 1)), some (some (P m + 3)), none, some (some (P (tN (nA N m)))), none, some (nRef P (nC N m)), some (nRef P (nD N m)), some (some (P m + 23)), some (some (P m + 25)), none, none])) := by
        rw [L.1, s3]; unfold nFl; rw [if_neg (by omega), if_neg (by omega), if_neg (by omega)]; rfl
      rw [if_neg (by omega), if_neg (by omega), if_neg (by omega)] at hq
      show (match nSo N m with | 0 => _ | 1 => _ | 2 => _ | _ => _)
      rw [s3]
      show wX3_done (RdN k) h (P m) (X + 1) Q
      have la := tN_lt oa (by omega)
      have k41 : ∀ f M1 D1 h1, CM X M1 n S D1 h1 → cOut X D D1 → (f, M1) = bodyS (runS N k (tN (nA N m))) (runS N k (tN (nC N m))) (nB N m) (nC N m) M → wbX3_done_41 (RdN k) (P m) (X + 1) f h1 Q := by
        intro f M1 D1 h1 C1 O1 e
        rw [← e] at hq
        refine R_Q C1.1 sh rfl ⟨fun x0 ex => ?_, fun ex => ?_⟩
        · have d0 : 0 ≤ nD N m := by
            by_cases c : 0 ≤ nD N m
            · exact c
            · unfold nRef at ex; rw [if_neg c] at ex; cases ex
          rw [if_pos d0] at hq
          have ld := tN_lt (ge0_nS od d0) (by omega)
          refine sc_cn (k := 3) C1 (by omega) (sc_setCn (k := 3) C1 (by omega) fun h2 D2 C2 O2 => R_Q C2.1 sh rfl ⟨P (tN (nD N m)), by unfold nRef; rw [if_pos d0], ?_⟩)
          unfold lastS at hq
          refine call _ _ D2 h2 _ ld.1 (O1.tr O2) C2 fun h3 D3 C3 O3 => ⟨fun z => ⟨fun y => ?_, fun y => ?_⟩, fun z => ?_⟩
          · rw [if_neg z, if_neg z, if_pos y] at hq; exact hq h3 D3 C3 O3
          · rw [if_neg z, if_neg z, if_neg y] at hq
            exact sc_cn (k := 4) C3 (by omega) (sc_setCn (k := 4) C3 (by omega) fun h4 D4 C4 O4 => hq h4 D4 C4 (O3.tr O4))
          · rw [if_pos z, if_pos z] at hq; exact hq h3 D3 C3 O3
        · have d0 : ¬ 0 ≤ nD N m := fun c => by unfold nRef at ex; rw [if_pos c] at ex; cases ex
          rw [if_neg d0] at hq
          exact hq h1 D1 C1 O1
      refine R_R C.1 sh rfl (call _ M D h _ la.1 cOut.rf C fun h1 D1 C1 O1 => ⟨fun z => k41 _ _ D1 h1 C1 O1 ?_, fun z => R_O C1.1 sh ?_⟩)
      · unfold bodyS tkB
        rw [if_pos]
        rw [if_neg (by rw [z]; exact tk_0 ob)]
      · have e6 : D1.1 (P m) 6 = nB N m := ((W.cOut O1) m hm).2.2.2.2.2.2.2.1 s3
        refine R_I C1.1 sh rfl ?_
        rw [e6]
        refine ⟨fun y => ⟨Or.inl rfl, fun _ => k41 _ _ D1 h1 C1 O1 ?_, fun q => absurd rfl q⟩, fun y => ⟨Or.inr rfl, fun q => absurd q (by decide), fun _ => R_Q C1.1 sh rfl ⟨fun x0 ex => ?_, fun ex => ?_⟩⟩⟩
        · unfold bodyS tkB
          rw [if_pos]
          rw [if_neg (fun q => by rw [y] at q; exact absurd q (by decide))]
        · have c0 : 0 ≤ nC N m := by
            by_cases c : 0 ≤ nC N m
            · exact c
            · unfold nRef at ex; rw [if_neg c] at ex; cases ex
          have lc := tN_lt (ge0_nS oc c0) (by omega)
          refine R_Q C1.1 sh rfl ⟨P (tN (nC N m)), by unfold nRef; rw [if_pos c0], call _ _ D1 h1 _ lc.1 O1 C1 fun h2 D2 C2 O2 => k41 _ _ D2 h2 C2 O2 ?_⟩
          unfold bodyS tkB
          rw [if_pos (and1_ne.mp y), if_neg (by decide), if_pos c0]
        · have c0 : ¬ 0 ≤ nC N m := fun c => by unfold nRef at ex; rw [if_pos c] at ex; cases ex
          refine k41 _ _ D1 h1 C1 O1 ?_
          unfold bodyS tkB
          rw [if_pos (and1_ne.mp y), if_neg (by decide), if_neg c0]
end CRN
