/-! COPY in the model's report: what the loops give -/
theorem or_eq0 {x y : Int32} : x ||| y = 0 ↔ x = 0 ∧ y = 0 := by
  constructor
  · intro e
    refine ⟨Classical.byContradiction fun h => or_ne0 h e, Classical.byContradiction fun h => ?_⟩
    rw [Int32.or_comm] at e; exact or_ne0 h e
  · rintro ⟨rfl, rfl⟩; rfl
theorem cOu_s (a c : Int32) (i j : Nat) (t : cT) : cOu a c (i + 1) j t = cOu a c i (j + 1) (if kHas a (nI j) = 0 then t else cIn c j 9 1 t) := by
  show cOu a c i (j + 1) (if (a >>> (nI j &&& 31)) &&& 1 = 1 then cIn c j 9 1 t else t) = _
  by_cases e : (a >>> (nI j &&& 31)) &&& 1 = 1
  · rw [if_pos e, if_neg (fun z => kHas_iff.mp z e)]
  · rw [if_neg e, if_pos (kHas_iff.mpr e)]
theorem even10 {x : Int32} (h : x &&& 1023 = x) (h2 : x &&& (-2) = x) : ∃ c : Nat, c < 512 ∧ x = nI (2 * c) := by
  obtain ⟨j, hj, e⟩ := small10 h
  have : ∀ j, j < 1024 → (¬ nI j &&& (-2) = nI j) ∨ j = 2 * (j / 2) := by decide +kernel
  have ev := (this j hj).resolve_left (fun z => z (by rw [← e]; exact h2))
  exact ⟨j / 2, by omega, by rw [← ev]; exact e⟩
theorem kb_and : ∀ k, k < 10 → ∀ c, c < 1024 → (if kHas (nI c) (nI k) = 0 then (0 : Int32) else 1 <<< (nI k &&& 31)) = (1 <<< (nI k &&& 31)) &&& nI c := by decide +kernel
theorem kb_n0 : ∀ k, k < 10 → ¬ (1 : Int32) <<< (nI k &&& 31) = 0 := by decide +kernel
def vN (a : Int32) : Nat → Nat → Int32
  | 0, _ => 0
  | i + 1, k => (if kTab 2 (nI k) &&& a = 0 then (0 : Int32) else 1 <<< (nI k &&& 31)) ||| vN a i (k + 1)
def uN (a : Int32) : Nat → Nat → Int32
  | 0, _ => 0
  | i + 1, k => (if kHas a (nI k) = 0 then (0 : Int32) else kTab 2 (nI k)) ||| uN a i (k + 1)
theorem uv : ∀ a, a < 512 → uN (nI (2 * a)) 9 1 = vN (nI (2 * a)) 10 0 := by decide +kernel
theorem kMeetN_v (a : Int32) {c : Nat} (hc : c < 1024) : ∀ i k m, i + k = 10 → kMeetN (nI c) a i k m = m ||| (vN a i k &&& nI c)
  | 0, k, m, _ => by
    show m = m ||| ((0 : Int32) &&& nI c)
    rw [Int32.zero_and, or_0]
  | i + 1, k, m, hi => by
    show kMeetN (nI c) a i (k + 1) (kMeetStep (nI c) a k m) = m ||| ((_ ||| vN a i (k + 1)) &&& nI c)
    rw [kMeetN_v a hc i (k + 1) _ (by omega), or_and, ← Int32.or_assoc]
    congr 1
    unfold kMeetStep
    have := kb_and k (by omega) c hc
    by_cases e : kHas (nI c) (nI k) = 0
    · rw [if_pos e] at this ⊢
      split
      · rw [Int32.zero_and, or_0]
      · rw [← this, or_0]
    · rw [if_neg e] at this ⊢
      split
      · rw [Int32.zero_and, or_0]
      · rw [← this]
theorem cOu_x {a : Int32} {c : Nat} (hc : c < 512) : ∀ i j t, i + j = 10 → (cOu a (nI (2 * c)) i j t).2.1 = kMeetN a (nI (2 * c)) i j t.2.1
  | 0, j, t, _ => rfl
  | i + 1, j, t, hi => by
    rw [cOu_s, cOu_x hc i (j + 1) _ (by omega)]
    show _ = kMeetN a (nI (2 * c)) i (j + 1) (kMeetStep a (nI (2 * c)) j t.2.1)
    congr 1
    unfold kMeetStep
    split
    · rfl
    · rw [cIn_0, cIn_x j (by omega) c hc]
      show t.2.1 ||| _ = _
      split
      · rw [or_0]
      · rfl
theorem cOu_y {a : Int32} {c : Nat} (hc : c < 512) : ∀ i j t, i + j = 10 → (cOu a (nI (2 * c)) i j t).2.2 = t.2.2 ||| (uN a i j &&& nI (2 * c))
  | 0, j, t, _ => by
    show t.2.2 = t.2.2 ||| ((0 : Int32) &&& nI (2 * c))
    rw [Int32.zero_and, or_0]
  | i + 1, j, t, hi => by
    rw [cOu_s, cOu_y hc i (j + 1) _ (by omega)]
    show _ = t.2.2 ||| ((_ ||| uN a i (j + 1)) &&& nI (2 * c))
    rw [or_and, ← Int32.or_assoc]
    congr 1
    split
    · rw [Int32.zero_and, or_0]
    · rw [cIn_0]
      show t.2.2 ||| (cIn (nI (2 * c)) j 9 1 (0, 0, 0)).2.2 = _
      rw [cIn_y j (by omega) c hc]
theorem cOu_b {a : Int32} {c : Nat} (hc : c < 512) : ∀ i j t, i + j = 10 → ((cOu a (nI (2 * c)) i j t).1 = 0 ↔ t.1 = 0 ∧ kStoreN a (nI (2 * c)) i j = 0)
  | 0, j, t, _ => ⟨fun e => ⟨e, rfl⟩, fun e => e.1⟩
  | i + 1, j, t, hi => by
    rw [cOu_s, cOu_b hc i (j + 1) _ (by omega)]
    show _ ↔ t.1 = 0 ∧ (if kHas a (nI j) = 0 then kStoreN a (nI (2 * c)) i (j + 1) else if nI (2 * c) &&& (kTab 3 (nI j) ^^^ (-1)) = 0 then kStoreN a (nI (2 * c)) i (j + 1) else 1) = 0
    split
    · exact Iff.rfl
    · rw [cIn_0]
      show t.1 ||| (cIn (nI (2 * c)) j 9 1 (0, 0, 0)).1 = 0 ∧ _ ↔ _
      rw [or_eq0, cIn_b j (by omega) c hc]
      split
      · rename_i e; exact ⟨fun x => ⟨x.1.1, x.2⟩, fun x => ⟨⟨x.1, e⟩, x.2⟩⟩
      · rename_i e; exact ⟨fun x => absurd x.1.2 e, fun x => absurd x.2 (by decide)⟩
theorem cOu_z {a : Int32} {c : Nat} (hc : c < 512) : ∀ i j t, i + j = 10 → (t.2.1 = 0 ↔ t.2.2 = 0) → ((cOu a (nI (2 * c)) i j t).2.1 = 0 ↔ (cOu a (nI (2 * c)) i j t).2.2 = 0)
  | 0, j, t, _, h => h
  | i + 1, j, t, hi, h => by
    rw [cOu_s]
    refine cOu_z hc i (j + 1) _ (by omega) ?_
    split
    · exact h
    · rw [cIn_0]
      show t.2.1 ||| (cIn (nI (2 * c)) j 9 1 (0, 0, 0)).2.1 = 0 ↔ t.2.2 ||| (cIn (nI (2 * c)) j 9 1 (0, 0, 0)).2.2 = 0
      rw [cIn_x j (by omega) c hc, cIn_y j (by omega) c hc, or_eq0, or_eq0, h]
      have := kb_n0 j (by omega)
      split
      · rename_i e; simp [e]
      · rename_i e; simp [e, this]
theorem kMeet_e0 {a : Nat} {o : Int32} (ha : a < 512) : kMeeting (nI (2 * a)) o = kMeetN (nI (2 * a)) o 9 1 0 := by
  show kMeetN (nI (2 * a)) o 9 1 (kMeetStep (nI (2 * a)) o 0 0) = _
  have e : ∀ a, a < 512 → kHas (nI (2 * a)) (nI 0) = 0 := by decide +kernel
  unfold kMeetStep
  rw [if_pos (e a ha)]
theorem kMeet_sub {a : Nat} {o : Int32} (ha : a < 1024) : kMeeting (nI a) o &&& nI a = kMeeting (nI a) o := by
  unfold kMeeting
  rw [kMeetN_v o ha 10 0 0 rfl, z_or, Int32.and_assoc, Int32.and_self]
/-- what both loops give -/
theorem cOu_all {a c : Nat} (ha : a < 512) (hc : c < 512) : (cOu (nI (2 * a)) (nI (2 * c)) 9 1 (0, 0, 0)).2.1 = kMeeting (nI (2 * a)) (nI (2 * c)) ∧ (cOu (nI (2 * a)) (nI (2 * c)) 9 1 (0, 0, 0)).2.2 = kMeeting (nI (2 * c)) (nI (2 * a)) ∧ ((cOu (nI (2 * a)) (nI (2 * c)) 9 1 (0, 0, 0)).1 = 0 ↔ kStore (nI (2 * a)) (nI (2 * c)) = 0) ∧ (kMeeting (nI (2 * a)) (nI (2 * c)) = 0 ↔ kMeeting (nI (2 * c)) (nI (2 * a)) = 0) := by
  have h1 : (cOu (nI (2 * a)) (nI (2 * c)) 9 1 (0, 0, 0)).2.1 = kMeeting (nI (2 * a)) (nI (2 * c)) := by
    rw [kMeet_e0 ha, cOu_x hc 9 1 _ rfl]
  have h2 : (cOu (nI (2 * a)) (nI (2 * c)) 9 1 (0, 0, 0)).2.2 = kMeeting (nI (2 * c)) (nI (2 * a)) := by
    rw [cOu_y hc 9 1 _ rfl, uv a ha]
    unfold kMeeting
    rw [kMeetN_v (nI (2 * a)) (c := 2 * c) (by omega) 10 0 0 rfl]
  have h3 := cOu_z (a := nI (2 * a)) hc 9 1 (0, 0, 0) rfl Iff.rfl
  refine ⟨h1, h2, ?_, by rw [h1, h2] at h3; exact h3⟩
  rw [cOu_b hc 9 1 _ rfl]
  have e : ∀ a, a < 512 → kHas (nI (2 * a)) (nI 0) = 0 := by decide +kernel
  have : kStore (nI (2 * a)) (nI (2 * c)) = kStoreN (nI (2 * a)) (nI (2 * c)) 9 1 := by
    show (if kHas (nI (2 * a)) (nI 0) = 0 then kStoreN (nI (2 * a)) (nI (2 * c)) 9 1 else _) = _
    rw [if_pos (e a ha)]
  rw [this]
  simp
