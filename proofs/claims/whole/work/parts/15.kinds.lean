/-! KINDS, and STATES: what their methods do -/
def kHas (s k : Int32) : Int32 := if (s >>> (k &&& 31)) &&& 1 = 0 then 0 else 1
theorem kHas_B (s k : Int32) : oB (kHas s k) := by unfold kHas; split; exact Or.inl rfl; exact Or.inr rfl
def kTab (i : Nat) (k : Int32) : Int32 := if k < 0 then 0 else if 10 ≤ k then 0 else (a_tc i).getD k.toNatClampNeg 0
theorem sp_has {h : aH} {s k : Int32} {Q : Int32 → aH → Prop} (hq : Q (kHas s k) h) : wX4_has h s k Q := by
  unfold wX4_has wbX4_has_13
  refine ⟨fun z => ⟨Or.inl rfl, ?_⟩, fun z => ⟨Or.inr rfl, ?_⟩⟩
  · rwa [kHas, if_pos z] at hq
  · rwa [kHas, if_neg z] at hq
theorem k_in {k : Int32} (h0 : ¬ k < 0) (h1 : ¬ 10 ≤ k) : vp_in k 10 := by
  rw [vp_in_iff]
  have e1 := Int32.not_lt.mp h0
  have e2 := Int32.not_le.mp h1
  rw [Int32.le_iff_toInt_le] at e1
  rw [Int32.lt_iff_toInt_lt] at e2
  exact ⟨by simpa using e1, by simpa using e2⟩
theorem sp_are {h : aH} {k : Int32} {Q : Int32 → aH → Prop} (hq : Q (kTab 1 k) h) : wX4_thoseThatAre h k Q := by
  unfold wX4_thoseThatAre wbX4_thoseThatAre_20 wbX4_thoseThatAre_21
  unfold kTab at hq
  refine ⟨fun z => ?_, fun z => ⟨fun y => ?_, fun y => ⟨_, k_in z y, rfl, ?_⟩⟩⟩
  · rwa [if_pos z] at hq
  · rwa [if_neg z, if_pos y] at hq
  · rwa [if_neg z, if_neg y] at hq
theorem sp_meet {h : aH} {k : Int32} {Q : Int32 → aH → Prop} (hq : Q (kTab 2 k) h) : wX4_thoseThatMeet h k Q := by
  unfold wX4_thoseThatMeet wbX4_thoseThatMeet_20 wbX4_thoseThatMeet_21
  unfold kTab at hq
  refine ⟨fun z => ?_, fun z => ⟨fun y => ?_, fun y => ⟨_, k_in z y, rfl, ?_⟩⟩⟩
  · rwa [if_pos z] at hq
  · rwa [if_neg z, if_pos y] at hq
  · rwa [if_neg z, if_neg y] at hq
theorem sp_takeAll {h : aH} {k : Int32} {Q : Int32 → aH → Prop} (hq : Q (kTab 3 k) h) : wX4_thoseThatTakeAllOf h k Q := by
  unfold wX4_thoseThatTakeAllOf wbX4_thoseThatTakeAllOf_20 wbX4_thoseThatTakeAllOf_21
  unfold kTab at hq
  refine ⟨fun z => ?_, fun z => ⟨fun y => ?_, fun y => ⟨_, k_in z y, rfl, ?_⟩⟩⟩
  · rwa [if_pos z] at hq
  · rwa [if_neg z, if_pos y] at hq
  · rwa [if_neg z, if_neg y] at hq
theorem sp_ofItems {h : aH} {k : Int32} {Q : Int32 → aH → Prop} (hq : Q (kTab 4 k) h) : wX4_ofItems h k Q := by
  unfold wX4_ofItems wbX4_ofItems_20 wbX4_ofItems_21
  unfold kTab at hq
  refine ⟨fun z => ?_, fun z => ⟨fun y => ?_, fun y => ⟨_, k_in z y, rfl, ?_⟩⟩⟩
  · rwa [if_pos z] at hq
  · rwa [if_neg z, if_pos y] at hq
  · rwa [if_neg z, if_neg y] at hq
def kIs (k o : Int32) : Int32 := kHas (kTab 1 o) k
theorem sp_setOf {h : aH} {k : Int32} {Q : Int32 → aH → Prop} (hq : Q (1 <<< (k &&& 31)) h) : wX4_setOf h k Q := hq
def kRow (k : Int32) : Int32 := if k ≤ 0 then 0 else if 7 < k then 0 else 1
theorem sp_isRow {h : aH} {k : Int32} {Q : Int32 → aH → Prop} (hq : Q (kRow k) h) : wX4_isRow h k Q := by
  unfold wX4_isRow wbX4_isRow_14 wbX4_isRow_15
  unfold kRow at hq
  refine ⟨fun z => ⟨Or.inl rfl, ?_⟩, fun z => ⟨fun y => ⟨Or.inl rfl, ?_⟩, fun y => ⟨Or.inr rfl, ?_⟩⟩⟩
  · rwa [if_pos z] at hq
  · rwa [if_neg z, if_pos y] at hq
  · rwa [if_neg z, if_neg y] at hq
/-- meeting: the loop's step at k -/
def kMeetStep (s o : Int32) (k : Nat) (m : Int32) : Int32 := if kHas s (nI k) = 0 then m else if kTab 2 (nI k) &&& o = 0 then m else m ||| (1 <<< (nI k &&& 31))
def kMeetN (s o : Int32) : Nat → Nat → Int32 → Int32
  | 0, _, m => m
  | j + 1, k, m => kMeetN s o j (k + 1) (kMeetStep s o k m)
def kMeeting (s o : Int32) : Int32 := kMeetN s o 10 0 0
theorem kn_9 {k : Nat} (h : k < 10) : ¬ (9 : Int32) < nI k := nI_nlt (a := 9) (by omega) (by omega)
theorem sp_meeting_loop {h : aH} {s o : Int32} {Q : Int32 → aH → Prop} : ∀ (j k : Nat) (m : Int32), j + k = 10 → Q (kMeetN s o j k m) h → wbX4_meeting_4 (j + 1) s o m (nI k) h Q
  | 0, k, m, hk, hq => by
    have e : k = 10 := by omega
    subst e
    refine ⟨fun _ => hq, fun z => absurd (nI_lt (a := 9) (b := 10) (by omega) (by omega)) z⟩
  | j + 1, k, m, hk, hq => by
    have ih := fun m' => sp_meeting_loop (h := h) (s := s) (o := o) (Q := Q) j (k + 1) m' (by omega)
    refine ⟨fun z => absurd z (kn_9 (by omega)), fun _ => sp_has ?_⟩
    simp only [kMeetN, kMeetStep] at hq
    refine ⟨fun z => ?_, fun z => sp_meet ⟨fun y => ?_, fun y => sp_setOf ?_⟩⟩
    · rw [if_pos z] at hq
      show wbX4_meeting_4 (j + 1) s o m (nI k + 1) h Q
      rw [nI_1]; exact ih _ hq
    · rw [if_neg z, if_pos y] at hq
      show wbX4_meeting_4 (j + 1) s o m (nI k + 1) h Q
      rw [nI_1]; exact ih _ hq
    · rw [if_neg z, if_neg y] at hq
      show wbX4_meeting_4 (j + 1) s o _ (nI k + 1) h Q
      rw [nI_1]; exact ih _ hq
theorem sp_meeting {h : aH} {s o : Int32} {Q : Int32 → aH → Prop} (hq : Q (kMeeting s o) h) : wX4_meeting h s o Q := ⟨11, sp_meeting_loop 10 0 0 rfl hq⟩
def kStoreN (s o : Int32) : Nat → Nat → Int32
  | 0, _ => 0
  | j + 1, k => if kHas s (nI k) = 0 then kStoreN s o j (k + 1) else if o &&& (kTab 3 (nI k) ^^^ (-1)) = 0 then kStoreN s o j (k + 1) else 1
def kStore (s o : Int32) : Int32 := kStoreN s o 10 0
theorem sp_store_loop {h : aH} {s o : Int32} {Q : Int32 → aH → Prop} : ∀ (j k : Nat), j + k = 10 → Q (kStoreN s o j k) h → wbX4_copyMayFailByStore_2 (j + 1) s o (nI k) h Q
  | 0, k, hk, hq => by
    have e : k = 10 := by omega
    subst e
    refine ⟨fun _ => ⟨Or.inl rfl, hq⟩, fun z => absurd (nI_lt (a := 9) (b := 10) (by omega) (by omega)) z⟩
  | j + 1, k, hk, hq => by
    have ih := sp_store_loop (h := h) (s := s) (o := o) (Q := Q) j (k + 1) (by omega)
    refine ⟨fun z => absurd z (kn_9 (by omega)), fun _ => sp_has ?_⟩
    simp only [kStoreN] at hq
    refine ⟨fun z => ?_, fun z => sp_takeAll ⟨fun y => ?_, fun y => ⟨Or.inr rfl, ?_⟩⟩⟩
    · rw [if_pos z] at hq
      show wbX4_copyMayFailByStore_2 (j + 1) s o (nI k + 1) h Q
      rw [nI_1]; exact ih hq
    · rw [if_neg z, if_pos y] at hq
      show wbX4_copyMayFailByStore_2 (j + 1) s o (nI k + 1) h Q
      rw [nI_1]; exact ih hq
    · rw [if_neg z, if_neg y] at hq
      exact hq
theorem sp_store {h : aH} {s o : Int32} {Q : Int32 → aH → Prop} (hq : Q (kStore s o) h) : wX4_copyMayFailByStore h s o Q := ⟨11, sp_store_loop 10 0 rfl hq⟩
theorem kStoreN_B (s o : Int32) : ∀ j k, oB (kStoreN s o j k)
  | 0, k => Or.inl rfl
  | j + 1, k => by
    simp only [kStoreN]
    split
    · exact kStoreN_B s o j (k + 1)
    · split
      · exact kStoreN_B s o j (k + 1)
      · exact Or.inr rfl
