-- X10_slot
def wX10_slot (h : aH) (v0 : Nat) (v1 : Int32) (v2 : Int32) (Q : Int32 → aH → Prop) : Prop :=
  wX10_isSlot h v1 (fun r2 h1 => (¬ r2 = 0 → rR h1 v0 8 0 (fun r3 => rR h1 r3 4 1 (fun r5 => aI h1 r5 v1 (fun r7 => ((v2.toInt < 0 ∨ 2 < v2.toInt) → Q ((-1)) h1) ∧ (v2.toInt = 0 → Q r7 h1) ∧ (v2.toInt = 1 → rR h1 v0 8 0 (fun r8 => rR h1 r8 4 0 (fun r10 => isO h1 r10 6 (wX8_kindOf h1 r10 r7 (fun r13 h12 => Q r13 h12))))) ∧ (v2.toInt = 2 → rR h1 v0 8 0 (fun r14 => rR h1 r14 4 0 (fun r16 => isO h1 r16 6 (wX8_sizeOf h1 r16 r7 (fun r19 h18 => Q r19 h18))))))))) ∧ (r2 = 0 → Q ((-1)) h1))
set_option maxRecDepth 100000 in
theorem acX10_slot (l : Launch) (G : aG) (d : Nat) (hG : a_GT G) (hd : 2 ≤ d) {Q : Int32 → aH → Prop} {h : aH} {v0 : Nat} {v1 : Int32} {v2 : Int32} (hw : wX10_slot h v0 v1 v2 Q) : AC l G d 0 0 mX10_slot [.ref v0, .int v1, .int v2] h (qI Q) := by
  refine ac_of iX10_slot (Nat.le_of_ble_eq_true rfl) ?_
  show AW l G d 0 0 mX10_slot (qI Q) 0 [(0, .ref v0), (1, .int v1), (2, .int v2)] [] h
  unfold wX10_slot at hw
  refine aw_iload_n 1 dX10_slot_0 rfl rfl ?_
  refine aw_staticI (As := [.int v1]) (rest := []) dX10_slot_1 (acX10_isSlot l G (d - 1) hG (by omega) hw) iX10_isSlot rfl k_358 k_359 (by omega) (by decide) (by decide) rfl (Nat.le_of_ble_eq_true rfl) (fun r2 h1 hw => ?_)
  refine aw_if_ne (tgt := 9) dX10_slot_4 (by decide) (fun z => ?_) (fun z => ?_)
  · have hw := hw.1 z
    refine aw_aload_n 0 dX10_slot_9 rfl rfl ?_
    obtain ⟨fs4, r3, h1, h2, hw⟩ := hw
    refine aw_getf (k := 0) dX10_slot_10 clX10 (by decide) k_210 (Or.inl rfl) h1 h2 ?_
    obtain ⟨fs6, r5, h1, h2, hw⟩ := hw
    refine aw_getf (k := 1) dX10_slot_13 clX5 (by decide) k_155 (Or.inl rfl) h1 h2 ?_
    refine aw_iload_n 1 dX10_slot_16 rfl rfl ?_
    obtain ⟨_, _, r7, h1, h2, h3, hw⟩ := hw
    refine aw_aI dX10_slot_17 h1 h2 h3 ?_
    refine aw_istore_n (lv' := [(3, .int r7), (0, .ref v0), (1, .int v1), (2, .int v2)]) dX10_slot_18 rfl (by decide) rfl ?_
    refine aw_iload_n 3 dX10_slot_19 rfl rfl ?_
    by_cases zo : v2.toInt < 0 ∨ 2 < v2.toInt
    · have hw := hw.1 zo
      refine aw_tableOut (tgt := 74) dX10_slot_20 zo (by decide) ?_
      refine aw_iconst (v := (-1)) dX10_slot_74 (by decide) ?_
      exact aw_iret dX10_slot_75 rfl rfl ⟨_, rfl, hw⟩
    · have hw := hw.2
      have z : v2.toInt = 0 ∨ v2.toInt = 1 ∨ v2.toInt = 2 := by omega
      rcases z with z | z | z
      · have hw := hw.1 z
        refine aw_tableIn (off := 28) (tgt := 48) dX10_slot_20 (by rw [z]; decide) (by rw [z]; decide) (by rw [z]; rfl) (by decide) ?_
        refine aw_iload_n 0 dX10_slot_48 rfl rfl ?_
        exact aw_iret dX10_slot_49 rfl rfl ⟨_, rfl, hw⟩
      · have hw := hw.2.1 z
        refine aw_tableIn (off := 30) (tgt := 50) dX10_slot_20 (by rw [z]; decide) (by rw [z]; decide) (by rw [z]; rfl) (by decide) ?_
        refine aw_aload_n 1 dX10_slot_50 rfl rfl ?_
        obtain ⟨fs9, r8, h1, h2, hw⟩ := hw
        refine aw_getf (k := 0) dX10_slot_51 clX10 (by decide) k_210 (Or.inl rfl) h1 h2 ?_
        obtain ⟨fs11, r10, h1, h2, hw⟩ := hw
        refine aw_getf (k := 0) dX10_slot_54 clX5 (by decide) k_153 (Or.inl rfl) h1 h2 ?_
        refine aw_iload_n 0 dX10_slot_57 rfl rfl ?_
        obtain ⟨_, h1, hw⟩ := hw
        refine aw_virtI (As := [.int r7]) (rest := []) dX10_slot_58 (acX8_kindOf l G (d - 1) hG (by omega) hw) iX8_kindOf rfl k_677 k_499 k_500 rfl h1 (by omega) (by decide) (by decide) rfl (Nat.le_of_ble_eq_true rfl) (fun r13 h12 hw => ?_)
        exact aw_iret dX10_slot_61 rfl rfl ⟨_, rfl, hw⟩
      · have hw := hw.2.2 z
        refine aw_tableIn (off := 42) (tgt := 62) dX10_slot_20 (by rw [z]; decide) (by rw [z]; decide) (by rw [z]; rfl) (by decide) ?_
        refine aw_aload_n 1 dX10_slot_62 rfl rfl ?_
        obtain ⟨fs15, r14, h1, h2, hw⟩ := hw
        refine aw_getf (k := 0) dX10_slot_63 clX10 (by decide) k_210 (Or.inl rfl) h1 h2 ?_
        obtain ⟨fs17, r16, h1, h2, hw⟩ := hw
        refine aw_getf (k := 0) dX10_slot_66 clX5 (by decide) k_153 (Or.inl rfl) h1 h2 ?_
        refine aw_iload_n 0 dX10_slot_69 rfl rfl ?_
        obtain ⟨_, h1, hw⟩ := hw
        refine aw_virtI (As := [.int r7]) (rest := []) dX10_slot_70 (acX8_sizeOf l G (d - 1) hG (by omega) hw) iX8_sizeOf rfl k_678 k_583 k_584 rfl h1 (by omega) (by decide) (by decide) rfl (Nat.le_of_ble_eq_true rfl) (fun r19 h18 hw => ?_)
        exact aw_iret dX10_slot_73 rfl rfl ⟨_, rfl, hw⟩
  · have hw := hw.2 z
    refine aw_iconst (v := (-1)) dX10_slot_7 (by decide) ?_
    exact aw_iret dX10_slot_8 rfl rfl ⟨_, rfl, hw⟩
-- X10_item
def wbX10_item_31 (s0 : Int64) (h : aH) (Q : Int64 → aH → Prop) : Prop :=
  Q s0 h
def wX10_item (h : aH) (v0 : Nat) (v1 : Int32) (v2 : Int32) (Q : Int64 → aH → Prop) : Prop :=
  wX10_isSlot h v1 (fun r2 h1 => (r2 = 0 → wbX10_item_31 ((0 : Int64)) h1 Q) ∧ (¬ r2 = 0 → rR h1 v0 8 0 (fun r3 => rR h1 r3 4 0 (fun r5 => rR h1 v0 8 0 (fun r7 => rR h1 r7 4 1 (fun r9 => aI h1 r9 v1 (fun r11 => isO h1 r5 6 (wX8_read h1 r5 r11 v2 (fun r13 h12 => wbX10_item_31 r13 h12 Q)))))))))
set_option maxRecDepth 100000 in
theorem abX10_item_31 (l : Launch) (G : aG) (d : Nat) (hG : a_GT G) (hd : 4 ≤ d) {Q : Int64 → aH → Prop} (s0 : Int64) (h : aH) (hw : wbX10_item_31 s0 h Q) : AW l G d 0 0 mX10_item (qL Q) 31 [] [.long s0] h := by
  unfold wbX10_item_31 at hw
  exact aw_lret dX10_item_31 rfl ⟨_, rfl, hw⟩
set_option maxRecDepth 100000 in
theorem acX10_item (l : Launch) (G : aG) (d : Nat) (hG : a_GT G) (hd : 4 ≤ d) {Q : Int64 → aH → Prop} {h : aH} {v0 : Nat} {v1 : Int32} {v2 : Int32} (hw : wX10_item h v0 v1 v2 Q) : AC l G d 0 0 mX10_item [.ref v0, .int v1, .int v2] h (qL Q) := by
  refine ac_of iX10_item (Nat.le_of_ble_eq_true rfl) ?_
  show AW l G d 0 0 mX10_item (qL Q) 0 [(0, .ref v0), (1, .int v1), (2, .int v2)] [] h
  unfold wX10_item at hw
  refine aw_iload_n 1 dX10_item_0 rfl rfl ?_
  refine aw_staticI (As := [.int v1]) (rest := []) dX10_item_1 (acX10_isSlot l G (d - 1) hG (by omega) hw) iX10_isSlot rfl k_358 k_359 (by omega) (by decide) (by decide) rfl (Nat.le_of_ble_eq_true rfl) (fun r2 h1 hw => ?_)
  refine aw_if_eq (tgt := 30) dX10_item_4 (by decide) (fun z => ?_) (fun z => ?_)
  · have hw := hw.1 z
    refine aw_lconst (v := 0) dX10_item_30 (by decide) ?_
    refine aw_sub (lv' := []) [] rfl ?_
    exact abX10_item_31 l G d hG hd _ _ hw
  · have hw := hw.2 z
    refine aw_aload_n 0 dX10_item_7 rfl rfl ?_
    obtain ⟨fs4, r3, h1, h2, hw⟩ := hw
    refine aw_getf (k := 0) dX10_item_8 clX10 (by decide) k_210 (Or.inl rfl) h1 h2 ?_
    obtain ⟨fs6, r5, h1, h2, hw⟩ := hw
    refine aw_getf (k := 0) dX10_item_11 clX5 (by decide) k_153 (Or.inl rfl) h1 h2 ?_
    refine aw_aload_n 0 dX10_item_14 rfl rfl ?_
    obtain ⟨fs8, r7, h1, h2, hw⟩ := hw
    refine aw_getf (k := 0) dX10_item_15 clX10 (by decide) k_210 (Or.inl rfl) h1 h2 ?_
    obtain ⟨fs10, r9, h1, h2, hw⟩ := hw
    refine aw_getf (k := 1) dX10_item_18 clX5 (by decide) k_155 (Or.inl rfl) h1 h2 ?_
    refine aw_iload_n 1 dX10_item_21 rfl rfl ?_
    obtain ⟨_, _, r11, h1, h2, h3, hw⟩ := hw
    refine aw_aI dX10_item_22 h1 h2 h3 ?_
    refine aw_iload_n 2 dX10_item_23 rfl rfl ?_
    obtain ⟨_, h1, hw⟩ := hw
    refine aw_virtL (As := [.int r11, .int v2]) (rest := []) dX10_item_24 (acX8_read l G (d - 1) hG (by omega) hw) iX8_read rfl k_683 k_550 k_551 rfl h1 (by omega) (by decide) (by decide) rfl (Nat.le_of_ble_eq_true rfl) (fun r13 h12 hw => ?_)
    refine aw_goto (tgt := 31) dX10_item_27 (by decide) ?_
    refine aw_sub (lv' := []) [] rfl ?_
    exact abX10_item_31 l G d hG hd _ _ hw
-- X10_register
def wbX10_register_23 (s0 : Int64) (h : aH) (Q : Int64 → aH → Prop) : Prop :=
  Q s0 h
def wbX10_register_22 (h : aH) (Q : Int64 → aH → Prop) : Prop :=
  wbX10_register_23 ((0 : Int64)) h Q
def wX10_register (h : aH) (v0 : Nat) (v1 : Int32) (Q : Int64 → aH → Prop) : Prop :=
  (v1 < 0 → wbX10_register_22  h Q) ∧ (¬ v1 < 0 → (8 ≤ v1 → wbX10_register_22  h Q) ∧ (¬ 8 ≤ v1 → rR h v0 8 0 (fun r1 => rR h r1 4 2 (fun r3 => aL h r3 v1 (fun r5 => wbX10_register_23 r5 h Q)))))
set_option maxRecDepth 100000 in
theorem abX10_register_23 (l : Launch) (G : aG) (d : Nat) (hG : a_GT G) (hd : 1 ≤ d) {Q : Int64 → aH → Prop} (s0 : Int64) (h : aH) (hw : wbX10_register_23 s0 h Q) : AW l G d 0 0 mX10_register (qL Q) 23 [] [.long s0] h := by
  unfold wbX10_register_23 at hw
  exact aw_lret dX10_register_23 rfl ⟨_, rfl, hw⟩
set_option maxRecDepth 100000 in
theorem abX10_register_22 (l : Launch) (G : aG) (d : Nat) (hG : a_GT G) (hd : 1 ≤ d) {Q : Int64 → aH → Prop} (h : aH) (hw : wbX10_register_22  h Q) : AW l G d 0 0 mX10_register (qL Q) 22 [] [] h := by
  unfold wbX10_register_22 at hw
  refine aw_lconst (v := 0) dX10_register_22 (by decide) ?_
  exact abX10_register_23 l G d hG hd _ _ hw
set_option maxRecDepth 100000 in
theorem acX10_register (l : Launch) (G : aG) (d : Nat) (hG : a_GT G) (hd : 1 ≤ d) {Q : Int64 → aH → Prop} {h : aH} {v0 : Nat} {v1 : Int32} (hw : wX10_register h v0 v1 Q) : AC l G d 0 0 mX10_register [.ref v0, .int v1] h (qL Q) := by
  refine ac_of iX10_register (Nat.le_of_ble_eq_true rfl) ?_
  show AW l G d 0 0 mX10_register (qL Q) 0 [(0, .ref v0), (1, .int v1)] [] h
  unfold wX10_register at hw
  refine aw_iload_n 1 dX10_register_0 rfl rfl ?_
  refine aw_if_lt (tgt := 22) dX10_register_1 (by decide) (fun z => ?_) (fun z => ?_)
  · have hw := hw.1 z
    refine aw_sub (lv' := []) [] rfl ?_
    exact abX10_register_22 l G d hG hd _ hw
  · have hw := hw.2 z
    refine aw_iload_n 1 dX10_register_4 rfl rfl ?_
    refine aw_bipush (v := 8) dX10_register_5 (by decide) ?_
    refine aw_icmp_ge (tgt := 22) dX10_register_7 (by decide) (fun z => ?_) (fun z => ?_)
    · have hw := hw.1 z
      refine aw_sub (lv' := []) [] rfl ?_
      exact abX10_register_22 l G d hG hd _ hw
    · have hw := hw.2 z
      refine aw_aload_n 0 dX10_register_10 rfl rfl ?_
      obtain ⟨fs2, r1, h1, h2, hw⟩ := hw
      refine aw_getf (k := 0) dX10_register_11 clX10 (by decide) k_210 (Or.inl rfl) h1 h2 ?_
      obtain ⟨fs4, r3, h1, h2, hw⟩ := hw
      refine aw_getf (k := 2) dX10_register_14 clX5 (by decide) k_157 (Or.inl rfl) h1 h2 ?_
      refine aw_iload_n 1 dX10_register_17 rfl rfl ?_
      obtain ⟨_, _, r5, h1, h2, h3, hw⟩ := hw
      refine aw_aL dX10_register_18 h1 h2 h3 ?_
      refine aw_goto (tgt := 23) dX10_register_19 (by decide) ?_
      refine aw_sub (lv' := []) [] rfl ?_
      exact abX10_register_23 l G d hG hd _ _ hw
-- X10_alike
def wbX10_alike_14 (h : aH) (Q : Int32 → aH → Prop) : Prop :=
  Q ((-1)) h
def wbX10_alike_66 (s0 : Int32) (h : aH) (Q : Int32 → aH → Prop) : Prop :=
  Q s0 h
def wX10_alike (h : aH) (v0 : Nat) (v1 : Int32) (v2 : Int32) (Q : Int32 → aH → Prop) : Prop :=
  wX10_isSlot h v1 (fun r2 h1 => (r2 = 0 → wbX10_alike_14 h1 Q) ∧ (¬ r2 = 0 → wX10_isSlot h1 v2 (fun r4 h3 => (¬ r4 = 0 → rR h3 v0 8 0 (fun r5 => rR h3 r5 4 1 (fun r7 => aI h3 r7 v1 (fun r9 => rR h3 v0 8 0 (fun r10 => rR h3 r10 4 1 (fun r12 => aI h3 r12 v2 (fun r14 => (¬ r9 = r14 → rR h3 v0 8 0 (fun r15 => rR h3 r15 4 0 (fun r17 => isO h3 r17 6 (wX8_match h3 r17 r9 r14 (fun r20 h19 => (r20 = 0 → wbX10_alike_66 0 h19 Q) ∧ (¬ r20 = 0 → wbX10_alike_66 2 h19 Q)))))) ∧ (r9 = r14 → Q 1 h3)))))))) ∧ (r4 = 0 → wbX10_alike_14 h3 Q))))
set_option maxRecDepth 100000 in
theorem abX10_alike_14 (l : Launch) (G : aG) (d : Nat) (hG : a_GT G) (hd : 7 ≤ d) {Q : Int32 → aH → Prop} (h : aH) (hw : wbX10_alike_14  h Q) : AW l G d 0 0 mX10_alike (qI Q) 14 [] [] h := by
  unfold wbX10_alike_14 at hw
  refine aw_iconst (v := (-1)) dX10_alike_14 (by decide) ?_
  exact aw_iret dX10_alike_15 rfl rfl ⟨_, rfl, hw⟩
set_option maxRecDepth 100000 in
theorem abX10_alike_66 (l : Launch) (G : aG) (d : Nat) (hG : a_GT G) (hd : 7 ≤ d) {Q : Int32 → aH → Prop} (s0 : Int32) (h : aH) (hw : wbX10_alike_66 s0 h Q) : AW l G d 0 0 mX10_alike (qI Q) 66 [] [.int s0] h := by
  unfold wbX10_alike_66 at hw
  exact aw_iret dX10_alike_66 rfl rfl ⟨_, rfl, hw⟩
set_option maxRecDepth 100000 in
theorem acX10_alike (l : Launch) (G : aG) (d : Nat) (hG : a_GT G) (hd : 7 ≤ d) {Q : Int32 → aH → Prop} {h : aH} {v0 : Nat} {v1 : Int32} {v2 : Int32} (hw : wX10_alike h v0 v1 v2 Q) : AC l G d 0 0 mX10_alike [.ref v0, .int v1, .int v2] h (qI Q) := by
  refine ac_of iX10_alike (Nat.le_of_ble_eq_true rfl) ?_
  show AW l G d 0 0 mX10_alike (qI Q) 0 [(0, .ref v0), (1, .int v1), (2, .int v2)] [] h
  unfold wX10_alike at hw
  refine aw_iload_n 1 dX10_alike_0 rfl rfl ?_
  refine aw_staticI (As := [.int v1]) (rest := []) dX10_alike_1 (acX10_isSlot l G (d - 1) hG (by omega) hw) iX10_isSlot rfl k_358 k_359 (by omega) (by decide) (by decide) rfl (Nat.le_of_ble_eq_true rfl) (fun r2 h1 hw => ?_)
  refine aw_if_eq (tgt := 14) dX10_alike_4 (by decide) (fun z => ?_) (fun z => ?_)
  · have hw := hw.1 z
    refine aw_sub (lv' := []) [] rfl ?_
    exact abX10_alike_14 l G d hG hd _ hw
  · have hw := hw.2 z
    refine aw_iload_n 2 dX10_alike_7 rfl rfl ?_
    refine aw_staticI (As := [.int v2]) (rest := []) dX10_alike_8 (acX10_isSlot l G (d - 1) hG (by omega) hw) iX10_isSlot rfl k_358 k_359 (by omega) (by decide) (by decide) rfl (Nat.le_of_ble_eq_true rfl) (fun r4 h3 hw => ?_)
    refine aw_if_ne (tgt := 16) dX10_alike_11 (by decide) (fun z => ?_) (fun z => ?_)
    · have hw := hw.1 z
      refine aw_aload_n 0 dX10_alike_16 rfl rfl ?_
      obtain ⟨fs6, r5, h1, h2, hw⟩ := hw
      refine aw_getf (k := 0) dX10_alike_17 clX10 (by decide) k_210 (Or.inl rfl) h1 h2 ?_
      obtain ⟨fs8, r7, h1, h2, hw⟩ := hw
      refine aw_getf (k := 1) dX10_alike_20 clX5 (by decide) k_155 (Or.inl rfl) h1 h2 ?_
      refine aw_iload_n 1 dX10_alike_23 rfl rfl ?_
      obtain ⟨_, _, r9, h1, h2, h3, hw⟩ := hw
      refine aw_aI dX10_alike_24 h1 h2 h3 ?_
      refine aw_istore_n (lv' := [(3, .int r9), (0, .ref v0), (1, .int v1), (2, .int v2)]) dX10_alike_25 rfl (by decide) rfl ?_
      refine aw_aload_n 1 dX10_alike_26 rfl rfl ?_
      obtain ⟨fs11, r10, h1, h2, hw⟩ := hw
      refine aw_getf (k := 0) dX10_alike_27 clX10 (by decide) k_210 (Or.inl rfl) h1 h2 ?_
      obtain ⟨fs13, r12, h1, h2, hw⟩ := hw
      refine aw_getf (k := 1) dX10_alike_30 clX5 (by decide) k_155 (Or.inl rfl) h1 h2 ?_
      refine aw_iload_n 3 dX10_alike_33 rfl rfl ?_
      obtain ⟨_, _, r14, h1, h2, h3, hw⟩ := hw
      refine aw_aI dX10_alike_34 h1 h2 h3 ?_
      refine aw_istore (lv' := [(4, .int r14), (3, .int r9), (0, .ref v0), (1, .int v1), (2, .int v2)]) dX10_alike_35 (by decide) rfl ?_
      refine aw_iload_n 1 dX10_alike_37 rfl rfl ?_
      refine aw_iload 0 dX10_alike_38 rfl ?_
      refine aw_icmp_ne (tgt := 45) dX10_alike_40 (by decide) (fun z => ?_) (fun z => ?_)
      · have hw := hw.1 z
        refine aw_aload_n 2 dX10_alike_45 rfl rfl ?_
        obtain ⟨fs16, r15, h1, h2, hw⟩ := hw
        refine aw_getf (k := 0) dX10_alike_46 clX10 (by decide) k_210 (Or.inl rfl) h1 h2 ?_
        obtain ⟨fs18, r17, h1, h2, hw⟩ := hw
        refine aw_getf (k := 0) dX10_alike_49 clX5 (by decide) k_153 (Or.inl rfl) h1 h2 ?_
        refine aw_iload_n 1 dX10_alike_52 rfl rfl ?_
        refine aw_iload 0 dX10_alike_53 rfl ?_
        obtain ⟨_, h1, hw⟩ := hw
        refine aw_virtI (As := [.int r9, .int r14]) (rest := []) dX10_alike_55 (acX8_match l G (d - 1) hG (by omega) hw) iX8_match rfl k_692 k_693 k_694 rfl h1 (by omega) (by decide) (by decide) rfl (Nat.le_of_ble_eq_true rfl) (fun r20 h19 hw => ?_)
        refine aw_if_eq (tgt := 65) dX10_alike_58 (by decide) (fun z => ?_) (fun z => ?_)
        · have hw := hw.1 z
          refine aw_iconst (v := 0) dX10_alike_65 (by decide) ?_
          refine aw_sub (lv' := []) [] rfl ?_
          exact abX10_alike_66 l G d hG hd _ _ hw
        · have hw := hw.2 z
          refine aw_iconst (v := 2) dX10_alike_61 (by decide) ?_
          refine aw_goto (tgt := 66) dX10_alike_62 (by decide) ?_
          refine aw_sub (lv' := []) [] rfl ?_
          exact abX10_alike_66 l G d hG hd _ _ hw
      · have hw := hw.2 z
        refine aw_iconst (v := 1) dX10_alike_43 (by decide) ?_
        exact aw_iret dX10_alike_44 rfl rfl ⟨_, rfl, hw⟩
    · have hw := hw.2 z
      refine aw_sub (lv' := []) [] rfl ?_
      exact abX10_alike_14 l G d hG hd _ hw
-- X10_given
def wbX10_given_18 (h : aH) (Q : Int32 → aH → Prop) : Prop :=
  Q ((-1)) h
def wX10_given (h : aH) (v0 : Nat) (v1 : Int32) (v2 : Int32) (Q : Int32 → aH → Prop) : Prop :=
  wX10_isSlot h v1 (fun r2 h1 => (r2 = 0 → wbX10_given_18 h1 Q) ∧ (¬ r2 = 0 → (v2 ≤ 0 → wbX10_given_18 h1 Q) ∧ (¬ v2 ≤ 0 → (v2 ≤ 1023 → rR h1 v0 8 2 (fun r3 => isO h1 r3 5 (wX7_of h1 r3 v1 (fun r6 h5 => rR h5 v0 8 2 (fun r7 => isO h5 r7 5 (wX7_put h5 r7 v1 v2 (fun h9 => Q r6 h9))))))) ∧ (¬ v2 ≤ 1023 → wbX10_given_18 h1 Q))))
set_option maxRecDepth 100000 in
theorem abX10_given_18 (l : Launch) (G : aG) (d : Nat) (hG : a_GT G) (hd : 2 ≤ d) {Q : Int32 → aH → Prop} (h : aH) (hw : wbX10_given_18  h Q) : AW l G d 0 0 mX10_given (qI Q) 18 [] [] h := by
  unfold wbX10_given_18 at hw
  refine aw_iconst (v := (-1)) dX10_given_18 (by decide) ?_
  exact aw_iret dX10_given_19 rfl rfl ⟨_, rfl, hw⟩
set_option maxRecDepth 100000 in
theorem acX10_given (l : Launch) (G : aG) (d : Nat) (hG : a_GT G) (hd : 2 ≤ d) {Q : Int32 → aH → Prop} {h : aH} {v0 : Nat} {v1 : Int32} {v2 : Int32} (hw : wX10_given h v0 v1 v2 Q) : AC l G d 0 0 mX10_given [.ref v0, .int v1, .int v2] h (qI Q) := by
  refine ac_of iX10_given (Nat.le_of_ble_eq_true rfl) ?_
  show AW l G d 0 0 mX10_given (qI Q) 0 [(0, .ref v0), (1, .int v1), (2, .int v2)] [] h
  unfold wX10_given at hw
  refine aw_iload_n 1 dX10_given_0 rfl rfl ?_
  refine aw_staticI (As := [.int v1]) (rest := []) dX10_given_1 (acX10_isSlot l G (d - 1) hG (by omega) hw) iX10_isSlot rfl k_358 k_359 (by omega) (by decide) (by decide) rfl (Nat.le_of_ble_eq_true rfl) (fun r2 h1 hw => ?_)
  refine aw_if_eq (tgt := 18) dX10_given_4 (by decide) (fun z => ?_) (fun z => ?_)
  · have hw := hw.1 z
    refine aw_sub (lv' := []) [] rfl ?_
    exact abX10_given_18 l G d hG hd _ hw
  · have hw := hw.2 z
    refine aw_iload_n 2 dX10_given_7 rfl rfl ?_
    refine aw_if_le (tgt := 18) dX10_given_8 (by decide) (fun z => ?_) (fun z => ?_)
    · have hw := hw.1 z
      refine aw_sub (lv' := []) [] rfl ?_
      exact abX10_given_18 l G d hG hd _ hw
    · have hw := hw.2 z
      refine aw_iload_n 2 dX10_given_11 rfl rfl ?_
      refine aw_sipush (v := 1023) dX10_given_12 (by decide) ?_
      refine aw_icmp_le (tgt := 20) dX10_given_15 (by decide) (fun z => ?_) (fun z => ?_)
      · have hw := hw.1 z
        refine aw_aload_n 0 dX10_given_20 rfl rfl ?_
        obtain ⟨fs4, r3, h1, h2, hw⟩ := hw
        refine aw_getf (k := 2) dX10_given_21 clX10 (by decide) k_212 (Or.inl rfl) h1 h2 ?_
        refine aw_iload_n 1 dX10_given_24 rfl rfl ?_
        obtain ⟨_, h1, hw⟩ := hw
        refine aw_virtI (As := [.int v1]) (rest := []) dX10_given_25 (acX7_of l G (d - 1) hG (by omega) hw) iX7_of rfl k_710 k_711 k_712 rfl h1 (by omega) (by decide) (by decide) rfl (Nat.le_of_ble_eq_true rfl) (fun r6 h5 hw => ?_)
        refine aw_istore_n (lv' := [(3, .int r6), (0, .ref v0), (1, .int v1), (2, .int v2)]) dX10_given_28 rfl (by decide) rfl ?_
        refine aw_aload_n 1 dX10_given_29 rfl rfl ?_
        obtain ⟨fs8, r7, h1, h2, hw⟩ := hw
        refine aw_getf (k := 2) dX10_given_30 clX10 (by decide) k_212 (Or.inl rfl) h1 h2 ?_
        refine aw_iload_n 2 dX10_given_33 rfl rfl ?_
        refine aw_iload_n 3 dX10_given_34 rfl rfl ?_
        obtain ⟨_, h1, hw⟩ := hw
        refine aw_virtV (As := [.int v1, .int v2]) (rest := []) dX10_given_35 (acX7_put l G (d - 1) hG (by omega) hw) iX7_put rfl k_206 k_207 k_208 rfl h1 (by omega) (by decide) (by decide) rfl (Nat.le_of_ble_eq_true rfl) (fun h9 hw => ?_)
        refine aw_iload_n 0 dX10_given_38 rfl rfl ?_
        exact aw_iret dX10_given_39 rfl rfl ⟨_, rfl, hw⟩
      · have hw := hw.2 z
        refine aw_sub (lv' := []) [] rfl ?_
        exact abX10_given_18 l G d hG hd _ hw
def wforget (ci : Nat) (h : aH) (a : Nat) (Q : aH → Prop) : Prop := match ci with
  | 3 => wX3_forgetReport h a Q
  | _ => wX6_forgetReport h a Q
theorem acforget (l : Launch) (G : aG) (d : Nat) (hG : a_GT G) {ci : Nat} {h : aH} {a : Nat} {Q : aH → Prop} (hci : ci < 4) (hd : 4 ≤ d) (hw : wforget ci h a Q) : AC l G d 0 0 (mforget ci) [.ref a] h (qV Q) := by
  rcases (show ci = 0 ∨ ci = 1 ∨ ci = 2 ∨ ci = 3 by omega) with rfl | rfl | rfl | rfl
  · exact acX6_forgetReport l G d hG (by omega) hw
  · exact acX6_forgetReport l G d hG (by omega) hw
  · exact acX6_forgetReport l G d hG (by omega) hw
  · exact acX3_forgetReport l G d hG (by omega) hw
-- X10_report
def wbX10_report_12_i (Rf : Nat → aH → Nat → Nat → (aH → Prop) → Prop) (K12 : Nat → Int32 → Int32 →  aH → Prop) (v0 : Nat) (v1 : Int32) (v2 : Int32) (h : aH) (Q : Int32 → aH → Prop) : Prop :=
  rI h v0 8 3 (fun r1 => (r1 ≤ v2 → rR h v0 8 1 (fun r3 => aR h 3 r3 v1 (fun r5 => rR h v0 8 2 (fun r6 => isN h r5 (fun _ => wX6_goThrough Rf h r5 r6 (fun h8 => rR h8 v0 8 1 (fun r9 => aR h8 3 r9 v1 (fun r11 => rIN h8 r11 4 (fun r12 => Q r12 h8))))))))) ∧ (¬ r1 ≤ v2 → rR h v0 8 1 (fun r15 => aR h 3 r15 v2 (fun r17 => isN h r17 (fun ci => wforget ci h r17 (fun h18 => K12 v0 v1 ((v2 + 1)) h18))))))
def wbX10_report_12 (Rf : Nat → aH → Nat → Nat → (aH → Prop) → Prop) (n : Nat) (v0 : Nat) (v1 : Int32) (v2 : Int32) (h : aH) (Q : Int32 → aH → Prop) : Prop := match n with
  | 0 => False
  | n + 1 => wbX10_report_12_i Rf (fun v0 v1 v2 h => wbX10_report_12 Rf n v0 v1 v2 h Q) v0 v1 v2 h Q
def wX10_report (Rf : Nat → aH → Nat → Nat → (aH → Prop) → Prop) (h : aH) (v0 : Nat) (v1 : Int32) (Q : Int32 → aH → Prop) : Prop :=
  isO h v0 8 (wX10_isNode h v0 v1 (fun r20 h19 => (¬ r20 = 0 → ∃ n, wbX10_report_12 Rf n v0 v1 0 h19 Q) ∧ (r20 = 0 → Q ((-1)) h19)))
set_option maxRecDepth 100000 in
theorem abX10_report_12_i (l : Launch) (G : aG) (d : Nat) (hG : a_GT G) {Rf : Nat → aH → Nat → Nat → (aH → Prop) → Prop} {dRf : Nat} (hRf : ∀ (ci : Nat) (h : aH) (a b : Nat) (Q : aH → Prop), ci < 4 → Rf ci h a b Q → AC l G dRf 0 0 (mfindWays ci) [.ref a, .ref b] h (qV Q)) (hd : 6 ≤ d) (hdRf : dRf + 2 ≤ d) {Q : Int32 → aH → Prop} {K12 : Nat → Int32 → Int32 →  aH → Prop} (kk12 : ∀ (v0 : Nat) (v1 : Int32) (v2 : Int32) (h : aH), K12 v0 v1 v2 h → AW l G d 0 0 mX10_report (qI Q) 12 [(0, .ref v0), (1, .int v1), (2, .int v2)] [] h) (v0 : Nat) (v1 : Int32) (v2 : Int32) (h : aH) (hw : wbX10_report_12_i Rf K12 v0 v1 v2 h Q) : AW l G d 0 0 mX10_report (qI Q) 12 [(0, .ref v0), (1, .int v1), (2, .int v2)] [] h := by
  unfold wbX10_report_12_i at hw
  refine aw_iload_n 2 dX10_report_12 rfl rfl ?_
  refine aw_aload_n 0 dX10_report_13 rfl rfl ?_
  obtain ⟨fs2, r1, h1, h2, hw⟩ := hw
  refine aw_getf (k := 3) dX10_report_14 clX10 (by decide) k_213 (Or.inl rfl) h1 h2 ?_
  refine aw_icmp_ge (tgt := 35) dX10_report_17 (by decide) (fun z => ?_) (fun z => ?_)
  · have hw := hw.1 z
    refine aw_aload_n 0 dX10_report_35 rfl rfl ?_
    obtain ⟨fs4, r3, h1, h2, hw⟩ := hw
    refine aw_getf (k := 1) dX10_report_36 clX10 (by decide) k_211 (Or.inl rfl) h1 h2 ?_
    refine aw_iload_n 1 dX10_report_39 rfl rfl ?_
    obtain ⟨_, _, r5, h1, h2, h3, hw⟩ := hw
    refine aw_aR dX10_report_40 (by decide) h1 h2 h3 ?_
    refine aw_aload_n 0 dX10_report_41 rfl rfl ?_
    obtain ⟨fs7, r6, h1, h2, hw⟩ := hw
    refine aw_getf (k := 2) dX10_report_42 clX10 (by decide) k_212 (Or.inl rfl) h1 h2 ?_
    obtain ⟨ci, _, h1, h2, hw⟩ := hw
    refine aw_vgoThrough dX10_report_45 h1 h2 (acX6_goThrough l G (d - 1) hG hRf (by omega) (by omega) hw) k_734 (by omega) (Nat.zero_le _) (Nat.zero_le _) rfl (Nat.le_of_ble_eq_true rfl) (fun h8 hw => ?_)
    refine aw_aload_n 0 dX10_report_48 rfl rfl ?_
    obtain ⟨fs10, r9, h1, h2, hw⟩ := hw
    refine aw_getf (k := 1) dX10_report_49 clX10 (by decide) k_211 (Or.inl rfl) h1 h2 ?_
    refine aw_iload_n 1 dX10_report_52 rfl rfl ?_
    obtain ⟨_, _, r11, h1, h2, h3, hw⟩ := hw
    refine aw_aR dX10_report_53 (by decide) h1 h2 h3 ?_
    obtain ⟨ci14, fs13, r12, hc, h1, h2, hw⟩ := hw
    refine aw_getN (k := 4) dX10_report_54 hc (by decide) k_291 h1 h2 ?_
    exact aw_iret dX10_report_57 rfl rfl ⟨_, rfl, hw⟩
  · have hw := hw.2 z
    refine aw_aload_n 0 dX10_report_20 rfl rfl ?_
    obtain ⟨fs16, r15, h1, h2, hw⟩ := hw
    refine aw_getf (k := 1) dX10_report_21 clX10 (by decide) k_211 (Or.inl rfl) h1 h2 ?_
    refine aw_iload_n 2 dX10_report_24 rfl rfl ?_
    obtain ⟨_, _, r17, h1, h2, h3, hw⟩ := hw
    refine aw_aR dX10_report_25 (by decide) h1 h2 h3 ?_
    obtain ⟨ci, _, h1, h2, hw⟩ := hw
    refine aw_vforget dX10_report_26 h1 h2 (acforget l G (d - 1) hG h1 (by omega) hw) k_718 (by omega) (Nat.zero_le _) (Nat.zero_le _) rfl (Nat.le_of_ble_eq_true rfl) (fun h18 hw => ?_)
    refine aw_iinc (v := (v2 + 1)) (lv' := [(2, .int (v2 + 1)), (0, .ref v0), (1, .int v1)]) 2 dX10_report_29 rfl rfl (by decide) rfl ?_
    refine aw_goto (tgt := 12) dX10_report_32 (by decide) ?_
    refine aw_sub (lv' := [(0, .ref v0), (1, .int v1), (2, .int (v2 + 1))]) [1, 2, 0] rfl ?_
    exact kk12 _ _ _ _ hw
set_option maxRecDepth 100000 in
theorem abX10_report_12 (l : Launch) (G : aG) (d : Nat) (hG : a_GT G) {Rf : Nat → aH → Nat → Nat → (aH → Prop) → Prop} {dRf : Nat} (hRf : ∀ (ci : Nat) (h : aH) (a b : Nat) (Q : aH → Prop), ci < 4 → Rf ci h a b Q → AC l G dRf 0 0 (mfindWays ci) [.ref a, .ref b] h (qV Q)) (hd : 6 ≤ d) (hdRf : dRf + 2 ≤ d) {Q : Int32 → aH → Prop} (n : Nat) : ∀  (v0 : Nat) (v1 : Int32) (v2 : Int32) (h : aH), wbX10_report_12 Rf n v0 v1 v2 h Q → AW l G d 0 0 mX10_report (qI Q) 12 [(0, .ref v0), (1, .int v1), (2, .int v2)] [] h := by
  induction n with
  | zero => exact fun _ _ _ _ hw => hw.elim
  | succ n ih => exact fun _ _ _ _ hw => abX10_report_12_i l G d hG hRf hd hdRf ih _ _ _ _ hw
set_option maxRecDepth 100000 in
theorem acX10_report (l : Launch) (G : aG) (d : Nat) (hG : a_GT G) {Rf : Nat → aH → Nat → Nat → (aH → Prop) → Prop} {dRf : Nat} (hRf : ∀ (ci : Nat) (h : aH) (a b : Nat) (Q : aH → Prop), ci < 4 → Rf ci h a b Q → AC l G dRf 0 0 (mfindWays ci) [.ref a, .ref b] h (qV Q)) (hd : 6 ≤ d) (hdRf : dRf + 2 ≤ d) {Q : Int32 → aH → Prop} {h : aH} {v0 : Nat} {v1 : Int32} (hw : wX10_report Rf h v0 v1 Q) : AC l G d 0 0 mX10_report [.ref v0, .int v1] h (qI Q) := by
  refine ac_of iX10_report (Nat.le_of_ble_eq_true rfl) ?_
  show AW l G d 0 0 mX10_report (qI Q) 0 [(0, .ref v0), (1, .int v1)] [] h
  unfold wX10_report at hw
  refine aw_aload_n 0 dX10_report_0 rfl rfl ?_
  refine aw_iload_n 1 dX10_report_1 rfl rfl ?_
  obtain ⟨_, h1, hw⟩ := hw
  refine aw_virtI (As := [.int v1]) (rest := []) dX10_report_2 (acX10_isNode l G (d - 1) hG (by omega) hw) iX10_isNode rfl k_323 k_325 k_2 rfl h1 (by omega) (by decide) (by decide) rfl (Nat.le_of_ble_eq_true rfl) (fun r20 h19 hw => ?_)
  refine aw_if_ne (tgt := 10) dX10_report_5 (by decide) (fun z => ?_) (fun z => ?_)
  · have hw := hw.1 z
    refine aw_iconst (v := 0) dX10_report_10 (by decide) ?_
    refine aw_istore_n (lv' := [(2, .int 0), (0, .ref v0), (1, .int v1)]) dX10_report_11 rfl (by decide) rfl ?_
    obtain ⟨n, hw⟩ := hw
    refine aw_sub (lv' := [(0, .ref v0), (1, .int v1), (2, .int 0)]) [1, 2, 0] rfl ?_
    exact abX10_report_12 l G d hG hRf hd hdRf n _ _ _ _ hw
  · have hw := hw.2 z
    refine aw_iconst (v := (-1)) dX10_report_8 (by decide) ?_
    exact aw_iret dX10_report_9 rfl rfl ⟨_, rfl, hw⟩
-- X10_reached
def wbX10_reached_27 (s0 : Int32) (h : aH) (Q : Int32 → aH → Prop) : Prop :=
  Q s0 h
def wX10_reached (h : aH) (v0 : Nat) (v1 : Int32) (Q : Int32 → aH → Prop) : Prop :=
  isO h v0 8 (wX10_isNode h v0 v1 (fun r2 h1 => (¬ r2 = 0 → rR h1 v0 8 1 (fun r3 => aR h1 3 r3 v1 (fun r5 => isN h1 r5 (fun _ => wX6_isReached h1 r5 (fun r7 h6 => (r7 = 0 → wbX10_reached_27 0 h6 Q) ∧ (¬ r7 = 0 → wbX10_reached_27 1 h6 Q)))))) ∧ (r2 = 0 → Q ((-1)) h1)))
set_option maxRecDepth 100000 in
theorem abX10_reached_27 (l : Launch) (G : aG) (d : Nat) (hG : a_GT G) (hd : 3 ≤ d) {Q : Int32 → aH → Prop} (s0 : Int32) (h : aH) (hw : wbX10_reached_27 s0 h Q) : AW l G d 0 0 mX10_reached (qI Q) 27 [] [.int s0] h := by
  unfold wbX10_reached_27 at hw
  exact aw_iret dX10_reached_27 rfl rfl ⟨_, rfl, hw⟩
set_option maxRecDepth 100000 in
theorem acX10_reached (l : Launch) (G : aG) (d : Nat) (hG : a_GT G) (hd : 3 ≤ d) {Q : Int32 → aH → Prop} {h : aH} {v0 : Nat} {v1 : Int32} (hw : wX10_reached h v0 v1 Q) : AC l G d 0 0 mX10_reached [.ref v0, .int v1] h (qI Q) := by
  refine ac_of iX10_reached (Nat.le_of_ble_eq_true rfl) ?_
  show AW l G d 0 0 mX10_reached (qI Q) 0 [(0, .ref v0), (1, .int v1)] [] h
  unfold wX10_reached at hw
  refine aw_aload_n 0 dX10_reached_0 rfl rfl ?_
  refine aw_iload_n 1 dX10_reached_1 rfl rfl ?_
  obtain ⟨_, h1, hw⟩ := hw
  refine aw_virtI (As := [.int v1]) (rest := []) dX10_reached_2 (acX10_isNode l G (d - 1) hG (by omega) hw) iX10_isNode rfl k_323 k_325 k_2 rfl h1 (by omega) (by decide) (by decide) rfl (Nat.le_of_ble_eq_true rfl) (fun r2 h1 hw => ?_)
  refine aw_if_ne (tgt := 10) dX10_reached_5 (by decide) (fun z => ?_) (fun z => ?_)
  · have hw := hw.1 z
    refine aw_aload_n 0 dX10_reached_10 rfl rfl ?_
    obtain ⟨fs4, r3, h1, h2, hw⟩ := hw
    refine aw_getf (k := 1) dX10_reached_11 clX10 (by decide) k_211 (Or.inl rfl) h1 h2 ?_
    refine aw_iload_n 1 dX10_reached_14 rfl rfl ?_
    obtain ⟨_, _, r5, h1, h2, h3, hw⟩ := hw
    refine aw_aR dX10_reached_15 (by decide) h1 h2 h3 ?_
    obtain ⟨ci, _, h1, h2, hw⟩ := hw
    refine aw_visReached dX10_reached_16 h1 h2 (acX6_isReached l G (d - 1) hG (by omega) hw) k_913 (by omega) (Nat.zero_le _) (Nat.zero_le _) rfl (Nat.le_of_ble_eq_true rfl) (fun r7 h6 hw => ?_)
    refine aw_if_eq (tgt := 26) dX10_reached_19 (by decide) (fun z => ?_) (fun z => ?_)
    · have hw := hw.1 z
      refine aw_iconst (v := 0) dX10_reached_26 (by decide) ?_
      refine aw_sub (lv' := []) [] rfl ?_
      exact abX10_reached_27 l G d hG hd _ _ hw
    · have hw := hw.2 z
      refine aw_iconst (v := 1) dX10_reached_22 (by decide) ?_
      refine aw_goto (tgt := 27) dX10_reached_23 (by decide) ?_
      refine aw_sub (lv' := []) [] rfl ?_
      exact abX10_reached_27 l G d hG hd _ _ hw
  · have hw := hw.2 z
    refine aw_iconst (v := (-1)) dX10_reached_8 (by decide) ?_
    exact aw_iret dX10_reached_9 rfl rfl ⟨_, rfl, hw⟩
-- X10_may
def wbX10_may_21 (s0 : Int32) (h : aH) (Q : Int32 → aH → Prop) : Prop :=
  Q s0 h
def wX10_may (h : aH) (v0 : Nat) (v1 : Int32) (Q : Int32 → aH → Prop) : Prop :=
  isO h v0 8 (wX10_isNode h v0 v1 (fun r2 h1 => (r2 = 0 → wbX10_may_21 ((-1)) h1 Q) ∧ (¬ r2 = 0 → rR h1 v0 8 1 (fun r3 => aR h1 3 r3 v1 (fun r5 => rIN h1 r5 4 (fun r6 => wbX10_may_21 r6 h1 Q))))))
set_option maxRecDepth 100000 in
theorem abX10_may_21 (l : Launch) (G : aG) (d : Nat) (hG : a_GT G) (hd : 2 ≤ d) {Q : Int32 → aH → Prop} (s0 : Int32) (h : aH) (hw : wbX10_may_21 s0 h Q) : AW l G d 0 0 mX10_may (qI Q) 21 [] [.int s0] h := by
  unfold wbX10_may_21 at hw
  exact aw_iret dX10_may_21 rfl rfl ⟨_, rfl, hw⟩
set_option maxRecDepth 100000 in
theorem acX10_may (l : Launch) (G : aG) (d : Nat) (hG : a_GT G) (hd : 2 ≤ d) {Q : Int32 → aH → Prop} {h : aH} {v0 : Nat} {v1 : Int32} (hw : wX10_may h v0 v1 Q) : AC l G d 0 0 mX10_may [.ref v0, .int v1] h (qI Q) := by
  refine ac_of iX10_may (Nat.le_of_ble_eq_true rfl) ?_
  show AW l G d 0 0 mX10_may (qI Q) 0 [(0, .ref v0), (1, .int v1)] [] h
  unfold wX10_may at hw
  refine aw_aload_n 0 dX10_may_0 rfl rfl ?_
  refine aw_iload_n 1 dX10_may_1 rfl rfl ?_
  obtain ⟨_, h1, hw⟩ := hw
  refine aw_virtI (As := [.int v1]) (rest := []) dX10_may_2 (acX10_isNode l G (d - 1) hG (by omega) hw) iX10_isNode rfl k_323 k_325 k_2 rfl h1 (by omega) (by decide) (by decide) rfl (Nat.le_of_ble_eq_true rfl) (fun r2 h1 hw => ?_)
  refine aw_if_eq (tgt := 20) dX10_may_5 (by decide) (fun z => ?_) (fun z => ?_)
  · have hw := hw.1 z
    refine aw_iconst (v := (-1)) dX10_may_20 (by decide) ?_
    refine aw_sub (lv' := []) [] rfl ?_
    exact abX10_may_21 l G d hG hd _ _ hw
  · have hw := hw.2 z
    refine aw_aload_n 0 dX10_may_8 rfl rfl ?_
    obtain ⟨fs4, r3, h1, h2, hw⟩ := hw
    refine aw_getf (k := 1) dX10_may_9 clX10 (by decide) k_211 (Or.inl rfl) h1 h2 ?_
    refine aw_iload_n 1 dX10_may_12 rfl rfl ?_
    obtain ⟨_, _, r5, h1, h2, h3, hw⟩ := hw
    refine aw_aR dX10_may_13 (by decide) h1 h2 h3 ?_
    obtain ⟨ci8, fs7, r6, hc, h1, h2, hw⟩ := hw
    refine aw_getN (k := 4) dX10_may_14 hc (by decide) k_291 h1 h2 ?_
    refine aw_goto (tgt := 21) dX10_may_17 (by decide) ?_
    refine aw_sub (lv' := []) [] rfl ?_
    exact abX10_may_21 l G d hG hd _ _ hw
-- X10_ahead
def wbX10_ahead_32 (s0 : Int32) (h : aH) (Q : Int32 → aH → Prop) : Prop :=
  Q s0 h
def wbX10_ahead_31 (h : aH) (Q : Int32 → aH → Prop) : Prop :=
  wbX10_ahead_32 ((-1)) h Q
def wX10_ahead (h : aH) (v0 : Nat) (v1 : Int32) (v2 : Int32) (Q : Int32 → aH → Prop) : Prop :=
  isO h v0 8 (wX10_isNode h v0 v1 (fun r2 h1 => (r2 = 0 → wbX10_ahead_31 h1 Q) ∧ (¬ r2 = 0 → wX10_isSlot h1 v2 (fun r4 h3 => (r4 = 0 → wbX10_ahead_31 h3 Q) ∧ (¬ r4 = 0 → rR h3 v0 8 1 (fun r5 => aR h3 3 r5 v1 (fun r7 => rRN h3 r7 2 (fun r8 => isO h3 r8 5 (wX7_of h3 r8 v2 (fun r11 h10 => wbX10_ahead_32 r11 h10 Q))))))))))
set_option maxRecDepth 100000 in
theorem abX10_ahead_32 (l : Launch) (G : aG) (d : Nat) (hG : a_GT G) (hd : 2 ≤ d) {Q : Int32 → aH → Prop} (s0 : Int32) (h : aH) (hw : wbX10_ahead_32 s0 h Q) : AW l G d 0 0 mX10_ahead (qI Q) 32 [] [.int s0] h := by
  unfold wbX10_ahead_32 at hw
  exact aw_iret dX10_ahead_32 rfl rfl ⟨_, rfl, hw⟩
set_option maxRecDepth 100000 in
theorem abX10_ahead_31 (l : Launch) (G : aG) (d : Nat) (hG : a_GT G) (hd : 2 ≤ d) {Q : Int32 → aH → Prop} (h : aH) (hw : wbX10_ahead_31  h Q) : AW l G d 0 0 mX10_ahead (qI Q) 31 [] [] h := by
  unfold wbX10_ahead_31 at hw
  refine aw_iconst (v := (-1)) dX10_ahead_31 (by decide) ?_
  exact abX10_ahead_32 l G d hG hd _ _ hw
set_option maxRecDepth 100000 in
theorem acX10_ahead (l : Launch) (G : aG) (d : Nat) (hG : a_GT G) (hd : 2 ≤ d) {Q : Int32 → aH → Prop} {h : aH} {v0 : Nat} {v1 : Int32} {v2 : Int32} (hw : wX10_ahead h v0 v1 v2 Q) : AC l G d 0 0 mX10_ahead [.ref v0, .int v1, .int v2] h (qI Q) := by
  refine ac_of iX10_ahead (Nat.le_of_ble_eq_true rfl) ?_
  show AW l G d 0 0 mX10_ahead (qI Q) 0 [(0, .ref v0), (1, .int v1), (2, .int v2)] [] h
  unfold wX10_ahead at hw
  refine aw_aload_n 0 dX10_ahead_0 rfl rfl ?_
  refine aw_iload_n 1 dX10_ahead_1 rfl rfl ?_
  obtain ⟨_, h1, hw⟩ := hw
  refine aw_virtI (As := [.int v1]) (rest := []) dX10_ahead_2 (acX10_isNode l G (d - 1) hG (by omega) hw) iX10_isNode rfl k_323 k_325 k_2 rfl h1 (by omega) (by decide) (by decide) rfl (Nat.le_of_ble_eq_true rfl) (fun r2 h1 hw => ?_)
  refine aw_if_eq (tgt := 31) dX10_ahead_5 (by decide) (fun z => ?_) (fun z => ?_)
  · have hw := hw.1 z
    refine aw_sub (lv' := []) [] rfl ?_
    exact abX10_ahead_31 l G d hG hd _ hw
  · have hw := hw.2 z
    refine aw_iload_n 2 dX10_ahead_8 rfl rfl ?_
    refine aw_staticI (As := [.int v2]) (rest := []) dX10_ahead_9 (acX10_isSlot l G (d - 1) hG (by omega) hw) iX10_isSlot rfl k_358 k_359 (by omega) (by decide) (by decide) rfl (Nat.le_of_ble_eq_true rfl) (fun r4 h3 hw => ?_)
    refine aw_if_eq (tgt := 31) dX10_ahead_12 (by decide) (fun z => ?_) (fun z => ?_)
    · have hw := hw.1 z
      refine aw_sub (lv' := []) [] rfl ?_
      exact abX10_ahead_31 l G d hG hd _ hw
    · have hw := hw.2 z
      refine aw_aload_n 0 dX10_ahead_15 rfl rfl ?_
      obtain ⟨fs6, r5, h1, h2, hw⟩ := hw
      refine aw_getf (k := 1) dX10_ahead_16 clX10 (by decide) k_211 (Or.inl rfl) h1 h2 ?_
      refine aw_iload_n 1 dX10_ahead_19 rfl rfl ?_
      obtain ⟨_, _, r7, h1, h2, h3, hw⟩ := hw
      refine aw_aR dX10_ahead_20 (by decide) h1 h2 h3 ?_
      obtain ⟨ci12, fs9, r8, hc, h1, h2, hw⟩ := hw
      refine aw_getN (k := 2) dX10_ahead_21 hc (by decide) k_277 h1 h2 ?_
      refine aw_iload_n 2 dX10_ahead_24 rfl rfl ?_
      obtain ⟨_, h1, hw⟩ := hw
      refine aw_virtI (As := [.int v2]) (rest := []) dX10_ahead_25 (acX7_of l G (d - 1) hG (by omega) hw) iX7_of rfl k_710 k_711 k_712 rfl h1 (by omega) (by decide) (by decide) rfl (Nat.le_of_ble_eq_true rfl) (fun r11 h10 hw => ?_)
      refine aw_goto (tgt := 32) dX10_ahead_28 (by decide) ?_
      refine aw_sub (lv' := []) [] rfl ?_
      exact abX10_ahead_32 l G d hG hd _ _ hw
-- X10_guarded
def wbX10_guarded_17 (h : aH) (Q : Int32 → aH → Prop) : Prop :=
  Q ((-1)) h
def wbX10_guarded_56 (s0 : Int32) (h : aH) (Q : Int32 → aH → Prop) : Prop :=
  Q s0 h
def wX10_guarded (h : aH) (v0 : Nat) (v1 : Int32) (v2 : Int32) (Q : Int32 → aH → Prop) : Prop :=
  isO h v0 8 (wX10_isNode h v0 v1 (fun r2 h1 => (r2 = 0 → wbX10_guarded_17 h1 Q) ∧ (¬ r2 = 0 → (v2 < 0 → wbX10_guarded_17 h1 Q) ∧ (¬ v2 < 0 → (v2 ≤ 1 → rR h1 v0 8 1 (fun r3 => aR h1 3 r3 v1 (fun r5 => isN h1 r5 (fun ci => ∀ r6 : Int32, r6 = (if ci = 3 then 1 else 0) → (r6 = 0 → Q ((-1)) h1) ∧ (¬ r6 = 0 → isO h1 r5 3 ((¬ v2 = 0 → rI h1 r5 3 12 (fun r7 => wbX10_guarded_56 r7 h1 Q)) ∧ (v2 = 0 → isO h1 r5 3 (wX3_vainFailures h1 r5 (fun r10 h9 => wbX10_guarded_56 r10 h9 Q))))))))) ∧ (¬ v2 ≤ 1 → wbX10_guarded_17 h1 Q)))))
set_option maxRecDepth 100000 in
theorem abX10_guarded_17 (l : Launch) (G : aG) (d : Nat) (hG : a_GT G) (hd : 4 ≤ d) {Q : Int32 → aH → Prop} (h : aH) (hw : wbX10_guarded_17  h Q) : AW l G d 0 0 mX10_guarded (qI Q) 17 [] [] h := by
  unfold wbX10_guarded_17 at hw
  refine aw_iconst (v := (-1)) dX10_guarded_17 (by decide) ?_
  exact aw_iret dX10_guarded_18 rfl rfl ⟨_, rfl, hw⟩
set_option maxRecDepth 100000 in
theorem abX10_guarded_56 (l : Launch) (G : aG) (d : Nat) (hG : a_GT G) (hd : 4 ≤ d) {Q : Int32 → aH → Prop} (s0 : Int32) (h : aH) (hw : wbX10_guarded_56 s0 h Q) : AW l G d 0 0 mX10_guarded (qI Q) 56 [] [.int s0] h := by
  unfold wbX10_guarded_56 at hw
  exact aw_iret dX10_guarded_56 rfl rfl ⟨_, rfl, hw⟩
set_option maxRecDepth 100000 in
theorem acX10_guarded (l : Launch) (G : aG) (d : Nat) (hG : a_GT G) (hd : 4 ≤ d) {Q : Int32 → aH → Prop} {h : aH} {v0 : Nat} {v1 : Int32} {v2 : Int32} (hw : wX10_guarded h v0 v1 v2 Q) : AC l G d 0 0 mX10_guarded [.ref v0, .int v1, .int v2] h (qI Q) := by
  refine ac_of iX10_guarded (Nat.le_of_ble_eq_true rfl) ?_
  show AW l G d 0 0 mX10_guarded (qI Q) 0 [(0, .ref v0), (1, .int v1), (2, .int v2)] [] h
  unfold wX10_guarded at hw
  refine aw_aload_n 0 dX10_guarded_0 rfl rfl ?_
  refine aw_iload_n 1 dX10_guarded_1 rfl rfl ?_
  obtain ⟨_, h1, hw⟩ := hw
  refine aw_virtI (As := [.int v1]) (rest := []) dX10_guarded_2 (acX10_isNode l G (d - 1) hG (by omega) hw) iX10_isNode rfl k_323 k_325 k_2 rfl h1 (by omega) (by decide) (by decide) rfl (Nat.le_of_ble_eq_true rfl) (fun r2 h1 hw => ?_)
  refine aw_if_eq (tgt := 17) dX10_guarded_5 (by decide) (fun z => ?_) (fun z => ?_)
  · have hw := hw.1 z
    refine aw_sub (lv' := []) [] rfl ?_
    exact abX10_guarded_17 l G d hG hd _ hw
  · have hw := hw.2 z
    refine aw_iload_n 2 dX10_guarded_8 rfl rfl ?_
    refine aw_if_lt (tgt := 17) dX10_guarded_9 (by decide) (fun z => ?_) (fun z => ?_)
    · have hw := hw.1 z
      refine aw_sub (lv' := []) [] rfl ?_
      exact abX10_guarded_17 l G d hG hd _ hw
    · have hw := hw.2 z
      refine aw_iload_n 2 dX10_guarded_12 rfl rfl ?_
      refine aw_iconst (v := 1) dX10_guarded_13 (by decide) ?_
      refine aw_icmp_le (tgt := 19) dX10_guarded_14 (by decide) (fun z => ?_) (fun z => ?_)
      · have hw := hw.1 z
        refine aw_aload_n 0 dX10_guarded_19 rfl rfl ?_
        obtain ⟨fs4, r3, h1, h2, hw⟩ := hw
        refine aw_getf (k := 1) dX10_guarded_20 clX10 (by decide) k_211 (Or.inl rfl) h1 h2 ?_
        refine aw_iload_n 1 dX10_guarded_23 rfl rfl ?_
        obtain ⟨_, _, r5, h1, h2, h3, hw⟩ := hw
        refine aw_aR dX10_guarded_24 (by decide) h1 h2 h3 ?_
        refine aw_astore (lv' := [(4, .ref r5), (0, .ref v0), (1, .int v1), (2, .int v2)]) dX10_guarded_25 (by decide) rfl ?_
        refine aw_aload 0 dX10_guarded_27 rfl ?_
        obtain ⟨ci, _, h1, h2, hw⟩ := hw
        refine aw_instG dX10_guarded_29 k_398 h1 h2 ?_
        have hw := hw _ rfl
        generalize (if ci = 3 then (1 : Int32) else 0) = r6 at hw ⊢
        refine aw_if_eq (tgt := 57) dX10_guarded_32 (by decide) (fun z => ?_) (fun z => ?_)
        · have hw := hw.1 z
          refine aw_iconst (v := (-1)) dX10_guarded_57 (by decide) ?_
          exact aw_iret dX10_guarded_58 rfl rfl ⟨_, rfl, hw⟩
        · have hw := hw.2 z
          refine aw_aload 0 dX10_guarded_35 rfl ?_
          obtain ⟨_, h1, hw⟩ := hw
          refine aw_cast dX10_guarded_37 k_398 (by decide +kernel) rfl h1 ?_
          refine aw_astore_n (lv' := [(3, .ref r5), (4, .ref r5), (0, .ref v0), (1, .int v1), (2, .int v2)]) dX10_guarded_40 rfl (by decide) rfl ?_
          refine aw_iload_n 4 dX10_guarded_41 rfl rfl ?_
          refine aw_if_ne (tgt := 52) dX10_guarded_42 (by decide) (fun z => ?_) (fun z => ?_)
          · have hw := hw.1 z
            refine aw_aload_n 0 dX10_guarded_52 rfl rfl ?_
            obtain ⟨fs8, r7, h1, h2, hw⟩ := hw
            refine aw_getfN (k := 12) (host := "ThrowReports") dX10_guarded_53 clX3 (by decide) (by decide +kernel) (Or.inl rfl) h1 h2 ?_
            refine aw_sub (lv' := []) [] rfl ?_
            exact abX10_guarded_56 l G d hG hd _ _ hw
          · have hw := hw.2 z
            refine aw_aload_n 0 dX10_guarded_45 rfl rfl ?_
            obtain ⟨_, h1, hw⟩ := hw
            refine aw_virtI (As := []) (rest := []) dX10_guarded_46 (acX3_vainFailures l G (d - 1) hG (by omega) hw) iX3_vainFailures rfl k_934 k_935 k_936 rfl h1 (by omega) (by decide) (by decide) rfl (Nat.le_of_ble_eq_true rfl) (fun r10 h9 hw => ?_)
            refine aw_goto (tgt := 56) dX10_guarded_49 (by decide) ?_
            refine aw_sub (lv' := []) [] rfl ?_
            exact abX10_guarded_56 l G d hG hd _ _ hw
      · have hw := hw.2 z
        refine aw_sub (lv' := []) [] rfl ?_
        exact abX10_guarded_17 l G d hG hd _ hw
-- X11_init
def wbX11_init_216 (v0 : Nat) (h : aH) (Q : aH → Prop) : Prop :=
  ∀ (q2 : Nat) (h1 : aH), q2 = h.1 → h1 = a_nw h (.inl (0, 8856, .inl (fun _ => 0))) → wF h1 v0 9 36 (.ref q2) (fun h3 => ∀ (q6 : Nat) (h5 : aH), q6 = h3.1 → h5 = a_nw h3 (.inl (0, 8856, .inl (fun _ => 0))) → wF h5 v0 9 37 (.ref q6) (fun h7 => ∀ (q10 : Nat) (h9 : aH), q10 = h7.1 → h9 = a_nw h7 (.inl (0, 984, .inl (fun _ => 0))) → wF h9 v0 9 38 (.ref q10) (fun h11 => ∀ (q14 : Nat) (h13 : aH), q14 = h11.1 → h13 = a_nw h11 (.inl (0, 12, .inl (fun _ => 0))) → wF h13 v0 9 39 (.ref q14) (fun h15 => Q h15))))
def wbX11_init_175 (v0 : Nat) (h : aH) (Q : aH → Prop) : Prop :=
  ∀ (q18 : Nat) (h17 : aH), q18 = h.1 → h17 = a_nw h (.inl (2, 80, .inl (fun _ => 0))) → wF h17 v0 9 31 (.ref q18) (fun h19 => ∀ (q22 : Nat) (h21 : aH), q22 = h19.1 → h21 = a_nw h19 (.inl (0, 80, .inl (fun _ => 0))) → wF h21 v0 9 32 (.ref q22) (fun h23 => ∀ (q26 : Nat) (h25 : aH), q26 = h23.1 → h25 = a_nw h23 (.inl (0, 960, .inl (fun _ => 0))) → wF h25 v0 9 33 (.ref q26) (fun h27 => ∀ (q30 : Nat) (h29 : aH), q30 = h27.1 → h29 = a_nw h27 (.inl (0, 80, .inl (fun _ => 0))) → wF h29 v0 9 34 (.ref q30) (fun h31 => ∀ (q34 : Nat) (h33 : aH), q34 = h31.1 → h33 = a_nw h31 (.inl (0, 80, .inl (fun _ => 0))) → wF h33 v0 9 35 (.ref q34) (fun h35 => wbX11_init_216 v0 h35 Q)))))
def wbX11_init_135 (v0 : Nat) (h : aH) (Q : aH → Prop) : Prop :=
  ∀ (q38 : Nat) (h37 : aH), q38 = h.1 → h37 = a_nw h (.inl (0, 82, .inl (fun _ => 0))) → wF h37 v0 9 24 (.ref q38) (fun h39 => ∀ (q42 : Nat) (h41 : aH), q42 = h39.1 → h41 = a_nw h39 (.inl (0, 82, .inl (fun _ => 0))) → wF h41 v0 9 25 (.ref q42) (fun h43 => ∀ (q46 : Nat) (h45 : aH), q46 = h43.1 → h45 = a_nw h43 (.inl (0, 82, .inl (fun _ => 0))) → wF h45 v0 9 26 (.ref q46) (fun h47 => ∀ (q50 : Nat) (h49 : aH), q50 = h47.1 → h49 = a_nw h47 (.inl (0, 12, .inl (fun _ => 0))) → wF h49 v0 9 29 (.ref q50) (fun h51 => ∀ (q54 : Nat) (h53 : aH), q54 = h51.1 → h53 = a_nw h51 (.inl (2, 12, .inl (fun _ => 0))) → wF h53 v0 9 30 (.ref q54) (fun h55 => wbX11_init_175 v0 h55 Q)))))
def wbX11_init_89 (v0 : Nat) (h : aH) (Q : aH → Prop) : Prop :=
  ∀ (q58 : Nat) (h57 : aH), q58 = h.1 → h57 = a_nw h (.inl (0, 80, .inl (fun _ => 0))) → wF h57 v0 9 13 (.ref q58) (fun h59 => ∀ (q62 : Nat) (h61 : aH), q62 = h59.1 → h61 = a_nw h59 (.inl (0, 80, .inl (fun _ => 0))) → wF h61 v0 9 14 (.ref q62) (fun h63 => ∀ (q66 : Nat) (h65 : aH), q66 = h63.1 → h65 = a_nw h63 (.inl (0, 80, .inl (fun _ => 0))) → wF h65 v0 9 15 (.ref q66) (fun h67 => ∀ (q70 : Nat) (h69 : aH), q70 = h67.1 → h69 = a_nw h67 (.inl (0, 80, .inl (fun _ => 0))) → wF h69 v0 9 16 (.ref q70) (fun h71 => wF h71 v0 9 22 (.int (-1)) (fun h73 => ∀ (q76 : Nat) (h75 : aH), q76 = h73.1 → h75 = a_nw h73 (.inl (1, 3000, .inr (.inl (fun _ => 0)))) → wF h75 v0 9 23 (.ref q76) (fun h77 => wbX11_init_135 v0 h77 Q))))))
def wbX11_init_49 (v0 : Nat) (h : aH) (Q : aH → Prop) : Prop :=
  ∀ (q80 : Nat) (h79 : aH), q80 = h.1 → h79 = a_nw h (.inl (0, 12, .inl (fun _ => 0))) → wF h79 v0 9 7 (.ref q80) (fun h81 => ∀ (q84 : Nat) (h83 : aH), q84 = h81.1 → h83 = a_nw h81 (.inl (1, 8, .inr (.inl (fun _ => 0)))) → wF h83 v0 9 8 (.ref q84) (fun h85 => ∀ (q88 : Nat) (h87 : aH), q88 = h85.1 → h87 = a_nw h85 (.inl (0, 80, .inl (fun _ => 0))) → wF h87 v0 9 10 (.ref q88) (fun h89 => ∀ (q92 : Nat) (h91 : aH), q92 = h89.1 → h91 = a_nw h89 (.inl (0, 80, .inl (fun _ => 0))) → wF h91 v0 9 11 (.ref q92) (fun h93 => ∀ (q96 : Nat) (h95 : aH), q96 = h93.1 → h95 = a_nw h93 (.inl (0, 80, .inl (fun _ => 0))) → wF h95 v0 9 12 (.ref q96) (fun h97 => wbX11_init_89 v0 h97 Q)))))
def wX11_init (h : aH) (v0 : Nat) (Q : aH → Prop) : Prop :=
  ∀ (q100 : Nat) (h99 : aH), q100 = h.1 → h99 = a_nw h (.inl (0, 201, .inl (fun _ => 0))) → wF h99 v0 9 2 (.ref q100) (fun h101 => ∀ (q104 : Nat) (h103 : aH), q104 = h101.1 → h103 = a_nw h101 (.inl (0, 201, .inl (fun _ => 0))) → wF h103 v0 9 3 (.ref q104) (fun h105 => ∀ (q108 : Nat) (h107 : aH), q108 = h105.1 → h107 = a_nw h105 (.inl (0, 201, .inl (fun _ => 0))) → wF h107 v0 9 4 (.ref q108) (fun h109 => ∀ (q112 : Nat) (h111 : aH), q112 = h109.1 → h111 = a_nw h109 (.inl (0, 201, .inl (fun _ => 0))) → wF h111 v0 9 5 (.ref q112) (fun h113 => ∀ (q116 : Nat) (h115 : aH), q116 = h113.1 → h115 = a_nw h113 (.inl (1, 3000, .inr (.inl (fun _ => 0)))) → wF h115 v0 9 6 (.ref q116) (fun h117 => wbX11_init_49 v0 h117 Q)))))
set_option maxRecDepth 100000 in
theorem abX11_init_216 (l : Launch) (G : aG) (d : Nat) (hG : a_GT G) (hd : 1 ≤ d) {Q : aH → Prop} (v0 : Nat) (h : aH) (hw : wbX11_init_216 v0 h Q) : AW l G d 4 18708 mX11_init (qV Q) 216 [(0, .ref v0)] [] h := by
  unfold wbX11_init_216 at hw
  refine aw_aload_n 0 dX11_init_216 rfl rfl ?_
  refine aw_sipush (v := 8856) dX11_init_217 (by decide) ?_
  refine aw_newa (N := 8856) (a0 := (8856, .inl (fun _ => 0))) 0 (by decide) dX11_init_220 rfl k_150 (a_z0 _) (by decide) (by decide) (by omega) (by omega) (by omega) ?_
  have hw := hw _ _ rfl rfl
  generalize a_nw _ _ = h1 at hw ⊢
  generalize h.1 = q2 at hw ⊢
  refine aw_bud (c1 := 3) (w1 := 9852) (Nat.le_refl _) (Nat.le_refl _) ?_
  obtain ⟨fs4, h1, h2, hw⟩ := hw
  refine aw_putF (k := 36) dX11_init_222 clX11 (by decide) k_984 (Or.inl rfl) rfl rfl rfl rfl rfl h1 h2 ?_
  generalize a_up _ _ _ = h3 at hw ⊢
  refine aw_aload_n 0 dX11_init_225 rfl rfl ?_
  refine aw_sipush (v := 8856) dX11_init_226 (by decide) ?_
  refine aw_newa (N := 8856) (a0 := (8856, .inl (fun _ => 0))) 0 (by decide) dX11_init_229 rfl k_150 (a_z0 _) (by decide) (by decide) (by omega) (by omega) (by omega) ?_
  have hw := hw _ _ rfl rfl
  generalize a_nw _ _ = h5 at hw ⊢
  generalize h3.1 = q6 at hw ⊢
  refine aw_bud (c1 := 2) (w1 := 996) (Nat.le_refl _) (Nat.le_refl _) ?_
  obtain ⟨fs8, h1, h2, hw⟩ := hw
  refine aw_putF (k := 37) dX11_init_231 clX11 (by decide) k_985 (Or.inl rfl) rfl rfl rfl rfl rfl h1 h2 ?_
  generalize a_up _ _ _ = h7 at hw ⊢
  refine aw_aload_n 0 dX11_init_234 rfl rfl ?_
  refine aw_sipush (v := 984) dX11_init_235 (by decide) ?_
  refine aw_newa (N := 984) (a0 := (984, .inl (fun _ => 0))) 0 (by decide) dX11_init_238 rfl k_150 (a_z0 _) (by decide) (by decide) (by omega) (by omega) (by omega) ?_
  have hw := hw _ _ rfl rfl
  generalize a_nw _ _ = h9 at hw ⊢
  generalize h7.1 = q10 at hw ⊢
  refine aw_bud (c1 := 1) (w1 := 12) (Nat.le_refl _) (Nat.le_refl _) ?_
  obtain ⟨fs12, h1, h2, hw⟩ := hw
  refine aw_putF (k := 38) dX11_init_240 clX11 (by decide) k_986 (Or.inl rfl) rfl rfl rfl rfl rfl h1 h2 ?_
  generalize a_up _ _ _ = h11 at hw ⊢
  refine aw_aload_n 0 dX11_init_243 rfl rfl ?_
  refine aw_bipush (v := 12) dX11_init_244 (by decide) ?_
  refine aw_newa (N := 12) (a0 := (12, .inl (fun _ => 0))) 0 (by decide) dX11_init_246 rfl k_150 (a_z0 _) (by decide) (by decide) (by omega) (by omega) (by omega) ?_
  have hw := hw _ _ rfl rfl
  generalize a_nw _ _ = h13 at hw ⊢
  generalize h11.1 = q14 at hw ⊢
  refine aw_bud (c1 := 0) (w1 := 0) (Nat.le_refl _) (Nat.le_refl _) ?_
  obtain ⟨fs16, h1, h2, hw⟩ := hw
  refine aw_putF (k := 39) dX11_init_248 clX11 (by decide) k_987 (Or.inl rfl) rfl rfl rfl rfl rfl h1 h2 ?_
  generalize a_up _ _ _ = h15 at hw ⊢
  exact aw_vret dX11_init_251 rfl ⟨rfl, hw⟩
set_option maxRecDepth 100000 in
theorem abX11_init_175 (l : Launch) (G : aG) (d : Nat) (hG : a_GT G) (hd : 1 ≤ d) {Q : aH → Prop} (v0 : Nat) (h : aH) (hw : wbX11_init_175 v0 h Q) : AW l G d 9 19988 mX11_init (qV Q) 175 [(0, .ref v0)] [] h := by
  unfold wbX11_init_175 at hw
  refine aw_aload_n 0 dX11_init_175 rfl rfl ?_
  refine aw_bipush (v := 80) dX11_init_176 (by decide) ?_
  refine aw_newa (N := 80) (a0 := (80, .inl (fun _ => 0))) 2 (by decide) dX11_init_178 rfl k_1069 (a_z2 _) (by decide) (by decide) (by omega) (by omega) (by omega) ?_
  have hw := hw _ _ rfl rfl
  generalize a_nw _ _ = h17 at hw ⊢
  generalize h.1 = q18 at hw ⊢
  refine aw_bud (c1 := 8) (w1 := 19908) (Nat.le_refl _) (Nat.le_refl _) ?_
  obtain ⟨fs20, h1, h2, hw⟩ := hw
  refine aw_putF (k := 31) dX11_init_180 clX11 (by decide) k_979 (Or.inl rfl) rfl rfl rfl rfl rfl h1 h2 ?_
  generalize a_up _ _ _ = h19 at hw ⊢
  refine aw_aload_n 0 dX11_init_183 rfl rfl ?_
  refine aw_bipush (v := 80) dX11_init_184 (by decide) ?_
  refine aw_newa (N := 80) (a0 := (80, .inl (fun _ => 0))) 0 (by decide) dX11_init_186 rfl k_150 (a_z0 _) (by decide) (by decide) (by omega) (by omega) (by omega) ?_
  have hw := hw _ _ rfl rfl
  generalize a_nw _ _ = h21 at hw ⊢
  generalize h19.1 = q22 at hw ⊢
  refine aw_bud (c1 := 7) (w1 := 19828) (Nat.le_refl _) (Nat.le_refl _) ?_
  obtain ⟨fs24, h1, h2, hw⟩ := hw
  refine aw_putF (k := 32) dX11_init_188 clX11 (by decide) k_980 (Or.inl rfl) rfl rfl rfl rfl rfl h1 h2 ?_
  generalize a_up _ _ _ = h23 at hw ⊢
  refine aw_aload_n 0 dX11_init_191 rfl rfl ?_
  refine aw_sipush (v := 960) dX11_init_192 (by decide) ?_
  refine aw_newa (N := 960) (a0 := (960, .inl (fun _ => 0))) 0 (by decide) dX11_init_195 rfl k_150 (a_z0 _) (by decide) (by decide) (by omega) (by omega) (by omega) ?_
  have hw := hw _ _ rfl rfl
  generalize a_nw _ _ = h25 at hw ⊢
  generalize h23.1 = q26 at hw ⊢
  refine aw_bud (c1 := 6) (w1 := 18868) (Nat.le_refl _) (Nat.le_refl _) ?_
  obtain ⟨fs28, h1, h2, hw⟩ := hw
  refine aw_putF (k := 33) dX11_init_197 clX11 (by decide) k_981 (Or.inl rfl) rfl rfl rfl rfl rfl h1 h2 ?_
  generalize a_up _ _ _ = h27 at hw ⊢
  refine aw_aload_n 0 dX11_init_200 rfl rfl ?_
  refine aw_bipush (v := 80) dX11_init_201 (by decide) ?_
  refine aw_newa (N := 80) (a0 := (80, .inl (fun _ => 0))) 0 (by decide) dX11_init_203 rfl k_150 (a_z0 _) (by decide) (by decide) (by omega) (by omega) (by omega) ?_
  have hw := hw _ _ rfl rfl
  generalize a_nw _ _ = h29 at hw ⊢
  generalize h27.1 = q30 at hw ⊢
  refine aw_bud (c1 := 5) (w1 := 18788) (Nat.le_refl _) (Nat.le_refl _) ?_
  obtain ⟨fs32, h1, h2, hw⟩ := hw
  refine aw_putF (k := 34) dX11_init_205 clX11 (by decide) k_982 (Or.inl rfl) rfl rfl rfl rfl rfl h1 h2 ?_
  generalize a_up _ _ _ = h31 at hw ⊢
  refine aw_aload_n 0 dX11_init_208 rfl rfl ?_
  refine aw_bipush (v := 80) dX11_init_209 (by decide) ?_
  refine aw_newa (N := 80) (a0 := (80, .inl (fun _ => 0))) 0 (by decide) dX11_init_211 rfl k_150 (a_z0 _) (by decide) (by decide) (by omega) (by omega) (by omega) ?_
  have hw := hw _ _ rfl rfl
  generalize a_nw _ _ = h33 at hw ⊢
  generalize h31.1 = q34 at hw ⊢
  refine aw_bud (c1 := 4) (w1 := 18708) (Nat.le_refl _) (Nat.le_refl _) ?_
  obtain ⟨fs36, h1, h2, hw⟩ := hw
  refine aw_putF (k := 35) dX11_init_213 clX11 (by decide) k_983 (Or.inl rfl) rfl rfl rfl rfl rfl h1 h2 ?_
  generalize a_up _ _ _ = h35 at hw ⊢
  exact abX11_init_216 l G d hG hd _ _ hw
set_option maxRecDepth 100000 in
theorem abX11_init_135 (l : Launch) (G : aG) (d : Nat) (hG : a_GT G) (hd : 1 ≤ d) {Q : aH → Prop} (v0 : Nat) (h : aH) (hw : wbX11_init_135 v0 h Q) : AW l G d 14 20258 mX11_init (qV Q) 135 [(0, .ref v0)] [] h := by
  unfold wbX11_init_135 at hw
  refine aw_aload_n 0 dX11_init_135 rfl rfl ?_
  refine aw_bipush (v := 82) dX11_init_136 (by decide) ?_
  refine aw_newa (N := 82) (a0 := (82, .inl (fun _ => 0))) 0 (by decide) dX11_init_138 rfl k_150 (a_z0 _) (by decide) (by decide) (by omega) (by omega) (by omega) ?_
  have hw := hw _ _ rfl rfl
  generalize a_nw _ _ = h37 at hw ⊢
  generalize h.1 = q38 at hw ⊢
  refine aw_bud (c1 := 13) (w1 := 20176) (Nat.le_refl _) (Nat.le_refl _) ?_
  obtain ⟨fs40, h1, h2, hw⟩ := hw
  refine aw_putF (k := 24) dX11_init_140 clX11 (by decide) k_972 (Or.inl rfl) rfl rfl rfl rfl rfl h1 h2 ?_
  generalize a_up _ _ _ = h39 at hw ⊢
  refine aw_aload_n 0 dX11_init_143 rfl rfl ?_
  refine aw_bipush (v := 82) dX11_init_144 (by decide) ?_
  refine aw_newa (N := 82) (a0 := (82, .inl (fun _ => 0))) 0 (by decide) dX11_init_146 rfl k_150 (a_z0 _) (by decide) (by decide) (by omega) (by omega) (by omega) ?_
  have hw := hw _ _ rfl rfl
  generalize a_nw _ _ = h41 at hw ⊢
  generalize h39.1 = q42 at hw ⊢
  refine aw_bud (c1 := 12) (w1 := 20094) (Nat.le_refl _) (Nat.le_refl _) ?_
  obtain ⟨fs44, h1, h2, hw⟩ := hw
  refine aw_putF (k := 25) dX11_init_148 clX11 (by decide) k_973 (Or.inl rfl) rfl rfl rfl rfl rfl h1 h2 ?_
  generalize a_up _ _ _ = h43 at hw ⊢
  refine aw_aload_n 0 dX11_init_151 rfl rfl ?_
  refine aw_bipush (v := 82) dX11_init_152 (by decide) ?_
  refine aw_newa (N := 82) (a0 := (82, .inl (fun _ => 0))) 0 (by decide) dX11_init_154 rfl k_150 (a_z0 _) (by decide) (by decide) (by omega) (by omega) (by omega) ?_
  have hw := hw _ _ rfl rfl
  generalize a_nw _ _ = h45 at hw ⊢
  generalize h43.1 = q46 at hw ⊢
  refine aw_bud (c1 := 11) (w1 := 20012) (Nat.le_refl _) (Nat.le_refl _) ?_
  obtain ⟨fs48, h1, h2, hw⟩ := hw
  refine aw_putF (k := 26) dX11_init_156 clX11 (by decide) k_974 (Or.inl rfl) rfl rfl rfl rfl rfl h1 h2 ?_
  generalize a_up _ _ _ = h47 at hw ⊢
  refine aw_aload_n 0 dX11_init_159 rfl rfl ?_
  refine aw_bipush (v := 12) dX11_init_160 (by decide) ?_
  refine aw_newa (N := 12) (a0 := (12, .inl (fun _ => 0))) 0 (by decide) dX11_init_162 rfl k_150 (a_z0 _) (by decide) (by decide) (by omega) (by omega) (by omega) ?_
  have hw := hw _ _ rfl rfl
  generalize a_nw _ _ = h49 at hw ⊢
  generalize h47.1 = q50 at hw ⊢
  refine aw_bud (c1 := 10) (w1 := 20000) (Nat.le_refl _) (Nat.le_refl _) ?_
  obtain ⟨fs52, h1, h2, hw⟩ := hw
  refine aw_putF (k := 29) dX11_init_164 clX11 (by decide) k_977 (Or.inl rfl) rfl rfl rfl rfl rfl h1 h2 ?_
  generalize a_up _ _ _ = h51 at hw ⊢
  refine aw_aload_n 0 dX11_init_167 rfl rfl ?_
  refine aw_bipush (v := 12) dX11_init_168 (by decide) ?_
  refine aw_newa (N := 12) (a0 := (12, .inl (fun _ => 0))) 2 (by decide) dX11_init_170 rfl k_1069 (a_z2 _) (by decide) (by decide) (by omega) (by omega) (by omega) ?_
  have hw := hw _ _ rfl rfl
  generalize a_nw _ _ = h53 at hw ⊢
  generalize h51.1 = q54 at hw ⊢
  refine aw_bud (c1 := 9) (w1 := 19988) (Nat.le_refl _) (Nat.le_refl _) ?_
  obtain ⟨fs56, h1, h2, hw⟩ := hw
  refine aw_putF (k := 30) dX11_init_172 clX11 (by decide) k_978 (Or.inl rfl) rfl rfl rfl rfl rfl h1 h2 ?_
  generalize a_up _ _ _ = h55 at hw ⊢
  exact abX11_init_175 l G d hG hd _ _ hw
set_option maxRecDepth 100000 in
theorem abX11_init_89 (l : Launch) (G : aG) (d : Nat) (hG : a_GT G) (hd : 1 ≤ d) {Q : aH → Prop} (v0 : Nat) (h : aH) (hw : wbX11_init_89 v0 h Q) : AW l G d 19 23578 mX11_init (qV Q) 89 [(0, .ref v0)] [] h := by
  unfold wbX11_init_89 at hw
  refine aw_aload_n 0 dX11_init_89 rfl rfl ?_
  refine aw_bipush (v := 80) dX11_init_90 (by decide) ?_
  refine aw_newa (N := 80) (a0 := (80, .inl (fun _ => 0))) 0 (by decide) dX11_init_92 rfl k_150 (a_z0 _) (by decide) (by decide) (by omega) (by omega) (by omega) ?_
  have hw := hw _ _ rfl rfl
  generalize a_nw _ _ = h57 at hw ⊢
  generalize h.1 = q58 at hw ⊢
  refine aw_bud (c1 := 18) (w1 := 23498) (Nat.le_refl _) (Nat.le_refl _) ?_
  obtain ⟨fs60, h1, h2, hw⟩ := hw
  refine aw_putF (k := 13) dX11_init_94 clX11 (by decide) k_961 (Or.inl rfl) rfl rfl rfl rfl rfl h1 h2 ?_
  generalize a_up _ _ _ = h59 at hw ⊢
  refine aw_aload_n 0 dX11_init_97 rfl rfl ?_
  refine aw_bipush (v := 80) dX11_init_98 (by decide) ?_
  refine aw_newa (N := 80) (a0 := (80, .inl (fun _ => 0))) 0 (by decide) dX11_init_100 rfl k_150 (a_z0 _) (by decide) (by decide) (by omega) (by omega) (by omega) ?_
  have hw := hw _ _ rfl rfl
  generalize a_nw _ _ = h61 at hw ⊢
  generalize h59.1 = q62 at hw ⊢
  refine aw_bud (c1 := 17) (w1 := 23418) (Nat.le_refl _) (Nat.le_refl _) ?_
  obtain ⟨fs64, h1, h2, hw⟩ := hw
  refine aw_putF (k := 14) dX11_init_102 clX11 (by decide) k_962 (Or.inl rfl) rfl rfl rfl rfl rfl h1 h2 ?_
  generalize a_up _ _ _ = h63 at hw ⊢
  refine aw_aload_n 0 dX11_init_105 rfl rfl ?_
  refine aw_bipush (v := 80) dX11_init_106 (by decide) ?_
  refine aw_newa (N := 80) (a0 := (80, .inl (fun _ => 0))) 0 (by decide) dX11_init_108 rfl k_150 (a_z0 _) (by decide) (by decide) (by omega) (by omega) (by omega) ?_
  have hw := hw _ _ rfl rfl
  generalize a_nw _ _ = h65 at hw ⊢
  generalize h63.1 = q66 at hw ⊢
  refine aw_bud (c1 := 16) (w1 := 23338) (Nat.le_refl _) (Nat.le_refl _) ?_
  obtain ⟨fs68, h1, h2, hw⟩ := hw
  refine aw_putF (k := 15) dX11_init_110 clX11 (by decide) k_963 (Or.inl rfl) rfl rfl rfl rfl rfl h1 h2 ?_
  generalize a_up _ _ _ = h67 at hw ⊢
  refine aw_aload_n 0 dX11_init_113 rfl rfl ?_
  refine aw_bipush (v := 80) dX11_init_114 (by decide) ?_
  refine aw_newa (N := 80) (a0 := (80, .inl (fun _ => 0))) 0 (by decide) dX11_init_116 rfl k_150 (a_z0 _) (by decide) (by decide) (by omega) (by omega) (by omega) ?_
  have hw := hw _ _ rfl rfl
  generalize a_nw _ _ = h69 at hw ⊢
  generalize h67.1 = q70 at hw ⊢
  refine aw_bud (c1 := 15) (w1 := 23258) (Nat.le_refl _) (Nat.le_refl _) ?_
  obtain ⟨fs72, h1, h2, hw⟩ := hw
  refine aw_putF (k := 16) dX11_init_118 clX11 (by decide) k_964 (Or.inl rfl) rfl rfl rfl rfl rfl h1 h2 ?_
  generalize a_up _ _ _ = h71 at hw ⊢
  refine aw_aload_n 0 dX11_init_121 rfl rfl ?_
  refine aw_iconst (v := (-1)) dX11_init_122 (by decide) ?_
  obtain ⟨fs74, h1, h2, hw⟩ := hw
  refine aw_putf (k := 22) dX11_init_123 clX11 (by decide) k_970 (Or.inl rfl) rfl rfl rfl h1 h2 ?_
  generalize a_up _ _ _ = h73 at hw ⊢
  refine aw_aload_n 0 dX11_init_126 rfl rfl ?_
  refine aw_sipush (v := 3000) dX11_init_127 (by decide) ?_
  refine aw_newa (N := 3000) (a0 := (3000, .inr (.inl (fun _ => 0)))) 1 (by decide) dX11_init_130 rfl k_151 (a_z1 _) (by decide) (by decide) (by omega) (by omega) (by omega) ?_
  have hw := hw _ _ rfl rfl
  generalize a_nw _ _ = h75 at hw ⊢
  generalize h73.1 = q76 at hw ⊢
  refine aw_bud (c1 := 14) (w1 := 20258) (Nat.le_refl _) (Nat.le_refl _) ?_
  obtain ⟨fs78, h1, h2, hw⟩ := hw
  refine aw_putF (k := 23) dX11_init_132 clX11 (by decide) k_971 (Or.inl rfl) rfl rfl rfl rfl rfl h1 h2 ?_
  generalize a_up _ _ _ = h77 at hw ⊢
  exact abX11_init_135 l G d hG hd _ _ hw
set_option maxRecDepth 100000 in
theorem abX11_init_49 (l : Launch) (G : aG) (d : Nat) (hG : a_GT G) (hd : 1 ≤ d) {Q : aH → Prop} (v0 : Nat) (h : aH) (hw : wbX11_init_49 v0 h Q) : AW l G d 24 23838 mX11_init (qV Q) 49 [(0, .ref v0)] [] h := by
  unfold wbX11_init_49 at hw
  refine aw_aload_n 0 dX11_init_49 rfl rfl ?_
  refine aw_bipush (v := 12) dX11_init_50 (by decide) ?_
  refine aw_newa (N := 12) (a0 := (12, .inl (fun _ => 0))) 0 (by decide) dX11_init_52 rfl k_150 (a_z0 _) (by decide) (by decide) (by omega) (by omega) (by omega) ?_
  have hw := hw _ _ rfl rfl
  generalize a_nw _ _ = h79 at hw ⊢
  generalize h.1 = q80 at hw ⊢
  refine aw_bud (c1 := 23) (w1 := 23826) (Nat.le_refl _) (Nat.le_refl _) ?_
  obtain ⟨fs82, h1, h2, hw⟩ := hw
  refine aw_putF (k := 7) dX11_init_54 clX11 (by decide) k_955 (Or.inl rfl) rfl rfl rfl rfl rfl h1 h2 ?_
  generalize a_up _ _ _ = h81 at hw ⊢
  refine aw_aload_n 0 dX11_init_57 rfl rfl ?_
  refine aw_bipush (v := 8) dX11_init_58 (by decide) ?_
  refine aw_newa (N := 8) (a0 := (8, .inr (.inl (fun _ => 0)))) 1 (by decide) dX11_init_60 rfl k_151 (a_z1 _) (by decide) (by decide) (by omega) (by omega) (by omega) ?_
  have hw := hw _ _ rfl rfl
  generalize a_nw _ _ = h83 at hw ⊢
  generalize h81.1 = q84 at hw ⊢
  refine aw_bud (c1 := 22) (w1 := 23818) (Nat.le_refl _) (Nat.le_refl _) ?_
  obtain ⟨fs86, h1, h2, hw⟩ := hw
  refine aw_putF (k := 8) dX11_init_62 clX11 (by decide) k_956 (Or.inl rfl) rfl rfl rfl rfl rfl h1 h2 ?_
  generalize a_up _ _ _ = h85 at hw ⊢
  refine aw_aload_n 0 dX11_init_65 rfl rfl ?_
  refine aw_bipush (v := 80) dX11_init_66 (by decide) ?_
  refine aw_newa (N := 80) (a0 := (80, .inl (fun _ => 0))) 0 (by decide) dX11_init_68 rfl k_150 (a_z0 _) (by decide) (by decide) (by omega) (by omega) (by omega) ?_
  have hw := hw _ _ rfl rfl
  generalize a_nw _ _ = h87 at hw ⊢
  generalize h85.1 = q88 at hw ⊢
  refine aw_bud (c1 := 21) (w1 := 23738) (Nat.le_refl _) (Nat.le_refl _) ?_
  obtain ⟨fs90, h1, h2, hw⟩ := hw
  refine aw_putF (k := 10) dX11_init_70 clX11 (by decide) k_958 (Or.inl rfl) rfl rfl rfl rfl rfl h1 h2 ?_
  generalize a_up _ _ _ = h89 at hw ⊢
  refine aw_aload_n 0 dX11_init_73 rfl rfl ?_
  refine aw_bipush (v := 80) dX11_init_74 (by decide) ?_
  refine aw_newa (N := 80) (a0 := (80, .inl (fun _ => 0))) 0 (by decide) dX11_init_76 rfl k_150 (a_z0 _) (by decide) (by decide) (by omega) (by omega) (by omega) ?_
  have hw := hw _ _ rfl rfl
  generalize a_nw _ _ = h91 at hw ⊢
  generalize h89.1 = q92 at hw ⊢
  refine aw_bud (c1 := 20) (w1 := 23658) (Nat.le_refl _) (Nat.le_refl _) ?_
  obtain ⟨fs94, h1, h2, hw⟩ := hw
  refine aw_putF (k := 11) dX11_init_78 clX11 (by decide) k_959 (Or.inl rfl) rfl rfl rfl rfl rfl h1 h2 ?_
  generalize a_up _ _ _ = h93 at hw ⊢
  refine aw_aload_n 0 dX11_init_81 rfl rfl ?_
  refine aw_bipush (v := 80) dX11_init_82 (by decide) ?_
  refine aw_newa (N := 80) (a0 := (80, .inl (fun _ => 0))) 0 (by decide) dX11_init_84 rfl k_150 (a_z0 _) (by decide) (by decide) (by omega) (by omega) (by omega) ?_
  have hw := hw _ _ rfl rfl
  generalize a_nw _ _ = h95 at hw ⊢
  generalize h93.1 = q96 at hw ⊢
  refine aw_bud (c1 := 19) (w1 := 23578) (Nat.le_refl _) (Nat.le_refl _) ?_
  obtain ⟨fs98, h1, h2, hw⟩ := hw
  refine aw_putF (k := 12) dX11_init_86 clX11 (by decide) k_960 (Or.inl rfl) rfl rfl rfl rfl rfl h1 h2 ?_
  generalize a_up _ _ _ = h97 at hw ⊢
  exact abX11_init_89 l G d hG hd _ _ hw
set_option maxRecDepth 100000 in
theorem acX11_init (l : Launch) (G : aG) (d : Nat) (hG : a_GT G) (hd : 1 ≤ d) {Q : aH → Prop} {h : aH} {v0 : Nat} (hw : wX11_init h v0 Q) : AC l G d 29 27642 mX11_init [.ref v0] h (qV Q) := by
  refine ac_of iX11_init (Nat.le_of_ble_eq_true rfl) ?_
  show AW l G d 29 27642 mX11_init (qV Q) 0 [(0, .ref v0)] [] h
  unfold wX11_init at hw
  refine aw_aload_n 0 dX11_init_0 rfl rfl ?_
  refine aw_obj dX11_init_1 k_947 k_115 k_116 (by omega) (Nat.le_of_ble_eq_true rfl) ?_
  refine aw_aload_n 0 dX11_init_4 rfl rfl ?_
  refine aw_sipush (v := 201) dX11_init_5 (by decide) ?_
  refine aw_newa (N := 201) (a0 := (201, .inl (fun _ => 0))) 0 (by decide) dX11_init_8 rfl k_150 (a_z0 _) (by decide) (by decide) (by omega) (by omega) (by omega) ?_
  have hw := hw _ _ rfl rfl
  generalize a_nw _ _ = h99 at hw ⊢
  generalize h.1 = q100 at hw ⊢
  refine aw_bud (c1 := 28) (w1 := 27441) (Nat.le_refl _) (Nat.le_refl _) ?_
  obtain ⟨fs102, h1, h2, hw⟩ := hw
  refine aw_putF (k := 2) dX11_init_10 clX11 (by decide) k_950 (Or.inl rfl) rfl rfl rfl rfl rfl h1 h2 ?_
  generalize a_up _ _ _ = h101 at hw ⊢
  refine aw_aload_n 0 dX11_init_13 rfl rfl ?_
  refine aw_sipush (v := 201) dX11_init_14 (by decide) ?_
  refine aw_newa (N := 201) (a0 := (201, .inl (fun _ => 0))) 0 (by decide) dX11_init_17 rfl k_150 (a_z0 _) (by decide) (by decide) (by omega) (by omega) (by omega) ?_
  have hw := hw _ _ rfl rfl
  generalize a_nw _ _ = h103 at hw ⊢
  generalize h101.1 = q104 at hw ⊢
  refine aw_bud (c1 := 27) (w1 := 27240) (Nat.le_refl _) (Nat.le_refl _) ?_
  obtain ⟨fs106, h1, h2, hw⟩ := hw
  refine aw_putF (k := 3) dX11_init_19 clX11 (by decide) k_951 (Or.inl rfl) rfl rfl rfl rfl rfl h1 h2 ?_
  generalize a_up _ _ _ = h105 at hw ⊢
  refine aw_aload_n 0 dX11_init_22 rfl rfl ?_
  refine aw_sipush (v := 201) dX11_init_23 (by decide) ?_
  refine aw_newa (N := 201) (a0 := (201, .inl (fun _ => 0))) 0 (by decide) dX11_init_26 rfl k_150 (a_z0 _) (by decide) (by decide) (by omega) (by omega) (by omega) ?_
  have hw := hw _ _ rfl rfl
  generalize a_nw _ _ = h107 at hw ⊢
  generalize h105.1 = q108 at hw ⊢
  refine aw_bud (c1 := 26) (w1 := 27039) (Nat.le_refl _) (Nat.le_refl _) ?_
  obtain ⟨fs110, h1, h2, hw⟩ := hw
  refine aw_putF (k := 4) dX11_init_28 clX11 (by decide) k_952 (Or.inl rfl) rfl rfl rfl rfl rfl h1 h2 ?_
  generalize a_up _ _ _ = h109 at hw ⊢
  refine aw_aload_n 0 dX11_init_31 rfl rfl ?_
  refine aw_sipush (v := 201) dX11_init_32 (by decide) ?_
  refine aw_newa (N := 201) (a0 := (201, .inl (fun _ => 0))) 0 (by decide) dX11_init_35 rfl k_150 (a_z0 _) (by decide) (by decide) (by omega) (by omega) (by omega) ?_
  have hw := hw _ _ rfl rfl
  generalize a_nw _ _ = h111 at hw ⊢
  generalize h109.1 = q112 at hw ⊢
  refine aw_bud (c1 := 25) (w1 := 26838) (Nat.le_refl _) (Nat.le_refl _) ?_
  obtain ⟨fs114, h1, h2, hw⟩ := hw
  refine aw_putF (k := 5) dX11_init_37 clX11 (by decide) k_953 (Or.inl rfl) rfl rfl rfl rfl rfl h1 h2 ?_
  generalize a_up _ _ _ = h113 at hw ⊢
  refine aw_aload_n 0 dX11_init_40 rfl rfl ?_
  refine aw_sipush (v := 3000) dX11_init_41 (by decide) ?_
  refine aw_newa (N := 3000) (a0 := (3000, .inr (.inl (fun _ => 0)))) 1 (by decide) dX11_init_44 rfl k_151 (a_z1 _) (by decide) (by decide) (by omega) (by omega) (by omega) ?_
  have hw := hw _ _ rfl rfl
  generalize a_nw _ _ = h115 at hw ⊢
  generalize h113.1 = q116 at hw ⊢
  refine aw_bud (c1 := 24) (w1 := 23838) (Nat.le_refl _) (Nat.le_refl _) ?_
  obtain ⟨fs118, h1, h2, hw⟩ := hw
  refine aw_putF (k := 6) dX11_init_46 clX11 (by decide) k_954 (Or.inl rfl) rfl rfl rfl rfl rfl h1 h2 ?_
  generalize a_up _ _ _ = h117 at hw ⊢
  exact abX11_init_49 l G d hG hd _ _ hw
-- X11_in
def wbX11_in_15 (s0 : Int32) (h : aH) (Q : Int32 → aH → Prop) : Prop :=
  oB s0 ∧ Q s0 h
def wbX11_in_14 (h : aH) (Q : Int32 → aH → Prop) : Prop :=
  wbX11_in_15 0 h Q
def wX11_in (h : aH) (v0 : Int32) (v1 : Int32) (v2 : Int32) (Q : Int32 → aH → Prop) : Prop :=
  (v0 < v1 → wbX11_in_14  h Q) ∧ (¬ v0 < v1 → (v2 < v0 → wbX11_in_14  h Q) ∧ (¬ v2 < v0 → wbX11_in_15 1 h Q))
set_option maxRecDepth 100000 in
theorem abX11_in_15 (l : Launch) (G : aG) (d : Nat) (hG : a_GT G) (hd : 1 ≤ d) {Q : Int32 → aH → Prop} (s0 : Int32) (h : aH) (hw : wbX11_in_15 s0 h Q) : AW l G d 0 0 mX11_in (qI Q) 15 [] [.int s0] h := by
  unfold wbX11_in_15 at hw
  exact aw_iret dX11_in_15 rfl (a_nB hw.1) ⟨_, rfl, hw.2⟩
set_option maxRecDepth 100000 in
theorem abX11_in_14 (l : Launch) (G : aG) (d : Nat) (hG : a_GT G) (hd : 1 ≤ d) {Q : Int32 → aH → Prop} (h : aH) (hw : wbX11_in_14  h Q) : AW l G d 0 0 mX11_in (qI Q) 14 [] [] h := by
  unfold wbX11_in_14 at hw
  refine aw_iconst (v := 0) dX11_in_14 (by decide) ?_
  exact abX11_in_15 l G d hG hd _ _ hw
set_option maxRecDepth 100000 in
theorem acX11_in (l : Launch) (G : aG) (d : Nat) (hG : a_GT G) (hd : 1 ≤ d) {Q : Int32 → aH → Prop} {h : aH} {v0 : Int32} {v1 : Int32} {v2 : Int32} (hw : wX11_in h v0 v1 v2 Q) : AC l G d 0 0 mX11_in [.int v0, .int v1, .int v2] h (qI Q) := by
  refine ac_of iX11_in (Nat.le_of_ble_eq_true rfl) ?_
  show AW l G d 0 0 mX11_in (qI Q) 0 [(0, .int v0), (1, .int v1), (2, .int v2)] [] h
  unfold wX11_in at hw
  refine aw_iload_n 0 dX11_in_0 rfl rfl ?_
  refine aw_iload_n 1 dX11_in_1 rfl rfl ?_
  refine aw_icmp_lt (tgt := 14) dX11_in_2 (by decide) (fun z => ?_) (fun z => ?_)
  · have hw := hw.1 z
    refine aw_sub (lv' := []) [] rfl ?_
    exact abX11_in_14 l G d hG hd _ hw
  · have hw := hw.2 z
    refine aw_iload_n 0 dX11_in_5 rfl rfl ?_
    refine aw_iload_n 2 dX11_in_6 rfl rfl ?_
    refine aw_icmp_gt (tgt := 14) dX11_in_7 (by decide) (fun z => ?_) (fun z => ?_)
    · have hw := hw.1 z
      refine aw_sub (lv' := []) [] rfl ?_
      exact abX11_in_14 l G d hG hd _ hw
    · have hw := hw.2 z
      refine aw_iconst (v := 1) dX11_in_10 (by decide) ?_
      refine aw_goto (tgt := 15) dX11_in_11 (by decide) ?_
      refine aw_sub (lv' := []) [] rfl ?_
      exact abX11_in_15 l G d hG hd _ _ hw
-- X11_isSlot
def wX11_isSlot (h : aH) (v0 : Int32) (Q : Int32 → aH → Prop) : Prop :=
  wX11_in h v0 0 11 (fun r2 h1 => oB r2 ∧ Q r2 h1)
set_option maxRecDepth 100000 in
theorem acX11_isSlot (l : Launch) (G : aG) (d : Nat) (hG : a_GT G) (hd : 2 ≤ d) {Q : Int32 → aH → Prop} {h : aH} {v0 : Int32} (hw : wX11_isSlot h v0 Q) : AC l G d 0 0 mX11_isSlot [.int v0] h (qI Q) := by
  refine ac_of iX11_isSlot (Nat.le_of_ble_eq_true rfl) ?_
  show AW l G d 0 0 mX11_isSlot (qI Q) 0 [(0, .int v0)] [] h
  unfold wX11_isSlot at hw
  refine aw_iload_n 0 dX11_isSlot_0 rfl rfl ?_
  refine aw_iconst (v := 0) dX11_isSlot_1 (by decide) ?_
  refine aw_bipush (v := 11) dX11_isSlot_2 (by decide) ?_
  refine aw_staticI (As := [.int v0, .int 0, .int 11]) (rest := []) dX11_isSlot_4 (acX11_in l G (d - 1) hG (by omega) hw) iX11_in rfl k_1080 k_1081 (by omega) (by decide) (by decide) rfl (Nat.le_of_ble_eq_true rfl) (fun r2 h1 hw => ?_)
  exact aw_iret dX11_isSlot_7 rfl (a_nB hw.1) ⟨_, rfl, hw.2⟩
-- X11_isRegister
def wX11_isRegister (h : aH) (v0 : Int32) (Q : Int32 → aH → Prop) : Prop :=
  wX11_in h v0 0 7 (fun r2 h1 => oB r2 ∧ Q r2 h1)
set_option maxRecDepth 100000 in
theorem acX11_isRegister (l : Launch) (G : aG) (d : Nat) (hG : a_GT G) (hd : 2 ≤ d) {Q : Int32 → aH → Prop} {h : aH} {v0 : Int32} (hw : wX11_isRegister h v0 Q) : AC l G d 0 0 mX11_isRegister [.int v0] h (qI Q) := by
  refine ac_of iX11_isRegister (Nat.le_of_ble_eq_true rfl) ?_
  show AW l G d 0 0 mX11_isRegister (qI Q) 0 [(0, .int v0)] [] h
  unfold wX11_isRegister at hw
  refine aw_iload_n 0 dX11_isRegister_0 rfl rfl ?_
  refine aw_iconst (v := 0) dX11_isRegister_1 (by decide) ?_
  refine aw_bipush (v := 7) dX11_isRegister_2 (by decide) ?_
  refine aw_staticI (As := [.int v0, .int 0, .int 7]) (rest := []) dX11_isRegister_4 (acX11_in l G (d - 1) hG (by omega) hw) iX11_in rfl k_1080 k_1081 (by omega) (by decide) (by decide) rfl (Nat.le_of_ble_eq_true rfl) (fun r2 h1 hw => ?_)
  exact aw_iret dX11_isRegister_7 rfl (a_nB hw.1) ⟨_, rfl, hw.2⟩
-- X11_mask
def wbX11_mask_30 (s0 : Int32) (s1 : Int32) (h : aH) (Q : Int32 → aH → Prop) : Prop :=
  Q ((s1 ||| s0)) h
def wbX11_mask_16 (v0 : Int32) (s0 : Int32) (s1 : Int32) (h : aH) (Q : Int32 → aH → Prop) : Prop :=
  (¬ v0 = 6 → wbX11_mask_30 0 ((s1 ||| s0)) h Q) ∧ (v0 = 6 → wbX11_mask_30 128 ((s1 ||| s0)) h Q)
def wX11_mask (h : aH) (v0 : Int32) (Q : Int32 → aH → Prop) : Prop :=
  (¬ v0 = 8 → wbX11_mask_16 v0 0 ((1 <<< (v0 &&& 31))) h Q) ∧ (v0 = 8 → wbX11_mask_16 v0 512 ((1 <<< (v0 &&& 31))) h Q)
set_option maxRecDepth 100000 in
theorem abX11_mask_30 (l : Launch) (G : aG) (d : Nat) (hG : a_GT G) (hd : 1 ≤ d) {Q : Int32 → aH → Prop} (s0 : Int32) (s1 : Int32) (h : aH) (hw : wbX11_mask_30 s0 s1 h Q) : AW l G d 0 0 mX11_mask (qI Q) 30 [] [.int s0, .int s1] h := by
  unfold wbX11_mask_30 at hw
  refine aw_ior dX11_mask_30 ?_
  exact aw_iret dX11_mask_31 rfl rfl ⟨_, rfl, hw⟩
set_option maxRecDepth 100000 in
theorem abX11_mask_16 (l : Launch) (G : aG) (d : Nat) (hG : a_GT G) (hd : 1 ≤ d) {Q : Int32 → aH → Prop} (v0 : Int32) (s0 : Int32) (s1 : Int32) (h : aH) (hw : wbX11_mask_16 v0 s0 s1 h Q) : AW l G d 0 0 mX11_mask (qI Q) 16 [(0, .int v0)] [.int s0, .int s1] h := by
  unfold wbX11_mask_16 at hw
  refine aw_ior dX11_mask_16 ?_
  refine aw_iload_n 0 dX11_mask_17 rfl rfl ?_
  refine aw_bipush (v := 6) dX11_mask_18 (by decide) ?_
  refine aw_icmp_ne (tgt := 29) dX11_mask_20 (by decide) (fun z => ?_) (fun z => ?_)
  · have hw := hw.1 z
    refine aw_iconst (v := 0) dX11_mask_29 (by decide) ?_
    refine aw_sub (lv' := []) [] rfl ?_
    exact abX11_mask_30 l G d hG hd _ _ _ hw
  · have hw := hw.2 z
    refine aw_sipush (v := 128) dX11_mask_23 (by decide) ?_
    refine aw_goto (tgt := 30) dX11_mask_26 (by decide) ?_
    refine aw_sub (lv' := []) [] rfl ?_
    exact abX11_mask_30 l G d hG hd _ _ _ hw
set_option maxRecDepth 100000 in
theorem acX11_mask (l : Launch) (G : aG) (d : Nat) (hG : a_GT G) (hd : 1 ≤ d) {Q : Int32 → aH → Prop} {h : aH} {v0 : Int32} (hw : wX11_mask h v0 Q) : AC l G d 0 0 mX11_mask [.int v0] h (qI Q) := by
  refine ac_of iX11_mask (Nat.le_of_ble_eq_true rfl) ?_
  show AW l G d 0 0 mX11_mask (qI Q) 0 [(0, .int v0)] [] h
  unfold wX11_mask at hw
  refine aw_iconst (v := 1) dX11_mask_0 (by decide) ?_
  refine aw_iload_n 0 dX11_mask_1 rfl rfl ?_
  refine aw_ishl dX11_mask_2 ?_
  refine aw_iload_n 0 dX11_mask_3 rfl rfl ?_
  refine aw_bipush (v := 8) dX11_mask_4 (by decide) ?_
  refine aw_icmp_ne (tgt := 15) dX11_mask_6 (by decide) (fun z => ?_) (fun z => ?_)
  · have hw := hw.1 z
    refine aw_iconst (v := 0) dX11_mask_15 (by decide) ?_
    exact abX11_mask_16 l G d hG hd _ _ _ _ hw
  · have hw := hw.2 z
    refine aw_sipush (v := 512) dX11_mask_9 (by decide) ?_
    refine aw_goto (tgt := 16) dX11_mask_12 (by decide) ?_
    exact abX11_mask_16 l G d hG hd _ _ _ _ hw
-- X11_is
def wbX11_is_22 (s0 : Int32) (h : aH) (Q : Int32 → aH → Prop) : Prop :=
  oB s0 ∧ Q s0 h
def wX11_is (h : aH) (v0 : Nat) (v1 : Int32) (v2 : Int32) (Q : Int32 → aH → Prop) : Prop :=
  wX11_mask h v2 (fun r2 h1 => rR h1 v0 9 2 (fun r3 => aI h1 r3 v1 (fun r5 => (¬ ((r2 >>> (r5 &&& 31)) &&& 1) = 1 → wbX11_is_22 0 h1 Q) ∧ (((r2 >>> (r5 &&& 31)) &&& 1) = 1 → wbX11_is_22 1 h1 Q))))
set_option maxRecDepth 100000 in
theorem abX11_is_22 (l : Launch) (G : aG) (d : Nat) (hG : a_GT G) (hd : 2 ≤ d) {Q : Int32 → aH → Prop} (s0 : Int32) (h : aH) (hw : wbX11_is_22 s0 h Q) : AW l G d 0 0 mX11_is (qI Q) 22 [] [.int s0] h := by
  unfold wbX11_is_22 at hw
  exact aw_iret dX11_is_22 rfl (a_nB hw.1) ⟨_, rfl, hw.2⟩
set_option maxRecDepth 100000 in
theorem acX11_is (l : Launch) (G : aG) (d : Nat) (hG : a_GT G) (hd : 2 ≤ d) {Q : Int32 → aH → Prop} {h : aH} {v0 : Nat} {v1 : Int32} {v2 : Int32} (hw : wX11_is h v0 v1 v2 Q) : AC l G d 0 0 mX11_is [.ref v0, .int v1, .int v2] h (qI Q) := by
  refine ac_of iX11_is (Nat.le_of_ble_eq_true rfl) ?_
  show AW l G d 0 0 mX11_is (qI Q) 0 [(0, .ref v0), (1, .int v1), (2, .int v2)] [] h
  unfold wX11_is at hw
  refine aw_iload_n 2 dX11_is_0 rfl rfl ?_
  refine aw_staticI (As := [.int v2]) (rest := []) dX11_is_1 (acX11_mask l G (d - 1) hG (by omega) hw) iX11_mask rfl k_1164 k_1165 (by omega) (by decide) (by decide) rfl (Nat.le_of_ble_eq_true rfl) (fun r2 h1 hw => ?_)
  refine aw_aload_n 0 dX11_is_4 rfl rfl ?_
  obtain ⟨fs4, r3, h1, h2, hw⟩ := hw
  refine aw_getf (k := 2) dX11_is_5 clX11 (by decide) k_950 (Or.inl rfl) h1 h2 ?_
  refine aw_iload_n 1 dX11_is_8 rfl rfl ?_
  obtain ⟨_, _, r5, h1, h2, h3, hw⟩ := hw
  refine aw_aI dX11_is_9 h1 h2 h3 ?_
  refine aw_ishr dX11_is_10 ?_
  refine aw_iconst (v := 1) dX11_is_11 (by decide) ?_
  refine aw_iand dX11_is_12 ?_
  refine aw_iconst (v := 1) dX11_is_13 (by decide) ?_
  refine aw_icmp_ne (tgt := 21) dX11_is_14 (by decide) (fun z => ?_) (fun z => ?_)
  · have hw := hw.1 z
    refine aw_iconst (v := 0) dX11_is_21 (by decide) ?_
    refine aw_sub (lv' := []) [] rfl ?_
    exact abX11_is_22 l G d hG hd _ _ hw
  · have hw := hw.2 z
    refine aw_iconst (v := 1) dX11_is_17 (by decide) ?_
    refine aw_goto (tgt := 22) dX11_is_18 (by decide) ?_
    refine aw_sub (lv' := []) [] rfl ?_
    exact abX11_is_22 l G d hG hd _ _ hw
-- X11_fresh
def wbX11_fresh_55_i (K55 : Nat → Int32 → Int32 →  aH → Prop) (v0 : Nat) (v2 : Int32) (v3 : Int32) (h : aH) (Q : Int32 → aH → Prop) : Prop :=
  (v2 ≤ v3 → rI h v0 9 1 (fun r1 => wF h v0 9 1 (.int (r1 + v2)) (fun h3 => rI h3 v0 9 0 (fun r5 => Q r5 h3)))) ∧ (¬ v2 ≤ v3 → rR h v0 9 6 (fun r7 => rI h v0 9 1 (fun r9 => sL h r7 ((r9 + v3)) ((0 : Int64)) (fun h11 => K55 v0 v2 ((v3 + 1)) h11))))
def wbX11_fresh_55 (n : Nat) (v0 : Nat) (v2 : Int32) (v3 : Int32) (h : aH) (Q : Int32 → aH → Prop) : Prop := match n with
  | 0 => False
  | n + 1 => wbX11_fresh_55_i (fun v0 v2 v3 h => wbX11_fresh_55 n v0 v2 v3 h Q) v0 v2 v3 h Q
def wX11_fresh (h : aH) (v0 : Nat) (v1 : Int32) (v2 : Int32) (Q : Int32 → aH → Prop) : Prop :=
  rI h v0 9 0 (fun r12 => wF h v0 9 0 (.int (r12 + 1)) (fun h14 => rR h14 v0 9 2 (fun r16 => rI h14 v0 9 0 (fun r18 => sI h14 r16 r18 v1 (fun h20 => rR h20 v0 9 3 (fun r21 => rI h20 v0 9 0 (fun r23 => rI h20 v0 9 1 (fun r25 => sI h20 r21 r23 r25 (fun h27 => rR h27 v0 9 4 (fun r28 => rI h27 v0 9 0 (fun r30 => sI h27 r28 r30 v2 (fun h32 => rR h32 v0 9 5 (fun r33 => rI h32 v0 9 0 (fun r35 => sI h32 r33 r35 0 (fun h37 => ∃ n, wbX11_fresh_55 n v0 v2 0 h37 Q)))))))))))))))
set_option maxRecDepth 100000 in
theorem abX11_fresh_55_i (l : Launch) (G : aG) (d : Nat) (hG : a_GT G) (hd : 1 ≤ d) {Q : Int32 → aH → Prop} {K55 : Nat → Int32 → Int32 →  aH → Prop} (kk55 : ∀ (v0 : Nat) (v2 : Int32) (v3 : Int32) (h : aH), K55 v0 v2 v3 h → AW l G d 0 0 mX11_fresh (qI Q) 55 [(0, .ref v0), (2, .int v2), (3, .int v3)] [] h) (v0 : Nat) (v2 : Int32) (v3 : Int32) (h : aH) (hw : wbX11_fresh_55_i K55 v0 v2 v3 h Q) : AW l G d 0 0 mX11_fresh (qI Q) 55 [(0, .ref v0), (2, .int v2), (3, .int v3)] [] h := by
  unfold wbX11_fresh_55_i at hw
  refine aw_iload_n 2 dX11_fresh_55 rfl rfl ?_
  refine aw_iload_n 1 dX11_fresh_56 rfl rfl ?_
  refine aw_icmp_ge (tgt := 78) dX11_fresh_57 (by decide) (fun z => ?_) (fun z => ?_)
  · have hw := hw.1 z
    refine aw_aload_n 0 dX11_fresh_78 rfl rfl ?_
    refine aw_dup dX11_fresh_79 rfl ?_
    obtain ⟨fs2, r1, h1, h2, hw⟩ := hw
    refine aw_getf (k := 1) dX11_fresh_80 clX11 (by decide) k_949 (Or.inl rfl) h1 h2 ?_
    refine aw_iload_n 1 dX11_fresh_83 rfl rfl ?_
    refine aw_iadd dX11_fresh_84 ?_
    obtain ⟨fs4, h1, h2, hw⟩ := hw
    refine aw_putf (k := 1) dX11_fresh_85 clX11 (by decide) k_949 (Or.inl rfl) rfl rfl rfl h1 h2 ?_
    generalize a_up _ _ _ = h3 at hw ⊢
    refine aw_aload_n 0 dX11_fresh_88 rfl rfl ?_
    obtain ⟨fs6, r5, h1, h2, hw⟩ := hw
    refine aw_getf (k := 0) dX11_fresh_89 clX11 (by decide) k_948 (Or.inl rfl) h1 h2 ?_
    exact aw_iret dX11_fresh_92 rfl rfl ⟨_, rfl, hw⟩
  · have hw := hw.2 z
    refine aw_aload_n 0 dX11_fresh_60 rfl rfl ?_
    obtain ⟨fs8, r7, h1, h2, hw⟩ := hw
    refine aw_getf (k := 6) dX11_fresh_61 clX11 (by decide) k_954 (Or.inl rfl) h1 h2 ?_
    refine aw_aload_n 0 dX11_fresh_64 rfl rfl ?_
    obtain ⟨fs10, r9, h1, h2, hw⟩ := hw
    refine aw_getf (k := 1) dX11_fresh_65 clX11 (by decide) k_949 (Or.inl rfl) h1 h2 ?_
    refine aw_iload_n 2 dX11_fresh_68 rfl rfl ?_
    refine aw_iadd dX11_fresh_69 ?_
    refine aw_lconst (v := 0) dX11_fresh_70 (by decide) ?_
    obtain ⟨_, _, h1, h2, hw⟩ := hw
    refine aw_last dX11_fresh_71 h1 h2 ?_
    generalize a_up _ _ _ = h11 at hw ⊢
    refine aw_iinc (v := (v3 + 1)) (lv' := [(3, .int (v3 + 1)), (0, .ref v0), (2, .int v2)]) 2 dX11_fresh_72 rfl rfl (by decide) rfl ?_
    refine aw_goto (tgt := 55) dX11_fresh_75 (by decide) ?_
    refine aw_sub (lv' := [(0, .ref v0), (2, .int v2), (3, .int (v3 + 1))]) [1, 2, 0] rfl ?_
    exact kk55 _ _ _ _ hw
set_option maxRecDepth 100000 in
theorem abX11_fresh_55 (l : Launch) (G : aG) (d : Nat) (hG : a_GT G) (hd : 1 ≤ d) {Q : Int32 → aH → Prop} (n : Nat) : ∀  (v0 : Nat) (v2 : Int32) (v3 : Int32) (h : aH), wbX11_fresh_55 n v0 v2 v3 h Q → AW l G d 0 0 mX11_fresh (qI Q) 55 [(0, .ref v0), (2, .int v2), (3, .int v3)] [] h := by
  induction n with
  | zero => exact fun _ _ _ _ hw => hw.elim
  | succ n ih => exact fun _ _ _ _ hw => abX11_fresh_55_i l G d hG hd ih _ _ _ _ hw
set_option maxRecDepth 100000 in
theorem acX11_fresh (l : Launch) (G : aG) (d : Nat) (hG : a_GT G) (hd : 1 ≤ d) {Q : Int32 → aH → Prop} {h : aH} {v0 : Nat} {v1 : Int32} {v2 : Int32} (hw : wX11_fresh h v0 v1 v2 Q) : AC l G d 0 0 mX11_fresh [.ref v0, .int v1, .int v2] h (qI Q) := by
  refine ac_of iX11_fresh (Nat.le_of_ble_eq_true rfl) ?_
  show AW l G d 0 0 mX11_fresh (qI Q) 0 [(0, .ref v0), (1, .int v1), (2, .int v2)] [] h
  unfold wX11_fresh at hw
  refine aw_aload_n 0 dX11_fresh_0 rfl rfl ?_
  refine aw_dup dX11_fresh_1 rfl ?_
  obtain ⟨fs13, r12, h1, h2, hw⟩ := hw
  refine aw_getf (k := 0) dX11_fresh_2 clX11 (by decide) k_948 (Or.inl rfl) h1 h2 ?_
  refine aw_iconst (v := 1) dX11_fresh_5 (by decide) ?_
  refine aw_iadd dX11_fresh_6 ?_
  obtain ⟨fs15, h1, h2, hw⟩ := hw
  refine aw_putf (k := 0) dX11_fresh_7 clX11 (by decide) k_948 (Or.inl rfl) rfl rfl rfl h1 h2 ?_
  generalize a_up _ _ _ = h14 at hw ⊢
  refine aw_aload_n 0 dX11_fresh_10 rfl rfl ?_
  obtain ⟨fs17, r16, h1, h2, hw⟩ := hw
  refine aw_getf (k := 2) dX11_fresh_11 clX11 (by decide) k_950 (Or.inl rfl) h1 h2 ?_
  refine aw_aload_n 0 dX11_fresh_14 rfl rfl ?_
  obtain ⟨fs19, r18, h1, h2, hw⟩ := hw
  refine aw_getf (k := 0) dX11_fresh_15 clX11 (by decide) k_948 (Or.inl rfl) h1 h2 ?_
  refine aw_iload_n 1 dX11_fresh_18 rfl rfl ?_
  obtain ⟨_, _, h1, h2, hw⟩ := hw
  refine aw_iast dX11_fresh_19 h1 h2 ?_
  generalize a_up _ _ _ = h20 at hw ⊢
  refine aw_aload_n 0 dX11_fresh_20 rfl rfl ?_
  obtain ⟨fs22, r21, h1, h2, hw⟩ := hw
  refine aw_getf (k := 3) dX11_fresh_21 clX11 (by decide) k_951 (Or.inl rfl) h1 h2 ?_
  refine aw_aload_n 0 dX11_fresh_24 rfl rfl ?_
  obtain ⟨fs24, r23, h1, h2, hw⟩ := hw
  refine aw_getf (k := 0) dX11_fresh_25 clX11 (by decide) k_948 (Or.inl rfl) h1 h2 ?_
  refine aw_aload_n 0 dX11_fresh_28 rfl rfl ?_
  obtain ⟨fs26, r25, h1, h2, hw⟩ := hw
  refine aw_getf (k := 1) dX11_fresh_29 clX11 (by decide) k_949 (Or.inl rfl) h1 h2 ?_
  obtain ⟨_, _, h1, h2, hw⟩ := hw
  refine aw_iast dX11_fresh_32 h1 h2 ?_
  generalize a_up _ _ _ = h27 at hw ⊢
  refine aw_aload_n 0 dX11_fresh_33 rfl rfl ?_
  obtain ⟨fs29, r28, h1, h2, hw⟩ := hw
  refine aw_getf (k := 4) dX11_fresh_34 clX11 (by decide) k_952 (Or.inl rfl) h1 h2 ?_
  refine aw_aload_n 0 dX11_fresh_37 rfl rfl ?_
  obtain ⟨fs31, r30, h1, h2, hw⟩ := hw
  refine aw_getf (k := 0) dX11_fresh_38 clX11 (by decide) k_948 (Or.inl rfl) h1 h2 ?_
  refine aw_iload_n 2 dX11_fresh_41 rfl rfl ?_
  obtain ⟨_, _, h1, h2, hw⟩ := hw
  refine aw_iast dX11_fresh_42 h1 h2 ?_
  generalize a_up _ _ _ = h32 at hw ⊢
  refine aw_aload_n 0 dX11_fresh_43 rfl rfl ?_
  obtain ⟨fs34, r33, h1, h2, hw⟩ := hw
  refine aw_getf (k := 5) dX11_fresh_44 clX11 (by decide) k_953 (Or.inl rfl) h1 h2 ?_
  refine aw_aload_n 0 dX11_fresh_47 rfl rfl ?_
  obtain ⟨fs36, r35, h1, h2, hw⟩ := hw
  refine aw_getf (k := 0) dX11_fresh_48 clX11 (by decide) k_948 (Or.inl rfl) h1 h2 ?_
  refine aw_iconst (v := 0) dX11_fresh_51 (by decide) ?_
  obtain ⟨_, _, h1, h2, hw⟩ := hw
  refine aw_iast dX11_fresh_52 h1 h2 ?_
  generalize a_up _ _ _ = h37 at hw ⊢
  refine aw_iconst (v := 0) dX11_fresh_53 (by decide) ?_
  refine aw_istore_n (lv' := [(3, .int 0), (0, .ref v0), (1, .int v1), (2, .int v2)]) dX11_fresh_54 rfl (by decide) rfl ?_
  obtain ⟨n, hw⟩ := hw
  refine aw_sub (lv' := [(0, .ref v0), (2, .int v2), (3, .int 0)]) [1, 3, 0] rfl ?_
  exact abX11_fresh_55 l G d hG hd n _ _ _ _ hw
-- X11_fits
def wbX11_fits_33 (s0 : Int32) (h : aH) (Q : Int32 → aH → Prop) : Prop :=
  oB s0 ∧ Q s0 h
def wbX11_fits_32 (h : aH) (Q : Int32 → aH → Prop) : Prop :=
  wbX11_fits_33 0 h Q
def wX11_fits (h : aH) (v0 : Nat) (v1 : Int64) (v3 : Int64) (Q : Int32 → aH → Prop) : Prop :=
  rI h v0 9 0 (fun r1 => (0 < (lg_cmp ((r1.toInt64 + v1)) ((200 : Int64))) → wbX11_fits_32  h Q) ∧ (¬ 0 < (lg_cmp ((r1.toInt64 + v1)) ((200 : Int64))) → rI h v0 9 1 (fun r3 => (0 < (lg_cmp ((r3.toInt64 + v3)) ((3000 : Int64))) → wbX11_fits_32  h Q) ∧ (¬ 0 < (lg_cmp ((r3.toInt64 + v3)) ((3000 : Int64))) → wbX11_fits_33 1 h Q))))
set_option maxRecDepth 100000 in
theorem abX11_fits_33 (l : Launch) (G : aG) (d : Nat) (hG : a_GT G) (hd : 1 ≤ d) {Q : Int32 → aH → Prop} (s0 : Int32) (h : aH) (hw : wbX11_fits_33 s0 h Q) : AW l G d 0 0 mX11_fits (qI Q) 33 [] [.int s0] h := by
  unfold wbX11_fits_33 at hw
  exact aw_iret dX11_fits_33 rfl (a_nB hw.1) ⟨_, rfl, hw.2⟩
set_option maxRecDepth 100000 in
theorem abX11_fits_32 (l : Launch) (G : aG) (d : Nat) (hG : a_GT G) (hd : 1 ≤ d) {Q : Int32 → aH → Prop} (h : aH) (hw : wbX11_fits_32  h Q) : AW l G d 0 0 mX11_fits (qI Q) 32 [] [] h := by
  unfold wbX11_fits_32 at hw
  refine aw_iconst (v := 0) dX11_fits_32 (by decide) ?_
  exact abX11_fits_33 l G d hG hd _ _ hw
set_option maxRecDepth 100000 in
theorem acX11_fits (l : Launch) (G : aG) (d : Nat) (hG : a_GT G) (hd : 1 ≤ d) {Q : Int32 → aH → Prop} {h : aH} {v0 : Nat} {v1 : Int64} {v3 : Int64} (hw : wX11_fits h v0 v1 v3 Q) : AC l G d 0 0 mX11_fits [.ref v0, .long v1, .long v3] h (qI Q) := by
  refine ac_of iX11_fits (Nat.le_of_ble_eq_true rfl) ?_
  show AW l G d 0 0 mX11_fits (qI Q) 0 [(0, .ref v0), (1, .long v1), (3, .long v3)] [] h
  unfold wX11_fits at hw
  refine aw_aload_n 0 dX11_fits_0 rfl rfl ?_
  obtain ⟨fs2, r1, h1, h2, hw⟩ := hw
  refine aw_getf (k := 0) dX11_fits_1 clX11 (by decide) k_948 (Or.inl rfl) h1 h2 ?_
  refine aw_i2l dX11_fits_4 ?_
  refine aw_lload_n 1 dX11_fits_5 rfl rfl ?_
  refine aw_ladd dX11_fits_6 ?_
  refine aw_ldc2 (v := 200) dX11_fits_7 k_1138 ?_
  refine aw_lcmp dX11_fits_10 ?_
  refine aw_if_gt (tgt := 32) dX11_fits_11 (by decide) (fun z => ?_) (fun z => ?_)
  · have hw := hw.1 z
    refine aw_sub (lv' := []) [] rfl ?_
    exact abX11_fits_32 l G d hG hd _ hw
  · have hw := hw.2 z
    refine aw_aload_n 0 dX11_fits_14 rfl rfl ?_
    obtain ⟨fs4, r3, h1, h2, hw⟩ := hw
    refine aw_getf (k := 1) dX11_fits_15 clX11 (by decide) k_949 (Or.inl rfl) h1 h2 ?_
    refine aw_i2l dX11_fits_18 ?_
    refine aw_lload_n 2 dX11_fits_19 rfl rfl ?_
    refine aw_ladd dX11_fits_20 ?_
    refine aw_ldc2 (v := 3000) dX11_fits_21 k_1139 ?_
    refine aw_lcmp dX11_fits_24 ?_
    refine aw_if_gt (tgt := 32) dX11_fits_25 (by decide) (fun z => ?_) (fun z => ?_)
    · have hw := hw.1 z
      refine aw_sub (lv' := []) [] rfl ?_
      exact abX11_fits_32 l G d hG hd _ hw
    · have hw := hw.2 z
      refine aw_iconst (v := 1) dX11_fits_28 (by decide) ?_
      refine aw_goto (tgt := 33) dX11_fits_29 (by decide) ?_
      refine aw_sub (lv' := []) [] rfl ?_
      exact abX11_fits_33 l G d hG hd _ _ hw
-- X11_isNode
def wX11_isNode (h : aH) (v0 : Nat) (v1 : Int32) (Q : Int32 → aH → Prop) : Prop :=
  rI h v0 9 9 (fun r1 => wX11_in h v1 0 ((r1 - 1)) (fun r4 h3 => oB r4 ∧ Q r4 h3))
set_option maxRecDepth 100000 in
theorem acX11_isNode (l : Launch) (G : aG) (d : Nat) (hG : a_GT G) (hd : 2 ≤ d) {Q : Int32 → aH → Prop} {h : aH} {v0 : Nat} {v1 : Int32} (hw : wX11_isNode h v0 v1 Q) : AC l G d 0 0 mX11_isNode [.ref v0, .int v1] h (qI Q) := by
  refine ac_of iX11_isNode (Nat.le_of_ble_eq_true rfl) ?_
  show AW l G d 0 0 mX11_isNode (qI Q) 0 [(0, .ref v0), (1, .int v1)] [] h
  unfold wX11_isNode at hw
  refine aw_iload_n 1 dX11_isNode_0 rfl rfl ?_
  refine aw_iconst (v := 0) dX11_isNode_1 (by decide) ?_
  refine aw_aload_n 0 dX11_isNode_2 rfl rfl ?_
  obtain ⟨fs2, r1, h1, h2, hw⟩ := hw
  refine aw_getf (k := 9) dX11_isNode_3 clX11 (by decide) k_957 (Or.inl rfl) h1 h2 ?_
  refine aw_iconst (v := 1) dX11_isNode_6 (by decide) ?_
  refine aw_isub dX11_isNode_7 ?_
  refine aw_staticI (As := [.int v1, .int 0, .int (r1 - 1)]) (rest := []) dX11_isNode_8 (acX11_in l G (d - 1) hG (by omega) hw) iX11_in rfl k_1080 k_1081 (by omega) (by decide) (by decide) rfl (Nat.le_of_ble_eq_true rfl) (fun r4 h3 hw => ?_)
  exact aw_iret dX11_isNode_11 rfl (a_nB hw.1) ⟨_, rfl, hw.2⟩
-- X11_node
def wbX11_node_16 (h : aH) (Q : Int32 → aH → Prop) : Prop :=
  Q ((-2)) h
def wX11_node (h : aH) (v0 : Nat) (v1 : Int32) (v2 : Int32) (v3 : Int32) (v4 : Int32) (v5 : Int32) (v6 : Int32) (v7 : Int32) (Q : Int32 → aH → Prop) : Prop :=
  rI h v0 9 9 (fun r1 => (r1 = 80 → wbX11_node_16  h Q) ∧ (¬ r1 = 80 → (v7 ≤ 100 → rR h v0 9 10 (fun r3 => rI h v0 9 9 (fun r5 => sI h r3 r5 v1 (fun h7 => rR h7 v0 9 11 (fun r8 => rI h7 v0 9 9 (fun r10 => sI h7 r8 r10 v2 (fun h12 => rR h12 v0 9 12 (fun r13 => rI h12 v0 9 9 (fun r15 => sI h12 r13 r15 v3 (fun h17 => rR h17 v0 9 13 (fun r18 => rI h17 v0 9 9 (fun r20 => sI h17 r18 r20 v4 (fun h22 => rR h22 v0 9 14 (fun r23 => rI h22 v0 9 9 (fun r25 => sI h22 r23 r25 v5 (fun h27 => rR h27 v0 9 15 (fun r28 => rI h27 v0 9 9 (fun r30 => sI h27 r28 r30 v6 (fun h32 => rR h32 v0 9 16 (fun r33 => rI h32 v0 9 9 (fun r35 => sI h32 r33 r35 v7 (fun h37 => rR h37 v0 9 31 (fun r38 => rI h37 v0 9 9 (fun r40 => sZ h37 r38 r40 0 (fun h42 => rI h42 v0 9 9 (fun r43 => wF h42 v0 9 9 (.int (r43 + 1)) (fun h45 => rI h45 v0 9 9 (fun r47 => Q ((r47 - 1)) h45)))))))))))))))))))))))))))) ∧ (¬ v7 ≤ 100 → wbX11_node_16  h Q)))
set_option maxRecDepth 100000 in
theorem abX11_node_16 (l : Launch) (G : aG) (d : Nat) (hG : a_GT G) (hd : 1 ≤ d) {Q : Int32 → aH → Prop} (h : aH) (hw : wbX11_node_16  h Q) : AW l G d 0 0 mX11_node (qI Q) 16 [] [] h := by
  unfold wbX11_node_16 at hw
  refine aw_bipush (v := (-2)) dX11_node_16 (by decide) ?_
  exact aw_iret dX11_node_18 rfl rfl ⟨_, rfl, hw⟩
set_option maxRecDepth 100000 in
theorem acX11_node (l : Launch) (G : aG) (d : Nat) (hG : a_GT G) (hd : 1 ≤ d) {Q : Int32 → aH → Prop} {h : aH} {v0 : Nat} {v1 : Int32} {v2 : Int32} {v3 : Int32} {v4 : Int32} {v5 : Int32} {v6 : Int32} {v7 : Int32} (hw : wX11_node h v0 v1 v2 v3 v4 v5 v6 v7 Q) : AC l G d 0 0 mX11_node [.ref v0, .int v1, .int v2, .int v3, .int v4, .int v5, .int v6, .int v7] h (qI Q) := by
  refine ac_of iX11_node (Nat.le_of_ble_eq_true rfl) ?_
  show AW l G d 0 0 mX11_node (qI Q) 0 [(0, .ref v0), (1, .int v1), (2, .int v2), (3, .int v3), (4, .int v4), (5, .int v5), (6, .int v6), (7, .int v7)] [] h
  unfold wX11_node at hw
  refine aw_aload_n 0 dX11_node_0 rfl rfl ?_
  obtain ⟨fs2, r1, h1, h2, hw⟩ := hw
  refine aw_getf (k := 9) dX11_node_1 clX11 (by decide) k_957 (Or.inl rfl) h1 h2 ?_
  refine aw_bipush (v := 80) dX11_node_4 (by decide) ?_
  refine aw_icmp_eq (tgt := 16) dX11_node_6 (by decide) (fun z => ?_) (fun z => ?_)
  · have hw := hw.1 z
    refine aw_sub (lv' := []) [] rfl ?_
    exact abX11_node_16 l G d hG hd _ hw
  · have hw := hw.2 z
    refine aw_iload 7 dX11_node_9 rfl ?_
    refine aw_bipush (v := 100) dX11_node_11 (by decide) ?_
    refine aw_icmp_le (tgt := 19) dX11_node_13 (by decide) (fun z => ?_) (fun z => ?_)
    · have hw := hw.1 z
      refine aw_aload_n 0 dX11_node_19 rfl rfl ?_
      obtain ⟨fs4, r3, h1, h2, hw⟩ := hw
      refine aw_getf (k := 10) dX11_node_20 clX11 (by decide) k_958 (Or.inl rfl) h1 h2 ?_
      refine aw_aload_n 0 dX11_node_23 rfl rfl ?_
      obtain ⟨fs6, r5, h1, h2, hw⟩ := hw
      refine aw_getf (k := 9) dX11_node_24 clX11 (by decide) k_957 (Or.inl rfl) h1 h2 ?_
      refine aw_iload_n 1 dX11_node_27 rfl rfl ?_
      obtain ⟨_, _, h1, h2, hw⟩ := hw
      refine aw_iast dX11_node_28 h1 h2 ?_
      generalize a_up _ _ _ = h7 at hw ⊢
      refine aw_aload_n 0 dX11_node_29 rfl rfl ?_
      obtain ⟨fs9, r8, h1, h2, hw⟩ := hw
      refine aw_getf (k := 11) dX11_node_30 clX11 (by decide) k_959 (Or.inl rfl) h1 h2 ?_
      refine aw_aload_n 0 dX11_node_33 rfl rfl ?_
      obtain ⟨fs11, r10, h1, h2, hw⟩ := hw
      refine aw_getf (k := 9) dX11_node_34 clX11 (by decide) k_957 (Or.inl rfl) h1 h2 ?_
      refine aw_iload_n 2 dX11_node_37 rfl rfl ?_
      obtain ⟨_, _, h1, h2, hw⟩ := hw
      refine aw_iast dX11_node_38 h1 h2 ?_
      generalize a_up _ _ _ = h12 at hw ⊢
      refine aw_aload_n 0 dX11_node_39 rfl rfl ?_
      obtain ⟨fs14, r13, h1, h2, hw⟩ := hw
      refine aw_getf (k := 12) dX11_node_40 clX11 (by decide) k_960 (Or.inl rfl) h1 h2 ?_
      refine aw_aload_n 0 dX11_node_43 rfl rfl ?_
      obtain ⟨fs16, r15, h1, h2, hw⟩ := hw
      refine aw_getf (k := 9) dX11_node_44 clX11 (by decide) k_957 (Or.inl rfl) h1 h2 ?_
      refine aw_iload_n 3 dX11_node_47 rfl rfl ?_
      obtain ⟨_, _, h1, h2, hw⟩ := hw
      refine aw_iast dX11_node_48 h1 h2 ?_
      generalize a_up _ _ _ = h17 at hw ⊢
      refine aw_aload_n 0 dX11_node_49 rfl rfl ?_
      obtain ⟨fs19, r18, h1, h2, hw⟩ := hw
      refine aw_getf (k := 13) dX11_node_50 clX11 (by decide) k_961 (Or.inl rfl) h1 h2 ?_
      refine aw_aload_n 0 dX11_node_53 rfl rfl ?_
      obtain ⟨fs21, r20, h1, h2, hw⟩ := hw
      refine aw_getf (k := 9) dX11_node_54 clX11 (by decide) k_957 (Or.inl rfl) h1 h2 ?_
      refine aw_iload 4 dX11_node_57 rfl ?_
      obtain ⟨_, _, h1, h2, hw⟩ := hw
      refine aw_iast dX11_node_59 h1 h2 ?_
      generalize a_up _ _ _ = h22 at hw ⊢
      refine aw_aload_n 0 dX11_node_60 rfl rfl ?_
      obtain ⟨fs24, r23, h1, h2, hw⟩ := hw
      refine aw_getf (k := 14) dX11_node_61 clX11 (by decide) k_962 (Or.inl rfl) h1 h2 ?_
      refine aw_aload_n 0 dX11_node_64 rfl rfl ?_
      obtain ⟨fs26, r25, h1, h2, hw⟩ := hw
      refine aw_getf (k := 9) dX11_node_65 clX11 (by decide) k_957 (Or.inl rfl) h1 h2 ?_
      refine aw_iload 5 dX11_node_68 rfl ?_
      obtain ⟨_, _, h1, h2, hw⟩ := hw
      refine aw_iast dX11_node_70 h1 h2 ?_
      generalize a_up _ _ _ = h27 at hw ⊢
      refine aw_aload_n 0 dX11_node_71 rfl rfl ?_
      obtain ⟨fs29, r28, h1, h2, hw⟩ := hw
      refine aw_getf (k := 15) dX11_node_72 clX11 (by decide) k_963 (Or.inl rfl) h1 h2 ?_
      refine aw_aload_n 0 dX11_node_75 rfl rfl ?_
      obtain ⟨fs31, r30, h1, h2, hw⟩ := hw
      refine aw_getf (k := 9) dX11_node_76 clX11 (by decide) k_957 (Or.inl rfl) h1 h2 ?_
      refine aw_iload 6 dX11_node_79 rfl ?_
      obtain ⟨_, _, h1, h2, hw⟩ := hw
      refine aw_iast dX11_node_81 h1 h2 ?_
      generalize a_up _ _ _ = h32 at hw ⊢
      refine aw_aload_n 0 dX11_node_82 rfl rfl ?_
      obtain ⟨fs34, r33, h1, h2, hw⟩ := hw
      refine aw_getf (k := 16) dX11_node_83 clX11 (by decide) k_964 (Or.inl rfl) h1 h2 ?_
      refine aw_aload_n 0 dX11_node_86 rfl rfl ?_
      obtain ⟨fs36, r35, h1, h2, hw⟩ := hw
      refine aw_getf (k := 9) dX11_node_87 clX11 (by decide) k_957 (Or.inl rfl) h1 h2 ?_
      refine aw_iload 7 dX11_node_90 rfl ?_
      obtain ⟨_, _, h1, h2, hw⟩ := hw
      refine aw_iast dX11_node_92 h1 h2 ?_
      generalize a_up _ _ _ = h37 at hw ⊢
      refine aw_aload_n 0 dX11_node_93 rfl rfl ?_
      obtain ⟨fs39, r38, h1, h2, hw⟩ := hw
      refine aw_getf (k := 31) dX11_node_94 clX11 (by decide) k_979 (Or.inl rfl) h1 h2 ?_
      refine aw_aload_n 0 dX11_node_97 rfl rfl ?_
      obtain ⟨fs41, r40, h1, h2, hw⟩ := hw
      refine aw_getf (k := 9) dX11_node_98 clX11 (by decide) k_957 (Or.inl rfl) h1 h2 ?_
      refine aw_iconst (v := 0) dX11_node_101 (by decide) ?_
      obtain ⟨_, _, h1, h2, hw⟩ := hw
      refine aw_zast dX11_node_102 h1 h2 ?_
      generalize a_up _ _ _ = h42 at hw ⊢
      refine aw_aload_n 0 dX11_node_103 rfl rfl ?_
      refine aw_dup dX11_node_104 rfl ?_
      obtain ⟨fs44, r43, h1, h2, hw⟩ := hw
      refine aw_getf (k := 9) dX11_node_105 clX11 (by decide) k_957 (Or.inl rfl) h1 h2 ?_
      refine aw_iconst (v := 1) dX11_node_108 (by decide) ?_
      refine aw_iadd dX11_node_109 ?_
      obtain ⟨fs46, h1, h2, hw⟩ := hw
      refine aw_putf (k := 9) dX11_node_110 clX11 (by decide) k_957 (Or.inl rfl) rfl rfl rfl h1 h2 ?_
      generalize a_up _ _ _ = h45 at hw ⊢
      refine aw_aload_n 0 dX11_node_113 rfl rfl ?_
      obtain ⟨fs48, r47, h1, h2, hw⟩ := hw
      refine aw_getf (k := 9) dX11_node_114 clX11 (by decide) k_957 (Or.inl rfl) h1 h2 ?_
      refine aw_iconst (v := 1) dX11_node_117 (by decide) ?_
      refine aw_isub dX11_node_118 ?_
      exact aw_iret dX11_node_119 rfl rfl ⟨_, rfl, hw⟩
    · have hw := hw.2 z
      refine aw_sub (lv' := []) [] rfl ?_
      exact abX11_node_16 l G d hG hd _ hw
-- X11_isAct
def wbX11_isAct_111 (s0 : Int32) (h : aH) (Q : Int32 → aH → Prop) : Prop :=
  oB s0 ∧ Q s0 h
def wbX11_isAct_110 (h : aH) (Q : Int32 → aH → Prop) : Prop :=
  wbX11_isAct_111 0 h Q
def wbX11_isAct_112 (v1 : Int32) (h : aH) (Q : Int32 → aH → Prop) : Prop :=
  wX11_isSlot h v1 (fun r2 h1 => oB r2 ∧ Q r2 h1)
def wbX11_isAct_146 (s0 : Int32) (h : aH) (Q : Int32 → aH → Prop) : Prop :=
  oB s0 ∧ Q s0 h
def wbX11_isAct_145 (h : aH) (Q : Int32 → aH → Prop) : Prop :=
  wbX11_isAct_146 0 h Q
def wbX11_isAct_175 (s0 : Int32) (h : aH) (Q : Int32 → aH → Prop) : Prop :=
  oB s0 ∧ Q s0 h
def wbX11_isAct_174 (h : aH) (Q : Int32 → aH → Prop) : Prop :=
  wbX11_isAct_175 0 h Q
def wbX11_isAct_205 (s0 : Int32) (h : aH) (Q : Int32 → aH → Prop) : Prop :=
  oB s0 ∧ Q s0 h
def wbX11_isAct_204 (h : aH) (Q : Int32 → aH → Prop) : Prop :=
  wbX11_isAct_205 0 h Q
def wbX11_isAct_235 (s0 : Int32) (h : aH) (Q : Int32 → aH → Prop) : Prop :=
  oB s0 ∧ Q s0 h
def wbX11_isAct_234 (h : aH) (Q : Int32 → aH → Prop) : Prop :=
  wbX11_isAct_235 0 h Q
def wbX11_isAct_266 (s0 : Int32) (h : aH) (Q : Int32 → aH → Prop) : Prop :=
  oB s0 ∧ Q s0 h
def wbX11_isAct_265 (h : aH) (Q : Int32 → aH → Prop) : Prop :=
  wbX11_isAct_266 0 h Q
def wbX11_isAct_296 (s0 : Int32) (h : aH) (Q : Int32 → aH → Prop) : Prop :=
  oB s0 ∧ Q s0 h
def wbX11_isAct_295 (h : aH) (Q : Int32 → aH → Prop) : Prop :=
  wbX11_isAct_296 0 h Q
def wbX11_isAct_316 (s0 : Int32) (h : aH) (Q : Int32 → aH → Prop) : Prop :=
  oB s0 ∧ Q s0 h
def wbX11_isAct_315 (h : aH) (Q : Int32 → aH → Prop) : Prop :=
  wbX11_isAct_316 0 h Q
def wbX11_isAct_336 (s0 : Int32) (h : aH) (Q : Int32 → aH → Prop) : Prop :=
  oB s0 ∧ Q s0 h
def wbX11_isAct_335 (h : aH) (Q : Int32 → aH → Prop) : Prop :=
  wbX11_isAct_336 0 h Q
def wbX11_isAct_356 (s0 : Int32) (h : aH) (Q : Int32 → aH → Prop) : Prop :=
  oB s0 ∧ Q s0 h
def wbX11_isAct_355 (h : aH) (Q : Int32 → aH → Prop) : Prop :=
  wbX11_isAct_356 0 h Q
def wbX11_isAct_388 (s0 : Int32) (h : aH) (Q : Int32 → aH → Prop) : Prop :=
  oB s0 ∧ Q s0 h
def wbX11_isAct_387 (h : aH) (Q : Int32 → aH → Prop) : Prop :=
  wbX11_isAct_388 0 h Q
def wbX11_isAct_362 (v1 : Int32) (v2 : Int32) (v3 : Int32) (h : aH) (Q : Int32 → aH → Prop) : Prop :=
  wX11_isRegister h v1 (fun r4 h3 => (r4 = 0 → wbX11_isAct_387 h3 Q) ∧ (¬ r4 = 0 → wX11_isRegister h3 v2 (fun r6 h5 => (r6 = 0 → wbX11_isAct_387 h5 Q) ∧ (¬ r6 = 0 → wX11_isRegister h5 v3 (fun r8 h7 => (r8 = 0 → wbX11_isAct_387 h7 Q) ∧ (¬ r8 = 0 → wbX11_isAct_388 1 h7 Q))))))
def wbX11_isAct_400 (s0 : Int32) (h : aH) (Q : Int32 → aH → Prop) : Prop :=
  oB s0 ∧ Q s0 h
def wX11_isAct (h : aH) (v0 : Int32) (v1 : Int32) (v2 : Int32) (v3 : Int32) (v4 : Int32) (Q : Int32 → aH → Prop) : Prop :=
  ((v0.toInt < 0 ∨ 16 < v0.toInt) → (¬ v0 = 17 → wbX11_isAct_400 0 h Q) ∧ (v0 = 17 → wbX11_isAct_400 1 h Q)) ∧ (v0.toInt = 0 → wX11_isSlot h v1 (fun r10 h9 => (r10 = 0 → wbX11_isAct_110 h9 Q) ∧ (¬ r10 = 0 → wX11_in h9 v2 1 7 (fun r12 h11 => (r12 = 0 → wbX11_isAct_110 h11 Q) ∧ (¬ r12 = 0 → (v2 = 5 → wbX11_isAct_110 h11 Q) ∧ (¬ v2 = 5 → wbX11_isAct_111 1 h11 Q)))))) ∧ (v0.toInt = 1 → wbX11_isAct_112 v1 h Q) ∧ (v0.toInt = 2 → wbX11_isAct_112 v1 h Q) ∧ (v0.toInt = 3 → wbX11_isAct_112 v1 h Q) ∧ (v0.toInt = 4 → wX11_isSlot h v1 (fun r14 h13 => (r14 = 0 → wbX11_isAct_145 h13 Q) ∧ (¬ r14 = 0 → wX11_isSlot h13 v2 (fun r16 h15 => (r16 = 0 → wbX11_isAct_145 h15 Q) ∧ (¬ r16 = 0 → wX11_in h15 v3 0 9 (fun r18 h17 => (r18 = 0 → wbX11_isAct_145 h17 Q) ∧ (¬ r18 = 0 → wbX11_isAct_146 1 h17 Q))))))) ∧ (v0.toInt = 5 → wX11_isRegister h v1 (fun r20 h19 => (r20 = 0 → wbX11_isAct_174 h19 Q) ∧ (¬ r20 = 0 → wX11_isSlot h19 v2 (fun r22 h21 => (r22 = 0 → wbX11_isAct_174 h21 Q) ∧ (¬ r22 = 0 → wX11_in h21 v3 1 4 (fun r24 h23 => (r24 = 0 → wbX11_isAct_174 h23 Q) ∧ (¬ r24 = 0 → wbX11_isAct_175 1 h23 Q))))))) ∧ (v0.toInt = 6 → wX11_isSlot h v1 (fun r26 h25 => (r26 = 0 → wbX11_isAct_204 h25 Q) ∧ (¬ r26 = 0 → wX11_in h25 v2 1 4 (fun r28 h27 => (r28 = 0 → wbX11_isAct_204 h27 Q) ∧ (¬ r28 = 0 → wX11_isRegister h27 v4 (fun r30 h29 => (r30 = 0 → wbX11_isAct_204 h29 Q) ∧ (¬ r30 = 0 → wbX11_isAct_205 1 h29 Q))))))) ∧ (v0.toInt = 7 → wX11_isSlot h v1 (fun r32 h31 => (r32 = 0 → wbX11_isAct_234 h31 Q) ∧ (¬ r32 = 0 → wX11_isSlot h31 v2 (fun r34 h33 => (r34 = 0 → wbX11_isAct_234 h33 Q) ∧ (¬ r34 = 0 → wX11_in h33 v3 5 7 (fun r36 h35 => (r36 = 0 → wbX11_isAct_234 h35 Q) ∧ (¬ r36 = 0 → wbX11_isAct_235 1 h35 Q))))))) ∧ (v0.toInt = 8 → wX11_isSlot h v1 (fun r38 h37 => (r38 = 0 → wbX11_isAct_265 h37 Q) ∧ (¬ r38 = 0 → wX11_in h37 v2 5 7 (fun r40 h39 => (r40 = 0 → wbX11_isAct_265 h39 Q) ∧ (¬ r40 = 0 → wX11_isSlot h39 v4 (fun r42 h41 => (r42 = 0 → wbX11_isAct_265 h41 Q) ∧ (¬ r42 = 0 → wbX11_isAct_266 1 h41 Q))))))) ∧ (v0.toInt = 9 → wX11_isRegister h v1 (fun r44 h43 => (r44 = 0 → wbX11_isAct_295 h43 Q) ∧ (¬ r44 = 0 → wX11_isSlot h43 v2 (fun r46 h45 => (r46 = 0 → wbX11_isAct_295 h45 Q) ∧ (¬ r46 = 0 → wX11_in h45 v3 1 7 (fun r48 h47 => (r48 = 0 → wbX11_isAct_295 h47 Q) ∧ (¬ r48 = 0 → wbX11_isAct_296 1 h47 Q))))))) ∧ (v0.toInt = 10 → wX11_isSlot h v1 (fun r50 h49 => (r50 = 0 → wbX11_isAct_315 h49 Q) ∧ (¬ r50 = 0 → wX11_isSlot h49 v2 (fun r52 h51 => (r52 = 0 → wbX11_isAct_315 h51 Q) ∧ (¬ r52 = 0 → wbX11_isAct_316 1 h51 Q))))) ∧ (v0.toInt = 11 → wX11_isRegister h v1 (fun r54 h53 => (r54 = 0 → wbX11_isAct_335 h53 Q) ∧ (¬ r54 = 0 → wX11_isSlot h53 v2 (fun r56 h55 => (r56 = 0 → wbX11_isAct_335 h55 Q) ∧ (¬ r56 = 0 → wbX11_isAct_336 1 h55 Q))))) ∧ (v0.toInt = 12 → wX11_isSlot h v1 (fun r58 h57 => (r58 = 0 → wbX11_isAct_355 h57 Q) ∧ (¬ r58 = 0 → wX11_isSlot h57 v3 (fun r60 h59 => (r60 = 0 → wbX11_isAct_355 h59 Q) ∧ (¬ r60 = 0 → wbX11_isAct_356 1 h59 Q))))) ∧ (v0.toInt = 13 → wX11_isRegister h v1 (fun r62 h61 => oB r62 ∧ Q r62 h61)) ∧ (v0.toInt = 14 → wbX11_isAct_362 v1 v2 v3 h Q) ∧ (v0.toInt = 15 → wbX11_isAct_362 v1 v2 v3 h Q) ∧ (v0.toInt = 16 → wbX11_isAct_362 v1 v2 v3 h Q)
set_option maxRecDepth 100000 in
theorem abX11_isAct_111 (l : Launch) (G : aG) (d : Nat) (hG : a_GT G) (hd : 3 ≤ d) {Q : Int32 → aH → Prop} (s0 : Int32) (h : aH) (hw : wbX11_isAct_111 s0 h Q) : AW l G d 0 0 mX11_isAct (qI Q) 111 [] [.int s0] h := by
  unfold wbX11_isAct_111 at hw
  exact aw_iret dX11_isAct_111 rfl (a_nB hw.1) ⟨_, rfl, hw.2⟩
set_option maxRecDepth 100000 in
theorem abX11_isAct_110 (l : Launch) (G : aG) (d : Nat) (hG : a_GT G) (hd : 3 ≤ d) {Q : Int32 → aH → Prop} (h : aH) (hw : wbX11_isAct_110  h Q) : AW l G d 0 0 mX11_isAct (qI Q) 110 [] [] h := by
  unfold wbX11_isAct_110 at hw
  refine aw_iconst (v := 0) dX11_isAct_110 (by decide) ?_
  exact abX11_isAct_111 l G d hG hd _ _ hw
set_option maxRecDepth 100000 in
theorem abX11_isAct_112 (l : Launch) (G : aG) (d : Nat) (hG : a_GT G) (hd : 3 ≤ d) {Q : Int32 → aH → Prop} (v1 : Int32) (h : aH) (hw : wbX11_isAct_112 v1 h Q) : AW l G d 0 0 mX11_isAct (qI Q) 112 [(1, .int v1)] [] h := by
  unfold wbX11_isAct_112 at hw
  refine aw_iload_n 0 dX11_isAct_112 rfl rfl ?_
  refine aw_staticI (As := [.int v1]) (rest := []) dX11_isAct_113 (acX11_isSlot l G (d - 1) hG (by omega) hw) iX11_isSlot rfl k_1077 k_1078 (by omega) (by decide) (by decide) rfl (Nat.le_of_ble_eq_true rfl) (fun r2 h1 hw => ?_)
  exact aw_iret dX11_isAct_116 rfl (a_nB hw.1) ⟨_, rfl, hw.2⟩
set_option maxRecDepth 100000 in
theorem abX11_isAct_146 (l : Launch) (G : aG) (d : Nat) (hG : a_GT G) (hd : 3 ≤ d) {Q : Int32 → aH → Prop} (s0 : Int32) (h : aH) (hw : wbX11_isAct_146 s0 h Q) : AW l G d 0 0 mX11_isAct (qI Q) 146 [] [.int s0] h := by
  unfold wbX11_isAct_146 at hw
  exact aw_iret dX11_isAct_146 rfl (a_nB hw.1) ⟨_, rfl, hw.2⟩
set_option maxRecDepth 100000 in
theorem abX11_isAct_145 (l : Launch) (G : aG) (d : Nat) (hG : a_GT G) (hd : 3 ≤ d) {Q : Int32 → aH → Prop} (h : aH) (hw : wbX11_isAct_145  h Q) : AW l G d 0 0 mX11_isAct (qI Q) 145 [] [] h := by
  unfold wbX11_isAct_145 at hw
  refine aw_iconst (v := 0) dX11_isAct_145 (by decide) ?_
  exact abX11_isAct_146 l G d hG hd _ _ hw
set_option maxRecDepth 100000 in
theorem abX11_isAct_175 (l : Launch) (G : aG) (d : Nat) (hG : a_GT G) (hd : 3 ≤ d) {Q : Int32 → aH → Prop} (s0 : Int32) (h : aH) (hw : wbX11_isAct_175 s0 h Q) : AW l G d 0 0 mX11_isAct (qI Q) 175 [] [.int s0] h := by
  unfold wbX11_isAct_175 at hw
  exact aw_iret dX11_isAct_175 rfl (a_nB hw.1) ⟨_, rfl, hw.2⟩
set_option maxRecDepth 100000 in
theorem abX11_isAct_174 (l : Launch) (G : aG) (d : Nat) (hG : a_GT G) (hd : 3 ≤ d) {Q : Int32 → aH → Prop} (h : aH) (hw : wbX11_isAct_174  h Q) : AW l G d 0 0 mX11_isAct (qI Q) 174 [] [] h := by
  unfold wbX11_isAct_174 at hw
  refine aw_iconst (v := 0) dX11_isAct_174 (by decide) ?_
  exact abX11_isAct_175 l G d hG hd _ _ hw
set_option maxRecDepth 100000 in
theorem abX11_isAct_205 (l : Launch) (G : aG) (d : Nat) (hG : a_GT G) (hd : 3 ≤ d) {Q : Int32 → aH → Prop} (s0 : Int32) (h : aH) (hw : wbX11_isAct_205 s0 h Q) : AW l G d 0 0 mX11_isAct (qI Q) 205 [] [.int s0] h := by
  unfold wbX11_isAct_205 at hw
  exact aw_iret dX11_isAct_205 rfl (a_nB hw.1) ⟨_, rfl, hw.2⟩
set_option maxRecDepth 100000 in
theorem abX11_isAct_204 (l : Launch) (G : aG) (d : Nat) (hG : a_GT G) (hd : 3 ≤ d) {Q : Int32 → aH → Prop} (h : aH) (hw : wbX11_isAct_204  h Q) : AW l G d 0 0 mX11_isAct (qI Q) 204 [] [] h := by
  unfold wbX11_isAct_204 at hw
  refine aw_iconst (v := 0) dX11_isAct_204 (by decide) ?_
  exact abX11_isAct_205 l G d hG hd _ _ hw
set_option maxRecDepth 100000 in
theorem abX11_isAct_235 (l : Launch) (G : aG) (d : Nat) (hG : a_GT G) (hd : 3 ≤ d) {Q : Int32 → aH → Prop} (s0 : Int32) (h : aH) (hw : wbX11_isAct_235 s0 h Q) : AW l G d 0 0 mX11_isAct (qI Q) 235 [] [.int s0] h := by
  unfold wbX11_isAct_235 at hw
  exact aw_iret dX11_isAct_235 rfl (a_nB hw.1) ⟨_, rfl, hw.2⟩
set_option maxRecDepth 100000 in
theorem abX11_isAct_234 (l : Launch) (G : aG) (d : Nat) (hG : a_GT G) (hd : 3 ≤ d) {Q : Int32 → aH → Prop} (h : aH) (hw : wbX11_isAct_234  h Q) : AW l G d 0 0 mX11_isAct (qI Q) 234 [] [] h := by
  unfold wbX11_isAct_234 at hw
  refine aw_iconst (v := 0) dX11_isAct_234 (by decide) ?_
  exact abX11_isAct_235 l G d hG hd _ _ hw
set_option maxRecDepth 100000 in
theorem abX11_isAct_266 (l : Launch) (G : aG) (d : Nat) (hG : a_GT G) (hd : 3 ≤ d) {Q : Int32 → aH → Prop} (s0 : Int32) (h : aH) (hw : wbX11_isAct_266 s0 h Q) : AW l G d 0 0 mX11_isAct (qI Q) 266 [] [.int s0] h := by
  unfold wbX11_isAct_266 at hw
  exact aw_iret dX11_isAct_266 rfl (a_nB hw.1) ⟨_, rfl, hw.2⟩
set_option maxRecDepth 100000 in
theorem abX11_isAct_265 (l : Launch) (G : aG) (d : Nat) (hG : a_GT G) (hd : 3 ≤ d) {Q : Int32 → aH → Prop} (h : aH) (hw : wbX11_isAct_265  h Q) : AW l G d 0 0 mX11_isAct (qI Q) 265 [] [] h := by
  unfold wbX11_isAct_265 at hw
  refine aw_iconst (v := 0) dX11_isAct_265 (by decide) ?_
  exact abX11_isAct_266 l G d hG hd _ _ hw
set_option maxRecDepth 100000 in
theorem abX11_isAct_296 (l : Launch) (G : aG) (d : Nat) (hG : a_GT G) (hd : 3 ≤ d) {Q : Int32 → aH → Prop} (s0 : Int32) (h : aH) (hw : wbX11_isAct_296 s0 h Q) : AW l G d 0 0 mX11_isAct (qI Q) 296 [] [.int s0] h := by
  unfold wbX11_isAct_296 at hw
  exact aw_iret dX11_isAct_296 rfl (a_nB hw.1) ⟨_, rfl, hw.2⟩
set_option maxRecDepth 100000 in
theorem abX11_isAct_295 (l : Launch) (G : aG) (d : Nat) (hG : a_GT G) (hd : 3 ≤ d) {Q : Int32 → aH → Prop} (h : aH) (hw : wbX11_isAct_295  h Q) : AW l G d 0 0 mX11_isAct (qI Q) 295 [] [] h := by
  unfold wbX11_isAct_295 at hw
  refine aw_iconst (v := 0) dX11_isAct_295 (by decide) ?_
  exact abX11_isAct_296 l G d hG hd _ _ hw
set_option maxRecDepth 100000 in
theorem abX11_isAct_316 (l : Launch) (G : aG) (d : Nat) (hG : a_GT G) (hd : 3 ≤ d) {Q : Int32 → aH → Prop} (s0 : Int32) (h : aH) (hw : wbX11_isAct_316 s0 h Q) : AW l G d 0 0 mX11_isAct (qI Q) 316 [] [.int s0] h := by
  unfold wbX11_isAct_316 at hw
  exact aw_iret dX11_isAct_316 rfl (a_nB hw.1) ⟨_, rfl, hw.2⟩
set_option maxRecDepth 100000 in
theorem abX11_isAct_315 (l : Launch) (G : aG) (d : Nat) (hG : a_GT G) (hd : 3 ≤ d) {Q : Int32 → aH → Prop} (h : aH) (hw : wbX11_isAct_315  h Q) : AW l G d 0 0 mX11_isAct (qI Q) 315 [] [] h := by
  unfold wbX11_isAct_315 at hw
  refine aw_iconst (v := 0) dX11_isAct_315 (by decide) ?_
  exact abX11_isAct_316 l G d hG hd _ _ hw
set_option maxRecDepth 100000 in
theorem abX11_isAct_336 (l : Launch) (G : aG) (d : Nat) (hG : a_GT G) (hd : 3 ≤ d) {Q : Int32 → aH → Prop} (s0 : Int32) (h : aH) (hw : wbX11_isAct_336 s0 h Q) : AW l G d 0 0 mX11_isAct (qI Q) 336 [] [.int s0] h := by
  unfold wbX11_isAct_336 at hw
  exact aw_iret dX11_isAct_336 rfl (a_nB hw.1) ⟨_, rfl, hw.2⟩
set_option maxRecDepth 100000 in
theorem abX11_isAct_335 (l : Launch) (G : aG) (d : Nat) (hG : a_GT G) (hd : 3 ≤ d) {Q : Int32 → aH → Prop} (h : aH) (hw : wbX11_isAct_335  h Q) : AW l G d 0 0 mX11_isAct (qI Q) 335 [] [] h := by
  unfold wbX11_isAct_335 at hw
  refine aw_iconst (v := 0) dX11_isAct_335 (by decide) ?_
  exact abX11_isAct_336 l G d hG hd _ _ hw
set_option maxRecDepth 100000 in
theorem abX11_isAct_356 (l : Launch) (G : aG) (d : Nat) (hG : a_GT G) (hd : 3 ≤ d) {Q : Int32 → aH → Prop} (s0 : Int32) (h : aH) (hw : wbX11_isAct_356 s0 h Q) : AW l G d 0 0 mX11_isAct (qI Q) 356 [] [.int s0] h := by
  unfold wbX11_isAct_356 at hw
  exact aw_iret dX11_isAct_356 rfl (a_nB hw.1) ⟨_, rfl, hw.2⟩
set_option maxRecDepth 100000 in
theorem abX11_isAct_355 (l : Launch) (G : aG) (d : Nat) (hG : a_GT G) (hd : 3 ≤ d) {Q : Int32 → aH → Prop} (h : aH) (hw : wbX11_isAct_355  h Q) : AW l G d 0 0 mX11_isAct (qI Q) 355 [] [] h := by
  unfold wbX11_isAct_355 at hw
  refine aw_iconst (v := 0) dX11_isAct_355 (by decide) ?_
  exact abX11_isAct_356 l G d hG hd _ _ hw
set_option maxRecDepth 100000 in
theorem abX11_isAct_388 (l : Launch) (G : aG) (d : Nat) (hG : a_GT G) (hd : 3 ≤ d) {Q : Int32 → aH → Prop} (s0 : Int32) (h : aH) (hw : wbX11_isAct_388 s0 h Q) : AW l G d 0 0 mX11_isAct (qI Q) 388 [] [.int s0] h := by
  unfold wbX11_isAct_388 at hw
  exact aw_iret dX11_isAct_388 rfl (a_nB hw.1) ⟨_, rfl, hw.2⟩
set_option maxRecDepth 100000 in
theorem abX11_isAct_387 (l : Launch) (G : aG) (d : Nat) (hG : a_GT G) (hd : 3 ≤ d) {Q : Int32 → aH → Prop} (h : aH) (hw : wbX11_isAct_387  h Q) : AW l G d 0 0 mX11_isAct (qI Q) 387 [] [] h := by
  unfold wbX11_isAct_387 at hw
  refine aw_iconst (v := 0) dX11_isAct_387 (by decide) ?_
  exact abX11_isAct_388 l G d hG hd _ _ hw
set_option maxRecDepth 100000 in
theorem abX11_isAct_362 (l : Launch) (G : aG) (d : Nat) (hG : a_GT G) (hd : 3 ≤ d) {Q : Int32 → aH → Prop} (v1 : Int32) (v2 : Int32) (v3 : Int32) (h : aH) (hw : wbX11_isAct_362 v1 v2 v3 h Q) : AW l G d 0 0 mX11_isAct (qI Q) 362 [(1, .int v1), (2, .int v2), (3, .int v3)] [] h := by
  unfold wbX11_isAct_362 at hw
  refine aw_iload_n 0 dX11_isAct_362 rfl rfl ?_
  refine aw_staticI (As := [.int v1]) (rest := []) dX11_isAct_363 (acX11_isRegister l G (d - 1) hG (by omega) hw) iX11_isRegister rfl k_1083 k_1084 (by omega) (by decide) (by decide) rfl (Nat.le_of_ble_eq_true rfl) (fun r4 h3 hw => ?_)
  refine aw_if_eq (tgt := 387) dX11_isAct_366 (by decide) (fun z => ?_) (fun z => ?_)
  · have hw := hw.1 z
    refine aw_sub (lv' := []) [] rfl ?_
    exact abX11_isAct_387 l G d hG hd _ hw
  · have hw := hw.2 z
    refine aw_iload_n 1 dX11_isAct_369 rfl rfl ?_
    refine aw_staticI (As := [.int v2]) (rest := []) dX11_isAct_370 (acX11_isRegister l G (d - 1) hG (by omega) hw) iX11_isRegister rfl k_1083 k_1084 (by omega) (by decide) (by decide) rfl (Nat.le_of_ble_eq_true rfl) (fun r6 h5 hw => ?_)
    refine aw_if_eq (tgt := 387) dX11_isAct_373 (by decide) (fun z => ?_) (fun z => ?_)
    · have hw := hw.1 z
      refine aw_sub (lv' := []) [] rfl ?_
      exact abX11_isAct_387 l G d hG hd _ hw
    · have hw := hw.2 z
      refine aw_iload_n 2 dX11_isAct_376 rfl rfl ?_
      refine aw_staticI (As := [.int v3]) (rest := []) dX11_isAct_377 (acX11_isRegister l G (d - 1) hG (by omega) hw) iX11_isRegister rfl k_1083 k_1084 (by omega) (by decide) (by decide) rfl (Nat.le_of_ble_eq_true rfl) (fun r8 h7 hw => ?_)
      refine aw_if_eq (tgt := 387) dX11_isAct_380 (by decide) (fun z => ?_) (fun z => ?_)
      · have hw := hw.1 z
        refine aw_sub (lv' := []) [] rfl ?_
        exact abX11_isAct_387 l G d hG hd _ hw
      · have hw := hw.2 z
        refine aw_iconst (v := 1) dX11_isAct_383 (by decide) ?_
        refine aw_goto (tgt := 388) dX11_isAct_384 (by decide) ?_
        refine aw_sub (lv' := []) [] rfl ?_
        exact abX11_isAct_388 l G d hG hd _ _ hw
set_option maxRecDepth 100000 in
theorem abX11_isAct_400 (l : Launch) (G : aG) (d : Nat) (hG : a_GT G) (hd : 3 ≤ d) {Q : Int32 → aH → Prop} (s0 : Int32) (h : aH) (hw : wbX11_isAct_400 s0 h Q) : AW l G d 0 0 mX11_isAct (qI Q) 400 [] [.int s0] h := by
  unfold wbX11_isAct_400 at hw
  exact aw_iret dX11_isAct_400 rfl (a_nB hw.1) ⟨_, rfl, hw.2⟩
set_option maxRecDepth 100000 in
theorem acX11_isAct (l : Launch) (G : aG) (d : Nat) (hG : a_GT G) (hd : 3 ≤ d) {Q : Int32 → aH → Prop} {h : aH} {v0 : Int32} {v1 : Int32} {v2 : Int32} {v3 : Int32} {v4 : Int32} (hw : wX11_isAct h v0 v1 v2 v3 v4 Q) : AC l G d 0 0 mX11_isAct [.int v0, .int v1, .int v2, .int v3, .int v4] h (qI Q) := by
  refine ac_of iX11_isAct (Nat.le_of_ble_eq_true rfl) ?_
  show AW l G d 0 0 mX11_isAct (qI Q) 0 [(0, .int v0), (1, .int v1), (2, .int v2), (3, .int v3), (4, .int v4)] [] h
  unfold wX11_isAct at hw
  refine aw_iload_n 0 dX11_isAct_0 rfl rfl ?_
  by_cases zo : v0.toInt < 0 ∨ 16 < v0.toInt
  · have hw := hw.1 zo
    refine aw_tableOut (tgt := 389) dX11_isAct_1 zo (by decide) ?_
    refine aw_iload_n 0 dX11_isAct_389 rfl rfl ?_
    refine aw_bipush (v := 17) dX11_isAct_390 (by decide) ?_
    refine aw_icmp_ne (tgt := 399) dX11_isAct_392 (by decide) (fun z => ?_) (fun z => ?_)
    · have hw := hw.1 z
      refine aw_iconst (v := 0) dX11_isAct_399 (by decide) ?_
      refine aw_sub (lv' := []) [] rfl ?_
      exact abX11_isAct_400 l G d hG hd _ _ hw
    · have hw := hw.2 z
      refine aw_iconst (v := 1) dX11_isAct_395 (by decide) ?_
      refine aw_goto (tgt := 400) dX11_isAct_396 (by decide) ?_
      refine aw_sub (lv' := []) [] rfl ?_
      exact abX11_isAct_400 l G d hG hd _ _ hw
  · have hw := hw.2
    have z : v0.toInt = 0 ∨ v0.toInt = 1 ∨ v0.toInt = 2 ∨ v0.toInt = 3 ∨ v0.toInt = 4 ∨ v0.toInt = 5 ∨ v0.toInt = 6 ∨ v0.toInt = 7 ∨ v0.toInt = 8 ∨ v0.toInt = 9 ∨ v0.toInt = 10 ∨ v0.toInt = 11 ∨ v0.toInt = 12 ∨ v0.toInt = 13 ∨ v0.toInt = 14 ∨ v0.toInt = 15 ∨ v0.toInt = 16 := by omega
    rcases z with z | z | z | z | z | z | z | z | z | z | z | z | z | z | z | z | z
    · have hw := hw.1 z
      refine aw_tableIn (off := 83) (tgt := 84) dX11_isAct_1 (by rw [z]; decide) (by rw [z]; decide) (by rw [z]; rfl) (by decide) ?_
      refine aw_iload_n 1 dX11_isAct_84 rfl rfl ?_
      refine aw_staticI (As := [.int v1]) (rest := []) dX11_isAct_85 (acX11_isSlot l G (d - 1) hG (by omega) hw) iX11_isSlot rfl k_1077 k_1078 (by omega) (by decide) (by decide) rfl (Nat.le_of_ble_eq_true rfl) (fun r10 h9 hw => ?_)
      refine aw_if_eq (tgt := 110) dX11_isAct_88 (by decide) (fun z => ?_) (fun z => ?_)
      · have hw := hw.1 z
        refine aw_sub (lv' := []) [] rfl ?_
        exact abX11_isAct_110 l G d hG hd _ hw
      · have hw := hw.2 z
        refine aw_iload_n 2 dX11_isAct_91 rfl rfl ?_
        refine aw_iconst (v := 1) dX11_isAct_92 (by decide) ?_
        refine aw_bipush (v := 7) dX11_isAct_93 (by decide) ?_
        refine aw_staticI (As := [.int v2, .int 1, .int 7]) (rest := []) dX11_isAct_95 (acX11_in l G (d - 1) hG (by omega) hw) iX11_in rfl k_1080 k_1081 (by omega) (by decide) (by decide) rfl (Nat.le_of_ble_eq_true rfl) (fun r12 h11 hw => ?_)
        refine aw_if_eq (tgt := 110) dX11_isAct_98 (by decide) (fun z => ?_) (fun z => ?_)
        · have hw := hw.1 z
          refine aw_sub (lv' := []) [] rfl ?_
          exact abX11_isAct_110 l G d hG hd _ hw
        · have hw := hw.2 z
          refine aw_iload_n 2 dX11_isAct_101 rfl rfl ?_
          refine aw_iconst (v := 5) dX11_isAct_102 (by decide) ?_
          refine aw_icmp_eq (tgt := 110) dX11_isAct_103 (by decide) (fun z => ?_) (fun z => ?_)
          · have hw := hw.1 z
            refine aw_sub (lv' := []) [] rfl ?_
            exact abX11_isAct_110 l G d hG hd _ hw
          · have hw := hw.2 z
            refine aw_iconst (v := 1) dX11_isAct_106 (by decide) ?_
            refine aw_goto (tgt := 111) dX11_isAct_107 (by decide) ?_
            refine aw_sub (lv' := []) [] rfl ?_
            exact abX11_isAct_111 l G d hG hd _ _ hw
    · have hw := hw.2.1 z
      refine aw_tableIn (off := 111) (tgt := 112) dX11_isAct_1 (by rw [z]; decide) (by rw [z]; decide) (by rw [z]; rfl) (by decide) ?_
      refine aw_sub (lv' := [(1, .int v1)]) [1] rfl ?_
      exact abX11_isAct_112 l G d hG hd _ _ hw
    · have hw := hw.2.2.1 z
      refine aw_tableIn (off := 111) (tgt := 112) dX11_isAct_1 (by rw [z]; decide) (by rw [z]; decide) (by rw [z]; rfl) (by decide) ?_
      refine aw_sub (lv' := [(1, .int v1)]) [1] rfl ?_
      exact abX11_isAct_112 l G d hG hd _ _ hw
    · have hw := hw.2.2.2.1 z
      refine aw_tableIn (off := 111) (tgt := 112) dX11_isAct_1 (by rw [z]; decide) (by rw [z]; decide) (by rw [z]; rfl) (by decide) ?_
      refine aw_sub (lv' := [(1, .int v1)]) [1] rfl ?_
      exact abX11_isAct_112 l G d hG hd _ _ hw
    · have hw := hw.2.2.2.2.1 z
      refine aw_tableIn (off := 116) (tgt := 117) dX11_isAct_1 (by rw [z]; decide) (by rw [z]; decide) (by rw [z]; rfl) (by decide) ?_
      refine aw_iload_n 1 dX11_isAct_117 rfl rfl ?_
      refine aw_staticI (As := [.int v1]) (rest := []) dX11_isAct_118 (acX11_isSlot l G (d - 1) hG (by omega) hw) iX11_isSlot rfl k_1077 k_1078 (by omega) (by decide) (by decide) rfl (Nat.le_of_ble_eq_true rfl) (fun r14 h13 hw => ?_)
      refine aw_if_eq (tgt := 145) dX11_isAct_121 (by decide) (fun z => ?_) (fun z => ?_)
      · have hw := hw.1 z
        refine aw_sub (lv' := []) [] rfl ?_
        exact abX11_isAct_145 l G d hG hd _ hw
      · have hw := hw.2 z
        refine aw_iload_n 2 dX11_isAct_124 rfl rfl ?_
        refine aw_staticI (As := [.int v2]) (rest := []) dX11_isAct_125 (acX11_isSlot l G (d - 1) hG (by omega) hw) iX11_isSlot rfl k_1077 k_1078 (by omega) (by decide) (by decide) rfl (Nat.le_of_ble_eq_true rfl) (fun r16 h15 hw => ?_)
        refine aw_if_eq (tgt := 145) dX11_isAct_128 (by decide) (fun z => ?_) (fun z => ?_)
        · have hw := hw.1 z
          refine aw_sub (lv' := []) [] rfl ?_
          exact abX11_isAct_145 l G d hG hd _ hw
        · have hw := hw.2 z
          refine aw_iload_n 3 dX11_isAct_131 rfl rfl ?_
          refine aw_iconst (v := 0) dX11_isAct_132 (by decide) ?_
          refine aw_bipush (v := 9) dX11_isAct_133 (by decide) ?_
          refine aw_staticI (As := [.int v3, .int 0, .int 9]) (rest := []) dX11_isAct_135 (acX11_in l G (d - 1) hG (by omega) hw) iX11_in rfl k_1080 k_1081 (by omega) (by decide) (by decide) rfl (Nat.le_of_ble_eq_true rfl) (fun r18 h17 hw => ?_)
          refine aw_if_eq (tgt := 145) dX11_isAct_138 (by decide) (fun z => ?_) (fun z => ?_)
          · have hw := hw.1 z
            refine aw_sub (lv' := []) [] rfl ?_
            exact abX11_isAct_145 l G d hG hd _ hw
          · have hw := hw.2 z
            refine aw_iconst (v := 1) dX11_isAct_141 (by decide) ?_
            refine aw_goto (tgt := 146) dX11_isAct_142 (by decide) ?_
            refine aw_sub (lv' := []) [] rfl ?_
            exact abX11_isAct_146 l G d hG hd _ _ hw
    · have hw := hw.2.2.2.2.2.1 z
      refine aw_tableIn (off := 146) (tgt := 147) dX11_isAct_1 (by rw [z]; decide) (by rw [z]; decide) (by rw [z]; rfl) (by decide) ?_
      refine aw_iload_n 1 dX11_isAct_147 rfl rfl ?_
      refine aw_staticI (As := [.int v1]) (rest := []) dX11_isAct_148 (acX11_isRegister l G (d - 1) hG (by omega) hw) iX11_isRegister rfl k_1083 k_1084 (by omega) (by decide) (by decide) rfl (Nat.le_of_ble_eq_true rfl) (fun r20 h19 hw => ?_)
      refine aw_if_eq (tgt := 174) dX11_isAct_151 (by decide) (fun z => ?_) (fun z => ?_)
      · have hw := hw.1 z
        refine aw_sub (lv' := []) [] rfl ?_
        exact abX11_isAct_174 l G d hG hd _ hw
      · have hw := hw.2 z
        refine aw_iload_n 2 dX11_isAct_154 rfl rfl ?_
        refine aw_staticI (As := [.int v2]) (rest := []) dX11_isAct_155 (acX11_isSlot l G (d - 1) hG (by omega) hw) iX11_isSlot rfl k_1077 k_1078 (by omega) (by decide) (by decide) rfl (Nat.le_of_ble_eq_true rfl) (fun r22 h21 hw => ?_)
        refine aw_if_eq (tgt := 174) dX11_isAct_158 (by decide) (fun z => ?_) (fun z => ?_)
        · have hw := hw.1 z
          refine aw_sub (lv' := []) [] rfl ?_
          exact abX11_isAct_174 l G d hG hd _ hw
        · have hw := hw.2 z
          refine aw_iload_n 3 dX11_isAct_161 rfl rfl ?_
          refine aw_iconst (v := 1) dX11_isAct_162 (by decide) ?_
          refine aw_iconst (v := 4) dX11_isAct_163 (by decide) ?_
          refine aw_staticI (As := [.int v3, .int 1, .int 4]) (rest := []) dX11_isAct_164 (acX11_in l G (d - 1) hG (by omega) hw) iX11_in rfl k_1080 k_1081 (by omega) (by decide) (by decide) rfl (Nat.le_of_ble_eq_true rfl) (fun r24 h23 hw => ?_)
          refine aw_if_eq (tgt := 174) dX11_isAct_167 (by decide) (fun z => ?_) (fun z => ?_)
          · have hw := hw.1 z
            refine aw_sub (lv' := []) [] rfl ?_
            exact abX11_isAct_174 l G d hG hd _ hw
          · have hw := hw.2 z
            refine aw_iconst (v := 1) dX11_isAct_170 (by decide) ?_
            refine aw_goto (tgt := 175) dX11_isAct_171 (by decide) ?_
            refine aw_sub (lv' := []) [] rfl ?_
            exact abX11_isAct_175 l G d hG hd _ _ hw
    · have hw := hw.2.2.2.2.2.2.1 z
      refine aw_tableIn (off := 175) (tgt := 176) dX11_isAct_1 (by rw [z]; decide) (by rw [z]; decide) (by rw [z]; rfl) (by decide) ?_
      refine aw_iload_n 1 dX11_isAct_176 rfl rfl ?_
      refine aw_staticI (As := [.int v1]) (rest := []) dX11_isAct_177 (acX11_isSlot l G (d - 1) hG (by omega) hw) iX11_isSlot rfl k_1077 k_1078 (by omega) (by decide) (by decide) rfl (Nat.le_of_ble_eq_true rfl) (fun r26 h25 hw => ?_)
      refine aw_if_eq (tgt := 204) dX11_isAct_180 (by decide) (fun z => ?_) (fun z => ?_)
      · have hw := hw.1 z
        refine aw_sub (lv' := []) [] rfl ?_
        exact abX11_isAct_204 l G d hG hd _ hw
      · have hw := hw.2 z
        refine aw_iload_n 2 dX11_isAct_183 rfl rfl ?_
        refine aw_iconst (v := 1) dX11_isAct_184 (by decide) ?_
        refine aw_iconst (v := 4) dX11_isAct_185 (by decide) ?_
        refine aw_staticI (As := [.int v2, .int 1, .int 4]) (rest := []) dX11_isAct_186 (acX11_in l G (d - 1) hG (by omega) hw) iX11_in rfl k_1080 k_1081 (by omega) (by decide) (by decide) rfl (Nat.le_of_ble_eq_true rfl) (fun r28 h27 hw => ?_)
        refine aw_if_eq (tgt := 204) dX11_isAct_189 (by decide) (fun z => ?_) (fun z => ?_)
        · have hw := hw.1 z
          refine aw_sub (lv' := []) [] rfl ?_
          exact abX11_isAct_204 l G d hG hd _ hw
        · have hw := hw.2 z
          refine aw_iload 4 dX11_isAct_192 rfl ?_
          refine aw_staticI (As := [.int v4]) (rest := []) dX11_isAct_194 (acX11_isRegister l G (d - 1) hG (by omega) hw) iX11_isRegister rfl k_1083 k_1084 (by omega) (by decide) (by decide) rfl (Nat.le_of_ble_eq_true rfl) (fun r30 h29 hw => ?_)
          refine aw_if_eq (tgt := 204) dX11_isAct_197 (by decide) (fun z => ?_) (fun z => ?_)
          · have hw := hw.1 z
            refine aw_sub (lv' := []) [] rfl ?_
            exact abX11_isAct_204 l G d hG hd _ hw
          · have hw := hw.2 z
            refine aw_iconst (v := 1) dX11_isAct_200 (by decide) ?_
            refine aw_goto (tgt := 205) dX11_isAct_201 (by decide) ?_
            refine aw_sub (lv' := []) [] rfl ?_
            exact abX11_isAct_205 l G d hG hd _ _ hw
    · have hw := hw.2.2.2.2.2.2.2.1 z
      refine aw_tableIn (off := 205) (tgt := 206) dX11_isAct_1 (by rw [z]; decide) (by rw [z]; decide) (by rw [z]; rfl) (by decide) ?_
      refine aw_iload_n 1 dX11_isAct_206 rfl rfl ?_
      refine aw_staticI (As := [.int v1]) (rest := []) dX11_isAct_207 (acX11_isSlot l G (d - 1) hG (by omega) hw) iX11_isSlot rfl k_1077 k_1078 (by omega) (by decide) (by decide) rfl (Nat.le_of_ble_eq_true rfl) (fun r32 h31 hw => ?_)
      refine aw_if_eq (tgt := 234) dX11_isAct_210 (by decide) (fun z => ?_) (fun z => ?_)
      · have hw := hw.1 z
        refine aw_sub (lv' := []) [] rfl ?_
        exact abX11_isAct_234 l G d hG hd _ hw
      · have hw := hw.2 z
        refine aw_iload_n 2 dX11_isAct_213 rfl rfl ?_
        refine aw_staticI (As := [.int v2]) (rest := []) dX11_isAct_214 (acX11_isSlot l G (d - 1) hG (by omega) hw) iX11_isSlot rfl k_1077 k_1078 (by omega) (by decide) (by decide) rfl (Nat.le_of_ble_eq_true rfl) (fun r34 h33 hw => ?_)
        refine aw_if_eq (tgt := 234) dX11_isAct_217 (by decide) (fun z => ?_) (fun z => ?_)
        · have hw := hw.1 z
          refine aw_sub (lv' := []) [] rfl ?_
          exact abX11_isAct_234 l G d hG hd _ hw
        · have hw := hw.2 z
          refine aw_iload_n 3 dX11_isAct_220 rfl rfl ?_
          refine aw_iconst (v := 5) dX11_isAct_221 (by decide) ?_
          refine aw_bipush (v := 7) dX11_isAct_222 (by decide) ?_
          refine aw_staticI (As := [.int v3, .int 5, .int 7]) (rest := []) dX11_isAct_224 (acX11_in l G (d - 1) hG (by omega) hw) iX11_in rfl k_1080 k_1081 (by omega) (by decide) (by decide) rfl (Nat.le_of_ble_eq_true rfl) (fun r36 h35 hw => ?_)
          refine aw_if_eq (tgt := 234) dX11_isAct_227 (by decide) (fun z => ?_) (fun z => ?_)
          · have hw := hw.1 z
            refine aw_sub (lv' := []) [] rfl ?_
            exact abX11_isAct_234 l G d hG hd _ hw
          · have hw := hw.2 z
            refine aw_iconst (v := 1) dX11_isAct_230 (by decide) ?_
            refine aw_goto (tgt := 235) dX11_isAct_231 (by decide) ?_
            refine aw_sub (lv' := []) [] rfl ?_
            exact abX11_isAct_235 l G d hG hd _ _ hw
    · have hw := hw.2.2.2.2.2.2.2.2.1 z
      refine aw_tableIn (off := 235) (tgt := 236) dX11_isAct_1 (by rw [z]; decide) (by rw [z]; decide) (by rw [z]; rfl) (by decide) ?_
      refine aw_iload_n 1 dX11_isAct_236 rfl rfl ?_
      refine aw_staticI (As := [.int v1]) (rest := []) dX11_isAct_237 (acX11_isSlot l G (d - 1) hG (by omega) hw) iX11_isSlot rfl k_1077 k_1078 (by omega) (by decide) (by decide) rfl (Nat.le_of_ble_eq_true rfl) (fun r38 h37 hw => ?_)
      refine aw_if_eq (tgt := 265) dX11_isAct_240 (by decide) (fun z => ?_) (fun z => ?_)
      · have hw := hw.1 z
        refine aw_sub (lv' := []) [] rfl ?_
        exact abX11_isAct_265 l G d hG hd _ hw
      · have hw := hw.2 z
        refine aw_iload_n 2 dX11_isAct_243 rfl rfl ?_
        refine aw_iconst (v := 5) dX11_isAct_244 (by decide) ?_
        refine aw_bipush (v := 7) dX11_isAct_245 (by decide) ?_
        refine aw_staticI (As := [.int v2, .int 5, .int 7]) (rest := []) dX11_isAct_247 (acX11_in l G (d - 1) hG (by omega) hw) iX11_in rfl k_1080 k_1081 (by omega) (by decide) (by decide) rfl (Nat.le_of_ble_eq_true rfl) (fun r40 h39 hw => ?_)
        refine aw_if_eq (tgt := 265) dX11_isAct_250 (by decide) (fun z => ?_) (fun z => ?_)
        · have hw := hw.1 z
          refine aw_sub (lv' := []) [] rfl ?_
          exact abX11_isAct_265 l G d hG hd _ hw
        · have hw := hw.2 z
          refine aw_iload 4 dX11_isAct_253 rfl ?_
          refine aw_staticI (As := [.int v4]) (rest := []) dX11_isAct_255 (acX11_isSlot l G (d - 1) hG (by omega) hw) iX11_isSlot rfl k_1077 k_1078 (by omega) (by decide) (by decide) rfl (Nat.le_of_ble_eq_true rfl) (fun r42 h41 hw => ?_)
          refine aw_if_eq (tgt := 265) dX11_isAct_258 (by decide) (fun z => ?_) (fun z => ?_)
          · have hw := hw.1 z
            refine aw_sub (lv' := []) [] rfl ?_
            exact abX11_isAct_265 l G d hG hd _ hw
          · have hw := hw.2 z
            refine aw_iconst (v := 1) dX11_isAct_261 (by decide) ?_
            refine aw_goto (tgt := 266) dX11_isAct_262 (by decide) ?_
            refine aw_sub (lv' := []) [] rfl ?_
            exact abX11_isAct_266 l G d hG hd _ _ hw
    · have hw := hw.2.2.2.2.2.2.2.2.2.1 z
      refine aw_tableIn (off := 266) (tgt := 267) dX11_isAct_1 (by rw [z]; decide) (by rw [z]; decide) (by rw [z]; rfl) (by decide) ?_
      refine aw_iload_n 1 dX11_isAct_267 rfl rfl ?_
      refine aw_staticI (As := [.int v1]) (rest := []) dX11_isAct_268 (acX11_isRegister l G (d - 1) hG (by omega) hw) iX11_isRegister rfl k_1083 k_1084 (by omega) (by decide) (by decide) rfl (Nat.le_of_ble_eq_true rfl) (fun r44 h43 hw => ?_)
      refine aw_if_eq (tgt := 295) dX11_isAct_271 (by decide) (fun z => ?_) (fun z => ?_)
      · have hw := hw.1 z
        refine aw_sub (lv' := []) [] rfl ?_
        exact abX11_isAct_295 l G d hG hd _ hw
      · have hw := hw.2 z
        refine aw_iload_n 2 dX11_isAct_274 rfl rfl ?_
        refine aw_staticI (As := [.int v2]) (rest := []) dX11_isAct_275 (acX11_isSlot l G (d - 1) hG (by omega) hw) iX11_isSlot rfl k_1077 k_1078 (by omega) (by decide) (by decide) rfl (Nat.le_of_ble_eq_true rfl) (fun r46 h45 hw => ?_)
        refine aw_if_eq (tgt := 295) dX11_isAct_278 (by decide) (fun z => ?_) (fun z => ?_)
        · have hw := hw.1 z
          refine aw_sub (lv' := []) [] rfl ?_
          exact abX11_isAct_295 l G d hG hd _ hw
        · have hw := hw.2 z
          refine aw_iload_n 3 dX11_isAct_281 rfl rfl ?_
          refine aw_iconst (v := 1) dX11_isAct_282 (by decide) ?_
          refine aw_bipush (v := 7) dX11_isAct_283 (by decide) ?_
          refine aw_staticI (As := [.int v3, .int 1, .int 7]) (rest := []) dX11_isAct_285 (acX11_in l G (d - 1) hG (by omega) hw) iX11_in rfl k_1080 k_1081 (by omega) (by decide) (by decide) rfl (Nat.le_of_ble_eq_true rfl) (fun r48 h47 hw => ?_)
          refine aw_if_eq (tgt := 295) dX11_isAct_288 (by decide) (fun z => ?_) (fun z => ?_)
          · have hw := hw.1 z
            refine aw_sub (lv' := []) [] rfl ?_
            exact abX11_isAct_295 l G d hG hd _ hw
          · have hw := hw.2 z
            refine aw_iconst (v := 1) dX11_isAct_291 (by decide) ?_
            refine aw_goto (tgt := 296) dX11_isAct_292 (by decide) ?_
            refine aw_sub (lv' := []) [] rfl ?_
            exact abX11_isAct_296 l G d hG hd _ _ hw
    · have hw := hw.2.2.2.2.2.2.2.2.2.2.1 z
      refine aw_tableIn (off := 296) (tgt := 297) dX11_isAct_1 (by rw [z]; decide) (by rw [z]; decide) (by rw [z]; rfl) (by decide) ?_
      refine aw_iload_n 1 dX11_isAct_297 rfl rfl ?_
      refine aw_staticI (As := [.int v1]) (rest := []) dX11_isAct_298 (acX11_isSlot l G (d - 1) hG (by omega) hw) iX11_isSlot rfl k_1077 k_1078 (by omega) (by decide) (by decide) rfl (Nat.le_of_ble_eq_true rfl) (fun r50 h49 hw => ?_)
      refine aw_if_eq (tgt := 315) dX11_isAct_301 (by decide) (fun z => ?_) (fun z => ?_)
      · have hw := hw.1 z
        refine aw_sub (lv' := []) [] rfl ?_
        exact abX11_isAct_315 l G d hG hd _ hw
      · have hw := hw.2 z
        refine aw_iload_n 2 dX11_isAct_304 rfl rfl ?_
        refine aw_staticI (As := [.int v2]) (rest := []) dX11_isAct_305 (acX11_isSlot l G (d - 1) hG (by omega) hw) iX11_isSlot rfl k_1077 k_1078 (by omega) (by decide) (by decide) rfl (Nat.le_of_ble_eq_true rfl) (fun r52 h51 hw => ?_)
        refine aw_if_eq (tgt := 315) dX11_isAct_308 (by decide) (fun z => ?_) (fun z => ?_)
        · have hw := hw.1 z
          refine aw_sub (lv' := []) [] rfl ?_
          exact abX11_isAct_315 l G d hG hd _ hw
        · have hw := hw.2 z
          refine aw_iconst (v := 1) dX11_isAct_311 (by decide) ?_
          refine aw_goto (tgt := 316) dX11_isAct_312 (by decide) ?_
          refine aw_sub (lv' := []) [] rfl ?_
          exact abX11_isAct_316 l G d hG hd _ _ hw
    · have hw := hw.2.2.2.2.2.2.2.2.2.2.2.1 z
      refine aw_tableIn (off := 316) (tgt := 317) dX11_isAct_1 (by rw [z]; decide) (by rw [z]; decide) (by rw [z]; rfl) (by decide) ?_
      refine aw_iload_n 1 dX11_isAct_317 rfl rfl ?_
      refine aw_staticI (As := [.int v1]) (rest := []) dX11_isAct_318 (acX11_isRegister l G (d - 1) hG (by omega) hw) iX11_isRegister rfl k_1083 k_1084 (by omega) (by decide) (by decide) rfl (Nat.le_of_ble_eq_true rfl) (fun r54 h53 hw => ?_)
      refine aw_if_eq (tgt := 335) dX11_isAct_321 (by decide) (fun z => ?_) (fun z => ?_)
      · have hw := hw.1 z
        refine aw_sub (lv' := []) [] rfl ?_
        exact abX11_isAct_335 l G d hG hd _ hw
      · have hw := hw.2 z
        refine aw_iload_n 2 dX11_isAct_324 rfl rfl ?_
        refine aw_staticI (As := [.int v2]) (rest := []) dX11_isAct_325 (acX11_isSlot l G (d - 1) hG (by omega) hw) iX11_isSlot rfl k_1077 k_1078 (by omega) (by decide) (by decide) rfl (Nat.le_of_ble_eq_true rfl) (fun r56 h55 hw => ?_)
        refine aw_if_eq (tgt := 335) dX11_isAct_328 (by decide) (fun z => ?_) (fun z => ?_)
        · have hw := hw.1 z
          refine aw_sub (lv' := []) [] rfl ?_
          exact abX11_isAct_335 l G d hG hd _ hw
        · have hw := hw.2 z
          refine aw_iconst (v := 1) dX11_isAct_331 (by decide) ?_
          refine aw_goto (tgt := 336) dX11_isAct_332 (by decide) ?_
          refine aw_sub (lv' := []) [] rfl ?_
          exact abX11_isAct_336 l G d hG hd _ _ hw
    · have hw := hw.2.2.2.2.2.2.2.2.2.2.2.2.1 z
      refine aw_tableIn (off := 336) (tgt := 337) dX11_isAct_1 (by rw [z]; decide) (by rw [z]; decide) (by rw [z]; rfl) (by decide) ?_
      refine aw_iload_n 1 dX11_isAct_337 rfl rfl ?_
      refine aw_staticI (As := [.int v1]) (rest := []) dX11_isAct_338 (acX11_isSlot l G (d - 1) hG (by omega) hw) iX11_isSlot rfl k_1077 k_1078 (by omega) (by decide) (by decide) rfl (Nat.le_of_ble_eq_true rfl) (fun r58 h57 hw => ?_)
      refine aw_if_eq (tgt := 355) dX11_isAct_341 (by decide) (fun z => ?_) (fun z => ?_)
      · have hw := hw.1 z
        refine aw_sub (lv' := []) [] rfl ?_
        exact abX11_isAct_355 l G d hG hd _ hw
      · have hw := hw.2 z
        refine aw_iload_n 3 dX11_isAct_344 rfl rfl ?_
        refine aw_staticI (As := [.int v3]) (rest := []) dX11_isAct_345 (acX11_isSlot l G (d - 1) hG (by omega) hw) iX11_isSlot rfl k_1077 k_1078 (by omega) (by decide) (by decide) rfl (Nat.le_of_ble_eq_true rfl) (fun r60 h59 hw => ?_)
        refine aw_if_eq (tgt := 355) dX11_isAct_348 (by decide) (fun z => ?_) (fun z => ?_)
        · have hw := hw.1 z
          refine aw_sub (lv' := []) [] rfl ?_
          exact abX11_isAct_355 l G d hG hd _ hw
        · have hw := hw.2 z
          refine aw_iconst (v := 1) dX11_isAct_351 (by decide) ?_
          refine aw_goto (tgt := 356) dX11_isAct_352 (by decide) ?_
          refine aw_sub (lv' := []) [] rfl ?_
          exact abX11_isAct_356 l G d hG hd _ _ hw
    · have hw := hw.2.2.2.2.2.2.2.2.2.2.2.2.2.1 z
      refine aw_tableIn (off := 356) (tgt := 357) dX11_isAct_1 (by rw [z]; decide) (by rw [z]; decide) (by rw [z]; rfl) (by decide) ?_
      refine aw_iload_n 1 dX11_isAct_357 rfl rfl ?_
      refine aw_staticI (As := [.int v1]) (rest := []) dX11_isAct_358 (acX11_isRegister l G (d - 1) hG (by omega) hw) iX11_isRegister rfl k_1083 k_1084 (by omega) (by decide) (by decide) rfl (Nat.le_of_ble_eq_true rfl) (fun r62 h61 hw => ?_)
      exact aw_iret dX11_isAct_361 rfl (a_nB hw.1) ⟨_, rfl, hw.2⟩
    · have hw := hw.2.2.2.2.2.2.2.2.2.2.2.2.2.2.1 z
      refine aw_tableIn (off := 361) (tgt := 362) dX11_isAct_1 (by rw [z]; decide) (by rw [z]; decide) (by rw [z]; rfl) (by decide) ?_
      refine aw_sub (lv' := [(1, .int v1), (2, .int v2), (3, .int v3)]) [1, 2, 3] rfl ?_
      exact abX11_isAct_362 l G d hG hd _ _ _ _ hw
    · have hw := hw.2.2.2.2.2.2.2.2.2.2.2.2.2.2.2.1 z
      refine aw_tableIn (off := 361) (tgt := 362) dX11_isAct_1 (by rw [z]; decide) (by rw [z]; decide) (by rw [z]; rfl) (by decide) ?_
      refine aw_sub (lv' := [(1, .int v1), (2, .int v2), (3, .int v3)]) [1, 2, 3] rfl ?_
      exact abX11_isAct_362 l G d hG hd _ _ _ _ hw
    · have hw := hw.2.2.2.2.2.2.2.2.2.2.2.2.2.2.2.2 z
      refine aw_tableIn (off := 361) (tgt := 362) dX11_isAct_1 (by rw [z]; decide) (by rw [z]; decide) (by rw [z]; rfl) (by decide) ?_
      refine aw_sub (lv' := [(1, .int v1), (2, .int v2), (3, .int v3)]) [1, 2, 3] rfl ?_
      exact abX11_isAct_362 l G d hG hd _ _ _ _ hw
