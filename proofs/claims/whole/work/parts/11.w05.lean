-- X11_act
def wbX11_act_30 (s0 : Int32) (h : aH) (Q : Int32 → aH → Prop) : Prop :=
  Q s0 h
def wX11_act (h : aH) (v0 : Nat) (v1 : Int32) (v2 : Int32) (v3 : Int32) (v4 : Int32) (v5 : Int32) (Q : Int32 → aH → Prop) : Prop :=
  wX11_isAct h v1 v2 v3 v4 v5 (fun r2 h1 => (r2 = 0 → wbX11_act_30 ((-1)) h1 Q) ∧ (¬ r2 = 0 → isO h1 v0 9 (wX11_node h1 v0 0 v1 v2 v3 v4 v5 1 (fun r4 h3 => wbX11_act_30 r4 h3 Q))))
set_option maxRecDepth 100000 in
theorem abX11_act_30 (l : Launch) (G : aG) (d : Nat) (hG : a_GT G) (hd : 4 ≤ d) {Q : Int32 → aH → Prop} (s0 : Int32) (h : aH) (hw : wbX11_act_30 s0 h Q) : AW l G d 0 0 mX11_act (qI Q) 30 [] [.int s0] h := by
  unfold wbX11_act_30 at hw
  exact aw_iret dX11_act_30 rfl rfl ⟨_, rfl, hw⟩
set_option maxRecDepth 100000 in
theorem acX11_act (l : Launch) (G : aG) (d : Nat) (hG : a_GT G) (hd : 4 ≤ d) {Q : Int32 → aH → Prop} {h : aH} {v0 : Nat} {v1 : Int32} {v2 : Int32} {v3 : Int32} {v4 : Int32} {v5 : Int32} (hw : wX11_act h v0 v1 v2 v3 v4 v5 Q) : AC l G d 0 0 mX11_act [.ref v0, .int v1, .int v2, .int v3, .int v4, .int v5] h (qI Q) := by
  refine ac_of iX11_act (Nat.le_of_ble_eq_true rfl) ?_
  show AW l G d 0 0 mX11_act (qI Q) 0 [(0, .ref v0), (1, .int v1), (2, .int v2), (3, .int v3), (4, .int v4), (5, .int v5)] [] h
  unfold wX11_act at hw
  refine aw_iload_n 1 dX11_act_0 rfl rfl ?_
  refine aw_iload_n 2 dX11_act_1 rfl rfl ?_
  refine aw_iload_n 3 dX11_act_2 rfl rfl ?_
  refine aw_iload 4 dX11_act_3 rfl ?_
  refine aw_iload 5 dX11_act_5 rfl ?_
  refine aw_staticI (As := [.int v1, .int v2, .int v3, .int v4, .int v5]) (rest := []) dX11_act_7 (acX11_isAct l G (d - 1) hG (by omega) hw) iX11_isAct rfl k_1074 k_1075 (by omega) (by decide) (by decide) rfl (Nat.le_of_ble_eq_true rfl) (fun r2 h1 hw => ?_)
  refine aw_if_eq (tgt := 29) dX11_act_10 (by decide) (fun z => ?_) (fun z => ?_)
  · have hw := hw.1 z
    refine aw_iconst (v := (-1)) dX11_act_29 (by decide) ?_
    refine aw_sub (lv' := []) [] rfl ?_
    exact abX11_act_30 l G d hG hd _ _ hw
  · have hw := hw.2 z
    refine aw_aload_n 0 dX11_act_13 rfl rfl ?_
    refine aw_iconst (v := 0) dX11_act_14 (by decide) ?_
    refine aw_iload_n 1 dX11_act_15 rfl rfl ?_
    refine aw_iload_n 2 dX11_act_16 rfl rfl ?_
    refine aw_iload_n 3 dX11_act_17 rfl rfl ?_
    refine aw_iload 4 dX11_act_18 rfl ?_
    refine aw_iload 5 dX11_act_20 rfl ?_
    refine aw_iconst (v := 1) dX11_act_22 (by decide) ?_
    obtain ⟨_, h1, hw⟩ := hw
    refine aw_virtI (As := [.int 0, .int v1, .int v2, .int v3, .int v4, .int v5, .int 1]) (rest := []) dX11_act_23 (acX11_node l G (d - 1) hG (by omega) hw) iX11_node rfl k_1086 k_1088 k_43 rfl h1 (by omega) (by decide) (by decide) rfl (Nat.le_of_ble_eq_true rfl) (fun r4 h3 hw => ?_)
    refine aw_goto (tgt := 30) dX11_act_26 (by decide) ?_
    refine aw_sub (lv' := []) [] rfl ?_
    exact abX11_act_30 l G d hG hd _ _ hw
-- X11_both
def wbX11_both_45 (s0 : Int32) (h : aH) (Q : Int32 → aH → Prop) : Prop :=
  Q s0 h
def wbX11_both_44 (h : aH) (Q : Int32 → aH → Prop) : Prop :=
  wbX11_both_45 ((-1)) h Q
def wX11_both (h : aH) (v0 : Nat) (v1 : Int32) (v2 : Int32) (Q : Int32 → aH → Prop) : Prop :=
  isO h v0 9 (wX11_isNode h v0 v1 (fun r2 h1 => (r2 = 0 → wbX11_both_44 h1 Q) ∧ (¬ r2 = 0 → isO h1 v0 9 (wX11_isNode h1 v0 v2 (fun r4 h3 => (r4 = 0 → wbX11_both_44 h3 Q) ∧ (¬ r4 = 0 → rR h3 v0 9 16 (fun r5 => aI h3 r5 v1 (fun r7 => rR h3 v0 9 16 (fun r8 => aI h3 r8 v2 (fun r10 => isO h3 v0 9 (wX11_node h3 v0 1 0 v1 v2 0 0 (((1 + r7) + r10)) (fun r12 h11 => wbX11_both_45 r12 h11 Q))))))))))))
set_option maxRecDepth 100000 in
theorem abX11_both_45 (l : Launch) (G : aG) (d : Nat) (hG : a_GT G) (hd : 3 ≤ d) {Q : Int32 → aH → Prop} (s0 : Int32) (h : aH) (hw : wbX11_both_45 s0 h Q) : AW l G d 0 0 mX11_both (qI Q) 45 [] [.int s0] h := by
  unfold wbX11_both_45 at hw
  exact aw_iret dX11_both_45 rfl rfl ⟨_, rfl, hw⟩
set_option maxRecDepth 100000 in
theorem abX11_both_44 (l : Launch) (G : aG) (d : Nat) (hG : a_GT G) (hd : 3 ≤ d) {Q : Int32 → aH → Prop} (h : aH) (hw : wbX11_both_44  h Q) : AW l G d 0 0 mX11_both (qI Q) 44 [] [] h := by
  unfold wbX11_both_44 at hw
  refine aw_iconst (v := (-1)) dX11_both_44 (by decide) ?_
  exact abX11_both_45 l G d hG hd _ _ hw
set_option maxRecDepth 100000 in
theorem acX11_both (l : Launch) (G : aG) (d : Nat) (hG : a_GT G) (hd : 3 ≤ d) {Q : Int32 → aH → Prop} {h : aH} {v0 : Nat} {v1 : Int32} {v2 : Int32} (hw : wX11_both h v0 v1 v2 Q) : AC l G d 0 0 mX11_both [.ref v0, .int v1, .int v2] h (qI Q) := by
  refine ac_of iX11_both (Nat.le_of_ble_eq_true rfl) ?_
  show AW l G d 0 0 mX11_both (qI Q) 0 [(0, .ref v0), (1, .int v1), (2, .int v2)] [] h
  unfold wX11_both at hw
  refine aw_aload_n 0 dX11_both_0 rfl rfl ?_
  refine aw_iload_n 1 dX11_both_1 rfl rfl ?_
  obtain ⟨_, h1, hw⟩ := hw
  refine aw_virtI (As := [.int v1]) (rest := []) dX11_both_2 (acX11_isNode l G (d - 1) hG (by omega) hw) iX11_isNode rfl k_1094 k_1096 k_44 rfl h1 (by omega) (by decide) (by decide) rfl (Nat.le_of_ble_eq_true rfl) (fun r2 h1 hw => ?_)
  refine aw_if_eq (tgt := 44) dX11_both_5 (by decide) (fun z => ?_) (fun z => ?_)
  · have hw := hw.1 z
    refine aw_sub (lv' := []) [] rfl ?_
    exact abX11_both_44 l G d hG hd _ hw
  · have hw := hw.2 z
    refine aw_aload_n 0 dX11_both_8 rfl rfl ?_
    refine aw_iload_n 2 dX11_both_9 rfl rfl ?_
    obtain ⟨_, h1, hw⟩ := hw
    refine aw_virtI (As := [.int v2]) (rest := []) dX11_both_10 (acX11_isNode l G (d - 1) hG (by omega) hw) iX11_isNode rfl k_1094 k_1096 k_44 rfl h1 (by omega) (by decide) (by decide) rfl (Nat.le_of_ble_eq_true rfl) (fun r4 h3 hw => ?_)
    refine aw_if_eq (tgt := 44) dX11_both_13 (by decide) (fun z => ?_) (fun z => ?_)
    · have hw := hw.1 z
      refine aw_sub (lv' := []) [] rfl ?_
      exact abX11_both_44 l G d hG hd _ hw
    · have hw := hw.2 z
      refine aw_aload_n 0 dX11_both_16 rfl rfl ?_
      refine aw_iconst (v := 1) dX11_both_17 (by decide) ?_
      refine aw_iconst (v := 0) dX11_both_18 (by decide) ?_
      refine aw_iload_n 1 dX11_both_19 rfl rfl ?_
      refine aw_iload_n 2 dX11_both_20 rfl rfl ?_
      refine aw_iconst (v := 0) dX11_both_21 (by decide) ?_
      refine aw_iconst (v := 0) dX11_both_22 (by decide) ?_
      refine aw_iconst (v := 1) dX11_both_23 (by decide) ?_
      refine aw_aload_n 0 dX11_both_24 rfl rfl ?_
      obtain ⟨fs6, r5, h1, h2, hw⟩ := hw
      refine aw_getf (k := 16) dX11_both_25 clX11 (by decide) k_964 (Or.inl rfl) h1 h2 ?_
      refine aw_iload_n 1 dX11_both_28 rfl rfl ?_
      obtain ⟨_, _, r7, h1, h2, h3, hw⟩ := hw
      refine aw_aI dX11_both_29 h1 h2 h3 ?_
      refine aw_iadd dX11_both_30 ?_
      refine aw_aload_n 0 dX11_both_31 rfl rfl ?_
      obtain ⟨fs9, r8, h1, h2, hw⟩ := hw
      refine aw_getf (k := 16) dX11_both_32 clX11 (by decide) k_964 (Or.inl rfl) h1 h2 ?_
      refine aw_iload_n 2 dX11_both_35 rfl rfl ?_
      obtain ⟨_, _, r10, h1, h2, h3, hw⟩ := hw
      refine aw_aI dX11_both_36 h1 h2 h3 ?_
      refine aw_iadd dX11_both_37 ?_
      obtain ⟨_, h1, hw⟩ := hw
      refine aw_virtI (As := [.int 1, .int 0, .int v1, .int v2, .int 0, .int 0, .int ((1 + r7) + r10)]) (rest := []) dX11_both_38 (acX11_node l G (d - 1) hG (by omega) hw) iX11_node rfl k_1086 k_1088 k_43 rfl h1 (by omega) (by decide) (by decide) rfl (Nat.le_of_ble_eq_true rfl) (fun r12 h11 hw => ?_)
      refine aw_goto (tgt := 45) dX11_both_41 (by decide) ?_
      refine aw_sub (lv' := []) [] rfl ?_
      exact abX11_both_45 l G d hG hd _ _ hw
-- X11_choice
def wbX11_choice_77 (s0 : Int32) (h : aH) (Q : Int32 → aH → Prop) : Prop :=
  Q s0 h
def wbX11_choice_39 (v0 : Nat) (v1 : Int32) (v2 : Int32) (v3 : Int32) (v4 : Int32) (s0 : Int32) (h : aH) (Q : Int32 → aH → Prop) : Prop :=
  (s0 = 0 → wbX11_choice_77 ((-1)) h Q) ∧ (¬ s0 = 0 → rR h v0 9 16 (fun r1 => aI h r1 v3 (fun r3 => rR h v0 9 16 (fun r4 => aI h r4 v4 (fun r6 => isO h v0 9 (wX11_node h v0 2 0 v1 v2 v3 v4 (((1 + r3) + r6)) (fun r8 h7 => wbX11_choice_77 r8 h7 Q)))))))
def wbX11_choice_38 (v0 : Nat) (v1 : Int32) (v2 : Int32) (v3 : Int32) (v4 : Int32) (h : aH) (Q : Int32 → aH → Prop) : Prop :=
  wbX11_choice_39 v0 v1 v2 v3 v4 0 h Q
def wX11_choice (h : aH) (v0 : Nat) (v1 : Int32) (v2 : Int32) (v3 : Int32) (v4 : Int32) (Q : Int32 → aH → Prop) : Prop :=
  wX11_isSlot h v1 (fun r10 h9 => (r10 = 0 → wbX11_choice_38 v0 v1 v2 v3 v4 h9 Q) ∧ (¬ r10 = 0 → wX11_in h9 v2 0 9 (fun r12 h11 => (r12 = 0 → wbX11_choice_38 v0 v1 v2 v3 v4 h11 Q) ∧ (¬ r12 = 0 → isO h11 v0 9 (wX11_isNode h11 v0 v3 (fun r14 h13 => (r14 = 0 → wbX11_choice_38 v0 v1 v2 v3 v4 h13 Q) ∧ (¬ r14 = 0 → isO h13 v0 9 (wX11_isNode h13 v0 v4 (fun r16 h15 => (r16 = 0 → wbX11_choice_38 v0 v1 v2 v3 v4 h15 Q) ∧ (¬ r16 = 0 → wbX11_choice_39 v0 v1 v2 v3 v4 1 h15 Q))))))))))
set_option maxRecDepth 100000 in
theorem abX11_choice_77 (l : Launch) (G : aG) (d : Nat) (hG : a_GT G) (hd : 3 ≤ d) {Q : Int32 → aH → Prop} (s0 : Int32) (h : aH) (hw : wbX11_choice_77 s0 h Q) : AW l G d 0 0 mX11_choice (qI Q) 77 [] [.int s0] h := by
  unfold wbX11_choice_77 at hw
  exact aw_iret dX11_choice_77 rfl rfl ⟨_, rfl, hw⟩
set_option maxRecDepth 100000 in
theorem abX11_choice_39 (l : Launch) (G : aG) (d : Nat) (hG : a_GT G) (hd : 3 ≤ d) {Q : Int32 → aH → Prop} (v0 : Nat) (v1 : Int32) (v2 : Int32) (v3 : Int32) (v4 : Int32) (s0 : Int32) (h : aH) (hw : wbX11_choice_39 v0 v1 v2 v3 v4 s0 h Q) : AW l G d 0 0 mX11_choice (qI Q) 39 [(0, .ref v0), (1, .int v1), (2, .int v2), (3, .int v3), (4, .int v4)] [.int s0] h := by
  unfold wbX11_choice_39 at hw
  refine aw_istore (lv' := [(5, .int s0), (0, .ref v0), (1, .int v1), (2, .int v2), (3, .int v3), (4, .int v4)]) dX11_choice_39 (by decide) rfl ?_
  refine aw_iload 0 dX11_choice_41 rfl ?_
  refine aw_if_eq (tgt := 76) dX11_choice_43 (by decide) (fun z => ?_) (fun z => ?_)
  · have hw := hw.1 z
    refine aw_iconst (v := (-1)) dX11_choice_76 (by decide) ?_
    refine aw_sub (lv' := []) [] rfl ?_
    exact abX11_choice_77 l G d hG hd _ _ hw
  · have hw := hw.2 z
    refine aw_aload_n 1 dX11_choice_46 rfl rfl ?_
    refine aw_iconst (v := 2) dX11_choice_47 (by decide) ?_
    refine aw_iconst (v := 0) dX11_choice_48 (by decide) ?_
    refine aw_iload_n 2 dX11_choice_49 rfl rfl ?_
    refine aw_iload_n 3 dX11_choice_50 rfl rfl ?_
    refine aw_iload_n 4 dX11_choice_51 rfl rfl ?_
    refine aw_iload 5 dX11_choice_52 rfl ?_
    refine aw_iconst (v := 1) dX11_choice_54 (by decide) ?_
    refine aw_aload_n 1 dX11_choice_55 rfl rfl ?_
    obtain ⟨fs2, r1, h1, h2, hw⟩ := hw
    refine aw_getf (k := 16) dX11_choice_56 clX11 (by decide) k_964 (Or.inl rfl) h1 h2 ?_
    refine aw_iload_n 4 dX11_choice_59 rfl rfl ?_
    obtain ⟨_, _, r3, h1, h2, h3, hw⟩ := hw
    refine aw_aI dX11_choice_60 h1 h2 h3 ?_
    refine aw_iadd dX11_choice_61 ?_
    refine aw_aload_n 1 dX11_choice_62 rfl rfl ?_
    obtain ⟨fs5, r4, h1, h2, hw⟩ := hw
    refine aw_getf (k := 16) dX11_choice_63 clX11 (by decide) k_964 (Or.inl rfl) h1 h2 ?_
    refine aw_iload 5 dX11_choice_66 rfl ?_
    obtain ⟨_, _, r6, h1, h2, h3, hw⟩ := hw
    refine aw_aI dX11_choice_68 h1 h2 h3 ?_
    refine aw_iadd dX11_choice_69 ?_
    obtain ⟨_, h1, hw⟩ := hw
    refine aw_virtI (As := [.int 2, .int 0, .int v1, .int v2, .int v3, .int v4, .int ((1 + r3) + r6)]) (rest := []) dX11_choice_70 (acX11_node l G (d - 1) hG (by omega) hw) iX11_node rfl k_1086 k_1088 k_43 rfl h1 (by omega) (by decide) (by decide) rfl (Nat.le_of_ble_eq_true rfl) (fun r8 h7 hw => ?_)
    refine aw_goto (tgt := 77) dX11_choice_73 (by decide) ?_
    refine aw_sub (lv' := []) [] rfl ?_
    exact abX11_choice_77 l G d hG hd _ _ hw
set_option maxRecDepth 100000 in
theorem abX11_choice_38 (l : Launch) (G : aG) (d : Nat) (hG : a_GT G) (hd : 3 ≤ d) {Q : Int32 → aH → Prop} (v0 : Nat) (v1 : Int32) (v2 : Int32) (v3 : Int32) (v4 : Int32) (h : aH) (hw : wbX11_choice_38 v0 v1 v2 v3 v4 h Q) : AW l G d 0 0 mX11_choice (qI Q) 38 [(0, .ref v0), (1, .int v1), (2, .int v2), (3, .int v3), (4, .int v4)] [] h := by
  unfold wbX11_choice_38 at hw
  refine aw_iconst (v := 0) dX11_choice_38 (by decide) ?_
  exact abX11_choice_39 l G d hG hd _ _ _ _ _ _ _ hw
set_option maxRecDepth 100000 in
theorem acX11_choice (l : Launch) (G : aG) (d : Nat) (hG : a_GT G) (hd : 3 ≤ d) {Q : Int32 → aH → Prop} {h : aH} {v0 : Nat} {v1 : Int32} {v2 : Int32} {v3 : Int32} {v4 : Int32} (hw : wX11_choice h v0 v1 v2 v3 v4 Q) : AC l G d 0 0 mX11_choice [.ref v0, .int v1, .int v2, .int v3, .int v4] h (qI Q) := by
  refine ac_of iX11_choice (Nat.le_of_ble_eq_true rfl) ?_
  show AW l G d 0 0 mX11_choice (qI Q) 0 [(0, .ref v0), (1, .int v1), (2, .int v2), (3, .int v3), (4, .int v4)] [] h
  unfold wX11_choice at hw
  refine aw_iload_n 1 dX11_choice_0 rfl rfl ?_
  refine aw_staticI (As := [.int v1]) (rest := []) dX11_choice_1 (acX11_isSlot l G (d - 1) hG (by omega) hw) iX11_isSlot rfl k_1077 k_1078 (by omega) (by decide) (by decide) rfl (Nat.le_of_ble_eq_true rfl) (fun r10 h9 hw => ?_)
  refine aw_if_eq (tgt := 38) dX11_choice_4 (by decide) (fun z => ?_) (fun z => ?_)
  · have hw := hw.1 z
    exact abX11_choice_38 l G d hG hd _ _ _ _ _ _ hw
  · have hw := hw.2 z
    refine aw_iload_n 2 dX11_choice_7 rfl rfl ?_
    refine aw_iconst (v := 0) dX11_choice_8 (by decide) ?_
    refine aw_bipush (v := 9) dX11_choice_9 (by decide) ?_
    refine aw_staticI (As := [.int v2, .int 0, .int 9]) (rest := []) dX11_choice_11 (acX11_in l G (d - 1) hG (by omega) hw) iX11_in rfl k_1080 k_1081 (by omega) (by decide) (by decide) rfl (Nat.le_of_ble_eq_true rfl) (fun r12 h11 hw => ?_)
    refine aw_if_eq (tgt := 38) dX11_choice_14 (by decide) (fun z => ?_) (fun z => ?_)
    · have hw := hw.1 z
      exact abX11_choice_38 l G d hG hd _ _ _ _ _ _ hw
    · have hw := hw.2 z
      refine aw_aload_n 0 dX11_choice_17 rfl rfl ?_
      refine aw_iload_n 3 dX11_choice_18 rfl rfl ?_
      obtain ⟨_, h1, hw⟩ := hw
      refine aw_virtI (As := [.int v3]) (rest := []) dX11_choice_19 (acX11_isNode l G (d - 1) hG (by omega) hw) iX11_isNode rfl k_1094 k_1096 k_44 rfl h1 (by omega) (by decide) (by decide) rfl (Nat.le_of_ble_eq_true rfl) (fun r14 h13 hw => ?_)
      refine aw_if_eq (tgt := 38) dX11_choice_22 (by decide) (fun z => ?_) (fun z => ?_)
      · have hw := hw.1 z
        exact abX11_choice_38 l G d hG hd _ _ _ _ _ _ hw
      · have hw := hw.2 z
        refine aw_aload_n 0 dX11_choice_25 rfl rfl ?_
        refine aw_iload 4 dX11_choice_26 rfl ?_
        obtain ⟨_, h1, hw⟩ := hw
        refine aw_virtI (As := [.int v4]) (rest := []) dX11_choice_28 (acX11_isNode l G (d - 1) hG (by omega) hw) iX11_isNode rfl k_1094 k_1096 k_44 rfl h1 (by omega) (by decide) (by decide) rfl (Nat.le_of_ble_eq_true rfl) (fun r16 h15 hw => ?_)
        refine aw_if_eq (tgt := 38) dX11_choice_31 (by decide) (fun z => ?_) (fun z => ?_)
        · have hw := hw.1 z
          exact abX11_choice_38 l G d hG hd _ _ _ _ _ _ hw
        · have hw := hw.2 z
          refine aw_iconst (v := 1) dX11_choice_34 (by decide) ?_
          refine aw_goto (tgt := 39) dX11_choice_35 (by decide) ?_
          exact abX11_choice_39 l G d hG hd _ _ _ _ _ _ _ hw
-- X11_guard
def wbX11_guard_92 (v0 : Nat) (v1 : Int32) (v2 : Int32) (v3 : Int32) (v4 : Int32) (s0 : Int32) (s1 : Int32) (h : aH) (Q : Int32 → aH → Prop) : Prop :=
  isO h v0 9 (wX11_node h v0 3 0 v1 ((v2 &&& 510)) v3 v4 ((s1 + s0)) (fun r2 h1 => Q r2 h1))
def wbX11_guard_72 (v0 : Nat) (v1 : Int32) (v2 : Int32) (v3 : Int32) (v4 : Int32) (s0 : Int32) (s1 : Int32) (h : aH) (Q : Int32 → aH → Prop) : Prop :=
  (0 ≤ v4 → rR h v0 9 16 (fun r3 => aI h r3 v4 (fun r5 => wbX11_guard_92 v0 v1 v2 v3 v4 ((9 * r5)) ((s1 + s0)) h Q))) ∧ (¬ 0 ≤ v4 → wbX11_guard_92 v0 v1 v2 v3 v4 0 ((s1 + s0)) h Q)
def wbX11_guard_41 (v0 : Nat) (v1 : Int32) (v2 : Int32) (v3 : Int32) (v4 : Int32) (s0 : Int32) (h : aH) (Q : Int32 → aH → Prop) : Prop :=
  (¬ s0 = 0 → rR h v0 9 16 (fun r6 => aI h r6 v1 (fun r8 => (0 ≤ v3 → rR h v0 9 16 (fun r9 => aI h r9 v3 (fun r11 => wbX11_guard_72 v0 v1 v2 v3 v4 r11 ((1 + r8)) h Q))) ∧ (¬ 0 ≤ v3 → wbX11_guard_72 v0 v1 v2 v3 v4 0 ((1 + r8)) h Q)))) ∧ (s0 = 0 → Q ((-1)) h)
def wbX11_guard_40 (v0 : Nat) (v1 : Int32) (v2 : Int32) (v3 : Int32) (v4 : Int32) (h : aH) (Q : Int32 → aH → Prop) : Prop :=
  wbX11_guard_41 v0 v1 v2 v3 v4 0 h Q
def wbX11_guard_36 (v0 : Nat) (v1 : Int32) (v2 : Int32) (v3 : Int32) (v4 : Int32) (h : aH) (Q : Int32 → aH → Prop) : Prop :=
  wbX11_guard_41 v0 v1 v2 v3 v4 1 h Q
def wbX11_guard_21 (v0 : Nat) (v1 : Int32) (v2 : Int32) (v3 : Int32) (v4 : Int32) (h : aH) (Q : Int32 → aH → Prop) : Prop :=
  (v4 = (-1) → wbX11_guard_36 v0 v1 v2 v3 v4 h Q) ∧ (¬ v4 = (-1) → isO h v0 9 (wX11_isNode h v0 v4 (fun r13 h12 => (r13 = 0 → wbX11_guard_40 v0 v1 v2 v3 v4 h12 Q) ∧ (¬ r13 = 0 → wbX11_guard_36 v0 v1 v2 v3 v4 h12 Q))))
def wX11_guard (h : aH) (v0 : Nat) (v1 : Int32) (v2 : Int32) (v3 : Int32) (v4 : Int32) (Q : Int32 → aH → Prop) : Prop :=
  isO h v0 9 (wX11_isNode h v0 v1 (fun r15 h14 => (r15 = 0 → wbX11_guard_40 v0 v1 v2 v3 v4 h14 Q) ∧ (¬ r15 = 0 → (v3 = (-1) → wbX11_guard_21 v0 v1 v2 v3 v4 h14 Q) ∧ (¬ v3 = (-1) → isO h14 v0 9 (wX11_isNode h14 v0 v3 (fun r17 h16 => (r17 = 0 → wbX11_guard_40 v0 v1 v2 v3 v4 h16 Q) ∧ (¬ r17 = 0 → wbX11_guard_21 v0 v1 v2 v3 v4 h16 Q)))))))
set_option maxRecDepth 100000 in
theorem abX11_guard_92 (l : Launch) (G : aG) (d : Nat) (hG : a_GT G) (hd : 3 ≤ d) {Q : Int32 → aH → Prop} (v0 : Nat) (v1 : Int32) (v2 : Int32) (v3 : Int32) (v4 : Int32) (s0 : Int32) (s1 : Int32) (h : aH) (hw : wbX11_guard_92 v0 v1 v2 v3 v4 s0 s1 h Q) : AW l G d 0 0 mX11_guard (qI Q) 92 [(0, .ref v0), (1, .int v1), (2, .int v2), (3, .int v3), (4, .int v4)] [.int s0, .int s1] h := by
  unfold wbX11_guard_92 at hw
  refine aw_iadd dX11_guard_92 ?_
  refine aw_istore (lv' := [(6, .int (s1 + s0)), (0, .ref v0), (1, .int v1), (2, .int v2), (3, .int v3), (4, .int v4)]) dX11_guard_93 (by decide) rfl ?_
  refine aw_aload_n 1 dX11_guard_95 rfl rfl ?_
  refine aw_iconst (v := 3) dX11_guard_96 (by decide) ?_
  refine aw_iconst (v := 0) dX11_guard_97 (by decide) ?_
  refine aw_iload_n 2 dX11_guard_98 rfl rfl ?_
  refine aw_iload_n 3 dX11_guard_99 rfl rfl ?_
  refine aw_sipush (v := 510) dX11_guard_100 (by decide) ?_
  refine aw_iand dX11_guard_103 ?_
  refine aw_iload_n 4 dX11_guard_104 rfl rfl ?_
  refine aw_iload 5 dX11_guard_105 rfl ?_
  refine aw_iload 0 dX11_guard_107 rfl ?_
  obtain ⟨_, h1, hw⟩ := hw
  refine aw_virtI (As := [.int 3, .int 0, .int v1, .int (v2 &&& 510), .int v3, .int v4, .int (s1 + s0)]) (rest := []) dX11_guard_109 (acX11_node l G (d - 1) hG (by omega) hw) iX11_node rfl k_1086 k_1088 k_43 rfl h1 (by omega) (by decide) (by decide) rfl (Nat.le_of_ble_eq_true rfl) (fun r2 h1 hw => ?_)
  exact aw_iret dX11_guard_112 rfl rfl ⟨_, rfl, hw⟩
set_option maxRecDepth 100000 in
theorem abX11_guard_72 (l : Launch) (G : aG) (d : Nat) (hG : a_GT G) (hd : 3 ≤ d) {Q : Int32 → aH → Prop} (v0 : Nat) (v1 : Int32) (v2 : Int32) (v3 : Int32) (v4 : Int32) (s0 : Int32) (s1 : Int32) (h : aH) (hw : wbX11_guard_72 v0 v1 v2 v3 v4 s0 s1 h Q) : AW l G d 0 0 mX11_guard (qI Q) 72 [(0, .ref v0), (1, .int v1), (2, .int v2), (3, .int v3), (4, .int v4)] [.int s0, .int s1] h := by
  unfold wbX11_guard_72 at hw
  refine aw_iadd dX11_guard_72 ?_
  refine aw_iload 4 dX11_guard_73 rfl ?_
  refine aw_if_ge (tgt := 82) dX11_guard_75 (by decide) (fun z => ?_) (fun z => ?_)
  · have hw := hw.1 z
    refine aw_bipush (v := 9) dX11_guard_82 (by decide) ?_
    refine aw_aload_n 0 dX11_guard_84 rfl rfl ?_
    obtain ⟨fs4, r3, h1, h2, hw⟩ := hw
    refine aw_getf (k := 16) dX11_guard_85 clX11 (by decide) k_964 (Or.inl rfl) h1 h2 ?_
    refine aw_iload 4 dX11_guard_88 rfl ?_
    obtain ⟨_, _, r5, h1, h2, h3, hw⟩ := hw
    refine aw_aI dX11_guard_90 h1 h2 h3 ?_
    refine aw_imul dX11_guard_91 ?_
    exact abX11_guard_92 l G d hG hd _ _ _ _ _ _ _ _ hw
  · have hw := hw.2 z
    refine aw_iconst (v := 0) dX11_guard_78 (by decide) ?_
    refine aw_goto (tgt := 92) dX11_guard_79 (by decide) ?_
    exact abX11_guard_92 l G d hG hd _ _ _ _ _ _ _ _ hw
set_option maxRecDepth 100000 in
theorem abX11_guard_41 (l : Launch) (G : aG) (d : Nat) (hG : a_GT G) (hd : 3 ≤ d) {Q : Int32 → aH → Prop} (v0 : Nat) (v1 : Int32) (v2 : Int32) (v3 : Int32) (v4 : Int32) (s0 : Int32) (h : aH) (hw : wbX11_guard_41 v0 v1 v2 v3 v4 s0 h Q) : AW l G d 0 0 mX11_guard (qI Q) 41 [(0, .ref v0), (1, .int v1), (2, .int v2), (3, .int v3), (4, .int v4)] [.int s0] h := by
  unfold wbX11_guard_41 at hw
  refine aw_istore (lv' := [(5, .int s0), (0, .ref v0), (1, .int v1), (2, .int v2), (3, .int v3), (4, .int v4)]) dX11_guard_41 (by decide) rfl ?_
  refine aw_iload 0 dX11_guard_43 rfl ?_
  refine aw_if_ne (tgt := 50) dX11_guard_45 (by decide) (fun z => ?_) (fun z => ?_)
  · have hw := hw.1 z
    refine aw_iconst (v := 1) dX11_guard_50 (by decide) ?_
    refine aw_aload_n 1 dX11_guard_51 rfl rfl ?_
    obtain ⟨fs7, r6, h1, h2, hw⟩ := hw
    refine aw_getf (k := 16) dX11_guard_52 clX11 (by decide) k_964 (Or.inl rfl) h1 h2 ?_
    refine aw_iload_n 2 dX11_guard_55 rfl rfl ?_
    obtain ⟨_, _, r8, h1, h2, h3, hw⟩ := hw
    refine aw_aI dX11_guard_56 h1 h2 h3 ?_
    refine aw_iadd dX11_guard_57 ?_
    refine aw_iload_n 4 dX11_guard_58 rfl rfl ?_
    refine aw_if_ge (tgt := 66) dX11_guard_59 (by decide) (fun z => ?_) (fun z => ?_)
    · have hw := hw.1 z
      refine aw_aload_n 1 dX11_guard_66 rfl rfl ?_
      obtain ⟨fs10, r9, h1, h2, hw⟩ := hw
      refine aw_getf (k := 16) dX11_guard_67 clX11 (by decide) k_964 (Or.inl rfl) h1 h2 ?_
      refine aw_iload_n 4 dX11_guard_70 rfl rfl ?_
      obtain ⟨_, _, r11, h1, h2, h3, hw⟩ := hw
      refine aw_aI dX11_guard_71 h1 h2 h3 ?_
      refine aw_sub (lv' := [(0, .ref v0), (1, .int v1), (2, .int v2), (3, .int v3), (4, .int v4)]) [1, 2, 3, 4, 5] rfl ?_
      exact abX11_guard_72 l G d hG hd _ _ _ _ _ _ _ _ hw
    · have hw := hw.2 z
      refine aw_iconst (v := 0) dX11_guard_62 (by decide) ?_
      refine aw_goto (tgt := 72) dX11_guard_63 (by decide) ?_
      refine aw_sub (lv' := [(0, .ref v0), (1, .int v1), (2, .int v2), (3, .int v3), (4, .int v4)]) [1, 2, 3, 4, 5] rfl ?_
      exact abX11_guard_72 l G d hG hd _ _ _ _ _ _ _ _ hw
  · have hw := hw.2 z
    refine aw_iconst (v := (-1)) dX11_guard_48 (by decide) ?_
    exact aw_iret dX11_guard_49 rfl rfl ⟨_, rfl, hw⟩
set_option maxRecDepth 100000 in
theorem abX11_guard_40 (l : Launch) (G : aG) (d : Nat) (hG : a_GT G) (hd : 3 ≤ d) {Q : Int32 → aH → Prop} (v0 : Nat) (v1 : Int32) (v2 : Int32) (v3 : Int32) (v4 : Int32) (h : aH) (hw : wbX11_guard_40 v0 v1 v2 v3 v4 h Q) : AW l G d 0 0 mX11_guard (qI Q) 40 [(0, .ref v0), (1, .int v1), (2, .int v2), (3, .int v3), (4, .int v4)] [] h := by
  unfold wbX11_guard_40 at hw
  refine aw_iconst (v := 0) dX11_guard_40 (by decide) ?_
  exact abX11_guard_41 l G d hG hd _ _ _ _ _ _ _ hw
set_option maxRecDepth 100000 in
theorem abX11_guard_36 (l : Launch) (G : aG) (d : Nat) (hG : a_GT G) (hd : 3 ≤ d) {Q : Int32 → aH → Prop} (v0 : Nat) (v1 : Int32) (v2 : Int32) (v3 : Int32) (v4 : Int32) (h : aH) (hw : wbX11_guard_36 v0 v1 v2 v3 v4 h Q) : AW l G d 0 0 mX11_guard (qI Q) 36 [(0, .ref v0), (1, .int v1), (2, .int v2), (3, .int v3), (4, .int v4)] [] h := by
  unfold wbX11_guard_36 at hw
  refine aw_iconst (v := 1) dX11_guard_36 (by decide) ?_
  refine aw_goto (tgt := 41) dX11_guard_37 (by decide) ?_
  exact abX11_guard_41 l G d hG hd _ _ _ _ _ _ _ hw
set_option maxRecDepth 100000 in
theorem abX11_guard_21 (l : Launch) (G : aG) (d : Nat) (hG : a_GT G) (hd : 3 ≤ d) {Q : Int32 → aH → Prop} (v0 : Nat) (v1 : Int32) (v2 : Int32) (v3 : Int32) (v4 : Int32) (h : aH) (hw : wbX11_guard_21 v0 v1 v2 v3 v4 h Q) : AW l G d 0 0 mX11_guard (qI Q) 21 [(0, .ref v0), (1, .int v1), (2, .int v2), (3, .int v3), (4, .int v4)] [] h := by
  unfold wbX11_guard_21 at hw
  refine aw_iload 4 dX11_guard_21 rfl ?_
  refine aw_iconst (v := (-1)) dX11_guard_23 (by decide) ?_
  refine aw_icmp_eq (tgt := 36) dX11_guard_24 (by decide) (fun z => ?_) (fun z => ?_)
  · have hw := hw.1 z
    exact abX11_guard_36 l G d hG hd _ _ _ _ _ _ hw
  · have hw := hw.2 z
    refine aw_aload_n 0 dX11_guard_27 rfl rfl ?_
    refine aw_iload 4 dX11_guard_28 rfl ?_
    obtain ⟨_, h1, hw⟩ := hw
    refine aw_virtI (As := [.int v4]) (rest := []) dX11_guard_30 (acX11_isNode l G (d - 1) hG (by omega) hw) iX11_isNode rfl k_1094 k_1096 k_44 rfl h1 (by omega) (by decide) (by decide) rfl (Nat.le_of_ble_eq_true rfl) (fun r13 h12 hw => ?_)
    refine aw_if_eq (tgt := 40) dX11_guard_33 (by decide) (fun z => ?_) (fun z => ?_)
    · have hw := hw.1 z
      exact abX11_guard_40 l G d hG hd _ _ _ _ _ _ hw
    · have hw := hw.2 z
      exact abX11_guard_36 l G d hG hd _ _ _ _ _ _ hw
set_option maxRecDepth 100000 in
theorem acX11_guard (l : Launch) (G : aG) (d : Nat) (hG : a_GT G) (hd : 3 ≤ d) {Q : Int32 → aH → Prop} {h : aH} {v0 : Nat} {v1 : Int32} {v2 : Int32} {v3 : Int32} {v4 : Int32} (hw : wX11_guard h v0 v1 v2 v3 v4 Q) : AC l G d 0 0 mX11_guard [.ref v0, .int v1, .int v2, .int v3, .int v4] h (qI Q) := by
  refine ac_of iX11_guard (Nat.le_of_ble_eq_true rfl) ?_
  show AW l G d 0 0 mX11_guard (qI Q) 0 [(0, .ref v0), (1, .int v1), (2, .int v2), (3, .int v3), (4, .int v4)] [] h
  unfold wX11_guard at hw
  refine aw_aload_n 0 dX11_guard_0 rfl rfl ?_
  refine aw_iload_n 1 dX11_guard_1 rfl rfl ?_
  obtain ⟨_, h1, hw⟩ := hw
  refine aw_virtI (As := [.int v1]) (rest := []) dX11_guard_2 (acX11_isNode l G (d - 1) hG (by omega) hw) iX11_isNode rfl k_1094 k_1096 k_44 rfl h1 (by omega) (by decide) (by decide) rfl (Nat.le_of_ble_eq_true rfl) (fun r15 h14 hw => ?_)
  refine aw_if_eq (tgt := 40) dX11_guard_5 (by decide) (fun z => ?_) (fun z => ?_)
  · have hw := hw.1 z
    exact abX11_guard_40 l G d hG hd _ _ _ _ _ _ hw
  · have hw := hw.2 z
    refine aw_iload_n 3 dX11_guard_8 rfl rfl ?_
    refine aw_iconst (v := (-1)) dX11_guard_9 (by decide) ?_
    refine aw_icmp_eq (tgt := 21) dX11_guard_10 (by decide) (fun z => ?_) (fun z => ?_)
    · have hw := hw.1 z
      exact abX11_guard_21 l G d hG hd _ _ _ _ _ _ hw
    · have hw := hw.2 z
      refine aw_aload_n 0 dX11_guard_13 rfl rfl ?_
      refine aw_iload_n 3 dX11_guard_14 rfl rfl ?_
      obtain ⟨_, h1, hw⟩ := hw
      refine aw_virtI (As := [.int v3]) (rest := []) dX11_guard_15 (acX11_isNode l G (d - 1) hG (by omega) hw) iX11_isNode rfl k_1094 k_1096 k_44 rfl h1 (by omega) (by decide) (by decide) rfl (Nat.le_of_ble_eq_true rfl) (fun r17 h16 hw => ?_)
      refine aw_if_eq (tgt := 40) dX11_guard_18 (by decide) (fun z => ?_) (fun z => ?_)
      · have hw := hw.1 z
        exact abX11_guard_40 l G d hG hd _ _ _ _ _ _ hw
      · have hw := hw.2 z
        exact abX11_guard_21 l G d hG hd _ _ _ _ _ _ hw
-- X11_forget
def wX11_forget (h : aH) (v0 : Nat) (Q : Int32 → aH → Prop) : Prop :=
  rI h v0 9 9 (fun r1 => wF h v0 9 9 (.int 0) (fun h3 => wF h3 v0 9 28 (.int 0) (fun h5 => Q r1 h5)))
set_option maxRecDepth 100000 in
theorem acX11_forget (l : Launch) (G : aG) (d : Nat) (hG : a_GT G) (hd : 1 ≤ d) {Q : Int32 → aH → Prop} {h : aH} {v0 : Nat} (hw : wX11_forget h v0 Q) : AC l G d 0 0 mX11_forget [.ref v0] h (qI Q) := by
  refine ac_of iX11_forget (Nat.le_of_ble_eq_true rfl) ?_
  show AW l G d 0 0 mX11_forget (qI Q) 0 [(0, .ref v0)] [] h
  unfold wX11_forget at hw
  refine aw_aload_n 0 dX11_forget_0 rfl rfl ?_
  obtain ⟨fs2, r1, h1, h2, hw⟩ := hw
  refine aw_getf (k := 9) dX11_forget_1 clX11 (by decide) k_957 (Or.inl rfl) h1 h2 ?_
  refine aw_istore_n (lv' := [(1, .int r1), (0, .ref v0)]) dX11_forget_4 rfl (by decide) rfl ?_
  refine aw_aload_n 1 dX11_forget_5 rfl rfl ?_
  refine aw_iconst (v := 0) dX11_forget_6 (by decide) ?_
  obtain ⟨fs4, h1, h2, hw⟩ := hw
  refine aw_putf (k := 9) dX11_forget_7 clX11 (by decide) k_957 (Or.inl rfl) rfl rfl rfl h1 h2 ?_
  generalize a_up _ _ _ = h3 at hw ⊢
  refine aw_aload_n 1 dX11_forget_10 rfl rfl ?_
  refine aw_iconst (v := 0) dX11_forget_11 (by decide) ?_
  obtain ⟨fs6, h1, h2, hw⟩ := hw
  refine aw_putf (k := 28) dX11_forget_12 clX11 (by decide) k_976 (Or.inl rfl) rfl rfl rfl h1 h2 ?_
  generalize a_up _ _ _ = h5 at hw ⊢
  refine aw_iload_n 0 dX11_forget_15 rfl rfl ?_
  exact aw_iret dX11_forget_16 rfl rfl ⟨_, rfl, hw⟩
-- X11_as
def wbX11_as_28 (s0 : Int32) (h : aH) (Q : Int32 → aH → Prop) : Prop :=
  Q s0 h
def wbX11_as_27 (h : aH) (Q : Int32 → aH → Prop) : Prop :=
  wbX11_as_28 0 h Q
def wX11_as (h : aH) (v0 : Nat) (v1 : Int32) (v2 : Int32) (Q : Int32 → aH → Prop) : Prop :=
  rR h v0 9 7 (fun r1 => aI h r1 v1 (fun r3 => (r3 = 0 → wbX11_as_27  h Q) ∧ (¬ r3 = 0 → rR h v0 9 7 (fun r4 => aI h r4 v1 (fun r6 => isO h v0 9 (wX11_is h v0 r6 v2 (fun r8 h7 => (¬ r8 = 0 → wbX11_as_27 h7 Q) ∧ (r8 = 0 → wbX11_as_28 2 h7 Q))))))))
set_option maxRecDepth 100000 in
theorem abX11_as_28 (l : Launch) (G : aG) (d : Nat) (hG : a_GT G) (hd : 3 ≤ d) {Q : Int32 → aH → Prop} (s0 : Int32) (h : aH) (hw : wbX11_as_28 s0 h Q) : AW l G d 0 0 mX11_as (qI Q) 28 [] [.int s0] h := by
  unfold wbX11_as_28 at hw
  exact aw_iret dX11_as_28 rfl rfl ⟨_, rfl, hw⟩
set_option maxRecDepth 100000 in
theorem abX11_as_27 (l : Launch) (G : aG) (d : Nat) (hG : a_GT G) (hd : 3 ≤ d) {Q : Int32 → aH → Prop} (h : aH) (hw : wbX11_as_27  h Q) : AW l G d 0 0 mX11_as (qI Q) 27 [] [] h := by
  unfold wbX11_as_27 at hw
  refine aw_iconst (v := 0) dX11_as_27 (by decide) ?_
  exact abX11_as_28 l G d hG hd _ _ hw
set_option maxRecDepth 100000 in
theorem acX11_as (l : Launch) (G : aG) (d : Nat) (hG : a_GT G) (hd : 3 ≤ d) {Q : Int32 → aH → Prop} {h : aH} {v0 : Nat} {v1 : Int32} {v2 : Int32} (hw : wX11_as h v0 v1 v2 Q) : AC l G d 0 0 mX11_as [.ref v0, .int v1, .int v2] h (qI Q) := by
  refine ac_of iX11_as (Nat.le_of_ble_eq_true rfl) ?_
  show AW l G d 0 0 mX11_as (qI Q) 0 [(0, .ref v0), (1, .int v1), (2, .int v2)] [] h
  unfold wX11_as at hw
  refine aw_aload_n 0 dX11_as_0 rfl rfl ?_
  obtain ⟨fs2, r1, h1, h2, hw⟩ := hw
  refine aw_getf (k := 7) dX11_as_1 clX11 (by decide) k_955 (Or.inl rfl) h1 h2 ?_
  refine aw_iload_n 1 dX11_as_4 rfl rfl ?_
  obtain ⟨_, _, r3, h1, h2, h3, hw⟩ := hw
  refine aw_aI dX11_as_5 h1 h2 h3 ?_
  refine aw_if_eq (tgt := 27) dX11_as_6 (by decide) (fun z => ?_) (fun z => ?_)
  · have hw := hw.1 z
    refine aw_sub (lv' := []) [] rfl ?_
    exact abX11_as_27 l G d hG hd _ hw
  · have hw := hw.2 z
    refine aw_aload_n 0 dX11_as_9 rfl rfl ?_
    refine aw_aload_n 0 dX11_as_10 rfl rfl ?_
    obtain ⟨fs5, r4, h1, h2, hw⟩ := hw
    refine aw_getf (k := 7) dX11_as_11 clX11 (by decide) k_955 (Or.inl rfl) h1 h2 ?_
    refine aw_iload_n 1 dX11_as_14 rfl rfl ?_
    obtain ⟨_, _, r6, h1, h2, h3, hw⟩ := hw
    refine aw_aI dX11_as_15 h1 h2 h3 ?_
    refine aw_iload_n 2 dX11_as_16 rfl rfl ?_
    obtain ⟨_, h1, hw⟩ := hw
    refine aw_virtI (As := [.int r6, .int v2]) (rest := []) dX11_as_17 (acX11_is l G (d - 1) hG (by omega) hw) iX11_is rfl k_1160 k_1162 k_56 rfl h1 (by omega) (by decide) (by decide) rfl (Nat.le_of_ble_eq_true rfl) (fun r8 h7 hw => ?_)
    refine aw_if_ne (tgt := 27) dX11_as_20 (by decide) (fun z => ?_) (fun z => ?_)
    · have hw := hw.1 z
      refine aw_sub (lv' := []) [] rfl ?_
      exact abX11_as_27 l G d hG hd _ hw
    · have hw := hw.2 z
      refine aw_iconst (v := 2) dX11_as_23 (by decide) ?_
      refine aw_goto (tgt := 28) dX11_as_24 (by decide) ?_
      refine aw_sub (lv' := []) [] rfl ?_
      exact abX11_as_28 l G d hG hd _ _ hw
-- X11_row
def wbX11_row_27 (s0 : Int32) (h : aH) (Q : Int32 → aH → Prop) : Prop :=
  Q s0 h
def wX11_row (h : aH) (v0 : Nat) (v1 : Int32) (v2 : Int32) (Q : Int32 → aH → Prop) : Prop :=
  isO h v0 9 (wX11_as h v0 v1 v2 (fun r2 h1 => (r2 = 0 → rR h1 v0 9 7 (fun r3 => aI h1 r3 v1 (fun r5 => (¬ r5 = 0 → wbX11_row_27 0 h1 Q) ∧ (r5 = 0 → wbX11_row_27 1 h1 Q)))) ∧ (¬ r2 = 0 → wbX11_row_27 2 h1 Q)))
set_option maxRecDepth 100000 in
theorem abX11_row_27 (l : Launch) (G : aG) (d : Nat) (hG : a_GT G) (hd : 4 ≤ d) {Q : Int32 → aH → Prop} (s0 : Int32) (h : aH) (hw : wbX11_row_27 s0 h Q) : AW l G d 0 0 mX11_row (qI Q) 27 [] [.int s0] h := by
  unfold wbX11_row_27 at hw
  exact aw_iret dX11_row_27 rfl rfl ⟨_, rfl, hw⟩
set_option maxRecDepth 100000 in
theorem acX11_row (l : Launch) (G : aG) (d : Nat) (hG : a_GT G) (hd : 4 ≤ d) {Q : Int32 → aH → Prop} {h : aH} {v0 : Nat} {v1 : Int32} {v2 : Int32} (hw : wX11_row h v0 v1 v2 Q) : AC l G d 0 0 mX11_row [.ref v0, .int v1, .int v2] h (qI Q) := by
  refine ac_of iX11_row (Nat.le_of_ble_eq_true rfl) ?_
  show AW l G d 0 0 mX11_row (qI Q) 0 [(0, .ref v0), (1, .int v1), (2, .int v2)] [] h
  unfold wX11_row at hw
  refine aw_aload_n 0 dX11_row_0 rfl rfl ?_
  refine aw_iload_n 1 dX11_row_1 rfl rfl ?_
  refine aw_iload_n 2 dX11_row_2 rfl rfl ?_
  obtain ⟨_, h1, hw⟩ := hw
  refine aw_virtI (As := [.int v1, .int v2]) (rest := []) dX11_row_3 (acX11_as l G (d - 1) hG (by omega) hw) iX11_as rfl k_1156 k_1158 k_55 rfl h1 (by omega) (by decide) (by decide) rfl (Nat.le_of_ble_eq_true rfl) (fun r2 h1 hw => ?_)
  refine aw_if_eq (tgt := 13) dX11_row_6 (by decide) (fun z => ?_) (fun z => ?_)
  · have hw := hw.1 z
    refine aw_aload_n 0 dX11_row_13 rfl rfl ?_
    obtain ⟨fs4, r3, h1, h2, hw⟩ := hw
    refine aw_getf (k := 7) dX11_row_14 clX11 (by decide) k_955 (Or.inl rfl) h1 h2 ?_
    refine aw_iload_n 1 dX11_row_17 rfl rfl ?_
    obtain ⟨_, _, r5, h1, h2, h3, hw⟩ := hw
    refine aw_aI dX11_row_18 h1 h2 h3 ?_
    refine aw_if_ne (tgt := 26) dX11_row_19 (by decide) (fun z => ?_) (fun z => ?_)
    · have hw := hw.1 z
      refine aw_iconst (v := 0) dX11_row_26 (by decide) ?_
      refine aw_sub (lv' := []) [] rfl ?_
      exact abX11_row_27 l G d hG hd _ _ hw
    · have hw := hw.2 z
      refine aw_iconst (v := 1) dX11_row_22 (by decide) ?_
      refine aw_goto (tgt := 27) dX11_row_23 (by decide) ?_
      refine aw_sub (lv' := []) [] rfl ?_
      exact abX11_row_27 l G d hG hd _ _ hw
  · have hw := hw.2 z
    refine aw_iconst (v := 2) dX11_row_9 (by decide) ?_
    refine aw_goto (tgt := 27) dX11_row_10 (by decide) ?_
    refine aw_sub (lv' := []) [] rfl ?_
    exact abX11_row_27 l G d hG hd _ _ hw
-- X11_itemOf
def wbX11_itemOf_44 (s0 : Int32) (h : aH) (Q : Int32 → aH → Prop) : Prop :=
  Q s0 h
def wX11_itemOf (h : aH) (v0 : Nat) (v1 : Int32) (v2 : Int32) (v3 : Int32) (Q : Int32 → aH → Prop) : Prop :=
  isO h v0 9 (wX11_row h v0 v1 v2 (fun r2 h1 => (r2 = 0 → rR h1 v0 9 4 (fun r3 => rR h1 v0 9 7 (fun r5 => aI h1 r5 v1 (fun r7 => aI h1 r3 r7 (fun r8 => wX11_in h1 v3 0 ((r8 - 1)) (fun r10 h9 => (r10 = 0 → wbX11_itemOf_44 3 h9 Q) ∧ (¬ r10 = 0 → wbX11_itemOf_44 0 h9 Q))))))) ∧ (¬ r2 = 0 → wbX11_itemOf_44 r2 h1 Q)))
set_option maxRecDepth 100000 in
theorem abX11_itemOf_44 (l : Launch) (G : aG) (d : Nat) (hG : a_GT G) (hd : 5 ≤ d) {Q : Int32 → aH → Prop} (s0 : Int32) (h : aH) (hw : wbX11_itemOf_44 s0 h Q) : AW l G d 0 0 mX11_itemOf (qI Q) 44 [] [.int s0] h := by
  unfold wbX11_itemOf_44 at hw
  exact aw_iret dX11_itemOf_44 rfl rfl ⟨_, rfl, hw⟩
set_option maxRecDepth 100000 in
theorem acX11_itemOf (l : Launch) (G : aG) (d : Nat) (hG : a_GT G) (hd : 5 ≤ d) {Q : Int32 → aH → Prop} {h : aH} {v0 : Nat} {v1 : Int32} {v2 : Int32} {v3 : Int32} (hw : wX11_itemOf h v0 v1 v2 v3 Q) : AC l G d 0 0 mX11_itemOf [.ref v0, .int v1, .int v2, .int v3] h (qI Q) := by
  refine ac_of iX11_itemOf (Nat.le_of_ble_eq_true rfl) ?_
  show AW l G d 0 0 mX11_itemOf (qI Q) 0 [(0, .ref v0), (1, .int v1), (2, .int v2), (3, .int v3)] [] h
  unfold wX11_itemOf at hw
  refine aw_aload_n 0 dX11_itemOf_0 rfl rfl ?_
  refine aw_iload_n 1 dX11_itemOf_1 rfl rfl ?_
  refine aw_iload_n 2 dX11_itemOf_2 rfl rfl ?_
  obtain ⟨_, h1, hw⟩ := hw
  refine aw_virtI (As := [.int v1, .int v2]) (rest := []) dX11_itemOf_3 (acX11_row l G (d - 1) hG (by omega) hw) iX11_row rfl k_1175 k_1177 k_59 rfl h1 (by omega) (by decide) (by decide) rfl (Nat.le_of_ble_eq_true rfl) (fun r2 h1 hw => ?_)
  refine aw_istore (lv' := [(4, .int r2), (0, .ref v0), (1, .int v1), (2, .int v2), (3, .int v3)]) dX11_itemOf_6 (by decide) rfl ?_
  refine aw_iload 0 dX11_itemOf_8 rfl ?_
  refine aw_if_eq (tgt := 18) dX11_itemOf_10 (by decide) (fun z => ?_) (fun z => ?_)
  · have hw := hw.1 z
    refine aw_iload_n 4 dX11_itemOf_18 rfl rfl ?_
    refine aw_iconst (v := 0) dX11_itemOf_19 (by decide) ?_
    refine aw_aload_n 1 dX11_itemOf_20 rfl rfl ?_
    obtain ⟨fs4, r3, h1, h2, hw⟩ := hw
    refine aw_getf (k := 4) dX11_itemOf_21 clX11 (by decide) k_952 (Or.inl rfl) h1 h2 ?_
    refine aw_aload_n 1 dX11_itemOf_24 rfl rfl ?_
    obtain ⟨fs6, r5, h1, h2, hw⟩ := hw
    refine aw_getf (k := 7) dX11_itemOf_25 clX11 (by decide) k_955 (Or.inl rfl) h1 h2 ?_
    refine aw_iload_n 2 dX11_itemOf_28 rfl rfl ?_
    obtain ⟨_, _, r7, h1, h2, h3, hw⟩ := hw
    refine aw_aI dX11_itemOf_29 h1 h2 h3 ?_
    obtain ⟨_, _, r8, h1, h2, h3, hw⟩ := hw
    refine aw_aI dX11_itemOf_30 h1 h2 h3 ?_
    refine aw_iconst (v := 1) dX11_itemOf_31 (by decide) ?_
    refine aw_isub dX11_itemOf_32 ?_
    refine aw_staticI (As := [.int v3, .int 0, .int (r8 - 1)]) (rest := []) dX11_itemOf_33 (acX11_in l G (d - 1) hG (by omega) hw) iX11_in rfl k_1080 k_1081 (by omega) (by decide) (by decide) rfl (Nat.le_of_ble_eq_true rfl) (fun r10 h9 hw => ?_)
    refine aw_if_eq (tgt := 43) dX11_itemOf_36 (by decide) (fun z => ?_) (fun z => ?_)
    · have hw := hw.1 z
      refine aw_iconst (v := 3) dX11_itemOf_43 (by decide) ?_
      refine aw_sub (lv' := []) [] rfl ?_
      exact abX11_itemOf_44 l G d hG hd _ _ hw
    · have hw := hw.2 z
      refine aw_iconst (v := 0) dX11_itemOf_39 (by decide) ?_
      refine aw_goto (tgt := 44) dX11_itemOf_40 (by decide) ?_
      refine aw_sub (lv' := []) [] rfl ?_
      exact abX11_itemOf_44 l G d hG hd _ _ hw
  · have hw := hw.2 z
    refine aw_iload 0 dX11_itemOf_13 rfl ?_
    refine aw_goto (tgt := 44) dX11_itemOf_15 (by decide) ?_
    refine aw_sub (lv' := []) [] rfl ?_
    exact abX11_itemOf_44 l G d hG hd _ _ hw
-- X11_make
def wX11_make (h : aH) (v0 : Nat) (v1 : Int32) (v2 : Int32) (v3 : Int32) (Q : Int32 → aH → Prop) : Prop :=
  (0 ≤ v3 → isO h v0 9 (wX11_fits h v0 ((1 : Int64)) v3.toInt64 (fun r2 h1 => (¬ r2 = 0 → rR h1 v0 9 7 (fun r3 => isO h1 v0 9 (wX11_fresh h1 v0 v2 v3 (fun r6 h5 => sI h5 r3 v1 r6 (fun h7 => Q 0 h7))))) ∧ (r2 = 0 → Q 8 h1)))) ∧ (¬ 0 ≤ v3 → Q 4 h)
set_option maxRecDepth 100000 in
theorem acX11_make (l : Launch) (G : aG) (d : Nat) (hG : a_GT G) (hd : 2 ≤ d) {Q : Int32 → aH → Prop} {h : aH} {v0 : Nat} {v1 : Int32} {v2 : Int32} {v3 : Int32} (hw : wX11_make h v0 v1 v2 v3 Q) : AC l G d 0 0 mX11_make [.ref v0, .int v1, .int v2, .int v3] h (qI Q) := by
  refine ac_of iX11_make (Nat.le_of_ble_eq_true rfl) ?_
  show AW l G d 0 0 mX11_make (qI Q) 0 [(0, .ref v0), (1, .int v1), (2, .int v2), (3, .int v3)] [] h
  unfold wX11_make at hw
  refine aw_iload_n 3 dX11_make_0 rfl rfl ?_
  refine aw_if_ge (tgt := 6) dX11_make_1 (by decide) (fun z => ?_) (fun z => ?_)
  · have hw := hw.1 z
    refine aw_aload_n 0 dX11_make_6 rfl rfl ?_
    refine aw_lconst (v := 1) dX11_make_7 (by decide) ?_
    refine aw_iload_n 3 dX11_make_8 rfl rfl ?_
    refine aw_i2l dX11_make_9 ?_
    obtain ⟨_, h1, hw⟩ := hw
    refine aw_virtI (As := [.long (1 : Int64), .long v3.toInt64]) (rest := []) dX11_make_10 (acX11_fits l G (d - 1) hG (by omega) hw) iX11_fits rfl k_1134 k_1136 k_50 rfl h1 (by omega) (by decide) (by decide) rfl (Nat.le_of_ble_eq_true rfl) (fun r2 h1 hw => ?_)
    refine aw_if_ne (tgt := 19) dX11_make_13 (by decide) (fun z => ?_) (fun z => ?_)
    · have hw := hw.1 z
      refine aw_aload_n 0 dX11_make_19 rfl rfl ?_
      obtain ⟨fs4, r3, h1, h2, hw⟩ := hw
      refine aw_getf (k := 7) dX11_make_20 clX11 (by decide) k_955 (Or.inl rfl) h1 h2 ?_
      refine aw_iload_n 1 dX11_make_23 rfl rfl ?_
      refine aw_aload_n 0 dX11_make_24 rfl rfl ?_
      refine aw_iload_n 2 dX11_make_25 rfl rfl ?_
      refine aw_iload_n 3 dX11_make_26 rfl rfl ?_
      obtain ⟨_, h1, hw⟩ := hw
      refine aw_virtI (As := [.int v2, .int v3]) (rest := [.int v1, .ref r3]) dX11_make_27 (acX11_fresh l G (d - 1) hG (by omega) hw) iX11_fresh rfl k_1140 k_1142 k_51 rfl h1 (by omega) (by decide) (by decide) rfl (Nat.le_of_ble_eq_true rfl) (fun r6 h5 hw => ?_)
      obtain ⟨_, _, h1, h2, hw⟩ := hw
      refine aw_iast dX11_make_30 h1 h2 ?_
      generalize a_up _ _ _ = h7 at hw ⊢
      refine aw_iconst (v := 0) dX11_make_31 (by decide) ?_
      exact aw_iret dX11_make_32 rfl rfl ⟨_, rfl, hw⟩
    · have hw := hw.2 z
      refine aw_bipush (v := 8) dX11_make_16 (by decide) ?_
      exact aw_iret dX11_make_18 rfl rfl ⟨_, rfl, hw⟩
  · have hw := hw.2 z
    refine aw_iconst (v := 4) dX11_make_4 (by decide) ?_
    exact aw_iret dX11_make_5 rfl rfl ⟨_, rfl, hw⟩
-- X11_deep
def wbX11_deep_8 (h : aH) (Q : Int32 → aH → Prop) : Prop :=
  Q 4 h
def wbX11_deep_43_i (K43 : Nat → Int32 → Int32 → Int32 → Int32 → Int32 →  aH → Prop) (v0 : Nat) (v1 : Int32) (v2 : Int32) (v3 : Int32) (v4 : Int32) (v5 : Int32) (h : aH) (Q : Int32 → aH → Prop) : Prop :=
  (v2 ≤ v5 → rR h v0 9 7 (fun r1 => sI h r1 v1 v4 (fun h3 => Q 0 h3))) ∧ (¬ v2 ≤ v5 → rR h v0 9 6 (fun r4 => rR h v0 9 3 (fun r6 => aI h r6 v4 (fun r8 => isO h v0 9 (wX11_fresh h v0 1 v3 (fun r10 h9 => sL h9 r4 ((r8 + v5)) r10.toInt64 (fun h11 => K43 v0 v1 v2 v3 v4 ((v5 + 1)) h11)))))))
def wbX11_deep_43 (n : Nat) (v0 : Nat) (v1 : Int32) (v2 : Int32) (v3 : Int32) (v4 : Int32) (v5 : Int32) (h : aH) (Q : Int32 → aH → Prop) : Prop := match n with
  | 0 => False
  | n + 1 => wbX11_deep_43_i (fun v0 v1 v2 v3 v4 v5 h => wbX11_deep_43 n v0 v1 v2 v3 v4 v5 h Q) v0 v1 v2 v3 v4 v5 h Q
def wX11_deep (h : aH) (v0 : Nat) (v1 : Int32) (v2 : Int32) (v3 : Int32) (Q : Int32 → aH → Prop) : Prop :=
  (v2 < 0 → wbX11_deep_8  h Q) ∧ (¬ v2 < 0 → (0 ≤ v3 → isO h v0 9 (wX11_fits h v0 (((1 : Int64) + v2.toInt64)) ((v2.toInt64 + (v2.toInt64 * v3.toInt64))) (fun r13 h12 => (¬ r13 = 0 → isO h12 v0 9 (wX11_fresh h12 v0 5 v2 (fun r15 h14 => ∃ n, wbX11_deep_43 n v0 v1 v2 v3 r15 0 h14 Q))) ∧ (r13 = 0 → Q 8 h12)))) ∧ (¬ 0 ≤ v3 → wbX11_deep_8  h Q))
set_option maxRecDepth 100000 in
theorem abX11_deep_8 (l : Launch) (G : aG) (d : Nat) (hG : a_GT G) (hd : 2 ≤ d) {Q : Int32 → aH → Prop} (h : aH) (hw : wbX11_deep_8  h Q) : AW l G d 0 0 mX11_deep (qI Q) 8 [] [] h := by
  unfold wbX11_deep_8 at hw
  refine aw_iconst (v := 4) dX11_deep_8 (by decide) ?_
  exact aw_iret dX11_deep_9 rfl rfl ⟨_, rfl, hw⟩
set_option maxRecDepth 100000 in
theorem abX11_deep_43_i (l : Launch) (G : aG) (d : Nat) (hG : a_GT G) (hd : 2 ≤ d) {Q : Int32 → aH → Prop} {K43 : Nat → Int32 → Int32 → Int32 → Int32 → Int32 →  aH → Prop} (kk43 : ∀ (v0 : Nat) (v1 : Int32) (v2 : Int32) (v3 : Int32) (v4 : Int32) (v5 : Int32) (h : aH), K43 v0 v1 v2 v3 v4 v5 h → AW l G d 0 0 mX11_deep (qI Q) 43 [(0, .ref v0), (1, .int v1), (2, .int v2), (3, .int v3), (4, .int v4), (5, .int v5)] [] h) (v0 : Nat) (v1 : Int32) (v2 : Int32) (v3 : Int32) (v4 : Int32) (v5 : Int32) (h : aH) (hw : wbX11_deep_43_i K43 v0 v1 v2 v3 v4 v5 h Q) : AW l G d 0 0 mX11_deep (qI Q) 43 [(0, .ref v0), (1, .int v1), (2, .int v2), (3, .int v3), (4, .int v4), (5, .int v5)] [] h := by
  unfold wbX11_deep_43_i at hw
  refine aw_iload 5 dX11_deep_43 rfl ?_
  refine aw_iload_n 2 dX11_deep_45 rfl rfl ?_
  refine aw_icmp_ge (tgt := 77) dX11_deep_46 (by decide) (fun z => ?_) (fun z => ?_)
  · have hw := hw.1 z
    refine aw_aload_n 0 dX11_deep_77 rfl rfl ?_
    obtain ⟨fs2, r1, h1, h2, hw⟩ := hw
    refine aw_getf (k := 7) dX11_deep_78 clX11 (by decide) k_955 (Or.inl rfl) h1 h2 ?_
    refine aw_iload_n 1 dX11_deep_81 rfl rfl ?_
    refine aw_iload 4 dX11_deep_82 rfl ?_
    obtain ⟨_, _, h1, h2, hw⟩ := hw
    refine aw_iast dX11_deep_84 h1 h2 ?_
    generalize a_up _ _ _ = h3 at hw ⊢
    refine aw_iconst (v := 0) dX11_deep_85 (by decide) ?_
    exact aw_iret dX11_deep_86 rfl rfl ⟨_, rfl, hw⟩
  · have hw := hw.2 z
    refine aw_aload_n 0 dX11_deep_49 rfl rfl ?_
    obtain ⟨fs5, r4, h1, h2, hw⟩ := hw
    refine aw_getf (k := 6) dX11_deep_50 clX11 (by decide) k_954 (Or.inl rfl) h1 h2 ?_
    refine aw_aload_n 0 dX11_deep_53 rfl rfl ?_
    obtain ⟨fs7, r6, h1, h2, hw⟩ := hw
    refine aw_getf (k := 3) dX11_deep_54 clX11 (by decide) k_951 (Or.inl rfl) h1 h2 ?_
    refine aw_iload 4 dX11_deep_57 rfl ?_
    obtain ⟨_, _, r8, h1, h2, h3, hw⟩ := hw
    refine aw_aI dX11_deep_59 h1 h2 h3 ?_
    refine aw_iload 5 dX11_deep_60 rfl ?_
    refine aw_iadd dX11_deep_62 ?_
    refine aw_aload_n 0 dX11_deep_63 rfl rfl ?_
    refine aw_iconst (v := 1) dX11_deep_64 (by decide) ?_
    refine aw_iload_n 3 dX11_deep_65 rfl rfl ?_
    obtain ⟨_, h1, hw⟩ := hw
    refine aw_virtI (As := [.int 1, .int v3]) (rest := [.int (r8 + v5), .ref r4]) dX11_deep_66 (acX11_fresh l G (d - 1) hG (by omega) hw) iX11_fresh rfl k_1140 k_1142 k_51 rfl h1 (by omega) (by decide) (by decide) rfl (Nat.le_of_ble_eq_true rfl) (fun r10 h9 hw => ?_)
    refine aw_i2l dX11_deep_69 ?_
    obtain ⟨_, _, h1, h2, hw⟩ := hw
    refine aw_last dX11_deep_70 h1 h2 ?_
    generalize a_up _ _ _ = h11 at hw ⊢
    refine aw_iinc (v := (v5 + 1)) (lv' := [(5, .int (v5 + 1)), (0, .ref v0), (1, .int v1), (2, .int v2), (3, .int v3), (4, .int v4)]) 5 dX11_deep_71 rfl rfl (by decide) rfl ?_
    refine aw_goto (tgt := 43) dX11_deep_74 (by decide) ?_
    refine aw_sub (lv' := [(0, .ref v0), (1, .int v1), (2, .int v2), (3, .int v3), (4, .int v4), (5, .int (v5 + 1))]) [1, 2, 3, 4, 5, 0] rfl ?_
    exact kk43 _ _ _ _ _ _ _ hw
set_option maxRecDepth 100000 in
theorem abX11_deep_43 (l : Launch) (G : aG) (d : Nat) (hG : a_GT G) (hd : 2 ≤ d) {Q : Int32 → aH → Prop} (n : Nat) : ∀  (v0 : Nat) (v1 : Int32) (v2 : Int32) (v3 : Int32) (v4 : Int32) (v5 : Int32) (h : aH), wbX11_deep_43 n v0 v1 v2 v3 v4 v5 h Q → AW l G d 0 0 mX11_deep (qI Q) 43 [(0, .ref v0), (1, .int v1), (2, .int v2), (3, .int v3), (4, .int v4), (5, .int v5)] [] h := by
  induction n with
  | zero => exact fun _ _ _ _ _ _ _ hw => hw.elim
  | succ n ih => exact fun _ _ _ _ _ _ _ hw => abX11_deep_43_i l G d hG hd ih _ _ _ _ _ _ _ hw
set_option maxRecDepth 100000 in
theorem acX11_deep (l : Launch) (G : aG) (d : Nat) (hG : a_GT G) (hd : 2 ≤ d) {Q : Int32 → aH → Prop} {h : aH} {v0 : Nat} {v1 : Int32} {v2 : Int32} {v3 : Int32} (hw : wX11_deep h v0 v1 v2 v3 Q) : AC l G d 0 0 mX11_deep [.ref v0, .int v1, .int v2, .int v3] h (qI Q) := by
  refine ac_of iX11_deep (Nat.le_of_ble_eq_true rfl) ?_
  show AW l G d 0 0 mX11_deep (qI Q) 0 [(0, .ref v0), (1, .int v1), (2, .int v2), (3, .int v3)] [] h
  unfold wX11_deep at hw
  refine aw_iload_n 2 dX11_deep_0 rfl rfl ?_
  refine aw_if_lt (tgt := 8) dX11_deep_1 (by decide) (fun z => ?_) (fun z => ?_)
  · have hw := hw.1 z
    refine aw_sub (lv' := []) [] rfl ?_
    exact abX11_deep_8 l G d hG hd _ hw
  · have hw := hw.2 z
    refine aw_iload_n 3 dX11_deep_4 rfl rfl ?_
    refine aw_if_ge (tgt := 10) dX11_deep_5 (by decide) (fun z => ?_) (fun z => ?_)
    · have hw := hw.1 z
      refine aw_aload_n 0 dX11_deep_10 rfl rfl ?_
      refine aw_lconst (v := 1) dX11_deep_11 (by decide) ?_
      refine aw_iload_n 2 dX11_deep_12 rfl rfl ?_
      refine aw_i2l dX11_deep_13 ?_
      refine aw_ladd dX11_deep_14 ?_
      refine aw_iload_n 2 dX11_deep_15 rfl rfl ?_
      refine aw_i2l dX11_deep_16 ?_
      refine aw_iload_n 2 dX11_deep_17 rfl rfl ?_
      refine aw_i2l dX11_deep_18 ?_
      refine aw_iload_n 3 dX11_deep_19 rfl rfl ?_
      refine aw_i2l dX11_deep_20 ?_
      refine aw_lmul dX11_deep_21 ?_
      refine aw_ladd dX11_deep_22 ?_
      obtain ⟨_, h1, hw⟩ := hw
      refine aw_virtI (As := [.long ((1 : Int64) + v2.toInt64), .long (v2.toInt64 + (v2.toInt64 * v3.toInt64))]) (rest := []) dX11_deep_23 (acX11_fits l G (d - 1) hG (by omega) hw) iX11_fits rfl k_1134 k_1136 k_50 rfl h1 (by omega) (by decide) (by decide) rfl (Nat.le_of_ble_eq_true rfl) (fun r13 h12 hw => ?_)
      refine aw_if_ne (tgt := 32) dX11_deep_26 (by decide) (fun z => ?_) (fun z => ?_)
      · have hw := hw.1 z
        refine aw_aload_n 0 dX11_deep_32 rfl rfl ?_
        refine aw_iconst (v := 5) dX11_deep_33 (by decide) ?_
        refine aw_iload_n 2 dX11_deep_34 rfl rfl ?_
        obtain ⟨_, h1, hw⟩ := hw
        refine aw_virtI (As := [.int 5, .int v2]) (rest := []) dX11_deep_35 (acX11_fresh l G (d - 1) hG (by omega) hw) iX11_fresh rfl k_1140 k_1142 k_51 rfl h1 (by omega) (by decide) (by decide) rfl (Nat.le_of_ble_eq_true rfl) (fun r15 h14 hw => ?_)
        refine aw_istore (lv' := [(4, .int r15), (0, .ref v0), (1, .int v1), (2, .int v2), (3, .int v3)]) dX11_deep_38 (by decide) rfl ?_
        refine aw_iconst (v := 0) dX11_deep_40 (by decide) ?_
        refine aw_istore (lv' := [(5, .int 0), (4, .int r15), (0, .ref v0), (1, .int v1), (2, .int v2), (3, .int v3)]) dX11_deep_41 (by decide) rfl ?_
        obtain ⟨n, hw⟩ := hw
        refine aw_sub (lv' := [(0, .ref v0), (1, .int v1), (2, .int v2), (3, .int v3), (4, .int r15), (5, .int 0)]) [2, 3, 4, 5, 1, 0] rfl ?_
        exact abX11_deep_43 l G d hG hd n _ _ _ _ _ _ _ hw
      · have hw := hw.2 z
        refine aw_bipush (v := 8) dX11_deep_29 (by decide) ?_
        exact aw_iret dX11_deep_31 rfl rfl ⟨_, rfl, hw⟩
    · have hw := hw.2 z
      refine aw_sub (lv' := []) [] rfl ?_
      exact abX11_deep_8 l G d hG hd _ hw
-- X11_figure
def wX11_figure (h : aH) (v0 : Nat) (v1 : Int32) (v2 : Int32) (v3 : Int32) (Q : Int32 → aH → Prop) : Prop :=
  isO h v0 9 (wX11_fits h v0 ((1 : Int64)) ((0 : Int64)) (fun r2 h1 => (¬ r2 = 0 → rR h1 v0 9 7 (fun r3 => isO h1 v0 9 (wX11_fresh h1 v0 v2 0 (fun r6 h5 => sI h5 r3 v1 r6 (fun h7 => rR h7 v0 9 5 (fun r8 => rR h7 v0 9 7 (fun r10 => aI h7 r10 v1 (fun r12 => sI h7 r8 r12 v3 (fun h13 => Q 0 h13))))))))) ∧ (r2 = 0 → Q 8 h1)))
set_option maxRecDepth 100000 in
theorem acX11_figure (l : Launch) (G : aG) (d : Nat) (hG : a_GT G) (hd : 2 ≤ d) {Q : Int32 → aH → Prop} {h : aH} {v0 : Nat} {v1 : Int32} {v2 : Int32} {v3 : Int32} (hw : wX11_figure h v0 v1 v2 v3 Q) : AC l G d 0 0 mX11_figure [.ref v0, .int v1, .int v2, .int v3] h (qI Q) := by
  refine ac_of iX11_figure (Nat.le_of_ble_eq_true rfl) ?_
  show AW l G d 0 0 mX11_figure (qI Q) 0 [(0, .ref v0), (1, .int v1), (2, .int v2), (3, .int v3)] [] h
  unfold wX11_figure at hw
  refine aw_aload_n 0 dX11_figure_0 rfl rfl ?_
  refine aw_lconst (v := 1) dX11_figure_1 (by decide) ?_
  refine aw_lconst (v := 0) dX11_figure_2 (by decide) ?_
  obtain ⟨_, h1, hw⟩ := hw
  refine aw_virtI (As := [.long (1 : Int64), .long (0 : Int64)]) (rest := []) dX11_figure_3 (acX11_fits l G (d - 1) hG (by omega) hw) iX11_fits rfl k_1134 k_1136 k_50 rfl h1 (by omega) (by decide) (by decide) rfl (Nat.le_of_ble_eq_true rfl) (fun r2 h1 hw => ?_)
  refine aw_if_ne (tgt := 12) dX11_figure_6 (by decide) (fun z => ?_) (fun z => ?_)
  · have hw := hw.1 z
    refine aw_aload_n 0 dX11_figure_12 rfl rfl ?_
    obtain ⟨fs4, r3, h1, h2, hw⟩ := hw
    refine aw_getf (k := 7) dX11_figure_13 clX11 (by decide) k_955 (Or.inl rfl) h1 h2 ?_
    refine aw_iload_n 1 dX11_figure_16 rfl rfl ?_
    refine aw_aload_n 0 dX11_figure_17 rfl rfl ?_
    refine aw_iload_n 2 dX11_figure_18 rfl rfl ?_
    refine aw_iconst (v := 0) dX11_figure_19 (by decide) ?_
    obtain ⟨_, h1, hw⟩ := hw
    refine aw_virtI (As := [.int v2, .int 0]) (rest := [.int v1, .ref r3]) dX11_figure_20 (acX11_fresh l G (d - 1) hG (by omega) hw) iX11_fresh rfl k_1140 k_1142 k_51 rfl h1 (by omega) (by decide) (by decide) rfl (Nat.le_of_ble_eq_true rfl) (fun r6 h5 hw => ?_)
    obtain ⟨_, _, h1, h2, hw⟩ := hw
    refine aw_iast dX11_figure_23 h1 h2 ?_
    generalize a_up _ _ _ = h7 at hw ⊢
    refine aw_aload_n 0 dX11_figure_24 rfl rfl ?_
    obtain ⟨fs9, r8, h1, h2, hw⟩ := hw
    refine aw_getf (k := 5) dX11_figure_25 clX11 (by decide) k_953 (Or.inl rfl) h1 h2 ?_
    refine aw_aload_n 0 dX11_figure_28 rfl rfl ?_
    obtain ⟨fs11, r10, h1, h2, hw⟩ := hw
    refine aw_getf (k := 7) dX11_figure_29 clX11 (by decide) k_955 (Or.inl rfl) h1 h2 ?_
    refine aw_iload_n 1 dX11_figure_32 rfl rfl ?_
    obtain ⟨_, _, r12, h1, h2, h3, hw⟩ := hw
    refine aw_aI dX11_figure_33 h1 h2 h3 ?_
    refine aw_iload_n 3 dX11_figure_34 rfl rfl ?_
    obtain ⟨_, _, h1, h2, hw⟩ := hw
    refine aw_iast dX11_figure_35 h1 h2 ?_
    generalize a_up _ _ _ = h13 at hw ⊢
    refine aw_iconst (v := 0) dX11_figure_36 (by decide) ?_
    exact aw_iret dX11_figure_37 rfl rfl ⟨_, rfl, hw⟩
  · have hw := hw.2 z
    refine aw_bipush (v := 8) dX11_figure_9 (by decide) ?_
    exact aw_iret dX11_figure_11 rfl rfl ⟨_, rfl, hw⟩
-- X11_told
def wbX11_told_70 (s0 : Int64) (h : aH) (Q : Int64 → aH → Prop) : Prop :=
  Q s0 h
def wbX11_told_69 (v1 : Int64) (h : aH) (Q : Int64 → aH → Prop) : Prop :=
  wbX11_told_70 v1 h Q
def wbX11_told_30 (v0 : Int32) (v1 : Int64) (s0 : Int32) (h : aH) (Q : Int64 → aH → Prop) : Prop :=
  (¬ v0 = 1 → (¬ v0 = 2 → (¬ v0 = 4 → wbX11_told_69 v1 h Q) ∧ (v0 = 4 → (s0 = 0 → wbX11_told_69 v1 h Q) ∧ (¬ s0 = 0 → wbX11_told_70 ((9221120237041090560 : Int64)) h Q))) ∧ (v0 = 2 → wbX11_told_70 v1.toInt32.toInt8.toInt32.toInt64 h Q)) ∧ (v0 = 1 → wbX11_told_70 v1.toInt32.toInt64 h Q)
def wbX11_told_29 (v0 : Int32) (v1 : Int64) (h : aH) (Q : Int64 → aH → Prop) : Prop :=
  wbX11_told_30 v0 v1 0 h Q
def wX11_told (h : aH) (v0 : Int32) (v1 : Int64) (Q : Int64 → aH → Prop) : Prop :=
  (¬ (lg_cmp (((v1 >>> ((52 : Int32).toInt64 &&& 63)) &&& (2047 : Int64))) ((2047 : Int64))) = 0 → wbX11_told_29 v0 v1 h Q) ∧ ((lg_cmp (((v1 >>> ((52 : Int32).toInt64 &&& 63)) &&& (2047 : Int64))) ((2047 : Int64))) = 0 → ((lg_cmp ((v1 &&& (4503599627370495 : Int64))) ((0 : Int64))) = 0 → wbX11_told_29 v0 v1 h Q) ∧ (¬ (lg_cmp ((v1 &&& (4503599627370495 : Int64))) ((0 : Int64))) = 0 → wbX11_told_30 v0 v1 1 h Q))
set_option maxRecDepth 100000 in
theorem abX11_told_70 (l : Launch) (G : aG) (d : Nat) (hG : a_GT G) (hd : 1 ≤ d) {Q : Int64 → aH → Prop} (s0 : Int64) (h : aH) (hw : wbX11_told_70 s0 h Q) : AW l G d 0 0 mX11_told (qL Q) 70 [] [.long s0] h := by
  unfold wbX11_told_70 at hw
  exact aw_lret dX11_told_70 rfl ⟨_, rfl, hw⟩
set_option maxRecDepth 100000 in
theorem abX11_told_69 (l : Launch) (G : aG) (d : Nat) (hG : a_GT G) (hd : 1 ≤ d) {Q : Int64 → aH → Prop} (v1 : Int64) (h : aH) (hw : wbX11_told_69 v1 h Q) : AW l G d 0 0 mX11_told (qL Q) 69 [(1, .long v1)] [] h := by
  unfold wbX11_told_69 at hw
  refine aw_lload_n 0 dX11_told_69 rfl rfl ?_
  refine aw_sub (lv' := []) [] rfl ?_
  exact abX11_told_70 l G d hG hd _ _ hw
set_option maxRecDepth 100000 in
theorem abX11_told_30 (l : Launch) (G : aG) (d : Nat) (hG : a_GT G) (hd : 1 ≤ d) {Q : Int64 → aH → Prop} (v0 : Int32) (v1 : Int64) (s0 : Int32) (h : aH) (hw : wbX11_told_30 v0 v1 s0 h Q) : AW l G d 0 0 mX11_told (qL Q) 30 [(0, .int v0), (1, .long v1)] [.int s0] h := by
  unfold wbX11_told_30 at hw
  refine aw_istore_n (lv' := [(3, .int s0), (0, .int v0), (1, .long v1)]) dX11_told_30 rfl (by decide) rfl ?_
  refine aw_iload_n 1 dX11_told_31 rfl rfl ?_
  refine aw_iconst (v := 1) dX11_told_32 (by decide) ?_
  refine aw_icmp_ne (tgt := 42) dX11_told_33 (by decide) (fun z => ?_) (fun z => ?_)
  · have hw := hw.1 z
    refine aw_iload_n 1 dX11_told_42 rfl rfl ?_
    refine aw_iconst (v := 2) dX11_told_43 (by decide) ?_
    refine aw_icmp_ne (tgt := 54) dX11_told_44 (by decide) (fun z => ?_) (fun z => ?_)
    · have hw := hw.1 z
      refine aw_iload_n 1 dX11_told_54 rfl rfl ?_
      refine aw_iconst (v := 4) dX11_told_55 (by decide) ?_
      refine aw_icmp_ne (tgt := 69) dX11_told_56 (by decide) (fun z => ?_) (fun z => ?_)
      · have hw := hw.1 z
        refine aw_sub (lv' := [(1, .long v1)]) [2] rfl ?_
        exact abX11_told_69 l G d hG hd _ _ hw
      · have hw := hw.2 z
        refine aw_iload_n 0 dX11_told_59 rfl rfl ?_
        refine aw_if_eq (tgt := 69) dX11_told_60 (by decide) (fun z => ?_) (fun z => ?_)
        · have hw := hw.1 z
          refine aw_sub (lv' := [(1, .long v1)]) [2] rfl ?_
          exact abX11_told_69 l G d hG hd _ _ hw
        · have hw := hw.2 z
          refine aw_ldc2 (v := 9221120237041090560) dX11_told_63 k_1188 ?_
          refine aw_goto (tgt := 70) dX11_told_66 (by decide) ?_
          refine aw_sub (lv' := []) [] rfl ?_
          exact abX11_told_70 l G d hG hd _ _ hw
    · have hw := hw.2 z
      refine aw_lload_n 2 dX11_told_47 rfl rfl ?_
      refine aw_l2i dX11_told_48 ?_
      refine aw_i2b dX11_told_49 ?_
      refine aw_i2l dX11_told_50 ?_
      refine aw_goto (tgt := 70) dX11_told_51 (by decide) ?_
      refine aw_sub (lv' := []) [] rfl ?_
      exact abX11_told_70 l G d hG hd _ _ hw
  · have hw := hw.2 z
    refine aw_lload_n 2 dX11_told_36 rfl rfl ?_
    refine aw_l2i dX11_told_37 ?_
    refine aw_i2l dX11_told_38 ?_
    refine aw_goto (tgt := 70) dX11_told_39 (by decide) ?_
    refine aw_sub (lv' := []) [] rfl ?_
    exact abX11_told_70 l G d hG hd _ _ hw
set_option maxRecDepth 100000 in
theorem abX11_told_29 (l : Launch) (G : aG) (d : Nat) (hG : a_GT G) (hd : 1 ≤ d) {Q : Int64 → aH → Prop} (v0 : Int32) (v1 : Int64) (h : aH) (hw : wbX11_told_29 v0 v1 h Q) : AW l G d 0 0 mX11_told (qL Q) 29 [(0, .int v0), (1, .long v1)] [] h := by
  unfold wbX11_told_29 at hw
  refine aw_iconst (v := 0) dX11_told_29 (by decide) ?_
  exact abX11_told_30 l G d hG hd _ _ _ _ hw
set_option maxRecDepth 100000 in
theorem acX11_told (l : Launch) (G : aG) (d : Nat) (hG : a_GT G) (hd : 1 ≤ d) {Q : Int64 → aH → Prop} {h : aH} {v0 : Int32} {v1 : Int64} (hw : wX11_told h v0 v1 Q) : AC l G d 0 0 mX11_told [.int v0, .long v1] h (qL Q) := by
  refine ac_of iX11_told (Nat.le_of_ble_eq_true rfl) ?_
  show AW l G d 0 0 mX11_told (qL Q) 0 [(0, .int v0), (1, .long v1)] [] h
  unfold wX11_told at hw
  refine aw_lload_n 1 dX11_told_0 rfl rfl ?_
  refine aw_bipush (v := 52) dX11_told_1 (by decide) ?_
  refine aw_lshr dX11_told_3 ?_
  refine aw_ldc2 (v := 2047) dX11_told_4 k_1186 ?_
  refine aw_land dX11_told_7 ?_
  refine aw_ldc2 (v := 2047) dX11_told_8 k_1186 ?_
  refine aw_lcmp dX11_told_11 ?_
  refine aw_if_ne (tgt := 29) dX11_told_12 (by decide) (fun z => ?_) (fun z => ?_)
  · have hw := hw.1 z
    exact abX11_told_29 l G d hG hd _ _ _ hw
  · have hw := hw.2 z
    refine aw_lload_n 1 dX11_told_15 rfl rfl ?_
    refine aw_ldc2 (v := 4503599627370495) dX11_told_16 k_1187 ?_
    refine aw_land dX11_told_19 ?_
    refine aw_lconst (v := 0) dX11_told_20 (by decide) ?_
    refine aw_lcmp dX11_told_21 ?_
    refine aw_if_eq (tgt := 29) dX11_told_22 (by decide) (fun z => ?_) (fun z => ?_)
    · have hw := hw.1 z
      exact abX11_told_29 l G d hG hd _ _ _ hw
    · have hw := hw.2 z
      refine aw_iconst (v := 1) dX11_told_25 (by decide) ?_
      refine aw_goto (tgt := 30) dX11_told_26 (by decide) ?_
      exact abX11_told_30 l G d hG hd _ _ _ _ hw
-- X11_lay
def wbX11_lay_120 (v0 : Nat) (v1 : Int32) (v3 : Int32) (v4 : Int32) (h : aH) (Q : Int32 → aH → Prop) : Prop :=
  rR h v0 9 6 (fun r1 => rR h v0 9 3 (fun r3 => rR h v0 9 7 (fun r5 => aI h r5 v1 (fun r7 => aI h r3 r7 (fun r8 => rR h v0 9 7 (fun r9 => aI h r9 v4 (fun r11 => sL h r1 ((r8 + v3)) r11.toInt64 (fun h12 => Q 0 h12))))))))
def wbX11_lay_65 (v0 : Nat) (v1 : Int32) (v3 : Int32) (v4 : Int32) (s0 : Int32) (h : aH) (Q : Int32 → aH → Prop) : Prop :=
  (s0 = 0 → rR h v0 9 2 (fun r13 => rR h v0 9 7 (fun r15 => aI h r15 v1 (fun r17 => aI h r13 r17 (fun r18 => (¬ r18 = 7 → wbX11_lay_120 v0 v1 v3 v4 h Q) ∧ (r18 = 7 → rR h v0 9 7 (fun r19 => aI h r19 v4 (fun r21 => (r21 = 0 → wbX11_lay_120 v0 v1 v3 v4 h Q) ∧ (¬ r21 = 0 → rR h v0 9 2 (fun r22 => rR h v0 9 7 (fun r24 => aI h r24 v4 (fun r26 => aI h r22 r26 (fun r27 => (¬ r27 = 8 → wbX11_lay_120 v0 v1 v3 v4 h Q) ∧ (r27 = 8 → Q 5 h)))))))))))))) ∧ (¬ s0 = 0 → Q s0 h)
def wbX11_lay_46 (v0 : Nat) (v1 : Int32) (v2 : Int32) (v3 : Int32) (v4 : Int32) (s0 : Int32) (h : aH) (Q : Int32 → aH → Prop) : Prop :=
  (s0 = 0 → isO h v0 9 (wX11_itemOf h v0 v1 v2 v3 (fun r29 h28 => wbX11_lay_65 v0 v1 v3 v4 r29 h28 Q))) ∧ (¬ s0 = 0 → wbX11_lay_65 v0 v1 v3 v4 s0 h Q)
def wbX11_lay_43 (v0 : Nat) (v1 : Int32) (v2 : Int32) (v3 : Int32) (v4 : Int32) (s0 : Int32) (s1 : Int32) (s2 : Nat) (h : aH) (Q : Int32 → aH → Prop) : Prop :=
  isO h s2 9 (wX11_as h s2 s1 s0 (fun r31 h30 => wbX11_lay_46 v0 v1 v2 v3 v4 r31 h30 Q))
def wX11_lay (h : aH) (v0 : Nat) (v1 : Int32) (v2 : Int32) (v3 : Int32) (v4 : Int32) (Q : Int32 → aH → Prop) : Prop :=
  isO h v0 9 (wX11_as h v0 v1 v2 (fun r33 h32 => (r33 = 0 → (¬ v2 = 5 → (¬ v2 = 6 → wbX11_lay_43 v0 v1 v2 v3 v4 9 v4 v0 h32 Q) ∧ (v2 = 6 → wbX11_lay_43 v0 v1 v2 v3 v4 8 v4 v0 h32 Q)) ∧ (v2 = 5 → wbX11_lay_43 v0 v1 v2 v3 v4 1 v4 v0 h32 Q)) ∧ (¬ r33 = 0 → wbX11_lay_46 v0 v1 v2 v3 v4 r33 h32 Q)))
set_option maxRecDepth 100000 in
theorem abX11_lay_120 (l : Launch) (G : aG) (d : Nat) (hG : a_GT G) (hd : 6 ≤ d) {Q : Int32 → aH → Prop} (v0 : Nat) (v1 : Int32) (v3 : Int32) (v4 : Int32) (h : aH) (hw : wbX11_lay_120 v0 v1 v3 v4 h Q) : AW l G d 0 0 mX11_lay (qI Q) 120 [(0, .ref v0), (1, .int v1), (3, .int v3), (4, .int v4)] [] h := by
  unfold wbX11_lay_120 at hw
  refine aw_aload_n 0 dX11_lay_120 rfl rfl ?_
  obtain ⟨fs2, r1, h1, h2, hw⟩ := hw
  refine aw_getf (k := 6) dX11_lay_121 clX11 (by decide) k_954 (Or.inl rfl) h1 h2 ?_
  refine aw_aload_n 0 dX11_lay_124 rfl rfl ?_
  obtain ⟨fs4, r3, h1, h2, hw⟩ := hw
  refine aw_getf (k := 3) dX11_lay_125 clX11 (by decide) k_951 (Or.inl rfl) h1 h2 ?_
  refine aw_aload_n 0 dX11_lay_128 rfl rfl ?_
  obtain ⟨fs6, r5, h1, h2, hw⟩ := hw
  refine aw_getf (k := 7) dX11_lay_129 clX11 (by decide) k_955 (Or.inl rfl) h1 h2 ?_
  refine aw_iload_n 1 dX11_lay_132 rfl rfl ?_
  obtain ⟨_, _, r7, h1, h2, h3, hw⟩ := hw
  refine aw_aI dX11_lay_133 h1 h2 h3 ?_
  obtain ⟨_, _, r8, h1, h2, h3, hw⟩ := hw
  refine aw_aI dX11_lay_134 h1 h2 h3 ?_
  refine aw_iload_n 2 dX11_lay_135 rfl rfl ?_
  refine aw_iadd dX11_lay_136 ?_
  refine aw_aload_n 0 dX11_lay_137 rfl rfl ?_
  obtain ⟨fs10, r9, h1, h2, hw⟩ := hw
  refine aw_getf (k := 7) dX11_lay_138 clX11 (by decide) k_955 (Or.inl rfl) h1 h2 ?_
  refine aw_iload 3 dX11_lay_141 rfl ?_
  obtain ⟨_, _, r11, h1, h2, h3, hw⟩ := hw
  refine aw_aI dX11_lay_143 h1 h2 h3 ?_
  refine aw_i2l dX11_lay_144 ?_
  obtain ⟨_, _, h1, h2, hw⟩ := hw
  refine aw_last dX11_lay_145 h1 h2 ?_
  generalize a_up _ _ _ = h12 at hw ⊢
  refine aw_iconst (v := 0) dX11_lay_146 (by decide) ?_
  exact aw_iret dX11_lay_147 rfl rfl ⟨_, rfl, hw⟩
set_option maxRecDepth 100000 in
theorem abX11_lay_65 (l : Launch) (G : aG) (d : Nat) (hG : a_GT G) (hd : 6 ≤ d) {Q : Int32 → aH → Prop} (v0 : Nat) (v1 : Int32) (v3 : Int32) (v4 : Int32) (s0 : Int32) (h : aH) (hw : wbX11_lay_65 v0 v1 v3 v4 s0 h Q) : AW l G d 0 0 mX11_lay (qI Q) 65 [(0, .ref v0), (1, .int v1), (3, .int v3), (4, .int v4)] [.int s0] h := by
  unfold wbX11_lay_65 at hw
  refine aw_istore (lv' := [(5, .int s0), (0, .ref v0), (1, .int v1), (3, .int v3), (4, .int v4)]) dX11_lay_65 (by decide) rfl ?_
  refine aw_iload 0 dX11_lay_67 rfl ?_
  refine aw_if_eq (tgt := 75) dX11_lay_69 (by decide) (fun z => ?_) (fun z => ?_)
  · have hw := hw.1 z
    refine aw_aload_n 1 dX11_lay_75 rfl rfl ?_
    obtain ⟨fs14, r13, h1, h2, hw⟩ := hw
    refine aw_getf (k := 2) dX11_lay_76 clX11 (by decide) k_950 (Or.inl rfl) h1 h2 ?_
    refine aw_aload_n 1 dX11_lay_79 rfl rfl ?_
    obtain ⟨fs16, r15, h1, h2, hw⟩ := hw
    refine aw_getf (k := 7) dX11_lay_80 clX11 (by decide) k_955 (Or.inl rfl) h1 h2 ?_
    refine aw_iload_n 2 dX11_lay_83 rfl rfl ?_
    obtain ⟨_, _, r17, h1, h2, h3, hw⟩ := hw
    refine aw_aI dX11_lay_84 h1 h2 h3 ?_
    obtain ⟨_, _, r18, h1, h2, h3, hw⟩ := hw
    refine aw_aI dX11_lay_85 h1 h2 h3 ?_
    refine aw_bipush (v := 7) dX11_lay_86 (by decide) ?_
    refine aw_icmp_ne (tgt := 120) dX11_lay_88 (by decide) (fun z => ?_) (fun z => ?_)
    · have hw := hw.1 z
      refine aw_sub (lv' := [(0, .ref v0), (1, .int v1), (3, .int v3), (4, .int v4)]) [1, 2, 3, 4] rfl ?_
      exact abX11_lay_120 l G d hG hd _ _ _ _ _ hw
    · have hw := hw.2 z
      refine aw_aload_n 1 dX11_lay_91 rfl rfl ?_
      obtain ⟨fs20, r19, h1, h2, hw⟩ := hw
      refine aw_getf (k := 7) dX11_lay_92 clX11 (by decide) k_955 (Or.inl rfl) h1 h2 ?_
      refine aw_iload 4 dX11_lay_95 rfl ?_
      obtain ⟨_, _, r21, h1, h2, h3, hw⟩ := hw
      refine aw_aI dX11_lay_97 h1 h2 h3 ?_
      refine aw_if_eq (tgt := 120) dX11_lay_98 (by decide) (fun z => ?_) (fun z => ?_)
      · have hw := hw.1 z
        refine aw_sub (lv' := [(0, .ref v0), (1, .int v1), (3, .int v3), (4, .int v4)]) [1, 2, 3, 4] rfl ?_
        exact abX11_lay_120 l G d hG hd _ _ _ _ _ hw
      · have hw := hw.2 z
        refine aw_aload_n 1 dX11_lay_101 rfl rfl ?_
        obtain ⟨fs23, r22, h1, h2, hw⟩ := hw
        refine aw_getf (k := 2) dX11_lay_102 clX11 (by decide) k_950 (Or.inl rfl) h1 h2 ?_
        refine aw_aload_n 1 dX11_lay_105 rfl rfl ?_
        obtain ⟨fs25, r24, h1, h2, hw⟩ := hw
        refine aw_getf (k := 7) dX11_lay_106 clX11 (by decide) k_955 (Or.inl rfl) h1 h2 ?_
        refine aw_iload 4 dX11_lay_109 rfl ?_
        obtain ⟨_, _, r26, h1, h2, h3, hw⟩ := hw
        refine aw_aI dX11_lay_111 h1 h2 h3 ?_
        obtain ⟨_, _, r27, h1, h2, h3, hw⟩ := hw
        refine aw_aI dX11_lay_112 h1 h2 h3 ?_
        refine aw_bipush (v := 8) dX11_lay_113 (by decide) ?_
        refine aw_icmp_ne (tgt := 120) dX11_lay_115 (by decide) (fun z => ?_) (fun z => ?_)
        · have hw := hw.1 z
          refine aw_sub (lv' := [(0, .ref v0), (1, .int v1), (3, .int v3), (4, .int v4)]) [1, 2, 3, 4] rfl ?_
          exact abX11_lay_120 l G d hG hd _ _ _ _ _ hw
        · have hw := hw.2 z
          refine aw_iconst (v := 5) dX11_lay_118 (by decide) ?_
          exact aw_iret dX11_lay_119 rfl rfl ⟨_, rfl, hw⟩
  · have hw := hw.2 z
    refine aw_iload 0 dX11_lay_72 rfl ?_
    exact aw_iret dX11_lay_74 rfl rfl ⟨_, rfl, hw⟩
set_option maxRecDepth 100000 in
theorem abX11_lay_46 (l : Launch) (G : aG) (d : Nat) (hG : a_GT G) (hd : 6 ≤ d) {Q : Int32 → aH → Prop} (v0 : Nat) (v1 : Int32) (v2 : Int32) (v3 : Int32) (v4 : Int32) (s0 : Int32) (h : aH) (hw : wbX11_lay_46 v0 v1 v2 v3 v4 s0 h Q) : AW l G d 0 0 mX11_lay (qI Q) 46 [(0, .ref v0), (1, .int v1), (2, .int v2), (3, .int v3), (4, .int v4)] [.int s0] h := by
  unfold wbX11_lay_46 at hw
  refine aw_istore (lv' := [(5, .int s0), (0, .ref v0), (1, .int v1), (2, .int v2), (3, .int v3), (4, .int v4)]) dX11_lay_46 (by decide) rfl ?_
  refine aw_iload 0 dX11_lay_48 rfl ?_
  refine aw_if_eq (tgt := 58) dX11_lay_50 (by decide) (fun z => ?_) (fun z => ?_)
  · have hw := hw.1 z
    refine aw_aload_n 1 dX11_lay_58 rfl rfl ?_
    refine aw_iload_n 2 dX11_lay_59 rfl rfl ?_
    refine aw_iload_n 3 dX11_lay_60 rfl rfl ?_
    refine aw_iload_n 4 dX11_lay_61 rfl rfl ?_
    obtain ⟨_, h1, hw⟩ := hw
    refine aw_virtI (As := [.int v1, .int v2, .int v3]) (rest := []) dX11_lay_62 (acX11_itemOf l G (d - 1) hG (by omega) hw) iX11_itemOf rfl k_1171 k_1173 k_58 rfl h1 (by omega) (by decide) (by decide) rfl (Nat.le_of_ble_eq_true rfl) (fun r29 h28 hw => ?_)
    refine aw_sub (lv' := [(0, .ref v0), (1, .int v1), (3, .int v3), (4, .int v4)]) [1, 2, 4, 5] rfl ?_
    exact abX11_lay_65 l G d hG hd _ _ _ _ _ _ hw
  · have hw := hw.2 z
    refine aw_iload 0 dX11_lay_53 rfl ?_
    refine aw_goto (tgt := 65) dX11_lay_55 (by decide) ?_
    refine aw_sub (lv' := [(0, .ref v0), (1, .int v1), (3, .int v3), (4, .int v4)]) [1, 2, 4, 5] rfl ?_
    exact abX11_lay_65 l G d hG hd _ _ _ _ _ _ hw
set_option maxRecDepth 100000 in
theorem abX11_lay_43 (l : Launch) (G : aG) (d : Nat) (hG : a_GT G) (hd : 6 ≤ d) {Q : Int32 → aH → Prop} (v0 : Nat) (v1 : Int32) (v2 : Int32) (v3 : Int32) (v4 : Int32) (s0 : Int32) (s1 : Int32) (s2 : Nat) (h : aH) (hw : wbX11_lay_43 v0 v1 v2 v3 v4 s0 s1 s2 h Q) : AW l G d 0 0 mX11_lay (qI Q) 43 [(0, .ref v0), (1, .int v1), (2, .int v2), (3, .int v3), (4, .int v4)] [.int s0, .int s1, .ref s2] h := by
  unfold wbX11_lay_43 at hw
  obtain ⟨_, h1, hw⟩ := hw
  refine aw_virtI (As := [.int s1, .int s0]) (rest := []) dX11_lay_43 (acX11_as l G (d - 1) hG (by omega) hw) iX11_as rfl k_1156 k_1158 k_55 rfl h1 (by omega) (by decide) (by decide) rfl (Nat.le_of_ble_eq_true rfl) (fun r31 h30 hw => ?_)
  exact abX11_lay_46 l G d hG hd _ _ _ _ _ _ _ hw
set_option maxRecDepth 100000 in
theorem acX11_lay (l : Launch) (G : aG) (d : Nat) (hG : a_GT G) (hd : 6 ≤ d) {Q : Int32 → aH → Prop} {h : aH} {v0 : Nat} {v1 : Int32} {v2 : Int32} {v3 : Int32} {v4 : Int32} (hw : wX11_lay h v0 v1 v2 v3 v4 Q) : AC l G d 0 0 mX11_lay [.ref v0, .int v1, .int v2, .int v3, .int v4] h (qI Q) := by
  refine ac_of iX11_lay (Nat.le_of_ble_eq_true rfl) ?_
  show AW l G d 0 0 mX11_lay (qI Q) 0 [(0, .ref v0), (1, .int v1), (2, .int v2), (3, .int v3), (4, .int v4)] [] h
  unfold wX11_lay at hw
  refine aw_aload_n 0 dX11_lay_0 rfl rfl ?_
  refine aw_iload_n 1 dX11_lay_1 rfl rfl ?_
  refine aw_iload_n 2 dX11_lay_2 rfl rfl ?_
  obtain ⟨_, h1, hw⟩ := hw
  refine aw_virtI (As := [.int v1, .int v2]) (rest := []) dX11_lay_3 (acX11_as l G (d - 1) hG (by omega) hw) iX11_as rfl k_1156 k_1158 k_55 rfl h1 (by omega) (by decide) (by decide) rfl (Nat.le_of_ble_eq_true rfl) (fun r33 h32 hw => ?_)
  refine aw_istore (lv' := [(5, .int r33), (0, .ref v0), (1, .int v1), (2, .int v2), (3, .int v3), (4, .int v4)]) dX11_lay_6 (by decide) rfl ?_
  refine aw_iload 0 dX11_lay_8 rfl ?_
  refine aw_if_eq (tgt := 18) dX11_lay_10 (by decide) (fun z => ?_) (fun z => ?_)
  · have hw := hw.1 z
    refine aw_aload_n 1 dX11_lay_18 rfl rfl ?_
    refine aw_iload 5 dX11_lay_19 rfl ?_
    refine aw_iload_n 3 dX11_lay_21 rfl rfl ?_
    refine aw_iconst (v := 5) dX11_lay_22 (by decide) ?_
    refine aw_icmp_ne (tgt := 30) dX11_lay_23 (by decide) (fun z => ?_) (fun z => ?_)
    · have hw := hw.1 z
      refine aw_iload_n 3 dX11_lay_30 rfl rfl ?_
      refine aw_bipush (v := 6) dX11_lay_31 (by decide) ?_
      refine aw_icmp_ne (tgt := 41) dX11_lay_33 (by decide) (fun z => ?_) (fun z => ?_)
      · have hw := hw.1 z
        refine aw_bipush (v := 9) dX11_lay_41 (by decide) ?_
        refine aw_sub (lv' := [(0, .ref v0), (1, .int v1), (2, .int v2), (3, .int v3), (4, .int v4)]) [1, 2, 3, 4, 5] rfl ?_
        exact abX11_lay_43 l G d hG hd _ _ _ _ _ _ _ _ _ hw
      · have hw := hw.2 z
        refine aw_bipush (v := 8) dX11_lay_36 (by decide) ?_
        refine aw_goto (tgt := 43) dX11_lay_38 (by decide) ?_
        refine aw_sub (lv' := [(0, .ref v0), (1, .int v1), (2, .int v2), (3, .int v3), (4, .int v4)]) [1, 2, 3, 4, 5] rfl ?_
        exact abX11_lay_43 l G d hG hd _ _ _ _ _ _ _ _ _ hw
    · have hw := hw.2 z
      refine aw_iconst (v := 1) dX11_lay_26 (by decide) ?_
      refine aw_goto (tgt := 43) dX11_lay_27 (by decide) ?_
      refine aw_sub (lv' := [(0, .ref v0), (1, .int v1), (2, .int v2), (3, .int v3), (4, .int v4)]) [1, 2, 3, 4, 5] rfl ?_
      exact abX11_lay_43 l G d hG hd _ _ _ _ _ _ _ _ _ hw
  · have hw := hw.2 z
    refine aw_iload 0 dX11_lay_13 rfl ?_
    refine aw_goto (tgt := 46) dX11_lay_15 (by decide) ?_
    refine aw_sub (lv' := [(0, .ref v0), (1, .int v1), (2, .int v2), (3, .int v3), (4, .int v4)]) [1, 2, 3, 4, 5] rfl ?_
    exact abX11_lay_46 l G d hG hd _ _ _ _ _ _ _ hw
-- X11_meet
def wbX11_meet_36 (s0 : Int32) (h : aH) (Q : Int32 → aH → Prop) : Prop :=
  oB s0 ∧ Q s0 h
def wbX11_meet_35 (h : aH) (Q : Int32 → aH → Prop) : Prop :=
  wbX11_meet_36 0 h Q
def wbX11_meet_31 (h : aH) (Q : Int32 → aH → Prop) : Prop :=
  wbX11_meet_36 1 h Q
def wbX11_meet_11 (v0 : Int32) (v1 : Int32) (h : aH) (Q : Int32 → aH → Prop) : Prop :=
  wX11_in h v0 5 7 (fun r2 h1 => (r2 = 0 → wbX11_meet_35 h1 Q) ∧ (¬ r2 = 0 → wX11_in h1 v1 5 7 (fun r4 h3 => (r4 = 0 → wbX11_meet_35 h3 Q) ∧ (¬ r4 = 0 → wbX11_meet_31 h3 Q))))
def wX11_meet (h : aH) (v0 : Int32) (v1 : Int32) (Q : Int32 → aH → Prop) : Prop :=
  (¬ v0 = v1 → wbX11_meet_11 v0 v1 h Q) ∧ (v0 = v1 → (v0 < 8 → wbX11_meet_31  h Q) ∧ (¬ v0 < 8 → wbX11_meet_11 v0 v1 h Q))
set_option maxRecDepth 100000 in
theorem abX11_meet_36 (l : Launch) (G : aG) (d : Nat) (hG : a_GT G) (hd : 2 ≤ d) {Q : Int32 → aH → Prop} (s0 : Int32) (h : aH) (hw : wbX11_meet_36 s0 h Q) : AW l G d 0 0 mX11_meet (qI Q) 36 [] [.int s0] h := by
  unfold wbX11_meet_36 at hw
  exact aw_iret dX11_meet_36 rfl (a_nB hw.1) ⟨_, rfl, hw.2⟩
set_option maxRecDepth 100000 in
theorem abX11_meet_35 (l : Launch) (G : aG) (d : Nat) (hG : a_GT G) (hd : 2 ≤ d) {Q : Int32 → aH → Prop} (h : aH) (hw : wbX11_meet_35  h Q) : AW l G d 0 0 mX11_meet (qI Q) 35 [] [] h := by
  unfold wbX11_meet_35 at hw
  refine aw_iconst (v := 0) dX11_meet_35 (by decide) ?_
  exact abX11_meet_36 l G d hG hd _ _ hw
set_option maxRecDepth 100000 in
theorem abX11_meet_31 (l : Launch) (G : aG) (d : Nat) (hG : a_GT G) (hd : 2 ≤ d) {Q : Int32 → aH → Prop} (h : aH) (hw : wbX11_meet_31  h Q) : AW l G d 0 0 mX11_meet (qI Q) 31 [] [] h := by
  unfold wbX11_meet_31 at hw
  refine aw_iconst (v := 1) dX11_meet_31 (by decide) ?_
  refine aw_goto (tgt := 36) dX11_meet_32 (by decide) ?_
  exact abX11_meet_36 l G d hG hd _ _ hw
set_option maxRecDepth 100000 in
theorem abX11_meet_11 (l : Launch) (G : aG) (d : Nat) (hG : a_GT G) (hd : 2 ≤ d) {Q : Int32 → aH → Prop} (v0 : Int32) (v1 : Int32) (h : aH) (hw : wbX11_meet_11 v0 v1 h Q) : AW l G d 0 0 mX11_meet (qI Q) 11 [(0, .int v0), (1, .int v1)] [] h := by
  unfold wbX11_meet_11 at hw
  refine aw_iload_n 0 dX11_meet_11 rfl rfl ?_
  refine aw_iconst (v := 5) dX11_meet_12 (by decide) ?_
  refine aw_bipush (v := 7) dX11_meet_13 (by decide) ?_
  refine aw_staticI (As := [.int v0, .int 5, .int 7]) (rest := []) dX11_meet_15 (acX11_in l G (d - 1) hG (by omega) hw) iX11_in rfl k_1080 k_1081 (by omega) (by decide) (by decide) rfl (Nat.le_of_ble_eq_true rfl) (fun r2 h1 hw => ?_)
  refine aw_if_eq (tgt := 35) dX11_meet_18 (by decide) (fun z => ?_) (fun z => ?_)
  · have hw := hw.1 z
    refine aw_sub (lv' := []) [] rfl ?_
    exact abX11_meet_35 l G d hG hd _ hw
  · have hw := hw.2 z
    refine aw_iload_n 1 dX11_meet_21 rfl rfl ?_
    refine aw_iconst (v := 5) dX11_meet_22 (by decide) ?_
    refine aw_bipush (v := 7) dX11_meet_23 (by decide) ?_
    refine aw_staticI (As := [.int v1, .int 5, .int 7]) (rest := []) dX11_meet_25 (acX11_in l G (d - 1) hG (by omega) hw) iX11_in rfl k_1080 k_1081 (by omega) (by decide) (by decide) rfl (Nat.le_of_ble_eq_true rfl) (fun r4 h3 hw => ?_)
    refine aw_if_eq (tgt := 35) dX11_meet_28 (by decide) (fun z => ?_) (fun z => ?_)
    · have hw := hw.1 z
      refine aw_sub (lv' := []) [] rfl ?_
      exact abX11_meet_35 l G d hG hd _ hw
    · have hw := hw.2 z
      refine aw_sub (lv' := []) [] rfl ?_
      exact abX11_meet_31 l G d hG hd _ hw
set_option maxRecDepth 100000 in
theorem acX11_meet (l : Launch) (G : aG) (d : Nat) (hG : a_GT G) (hd : 2 ≤ d) {Q : Int32 → aH → Prop} {h : aH} {v0 : Int32} {v1 : Int32} (hw : wX11_meet h v0 v1 Q) : AC l G d 0 0 mX11_meet [.int v0, .int v1] h (qI Q) := by
  refine ac_of iX11_meet (Nat.le_of_ble_eq_true rfl) ?_
  show AW l G d 0 0 mX11_meet (qI Q) 0 [(0, .int v0), (1, .int v1)] [] h
  unfold wX11_meet at hw
  refine aw_iload_n 0 dX11_meet_0 rfl rfl ?_
  refine aw_iload_n 1 dX11_meet_1 rfl rfl ?_
  refine aw_icmp_ne (tgt := 11) dX11_meet_2 (by decide) (fun z => ?_) (fun z => ?_)
  · have hw := hw.1 z
    exact abX11_meet_11 l G d hG hd _ _ _ hw
  · have hw := hw.2 z
    refine aw_iload_n 0 dX11_meet_5 rfl rfl ?_
    refine aw_bipush (v := 8) dX11_meet_6 (by decide) ?_
    refine aw_icmp_lt (tgt := 31) dX11_meet_8 (by decide) (fun z => ?_) (fun z => ?_)
    · have hw := hw.1 z
      refine aw_sub (lv' := []) [] rfl ?_
      exact abX11_meet_31 l G d hG hd _ hw
    · have hw := hw.2 z
      exact abX11_meet_11 l G d hG hd _ _ _ hw
-- X11_copy
def wbX11_copy_26 (h : aH) (Q : Int32 → aH → Prop) : Prop :=
  Q 1 h
def wbX11_copy_101 (h : aH) (Q : Int32 → aH → Prop) : Prop :=
  Q 3 h
def wbX11_copy_231 (K182 : Nat → Int32 → Int32 → Int32 → Int32 → Int32 →  aH → Prop) (v0 : Nat) (v4 : Int32) (v5 : Int32) (v7 : Int32) (v8 : Int32) (v9 : Int32) (h : aH) (Q : Int32 → aH → Prop) : Prop :=
  rR h v0 9 6 (fun r1 => rR h v0 9 3 (fun r3 => aI h r3 v7 (fun r5 => rR h v0 9 23 (fun r6 => aL h r6 v9 (fun r8 => sL h r1 (((r5 + v4) + v9)) r8 (fun h9 => rI h9 v0 9 19 (fun r10 => wF h9 v0 9 19 (.int (r10 + 1)) (fun h12 => K182 v0 v4 v5 v7 v8 ((v9 + 1)) h12))))))))
def wbX11_copy_182_i (K182 : Nat → Int32 → Int32 → Int32 → Int32 → Int32 →  aH → Prop) (v0 : Nat) (v4 : Int32) (v5 : Int32) (v7 : Int32) (v8 : Int32) (v9 : Int32) (h : aH) (Q : Int32 → aH → Prop) : Prop :=
  (v5 ≤ v9 → Q 0 h) ∧ (¬ v5 ≤ v9 → rR h v0 9 2 (fun r14 => aI h r14 v7 (fun r16 => (r16 < 5 → wbX11_copy_231  K182 v0 v4 v5 v7 v8 v9 h Q) ∧ (¬ r16 < 5 → rR h v0 9 23 (fun r17 => aL h r17 v9 (fun r19 => ((lg_cmp r19 ((0 : Int64))) = 0 → wbX11_copy_231  K182 v0 v4 v5 v7 v8 v9 h Q) ∧ (¬ (lg_cmp r19 ((0 : Int64))) = 0 → rR h v0 9 23 (fun r20 => aL h r20 v9 (fun r22 => isO h v0 9 (wX11_is h v0 r22.toInt32 v8 (fun r24 h23 => (¬ r24 = 0 → wbX11_copy_231 K182 v0 v4 v5 v7 v8 v9 h23 Q) ∧ (r24 = 0 → Q 5 h23))))))))))))
def wbX11_copy_182 (n : Nat) (v0 : Nat) (v4 : Int32) (v5 : Int32) (v7 : Int32) (v8 : Int32) (v9 : Int32) (h : aH) (Q : Int32 → aH → Prop) : Prop := match n with
  | 0 => False
  | n + 1 => wbX11_copy_182_i (fun v0 v4 v5 v7 v8 v9 h => wbX11_copy_182 n v0 v4 v5 v7 v8 v9 h Q) v0 v4 v5 v7 v8 v9 h Q
def wbX11_copy_142_i (K142 : Nat → Int32 → Int32 → Int32 → Int32 → Int32 → Int32 → Int32 →  aH → Prop) (v0 : Nat) (v2 : Int32) (v4 : Int32) (v5 : Int32) (v6 : Int32) (v7 : Int32) (v8 : Int32) (v9 : Int32) (h : aH) (Q : Int32 → aH → Prop) : Prop :=
  (v5 ≤ v9 → ∃ n, wbX11_copy_182 n v0 v4 v5 v7 v8 0 h Q) ∧ (¬ v5 ≤ v9 → rR h v0 9 23 (fun r25 => rR h v0 9 6 (fun r27 => rR h v0 9 3 (fun r29 => aI h r29 v6 (fun r31 => aL h r27 (((r31 + v2) + v9)) (fun r32 => sL h r25 v9 r32 (fun h33 => K142 v0 v2 v4 v5 v6 v7 v8 ((v9 + 1)) h33)))))))
def wbX11_copy_142 (n : Nat) (v0 : Nat) (v2 : Int32) (v4 : Int32) (v5 : Int32) (v6 : Int32) (v7 : Int32) (v8 : Int32) (v9 : Int32) (h : aH) (Q : Int32 → aH → Prop) : Prop := match n with
  | 0 => False
  | n + 1 => wbX11_copy_142_i (fun v0 v2 v4 v5 v6 v7 v8 v9 h => wbX11_copy_142 n v0 v2 v4 v5 v6 v7 v8 v9 h Q) v0 v2 v4 v5 v6 v7 v8 v9 h Q
def wbX11_copy_137 (v0 : Nat) (v2 : Int32) (v4 : Int32) (v5 : Int32) (v6 : Int32) (v7 : Int32) (s0 : Int32) (h : aH) (Q : Int32 → aH → Prop) : Prop :=
  ∃ n, wbX11_copy_142 n v0 v2 v4 v5 v6 v7 s0 0 h Q
def wX11_copy (h : aH) (v0 : Nat) (v1 : Int32) (v2 : Int32) (v3 : Int32) (v4 : Int32) (v5 : Int32) (Q : Int32 → aH → Prop) : Prop :=
  rR h v0 9 7 (fun r34 => aI h r34 v1 (fun r36 => rR h v0 9 7 (fun r37 => aI h r37 v3 (fun r39 => (r36 = 0 → wbX11_copy_26  h Q) ∧ (¬ r36 = 0 → (¬ r39 = 0 → rR h v0 9 2 (fun r40 => aI h r40 r36 (fun r42 => rR h v0 9 2 (fun r43 => aI h r43 r39 (fun r45 => wX11_meet h r42 r45 (fun r47 h46 => (¬ r47 = 0 → (v2 < 0 → wbX11_copy_101 h46 Q) ∧ (¬ v2 < 0 → (v4 < 0 → wbX11_copy_101 h46 Q) ∧ (¬ v4 < 0 → (v5 < 0 → wbX11_copy_101 h46 Q) ∧ (¬ v5 < 0 → rR h46 v0 9 4 (fun r48 => aI h46 r48 r36 (fun r50 => (0 < (lg_cmp ((v2.toInt64 + v5.toInt64)) r50.toInt64) → wbX11_copy_101 h46 Q) ∧ (¬ 0 < (lg_cmp ((v2.toInt64 + v5.toInt64)) r50.toInt64) → rR h46 v0 9 4 (fun r51 => aI h46 r51 r39 (fun r53 => ((lg_cmp ((v4.toInt64 + v5.toInt64)) r53.toInt64) ≤ 0 → rR h46 v0 9 2 (fun r54 => aI h46 r54 r39 (fun r56 => (¬ r56 = 5 → rR h46 v0 9 2 (fun r57 => aI h46 r57 r39 (fun r59 => (¬ r59 = 6 → wbX11_copy_137 v0 v2 v4 v5 r36 r39 9 h46 Q) ∧ (r59 = 6 → wbX11_copy_137 v0 v2 v4 v5 r36 r39 8 h46 Q)))) ∧ (r56 = 5 → wbX11_copy_137 v0 v2 v4 v5 r36 r39 1 h46 Q)))) ∧ (¬ (lg_cmp ((v4.toInt64 + v5.toInt64)) r53.toInt64) ≤ 0 → wbX11_copy_101 h46 Q)))))))))) ∧ (r47 = 0 → Q 5 h46))))))) ∧ (r39 = 0 → wbX11_copy_26  h Q))))))
set_option maxRecDepth 100000 in
theorem abX11_copy_26 (l : Launch) (G : aG) (d : Nat) (hG : a_GT G) (hd : 3 ≤ d) {Q : Int32 → aH → Prop} (h : aH) (hw : wbX11_copy_26  h Q) : AW l G d 0 0 mX11_copy (qI Q) 26 [] [] h := by
  unfold wbX11_copy_26 at hw
  refine aw_iconst (v := 1) dX11_copy_26 (by decide) ?_
  exact aw_iret dX11_copy_27 rfl rfl ⟨_, rfl, hw⟩
set_option maxRecDepth 100000 in
theorem abX11_copy_101 (l : Launch) (G : aG) (d : Nat) (hG : a_GT G) (hd : 3 ≤ d) {Q : Int32 → aH → Prop} (h : aH) (hw : wbX11_copy_101  h Q) : AW l G d 0 0 mX11_copy (qI Q) 101 [] [] h := by
  unfold wbX11_copy_101 at hw
  refine aw_iconst (v := 3) dX11_copy_101 (by decide) ?_
  exact aw_iret dX11_copy_102 rfl rfl ⟨_, rfl, hw⟩
set_option maxRecDepth 100000 in
theorem abX11_copy_231 (l : Launch) (G : aG) (d : Nat) (hG : a_GT G) (hd : 3 ≤ d) {Q : Int32 → aH → Prop} {K182 : Nat → Int32 → Int32 → Int32 → Int32 → Int32 →  aH → Prop} (kk182 : ∀ (v0 : Nat) (v4 : Int32) (v5 : Int32) (v7 : Int32) (v8 : Int32) (v9 : Int32) (h : aH), K182 v0 v4 v5 v7 v8 v9 h → AW l G d 0 0 mX11_copy (qI Q) 182 [(0, .ref v0), (4, .int v4), (5, .int v5), (7, .int v7), (8, .int v8), (9, .int v9)] [] h) (v0 : Nat) (v4 : Int32) (v5 : Int32) (v7 : Int32) (v8 : Int32) (v9 : Int32) (h : aH) (hw : wbX11_copy_231 K182 v0 v4 v5 v7 v8 v9 h Q) : AW l G d 0 0 mX11_copy (qI Q) 231 [(0, .ref v0), (4, .int v4), (5, .int v5), (7, .int v7), (8, .int v8), (9, .int v9)] [] h := by
  unfold wbX11_copy_231 at hw
  refine aw_aload_n 0 dX11_copy_231 rfl rfl ?_
  obtain ⟨fs2, r1, h1, h2, hw⟩ := hw
  refine aw_getf (k := 6) dX11_copy_232 clX11 (by decide) k_954 (Or.inl rfl) h1 h2 ?_
  refine aw_aload_n 0 dX11_copy_235 rfl rfl ?_
  obtain ⟨fs4, r3, h1, h2, hw⟩ := hw
  refine aw_getf (k := 3) dX11_copy_236 clX11 (by decide) k_951 (Or.inl rfl) h1 h2 ?_
  refine aw_iload 3 dX11_copy_239 rfl ?_
  obtain ⟨_, _, r5, h1, h2, h3, hw⟩ := hw
  refine aw_aI dX11_copy_241 h1 h2 h3 ?_
  refine aw_iload 1 dX11_copy_242 rfl ?_
  refine aw_iadd dX11_copy_244 ?_
  refine aw_iload 5 dX11_copy_245 rfl ?_
  refine aw_iadd dX11_copy_247 ?_
  refine aw_aload_n 0 dX11_copy_248 rfl rfl ?_
  obtain ⟨fs7, r6, h1, h2, hw⟩ := hw
  refine aw_getf (k := 23) dX11_copy_249 clX11 (by decide) k_971 (Or.inl rfl) h1 h2 ?_
  refine aw_iload 5 dX11_copy_252 rfl ?_
  obtain ⟨_, _, r8, h1, h2, h3, hw⟩ := hw
  refine aw_aL dX11_copy_254 h1 h2 h3 ?_
  obtain ⟨_, _, h1, h2, hw⟩ := hw
  refine aw_last dX11_copy_255 h1 h2 ?_
  generalize a_up _ _ _ = h9 at hw ⊢
  refine aw_aload_n 0 dX11_copy_256 rfl rfl ?_
  refine aw_dup dX11_copy_257 rfl ?_
  obtain ⟨fs11, r10, h1, h2, hw⟩ := hw
  refine aw_getf (k := 19) dX11_copy_258 clX11 (by decide) k_967 (Or.inl rfl) h1 h2 ?_
  refine aw_iconst (v := 1) dX11_copy_261 (by decide) ?_
  refine aw_iadd dX11_copy_262 ?_
  obtain ⟨fs13, h1, h2, hw⟩ := hw
  refine aw_putf (k := 19) dX11_copy_263 clX11 (by decide) k_967 (Or.inl rfl) rfl rfl rfl h1 h2 ?_
  generalize a_up _ _ _ = h12 at hw ⊢
  refine aw_iinc (v := (v9 + 1)) (lv' := [(9, .int (v9 + 1)), (0, .ref v0), (4, .int v4), (5, .int v5), (7, .int v7), (8, .int v8)]) 5 dX11_copy_266 rfl rfl (by decide) rfl ?_
  refine aw_goto (tgt := 182) dX11_copy_269 (by decide) ?_
  refine aw_sub (lv' := [(0, .ref v0), (4, .int v4), (5, .int v5), (7, .int v7), (8, .int v8), (9, .int (v9 + 1))]) [1, 2, 3, 4, 5, 0] rfl ?_
  exact kk182 _ _ _ _ _ _ _ hw
set_option maxRecDepth 100000 in
theorem abX11_copy_182_i (l : Launch) (G : aG) (d : Nat) (hG : a_GT G) (hd : 3 ≤ d) {Q : Int32 → aH → Prop} {K182 : Nat → Int32 → Int32 → Int32 → Int32 → Int32 →  aH → Prop} (kk182 : ∀ (v0 : Nat) (v4 : Int32) (v5 : Int32) (v7 : Int32) (v8 : Int32) (v9 : Int32) (h : aH), K182 v0 v4 v5 v7 v8 v9 h → AW l G d 0 0 mX11_copy (qI Q) 182 [(0, .ref v0), (4, .int v4), (5, .int v5), (7, .int v7), (8, .int v8), (9, .int v9)] [] h) (v0 : Nat) (v4 : Int32) (v5 : Int32) (v7 : Int32) (v8 : Int32) (v9 : Int32) (h : aH) (hw : wbX11_copy_182_i K182 v0 v4 v5 v7 v8 v9 h Q) : AW l G d 0 0 mX11_copy (qI Q) 182 [(0, .ref v0), (4, .int v4), (5, .int v5), (7, .int v7), (8, .int v8), (9, .int v9)] [] h := by
  unfold wbX11_copy_182_i at hw
  refine aw_iload 5 dX11_copy_182 rfl ?_
  refine aw_iload 2 dX11_copy_184 rfl ?_
  refine aw_icmp_ge (tgt := 272) dX11_copy_186 (by decide) (fun z => ?_) (fun z => ?_)
  · have hw := hw.1 z
    refine aw_iconst (v := 0) dX11_copy_272 (by decide) ?_
    exact aw_iret dX11_copy_273 rfl rfl ⟨_, rfl, hw⟩
  · have hw := hw.2 z
    refine aw_aload_n 0 dX11_copy_189 rfl rfl ?_
    obtain ⟨fs15, r14, h1, h2, hw⟩ := hw
    refine aw_getf (k := 2) dX11_copy_190 clX11 (by decide) k_950 (Or.inl rfl) h1 h2 ?_
    refine aw_iload 3 dX11_copy_193 rfl ?_
    obtain ⟨_, _, r16, h1, h2, h3, hw⟩ := hw
    refine aw_aI dX11_copy_195 h1 h2 h3 ?_
    refine aw_iconst (v := 5) dX11_copy_196 (by decide) ?_
    refine aw_icmp_lt (tgt := 231) dX11_copy_197 (by decide) (fun z => ?_) (fun z => ?_)
    · have hw := hw.1 z
      exact abX11_copy_231 l G d hG hd kk182 _ _ _ _ _ _ _ hw
    · have hw := hw.2 z
      refine aw_aload_n 0 dX11_copy_200 rfl rfl ?_
      obtain ⟨fs18, r17, h1, h2, hw⟩ := hw
      refine aw_getf (k := 23) dX11_copy_201 clX11 (by decide) k_971 (Or.inl rfl) h1 h2 ?_
      refine aw_iload 5 dX11_copy_204 rfl ?_
      obtain ⟨_, _, r19, h1, h2, h3, hw⟩ := hw
      refine aw_aL dX11_copy_206 h1 h2 h3 ?_
      refine aw_lconst (v := 0) dX11_copy_207 (by decide) ?_
      refine aw_lcmp dX11_copy_208 ?_
      refine aw_if_eq (tgt := 231) dX11_copy_209 (by decide) (fun z => ?_) (fun z => ?_)
      · have hw := hw.1 z
        exact abX11_copy_231 l G d hG hd kk182 _ _ _ _ _ _ _ hw
      · have hw := hw.2 z
        refine aw_aload_n 0 dX11_copy_212 rfl rfl ?_
        refine aw_aload_n 0 dX11_copy_213 rfl rfl ?_
        obtain ⟨fs21, r20, h1, h2, hw⟩ := hw
        refine aw_getf (k := 23) dX11_copy_214 clX11 (by decide) k_971 (Or.inl rfl) h1 h2 ?_
        refine aw_iload 5 dX11_copy_217 rfl ?_
        obtain ⟨_, _, r22, h1, h2, h3, hw⟩ := hw
        refine aw_aL dX11_copy_219 h1 h2 h3 ?_
        refine aw_l2i dX11_copy_220 ?_
        refine aw_iload 4 dX11_copy_221 rfl ?_
        obtain ⟨_, h1, hw⟩ := hw
        refine aw_virtI (As := [.int r22.toInt32, .int v8]) (rest := []) dX11_copy_223 (acX11_is l G (d - 1) hG (by omega) hw) iX11_is rfl k_1160 k_1162 k_56 rfl h1 (by omega) (by decide) (by decide) rfl (Nat.le_of_ble_eq_true rfl) (fun r24 h23 hw => ?_)
        refine aw_if_ne (tgt := 231) dX11_copy_226 (by decide) (fun z => ?_) (fun z => ?_)
        · have hw := hw.1 z
          exact abX11_copy_231 l G d hG hd kk182 _ _ _ _ _ _ _ hw
        · have hw := hw.2 z
          refine aw_iconst (v := 5) dX11_copy_229 (by decide) ?_
          exact aw_iret dX11_copy_230 rfl rfl ⟨_, rfl, hw⟩
set_option maxRecDepth 100000 in
theorem abX11_copy_182 (l : Launch) (G : aG) (d : Nat) (hG : a_GT G) (hd : 3 ≤ d) {Q : Int32 → aH → Prop} (n : Nat) : ∀  (v0 : Nat) (v4 : Int32) (v5 : Int32) (v7 : Int32) (v8 : Int32) (v9 : Int32) (h : aH), wbX11_copy_182 n v0 v4 v5 v7 v8 v9 h Q → AW l G d 0 0 mX11_copy (qI Q) 182 [(0, .ref v0), (4, .int v4), (5, .int v5), (7, .int v7), (8, .int v8), (9, .int v9)] [] h := by
  induction n with
  | zero => exact fun _ _ _ _ _ _ _ hw => hw.elim
  | succ n ih => exact fun _ _ _ _ _ _ _ hw => abX11_copy_182_i l G d hG hd ih _ _ _ _ _ _ _ hw
set_option maxRecDepth 100000 in
theorem abX11_copy_142_i (l : Launch) (G : aG) (d : Nat) (hG : a_GT G) (hd : 3 ≤ d) {Q : Int32 → aH → Prop} {K142 : Nat → Int32 → Int32 → Int32 → Int32 → Int32 → Int32 → Int32 →  aH → Prop} (kk142 : ∀ (v0 : Nat) (v2 : Int32) (v4 : Int32) (v5 : Int32) (v6 : Int32) (v7 : Int32) (v8 : Int32) (v9 : Int32) (h : aH), K142 v0 v2 v4 v5 v6 v7 v8 v9 h → AW l G d 0 0 mX11_copy (qI Q) 142 [(0, .ref v0), (2, .int v2), (4, .int v4), (5, .int v5), (6, .int v6), (7, .int v7), (8, .int v8), (9, .int v9)] [] h) (v0 : Nat) (v2 : Int32) (v4 : Int32) (v5 : Int32) (v6 : Int32) (v7 : Int32) (v8 : Int32) (v9 : Int32) (h : aH) (hw : wbX11_copy_142_i K142 v0 v2 v4 v5 v6 v7 v8 v9 h Q) : AW l G d 0 0 mX11_copy (qI Q) 142 [(0, .ref v0), (2, .int v2), (4, .int v4), (5, .int v5), (6, .int v6), (7, .int v7), (8, .int v8), (9, .int v9)] [] h := by
  unfold wbX11_copy_142_i at hw
  refine aw_iload 7 dX11_copy_142 rfl ?_
  refine aw_iload 3 dX11_copy_144 rfl ?_
  refine aw_icmp_ge (tgt := 179) dX11_copy_146 (by decide) (fun z => ?_) (fun z => ?_)
  · have hw := hw.1 z
    refine aw_iconst (v := 0) dX11_copy_179 (by decide) ?_
    refine aw_istore (lv' := [(9, .int 0), (0, .ref v0), (2, .int v2), (4, .int v4), (5, .int v5), (6, .int v6), (7, .int v7), (8, .int v8)]) dX11_copy_180 (by decide) rfl ?_
    obtain ⟨n, hw⟩ := hw
    refine aw_sub (lv' := [(0, .ref v0), (4, .int v4), (5, .int v5), (7, .int v7), (8, .int v8), (9, .int 0)]) [1, 3, 4, 6, 7, 0] rfl ?_
    exact abX11_copy_182 l G d hG hd n _ _ _ _ _ _ _ hw
  · have hw := hw.2 z
    refine aw_aload_n 0 dX11_copy_149 rfl rfl ?_
    obtain ⟨fs26, r25, h1, h2, hw⟩ := hw
    refine aw_getf (k := 23) dX11_copy_150 clX11 (by decide) k_971 (Or.inl rfl) h1 h2 ?_
    refine aw_iload 7 dX11_copy_153 rfl ?_
    refine aw_aload_n 0 dX11_copy_155 rfl rfl ?_
    obtain ⟨fs28, r27, h1, h2, hw⟩ := hw
    refine aw_getf (k := 6) dX11_copy_156 clX11 (by decide) k_954 (Or.inl rfl) h1 h2 ?_
    refine aw_aload_n 0 dX11_copy_159 rfl rfl ?_
    obtain ⟨fs30, r29, h1, h2, hw⟩ := hw
    refine aw_getf (k := 3) dX11_copy_160 clX11 (by decide) k_951 (Or.inl rfl) h1 h2 ?_
    refine aw_iload 4 dX11_copy_163 rfl ?_
    obtain ⟨_, _, r31, h1, h2, h3, hw⟩ := hw
    refine aw_aI dX11_copy_165 h1 h2 h3 ?_
    refine aw_iload_n 1 dX11_copy_166 rfl rfl ?_
    refine aw_iadd dX11_copy_167 ?_
    refine aw_iload 7 dX11_copy_168 rfl ?_
    refine aw_iadd dX11_copy_170 ?_
    obtain ⟨_, _, r32, h1, h2, h3, hw⟩ := hw
    refine aw_aL dX11_copy_171 h1 h2 h3 ?_
    obtain ⟨_, _, h1, h2, hw⟩ := hw
    refine aw_last dX11_copy_172 h1 h2 ?_
    generalize a_up _ _ _ = h33 at hw ⊢
    refine aw_iinc (v := (v9 + 1)) (lv' := [(9, .int (v9 + 1)), (0, .ref v0), (2, .int v2), (4, .int v4), (5, .int v5), (6, .int v6), (7, .int v7), (8, .int v8)]) 7 dX11_copy_173 rfl rfl (by decide) rfl ?_
    refine aw_goto (tgt := 142) dX11_copy_176 (by decide) ?_
    refine aw_sub (lv' := [(0, .ref v0), (2, .int v2), (4, .int v4), (5, .int v5), (6, .int v6), (7, .int v7), (8, .int v8), (9, .int (v9 + 1))]) [1, 2, 3, 4, 5, 6, 7, 0] rfl ?_
    exact kk142 _ _ _ _ _ _ _ _ _ hw
set_option maxRecDepth 100000 in
theorem abX11_copy_142 (l : Launch) (G : aG) (d : Nat) (hG : a_GT G) (hd : 3 ≤ d) {Q : Int32 → aH → Prop} (n : Nat) : ∀  (v0 : Nat) (v2 : Int32) (v4 : Int32) (v5 : Int32) (v6 : Int32) (v7 : Int32) (v8 : Int32) (v9 : Int32) (h : aH), wbX11_copy_142 n v0 v2 v4 v5 v6 v7 v8 v9 h Q → AW l G d 0 0 mX11_copy (qI Q) 142 [(0, .ref v0), (2, .int v2), (4, .int v4), (5, .int v5), (6, .int v6), (7, .int v7), (8, .int v8), (9, .int v9)] [] h := by
  induction n with
  | zero => exact fun _ _ _ _ _ _ _ _ _ hw => hw.elim
  | succ n ih => exact fun _ _ _ _ _ _ _ _ _ hw => abX11_copy_142_i l G d hG hd ih _ _ _ _ _ _ _ _ _ hw
set_option maxRecDepth 100000 in
theorem abX11_copy_137 (l : Launch) (G : aG) (d : Nat) (hG : a_GT G) (hd : 3 ≤ d) {Q : Int32 → aH → Prop} (v0 : Nat) (v2 : Int32) (v4 : Int32) (v5 : Int32) (v6 : Int32) (v7 : Int32) (s0 : Int32) (h : aH) (hw : wbX11_copy_137 v0 v2 v4 v5 v6 v7 s0 h Q) : AW l G d 0 0 mX11_copy (qI Q) 137 [(0, .ref v0), (2, .int v2), (4, .int v4), (5, .int v5), (6, .int v6), (7, .int v7)] [.int s0] h := by
  unfold wbX11_copy_137 at hw
  refine aw_istore (lv' := [(8, .int s0), (0, .ref v0), (2, .int v2), (4, .int v4), (5, .int v5), (6, .int v6), (7, .int v7)]) dX11_copy_137 (by decide) rfl ?_
  refine aw_iconst (v := 0) dX11_copy_139 (by decide) ?_
  refine aw_istore (lv' := [(9, .int 0), (8, .int s0), (0, .ref v0), (2, .int v2), (4, .int v4), (5, .int v5), (6, .int v6), (7, .int v7)]) dX11_copy_140 (by decide) rfl ?_
  obtain ⟨n, hw⟩ := hw
  refine aw_sub (lv' := [(0, .ref v0), (2, .int v2), (4, .int v4), (5, .int v5), (6, .int v6), (7, .int v7), (8, .int s0), (9, .int 0)]) [2, 3, 4, 5, 6, 7, 1, 0] rfl ?_
  exact abX11_copy_142 l G d hG hd n _ _ _ _ _ _ _ _ _ hw
set_option maxRecDepth 100000 in
theorem acX11_copy (l : Launch) (G : aG) (d : Nat) (hG : a_GT G) (hd : 3 ≤ d) {Q : Int32 → aH → Prop} {h : aH} {v0 : Nat} {v1 : Int32} {v2 : Int32} {v3 : Int32} {v4 : Int32} {v5 : Int32} (hw : wX11_copy h v0 v1 v2 v3 v4 v5 Q) : AC l G d 0 0 mX11_copy [.ref v0, .int v1, .int v2, .int v3, .int v4, .int v5] h (qI Q) := by
  refine ac_of iX11_copy (Nat.le_of_ble_eq_true rfl) ?_
  show AW l G d 0 0 mX11_copy (qI Q) 0 [(0, .ref v0), (1, .int v1), (2, .int v2), (3, .int v3), (4, .int v4), (5, .int v5)] [] h
  unfold wX11_copy at hw
  refine aw_aload_n 0 dX11_copy_0 rfl rfl ?_
  obtain ⟨fs35, r34, h1, h2, hw⟩ := hw
  refine aw_getf (k := 7) dX11_copy_1 clX11 (by decide) k_955 (Or.inl rfl) h1 h2 ?_
  refine aw_iload_n 1 dX11_copy_4 rfl rfl ?_
  obtain ⟨_, _, r36, h1, h2, h3, hw⟩ := hw
  refine aw_aI dX11_copy_5 h1 h2 h3 ?_
  refine aw_istore (lv' := [(6, .int r36), (0, .ref v0), (1, .int v1), (2, .int v2), (3, .int v3), (4, .int v4), (5, .int v5)]) dX11_copy_6 (by decide) rfl ?_
  refine aw_aload_n 1 dX11_copy_8 rfl rfl ?_
  obtain ⟨fs38, r37, h1, h2, hw⟩ := hw
  refine aw_getf (k := 7) dX11_copy_9 clX11 (by decide) k_955 (Or.inl rfl) h1 h2 ?_
  refine aw_iload_n 4 dX11_copy_12 rfl rfl ?_
  obtain ⟨_, _, r39, h1, h2, h3, hw⟩ := hw
  refine aw_aI dX11_copy_13 h1 h2 h3 ?_
  refine aw_istore (lv' := [(7, .int r39), (6, .int r36), (0, .ref v0), (1, .int v1), (2, .int v2), (3, .int v3), (4, .int v4), (5, .int v5)]) dX11_copy_14 (by decide) rfl ?_
  refine aw_iload 1 dX11_copy_16 rfl ?_
  refine aw_if_eq (tgt := 26) dX11_copy_18 (by decide) (fun z => ?_) (fun z => ?_)
  · have hw := hw.1 z
    refine aw_sub (lv' := []) [] rfl ?_
    exact abX11_copy_26 l G d hG hd _ hw
  · have hw := hw.2 z
    refine aw_iload 0 dX11_copy_21 rfl ?_
    refine aw_if_ne (tgt := 28) dX11_copy_23 (by decide) (fun z => ?_) (fun z => ?_)
    · have hw := hw.1 z
      refine aw_aload_n 2 dX11_copy_28 rfl rfl ?_
      obtain ⟨fs41, r40, h1, h2, hw⟩ := hw
      refine aw_getf (k := 2) dX11_copy_29 clX11 (by decide) k_950 (Or.inl rfl) h1 h2 ?_
      refine aw_iload 1 dX11_copy_32 rfl ?_
      obtain ⟨_, _, r42, h1, h2, h3, hw⟩ := hw
      refine aw_aI dX11_copy_34 h1 h2 h3 ?_
      refine aw_aload_n 2 dX11_copy_35 rfl rfl ?_
      obtain ⟨fs44, r43, h1, h2, hw⟩ := hw
      refine aw_getf (k := 2) dX11_copy_36 clX11 (by decide) k_950 (Or.inl rfl) h1 h2 ?_
      refine aw_iload 0 dX11_copy_39 rfl ?_
      obtain ⟨_, _, r45, h1, h2, h3, hw⟩ := hw
      refine aw_aI dX11_copy_41 h1 h2 h3 ?_
      refine aw_staticI (As := [.int r42, .int r45]) (rest := []) dX11_copy_42 (acX11_meet l G (d - 1) hG (by omega) hw) iX11_meet rfl k_1213 k_1214 (by omega) (by decide) (by decide) rfl (Nat.le_of_ble_eq_true rfl) (fun r47 h46 hw => ?_)
      refine aw_if_ne (tgt := 50) dX11_copy_45 (by decide) (fun z => ?_) (fun z => ?_)
      · have hw := hw.1 z
        refine aw_iload_n 4 dX11_copy_50 rfl rfl ?_
        refine aw_if_lt (tgt := 101) dX11_copy_51 (by decide) (fun z => ?_) (fun z => ?_)
        · have hw := hw.1 z
          refine aw_sub (lv' := []) [] rfl ?_
          exact abX11_copy_101 l G d hG hd _ hw
        · have hw := hw.2 z
          refine aw_iload 6 dX11_copy_54 rfl ?_
          refine aw_if_lt (tgt := 101) dX11_copy_56 (by decide) (fun z => ?_) (fun z => ?_)
          · have hw := hw.1 z
            refine aw_sub (lv' := []) [] rfl ?_
            exact abX11_copy_101 l G d hG hd _ hw
          · have hw := hw.2 z
            refine aw_iload 7 dX11_copy_59 rfl ?_
            refine aw_if_lt (tgt := 101) dX11_copy_61 (by decide) (fun z => ?_) (fun z => ?_)
            · have hw := hw.1 z
              refine aw_sub (lv' := []) [] rfl ?_
              exact abX11_copy_101 l G d hG hd _ hw
            · have hw := hw.2 z
              refine aw_iload_n 4 dX11_copy_64 rfl rfl ?_
              refine aw_i2l dX11_copy_65 ?_
              refine aw_iload 7 dX11_copy_66 rfl ?_
              refine aw_i2l dX11_copy_68 ?_
              refine aw_ladd dX11_copy_69 ?_
              refine aw_aload_n 2 dX11_copy_70 rfl rfl ?_
              obtain ⟨fs49, r48, h1, h2, hw⟩ := hw
              refine aw_getf (k := 4) dX11_copy_71 clX11 (by decide) k_952 (Or.inl rfl) h1 h2 ?_
              refine aw_iload 1 dX11_copy_74 rfl ?_
              obtain ⟨_, _, r50, h1, h2, h3, hw⟩ := hw
              refine aw_aI dX11_copy_76 h1 h2 h3 ?_
              refine aw_i2l dX11_copy_77 ?_
              refine aw_lcmp dX11_copy_78 ?_
              refine aw_if_gt (tgt := 101) dX11_copy_79 (by decide) (fun z => ?_) (fun z => ?_)
              · have hw := hw.1 z
                refine aw_sub (lv' := []) [] rfl ?_
                exact abX11_copy_101 l G d hG hd _ hw
              · have hw := hw.2 z
                refine aw_iload 6 dX11_copy_82 rfl ?_
                refine aw_i2l dX11_copy_84 ?_
                refine aw_iload 7 dX11_copy_85 rfl ?_
                refine aw_i2l dX11_copy_87 ?_
                refine aw_ladd dX11_copy_88 ?_
                refine aw_aload_n 2 dX11_copy_89 rfl rfl ?_
                obtain ⟨fs52, r51, h1, h2, hw⟩ := hw
                refine aw_getf (k := 4) dX11_copy_90 clX11 (by decide) k_952 (Or.inl rfl) h1 h2 ?_
                refine aw_iload 0 dX11_copy_93 rfl ?_
                obtain ⟨_, _, r53, h1, h2, h3, hw⟩ := hw
                refine aw_aI dX11_copy_95 h1 h2 h3 ?_
                refine aw_i2l dX11_copy_96 ?_
                refine aw_lcmp dX11_copy_97 ?_
                refine aw_if_le (tgt := 103) dX11_copy_98 (by decide) (fun z => ?_) (fun z => ?_)
                · have hw := hw.1 z
                  refine aw_aload_n 2 dX11_copy_103 rfl rfl ?_
                  obtain ⟨fs55, r54, h1, h2, hw⟩ := hw
                  refine aw_getf (k := 2) dX11_copy_104 clX11 (by decide) k_950 (Or.inl rfl) h1 h2 ?_
                  refine aw_iload 0 dX11_copy_107 rfl ?_
                  obtain ⟨_, _, r56, h1, h2, h3, hw⟩ := hw
                  refine aw_aI dX11_copy_109 h1 h2 h3 ?_
                  refine aw_iconst (v := 5) dX11_copy_110 (by decide) ?_
                  refine aw_icmp_ne (tgt := 118) dX11_copy_111 (by decide) (fun z => ?_) (fun z => ?_)
                  · have hw := hw.1 z
                    refine aw_aload_n 2 dX11_copy_118 rfl rfl ?_
                    obtain ⟨fs58, r57, h1, h2, hw⟩ := hw
                    refine aw_getf (k := 2) dX11_copy_119 clX11 (by decide) k_950 (Or.inl rfl) h1 h2 ?_
                    refine aw_iload 0 dX11_copy_122 rfl ?_
                    obtain ⟨_, _, r59, h1, h2, h3, hw⟩ := hw
                    refine aw_aI dX11_copy_124 h1 h2 h3 ?_
                    refine aw_bipush (v := 6) dX11_copy_125 (by decide) ?_
                    refine aw_icmp_ne (tgt := 135) dX11_copy_127 (by decide) (fun z => ?_) (fun z => ?_)
                    · have hw := hw.1 z
                      refine aw_bipush (v := 9) dX11_copy_135 (by decide) ?_
                      refine aw_sub (lv' := [(0, .ref v0), (2, .int v2), (4, .int v4), (5, .int v5), (6, .int r36), (7, .int r39)]) [2, 4, 6, 7, 1, 0] rfl ?_
                      exact abX11_copy_137 l G d hG hd _ _ _ _ _ _ _ _ hw
                    · have hw := hw.2 z
                      refine aw_bipush (v := 8) dX11_copy_130 (by decide) ?_
                      refine aw_goto (tgt := 137) dX11_copy_132 (by decide) ?_
                      refine aw_sub (lv' := [(0, .ref v0), (2, .int v2), (4, .int v4), (5, .int v5), (6, .int r36), (7, .int r39)]) [2, 4, 6, 7, 1, 0] rfl ?_
                      exact abX11_copy_137 l G d hG hd _ _ _ _ _ _ _ _ hw
                  · have hw := hw.2 z
                    refine aw_iconst (v := 1) dX11_copy_114 (by decide) ?_
                    refine aw_goto (tgt := 137) dX11_copy_115 (by decide) ?_
                    refine aw_sub (lv' := [(0, .ref v0), (2, .int v2), (4, .int v4), (5, .int v5), (6, .int r36), (7, .int r39)]) [2, 4, 6, 7, 1, 0] rfl ?_
                    exact abX11_copy_137 l G d hG hd _ _ _ _ _ _ _ _ hw
                · have hw := hw.2 z
                  refine aw_sub (lv' := []) [] rfl ?_
                  exact abX11_copy_101 l G d hG hd _ hw
      · have hw := hw.2 z
        refine aw_iconst (v := 5) dX11_copy_48 (by decide) ?_
        exact aw_iret dX11_copy_49 rfl rfl ⟨_, rfl, hw⟩
    · have hw := hw.2 z
      refine aw_sub (lv' := []) [] rfl ?_
      exact abX11_copy_26 l G d hG hd _ hw
-- X11_divide
def wbX11_divide_83 (s0 : Int64) (s1 : Int32) (s2 : Nat) (h : aH) (Q : Int32 → aH → Prop) : Prop :=
  sL h s2 s1 s0 (fun h1 => Q 0 h1)
def wbX11_divide_50 (v0 : Nat) (v1 : Int32) (v2 : Int32) (v3 : Int32) (v4 : Int32) (s0 : Int64) (h : aH) (Q : Int32 → aH → Prop) : Prop :=
  rR h v0 9 8 (fun r2 => (v4 = 0 → wbX11_divide_83 s0 v1 r2 h Q) ∧ (¬ v4 = 0 → rR h v0 9 8 (fun r4 => aL h r4 v2 (fun r6 => rR h v0 9 8 (fun r7 => aL h r7 v3 (fun r9 => wbX11_divide_83 ((r6 - (s0 * r9))) v1 r2 h Q))))))
def wX11_divide (h : aH) (v0 : Nat) (v1 : Int32) (v2 : Int32) (v3 : Int32) (v4 : Int32) (Q : Int32 → aH → Prop) : Prop :=
  rR h v0 9 8 (fun r10 => aL h r10 v3 (fun r12 => (¬ (lg_cmp r12 ((0 : Int64))) = 0 → rR h v0 9 8 (fun r13 => aL h r13 v3 (fun r15 => (¬ (lg_cmp r15 ((-1 : Int64))) = 0 → rR h v0 9 8 (fun r16 => aL h r16 v2 (fun r18 => rR h v0 9 8 (fun r19 => aL h r19 v3 (fun r21 => ¬ r21 = 0 ∧ (wbX11_divide_50 v0 v1 v2 v3 v4 ((r18 / r21)) h Q)))))) ∧ ((lg_cmp r15 ((-1 : Int64))) = 0 → rR h v0 9 8 (fun r22 => aL h r22 v2 (fun r24 => wbX11_divide_50 v0 v1 v2 v3 v4 ((-r24)) h Q)))))) ∧ ((lg_cmp r12 ((0 : Int64))) = 0 → Q 6 h)))
set_option maxRecDepth 100000 in
theorem abX11_divide_83 (l : Launch) (G : aG) (d : Nat) (hG : a_GT G) (hd : 1 ≤ d) {Q : Int32 → aH → Prop} (s0 : Int64) (s1 : Int32) (s2 : Nat) (h : aH) (hw : wbX11_divide_83 s0 s1 s2 h Q) : AW l G d 0 0 mX11_divide (qI Q) 83 [] [.long s0, .int s1, .ref s2] h := by
  unfold wbX11_divide_83 at hw
  obtain ⟨_, _, h1, h2, hw⟩ := hw
  refine aw_last dX11_divide_83 h1 h2 ?_
  generalize a_up _ _ _ = h1 at hw ⊢
  refine aw_iconst (v := 0) dX11_divide_84 (by decide) ?_
  exact aw_iret dX11_divide_85 rfl rfl ⟨_, rfl, hw⟩
set_option maxRecDepth 100000 in
theorem abX11_divide_50 (l : Launch) (G : aG) (d : Nat) (hG : a_GT G) (hd : 1 ≤ d) {Q : Int32 → aH → Prop} (v0 : Nat) (v1 : Int32) (v2 : Int32) (v3 : Int32) (v4 : Int32) (s0 : Int64) (h : aH) (hw : wbX11_divide_50 v0 v1 v2 v3 v4 s0 h Q) : AW l G d 0 0 mX11_divide (qI Q) 50 [(0, .ref v0), (1, .int v1), (2, .int v2), (3, .int v3), (4, .int v4)] [.long s0] h := by
  unfold wbX11_divide_50 at hw
  refine aw_lstore (lv' := [(5, .long s0), (0, .ref v0), (1, .int v1), (2, .int v2), (3, .int v3), (4, .int v4)]) dX11_divide_50 (by decide) rfl ?_
  refine aw_aload_n 1 dX11_divide_52 rfl rfl ?_
  obtain ⟨fs3, r2, h1, h2, hw⟩ := hw
  refine aw_getf (k := 8) dX11_divide_53 clX11 (by decide) k_956 (Or.inl rfl) h1 h2 ?_
  refine aw_iload_n 2 dX11_divide_56 rfl rfl ?_
  refine aw_iload 5 dX11_divide_57 rfl ?_
  refine aw_if_eq (tgt := 81) dX11_divide_59 (by decide) (fun z => ?_) (fun z => ?_)
  · have hw := hw.1 z
    refine aw_lload 0 dX11_divide_81 rfl ?_
    refine aw_sub (lv' := []) [] rfl ?_
    exact abX11_divide_83 l G d hG hd _ _ _ _ hw
  · have hw := hw.2 z
    refine aw_aload_n 1 dX11_divide_62 rfl rfl ?_
    obtain ⟨fs5, r4, h1, h2, hw⟩ := hw
    refine aw_getf (k := 8) dX11_divide_63 clX11 (by decide) k_956 (Or.inl rfl) h1 h2 ?_
    refine aw_iload_n 3 dX11_divide_66 rfl rfl ?_
    obtain ⟨_, _, r6, h1, h2, h3, hw⟩ := hw
    refine aw_aL dX11_divide_67 h1 h2 h3 ?_
    refine aw_lload 0 dX11_divide_68 rfl ?_
    refine aw_aload_n 1 dX11_divide_70 rfl rfl ?_
    obtain ⟨fs8, r7, h1, h2, hw⟩ := hw
    refine aw_getf (k := 8) dX11_divide_71 clX11 (by decide) k_956 (Or.inl rfl) h1 h2 ?_
    refine aw_iload_n 4 dX11_divide_74 rfl rfl ?_
    obtain ⟨_, _, r9, h1, h2, h3, hw⟩ := hw
    refine aw_aL dX11_divide_75 h1 h2 h3 ?_
    refine aw_lmul dX11_divide_76 ?_
    refine aw_lsub dX11_divide_77 ?_
    refine aw_goto (tgt := 83) dX11_divide_78 (by decide) ?_
    refine aw_sub (lv' := []) [] rfl ?_
    exact abX11_divide_83 l G d hG hd _ _ _ _ hw
set_option maxRecDepth 100000 in
theorem acX11_divide (l : Launch) (G : aG) (d : Nat) (hG : a_GT G) (hd : 1 ≤ d) {Q : Int32 → aH → Prop} {h : aH} {v0 : Nat} {v1 : Int32} {v2 : Int32} {v3 : Int32} {v4 : Int32} (hw : wX11_divide h v0 v1 v2 v3 v4 Q) : AC l G d 0 0 mX11_divide [.ref v0, .int v1, .int v2, .int v3, .int v4] h (qI Q) := by
  refine ac_of iX11_divide (Nat.le_of_ble_eq_true rfl) ?_
  show AW l G d 0 0 mX11_divide (qI Q) 0 [(0, .ref v0), (1, .int v1), (2, .int v2), (3, .int v3), (4, .int v4)] [] h
  unfold wX11_divide at hw
  refine aw_aload_n 0 dX11_divide_0 rfl rfl ?_
  obtain ⟨fs11, r10, h1, h2, hw⟩ := hw
  refine aw_getf (k := 8) dX11_divide_1 clX11 (by decide) k_956 (Or.inl rfl) h1 h2 ?_
  refine aw_iload_n 3 dX11_divide_4 rfl rfl ?_
  obtain ⟨_, _, r12, h1, h2, h3, hw⟩ := hw
  refine aw_aL dX11_divide_5 h1 h2 h3 ?_
  refine aw_lconst (v := 0) dX11_divide_6 (by decide) ?_
  refine aw_lcmp dX11_divide_7 ?_
  refine aw_if_ne (tgt := 14) dX11_divide_8 (by decide) (fun z => ?_) (fun z => ?_)
  · have hw := hw.1 z
    refine aw_aload_n 0 dX11_divide_14 rfl rfl ?_
    obtain ⟨fs14, r13, h1, h2, hw⟩ := hw
    refine aw_getf (k := 8) dX11_divide_15 clX11 (by decide) k_956 (Or.inl rfl) h1 h2 ?_
    refine aw_iload_n 3 dX11_divide_18 rfl rfl ?_
    obtain ⟨_, _, r15, h1, h2, h3, hw⟩ := hw
    refine aw_aL dX11_divide_19 h1 h2 h3 ?_
    refine aw_ldc2 (v := (-1)) dX11_divide_20 k_1220 ?_
    refine aw_lcmp dX11_divide_23 ?_
    refine aw_if_ne (tgt := 37) dX11_divide_24 (by decide) (fun z => ?_) (fun z => ?_)
    · have hw := hw.1 z
      refine aw_aload_n 0 dX11_divide_37 rfl rfl ?_
      obtain ⟨fs17, r16, h1, h2, hw⟩ := hw
      refine aw_getf (k := 8) dX11_divide_38 clX11 (by decide) k_956 (Or.inl rfl) h1 h2 ?_
      refine aw_iload_n 2 dX11_divide_41 rfl rfl ?_
      obtain ⟨_, _, r18, h1, h2, h3, hw⟩ := hw
      refine aw_aL dX11_divide_42 h1 h2 h3 ?_
      refine aw_aload_n 0 dX11_divide_43 rfl rfl ?_
      obtain ⟨fs20, r19, h1, h2, hw⟩ := hw
      refine aw_getf (k := 8) dX11_divide_44 clX11 (by decide) k_956 (Or.inl rfl) h1 h2 ?_
      refine aw_iload_n 3 dX11_divide_47 rfl rfl ?_
      obtain ⟨_, _, r21, h1, h2, h3, hw⟩ := hw
      refine aw_aL dX11_divide_48 h1 h2 h3 ?_
      refine aw_ldiv dX11_divide_49 hw.1 ?_
      have hw := hw.2
      exact abX11_divide_50 l G d hG hd _ _ _ _ _ _ _ hw
    · have hw := hw.2 z
      refine aw_aload_n 0 dX11_divide_27 rfl rfl ?_
      obtain ⟨fs23, r22, h1, h2, hw⟩ := hw
      refine aw_getf (k := 8) dX11_divide_28 clX11 (by decide) k_956 (Or.inl rfl) h1 h2 ?_
      refine aw_iload_n 2 dX11_divide_31 rfl rfl ?_
      obtain ⟨_, _, r24, h1, h2, h3, hw⟩ := hw
      refine aw_aL dX11_divide_32 h1 h2 h3 ?_
      refine aw_lneg dX11_divide_33 ?_
      refine aw_goto (tgt := 50) dX11_divide_34 (by decide) ?_
      exact abX11_divide_50 l G d hG hd _ _ _ _ _ _ _ hw
  · have hw := hw.2 z
    refine aw_bipush (v := 6) dX11_divide_11 (by decide) ?_
    exact aw_iret dX11_divide_13 rfl rfl ⟨_, rfl, hw⟩
-- X11_tell
def wbX11_tell_60 (v3 : Int32) (h : aH) (Q : Int32 → aH → Prop) : Prop :=
  Q v3 h
def wbX11_tell_59 (v3 : Int32) (s0 : Int64) (s1 : Int32) (s2 : Nat) (h : aH) (Q : Int32 → aH → Prop) : Prop :=
  sL h s2 s1 s0 (fun h1 => wbX11_tell_60 v3 h1 Q)
def wX11_tell (h : aH) (v0 : Nat) (v1 : Int32) (v2 : Int32) (Q : Int32 → aH → Prop) : Prop :=
  isO h v0 9 (wX11_row h v0 v2 8 (fun r3 h2 => (¬ r3 = 0 → wbX11_tell_60 r3 h2 Q) ∧ (r3 = 0 → rR h2 v0 9 5 (fun r4 => rR h2 v0 9 7 (fun r6 => aI h2 r6 v2 (fun r8 => aI h2 r4 r8 (fun r9 => rR h2 v0 9 8 (fun r10 => rR h2 v0 9 2 (fun r12 => rR h2 v0 9 7 (fun r14 => aI h2 r14 v2 (fun r16 => aI h2 r12 r16 (fun r17 => (¬ r17 = 9 → wbX11_tell_59 r3 r9.toInt64 v1 r10 h2 Q) ∧ (r17 = 9 → wbX11_tell_59 r3 ((((2 * r9) + 1)).toInt64) v1 r10 h2 Q)))))))))))))
set_option maxRecDepth 100000 in
theorem abX11_tell_60 (l : Launch) (G : aG) (d : Nat) (hG : a_GT G) (hd : 5 ≤ d) {Q : Int32 → aH → Prop} (v3 : Int32) (h : aH) (hw : wbX11_tell_60 v3 h Q) : AW l G d 0 0 mX11_tell (qI Q) 60 [(3, .int v3)] [] h := by
  unfold wbX11_tell_60 at hw
  refine aw_iload_n 0 dX11_tell_60 rfl rfl ?_
  exact aw_iret dX11_tell_61 rfl rfl ⟨_, rfl, hw⟩
set_option maxRecDepth 100000 in
theorem abX11_tell_59 (l : Launch) (G : aG) (d : Nat) (hG : a_GT G) (hd : 5 ≤ d) {Q : Int32 → aH → Prop} (v3 : Int32) (s0 : Int64) (s1 : Int32) (s2 : Nat) (h : aH) (hw : wbX11_tell_59 v3 s0 s1 s2 h Q) : AW l G d 0 0 mX11_tell (qI Q) 59 [(3, .int v3)] [.long s0, .int s1, .ref s2] h := by
  unfold wbX11_tell_59 at hw
  obtain ⟨_, _, h1, h2, hw⟩ := hw
  refine aw_last dX11_tell_59 h1 h2 ?_
  generalize a_up _ _ _ = h1 at hw ⊢
  exact abX11_tell_60 l G d hG hd _ _ hw
set_option maxRecDepth 100000 in
theorem acX11_tell (l : Launch) (G : aG) (d : Nat) (hG : a_GT G) (hd : 5 ≤ d) {Q : Int32 → aH → Prop} {h : aH} {v0 : Nat} {v1 : Int32} {v2 : Int32} (hw : wX11_tell h v0 v1 v2 Q) : AC l G d 0 0 mX11_tell [.ref v0, .int v1, .int v2] h (qI Q) := by
  refine ac_of iX11_tell (Nat.le_of_ble_eq_true rfl) ?_
  show AW l G d 0 0 mX11_tell (qI Q) 0 [(0, .ref v0), (1, .int v1), (2, .int v2)] [] h
  unfold wX11_tell at hw
  refine aw_aload_n 0 dX11_tell_0 rfl rfl ?_
  refine aw_iload_n 2 dX11_tell_1 rfl rfl ?_
  refine aw_bipush (v := 8) dX11_tell_2 (by decide) ?_
  obtain ⟨_, h1, hw⟩ := hw
  refine aw_virtI (As := [.int v2, .int 8]) (rest := []) dX11_tell_4 (acX11_row l G (d - 1) hG (by omega) hw) iX11_row rfl k_1175 k_1177 k_59 rfl h1 (by omega) (by decide) (by decide) rfl (Nat.le_of_ble_eq_true rfl) (fun r3 h2 hw => ?_)
  refine aw_istore_n (lv' := [(3, .int r3), (0, .ref v0), (1, .int v1), (2, .int v2)]) dX11_tell_7 rfl (by decide) rfl ?_
  refine aw_iload_n 0 dX11_tell_8 rfl rfl ?_
  refine aw_if_ne (tgt := 60) dX11_tell_9 (by decide) (fun z => ?_) (fun z => ?_)
  · have hw := hw.1 z
    refine aw_sub (lv' := [(3, .int r3)]) [0] rfl ?_
    exact abX11_tell_60 l G d hG hd _ _ hw
  · have hw := hw.2 z
    refine aw_aload_n 1 dX11_tell_12 rfl rfl ?_
    obtain ⟨fs5, r4, h1, h2, hw⟩ := hw
    refine aw_getf (k := 5) dX11_tell_13 clX11 (by decide) k_953 (Or.inl rfl) h1 h2 ?_
    refine aw_aload_n 1 dX11_tell_16 rfl rfl ?_
    obtain ⟨fs7, r6, h1, h2, hw⟩ := hw
    refine aw_getf (k := 7) dX11_tell_17 clX11 (by decide) k_955 (Or.inl rfl) h1 h2 ?_
    refine aw_iload_n 3 dX11_tell_20 rfl rfl ?_
    obtain ⟨_, _, r8, h1, h2, h3, hw⟩ := hw
    refine aw_aI dX11_tell_21 h1 h2 h3 ?_
    obtain ⟨_, _, r9, h1, h2, h3, hw⟩ := hw
    refine aw_aI dX11_tell_22 h1 h2 h3 ?_
    refine aw_istore (lv' := [(4, .int r9), (3, .int r3), (0, .ref v0), (1, .int v1), (2, .int v2)]) dX11_tell_23 (by decide) rfl ?_
    refine aw_aload_n 2 dX11_tell_25 rfl rfl ?_
    obtain ⟨fs11, r10, h1, h2, hw⟩ := hw
    refine aw_getf (k := 8) dX11_tell_26 clX11 (by decide) k_956 (Or.inl rfl) h1 h2 ?_
    refine aw_iload_n 3 dX11_tell_29 rfl rfl ?_
    refine aw_aload_n 2 dX11_tell_30 rfl rfl ?_
    obtain ⟨fs13, r12, h1, h2, hw⟩ := hw
    refine aw_getf (k := 2) dX11_tell_31 clX11 (by decide) k_950 (Or.inl rfl) h1 h2 ?_
    refine aw_aload_n 2 dX11_tell_34 rfl rfl ?_
    obtain ⟨fs15, r14, h1, h2, hw⟩ := hw
    refine aw_getf (k := 7) dX11_tell_35 clX11 (by decide) k_955 (Or.inl rfl) h1 h2 ?_
    refine aw_iload_n 4 dX11_tell_38 rfl rfl ?_
    obtain ⟨_, _, r16, h1, h2, h3, hw⟩ := hw
    refine aw_aI dX11_tell_39 h1 h2 h3 ?_
    obtain ⟨_, _, r17, h1, h2, h3, hw⟩ := hw
    refine aw_aI dX11_tell_40 h1 h2 h3 ?_
    refine aw_bipush (v := 9) dX11_tell_41 (by decide) ?_
    refine aw_icmp_ne (tgt := 56) dX11_tell_43 (by decide) (fun z => ?_) (fun z => ?_)
    · have hw := hw.1 z
      refine aw_iload 0 dX11_tell_56 rfl ?_
      refine aw_i2l dX11_tell_58 ?_
      refine aw_sub (lv' := [(3, .int r3)]) [1] rfl ?_
      exact abX11_tell_59 l G d hG hd _ _ _ _ _ hw
    · have hw := hw.2 z
      refine aw_iconst (v := 2) dX11_tell_46 (by decide) ?_
      refine aw_iload 0 dX11_tell_47 rfl ?_
      refine aw_imul dX11_tell_49 ?_
      refine aw_iconst (v := 1) dX11_tell_50 (by decide) ?_
      refine aw_iadd dX11_tell_51 ?_
      refine aw_i2l dX11_tell_52 ?_
      refine aw_goto (tgt := 59) dX11_tell_53 (by decide) ?_
      refine aw_sub (lv' := [(3, .int r3)]) [1] rfl ?_
      exact abX11_tell_59 l G d hG hd _ _ _ _ _ hw
-- X11_get
def wbX11_get_40 (v5 : Int32) (h : aH) (Q : Int32 → aH → Prop) : Prop :=
  Q v5 h
def wX11_get (h : aH) (v0 : Nat) (v1 : Int32) (v2 : Int32) (v3 : Int32) (v4 : Int32) (Q : Int32 → aH → Prop) : Prop :=
  isO h v0 9 (wX11_itemOf h v0 v2 v3 v4 (fun r2 h1 => (¬ r2 = 0 → wbX11_get_40 r2 h1 Q) ∧ (r2 = 0 → rR h1 v0 9 8 (fun r3 => rR h1 v0 9 6 (fun r5 => rR h1 v0 9 3 (fun r7 => rR h1 v0 9 7 (fun r9 => aI h1 r9 v2 (fun r11 => aI h1 r7 r11 (fun r12 => aL h1 r5 ((r12 + v4)) (fun r13 => sL h1 r3 v1 r13 (fun h14 => wbX11_get_40 r2 h14 Q)))))))))))
set_option maxRecDepth 100000 in
theorem abX11_get_40 (l : Launch) (G : aG) (d : Nat) (hG : a_GT G) (hd : 6 ≤ d) {Q : Int32 → aH → Prop} (v5 : Int32) (h : aH) (hw : wbX11_get_40 v5 h Q) : AW l G d 0 0 mX11_get (qI Q) 40 [(5, .int v5)] [] h := by
  unfold wbX11_get_40 at hw
  refine aw_iload 0 dX11_get_40 rfl ?_
  exact aw_iret dX11_get_42 rfl rfl ⟨_, rfl, hw⟩
set_option maxRecDepth 100000 in
theorem acX11_get (l : Launch) (G : aG) (d : Nat) (hG : a_GT G) (hd : 6 ≤ d) {Q : Int32 → aH → Prop} {h : aH} {v0 : Nat} {v1 : Int32} {v2 : Int32} {v3 : Int32} {v4 : Int32} (hw : wX11_get h v0 v1 v2 v3 v4 Q) : AC l G d 0 0 mX11_get [.ref v0, .int v1, .int v2, .int v3, .int v4] h (qI Q) := by
  refine ac_of iX11_get (Nat.le_of_ble_eq_true rfl) ?_
  show AW l G d 0 0 mX11_get (qI Q) 0 [(0, .ref v0), (1, .int v1), (2, .int v2), (3, .int v3), (4, .int v4)] [] h
  unfold wX11_get at hw
  refine aw_aload_n 0 dX11_get_0 rfl rfl ?_
  refine aw_iload_n 2 dX11_get_1 rfl rfl ?_
  refine aw_iload_n 3 dX11_get_2 rfl rfl ?_
  refine aw_iload 4 dX11_get_3 rfl ?_
  obtain ⟨_, h1, hw⟩ := hw
  refine aw_virtI (As := [.int v2, .int v3, .int v4]) (rest := []) dX11_get_5 (acX11_itemOf l G (d - 1) hG (by omega) hw) iX11_itemOf rfl k_1171 k_1173 k_58 rfl h1 (by omega) (by decide) (by decide) rfl (Nat.le_of_ble_eq_true rfl) (fun r2 h1 hw => ?_)
  refine aw_istore (lv' := [(5, .int r2), (0, .ref v0), (1, .int v1), (2, .int v2), (3, .int v3), (4, .int v4)]) dX11_get_8 (by decide) rfl ?_
  refine aw_iload 0 dX11_get_10 rfl ?_
  refine aw_if_ne (tgt := 40) dX11_get_12 (by decide) (fun z => ?_) (fun z => ?_)
  · have hw := hw.1 z
    refine aw_sub (lv' := [(5, .int r2)]) [0] rfl ?_
    exact abX11_get_40 l G d hG hd _ _ hw
  · have hw := hw.2 z
    refine aw_aload_n 1 dX11_get_15 rfl rfl ?_
    obtain ⟨fs4, r3, h1, h2, hw⟩ := hw
    refine aw_getf (k := 8) dX11_get_16 clX11 (by decide) k_956 (Or.inl rfl) h1 h2 ?_
    refine aw_iload_n 2 dX11_get_19 rfl rfl ?_
    refine aw_aload_n 1 dX11_get_20 rfl rfl ?_
    obtain ⟨fs6, r5, h1, h2, hw⟩ := hw
    refine aw_getf (k := 6) dX11_get_21 clX11 (by decide) k_954 (Or.inl rfl) h1 h2 ?_
    refine aw_aload_n 1 dX11_get_24 rfl rfl ?_
    obtain ⟨fs8, r7, h1, h2, hw⟩ := hw
    refine aw_getf (k := 3) dX11_get_25 clX11 (by decide) k_951 (Or.inl rfl) h1 h2 ?_
    refine aw_aload_n 1 dX11_get_28 rfl rfl ?_
    obtain ⟨fs10, r9, h1, h2, hw⟩ := hw
    refine aw_getf (k := 7) dX11_get_29 clX11 (by decide) k_955 (Or.inl rfl) h1 h2 ?_
    refine aw_iload_n 3 dX11_get_32 rfl rfl ?_
    obtain ⟨_, _, r11, h1, h2, h3, hw⟩ := hw
    refine aw_aI dX11_get_33 h1 h2 h3 ?_
    obtain ⟨_, _, r12, h1, h2, h3, hw⟩ := hw
    refine aw_aI dX11_get_34 h1 h2 h3 ?_
    refine aw_iload 5 dX11_get_35 rfl ?_
    refine aw_iadd dX11_get_37 ?_
    obtain ⟨_, _, r13, h1, h2, h3, hw⟩ := hw
    refine aw_aL dX11_get_38 h1 h2 h3 ?_
    obtain ⟨_, _, h1, h2, hw⟩ := hw
    refine aw_last dX11_get_39 h1 h2 ?_
    generalize a_up _ _ _ = h14 at hw ⊢
    refine aw_sub (lv' := [(5, .int r2)]) [0] rfl ?_
    exact abX11_get_40 l G d hG hd _ _ hw
-- X11_set
def wbX11_set_43 (v5 : Int32) (h : aH) (Q : Int32 → aH → Prop) : Prop :=
  Q v5 h
def wX11_set (h : aH) (v0 : Nat) (v1 : Int32) (v2 : Int32) (v3 : Int32) (v4 : Int32) (Q : Int32 → aH → Prop) : Prop :=
  isO h v0 9 (wX11_itemOf h v0 v1 v2 v3 (fun r2 h1 => (¬ r2 = 0 → wbX11_set_43 r2 h1 Q) ∧ (r2 = 0 → rR h1 v0 9 6 (fun r3 => rR h1 v0 9 3 (fun r5 => rR h1 v0 9 7 (fun r7 => aI h1 r7 v1 (fun r9 => aI h1 r5 r9 (fun r10 => rR h1 v0 9 8 (fun r11 => aL h1 r11 v4 (fun r13 => wX11_told h1 v2 r13 (fun r15 h14 => sL h14 r3 ((r10 + v3)) r15 (fun h16 => wbX11_set_43 r2 h16 Q))))))))))))
set_option maxRecDepth 100000 in
theorem abX11_set_43 (l : Launch) (G : aG) (d : Nat) (hG : a_GT G) (hd : 6 ≤ d) {Q : Int32 → aH → Prop} (v5 : Int32) (h : aH) (hw : wbX11_set_43 v5 h Q) : AW l G d 0 0 mX11_set (qI Q) 43 [(5, .int v5)] [] h := by
  unfold wbX11_set_43 at hw
  refine aw_iload 0 dX11_set_43 rfl ?_
  exact aw_iret dX11_set_45 rfl rfl ⟨_, rfl, hw⟩
set_option maxRecDepth 100000 in
theorem acX11_set (l : Launch) (G : aG) (d : Nat) (hG : a_GT G) (hd : 6 ≤ d) {Q : Int32 → aH → Prop} {h : aH} {v0 : Nat} {v1 : Int32} {v2 : Int32} {v3 : Int32} {v4 : Int32} (hw : wX11_set h v0 v1 v2 v3 v4 Q) : AC l G d 0 0 mX11_set [.ref v0, .int v1, .int v2, .int v3, .int v4] h (qI Q) := by
  refine ac_of iX11_set (Nat.le_of_ble_eq_true rfl) ?_
  show AW l G d 0 0 mX11_set (qI Q) 0 [(0, .ref v0), (1, .int v1), (2, .int v2), (3, .int v3), (4, .int v4)] [] h
  unfold wX11_set at hw
  refine aw_aload_n 0 dX11_set_0 rfl rfl ?_
  refine aw_iload_n 1 dX11_set_1 rfl rfl ?_
  refine aw_iload_n 2 dX11_set_2 rfl rfl ?_
  refine aw_iload_n 3 dX11_set_3 rfl rfl ?_
  obtain ⟨_, h1, hw⟩ := hw
  refine aw_virtI (As := [.int v1, .int v2, .int v3]) (rest := []) dX11_set_4 (acX11_itemOf l G (d - 1) hG (by omega) hw) iX11_itemOf rfl k_1171 k_1173 k_58 rfl h1 (by omega) (by decide) (by decide) rfl (Nat.le_of_ble_eq_true rfl) (fun r2 h1 hw => ?_)
  refine aw_istore (lv' := [(5, .int r2), (0, .ref v0), (1, .int v1), (2, .int v2), (3, .int v3), (4, .int v4)]) dX11_set_7 (by decide) rfl ?_
  refine aw_iload 0 dX11_set_9 rfl ?_
  refine aw_if_ne (tgt := 43) dX11_set_11 (by decide) (fun z => ?_) (fun z => ?_)
  · have hw := hw.1 z
    refine aw_sub (lv' := [(5, .int r2)]) [0] rfl ?_
    exact abX11_set_43 l G d hG hd _ _ hw
  · have hw := hw.2 z
    refine aw_aload_n 1 dX11_set_14 rfl rfl ?_
    obtain ⟨fs4, r3, h1, h2, hw⟩ := hw
    refine aw_getf (k := 6) dX11_set_15 clX11 (by decide) k_954 (Or.inl rfl) h1 h2 ?_
    refine aw_aload_n 1 dX11_set_18 rfl rfl ?_
    obtain ⟨fs6, r5, h1, h2, hw⟩ := hw
    refine aw_getf (k := 3) dX11_set_19 clX11 (by decide) k_951 (Or.inl rfl) h1 h2 ?_
    refine aw_aload_n 1 dX11_set_22 rfl rfl ?_
    obtain ⟨fs8, r7, h1, h2, hw⟩ := hw
    refine aw_getf (k := 7) dX11_set_23 clX11 (by decide) k_955 (Or.inl rfl) h1 h2 ?_
    refine aw_iload_n 2 dX11_set_26 rfl rfl ?_
    obtain ⟨_, _, r9, h1, h2, h3, hw⟩ := hw
    refine aw_aI dX11_set_27 h1 h2 h3 ?_
    obtain ⟨_, _, r10, h1, h2, h3, hw⟩ := hw
    refine aw_aI dX11_set_28 h1 h2 h3 ?_
    refine aw_iload_n 4 dX11_set_29 rfl rfl ?_
    refine aw_iadd dX11_set_30 ?_
    refine aw_iload_n 3 dX11_set_31 rfl rfl ?_
    refine aw_aload_n 1 dX11_set_32 rfl rfl ?_
    obtain ⟨fs12, r11, h1, h2, hw⟩ := hw
    refine aw_getf (k := 8) dX11_set_33 clX11 (by decide) k_956 (Or.inl rfl) h1 h2 ?_
    refine aw_iload 5 dX11_set_36 rfl ?_
    obtain ⟨_, _, r13, h1, h2, h3, hw⟩ := hw
    refine aw_aL dX11_set_38 h1 h2 h3 ?_
    refine aw_staticL (As := [.int v2, .long r13]) (rest := [.int (r10 + v3), .ref r3]) dX11_set_39 (acX11_told l G (d - 1) hG (by omega) hw) iX11_told rfl k_1183 k_1184 (by omega) (by decide) (by decide) rfl (Nat.le_of_ble_eq_true rfl) (fun r15 h14 hw => ?_)
    obtain ⟨_, _, h1, h2, hw⟩ := hw
    refine aw_last dX11_set_42 h1 h2 ?_
    generalize a_up _ _ _ = h16 at hw ⊢
    refine aw_sub (lv' := [(5, .int r2)]) [0] rfl ?_
    exact abX11_set_43 l G d hG hd _ _ hw
-- X11_take
def wbX11_take_41 (v5 : Int32) (h : aH) (Q : Int32 → aH → Prop) : Prop :=
  Q v5 h
def wX11_take (h : aH) (v0 : Nat) (v1 : Int32) (v2 : Int32) (v3 : Int32) (v4 : Int32) (Q : Int32 → aH → Prop) : Prop :=
  isO h v0 9 (wX11_itemOf h v0 v2 v3 v4 (fun r2 h1 => (¬ r2 = 0 → wbX11_take_41 r2 h1 Q) ∧ (r2 = 0 → rR h1 v0 9 7 (fun r3 => rR h1 v0 9 6 (fun r5 => rR h1 v0 9 3 (fun r7 => rR h1 v0 9 7 (fun r9 => aI h1 r9 v2 (fun r11 => aI h1 r7 r11 (fun r12 => aL h1 r5 ((r12 + v4)) (fun r13 => sI h1 r3 v1 r13.toInt32 (fun h14 => wbX11_take_41 r2 h14 Q)))))))))))
set_option maxRecDepth 100000 in
theorem abX11_take_41 (l : Launch) (G : aG) (d : Nat) (hG : a_GT G) (hd : 6 ≤ d) {Q : Int32 → aH → Prop} (v5 : Int32) (h : aH) (hw : wbX11_take_41 v5 h Q) : AW l G d 0 0 mX11_take (qI Q) 41 [(5, .int v5)] [] h := by
  unfold wbX11_take_41 at hw
  refine aw_iload 0 dX11_take_41 rfl ?_
  exact aw_iret dX11_take_43 rfl rfl ⟨_, rfl, hw⟩
set_option maxRecDepth 100000 in
theorem acX11_take (l : Launch) (G : aG) (d : Nat) (hG : a_GT G) (hd : 6 ≤ d) {Q : Int32 → aH → Prop} {h : aH} {v0 : Nat} {v1 : Int32} {v2 : Int32} {v3 : Int32} {v4 : Int32} (hw : wX11_take h v0 v1 v2 v3 v4 Q) : AC l G d 0 0 mX11_take [.ref v0, .int v1, .int v2, .int v3, .int v4] h (qI Q) := by
  refine ac_of iX11_take (Nat.le_of_ble_eq_true rfl) ?_
  show AW l G d 0 0 mX11_take (qI Q) 0 [(0, .ref v0), (1, .int v1), (2, .int v2), (3, .int v3), (4, .int v4)] [] h
  unfold wX11_take at hw
  refine aw_aload_n 0 dX11_take_0 rfl rfl ?_
  refine aw_iload_n 2 dX11_take_1 rfl rfl ?_
  refine aw_iload_n 3 dX11_take_2 rfl rfl ?_
  refine aw_iload 4 dX11_take_3 rfl ?_
  obtain ⟨_, h1, hw⟩ := hw
  refine aw_virtI (As := [.int v2, .int v3, .int v4]) (rest := []) dX11_take_5 (acX11_itemOf l G (d - 1) hG (by omega) hw) iX11_itemOf rfl k_1171 k_1173 k_58 rfl h1 (by omega) (by decide) (by decide) rfl (Nat.le_of_ble_eq_true rfl) (fun r2 h1 hw => ?_)
  refine aw_istore (lv' := [(5, .int r2), (0, .ref v0), (1, .int v1), (2, .int v2), (3, .int v3), (4, .int v4)]) dX11_take_8 (by decide) rfl ?_
  refine aw_iload 0 dX11_take_10 rfl ?_
  refine aw_if_ne (tgt := 41) dX11_take_12 (by decide) (fun z => ?_) (fun z => ?_)
  · have hw := hw.1 z
    refine aw_sub (lv' := [(5, .int r2)]) [0] rfl ?_
    exact abX11_take_41 l G d hG hd _ _ hw
  · have hw := hw.2 z
    refine aw_aload_n 1 dX11_take_15 rfl rfl ?_
    obtain ⟨fs4, r3, h1, h2, hw⟩ := hw
    refine aw_getf (k := 7) dX11_take_16 clX11 (by decide) k_955 (Or.inl rfl) h1 h2 ?_
    refine aw_iload_n 2 dX11_take_19 rfl rfl ?_
    refine aw_aload_n 1 dX11_take_20 rfl rfl ?_
    obtain ⟨fs6, r5, h1, h2, hw⟩ := hw
    refine aw_getf (k := 6) dX11_take_21 clX11 (by decide) k_954 (Or.inl rfl) h1 h2 ?_
    refine aw_aload_n 1 dX11_take_24 rfl rfl ?_
    obtain ⟨fs8, r7, h1, h2, hw⟩ := hw
    refine aw_getf (k := 3) dX11_take_25 clX11 (by decide) k_951 (Or.inl rfl) h1 h2 ?_
    refine aw_aload_n 1 dX11_take_28 rfl rfl ?_
    obtain ⟨fs10, r9, h1, h2, hw⟩ := hw
    refine aw_getf (k := 7) dX11_take_29 clX11 (by decide) k_955 (Or.inl rfl) h1 h2 ?_
    refine aw_iload_n 3 dX11_take_32 rfl rfl ?_
    obtain ⟨_, _, r11, h1, h2, h3, hw⟩ := hw
    refine aw_aI dX11_take_33 h1 h2 h3 ?_
    obtain ⟨_, _, r12, h1, h2, h3, hw⟩ := hw
    refine aw_aI dX11_take_34 h1 h2 h3 ?_
    refine aw_iload 5 dX11_take_35 rfl ?_
    refine aw_iadd dX11_take_37 ?_
    obtain ⟨_, _, r13, h1, h2, h3, hw⟩ := hw
    refine aw_aL dX11_take_38 h1 h2 h3 ?_
    refine aw_l2i dX11_take_39 ?_
    obtain ⟨_, _, h1, h2, hw⟩ := hw
    refine aw_iast dX11_take_40 h1 h2 ?_
    generalize a_up _ _ _ = h14 at hw ⊢
    refine aw_sub (lv' := [(5, .int r2)]) [0] rfl ?_
    exact abX11_take_41 l G d hG hd _ _ hw
-- X11_cloned
def wbX11_cloned_69_i (K69 : Nat → Int32 → Int32 → Int32 → Int32 →  aH → Prop) (v0 : Nat) (v1 : Int32) (v4 : Int32) (v5 : Int32) (v6 : Int32) (h : aH) (Q : Int32 → aH → Prop) : Prop :=
  (v4 ≤ v6 → Q 0 h) ∧ (¬ v4 ≤ v6 → rR h v0 9 6 (fun r1 => rR h v0 9 3 (fun r3 => rR h v0 9 7 (fun r5 => aI h r5 v1 (fun r7 => aI h r3 r7 (fun r8 => rR h v0 9 6 (fun r9 => aL h r9 ((v5 + v6)) (fun r11 => sL h r1 ((r8 + v6)) r11 (fun h12 => K69 v0 v1 v4 v5 ((v6 + 1)) h12)))))))))
def wbX11_cloned_69 (n : Nat) (v0 : Nat) (v1 : Int32) (v4 : Int32) (v5 : Int32) (v6 : Int32) (h : aH) (Q : Int32 → aH → Prop) : Prop := match n with
  | 0 => False
  | n + 1 => wbX11_cloned_69_i (fun v0 v1 v4 v5 v6 h => wbX11_cloned_69 n v0 v1 v4 v5 v6 h Q) v0 v1 v4 v5 v6 h Q
def wX11_cloned (h : aH) (v0 : Nat) (v1 : Int32) (v2 : Int32) (Q : Int32 → aH → Prop) : Prop :=
  isO h v0 9 (wX11_row h v0 v2 1 (fun r14 h13 => (r14 = 0 → rR h13 v0 9 4 (fun r15 => rR h13 v0 9 7 (fun r17 => aI h13 r17 v2 (fun r19 => aI h13 r15 r19 (fun r20 => isO h13 v0 9 (wX11_fits h13 v0 ((1 : Int64)) r20.toInt64 (fun r22 h21 => (¬ r22 = 0 → rR h21 v0 9 3 (fun r23 => rR h21 v0 9 7 (fun r25 => aI h21 r25 v2 (fun r27 => aI h21 r23 r27 (fun r28 => rR h21 v0 9 7 (fun r29 => isO h21 v0 9 (wX11_fresh h21 v0 1 r20 (fun r32 h31 => sI h31 r29 v1 r32 (fun h33 => ∃ n, wbX11_cloned_69 n v0 v1 r20 r28 0 h33 Q))))))))) ∧ (r22 = 0 → Q 8 h21)))))))) ∧ (¬ r14 = 0 → Q r14 h13)))
set_option maxRecDepth 100000 in
theorem abX11_cloned_69_i (l : Launch) (G : aG) (d : Nat) (hG : a_GT G) (hd : 5 ≤ d) {Q : Int32 → aH → Prop} {K69 : Nat → Int32 → Int32 → Int32 → Int32 →  aH → Prop} (kk69 : ∀ (v0 : Nat) (v1 : Int32) (v4 : Int32) (v5 : Int32) (v6 : Int32) (h : aH), K69 v0 v1 v4 v5 v6 h → AW l G d 0 0 mX11_cloned (qI Q) 69 [(0, .ref v0), (1, .int v1), (4, .int v4), (5, .int v5), (6, .int v6)] [] h) (v0 : Nat) (v1 : Int32) (v4 : Int32) (v5 : Int32) (v6 : Int32) (h : aH) (hw : wbX11_cloned_69_i K69 v0 v1 v4 v5 v6 h Q) : AW l G d 0 0 mX11_cloned (qI Q) 69 [(0, .ref v0), (1, .int v1), (4, .int v4), (5, .int v5), (6, .int v6)] [] h := by
  unfold wbX11_cloned_69_i at hw
  refine aw_iload 4 dX11_cloned_69 rfl ?_
  refine aw_iload 2 dX11_cloned_71 rfl ?_
  refine aw_icmp_ge (tgt := 111) dX11_cloned_73 (by decide) (fun z => ?_) (fun z => ?_)
  · have hw := hw.1 z
    refine aw_iconst (v := 0) dX11_cloned_111 (by decide) ?_
    exact aw_iret dX11_cloned_112 rfl rfl ⟨_, rfl, hw⟩
  · have hw := hw.2 z
    refine aw_aload_n 0 dX11_cloned_76 rfl rfl ?_
    obtain ⟨fs2, r1, h1, h2, hw⟩ := hw
    refine aw_getf (k := 6) dX11_cloned_77 clX11 (by decide) k_954 (Or.inl rfl) h1 h2 ?_
    refine aw_aload_n 0 dX11_cloned_80 rfl rfl ?_
    obtain ⟨fs4, r3, h1, h2, hw⟩ := hw
    refine aw_getf (k := 3) dX11_cloned_81 clX11 (by decide) k_951 (Or.inl rfl) h1 h2 ?_
    refine aw_aload_n 0 dX11_cloned_84 rfl rfl ?_
    obtain ⟨fs6, r5, h1, h2, hw⟩ := hw
    refine aw_getf (k := 7) dX11_cloned_85 clX11 (by decide) k_955 (Or.inl rfl) h1 h2 ?_
    refine aw_iload_n 1 dX11_cloned_88 rfl rfl ?_
    obtain ⟨_, _, r7, h1, h2, h3, hw⟩ := hw
    refine aw_aI dX11_cloned_89 h1 h2 h3 ?_
    obtain ⟨_, _, r8, h1, h2, h3, hw⟩ := hw
    refine aw_aI dX11_cloned_90 h1 h2 h3 ?_
    refine aw_iload 4 dX11_cloned_91 rfl ?_
    refine aw_iadd dX11_cloned_93 ?_
    refine aw_aload_n 0 dX11_cloned_94 rfl rfl ?_
    obtain ⟨fs10, r9, h1, h2, hw⟩ := hw
    refine aw_getf (k := 6) dX11_cloned_95 clX11 (by decide) k_954 (Or.inl rfl) h1 h2 ?_
    refine aw_iload 3 dX11_cloned_98 rfl ?_
    refine aw_iload 4 dX11_cloned_100 rfl ?_
    refine aw_iadd dX11_cloned_102 ?_
    obtain ⟨_, _, r11, h1, h2, h3, hw⟩ := hw
    refine aw_aL dX11_cloned_103 h1 h2 h3 ?_
    obtain ⟨_, _, h1, h2, hw⟩ := hw
    refine aw_last dX11_cloned_104 h1 h2 ?_
    generalize a_up _ _ _ = h12 at hw ⊢
    refine aw_iinc (v := (v6 + 1)) (lv' := [(6, .int (v6 + 1)), (0, .ref v0), (1, .int v1), (4, .int v4), (5, .int v5)]) 4 dX11_cloned_105 rfl rfl (by decide) rfl ?_
    refine aw_goto (tgt := 69) dX11_cloned_108 (by decide) ?_
    refine aw_sub (lv' := [(0, .ref v0), (1, .int v1), (4, .int v4), (5, .int v5), (6, .int (v6 + 1))]) [1, 2, 3, 4, 0] rfl ?_
    exact kk69 _ _ _ _ _ _ hw
set_option maxRecDepth 100000 in
theorem abX11_cloned_69 (l : Launch) (G : aG) (d : Nat) (hG : a_GT G) (hd : 5 ≤ d) {Q : Int32 → aH → Prop} (n : Nat) : ∀  (v0 : Nat) (v1 : Int32) (v4 : Int32) (v5 : Int32) (v6 : Int32) (h : aH), wbX11_cloned_69 n v0 v1 v4 v5 v6 h Q → AW l G d 0 0 mX11_cloned (qI Q) 69 [(0, .ref v0), (1, .int v1), (4, .int v4), (5, .int v5), (6, .int v6)] [] h := by
  induction n with
  | zero => exact fun _ _ _ _ _ _ hw => hw.elim
  | succ n ih => exact fun _ _ _ _ _ _ hw => abX11_cloned_69_i l G d hG hd ih _ _ _ _ _ _ hw
set_option maxRecDepth 100000 in
theorem acX11_cloned (l : Launch) (G : aG) (d : Nat) (hG : a_GT G) (hd : 5 ≤ d) {Q : Int32 → aH → Prop} {h : aH} {v0 : Nat} {v1 : Int32} {v2 : Int32} (hw : wX11_cloned h v0 v1 v2 Q) : AC l G d 0 0 mX11_cloned [.ref v0, .int v1, .int v2] h (qI Q) := by
  refine ac_of iX11_cloned (Nat.le_of_ble_eq_true rfl) ?_
  show AW l G d 0 0 mX11_cloned (qI Q) 0 [(0, .ref v0), (1, .int v1), (2, .int v2)] [] h
  unfold wX11_cloned at hw
  refine aw_aload_n 0 dX11_cloned_0 rfl rfl ?_
  refine aw_iload_n 2 dX11_cloned_1 rfl rfl ?_
  refine aw_iconst (v := 1) dX11_cloned_2 (by decide) ?_
  obtain ⟨_, h1, hw⟩ := hw
  refine aw_virtI (As := [.int v2, .int 1]) (rest := []) dX11_cloned_3 (acX11_row l G (d - 1) hG (by omega) hw) iX11_row rfl k_1175 k_1177 k_59 rfl h1 (by omega) (by decide) (by decide) rfl (Nat.le_of_ble_eq_true rfl) (fun r14 h13 hw => ?_)
  refine aw_istore_n (lv' := [(3, .int r14), (0, .ref v0), (1, .int v1), (2, .int v2)]) dX11_cloned_6 rfl (by decide) rfl ?_
  refine aw_iload_n 0 dX11_cloned_7 rfl rfl ?_
  refine aw_if_eq (tgt := 13) dX11_cloned_8 (by decide) (fun z => ?_) (fun z => ?_)
  · have hw := hw.1 z
    refine aw_aload_n 1 dX11_cloned_13 rfl rfl ?_
    obtain ⟨fs16, r15, h1, h2, hw⟩ := hw
    refine aw_getf (k := 4) dX11_cloned_14 clX11 (by decide) k_952 (Or.inl rfl) h1 h2 ?_
    refine aw_aload_n 1 dX11_cloned_17 rfl rfl ?_
    obtain ⟨fs18, r17, h1, h2, hw⟩ := hw
    refine aw_getf (k := 7) dX11_cloned_18 clX11 (by decide) k_955 (Or.inl rfl) h1 h2 ?_
    refine aw_iload_n 3 dX11_cloned_21 rfl rfl ?_
    obtain ⟨_, _, r19, h1, h2, h3, hw⟩ := hw
    refine aw_aI dX11_cloned_22 h1 h2 h3 ?_
    obtain ⟨_, _, r20, h1, h2, h3, hw⟩ := hw
    refine aw_aI dX11_cloned_23 h1 h2 h3 ?_
    refine aw_istore (lv' := [(4, .int r20), (3, .int r14), (0, .ref v0), (1, .int v1), (2, .int v2)]) dX11_cloned_24 (by decide) rfl ?_
    refine aw_aload_n 2 dX11_cloned_26 rfl rfl ?_
    refine aw_lconst (v := 1) dX11_cloned_27 (by decide) ?_
    refine aw_iload 0 dX11_cloned_28 rfl ?_
    refine aw_i2l dX11_cloned_30 ?_
    obtain ⟨_, h1, hw⟩ := hw
    refine aw_virtI (As := [.long (1 : Int64), .long r20.toInt64]) (rest := []) dX11_cloned_31 (acX11_fits l G (d - 1) hG (by omega) hw) iX11_fits rfl k_1134 k_1136 k_50 rfl h1 (by omega) (by decide) (by decide) rfl (Nat.le_of_ble_eq_true rfl) (fun r22 h21 hw => ?_)
    refine aw_if_ne (tgt := 40) dX11_cloned_34 (by decide) (fun z => ?_) (fun z => ?_)
    · have hw := hw.1 z
      refine aw_aload_n 2 dX11_cloned_40 rfl rfl ?_
      obtain ⟨fs24, r23, h1, h2, hw⟩ := hw
      refine aw_getf (k := 3) dX11_cloned_41 clX11 (by decide) k_951 (Or.inl rfl) h1 h2 ?_
      refine aw_aload_n 2 dX11_cloned_44 rfl rfl ?_
      obtain ⟨fs26, r25, h1, h2, hw⟩ := hw
      refine aw_getf (k := 7) dX11_cloned_45 clX11 (by decide) k_955 (Or.inl rfl) h1 h2 ?_
      refine aw_iload_n 4 dX11_cloned_48 rfl rfl ?_
      obtain ⟨_, _, r27, h1, h2, h3, hw⟩ := hw
      refine aw_aI dX11_cloned_49 h1 h2 h3 ?_
      obtain ⟨_, _, r28, h1, h2, h3, hw⟩ := hw
      refine aw_aI dX11_cloned_50 h1 h2 h3 ?_
      refine aw_istore (lv' := [(5, .int r28), (4, .int r20), (3, .int r14), (0, .ref v0), (1, .int v1), (2, .int v2)]) dX11_cloned_51 (by decide) rfl ?_
      refine aw_aload_n 3 dX11_cloned_53 rfl rfl ?_
      obtain ⟨fs30, r29, h1, h2, hw⟩ := hw
      refine aw_getf (k := 7) dX11_cloned_54 clX11 (by decide) k_955 (Or.inl rfl) h1 h2 ?_
      refine aw_iload_n 4 dX11_cloned_57 rfl rfl ?_
      refine aw_aload_n 3 dX11_cloned_58 rfl rfl ?_
      refine aw_iconst (v := 1) dX11_cloned_59 (by decide) ?_
      refine aw_iload 1 dX11_cloned_60 rfl ?_
      obtain ⟨_, h1, hw⟩ := hw
      refine aw_virtI (As := [.int 1, .int r20]) (rest := [.int v1, .ref r29]) dX11_cloned_62 (acX11_fresh l G (d - 1) hG (by omega) hw) iX11_fresh rfl k_1140 k_1142 k_51 rfl h1 (by omega) (by decide) (by decide) rfl (Nat.le_of_ble_eq_true rfl) (fun r32 h31 hw => ?_)
      obtain ⟨_, _, h1, h2, hw⟩ := hw
      refine aw_iast dX11_cloned_65 h1 h2 ?_
      generalize a_up _ _ _ = h33 at hw ⊢
      refine aw_iconst (v := 0) dX11_cloned_66 (by decide) ?_
      refine aw_istore (lv' := [(6, .int 0), (5, .int r28), (4, .int r20), (3, .int r14), (0, .ref v0), (1, .int v1), (2, .int v2)]) dX11_cloned_67 (by decide) rfl ?_
      obtain ⟨n, hw⟩ := hw
      refine aw_sub (lv' := [(0, .ref v0), (1, .int v1), (4, .int r20), (5, .int r28), (6, .int 0)]) [4, 5, 2, 1, 0] rfl ?_
      exact abX11_cloned_69 l G d hG hd n _ _ _ _ _ _ hw
    · have hw := hw.2 z
      refine aw_bipush (v := 8) dX11_cloned_37 (by decide) ?_
      exact aw_iret dX11_cloned_39 rfl rfl ⟨_, rfl, hw⟩
  · have hw := hw.2 z
    refine aw_iload_n 0 dX11_cloned_11 rfl rfl ?_
    exact aw_iret dX11_cloned_12 rfl rfl ⟨_, rfl, hw⟩
