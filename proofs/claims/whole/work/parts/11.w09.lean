-- X11_may
def wbX11_may_30 (s0 : Int32) (h : aH) (Q : Int32 → aH → Prop) : Prop :=
  Q s0 h
def wX11_may (h : aH) (v0 : Nat) (v1 : Int32) (Q : Int32 → aH → Prop) : Prop :=
  isO h v0 9 (wX11_isNode h v0 v1 (fun r2 h1 => (¬ r2 = 0 → isO h1 v0 9 (wX11_has h1 v0 v1 (fun r4 h3 => (r4 = 0 → wbX11_may_30 0 h3 Q) ∧ (¬ r4 = 0 → rR h3 v0 9 32 (fun r5 => aI h3 r5 v1 (fun r7 => wbX11_may_30 r7 h3 Q)))))) ∧ (r2 = 0 → wbX11_may_30 ((-1)) h1 Q)))
set_option maxRecDepth 100000 in
theorem abX11_may_30 (l : Launch) (G : aG) (d : Nat) (hG : a_GT G) (hd : 3 ≤ d) {Q : Int32 → aH → Prop} (s0 : Int32) (h : aH) (hw : wbX11_may_30 s0 h Q) : AW l G d 0 0 mX11_may (qI Q) 30 [] [.int s0] h := by
  unfold wbX11_may_30 at hw
  exact aw_iret dX11_may_30 rfl rfl ⟨_, rfl, hw⟩
set_option maxRecDepth 100000 in
theorem acX11_may (l : Launch) (G : aG) (d : Nat) (hG : a_GT G) (hd : 3 ≤ d) {Q : Int32 → aH → Prop} {h : aH} {v0 : Nat} {v1 : Int32} (hw : wX11_may h v0 v1 Q) : AC l G d 0 0 mX11_may [.ref v0, .int v1] h (qI Q) := by
  refine ac_of iX11_may (Nat.le_of_ble_eq_true rfl) ?_
  show AW l G d 0 0 mX11_may (qI Q) 0 [(0, .ref v0), (1, .int v1)] [] h
  unfold wX11_may at hw
  refine aw_aload_n 0 dX11_may_0 rfl rfl ?_
  refine aw_iload_n 1 dX11_may_1 rfl rfl ?_
  obtain ⟨_, h1, hw⟩ := hw
  refine aw_virtI (As := [.int v1]) (rest := []) dX11_may_2 (acX11_isNode l G (d - 1) hG (by omega) hw) iX11_isNode rfl k_1094 k_1096 k_44 rfl h1 (by omega) (by decide) (by decide) rfl (Nat.le_of_ble_eq_true rfl) (fun r2 h1 hw => ?_)
  refine aw_if_ne (tgt := 12) dX11_may_5 (by decide) (fun z => ?_) (fun z => ?_)
  · have hw := hw.1 z
    refine aw_aload_n 0 dX11_may_12 rfl rfl ?_
    refine aw_iload_n 1 dX11_may_13 rfl rfl ?_
    obtain ⟨_, h1, hw⟩ := hw
    refine aw_virtI (As := [.int v1]) (rest := []) dX11_may_14 (acX11_has l G (d - 1) hG (by omega) hw) iX11_has rfl k_1373 k_1375 k_93 rfl h1 (by omega) (by decide) (by decide) rfl (Nat.le_of_ble_eq_true rfl) (fun r4 h3 hw => ?_)
    refine aw_if_eq (tgt := 29) dX11_may_17 (by decide) (fun z => ?_) (fun z => ?_)
    · have hw := hw.1 z
      refine aw_iconst (v := 0) dX11_may_29 (by decide) ?_
      refine aw_sub (lv' := []) [] rfl ?_
      exact abX11_may_30 l G d hG hd _ _ hw
    · have hw := hw.2 z
      refine aw_aload_n 0 dX11_may_20 rfl rfl ?_
      obtain ⟨fs6, r5, h1, h2, hw⟩ := hw
      refine aw_getf (k := 32) dX11_may_21 clX11 (by decide) k_980 (Or.inl rfl) h1 h2 ?_
      refine aw_iload_n 1 dX11_may_24 rfl rfl ?_
      obtain ⟨_, _, r7, h1, h2, h3, hw⟩ := hw
      refine aw_aI dX11_may_25 h1 h2 h3 ?_
      refine aw_goto (tgt := 30) dX11_may_26 (by decide) ?_
      refine aw_sub (lv' := []) [] rfl ?_
      exact abX11_may_30 l G d hG hd _ _ hw
  · have hw := hw.2 z
    refine aw_iconst (v := (-1)) dX11_may_8 (by decide) ?_
    refine aw_goto (tgt := 30) dX11_may_9 (by decide) ?_
    refine aw_sub (lv' := []) [] rfl ?_
    exact abX11_may_30 l G d hG hd _ _ hw
-- X11_ahead
def wbX11_ahead_42 (s0 : Int32) (h : aH) (Q : Int32 → aH → Prop) : Prop :=
  Q s0 h
def wbX11_ahead_15 (h : aH) (Q : Int32 → aH → Prop) : Prop :=
  wbX11_ahead_42 ((-1)) h Q
def wX11_ahead (h : aH) (v0 : Nat) (v1 : Int32) (v2 : Int32) (Q : Int32 → aH → Prop) : Prop :=
  isO h v0 9 (wX11_isNode h v0 v1 (fun r2 h1 => (r2 = 0 → wbX11_ahead_15 h1 Q) ∧ (¬ r2 = 0 → wX11_isSlot h1 v2 (fun r4 h3 => (¬ r4 = 0 → isO h3 v0 9 (wX11_has h3 v0 v1 (fun r6 h5 => (r6 = 0 → wbX11_ahead_42 0 h5 Q) ∧ (¬ r6 = 0 → rR h5 v0 9 33 (fun r7 => aI h5 r7 (((12 * v1) + v2)) (fun r9 => wbX11_ahead_42 r9 h5 Q)))))) ∧ (r4 = 0 → wbX11_ahead_15 h3 Q)))))
set_option maxRecDepth 100000 in
theorem abX11_ahead_42 (l : Launch) (G : aG) (d : Nat) (hG : a_GT G) (hd : 3 ≤ d) {Q : Int32 → aH → Prop} (s0 : Int32) (h : aH) (hw : wbX11_ahead_42 s0 h Q) : AW l G d 0 0 mX11_ahead (qI Q) 42 [] [.int s0] h := by
  unfold wbX11_ahead_42 at hw
  exact aw_iret dX11_ahead_42 rfl rfl ⟨_, rfl, hw⟩
set_option maxRecDepth 100000 in
theorem abX11_ahead_15 (l : Launch) (G : aG) (d : Nat) (hG : a_GT G) (hd : 3 ≤ d) {Q : Int32 → aH → Prop} (h : aH) (hw : wbX11_ahead_15  h Q) : AW l G d 0 0 mX11_ahead (qI Q) 15 [] [] h := by
  unfold wbX11_ahead_15 at hw
  refine aw_iconst (v := (-1)) dX11_ahead_15 (by decide) ?_
  refine aw_goto (tgt := 42) dX11_ahead_16 (by decide) ?_
  exact abX11_ahead_42 l G d hG hd _ _ hw
set_option maxRecDepth 100000 in
theorem acX11_ahead (l : Launch) (G : aG) (d : Nat) (hG : a_GT G) (hd : 3 ≤ d) {Q : Int32 → aH → Prop} {h : aH} {v0 : Nat} {v1 : Int32} {v2 : Int32} (hw : wX11_ahead h v0 v1 v2 Q) : AC l G d 0 0 mX11_ahead [.ref v0, .int v1, .int v2] h (qI Q) := by
  refine ac_of iX11_ahead (Nat.le_of_ble_eq_true rfl) ?_
  show AW l G d 0 0 mX11_ahead (qI Q) 0 [(0, .ref v0), (1, .int v1), (2, .int v2)] [] h
  unfold wX11_ahead at hw
  refine aw_aload_n 0 dX11_ahead_0 rfl rfl ?_
  refine aw_iload_n 1 dX11_ahead_1 rfl rfl ?_
  obtain ⟨_, h1, hw⟩ := hw
  refine aw_virtI (As := [.int v1]) (rest := []) dX11_ahead_2 (acX11_isNode l G (d - 1) hG (by omega) hw) iX11_isNode rfl k_1094 k_1096 k_44 rfl h1 (by omega) (by decide) (by decide) rfl (Nat.le_of_ble_eq_true rfl) (fun r2 h1 hw => ?_)
  refine aw_if_eq (tgt := 15) dX11_ahead_5 (by decide) (fun z => ?_) (fun z => ?_)
  · have hw := hw.1 z
    refine aw_sub (lv' := []) [] rfl ?_
    exact abX11_ahead_15 l G d hG hd _ hw
  · have hw := hw.2 z
    refine aw_iload_n 2 dX11_ahead_8 rfl rfl ?_
    refine aw_staticI (As := [.int v2]) (rest := []) dX11_ahead_9 (acX11_isSlot l G (d - 1) hG (by omega) hw) iX11_isSlot rfl k_1077 k_1078 (by omega) (by decide) (by decide) rfl (Nat.le_of_ble_eq_true rfl) (fun r4 h3 hw => ?_)
    refine aw_if_ne (tgt := 19) dX11_ahead_12 (by decide) (fun z => ?_) (fun z => ?_)
    · have hw := hw.1 z
      refine aw_aload_n 0 dX11_ahead_19 rfl rfl ?_
      refine aw_iload_n 1 dX11_ahead_20 rfl rfl ?_
      obtain ⟨_, h1, hw⟩ := hw
      refine aw_virtI (As := [.int v1]) (rest := []) dX11_ahead_21 (acX11_has l G (d - 1) hG (by omega) hw) iX11_has rfl k_1373 k_1375 k_93 rfl h1 (by omega) (by decide) (by decide) rfl (Nat.le_of_ble_eq_true rfl) (fun r6 h5 hw => ?_)
      refine aw_if_eq (tgt := 41) dX11_ahead_24 (by decide) (fun z => ?_) (fun z => ?_)
      · have hw := hw.1 z
        refine aw_iconst (v := 0) dX11_ahead_41 (by decide) ?_
        refine aw_sub (lv' := []) [] rfl ?_
        exact abX11_ahead_42 l G d hG hd _ _ hw
      · have hw := hw.2 z
        refine aw_aload_n 0 dX11_ahead_27 rfl rfl ?_
        obtain ⟨fs8, r7, h1, h2, hw⟩ := hw
        refine aw_getf (k := 33) dX11_ahead_28 clX11 (by decide) k_981 (Or.inl rfl) h1 h2 ?_
        refine aw_bipush (v := 12) dX11_ahead_31 (by decide) ?_
        refine aw_iload_n 1 dX11_ahead_33 rfl rfl ?_
        refine aw_imul dX11_ahead_34 ?_
        refine aw_iload_n 2 dX11_ahead_35 rfl rfl ?_
        refine aw_iadd dX11_ahead_36 ?_
        obtain ⟨_, _, r9, h1, h2, h3, hw⟩ := hw
        refine aw_aI dX11_ahead_37 h1 h2 h3 ?_
        refine aw_goto (tgt := 42) dX11_ahead_38 (by decide) ?_
        refine aw_sub (lv' := []) [] rfl ?_
        exact abX11_ahead_42 l G d hG hd _ _ hw
    · have hw := hw.2 z
      refine aw_sub (lv' := []) [] rfl ?_
      exact abX11_ahead_15 l G d hG hd _ hw
-- X11_guarded
def wbX11_guarded_27 (h : aH) (Q : Int32 → aH → Prop) : Prop :=
  Q ((-1)) h
def wbX11_guarded_69 (s0 : Int32) (h : aH) (Q : Int32 → aH → Prop) : Prop :=
  Q s0 h
def wX11_guarded (h : aH) (v0 : Nat) (v1 : Int32) (v2 : Int32) (Q : Int32 → aH → Prop) : Prop :=
  isO h v0 9 (wX11_isNode h v0 v1 (fun r2 h1 => (r2 = 0 → wbX11_guarded_27 h1 Q) ∧ (¬ r2 = 0 → rR h1 v0 9 10 (fun r3 => aI h1 r3 v1 (fun r5 => (¬ r5 = 3 → wbX11_guarded_27 h1 Q) ∧ (r5 = 3 → wX11_in h1 v2 0 1 (fun r7 h6 => (¬ r7 = 0 → isO h6 v0 9 (wX11_has h6 v0 v1 (fun r9 h8 => (¬ r9 = 0 → (¬ v2 = 0 → rR h8 v0 9 35 (fun r10 => aI h8 r10 v1 (fun r12 => wbX11_guarded_69 r12 h8 Q))) ∧ (v2 = 0 → rR h8 v0 9 13 (fun r13 => aI h8 r13 v1 (fun r15 => rR h8 v0 9 34 (fun r16 => aI h8 r16 v1 (fun r18 => wbX11_guarded_69 ((r15 &&& (r18 ^^^ (-1)))) h8 Q)))))) ∧ (r9 = 0 → wbX11_guarded_69 0 h8 Q)))) ∧ (r7 = 0 → wbX11_guarded_27 h6 Q))))))))
set_option maxRecDepth 100000 in
theorem abX11_guarded_27 (l : Launch) (G : aG) (d : Nat) (hG : a_GT G) (hd : 3 ≤ d) {Q : Int32 → aH → Prop} (h : aH) (hw : wbX11_guarded_27  h Q) : AW l G d 0 0 mX11_guarded (qI Q) 27 [] [] h := by
  unfold wbX11_guarded_27 at hw
  refine aw_iconst (v := (-1)) dX11_guarded_27 (by decide) ?_
  exact aw_iret dX11_guarded_28 rfl rfl ⟨_, rfl, hw⟩
set_option maxRecDepth 100000 in
theorem abX11_guarded_69 (l : Launch) (G : aG) (d : Nat) (hG : a_GT G) (hd : 3 ≤ d) {Q : Int32 → aH → Prop} (s0 : Int32) (h : aH) (hw : wbX11_guarded_69 s0 h Q) : AW l G d 0 0 mX11_guarded (qI Q) 69 [] [.int s0] h := by
  unfold wbX11_guarded_69 at hw
  exact aw_iret dX11_guarded_69 rfl rfl ⟨_, rfl, hw⟩
set_option maxRecDepth 100000 in
theorem acX11_guarded (l : Launch) (G : aG) (d : Nat) (hG : a_GT G) (hd : 3 ≤ d) {Q : Int32 → aH → Prop} {h : aH} {v0 : Nat} {v1 : Int32} {v2 : Int32} (hw : wX11_guarded h v0 v1 v2 Q) : AC l G d 0 0 mX11_guarded [.ref v0, .int v1, .int v2] h (qI Q) := by
  refine ac_of iX11_guarded (Nat.le_of_ble_eq_true rfl) ?_
  show AW l G d 0 0 mX11_guarded (qI Q) 0 [(0, .ref v0), (1, .int v1), (2, .int v2)] [] h
  unfold wX11_guarded at hw
  refine aw_aload_n 0 dX11_guarded_0 rfl rfl ?_
  refine aw_iload_n 1 dX11_guarded_1 rfl rfl ?_
  obtain ⟨_, h1, hw⟩ := hw
  refine aw_virtI (As := [.int v1]) (rest := []) dX11_guarded_2 (acX11_isNode l G (d - 1) hG (by omega) hw) iX11_isNode rfl k_1094 k_1096 k_44 rfl h1 (by omega) (by decide) (by decide) rfl (Nat.le_of_ble_eq_true rfl) (fun r2 h1 hw => ?_)
  refine aw_if_eq (tgt := 27) dX11_guarded_5 (by decide) (fun z => ?_) (fun z => ?_)
  · have hw := hw.1 z
    refine aw_sub (lv' := []) [] rfl ?_
    exact abX11_guarded_27 l G d hG hd _ hw
  · have hw := hw.2 z
    refine aw_aload_n 0 dX11_guarded_8 rfl rfl ?_
    obtain ⟨fs4, r3, h1, h2, hw⟩ := hw
    refine aw_getf (k := 10) dX11_guarded_9 clX11 (by decide) k_958 (Or.inl rfl) h1 h2 ?_
    refine aw_iload_n 1 dX11_guarded_12 rfl rfl ?_
    obtain ⟨_, _, r5, h1, h2, h3, hw⟩ := hw
    refine aw_aI dX11_guarded_13 h1 h2 h3 ?_
    refine aw_iconst (v := 3) dX11_guarded_14 (by decide) ?_
    refine aw_icmp_ne (tgt := 27) dX11_guarded_15 (by decide) (fun z => ?_) (fun z => ?_)
    · have hw := hw.1 z
      refine aw_sub (lv' := []) [] rfl ?_
      exact abX11_guarded_27 l G d hG hd _ hw
    · have hw := hw.2 z
      refine aw_iload_n 2 dX11_guarded_18 rfl rfl ?_
      refine aw_iconst (v := 0) dX11_guarded_19 (by decide) ?_
      refine aw_iconst (v := 1) dX11_guarded_20 (by decide) ?_
      refine aw_staticI (As := [.int v2, .int 0, .int 1]) (rest := []) dX11_guarded_21 (acX11_in l G (d - 1) hG (by omega) hw) iX11_in rfl k_1080 k_1081 (by omega) (by decide) (by decide) rfl (Nat.le_of_ble_eq_true rfl) (fun r7 h6 hw => ?_)
      refine aw_if_ne (tgt := 29) dX11_guarded_24 (by decide) (fun z => ?_) (fun z => ?_)
      · have hw := hw.1 z
        refine aw_aload_n 0 dX11_guarded_29 rfl rfl ?_
        refine aw_iload_n 1 dX11_guarded_30 rfl rfl ?_
        obtain ⟨_, h1, hw⟩ := hw
        refine aw_virtI (As := [.int v1]) (rest := []) dX11_guarded_31 (acX11_has l G (d - 1) hG (by omega) hw) iX11_has rfl k_1373 k_1375 k_93 rfl h1 (by omega) (by decide) (by decide) rfl (Nat.le_of_ble_eq_true rfl) (fun r9 h8 hw => ?_)
        refine aw_if_ne (tgt := 41) dX11_guarded_34 (by decide) (fun z => ?_) (fun z => ?_)
        · have hw := hw.1 z
          refine aw_iload_n 2 dX11_guarded_41 rfl rfl ?_
          refine aw_if_ne (tgt := 63) dX11_guarded_42 (by decide) (fun z => ?_) (fun z => ?_)
          · have hw := hw.1 z
            refine aw_aload_n 0 dX11_guarded_63 rfl rfl ?_
            obtain ⟨fs11, r10, h1, h2, hw⟩ := hw
            refine aw_getf (k := 35) dX11_guarded_64 clX11 (by decide) k_983 (Or.inl rfl) h1 h2 ?_
            refine aw_iload_n 1 dX11_guarded_67 rfl rfl ?_
            obtain ⟨_, _, r12, h1, h2, h3, hw⟩ := hw
            refine aw_aI dX11_guarded_68 h1 h2 h3 ?_
            refine aw_sub (lv' := []) [] rfl ?_
            exact abX11_guarded_69 l G d hG hd _ _ hw
          · have hw := hw.2 z
            refine aw_aload_n 0 dX11_guarded_45 rfl rfl ?_
            obtain ⟨fs14, r13, h1, h2, hw⟩ := hw
            refine aw_getf (k := 13) dX11_guarded_46 clX11 (by decide) k_961 (Or.inl rfl) h1 h2 ?_
            refine aw_iload_n 1 dX11_guarded_49 rfl rfl ?_
            obtain ⟨_, _, r15, h1, h2, h3, hw⟩ := hw
            refine aw_aI dX11_guarded_50 h1 h2 h3 ?_
            refine aw_aload_n 0 dX11_guarded_51 rfl rfl ?_
            obtain ⟨fs17, r16, h1, h2, hw⟩ := hw
            refine aw_getf (k := 34) dX11_guarded_52 clX11 (by decide) k_982 (Or.inl rfl) h1 h2 ?_
            refine aw_iload_n 1 dX11_guarded_55 rfl rfl ?_
            obtain ⟨_, _, r18, h1, h2, h3, hw⟩ := hw
            refine aw_aI dX11_guarded_56 h1 h2 h3 ?_
            refine aw_iconst (v := (-1)) dX11_guarded_57 (by decide) ?_
            refine aw_ixor dX11_guarded_58 ?_
            refine aw_iand dX11_guarded_59 ?_
            refine aw_goto (tgt := 69) dX11_guarded_60 (by decide) ?_
            refine aw_sub (lv' := []) [] rfl ?_
            exact abX11_guarded_69 l G d hG hd _ _ hw
        · have hw := hw.2 z
          refine aw_iconst (v := 0) dX11_guarded_37 (by decide) ?_
          refine aw_goto (tgt := 69) dX11_guarded_38 (by decide) ?_
          refine aw_sub (lv' := []) [] rfl ?_
          exact abX11_guarded_69 l G d hG hd _ _ hw
      · have hw := hw.2 z
        refine aw_sub (lv' := []) [] rfl ?_
        exact abX11_guarded_27 l G d hG hd _ hw
