-- X8_hasPart
def wbX8_hasPart_40 (s0 : Int32) (h : aH) (Q : Int32 → aH → Prop) : Prop :=
  oB s0 ∧ Q s0 h
def wbX8_hasPart_39 (h : aH) (Q : Int32 → aH → Prop) : Prop :=
  wbX8_hasPart_40 0 h Q
def wX8_hasPart (h : aH) (v0 : Nat) (v1 : Int32) (v2 : Int32) (v3 : Int32) (Q : Int32 → aH → Prop) : Prop :=
  isO h v0 6 (wX8_kindOf h v0 v1 (fun r2 h1 => wX4_isRow h1 r2 (fun r4 h3 => (r4 = 0 → wbX8_hasPart_39 h3 Q) ∧ (¬ r4 = 0 → (v2 < 0 → wbX8_hasPart_39 h3 Q) ∧ (¬ v2 < 0 → (v3 < 0 → wbX8_hasPart_39 h3 Q) ∧ (¬ v3 < 0 → rR h3 v0 6 2 (fun r5 => aI h3 r5 v1 (fun r7 => (0 < (lg_cmp ((v2.toInt64 + v3.toInt64)) r7.toInt64) → wbX8_hasPart_39 h3 Q) ∧ (¬ 0 < (lg_cmp ((v2.toInt64 + v3.toInt64)) r7.toInt64) → wbX8_hasPart_40 1 h3 Q)))))))))
set_option maxRecDepth 100000 in
theorem abX8_hasPart_40 (l : Launch) (G : aG) (d : Nat) (hG : a_GT G) (hd : 2 ≤ d) {Q : Int32 → aH → Prop} (s0 : Int32) (h : aH) (hw : wbX8_hasPart_40 s0 h Q) : AW l G d 0 0 mX8_hasPart (qI Q) 40 [] [.int s0] h := by
  unfold wbX8_hasPart_40 at hw
  exact aw_iret dX8_hasPart_40 rfl (a_nB hw.1) ⟨_, rfl, hw.2⟩
set_option maxRecDepth 100000 in
theorem abX8_hasPart_39 (l : Launch) (G : aG) (d : Nat) (hG : a_GT G) (hd : 2 ≤ d) {Q : Int32 → aH → Prop} (h : aH) (hw : wbX8_hasPart_39  h Q) : AW l G d 0 0 mX8_hasPart (qI Q) 39 [] [] h := by
  unfold wbX8_hasPart_39 at hw
  refine aw_iconst (v := 0) dX8_hasPart_39 (by decide) ?_
  exact abX8_hasPart_40 l G d hG hd _ _ hw
set_option maxRecDepth 100000 in
theorem acX8_hasPart (l : Launch) (G : aG) (d : Nat) (hG : a_GT G) (hd : 2 ≤ d) {Q : Int32 → aH → Prop} {h : aH} {v0 : Nat} {v1 : Int32} {v2 : Int32} {v3 : Int32} (hw : wX8_hasPart h v0 v1 v2 v3 Q) : AC l G d 0 0 mX8_hasPart [.ref v0, .int v1, .int v2, .int v3] h (qI Q) := by
  refine ac_of iX8_hasPart (Nat.le_of_ble_eq_true rfl) ?_
  show AW l G d 0 0 mX8_hasPart (qI Q) 0 [(0, .ref v0), (1, .int v1), (2, .int v2), (3, .int v3)] [] h
  unfold wX8_hasPart at hw
  refine aw_aload_n 0 dX8_hasPart_0 rfl rfl ?_
  refine aw_iload_n 1 dX8_hasPart_1 rfl rfl ?_
  obtain ⟨_, h1, hw⟩ := hw
  refine aw_virtI (As := [.int v1]) (rest := []) dX8_hasPart_2 (acX8_kindOf l G (d - 1) hG (by omega) hw) iX8_kindOf rfl k_498 k_499 k_500 rfl h1 (by omega) (by decide) (by decide) rfl (Nat.le_of_ble_eq_true rfl) (fun r2 h1 hw => ?_)
  refine aw_staticI (As := [.int r2]) (rest := []) dX8_hasPart_5 (acX4_isRow l G (d - 1) hG (by omega) hw) iX4_isRow rfl k_502 k_503 (by omega) (by decide) (by decide) rfl (Nat.le_of_ble_eq_true rfl) (fun r4 h3 hw => ?_)
  refine aw_if_eq (tgt := 39) dX8_hasPart_8 (by decide) (fun z => ?_) (fun z => ?_)
  · have hw := hw.1 z
    refine aw_sub (lv' := []) [] rfl ?_
    exact abX8_hasPart_39 l G d hG hd _ hw
  · have hw := hw.2 z
    refine aw_iload_n 2 dX8_hasPart_11 rfl rfl ?_
    refine aw_if_lt (tgt := 39) dX8_hasPart_12 (by decide) (fun z => ?_) (fun z => ?_)
    · have hw := hw.1 z
      refine aw_sub (lv' := []) [] rfl ?_
      exact abX8_hasPart_39 l G d hG hd _ hw
    · have hw := hw.2 z
      refine aw_iload_n 3 dX8_hasPart_15 rfl rfl ?_
      refine aw_if_lt (tgt := 39) dX8_hasPart_16 (by decide) (fun z => ?_) (fun z => ?_)
      · have hw := hw.1 z
        refine aw_sub (lv' := []) [] rfl ?_
        exact abX8_hasPart_39 l G d hG hd _ hw
      · have hw := hw.2 z
        refine aw_iload_n 2 dX8_hasPart_19 rfl rfl ?_
        refine aw_i2l dX8_hasPart_20 ?_
        refine aw_iload_n 3 dX8_hasPart_21 rfl rfl ?_
        refine aw_i2l dX8_hasPart_22 ?_
        refine aw_ladd dX8_hasPart_23 ?_
        refine aw_aload_n 0 dX8_hasPart_24 rfl rfl ?_
        obtain ⟨fs6, r5, h1, h2, hw⟩ := hw
        refine aw_getf (k := 2) dX8_hasPart_25 clX8 (by decide) k_131 (Or.inl rfl) h1 h2 ?_
        refine aw_iload_n 1 dX8_hasPart_28 rfl rfl ?_
        obtain ⟨_, _, r7, h1, h2, h3, hw⟩ := hw
        refine aw_aI dX8_hasPart_29 h1 h2 h3 ?_
        refine aw_i2l dX8_hasPart_30 ?_
        refine aw_lcmp dX8_hasPart_31 ?_
        refine aw_if_gt (tgt := 39) dX8_hasPart_32 (by decide) (fun z => ?_) (fun z => ?_)
        · have hw := hw.1 z
          refine aw_sub (lv' := []) [] rfl ?_
          exact abX8_hasPart_39 l G d hG hd _ hw
        · have hw := hw.2 z
          refine aw_iconst (v := 1) dX8_hasPart_35 (by decide) ?_
          refine aw_goto (tgt := 40) dX8_hasPart_36 (by decide) ?_
          refine aw_sub (lv' := []) [] rfl ?_
          exact abX8_hasPart_40 l G d hG hd _ _ hw
-- X8_bring
def wbX8_bring_23 (h : aH) (Q : Int32 → aH → Prop) : Prop :=
  Q 0 h
def wX8_bring (h : aH) (v0 : Nat) (v1 : Int32) (v2 : Int32) (v3 : Int32) (v4 : Int32) (v5 : Int32) (Q : Int32 → aH → Prop) : Prop :=
  isO h v0 6 (wX8_hasPart h v0 v1 v2 v5 (fun r2 h1 => (r2 = 0 → wbX8_bring_23 h1 Q) ∧ (¬ r2 = 0 → isO h1 v0 6 (wX8_hasPart h1 v0 v3 v4 v5 (fun r4 h3 => (¬ r4 = 0 → rR h3 v0 6 0 (fun r5 => aI h3 r5 v1 (fun r7 => rR h3 v0 6 0 (fun r8 => aI h3 r8 v3 (fun r10 => (r7 = r10 → rR h3 v0 6 3 (fun r11 => rR h3 v0 6 1 (fun r13 => aI h3 r13 v1 (fun r15 => rR h3 v0 6 3 (fun r16 => rR h3 v0 6 1 (fun r18 => aI h3 r18 v3 (fun r20 => cpL h3 r11 ((r15 + v2)) r16 ((r20 + v4)) v5 (fun h21 => Q v5 h21)))))))) ∧ (¬ r7 = r10 → isO h3 v0 6 (wX8_bringOneByOne h3 v0 v1 v2 v3 v4 v5 (fun r23 h22 => Q r23 h22)))))))) ∧ (r4 = 0 → wbX8_bring_23 h3 Q))))))
set_option maxRecDepth 100000 in
theorem abX8_bring_23 (l : Launch) (G : aG) (d : Nat) (hG : a_GT G) (hd : 3 ≤ d) {Q : Int32 → aH → Prop} (h : aH) (hw : wbX8_bring_23  h Q) : AW l G d 0 0 mX8_bring (qI Q) 23 [] [] h := by
  unfold wbX8_bring_23 at hw
  refine aw_iconst (v := 0) dX8_bring_23 (by decide) ?_
  exact aw_iret dX8_bring_24 rfl rfl ⟨_, rfl, hw⟩
set_option maxRecDepth 100000 in
theorem acX8_bring (l : Launch) (G : aG) (d : Nat) (hG : a_GT G) (hd : 3 ≤ d) {Q : Int32 → aH → Prop} {h : aH} {v0 : Nat} {v1 : Int32} {v2 : Int32} {v3 : Int32} {v4 : Int32} {v5 : Int32} (hw : wX8_bring h v0 v1 v2 v3 v4 v5 Q) : AC l G d 0 0 mX8_bring [.ref v0, .int v1, .int v2, .int v3, .int v4, .int v5] h (qI Q) := by
  refine ac_of iX8_bring (Nat.le_of_ble_eq_true rfl) ?_
  show AW l G d 0 0 mX8_bring (qI Q) 0 [(0, .ref v0), (1, .int v1), (2, .int v2), (3, .int v3), (4, .int v4), (5, .int v5)] [] h
  unfold wX8_bring at hw
  refine aw_aload_n 0 dX8_bring_0 rfl rfl ?_
  refine aw_iload_n 1 dX8_bring_1 rfl rfl ?_
  refine aw_iload_n 2 dX8_bring_2 rfl rfl ?_
  refine aw_iload 5 dX8_bring_3 rfl ?_
  obtain ⟨_, h1, hw⟩ := hw
  refine aw_virtI (As := [.int v1, .int v2, .int v5]) (rest := []) dX8_bring_5 (acX8_hasPart l G (d - 1) hG (by omega) hw) iX8_hasPart rfl k_594 k_595 k_596 rfl h1 (by omega) (by decide) (by decide) rfl (Nat.le_of_ble_eq_true rfl) (fun r2 h1 hw => ?_)
  refine aw_if_eq (tgt := 23) dX8_bring_8 (by decide) (fun z => ?_) (fun z => ?_)
  · have hw := hw.1 z
    refine aw_sub (lv' := []) [] rfl ?_
    exact abX8_bring_23 l G d hG hd _ hw
  · have hw := hw.2 z
    refine aw_aload_n 0 dX8_bring_11 rfl rfl ?_
    refine aw_iload_n 3 dX8_bring_12 rfl rfl ?_
    refine aw_iload 4 dX8_bring_13 rfl ?_
    refine aw_iload 5 dX8_bring_15 rfl ?_
    obtain ⟨_, h1, hw⟩ := hw
    refine aw_virtI (As := [.int v3, .int v4, .int v5]) (rest := []) dX8_bring_17 (acX8_hasPart l G (d - 1) hG (by omega) hw) iX8_hasPart rfl k_594 k_595 k_596 rfl h1 (by omega) (by decide) (by decide) rfl (Nat.le_of_ble_eq_true rfl) (fun r4 h3 hw => ?_)
    refine aw_if_ne (tgt := 25) dX8_bring_20 (by decide) (fun z => ?_) (fun z => ?_)
    · have hw := hw.1 z
      refine aw_aload_n 0 dX8_bring_25 rfl rfl ?_
      obtain ⟨fs6, r5, h1, h2, hw⟩ := hw
      refine aw_getf (k := 0) dX8_bring_26 clX8 (by decide) k_129 (Or.inl rfl) h1 h2 ?_
      refine aw_iload_n 1 dX8_bring_29 rfl rfl ?_
      obtain ⟨_, _, r7, h1, h2, h3, hw⟩ := hw
      refine aw_aI dX8_bring_30 h1 h2 h3 ?_
      refine aw_aload_n 0 dX8_bring_31 rfl rfl ?_
      obtain ⟨fs9, r8, h1, h2, hw⟩ := hw
      refine aw_getf (k := 0) dX8_bring_32 clX8 (by decide) k_129 (Or.inl rfl) h1 h2 ?_
      refine aw_iload_n 3 dX8_bring_35 rfl rfl ?_
      obtain ⟨_, _, r10, h1, h2, h3, hw⟩ := hw
      refine aw_aI dX8_bring_36 h1 h2 h3 ?_
      refine aw_icmp_eq (tgt := 52) dX8_bring_37 (by decide) (fun z => ?_) (fun z => ?_)
      · have hw := hw.1 z
        refine aw_aload_n 0 dX8_bring_52 rfl rfl ?_
        obtain ⟨fs12, r11, h1, h2, hw⟩ := hw
        refine aw_getf (k := 3) dX8_bring_53 clX8 (by decide) k_132 (Or.inl rfl) h1 h2 ?_
        refine aw_aload_n 0 dX8_bring_56 rfl rfl ?_
        obtain ⟨fs14, r13, h1, h2, hw⟩ := hw
        refine aw_getf (k := 1) dX8_bring_57 clX8 (by decide) k_130 (Or.inl rfl) h1 h2 ?_
        refine aw_iload_n 1 dX8_bring_60 rfl rfl ?_
        obtain ⟨_, _, r15, h1, h2, h3, hw⟩ := hw
        refine aw_aI dX8_bring_61 h1 h2 h3 ?_
        refine aw_iload_n 2 dX8_bring_62 rfl rfl ?_
        refine aw_iadd dX8_bring_63 ?_
        refine aw_aload_n 0 dX8_bring_64 rfl rfl ?_
        obtain ⟨fs17, r16, h1, h2, hw⟩ := hw
        refine aw_getf (k := 3) dX8_bring_65 clX8 (by decide) k_132 (Or.inl rfl) h1 h2 ?_
        refine aw_aload_n 0 dX8_bring_68 rfl rfl ?_
        obtain ⟨fs19, r18, h1, h2, hw⟩ := hw
        refine aw_getf (k := 1) dX8_bring_69 clX8 (by decide) k_130 (Or.inl rfl) h1 h2 ?_
        refine aw_iload_n 3 dX8_bring_72 rfl rfl ?_
        obtain ⟨_, _, r20, h1, h2, h3, hw⟩ := hw
        refine aw_aI dX8_bring_73 h1 h2 h3 ?_
        refine aw_iload 4 dX8_bring_74 rfl ?_
        refine aw_iadd dX8_bring_76 ?_
        refine aw_iload 5 dX8_bring_77 rfl ?_
        obtain ⟨_, _, _, _, h1, h2, h3, h4, h5, h6, h7, hw⟩ := hw
        refine aw_copyL dX8_bring_79 k_605 k_607 k_606 k_108 h1 h2 h3 h4 h5 h6 h7 (by omega) (Nat.le_of_ble_eq_true rfl) ?_
        generalize a_up _ _ _ = h21 at hw ⊢
        refine aw_iload 5 dX8_bring_82 rfl ?_
        exact aw_iret dX8_bring_84 rfl rfl ⟨_, rfl, hw⟩
      · have hw := hw.2 z
        refine aw_aload_n 0 dX8_bring_40 rfl rfl ?_
        refine aw_iload_n 1 dX8_bring_41 rfl rfl ?_
        refine aw_iload_n 2 dX8_bring_42 rfl rfl ?_
        refine aw_iload_n 3 dX8_bring_43 rfl rfl ?_
        refine aw_iload 4 dX8_bring_44 rfl ?_
        refine aw_iload 5 dX8_bring_46 rfl ?_
        obtain ⟨_, h1, hw⟩ := hw
        refine aw_virtI (As := [.int v1, .int v2, .int v3, .int v4, .int v5]) (rest := []) dX8_bring_48 (acX8_bringOneByOne l G (d - 1) hG (by omega) hw) iX8_bringOneByOne rfl k_598 k_600 k_20 rfl h1 (by omega) (by decide) (by decide) rfl (Nat.le_of_ble_eq_true rfl) (fun r23 h22 hw => ?_)
        exact aw_iret dX8_bring_51 rfl rfl ⟨_, rfl, hw⟩
    · have hw := hw.2 z
      refine aw_sub (lv' := []) [] rfl ?_
      exact abX8_bring_23 l G d hG hd _ hw
-- X5_cloneRow
def wbX5_cloneRow_65 (v3 : Int32) (h : aH) (Q : Int32 → aH → Prop) : Prop :=
  Q v3 h
def wX5_cloneRow (h : aH) (v0 : Nat) (v1 : Int32) (v2 : Int32) (Q : Int32 → aH → Prop) : Prop :=
  isO h v0 4 (wX5_unlessSomething h v0 v2 1 (fun r2 h1 => (r2 = 0 → rR h1 v0 4 1 (fun r3 => aI h1 r3 v2 (fun r5 => rR h1 v0 4 0 (fun r6 => isO h1 r6 6 (wX8_sizeOf h1 r6 r5 (fun r9 h8 => isO h8 v0 4 (wX5_make h8 v0 v1 1 r9 (fun r11 h10 => (¬ r11 = 0 → wbX5_cloneRow_65 r11 h10 Q) ∧ (r11 = 0 → rR h10 v0 4 0 (fun r12 => rR h10 v0 4 1 (fun r14 => aI h10 r14 v1 (fun r16 => isO h10 r12 6 (wX8_bring h10 r12 r5 0 r16 0 r9 (fun r18 h17 => wbX5_cloneRow_65 r11 h17 Q)))))))))))))) ∧ (¬ r2 = 0 → Q r2 h1)))
set_option maxRecDepth 100000 in
theorem abX5_cloneRow_65 (l : Launch) (G : aG) (d : Nat) (hG : a_GT G) (hd : 5 ≤ d) {Q : Int32 → aH → Prop} (v3 : Int32) (h : aH) (hw : wbX5_cloneRow_65 v3 h Q) : AW l G d 0 0 mX5_cloneRow (qI Q) 65 [(3, .int v3)] [] h := by
  unfold wbX5_cloneRow_65 at hw
  refine aw_iload_n 0 dX5_cloneRow_65 rfl rfl ?_
  exact aw_iret dX5_cloneRow_66 rfl rfl ⟨_, rfl, hw⟩
set_option maxRecDepth 100000 in
theorem acX5_cloneRow (l : Launch) (G : aG) (d : Nat) (hG : a_GT G) (hd : 5 ≤ d) {Q : Int32 → aH → Prop} {h : aH} {v0 : Nat} {v1 : Int32} {v2 : Int32} (hw : wX5_cloneRow h v0 v1 v2 Q) : AC l G d 0 0 mX5_cloneRow [.ref v0, .int v1, .int v2] h (qI Q) := by
  refine ac_of iX5_cloneRow (Nat.le_of_ble_eq_true rfl) ?_
  show AW l G d 0 0 mX5_cloneRow (qI Q) 0 [(0, .ref v0), (1, .int v1), (2, .int v2)] [] h
  unfold wX5_cloneRow at hw
  refine aw_aload_n 0 dX5_cloneRow_0 rfl rfl ?_
  refine aw_iload_n 2 dX5_cloneRow_1 rfl rfl ?_
  refine aw_iconst (v := 1) dX5_cloneRow_2 (by decide) ?_
  obtain ⟨_, h1, hw⟩ := hw
  refine aw_virtI (As := [.int v2, .int 1]) (rest := []) dX5_cloneRow_3 (acX5_unlessSomething l G (d - 1) hG (by omega) hw) iX5_unlessSomething rfl k_578 k_580 k_18 rfl h1 (by omega) (by decide) (by decide) rfl (Nat.le_of_ble_eq_true rfl) (fun r2 h1 hw => ?_)
  refine aw_istore_n (lv' := [(3, .int r2), (0, .ref v0), (1, .int v1), (2, .int v2)]) dX5_cloneRow_6 rfl (by decide) rfl ?_
  refine aw_iload_n 0 dX5_cloneRow_7 rfl rfl ?_
  refine aw_if_eq (tgt := 13) dX5_cloneRow_8 (by decide) (fun z => ?_) (fun z => ?_)
  · have hw := hw.1 z
    refine aw_aload_n 1 dX5_cloneRow_13 rfl rfl ?_
    obtain ⟨fs4, r3, h1, h2, hw⟩ := hw
    refine aw_getf (k := 1) dX5_cloneRow_14 clX5 (by decide) k_154 (Or.inl rfl) h1 h2 ?_
    refine aw_iload_n 3 dX5_cloneRow_17 rfl rfl ?_
    obtain ⟨_, _, r5, h1, h2, h3, hw⟩ := hw
    refine aw_aI dX5_cloneRow_18 h1 h2 h3 ?_
    refine aw_istore (lv' := [(4, .int r5), (3, .int r2), (0, .ref v0), (1, .int v1), (2, .int v2)]) dX5_cloneRow_19 (by decide) rfl ?_
    refine aw_aload_n 2 dX5_cloneRow_21 rfl rfl ?_
    obtain ⟨fs7, r6, h1, h2, hw⟩ := hw
    refine aw_getf (k := 0) dX5_cloneRow_22 clX5 (by decide) k_152 (Or.inl rfl) h1 h2 ?_
    refine aw_iload 0 dX5_cloneRow_25 rfl ?_
    obtain ⟨_, h1, hw⟩ := hw
    refine aw_virtI (As := [.int r5]) (rest := []) dX5_cloneRow_27 (acX8_sizeOf l G (d - 1) hG (by omega) hw) iX8_sizeOf rfl k_582 k_583 k_584 rfl h1 (by omega) (by decide) (by decide) rfl (Nat.le_of_ble_eq_true rfl) (fun r9 h8 hw => ?_)
    refine aw_istore (lv' := [(5, .int r9), (4, .int r5), (3, .int r2), (0, .ref v0), (1, .int v1), (2, .int v2)]) dX5_cloneRow_30 (by decide) rfl ?_
    refine aw_aload_n 3 dX5_cloneRow_32 rfl rfl ?_
    refine aw_iload_n 4 dX5_cloneRow_33 rfl rfl ?_
    refine aw_iconst (v := 1) dX5_cloneRow_34 (by decide) ?_
    refine aw_iload 0 dX5_cloneRow_35 rfl ?_
    obtain ⟨_, h1, hw⟩ := hw
    refine aw_virtI (As := [.int v1, .int 1, .int r9]) (rest := []) dX5_cloneRow_37 (acX5_make l G (d - 1) hG (by omega) hw) iX5_make rfl k_465 k_467 k_6 rfl h1 (by omega) (by decide) (by decide) rfl (Nat.le_of_ble_eq_true rfl) (fun r11 h10 hw => ?_)
    refine aw_istore_n (lv' := [(3, .int r11), (5, .int r9), (4, .int r5), (0, .ref v0), (1, .int v1), (2, .int v2)]) dX5_cloneRow_40 rfl (by decide) rfl ?_
    refine aw_iload_n 0 dX5_cloneRow_41 rfl rfl ?_
    refine aw_if_ne (tgt := 65) dX5_cloneRow_42 (by decide) (fun z => ?_) (fun z => ?_)
    · have hw := hw.1 z
      refine aw_sub (lv' := [(3, .int r11)]) [0] rfl ?_
      exact abX5_cloneRow_65 l G d hG hd _ _ hw
    · have hw := hw.2 z
      refine aw_aload_n 3 dX5_cloneRow_45 rfl rfl ?_
      obtain ⟨fs13, r12, h1, h2, hw⟩ := hw
      refine aw_getf (k := 0) dX5_cloneRow_46 clX5 (by decide) k_152 (Or.inl rfl) h1 h2 ?_
      refine aw_iload 2 dX5_cloneRow_49 rfl ?_
      refine aw_iconst (v := 0) dX5_cloneRow_51 (by decide) ?_
      refine aw_aload_n 3 dX5_cloneRow_52 rfl rfl ?_
      obtain ⟨fs15, r14, h1, h2, hw⟩ := hw
      refine aw_getf (k := 1) dX5_cloneRow_53 clX5 (by decide) k_154 (Or.inl rfl) h1 h2 ?_
      refine aw_iload_n 4 dX5_cloneRow_56 rfl rfl ?_
      obtain ⟨_, _, r16, h1, h2, h3, hw⟩ := hw
      refine aw_aI dX5_cloneRow_57 h1 h2 h3 ?_
      refine aw_iconst (v := 0) dX5_cloneRow_58 (by decide) ?_
      refine aw_iload 1 dX5_cloneRow_59 rfl ?_
      obtain ⟨_, h1, hw⟩ := hw
      refine aw_virtI (As := [.int r5, .int 0, .int r16, .int 0, .int r9]) (rest := []) dX5_cloneRow_61 (acX8_bring l G (d - 1) hG (by omega) hw) iX8_bring rfl k_590 k_591 k_592 rfl h1 (by omega) (by decide) (by decide) rfl (Nat.le_of_ble_eq_true rfl) (fun r18 h17 hw => ?_)
      refine aw_pop dX5_cloneRow_64 rfl ?_
      refine aw_sub (lv' := [(3, .int r11)]) [0] rfl ?_
      exact abX5_cloneRow_65 l G d hG hd _ _ hw
  · have hw := hw.2 z
    refine aw_iload_n 0 dX5_cloneRow_11 rfl rfl ?_
    exact aw_iret dX5_cloneRow_12 rfl rfl ⟨_, rfl, hw⟩
-- X5_tell
def wbX5_tell_56 (v3 : Int32) (h : aH) (Q : Int32 → aH → Prop) : Prop :=
  Q v3 h
def wbX5_tell_55 (v3 : Int32) (s0 : Int64) (s1 : Int32) (s2 : Nat) (h : aH) (Q : Int32 → aH → Prop) : Prop :=
  sL h s2 s1 s0 (fun h1 => wbX5_tell_56 v3 h1 Q)
def wX5_tell (h : aH) (v0 : Nat) (v1 : Int32) (v2 : Int32) (Q : Int32 → aH → Prop) : Prop :=
  isO h v0 4 (wX5_unlessSomething h v0 v2 8 (fun r3 h2 => (¬ r3 = 0 → wbX5_tell_56 r3 h2 Q) ∧ (r3 = 0 → rR h2 v0 4 0 (fun r4 => rR h2 v0 4 1 (fun r6 => aI h2 r6 v2 (fun r8 => isO h2 r4 6 (wX8_sizeOf h2 r4 r8 (fun r10 h9 => rR h9 v0 4 2 (fun r11 => isO h9 v0 4 (wX5_holds h9 v0 v2 9 (fun r14 h13 => (r14 = 0 → wbX5_tell_55 r3 r10.toInt64 v1 r11 h13 Q) ∧ (¬ r14 = 0 → wbX5_tell_55 r3 ((((2 * r10) + 1)).toInt64) v1 r11 h13 Q))))))))))))
set_option maxRecDepth 100000 in
theorem abX5_tell_56 (l : Launch) (G : aG) (d : Nat) (hG : a_GT G) (hd : 4 ≤ d) {Q : Int32 → aH → Prop} (v3 : Int32) (h : aH) (hw : wbX5_tell_56 v3 h Q) : AW l G d 0 0 mX5_tell (qI Q) 56 [(3, .int v3)] [] h := by
  unfold wbX5_tell_56 at hw
  refine aw_iload_n 0 dX5_tell_56 rfl rfl ?_
  exact aw_iret dX5_tell_57 rfl rfl ⟨_, rfl, hw⟩
set_option maxRecDepth 100000 in
theorem abX5_tell_55 (l : Launch) (G : aG) (d : Nat) (hG : a_GT G) (hd : 4 ≤ d) {Q : Int32 → aH → Prop} (v3 : Int32) (s0 : Int64) (s1 : Int32) (s2 : Nat) (h : aH) (hw : wbX5_tell_55 v3 s0 s1 s2 h Q) : AW l G d 0 0 mX5_tell (qI Q) 55 [(3, .int v3)] [.long s0, .int s1, .ref s2] h := by
  unfold wbX5_tell_55 at hw
  obtain ⟨_, _, h1, h2, hw⟩ := hw
  refine aw_last dX5_tell_55 h1 h2 ?_
  generalize a_up _ _ _ = h1 at hw ⊢
  exact abX5_tell_56 l G d hG hd _ _ hw
set_option maxRecDepth 100000 in
theorem acX5_tell (l : Launch) (G : aG) (d : Nat) (hG : a_GT G) (hd : 4 ≤ d) {Q : Int32 → aH → Prop} {h : aH} {v0 : Nat} {v1 : Int32} {v2 : Int32} (hw : wX5_tell h v0 v1 v2 Q) : AC l G d 0 0 mX5_tell [.ref v0, .int v1, .int v2] h (qI Q) := by
  refine ac_of iX5_tell (Nat.le_of_ble_eq_true rfl) ?_
  show AW l G d 0 0 mX5_tell (qI Q) 0 [(0, .ref v0), (1, .int v1), (2, .int v2)] [] h
  unfold wX5_tell at hw
  refine aw_aload_n 0 dX5_tell_0 rfl rfl ?_
  refine aw_iload_n 2 dX5_tell_1 rfl rfl ?_
  refine aw_bipush (v := 8) dX5_tell_2 (by decide) ?_
  obtain ⟨_, h1, hw⟩ := hw
  refine aw_virtI (As := [.int v2, .int 8]) (rest := []) dX5_tell_4 (acX5_unlessSomething l G (d - 1) hG (by omega) hw) iX5_unlessSomething rfl k_578 k_580 k_18 rfl h1 (by omega) (by decide) (by decide) rfl (Nat.le_of_ble_eq_true rfl) (fun r3 h2 hw => ?_)
  refine aw_istore_n (lv' := [(3, .int r3), (0, .ref v0), (1, .int v1), (2, .int v2)]) dX5_tell_7 rfl (by decide) rfl ?_
  refine aw_iload_n 0 dX5_tell_8 rfl rfl ?_
  refine aw_if_ne (tgt := 56) dX5_tell_9 (by decide) (fun z => ?_) (fun z => ?_)
  · have hw := hw.1 z
    refine aw_sub (lv' := [(3, .int r3)]) [0] rfl ?_
    exact abX5_tell_56 l G d hG hd _ _ hw
  · have hw := hw.2 z
    refine aw_aload_n 1 dX5_tell_12 rfl rfl ?_
    obtain ⟨fs5, r4, h1, h2, hw⟩ := hw
    refine aw_getf (k := 0) dX5_tell_13 clX5 (by decide) k_152 (Or.inl rfl) h1 h2 ?_
    refine aw_aload_n 1 dX5_tell_16 rfl rfl ?_
    obtain ⟨fs7, r6, h1, h2, hw⟩ := hw
    refine aw_getf (k := 1) dX5_tell_17 clX5 (by decide) k_154 (Or.inl rfl) h1 h2 ?_
    refine aw_iload_n 3 dX5_tell_20 rfl rfl ?_
    obtain ⟨_, _, r8, h1, h2, h3, hw⟩ := hw
    refine aw_aI dX5_tell_21 h1 h2 h3 ?_
    obtain ⟨_, h1, hw⟩ := hw
    refine aw_virtI (As := [.int r8]) (rest := []) dX5_tell_22 (acX8_sizeOf l G (d - 1) hG (by omega) hw) iX8_sizeOf rfl k_582 k_583 k_584 rfl h1 (by omega) (by decide) (by decide) rfl (Nat.le_of_ble_eq_true rfl) (fun r10 h9 hw => ?_)
    refine aw_istore (lv' := [(4, .int r10), (3, .int r3), (0, .ref v0), (1, .int v1), (2, .int v2)]) dX5_tell_25 (by decide) rfl ?_
    refine aw_aload_n 2 dX5_tell_27 rfl rfl ?_
    obtain ⟨fs12, r11, h1, h2, hw⟩ := hw
    refine aw_getf (k := 2) dX5_tell_28 clX5 (by decide) k_156 (Or.inl rfl) h1 h2 ?_
    refine aw_iload_n 3 dX5_tell_31 rfl rfl ?_
    refine aw_aload_n 2 dX5_tell_32 rfl rfl ?_
    refine aw_iload_n 4 dX5_tell_33 rfl rfl ?_
    refine aw_bipush (v := 9) dX5_tell_34 (by decide) ?_
    obtain ⟨_, h1, hw⟩ := hw
    refine aw_virtI (As := [.int v2, .int 9]) (rest := [.int v1, .ref r11]) dX5_tell_36 (acX5_holds l G (d - 1) hG (by omega) hw) iX5_holds rfl k_527 k_528 k_529 rfl h1 (by omega) (by decide) (by decide) rfl (Nat.le_of_ble_eq_true rfl) (fun r14 h13 hw => ?_)
    refine aw_if_eq (tgt := 52) dX5_tell_39 (by decide) (fun z => ?_) (fun z => ?_)
    · have hw := hw.1 z
      refine aw_iload 0 dX5_tell_52 rfl ?_
      refine aw_i2l dX5_tell_54 ?_
      refine aw_sub (lv' := [(3, .int r3)]) [1] rfl ?_
      exact abX5_tell_55 l G d hG hd _ _ _ _ _ hw
    · have hw := hw.2 z
      refine aw_iconst (v := 2) dX5_tell_42 (by decide) ?_
      refine aw_iload 0 dX5_tell_43 rfl ?_
      refine aw_imul dX5_tell_45 ?_
      refine aw_iconst (v := 1) dX5_tell_46 (by decide) ?_
      refine aw_iadd dX5_tell_47 ?_
      refine aw_i2l dX5_tell_48 ?_
      refine aw_goto (tgt := 55) dX5_tell_49 (by decide) ?_
      refine aw_sub (lv' := [(3, .int r3)]) [1] rfl ?_
      exact abX5_tell_55 l G d hG hd _ _ _ _ _ hw
-- X4_thoseThatMeet
def wbX4_thoseThatMeet_21 (s0 : Int32) (h : aH) (Q : Int32 → aH → Prop) : Prop :=
  Q s0 h
def wbX4_thoseThatMeet_20 (h : aH) (Q : Int32 → aH → Prop) : Prop :=
  wbX4_thoseThatMeet_21 0 h Q
def wX4_thoseThatMeet (h : aH) (v0 : Int32) (Q : Int32 → aH → Prop) : Prop :=
  (v0 < 0 → wbX4_thoseThatMeet_20  h Q) ∧ (¬ v0 < 0 → (10 ≤ v0 → wbX4_thoseThatMeet_20  h Q) ∧ (¬ 10 ≤ v0 → tB 2 v0 (fun r1 => wbX4_thoseThatMeet_21 r1 h Q)))
set_option maxRecDepth 100000 in
theorem abX4_thoseThatMeet_21 (l : Launch) (G : aG) (d : Nat) (hG : a_GT G) (hd : 1 ≤ d) {Q : Int32 → aH → Prop} (s0 : Int32) (h : aH) (hw : wbX4_thoseThatMeet_21 s0 h Q) : AW l G d 0 0 mX4_thoseThatMeet (qI Q) 21 [] [.int s0] h := by
  unfold wbX4_thoseThatMeet_21 at hw
  exact aw_iret dX4_thoseThatMeet_21 rfl rfl ⟨_, rfl, hw⟩
set_option maxRecDepth 100000 in
theorem abX4_thoseThatMeet_20 (l : Launch) (G : aG) (d : Nat) (hG : a_GT G) (hd : 1 ≤ d) {Q : Int32 → aH → Prop} (h : aH) (hw : wbX4_thoseThatMeet_20  h Q) : AW l G d 0 0 mX4_thoseThatMeet (qI Q) 20 [] [] h := by
  unfold wbX4_thoseThatMeet_20 at hw
  refine aw_iconst (v := 0) dX4_thoseThatMeet_20 (by decide) ?_
  exact abX4_thoseThatMeet_21 l G d hG hd _ _ hw
set_option maxRecDepth 100000 in
theorem acX4_thoseThatMeet (l : Launch) (G : aG) (d : Nat) (hG : a_GT G) (hd : 1 ≤ d) {Q : Int32 → aH → Prop} {h : aH} {v0 : Int32} (hw : wX4_thoseThatMeet h v0 Q) : AC l G d 0 0 mX4_thoseThatMeet [.int v0] h (qI Q) := by
  refine ac_of iX4_thoseThatMeet (Nat.le_of_ble_eq_true rfl) ?_
  show AW l G d 0 0 mX4_thoseThatMeet (qI Q) 0 [(0, .int v0)] [] h
  unfold wX4_thoseThatMeet at hw
  refine aw_iload_n 0 dX4_thoseThatMeet_0 rfl rfl ?_
  refine aw_if_lt (tgt := 20) dX4_thoseThatMeet_1 (by decide) (fun z => ?_) (fun z => ?_)
  · have hw := hw.1 z
    refine aw_sub (lv' := []) [] rfl ?_
    exact abX4_thoseThatMeet_20 l G d hG hd _ hw
  · have hw := hw.2 z
    refine aw_iload_n 0 dX4_thoseThatMeet_4 rfl rfl ?_
    refine aw_gets 2 (by decide) dX4_thoseThatMeet_5 rfl k_619 ?_
    refine aw_tL 2 (by decide) hG (v := 10) dX4_thoseThatMeet_8 (by decide) ?_
    refine aw_icmp_ge (tgt := 20) dX4_thoseThatMeet_9 (by decide) (fun z => ?_) (fun z => ?_)
    · have hw := hw.1 z
      refine aw_sub (lv' := []) [] rfl ?_
      exact abX4_thoseThatMeet_20 l G d hG hd _ hw
    · have hw := hw.2 z
      refine aw_gets 2 (by decide) dX4_thoseThatMeet_12 rfl k_619 ?_
      refine aw_iload_n 0 dX4_thoseThatMeet_15 rfl rfl ?_
      obtain ⟨r1, h1, h2, hw⟩ := hw
      refine aw_tB 2 (by decide) hG dX4_thoseThatMeet_16 h1 h2 ?_
      refine aw_goto (tgt := 21) dX4_thoseThatMeet_17 (by decide) ?_
      refine aw_sub (lv' := []) [] rfl ?_
      exact abX4_thoseThatMeet_21 l G d hG hd _ _ hw
-- X5_copy
def wbX5_copy_36 (h : aH) (Q : Int32 → aH → Prop) : Prop :=
  Q 1 h
def wbX5_copy_90 (h : aH) (Q : Int32 → aH → Prop) : Prop :=
  Q 3 h
def wbX5_copy_133 (s0 : Int32) (h : aH) (Q : Int32 → aH → Prop) : Prop :=
  Q s0 h
def wX5_copy (h : aH) (v0 : Nat) (v1 : Int32) (v2 : Int32) (v3 : Int32) (v4 : Int32) (Q : Int32 → aH → Prop) : Prop :=
  rR h v0 4 1 (fun r1 => aI h r1 v1 (fun r3 => rR h v0 4 1 (fun r4 => aI h r4 v3 (fun r6 => rR h v0 4 2 (fun r7 => aL h r7 7 (fun r9 => (r3 = 0 → wbX5_copy_36  h Q) ∧ (¬ r3 = 0 → (¬ r6 = 0 → isO h v0 4 (wX5_kindIn h v0 v1 (fun r11 h10 => wX4_thoseThatMeet h10 r11 (fun r13 h12 => isO h12 v0 4 (wX5_kindIn h12 v0 v3 (fun r15 h14 => wX4_has h14 r13 r15 (fun r17 h16 => (¬ r17 = 0 → rR h16 v0 4 0 (fun r18 => isO h16 r18 6 (wX8_hasPart h16 r18 r3 v2 r9.toInt32 (fun r21 h20 => (r21 = 0 → wbX5_copy_90 h20 Q) ∧ (¬ r21 = 0 → rR h20 v0 4 0 (fun r22 => isO h20 r22 6 (wX8_hasPart h20 r22 r6 v4 r9.toInt32 (fun r25 h24 => (¬ r25 = 0 → rR h24 v0 4 0 (fun r26 => isO h24 r26 6 (wX8_bring h24 r26 r3 v2 r6 v4 r9.toInt32 (fun r29 h28 => rI h28 v0 4 5 (fun r30 => wF h28 v0 4 5 (.int (r30 + r29)) (fun h32 => (¬ r29 = r9.toInt32 → wbX5_copy_133 5 h32 Q) ∧ (r29 = r9.toInt32 → wbX5_copy_133 0 h32 Q))))))) ∧ (r25 = 0 → wbX5_copy_90 h24 Q))))))))) ∧ (r17 = 0 → Q 5 h16)))))))) ∧ (r6 = 0 → wbX5_copy_36  h Q))))))))
set_option maxRecDepth 100000 in
theorem abX5_copy_36 (l : Launch) (G : aG) (d : Nat) (hG : a_GT G) (hd : 4 ≤ d) {Q : Int32 → aH → Prop} (h : aH) (hw : wbX5_copy_36  h Q) : AW l G d 0 0 mX5_copy (qI Q) 36 [] [] h := by
  unfold wbX5_copy_36 at hw
  refine aw_iconst (v := 1) dX5_copy_36 (by decide) ?_
  exact aw_iret dX5_copy_37 rfl rfl ⟨_, rfl, hw⟩
set_option maxRecDepth 100000 in
theorem abX5_copy_90 (l : Launch) (G : aG) (d : Nat) (hG : a_GT G) (hd : 4 ≤ d) {Q : Int32 → aH → Prop} (h : aH) (hw : wbX5_copy_90  h Q) : AW l G d 0 0 mX5_copy (qI Q) 90 [] [] h := by
  unfold wbX5_copy_90 at hw
  refine aw_iconst (v := 3) dX5_copy_90 (by decide) ?_
  exact aw_iret dX5_copy_91 rfl rfl ⟨_, rfl, hw⟩
set_option maxRecDepth 100000 in
theorem abX5_copy_133 (l : Launch) (G : aG) (d : Nat) (hG : a_GT G) (hd : 4 ≤ d) {Q : Int32 → aH → Prop} (s0 : Int32) (h : aH) (hw : wbX5_copy_133 s0 h Q) : AW l G d 0 0 mX5_copy (qI Q) 133 [] [.int s0] h := by
  unfold wbX5_copy_133 at hw
  exact aw_iret dX5_copy_133 rfl rfl ⟨_, rfl, hw⟩
set_option maxRecDepth 100000 in
theorem acX5_copy (l : Launch) (G : aG) (d : Nat) (hG : a_GT G) (hd : 4 ≤ d) {Q : Int32 → aH → Prop} {h : aH} {v0 : Nat} {v1 : Int32} {v2 : Int32} {v3 : Int32} {v4 : Int32} (hw : wX5_copy h v0 v1 v2 v3 v4 Q) : AC l G d 0 0 mX5_copy [.ref v0, .int v1, .int v2, .int v3, .int v4] h (qI Q) := by
  refine ac_of iX5_copy (Nat.le_of_ble_eq_true rfl) ?_
  show AW l G d 0 0 mX5_copy (qI Q) 0 [(0, .ref v0), (1, .int v1), (2, .int v2), (3, .int v3), (4, .int v4)] [] h
  unfold wX5_copy at hw
  refine aw_aload_n 0 dX5_copy_0 rfl rfl ?_
  obtain ⟨fs2, r1, h1, h2, hw⟩ := hw
  refine aw_getf (k := 1) dX5_copy_1 clX5 (by decide) k_154 (Or.inl rfl) h1 h2 ?_
  refine aw_iload_n 1 dX5_copy_4 rfl rfl ?_
  obtain ⟨_, _, r3, h1, h2, h3, hw⟩ := hw
  refine aw_aI dX5_copy_5 h1 h2 h3 ?_
  refine aw_istore (lv' := [(5, .int r3), (0, .ref v0), (1, .int v1), (2, .int v2), (3, .int v3), (4, .int v4)]) dX5_copy_6 (by decide) rfl ?_
  refine aw_aload_n 1 dX5_copy_8 rfl rfl ?_
  obtain ⟨fs5, r4, h1, h2, hw⟩ := hw
  refine aw_getf (k := 1) dX5_copy_9 clX5 (by decide) k_154 (Or.inl rfl) h1 h2 ?_
  refine aw_iload_n 4 dX5_copy_12 rfl rfl ?_
  obtain ⟨_, _, r6, h1, h2, h3, hw⟩ := hw
  refine aw_aI dX5_copy_13 h1 h2 h3 ?_
  refine aw_istore (lv' := [(6, .int r6), (5, .int r3), (0, .ref v0), (1, .int v1), (2, .int v2), (3, .int v3), (4, .int v4)]) dX5_copy_14 (by decide) rfl ?_
  refine aw_aload_n 2 dX5_copy_16 rfl rfl ?_
  obtain ⟨fs8, r7, h1, h2, hw⟩ := hw
  refine aw_getf (k := 2) dX5_copy_17 clX5 (by decide) k_156 (Or.inl rfl) h1 h2 ?_
  refine aw_bipush (v := 7) dX5_copy_20 (by decide) ?_
  obtain ⟨_, _, r9, h1, h2, h3, hw⟩ := hw
  refine aw_aL dX5_copy_22 h1 h2 h3 ?_
  refine aw_l2i dX5_copy_23 ?_
  refine aw_istore (lv' := [(7, .int r9.toInt32), (6, .int r6), (5, .int r3), (0, .ref v0), (1, .int v1), (2, .int v2), (3, .int v3), (4, .int v4)]) dX5_copy_24 (by decide) rfl ?_
  refine aw_iload 2 dX5_copy_26 rfl ?_
  refine aw_if_eq (tgt := 36) dX5_copy_28 (by decide) (fun z => ?_) (fun z => ?_)
  · have hw := hw.1 z
    refine aw_sub (lv' := []) [] rfl ?_
    exact abX5_copy_36 l G d hG hd _ hw
  · have hw := hw.2 z
    refine aw_iload 1 dX5_copy_31 rfl ?_
    refine aw_if_ne (tgt := 38) dX5_copy_33 (by decide) (fun z => ?_) (fun z => ?_)
    · have hw := hw.1 z
      refine aw_aload_n 3 dX5_copy_38 rfl rfl ?_
      refine aw_iload_n 4 dX5_copy_39 rfl rfl ?_
      obtain ⟨_, h1, hw⟩ := hw
      refine aw_virtI (As := [.int v1]) (rest := []) dX5_copy_40 (acX5_kindIn l G (d - 1) hG (by omega) hw) iX5_kindIn rfl k_570 k_572 k_16 rfl h1 (by omega) (by decide) (by decide) rfl (Nat.le_of_ble_eq_true rfl) (fun r11 h10 hw => ?_)
      refine aw_staticI (As := [.int r11]) (rest := []) dX5_copy_43 (acX4_thoseThatMeet l G (d - 1) hG (by omega) hw) iX4_thoseThatMeet rfl k_616 k_617 (by omega) (by decide) (by decide) rfl (Nat.le_of_ble_eq_true rfl) (fun r13 h12 hw => ?_)
      refine aw_aload_n 3 dX5_copy_46 rfl rfl ?_
      refine aw_iload_n 6 dX5_copy_47 rfl rfl ?_
      obtain ⟨_, h1, hw⟩ := hw
      refine aw_virtI (As := [.int v3]) (rest := [.int r13]) dX5_copy_48 (acX5_kindIn l G (d - 1) hG (by omega) hw) iX5_kindIn rfl k_570 k_572 k_16 rfl h1 (by omega) (by decide) (by decide) rfl (Nat.le_of_ble_eq_true rfl) (fun r15 h14 hw => ?_)
      refine aw_staticI (As := [.int r13, .int r15]) (rest := []) dX5_copy_51 (acX4_has l G (d - 1) hG (by omega) hw) iX4_has rfl k_537 k_538 (by omega) (by decide) (by decide) rfl (Nat.le_of_ble_eq_true rfl) (fun r17 h16 hw => ?_)
      refine aw_if_ne (tgt := 59) dX5_copy_54 (by decide) (fun z => ?_) (fun z => ?_)
      · have hw := hw.1 z
        refine aw_aload_n 3 dX5_copy_59 rfl rfl ?_
        obtain ⟨fs19, r18, h1, h2, hw⟩ := hw
        refine aw_getf (k := 0) dX5_copy_60 clX5 (by decide) k_152 (Or.inl rfl) h1 h2 ?_
        refine aw_iload 2 dX5_copy_63 rfl ?_
        refine aw_iload_n 5 dX5_copy_65 rfl rfl ?_
        refine aw_iload 0 dX5_copy_66 rfl ?_
        obtain ⟨_, h1, hw⟩ := hw
        refine aw_virtI (As := [.int r3, .int v2, .int r9.toInt32]) (rest := []) dX5_copy_68 (acX8_hasPart l G (d - 1) hG (by omega) hw) iX8_hasPart rfl k_621 k_595 k_596 rfl h1 (by omega) (by decide) (by decide) rfl (Nat.le_of_ble_eq_true rfl) (fun r21 h20 hw => ?_)
        refine aw_if_eq (tgt := 90) dX5_copy_71 (by decide) (fun z => ?_) (fun z => ?_)
        · have hw := hw.1 z
          refine aw_sub (lv' := []) [] rfl ?_
          exact abX5_copy_90 l G d hG hd _ hw
        · have hw := hw.2 z
          refine aw_aload_n 3 dX5_copy_74 rfl rfl ?_
          obtain ⟨fs23, r22, h1, h2, hw⟩ := hw
          refine aw_getf (k := 0) dX5_copy_75 clX5 (by decide) k_152 (Or.inl rfl) h1 h2 ?_
          refine aw_iload 1 dX5_copy_78 rfl ?_
          refine aw_iload 7 dX5_copy_80 rfl ?_
          refine aw_iload 0 dX5_copy_82 rfl ?_
          obtain ⟨_, h1, hw⟩ := hw
          refine aw_virtI (As := [.int r6, .int v4, .int r9.toInt32]) (rest := []) dX5_copy_84 (acX8_hasPart l G (d - 1) hG (by omega) hw) iX8_hasPart rfl k_621 k_595 k_596 rfl h1 (by omega) (by decide) (by decide) rfl (Nat.le_of_ble_eq_true rfl) (fun r25 h24 hw => ?_)
          refine aw_if_ne (tgt := 92) dX5_copy_87 (by decide) (fun z => ?_) (fun z => ?_)
          · have hw := hw.1 z
            refine aw_aload_n 3 dX5_copy_92 rfl rfl ?_
            obtain ⟨fs27, r26, h1, h2, hw⟩ := hw
            refine aw_getf (k := 0) dX5_copy_93 clX5 (by decide) k_152 (Or.inl rfl) h1 h2 ?_
            refine aw_iload 2 dX5_copy_96 rfl ?_
            refine aw_iload_n 5 dX5_copy_98 rfl rfl ?_
            refine aw_iload 1 dX5_copy_99 rfl ?_
            refine aw_iload 7 dX5_copy_101 rfl ?_
            refine aw_iload 0 dX5_copy_103 rfl ?_
            obtain ⟨_, h1, hw⟩ := hw
            refine aw_virtI (As := [.int r3, .int v2, .int r6, .int v4, .int r9.toInt32]) (rest := []) dX5_copy_105 (acX8_bring l G (d - 1) hG (by omega) hw) iX8_bring rfl k_590 k_591 k_592 rfl h1 (by omega) (by decide) (by decide) rfl (Nat.le_of_ble_eq_true rfl) (fun r29 h28 hw => ?_)
            refine aw_istore (lv' := [(8, .int r29), (7, .int r9.toInt32), (6, .int r6), (5, .int r3), (0, .ref v0), (1, .int v1), (2, .int v2), (3, .int v3), (4, .int v4)]) dX5_copy_108 (by decide) rfl ?_
            refine aw_aload_n 4 dX5_copy_110 rfl rfl ?_
            refine aw_dup dX5_copy_111 rfl ?_
            obtain ⟨fs31, r30, h1, h2, hw⟩ := hw
            refine aw_getf (k := 5) dX5_copy_112 clX5 (by decide) k_164 (Or.inl rfl) h1 h2 ?_
            refine aw_iload 0 dX5_copy_115 rfl ?_
            refine aw_iadd dX5_copy_117 ?_
            obtain ⟨fs33, h1, h2, hw⟩ := hw
            refine aw_putf (k := 5) dX5_copy_118 clX5 (by decide) k_164 (Or.inl rfl) rfl rfl rfl h1 h2 ?_
            generalize a_up _ _ _ = h32 at hw ⊢
            refine aw_iload 0 dX5_copy_121 rfl ?_
            refine aw_iload 1 dX5_copy_123 rfl ?_
            refine aw_icmp_ne (tgt := 132) dX5_copy_125 (by decide) (fun z => ?_) (fun z => ?_)
            · have hw := hw.1 z
              refine aw_iconst (v := 5) dX5_copy_132 (by decide) ?_
              refine aw_sub (lv' := []) [] rfl ?_
              exact abX5_copy_133 l G d hG hd _ _ hw
            · have hw := hw.2 z
              refine aw_iconst (v := 0) dX5_copy_128 (by decide) ?_
              refine aw_goto (tgt := 133) dX5_copy_129 (by decide) ?_
              refine aw_sub (lv' := []) [] rfl ?_
              exact abX5_copy_133 l G d hG hd _ _ hw
          · have hw := hw.2 z
            refine aw_sub (lv' := []) [] rfl ?_
            exact abX5_copy_90 l G d hG hd _ hw
      · have hw := hw.2 z
        refine aw_iconst (v := 5) dX5_copy_57 (by decide) ?_
        exact aw_iret dX5_copy_58 rfl rfl ⟨_, rfl, hw⟩
    · have hw := hw.2 z
      refine aw_sub (lv' := []) [] rfl ?_
      exact abX5_copy_36 l G d hG hd _ hw
-- X5_divide
def wX5_divide (h : aH) (v0 : Nat) (v1 : Int32) (v2 : Int32) (v3 : Int32) (Q : Int32 → aH → Prop) : Prop :=
  rR h v0 4 2 (fun r1 => aL h r1 v3 (fun r3 => (¬ (lg_cmp r3 ((0 : Int64))) = 0 → rR h v0 4 2 (fun r4 => rR h v0 4 2 (fun r6 => aL h r6 v2 (fun r8 => rR h v0 4 2 (fun r9 => aL h r9 v3 (fun r11 => ¬ r11 = 0 ∧ (sL h r4 v1 ((r8 / r11)) (fun h12 => Q 0 h12)))))))) ∧ ((lg_cmp r3 ((0 : Int64))) = 0 → Q 6 h)))
set_option maxRecDepth 100000 in
theorem acX5_divide (l : Launch) (G : aG) (d : Nat) (hG : a_GT G) (hd : 1 ≤ d) {Q : Int32 → aH → Prop} {h : aH} {v0 : Nat} {v1 : Int32} {v2 : Int32} {v3 : Int32} (hw : wX5_divide h v0 v1 v2 v3 Q) : AC l G d 0 0 mX5_divide [.ref v0, .int v1, .int v2, .int v3] h (qI Q) := by
  refine ac_of iX5_divide (Nat.le_of_ble_eq_true rfl) ?_
  show AW l G d 0 0 mX5_divide (qI Q) 0 [(0, .ref v0), (1, .int v1), (2, .int v2), (3, .int v3)] [] h
  unfold wX5_divide at hw
  refine aw_aload_n 0 dX5_divide_0 rfl rfl ?_
  obtain ⟨fs2, r1, h1, h2, hw⟩ := hw
  refine aw_getf (k := 2) dX5_divide_1 clX5 (by decide) k_156 (Or.inl rfl) h1 h2 ?_
  refine aw_iload_n 3 dX5_divide_4 rfl rfl ?_
  obtain ⟨_, _, r3, h1, h2, h3, hw⟩ := hw
  refine aw_aL dX5_divide_5 h1 h2 h3 ?_
  refine aw_lconst (v := 0) dX5_divide_6 (by decide) ?_
  refine aw_lcmp dX5_divide_7 ?_
  refine aw_if_ne (tgt := 14) dX5_divide_8 (by decide) (fun z => ?_) (fun z => ?_)
  · have hw := hw.1 z
    refine aw_aload_n 0 dX5_divide_14 rfl rfl ?_
    obtain ⟨fs5, r4, h1, h2, hw⟩ := hw
    refine aw_getf (k := 2) dX5_divide_15 clX5 (by decide) k_156 (Or.inl rfl) h1 h2 ?_
    refine aw_iload_n 1 dX5_divide_18 rfl rfl ?_
    refine aw_aload_n 0 dX5_divide_19 rfl rfl ?_
    obtain ⟨fs7, r6, h1, h2, hw⟩ := hw
    refine aw_getf (k := 2) dX5_divide_20 clX5 (by decide) k_156 (Or.inl rfl) h1 h2 ?_
    refine aw_iload_n 2 dX5_divide_23 rfl rfl ?_
    obtain ⟨_, _, r8, h1, h2, h3, hw⟩ := hw
    refine aw_aL dX5_divide_24 h1 h2 h3 ?_
    refine aw_aload_n 0 dX5_divide_25 rfl rfl ?_
    obtain ⟨fs10, r9, h1, h2, hw⟩ := hw
    refine aw_getf (k := 2) dX5_divide_26 clX5 (by decide) k_156 (Or.inl rfl) h1 h2 ?_
    refine aw_iload_n 3 dX5_divide_29 rfl rfl ?_
    obtain ⟨_, _, r11, h1, h2, h3, hw⟩ := hw
    refine aw_aL dX5_divide_30 h1 h2 h3 ?_
    refine aw_ldiv dX5_divide_31 hw.1 ?_
    have hw := hw.2
    obtain ⟨_, _, h1, h2, hw⟩ := hw
    refine aw_last dX5_divide_32 h1 h2 ?_
    generalize a_up _ _ _ = h12 at hw ⊢
    refine aw_iconst (v := 0) dX5_divide_33 (by decide) ?_
    exact aw_iret dX5_divide_34 rfl rfl ⟨_, rfl, hw⟩
  · have hw := hw.2 z
    refine aw_bipush (v := 6) dX5_divide_11 (by decide) ?_
    exact aw_iret dX5_divide_13 rfl rfl ⟨_, rfl, hw⟩
-- X5_rest
def wX5_rest (h : aH) (v0 : Nat) (v1 : Int32) (v2 : Int32) (v3 : Int32) (Q : Int32 → aH → Prop) : Prop :=
  rR h v0 4 2 (fun r1 => aL h r1 v3 (fun r3 => (¬ (lg_cmp r3 ((0 : Int64))) = 0 → rR h v0 4 2 (fun r4 => rR h v0 4 2 (fun r6 => aL h r6 v2 (fun r8 => rR h v0 4 2 (fun r9 => aL h r9 v3 (fun r11 => ¬ r11 = 0 ∧ (sL h r4 v1 ((r8 - r8 / r11 * r11)) (fun h12 => Q 0 h12)))))))) ∧ ((lg_cmp r3 ((0 : Int64))) = 0 → Q 6 h)))
set_option maxRecDepth 100000 in
theorem acX5_rest (l : Launch) (G : aG) (d : Nat) (hG : a_GT G) (hd : 1 ≤ d) {Q : Int32 → aH → Prop} {h : aH} {v0 : Nat} {v1 : Int32} {v2 : Int32} {v3 : Int32} (hw : wX5_rest h v0 v1 v2 v3 Q) : AC l G d 0 0 mX5_rest [.ref v0, .int v1, .int v2, .int v3] h (qI Q) := by
  refine ac_of iX5_rest (Nat.le_of_ble_eq_true rfl) ?_
  show AW l G d 0 0 mX5_rest (qI Q) 0 [(0, .ref v0), (1, .int v1), (2, .int v2), (3, .int v3)] [] h
  unfold wX5_rest at hw
  refine aw_aload_n 0 dX5_rest_0 rfl rfl ?_
  obtain ⟨fs2, r1, h1, h2, hw⟩ := hw
  refine aw_getf (k := 2) dX5_rest_1 clX5 (by decide) k_156 (Or.inl rfl) h1 h2 ?_
  refine aw_iload_n 3 dX5_rest_4 rfl rfl ?_
  obtain ⟨_, _, r3, h1, h2, h3, hw⟩ := hw
  refine aw_aL dX5_rest_5 h1 h2 h3 ?_
  refine aw_lconst (v := 0) dX5_rest_6 (by decide) ?_
  refine aw_lcmp dX5_rest_7 ?_
  refine aw_if_ne (tgt := 14) dX5_rest_8 (by decide) (fun z => ?_) (fun z => ?_)
  · have hw := hw.1 z
    refine aw_aload_n 0 dX5_rest_14 rfl rfl ?_
    obtain ⟨fs5, r4, h1, h2, hw⟩ := hw
    refine aw_getf (k := 2) dX5_rest_15 clX5 (by decide) k_156 (Or.inl rfl) h1 h2 ?_
    refine aw_iload_n 1 dX5_rest_18 rfl rfl ?_
    refine aw_aload_n 0 dX5_rest_19 rfl rfl ?_
    obtain ⟨fs7, r6, h1, h2, hw⟩ := hw
    refine aw_getf (k := 2) dX5_rest_20 clX5 (by decide) k_156 (Or.inl rfl) h1 h2 ?_
    refine aw_iload_n 2 dX5_rest_23 rfl rfl ?_
    obtain ⟨_, _, r8, h1, h2, h3, hw⟩ := hw
    refine aw_aL dX5_rest_24 h1 h2 h3 ?_
    refine aw_aload_n 0 dX5_rest_25 rfl rfl ?_
    obtain ⟨fs10, r9, h1, h2, hw⟩ := hw
    refine aw_getf (k := 2) dX5_rest_26 clX5 (by decide) k_156 (Or.inl rfl) h1 h2 ?_
    refine aw_iload_n 3 dX5_rest_29 rfl rfl ?_
    obtain ⟨_, _, r11, h1, h2, h3, hw⟩ := hw
    refine aw_aL dX5_rest_30 h1 h2 h3 ?_
    refine aw_lrem dX5_rest_31 hw.1 ?_
    have hw := hw.2
    obtain ⟨_, _, h1, h2, hw⟩ := hw
    refine aw_last dX5_rest_32 h1 h2 ?_
    generalize a_up _ _ _ = h12 at hw ⊢
    refine aw_iconst (v := 0) dX5_rest_33 (by decide) ?_
    exact aw_iret dX5_rest_34 rfl rfl ⟨_, rfl, hw⟩
  · have hw := hw.2 z
    refine aw_bipush (v := 6) dX5_rest_11 (by decide) ?_
    exact aw_iret dX5_rest_13 rfl rfl ⟨_, rfl, hw⟩
-- X5_perform
def wbX5_perform_123 (v4 : Int32) (s0 : Int32) (s1 : Int32) (s2 : Nat) (h : aH) (Q : Int32 → aH → Prop) : Prop :=
  isO h s2 4 (wX5_makeFigure h s2 s1 s0 v4 (fun r2 h1 => Q r2 h1))
def wX5_perform (h : aH) (v0 : Nat) (v1 : Int32) (v2 : Int32) (v3 : Int32) (v4 : Int32) (v5 : Int32) (Q : Int32 → aH → Prop) : Prop :=
  ((v1.toInt < 0 ∨ 16 < v1.toInt) → Q 7 h) ∧ (v1.toInt = 0 → isO h v0 4 (wX5_make h v0 v2 v3 v4 (fun r4 h3 => Q r4 h3))) ∧ (v1.toInt = 1 → isO h v0 4 (wX5_makeDeep h v0 v2 v3 v4 (fun r6 h5 => Q r6 h5))) ∧ (v1.toInt = 2 → isO h v0 4 (wX5_make h v0 v2 5 v3 (fun r8 h7 => Q r8 h7))) ∧ (v1.toInt = 3 → (¬ v3 = 0 → wbX5_perform_123 v4 9 v2 v0 h Q) ∧ (v3 = 0 → wbX5_perform_123 v4 8 v2 v0 h Q)) ∧ (v1.toInt = 4 → isO h v0 4 (wX5_move h v0 v2 v3 v4 (fun r10 h9 => Q r10 h9))) ∧ (v1.toInt = 5 → isO h v0 4 (wX5_get h v0 v2 v3 v4 v5 (fun r12 h11 => Q r12 h11))) ∧ (v1.toInt = 6 → isO h v0 4 (wX5_set h v0 v2 v3 v4 v5 (fun r14 h13 => Q r14 h13))) ∧ (v1.toInt = 7 → isO h v0 4 (wX5_take h v0 v2 v3 v4 v5 (fun r16 h15 => Q r16 h15))) ∧ (v1.toInt = 8 → isO h v0 4 (wX5_lay h v0 v2 v3 v4 v5 (fun r18 h17 => Q r18 h17))) ∧ (v1.toInt = 9 → isO h v0 4 (wX5_length h v0 v2 v3 v4 (fun r20 h19 => Q r20 h19))) ∧ (v1.toInt = 10 → isO h v0 4 (wX5_cloneRow h v0 v2 v3 (fun r22 h21 => Q r22 h21))) ∧ (v1.toInt = 11 → isO h v0 4 (wX5_tell h v0 v2 v3 (fun r24 h23 => Q r24 h23))) ∧ (v1.toInt = 12 → isO h v0 4 (wX5_copy h v0 v2 v3 v4 v5 (fun r26 h25 => Q r26 h25))) ∧ (v1.toInt = 13 → rR h v0 4 2 (fun r27 => sL h r27 v2 v3.toInt64 (fun h29 => Q 0 h29))) ∧ (v1.toInt = 14 → rR h v0 4 2 (fun r30 => rR h v0 4 2 (fun r32 => aL h r32 v3 (fun r34 => rR h v0 4 2 (fun r35 => aL h r35 v4 (fun r37 => sL h r30 v2 ((r34 + r37)) (fun h38 => Q 0 h38))))))) ∧ (v1.toInt = 15 → isO h v0 4 (wX5_divide h v0 v2 v3 v4 (fun r40 h39 => Q r40 h39))) ∧ (v1.toInt = 16 → isO h v0 4 (wX5_rest h v0 v2 v3 v4 (fun r42 h41 => Q r42 h41)))
set_option maxRecDepth 100000 in
theorem abX5_perform_123 (l : Launch) (G : aG) (d : Nat) (hG : a_GT G) (hd : 6 ≤ d) {Q : Int32 → aH → Prop} (v4 : Int32) (s0 : Int32) (s1 : Int32) (s2 : Nat) (h : aH) (hw : wbX5_perform_123 v4 s0 s1 s2 h Q) : AW l G d 0 0 mX5_perform (qI Q) 123 [(4, .int v4)] [.int s0, .int s1, .ref s2] h := by
  unfold wbX5_perform_123 at hw
  refine aw_iload 0 dX5_perform_123 rfl ?_
  obtain ⟨_, h1, hw⟩ := hw
  refine aw_virtI (As := [.int s1, .int s0, .int v4]) (rest := []) dX5_perform_125 (acX5_makeFigure l G (d - 1) hG (by omega) hw) iX5_makeFigure rfl k_511 k_513 k_8 rfl h1 (by omega) (by decide) (by decide) rfl (Nat.le_of_ble_eq_true rfl) (fun r2 h1 hw => ?_)
  exact aw_iret dX5_perform_128 rfl rfl ⟨_, rfl, hw⟩
set_option maxRecDepth 100000 in
theorem acX5_perform (l : Launch) (G : aG) (d : Nat) (hG : a_GT G) (hd : 6 ≤ d) {Q : Int32 → aH → Prop} {h : aH} {v0 : Nat} {v1 : Int32} {v2 : Int32} {v3 : Int32} {v4 : Int32} {v5 : Int32} (hw : wX5_perform h v0 v1 v2 v3 v4 v5 Q) : AC l G d 0 0 mX5_perform [.ref v0, .int v1, .int v2, .int v3, .int v4, .int v5] h (qI Q) := by
  refine ac_of iX5_perform (Nat.le_of_ble_eq_true rfl) ?_
  show AW l G d 0 0 mX5_perform (qI Q) 0 [(0, .ref v0), (1, .int v1), (2, .int v2), (3, .int v3), (4, .int v4), (5, .int v5)] [] h
  unfold wX5_perform at hw
  refine aw_iload_n 1 dX5_perform_0 rfl rfl ?_
  by_cases zo : v1.toInt < 0 ∨ 16 < v1.toInt
  · have hw := hw.1 zo
    refine aw_tableOut (tgt := 266) dX5_perform_1 zo (by decide) ?_
    refine aw_bipush (v := 7) dX5_perform_266 (by decide) ?_
    exact aw_iret dX5_perform_268 rfl rfl ⟨_, rfl, hw⟩
  · have hw := hw.2
    have z : v1.toInt = 0 ∨ v1.toInt = 1 ∨ v1.toInt = 2 ∨ v1.toInt = 3 ∨ v1.toInt = 4 ∨ v1.toInt = 5 ∨ v1.toInt = 6 ∨ v1.toInt = 7 ∨ v1.toInt = 8 ∨ v1.toInt = 9 ∨ v1.toInt = 10 ∨ v1.toInt = 11 ∨ v1.toInt = 12 ∨ v1.toInt = 13 ∨ v1.toInt = 14 ∨ v1.toInt = 15 ∨ v1.toInt = 16 := by omega
    rcases z with z | z | z | z | z | z | z | z | z | z | z | z | z | z | z | z | z
    · have hw := hw.1 z
      refine aw_tableIn (off := 83) (tgt := 84) dX5_perform_1 (by rw [z]; decide) (by rw [z]; decide) (by rw [z]; rfl) (by decide) ?_
      refine aw_aload_n 0 dX5_perform_84 rfl rfl ?_
      refine aw_iload_n 2 dX5_perform_85 rfl rfl ?_
      refine aw_iload_n 3 dX5_perform_86 rfl rfl ?_
      refine aw_iload 4 dX5_perform_87 rfl ?_
      obtain ⟨_, h1, hw⟩ := hw
      refine aw_virtI (As := [.int v2, .int v3, .int v4]) (rest := []) dX5_perform_89 (acX5_make l G (d - 1) hG (by omega) hw) iX5_make rfl k_465 k_467 k_6 rfl h1 (by omega) (by decide) (by decide) rfl (Nat.le_of_ble_eq_true rfl) (fun r4 h3 hw => ?_)
      exact aw_iret dX5_perform_92 rfl rfl ⟨_, rfl, hw⟩
    · have hw := hw.2.1 z
      refine aw_tableIn (off := 92) (tgt := 93) dX5_perform_1 (by rw [z]; decide) (by rw [z]; decide) (by rw [z]; rfl) (by decide) ?_
      refine aw_aload_n 0 dX5_perform_93 rfl rfl ?_
      refine aw_iload_n 2 dX5_perform_94 rfl rfl ?_
      refine aw_iload_n 3 dX5_perform_95 rfl rfl ?_
      refine aw_iload 4 dX5_perform_96 rfl ?_
      obtain ⟨_, h1, hw⟩ := hw
      refine aw_virtI (As := [.int v2, .int v3, .int v4]) (rest := []) dX5_perform_98 (acX5_makeDeep l G (d - 1) hG (by omega) hw) iX5_makeDeep rfl k_486 k_488 k_7 rfl h1 (by omega) (by decide) (by decide) rfl (Nat.le_of_ble_eq_true rfl) (fun r6 h5 hw => ?_)
      exact aw_iret dX5_perform_101 rfl rfl ⟨_, rfl, hw⟩
    · have hw := hw.2.2.1 z
      refine aw_tableIn (off := 101) (tgt := 102) dX5_perform_1 (by rw [z]; decide) (by rw [z]; decide) (by rw [z]; rfl) (by decide) ?_
      refine aw_aload_n 0 dX5_perform_102 rfl rfl ?_
      refine aw_iload_n 2 dX5_perform_103 rfl rfl ?_
      refine aw_iconst (v := 5) dX5_perform_104 (by decide) ?_
      refine aw_iload_n 3 dX5_perform_105 rfl rfl ?_
      obtain ⟨_, h1, hw⟩ := hw
      refine aw_virtI (As := [.int v2, .int 5, .int v3]) (rest := []) dX5_perform_106 (acX5_make l G (d - 1) hG (by omega) hw) iX5_make rfl k_465 k_467 k_6 rfl h1 (by omega) (by decide) (by decide) rfl (Nat.le_of_ble_eq_true rfl) (fun r8 h7 hw => ?_)
      exact aw_iret dX5_perform_109 rfl rfl ⟨_, rfl, hw⟩
    · have hw := hw.2.2.2.1 z
      refine aw_tableIn (off := 109) (tgt := 110) dX5_perform_1 (by rw [z]; decide) (by rw [z]; decide) (by rw [z]; rfl) (by decide) ?_
      refine aw_aload_n 0 dX5_perform_110 rfl rfl ?_
      refine aw_iload_n 2 dX5_perform_111 rfl rfl ?_
      refine aw_iload_n 3 dX5_perform_112 rfl rfl ?_
      refine aw_if_ne (tgt := 121) dX5_perform_113 (by decide) (fun z => ?_) (fun z => ?_)
      · have hw := hw.1 z
        refine aw_bipush (v := 9) dX5_perform_121 (by decide) ?_
        refine aw_sub (lv' := [(4, .int v4)]) [4] rfl ?_
        exact abX5_perform_123 l G d hG hd _ _ _ _ _ hw
      · have hw := hw.2 z
        refine aw_bipush (v := 8) dX5_perform_116 (by decide) ?_
        refine aw_goto (tgt := 123) dX5_perform_118 (by decide) ?_
        refine aw_sub (lv' := [(4, .int v4)]) [4] rfl ?_
        exact abX5_perform_123 l G d hG hd _ _ _ _ _ hw
    · have hw := hw.2.2.2.2.1 z
      refine aw_tableIn (off := 128) (tgt := 129) dX5_perform_1 (by rw [z]; decide) (by rw [z]; decide) (by rw [z]; rfl) (by decide) ?_
      refine aw_aload_n 0 dX5_perform_129 rfl rfl ?_
      refine aw_iload_n 2 dX5_perform_130 rfl rfl ?_
      refine aw_iload_n 3 dX5_perform_131 rfl rfl ?_
      refine aw_iload 4 dX5_perform_132 rfl ?_
      obtain ⟨_, h1, hw⟩ := hw
      refine aw_virtI (As := [.int v2, .int v3, .int v4]) (rest := []) dX5_perform_134 (acX5_move l G (d - 1) hG (by omega) hw) iX5_move rfl k_519 k_521 k_9 rfl h1 (by omega) (by decide) (by decide) rfl (Nat.le_of_ble_eq_true rfl) (fun r10 h9 hw => ?_)
      exact aw_iret dX5_perform_137 rfl rfl ⟨_, rfl, hw⟩
    · have hw := hw.2.2.2.2.2.1 z
      refine aw_tableIn (off := 137) (tgt := 138) dX5_perform_1 (by rw [z]; decide) (by rw [z]; decide) (by rw [z]; rfl) (by decide) ?_
      refine aw_aload_n 0 dX5_perform_138 rfl rfl ?_
      refine aw_iload_n 2 dX5_perform_139 rfl rfl ?_
      refine aw_iload_n 3 dX5_perform_140 rfl rfl ?_
      refine aw_iload 4 dX5_perform_141 rfl ?_
      refine aw_iload 5 dX5_perform_143 rfl ?_
      obtain ⟨_, h1, hw⟩ := hw
      refine aw_virtI (As := [.int v2, .int v3, .int v4, .int v5]) (rest := []) dX5_perform_145 (acX5_get l G (d - 1) hG (by omega) hw) iX5_get rfl k_540 k_542 k_11 rfl h1 (by omega) (by decide) (by decide) rfl (Nat.le_of_ble_eq_true rfl) (fun r12 h11 hw => ?_)
      exact aw_iret dX5_perform_148 rfl rfl ⟨_, rfl, hw⟩
    · have hw := hw.2.2.2.2.2.2.1 z
      refine aw_tableIn (off := 148) (tgt := 149) dX5_perform_1 (by rw [z]; decide) (by rw [z]; decide) (by rw [z]; rfl) (by decide) ?_
      refine aw_aload_n 0 dX5_perform_149 rfl rfl ?_
      refine aw_iload_n 2 dX5_perform_150 rfl rfl ?_
      refine aw_iload_n 3 dX5_perform_151 rfl rfl ?_
      refine aw_iload 4 dX5_perform_152 rfl ?_
      refine aw_iload 5 dX5_perform_154 rfl ?_
      obtain ⟨_, h1, hw⟩ := hw
      refine aw_virtI (As := [.int v2, .int v3, .int v4, .int v5]) (rest := []) dX5_perform_156 (acX5_set l G (d - 1) hG (by omega) hw) iX5_set rfl k_553 k_555 k_13 rfl h1 (by omega) (by decide) (by decide) rfl (Nat.le_of_ble_eq_true rfl) (fun r14 h13 hw => ?_)
      exact aw_iret dX5_perform_159 rfl rfl ⟨_, rfl, hw⟩
    · have hw := hw.2.2.2.2.2.2.2.1 z
      refine aw_tableIn (off := 159) (tgt := 160) dX5_perform_1 (by rw [z]; decide) (by rw [z]; decide) (by rw [z]; rfl) (by decide) ?_
      refine aw_aload_n 0 dX5_perform_160 rfl rfl ?_
      refine aw_iload_n 2 dX5_perform_161 rfl rfl ?_
      refine aw_iload_n 3 dX5_perform_162 rfl rfl ?_
      refine aw_iload 4 dX5_perform_163 rfl ?_
      refine aw_iload 5 dX5_perform_165 rfl ?_
      obtain ⟨_, h1, hw⟩ := hw
      refine aw_virtI (As := [.int v2, .int v3, .int v4, .int v5]) (rest := []) dX5_perform_167 (acX5_take l G (d - 1) hG (by omega) hw) iX5_take rfl k_557 k_559 k_14 rfl h1 (by omega) (by decide) (by decide) rfl (Nat.le_of_ble_eq_true rfl) (fun r16 h15 hw => ?_)
      exact aw_iret dX5_perform_170 rfl rfl ⟨_, rfl, hw⟩
    · have hw := hw.2.2.2.2.2.2.2.2.1 z
      refine aw_tableIn (off := 170) (tgt := 171) dX5_perform_1 (by rw [z]; decide) (by rw [z]; decide) (by rw [z]; rfl) (by decide) ?_
      refine aw_aload_n 0 dX5_perform_171 rfl rfl ?_
      refine aw_iload_n 2 dX5_perform_172 rfl rfl ?_
      refine aw_iload_n 3 dX5_perform_173 rfl rfl ?_
      refine aw_iload 4 dX5_perform_174 rfl ?_
      refine aw_iload 5 dX5_perform_176 rfl ?_
      obtain ⟨_, h1, hw⟩ := hw
      refine aw_virtI (As := [.int v2, .int v3, .int v4, .int v5]) (rest := []) dX5_perform_178 (acX5_lay l G (d - 1) hG (by omega) hw) iX5_lay rfl k_561 k_563 k_15 rfl h1 (by omega) (by decide) (by decide) rfl (Nat.le_of_ble_eq_true rfl) (fun r18 h17 hw => ?_)
      exact aw_iret dX5_perform_181 rfl rfl ⟨_, rfl, hw⟩
    · have hw := hw.2.2.2.2.2.2.2.2.2.1 z
      refine aw_tableIn (off := 181) (tgt := 182) dX5_perform_1 (by rw [z]; decide) (by rw [z]; decide) (by rw [z]; rfl) (by decide) ?_
      refine aw_aload_n 0 dX5_perform_182 rfl rfl ?_
      refine aw_iload_n 2 dX5_perform_183 rfl rfl ?_
      refine aw_iload_n 3 dX5_perform_184 rfl rfl ?_
      refine aw_iload 4 dX5_perform_185 rfl ?_
      obtain ⟨_, h1, hw⟩ := hw
      refine aw_virtI (As := [.int v2, .int v3, .int v4]) (rest := []) dX5_perform_187 (acX5_length l G (d - 1) hG (by omega) hw) iX5_length rfl k_574 k_576 k_17 rfl h1 (by omega) (by decide) (by decide) rfl (Nat.le_of_ble_eq_true rfl) (fun r20 h19 hw => ?_)
      exact aw_iret dX5_perform_190 rfl rfl ⟨_, rfl, hw⟩
    · have hw := hw.2.2.2.2.2.2.2.2.2.2.1 z
      refine aw_tableIn (off := 190) (tgt := 191) dX5_perform_1 (by rw [z]; decide) (by rw [z]; decide) (by rw [z]; rfl) (by decide) ?_
      refine aw_aload_n 0 dX5_perform_191 rfl rfl ?_
      refine aw_iload_n 2 dX5_perform_192 rfl rfl ?_
      refine aw_iload_n 3 dX5_perform_193 rfl rfl ?_
      obtain ⟨_, h1, hw⟩ := hw
      refine aw_virtI (As := [.int v2, .int v3]) (rest := []) dX5_perform_194 (acX5_cloneRow l G (d - 1) hG (by omega) hw) iX5_cloneRow rfl k_586 k_588 k_19 rfl h1 (by omega) (by decide) (by decide) rfl (Nat.le_of_ble_eq_true rfl) (fun r22 h21 hw => ?_)
      exact aw_iret dX5_perform_197 rfl rfl ⟨_, rfl, hw⟩
    · have hw := hw.2.2.2.2.2.2.2.2.2.2.2.1 z
      refine aw_tableIn (off := 197) (tgt := 198) dX5_perform_1 (by rw [z]; decide) (by rw [z]; decide) (by rw [z]; rfl) (by decide) ?_
      refine aw_aload_n 0 dX5_perform_198 rfl rfl ?_
      refine aw_iload_n 2 dX5_perform_199 rfl rfl ?_
      refine aw_iload_n 3 dX5_perform_200 rfl rfl ?_
      obtain ⟨_, h1, hw⟩ := hw
      refine aw_virtI (As := [.int v2, .int v3]) (rest := []) dX5_perform_201 (acX5_tell l G (d - 1) hG (by omega) hw) iX5_tell rfl k_608 k_610 k_21 rfl h1 (by omega) (by decide) (by decide) rfl (Nat.le_of_ble_eq_true rfl) (fun r24 h23 hw => ?_)
      exact aw_iret dX5_perform_204 rfl rfl ⟨_, rfl, hw⟩
    · have hw := hw.2.2.2.2.2.2.2.2.2.2.2.2.1 z
      refine aw_tableIn (off := 204) (tgt := 205) dX5_perform_1 (by rw [z]; decide) (by rw [z]; decide) (by rw [z]; rfl) (by decide) ?_
      refine aw_aload_n 0 dX5_perform_205 rfl rfl ?_
      refine aw_iload_n 2 dX5_perform_206 rfl rfl ?_
      refine aw_iload_n 3 dX5_perform_207 rfl rfl ?_
      refine aw_iload 4 dX5_perform_208 rfl ?_
      refine aw_iload 5 dX5_perform_210 rfl ?_
      obtain ⟨_, h1, hw⟩ := hw
      refine aw_virtI (As := [.int v2, .int v3, .int v4, .int v5]) (rest := []) dX5_perform_212 (acX5_copy l G (d - 1) hG (by omega) hw) iX5_copy rfl k_612 k_614 k_22 rfl h1 (by omega) (by decide) (by decide) rfl (Nat.le_of_ble_eq_true rfl) (fun r26 h25 hw => ?_)
      exact aw_iret dX5_perform_215 rfl rfl ⟨_, rfl, hw⟩
    · have hw := hw.2.2.2.2.2.2.2.2.2.2.2.2.2.1 z
      refine aw_tableIn (off := 215) (tgt := 216) dX5_perform_1 (by rw [z]; decide) (by rw [z]; decide) (by rw [z]; rfl) (by decide) ?_
      refine aw_aload_n 0 dX5_perform_216 rfl rfl ?_
      obtain ⟨fs28, r27, h1, h2, hw⟩ := hw
      refine aw_getf (k := 2) dX5_perform_217 clX5 (by decide) k_156 (Or.inl rfl) h1 h2 ?_
      refine aw_iload_n 2 dX5_perform_220 rfl rfl ?_
      refine aw_iload_n 3 dX5_perform_221 rfl rfl ?_
      refine aw_i2l dX5_perform_222 ?_
      obtain ⟨_, _, h1, h2, hw⟩ := hw
      refine aw_last dX5_perform_223 h1 h2 ?_
      generalize a_up _ _ _ = h29 at hw ⊢
      refine aw_iconst (v := 0) dX5_perform_224 (by decide) ?_
      exact aw_iret dX5_perform_225 rfl rfl ⟨_, rfl, hw⟩
    · have hw := hw.2.2.2.2.2.2.2.2.2.2.2.2.2.2.1 z
      refine aw_tableIn (off := 225) (tgt := 226) dX5_perform_1 (by rw [z]; decide) (by rw [z]; decide) (by rw [z]; rfl) (by decide) ?_
      refine aw_aload_n 0 dX5_perform_226 rfl rfl ?_
      obtain ⟨fs31, r30, h1, h2, hw⟩ := hw
      refine aw_getf (k := 2) dX5_perform_227 clX5 (by decide) k_156 (Or.inl rfl) h1 h2 ?_
      refine aw_iload_n 2 dX5_perform_230 rfl rfl ?_
      refine aw_aload_n 0 dX5_perform_231 rfl rfl ?_
      obtain ⟨fs33, r32, h1, h2, hw⟩ := hw
      refine aw_getf (k := 2) dX5_perform_232 clX5 (by decide) k_156 (Or.inl rfl) h1 h2 ?_
      refine aw_iload_n 3 dX5_perform_235 rfl rfl ?_
      obtain ⟨_, _, r34, h1, h2, h3, hw⟩ := hw
      refine aw_aL dX5_perform_236 h1 h2 h3 ?_
      refine aw_aload_n 0 dX5_perform_237 rfl rfl ?_
      obtain ⟨fs36, r35, h1, h2, hw⟩ := hw
      refine aw_getf (k := 2) dX5_perform_238 clX5 (by decide) k_156 (Or.inl rfl) h1 h2 ?_
      refine aw_iload 4 dX5_perform_241 rfl ?_
      obtain ⟨_, _, r37, h1, h2, h3, hw⟩ := hw
      refine aw_aL dX5_perform_243 h1 h2 h3 ?_
      refine aw_ladd dX5_perform_244 ?_
      obtain ⟨_, _, h1, h2, hw⟩ := hw
      refine aw_last dX5_perform_245 h1 h2 ?_
      generalize a_up _ _ _ = h38 at hw ⊢
      refine aw_iconst (v := 0) dX5_perform_246 (by decide) ?_
      exact aw_iret dX5_perform_247 rfl rfl ⟨_, rfl, hw⟩
    · have hw := hw.2.2.2.2.2.2.2.2.2.2.2.2.2.2.2.1 z
      refine aw_tableIn (off := 247) (tgt := 248) dX5_perform_1 (by rw [z]; decide) (by rw [z]; decide) (by rw [z]; rfl) (by decide) ?_
      refine aw_aload_n 0 dX5_perform_248 rfl rfl ?_
      refine aw_iload_n 2 dX5_perform_249 rfl rfl ?_
      refine aw_iload_n 3 dX5_perform_250 rfl rfl ?_
      refine aw_iload 4 dX5_perform_251 rfl ?_
      obtain ⟨_, h1, hw⟩ := hw
      refine aw_virtI (As := [.int v2, .int v3, .int v4]) (rest := []) dX5_perform_253 (acX5_divide l G (d - 1) hG (by omega) hw) iX5_divide rfl k_622 k_624 k_23 rfl h1 (by omega) (by decide) (by decide) rfl (Nat.le_of_ble_eq_true rfl) (fun r40 h39 hw => ?_)
      exact aw_iret dX5_perform_256 rfl rfl ⟨_, rfl, hw⟩
    · have hw := hw.2.2.2.2.2.2.2.2.2.2.2.2.2.2.2.2 z
      refine aw_tableIn (off := 256) (tgt := 257) dX5_perform_1 (by rw [z]; decide) (by rw [z]; decide) (by rw [z]; rfl) (by decide) ?_
      refine aw_aload_n 0 dX5_perform_257 rfl rfl ?_
      refine aw_iload_n 2 dX5_perform_258 rfl rfl ?_
      refine aw_iload_n 3 dX5_perform_259 rfl rfl ?_
      refine aw_iload 4 dX5_perform_260 rfl ?_
      obtain ⟨_, h1, hw⟩ := hw
      refine aw_virtI (As := [.int v2, .int v3, .int v4]) (rest := []) dX5_perform_262 (acX5_rest l G (d - 1) hG (by omega) hw) iX5_rest rfl k_626 k_628 k_24 rfl h1 (by omega) (by decide) (by decide) rfl (Nat.le_of_ble_eq_true rfl) (fun r42 h41 hw => ?_)
      exact aw_iret dX5_perform_265 rfl rfl ⟨_, rfl, hw⟩
-- X0_done
def wbX0_done_57 (v2 : Int32) (h : aH) (Q : Int32 → aH → Prop) : Prop :=
  Q v2 h
def wX0_done (h : aH) (v0 : Nat) (v1 : Nat) (Q : Int32 → aH → Prop) : Prop :=
  rI h v1 4 3 (fun r1 => wF h v1 4 3 (.int (r1 + 1)) (fun h3 => rI h3 v0 0 5 (fun r5 => rI h3 v0 0 6 (fun r7 => rI h3 v0 0 7 (fun r9 => rI h3 v0 0 8 (fun r11 => rI h3 v0 0 9 (fun r13 => isO h3 v1 4 (wX5_perform h3 v1 r5 r7 r9 r11 r13 (fun r16 h15 => (r16 = 0 → wbX0_done_57 r16 h15 Q) ∧ (¬ r16 = 0 → rI h15 v1 4 4 (fun r17 => wF h15 v1 4 4 (.int (r17 + 1)) (fun h19 => rI h19 v0 0 0 (fun r21 => wF h19 v1 4 8 (.int r21) (fun h23 => wbX0_done_57 r16 h23 Q))))))))))))))
set_option maxRecDepth 100000 in
theorem abX0_done_57 (l : Launch) (G : aG) (d : Nat) (hG : a_GT G) (hd : 7 ≤ d) {Q : Int32 → aH → Prop} (v2 : Int32) (h : aH) (hw : wbX0_done_57 v2 h Q) : AW l G d 0 0 mX0_done (qI Q) 57 [(2, .int v2)] [] h := by
  unfold wbX0_done_57 at hw
  refine aw_iload_n 0 dX0_done_57 rfl rfl ?_
  exact aw_iret dX0_done_58 rfl rfl ⟨_, rfl, hw⟩
set_option maxRecDepth 100000 in
theorem acX0_done (l : Launch) (G : aG) (d : Nat) (hG : a_GT G) (hd : 7 ≤ d) {Q : Int32 → aH → Prop} {h : aH} {v0 : Nat} {v1 : Nat} (hw : wX0_done h v0 v1 Q) : AC l G d 0 0 mX0_done [.ref v0, .ref v1] h (qI Q) := by
  refine ac_of iX0_done (Nat.le_of_ble_eq_true rfl) ?_
  show AW l G d 0 0 mX0_done (qI Q) 0 [(0, .ref v0), (1, .ref v1)] [] h
  unfold wX0_done at hw
  refine aw_aload_n 1 dX0_done_0 rfl rfl ?_
  refine aw_dup dX0_done_1 rfl ?_
  obtain ⟨fs2, r1, h1, h2, hw⟩ := hw
  refine aw_getf (k := 3) dX0_done_2 clX5 (by decide) k_159 (Or.inl rfl) h1 h2 ?_
  refine aw_iconst (v := 1) dX0_done_5 (by decide) ?_
  refine aw_iadd dX0_done_6 ?_
  obtain ⟨fs4, h1, h2, hw⟩ := hw
  refine aw_putf (k := 3) dX0_done_7 clX5 (by decide) k_159 (Or.inl rfl) rfl rfl rfl h1 h2 ?_
  generalize a_up _ _ _ = h3 at hw ⊢
  refine aw_aload_n 1 dX0_done_10 rfl rfl ?_
  refine aw_aload_n 0 dX0_done_11 rfl rfl ?_
  obtain ⟨fs6, r5, h1, h2, hw⟩ := hw
  refine aw_getf (k := 5) dX0_done_12 clX0 (by decide) k_265 (Or.inl rfl) h1 h2 ?_
  refine aw_aload_n 0 dX0_done_15 rfl rfl ?_
  obtain ⟨fs8, r7, h1, h2, hw⟩ := hw
  refine aw_getf (k := 6) dX0_done_16 clX0 (by decide) k_266 (Or.inl rfl) h1 h2 ?_
  refine aw_aload_n 0 dX0_done_19 rfl rfl ?_
  obtain ⟨fs10, r9, h1, h2, hw⟩ := hw
  refine aw_getf (k := 7) dX0_done_20 clX0 (by decide) k_267 (Or.inl rfl) h1 h2 ?_
  refine aw_aload_n 0 dX0_done_23 rfl rfl ?_
  obtain ⟨fs12, r11, h1, h2, hw⟩ := hw
  refine aw_getf (k := 8) dX0_done_24 clX0 (by decide) k_268 (Or.inl rfl) h1 h2 ?_
  refine aw_aload_n 0 dX0_done_27 rfl rfl ?_
  obtain ⟨fs14, r13, h1, h2, hw⟩ := hw
  refine aw_getf (k := 9) dX0_done_28 clX0 (by decide) k_269 (Or.inl rfl) h1 h2 ?_
  obtain ⟨_, h1, hw⟩ := hw
  refine aw_virtI (As := [.int r5, .int r7, .int r9, .int r11, .int r13]) (rest := []) dX0_done_31 (acX5_perform l G (d - 1) hG (by omega) hw) iX5_perform rfl k_461 k_462 k_463 rfl h1 (by omega) (by decide) (by decide) rfl (Nat.le_of_ble_eq_true rfl) (fun r16 h15 hw => ?_)
  refine aw_istore_n (lv' := [(2, .int r16), (0, .ref v0), (1, .ref v1)]) dX0_done_34 rfl (by decide) rfl ?_
  refine aw_iload_n 0 dX0_done_35 rfl rfl ?_
  refine aw_if_eq (tgt := 57) dX0_done_36 (by decide) (fun z => ?_) (fun z => ?_)
  · have hw := hw.1 z
    refine aw_sub (lv' := [(2, .int r16)]) [0] rfl ?_
    exact abX0_done_57 l G d hG hd _ _ hw
  · have hw := hw.2 z
    refine aw_aload_n 2 dX0_done_39 rfl rfl ?_
    refine aw_dup dX0_done_40 rfl ?_
    obtain ⟨fs18, r17, h1, h2, hw⟩ := hw
    refine aw_getf (k := 4) dX0_done_41 clX5 (by decide) k_162 (Or.inl rfl) h1 h2 ?_
    refine aw_iconst (v := 1) dX0_done_44 (by decide) ?_
    refine aw_iadd dX0_done_45 ?_
    obtain ⟨fs20, h1, h2, hw⟩ := hw
    refine aw_putf (k := 4) dX0_done_46 clX5 (by decide) k_162 (Or.inl rfl) rfl rfl rfl h1 h2 ?_
    generalize a_up _ _ _ = h19 at hw ⊢
    refine aw_aload_n 2 dX0_done_49 rfl rfl ?_
    refine aw_aload_n 1 dX0_done_50 rfl rfl ?_
    obtain ⟨fs22, r21, h1, h2, hw⟩ := hw
    refine aw_getf (k := 0) dX0_done_51 clX0 (by decide) k_272 (Or.inr k_273) h1 h2 ?_
    obtain ⟨fs24, h1, h2, hw⟩ := hw
    refine aw_putf (k := 8) dX0_done_54 clX5 (by decide) k_173 (Or.inl rfl) rfl rfl rfl h1 h2 ?_
    generalize a_up _ _ _ = h23 at hw ⊢
    refine aw_sub (lv' := [(2, .int r16)]) [0] rfl ?_
    exact abX0_done_57 l G d hG hd _ _ hw
-- X7_join
def wbX7_join_2_i (K2 : Nat → Nat → Int32 →  aH → Prop) (v0 : Nat) (v1 : Nat) (v2 : Int32) (h : aH) (Q : aH → Prop) : Prop :=
  (12 ≤ v2 → Q h) ∧ (¬ 12 ≤ v2 → rR h v0 5 0 (fun r1 => aI h r1 v2 (fun r3 => rR h v1 5 0 (fun r4 => aI h r4 v2 (fun r6 => sI h r1 v2 ((r3 ||| r6)) (fun h7 => K2 v0 v1 ((v2 + 1)) h7))))))
def wbX7_join_2 (n : Nat) (v0 : Nat) (v1 : Nat) (v2 : Int32) (h : aH) (Q : aH → Prop) : Prop := match n with
  | 0 => False
  | n + 1 => wbX7_join_2_i (fun v0 v1 v2 h => wbX7_join_2 n v0 v1 v2 h Q) v0 v1 v2 h Q
def wX7_join (h : aH) (v0 : Nat) (v1 : Nat) (Q : aH → Prop) : Prop :=
  ∃ n, wbX7_join_2 n v0 v1 0 h Q
set_option maxRecDepth 100000 in
theorem abX7_join_2_i (l : Launch) (G : aG) (d : Nat) (hG : a_GT G) (hd : 1 ≤ d) {Q : aH → Prop} {K2 : Nat → Nat → Int32 →  aH → Prop} (kk2 : ∀ (v0 : Nat) (v1 : Nat) (v2 : Int32) (h : aH), K2 v0 v1 v2 h → AW l G d 0 0 mX7_join (qV Q) 2 [(0, .ref v0), (1, .ref v1), (2, .int v2)] [] h) (v0 : Nat) (v1 : Nat) (v2 : Int32) (h : aH) (hw : wbX7_join_2_i K2 v0 v1 v2 h Q) : AW l G d 0 0 mX7_join (qV Q) 2 [(0, .ref v0), (1, .ref v1), (2, .int v2)] [] h := by
  unfold wbX7_join_2_i at hw
  refine aw_iload_n 2 dX7_join_2 rfl rfl ?_
  refine aw_bipush (v := 12) dX7_join_3 (by decide) ?_
  refine aw_icmp_ge (tgt := 29) dX7_join_5 (by decide) (fun z => ?_) (fun z => ?_)
  · have hw := hw.1 z
    exact aw_vret dX7_join_29 rfl ⟨rfl, hw⟩
  · have hw := hw.2 z
    refine aw_aload_n 0 dX7_join_8 rfl rfl ?_
    obtain ⟨fs2, r1, h1, h2, hw⟩ := hw
    refine aw_getf (k := 0) dX7_join_9 clX7 (by decide) k_202 (Or.inl rfl) h1 h2 ?_
    refine aw_iload_n 2 dX7_join_12 rfl rfl ?_
    refine aw_dup2 dX7_join_13 rfl rfl ?_
    obtain ⟨_, _, r3, h1, h2, h3, hw⟩ := hw
    refine aw_aI dX7_join_14 h1 h2 h3 ?_
    refine aw_aload_n 1 dX7_join_15 rfl rfl ?_
    obtain ⟨fs5, r4, h1, h2, hw⟩ := hw
    refine aw_getf (k := 0) dX7_join_16 clX7 (by decide) k_202 (Or.inl rfl) h1 h2 ?_
    refine aw_iload_n 2 dX7_join_19 rfl rfl ?_
    obtain ⟨_, _, r6, h1, h2, h3, hw⟩ := hw
    refine aw_aI dX7_join_20 h1 h2 h3 ?_
    refine aw_ior dX7_join_21 ?_
    obtain ⟨_, _, h1, h2, hw⟩ := hw
    refine aw_iast dX7_join_22 h1 h2 ?_
    generalize a_up _ _ _ = h7 at hw ⊢
    refine aw_iinc (v := (v2 + 1)) (lv' := [(2, .int (v2 + 1)), (0, .ref v0), (1, .ref v1)]) 2 dX7_join_23 rfl rfl (by decide) rfl ?_
    refine aw_goto (tgt := 2) dX7_join_26 (by decide) ?_
    refine aw_sub (lv' := [(0, .ref v0), (1, .ref v1), (2, .int (v2 + 1))]) [1, 2, 0] rfl ?_
    exact kk2 _ _ _ _ hw
set_option maxRecDepth 100000 in
theorem abX7_join_2 (l : Launch) (G : aG) (d : Nat) (hG : a_GT G) (hd : 1 ≤ d) {Q : aH → Prop} (n : Nat) : ∀  (v0 : Nat) (v1 : Nat) (v2 : Int32) (h : aH), wbX7_join_2 n v0 v1 v2 h Q → AW l G d 0 0 mX7_join (qV Q) 2 [(0, .ref v0), (1, .ref v1), (2, .int v2)] [] h := by
  induction n with
  | zero => exact fun _ _ _ _ hw => hw.elim
  | succ n ih => exact fun _ _ _ _ hw => abX7_join_2_i l G d hG hd ih _ _ _ _ hw
set_option maxRecDepth 100000 in
theorem acX7_join (l : Launch) (G : aG) (d : Nat) (hG : a_GT G) (hd : 1 ≤ d) {Q : aH → Prop} {h : aH} {v0 : Nat} {v1 : Nat} (hw : wX7_join h v0 v1 Q) : AC l G d 0 0 mX7_join [.ref v0, .ref v1] h (qV Q) := by
  refine ac_of iX7_join (Nat.le_of_ble_eq_true rfl) ?_
  show AW l G d 0 0 mX7_join (qV Q) 0 [(0, .ref v0), (1, .ref v1)] [] h
  unfold wX7_join at hw
  refine aw_iconst (v := 0) dX7_join_0 (by decide) ?_
  refine aw_istore_n (lv' := [(2, .int 0), (0, .ref v0), (1, .ref v1)]) dX7_join_1 rfl (by decide) rfl ?_
  obtain ⟨n, hw⟩ := hw
  refine aw_sub (lv' := [(0, .ref v0), (1, .ref v1), (2, .int 0)]) [1, 2, 0] rfl ?_
  exact abX7_join_2 l G d hG hd n _ _ _ _ hw
-- X9_by
def wX9_by (h : aH) (v0 : Nat) (v1 : Int32) (Q : Option Nat → aH → Prop) : Prop :=
  rR h v0 7 0 (fun r1 => aR h 4 r1 v1 (fun r3 => Q (some r3) h))
set_option maxRecDepth 100000 in
theorem acX9_by (l : Launch) (G : aG) (d : Nat) (hG : a_GT G) (hd : 1 ≤ d) {Q : Option Nat → aH → Prop} {h : aH} {v0 : Nat} {v1 : Int32} (hw : wX9_by h v0 v1 Q) : AC l G d 0 0 mX9_by [.ref v0, .int v1] h (qQ Q) := by
  refine ac_of iX9_by (Nat.le_of_ble_eq_true rfl) ?_
  show AW l G d 0 0 mX9_by (qQ Q) 0 [(0, .ref v0), (1, .int v1)] [] h
  unfold wX9_by at hw
  refine aw_aload_n 0 dX9_by_0 rfl rfl ?_
  obtain ⟨fs2, r1, h1, h2, hw⟩ := hw
  refine aw_getf (k := 0) dX9_by_1 clX9 (by decide) k_259 (Or.inl rfl) h1 h2 ?_
  refine aw_iload_n 1 dX9_by_4 rfl rfl ?_
  obtain ⟨_, _, r3, h1, h2, h3, hw⟩ := hw
  refine aw_aR dX9_by_5 (by decide) h1 h2 h3 ?_
  exact aw_aret (r := (some r3)) dX9_by_6 rfl ⟨_, rfl, hw⟩
-- X7_put
def wX7_put (h : aH) (v0 : Nat) (v1 : Int32) (v2 : Int32) (Q : aH → Prop) : Prop :=
  rR h v0 5 0 (fun r1 => sI h r1 v1 v2 (fun h3 => Q h3))
set_option maxRecDepth 100000 in
theorem acX7_put (l : Launch) (G : aG) (d : Nat) (hG : a_GT G) (hd : 1 ≤ d) {Q : aH → Prop} {h : aH} {v0 : Nat} {v1 : Int32} {v2 : Int32} (hw : wX7_put h v0 v1 v2 Q) : AC l G d 0 0 mX7_put [.ref v0, .int v1, .int v2] h (qV Q) := by
  refine ac_of iX7_put (Nat.le_of_ble_eq_true rfl) ?_
  show AW l G d 0 0 mX7_put (qV Q) 0 [(0, .ref v0), (1, .int v1), (2, .int v2)] [] h
  unfold wX7_put at hw
  refine aw_aload_n 0 dX7_put_0 rfl rfl ?_
  obtain ⟨fs2, r1, h1, h2, hw⟩ := hw
  refine aw_getf (k := 0) dX7_put_1 clX7 (by decide) k_202 (Or.inl rfl) h1 h2 ?_
  refine aw_iload_n 1 dX7_put_4 rfl rfl ?_
  refine aw_iload_n 2 dX7_put_5 rfl rfl ?_
  obtain ⟨_, _, h1, h2, hw⟩ := hw
  refine aw_iast dX7_put_6 h1 h2 ?_
  generalize a_up _ _ _ = h3 at hw ⊢
  exact aw_vret dX7_put_7 rfl ⟨rfl, hw⟩
-- X7_isThere
def wbX7_isThere_14 (s0 : Int32) (h : aH) (Q : Int32 → aH → Prop) : Prop :=
  oB s0 ∧ Q s0 h
def wX7_isThere (h : aH) (v0 : Nat) (Q : Int32 → aH → Prop) : Prop :=
  rR h v0 5 0 (fun r1 => aI h r1 0 (fun r3 => (r3 = 0 → wbX7_isThere_14 0 h Q) ∧ (¬ r3 = 0 → wbX7_isThere_14 1 h Q)))
set_option maxRecDepth 100000 in
theorem abX7_isThere_14 (l : Launch) (G : aG) (d : Nat) (hG : a_GT G) (hd : 1 ≤ d) {Q : Int32 → aH → Prop} (s0 : Int32) (h : aH) (hw : wbX7_isThere_14 s0 h Q) : AW l G d 0 0 mX7_isThere (qI Q) 14 [] [.int s0] h := by
  unfold wbX7_isThere_14 at hw
  exact aw_iret dX7_isThere_14 rfl (a_nB hw.1) ⟨_, rfl, hw.2⟩
set_option maxRecDepth 100000 in
theorem acX7_isThere (l : Launch) (G : aG) (d : Nat) (hG : a_GT G) (hd : 1 ≤ d) {Q : Int32 → aH → Prop} {h : aH} {v0 : Nat} (hw : wX7_isThere h v0 Q) : AC l G d 0 0 mX7_isThere [.ref v0] h (qI Q) := by
  refine ac_of iX7_isThere (Nat.le_of_ble_eq_true rfl) ?_
  show AW l G d 0 0 mX7_isThere (qI Q) 0 [(0, .ref v0)] [] h
  unfold wX7_isThere at hw
  refine aw_aload_n 0 dX7_isThere_0 rfl rfl ?_
  obtain ⟨fs2, r1, h1, h2, hw⟩ := hw
  refine aw_getf (k := 0) dX7_isThere_1 clX7 (by decide) k_202 (Or.inl rfl) h1 h2 ?_
  refine aw_iconst (v := 0) dX7_isThere_4 (by decide) ?_
  obtain ⟨_, _, r3, h1, h2, h3, hw⟩ := hw
  refine aw_aI dX7_isThere_5 h1 h2 h3 ?_
  refine aw_if_eq (tgt := 13) dX7_isThere_6 (by decide) (fun z => ?_) (fun z => ?_)
  · have hw := hw.1 z
    refine aw_iconst (v := 0) dX7_isThere_13 (by decide) ?_
    refine aw_sub (lv' := []) [] rfl ?_
    exact abX7_isThere_14 l G d hG hd _ _ hw
  · have hw := hw.2 z
    refine aw_iconst (v := 1) dX7_isThere_9 (by decide) ?_
    refine aw_goto (tgt := 14) dX7_isThere_10 (by decide) ?_
    refine aw_sub (lv' := []) [] rfl ?_
    exact abX7_isThere_14 l G d hG hd _ _ hw
-- X0_makeAnew
def wbX0_makeAnew_22 (h : aH) (Q : aH → Prop) : Prop :=
  Q h
def wX0_makeAnew (h : aH) (v0 : Nat) (v1 : Int32) (Q : aH → Prop) : Prop :=
  rR h v0 0 10 (fun r1 => isO h r1 5 (wX7_isThere h r1 (fun r4 h3 => (r4 = 0 → wbX0_makeAnew_22 h3 Q) ∧ (¬ r4 = 0 → rR h3 v0 0 10 (fun r5 => rI h3 v0 0 6 (fun r7 => isO h3 r5 5 (wX7_put h3 r5 r7 v1 (fun h9 => wbX0_makeAnew_22 h9 Q))))))))
set_option maxRecDepth 100000 in
theorem abX0_makeAnew_22 (l : Launch) (G : aG) (d : Nat) (hG : a_GT G) (hd : 2 ≤ d) {Q : aH → Prop} (h : aH) (hw : wbX0_makeAnew_22  h Q) : AW l G d 0 0 mX0_makeAnew (qV Q) 22 [] [] h := by
  unfold wbX0_makeAnew_22 at hw
  exact aw_vret dX0_makeAnew_22 rfl ⟨rfl, hw⟩
set_option maxRecDepth 100000 in
theorem acX0_makeAnew (l : Launch) (G : aG) (d : Nat) (hG : a_GT G) (hd : 2 ≤ d) {Q : aH → Prop} {h : aH} {v0 : Nat} {v1 : Int32} (hw : wX0_makeAnew h v0 v1 Q) : AC l G d 0 0 mX0_makeAnew [.ref v0, .int v1] h (qV Q) := by
  refine ac_of iX0_makeAnew (Nat.le_of_ble_eq_true rfl) ?_
  show AW l G d 0 0 mX0_makeAnew (qV Q) 0 [(0, .ref v0), (1, .int v1)] [] h
  unfold wX0_makeAnew at hw
  refine aw_aload_n 0 dX0_makeAnew_0 rfl rfl ?_
  obtain ⟨fs2, r1, h1, h2, hw⟩ := hw
  refine aw_getf (k := 10) dX0_makeAnew_1 clX0 (by decide) k_270 (Or.inl rfl) h1 h2 ?_
  obtain ⟨_, h1, hw⟩ := hw
  refine aw_virtI (As := []) (rest := []) dX0_makeAnew_4 (acX7_isThere l G (d - 1) hG (by omega) hw) iX7_isThere rfl k_791 k_751 k_752 rfl h1 (by omega) (by decide) (by decide) rfl (Nat.le_of_ble_eq_true rfl) (fun r4 h3 hw => ?_)
  refine aw_if_eq (tgt := 22) dX0_makeAnew_7 (by decide) (fun z => ?_) (fun z => ?_)
  · have hw := hw.1 z
    refine aw_sub (lv' := []) [] rfl ?_
    exact abX0_makeAnew_22 l G d hG hd _ hw
  · have hw := hw.2 z
    refine aw_aload_n 0 dX0_makeAnew_10 rfl rfl ?_
    obtain ⟨fs6, r5, h1, h2, hw⟩ := hw
    refine aw_getf (k := 10) dX0_makeAnew_11 clX0 (by decide) k_270 (Or.inl rfl) h1 h2 ?_
    refine aw_aload_n 0 dX0_makeAnew_14 rfl rfl ?_
    obtain ⟨fs8, r7, h1, h2, hw⟩ := hw
    refine aw_getf (k := 6) dX0_makeAnew_15 clX0 (by decide) k_266 (Or.inl rfl) h1 h2 ?_
    refine aw_iload_n 1 dX0_makeAnew_18 rfl rfl ?_
    obtain ⟨_, h1, hw⟩ := hw
    refine aw_virtV (As := [.int r7, .int v1]) (rest := []) dX0_makeAnew_19 (acX7_put l G (d - 1) hG (by omega) hw) iX7_put rfl k_792 k_207 k_208 rfl h1 (by omega) (by decide) (by decide) rfl (Nat.le_of_ble_eq_true rfl) (fun h9 hw => ?_)
    refine aw_sub (lv' := []) [] rfl ?_
    exact abX0_makeAnew_22 l G d hG hd _ hw
-- X0_mayFail
def wX0_mayFail (h : aH) (v0 : Nat) (v1 : Int32) (Q : aH → Prop) : Prop :=
  rR h v0 0 3 (fun r1 => isO h r1 7 (wX9_by h r1 v1 (fun r4 h3 => ∃ r5, r4 = some r5 ∧ rR h3 v0 0 10 (fun r6 => isO h3 r5 5 (wX7_join h3 r5 r6 (fun h8 => Q h8))))))
set_option maxRecDepth 100000 in
theorem acX0_mayFail (l : Launch) (G : aG) (d : Nat) (hG : a_GT G) (hd : 2 ≤ d) {Q : aH → Prop} {h : aH} {v0 : Nat} {v1 : Int32} (hw : wX0_mayFail h v0 v1 Q) : AC l G d 0 0 mX0_mayFail [.ref v0, .int v1] h (qV Q) := by
  refine ac_of iX0_mayFail (Nat.le_of_ble_eq_true rfl) ?_
  show AW l G d 0 0 mX0_mayFail (qV Q) 0 [(0, .ref v0), (1, .int v1)] [] h
  unfold wX0_mayFail at hw
  refine aw_aload_n 0 dX0_mayFail_0 rfl rfl ?_
  obtain ⟨fs2, r1, h1, h2, hw⟩ := hw
  refine aw_getf (k := 3) dX0_mayFail_1 clX0 (by decide) k_288 (Or.inr k_289) h1 h2 ?_
  refine aw_iload_n 1 dX0_mayFail_4 rfl rfl ?_
  obtain ⟨_, h1, hw⟩ := hw
  refine aw_virtQ (As := [.int v1]) (rest := []) dX0_mayFail_5 (acX9_by l G (d - 1) hG (by omega) hw) iX9_by rfl k_781 k_782 k_783 rfl h1 (by omega) (by decide) (by decide) rfl (Nat.le_of_ble_eq_true rfl) (fun r4 h3 hw => ?_)
  obtain ⟨r5, rfl, hw⟩ := hw
  refine aw_aload_n 0 dX0_mayFail_8 rfl rfl ?_
  obtain ⟨fs7, r6, h1, h2, hw⟩ := hw
  refine aw_getf (k := 10) dX0_mayFail_9 clX0 (by decide) k_270 (Or.inl rfl) h1 h2 ?_
  obtain ⟨_, h1, hw⟩ := hw
  refine aw_virtV (As := [.ref r6]) (rest := []) dX0_mayFail_12 (acX7_join l G (d - 1) hG (by omega) hw) iX7_join rfl k_785 k_743 k_744 rfl h1 (by omega) (by decide) (by decide) rfl (Nat.le_of_ble_eq_true rfl) (fun h8 hw => ?_)
  exact aw_vret dX0_mayFail_15 rfl ⟨rfl, hw⟩
-- J7_fill_53178
def wbJ7_fill_53178_5_i (K5 : Nat → Int32 → Int32 → Int32 →  aH → Prop) (v0 : Nat) (v1 : Int32) (v2 : Int32) (v3 : Int32) (h : aH) (Q : aH → Prop) : Prop :=
  (v3 ≤ v2 → Q h) ∧ (¬ v3 ≤ v2 → sI h v0 v2 v1 (fun h1 => K5 v0 v1 ((v2 + 1)) v3 h1))
def wbJ7_fill_53178_5 (n : Nat) (v0 : Nat) (v1 : Int32) (v2 : Int32) (v3 : Int32) (h : aH) (Q : aH → Prop) : Prop := match n with
  | 0 => False
  | n + 1 => wbJ7_fill_53178_5_i (fun v0 v1 v2 v3 h => wbJ7_fill_53178_5 n v0 v1 v2 v3 h Q) v0 v1 v2 v3 h Q
def wJ7_fill_53178 (h : aH) (v0 : Nat) (v1 : Int32) (Q : aH → Prop) : Prop :=
  lnA h v0 (fun r2 => ∃ n, wbJ7_fill_53178_5 n v0 v1 0 r2 h Q)
set_option maxRecDepth 100000 in
theorem abJ7_fill_53178_5_i (l : Launch) (G : aG) (d : Nat) (hG : a_GT G) (hd : 1 ≤ d) {Q : aH → Prop} {K5 : Nat → Int32 → Int32 → Int32 →  aH → Prop} (kk5 : ∀ (v0 : Nat) (v1 : Int32) (v2 : Int32) (v3 : Int32) (h : aH), K5 v0 v1 v2 v3 h → AW l G d 0 0 mJ7_fill_53178 (qV Q) 5 [(0, .ref v0), (1, .int v1), (2, .int v2), (3, .int v3)] [] h) (v0 : Nat) (v1 : Int32) (v2 : Int32) (v3 : Int32) (h : aH) (hw : wbJ7_fill_53178_5_i K5 v0 v1 v2 v3 h Q) : AW l G d 0 0 mJ7_fill_53178 (qV Q) 5 [(0, .ref v0), (1, .int v1), (2, .int v2), (3, .int v3)] [] h := by
  unfold wbJ7_fill_53178_5_i at hw
  refine aw_iload_n 2 dJ7_fill_53178_5 rfl rfl ?_
  refine aw_iload_n 3 dJ7_fill_53178_6 rfl rfl ?_
  refine aw_icmp_ge (tgt := 20) dJ7_fill_53178_7 (by decide) (fun z => ?_) (fun z => ?_)
  · have hw := hw.1 z
    exact aw_vret dJ7_fill_53178_20 rfl ⟨rfl, hw⟩
  · have hw := hw.2 z
    refine aw_aload_n 0 dJ7_fill_53178_10 rfl rfl ?_
    refine aw_iload_n 2 dJ7_fill_53178_11 rfl rfl ?_
    refine aw_iload_n 1 dJ7_fill_53178_12 rfl rfl ?_
    obtain ⟨_, _, h1, h2, hw⟩ := hw
    refine aw_iast dJ7_fill_53178_13 h1 h2 ?_
    generalize a_up _ _ _ = h1 at hw ⊢
    refine aw_iinc (v := (v2 + 1)) (lv' := [(2, .int (v2 + 1)), (0, .ref v0), (1, .int v1), (3, .int v3)]) 2 dJ7_fill_53178_14 rfl rfl (by decide) rfl ?_
    refine aw_goto (tgt := 5) dJ7_fill_53178_17 (by decide) ?_
    refine aw_sub (lv' := [(0, .ref v0), (1, .int v1), (2, .int (v2 + 1)), (3, .int v3)]) [1, 2, 0, 3] rfl ?_
    exact kk5 _ _ _ _ _ hw
set_option maxRecDepth 100000 in
theorem abJ7_fill_53178_5 (l : Launch) (G : aG) (d : Nat) (hG : a_GT G) (hd : 1 ≤ d) {Q : aH → Prop} (n : Nat) : ∀  (v0 : Nat) (v1 : Int32) (v2 : Int32) (v3 : Int32) (h : aH), wbJ7_fill_53178_5 n v0 v1 v2 v3 h Q → AW l G d 0 0 mJ7_fill_53178 (qV Q) 5 [(0, .ref v0), (1, .int v1), (2, .int v2), (3, .int v3)] [] h := by
  induction n with
  | zero => exact fun _ _ _ _ _ hw => hw.elim
  | succ n ih => exact fun _ _ _ _ _ hw => abJ7_fill_53178_5_i l G d hG hd ih _ _ _ _ _ hw
set_option maxRecDepth 100000 in
theorem acJ7_fill_53178 (l : Launch) (G : aG) (d : Nat) (hG : a_GT G) (hd : 1 ≤ d) {Q : aH → Prop} {h : aH} {v0 : Nat} {v1 : Int32} (hw : wJ7_fill_53178 h v0 v1 Q) : AC l G d 0 0 mJ7_fill_53178 [.ref v0, .int v1] h (qV Q) := by
  refine ac_of iJ7_fill_53178 (Nat.le_of_ble_eq_true rfl) ?_
  show AW l G d 0 0 mJ7_fill_53178 (qV Q) 0 [(0, .ref v0), (1, .int v1)] [] h
  unfold wJ7_fill_53178 at hw
  refine aw_iconst (v := 0) dJ7_fill_53178_0 (by decide) ?_
  refine aw_istore_n (lv' := [(2, .int 0), (0, .ref v0), (1, .int v1)]) dJ7_fill_53178_1 rfl (by decide) rfl ?_
  refine aw_aload_n 1 dJ7_fill_53178_2 rfl rfl ?_
  obtain ⟨_, x_, h1, h2, hw⟩ := hw
  refine aw_alen dJ7_fill_53178_3 h1 h2 ?_
  generalize Int32.ofNat x_.1 = r2 at hw ⊢
  refine aw_istore_n (lv' := [(3, .int r2), (2, .int 0), (0, .ref v0), (1, .int v1)]) dJ7_fill_53178_4 rfl (by decide) rfl ?_
  obtain ⟨n, hw⟩ := hw
  refine aw_sub (lv' := [(0, .ref v0), (1, .int v1), (2, .int 0), (3, .int r2)]) [2, 3, 1, 0] rfl ?_
  exact abJ7_fill_53178_5 l G d hG hd n _ _ _ _ _ hw
-- X7_erase
def wX7_erase (h : aH) (v0 : Nat) (Q : aH → Prop) : Prop :=
  rR h v0 5 0 (fun r1 => wJ7_fill_53178 h r1 0 (fun h3 => Q h3))
set_option maxRecDepth 100000 in
theorem acX7_erase (l : Launch) (G : aG) (d : Nat) (hG : a_GT G) (hd : 2 ≤ d) {Q : aH → Prop} {h : aH} {v0 : Nat} (hw : wX7_erase h v0 Q) : AC l G d 0 0 mX7_erase [.ref v0] h (qV Q) := by
  refine ac_of iX7_erase (Nat.le_of_ble_eq_true rfl) ?_
  show AW l G d 0 0 mX7_erase (qV Q) 0 [(0, .ref v0)] [] h
  unfold wX7_erase at hw
  refine aw_aload_n 0 dX7_erase_0 rfl rfl ?_
  obtain ⟨fs2, r1, h1, h2, hw⟩ := hw
  refine aw_getf (k := 0) dX7_erase_1 clX7 (by decide) k_202 (Or.inl rfl) h1 h2 ?_
  refine aw_iconst (v := 0) dX7_erase_4 (by decide) ?_
  refine aw_staticV (As := [.ref r1, .int 0]) (rest := []) dX7_erase_5 (acJ7_fill_53178 l G (d - 1) hG (by omega) hw) iJ7_fill_53178 rfl k_733 k_660 (by omega) (by decide) (by decide) rfl (Nat.le_of_ble_eq_true rfl) (fun h3 hw => ?_)
  exact aw_vret dX7_erase_8 rfl ⟨rfl, hw⟩
-- X0_mustFail
def wX0_mustFail (h : aH) (v0 : Nat) (v1 : Int32) (Q : aH → Prop) : Prop :=
  isO h v0 0 (wX0_mayFail h v0 v1 (fun h1 => rR h1 v0 0 10 (fun r2 => isO h1 r2 5 (wX7_erase h1 r2 (fun h4 => Q h4)))))
set_option maxRecDepth 100000 in
theorem acX0_mustFail (l : Launch) (G : aG) (d : Nat) (hG : a_GT G) (hd : 3 ≤ d) {Q : aH → Prop} {h : aH} {v0 : Nat} {v1 : Int32} (hw : wX0_mustFail h v0 v1 Q) : AC l G d 0 0 mX0_mustFail [.ref v0, .int v1] h (qV Q) := by
  refine ac_of iX0_mustFail (Nat.le_of_ble_eq_true rfl) ?_
  show AW l G d 0 0 mX0_mustFail (qV Q) 0 [(0, .ref v0), (1, .int v1)] [] h
  unfold wX0_mustFail at hw
  refine aw_aload_n 0 dX0_mustFail_0 rfl rfl ?_
  refine aw_iload_n 1 dX0_mustFail_1 rfl rfl ?_
  obtain ⟨_, h1, hw⟩ := hw
  refine aw_virtV (As := [.int v1]) (rest := []) dX0_mustFail_2 (acX0_mayFail l G (d - 1) hG (by omega) hw) iX0_mayFail rfl k_777 k_779 k_30 rfl h1 (by omega) (by decide) (by decide) rfl (Nat.le_of_ble_eq_true rfl) (fun h1 hw => ?_)
  refine aw_aload_n 0 dX0_mustFail_5 rfl rfl ?_
  obtain ⟨fs3, r2, h1, h2, hw⟩ := hw
  refine aw_getf (k := 10) dX0_mustFail_6 clX0 (by decide) k_270 (Or.inl rfl) h1 h2 ?_
  obtain ⟨_, h1, hw⟩ := hw
  refine aw_virtV (As := []) (rest := []) dX0_mustFail_9 (acX7_erase l G (d - 1) hG (by omega) hw) iX7_erase rfl k_786 k_730 k_731 rfl h1 (by omega) (by decide) (by decide) rfl (Nat.le_of_ble_eq_true rfl) (fun h4 hw => ?_)
  exact aw_vret dX0_mustFail_12 rfl ⟨rfl, hw⟩
-- X0_askNew
def wbX0_askNew_9 (v0 : Nat) (v2 : Int32) (h : aH) (Q : aH → Prop) : Prop :=
  isO h v0 0 (wX0_mayFail h v0 8 (fun h1 => isO h1 v0 0 (wX0_makeAnew h1 v0 v2 (fun h2 => Q h2))))
def wX0_askNew (h : aH) (v0 : Nat) (v1 : Int32) (v2 : Int32) (Q : aH → Prop) : Prop :=
  (v1 = 0 → wbX0_askNew_9 v0 v2 h Q) ∧ (¬ v1 = 0 → isO h v0 0 (wX0_mustFail h v0 4 (fun h3 => wbX0_askNew_9 v0 v2 h3 Q)))
set_option maxRecDepth 100000 in
theorem abX0_askNew_9 (l : Launch) (G : aG) (d : Nat) (hG : a_GT G) (hd : 4 ≤ d) {Q : aH → Prop} (v0 : Nat) (v2 : Int32) (h : aH) (hw : wbX0_askNew_9 v0 v2 h Q) : AW l G d 0 0 mX0_askNew (qV Q) 9 [(0, .ref v0), (2, .int v2)] [] h := by
  unfold wbX0_askNew_9 at hw
  refine aw_aload_n 0 dX0_askNew_9 rfl rfl ?_
  refine aw_bipush (v := 8) dX0_askNew_10 (by decide) ?_
  obtain ⟨_, h1, hw⟩ := hw
  refine aw_virtV (As := [.int 8]) (rest := []) dX0_askNew_12 (acX0_mayFail l G (d - 1) hG (by omega) hw) iX0_mayFail rfl k_777 k_779 k_30 rfl h1 (by omega) (by decide) (by decide) rfl (Nat.le_of_ble_eq_true rfl) (fun h1 hw => ?_)
  refine aw_aload_n 0 dX0_askNew_15 rfl rfl ?_
  refine aw_iload_n 1 dX0_askNew_16 rfl rfl ?_
  obtain ⟨_, h1, hw⟩ := hw
  refine aw_virtV (As := [.int v2]) (rest := []) dX0_askNew_17 (acX0_makeAnew l G (d - 1) hG (by omega) hw) iX0_makeAnew rfl k_787 k_789 k_31 rfl h1 (by omega) (by decide) (by decide) rfl (Nat.le_of_ble_eq_true rfl) (fun h2 hw => ?_)
  exact aw_vret dX0_askNew_20 rfl ⟨rfl, hw⟩
set_option maxRecDepth 100000 in
theorem acX0_askNew (l : Launch) (G : aG) (d : Nat) (hG : a_GT G) (hd : 4 ≤ d) {Q : aH → Prop} {h : aH} {v0 : Nat} {v1 : Int32} {v2 : Int32} (hw : wX0_askNew h v0 v1 v2 Q) : AC l G d 0 0 mX0_askNew [.ref v0, .int v1, .int v2] h (qV Q) := by
  refine ac_of iX0_askNew (Nat.le_of_ble_eq_true rfl) ?_
  show AW l G d 0 0 mX0_askNew (qV Q) 0 [(0, .ref v0), (1, .int v1), (2, .int v2)] [] h
  unfold wX0_askNew at hw
  refine aw_iload_n 1 dX0_askNew_0 rfl rfl ?_
  refine aw_if_eq (tgt := 9) dX0_askNew_1 (by decide) (fun z => ?_) (fun z => ?_)
  · have hw := hw.1 z
    refine aw_sub (lv' := [(0, .ref v0), (2, .int v2)]) [0, 2] rfl ?_
    exact abX0_askNew_9 l G d hG hd _ _ _ hw
  · have hw := hw.2 z
    refine aw_aload_n 0 dX0_askNew_4 rfl rfl ?_
    refine aw_iconst (v := 4) dX0_askNew_5 (by decide) ?_
    obtain ⟨_, h1, hw⟩ := hw
    refine aw_virtV (As := [.int 4]) (rest := []) dX0_askNew_6 (acX0_mustFail l G (d - 1) hG (by omega) hw) iX0_mustFail rfl k_773 k_775 k_29 rfl h1 (by omega) (by decide) (by decide) rfl (Nat.le_of_ble_eq_true rfl) (fun h3 hw => ?_)
    refine aw_sub (lv' := [(0, .ref v0), (2, .int v2)]) [0, 2] rfl ?_
    exact abX0_askNew_9 l G d hG hd _ _ _ hw
-- X4_setOf
def wX4_setOf (h : aH) (v0 : Int32) (Q : Int32 → aH → Prop) : Prop :=
  Q ((1 <<< (v0 &&& 31))) h
set_option maxRecDepth 100000 in
theorem acX4_setOf (l : Launch) (G : aG) (d : Nat) (hG : a_GT G) (hd : 1 ≤ d) {Q : Int32 → aH → Prop} {h : aH} {v0 : Int32} (hw : wX4_setOf h v0 Q) : AC l G d 0 0 mX4_setOf [.int v0] h (qI Q) := by
  refine ac_of iX4_setOf (Nat.le_of_ble_eq_true rfl) ?_
  show AW l G d 0 0 mX4_setOf (qI Q) 0 [(0, .int v0)] [] h
  unfold wX4_setOf at hw
  refine aw_iconst (v := 1) dX4_setOf_0 (by decide) ?_
  refine aw_iload_n 0 dX4_setOf_1 rfl rfl ?_
  refine aw_ishl dX4_setOf_2 ?_
  exact aw_iret dX4_setOf_3 rfl rfl ⟨_, rfl, hw⟩
-- X7_of
def wX7_of (h : aH) (v0 : Nat) (v1 : Int32) (Q : Int32 → aH → Prop) : Prop :=
  rR h v0 5 0 (fun r1 => aI h r1 v1 (fun r3 => Q r3 h))
set_option maxRecDepth 100000 in
theorem acX7_of (l : Launch) (G : aG) (d : Nat) (hG : a_GT G) (hd : 1 ≤ d) {Q : Int32 → aH → Prop} {h : aH} {v0 : Nat} {v1 : Int32} (hw : wX7_of h v0 v1 Q) : AC l G d 0 0 mX7_of [.ref v0, .int v1] h (qI Q) := by
  refine ac_of iX7_of (Nat.le_of_ble_eq_true rfl) ?_
  show AW l G d 0 0 mX7_of (qI Q) 0 [(0, .ref v0), (1, .int v1)] [] h
  unfold wX7_of at hw
  refine aw_aload_n 0 dX7_of_0 rfl rfl ?_
  obtain ⟨fs2, r1, h1, h2, hw⟩ := hw
  refine aw_getf (k := 0) dX7_of_1 clX7 (by decide) k_202 (Or.inl rfl) h1 h2 ?_
  refine aw_iload_n 1 dX7_of_4 rfl rfl ?_
  obtain ⟨_, _, r3, h1, h2, h3, hw⟩ := hw
  refine aw_aI dX7_of_5 h1 h2 h3 ?_
  exact aw_iret dX7_of_6 rfl rfl ⟨_, rfl, hw⟩
-- X7_keep
def wbX7_keep_27 (h : aH) (Q : aH → Prop) : Prop :=
  Q h
def wX7_keep (h : aH) (v0 : Nat) (v1 : Int32) (v2 : Int32) (Q : aH → Prop) : Prop :=
  rR h v0 5 0 (fun r1 => aI h r1 v1 (fun r3 => sI h r1 v1 ((r3 &&& v2)) (fun h4 => rR h4 v0 5 0 (fun r5 => aI h4 r5 v1 (fun r7 => (¬ r7 = 0 → wbX7_keep_27  h4 Q) ∧ (r7 = 0 → rR h4 v0 5 0 (fun r8 => wJ7_fill_53178 h4 r8 0 (fun h10 => wbX7_keep_27 h10 Q))))))))
set_option maxRecDepth 100000 in
theorem abX7_keep_27 (l : Launch) (G : aG) (d : Nat) (hG : a_GT G) (hd : 2 ≤ d) {Q : aH → Prop} (h : aH) (hw : wbX7_keep_27  h Q) : AW l G d 0 0 mX7_keep (qV Q) 27 [] [] h := by
  unfold wbX7_keep_27 at hw
  exact aw_vret dX7_keep_27 rfl ⟨rfl, hw⟩
set_option maxRecDepth 100000 in
theorem acX7_keep (l : Launch) (G : aG) (d : Nat) (hG : a_GT G) (hd : 2 ≤ d) {Q : aH → Prop} {h : aH} {v0 : Nat} {v1 : Int32} {v2 : Int32} (hw : wX7_keep h v0 v1 v2 Q) : AC l G d 0 0 mX7_keep [.ref v0, .int v1, .int v2] h (qV Q) := by
  refine ac_of iX7_keep (Nat.le_of_ble_eq_true rfl) ?_
  show AW l G d 0 0 mX7_keep (qV Q) 0 [(0, .ref v0), (1, .int v1), (2, .int v2)] [] h
  unfold wX7_keep at hw
  refine aw_aload_n 0 dX7_keep_0 rfl rfl ?_
  obtain ⟨fs2, r1, h1, h2, hw⟩ := hw
  refine aw_getf (k := 0) dX7_keep_1 clX7 (by decide) k_202 (Or.inl rfl) h1 h2 ?_
  refine aw_iload_n 1 dX7_keep_4 rfl rfl ?_
  refine aw_dup2 dX7_keep_5 rfl rfl ?_
  obtain ⟨_, _, r3, h1, h2, h3, hw⟩ := hw
  refine aw_aI dX7_keep_6 h1 h2 h3 ?_
  refine aw_iload_n 2 dX7_keep_7 rfl rfl ?_
  refine aw_iand dX7_keep_8 ?_
  obtain ⟨_, _, h1, h2, hw⟩ := hw
  refine aw_iast dX7_keep_9 h1 h2 ?_
  generalize a_up _ _ _ = h4 at hw ⊢
  refine aw_aload_n 0 dX7_keep_10 rfl rfl ?_
  obtain ⟨fs6, r5, h1, h2, hw⟩ := hw
  refine aw_getf (k := 0) dX7_keep_11 clX7 (by decide) k_202 (Or.inl rfl) h1 h2 ?_
  refine aw_iload_n 1 dX7_keep_14 rfl rfl ?_
  obtain ⟨_, _, r7, h1, h2, h3, hw⟩ := hw
  refine aw_aI dX7_keep_15 h1 h2 h3 ?_
  refine aw_if_ne (tgt := 27) dX7_keep_16 (by decide) (fun z => ?_) (fun z => ?_)
  · have hw := hw.1 z
    refine aw_sub (lv' := []) [] rfl ?_
    exact abX7_keep_27 l G d hG hd _ hw
  · have hw := hw.2 z
    refine aw_aload_n 0 dX7_keep_19 rfl rfl ?_
    obtain ⟨fs9, r8, h1, h2, hw⟩ := hw
    refine aw_getf (k := 0) dX7_keep_20 clX7 (by decide) k_202 (Or.inl rfl) h1 h2 ?_
    refine aw_iconst (v := 0) dX7_keep_23 (by decide) ?_
    refine aw_staticV (As := [.ref r8, .int 0]) (rest := []) dX7_keep_24 (acJ7_fill_53178 l G (d - 1) hG (by omega) hw) iJ7_fill_53178 rfl k_733 k_660 (by omega) (by decide) (by decide) rfl (Nat.le_of_ble_eq_true rfl) (fun h10 hw => ?_)
    refine aw_sub (lv' := []) [] rfl ?_
    exact abX7_keep_27 l G d hG hd _ hw
-- X7_joinWith
def wbX7_joinWith_35 (K3 : Nat → Nat → Int32 → Int32 → Int32 →  aH → Prop) (v0 : Nat) (v1 : Nat) (v2 : Int32) (v3 : Int32) (v4 : Int32) (s0 : Int32) (s1 : Int32) (s2 : Int32) (s3 : Nat) (h : aH) (Q : aH → Prop) : Prop :=
  sI h s3 s2 ((s1 ||| s0)) (fun h1 => K3 v0 v1 v2 v3 ((v4 + 1)) h1)
def wbX7_joinWith_3_i (K3 : Nat → Nat → Int32 → Int32 → Int32 →  aH → Prop) (v0 : Nat) (v1 : Nat) (v2 : Int32) (v3 : Int32) (v4 : Int32) (h : aH) (Q : aH → Prop) : Prop :=
  (12 ≤ v4 → Q h) ∧ (¬ 12 ≤ v4 → rR h v0 5 0 (fun r2 => aI h r2 v4 (fun r4 => (¬ v4 = v2 → rR h v1 5 0 (fun r5 => aI h r5 v4 (fun r7 => wbX7_joinWith_35  K3 v0 v1 v2 v3 v4 r7 r4 v4 r2 h Q))) ∧ (v4 = v2 → wbX7_joinWith_35  K3 v0 v1 v2 v3 v4 v3 r4 v4 r2 h Q))))
def wbX7_joinWith_3 (n : Nat) (v0 : Nat) (v1 : Nat) (v2 : Int32) (v3 : Int32) (v4 : Int32) (h : aH) (Q : aH → Prop) : Prop := match n with
  | 0 => False
  | n + 1 => wbX7_joinWith_3_i (fun v0 v1 v2 v3 v4 h => wbX7_joinWith_3 n v0 v1 v2 v3 v4 h Q) v0 v1 v2 v3 v4 h Q
def wX7_joinWith (h : aH) (v0 : Nat) (v1 : Nat) (v2 : Int32) (v3 : Int32) (Q : aH → Prop) : Prop :=
  ∃ n, wbX7_joinWith_3 n v0 v1 v2 v3 0 h Q
set_option maxRecDepth 100000 in
theorem abX7_joinWith_35 (l : Launch) (G : aG) (d : Nat) (hG : a_GT G) (hd : 1 ≤ d) {Q : aH → Prop} {K3 : Nat → Nat → Int32 → Int32 → Int32 →  aH → Prop} (kk3 : ∀ (v0 : Nat) (v1 : Nat) (v2 : Int32) (v3 : Int32) (v4 : Int32) (h : aH), K3 v0 v1 v2 v3 v4 h → AW l G d 0 0 mX7_joinWith (qV Q) 3 [(0, .ref v0), (1, .ref v1), (2, .int v2), (3, .int v3), (4, .int v4)] [] h) (v0 : Nat) (v1 : Nat) (v2 : Int32) (v3 : Int32) (v4 : Int32) (s0 : Int32) (s1 : Int32) (s2 : Int32) (s3 : Nat) (h : aH) (hw : wbX7_joinWith_35 K3 v0 v1 v2 v3 v4 s0 s1 s2 s3 h Q) : AW l G d 0 0 mX7_joinWith (qV Q) 35 [(0, .ref v0), (1, .ref v1), (2, .int v2), (3, .int v3), (4, .int v4)] [.int s0, .int s1, .int s2, .ref s3] h := by
  unfold wbX7_joinWith_35 at hw
  refine aw_ior dX7_joinWith_35 ?_
  obtain ⟨_, _, h1, h2, hw⟩ := hw
  refine aw_iast dX7_joinWith_36 h1 h2 ?_
  generalize a_up _ _ _ = h1 at hw ⊢
  refine aw_iinc (v := (v4 + 1)) (lv' := [(4, .int (v4 + 1)), (0, .ref v0), (1, .ref v1), (2, .int v2), (3, .int v3)]) 4 dX7_joinWith_37 rfl rfl (by decide) rfl ?_
  refine aw_goto (tgt := 3) dX7_joinWith_40 (by decide) ?_
  refine aw_sub (lv' := [(0, .ref v0), (1, .ref v1), (2, .int v2), (3, .int v3), (4, .int (v4 + 1))]) [1, 2, 3, 4, 0] rfl ?_
  exact kk3 _ _ _ _ _ _ hw
set_option maxRecDepth 100000 in
theorem abX7_joinWith_3_i (l : Launch) (G : aG) (d : Nat) (hG : a_GT G) (hd : 1 ≤ d) {Q : aH → Prop} {K3 : Nat → Nat → Int32 → Int32 → Int32 →  aH → Prop} (kk3 : ∀ (v0 : Nat) (v1 : Nat) (v2 : Int32) (v3 : Int32) (v4 : Int32) (h : aH), K3 v0 v1 v2 v3 v4 h → AW l G d 0 0 mX7_joinWith (qV Q) 3 [(0, .ref v0), (1, .ref v1), (2, .int v2), (3, .int v3), (4, .int v4)] [] h) (v0 : Nat) (v1 : Nat) (v2 : Int32) (v3 : Int32) (v4 : Int32) (h : aH) (hw : wbX7_joinWith_3_i K3 v0 v1 v2 v3 v4 h Q) : AW l G d 0 0 mX7_joinWith (qV Q) 3 [(0, .ref v0), (1, .ref v1), (2, .int v2), (3, .int v3), (4, .int v4)] [] h := by
  unfold wbX7_joinWith_3_i at hw
  refine aw_iload 4 dX7_joinWith_3 rfl ?_
  refine aw_bipush (v := 12) dX7_joinWith_5 (by decide) ?_
  refine aw_icmp_ge (tgt := 43) dX7_joinWith_7 (by decide) (fun z => ?_) (fun z => ?_)
  · have hw := hw.1 z
    exact aw_vret dX7_joinWith_43 rfl ⟨rfl, hw⟩
  · have hw := hw.2 z
    refine aw_aload_n 0 dX7_joinWith_10 rfl rfl ?_
    obtain ⟨fs3, r2, h1, h2, hw⟩ := hw
    refine aw_getf (k := 0) dX7_joinWith_11 clX7 (by decide) k_202 (Or.inl rfl) h1 h2 ?_
    refine aw_iload 4 dX7_joinWith_14 rfl ?_
    refine aw_dup2 dX7_joinWith_16 rfl rfl ?_
    obtain ⟨_, _, r4, h1, h2, h3, hw⟩ := hw
    refine aw_aI dX7_joinWith_17 h1 h2 h3 ?_
    refine aw_iload 4 dX7_joinWith_18 rfl ?_
    refine aw_iload_n 2 dX7_joinWith_20 rfl rfl ?_
    refine aw_icmp_ne (tgt := 28) dX7_joinWith_21 (by decide) (fun z => ?_) (fun z => ?_)
    · have hw := hw.1 z
      refine aw_aload_n 1 dX7_joinWith_28 rfl rfl ?_
      obtain ⟨fs6, r5, h1, h2, hw⟩ := hw
      refine aw_getf (k := 0) dX7_joinWith_29 clX7 (by decide) k_202 (Or.inl rfl) h1 h2 ?_
      refine aw_iload 4 dX7_joinWith_32 rfl ?_
      obtain ⟨_, _, r7, h1, h2, h3, hw⟩ := hw
      refine aw_aI dX7_joinWith_34 h1 h2 h3 ?_
      exact abX7_joinWith_35 l G d hG hd kk3 _ _ _ _ _ _ _ _ _ _ hw
    · have hw := hw.2 z
      refine aw_iload_n 3 dX7_joinWith_24 rfl rfl ?_
      refine aw_goto (tgt := 35) dX7_joinWith_25 (by decide) ?_
      exact abX7_joinWith_35 l G d hG hd kk3 _ _ _ _ _ _ _ _ _ _ hw
set_option maxRecDepth 100000 in
theorem abX7_joinWith_3 (l : Launch) (G : aG) (d : Nat) (hG : a_GT G) (hd : 1 ≤ d) {Q : aH → Prop} (n : Nat) : ∀  (v0 : Nat) (v1 : Nat) (v2 : Int32) (v3 : Int32) (v4 : Int32) (h : aH), wbX7_joinWith_3 n v0 v1 v2 v3 v4 h Q → AW l G d 0 0 mX7_joinWith (qV Q) 3 [(0, .ref v0), (1, .ref v1), (2, .int v2), (3, .int v3), (4, .int v4)] [] h := by
  induction n with
  | zero => exact fun _ _ _ _ _ _ hw => hw.elim
  | succ n ih => exact fun _ _ _ _ _ _ hw => abX7_joinWith_3_i l G d hG hd ih _ _ _ _ _ _ hw
set_option maxRecDepth 100000 in
theorem acX7_joinWith (l : Launch) (G : aG) (d : Nat) (hG : a_GT G) (hd : 1 ≤ d) {Q : aH → Prop} {h : aH} {v0 : Nat} {v1 : Nat} {v2 : Int32} {v3 : Int32} (hw : wX7_joinWith h v0 v1 v2 v3 Q) : AC l G d 0 0 mX7_joinWith [.ref v0, .ref v1, .int v2, .int v3] h (qV Q) := by
  refine ac_of iX7_joinWith (Nat.le_of_ble_eq_true rfl) ?_
  show AW l G d 0 0 mX7_joinWith (qV Q) 0 [(0, .ref v0), (1, .ref v1), (2, .int v2), (3, .int v3)] [] h
  unfold wX7_joinWith at hw
  refine aw_iconst (v := 0) dX7_joinWith_0 (by decide) ?_
  refine aw_istore (lv' := [(4, .int 0), (0, .ref v0), (1, .ref v1), (2, .int v2), (3, .int v3)]) dX7_joinWith_1 (by decide) rfl ?_
  obtain ⟨n, hw⟩ := hw
  refine aw_sub (lv' := [(0, .ref v0), (1, .ref v1), (2, .int v2), (3, .int v3), (4, .int 0)]) [1, 2, 3, 4, 0] rfl ?_
  exact abX7_joinWith_3 l G d hG hd n _ _ _ _ _ _ hw
-- X0_failFor
def wbX0_failFor_47 (h : aH) (Q : aH → Prop) : Prop :=
  Q h
def wX0_failFor (h : aH) (v0 : Nat) (v1 : Int32) (v2 : Int32) (v3 : Int32) (Q : aH → Prop) : Prop :=
  rR h v0 0 10 (fun r1 => isO h r1 5 (wX7_of h r1 v2 (fun r4 h3 => ((r4 &&& v3) = 0 → wbX0_failFor_47 h3 Q) ∧ (¬ (r4 &&& v3) = 0 → rR h3 v0 0 3 (fun r5 => isO h3 r5 7 (wX9_by h3 r5 v1 (fun r8 h7 => ∃ r9, r8 = some r9 ∧ rR h7 v0 0 10 (fun r10 => isO h7 r9 5 (wX7_joinWith h7 r9 r10 v2 ((r4 &&& v3)) (fun h12 => rR h12 v0 0 10 (fun r13 => isO h12 r13 5 (wX7_keep h12 r13 v2 (((r4 &&& v3) ^^^ (-1))) (fun h15 => wbX0_failFor_47 h15 Q)))))))))))))
set_option maxRecDepth 100000 in
theorem abX0_failFor_47 (l : Launch) (G : aG) (d : Nat) (hG : a_GT G) (hd : 3 ≤ d) {Q : aH → Prop} (h : aH) (hw : wbX0_failFor_47  h Q) : AW l G d 0 0 mX0_failFor (qV Q) 47 [] [] h := by
  unfold wbX0_failFor_47 at hw
  exact aw_vret dX0_failFor_47 rfl ⟨rfl, hw⟩
set_option maxRecDepth 100000 in
theorem acX0_failFor (l : Launch) (G : aG) (d : Nat) (hG : a_GT G) (hd : 3 ≤ d) {Q : aH → Prop} {h : aH} {v0 : Nat} {v1 : Int32} {v2 : Int32} {v3 : Int32} (hw : wX0_failFor h v0 v1 v2 v3 Q) : AC l G d 0 0 mX0_failFor [.ref v0, .int v1, .int v2, .int v3] h (qV Q) := by
  refine ac_of iX0_failFor (Nat.le_of_ble_eq_true rfl) ?_
  show AW l G d 0 0 mX0_failFor (qV Q) 0 [(0, .ref v0), (1, .int v1), (2, .int v2), (3, .int v3)] [] h
  unfold wX0_failFor at hw
  refine aw_aload_n 0 dX0_failFor_0 rfl rfl ?_
  obtain ⟨fs2, r1, h1, h2, hw⟩ := hw
  refine aw_getf (k := 10) dX0_failFor_1 clX0 (by decide) k_270 (Or.inl rfl) h1 h2 ?_
  refine aw_iload_n 2 dX0_failFor_4 rfl rfl ?_
  obtain ⟨_, h1, hw⟩ := hw
  refine aw_virtI (As := [.int v2]) (rest := []) dX0_failFor_5 (acX7_of l G (d - 1) hG (by omega) hw) iX7_of rfl k_806 k_711 k_712 rfl h1 (by omega) (by decide) (by decide) rfl (Nat.le_of_ble_eq_true rfl) (fun r4 h3 hw => ?_)
  refine aw_iload_n 3 dX0_failFor_8 rfl rfl ?_
  refine aw_iand dX0_failFor_9 ?_
  refine aw_istore (lv' := [(4, .int (r4 &&& v3)), (0, .ref v0), (1, .int v1), (2, .int v2), (3, .int v3)]) dX0_failFor_10 (by decide) rfl ?_
  refine aw_iload 0 dX0_failFor_12 rfl ?_
  refine aw_if_eq (tgt := 47) dX0_failFor_14 (by decide) (fun z => ?_) (fun z => ?_)
  · have hw := hw.1 z
    refine aw_sub (lv' := []) [] rfl ?_
    exact abX0_failFor_47 l G d hG hd _ hw
  · have hw := hw.2 z
    refine aw_aload_n 1 dX0_failFor_17 rfl rfl ?_
    obtain ⟨fs6, r5, h1, h2, hw⟩ := hw
    refine aw_getf (k := 3) dX0_failFor_18 clX0 (by decide) k_288 (Or.inr k_289) h1 h2 ?_
    refine aw_iload_n 2 dX0_failFor_21 rfl rfl ?_
    obtain ⟨_, h1, hw⟩ := hw
    refine aw_virtQ (As := [.int v1]) (rest := []) dX0_failFor_22 (acX9_by l G (d - 1) hG (by omega) hw) iX9_by rfl k_781 k_782 k_783 rfl h1 (by omega) (by decide) (by decide) rfl (Nat.le_of_ble_eq_true rfl) (fun r8 h7 hw => ?_)
    obtain ⟨r9, rfl, hw⟩ := hw
    refine aw_aload_n 1 dX0_failFor_25 rfl rfl ?_
    obtain ⟨fs11, r10, h1, h2, hw⟩ := hw
    refine aw_getf (k := 10) dX0_failFor_26 clX0 (by decide) k_270 (Or.inl rfl) h1 h2 ?_
    refine aw_iload_n 3 dX0_failFor_29 rfl rfl ?_
    refine aw_iload 0 dX0_failFor_30 rfl ?_
    obtain ⟨_, h1, hw⟩ := hw
    refine aw_virtV (As := [.ref r10, .int v2, .int (r4 &&& v3)]) (rest := []) dX0_failFor_32 (acX7_joinWith l G (d - 1) hG (by omega) hw) iX7_joinWith rfl k_807 k_808 k_809 rfl h1 (by omega) (by decide) (by decide) rfl (Nat.le_of_ble_eq_true rfl) (fun h12 hw => ?_)
    refine aw_aload_n 1 dX0_failFor_35 rfl rfl ?_
    obtain ⟨fs14, r13, h1, h2, hw⟩ := hw
    refine aw_getf (k := 10) dX0_failFor_36 clX0 (by decide) k_270 (Or.inl rfl) h1 h2 ?_
    refine aw_iload_n 3 dX0_failFor_39 rfl rfl ?_
    refine aw_iload 0 dX0_failFor_40 rfl ?_
    refine aw_iconst (v := (-1)) dX0_failFor_42 (by decide) ?_
    refine aw_ixor dX0_failFor_43 ?_
    obtain ⟨_, h1, hw⟩ := hw
    refine aw_virtV (As := [.int v2, .int ((r4 &&& v3) ^^^ (-1))]) (rest := []) dX0_failFor_44 (acX7_keep l G (d - 1) hG (by omega) hw) iX7_keep rfl k_811 k_812 k_813 rfl h1 (by omega) (by decide) (by decide) rfl (Nat.le_of_ble_eq_true rfl) (fun h15 hw => ?_)
    refine aw_sub (lv' := []) [] rfl ?_
    exact abX0_failFor_47 l G d hG hd _ hw
-- X0_askAs
def wX0_askAs (h : aH) (v0 : Nat) (v1 : Int32) (v2 : Int32) (Q : aH → Prop) : Prop :=
  wX4_thoseThatAre h v2 (fun r2 h1 => isO h1 v0 0 (wX0_failFor h1 v0 2 v1 (((r2 ||| 1) ^^^ (-1))) (fun h3 => Q h3)))
set_option maxRecDepth 100000 in
theorem acX0_askAs (l : Launch) (G : aG) (d : Nat) (hG : a_GT G) (hd : 4 ≤ d) {Q : aH → Prop} {h : aH} {v0 : Nat} {v1 : Int32} {v2 : Int32} (hw : wX0_askAs h v0 v1 v2 Q) : AC l G d 0 0 mX0_askAs [.ref v0, .int v1, .int v2] h (qV Q) := by
  refine ac_of iX0_askAs (Nat.le_of_ble_eq_true rfl) ?_
  show AW l G d 0 0 mX0_askAs (qV Q) 0 [(0, .ref v0), (1, .int v1), (2, .int v2)] [] h
  unfold wX0_askAs at hw
  refine aw_aload_n 0 dX0_askAs_0 rfl rfl ?_
  refine aw_iconst (v := 2) dX0_askAs_1 (by decide) ?_
  refine aw_iload_n 1 dX0_askAs_2 rfl rfl ?_
  refine aw_iload_n 2 dX0_askAs_3 rfl rfl ?_
  refine aw_staticI (As := [.int v2]) (rest := [.int v1, .int 2, .ref v0]) dX0_askAs_4 (acX4_thoseThatAre l G (d - 1) hG (by omega) hw) iX4_thoseThatAre rfl k_801 k_532 (by omega) (by decide) (by decide) rfl (Nat.le_of_ble_eq_true rfl) (fun r2 h1 hw => ?_)
  refine aw_iconst (v := 1) dX0_askAs_7 (by decide) ?_
  refine aw_ior dX0_askAs_8 ?_
  refine aw_iconst (v := (-1)) dX0_askAs_9 (by decide) ?_
  refine aw_ixor dX0_askAs_10 ?_
  obtain ⟨_, h1, hw⟩ := hw
  refine aw_virtV (As := [.int 2, .int v1, .int ((r2 ||| 1) ^^^ (-1))]) (rest := []) dX0_askAs_11 (acX0_failFor l G (d - 1) hG (by omega) hw) iX0_failFor rfl k_802 k_804 k_34 rfl h1 (by omega) (by decide) (by decide) rfl (Nat.le_of_ble_eq_true rfl) (fun h3 hw => ?_)
  exact aw_vret dX0_askAs_14 rfl ⟨rfl, hw⟩
-- X0_askMove
def wbX0_askMove_19 (v0 : Nat) (h : aH) (Q : aH → Prop) : Prop :=
  rR h v0 0 10 (fun r1 => rI h v0 0 7 (fun r3 => isO h r1 5 (wX7_of h r1 r3 (fun r6 h5 => isO h5 v0 0 (wX0_makeAnew h5 v0 r6 (fun h7 => Q h7))))))
def wX0_askMove (h : aH) (v0 : Nat) (Q : aH → Prop) : Prop :=
  rI h v0 0 8 (fun r8 => (r8 = 0 → wbX0_askMove_19 v0 h Q) ∧ (¬ r8 = 0 → rI h v0 0 7 (fun r10 => rI h v0 0 8 (fun r12 => isO h v0 0 (wX0_askAs h v0 r10 r12 (fun h14 => wbX0_askMove_19 v0 h14 Q))))))
set_option maxRecDepth 100000 in
theorem abX0_askMove_19 (l : Launch) (G : aG) (d : Nat) (hG : a_GT G) (hd : 5 ≤ d) {Q : aH → Prop} (v0 : Nat) (h : aH) (hw : wbX0_askMove_19 v0 h Q) : AW l G d 0 0 mX0_askMove (qV Q) 19 [(0, .ref v0)] [] h := by
  unfold wbX0_askMove_19 at hw
  refine aw_aload_n 0 dX0_askMove_19 rfl rfl ?_
  refine aw_aload_n 0 dX0_askMove_20 rfl rfl ?_
  obtain ⟨fs2, r1, h1, h2, hw⟩ := hw
  refine aw_getf (k := 10) dX0_askMove_21 clX0 (by decide) k_270 (Or.inl rfl) h1 h2 ?_
  refine aw_aload_n 0 dX0_askMove_24 rfl rfl ?_
  obtain ⟨fs4, r3, h1, h2, hw⟩ := hw
  refine aw_getf (k := 7) dX0_askMove_25 clX0 (by decide) k_267 (Or.inl rfl) h1 h2 ?_
  obtain ⟨_, h1, hw⟩ := hw
  refine aw_virtI (As := [.int r3]) (rest := [.ref v0]) dX0_askMove_28 (acX7_of l G (d - 1) hG (by omega) hw) iX7_of rfl k_806 k_711 k_712 rfl h1 (by omega) (by decide) (by decide) rfl (Nat.le_of_ble_eq_true rfl) (fun r6 h5 hw => ?_)
  obtain ⟨_, h1, hw⟩ := hw
  refine aw_virtV (As := [.int r6]) (rest := []) dX0_askMove_31 (acX0_makeAnew l G (d - 1) hG (by omega) hw) iX0_makeAnew rfl k_787 k_789 k_31 rfl h1 (by omega) (by decide) (by decide) rfl (Nat.le_of_ble_eq_true rfl) (fun h7 hw => ?_)
  exact aw_vret dX0_askMove_34 rfl ⟨rfl, hw⟩
set_option maxRecDepth 100000 in
theorem acX0_askMove (l : Launch) (G : aG) (d : Nat) (hG : a_GT G) (hd : 5 ≤ d) {Q : aH → Prop} {h : aH} {v0 : Nat} (hw : wX0_askMove h v0 Q) : AC l G d 0 0 mX0_askMove [.ref v0] h (qV Q) := by
  refine ac_of iX0_askMove (Nat.le_of_ble_eq_true rfl) ?_
  show AW l G d 0 0 mX0_askMove (qV Q) 0 [(0, .ref v0)] [] h
  unfold wX0_askMove at hw
  refine aw_aload_n 0 dX0_askMove_0 rfl rfl ?_
  obtain ⟨fs9, r8, h1, h2, hw⟩ := hw
  refine aw_getf (k := 8) dX0_askMove_1 clX0 (by decide) k_268 (Or.inl rfl) h1 h2 ?_
  refine aw_if_eq (tgt := 19) dX0_askMove_4 (by decide) (fun z => ?_) (fun z => ?_)
  · have hw := hw.1 z
    exact abX0_askMove_19 l G d hG hd _ _ hw
  · have hw := hw.2 z
    refine aw_aload_n 0 dX0_askMove_7 rfl rfl ?_
    refine aw_aload_n 0 dX0_askMove_8 rfl rfl ?_
    obtain ⟨fs11, r10, h1, h2, hw⟩ := hw
    refine aw_getf (k := 7) dX0_askMove_9 clX0 (by decide) k_267 (Or.inl rfl) h1 h2 ?_
    refine aw_aload_n 0 dX0_askMove_12 rfl rfl ?_
    obtain ⟨fs13, r12, h1, h2, hw⟩ := hw
    refine aw_getf (k := 8) dX0_askMove_13 clX0 (by decide) k_268 (Or.inl rfl) h1 h2 ?_
    obtain ⟨_, h1, hw⟩ := hw
    refine aw_virtV (As := [.int r10, .int r12]) (rest := []) dX0_askMove_16 (acX0_askAs l G (d - 1) hG (by omega) hw) iX0_askAs rfl k_797 k_799 k_33 rfl h1 (by omega) (by decide) (by decide) rfl (Nat.le_of_ble_eq_true rfl) (fun h14 hw => ?_)
    exact abX0_askMove_19 l G d hG hd _ _ hw
-- X0_askSomething
def wX0_askSomething (h : aH) (v0 : Nat) (v1 : Int32) (v2 : Int32) (Q : aH → Prop) : Prop :=
  wX4_thoseThatAre h v2 (fun r2 h1 => isO h1 v0 0 (wX0_failFor h1 v0 2 v1 (((r2 ||| 1) ^^^ (-1))) (fun h3 => isO h3 v0 0 (wX0_failFor h3 v0 1 v1 1 (fun h4 => Q h4)))))
set_option maxRecDepth 100000 in
theorem acX0_askSomething (l : Launch) (G : aG) (d : Nat) (hG : a_GT G) (hd : 4 ≤ d) {Q : aH → Prop} {h : aH} {v0 : Nat} {v1 : Int32} {v2 : Int32} (hw : wX0_askSomething h v0 v1 v2 Q) : AC l G d 0 0 mX0_askSomething [.ref v0, .int v1, .int v2] h (qV Q) := by
  refine ac_of iX0_askSomething (Nat.le_of_ble_eq_true rfl) ?_
  show AW l G d 0 0 mX0_askSomething (qV Q) 0 [(0, .ref v0), (1, .int v1), (2, .int v2)] [] h
  unfold wX0_askSomething at hw
  refine aw_aload_n 0 dX0_askSomething_0 rfl rfl ?_
  refine aw_iconst (v := 2) dX0_askSomething_1 (by decide) ?_
  refine aw_iload_n 1 dX0_askSomething_2 rfl rfl ?_
  refine aw_iload_n 2 dX0_askSomething_3 rfl rfl ?_
  refine aw_staticI (As := [.int v2]) (rest := [.int v1, .int 2, .ref v0]) dX0_askSomething_4 (acX4_thoseThatAre l G (d - 1) hG (by omega) hw) iX4_thoseThatAre rfl k_801 k_532 (by omega) (by decide) (by decide) rfl (Nat.le_of_ble_eq_true rfl) (fun r2 h1 hw => ?_)
  refine aw_iconst (v := 1) dX0_askSomething_7 (by decide) ?_
  refine aw_ior dX0_askSomething_8 ?_
  refine aw_iconst (v := (-1)) dX0_askSomething_9 (by decide) ?_
  refine aw_ixor dX0_askSomething_10 ?_
  obtain ⟨_, h1, hw⟩ := hw
  refine aw_virtV (As := [.int 2, .int v1, .int ((r2 ||| 1) ^^^ (-1))]) (rest := []) dX0_askSomething_11 (acX0_failFor l G (d - 1) hG (by omega) hw) iX0_failFor rfl k_802 k_804 k_34 rfl h1 (by omega) (by decide) (by decide) rfl (Nat.le_of_ble_eq_true rfl) (fun h3 hw => ?_)
  refine aw_aload_n 0 dX0_askSomething_14 rfl rfl ?_
  refine aw_iconst (v := 1) dX0_askSomething_15 (by decide) ?_
  refine aw_iload_n 1 dX0_askSomething_16 rfl rfl ?_
  refine aw_iconst (v := 1) dX0_askSomething_17 (by decide) ?_
  obtain ⟨_, h1, hw⟩ := hw
  refine aw_virtV (As := [.int 1, .int v1, .int 1]) (rest := []) dX0_askSomething_18 (acX0_failFor l G (d - 1) hG (by omega) hw) iX0_failFor rfl k_802 k_804 k_34 rfl h1 (by omega) (by decide) (by decide) rfl (Nat.le_of_ble_eq_true rfl) (fun h4 hw => ?_)
  exact aw_vret dX0_askSomething_21 rfl ⟨rfl, hw⟩
-- X7_has
def wX7_has (h : aH) (v0 : Nat) (v1 : Int32) (v2 : Int32) (Q : Int32 → aH → Prop) : Prop :=
  rR h v0 5 0 (fun r1 => aI h r1 v1 (fun r3 => wX4_has h r3 v2 (fun r5 h4 => oB r5 ∧ Q r5 h4)))
set_option maxRecDepth 100000 in
theorem acX7_has (l : Launch) (G : aG) (d : Nat) (hG : a_GT G) (hd : 2 ≤ d) {Q : Int32 → aH → Prop} {h : aH} {v0 : Nat} {v1 : Int32} {v2 : Int32} (hw : wX7_has h v0 v1 v2 Q) : AC l G d 0 0 mX7_has [.ref v0, .int v1, .int v2] h (qI Q) := by
  refine ac_of iX7_has (Nat.le_of_ble_eq_true rfl) ?_
  show AW l G d 0 0 mX7_has (qI Q) 0 [(0, .ref v0), (1, .int v1), (2, .int v2)] [] h
  unfold wX7_has at hw
  refine aw_aload_n 0 dX7_has_0 rfl rfl ?_
  obtain ⟨fs2, r1, h1, h2, hw⟩ := hw
  refine aw_getf (k := 0) dX7_has_1 clX7 (by decide) k_202 (Or.inl rfl) h1 h2 ?_
  refine aw_iload_n 1 dX7_has_4 rfl rfl ?_
  obtain ⟨_, _, r3, h1, h2, h3, hw⟩ := hw
  refine aw_aI dX7_has_5 h1 h2 h3 ?_
  refine aw_iload_n 2 dX7_has_6 rfl rfl ?_
  refine aw_staticI (As := [.int r3, .int v2]) (rest := []) dX7_has_7 (acX4_has l G (d - 1) hG (by omega) hw) iX4_has rfl k_827 k_538 (by omega) (by decide) (by decide) rfl (Nat.le_of_ble_eq_true rfl) (fun r5 h4 hw => ?_)
  exact aw_iret dX7_has_10 rfl (a_nB hw.1) ⟨_, rfl, hw.2⟩
-- X0_askTake
def wbX0_askTake_69 (v0 : Nat) (v1 : Int32) (h : aH) (Q : aH → Prop) : Prop :=
  isO h v0 0 (wX0_makeAnew h v0 v1 (fun h1 => Q h1))
def wX0_askTake (h : aH) (v0 : Nat) (Q : aH → Prop) : Prop :=
  rI h v0 0 7 (fun r2 => rI h v0 0 8 (fun r4 => isO h v0 0 (wX0_askSomething h v0 r2 r4 (fun h6 => isO h6 v0 0 (wX0_mayFail h6 v0 3 (fun h7 => rI h7 v0 0 8 (fun r8 => (¬ r8 = 5 → wX4_setOf h7 9 (fun r11 h10 => rR h10 v0 0 10 (fun r12 => rI h10 v0 0 7 (fun r14 => isO h10 r12 5 (wX7_has h10 r12 r14 6 (fun r17 h16 => (r17 = 0 → wbX0_askTake_69 v0 ((1 ||| r11)) h16 Q) ∧ (¬ r17 = 0 → wX4_setOf h16 8 (fun r19 h18 => wbX0_askTake_69 v0 (((1 ||| r11) ||| r19)) h18 Q)))))))) ∧ (r8 = 5 → wX4_setOf h7 1 (fun r21 h20 => wbX0_askTake_69 v0 ((1 ||| r21)) h20 Q)))))))))
set_option maxRecDepth 100000 in
theorem abX0_askTake_69 (l : Launch) (G : aG) (d : Nat) (hG : a_GT G) (hd : 5 ≤ d) {Q : aH → Prop} (v0 : Nat) (v1 : Int32) (h : aH) (hw : wbX0_askTake_69 v0 v1 h Q) : AW l G d 0 0 mX0_askTake (qV Q) 69 [(0, .ref v0), (1, .int v1)] [] h := by
  unfold wbX0_askTake_69 at hw
  refine aw_aload_n 0 dX0_askTake_69 rfl rfl ?_
  refine aw_iload_n 1 dX0_askTake_70 rfl rfl ?_
  obtain ⟨_, h1, hw⟩ := hw
  refine aw_virtV (As := [.int v1]) (rest := []) dX0_askTake_71 (acX0_makeAnew l G (d - 1) hG (by omega) hw) iX0_makeAnew rfl k_787 k_789 k_31 rfl h1 (by omega) (by decide) (by decide) rfl (Nat.le_of_ble_eq_true rfl) (fun h1 hw => ?_)
  exact aw_vret dX0_askTake_74 rfl ⟨rfl, hw⟩
set_option maxRecDepth 100000 in
theorem acX0_askTake (l : Launch) (G : aG) (d : Nat) (hG : a_GT G) (hd : 5 ≤ d) {Q : aH → Prop} {h : aH} {v0 : Nat} (hw : wX0_askTake h v0 Q) : AC l G d 0 0 mX0_askTake [.ref v0] h (qV Q) := by
  refine ac_of iX0_askTake (Nat.le_of_ble_eq_true rfl) ?_
  show AW l G d 0 0 mX0_askTake (qV Q) 0 [(0, .ref v0)] [] h
  unfold wX0_askTake at hw
  refine aw_aload_n 0 dX0_askTake_0 rfl rfl ?_
  refine aw_aload_n 0 dX0_askTake_1 rfl rfl ?_
  obtain ⟨fs3, r2, h1, h2, hw⟩ := hw
  refine aw_getf (k := 7) dX0_askTake_2 clX0 (by decide) k_267 (Or.inl rfl) h1 h2 ?_
  refine aw_aload_n 0 dX0_askTake_5 rfl rfl ?_
  obtain ⟨fs5, r4, h1, h2, hw⟩ := hw
  refine aw_getf (k := 8) dX0_askTake_6 clX0 (by decide) k_268 (Or.inl rfl) h1 h2 ?_
  obtain ⟨_, h1, hw⟩ := hw
  refine aw_virtV (As := [.int r2, .int r4]) (rest := []) dX0_askTake_9 (acX0_askSomething l G (d - 1) hG (by omega) hw) iX0_askSomething rfl k_815 k_817 k_35 rfl h1 (by omega) (by decide) (by decide) rfl (Nat.le_of_ble_eq_true rfl) (fun h6 hw => ?_)
  refine aw_aload_n 0 dX0_askTake_12 rfl rfl ?_
  refine aw_iconst (v := 3) dX0_askTake_13 (by decide) ?_
  obtain ⟨_, h1, hw⟩ := hw
  refine aw_virtV (As := [.int 3]) (rest := []) dX0_askTake_14 (acX0_mayFail l G (d - 1) hG (by omega) hw) iX0_mayFail rfl k_777 k_779 k_30 rfl h1 (by omega) (by decide) (by decide) rfl (Nat.le_of_ble_eq_true rfl) (fun h7 hw => ?_)
  refine aw_iconst (v := 1) dX0_askTake_17 (by decide) ?_
  refine aw_istore_n (lv' := [(1, .int 1), (0, .ref v0)]) dX0_askTake_18 rfl (by decide) rfl ?_
  refine aw_aload_n 1 dX0_askTake_19 rfl rfl ?_
  obtain ⟨fs9, r8, h1, h2, hw⟩ := hw
  refine aw_getf (k := 8) dX0_askTake_20 clX0 (by decide) k_268 (Or.inl rfl) h1 h2 ?_
  refine aw_iconst (v := 5) dX0_askTake_23 (by decide) ?_
  refine aw_icmp_ne (tgt := 37) dX0_askTake_24 (by decide) (fun z => ?_) (fun z => ?_)
  · have hw := hw.1 z
    refine aw_iload_n 0 dX0_askTake_37 rfl rfl ?_
    refine aw_bipush (v := 9) dX0_askTake_38 (by decide) ?_
    refine aw_staticI (As := [.int 9]) (rest := [.int 1]) dX0_askTake_40 (acX4_setOf l G (d - 1) hG (by omega) hw) iX4_setOf rfl k_766 k_767 (by omega) (by decide) (by decide) rfl (Nat.le_of_ble_eq_true rfl) (fun r11 h10 hw => ?_)
    refine aw_ior dX0_askTake_43 ?_
    refine aw_istore_n (lv' := [(1, .int (1 ||| r11)), (0, .ref v0)]) dX0_askTake_44 rfl (by decide) rfl ?_
    refine aw_aload_n 1 dX0_askTake_45 rfl rfl ?_
    obtain ⟨fs13, r12, h1, h2, hw⟩ := hw
    refine aw_getf (k := 10) dX0_askTake_46 clX0 (by decide) k_270 (Or.inl rfl) h1 h2 ?_
    refine aw_aload_n 1 dX0_askTake_49 rfl rfl ?_
    obtain ⟨fs15, r14, h1, h2, hw⟩ := hw
    refine aw_getf (k := 7) dX0_askTake_50 clX0 (by decide) k_267 (Or.inl rfl) h1 h2 ?_
    refine aw_bipush (v := 6) dX0_askTake_53 (by decide) ?_
    obtain ⟨_, h1, hw⟩ := hw
    refine aw_virtI (As := [.int r14, .int 6]) (rest := []) dX0_askTake_55 (acX7_has l G (d - 1) hG (by omega) hw) iX7_has rfl k_823 k_824 k_825 rfl h1 (by omega) (by decide) (by decide) rfl (Nat.le_of_ble_eq_true rfl) (fun r17 h16 hw => ?_)
    refine aw_if_eq (tgt := 69) dX0_askTake_58 (by decide) (fun z => ?_) (fun z => ?_)
    · have hw := hw.1 z
      refine aw_sub (lv' := [(0, .ref v0), (1, .int (1 ||| r11))]) [1, 0] rfl ?_
      exact abX0_askTake_69 l G d hG hd _ _ _ hw
    · have hw := hw.2 z
      refine aw_iload_n 0 dX0_askTake_61 rfl rfl ?_
      refine aw_bipush (v := 8) dX0_askTake_62 (by decide) ?_
      refine aw_staticI (As := [.int 8]) (rest := [.int (1 ||| r11)]) dX0_askTake_64 (acX4_setOf l G (d - 1) hG (by omega) hw) iX4_setOf rfl k_766 k_767 (by omega) (by decide) (by decide) rfl (Nat.le_of_ble_eq_true rfl) (fun r19 h18 hw => ?_)
      refine aw_ior dX0_askTake_67 ?_
      refine aw_istore_n (lv' := [(1, .int ((1 ||| r11) ||| r19)), (0, .ref v0)]) dX0_askTake_68 rfl (by decide) rfl ?_
      refine aw_sub (lv' := [(0, .ref v0), (1, .int ((1 ||| r11) ||| r19))]) [1, 0] rfl ?_
      exact abX0_askTake_69 l G d hG hd _ _ _ hw
  · have hw := hw.2 z
    refine aw_iload_n 0 dX0_askTake_27 rfl rfl ?_
    refine aw_iconst (v := 1) dX0_askTake_28 (by decide) ?_
    refine aw_staticI (As := [.int 1]) (rest := [.int 1]) dX0_askTake_29 (acX4_setOf l G (d - 1) hG (by omega) hw) iX4_setOf rfl k_766 k_767 (by omega) (by decide) (by decide) rfl (Nat.le_of_ble_eq_true rfl) (fun r21 h20 hw => ?_)
    refine aw_ior dX0_askTake_32 ?_
    refine aw_istore_n (lv' := [(1, .int (1 ||| r21)), (0, .ref v0)]) dX0_askTake_33 rfl (by decide) rfl ?_
    refine aw_goto (tgt := 69) dX0_askTake_34 (by decide) ?_
    refine aw_sub (lv' := [(0, .ref v0), (1, .int (1 ||| r21))]) [1, 0] rfl ?_
    exact abX0_askTake_69 l G d hG hd _ _ _ hw
-- X0_keepWhatLays
def wbX0_keepWhatLays_92 (h : aH) (Q : aH → Prop) : Prop :=
  Q h
def wbX0_keepWhatLays_74 (v0 : Nat) (v2 : Int32) (v3 : Int32) (h : aH) (Q : aH → Prop) : Prop :=
  (v3 = 0 → wbX0_keepWhatLays_92  h Q) ∧ (¬ v3 = 0 → rR h v0 0 10 (fun r1 => rI h v0 0 9 (fun r3 => isO h r1 5 (wX7_keep h r1 r3 ((v2 ^^^ (-1))) (fun h5 => wbX0_keepWhatLays_92 h5 Q)))))
def wbX0_keepWhatLays_53 (v0 : Nat) (v1 : Int32) (v2 : Int32) (v3 : Int32) (s0 : Int32) (h : aH) (Q : aH → Prop) : Prop :=
  (s0 = 0 → wbX0_keepWhatLays_74 v0 v2 v3 h Q) ∧ (¬ s0 = 0 → rR h v0 0 10 (fun r6 => rI h v0 0 6 (fun r8 => isO h r6 5 (wX7_keep h r6 r8 ((v1 ^^^ (-1))) (fun h10 => wbX0_keepWhatLays_74 v0 v2 v3 h10 Q)))))
def wbX0_keepWhatLays_32 (v0 : Nat) (v1 : Int32) (v2 : Int32) (s0 : Int32) (h : aH) (Q : aH → Prop) : Prop :=
  rR h v0 0 10 (fun r11 => rI h v0 0 9 (fun r13 => isO h r11 5 (wX7_of h r11 r13 (fun r16 h15 => (¬ r16 = v2 → wbX0_keepWhatLays_53 v0 v1 v2 s0 0 h15 Q) ∧ (r16 = v2 → wbX0_keepWhatLays_53 v0 v1 v2 s0 1 h15 Q)))))
def wX0_keepWhatLays (h : aH) (v0 : Nat) (Q : aH → Prop) : Prop :=
  wX4_setOf h 7 (fun r18 h17 => wX4_setOf h17 8 (fun r20 h19 => rR h19 v0 0 10 (fun r21 => rI h19 v0 0 6 (fun r23 => isO h19 r21 5 (wX7_of h19 r21 r23 (fun r26 h25 => (¬ r26 = r18 → wbX0_keepWhatLays_32 v0 r18 r20 0 h25 Q) ∧ (r26 = r18 → wbX0_keepWhatLays_32 v0 r18 r20 1 h25 Q)))))))
set_option maxRecDepth 100000 in
theorem abX0_keepWhatLays_92 (l : Launch) (G : aG) (d : Nat) (hG : a_GT G) (hd : 3 ≤ d) {Q : aH → Prop} (h : aH) (hw : wbX0_keepWhatLays_92  h Q) : AW l G d 0 0 mX0_keepWhatLays (qV Q) 92 [] [] h := by
  unfold wbX0_keepWhatLays_92 at hw
  exact aw_vret dX0_keepWhatLays_92 rfl ⟨rfl, hw⟩
set_option maxRecDepth 100000 in
theorem abX0_keepWhatLays_74 (l : Launch) (G : aG) (d : Nat) (hG : a_GT G) (hd : 3 ≤ d) {Q : aH → Prop} (v0 : Nat) (v2 : Int32) (v3 : Int32) (h : aH) (hw : wbX0_keepWhatLays_74 v0 v2 v3 h Q) : AW l G d 0 0 mX0_keepWhatLays (qV Q) 74 [(0, .ref v0), (2, .int v2), (3, .int v3)] [] h := by
  unfold wbX0_keepWhatLays_74 at hw
  refine aw_iload_n 2 dX0_keepWhatLays_74 rfl rfl ?_
  refine aw_if_eq (tgt := 92) dX0_keepWhatLays_75 (by decide) (fun z => ?_) (fun z => ?_)
  · have hw := hw.1 z
    refine aw_sub (lv' := []) [] rfl ?_
    exact abX0_keepWhatLays_92 l G d hG hd _ hw
  · have hw := hw.2 z
    refine aw_aload_n 0 dX0_keepWhatLays_78 rfl rfl ?_
    obtain ⟨fs2, r1, h1, h2, hw⟩ := hw
    refine aw_getf (k := 10) dX0_keepWhatLays_79 clX0 (by decide) k_270 (Or.inl rfl) h1 h2 ?_
    refine aw_aload_n 0 dX0_keepWhatLays_82 rfl rfl ?_
    obtain ⟨fs4, r3, h1, h2, hw⟩ := hw
    refine aw_getf (k := 9) dX0_keepWhatLays_83 clX0 (by decide) k_269 (Or.inl rfl) h1 h2 ?_
    refine aw_iload_n 1 dX0_keepWhatLays_86 rfl rfl ?_
    refine aw_iconst (v := (-1)) dX0_keepWhatLays_87 (by decide) ?_
    refine aw_ixor dX0_keepWhatLays_88 ?_
    obtain ⟨_, h1, hw⟩ := hw
    refine aw_virtV (As := [.int r3, .int (v2 ^^^ (-1))]) (rest := []) dX0_keepWhatLays_89 (acX7_keep l G (d - 1) hG (by omega) hw) iX7_keep rfl k_811 k_812 k_813 rfl h1 (by omega) (by decide) (by decide) rfl (Nat.le_of_ble_eq_true rfl) (fun h5 hw => ?_)
    refine aw_sub (lv' := []) [] rfl ?_
    exact abX0_keepWhatLays_92 l G d hG hd _ hw
set_option maxRecDepth 100000 in
theorem abX0_keepWhatLays_53 (l : Launch) (G : aG) (d : Nat) (hG : a_GT G) (hd : 3 ≤ d) {Q : aH → Prop} (v0 : Nat) (v1 : Int32) (v2 : Int32) (v3 : Int32) (s0 : Int32) (h : aH) (hw : wbX0_keepWhatLays_53 v0 v1 v2 v3 s0 h Q) : AW l G d 0 0 mX0_keepWhatLays (qV Q) 53 [(0, .ref v0), (1, .int v1), (2, .int v2), (3, .int v3)] [.int s0] h := by
  unfold wbX0_keepWhatLays_53 at hw
  refine aw_istore (lv' := [(4, .int s0), (0, .ref v0), (1, .int v1), (2, .int v2), (3, .int v3)]) dX0_keepWhatLays_53 (by decide) rfl ?_
  refine aw_iload 0 dX0_keepWhatLays_55 rfl ?_
  refine aw_if_eq (tgt := 74) dX0_keepWhatLays_57 (by decide) (fun z => ?_) (fun z => ?_)
  · have hw := hw.1 z
    refine aw_sub (lv' := [(0, .ref v0), (2, .int v2), (3, .int v3)]) [1, 3, 4] rfl ?_
    exact abX0_keepWhatLays_74 l G d hG hd _ _ _ _ hw
  · have hw := hw.2 z
    refine aw_aload_n 1 dX0_keepWhatLays_60 rfl rfl ?_
    obtain ⟨fs7, r6, h1, h2, hw⟩ := hw
    refine aw_getf (k := 10) dX0_keepWhatLays_61 clX0 (by decide) k_270 (Or.inl rfl) h1 h2 ?_
    refine aw_aload_n 1 dX0_keepWhatLays_64 rfl rfl ?_
    obtain ⟨fs9, r8, h1, h2, hw⟩ := hw
    refine aw_getf (k := 6) dX0_keepWhatLays_65 clX0 (by decide) k_266 (Or.inl rfl) h1 h2 ?_
    refine aw_iload_n 2 dX0_keepWhatLays_68 rfl rfl ?_
    refine aw_iconst (v := (-1)) dX0_keepWhatLays_69 (by decide) ?_
    refine aw_ixor dX0_keepWhatLays_70 ?_
    obtain ⟨_, h1, hw⟩ := hw
    refine aw_virtV (As := [.int r8, .int (v1 ^^^ (-1))]) (rest := []) dX0_keepWhatLays_71 (acX7_keep l G (d - 1) hG (by omega) hw) iX7_keep rfl k_811 k_812 k_813 rfl h1 (by omega) (by decide) (by decide) rfl (Nat.le_of_ble_eq_true rfl) (fun h10 hw => ?_)
    refine aw_sub (lv' := [(0, .ref v0), (2, .int v2), (3, .int v3)]) [1, 3, 4] rfl ?_
    exact abX0_keepWhatLays_74 l G d hG hd _ _ _ _ hw
set_option maxRecDepth 100000 in
theorem abX0_keepWhatLays_32 (l : Launch) (G : aG) (d : Nat) (hG : a_GT G) (hd : 3 ≤ d) {Q : aH → Prop} (v0 : Nat) (v1 : Int32) (v2 : Int32) (s0 : Int32) (h : aH) (hw : wbX0_keepWhatLays_32 v0 v1 v2 s0 h Q) : AW l G d 0 0 mX0_keepWhatLays (qV Q) 32 [(0, .ref v0), (1, .int v1), (2, .int v2)] [.int s0] h := by
  unfold wbX0_keepWhatLays_32 at hw
  refine aw_istore_n (lv' := [(3, .int s0), (0, .ref v0), (1, .int v1), (2, .int v2)]) dX0_keepWhatLays_32 rfl (by decide) rfl ?_
  refine aw_aload_n 1 dX0_keepWhatLays_33 rfl rfl ?_
  obtain ⟨fs12, r11, h1, h2, hw⟩ := hw
  refine aw_getf (k := 10) dX0_keepWhatLays_34 clX0 (by decide) k_270 (Or.inl rfl) h1 h2 ?_
  refine aw_aload_n 1 dX0_keepWhatLays_37 rfl rfl ?_
  obtain ⟨fs14, r13, h1, h2, hw⟩ := hw
  refine aw_getf (k := 9) dX0_keepWhatLays_38 clX0 (by decide) k_269 (Or.inl rfl) h1 h2 ?_
  obtain ⟨_, h1, hw⟩ := hw
  refine aw_virtI (As := [.int r13]) (rest := []) dX0_keepWhatLays_41 (acX7_of l G (d - 1) hG (by omega) hw) iX7_of rfl k_806 k_711 k_712 rfl h1 (by omega) (by decide) (by decide) rfl (Nat.le_of_ble_eq_true rfl) (fun r16 h15 hw => ?_)
  refine aw_iload_n 3 dX0_keepWhatLays_44 rfl rfl ?_
  refine aw_icmp_ne (tgt := 52) dX0_keepWhatLays_45 (by decide) (fun z => ?_) (fun z => ?_)
  · have hw := hw.1 z
    refine aw_iconst (v := 0) dX0_keepWhatLays_52 (by decide) ?_
    refine aw_sub (lv' := [(0, .ref v0), (1, .int v1), (2, .int v2), (3, .int s0)]) [1, 2, 3, 0] rfl ?_
    exact abX0_keepWhatLays_53 l G d hG hd _ _ _ _ _ _ hw
  · have hw := hw.2 z
    refine aw_iconst (v := 1) dX0_keepWhatLays_48 (by decide) ?_
    refine aw_goto (tgt := 53) dX0_keepWhatLays_49 (by decide) ?_
    refine aw_sub (lv' := [(0, .ref v0), (1, .int v1), (2, .int v2), (3, .int s0)]) [1, 2, 3, 0] rfl ?_
    exact abX0_keepWhatLays_53 l G d hG hd _ _ _ _ _ _ hw
set_option maxRecDepth 100000 in
theorem acX0_keepWhatLays (l : Launch) (G : aG) (d : Nat) (hG : a_GT G) (hd : 3 ≤ d) {Q : aH → Prop} {h : aH} {v0 : Nat} (hw : wX0_keepWhatLays h v0 Q) : AC l G d 0 0 mX0_keepWhatLays [.ref v0] h (qV Q) := by
  refine ac_of iX0_keepWhatLays (Nat.le_of_ble_eq_true rfl) ?_
  show AW l G d 0 0 mX0_keepWhatLays (qV Q) 0 [(0, .ref v0)] [] h
  unfold wX0_keepWhatLays at hw
  refine aw_bipush (v := 7) dX0_keepWhatLays_0 (by decide) ?_
  refine aw_staticI (As := [.int 7]) (rest := []) dX0_keepWhatLays_2 (acX4_setOf l G (d - 1) hG (by omega) hw) iX4_setOf rfl k_766 k_767 (by omega) (by decide) (by decide) rfl (Nat.le_of_ble_eq_true rfl) (fun r18 h17 hw => ?_)
  refine aw_istore_n (lv' := [(1, .int r18), (0, .ref v0)]) dX0_keepWhatLays_5 rfl (by decide) rfl ?_
  refine aw_bipush (v := 8) dX0_keepWhatLays_6 (by decide) ?_
  refine aw_staticI (As := [.int 8]) (rest := []) dX0_keepWhatLays_8 (acX4_setOf l G (d - 1) hG (by omega) hw) iX4_setOf rfl k_766 k_767 (by omega) (by decide) (by decide) rfl (Nat.le_of_ble_eq_true rfl) (fun r20 h19 hw => ?_)
  refine aw_istore_n (lv' := [(2, .int r20), (1, .int r18), (0, .ref v0)]) dX0_keepWhatLays_11 rfl (by decide) rfl ?_
  refine aw_aload_n 2 dX0_keepWhatLays_12 rfl rfl ?_
  obtain ⟨fs22, r21, h1, h2, hw⟩ := hw
  refine aw_getf (k := 10) dX0_keepWhatLays_13 clX0 (by decide) k_270 (Or.inl rfl) h1 h2 ?_
  refine aw_aload_n 2 dX0_keepWhatLays_16 rfl rfl ?_
  obtain ⟨fs24, r23, h1, h2, hw⟩ := hw
  refine aw_getf (k := 6) dX0_keepWhatLays_17 clX0 (by decide) k_266 (Or.inl rfl) h1 h2 ?_
  obtain ⟨_, h1, hw⟩ := hw
  refine aw_virtI (As := [.int r23]) (rest := []) dX0_keepWhatLays_20 (acX7_of l G (d - 1) hG (by omega) hw) iX7_of rfl k_806 k_711 k_712 rfl h1 (by omega) (by decide) (by decide) rfl (Nat.le_of_ble_eq_true rfl) (fun r26 h25 hw => ?_)
  refine aw_iload_n 1 dX0_keepWhatLays_23 rfl rfl ?_
  refine aw_icmp_ne (tgt := 31) dX0_keepWhatLays_24 (by decide) (fun z => ?_) (fun z => ?_)
  · have hw := hw.1 z
    refine aw_iconst (v := 0) dX0_keepWhatLays_31 (by decide) ?_
    refine aw_sub (lv' := [(0, .ref v0), (1, .int r18), (2, .int r20)]) [2, 1, 0] rfl ?_
    exact abX0_keepWhatLays_32 l G d hG hd _ _ _ _ _ hw
  · have hw := hw.2 z
    refine aw_iconst (v := 1) dX0_keepWhatLays_27 (by decide) ?_
    refine aw_goto (tgt := 32) dX0_keepWhatLays_28 (by decide) ?_
    refine aw_sub (lv' := [(0, .ref v0), (1, .int r18), (2, .int r20)]) [2, 1, 0] rfl ?_
    exact abX0_keepWhatLays_32 l G d hG hd _ _ _ _ _ hw
-- X0_askLay
def wbX0_askLay_83 (h : aH) (Q : aH → Prop) : Prop :=
  Q h
def wX0_askLay (h : aH) (v0 : Nat) (Q : aH → Prop) : Prop :=
  rI h v0 0 6 (fun r1 => rI h v0 0 7 (fun r3 => isO h v0 0 (wX0_askAs h v0 r1 r3 (fun h5 => rI h5 v0 0 9 (fun r6 => rI h5 v0 0 7 (fun r8 => wX4_ofItems h5 r8 (fun r11 h10 => isO h10 v0 0 (wX0_askAs h10 v0 r6 r11 (fun h12 => rI h12 v0 0 6 (fun r13 => isO h12 v0 0 (wX0_failFor h12 v0 1 r13 1 (fun h15 => isO h15 v0 0 (wX0_mayFail h15 v0 3 (fun h16 => rR h16 v0 0 10 (fun r17 => rI h16 v0 0 6 (fun r19 => isO h16 r17 5 (wX7_has h16 r17 r19 7 (fun r22 h21 => (r22 = 0 → wbX0_askLay_83 h21 Q) ∧ (¬ r22 = 0 → rR h21 v0 0 10 (fun r23 => rI h21 v0 0 9 (fun r25 => isO h21 r23 5 (wX7_has h21 r23 r25 8 (fun r28 h27 => (r28 = 0 → wbX0_askLay_83 h27 Q) ∧ (¬ r28 = 0 → isO h27 v0 0 (wX0_mayFail h27 v0 5 (fun h29 => isO h29 v0 0 (wX0_keepWhatLays h29 v0 (fun h30 => wbX0_askLay_83 h30 Q))))))))))))))))))))))))))))
set_option maxRecDepth 100000 in
theorem abX0_askLay_83 (l : Launch) (G : aG) (d : Nat) (hG : a_GT G) (hd : 5 ≤ d) {Q : aH → Prop} (h : aH) (hw : wbX0_askLay_83  h Q) : AW l G d 0 0 mX0_askLay (qV Q) 83 [] [] h := by
  unfold wbX0_askLay_83 at hw
  exact aw_vret dX0_askLay_83 rfl ⟨rfl, hw⟩
set_option maxRecDepth 100000 in
theorem acX0_askLay (l : Launch) (G : aG) (d : Nat) (hG : a_GT G) (hd : 5 ≤ d) {Q : aH → Prop} {h : aH} {v0 : Nat} (hw : wX0_askLay h v0 Q) : AC l G d 0 0 mX0_askLay [.ref v0] h (qV Q) := by
  refine ac_of iX0_askLay (Nat.le_of_ble_eq_true rfl) ?_
  show AW l G d 0 0 mX0_askLay (qV Q) 0 [(0, .ref v0)] [] h
  unfold wX0_askLay at hw
  refine aw_aload_n 0 dX0_askLay_0 rfl rfl ?_
  refine aw_aload_n 0 dX0_askLay_1 rfl rfl ?_
  obtain ⟨fs2, r1, h1, h2, hw⟩ := hw
  refine aw_getf (k := 6) dX0_askLay_2 clX0 (by decide) k_266 (Or.inl rfl) h1 h2 ?_
  refine aw_aload_n 0 dX0_askLay_5 rfl rfl ?_
  obtain ⟨fs4, r3, h1, h2, hw⟩ := hw
  refine aw_getf (k := 7) dX0_askLay_6 clX0 (by decide) k_267 (Or.inl rfl) h1 h2 ?_
  obtain ⟨_, h1, hw⟩ := hw
  refine aw_virtV (As := [.int r1, .int r3]) (rest := []) dX0_askLay_9 (acX0_askAs l G (d - 1) hG (by omega) hw) iX0_askAs rfl k_797 k_799 k_33 rfl h1 (by omega) (by decide) (by decide) rfl (Nat.le_of_ble_eq_true rfl) (fun h5 hw => ?_)
  refine aw_aload_n 0 dX0_askLay_12 rfl rfl ?_
  refine aw_aload_n 0 dX0_askLay_13 rfl rfl ?_
  obtain ⟨fs7, r6, h1, h2, hw⟩ := hw
  refine aw_getf (k := 9) dX0_askLay_14 clX0 (by decide) k_269 (Or.inl rfl) h1 h2 ?_
  refine aw_aload_n 0 dX0_askLay_17 rfl rfl ?_
  obtain ⟨fs9, r8, h1, h2, hw⟩ := hw
  refine aw_getf (k := 7) dX0_askLay_18 clX0 (by decide) k_267 (Or.inl rfl) h1 h2 ?_
  refine aw_staticI (As := [.int r8]) (rest := [.int r6, .ref v0]) dX0_askLay_21 (acX4_ofItems l G (d - 1) hG (by omega) hw) iX4_ofItems rfl k_832 k_566 (by omega) (by decide) (by decide) rfl (Nat.le_of_ble_eq_true rfl) (fun r11 h10 hw => ?_)
  obtain ⟨_, h1, hw⟩ := hw
  refine aw_virtV (As := [.int r6, .int r11]) (rest := []) dX0_askLay_24 (acX0_askAs l G (d - 1) hG (by omega) hw) iX0_askAs rfl k_797 k_799 k_33 rfl h1 (by omega) (by decide) (by decide) rfl (Nat.le_of_ble_eq_true rfl) (fun h12 hw => ?_)
  refine aw_aload_n 0 dX0_askLay_27 rfl rfl ?_
  refine aw_iconst (v := 1) dX0_askLay_28 (by decide) ?_
  refine aw_aload_n 0 dX0_askLay_29 rfl rfl ?_
  obtain ⟨fs14, r13, h1, h2, hw⟩ := hw
  refine aw_getf (k := 6) dX0_askLay_30 clX0 (by decide) k_266 (Or.inl rfl) h1 h2 ?_
  refine aw_iconst (v := 1) dX0_askLay_33 (by decide) ?_
  obtain ⟨_, h1, hw⟩ := hw
  refine aw_virtV (As := [.int 1, .int r13, .int 1]) (rest := []) dX0_askLay_34 (acX0_failFor l G (d - 1) hG (by omega) hw) iX0_failFor rfl k_802 k_804 k_34 rfl h1 (by omega) (by decide) (by decide) rfl (Nat.le_of_ble_eq_true rfl) (fun h15 hw => ?_)
  refine aw_aload_n 0 dX0_askLay_37 rfl rfl ?_
  refine aw_iconst (v := 3) dX0_askLay_38 (by decide) ?_
  obtain ⟨_, h1, hw⟩ := hw
  refine aw_virtV (As := [.int 3]) (rest := []) dX0_askLay_39 (acX0_mayFail l G (d - 1) hG (by omega) hw) iX0_mayFail rfl k_777 k_779 k_30 rfl h1 (by omega) (by decide) (by decide) rfl (Nat.le_of_ble_eq_true rfl) (fun h16 hw => ?_)
  refine aw_aload_n 0 dX0_askLay_42 rfl rfl ?_
  obtain ⟨fs18, r17, h1, h2, hw⟩ := hw
  refine aw_getf (k := 10) dX0_askLay_43 clX0 (by decide) k_270 (Or.inl rfl) h1 h2 ?_
  refine aw_aload_n 0 dX0_askLay_46 rfl rfl ?_
  obtain ⟨fs20, r19, h1, h2, hw⟩ := hw
  refine aw_getf (k := 6) dX0_askLay_47 clX0 (by decide) k_266 (Or.inl rfl) h1 h2 ?_
  refine aw_bipush (v := 7) dX0_askLay_50 (by decide) ?_
  obtain ⟨_, h1, hw⟩ := hw
  refine aw_virtI (As := [.int r19, .int 7]) (rest := []) dX0_askLay_52 (acX7_has l G (d - 1) hG (by omega) hw) iX7_has rfl k_823 k_824 k_825 rfl h1 (by omega) (by decide) (by decide) rfl (Nat.le_of_ble_eq_true rfl) (fun r22 h21 hw => ?_)
  refine aw_if_eq (tgt := 83) dX0_askLay_55 (by decide) (fun z => ?_) (fun z => ?_)
  · have hw := hw.1 z
    refine aw_sub (lv' := []) [] rfl ?_
    exact abX0_askLay_83 l G d hG hd _ hw
  · have hw := hw.2 z
    refine aw_aload_n 0 dX0_askLay_58 rfl rfl ?_
    obtain ⟨fs24, r23, h1, h2, hw⟩ := hw
    refine aw_getf (k := 10) dX0_askLay_59 clX0 (by decide) k_270 (Or.inl rfl) h1 h2 ?_
    refine aw_aload_n 0 dX0_askLay_62 rfl rfl ?_
    obtain ⟨fs26, r25, h1, h2, hw⟩ := hw
    refine aw_getf (k := 9) dX0_askLay_63 clX0 (by decide) k_269 (Or.inl rfl) h1 h2 ?_
    refine aw_bipush (v := 8) dX0_askLay_66 (by decide) ?_
    obtain ⟨_, h1, hw⟩ := hw
    refine aw_virtI (As := [.int r25, .int 8]) (rest := []) dX0_askLay_68 (acX7_has l G (d - 1) hG (by omega) hw) iX7_has rfl k_823 k_824 k_825 rfl h1 (by omega) (by decide) (by decide) rfl (Nat.le_of_ble_eq_true rfl) (fun r28 h27 hw => ?_)
    refine aw_if_eq (tgt := 83) dX0_askLay_71 (by decide) (fun z => ?_) (fun z => ?_)
    · have hw := hw.1 z
      refine aw_sub (lv' := []) [] rfl ?_
      exact abX0_askLay_83 l G d hG hd _ hw
    · have hw := hw.2 z
      refine aw_aload_n 0 dX0_askLay_74 rfl rfl ?_
      refine aw_iconst (v := 5) dX0_askLay_75 (by decide) ?_
      obtain ⟨_, h1, hw⟩ := hw
      refine aw_virtV (As := [.int 5]) (rest := []) dX0_askLay_76 (acX0_mayFail l G (d - 1) hG (by omega) hw) iX0_mayFail rfl k_777 k_779 k_30 rfl h1 (by omega) (by decide) (by decide) rfl (Nat.le_of_ble_eq_true rfl) (fun h29 hw => ?_)
      refine aw_aload_n 0 dX0_askLay_79 rfl rfl ?_
      obtain ⟨_, h1, hw⟩ := hw
      refine aw_virtV (As := []) (rest := []) dX0_askLay_80 (acX0_keepWhatLays l G (d - 1) hG (by omega) hw) iX0_keepWhatLays rfl k_833 k_835 k_38 rfl h1 (by omega) (by decide) (by decide) rfl (Nat.le_of_ble_eq_true rfl) (fun h30 hw => ?_)
      refine aw_sub (lv' := []) [] rfl ?_
      exact abX0_askLay_83 l G d hG hd _ hw
-- X4_meeting
def wbX4_meeting_34 (K4 : Int32 → Int32 → Int32 → Int32 →  aH → Prop) (v0 : Int32) (v1 : Int32) (v2 : Int32) (v3 : Int32) (h : aH) (Q : Int32 → aH → Prop) : Prop :=
  K4 v0 v1 v2 ((v3 + 1)) h
def wbX4_meeting_4_i (K4 : Int32 → Int32 → Int32 → Int32 →  aH → Prop) (v0 : Int32) (v1 : Int32) (v2 : Int32) (v3 : Int32) (h : aH) (Q : Int32 → aH → Prop) : Prop :=
  (9 < v3 → Q v2 h) ∧ (¬ 9 < v3 → wX4_has h v0 v3 (fun r2 h1 => (r2 = 0 → wbX4_meeting_34 K4 v0 v1 v2 v3 h1 Q) ∧ (¬ r2 = 0 → wX4_thoseThatMeet h1 v3 (fun r4 h3 => ((r4 &&& v1) = 0 → wbX4_meeting_34 K4 v0 v1 v2 v3 h3 Q) ∧ (¬ (r4 &&& v1) = 0 → wX4_setOf h3 v3 (fun r6 h5 => wbX4_meeting_34 K4 v0 v1 ((v2 ||| r6)) v3 h5 Q))))))
def wbX4_meeting_4 (n : Nat) (v0 : Int32) (v1 : Int32) (v2 : Int32) (v3 : Int32) (h : aH) (Q : Int32 → aH → Prop) : Prop := match n with
  | 0 => False
  | n + 1 => wbX4_meeting_4_i (fun v0 v1 v2 v3 h => wbX4_meeting_4 n v0 v1 v2 v3 h Q) v0 v1 v2 v3 h Q
def wX4_meeting (h : aH) (v0 : Int32) (v1 : Int32) (Q : Int32 → aH → Prop) : Prop :=
  ∃ n, wbX4_meeting_4 n v0 v1 0 0 h Q
set_option maxRecDepth 100000 in
theorem abX4_meeting_34 (l : Launch) (G : aG) (d : Nat) (hG : a_GT G) (hd : 2 ≤ d) {Q : Int32 → aH → Prop} {K4 : Int32 → Int32 → Int32 → Int32 →  aH → Prop} (kk4 : ∀ (v0 : Int32) (v1 : Int32) (v2 : Int32) (v3 : Int32) (h : aH), K4 v0 v1 v2 v3 h → AW l G d 0 0 mX4_meeting (qI Q) 4 [(0, .int v0), (1, .int v1), (2, .int v2), (3, .int v3)] [] h) (v0 : Int32) (v1 : Int32) (v2 : Int32) (v3 : Int32) (h : aH) (hw : wbX4_meeting_34 K4 v0 v1 v2 v3 h Q) : AW l G d 0 0 mX4_meeting (qI Q) 34 [(0, .int v0), (1, .int v1), (2, .int v2), (3, .int v3)] [] h := by
  unfold wbX4_meeting_34 at hw
  refine aw_iinc (v := (v3 + 1)) (lv' := [(3, .int (v3 + 1)), (0, .int v0), (1, .int v1), (2, .int v2)]) 3 dX4_meeting_34 rfl rfl (by decide) rfl ?_
  refine aw_goto (tgt := 4) dX4_meeting_37 (by decide) ?_
  refine aw_sub (lv' := [(0, .int v0), (1, .int v1), (2, .int v2), (3, .int (v3 + 1))]) [1, 2, 3, 0] rfl ?_
  exact kk4 _ _ _ _ _ hw
set_option maxRecDepth 100000 in
theorem abX4_meeting_4_i (l : Launch) (G : aG) (d : Nat) (hG : a_GT G) (hd : 2 ≤ d) {Q : Int32 → aH → Prop} {K4 : Int32 → Int32 → Int32 → Int32 →  aH → Prop} (kk4 : ∀ (v0 : Int32) (v1 : Int32) (v2 : Int32) (v3 : Int32) (h : aH), K4 v0 v1 v2 v3 h → AW l G d 0 0 mX4_meeting (qI Q) 4 [(0, .int v0), (1, .int v1), (2, .int v2), (3, .int v3)] [] h) (v0 : Int32) (v1 : Int32) (v2 : Int32) (v3 : Int32) (h : aH) (hw : wbX4_meeting_4_i K4 v0 v1 v2 v3 h Q) : AW l G d 0 0 mX4_meeting (qI Q) 4 [(0, .int v0), (1, .int v1), (2, .int v2), (3, .int v3)] [] h := by
  unfold wbX4_meeting_4_i at hw
  refine aw_iload_n 3 dX4_meeting_4 rfl rfl ?_
  refine aw_bipush (v := 9) dX4_meeting_5 (by decide) ?_
  refine aw_icmp_gt (tgt := 40) dX4_meeting_7 (by decide) (fun z => ?_) (fun z => ?_)
  · have hw := hw.1 z
    refine aw_iload_n 2 dX4_meeting_40 rfl rfl ?_
    exact aw_iret dX4_meeting_41 rfl rfl ⟨_, rfl, hw⟩
  · have hw := hw.2 z
    refine aw_iload_n 0 dX4_meeting_10 rfl rfl ?_
    refine aw_iload_n 3 dX4_meeting_11 rfl rfl ?_
    refine aw_staticI (As := [.int v0, .int v3]) (rest := []) dX4_meeting_12 (acX4_has l G (d - 1) hG (by omega) hw) iX4_has rfl k_844 k_538 (by omega) (by decide) (by decide) rfl (Nat.le_of_ble_eq_true rfl) (fun r2 h1 hw => ?_)
    refine aw_if_eq (tgt := 34) dX4_meeting_15 (by decide) (fun z => ?_) (fun z => ?_)
    · have hw := hw.1 z
      exact abX4_meeting_34 l G d hG hd kk4 _ _ _ _ _ hw
    · have hw := hw.2 z
      refine aw_iload_n 3 dX4_meeting_18 rfl rfl ?_
      refine aw_staticI (As := [.int v3]) (rest := []) dX4_meeting_19 (acX4_thoseThatMeet l G (d - 1) hG (by omega) hw) iX4_thoseThatMeet rfl k_853 k_617 (by omega) (by decide) (by decide) rfl (Nat.le_of_ble_eq_true rfl) (fun r4 h3 hw => ?_)
      refine aw_iload_n 1 dX4_meeting_22 rfl rfl ?_
      refine aw_iand dX4_meeting_23 ?_
      refine aw_if_eq (tgt := 34) dX4_meeting_24 (by decide) (fun z => ?_) (fun z => ?_)
      · have hw := hw.1 z
        exact abX4_meeting_34 l G d hG hd kk4 _ _ _ _ _ hw
      · have hw := hw.2 z
        refine aw_iload_n 2 dX4_meeting_27 rfl rfl ?_
        refine aw_iload_n 3 dX4_meeting_28 rfl rfl ?_
        refine aw_staticI (As := [.int v3]) (rest := [.int v2]) dX4_meeting_29 (acX4_setOf l G (d - 1) hG (by omega) hw) iX4_setOf rfl k_854 k_767 (by omega) (by decide) (by decide) rfl (Nat.le_of_ble_eq_true rfl) (fun r6 h5 hw => ?_)
        refine aw_ior dX4_meeting_32 ?_
        refine aw_istore_n (lv' := [(2, .int (v2 ||| r6)), (0, .int v0), (1, .int v1), (3, .int v3)]) dX4_meeting_33 rfl (by decide) rfl ?_
        refine aw_sub (lv' := [(0, .int v0), (1, .int v1), (2, .int (v2 ||| r6)), (3, .int v3)]) [1, 2, 0, 3] rfl ?_
        exact abX4_meeting_34 l G d hG hd kk4 _ _ _ _ _ hw
set_option maxRecDepth 100000 in
theorem abX4_meeting_4 (l : Launch) (G : aG) (d : Nat) (hG : a_GT G) (hd : 2 ≤ d) {Q : Int32 → aH → Prop} (n : Nat) : ∀  (v0 : Int32) (v1 : Int32) (v2 : Int32) (v3 : Int32) (h : aH), wbX4_meeting_4 n v0 v1 v2 v3 h Q → AW l G d 0 0 mX4_meeting (qI Q) 4 [(0, .int v0), (1, .int v1), (2, .int v2), (3, .int v3)] [] h := by
  induction n with
  | zero => exact fun _ _ _ _ _ hw => hw.elim
  | succ n ih => exact fun _ _ _ _ _ hw => abX4_meeting_4_i l G d hG hd ih _ _ _ _ _ hw
set_option maxRecDepth 100000 in
theorem acX4_meeting (l : Launch) (G : aG) (d : Nat) (hG : a_GT G) (hd : 2 ≤ d) {Q : Int32 → aH → Prop} {h : aH} {v0 : Int32} {v1 : Int32} (hw : wX4_meeting h v0 v1 Q) : AC l G d 0 0 mX4_meeting [.int v0, .int v1] h (qI Q) := by
  refine ac_of iX4_meeting (Nat.le_of_ble_eq_true rfl) ?_
  show AW l G d 0 0 mX4_meeting (qI Q) 0 [(0, .int v0), (1, .int v1)] [] h
  unfold wX4_meeting at hw
  refine aw_iconst (v := 0) dX4_meeting_0 (by decide) ?_
  refine aw_istore_n (lv' := [(2, .int 0), (0, .int v0), (1, .int v1)]) dX4_meeting_1 rfl (by decide) rfl ?_
  refine aw_iconst (v := 0) dX4_meeting_2 (by decide) ?_
  refine aw_istore_n (lv' := [(3, .int 0), (2, .int 0), (0, .int v0), (1, .int v1)]) dX4_meeting_3 rfl (by decide) rfl ?_
  obtain ⟨n, hw⟩ := hw
  refine aw_sub (lv' := [(0, .int v0), (1, .int v1), (2, .int 0), (3, .int 0)]) [2, 3, 1, 0] rfl ?_
  exact abX4_meeting_4 l G d hG hd n _ _ _ _ _ hw
