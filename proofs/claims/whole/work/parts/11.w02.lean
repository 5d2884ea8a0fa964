-- X4_thoseThatTakeAllOf
def wbX4_thoseThatTakeAllOf_21 (s0 : Int32) (h : aH) (Q : Int32 → aH → Prop) : Prop :=
  Q s0 h
def wbX4_thoseThatTakeAllOf_20 (h : aH) (Q : Int32 → aH → Prop) : Prop :=
  wbX4_thoseThatTakeAllOf_21 0 h Q
def wX4_thoseThatTakeAllOf (h : aH) (v0 : Int32) (Q : Int32 → aH → Prop) : Prop :=
  (v0 < 0 → wbX4_thoseThatTakeAllOf_20  h Q) ∧ (¬ v0 < 0 → (10 ≤ v0 → wbX4_thoseThatTakeAllOf_20  h Q) ∧ (¬ 10 ≤ v0 → tB 3 v0 (fun r1 => wbX4_thoseThatTakeAllOf_21 r1 h Q)))
set_option maxRecDepth 100000 in
theorem abX4_thoseThatTakeAllOf_21 (l : Launch) (G : aG) (d : Nat) (hG : a_GT G) (hd : 1 ≤ d) {Q : Int32 → aH → Prop} (s0 : Int32) (h : aH) (hw : wbX4_thoseThatTakeAllOf_21 s0 h Q) : AW l G d 0 0 mX4_thoseThatTakeAllOf (qI Q) 21 [] [.int s0] h := by
  unfold wbX4_thoseThatTakeAllOf_21 at hw
  exact aw_iret dX4_thoseThatTakeAllOf_21 rfl rfl ⟨_, rfl, hw⟩
set_option maxRecDepth 100000 in
theorem abX4_thoseThatTakeAllOf_20 (l : Launch) (G : aG) (d : Nat) (hG : a_GT G) (hd : 1 ≤ d) {Q : Int32 → aH → Prop} (h : aH) (hw : wbX4_thoseThatTakeAllOf_20  h Q) : AW l G d 0 0 mX4_thoseThatTakeAllOf (qI Q) 20 [] [] h := by
  unfold wbX4_thoseThatTakeAllOf_20 at hw
  refine aw_iconst (v := 0) dX4_thoseThatTakeAllOf_20 (by decide) ?_
  exact abX4_thoseThatTakeAllOf_21 l G d hG hd _ _ hw
set_option maxRecDepth 100000 in
theorem acX4_thoseThatTakeAllOf (l : Launch) (G : aG) (d : Nat) (hG : a_GT G) (hd : 1 ≤ d) {Q : Int32 → aH → Prop} {h : aH} {v0 : Int32} (hw : wX4_thoseThatTakeAllOf h v0 Q) : AC l G d 0 0 mX4_thoseThatTakeAllOf [.int v0] h (qI Q) := by
  refine ac_of iX4_thoseThatTakeAllOf (Nat.le_of_ble_eq_true rfl) ?_
  show AW l G d 0 0 mX4_thoseThatTakeAllOf (qI Q) 0 [(0, .int v0)] [] h
  unfold wX4_thoseThatTakeAllOf at hw
  refine aw_iload_n 0 dX4_thoseThatTakeAllOf_0 rfl rfl ?_
  refine aw_if_lt (tgt := 20) dX4_thoseThatTakeAllOf_1 (by decide) (fun z => ?_) (fun z => ?_)
  · have hw := hw.1 z
    refine aw_sub (lv' := []) [] rfl ?_
    exact abX4_thoseThatTakeAllOf_20 l G d hG hd _ hw
  · have hw := hw.2 z
    refine aw_iload_n 0 dX4_thoseThatTakeAllOf_4 rfl rfl ?_
    refine aw_gets 3 (by decide) dX4_thoseThatTakeAllOf_5 rfl k_848 ?_
    refine aw_tL 3 (by decide) hG (v := 10) dX4_thoseThatTakeAllOf_8 (by decide) ?_
    refine aw_icmp_ge (tgt := 20) dX4_thoseThatTakeAllOf_9 (by decide) (fun z => ?_) (fun z => ?_)
    · have hw := hw.1 z
      refine aw_sub (lv' := []) [] rfl ?_
      exact abX4_thoseThatTakeAllOf_20 l G d hG hd _ hw
    · have hw := hw.2 z
      refine aw_gets 3 (by decide) dX4_thoseThatTakeAllOf_12 rfl k_848 ?_
      refine aw_iload_n 0 dX4_thoseThatTakeAllOf_15 rfl rfl ?_
      obtain ⟨r1, h1, h2, hw⟩ := hw
      refine aw_tB 3 (by decide) hG dX4_thoseThatTakeAllOf_16 h1 h2 ?_
      refine aw_goto (tgt := 21) dX4_thoseThatTakeAllOf_17 (by decide) ?_
      refine aw_sub (lv' := []) [] rfl ?_
      exact abX4_thoseThatTakeAllOf_21 l G d hG hd _ _ hw
-- X4_copyMayFailByStore
def wbX4_copyMayFailByStore_29 (K2 : Int32 → Int32 → Int32 →  aH → Prop) (v0 : Int32) (v1 : Int32) (v2 : Int32) (h : aH) (Q : Int32 → aH → Prop) : Prop :=
  K2 v0 v1 ((v2 + 1)) h
def wbX4_copyMayFailByStore_2_i (K2 : Int32 → Int32 → Int32 →  aH → Prop) (v0 : Int32) (v1 : Int32) (v2 : Int32) (h : aH) (Q : Int32 → aH → Prop) : Prop :=
  (9 < v2 → oB 0 ∧ Q 0 h) ∧ (¬ 9 < v2 → wX4_has h v0 v2 (fun r2 h1 => (r2 = 0 → wbX4_copyMayFailByStore_29 K2 v0 v1 v2 h1 Q) ∧ (¬ r2 = 0 → wX4_thoseThatTakeAllOf h1 v2 (fun r4 h3 => ((v1 &&& (r4 ^^^ (-1))) = 0 → wbX4_copyMayFailByStore_29 K2 v0 v1 v2 h3 Q) ∧ (¬ (v1 &&& (r4 ^^^ (-1))) = 0 → oB 1 ∧ Q 1 h3)))))
def wbX4_copyMayFailByStore_2 (n : Nat) (v0 : Int32) (v1 : Int32) (v2 : Int32) (h : aH) (Q : Int32 → aH → Prop) : Prop := match n with
  | 0 => False
  | n + 1 => wbX4_copyMayFailByStore_2_i (fun v0 v1 v2 h => wbX4_copyMayFailByStore_2 n v0 v1 v2 h Q) v0 v1 v2 h Q
def wX4_copyMayFailByStore (h : aH) (v0 : Int32) (v1 : Int32) (Q : Int32 → aH → Prop) : Prop :=
  ∃ n, wbX4_copyMayFailByStore_2 n v0 v1 0 h Q
set_option maxRecDepth 100000 in
theorem abX4_copyMayFailByStore_29 (l : Launch) (G : aG) (d : Nat) (hG : a_GT G) (hd : 2 ≤ d) {Q : Int32 → aH → Prop} {K2 : Int32 → Int32 → Int32 →  aH → Prop} (kk2 : ∀ (v0 : Int32) (v1 : Int32) (v2 : Int32) (h : aH), K2 v0 v1 v2 h → AW l G d 0 0 mX4_copyMayFailByStore (qI Q) 2 [(0, .int v0), (1, .int v1), (2, .int v2)] [] h) (v0 : Int32) (v1 : Int32) (v2 : Int32) (h : aH) (hw : wbX4_copyMayFailByStore_29 K2 v0 v1 v2 h Q) : AW l G d 0 0 mX4_copyMayFailByStore (qI Q) 29 [(0, .int v0), (1, .int v1), (2, .int v2)] [] h := by
  unfold wbX4_copyMayFailByStore_29 at hw
  refine aw_iinc (v := (v2 + 1)) (lv' := [(2, .int (v2 + 1)), (0, .int v0), (1, .int v1)]) 2 dX4_copyMayFailByStore_29 rfl rfl (by decide) rfl ?_
  refine aw_goto (tgt := 2) dX4_copyMayFailByStore_32 (by decide) ?_
  refine aw_sub (lv' := [(0, .int v0), (1, .int v1), (2, .int (v2 + 1))]) [1, 2, 0] rfl ?_
  exact kk2 _ _ _ _ hw
set_option maxRecDepth 100000 in
theorem abX4_copyMayFailByStore_2_i (l : Launch) (G : aG) (d : Nat) (hG : a_GT G) (hd : 2 ≤ d) {Q : Int32 → aH → Prop} {K2 : Int32 → Int32 → Int32 →  aH → Prop} (kk2 : ∀ (v0 : Int32) (v1 : Int32) (v2 : Int32) (h : aH), K2 v0 v1 v2 h → AW l G d 0 0 mX4_copyMayFailByStore (qI Q) 2 [(0, .int v0), (1, .int v1), (2, .int v2)] [] h) (v0 : Int32) (v1 : Int32) (v2 : Int32) (h : aH) (hw : wbX4_copyMayFailByStore_2_i K2 v0 v1 v2 h Q) : AW l G d 0 0 mX4_copyMayFailByStore (qI Q) 2 [(0, .int v0), (1, .int v1), (2, .int v2)] [] h := by
  unfold wbX4_copyMayFailByStore_2_i at hw
  refine aw_iload_n 2 dX4_copyMayFailByStore_2 rfl rfl ?_
  refine aw_bipush (v := 9) dX4_copyMayFailByStore_3 (by decide) ?_
  refine aw_icmp_gt (tgt := 35) dX4_copyMayFailByStore_5 (by decide) (fun z => ?_) (fun z => ?_)
  · have hw := hw.1 z
    refine aw_iconst (v := 0) dX4_copyMayFailByStore_35 (by decide) ?_
    exact aw_iret dX4_copyMayFailByStore_36 rfl (a_nB hw.1) ⟨_, rfl, hw.2⟩
  · have hw := hw.2 z
    refine aw_iload_n 0 dX4_copyMayFailByStore_8 rfl rfl ?_
    refine aw_iload_n 2 dX4_copyMayFailByStore_9 rfl rfl ?_
    refine aw_staticI (As := [.int v0, .int v2]) (rest := []) dX4_copyMayFailByStore_10 (acX4_has l G (d - 1) hG (by omega) hw) iX4_has rfl k_844 k_538 (by omega) (by decide) (by decide) rfl (Nat.le_of_ble_eq_true rfl) (fun r2 h1 hw => ?_)
    refine aw_if_eq (tgt := 29) dX4_copyMayFailByStore_13 (by decide) (fun z => ?_) (fun z => ?_)
    · have hw := hw.1 z
      exact abX4_copyMayFailByStore_29 l G d hG hd kk2 _ _ _ _ hw
    · have hw := hw.2 z
      refine aw_iload_n 1 dX4_copyMayFailByStore_16 rfl rfl ?_
      refine aw_iload_n 2 dX4_copyMayFailByStore_17 rfl rfl ?_
      refine aw_staticI (As := [.int v2]) (rest := [.int v1]) dX4_copyMayFailByStore_18 (acX4_thoseThatTakeAllOf l G (d - 1) hG (by omega) hw) iX4_thoseThatTakeAllOf rfl k_845 k_846 (by omega) (by decide) (by decide) rfl (Nat.le_of_ble_eq_true rfl) (fun r4 h3 hw => ?_)
      refine aw_iconst (v := (-1)) dX4_copyMayFailByStore_21 (by decide) ?_
      refine aw_ixor dX4_copyMayFailByStore_22 ?_
      refine aw_iand dX4_copyMayFailByStore_23 ?_
      refine aw_if_eq (tgt := 29) dX4_copyMayFailByStore_24 (by decide) (fun z => ?_) (fun z => ?_)
      · have hw := hw.1 z
        exact abX4_copyMayFailByStore_29 l G d hG hd kk2 _ _ _ _ hw
      · have hw := hw.2 z
        refine aw_iconst (v := 1) dX4_copyMayFailByStore_27 (by decide) ?_
        exact aw_iret dX4_copyMayFailByStore_28 rfl (a_nB hw.1) ⟨_, rfl, hw.2⟩
set_option maxRecDepth 100000 in
theorem abX4_copyMayFailByStore_2 (l : Launch) (G : aG) (d : Nat) (hG : a_GT G) (hd : 2 ≤ d) {Q : Int32 → aH → Prop} (n : Nat) : ∀  (v0 : Int32) (v1 : Int32) (v2 : Int32) (h : aH), wbX4_copyMayFailByStore_2 n v0 v1 v2 h Q → AW l G d 0 0 mX4_copyMayFailByStore (qI Q) 2 [(0, .int v0), (1, .int v1), (2, .int v2)] [] h := by
  induction n with
  | zero => exact fun _ _ _ _ hw => hw.elim
  | succ n ih => exact fun _ _ _ _ hw => abX4_copyMayFailByStore_2_i l G d hG hd ih _ _ _ _ hw
set_option maxRecDepth 100000 in
theorem acX4_copyMayFailByStore (l : Launch) (G : aG) (d : Nat) (hG : a_GT G) (hd : 2 ≤ d) {Q : Int32 → aH → Prop} {h : aH} {v0 : Int32} {v1 : Int32} (hw : wX4_copyMayFailByStore h v0 v1 Q) : AC l G d 0 0 mX4_copyMayFailByStore [.int v0, .int v1] h (qI Q) := by
  refine ac_of iX4_copyMayFailByStore (Nat.le_of_ble_eq_true rfl) ?_
  show AW l G d 0 0 mX4_copyMayFailByStore (qI Q) 0 [(0, .int v0), (1, .int v1)] [] h
  unfold wX4_copyMayFailByStore at hw
  refine aw_iconst (v := 0) dX4_copyMayFailByStore_0 (by decide) ?_
  refine aw_istore_n (lv' := [(2, .int 0), (0, .int v0), (1, .int v1)]) dX4_copyMayFailByStore_1 rfl (by decide) rfl ?_
  obtain ⟨n, hw⟩ := hw
  refine aw_sub (lv' := [(0, .int v0), (1, .int v1), (2, .int 0)]) [1, 2, 0] rfl ?_
  exact abX4_copyMayFailByStore_2 l G d hG hd n _ _ _ _ hw
-- X0_askCopy
def wbX0_askCopy_98 (v0 : Nat) (v1 : Int32) (v2 : Int32) (h : aH) (Q : aH → Prop) : Prop :=
  rR h v0 0 10 (fun r1 => rI h v0 0 6 (fun r3 => wX4_meeting h v1 v2 (fun r6 h5 => isO h5 r1 5 (wX7_keep h5 r1 r3 r6 (fun h7 => rR h7 v0 0 10 (fun r8 => rI h7 v0 0 8 (fun r10 => wX4_meeting h7 v2 v1 (fun r13 h12 => isO h12 r8 5 (wX7_keep h12 r8 r10 r13 (fun h14 => isO h14 v0 0 (wX0_mayFail h14 v0 3 (fun h15 => Q h15))))))))))))
def wbX0_askCopy_61 (v0 : Nat) (h : aH) (Q : aH → Prop) : Prop :=
  rR h v0 0 10 (fun r16 => rI h v0 0 6 (fun r18 => isO h r16 5 (wX7_of h r16 r18 (fun r21 h20 => rR h20 v0 0 10 (fun r22 => rI h20 v0 0 8 (fun r24 => isO h20 r22 5 (wX7_of h20 r22 r24 (fun r27 h26 => wX4_copyMayFailByStore h26 r21 r27 (fun r29 h28 => (r29 = 0 → wbX0_askCopy_98 v0 r21 r27 h28 Q) ∧ (¬ r29 = 0 → isO h28 v0 0 (wX0_mayFail h28 v0 5 (fun h30 => wbX0_askCopy_98 v0 r21 r27 h30 Q))))))))))))
def wbX0_askCopy_30 (v0 : Nat) (h : aH) (Q : aH → Prop) : Prop :=
  isO h v0 0 (wX0_mayFail h v0 1 (fun h31 => rR h31 v0 0 10 (fun r32 => rI h31 v0 0 6 (fun r34 => isO h31 r32 5 (wX7_keep h31 r32 r34 ((-2)) (fun h36 => rR h36 v0 0 10 (fun r37 => rI h36 v0 0 8 (fun r39 => isO h36 r37 5 (wX7_keep h36 r37 r39 ((-2)) (fun h41 => wbX0_askCopy_61 v0 h41 Q))))))))))
def wX0_askCopy (h : aH) (v0 : Nat) (Q : aH → Prop) : Prop :=
  rR h v0 0 10 (fun r42 => rI h v0 0 6 (fun r44 => isO h r42 5 (wX7_has h r42 r44 0 (fun r47 h46 => (¬ r47 = 0 → wbX0_askCopy_30 v0 h46 Q) ∧ (r47 = 0 → rR h46 v0 0 10 (fun r48 => rI h46 v0 0 8 (fun r50 => isO h46 r48 5 (wX7_has h46 r48 r50 0 (fun r53 h52 => (r53 = 0 → wbX0_askCopy_61 v0 h52 Q) ∧ (¬ r53 = 0 → wbX0_askCopy_30 v0 h52 Q))))))))))
set_option maxRecDepth 100000 in
theorem abX0_askCopy_98 (l : Launch) (G : aG) (d : Nat) (hG : a_GT G) (hd : 3 ≤ d) {Q : aH → Prop} (v0 : Nat) (v1 : Int32) (v2 : Int32) (h : aH) (hw : wbX0_askCopy_98 v0 v1 v2 h Q) : AW l G d 0 0 mX0_askCopy (qV Q) 98 [(0, .ref v0), (1, .int v1), (2, .int v2)] [] h := by
  unfold wbX0_askCopy_98 at hw
  refine aw_aload_n 0 dX0_askCopy_98 rfl rfl ?_
  obtain ⟨fs2, r1, h1, h2, hw⟩ := hw
  refine aw_getf (k := 10) dX0_askCopy_99 clX0 (by decide) k_270 (Or.inl rfl) h1 h2 ?_
  refine aw_aload_n 0 dX0_askCopy_102 rfl rfl ?_
  obtain ⟨fs4, r3, h1, h2, hw⟩ := hw
  refine aw_getf (k := 6) dX0_askCopy_103 clX0 (by decide) k_266 (Or.inl rfl) h1 h2 ?_
  refine aw_iload_n 1 dX0_askCopy_106 rfl rfl ?_
  refine aw_iload_n 2 dX0_askCopy_107 rfl rfl ?_
  refine aw_staticI (As := [.int v1, .int v2]) (rest := [.int r3, .ref r1]) dX0_askCopy_108 (acX4_meeting l G (d - 1) hG (by omega) hw) iX4_meeting rfl k_850 k_851 (by omega) (by decide) (by decide) rfl (Nat.le_of_ble_eq_true rfl) (fun r6 h5 hw => ?_)
  obtain ⟨_, h1, hw⟩ := hw
  refine aw_virtV (As := [.int r3, .int r6]) (rest := []) dX0_askCopy_111 (acX7_keep l G (d - 1) hG (by omega) hw) iX7_keep rfl k_811 k_812 k_813 rfl h1 (by omega) (by decide) (by decide) rfl (Nat.le_of_ble_eq_true rfl) (fun h7 hw => ?_)
  refine aw_aload_n 0 dX0_askCopy_114 rfl rfl ?_
  obtain ⟨fs9, r8, h1, h2, hw⟩ := hw
  refine aw_getf (k := 10) dX0_askCopy_115 clX0 (by decide) k_270 (Or.inl rfl) h1 h2 ?_
  refine aw_aload_n 0 dX0_askCopy_118 rfl rfl ?_
  obtain ⟨fs11, r10, h1, h2, hw⟩ := hw
  refine aw_getf (k := 8) dX0_askCopy_119 clX0 (by decide) k_268 (Or.inl rfl) h1 h2 ?_
  refine aw_iload_n 2 dX0_askCopy_122 rfl rfl ?_
  refine aw_iload_n 1 dX0_askCopy_123 rfl rfl ?_
  refine aw_staticI (As := [.int v2, .int v1]) (rest := [.int r10, .ref r8]) dX0_askCopy_124 (acX4_meeting l G (d - 1) hG (by omega) hw) iX4_meeting rfl k_850 k_851 (by omega) (by decide) (by decide) rfl (Nat.le_of_ble_eq_true rfl) (fun r13 h12 hw => ?_)
  obtain ⟨_, h1, hw⟩ := hw
  refine aw_virtV (As := [.int r10, .int r13]) (rest := []) dX0_askCopy_127 (acX7_keep l G (d - 1) hG (by omega) hw) iX7_keep rfl k_811 k_812 k_813 rfl h1 (by omega) (by decide) (by decide) rfl (Nat.le_of_ble_eq_true rfl) (fun h14 hw => ?_)
  refine aw_aload_n 0 dX0_askCopy_130 rfl rfl ?_
  refine aw_iconst (v := 3) dX0_askCopy_131 (by decide) ?_
  obtain ⟨_, h1, hw⟩ := hw
  refine aw_virtV (As := [.int 3]) (rest := []) dX0_askCopy_132 (acX0_mayFail l G (d - 1) hG (by omega) hw) iX0_mayFail rfl k_777 k_779 k_30 rfl h1 (by omega) (by decide) (by decide) rfl (Nat.le_of_ble_eq_true rfl) (fun h15 hw => ?_)
  exact aw_vret dX0_askCopy_135 rfl ⟨rfl, hw⟩
set_option maxRecDepth 100000 in
theorem abX0_askCopy_61 (l : Launch) (G : aG) (d : Nat) (hG : a_GT G) (hd : 3 ≤ d) {Q : aH → Prop} (v0 : Nat) (h : aH) (hw : wbX0_askCopy_61 v0 h Q) : AW l G d 0 0 mX0_askCopy (qV Q) 61 [(0, .ref v0)] [] h := by
  unfold wbX0_askCopy_61 at hw
  refine aw_aload_n 0 dX0_askCopy_61 rfl rfl ?_
  obtain ⟨fs17, r16, h1, h2, hw⟩ := hw
  refine aw_getf (k := 10) dX0_askCopy_62 clX0 (by decide) k_270 (Or.inl rfl) h1 h2 ?_
  refine aw_aload_n 0 dX0_askCopy_65 rfl rfl ?_
  obtain ⟨fs19, r18, h1, h2, hw⟩ := hw
  refine aw_getf (k := 6) dX0_askCopy_66 clX0 (by decide) k_266 (Or.inl rfl) h1 h2 ?_
  obtain ⟨_, h1, hw⟩ := hw
  refine aw_virtI (As := [.int r18]) (rest := []) dX0_askCopy_69 (acX7_of l G (d - 1) hG (by omega) hw) iX7_of rfl k_806 k_711 k_712 rfl h1 (by omega) (by decide) (by decide) rfl (Nat.le_of_ble_eq_true rfl) (fun r21 h20 hw => ?_)
  refine aw_istore_n (lv' := [(1, .int r21), (0, .ref v0)]) dX0_askCopy_72 rfl (by decide) rfl ?_
  refine aw_aload_n 1 dX0_askCopy_73 rfl rfl ?_
  obtain ⟨fs23, r22, h1, h2, hw⟩ := hw
  refine aw_getf (k := 10) dX0_askCopy_74 clX0 (by decide) k_270 (Or.inl rfl) h1 h2 ?_
  refine aw_aload_n 1 dX0_askCopy_77 rfl rfl ?_
  obtain ⟨fs25, r24, h1, h2, hw⟩ := hw
  refine aw_getf (k := 8) dX0_askCopy_78 clX0 (by decide) k_268 (Or.inl rfl) h1 h2 ?_
  obtain ⟨_, h1, hw⟩ := hw
  refine aw_virtI (As := [.int r24]) (rest := []) dX0_askCopy_81 (acX7_of l G (d - 1) hG (by omega) hw) iX7_of rfl k_806 k_711 k_712 rfl h1 (by omega) (by decide) (by decide) rfl (Nat.le_of_ble_eq_true rfl) (fun r27 h26 hw => ?_)
  refine aw_istore_n (lv' := [(2, .int r27), (1, .int r21), (0, .ref v0)]) dX0_askCopy_84 rfl (by decide) rfl ?_
  refine aw_iload_n 1 dX0_askCopy_85 rfl rfl ?_
  refine aw_iload_n 0 dX0_askCopy_86 rfl rfl ?_
  refine aw_staticI (As := [.int r21, .int r27]) (rest := []) dX0_askCopy_87 (acX4_copyMayFailByStore l G (d - 1) hG (by omega) hw) iX4_copyMayFailByStore rfl k_841 k_842 (by omega) (by decide) (by decide) rfl (Nat.le_of_ble_eq_true rfl) (fun r29 h28 hw => ?_)
  refine aw_if_eq (tgt := 98) dX0_askCopy_90 (by decide) (fun z => ?_) (fun z => ?_)
  · have hw := hw.1 z
    refine aw_sub (lv' := [(0, .ref v0), (1, .int r21), (2, .int r27)]) [2, 1, 0] rfl ?_
    exact abX0_askCopy_98 l G d hG hd _ _ _ _ hw
  · have hw := hw.2 z
    refine aw_aload_n 2 dX0_askCopy_93 rfl rfl ?_
    refine aw_iconst (v := 5) dX0_askCopy_94 (by decide) ?_
    obtain ⟨_, h1, hw⟩ := hw
    refine aw_virtV (As := [.int 5]) (rest := []) dX0_askCopy_95 (acX0_mayFail l G (d - 1) hG (by omega) hw) iX0_mayFail rfl k_777 k_779 k_30 rfl h1 (by omega) (by decide) (by decide) rfl (Nat.le_of_ble_eq_true rfl) (fun h30 hw => ?_)
    refine aw_sub (lv' := [(0, .ref v0), (1, .int r21), (2, .int r27)]) [2, 1, 0] rfl ?_
    exact abX0_askCopy_98 l G d hG hd _ _ _ _ hw
set_option maxRecDepth 100000 in
theorem abX0_askCopy_30 (l : Launch) (G : aG) (d : Nat) (hG : a_GT G) (hd : 3 ≤ d) {Q : aH → Prop} (v0 : Nat) (h : aH) (hw : wbX0_askCopy_30 v0 h Q) : AW l G d 0 0 mX0_askCopy (qV Q) 30 [(0, .ref v0)] [] h := by
  unfold wbX0_askCopy_30 at hw
  refine aw_aload_n 0 dX0_askCopy_30 rfl rfl ?_
  refine aw_iconst (v := 1) dX0_askCopy_31 (by decide) ?_
  obtain ⟨_, h1, hw⟩ := hw
  refine aw_virtV (As := [.int 1]) (rest := []) dX0_askCopy_32 (acX0_mayFail l G (d - 1) hG (by omega) hw) iX0_mayFail rfl k_777 k_779 k_30 rfl h1 (by omega) (by decide) (by decide) rfl (Nat.le_of_ble_eq_true rfl) (fun h31 hw => ?_)
  refine aw_aload_n 0 dX0_askCopy_35 rfl rfl ?_
  obtain ⟨fs33, r32, h1, h2, hw⟩ := hw
  refine aw_getf (k := 10) dX0_askCopy_36 clX0 (by decide) k_270 (Or.inl rfl) h1 h2 ?_
  refine aw_aload_n 0 dX0_askCopy_39 rfl rfl ?_
  obtain ⟨fs35, r34, h1, h2, hw⟩ := hw
  refine aw_getf (k := 6) dX0_askCopy_40 clX0 (by decide) k_266 (Or.inl rfl) h1 h2 ?_
  refine aw_bipush (v := (-2)) dX0_askCopy_43 (by decide) ?_
  obtain ⟨_, h1, hw⟩ := hw
  refine aw_virtV (As := [.int r34, .int (-2)]) (rest := []) dX0_askCopy_45 (acX7_keep l G (d - 1) hG (by omega) hw) iX7_keep rfl k_811 k_812 k_813 rfl h1 (by omega) (by decide) (by decide) rfl (Nat.le_of_ble_eq_true rfl) (fun h36 hw => ?_)
  refine aw_aload_n 0 dX0_askCopy_48 rfl rfl ?_
  obtain ⟨fs38, r37, h1, h2, hw⟩ := hw
  refine aw_getf (k := 10) dX0_askCopy_49 clX0 (by decide) k_270 (Or.inl rfl) h1 h2 ?_
  refine aw_aload_n 0 dX0_askCopy_52 rfl rfl ?_
  obtain ⟨fs40, r39, h1, h2, hw⟩ := hw
  refine aw_getf (k := 8) dX0_askCopy_53 clX0 (by decide) k_268 (Or.inl rfl) h1 h2 ?_
  refine aw_bipush (v := (-2)) dX0_askCopy_56 (by decide) ?_
  obtain ⟨_, h1, hw⟩ := hw
  refine aw_virtV (As := [.int r39, .int (-2)]) (rest := []) dX0_askCopy_58 (acX7_keep l G (d - 1) hG (by omega) hw) iX7_keep rfl k_811 k_812 k_813 rfl h1 (by omega) (by decide) (by decide) rfl (Nat.le_of_ble_eq_true rfl) (fun h41 hw => ?_)
  exact abX0_askCopy_61 l G d hG hd _ _ hw
set_option maxRecDepth 100000 in
theorem acX0_askCopy (l : Launch) (G : aG) (d : Nat) (hG : a_GT G) (hd : 3 ≤ d) {Q : aH → Prop} {h : aH} {v0 : Nat} (hw : wX0_askCopy h v0 Q) : AC l G d 0 0 mX0_askCopy [.ref v0] h (qV Q) := by
  refine ac_of iX0_askCopy (Nat.le_of_ble_eq_true rfl) ?_
  show AW l G d 0 0 mX0_askCopy (qV Q) 0 [(0, .ref v0)] [] h
  unfold wX0_askCopy at hw
  refine aw_aload_n 0 dX0_askCopy_0 rfl rfl ?_
  obtain ⟨fs43, r42, h1, h2, hw⟩ := hw
  refine aw_getf (k := 10) dX0_askCopy_1 clX0 (by decide) k_270 (Or.inl rfl) h1 h2 ?_
  refine aw_aload_n 0 dX0_askCopy_4 rfl rfl ?_
  obtain ⟨fs45, r44, h1, h2, hw⟩ := hw
  refine aw_getf (k := 6) dX0_askCopy_5 clX0 (by decide) k_266 (Or.inl rfl) h1 h2 ?_
  refine aw_iconst (v := 0) dX0_askCopy_8 (by decide) ?_
  obtain ⟨_, h1, hw⟩ := hw
  refine aw_virtI (As := [.int r44, .int 0]) (rest := []) dX0_askCopy_9 (acX7_has l G (d - 1) hG (by omega) hw) iX7_has rfl k_823 k_824 k_825 rfl h1 (by omega) (by decide) (by decide) rfl (Nat.le_of_ble_eq_true rfl) (fun r47 h46 hw => ?_)
  refine aw_if_ne (tgt := 30) dX0_askCopy_12 (by decide) (fun z => ?_) (fun z => ?_)
  · have hw := hw.1 z
    exact abX0_askCopy_30 l G d hG hd _ _ hw
  · have hw := hw.2 z
    refine aw_aload_n 0 dX0_askCopy_15 rfl rfl ?_
    obtain ⟨fs49, r48, h1, h2, hw⟩ := hw
    refine aw_getf (k := 10) dX0_askCopy_16 clX0 (by decide) k_270 (Or.inl rfl) h1 h2 ?_
    refine aw_aload_n 0 dX0_askCopy_19 rfl rfl ?_
    obtain ⟨fs51, r50, h1, h2, hw⟩ := hw
    refine aw_getf (k := 8) dX0_askCopy_20 clX0 (by decide) k_268 (Or.inl rfl) h1 h2 ?_
    refine aw_iconst (v := 0) dX0_askCopy_23 (by decide) ?_
    obtain ⟨_, h1, hw⟩ := hw
    refine aw_virtI (As := [.int r50, .int 0]) (rest := []) dX0_askCopy_24 (acX7_has l G (d - 1) hG (by omega) hw) iX7_has rfl k_823 k_824 k_825 rfl h1 (by omega) (by decide) (by decide) rfl (Nat.le_of_ble_eq_true rfl) (fun r53 h52 hw => ?_)
    refine aw_if_eq (tgt := 61) dX0_askCopy_27 (by decide) (fun z => ?_) (fun z => ?_)
    · have hw := hw.1 z
      exact abX0_askCopy_61 l G d hG hd _ _ hw
    · have hw := hw.2 z
      exact abX0_askCopy_30 l G d hG hd _ _ hw
-- X7_become
def wX7_become (h : aH) (v0 : Nat) (v1 : Nat) (Q : aH → Prop) : Prop :=
  rR h v1 5 0 (fun r1 => rR h v0 5 0 (fun r3 => cpI h r1 0 r3 0 12 (fun h5 => Q h5)))
set_option maxRecDepth 100000 in
theorem acX7_become (l : Launch) (G : aG) (d : Nat) (hG : a_GT G) (hd : 1 ≤ d) {Q : aH → Prop} {h : aH} {v0 : Nat} {v1 : Nat} (hw : wX7_become h v0 v1 Q) : AC l G d 0 0 mX7_become [.ref v0, .ref v1] h (qV Q) := by
  refine ac_of iX7_become (Nat.le_of_ble_eq_true rfl) ?_
  show AW l G d 0 0 mX7_become (qV Q) 0 [(0, .ref v0), (1, .ref v1)] [] h
  unfold wX7_become at hw
  refine aw_aload_n 1 dX7_become_0 rfl rfl ?_
  obtain ⟨fs2, r1, h1, h2, hw⟩ := hw
  refine aw_getf (k := 0) dX7_become_1 clX7 (by decide) k_202 (Or.inl rfl) h1 h2 ?_
  refine aw_iconst (v := 0) dX7_become_4 (by decide) ?_
  refine aw_aload_n 0 dX7_become_5 rfl rfl ?_
  obtain ⟨fs4, r3, h1, h2, hw⟩ := hw
  refine aw_getf (k := 0) dX7_become_6 clX7 (by decide) k_202 (Or.inl rfl) h1 h2 ?_
  refine aw_iconst (v := 0) dX7_become_9 (by decide) ?_
  refine aw_bipush (v := 12) dX7_become_10 (by decide) ?_
  obtain ⟨_, _, _, _, h1, h2, h3, h4, h5, h6, h7, hw⟩ := hw
  refine aw_copyI dX7_become_12 k_765 k_607 k_606 k_108 h1 h2 h3 h4 h5 h6 h7 (by omega) (Nat.le_of_ble_eq_true rfl) ?_
  generalize a_up _ _ _ = h5 at hw ⊢
  exact aw_vret dX7_become_15 rfl ⟨rfl, hw⟩
-- X0_findWays
def wbX0_findWays_348 (v0 : Nat) (h : aH) (Q : aH → Prop) : Prop :=
  rR h v0 0 3 (fun r1 => isO h r1 7 (wX9_by h r1 0 (fun r4 h3 => ∃ r5, r4 = some r5 ∧ rR h3 v0 0 10 (fun r6 => isO h3 r5 5 (wX7_join h3 r5 r6 (fun h8 => Q h8))))))
def wbX0_findWays_113 (v0 : Nat) (s0 : Int32) (s1 : Nat) (h : aH) (Q : aH → Prop) : Prop :=
  rI h v0 0 7 (fun r9 => wX4_setOf h r9 (fun r12 h11 => isO h11 s1 0 (wX0_askNew h11 s1 s0 r12 (fun h13 => wbX0_findWays_348 v0 h13 Q))))
def wbX0_findWays_146 (v0 : Nat) (s0 : Int32) (s1 : Nat) (h : aH) (Q : aH → Prop) : Prop :=
  wX4_setOf h 5 (fun r15 h14 => isO h14 s1 0 (wX0_askNew h14 s1 s0 r15 (fun h16 => wbX0_findWays_348 v0 h16 Q)))
def wbX0_findWays_141 (v0 : Nat) (s0 : Nat) (h : aH) (Q : aH → Prop) : Prop :=
  wbX0_findWays_146 v0 1 s0 h Q
def wbX0_findWays_169 (v0 : Nat) (s0 : Int32) (s1 : Nat) (h : aH) (Q : aH → Prop) : Prop :=
  wX4_setOf h 5 (fun r18 h17 => isO h17 s1 0 (wX0_askNew h17 s1 s0 r18 (fun h19 => wbX0_findWays_348 v0 h19 Q)))
def wbX0_findWays_195 (v0 : Nat) (s0 : Int32) (s1 : Int32) (s2 : Nat) (h : aH) (Q : aH → Prop) : Prop :=
  wX4_setOf h s0 (fun r21 h20 => isO h20 s2 0 (wX0_askNew h20 s2 s1 r21 (fun h22 => wbX0_findWays_348 v0 h22 Q)))
def wX0_findWays (h : aH) (v0 : Nat) (v1 : Nat) (Q : aH → Prop) : Prop :=
  rR h v0 0 10 (fun r23 => isO h r23 5 (wX7_become h r23 v1 (fun h25 => rI h25 v0 0 5 (fun r26 => ((r26.toInt < 0 ∨ 17 < r26.toInt) → wbX0_findWays_348 v0 h25 Q) ∧ (r26.toInt = 0 → rI h25 v0 0 8 (fun r28 => (0 ≤ r28 → wbX0_findWays_113 v0 0 v0 h25 Q) ∧ (¬ 0 ≤ r28 → wbX0_findWays_113 v0 1 v0 h25 Q))) ∧ (r26.toInt = 1 → rI h25 v0 0 7 (fun r30 => (r30 < 0 → wbX0_findWays_141 v0 v0 h25 Q) ∧ (¬ r30 < 0 → rI h25 v0 0 8 (fun r32 => (0 ≤ r32 → wbX0_findWays_146 v0 0 v0 h25 Q) ∧ (¬ 0 ≤ r32 → wbX0_findWays_141 v0 v0 h25 Q))))) ∧ (r26.toInt = 2 → rI h25 v0 0 7 (fun r34 => (0 ≤ r34 → wbX0_findWays_169 v0 0 v0 h25 Q) ∧ (¬ 0 ≤ r34 → wbX0_findWays_169 v0 1 v0 h25 Q))) ∧ (r26.toInt = 3 → rI h25 v0 0 7 (fun r36 => (¬ r36 = 0 → wbX0_findWays_195 v0 9 0 v0 h25 Q) ∧ (r36 = 0 → wbX0_findWays_195 v0 8 0 v0 h25 Q))) ∧ (r26.toInt = 4 → isO h25 v0 0 (wX0_askMove h25 v0 (fun h38 => wbX0_findWays_348 v0 h38 Q))) ∧ (r26.toInt = 5 → rI h25 v0 0 7 (fun r39 => rI h25 v0 0 8 (fun r41 => isO h25 v0 0 (wX0_askSomething h25 v0 r39 r41 (fun h43 => isO h43 v0 0 (wX0_mayFail h43 v0 3 (fun h44 => wbX0_findWays_348 v0 h44 Q))))))) ∧ (r26.toInt = 6 → rI h25 v0 0 6 (fun r45 => rI h25 v0 0 7 (fun r47 => isO h25 v0 0 (wX0_askSomething h25 v0 r45 r47 (fun h49 => isO h49 v0 0 (wX0_mayFail h49 v0 3 (fun h50 => wbX0_findWays_348 v0 h50 Q))))))) ∧ (r26.toInt = 7 → isO h25 v0 0 (wX0_askTake h25 v0 (fun h51 => wbX0_findWays_348 v0 h51 Q))) ∧ (r26.toInt = 8 → isO h25 v0 0 (wX0_askLay h25 v0 (fun h52 => wbX0_findWays_348 v0 h52 Q))) ∧ (r26.toInt = 9 → rI h25 v0 0 7 (fun r53 => rI h25 v0 0 8 (fun r55 => isO h25 v0 0 (wX0_askSomething h25 v0 r53 r55 (fun h57 => wbX0_findWays_348 v0 h57 Q))))) ∧ (r26.toInt = 10 → rI h25 v0 0 7 (fun r58 => isO h25 v0 0 (wX0_askSomething h25 v0 r58 1 (fun h60 => wX4_setOf h60 1 (fun r62 h61 => isO h61 v0 0 (wX0_askNew h61 v0 0 r62 (fun h63 => wbX0_findWays_348 v0 h63 Q))))))) ∧ (r26.toInt = 11 → rI h25 v0 0 7 (fun r64 => isO h25 v0 0 (wX0_askSomething h25 v0 r64 8 (fun h66 => wbX0_findWays_348 v0 h66 Q)))) ∧ (r26.toInt = 12 → isO h25 v0 0 (wX0_askCopy h25 v0 (fun h67 => wbX0_findWays_348 v0 h67 Q))) ∧ (r26.toInt = 13 → wbX0_findWays_348 v0 h25 Q) ∧ (r26.toInt = 14 → wbX0_findWays_348 v0 h25 Q) ∧ (r26.toInt = 15 → isO h25 v0 0 (wX0_mayFail h25 v0 6 (fun h68 => wbX0_findWays_348 v0 h68 Q))) ∧ (r26.toInt = 16 → isO h25 v0 0 (wX0_mayFail h25 v0 6 (fun h69 => wbX0_findWays_348 v0 h69 Q))) ∧ (r26.toInt = 17 → isO h25 v0 0 (wX0_mustFail h25 v0 7 (fun h70 => wbX0_findWays_348 v0 h70 Q)))))))
set_option maxRecDepth 100000 in
theorem abX0_findWays_348 (l : Launch) (G : aG) (d : Nat) (hG : a_GT G) (hd : 6 ≤ d) {Q : aH → Prop} (v0 : Nat) (h : aH) (hw : wbX0_findWays_348 v0 h Q) : AW l G d 0 0 mX0_findWays (qV Q) 348 [(0, .ref v0)] [] h := by
  unfold wbX0_findWays_348 at hw
  refine aw_aload_n 0 dX0_findWays_348 rfl rfl ?_
  obtain ⟨fs2, r1, h1, h2, hw⟩ := hw
  refine aw_getf (k := 3) dX0_findWays_349 clX0 (by decide) k_288 (Or.inr k_289) h1 h2 ?_
  refine aw_iconst (v := 0) dX0_findWays_352 (by decide) ?_
  obtain ⟨_, h1, hw⟩ := hw
  refine aw_virtQ (As := [.int 0]) (rest := []) dX0_findWays_353 (acX9_by l G (d - 1) hG (by omega) hw) iX9_by rfl k_781 k_782 k_783 rfl h1 (by omega) (by decide) (by decide) rfl (Nat.le_of_ble_eq_true rfl) (fun r4 h3 hw => ?_)
  obtain ⟨r5, rfl, hw⟩ := hw
  refine aw_aload_n 0 dX0_findWays_356 rfl rfl ?_
  obtain ⟨fs7, r6, h1, h2, hw⟩ := hw
  refine aw_getf (k := 10) dX0_findWays_357 clX0 (by decide) k_270 (Or.inl rfl) h1 h2 ?_
  obtain ⟨_, h1, hw⟩ := hw
  refine aw_virtV (As := [.ref r6]) (rest := []) dX0_findWays_360 (acX7_join l G (d - 1) hG (by omega) hw) iX7_join rfl k_785 k_743 k_744 rfl h1 (by omega) (by decide) (by decide) rfl (Nat.le_of_ble_eq_true rfl) (fun h8 hw => ?_)
  exact aw_vret dX0_findWays_363 rfl ⟨rfl, hw⟩
set_option maxRecDepth 100000 in
theorem abX0_findWays_113 (l : Launch) (G : aG) (d : Nat) (hG : a_GT G) (hd : 6 ≤ d) {Q : aH → Prop} (v0 : Nat) (s0 : Int32) (s1 : Nat) (h : aH) (hw : wbX0_findWays_113 v0 s0 s1 h Q) : AW l G d 0 0 mX0_findWays (qV Q) 113 [(0, .ref v0)] [.int s0, .ref s1] h := by
  unfold wbX0_findWays_113 at hw
  refine aw_aload_n 0 dX0_findWays_113 rfl rfl ?_
  obtain ⟨fs10, r9, h1, h2, hw⟩ := hw
  refine aw_getf (k := 7) dX0_findWays_114 clX0 (by decide) k_267 (Or.inl rfl) h1 h2 ?_
  refine aw_staticI (As := [.int r9]) (rest := [.int s0, .ref s1]) dX0_findWays_117 (acX4_setOf l G (d - 1) hG (by omega) hw) iX4_setOf rfl k_766 k_767 (by omega) (by decide) (by decide) rfl (Nat.le_of_ble_eq_true rfl) (fun r12 h11 hw => ?_)
  obtain ⟨_, h1, hw⟩ := hw
  refine aw_virtV (As := [.int s0, .int r12]) (rest := []) dX0_findWays_120 (acX0_askNew l G (d - 1) hG (by omega) hw) iX0_askNew rfl k_769 k_771 k_28 rfl h1 (by omega) (by decide) (by decide) rfl (Nat.le_of_ble_eq_true rfl) (fun h13 hw => ?_)
  refine aw_goto (tgt := 348) dX0_findWays_123 (by decide) ?_
  exact abX0_findWays_348 l G d hG hd _ _ hw
set_option maxRecDepth 100000 in
theorem abX0_findWays_146 (l : Launch) (G : aG) (d : Nat) (hG : a_GT G) (hd : 6 ≤ d) {Q : aH → Prop} (v0 : Nat) (s0 : Int32) (s1 : Nat) (h : aH) (hw : wbX0_findWays_146 v0 s0 s1 h Q) : AW l G d 0 0 mX0_findWays (qV Q) 146 [(0, .ref v0)] [.int s0, .ref s1] h := by
  unfold wbX0_findWays_146 at hw
  refine aw_iconst (v := 5) dX0_findWays_146 (by decide) ?_
  refine aw_staticI (As := [.int 5]) (rest := [.int s0, .ref s1]) dX0_findWays_147 (acX4_setOf l G (d - 1) hG (by omega) hw) iX4_setOf rfl k_766 k_767 (by omega) (by decide) (by decide) rfl (Nat.le_of_ble_eq_true rfl) (fun r15 h14 hw => ?_)
  obtain ⟨_, h1, hw⟩ := hw
  refine aw_virtV (As := [.int s0, .int r15]) (rest := []) dX0_findWays_150 (acX0_askNew l G (d - 1) hG (by omega) hw) iX0_askNew rfl k_769 k_771 k_28 rfl h1 (by omega) (by decide) (by decide) rfl (Nat.le_of_ble_eq_true rfl) (fun h16 hw => ?_)
  refine aw_goto (tgt := 348) dX0_findWays_153 (by decide) ?_
  exact abX0_findWays_348 l G d hG hd _ _ hw
set_option maxRecDepth 100000 in
theorem abX0_findWays_141 (l : Launch) (G : aG) (d : Nat) (hG : a_GT G) (hd : 6 ≤ d) {Q : aH → Prop} (v0 : Nat) (s0 : Nat) (h : aH) (hw : wbX0_findWays_141 v0 s0 h Q) : AW l G d 0 0 mX0_findWays (qV Q) 141 [(0, .ref v0)] [.ref s0] h := by
  unfold wbX0_findWays_141 at hw
  refine aw_iconst (v := 1) dX0_findWays_141 (by decide) ?_
  refine aw_goto (tgt := 146) dX0_findWays_142 (by decide) ?_
  exact abX0_findWays_146 l G d hG hd _ _ _ _ hw
set_option maxRecDepth 100000 in
theorem abX0_findWays_169 (l : Launch) (G : aG) (d : Nat) (hG : a_GT G) (hd : 6 ≤ d) {Q : aH → Prop} (v0 : Nat) (s0 : Int32) (s1 : Nat) (h : aH) (hw : wbX0_findWays_169 v0 s0 s1 h Q) : AW l G d 0 0 mX0_findWays (qV Q) 169 [(0, .ref v0)] [.int s0, .ref s1] h := by
  unfold wbX0_findWays_169 at hw
  refine aw_iconst (v := 5) dX0_findWays_169 (by decide) ?_
  refine aw_staticI (As := [.int 5]) (rest := [.int s0, .ref s1]) dX0_findWays_170 (acX4_setOf l G (d - 1) hG (by omega) hw) iX4_setOf rfl k_766 k_767 (by omega) (by decide) (by decide) rfl (Nat.le_of_ble_eq_true rfl) (fun r18 h17 hw => ?_)
  obtain ⟨_, h1, hw⟩ := hw
  refine aw_virtV (As := [.int s0, .int r18]) (rest := []) dX0_findWays_173 (acX0_askNew l G (d - 1) hG (by omega) hw) iX0_askNew rfl k_769 k_771 k_28 rfl h1 (by omega) (by decide) (by decide) rfl (Nat.le_of_ble_eq_true rfl) (fun h19 hw => ?_)
  refine aw_goto (tgt := 348) dX0_findWays_176 (by decide) ?_
  exact abX0_findWays_348 l G d hG hd _ _ hw
set_option maxRecDepth 100000 in
theorem abX0_findWays_195 (l : Launch) (G : aG) (d : Nat) (hG : a_GT G) (hd : 6 ≤ d) {Q : aH → Prop} (v0 : Nat) (s0 : Int32) (s1 : Int32) (s2 : Nat) (h : aH) (hw : wbX0_findWays_195 v0 s0 s1 s2 h Q) : AW l G d 0 0 mX0_findWays (qV Q) 195 [(0, .ref v0)] [.int s0, .int s1, .ref s2] h := by
  unfold wbX0_findWays_195 at hw
  refine aw_staticI (As := [.int s0]) (rest := [.int s1, .ref s2]) dX0_findWays_195 (acX4_setOf l G (d - 1) hG (by omega) hw) iX4_setOf rfl k_766 k_767 (by omega) (by decide) (by decide) rfl (Nat.le_of_ble_eq_true rfl) (fun r21 h20 hw => ?_)
  obtain ⟨_, h1, hw⟩ := hw
  refine aw_virtV (As := [.int s1, .int r21]) (rest := []) dX0_findWays_198 (acX0_askNew l G (d - 1) hG (by omega) hw) iX0_askNew rfl k_769 k_771 k_28 rfl h1 (by omega) (by decide) (by decide) rfl (Nat.le_of_ble_eq_true rfl) (fun h22 hw => ?_)
  refine aw_goto (tgt := 348) dX0_findWays_201 (by decide) ?_
  exact abX0_findWays_348 l G d hG hd _ _ hw
set_option maxRecDepth 100000 in
theorem acX0_findWays (l : Launch) (G : aG) (d : Nat) (hG : a_GT G) (hd : 6 ≤ d) {Q : aH → Prop} {h : aH} {v0 : Nat} {v1 : Nat} (hw : wX0_findWays h v0 v1 Q) : AC l G d 0 0 mX0_findWays [.ref v0, .ref v1] h (qV Q) := by
  refine ac_of iX0_findWays (Nat.le_of_ble_eq_true rfl) ?_
  show AW l G d 0 0 mX0_findWays (qV Q) 0 [(0, .ref v0), (1, .ref v1)] [] h
  unfold wX0_findWays at hw
  refine aw_aload_n 0 dX0_findWays_0 rfl rfl ?_
  obtain ⟨fs24, r23, h1, h2, hw⟩ := hw
  refine aw_getf (k := 10) dX0_findWays_1 clX0 (by decide) k_270 (Or.inl rfl) h1 h2 ?_
  refine aw_aload_n 1 dX0_findWays_4 rfl rfl ?_
  obtain ⟨_, h1, hw⟩ := hw
  refine aw_virtV (As := [.ref v1]) (rest := []) dX0_findWays_5 (acX7_become l G (d - 1) hG (by omega) hw) iX7_become rfl k_761 k_762 k_763 rfl h1 (by omega) (by decide) (by decide) rfl (Nat.le_of_ble_eq_true rfl) (fun h25 hw => ?_)
  refine aw_aload_n 0 dX0_findWays_8 rfl rfl ?_
  obtain ⟨fs27, r26, h1, h2, hw⟩ := hw
  refine aw_getf (k := 5) dX0_findWays_9 clX0 (by decide) k_265 (Or.inl rfl) h1 h2 ?_
  by_cases zo : r26.toInt < 0 ∨ 17 < r26.toInt
  · have hw := hw.1 zo
    refine aw_tableOut (tgt := 348) dX0_findWays_12 zo (by decide) ?_
    refine aw_sub (lv' := [(0, .ref v0)]) [0] rfl ?_
    exact abX0_findWays_348 l G d hG hd _ _ hw
  · have hw := hw.2
    have z : r26.toInt = 0 ∨ r26.toInt = 1 ∨ r26.toInt = 2 ∨ r26.toInt = 3 ∨ r26.toInt = 4 ∨ r26.toInt = 5 ∨ r26.toInt = 6 ∨ r26.toInt = 7 ∨ r26.toInt = 8 ∨ r26.toInt = 9 ∨ r26.toInt = 10 ∨ r26.toInt = 11 ∨ r26.toInt = 12 ∨ r26.toInt = 13 ∨ r26.toInt = 14 ∨ r26.toInt = 15 ∨ r26.toInt = 16 ∨ r26.toInt = 17 := by omega
    rcases z with z | z | z | z | z | z | z | z | z | z | z | z | z | z | z | z | z | z
    · have hw := hw.1 z
      refine aw_tableIn (off := 88) (tgt := 100) dX0_findWays_12 (by rw [z]; decide) (by rw [z]; decide) (by rw [z]; rfl) (by decide) ?_
      refine aw_aload_n 0 dX0_findWays_100 rfl rfl ?_
      refine aw_aload_n 0 dX0_findWays_101 rfl rfl ?_
      obtain ⟨fs29, r28, h1, h2, hw⟩ := hw
      refine aw_getf (k := 8) dX0_findWays_102 clX0 (by decide) k_268 (Or.inl rfl) h1 h2 ?_
      refine aw_if_ge (tgt := 112) dX0_findWays_105 (by decide) (fun z => ?_) (fun z => ?_)
      · have hw := hw.1 z
        refine aw_iconst (v := 0) dX0_findWays_112 (by decide) ?_
        refine aw_sub (lv' := [(0, .ref v0)]) [0] rfl ?_
        exact abX0_findWays_113 l G d hG hd _ _ _ _ hw
      · have hw := hw.2 z
        refine aw_iconst (v := 1) dX0_findWays_108 (by decide) ?_
        refine aw_goto (tgt := 113) dX0_findWays_109 (by decide) ?_
        refine aw_sub (lv' := [(0, .ref v0)]) [0] rfl ?_
        exact abX0_findWays_113 l G d hG hd _ _ _ _ hw
    · have hw := hw.2.1 z
      refine aw_tableIn (off := 114) (tgt := 126) dX0_findWays_12 (by rw [z]; decide) (by rw [z]; decide) (by rw [z]; rfl) (by decide) ?_
      refine aw_aload_n 0 dX0_findWays_126 rfl rfl ?_
      refine aw_aload_n 0 dX0_findWays_127 rfl rfl ?_
      obtain ⟨fs31, r30, h1, h2, hw⟩ := hw
      refine aw_getf (k := 7) dX0_findWays_128 clX0 (by decide) k_267 (Or.inl rfl) h1 h2 ?_
      refine aw_if_lt (tgt := 141) dX0_findWays_131 (by decide) (fun z => ?_) (fun z => ?_)
      · have hw := hw.1 z
        refine aw_sub (lv' := [(0, .ref v0)]) [0] rfl ?_
        exact abX0_findWays_141 l G d hG hd _ _ _ hw
      · have hw := hw.2 z
        refine aw_aload_n 0 dX0_findWays_134 rfl rfl ?_
        obtain ⟨fs33, r32, h1, h2, hw⟩ := hw
        refine aw_getf (k := 8) dX0_findWays_135 clX0 (by decide) k_268 (Or.inl rfl) h1 h2 ?_
        refine aw_if_ge (tgt := 145) dX0_findWays_138 (by decide) (fun z => ?_) (fun z => ?_)
        · have hw := hw.1 z
          refine aw_iconst (v := 0) dX0_findWays_145 (by decide) ?_
          refine aw_sub (lv' := [(0, .ref v0)]) [0] rfl ?_
          exact abX0_findWays_146 l G d hG hd _ _ _ _ hw
        · have hw := hw.2 z
          refine aw_sub (lv' := [(0, .ref v0)]) [0] rfl ?_
          exact abX0_findWays_141 l G d hG hd _ _ _ hw
    · have hw := hw.2.2.1 z
      refine aw_tableIn (off := 144) (tgt := 156) dX0_findWays_12 (by rw [z]; decide) (by rw [z]; decide) (by rw [z]; rfl) (by decide) ?_
      refine aw_aload_n 0 dX0_findWays_156 rfl rfl ?_
      refine aw_aload_n 0 dX0_findWays_157 rfl rfl ?_
      obtain ⟨fs35, r34, h1, h2, hw⟩ := hw
      refine aw_getf (k := 7) dX0_findWays_158 clX0 (by decide) k_267 (Or.inl rfl) h1 h2 ?_
      refine aw_if_ge (tgt := 168) dX0_findWays_161 (by decide) (fun z => ?_) (fun z => ?_)
      · have hw := hw.1 z
        refine aw_iconst (v := 0) dX0_findWays_168 (by decide) ?_
        refine aw_sub (lv' := [(0, .ref v0)]) [0] rfl ?_
        exact abX0_findWays_169 l G d hG hd _ _ _ _ hw
      · have hw := hw.2 z
        refine aw_iconst (v := 1) dX0_findWays_164 (by decide) ?_
        refine aw_goto (tgt := 169) dX0_findWays_165 (by decide) ?_
        refine aw_sub (lv' := [(0, .ref v0)]) [0] rfl ?_
        exact abX0_findWays_169 l G d hG hd _ _ _ _ hw
    · have hw := hw.2.2.2.1 z
      refine aw_tableIn (off := 167) (tgt := 179) dX0_findWays_12 (by rw [z]; decide) (by rw [z]; decide) (by rw [z]; rfl) (by decide) ?_
      refine aw_aload_n 0 dX0_findWays_179 rfl rfl ?_
      refine aw_iconst (v := 0) dX0_findWays_180 (by decide) ?_
      refine aw_aload_n 0 dX0_findWays_181 rfl rfl ?_
      obtain ⟨fs37, r36, h1, h2, hw⟩ := hw
      refine aw_getf (k := 7) dX0_findWays_182 clX0 (by decide) k_267 (Or.inl rfl) h1 h2 ?_
      refine aw_if_ne (tgt := 193) dX0_findWays_185 (by decide) (fun z => ?_) (fun z => ?_)
      · have hw := hw.1 z
        refine aw_bipush (v := 9) dX0_findWays_193 (by decide) ?_
        refine aw_sub (lv' := [(0, .ref v0)]) [0] rfl ?_
        exact abX0_findWays_195 l G d hG hd _ _ _ _ _ hw
      · have hw := hw.2 z
        refine aw_bipush (v := 8) dX0_findWays_188 (by decide) ?_
        refine aw_goto (tgt := 195) dX0_findWays_190 (by decide) ?_
        refine aw_sub (lv' := [(0, .ref v0)]) [0] rfl ?_
        exact abX0_findWays_195 l G d hG hd _ _ _ _ _ hw
    · have hw := hw.2.2.2.2.1 z
      refine aw_tableIn (off := 192) (tgt := 204) dX0_findWays_12 (by rw [z]; decide) (by rw [z]; decide) (by rw [z]; rfl) (by decide) ?_
      refine aw_aload_n 0 dX0_findWays_204 rfl rfl ?_
      obtain ⟨_, h1, hw⟩ := hw
      refine aw_virtV (As := []) (rest := []) dX0_findWays_205 (acX0_askMove l G (d - 1) hG (by omega) hw) iX0_askMove rfl k_793 k_795 k_32 rfl h1 (by omega) (by decide) (by decide) rfl (Nat.le_of_ble_eq_true rfl) (fun h38 hw => ?_)
      refine aw_goto (tgt := 348) dX0_findWays_208 (by decide) ?_
      refine aw_sub (lv' := [(0, .ref v0)]) [0] rfl ?_
      exact abX0_findWays_348 l G d hG hd _ _ hw
    · have hw := hw.2.2.2.2.2.1 z
      refine aw_tableIn (off := 199) (tgt := 211) dX0_findWays_12 (by rw [z]; decide) (by rw [z]; decide) (by rw [z]; rfl) (by decide) ?_
      refine aw_aload_n 0 dX0_findWays_211 rfl rfl ?_
      refine aw_aload_n 0 dX0_findWays_212 rfl rfl ?_
      obtain ⟨fs40, r39, h1, h2, hw⟩ := hw
      refine aw_getf (k := 7) dX0_findWays_213 clX0 (by decide) k_267 (Or.inl rfl) h1 h2 ?_
      refine aw_aload_n 0 dX0_findWays_216 rfl rfl ?_
      obtain ⟨fs42, r41, h1, h2, hw⟩ := hw
      refine aw_getf (k := 8) dX0_findWays_217 clX0 (by decide) k_268 (Or.inl rfl) h1 h2 ?_
      obtain ⟨_, h1, hw⟩ := hw
      refine aw_virtV (As := [.int r39, .int r41]) (rest := []) dX0_findWays_220 (acX0_askSomething l G (d - 1) hG (by omega) hw) iX0_askSomething rfl k_815 k_817 k_35 rfl h1 (by omega) (by decide) (by decide) rfl (Nat.le_of_ble_eq_true rfl) (fun h43 hw => ?_)
      refine aw_aload_n 0 dX0_findWays_223 rfl rfl ?_
      refine aw_iconst (v := 3) dX0_findWays_224 (by decide) ?_
      obtain ⟨_, h1, hw⟩ := hw
      refine aw_virtV (As := [.int 3]) (rest := []) dX0_findWays_225 (acX0_mayFail l G (d - 1) hG (by omega) hw) iX0_mayFail rfl k_777 k_779 k_30 rfl h1 (by omega) (by decide) (by decide) rfl (Nat.le_of_ble_eq_true rfl) (fun h44 hw => ?_)
      refine aw_goto (tgt := 348) dX0_findWays_228 (by decide) ?_
      refine aw_sub (lv' := [(0, .ref v0)]) [0] rfl ?_
      exact abX0_findWays_348 l G d hG hd _ _ hw
    · have hw := hw.2.2.2.2.2.2.1 z
      refine aw_tableIn (off := 219) (tgt := 231) dX0_findWays_12 (by rw [z]; decide) (by rw [z]; decide) (by rw [z]; rfl) (by decide) ?_
      refine aw_aload_n 0 dX0_findWays_231 rfl rfl ?_
      refine aw_aload_n 0 dX0_findWays_232 rfl rfl ?_
      obtain ⟨fs46, r45, h1, h2, hw⟩ := hw
      refine aw_getf (k := 6) dX0_findWays_233 clX0 (by decide) k_266 (Or.inl rfl) h1 h2 ?_
      refine aw_aload_n 0 dX0_findWays_236 rfl rfl ?_
      obtain ⟨fs48, r47, h1, h2, hw⟩ := hw
      refine aw_getf (k := 7) dX0_findWays_237 clX0 (by decide) k_267 (Or.inl rfl) h1 h2 ?_
      obtain ⟨_, h1, hw⟩ := hw
      refine aw_virtV (As := [.int r45, .int r47]) (rest := []) dX0_findWays_240 (acX0_askSomething l G (d - 1) hG (by omega) hw) iX0_askSomething rfl k_815 k_817 k_35 rfl h1 (by omega) (by decide) (by decide) rfl (Nat.le_of_ble_eq_true rfl) (fun h49 hw => ?_)
      refine aw_aload_n 0 dX0_findWays_243 rfl rfl ?_
      refine aw_iconst (v := 3) dX0_findWays_244 (by decide) ?_
      obtain ⟨_, h1, hw⟩ := hw
      refine aw_virtV (As := [.int 3]) (rest := []) dX0_findWays_245 (acX0_mayFail l G (d - 1) hG (by omega) hw) iX0_mayFail rfl k_777 k_779 k_30 rfl h1 (by omega) (by decide) (by decide) rfl (Nat.le_of_ble_eq_true rfl) (fun h50 hw => ?_)
      refine aw_goto (tgt := 348) dX0_findWays_248 (by decide) ?_
      refine aw_sub (lv' := [(0, .ref v0)]) [0] rfl ?_
      exact abX0_findWays_348 l G d hG hd _ _ hw
    · have hw := hw.2.2.2.2.2.2.2.1 z
      refine aw_tableIn (off := 239) (tgt := 251) dX0_findWays_12 (by rw [z]; decide) (by rw [z]; decide) (by rw [z]; rfl) (by decide) ?_
      refine aw_aload_n 0 dX0_findWays_251 rfl rfl ?_
      obtain ⟨_, h1, hw⟩ := hw
      refine aw_virtV (As := []) (rest := []) dX0_findWays_252 (acX0_askTake l G (d - 1) hG (by omega) hw) iX0_askTake rfl k_819 k_821 k_36 rfl h1 (by omega) (by decide) (by decide) rfl (Nat.le_of_ble_eq_true rfl) (fun h51 hw => ?_)
      refine aw_goto (tgt := 348) dX0_findWays_255 (by decide) ?_
      refine aw_sub (lv' := [(0, .ref v0)]) [0] rfl ?_
      exact abX0_findWays_348 l G d hG hd _ _ hw
    · have hw := hw.2.2.2.2.2.2.2.2.1 z
      refine aw_tableIn (off := 246) (tgt := 258) dX0_findWays_12 (by rw [z]; decide) (by rw [z]; decide) (by rw [z]; rfl) (by decide) ?_
      refine aw_aload_n 0 dX0_findWays_258 rfl rfl ?_
      obtain ⟨_, h1, hw⟩ := hw
      refine aw_virtV (As := []) (rest := []) dX0_findWays_259 (acX0_askLay l G (d - 1) hG (by omega) hw) iX0_askLay rfl k_828 k_830 k_37 rfl h1 (by omega) (by decide) (by decide) rfl (Nat.le_of_ble_eq_true rfl) (fun h52 hw => ?_)
      refine aw_goto (tgt := 348) dX0_findWays_262 (by decide) ?_
      refine aw_sub (lv' := [(0, .ref v0)]) [0] rfl ?_
      exact abX0_findWays_348 l G d hG hd _ _ hw
    · have hw := hw.2.2.2.2.2.2.2.2.2.1 z
      refine aw_tableIn (off := 253) (tgt := 265) dX0_findWays_12 (by rw [z]; decide) (by rw [z]; decide) (by rw [z]; rfl) (by decide) ?_
      refine aw_aload_n 0 dX0_findWays_265 rfl rfl ?_
      refine aw_aload_n 0 dX0_findWays_266 rfl rfl ?_
      obtain ⟨fs54, r53, h1, h2, hw⟩ := hw
      refine aw_getf (k := 7) dX0_findWays_267 clX0 (by decide) k_267 (Or.inl rfl) h1 h2 ?_
      refine aw_aload_n 0 dX0_findWays_270 rfl rfl ?_
      obtain ⟨fs56, r55, h1, h2, hw⟩ := hw
      refine aw_getf (k := 8) dX0_findWays_271 clX0 (by decide) k_268 (Or.inl rfl) h1 h2 ?_
      obtain ⟨_, h1, hw⟩ := hw
      refine aw_virtV (As := [.int r53, .int r55]) (rest := []) dX0_findWays_274 (acX0_askSomething l G (d - 1) hG (by omega) hw) iX0_askSomething rfl k_815 k_817 k_35 rfl h1 (by omega) (by decide) (by decide) rfl (Nat.le_of_ble_eq_true rfl) (fun h57 hw => ?_)
      refine aw_goto (tgt := 348) dX0_findWays_277 (by decide) ?_
      refine aw_sub (lv' := [(0, .ref v0)]) [0] rfl ?_
      exact abX0_findWays_348 l G d hG hd _ _ hw
    · have hw := hw.2.2.2.2.2.2.2.2.2.2.1 z
      refine aw_tableIn (off := 268) (tgt := 280) dX0_findWays_12 (by rw [z]; decide) (by rw [z]; decide) (by rw [z]; rfl) (by decide) ?_
      refine aw_aload_n 0 dX0_findWays_280 rfl rfl ?_
      refine aw_aload_n 0 dX0_findWays_281 rfl rfl ?_
      obtain ⟨fs59, r58, h1, h2, hw⟩ := hw
      refine aw_getf (k := 7) dX0_findWays_282 clX0 (by decide) k_267 (Or.inl rfl) h1 h2 ?_
      refine aw_iconst (v := 1) dX0_findWays_285 (by decide) ?_
      obtain ⟨_, h1, hw⟩ := hw
      refine aw_virtV (As := [.int r58, .int 1]) (rest := []) dX0_findWays_286 (acX0_askSomething l G (d - 1) hG (by omega) hw) iX0_askSomething rfl k_815 k_817 k_35 rfl h1 (by omega) (by decide) (by decide) rfl (Nat.le_of_ble_eq_true rfl) (fun h60 hw => ?_)
      refine aw_aload_n 0 dX0_findWays_289 rfl rfl ?_
      refine aw_iconst (v := 0) dX0_findWays_290 (by decide) ?_
      refine aw_iconst (v := 1) dX0_findWays_291 (by decide) ?_
      refine aw_staticI (As := [.int 1]) (rest := [.int 0, .ref v0]) dX0_findWays_292 (acX4_setOf l G (d - 1) hG (by omega) hw) iX4_setOf rfl k_766 k_767 (by omega) (by decide) (by decide) rfl (Nat.le_of_ble_eq_true rfl) (fun r62 h61 hw => ?_)
      obtain ⟨_, h1, hw⟩ := hw
      refine aw_virtV (As := [.int 0, .int r62]) (rest := []) dX0_findWays_295 (acX0_askNew l G (d - 1) hG (by omega) hw) iX0_askNew rfl k_769 k_771 k_28 rfl h1 (by omega) (by decide) (by decide) rfl (Nat.le_of_ble_eq_true rfl) (fun h63 hw => ?_)
      refine aw_goto (tgt := 348) dX0_findWays_298 (by decide) ?_
      refine aw_sub (lv' := [(0, .ref v0)]) [0] rfl ?_
      exact abX0_findWays_348 l G d hG hd _ _ hw
    · have hw := hw.2.2.2.2.2.2.2.2.2.2.2.1 z
      refine aw_tableIn (off := 289) (tgt := 301) dX0_findWays_12 (by rw [z]; decide) (by rw [z]; decide) (by rw [z]; rfl) (by decide) ?_
      refine aw_aload_n 0 dX0_findWays_301 rfl rfl ?_
      refine aw_aload_n 0 dX0_findWays_302 rfl rfl ?_
      obtain ⟨fs65, r64, h1, h2, hw⟩ := hw
      refine aw_getf (k := 7) dX0_findWays_303 clX0 (by decide) k_267 (Or.inl rfl) h1 h2 ?_
      refine aw_bipush (v := 8) dX0_findWays_306 (by decide) ?_
      obtain ⟨_, h1, hw⟩ := hw
      refine aw_virtV (As := [.int r64, .int 8]) (rest := []) dX0_findWays_308 (acX0_askSomething l G (d - 1) hG (by omega) hw) iX0_askSomething rfl k_815 k_817 k_35 rfl h1 (by omega) (by decide) (by decide) rfl (Nat.le_of_ble_eq_true rfl) (fun h66 hw => ?_)
      refine aw_goto (tgt := 348) dX0_findWays_311 (by decide) ?_
      refine aw_sub (lv' := [(0, .ref v0)]) [0] rfl ?_
      exact abX0_findWays_348 l G d hG hd _ _ hw
    · have hw := hw.2.2.2.2.2.2.2.2.2.2.2.2.1 z
      refine aw_tableIn (off := 302) (tgt := 314) dX0_findWays_12 (by rw [z]; decide) (by rw [z]; decide) (by rw [z]; rfl) (by decide) ?_
      refine aw_aload_n 0 dX0_findWays_314 rfl rfl ?_
      obtain ⟨_, h1, hw⟩ := hw
      refine aw_virtV (As := []) (rest := []) dX0_findWays_315 (acX0_askCopy l G (d - 1) hG (by omega) hw) iX0_askCopy rfl k_837 k_839 k_39 rfl h1 (by omega) (by decide) (by decide) rfl (Nat.le_of_ble_eq_true rfl) (fun h67 hw => ?_)
      refine aw_goto (tgt := 348) dX0_findWays_318 (by decide) ?_
      refine aw_sub (lv' := [(0, .ref v0)]) [0] rfl ?_
      exact abX0_findWays_348 l G d hG hd _ _ hw
    · have hw := hw.2.2.2.2.2.2.2.2.2.2.2.2.2.1 z
      refine aw_tableIn (off := 336) (tgt := 348) dX0_findWays_12 (by rw [z]; decide) (by rw [z]; decide) (by rw [z]; rfl) (by decide) ?_
      refine aw_sub (lv' := [(0, .ref v0)]) [0] rfl ?_
      exact abX0_findWays_348 l G d hG hd _ _ hw
    · have hw := hw.2.2.2.2.2.2.2.2.2.2.2.2.2.2.1 z
      refine aw_tableIn (off := 336) (tgt := 348) dX0_findWays_12 (by rw [z]; decide) (by rw [z]; decide) (by rw [z]; rfl) (by decide) ?_
      refine aw_sub (lv' := [(0, .ref v0)]) [0] rfl ?_
      exact abX0_findWays_348 l G d hG hd _ _ hw
    · have hw := hw.2.2.2.2.2.2.2.2.2.2.2.2.2.2.2.1 z
      refine aw_tableIn (off := 309) (tgt := 321) dX0_findWays_12 (by rw [z]; decide) (by rw [z]; decide) (by rw [z]; rfl) (by decide) ?_
      refine aw_aload_n 0 dX0_findWays_321 rfl rfl ?_
      refine aw_bipush (v := 6) dX0_findWays_322 (by decide) ?_
      obtain ⟨_, h1, hw⟩ := hw
      refine aw_virtV (As := [.int 6]) (rest := []) dX0_findWays_324 (acX0_mayFail l G (d - 1) hG (by omega) hw) iX0_mayFail rfl k_777 k_779 k_30 rfl h1 (by omega) (by decide) (by decide) rfl (Nat.le_of_ble_eq_true rfl) (fun h68 hw => ?_)
      refine aw_goto (tgt := 348) dX0_findWays_327 (by decide) ?_
      refine aw_sub (lv' := [(0, .ref v0)]) [0] rfl ?_
      exact abX0_findWays_348 l G d hG hd _ _ hw
    · have hw := hw.2.2.2.2.2.2.2.2.2.2.2.2.2.2.2.2.1 z
      refine aw_tableIn (off := 318) (tgt := 330) dX0_findWays_12 (by rw [z]; decide) (by rw [z]; decide) (by rw [z]; rfl) (by decide) ?_
      refine aw_aload_n 0 dX0_findWays_330 rfl rfl ?_
      refine aw_bipush (v := 6) dX0_findWays_331 (by decide) ?_
      obtain ⟨_, h1, hw⟩ := hw
      refine aw_virtV (As := [.int 6]) (rest := []) dX0_findWays_333 (acX0_mayFail l G (d - 1) hG (by omega) hw) iX0_mayFail rfl k_777 k_779 k_30 rfl h1 (by omega) (by decide) (by decide) rfl (Nat.le_of_ble_eq_true rfl) (fun h69 hw => ?_)
      refine aw_goto (tgt := 348) dX0_findWays_336 (by decide) ?_
      refine aw_sub (lv' := [(0, .ref v0)]) [0] rfl ?_
      exact abX0_findWays_348 l G d hG hd _ _ hw
    · have hw := hw.2.2.2.2.2.2.2.2.2.2.2.2.2.2.2.2.2 z
      refine aw_tableIn (off := 327) (tgt := 339) dX0_findWays_12 (by rw [z]; decide) (by rw [z]; decide) (by rw [z]; rfl) (by decide) ?_
      refine aw_aload_n 0 dX0_findWays_339 rfl rfl ?_
      refine aw_bipush (v := 7) dX0_findWays_340 (by decide) ?_
      obtain ⟨_, h1, hw⟩ := hw
      refine aw_virtV (As := [.int 7]) (rest := []) dX0_findWays_342 (acX0_mustFail l G (d - 1) hG (by omega) hw) iX0_mustFail rfl k_773 k_775 k_29 rfl h1 (by omega) (by decide) (by decide) rfl (Nat.le_of_ble_eq_true rfl) (fun h70 hw => ?_)
      refine aw_goto (tgt := 348) dX0_findWays_345 (by decide) ?_
      refine aw_sub (lv' := [(0, .ref v0)]) [0] rfl ?_
      exact abX0_findWays_348 l G d hG hd _ _ hw
-- X1_init
def wX1_init (h : aH) (v0 : Nat) (v1 : Int32) (v2 : Int32) (v3 : Nat) (v4 : Nat) (Q : aH → Prop) : Prop :=
  wX6_init h v0 v1 v2 (fun h1 => ∀ (q3 : Nat) (h2 : aH), q3 = h1.1 → h2 = a_nw h1 (.inr (5, [.null])) → wX7_init h2 q3 (fun h4 => wF h4 v0 1 7 (.ref q3) (fun h5 => wF h5 v0 1 5 (.ref v3) (fun h7 => wF h7 v0 1 6 (.ref v4) (fun h9 => Q h9)))))
set_option maxRecDepth 100000 in
theorem acX1_init (l : Launch) (G : aG) (d : Nat) (hG : a_GT G) (hd : 4 ≤ d) {Q : aH → Prop} {h : aH} {v0 : Nat} {v1 : Int32} {v2 : Int32} {v3 : Nat} {v4 : Nat} (hw : wX1_init h v0 v1 v2 v3 v4 Q) : AC l G d 24 153 mX1_init [.ref v0, .int v1, .int v2, .ref v3, .ref v4] h (qV Q) := by
  refine ac_of iX1_init (Nat.le_of_ble_eq_true rfl) ?_
  show AW l G d 24 153 mX1_init (qV Q) 0 [(0, .ref v0), (1, .int v1), (2, .int v2), (3, .ref v3), (4, .ref v4)] [] h
  unfold wX1_init at hw
  refine aw_aload_n 0 dX1_init_0 rfl rfl ?_
  refine aw_iload_n 1 dX1_init_1 rfl rfl ?_
  refine aw_iload_n 2 dX1_init_2 rfl rfl ?_
  refine aw_initV (As := [.int v1, .int v2]) (rest := []) (c1 := 22) (w1 := 140) dX1_init_3 (acX6_init l G (d - 1) hG (by omega) hw) iX6_init rfl rfl rfl k_336 k_245 (by omega) (by omega) (by omega) rfl (Nat.le_of_ble_eq_true rfl) (fun h1 hw => ?_)
  refine aw_bud (c1 := 2) (w1 := 13) (Nat.le_refl _) (Nat.le_refl _) ?_
  refine aw_aload_n 0 dX1_init_6 rfl rfl ?_
  refine aw_new (ci := 5) (fs := [.null]) dX1_init_7 clX7 k_337 k_197 k_98 dvX7 (by omega) (by omega) ?_
  have hw := hw _ _ rfl rfl
  generalize a_nw _ _ = h2 at hw ⊢
  generalize h1.1 = q3 at hw ⊢
  refine aw_bud (c1 := 1) (w1 := 12) (Nat.le_refl _) (Nat.le_refl _) ?_
  refine aw_dup dX1_init_10 rfl ?_
  refine aw_initNV (As := []) (rest := [.ref q3, .ref v0]) (c1 := 1) (w1 := 12) (host := "ThrowReports") dX1_init_11 (acX7_init l G (d - 1) hG (by omega) hw) iX7_init rfl rfl rfl (by decide +kernel) k_199 (by omega) (by omega) (by omega) rfl (Nat.le_of_ble_eq_true rfl) (fun h4 hw => ?_)
  refine aw_bud (c1 := 0) (w1 := 0) (Nat.le_refl _) (Nat.le_refl _) ?_
  obtain ⟨fs6, h1, h2, hw⟩ := hw
  refine aw_putF (k := 7) dX1_init_14 clX1 (by decide) k_341 (Or.inl rfl) rfl rfl rfl rfl rfl h1 h2 ?_
  generalize a_up _ _ _ = h5 at hw ⊢
  refine aw_aload_n 0 dX1_init_17 rfl rfl ?_
  refine aw_aload_n 3 dX1_init_18 rfl rfl ?_
  obtain ⟨fs8, h1, h2, hw⟩ := hw
  refine aw_putF (k := 5) dX1_init_19 clX1 (by decide) k_339 (Or.inl rfl) rfl rfl rfl rfl rfl h1 h2 ?_
  generalize a_up _ _ _ = h7 at hw ⊢
  refine aw_aload_n 0 dX1_init_22 rfl rfl ?_
  refine aw_aload 4 dX1_init_23 rfl ?_
  obtain ⟨fs10, h1, h2, hw⟩ := hw
  refine aw_putF (k := 6) dX1_init_25 clX1 (by decide) k_340 (Or.inl rfl) rfl rfl rfl rfl rfl h1 h2 ?_
  generalize a_up _ _ _ = h9 at hw ⊢
  exact aw_vret dX1_init_28 rfl ⟨rfl, hw⟩
-- X1_done
def wbX1_done_25 (Rd : Nat → aH → Nat → Nat → (Int32 → aH → Prop) → Prop) (s0 : Int32) (h : aH) (Q : Int32 → aH → Prop) : Prop :=
  Q s0 h
def wX1_done (Rd : Nat → aH → Nat → Nat → (Int32 → aH → Prop) → Prop) (h : aH) (v0 : Nat) (v1 : Nat) (Q : Int32 → aH → Prop) : Prop :=
  rR h v0 1 5 (fun r1 => isN h r1 (fun ci => Rd ci h r1 v1 (fun r4 h3 => (¬ r4 = 0 → wbX1_done_25 Rd r4 h3 Q) ∧ (r4 = 0 → rR h3 v0 1 6 (fun r5 => isN h3 r5 (fun ci => Rd ci h3 r5 v1 (fun r8 h7 => wbX1_done_25 Rd r8 h7 Q)))))))
set_option maxRecDepth 100000 in
theorem abX1_done_25 (l : Launch) (G : aG) (d : Nat) (hG : a_GT G) {Rd : Nat → aH → Nat → Nat → (Int32 → aH → Prop) → Prop} {dRd : Nat} (hRd : ∀ (ci : Nat) (h : aH) (a b : Nat) (Q : Int32 → aH → Prop), ci < 4 → Rd ci h a b Q → AC l G dRd 0 0 (mdone ci) [.ref a, .ref b] h (qI Q)) (hd : 1 ≤ d) (hdRd : dRd + 1 ≤ d) {Q : Int32 → aH → Prop} (s0 : Int32) (h : aH) (hw : wbX1_done_25 Rd s0 h Q) : AW l G d 0 0 mX1_done (qI Q) 25 [] [.int s0] h := by
  unfold wbX1_done_25 at hw
  exact aw_iret dX1_done_25 rfl rfl ⟨_, rfl, hw⟩
set_option maxRecDepth 100000 in
theorem acX1_done (l : Launch) (G : aG) (d : Nat) (hG : a_GT G) {Rd : Nat → aH → Nat → Nat → (Int32 → aH → Prop) → Prop} {dRd : Nat} (hRd : ∀ (ci : Nat) (h : aH) (a b : Nat) (Q : Int32 → aH → Prop), ci < 4 → Rd ci h a b Q → AC l G dRd 0 0 (mdone ci) [.ref a, .ref b] h (qI Q)) (hd : 1 ≤ d) (hdRd : dRd + 1 ≤ d) {Q : Int32 → aH → Prop} {h : aH} {v0 : Nat} {v1 : Nat} (hw : wX1_done Rd h v0 v1 Q) : AC l G d 0 0 mX1_done [.ref v0, .ref v1] h (qI Q) := by
  refine ac_of iX1_done (Nat.le_of_ble_eq_true rfl) ?_
  show AW l G d 0 0 mX1_done (qI Q) 0 [(0, .ref v0), (1, .ref v1)] [] h
  unfold wX1_done at hw
  refine aw_aload_n 0 dX1_done_0 rfl rfl ?_
  obtain ⟨fs2, r1, h1, h2, hw⟩ := hw
  refine aw_getf (k := 5) dX1_done_1 clX1 (by decide) k_339 (Or.inl rfl) h1 h2 ?_
  refine aw_aload_n 1 dX1_done_4 rfl rfl ?_
  obtain ⟨ci, _, h1, h2, hw⟩ := hw
  refine aw_vdone dX1_done_5 h1 h2 (hRd ci _ _ _ _ h1 hw) k_633 (by omega) (Nat.zero_le _) (Nat.zero_le _) rfl (Nat.le_of_ble_eq_true rfl) (fun r4 h3 hw => ?_)
  refine aw_istore_n (lv' := [(2, .int r4), (0, .ref v0), (1, .ref v1)]) dX1_done_8 rfl (by decide) rfl ?_
  refine aw_iload_n 0 dX1_done_9 rfl rfl ?_
  refine aw_if_ne (tgt := 24) dX1_done_10 (by decide) (fun z => ?_) (fun z => ?_)
  · have hw := hw.1 z
    refine aw_iload_n 0 dX1_done_24 rfl rfl ?_
    refine aw_sub (lv' := []) [] rfl ?_
    exact abX1_done_25 l G d hG hRd hd hdRd _ _ hw
  · have hw := hw.2 z
    refine aw_aload_n 1 dX1_done_13 rfl rfl ?_
    obtain ⟨fs6, r5, h1, h2, hw⟩ := hw
    refine aw_getf (k := 6) dX1_done_14 clX1 (by decide) k_340 (Or.inl rfl) h1 h2 ?_
    refine aw_aload_n 2 dX1_done_17 rfl rfl ?_
    obtain ⟨ci, _, h1, h2, hw⟩ := hw
    refine aw_vdone dX1_done_18 h1 h2 (hRd ci _ _ _ _ h1 hw) k_633 (by omega) (Nat.zero_le _) (Nat.zero_le _) rfl (Nat.le_of_ble_eq_true rfl) (fun r8 h7 hw => ?_)
    refine aw_goto (tgt := 25) dX1_done_21 (by decide) ?_
    refine aw_sub (lv' := []) [] rfl ?_
    exact abX1_done_25 l G d hG hRd hd hdRd _ _ hw
-- X9_joinFailures
def wbX9_joinFailures_35 (K2 : Nat → Nat → Int32 →  aH → Prop) (v0 : Nat) (v1 : Nat) (v2 : Int32) (h : aH) (Q : aH → Prop) : Prop :=
  K2 v0 v1 ((v2 + 1)) h
def wbX9_joinFailures_2_i (K2 : Nat → Nat → Int32 →  aH → Prop) (v0 : Nat) (v1 : Nat) (v2 : Int32) (h : aH) (Q : aH → Prop) : Prop :=
  (8 < v2 → Q h) ∧ (¬ 8 < v2 → rR h v1 7 0 (fun r1 => aR h 4 r1 v2 (fun r3 => isO h r3 5 (wX7_isThere h r3 (fun r5 h4 => (r5 = 0 → wbX9_joinFailures_35 K2 v0 v1 v2 h4 Q) ∧ (¬ r5 = 0 → rR h4 v0 7 0 (fun r6 => aR h4 4 r6 v2 (fun r8 => rR h4 v1 7 0 (fun r9 => aR h4 4 r9 v2 (fun r11 => isO h4 r8 5 (wX7_join h4 r8 r11 (fun h12 => wbX9_joinFailures_35 K2 v0 v1 v2 h12 Q))))))))))))
def wbX9_joinFailures_2 (n : Nat) (v0 : Nat) (v1 : Nat) (v2 : Int32) (h : aH) (Q : aH → Prop) : Prop := match n with
  | 0 => False
  | n + 1 => wbX9_joinFailures_2_i (fun v0 v1 v2 h => wbX9_joinFailures_2 n v0 v1 v2 h Q) v0 v1 v2 h Q
def wX9_joinFailures (h : aH) (v0 : Nat) (v1 : Nat) (Q : aH → Prop) : Prop :=
  ∃ n, wbX9_joinFailures_2 n v0 v1 1 h Q
set_option maxRecDepth 100000 in
theorem abX9_joinFailures_35 (l : Launch) (G : aG) (d : Nat) (hG : a_GT G) (hd : 2 ≤ d) {Q : aH → Prop} {K2 : Nat → Nat → Int32 →  aH → Prop} (kk2 : ∀ (v0 : Nat) (v1 : Nat) (v2 : Int32) (h : aH), K2 v0 v1 v2 h → AW l G d 0 0 mX9_joinFailures (qV Q) 2 [(0, .ref v0), (1, .ref v1), (2, .int v2)] [] h) (v0 : Nat) (v1 : Nat) (v2 : Int32) (h : aH) (hw : wbX9_joinFailures_35 K2 v0 v1 v2 h Q) : AW l G d 0 0 mX9_joinFailures (qV Q) 35 [(0, .ref v0), (1, .ref v1), (2, .int v2)] [] h := by
  unfold wbX9_joinFailures_35 at hw
  refine aw_iinc (v := (v2 + 1)) (lv' := [(2, .int (v2 + 1)), (0, .ref v0), (1, .ref v1)]) 2 dX9_joinFailures_35 rfl rfl (by decide) rfl ?_
  refine aw_goto (tgt := 2) dX9_joinFailures_38 (by decide) ?_
  refine aw_sub (lv' := [(0, .ref v0), (1, .ref v1), (2, .int (v2 + 1))]) [1, 2, 0] rfl ?_
  exact kk2 _ _ _ _ hw
set_option maxRecDepth 100000 in
theorem abX9_joinFailures_2_i (l : Launch) (G : aG) (d : Nat) (hG : a_GT G) (hd : 2 ≤ d) {Q : aH → Prop} {K2 : Nat → Nat → Int32 →  aH → Prop} (kk2 : ∀ (v0 : Nat) (v1 : Nat) (v2 : Int32) (h : aH), K2 v0 v1 v2 h → AW l G d 0 0 mX9_joinFailures (qV Q) 2 [(0, .ref v0), (1, .ref v1), (2, .int v2)] [] h) (v0 : Nat) (v1 : Nat) (v2 : Int32) (h : aH) (hw : wbX9_joinFailures_2_i K2 v0 v1 v2 h Q) : AW l G d 0 0 mX9_joinFailures (qV Q) 2 [(0, .ref v0), (1, .ref v1), (2, .int v2)] [] h := by
  unfold wbX9_joinFailures_2_i at hw
  refine aw_iload_n 2 dX9_joinFailures_2 rfl rfl ?_
  refine aw_bipush (v := 8) dX9_joinFailures_3 (by decide) ?_
  refine aw_icmp_gt (tgt := 41) dX9_joinFailures_5 (by decide) (fun z => ?_) (fun z => ?_)
  · have hw := hw.1 z
    exact aw_vret dX9_joinFailures_41 rfl ⟨rfl, hw⟩
  · have hw := hw.2 z
    refine aw_aload_n 1 dX9_joinFailures_8 rfl rfl ?_
    obtain ⟨fs2, r1, h1, h2, hw⟩ := hw
    refine aw_getf (k := 0) dX9_joinFailures_9 clX9 (by decide) k_259 (Or.inl rfl) h1 h2 ?_
    refine aw_iload_n 2 dX9_joinFailures_12 rfl rfl ?_
    obtain ⟨_, _, r3, h1, h2, h3, hw⟩ := hw
    refine aw_aR dX9_joinFailures_13 (by decide) h1 h2 h3 ?_
    obtain ⟨_, h1, hw⟩ := hw
    refine aw_virtI (As := []) (rest := []) dX9_joinFailures_14 (acX7_isThere l G (d - 1) hG (by omega) hw) iX7_isThere rfl k_750 k_751 k_752 rfl h1 (by omega) (by decide) (by decide) rfl (Nat.le_of_ble_eq_true rfl) (fun r5 h4 hw => ?_)
    refine aw_if_eq (tgt := 35) dX9_joinFailures_17 (by decide) (fun z => ?_) (fun z => ?_)
    · have hw := hw.1 z
      exact abX9_joinFailures_35 l G d hG hd kk2 _ _ _ _ hw
    · have hw := hw.2 z
      refine aw_aload_n 0 dX9_joinFailures_20 rfl rfl ?_
      obtain ⟨fs7, r6, h1, h2, hw⟩ := hw
      refine aw_getf (k := 0) dX9_joinFailures_21 clX9 (by decide) k_259 (Or.inl rfl) h1 h2 ?_
      refine aw_iload_n 2 dX9_joinFailures_24 rfl rfl ?_
      obtain ⟨_, _, r8, h1, h2, h3, hw⟩ := hw
      refine aw_aR dX9_joinFailures_25 (by decide) h1 h2 h3 ?_
      refine aw_aload_n 1 dX9_joinFailures_26 rfl rfl ?_
      obtain ⟨fs10, r9, h1, h2, hw⟩ := hw
      refine aw_getf (k := 0) dX9_joinFailures_27 clX9 (by decide) k_259 (Or.inl rfl) h1 h2 ?_
      refine aw_iload_n 2 dX9_joinFailures_30 rfl rfl ?_
      obtain ⟨_, _, r11, h1, h2, h3, hw⟩ := hw
      refine aw_aR dX9_joinFailures_31 (by decide) h1 h2 h3 ?_
      obtain ⟨_, h1, hw⟩ := hw
      refine aw_virtV (As := [.ref r11]) (rest := []) dX9_joinFailures_32 (acX7_join l G (d - 1) hG (by omega) hw) iX7_join rfl k_863 k_743 k_744 rfl h1 (by omega) (by decide) (by decide) rfl (Nat.le_of_ble_eq_true rfl) (fun h12 hw => ?_)
      exact abX9_joinFailures_35 l G d hG hd kk2 _ _ _ _ hw
set_option maxRecDepth 100000 in
theorem abX9_joinFailures_2 (l : Launch) (G : aG) (d : Nat) (hG : a_GT G) (hd : 2 ≤ d) {Q : aH → Prop} (n : Nat) : ∀  (v0 : Nat) (v1 : Nat) (v2 : Int32) (h : aH), wbX9_joinFailures_2 n v0 v1 v2 h Q → AW l G d 0 0 mX9_joinFailures (qV Q) 2 [(0, .ref v0), (1, .ref v1), (2, .int v2)] [] h := by
  induction n with
  | zero => exact fun _ _ _ _ hw => hw.elim
  | succ n ih => exact fun _ _ _ _ hw => abX9_joinFailures_2_i l G d hG hd ih _ _ _ _ hw
set_option maxRecDepth 100000 in
theorem acX9_joinFailures (l : Launch) (G : aG) (d : Nat) (hG : a_GT G) (hd : 2 ≤ d) {Q : aH → Prop} {h : aH} {v0 : Nat} {v1 : Nat} (hw : wX9_joinFailures h v0 v1 Q) : AC l G d 0 0 mX9_joinFailures [.ref v0, .ref v1] h (qV Q) := by
  refine ac_of iX9_joinFailures (Nat.le_of_ble_eq_true rfl) ?_
  show AW l G d 0 0 mX9_joinFailures (qV Q) 0 [(0, .ref v0), (1, .ref v1)] [] h
  unfold wX9_joinFailures at hw
  refine aw_iconst (v := 1) dX9_joinFailures_0 (by decide) ?_
  refine aw_istore_n (lv' := [(2, .int 1), (0, .ref v0), (1, .ref v1)]) dX9_joinFailures_1 rfl (by decide) rfl ?_
  obtain ⟨n, hw⟩ := hw
  refine aw_sub (lv' := [(0, .ref v0), (1, .ref v1), (2, .int 1)]) [1, 2, 0] rfl ?_
  exact abX9_joinFailures_2 l G d hG hd n _ _ _ _ hw
-- X9_join
def wX9_join (h : aH) (v0 : Nat) (v1 : Nat) (Q : aH → Prop) : Prop :=
  rR h v0 7 0 (fun r1 => aR h 4 r1 0 (fun r3 => rR h v1 7 0 (fun r4 => aR h 4 r4 0 (fun r6 => isO h r3 5 (wX7_join h r3 r6 (fun h7 => isO h7 v0 7 (wX9_joinFailures h7 v0 v1 (fun h8 => Q h8))))))))
set_option maxRecDepth 100000 in
theorem acX9_join (l : Launch) (G : aG) (d : Nat) (hG : a_GT G) (hd : 3 ≤ d) {Q : aH → Prop} {h : aH} {v0 : Nat} {v1 : Nat} (hw : wX9_join h v0 v1 Q) : AC l G d 0 0 mX9_join [.ref v0, .ref v1] h (qV Q) := by
  refine ac_of iX9_join (Nat.le_of_ble_eq_true rfl) ?_
  show AW l G d 0 0 mX9_join (qV Q) 0 [(0, .ref v0), (1, .ref v1)] [] h
  unfold wX9_join at hw
  refine aw_aload_n 0 dX9_join_0 rfl rfl ?_
  obtain ⟨fs2, r1, h1, h2, hw⟩ := hw
  refine aw_getf (k := 0) dX9_join_1 clX9 (by decide) k_259 (Or.inl rfl) h1 h2 ?_
  refine aw_iconst (v := 0) dX9_join_4 (by decide) ?_
  obtain ⟨_, _, r3, h1, h2, h3, hw⟩ := hw
  refine aw_aR dX9_join_5 (by decide) h1 h2 h3 ?_
  refine aw_aload_n 1 dX9_join_6 rfl rfl ?_
  obtain ⟨fs5, r4, h1, h2, hw⟩ := hw
  refine aw_getf (k := 0) dX9_join_7 clX9 (by decide) k_259 (Or.inl rfl) h1 h2 ?_
  refine aw_iconst (v := 0) dX9_join_10 (by decide) ?_
  obtain ⟨_, _, r6, h1, h2, h3, hw⟩ := hw
  refine aw_aR dX9_join_11 (by decide) h1 h2 h3 ?_
  obtain ⟨_, h1, hw⟩ := hw
  refine aw_virtV (As := [.ref r6]) (rest := []) dX9_join_12 (acX7_join l G (d - 1) hG (by omega) hw) iX7_join rfl k_863 k_743 k_744 rfl h1 (by omega) (by decide) (by decide) rfl (Nat.le_of_ble_eq_true rfl) (fun h7 hw => ?_)
  refine aw_aload_n 0 dX9_join_15 rfl rfl ?_
  refine aw_aload_n 1 dX9_join_16 rfl rfl ?_
  obtain ⟨_, h1, hw⟩ := hw
  refine aw_virtV (As := [.ref v1]) (rest := []) dX9_join_17 (acX9_joinFailures l G (d - 1) hG (by omega) hw) iX9_joinFailures rfl k_871 k_860 k_861 rfl h1 (by omega) (by decide) (by decide) rfl (Nat.le_of_ble_eq_true rfl) (fun h8 hw => ?_)
  exact aw_vret dX9_join_20 rfl ⟨rfl, hw⟩
-- X9_bits
def wbX9_bits_28 (K4 : Nat → Int32 → Int32 →  aH → Prop) (v0 : Nat) (v1 : Int32) (v2 : Int32) (h : aH) (Q : Int32 → aH → Prop) : Prop :=
  K4 v0 v1 ((v2 + 1)) h
def wbX9_bits_4_i (K4 : Nat → Int32 → Int32 →  aH → Prop) (v0 : Nat) (v1 : Int32) (v2 : Int32) (h : aH) (Q : Int32 → aH → Prop) : Prop :=
  (8 < v2 → Q v1 h) ∧ (¬ 8 < v2 → rR h v0 7 0 (fun r1 => aR h 4 r1 v2 (fun r3 => isO h r3 5 (wX7_isThere h r3 (fun r5 h4 => (r5 = 0 → wbX9_bits_28 K4 v0 v1 v2 h4 Q) ∧ (¬ r5 = 0 → wbX9_bits_28 K4 v0 ((v1 ||| (1 <<< (v2 &&& 31)))) v2 h4 Q))))))
def wbX9_bits_4 (n : Nat) (v0 : Nat) (v1 : Int32) (v2 : Int32) (h : aH) (Q : Int32 → aH → Prop) : Prop := match n with
  | 0 => False
  | n + 1 => wbX9_bits_4_i (fun v0 v1 v2 h => wbX9_bits_4 n v0 v1 v2 h Q) v0 v1 v2 h Q
def wX9_bits (h : aH) (v0 : Nat) (Q : Int32 → aH → Prop) : Prop :=
  ∃ n, wbX9_bits_4 n v0 0 0 h Q
set_option maxRecDepth 100000 in
theorem abX9_bits_28 (l : Launch) (G : aG) (d : Nat) (hG : a_GT G) (hd : 2 ≤ d) {Q : Int32 → aH → Prop} {K4 : Nat → Int32 → Int32 →  aH → Prop} (kk4 : ∀ (v0 : Nat) (v1 : Int32) (v2 : Int32) (h : aH), K4 v0 v1 v2 h → AW l G d 0 0 mX9_bits (qI Q) 4 [(0, .ref v0), (1, .int v1), (2, .int v2)] [] h) (v0 : Nat) (v1 : Int32) (v2 : Int32) (h : aH) (hw : wbX9_bits_28 K4 v0 v1 v2 h Q) : AW l G d 0 0 mX9_bits (qI Q) 28 [(0, .ref v0), (1, .int v1), (2, .int v2)] [] h := by
  unfold wbX9_bits_28 at hw
  refine aw_iinc (v := (v2 + 1)) (lv' := [(2, .int (v2 + 1)), (0, .ref v0), (1, .int v1)]) 2 dX9_bits_28 rfl rfl (by decide) rfl ?_
  refine aw_goto (tgt := 4) dX9_bits_31 (by decide) ?_
  refine aw_sub (lv' := [(0, .ref v0), (1, .int v1), (2, .int (v2 + 1))]) [1, 2, 0] rfl ?_
  exact kk4 _ _ _ _ hw
set_option maxRecDepth 100000 in
theorem abX9_bits_4_i (l : Launch) (G : aG) (d : Nat) (hG : a_GT G) (hd : 2 ≤ d) {Q : Int32 → aH → Prop} {K4 : Nat → Int32 → Int32 →  aH → Prop} (kk4 : ∀ (v0 : Nat) (v1 : Int32) (v2 : Int32) (h : aH), K4 v0 v1 v2 h → AW l G d 0 0 mX9_bits (qI Q) 4 [(0, .ref v0), (1, .int v1), (2, .int v2)] [] h) (v0 : Nat) (v1 : Int32) (v2 : Int32) (h : aH) (hw : wbX9_bits_4_i K4 v0 v1 v2 h Q) : AW l G d 0 0 mX9_bits (qI Q) 4 [(0, .ref v0), (1, .int v1), (2, .int v2)] [] h := by
  unfold wbX9_bits_4_i at hw
  refine aw_iload_n 2 dX9_bits_4 rfl rfl ?_
  refine aw_bipush (v := 8) dX9_bits_5 (by decide) ?_
  refine aw_icmp_gt (tgt := 34) dX9_bits_7 (by decide) (fun z => ?_) (fun z => ?_)
  · have hw := hw.1 z
    refine aw_iload_n 1 dX9_bits_34 rfl rfl ?_
    exact aw_iret dX9_bits_35 rfl rfl ⟨_, rfl, hw⟩
  · have hw := hw.2 z
    refine aw_aload_n 0 dX9_bits_10 rfl rfl ?_
    obtain ⟨fs2, r1, h1, h2, hw⟩ := hw
    refine aw_getf (k := 0) dX9_bits_11 clX9 (by decide) k_259 (Or.inl rfl) h1 h2 ?_
    refine aw_iload_n 2 dX9_bits_14 rfl rfl ?_
    obtain ⟨_, _, r3, h1, h2, h3, hw⟩ := hw
    refine aw_aR dX9_bits_15 (by decide) h1 h2 h3 ?_
    obtain ⟨_, h1, hw⟩ := hw
    refine aw_virtI (As := []) (rest := []) dX9_bits_16 (acX7_isThere l G (d - 1) hG (by omega) hw) iX7_isThere rfl k_750 k_751 k_752 rfl h1 (by omega) (by decide) (by decide) rfl (Nat.le_of_ble_eq_true rfl) (fun r5 h4 hw => ?_)
    refine aw_if_eq (tgt := 28) dX9_bits_19 (by decide) (fun z => ?_) (fun z => ?_)
    · have hw := hw.1 z
      exact abX9_bits_28 l G d hG hd kk4 _ _ _ _ hw
    · have hw := hw.2 z
      refine aw_iload_n 1 dX9_bits_22 rfl rfl ?_
      refine aw_iconst (v := 1) dX9_bits_23 (by decide) ?_
      refine aw_iload_n 2 dX9_bits_24 rfl rfl ?_
      refine aw_ishl dX9_bits_25 ?_
      refine aw_ior dX9_bits_26 ?_
      refine aw_istore_n (lv' := [(1, .int (v1 ||| (1 <<< (v2 &&& 31)))), (0, .ref v0), (2, .int v2)]) dX9_bits_27 rfl (by decide) rfl ?_
      refine aw_sub (lv' := [(0, .ref v0), (1, .int (v1 ||| (1 <<< (v2 &&& 31)))), (2, .int v2)]) [1, 0, 2] rfl ?_
      exact abX9_bits_28 l G d hG hd kk4 _ _ _ _ hw
set_option maxRecDepth 100000 in
theorem abX9_bits_4 (l : Launch) (G : aG) (d : Nat) (hG : a_GT G) (hd : 2 ≤ d) {Q : Int32 → aH → Prop} (n : Nat) : ∀  (v0 : Nat) (v1 : Int32) (v2 : Int32) (h : aH), wbX9_bits_4 n v0 v1 v2 h Q → AW l G d 0 0 mX9_bits (qI Q) 4 [(0, .ref v0), (1, .int v1), (2, .int v2)] [] h := by
  induction n with
  | zero => exact fun _ _ _ _ hw => hw.elim
  | succ n ih => exact fun _ _ _ _ hw => abX9_bits_4_i l G d hG hd ih _ _ _ _ hw
set_option maxRecDepth 100000 in
theorem acX9_bits (l : Launch) (G : aG) (d : Nat) (hG : a_GT G) (hd : 2 ≤ d) {Q : Int32 → aH → Prop} {h : aH} {v0 : Nat} (hw : wX9_bits h v0 Q) : AC l G d 0 0 mX9_bits [.ref v0] h (qI Q) := by
  refine ac_of iX9_bits (Nat.le_of_ble_eq_true rfl) ?_
  show AW l G d 0 0 mX9_bits (qI Q) 0 [(0, .ref v0)] [] h
  unfold wX9_bits at hw
  refine aw_iconst (v := 0) dX9_bits_0 (by decide) ?_
  refine aw_istore_n (lv' := [(1, .int 0), (0, .ref v0)]) dX9_bits_1 rfl (by decide) rfl ?_
  refine aw_iconst (v := 0) dX9_bits_2 (by decide) ?_
  refine aw_istore_n (lv' := [(2, .int 0), (1, .int 0), (0, .ref v0)]) dX9_bits_3 rfl (by decide) rfl ?_
  obtain ⟨n, hw⟩ := hw
  refine aw_sub (lv' := [(0, .ref v0), (1, .int 0), (2, .int 0)]) [2, 1, 0] rfl ?_
  exact abX9_bits_4 l G d hG hd n _ _ _ _ hw
-- X9_erase
def wbX9_erase_29 (K2 : Nat → Int32 →  aH → Prop) (v0 : Nat) (v1 : Int32) (h : aH) (Q : aH → Prop) : Prop :=
  K2 v0 ((v1 + 1)) h
def wbX9_erase_2_i (K2 : Nat → Int32 →  aH → Prop) (v0 : Nat) (v1 : Int32) (h : aH) (Q : aH → Prop) : Prop :=
  (8 < v1 → Q h) ∧ (¬ 8 < v1 → rR h v0 7 0 (fun r1 => aR h 4 r1 v1 (fun r3 => isO h r3 5 (wX7_isThere h r3 (fun r5 h4 => (r5 = 0 → wbX9_erase_29 K2 v0 v1 h4 Q) ∧ (¬ r5 = 0 → rR h4 v0 7 0 (fun r6 => aR h4 4 r6 v1 (fun r8 => isO h4 r8 5 (wX7_erase h4 r8 (fun h9 => wbX9_erase_29 K2 v0 v1 h9 Q))))))))))
def wbX9_erase_2 (n : Nat) (v0 : Nat) (v1 : Int32) (h : aH) (Q : aH → Prop) : Prop := match n with
  | 0 => False
  | n + 1 => wbX9_erase_2_i (fun v0 v1 h => wbX9_erase_2 n v0 v1 h Q) v0 v1 h Q
def wX9_erase (h : aH) (v0 : Nat) (Q : aH → Prop) : Prop :=
  ∃ n, wbX9_erase_2 n v0 0 h Q
set_option maxRecDepth 100000 in
theorem abX9_erase_29 (l : Launch) (G : aG) (d : Nat) (hG : a_GT G) (hd : 3 ≤ d) {Q : aH → Prop} {K2 : Nat → Int32 →  aH → Prop} (kk2 : ∀ (v0 : Nat) (v1 : Int32) (h : aH), K2 v0 v1 h → AW l G d 0 0 mX9_erase (qV Q) 2 [(0, .ref v0), (1, .int v1)] [] h) (v0 : Nat) (v1 : Int32) (h : aH) (hw : wbX9_erase_29 K2 v0 v1 h Q) : AW l G d 0 0 mX9_erase (qV Q) 29 [(0, .ref v0), (1, .int v1)] [] h := by
  unfold wbX9_erase_29 at hw
  refine aw_iinc (v := (v1 + 1)) (lv' := [(1, .int (v1 + 1)), (0, .ref v0)]) 1 dX9_erase_29 rfl rfl (by decide) rfl ?_
  refine aw_goto (tgt := 2) dX9_erase_32 (by decide) ?_
  refine aw_sub (lv' := [(0, .ref v0), (1, .int (v1 + 1))]) [1, 0] rfl ?_
  exact kk2 _ _ _ hw
set_option maxRecDepth 100000 in
theorem abX9_erase_2_i (l : Launch) (G : aG) (d : Nat) (hG : a_GT G) (hd : 3 ≤ d) {Q : aH → Prop} {K2 : Nat → Int32 →  aH → Prop} (kk2 : ∀ (v0 : Nat) (v1 : Int32) (h : aH), K2 v0 v1 h → AW l G d 0 0 mX9_erase (qV Q) 2 [(0, .ref v0), (1, .int v1)] [] h) (v0 : Nat) (v1 : Int32) (h : aH) (hw : wbX9_erase_2_i K2 v0 v1 h Q) : AW l G d 0 0 mX9_erase (qV Q) 2 [(0, .ref v0), (1, .int v1)] [] h := by
  unfold wbX9_erase_2_i at hw
  refine aw_iload_n 1 dX9_erase_2 rfl rfl ?_
  refine aw_bipush (v := 8) dX9_erase_3 (by decide) ?_
  refine aw_icmp_gt (tgt := 35) dX9_erase_5 (by decide) (fun z => ?_) (fun z => ?_)
  · have hw := hw.1 z
    exact aw_vret dX9_erase_35 rfl ⟨rfl, hw⟩
  · have hw := hw.2 z
    refine aw_aload_n 0 dX9_erase_8 rfl rfl ?_
    obtain ⟨fs2, r1, h1, h2, hw⟩ := hw
    refine aw_getf (k := 0) dX9_erase_9 clX9 (by decide) k_259 (Or.inl rfl) h1 h2 ?_
    refine aw_iload_n 1 dX9_erase_12 rfl rfl ?_
    obtain ⟨_, _, r3, h1, h2, h3, hw⟩ := hw
    refine aw_aR dX9_erase_13 (by decide) h1 h2 h3 ?_
    obtain ⟨_, h1, hw⟩ := hw
    refine aw_virtI (As := []) (rest := []) dX9_erase_14 (acX7_isThere l G (d - 1) hG (by omega) hw) iX7_isThere rfl k_750 k_751 k_752 rfl h1 (by omega) (by decide) (by decide) rfl (Nat.le_of_ble_eq_true rfl) (fun r5 h4 hw => ?_)
    refine aw_if_eq (tgt := 29) dX9_erase_17 (by decide) (fun z => ?_) (fun z => ?_)
    · have hw := hw.1 z
      exact abX9_erase_29 l G d hG hd kk2 _ _ _ hw
    · have hw := hw.2 z
      refine aw_aload_n 0 dX9_erase_20 rfl rfl ?_
      obtain ⟨fs7, r6, h1, h2, hw⟩ := hw
      refine aw_getf (k := 0) dX9_erase_21 clX9 (by decide) k_259 (Or.inl rfl) h1 h2 ?_
      refine aw_iload_n 1 dX9_erase_24 rfl rfl ?_
      obtain ⟨_, _, r8, h1, h2, h3, hw⟩ := hw
      refine aw_aR dX9_erase_25 (by decide) h1 h2 h3 ?_
      obtain ⟨_, h1, hw⟩ := hw
      refine aw_virtV (As := []) (rest := []) dX9_erase_26 (acX7_erase l G (d - 1) hG (by omega) hw) iX7_erase rfl k_754 k_730 k_731 rfl h1 (by omega) (by decide) (by decide) rfl (Nat.le_of_ble_eq_true rfl) (fun h9 hw => ?_)
      exact abX9_erase_29 l G d hG hd kk2 _ _ _ hw
set_option maxRecDepth 100000 in
theorem abX9_erase_2 (l : Launch) (G : aG) (d : Nat) (hG : a_GT G) (hd : 3 ≤ d) {Q : aH → Prop} (n : Nat) : ∀  (v0 : Nat) (v1 : Int32) (h : aH), wbX9_erase_2 n v0 v1 h Q → AW l G d 0 0 mX9_erase (qV Q) 2 [(0, .ref v0), (1, .int v1)] [] h := by
  induction n with
  | zero => exact fun _ _ _ hw => hw.elim
  | succ n ih => exact fun _ _ _ hw => abX9_erase_2_i l G d hG hd ih _ _ _ hw
set_option maxRecDepth 100000 in
theorem acX9_erase (l : Launch) (G : aG) (d : Nat) (hG : a_GT G) (hd : 3 ≤ d) {Q : aH → Prop} {h : aH} {v0 : Nat} (hw : wX9_erase h v0 Q) : AC l G d 0 0 mX9_erase [.ref v0] h (qV Q) := by
  refine ac_of iX9_erase (Nat.le_of_ble_eq_true rfl) ?_
  show AW l G d 0 0 mX9_erase (qV Q) 0 [(0, .ref v0)] [] h
  unfold wX9_erase at hw
  refine aw_iconst (v := 0) dX9_erase_0 (by decide) ?_
  refine aw_istore_n (lv' := [(1, .int 0), (0, .ref v0)]) dX9_erase_1 rfl (by decide) rfl ?_
  obtain ⟨n, hw⟩ := hw
  refine aw_sub (lv' := [(0, .ref v0), (1, .int 0)]) [1, 0] rfl ?_
  exact abX9_erase_2 l G d hG hd n _ _ _ hw
-- X6_goThrough
def wX6_goThrough (Rf : Nat → aH → Nat → Nat → (aH → Prop) → Prop) (h : aH) (v0 : Nat) (v1 : Nat) (Q : aH → Prop) : Prop :=
  rRN h v0 2 (fun r1 => isO h r1 5 (wX7_join h r1 v1 (fun h3 => rRN h3 v0 3 (fun r4 => isO h3 r4 7 (wX9_erase h3 r4 (fun h6 => isN h6 v0 (fun ci => Rf ci h6 v0 v1 (fun h7 => rIN h7 v0 4 (fun r8 => rRN h7 v0 3 (fun r10 => isO h7 r10 7 (wX9_bits h7 r10 (fun r13 h12 => wFN h12 v0 4 (.int (r8 ||| r13)) (fun h14 => Q h14)))))))))))))
set_option maxRecDepth 100000 in
theorem acX6_goThrough (l : Launch) (G : aG) (d : Nat) (hG : a_GT G) {Rf : Nat → aH → Nat → Nat → (aH → Prop) → Prop} {dRf : Nat} (hRf : ∀ (ci : Nat) (h : aH) (a b : Nat) (Q : aH → Prop), ci < 4 → Rf ci h a b Q → AC l G dRf 0 0 (mfindWays ci) [.ref a, .ref b] h (qV Q)) (hd : 4 ≤ d) (hdRf : dRf + 1 ≤ d) {Q : aH → Prop} {h : aH} {v0 : Nat} {v1 : Nat} (hw : wX6_goThrough Rf h v0 v1 Q) : AC l G d 0 0 mX6_goThrough [.ref v0, .ref v1] h (qV Q) := by
  refine ac_of iX6_goThrough (Nat.le_of_ble_eq_true rfl) ?_
  show AW l G d 0 0 mX6_goThrough (qV Q) 0 [(0, .ref v0), (1, .ref v1)] [] h
  unfold wX6_goThrough at hw
  refine aw_aload_n 0 dX6_goThrough_0 rfl rfl ?_
  obtain ⟨ci20, fs2, r1, hc, h1, h2, hw⟩ := hw
  refine aw_getN (k := 2) dX6_goThrough_1 hc (by decide) k_276 h1 h2 ?_
  refine aw_aload_n 1 dX6_goThrough_4 rfl rfl ?_
  obtain ⟨_, h1, hw⟩ := hw
  refine aw_virtV (As := [.ref v1]) (rest := []) dX6_goThrough_5 (acX7_join l G (d - 1) hG (by omega) hw) iX7_join rfl k_742 k_743 k_744 rfl h1 (by omega) (by decide) (by decide) rfl (Nat.le_of_ble_eq_true rfl) (fun h3 hw => ?_)
  refine aw_aload_n 0 dX6_goThrough_8 rfl rfl ?_
  obtain ⟨ci19, fs5, r4, hc, h1, h2, hw⟩ := hw
  refine aw_getN (k := 3) dX6_goThrough_9 hc (by decide) k_278 h1 h2 ?_
  obtain ⟨_, h1, hw⟩ := hw
  refine aw_virtV (As := []) (rest := []) dX6_goThrough_12 (acX9_erase l G (d - 1) hG (by omega) hw) iX9_erase rfl k_746 k_747 k_748 rfl h1 (by omega) (by decide) (by decide) rfl (Nat.le_of_ble_eq_true rfl) (fun h6 hw => ?_)
  refine aw_aload_n 0 dX6_goThrough_15 rfl rfl ?_
  refine aw_aload_n 1 dX6_goThrough_16 rfl rfl ?_
  obtain ⟨ci, _, h1, h2, hw⟩ := hw
  refine aw_vfind dX6_goThrough_17 h1 h2 (hRf ci _ _ _ _ h1 hw) k_755 (by omega) (Nat.zero_le _) (Nat.zero_le _) rfl (Nat.le_of_ble_eq_true rfl) (fun h7 hw => ?_)
  refine aw_aload_n 0 dX6_goThrough_20 rfl rfl ?_
  refine aw_dup dX6_goThrough_21 rfl ?_
  obtain ⟨ci18, fs9, r8, hc, h1, h2, hw⟩ := hw
  refine aw_getN (k := 4) dX6_goThrough_22 hc (by decide) k_290 h1 h2 ?_
  refine aw_aload_n 0 dX6_goThrough_25 rfl rfl ?_
  obtain ⟨ci17, fs11, r10, hc, h1, h2, hw⟩ := hw
  refine aw_getN (k := 3) dX6_goThrough_26 hc (by decide) k_278 h1 h2 ?_
  obtain ⟨_, h1, hw⟩ := hw
  refine aw_virtI (As := []) (rest := [.int r8, .ref v0]) dX6_goThrough_29 (acX9_bits l G (d - 1) hG (by omega) hw) iX9_bits rfl k_908 k_890 k_891 rfl h1 (by omega) (by decide) (by decide) rfl (Nat.le_of_ble_eq_true rfl) (fun r13 h12 hw => ?_)
  refine aw_ior dX6_goThrough_32 ?_
  obtain ⟨ci16, fs15, hc, h1, h2, hw⟩ := hw
  refine aw_putN (k := 4) dX6_goThrough_33 hc (by decide) k_290 rfl rfl rfl h1 h2 ?_
  generalize a_up _ _ _ = h14 at hw ⊢
  exact aw_vret dX6_goThrough_36 rfl ⟨rfl, hw⟩
-- X1_findWays
def wbX1_findWays_75 (Rf : Nat → aH → Nat → Nat → (aH → Prop) → Prop) (h : aH) (Q : aH → Prop) : Prop :=
  Q h
def wX1_findWays (Rf : Nat → aH → Nat → Nat → (aH → Prop) → Prop) (h : aH) (v0 : Nat) (v1 : Nat) (Q : aH → Prop) : Prop :=
  rR h v0 1 5 (fun r1 => isN h r1 (fun _ => wX6_goThrough Rf h r1 v1 (fun h3 => rR h3 v0 1 3 (fun r4 => rR h3 v0 1 5 (fun r6 => rRN h3 r6 3 (fun r8 => isO h3 r4 7 (wX9_joinFailures h3 r4 r8 (fun h10 => rR h10 v0 1 7 (fun r11 => rR h10 v0 1 5 (fun r13 => rRN h10 r13 3 (fun r15 => isO h10 r15 7 (wX9_by h10 r15 0 (fun r18 h17 => ∃ r19, r18 = some r19 ∧ isO h17 r11 5 (wX7_become h17 r11 r19 (fun h20 => rR h20 v0 1 7 (fun r21 => isO h20 r21 5 (wX7_isThere h20 r21 (fun r24 h23 => (r24 = 0 → wbX1_findWays_75 Rf h23 Q) ∧ (¬ r24 = 0 → rR h23 v0 1 6 (fun r25 => rR h23 v0 1 7 (fun r27 => isN h23 r25 (fun _ => wX6_goThrough Rf h23 r25 r27 (fun h29 => rR h29 v0 1 3 (fun r30 => rR h29 v0 1 6 (fun r32 => rRN h29 r32 3 (fun r34 => isO h29 r30 7 (wX9_join h29 r30 r34 (fun h36 => wbX1_findWays_75 Rf h36 Q))))))))))))))))))))))))))))
set_option maxRecDepth 100000 in
theorem abX1_findWays_75 (l : Launch) (G : aG) (d : Nat) (hG : a_GT G) {Rf : Nat → aH → Nat → Nat → (aH → Prop) → Prop} {dRf : Nat} (hRf : ∀ (ci : Nat) (h : aH) (a b : Nat) (Q : aH → Prop), ci < 4 → Rf ci h a b Q → AC l G dRf 0 0 (mfindWays ci) [.ref a, .ref b] h (qV Q)) (hd : 5 ≤ d) (hdRf : dRf + 2 ≤ d) {Q : aH → Prop} (h : aH) (hw : wbX1_findWays_75 Rf  h Q) : AW l G d 0 0 mX1_findWays (qV Q) 75 [] [] h := by
  unfold wbX1_findWays_75 at hw
  exact aw_vret dX1_findWays_75 rfl ⟨rfl, hw⟩
set_option maxRecDepth 100000 in
theorem acX1_findWays (l : Launch) (G : aG) (d : Nat) (hG : a_GT G) {Rf : Nat → aH → Nat → Nat → (aH → Prop) → Prop} {dRf : Nat} (hRf : ∀ (ci : Nat) (h : aH) (a b : Nat) (Q : aH → Prop), ci < 4 → Rf ci h a b Q → AC l G dRf 0 0 (mfindWays ci) [.ref a, .ref b] h (qV Q)) (hd : 5 ≤ d) (hdRf : dRf + 2 ≤ d) {Q : aH → Prop} {h : aH} {v0 : Nat} {v1 : Nat} (hw : wX1_findWays Rf h v0 v1 Q) : AC l G d 0 0 mX1_findWays [.ref v0, .ref v1] h (qV Q) := by
  refine ac_of iX1_findWays (Nat.le_of_ble_eq_true rfl) ?_
  show AW l G d 0 0 mX1_findWays (qV Q) 0 [(0, .ref v0), (1, .ref v1)] [] h
  unfold wX1_findWays at hw
  refine aw_aload_n 0 dX1_findWays_0 rfl rfl ?_
  obtain ⟨fs2, r1, h1, h2, hw⟩ := hw
  refine aw_getf (k := 5) dX1_findWays_1 clX1 (by decide) k_339 (Or.inl rfl) h1 h2 ?_
  refine aw_aload_n 1 dX1_findWays_4 rfl rfl ?_
  obtain ⟨ci, _, h1, h2, hw⟩ := hw
  refine aw_vgoThrough dX1_findWays_5 h1 h2 (acX6_goThrough l G (d - 1) hG hRf (by omega) (by omega) hw) k_858 (by omega) (Nat.zero_le _) (Nat.zero_le _) rfl (Nat.le_of_ble_eq_true rfl) (fun h3 hw => ?_)
  refine aw_aload_n 0 dX1_findWays_8 rfl rfl ?_
  obtain ⟨fs5, r4, h1, h2, hw⟩ := hw
  refine aw_getf (k := 3) dX1_findWays_9 clX1 (by decide) k_279 (Or.inr k_280) h1 h2 ?_
  refine aw_aload_n 0 dX1_findWays_12 rfl rfl ?_
  obtain ⟨fs7, r6, h1, h2, hw⟩ := hw
  refine aw_getf (k := 5) dX1_findWays_13 clX1 (by decide) k_339 (Or.inl rfl) h1 h2 ?_
  obtain ⟨ci39, fs9, r8, hc, h1, h2, hw⟩ := hw
  refine aw_getN (k := 3) dX1_findWays_16 hc (by decide) k_281 h1 h2 ?_
  obtain ⟨_, h1, hw⟩ := hw
  refine aw_virtV (As := [.ref r8]) (rest := []) dX1_findWays_19 (acX9_joinFailures l G (d - 1) hG (by omega) hw) iX9_joinFailures rfl k_859 k_860 k_861 rfl h1 (by omega) (by decide) (by decide) rfl (Nat.le_of_ble_eq_true rfl) (fun h10 hw => ?_)
  refine aw_aload_n 0 dX1_findWays_22 rfl rfl ?_
  obtain ⟨fs12, r11, h1, h2, hw⟩ := hw
  refine aw_getf (k := 7) dX1_findWays_23 clX1 (by decide) k_341 (Or.inl rfl) h1 h2 ?_
  refine aw_aload_n 0 dX1_findWays_26 rfl rfl ?_
  obtain ⟨fs14, r13, h1, h2, hw⟩ := hw
  refine aw_getf (k := 5) dX1_findWays_27 clX1 (by decide) k_339 (Or.inl rfl) h1 h2 ?_
  obtain ⟨ci38, fs16, r15, hc, h1, h2, hw⟩ := hw
  refine aw_getN (k := 3) dX1_findWays_30 hc (by decide) k_281 h1 h2 ?_
  refine aw_iconst (v := 0) dX1_findWays_33 (by decide) ?_
  obtain ⟨_, h1, hw⟩ := hw
  refine aw_virtQ (As := [.int 0]) (rest := [.ref r11]) dX1_findWays_34 (acX9_by l G (d - 1) hG (by omega) hw) iX9_by rfl k_864 k_782 k_783 rfl h1 (by omega) (by decide) (by decide) rfl (Nat.le_of_ble_eq_true rfl) (fun r18 h17 hw => ?_)
  obtain ⟨r19, rfl, hw⟩ := hw
  obtain ⟨_, h1, hw⟩ := hw
  refine aw_virtV (As := [.ref r19]) (rest := []) dX1_findWays_37 (acX7_become l G (d - 1) hG (by omega) hw) iX7_become rfl k_865 k_762 k_763 rfl h1 (by omega) (by decide) (by decide) rfl (Nat.le_of_ble_eq_true rfl) (fun h20 hw => ?_)
  refine aw_aload_n 0 dX1_findWays_40 rfl rfl ?_
  obtain ⟨fs22, r21, h1, h2, hw⟩ := hw
  refine aw_getf (k := 7) dX1_findWays_41 clX1 (by decide) k_341 (Or.inl rfl) h1 h2 ?_
  obtain ⟨_, h1, hw⟩ := hw
  refine aw_virtI (As := []) (rest := []) dX1_findWays_44 (acX7_isThere l G (d - 1) hG (by omega) hw) iX7_isThere rfl k_866 k_751 k_752 rfl h1 (by omega) (by decide) (by decide) rfl (Nat.le_of_ble_eq_true rfl) (fun r24 h23 hw => ?_)
  refine aw_if_eq (tgt := 75) dX1_findWays_47 (by decide) (fun z => ?_) (fun z => ?_)
  · have hw := hw.1 z
    refine aw_sub (lv' := []) [] rfl ?_
    exact abX1_findWays_75 l G d hG hRf hd hdRf _ hw
  · have hw := hw.2 z
    refine aw_aload_n 0 dX1_findWays_50 rfl rfl ?_
    obtain ⟨fs26, r25, h1, h2, hw⟩ := hw
    refine aw_getf (k := 6) dX1_findWays_51 clX1 (by decide) k_340 (Or.inl rfl) h1 h2 ?_
    refine aw_aload_n 0 dX1_findWays_54 rfl rfl ?_
    obtain ⟨fs28, r27, h1, h2, hw⟩ := hw
    refine aw_getf (k := 7) dX1_findWays_55 clX1 (by decide) k_341 (Or.inl rfl) h1 h2 ?_
    obtain ⟨ci, _, h1, h2, hw⟩ := hw
    refine aw_vgoThrough dX1_findWays_58 h1 h2 (acX6_goThrough l G (d - 1) hG hRf (by omega) (by omega) hw) k_858 (by omega) (Nat.zero_le _) (Nat.zero_le _) rfl (Nat.le_of_ble_eq_true rfl) (fun h29 hw => ?_)
    refine aw_aload_n 0 dX1_findWays_61 rfl rfl ?_
    obtain ⟨fs31, r30, h1, h2, hw⟩ := hw
    refine aw_getf (k := 3) dX1_findWays_62 clX1 (by decide) k_279 (Or.inr k_280) h1 h2 ?_
    refine aw_aload_n 0 dX1_findWays_65 rfl rfl ?_
    obtain ⟨fs33, r32, h1, h2, hw⟩ := hw
    refine aw_getf (k := 6) dX1_findWays_66 clX1 (by decide) k_340 (Or.inl rfl) h1 h2 ?_
    obtain ⟨ci37, fs35, r34, hc, h1, h2, hw⟩ := hw
    refine aw_getN (k := 3) dX1_findWays_69 hc (by decide) k_281 h1 h2 ?_
    obtain ⟨_, h1, hw⟩ := hw
    refine aw_virtV (As := [.ref r34]) (rest := []) dX1_findWays_72 (acX9_join l G (d - 1) hG (by omega) hw) iX9_join rfl k_867 k_868 k_869 rfl h1 (by omega) (by decide) (by decide) rfl (Nat.le_of_ble_eq_true rfl) (fun h36 hw => ?_)
    refine aw_sub (lv' := []) [] rfl ?_
    exact abX1_findWays_75 l G d hG hRf hd hdRf _ hw
-- X2_init
def wX2_init (h : aH) (v0 : Nat) (v1 : Int32) (v2 : Int32) (v3 : Int32) (v4 : Int32) (v5 : Nat) (v6 : Nat) (Q : aH → Prop) : Prop :=
  wX6_init h v0 v1 v2 (fun h1 => ∀ (q3 : Nat) (h2 : aH), q3 = h1.1 → h2 = a_nw h1 (.inr (5, [.null])) → wX7_init h2 q3 (fun h4 => wF h4 v0 2 9 (.ref q3) (fun h5 => wF h5 v0 2 5 (.int v3) (fun h7 => wF h7 v0 2 6 (.int v4) (fun h9 => wF h9 v0 2 7 (.ref v5) (fun h11 => wF h11 v0 2 8 (.ref v6) (fun h13 => Q h13)))))))
set_option maxRecDepth 100000 in
theorem acX2_init (l : Launch) (G : aG) (d : Nat) (hG : a_GT G) (hd : 4 ≤ d) {Q : aH → Prop} {h : aH} {v0 : Nat} {v1 : Int32} {v2 : Int32} {v3 : Int32} {v4 : Int32} {v5 : Nat} {v6 : Nat} (hw : wX2_init h v0 v1 v2 v3 v4 v5 v6 Q) : AC l G d 24 153 mX2_init [.ref v0, .int v1, .int v2, .int v3, .int v4, .ref v5, .ref v6] h (qV Q) := by
  refine ac_of iX2_init (Nat.le_of_ble_eq_true rfl) ?_
  show AW l G d 24 153 mX2_init (qV Q) 0 [(0, .ref v0), (1, .int v1), (2, .int v2), (3, .int v3), (4, .int v4), (5, .ref v5), (6, .ref v6)] [] h
  unfold wX2_init at hw
  refine aw_aload_n 0 dX2_init_0 rfl rfl ?_
  refine aw_iload_n 1 dX2_init_1 rfl rfl ?_
  refine aw_iload_n 2 dX2_init_2 rfl rfl ?_
  refine aw_initV (As := [.int v1, .int v2]) (rest := []) (c1 := 22) (w1 := 140) dX2_init_3 (acX6_init l G (d - 1) hG (by omega) hw) iX6_init rfl rfl rfl k_366 k_245 (by omega) (by omega) (by omega) rfl (Nat.le_of_ble_eq_true rfl) (fun h1 hw => ?_)
  refine aw_bud (c1 := 2) (w1 := 13) (Nat.le_refl _) (Nat.le_refl _) ?_
  refine aw_aload_n 0 dX2_init_6 rfl rfl ?_
  refine aw_new (ci := 5) (fs := [.null]) dX2_init_7 clX7 k_367 k_197 k_98 dvX7 (by omega) (by omega) ?_
  have hw := hw _ _ rfl rfl
  generalize a_nw _ _ = h2 at hw ⊢
  generalize h1.1 = q3 at hw ⊢
  refine aw_bud (c1 := 1) (w1 := 12) (Nat.le_refl _) (Nat.le_refl _) ?_
  refine aw_dup dX2_init_10 rfl ?_
  refine aw_initNV (As := []) (rest := [.ref q3, .ref v0]) (c1 := 1) (w1 := 12) (host := "ThrowReports") dX2_init_11 (acX7_init l G (d - 1) hG (by omega) hw) iX7_init rfl rfl rfl (by decide +kernel) k_199 (by omega) (by omega) (by omega) rfl (Nat.le_of_ble_eq_true rfl) (fun h4 hw => ?_)
  refine aw_bud (c1 := 0) (w1 := 0) (Nat.le_refl _) (Nat.le_refl _) ?_
  obtain ⟨fs6, h1, h2, hw⟩ := hw
  refine aw_putF (k := 9) dX2_init_14 clX2 (by decide) k_373 (Or.inl rfl) rfl rfl rfl rfl rfl h1 h2 ?_
  generalize a_up _ _ _ = h5 at hw ⊢
  refine aw_aload_n 0 dX2_init_17 rfl rfl ?_
  refine aw_iload_n 3 dX2_init_18 rfl rfl ?_
  obtain ⟨fs8, h1, h2, hw⟩ := hw
  refine aw_putF (k := 5) dX2_init_19 clX2 (by decide) k_369 (Or.inl rfl) rfl rfl rfl rfl rfl h1 h2 ?_
  generalize a_up _ _ _ = h7 at hw ⊢
  refine aw_aload_n 0 dX2_init_22 rfl rfl ?_
  refine aw_iload 4 dX2_init_23 rfl ?_
  obtain ⟨fs10, h1, h2, hw⟩ := hw
  refine aw_putF (k := 6) dX2_init_25 clX2 (by decide) k_370 (Or.inl rfl) rfl rfl rfl rfl rfl h1 h2 ?_
  generalize a_up _ _ _ = h9 at hw ⊢
  refine aw_aload_n 0 dX2_init_28 rfl rfl ?_
  refine aw_aload 5 dX2_init_29 rfl ?_
  obtain ⟨fs12, h1, h2, hw⟩ := hw
  refine aw_putF (k := 7) dX2_init_31 clX2 (by decide) k_371 (Or.inl rfl) rfl rfl rfl rfl rfl h1 h2 ?_
  generalize a_up _ _ _ = h11 at hw ⊢
  refine aw_aload_n 0 dX2_init_34 rfl rfl ?_
  refine aw_aload 6 dX2_init_35 rfl ?_
  obtain ⟨fs14, h1, h2, hw⟩ := hw
  refine aw_putF (k := 8) dX2_init_37 clX2 (by decide) k_372 (Or.inl rfl) rfl rfl rfl rfl rfl h1 h2 ?_
  generalize a_up _ _ _ = h13 at hw ⊢
  exact aw_vret dX2_init_40 rfl ⟨rfl, hw⟩
-- X2_done
def wbX2_done_34 (Rd : Nat → aH → Nat → Nat → (Int32 → aH → Prop) → Prop) (s0 : Int32) (h : aH) (Q : Int32 → aH → Prop) : Prop :=
  Q s0 h
def wX2_done (Rd : Nat → aH → Nat → Nat → (Int32 → aH → Prop) → Prop) (h : aH) (v0 : Nat) (v1 : Nat) (Q : Int32 → aH → Prop) : Prop :=
  rI h v0 2 5 (fun r1 => rI h v0 2 6 (fun r3 => isO h v1 4 (wX5_holds h v1 r1 r3 (fun r6 h5 => (r6 = 0 → rR h5 v0 2 8 (fun r7 => isN h5 r7 (fun ci => Rd ci h5 r7 v1 (fun r10 h9 => wbX2_done_34 Rd r10 h9 Q)))) ∧ (¬ r6 = 0 → rR h5 v0 2 7 (fun r11 => isN h5 r11 (fun ci => Rd ci h5 r11 v1 (fun r14 h13 => wbX2_done_34 Rd r14 h13 Q))))))))
set_option maxRecDepth 100000 in
theorem abX2_done_34 (l : Launch) (G : aG) (d : Nat) (hG : a_GT G) {Rd : Nat → aH → Nat → Nat → (Int32 → aH → Prop) → Prop} {dRd : Nat} (hRd : ∀ (ci : Nat) (h : aH) (a b : Nat) (Q : Int32 → aH → Prop), ci < 4 → Rd ci h a b Q → AC l G dRd 0 0 (mdone ci) [.ref a, .ref b] h (qI Q)) (hd : 3 ≤ d) (hdRd : dRd + 1 ≤ d) {Q : Int32 → aH → Prop} (s0 : Int32) (h : aH) (hw : wbX2_done_34 Rd s0 h Q) : AW l G d 0 0 mX2_done (qI Q) 34 [] [.int s0] h := by
  unfold wbX2_done_34 at hw
  exact aw_iret dX2_done_34 rfl rfl ⟨_, rfl, hw⟩
set_option maxRecDepth 100000 in
theorem acX2_done (l : Launch) (G : aG) (d : Nat) (hG : a_GT G) {Rd : Nat → aH → Nat → Nat → (Int32 → aH → Prop) → Prop} {dRd : Nat} (hRd : ∀ (ci : Nat) (h : aH) (a b : Nat) (Q : Int32 → aH → Prop), ci < 4 → Rd ci h a b Q → AC l G dRd 0 0 (mdone ci) [.ref a, .ref b] h (qI Q)) (hd : 3 ≤ d) (hdRd : dRd + 1 ≤ d) {Q : Int32 → aH → Prop} {h : aH} {v0 : Nat} {v1 : Nat} (hw : wX2_done Rd h v0 v1 Q) : AC l G d 0 0 mX2_done [.ref v0, .ref v1] h (qI Q) := by
  refine ac_of iX2_done (Nat.le_of_ble_eq_true rfl) ?_
  show AW l G d 0 0 mX2_done (qI Q) 0 [(0, .ref v0), (1, .ref v1)] [] h
  unfold wX2_done at hw
  refine aw_aload_n 1 dX2_done_0 rfl rfl ?_
  refine aw_aload_n 0 dX2_done_1 rfl rfl ?_
  obtain ⟨fs2, r1, h1, h2, hw⟩ := hw
  refine aw_getf (k := 5) dX2_done_2 clX2 (by decide) k_369 (Or.inl rfl) h1 h2 ?_
  refine aw_aload_n 0 dX2_done_5 rfl rfl ?_
  obtain ⟨fs4, r3, h1, h2, hw⟩ := hw
  refine aw_getf (k := 6) dX2_done_6 clX2 (by decide) k_370 (Or.inl rfl) h1 h2 ?_
  obtain ⟨_, h1, hw⟩ := hw
  refine aw_virtI (As := [.int r1, .int r3]) (rest := []) dX2_done_9 (acX5_holds l G (d - 1) hG (by omega) hw) iX5_holds rfl k_636 k_528 k_529 rfl h1 (by omega) (by decide) (by decide) rfl (Nat.le_of_ble_eq_true rfl) (fun r6 h5 hw => ?_)
  refine aw_if_eq (tgt := 26) dX2_done_12 (by decide) (fun z => ?_) (fun z => ?_)
  · have hw := hw.1 z
    refine aw_aload_n 0 dX2_done_26 rfl rfl ?_
    obtain ⟨fs8, r7, h1, h2, hw⟩ := hw
    refine aw_getf (k := 8) dX2_done_27 clX2 (by decide) k_372 (Or.inl rfl) h1 h2 ?_
    refine aw_aload_n 1 dX2_done_30 rfl rfl ?_
    obtain ⟨ci, _, h1, h2, hw⟩ := hw
    refine aw_vdone dX2_done_31 h1 h2 (hRd ci _ _ _ _ h1 hw) k_637 (by omega) (Nat.zero_le _) (Nat.zero_le _) rfl (Nat.le_of_ble_eq_true rfl) (fun r10 h9 hw => ?_)
    refine aw_sub (lv' := []) [] rfl ?_
    exact abX2_done_34 l G d hG hRd hd hdRd _ _ hw
  · have hw := hw.2 z
    refine aw_aload_n 0 dX2_done_15 rfl rfl ?_
    obtain ⟨fs12, r11, h1, h2, hw⟩ := hw
    refine aw_getf (k := 7) dX2_done_16 clX2 (by decide) k_371 (Or.inl rfl) h1 h2 ?_
    refine aw_aload_n 1 dX2_done_19 rfl rfl ?_
    obtain ⟨ci, _, h1, h2, hw⟩ := hw
    refine aw_vdone dX2_done_20 h1 h2 (hRd ci _ _ _ _ h1 hw) k_637 (by omega) (Nat.zero_le _) (Nat.zero_le _) rfl (Nat.le_of_ble_eq_true rfl) (fun r14 h13 hw => ?_)
    refine aw_goto (tgt := 34) dX2_done_23 (by decide) ?_
    refine aw_sub (lv' := []) [] rfl ?_
    exact abX2_done_34 l G d hG hRd hd hdRd _ _ hw
-- X2_choose
def wbX2_choose_49 (Rf : Nat → aH → Nat → Nat → (aH → Prop) → Prop) (h : aH) (Q : aH → Prop) : Prop :=
  Q h
def wX2_choose (Rf : Nat → aH → Nat → Nat → (aH → Prop) → Prop) (h : aH) (v0 : Nat) (v1 : Nat) (v2 : Nat) (v3 : Int32) (Q : aH → Prop) : Prop :=
  rR h v0 2 9 (fun r1 => isO h r1 5 (wX7_become h r1 v2 (fun h3 => rR h3 v0 2 9 (fun r4 => rI h3 v0 2 5 (fun r6 => isO h3 r4 5 (wX7_keep h3 r4 r6 v3 (fun h8 => rR h8 v0 2 9 (fun r9 => isO h8 r9 5 (wX7_isThere h8 r9 (fun r12 h11 => (r12 = 0 → wbX2_choose_49 Rf h11 Q) ∧ (¬ r12 = 0 → rR h11 v0 2 9 (fun r13 => isN h11 v1 (fun _ => wX6_goThrough Rf h11 v1 r13 (fun h15 => rR h15 v0 2 3 (fun r16 => rRN h15 v1 3 (fun r18 => isO h15 r16 7 (wX9_join h15 r16 r18 (fun h20 => wbX2_choose_49 Rf h20 Q))))))))))))))))))
set_option maxRecDepth 100000 in
theorem abX2_choose_49 (l : Launch) (G : aG) (d : Nat) (hG : a_GT G) {Rf : Nat → aH → Nat → Nat → (aH → Prop) → Prop} {dRf : Nat} (hRf : ∀ (ci : Nat) (h : aH) (a b : Nat) (Q : aH → Prop), ci < 4 → Rf ci h a b Q → AC l G dRf 0 0 (mfindWays ci) [.ref a, .ref b] h (qV Q)) (hd : 5 ≤ d) (hdRf : dRf + 2 ≤ d) {Q : aH → Prop} (h : aH) (hw : wbX2_choose_49 Rf  h Q) : AW l G d 0 0 mX2_choose (qV Q) 49 [] [] h := by
  unfold wbX2_choose_49 at hw
  exact aw_vret dX2_choose_49 rfl ⟨rfl, hw⟩
set_option maxRecDepth 100000 in
theorem acX2_choose (l : Launch) (G : aG) (d : Nat) (hG : a_GT G) {Rf : Nat → aH → Nat → Nat → (aH → Prop) → Prop} {dRf : Nat} (hRf : ∀ (ci : Nat) (h : aH) (a b : Nat) (Q : aH → Prop), ci < 4 → Rf ci h a b Q → AC l G dRf 0 0 (mfindWays ci) [.ref a, .ref b] h (qV Q)) (hd : 5 ≤ d) (hdRf : dRf + 2 ≤ d) {Q : aH → Prop} {h : aH} {v0 : Nat} {v1 : Nat} {v2 : Nat} {v3 : Int32} (hw : wX2_choose Rf h v0 v1 v2 v3 Q) : AC l G d 0 0 mX2_choose [.ref v0, .ref v1, .ref v2, .int v3] h (qV Q) := by
  refine ac_of iX2_choose (Nat.le_of_ble_eq_true rfl) ?_
  show AW l G d 0 0 mX2_choose (qV Q) 0 [(0, .ref v0), (1, .ref v1), (2, .ref v2), (3, .int v3)] [] h
  unfold wX2_choose at hw
  refine aw_aload_n 0 dX2_choose_0 rfl rfl ?_
  obtain ⟨fs2, r1, h1, h2, hw⟩ := hw
  refine aw_getf (k := 9) dX2_choose_1 clX2 (by decide) k_373 (Or.inl rfl) h1 h2 ?_
  refine aw_aload_n 2 dX2_choose_4 rfl rfl ?_
  obtain ⟨_, h1, hw⟩ := hw
  refine aw_virtV (As := [.ref v2]) (rest := []) dX2_choose_5 (acX7_become l G (d - 1) hG (by omega) hw) iX7_become rfl k_880 k_762 k_763 rfl h1 (by omega) (by decide) (by decide) rfl (Nat.le_of_ble_eq_true rfl) (fun h3 hw => ?_)
  refine aw_aload_n 0 dX2_choose_8 rfl rfl ?_
  obtain ⟨fs5, r4, h1, h2, hw⟩ := hw
  refine aw_getf (k := 9) dX2_choose_9 clX2 (by decide) k_373 (Or.inl rfl) h1 h2 ?_
  refine aw_aload_n 0 dX2_choose_12 rfl rfl ?_
  obtain ⟨fs7, r6, h1, h2, hw⟩ := hw
  refine aw_getf (k := 5) dX2_choose_13 clX2 (by decide) k_369 (Or.inl rfl) h1 h2 ?_
  refine aw_iload_n 3 dX2_choose_16 rfl rfl ?_
  obtain ⟨_, h1, hw⟩ := hw
  refine aw_virtV (As := [.int r6, .int v3]) (rest := []) dX2_choose_17 (acX7_keep l G (d - 1) hG (by omega) hw) iX7_keep rfl k_881 k_812 k_813 rfl h1 (by omega) (by decide) (by decide) rfl (Nat.le_of_ble_eq_true rfl) (fun h8 hw => ?_)
  refine aw_aload_n 0 dX2_choose_20 rfl rfl ?_
  obtain ⟨fs10, r9, h1, h2, hw⟩ := hw
  refine aw_getf (k := 9) dX2_choose_21 clX2 (by decide) k_373 (Or.inl rfl) h1 h2 ?_
  obtain ⟨_, h1, hw⟩ := hw
  refine aw_virtI (As := []) (rest := []) dX2_choose_24 (acX7_isThere l G (d - 1) hG (by omega) hw) iX7_isThere rfl k_882 k_751 k_752 rfl h1 (by omega) (by decide) (by decide) rfl (Nat.le_of_ble_eq_true rfl) (fun r12 h11 hw => ?_)
  refine aw_if_eq (tgt := 49) dX2_choose_27 (by decide) (fun z => ?_) (fun z => ?_)
  · have hw := hw.1 z
    refine aw_sub (lv' := []) [] rfl ?_
    exact abX2_choose_49 l G d hG hRf hd hdRf _ hw
  · have hw := hw.2 z
    refine aw_aload_n 1 dX2_choose_30 rfl rfl ?_
    refine aw_aload_n 0 dX2_choose_31 rfl rfl ?_
    obtain ⟨fs14, r13, h1, h2, hw⟩ := hw
    refine aw_getf (k := 9) dX2_choose_32 clX2 (by decide) k_373 (Or.inl rfl) h1 h2 ?_
    obtain ⟨ci, _, h1, h2, hw⟩ := hw
    refine aw_vgoThrough dX2_choose_35 h1 h2 (acX6_goThrough l G (d - 1) hG hRf (by omega) (by omega) hw) k_883 (by omega) (Nat.zero_le _) (Nat.zero_le _) rfl (Nat.le_of_ble_eq_true rfl) (fun h15 hw => ?_)
    refine aw_aload_n 0 dX2_choose_38 rfl rfl ?_
    obtain ⟨fs17, r16, h1, h2, hw⟩ := hw
    refine aw_getf (k := 3) dX2_choose_39 clX2 (by decide) k_283 (Or.inr k_284) h1 h2 ?_
    refine aw_aload_n 1 dX2_choose_42 rfl rfl ?_
    obtain ⟨ci21, fs19, r18, hc, h1, h2, hw⟩ := hw
    refine aw_getN (k := 3) dX2_choose_43 hc (by decide) k_285 h1 h2 ?_
    obtain ⟨_, h1, hw⟩ := hw
    refine aw_virtV (As := [.ref r18]) (rest := []) dX2_choose_46 (acX9_join l G (d - 1) hG (by omega) hw) iX9_join rfl k_884 k_868 k_869 rfl h1 (by omega) (by decide) (by decide) rfl (Nat.le_of_ble_eq_true rfl) (fun h20 hw => ?_)
    refine aw_sub (lv' := []) [] rfl ?_
    exact abX2_choose_49 l G d hG hRf hd hdRf _ hw
-- X2_findWays
def wX2_findWays (Rf : Nat → aH → Nat → Nat → (aH → Prop) → Prop) (h : aH) (v0 : Nat) (v1 : Nat) (Q : aH → Prop) : Prop :=
  rR h v0 2 7 (fun r1 => rI h v0 2 6 (fun r3 => wX4_thoseThatAre h r3 (fun r6 h5 => isO h5 v0 2 (wX2_choose Rf h5 v0 r1 v1 r6 (fun h7 => rR h7 v0 2 8 (fun r8 => rI h7 v0 2 6 (fun r10 => wX4_thoseThatAre h7 r10 (fun r13 h12 => isO h12 v0 2 (wX2_choose Rf h12 v0 r8 v1 ((r13 ^^^ (-1))) (fun h14 => Q h14))))))))))
set_option maxRecDepth 100000 in
theorem acX2_findWays (l : Launch) (G : aG) (d : Nat) (hG : a_GT G) {Rf : Nat → aH → Nat → Nat → (aH → Prop) → Prop} {dRf : Nat} (hRf : ∀ (ci : Nat) (h : aH) (a b : Nat) (Q : aH → Prop), ci < 4 → Rf ci h a b Q → AC l G dRf 0 0 (mfindWays ci) [.ref a, .ref b] h (qV Q)) (hd : 6 ≤ d) (hdRf : dRf + 3 ≤ d) {Q : aH → Prop} {h : aH} {v0 : Nat} {v1 : Nat} (hw : wX2_findWays Rf h v0 v1 Q) : AC l G d 0 0 mX2_findWays [.ref v0, .ref v1] h (qV Q) := by
  refine ac_of iX2_findWays (Nat.le_of_ble_eq_true rfl) ?_
  show AW l G d 0 0 mX2_findWays (qV Q) 0 [(0, .ref v0), (1, .ref v1)] [] h
  unfold wX2_findWays at hw
  refine aw_aload_n 0 dX2_findWays_0 rfl rfl ?_
  refine aw_aload_n 0 dX2_findWays_1 rfl rfl ?_
  obtain ⟨fs2, r1, h1, h2, hw⟩ := hw
  refine aw_getf (k := 7) dX2_findWays_2 clX2 (by decide) k_371 (Or.inl rfl) h1 h2 ?_
  refine aw_aload_n 1 dX2_findWays_5 rfl rfl ?_
  refine aw_aload_n 0 dX2_findWays_6 rfl rfl ?_
  obtain ⟨fs4, r3, h1, h2, hw⟩ := hw
  refine aw_getf (k := 6) dX2_findWays_7 clX2 (by decide) k_370 (Or.inl rfl) h1 h2 ?_
  refine aw_staticI (As := [.int r3]) (rest := [.ref v1, .ref r1, .ref v0]) dX2_findWays_10 (acX4_thoseThatAre l G (d - 1) hG (by omega) hw) iX4_thoseThatAre rfl k_875 k_532 (by omega) (by decide) (by decide) rfl (Nat.le_of_ble_eq_true rfl) (fun r6 h5 hw => ?_)
  obtain ⟨_, h1, hw⟩ := hw
  refine aw_virtV (As := [.ref r1, .ref v1, .int r6]) (rest := []) dX2_findWays_13 (acX2_choose l G (d - 1) hG hRf (by omega) (by omega) hw) iX2_choose rfl k_876 k_878 k_40 rfl h1 (by omega) (by decide) (by decide) rfl (Nat.le_of_ble_eq_true rfl) (fun h7 hw => ?_)
  refine aw_aload_n 0 dX2_findWays_16 rfl rfl ?_
  refine aw_aload_n 0 dX2_findWays_17 rfl rfl ?_
  obtain ⟨fs9, r8, h1, h2, hw⟩ := hw
  refine aw_getf (k := 8) dX2_findWays_18 clX2 (by decide) k_372 (Or.inl rfl) h1 h2 ?_
  refine aw_aload_n 1 dX2_findWays_21 rfl rfl ?_
  refine aw_aload_n 0 dX2_findWays_22 rfl rfl ?_
  obtain ⟨fs11, r10, h1, h2, hw⟩ := hw
  refine aw_getf (k := 6) dX2_findWays_23 clX2 (by decide) k_370 (Or.inl rfl) h1 h2 ?_
  refine aw_staticI (As := [.int r10]) (rest := [.ref v1, .ref r8, .ref v0]) dX2_findWays_26 (acX4_thoseThatAre l G (d - 1) hG (by omega) hw) iX4_thoseThatAre rfl k_875 k_532 (by omega) (by decide) (by decide) rfl (Nat.le_of_ble_eq_true rfl) (fun r13 h12 hw => ?_)
  refine aw_iconst (v := (-1)) dX2_findWays_29 (by decide) ?_
  refine aw_ixor dX2_findWays_30 ?_
  obtain ⟨_, h1, hw⟩ := hw
  refine aw_virtV (As := [.ref r8, .ref v1, .int (r13 ^^^ (-1))]) (rest := []) dX2_findWays_31 (acX2_choose l G (d - 1) hG hRf (by omega) (by omega) hw) iX2_choose rfl k_876 k_878 k_40 rfl h1 (by omega) (by decide) (by decide) rfl (Nat.le_of_ble_eq_true rfl) (fun h14 hw => ?_)
  exact aw_vret dX2_findWays_34 rfl ⟨rfl, hw⟩
-- X3_init
def wX3_init (h : aH) (v0 : Nat) (v1 : Int32) (v2 : Int32) (v3 : Nat) (v4 : Int32) (v5 : Option Nat) (v6 : Option Nat) (Q : aH → Prop) : Prop :=
  wX6_init h v0 v1 v2 (fun h1 => ∀ (q3 : Nat) (h2 : aH), q3 = h1.1 → h2 = a_nw h1 (.inr (5, [.null])) → wX7_init h2 q3 (fun h4 => wF h4 v0 3 9 (.ref q3) (fun h5 => ∀ (q8 : Nat) (h7 : aH), q8 = h5.1 → h7 = a_nw h5 (.inr (7, [.null])) → wX9_init h7 q8 (fun h9 => wF h9 v0 3 10 (.ref q8) (fun h10 => wF h10 v0 3 5 (.ref v3) (fun h12 => wF h12 v0 3 6 (.int v4) (fun h14 => wF h14 v0 3 7 (va_rf v5) (fun h16 => wF h16 v0 3 8 (va_rf v6) (fun h18 => Q h18)))))))))
set_option maxRecDepth 100000 in
theorem acX3_init (l : Launch) (G : aG) (d : Nat) (hG : a_GT G) (hd : 4 ≤ d) {Q : aH → Prop} {h : aH} {v0 : Nat} {v1 : Int32} {v2 : Int32} {v3 : Nat} {v4 : Int32} {v5 : Option Nat} {v6 : Option Nat} (hw : wX3_init h v0 v1 v2 v3 v4 v5 v6 Q) : AC l G d 44 280 mX3_init [.ref v0, .int v1, .int v2, .ref v3, .int v4, va_rf v5, va_rf v6] h (qV Q) := by
  refine ac_of iX3_init (by cases v5 <;> cases v6 <;> exact Nat.le_of_ble_eq_true rfl) ?_
  rw [show lv_args 0 [.ref v0, .int v1, .int v2, .ref v3, .int v4, va_rf v5, va_rf v6] = [(0, .ref v0), (1, .int v1), (2, .int v2), (3, .ref v3), (4, .int v4), (5, va_rf v5), (6, va_rf v6)] from by cases v5 <;> cases v6 <;> rfl]
  show AW l G d 44 280 mX3_init (qV Q) 0 [(0, .ref v0), (1, .int v1), (2, .int v2), (3, .ref v3), (4, .int v4), (5, va_rf v5), (6, va_rf v6)] [] h
  unfold wX3_init at hw
  refine aw_aload_n 0 dX3_init_0 rfl rfl ?_
  refine aw_iload_n 1 dX3_init_1 rfl rfl ?_
  refine aw_iload_n 2 dX3_init_2 rfl rfl ?_
  refine aw_initV (As := [.int v1, .int v2]) (rest := []) (c1 := 22) (w1 := 140) dX3_init_3 (acX6_init l G (d - 1) hG (by omega) hw) iX6_init rfl rfl rfl k_407 k_245 (by omega) (by omega) (by omega) rfl (Nat.le_of_ble_eq_true rfl) (fun h1 hw => ?_)
  refine aw_bud (c1 := 22) (w1 := 140) (Nat.le_refl _) (Nat.le_refl _) ?_
  refine aw_aload_n 0 dX3_init_6 rfl rfl ?_
  refine aw_new (ci := 5) (fs := [.null]) dX3_init_7 clX7 k_408 k_197 k_98 dvX7 (by omega) (by omega) ?_
  have hw := hw _ _ rfl rfl
  generalize a_nw _ _ = h2 at hw ⊢
  generalize h1.1 = q3 at hw ⊢
  refine aw_bud (c1 := 21) (w1 := 139) (Nat.le_refl _) (Nat.le_refl _) ?_
  refine aw_dup dX3_init_10 rfl ?_
  refine aw_initNV (As := []) (rest := [.ref q3, .ref v0]) (c1 := 1) (w1 := 12) (host := "ThrowReports") dX3_init_11 (acX7_init l G (d - 1) hG (by omega) hw) iX7_init rfl rfl rfl (by decide +kernel) k_199 (by omega) (by omega) (by omega) rfl (Nat.le_of_ble_eq_true rfl) (fun h4 hw => ?_)
  refine aw_bud (c1 := 20) (w1 := 127) (Nat.le_refl _) (Nat.le_refl _) ?_
  obtain ⟨fs6, h1, h2, hw⟩ := hw
  refine aw_putF (k := 9) dX3_init_14 clX3 (by decide) k_416 (Or.inl rfl) rfl rfl rfl rfl rfl h1 h2 ?_
  generalize a_up _ _ _ = h5 at hw ⊢
  refine aw_aload_n 0 dX3_init_17 rfl rfl ?_
  refine aw_new (ci := 7) (fs := [.null]) dX3_init_18 clX9 k_410 k_251 k_102 dvX9 (by omega) (by omega) ?_
  have hw := hw _ _ rfl rfl
  generalize a_nw _ _ = h7 at hw ⊢
  generalize h5.1 = q8 at hw ⊢
  refine aw_bud (c1 := 19) (w1 := 126) (Nat.le_refl _) (Nat.le_refl _) ?_
  refine aw_dup dX3_init_21 rfl ?_
  refine aw_initV (As := []) (rest := [.ref q8, .ref v0]) (c1 := 19) (w1 := 126) dX3_init_22 (acX9_init l G (d - 1) hG (by omega) hw) iX9_init rfl rfl rfl k_411 k_253 (by omega) (by omega) (by omega) rfl (Nat.le_of_ble_eq_true rfl) (fun h9 hw => ?_)
  refine aw_bud (c1 := 0) (w1 := 0) (Nat.le_refl _) (Nat.le_refl _) ?_
  obtain ⟨fs11, h1, h2, hw⟩ := hw
  refine aw_putF (k := 10) dX3_init_25 clX3 (by decide) k_417 (Or.inl rfl) rfl rfl rfl rfl rfl h1 h2 ?_
  generalize a_up _ _ _ = h10 at hw ⊢
  refine aw_aload_n 0 dX3_init_28 rfl rfl ?_
  refine aw_aload_n 3 dX3_init_29 rfl rfl ?_
  obtain ⟨fs13, h1, h2, hw⟩ := hw
  refine aw_putF (k := 5) dX3_init_30 clX3 (by decide) k_412 (Or.inl rfl) rfl rfl rfl rfl rfl h1 h2 ?_
  generalize a_up _ _ _ = h12 at hw ⊢
  refine aw_aload_n 0 dX3_init_33 rfl rfl ?_
  refine aw_iload 4 dX3_init_34 rfl ?_
  obtain ⟨fs15, h1, h2, hw⟩ := hw
  refine aw_putF (k := 6) dX3_init_36 clX3 (by decide) k_413 (Or.inl rfl) rfl rfl rfl rfl rfl h1 h2 ?_
  generalize a_up _ _ _ = h14 at hw ⊢
  refine aw_aload_n 0 dX3_init_39 rfl rfl ?_
  refine aw_aloadQ 5 dX3_init_40 rfl ?_
  obtain ⟨fs17, h1, h2, hw⟩ := hw
  refine aw_putF (k := 7) dX3_init_42 clX3 (by decide) k_414 (Or.inl rfl) rfl rfl rfl (a_nQ _) (a_fQ _) h1 h2 ?_
  generalize a_up _ _ _ = h16 at hw ⊢
  refine aw_aload_n 0 dX3_init_45 rfl rfl ?_
  refine aw_aloadQ 6 dX3_init_46 rfl ?_
  obtain ⟨fs19, h1, h2, hw⟩ := hw
  refine aw_putF (k := 8) dX3_init_48 clX3 (by decide) k_415 (Or.inl rfl) rfl rfl rfl (a_nQ _) (a_fQ _) h1 h2 ?_
  generalize a_up _ _ _ = h18 at hw ⊢
  exact aw_vret dX3_init_51 rfl ⟨rfl, hw⟩
-- X3_takes
def wbX3_takes_16 (s0 : Int32) (h : aH) (Q : Int32 → aH → Prop) : Prop :=
  oB s0 ∧ Q s0 h
def wX3_takes (h : aH) (v0 : Nat) (v1 : Int32) (Q : Int32 → aH → Prop) : Prop :=
  rI h v0 3 6 (fun r1 => (((r1 >>> (v1 &&& 31)) &&& 1) = 0 → wbX3_takes_16 0 h Q) ∧ (¬ ((r1 >>> (v1 &&& 31)) &&& 1) = 0 → wbX3_takes_16 1 h Q))
set_option maxRecDepth 100000 in
theorem abX3_takes_16 (l : Launch) (G : aG) (d : Nat) (hG : a_GT G) (hd : 1 ≤ d) {Q : Int32 → aH → Prop} (s0 : Int32) (h : aH) (hw : wbX3_takes_16 s0 h Q) : AW l G d 0 0 mX3_takes (qI Q) 16 [] [.int s0] h := by
  unfold wbX3_takes_16 at hw
  exact aw_iret dX3_takes_16 rfl (a_nB hw.1) ⟨_, rfl, hw.2⟩
set_option maxRecDepth 100000 in
theorem acX3_takes (l : Launch) (G : aG) (d : Nat) (hG : a_GT G) (hd : 1 ≤ d) {Q : Int32 → aH → Prop} {h : aH} {v0 : Nat} {v1 : Int32} (hw : wX3_takes h v0 v1 Q) : AC l G d 0 0 mX3_takes [.ref v0, .int v1] h (qI Q) := by
  refine ac_of iX3_takes (Nat.le_of_ble_eq_true rfl) ?_
  show AW l G d 0 0 mX3_takes (qI Q) 0 [(0, .ref v0), (1, .int v1)] [] h
  unfold wX3_takes at hw
  refine aw_aload_n 0 dX3_takes_0 rfl rfl ?_
  obtain ⟨fs2, r1, h1, h2, hw⟩ := hw
  refine aw_getf (k := 6) dX3_takes_1 clX3 (by decide) k_413 (Or.inl rfl) h1 h2 ?_
  refine aw_iload_n 1 dX3_takes_4 rfl rfl ?_
  refine aw_ishr dX3_takes_5 ?_
  refine aw_iconst (v := 1) dX3_takes_6 (by decide) ?_
  refine aw_iand dX3_takes_7 ?_
  refine aw_if_eq (tgt := 15) dX3_takes_8 (by decide) (fun z => ?_) (fun z => ?_)
  · have hw := hw.1 z
    refine aw_iconst (v := 0) dX3_takes_15 (by decide) ?_
    refine aw_sub (lv' := []) [] rfl ?_
    exact abX3_takes_16 l G d hG hd _ _ hw
  · have hw := hw.2 z
    refine aw_iconst (v := 1) dX3_takes_11 (by decide) ?_
    refine aw_goto (tgt := 16) dX3_takes_12 (by decide) ?_
    refine aw_sub (lv' := []) [] rfl ?_
    exact abX3_takes_16 l G d hG hd _ _ hw
-- X3_done
def wbX3_done_89 (Rd : Nat → aH → Nat → Nat → (Int32 → aH → Prop) → Prop) (v3 : Int32) (h : aH) (Q : Int32 → aH → Prop) : Prop :=
  Q v3 h
def wbX3_done_41 (Rd : Nat → aH → Nat → Nat → (Int32 → aH → Prop) → Prop) (v0 : Nat) (v1 : Nat) (v2 : Int32) (h : aH) (Q : Int32 → aH → Prop) : Prop :=
  rQ h v0 3 8 (fun r1 => (∀ x0 : Nat, r1 = some x0 → rI h v1 4 6 (fun r4 => wF h v1 4 6 (.int (r4 + 1)) (fun h6 => rQ h6 v0 3 8 (fun r8 => ∃ b10 : Nat, r8 = some b10 ∧ isN h6 b10 (fun ci => Rd ci h6 b10 v1 (fun r12 h11 => (¬ r12 = 0 → (v2 = 0 → wbX3_done_89 Rd r12 h11 Q) ∧ (¬ v2 = 0 → rI h11 v1 4 7 (fun r13 => wF h11 v1 4 7 (.int (r13 + 1)) (fun h15 => wbX3_done_89 Rd r12 h15 Q)))) ∧ (r12 = 0 → Q v2 h11))))))) ∧ (r1 = none → Q v2 h))
def wbX3_done_40 (Rd : Nat → aH → Nat → Nat → (Int32 → aH → Prop) → Prop) (v0 : Nat) (v1 : Nat) (s0 : Int32) (h : aH) (Q : Int32 → aH → Prop) : Prop :=
  wbX3_done_41 Rd v0 v1 s0 h Q
def wX3_done (Rd : Nat → aH → Nat → Nat → (Int32 → aH → Prop) → Prop) (h : aH) (v0 : Nat) (v1 : Nat) (Q : Int32 → aH → Prop) : Prop :=
  rR h v0 3 5 (fun r17 => isN h r17 (fun ci => Rd ci h r17 v1 (fun r20 h19 => (r20 = 0 → wbX3_done_41 Rd v0 v1 r20 h19 Q) ∧ (¬ r20 = 0 → isO h19 v0 3 (wX3_takes h19 v0 r20 (fun r22 h21 => (r22 = 0 → wbX3_done_41 Rd v0 v1 r20 h21 Q) ∧ (¬ r22 = 0 → rQ h21 v0 3 7 (fun r23 => (∀ x0 : Nat, r23 = some x0 → rQ h21 v0 3 7 (fun r26 => ∃ b28 : Nat, r26 = some b28 ∧ isN h21 b28 (fun ci => Rd ci h21 b28 v1 (fun r30 h29 => wbX3_done_40 Rd v0 v1 r30 h29 Q)))) ∧ (r23 = none → wbX3_done_40 Rd v0 v1 0 h21 Q)))))))))
set_option maxRecDepth 100000 in
theorem abX3_done_89 (l : Launch) (G : aG) (d : Nat) (hG : a_GT G) {Rd : Nat → aH → Nat → Nat → (Int32 → aH → Prop) → Prop} {dRd : Nat} (hRd : ∀ (ci : Nat) (h : aH) (a b : Nat) (Q : Int32 → aH → Prop), ci < 4 → Rd ci h a b Q → AC l G dRd 0 0 (mdone ci) [.ref a, .ref b] h (qI Q)) (hd : 2 ≤ d) (hdRd : dRd + 1 ≤ d) {Q : Int32 → aH → Prop} (v3 : Int32) (h : aH) (hw : wbX3_done_89 Rd v3 h Q) : AW l G d 0 0 mX3_done (qI Q) 89 [(3, .int v3)] [] h := by
  unfold wbX3_done_89 at hw
  refine aw_iload_n 0 dX3_done_89 rfl rfl ?_
  exact aw_iret dX3_done_90 rfl rfl ⟨_, rfl, hw⟩
set_option maxRecDepth 100000 in
theorem abX3_done_41 (l : Launch) (G : aG) (d : Nat) (hG : a_GT G) {Rd : Nat → aH → Nat → Nat → (Int32 → aH → Prop) → Prop} {dRd : Nat} (hRd : ∀ (ci : Nat) (h : aH) (a b : Nat) (Q : Int32 → aH → Prop), ci < 4 → Rd ci h a b Q → AC l G dRd 0 0 (mdone ci) [.ref a, .ref b] h (qI Q)) (hd : 2 ≤ d) (hdRd : dRd + 1 ≤ d) {Q : Int32 → aH → Prop} (v0 : Nat) (v1 : Nat) (v2 : Int32) (h : aH) (hw : wbX3_done_41 Rd v0 v1 v2 h Q) : AW l G d 0 0 mX3_done (qI Q) 41 [(0, .ref v0), (1, .ref v1), (2, .int v2)] [] h := by
  unfold wbX3_done_41 at hw
  refine aw_aload_n 0 dX3_done_41 rfl rfl ?_
  obtain ⟨fs2, r1, h1, h2, hw⟩ := hw
  refine aw_getf (k := 8) dX3_done_42 clX3 (by decide) k_415 (Or.inl rfl) h1 h2 ?_
  refine aw_ifnonnull (tgt := 50) dX3_done_45 (by decide) (fun x0 z => ?_) (fun z => ?_)
  · have hw := hw.1 x0 z
    refine aw_aload_n 1 dX3_done_50 rfl rfl ?_
    refine aw_dup dX3_done_51 rfl ?_
    obtain ⟨fs5, r4, h1, h2, hw⟩ := hw
    refine aw_getf (k := 6) dX3_done_52 clX5 (by decide) k_167 (Or.inl rfl) h1 h2 ?_
    refine aw_iconst (v := 1) dX3_done_55 (by decide) ?_
    refine aw_iadd dX3_done_56 ?_
    obtain ⟨fs7, h1, h2, hw⟩ := hw
    refine aw_putf (k := 6) dX3_done_57 clX5 (by decide) k_167 (Or.inl rfl) rfl rfl rfl h1 h2 ?_
    generalize a_up _ _ _ = h6 at hw ⊢
    refine aw_aload_n 0 dX3_done_60 rfl rfl ?_
    obtain ⟨fs9, r8, h1, h2, hw⟩ := hw
    refine aw_getf (k := 8) dX3_done_61 clX3 (by decide) k_415 (Or.inl rfl) h1 h2 ?_
    refine aw_aload_n 1 dX3_done_64 rfl rfl ?_
    obtain ⟨b10, rfl, hw⟩ := hw
    obtain ⟨ci, _, h1, h2, hw⟩ := hw
    refine aw_vdone dX3_done_65 h1 h2 (hRd ci _ _ _ _ h1 hw) k_640 (by omega) (Nat.zero_le _) (Nat.zero_le _) rfl (Nat.le_of_ble_eq_true rfl) (fun r12 h11 hw => ?_)
    refine aw_istore_n (lv' := [(3, .int r12), (0, .ref v0), (1, .ref v1), (2, .int v2)]) dX3_done_68 rfl (by decide) rfl ?_
    refine aw_iload_n 0 dX3_done_69 rfl rfl ?_
    refine aw_if_ne (tgt := 75) dX3_done_70 (by decide) (fun z => ?_) (fun z => ?_)
    · have hw := hw.1 z
      refine aw_iload_n 3 dX3_done_75 rfl rfl ?_
      refine aw_if_eq (tgt := 89) dX3_done_76 (by decide) (fun z => ?_) (fun z => ?_)
      · have hw := hw.1 z
        refine aw_sub (lv' := [(3, .int r12)]) [0] rfl ?_
        exact abX3_done_89 l G d hG hRd hd hdRd _ _ hw
      · have hw := hw.2 z
        refine aw_aload_n 2 dX3_done_79 rfl rfl ?_
        refine aw_dup dX3_done_80 rfl ?_
        obtain ⟨fs14, r13, h1, h2, hw⟩ := hw
        refine aw_getf (k := 7) dX3_done_81 clX5 (by decide) k_170 (Or.inl rfl) h1 h2 ?_
        refine aw_iconst (v := 1) dX3_done_84 (by decide) ?_
        refine aw_iadd dX3_done_85 ?_
        obtain ⟨fs16, h1, h2, hw⟩ := hw
        refine aw_putf (k := 7) dX3_done_86 clX5 (by decide) k_170 (Or.inl rfl) rfl rfl rfl h1 h2 ?_
        generalize a_up _ _ _ = h15 at hw ⊢
        refine aw_sub (lv' := [(3, .int r12)]) [0] rfl ?_
        exact abX3_done_89 l G d hG hRd hd hdRd _ _ hw
    · have hw := hw.2 z
      refine aw_iload_n 3 dX3_done_73 rfl rfl ?_
      exact aw_iret dX3_done_74 rfl rfl ⟨_, rfl, hw⟩
  · have hw := hw.2 z
    refine aw_iload_n 2 dX3_done_48 rfl rfl ?_
    exact aw_iret dX3_done_49 rfl rfl ⟨_, rfl, hw⟩
set_option maxRecDepth 100000 in
theorem abX3_done_40 (l : Launch) (G : aG) (d : Nat) (hG : a_GT G) {Rd : Nat → aH → Nat → Nat → (Int32 → aH → Prop) → Prop} {dRd : Nat} (hRd : ∀ (ci : Nat) (h : aH) (a b : Nat) (Q : Int32 → aH → Prop), ci < 4 → Rd ci h a b Q → AC l G dRd 0 0 (mdone ci) [.ref a, .ref b] h (qI Q)) (hd : 2 ≤ d) (hdRd : dRd + 1 ≤ d) {Q : Int32 → aH → Prop} (v0 : Nat) (v1 : Nat) (s0 : Int32) (h : aH) (hw : wbX3_done_40 Rd v0 v1 s0 h Q) : AW l G d 0 0 mX3_done (qI Q) 40 [(0, .ref v0), (1, .ref v1)] [.int s0] h := by
  unfold wbX3_done_40 at hw
  refine aw_istore_n (lv' := [(2, .int s0), (0, .ref v0), (1, .ref v1)]) dX3_done_40 rfl (by decide) rfl ?_
  refine aw_sub (lv' := [(0, .ref v0), (1, .ref v1), (2, .int s0)]) [1, 2, 0] rfl ?_
  exact abX3_done_41 l G d hG hRd hd hdRd _ _ _ _ hw
set_option maxRecDepth 100000 in
theorem acX3_done (l : Launch) (G : aG) (d : Nat) (hG : a_GT G) {Rd : Nat → aH → Nat → Nat → (Int32 → aH → Prop) → Prop} {dRd : Nat} (hRd : ∀ (ci : Nat) (h : aH) (a b : Nat) (Q : Int32 → aH → Prop), ci < 4 → Rd ci h a b Q → AC l G dRd 0 0 (mdone ci) [.ref a, .ref b] h (qI Q)) (hd : 2 ≤ d) (hdRd : dRd + 1 ≤ d) {Q : Int32 → aH → Prop} {h : aH} {v0 : Nat} {v1 : Nat} (hw : wX3_done Rd h v0 v1 Q) : AC l G d 0 0 mX3_done [.ref v0, .ref v1] h (qI Q) := by
  refine ac_of iX3_done (Nat.le_of_ble_eq_true rfl) ?_
  show AW l G d 0 0 mX3_done (qI Q) 0 [(0, .ref v0), (1, .ref v1)] [] h
  unfold wX3_done at hw
  refine aw_aload_n 0 dX3_done_0 rfl rfl ?_
  obtain ⟨fs18, r17, h1, h2, hw⟩ := hw
  refine aw_getf (k := 5) dX3_done_1 clX3 (by decide) k_412 (Or.inl rfl) h1 h2 ?_
  refine aw_aload_n 1 dX3_done_4 rfl rfl ?_
  obtain ⟨ci, _, h1, h2, hw⟩ := hw
  refine aw_vdone dX3_done_5 h1 h2 (hRd ci _ _ _ _ h1 hw) k_640 (by omega) (Nat.zero_le _) (Nat.zero_le _) rfl (Nat.le_of_ble_eq_true rfl) (fun r20 h19 hw => ?_)
  refine aw_istore_n (lv' := [(2, .int r20), (0, .ref v0), (1, .ref v1)]) dX3_done_8 rfl (by decide) rfl ?_
  refine aw_iload_n 0 dX3_done_9 rfl rfl ?_
  refine aw_if_eq (tgt := 41) dX3_done_10 (by decide) (fun z => ?_) (fun z => ?_)
  · have hw := hw.1 z
    refine aw_sub (lv' := [(0, .ref v0), (1, .ref v1), (2, .int r20)]) [1, 2, 0] rfl ?_
    exact abX3_done_41 l G d hG hRd hd hdRd _ _ _ _ hw
  · have hw := hw.2 z
    refine aw_aload_n 1 dX3_done_13 rfl rfl ?_
    refine aw_iload_n 0 dX3_done_14 rfl rfl ?_
    obtain ⟨_, h1, hw⟩ := hw
    refine aw_virtI (As := [.int r20]) (rest := []) dX3_done_15 (acX3_takes l G (d - 1) hG (by omega) hw) iX3_takes rfl k_641 k_643 k_25 rfl h1 (by omega) (by decide) (by decide) rfl (Nat.le_of_ble_eq_true rfl) (fun r22 h21 hw => ?_)
    refine aw_if_eq (tgt := 41) dX3_done_18 (by decide) (fun z => ?_) (fun z => ?_)
    · have hw := hw.1 z
      refine aw_sub (lv' := [(0, .ref v0), (1, .ref v1), (2, .int r20)]) [1, 2, 0] rfl ?_
      exact abX3_done_41 l G d hG hRd hd hdRd _ _ _ _ hw
    · have hw := hw.2 z
      refine aw_aload_n 1 dX3_done_21 rfl rfl ?_
      obtain ⟨fs24, r23, h1, h2, hw⟩ := hw
      refine aw_getf (k := 7) dX3_done_22 clX3 (by decide) k_414 (Or.inl rfl) h1 h2 ?_
      refine aw_ifnonnull (tgt := 32) dX3_done_25 (by decide) (fun x0 z => ?_) (fun z => ?_)
      · have hw := hw.1 x0 z
        refine aw_aload_n 1 dX3_done_32 rfl rfl ?_
        obtain ⟨fs27, r26, h1, h2, hw⟩ := hw
        refine aw_getf (k := 7) dX3_done_33 clX3 (by decide) k_414 (Or.inl rfl) h1 h2 ?_
        refine aw_aload_n 2 dX3_done_36 rfl rfl ?_
        obtain ⟨b28, rfl, hw⟩ := hw
        obtain ⟨ci, _, h1, h2, hw⟩ := hw
        refine aw_vdone dX3_done_37 h1 h2 (hRd ci _ _ _ _ h1 hw) k_640 (by omega) (Nat.zero_le _) (Nat.zero_le _) rfl (Nat.le_of_ble_eq_true rfl) (fun r30 h29 hw => ?_)
        refine aw_sub (lv' := [(0, .ref v0), (1, .ref v1)]) [1, 2] rfl ?_
        exact abX3_done_40 l G d hG hRd hd hdRd _ _ _ _ hw
      · have hw := hw.2 z
        refine aw_iconst (v := 0) dX3_done_28 (by decide) ?_
        refine aw_goto (tgt := 40) dX3_done_29 (by decide) ?_
        refine aw_sub (lv' := [(0, .ref v0), (1, .ref v1)]) [1, 2] rfl ?_
        exact abX3_done_40 l G d hG hRd hd hdRd _ _ _ _ hw
-- X3_goOnThroughLast
def wbX3_goOnThroughLast_94 (Rf : Nat → aH → Nat → Nat → (aH → Prop) → Prop) (K2 : Nat → Nat → Int32 →  aH → Prop) (v0 : Nat) (v1 : Nat) (v2 : Int32) (h : aH) (Q : aH → Prop) : Prop :=
  K2 v0 v1 ((v2 + 1)) h
def wbX3_goOnThroughLast_2_i (Rf : Nat → aH → Nat → Nat → (aH → Prop) → Prop) (K2 : Nat → Nat → Int32 →  aH → Prop) (v0 : Nat) (v1 : Nat) (v2 : Int32) (h : aH) (Q : aH → Prop) : Prop :=
  (8 < v2 → Q h) ∧ (¬ 8 < v2 → rR h v0 3 10 (fun r1 => isO h r1 7 (wX9_by h r1 v2 (fun r4 h3 => ∃ r5, r4 = some r5 ∧ isO h3 r5 5 (wX7_isThere h3 r5 (fun r7 h6 => (r7 = 0 → wbX3_goOnThroughLast_94 Rf K2 v0 v1 v2 h6 Q) ∧ (¬ r7 = 0 → rR h6 v0 3 10 (fun r8 => isO h6 r8 7 (wX9_by h6 r8 v2 (fun r11 h10 => ∃ r12, r11 = some r12 ∧ isN h10 v1 (fun _ => wX6_goThrough Rf h10 v1 r12 (fun h13 => rR h13 v0 3 3 (fun r14 => isO h13 r14 7 (wX9_by h13 r14 v2 (fun r17 h16 => ∃ r18, r17 = some r18 ∧ rRN h16 v1 3 (fun r19 => isO h16 r19 7 (wX9_by h16 r19 0 (fun r22 h21 => ∃ r23, r22 = some r23 ∧ isO h21 r18 5 (wX7_join h21 r18 r23 (fun h24 => rR h24 v0 3 3 (fun r25 => rRN h24 v1 3 (fun r27 => isO h24 r25 7 (wX9_joinFailures h24 r25 r27 (fun h29 => rRN h29 v1 3 (fun r30 => isO h29 r30 7 (wX9_bits h29 r30 (fun r33 h32 => ((r33 &&& 510) = 0 → wbX3_goOnThroughLast_94 Rf K2 v0 v1 v2 h32 Q) ∧ (¬ (r33 &&& 510) = 0 → rI h32 v0 3 12 (fun r34 => wF h32 v0 3 12 (.int (r34 ||| ((1 <<< (v2 &&& 31)) &&& 510))) (fun h36 => wbX3_goOnThroughLast_94 Rf K2 v0 v1 v2 h36 Q))))))))))))))))))))))))))))))
def wbX3_goOnThroughLast_2 (Rf : Nat → aH → Nat → Nat → (aH → Prop) → Prop) (n : Nat) (v0 : Nat) (v1 : Nat) (v2 : Int32) (h : aH) (Q : aH → Prop) : Prop := match n with
  | 0 => False
  | n + 1 => wbX3_goOnThroughLast_2_i Rf (fun v0 v1 v2 h => wbX3_goOnThroughLast_2 Rf n v0 v1 v2 h Q) v0 v1 v2 h Q
def wX3_goOnThroughLast (Rf : Nat → aH → Nat → Nat → (aH → Prop) → Prop) (h : aH) (v0 : Nat) (v1 : Nat) (Q : aH → Prop) : Prop :=
  ∃ n, wbX3_goOnThroughLast_2 Rf n v0 v1 0 h Q
set_option maxRecDepth 100000 in
theorem abX3_goOnThroughLast_94 (l : Launch) (G : aG) (d : Nat) (hG : a_GT G) {Rf : Nat → aH → Nat → Nat → (aH → Prop) → Prop} {dRf : Nat} (hRf : ∀ (ci : Nat) (h : aH) (a b : Nat) (Q : aH → Prop), ci < 4 → Rf ci h a b Q → AC l G dRf 0 0 (mfindWays ci) [.ref a, .ref b] h (qV Q)) (hd : 5 ≤ d) (hdRf : dRf + 2 ≤ d) {Q : aH → Prop} {K2 : Nat → Nat → Int32 →  aH → Prop} (kk2 : ∀ (v0 : Nat) (v1 : Nat) (v2 : Int32) (h : aH), K2 v0 v1 v2 h → AW l G d 0 0 mX3_goOnThroughLast (qV Q) 2 [(0, .ref v0), (1, .ref v1), (2, .int v2)] [] h) (v0 : Nat) (v1 : Nat) (v2 : Int32) (h : aH) (hw : wbX3_goOnThroughLast_94 Rf K2 v0 v1 v2 h Q) : AW l G d 0 0 mX3_goOnThroughLast (qV Q) 94 [(0, .ref v0), (1, .ref v1), (2, .int v2)] [] h := by
  unfold wbX3_goOnThroughLast_94 at hw
  refine aw_iinc (v := (v2 + 1)) (lv' := [(2, .int (v2 + 1)), (0, .ref v0), (1, .ref v1)]) 2 dX3_goOnThroughLast_94 rfl rfl (by decide) rfl ?_
  refine aw_goto (tgt := 2) dX3_goOnThroughLast_97 (by decide) ?_
  refine aw_sub (lv' := [(0, .ref v0), (1, .ref v1), (2, .int (v2 + 1))]) [1, 2, 0] rfl ?_
  exact kk2 _ _ _ _ hw
set_option maxRecDepth 100000 in
theorem abX3_goOnThroughLast_2_i (l : Launch) (G : aG) (d : Nat) (hG : a_GT G) {Rf : Nat → aH → Nat → Nat → (aH → Prop) → Prop} {dRf : Nat} (hRf : ∀ (ci : Nat) (h : aH) (a b : Nat) (Q : aH → Prop), ci < 4 → Rf ci h a b Q → AC l G dRf 0 0 (mfindWays ci) [.ref a, .ref b] h (qV Q)) (hd : 5 ≤ d) (hdRf : dRf + 2 ≤ d) {Q : aH → Prop} {K2 : Nat → Nat → Int32 →  aH → Prop} (kk2 : ∀ (v0 : Nat) (v1 : Nat) (v2 : Int32) (h : aH), K2 v0 v1 v2 h → AW l G d 0 0 mX3_goOnThroughLast (qV Q) 2 [(0, .ref v0), (1, .ref v1), (2, .int v2)] [] h) (v0 : Nat) (v1 : Nat) (v2 : Int32) (h : aH) (hw : wbX3_goOnThroughLast_2_i Rf K2 v0 v1 v2 h Q) : AW l G d 0 0 mX3_goOnThroughLast (qV Q) 2 [(0, .ref v0), (1, .ref v1), (2, .int v2)] [] h := by
  unfold wbX3_goOnThroughLast_2_i at hw
  refine aw_iload_n 2 dX3_goOnThroughLast_2 rfl rfl ?_
  refine aw_bipush (v := 8) dX3_goOnThroughLast_3 (by decide) ?_
  refine aw_icmp_gt (tgt := 100) dX3_goOnThroughLast_5 (by decide) (fun z => ?_) (fun z => ?_)
  · have hw := hw.1 z
    exact aw_vret dX3_goOnThroughLast_100 rfl ⟨rfl, hw⟩
  · have hw := hw.2 z
    refine aw_aload_n 0 dX3_goOnThroughLast_8 rfl rfl ?_
    obtain ⟨fs2, r1, h1, h2, hw⟩ := hw
    refine aw_getf (k := 10) dX3_goOnThroughLast_9 clX3 (by decide) k_417 (Or.inl rfl) h1 h2 ?_
    refine aw_iload_n 2 dX3_goOnThroughLast_12 rfl rfl ?_
    obtain ⟨_, h1, hw⟩ := hw
    refine aw_virtQ (As := [.int v2]) (rest := []) dX3_goOnThroughLast_13 (acX9_by l G (d - 1) hG (by omega) hw) iX9_by rfl k_899 k_782 k_783 rfl h1 (by omega) (by decide) (by decide) rfl (Nat.le_of_ble_eq_true rfl) (fun r4 h3 hw => ?_)
    obtain ⟨r5, rfl, hw⟩ := hw
    obtain ⟨_, h1, hw⟩ := hw
    refine aw_virtI (As := []) (rest := []) dX3_goOnThroughLast_16 (acX7_isThere l G (d - 1) hG (by omega) hw) iX7_isThere rfl k_901 k_751 k_752 rfl h1 (by omega) (by decide) (by decide) rfl (Nat.le_of_ble_eq_true rfl) (fun r7 h6 hw => ?_)
    refine aw_if_eq (tgt := 94) dX3_goOnThroughLast_19 (by decide) (fun z => ?_) (fun z => ?_)
    · have hw := hw.1 z
      exact abX3_goOnThroughLast_94 l G d hG hRf hd hdRf kk2 _ _ _ _ hw
    · have hw := hw.2 z
      refine aw_aload_n 1 dX3_goOnThroughLast_22 rfl rfl ?_
      refine aw_aload_n 0 dX3_goOnThroughLast_23 rfl rfl ?_
      obtain ⟨fs9, r8, h1, h2, hw⟩ := hw
      refine aw_getf (k := 10) dX3_goOnThroughLast_24 clX3 (by decide) k_417 (Or.inl rfl) h1 h2 ?_
      refine aw_iload_n 2 dX3_goOnThroughLast_27 rfl rfl ?_
      obtain ⟨_, h1, hw⟩ := hw
      refine aw_virtQ (As := [.int v2]) (rest := [.ref v1]) dX3_goOnThroughLast_28 (acX9_by l G (d - 1) hG (by omega) hw) iX9_by rfl k_899 k_782 k_783 rfl h1 (by omega) (by decide) (by decide) rfl (Nat.le_of_ble_eq_true rfl) (fun r11 h10 hw => ?_)
      obtain ⟨r12, rfl, hw⟩ := hw
      obtain ⟨ci, _, h1, h2, hw⟩ := hw
      refine aw_vgoThrough dX3_goOnThroughLast_31 h1 h2 (acX6_goThrough l G (d - 1) hG hRf (by omega) (by omega) hw) k_888 (by omega) (Nat.zero_le _) (Nat.zero_le _) rfl (Nat.le_of_ble_eq_true rfl) (fun h13 hw => ?_)
      refine aw_aload_n 0 dX3_goOnThroughLast_34 rfl rfl ?_
      obtain ⟨fs15, r14, h1, h2, hw⟩ := hw
      refine aw_getf (k := 3) dX3_goOnThroughLast_35 clX3 (by decide) k_286 (Or.inr k_287) h1 h2 ?_
      refine aw_iload_n 2 dX3_goOnThroughLast_38 rfl rfl ?_
      obtain ⟨_, h1, hw⟩ := hw
      refine aw_virtQ (As := [.int v2]) (rest := []) dX3_goOnThroughLast_39 (acX9_by l G (d - 1) hG (by omega) hw) iX9_by rfl k_899 k_782 k_783 rfl h1 (by omega) (by decide) (by decide) rfl (Nat.le_of_ble_eq_true rfl) (fun r17 h16 hw => ?_)
      obtain ⟨r18, rfl, hw⟩ := hw
      refine aw_aload_n 1 dX3_goOnThroughLast_42 rfl rfl ?_
      obtain ⟨ci40, fs20, r19, hc, h1, h2, hw⟩ := hw
      refine aw_getN (k := 3) dX3_goOnThroughLast_43 hc (by decide) k_282 h1 h2 ?_
      refine aw_iconst (v := 0) dX3_goOnThroughLast_46 (by decide) ?_
      obtain ⟨_, h1, hw⟩ := hw
      refine aw_virtQ (As := [.int 0]) (rest := [.ref r18]) dX3_goOnThroughLast_47 (acX9_by l G (d - 1) hG (by omega) hw) iX9_by rfl k_899 k_782 k_783 rfl h1 (by omega) (by decide) (by decide) rfl (Nat.le_of_ble_eq_true rfl) (fun r22 h21 hw => ?_)
      obtain ⟨r23, rfl, hw⟩ := hw
      obtain ⟨_, h1, hw⟩ := hw
      refine aw_virtV (As := [.ref r23]) (rest := []) dX3_goOnThroughLast_50 (acX7_join l G (d - 1) hG (by omega) hw) iX7_join rfl k_900 k_743 k_744 rfl h1 (by omega) (by decide) (by decide) rfl (Nat.le_of_ble_eq_true rfl) (fun h24 hw => ?_)
      refine aw_aload_n 0 dX3_goOnThroughLast_53 rfl rfl ?_
      obtain ⟨fs26, r25, h1, h2, hw⟩ := hw
      refine aw_getf (k := 3) dX3_goOnThroughLast_54 clX3 (by decide) k_286 (Or.inr k_287) h1 h2 ?_
      refine aw_aload_n 1 dX3_goOnThroughLast_57 rfl rfl ?_
      obtain ⟨ci39, fs28, r27, hc, h1, h2, hw⟩ := hw
      refine aw_getN (k := 3) dX3_goOnThroughLast_58 hc (by decide) k_282 h1 h2 ?_
      obtain ⟨_, h1, hw⟩ := hw
      refine aw_virtV (As := [.ref r27]) (rest := []) dX3_goOnThroughLast_61 (acX9_joinFailures l G (d - 1) hG (by omega) hw) iX9_joinFailures rfl k_907 k_860 k_861 rfl h1 (by omega) (by decide) (by decide) rfl (Nat.le_of_ble_eq_true rfl) (fun h29 hw => ?_)
      refine aw_aload_n 1 dX3_goOnThroughLast_64 rfl rfl ?_
      obtain ⟨ci38, fs31, r30, hc, h1, h2, hw⟩ := hw
      refine aw_getN (k := 3) dX3_goOnThroughLast_65 hc (by decide) k_282 h1 h2 ?_
      obtain ⟨_, h1, hw⟩ := hw
      refine aw_virtI (As := []) (rest := []) dX3_goOnThroughLast_68 (acX9_bits l G (d - 1) hG (by omega) hw) iX9_bits rfl k_889 k_890 k_891 rfl h1 (by omega) (by decide) (by decide) rfl (Nat.le_of_ble_eq_true rfl) (fun r33 h32 hw => ?_)
      refine aw_sipush (v := 510) dX3_goOnThroughLast_71 (by decide) ?_
      refine aw_iand dX3_goOnThroughLast_74 ?_
      refine aw_if_eq (tgt := 94) dX3_goOnThroughLast_75 (by decide) (fun z => ?_) (fun z => ?_)
      · have hw := hw.1 z
        exact abX3_goOnThroughLast_94 l G d hG hRf hd hdRf kk2 _ _ _ _ hw
      · have hw := hw.2 z
        refine aw_aload_n 0 dX3_goOnThroughLast_78 rfl rfl ?_
        refine aw_dup dX3_goOnThroughLast_79 rfl ?_
        obtain ⟨fs35, r34, h1, h2, hw⟩ := hw
        refine aw_getf (k := 12) dX3_goOnThroughLast_80 clX3 (by decide) k_419 (Or.inl rfl) h1 h2 ?_
        refine aw_iconst (v := 1) dX3_goOnThroughLast_83 (by decide) ?_
        refine aw_iload_n 2 dX3_goOnThroughLast_84 rfl rfl ?_
        refine aw_ishl dX3_goOnThroughLast_85 ?_
        refine aw_sipush (v := 510) dX3_goOnThroughLast_86 (by decide) ?_
        refine aw_iand dX3_goOnThroughLast_89 ?_
        refine aw_ior dX3_goOnThroughLast_90 ?_
        obtain ⟨fs37, h1, h2, hw⟩ := hw
        refine aw_putf (k := 12) dX3_goOnThroughLast_91 clX3 (by decide) k_419 (Or.inl rfl) rfl rfl rfl h1 h2 ?_
        generalize a_up _ _ _ = h36 at hw ⊢
        exact abX3_goOnThroughLast_94 l G d hG hRf hd hdRf kk2 _ _ _ _ hw
set_option maxRecDepth 100000 in
theorem abX3_goOnThroughLast_2 (l : Launch) (G : aG) (d : Nat) (hG : a_GT G) {Rf : Nat → aH → Nat → Nat → (aH → Prop) → Prop} {dRf : Nat} (hRf : ∀ (ci : Nat) (h : aH) (a b : Nat) (Q : aH → Prop), ci < 4 → Rf ci h a b Q → AC l G dRf 0 0 (mfindWays ci) [.ref a, .ref b] h (qV Q)) (hd : 5 ≤ d) (hdRf : dRf + 2 ≤ d) {Q : aH → Prop} (n : Nat) : ∀  (v0 : Nat) (v1 : Nat) (v2 : Int32) (h : aH), wbX3_goOnThroughLast_2 Rf n v0 v1 v2 h Q → AW l G d 0 0 mX3_goOnThroughLast (qV Q) 2 [(0, .ref v0), (1, .ref v1), (2, .int v2)] [] h := by
  induction n with
  | zero => exact fun _ _ _ _ hw => hw.elim
  | succ n ih => exact fun _ _ _ _ hw => abX3_goOnThroughLast_2_i l G d hG hRf hd hdRf ih _ _ _ _ hw
set_option maxRecDepth 100000 in
theorem acX3_goOnThroughLast (l : Launch) (G : aG) (d : Nat) (hG : a_GT G) {Rf : Nat → aH → Nat → Nat → (aH → Prop) → Prop} {dRf : Nat} (hRf : ∀ (ci : Nat) (h : aH) (a b : Nat) (Q : aH → Prop), ci < 4 → Rf ci h a b Q → AC l G dRf 0 0 (mfindWays ci) [.ref a, .ref b] h (qV Q)) (hd : 5 ≤ d) (hdRf : dRf + 2 ≤ d) {Q : aH → Prop} {h : aH} {v0 : Nat} {v1 : Nat} (hw : wX3_goOnThroughLast Rf h v0 v1 Q) : AC l G d 0 0 mX3_goOnThroughLast [.ref v0, .ref v1] h (qV Q) := by
  refine ac_of iX3_goOnThroughLast (Nat.le_of_ble_eq_true rfl) ?_
  show AW l G d 0 0 mX3_goOnThroughLast (qV Q) 0 [(0, .ref v0), (1, .ref v1)] [] h
  unfold wX3_goOnThroughLast at hw
  refine aw_iconst (v := 0) dX3_goOnThroughLast_0 (by decide) ?_
  refine aw_istore_n (lv' := [(2, .int 0), (0, .ref v0), (1, .ref v1)]) dX3_goOnThroughLast_1 rfl (by decide) rfl ?_
  obtain ⟨n, hw⟩ := hw
  refine aw_sub (lv' := [(0, .ref v0), (1, .ref v1), (2, .int 0)]) [1, 2, 0] rfl ?_
  exact abX3_goOnThroughLast_2 l G d hG hRf hd hdRf n _ _ _ _ hw
-- X3_sortBodysWays
def wbX3_sortBodysWays_45 (K16 : Nat → Int32 →  aH → Prop) (v0 : Nat) (v1 : Int32) (s0 : Nat) (h : aH) (Q : aH → Prop) : Prop :=
  rR h v0 3 5 (fun r1 => rRN h r1 3 (fun r3 => isO h r3 7 (wX9_by h r3 v1 (fun r6 h5 => ∃ r7, r6 = some r7 ∧ isO h5 s0 5 (wX7_join h5 s0 r7 (fun h8 => K16 v0 ((v1 + 1)) h8))))))
def wbX3_sortBodysWays_16_i (K16 : Nat → Int32 →  aH → Prop) (v0 : Nat) (v1 : Int32) (h : aH) (Q : aH → Prop) : Prop :=
  (8 < v1 → Q h) ∧ (¬ 8 < v1 → isO h v0 3 (wX3_takes h v0 v1 (fun r11 h10 => (r11 = 0 → rR h10 v0 3 10 (fun r12 => isO h10 r12 7 (wX9_by h10 r12 v1 (fun r15 h14 => ∃ r16, r15 = some r16 ∧ wbX3_sortBodysWays_45 K16 v0 v1 r16 h14 Q)))) ∧ (¬ r11 = 0 → rR h10 v0 3 9 (fun r17 => wbX3_sortBodysWays_45 K16 v0 v1 r17 h10 Q)))))
def wbX3_sortBodysWays_16 (n : Nat) (v0 : Nat) (v1 : Int32) (h : aH) (Q : aH → Prop) : Prop := match n with
  | 0 => False
  | n + 1 => wbX3_sortBodysWays_16_i (fun v0 v1 h => wbX3_sortBodysWays_16 n v0 v1 h Q) v0 v1 h Q
def wX3_sortBodysWays (h : aH) (v0 : Nat) (Q : aH → Prop) : Prop :=
  rR h v0 3 10 (fun r19 => isO h r19 7 (wX9_erase h r19 (fun h21 => rR h21 v0 3 9 (fun r22 => isO h21 r22 5 (wX7_erase h21 r22 (fun h24 => ∃ n, wbX3_sortBodysWays_16 n v0 0 h24 Q))))))
set_option maxRecDepth 100000 in
theorem abX3_sortBodysWays_45 (l : Launch) (G : aG) (d : Nat) (hG : a_GT G) (hd : 4 ≤ d) {Q : aH → Prop} {K16 : Nat → Int32 →  aH → Prop} (kk16 : ∀ (v0 : Nat) (v1 : Int32) (h : aH), K16 v0 v1 h → AW l G d 0 0 mX3_sortBodysWays (qV Q) 16 [(0, .ref v0), (1, .int v1)] [] h) (v0 : Nat) (v1 : Int32) (s0 : Nat) (h : aH) (hw : wbX3_sortBodysWays_45 K16 v0 v1 s0 h Q) : AW l G d 0 0 mX3_sortBodysWays (qV Q) 45 [(0, .ref v0), (1, .int v1)] [.ref s0] h := by
  unfold wbX3_sortBodysWays_45 at hw
  refine aw_astore_n (lv' := [(2, .ref s0), (0, .ref v0), (1, .int v1)]) dX3_sortBodysWays_45 rfl (by decide) rfl ?_
  refine aw_aload_n 0 dX3_sortBodysWays_46 rfl rfl ?_
  refine aw_aload_n 1 dX3_sortBodysWays_47 rfl rfl ?_
  obtain ⟨fs2, r1, h1, h2, hw⟩ := hw
  refine aw_getf (k := 5) dX3_sortBodysWays_48 clX3 (by decide) k_412 (Or.inl rfl) h1 h2 ?_
  obtain ⟨ci9, fs4, r3, hc, h1, h2, hw⟩ := hw
  refine aw_getN (k := 3) dX3_sortBodysWays_51 hc (by decide) k_282 h1 h2 ?_
  refine aw_iload_n 2 dX3_sortBodysWays_54 rfl rfl ?_
  obtain ⟨_, h1, hw⟩ := hw
  refine aw_virtQ (As := [.int v1]) (rest := [.ref s0]) dX3_sortBodysWays_55 (acX9_by l G (d - 1) hG (by omega) hw) iX9_by rfl k_899 k_782 k_783 rfl h1 (by omega) (by decide) (by decide) rfl (Nat.le_of_ble_eq_true rfl) (fun r6 h5 hw => ?_)
  obtain ⟨r7, rfl, hw⟩ := hw
  obtain ⟨_, h1, hw⟩ := hw
  refine aw_virtV (As := [.ref r7]) (rest := []) dX3_sortBodysWays_58 (acX7_join l G (d - 1) hG (by omega) hw) iX7_join rfl k_900 k_743 k_744 rfl h1 (by omega) (by decide) (by decide) rfl (Nat.le_of_ble_eq_true rfl) (fun h8 hw => ?_)
  refine aw_iinc (v := (v1 + 1)) (lv' := [(1, .int (v1 + 1)), (2, .ref s0), (0, .ref v0)]) 2 dX3_sortBodysWays_61 rfl rfl (by decide) rfl ?_
  refine aw_goto (tgt := 16) dX3_sortBodysWays_64 (by decide) ?_
  refine aw_sub (lv' := [(0, .ref v0), (1, .int (v1 + 1))]) [2, 0] rfl ?_
  exact kk16 _ _ _ hw
set_option maxRecDepth 100000 in
theorem abX3_sortBodysWays_16_i (l : Launch) (G : aG) (d : Nat) (hG : a_GT G) (hd : 4 ≤ d) {Q : aH → Prop} {K16 : Nat → Int32 →  aH → Prop} (kk16 : ∀ (v0 : Nat) (v1 : Int32) (h : aH), K16 v0 v1 h → AW l G d 0 0 mX3_sortBodysWays (qV Q) 16 [(0, .ref v0), (1, .int v1)] [] h) (v0 : Nat) (v1 : Int32) (h : aH) (hw : wbX3_sortBodysWays_16_i K16 v0 v1 h Q) : AW l G d 0 0 mX3_sortBodysWays (qV Q) 16 [(0, .ref v0), (1, .int v1)] [] h := by
  unfold wbX3_sortBodysWays_16_i at hw
  refine aw_iload_n 1 dX3_sortBodysWays_16 rfl rfl ?_
  refine aw_bipush (v := 8) dX3_sortBodysWays_17 (by decide) ?_
  refine aw_icmp_gt (tgt := 67) dX3_sortBodysWays_19 (by decide) (fun z => ?_) (fun z => ?_)
  · have hw := hw.1 z
    exact aw_vret dX3_sortBodysWays_67 rfl ⟨rfl, hw⟩
  · have hw := hw.2 z
    refine aw_aload_n 0 dX3_sortBodysWays_22 rfl rfl ?_
    refine aw_iload_n 1 dX3_sortBodysWays_23 rfl rfl ?_
    obtain ⟨_, h1, hw⟩ := hw
    refine aw_virtI (As := [.int v1]) (rest := []) dX3_sortBodysWays_24 (acX3_takes l G (d - 1) hG (by omega) hw) iX3_takes rfl k_641 k_643 k_25 rfl h1 (by omega) (by decide) (by decide) rfl (Nat.le_of_ble_eq_true rfl) (fun r11 h10 hw => ?_)
    refine aw_if_eq (tgt := 37) dX3_sortBodysWays_27 (by decide) (fun z => ?_) (fun z => ?_)
    · have hw := hw.1 z
      refine aw_aload_n 0 dX3_sortBodysWays_37 rfl rfl ?_
      obtain ⟨fs13, r12, h1, h2, hw⟩ := hw
      refine aw_getf (k := 10) dX3_sortBodysWays_38 clX3 (by decide) k_417 (Or.inl rfl) h1 h2 ?_
      refine aw_iload_n 1 dX3_sortBodysWays_41 rfl rfl ?_
      obtain ⟨_, h1, hw⟩ := hw
      refine aw_virtQ (As := [.int v1]) (rest := []) dX3_sortBodysWays_42 (acX9_by l G (d - 1) hG (by omega) hw) iX9_by rfl k_899 k_782 k_783 rfl h1 (by omega) (by decide) (by decide) rfl (Nat.le_of_ble_eq_true rfl) (fun r15 h14 hw => ?_)
      obtain ⟨r16, rfl, hw⟩ := hw
      exact abX3_sortBodysWays_45 l G d hG hd kk16 _ _ _ _ hw
    · have hw := hw.2 z
      refine aw_aload_n 0 dX3_sortBodysWays_30 rfl rfl ?_
      obtain ⟨fs18, r17, h1, h2, hw⟩ := hw
      refine aw_getf (k := 9) dX3_sortBodysWays_31 clX3 (by decide) k_416 (Or.inl rfl) h1 h2 ?_
      refine aw_goto (tgt := 45) dX3_sortBodysWays_34 (by decide) ?_
      exact abX3_sortBodysWays_45 l G d hG hd kk16 _ _ _ _ hw
set_option maxRecDepth 100000 in
theorem abX3_sortBodysWays_16 (l : Launch) (G : aG) (d : Nat) (hG : a_GT G) (hd : 4 ≤ d) {Q : aH → Prop} (n : Nat) : ∀  (v0 : Nat) (v1 : Int32) (h : aH), wbX3_sortBodysWays_16 n v0 v1 h Q → AW l G d 0 0 mX3_sortBodysWays (qV Q) 16 [(0, .ref v0), (1, .int v1)] [] h := by
  induction n with
  | zero => exact fun _ _ _ hw => hw.elim
  | succ n ih => exact fun _ _ _ hw => abX3_sortBodysWays_16_i l G d hG hd ih _ _ _ hw
set_option maxRecDepth 100000 in
theorem acX3_sortBodysWays (l : Launch) (G : aG) (d : Nat) (hG : a_GT G) (hd : 4 ≤ d) {Q : aH → Prop} {h : aH} {v0 : Nat} (hw : wX3_sortBodysWays h v0 Q) : AC l G d 0 0 mX3_sortBodysWays [.ref v0] h (qV Q) := by
  refine ac_of iX3_sortBodysWays (Nat.le_of_ble_eq_true rfl) ?_
  show AW l G d 0 0 mX3_sortBodysWays (qV Q) 0 [(0, .ref v0)] [] h
  unfold wX3_sortBodysWays at hw
  refine aw_aload_n 0 dX3_sortBodysWays_0 rfl rfl ?_
  obtain ⟨fs20, r19, h1, h2, hw⟩ := hw
  refine aw_getf (k := 10) dX3_sortBodysWays_1 clX3 (by decide) k_417 (Or.inl rfl) h1 h2 ?_
  obtain ⟨_, h1, hw⟩ := hw
  refine aw_virtV (As := []) (rest := []) dX3_sortBodysWays_4 (acX9_erase l G (d - 1) hG (by omega) hw) iX9_erase rfl k_897 k_747 k_748 rfl h1 (by omega) (by decide) (by decide) rfl (Nat.le_of_ble_eq_true rfl) (fun h21 hw => ?_)
  refine aw_aload_n 0 dX3_sortBodysWays_7 rfl rfl ?_
  obtain ⟨fs23, r22, h1, h2, hw⟩ := hw
  refine aw_getf (k := 9) dX3_sortBodysWays_8 clX3 (by decide) k_416 (Or.inl rfl) h1 h2 ?_
  obtain ⟨_, h1, hw⟩ := hw
  refine aw_virtV (As := []) (rest := []) dX3_sortBodysWays_11 (acX7_erase l G (d - 1) hG (by omega) hw) iX7_erase rfl k_898 k_730 k_731 rfl h1 (by omega) (by decide) (by decide) rfl (Nat.le_of_ble_eq_true rfl) (fun h24 hw => ?_)
  refine aw_iconst (v := 0) dX3_sortBodysWays_14 (by decide) ?_
  refine aw_istore_n (lv' := [(1, .int 0), (0, .ref v0)]) dX3_sortBodysWays_15 rfl (by decide) rfl ?_
  obtain ⟨n, hw⟩ := hw
  refine aw_sub (lv' := [(0, .ref v0), (1, .int 0)]) [1, 0] rfl ?_
  exact abX3_sortBodysWays_16 l G d hG hd n _ _ _ hw
