-- X11_measure
def wbX11_measure_31 (v4 : Int32) (h : aH) (Q : Int32 → aH → Prop) : Prop :=
  Q v4 h
def wX11_measure (h : aH) (v0 : Nat) (v1 : Int32) (v2 : Int32) (v3 : Int32) (Q : Int32 → aH → Prop) : Prop :=
  isO h v0 9 (wX11_row h v0 v2 v3 (fun r2 h1 => (¬ r2 = 0 → wbX11_measure_31 r2 h1 Q) ∧ (r2 = 0 → rR h1 v0 9 8 (fun r3 => rR h1 v0 9 4 (fun r5 => rR h1 v0 9 7 (fun r7 => aI h1 r7 v2 (fun r9 => aI h1 r5 r9 (fun r10 => sL h1 r3 v1 r10.toInt64 (fun h11 => wbX11_measure_31 r2 h11 Q)))))))))
set_option maxRecDepth 100000 in
theorem abX11_measure_31 (l : Launch) (G : aG) (d : Nat) (hG : a_GT G) (hd : 5 ≤ d) {Q : Int32 → aH → Prop} (v4 : Int32) (h : aH) (hw : wbX11_measure_31 v4 h Q) : AW l G d 0 0 mX11_measure (qI Q) 31 [(4, .int v4)] [] h := by
  unfold wbX11_measure_31 at hw
  refine aw_iload 0 dX11_measure_31 rfl ?_
  exact aw_iret dX11_measure_33 rfl rfl ⟨_, rfl, hw⟩
set_option maxRecDepth 100000 in
theorem acX11_measure (l : Launch) (G : aG) (d : Nat) (hG : a_GT G) (hd : 5 ≤ d) {Q : Int32 → aH → Prop} {h : aH} {v0 : Nat} {v1 : Int32} {v2 : Int32} {v3 : Int32} (hw : wX11_measure h v0 v1 v2 v3 Q) : AC l G d 0 0 mX11_measure [.ref v0, .int v1, .int v2, .int v3] h (qI Q) := by
  refine ac_of iX11_measure (Nat.le_of_ble_eq_true rfl) ?_
  show AW l G d 0 0 mX11_measure (qI Q) 0 [(0, .ref v0), (1, .int v1), (2, .int v2), (3, .int v3)] [] h
  unfold wX11_measure at hw
  refine aw_aload_n 0 dX11_measure_0 rfl rfl ?_
  refine aw_iload_n 2 dX11_measure_1 rfl rfl ?_
  refine aw_iload_n 3 dX11_measure_2 rfl rfl ?_
  obtain ⟨_, h1, hw⟩ := hw
  refine aw_virtI (As := [.int v2, .int v3]) (rest := []) dX11_measure_3 (acX11_row l G (d - 1) hG (by omega) hw) iX11_row rfl k_1175 k_1177 k_59 rfl h1 (by omega) (by decide) (by decide) rfl (Nat.le_of_ble_eq_true rfl) (fun r2 h1 hw => ?_)
  refine aw_istore (lv' := [(4, .int r2), (0, .ref v0), (1, .int v1), (2, .int v2), (3, .int v3)]) dX11_measure_6 (by decide) rfl ?_
  refine aw_iload 0 dX11_measure_8 rfl ?_
  refine aw_if_ne (tgt := 31) dX11_measure_10 (by decide) (fun z => ?_) (fun z => ?_)
  · have hw := hw.1 z
    refine aw_sub (lv' := [(4, .int r2)]) [0] rfl ?_
    exact abX11_measure_31 l G d hG hd _ _ hw
  · have hw := hw.2 z
    refine aw_aload_n 1 dX11_measure_13 rfl rfl ?_
    obtain ⟨fs4, r3, h1, h2, hw⟩ := hw
    refine aw_getf (k := 8) dX11_measure_14 clX11 (by decide) k_956 (Or.inl rfl) h1 h2 ?_
    refine aw_iload_n 2 dX11_measure_17 rfl rfl ?_
    refine aw_aload_n 1 dX11_measure_18 rfl rfl ?_
    obtain ⟨fs6, r5, h1, h2, hw⟩ := hw
    refine aw_getf (k := 4) dX11_measure_19 clX11 (by decide) k_952 (Or.inl rfl) h1 h2 ?_
    refine aw_aload_n 1 dX11_measure_22 rfl rfl ?_
    obtain ⟨fs8, r7, h1, h2, hw⟩ := hw
    refine aw_getf (k := 7) dX11_measure_23 clX11 (by decide) k_955 (Or.inl rfl) h1 h2 ?_
    refine aw_iload_n 3 dX11_measure_26 rfl rfl ?_
    obtain ⟨_, _, r9, h1, h2, h3, hw⟩ := hw
    refine aw_aI dX11_measure_27 h1 h2 h3 ?_
    obtain ⟨_, _, r10, h1, h2, h3, hw⟩ := hw
    refine aw_aI dX11_measure_28 h1 h2 h3 ?_
    refine aw_i2l dX11_measure_29 ?_
    obtain ⟨_, _, h1, h2, hw⟩ := hw
    refine aw_last dX11_measure_30 h1 h2 ?_
    generalize a_up _ _ _ = h11 at hw ⊢
    refine aw_sub (lv' := [(4, .int r2)]) [0] rfl ?_
    exact abX11_measure_31 l G d hG hd _ _ hw
-- X11_move
def wbX11_move_33 (v4 : Int32) (h : aH) (Q : Int32 → aH → Prop) : Prop :=
  Q v4 h
def wbX11_move_14 (v0 : Nat) (v1 : Int32) (v2 : Int32) (s0 : Int32) (h : aH) (Q : Int32 → aH → Prop) : Prop :=
  (¬ s0 = 0 → wbX11_move_33 s0 h Q) ∧ (s0 = 0 → rR h v0 9 7 (fun r1 => rR h v0 9 7 (fun r3 => aI h r3 v2 (fun r5 => sI h r1 v1 r5 (fun h6 => wbX11_move_33 s0 h6 Q)))))
def wX11_move (h : aH) (v0 : Nat) (v1 : Int32) (v2 : Int32) (v3 : Int32) (Q : Int32 → aH → Prop) : Prop :=
  (¬ v3 = 0 → isO h v0 9 (wX11_as h v0 v2 v3 (fun r8 h7 => wbX11_move_14 v0 v1 v2 r8 h7 Q))) ∧ (v3 = 0 → wbX11_move_14 v0 v1 v2 0 h Q)
set_option maxRecDepth 100000 in
theorem abX11_move_33 (l : Launch) (G : aG) (d : Nat) (hG : a_GT G) (hd : 4 ≤ d) {Q : Int32 → aH → Prop} (v4 : Int32) (h : aH) (hw : wbX11_move_33 v4 h Q) : AW l G d 0 0 mX11_move (qI Q) 33 [(4, .int v4)] [] h := by
  unfold wbX11_move_33 at hw
  refine aw_iload 0 dX11_move_33 rfl ?_
  exact aw_iret dX11_move_35 rfl rfl ⟨_, rfl, hw⟩
set_option maxRecDepth 100000 in
theorem abX11_move_14 (l : Launch) (G : aG) (d : Nat) (hG : a_GT G) (hd : 4 ≤ d) {Q : Int32 → aH → Prop} (v0 : Nat) (v1 : Int32) (v2 : Int32) (s0 : Int32) (h : aH) (hw : wbX11_move_14 v0 v1 v2 s0 h Q) : AW l G d 0 0 mX11_move (qI Q) 14 [(0, .ref v0), (1, .int v1), (2, .int v2)] [.int s0] h := by
  unfold wbX11_move_14 at hw
  refine aw_istore (lv' := [(4, .int s0), (0, .ref v0), (1, .int v1), (2, .int v2)]) dX11_move_14 (by decide) rfl ?_
  refine aw_iload 0 dX11_move_16 rfl ?_
  refine aw_if_ne (tgt := 33) dX11_move_18 (by decide) (fun z => ?_) (fun z => ?_)
  · have hw := hw.1 z
    refine aw_sub (lv' := [(4, .int s0)]) [0] rfl ?_
    exact abX11_move_33 l G d hG hd _ _ hw
  · have hw := hw.2 z
    refine aw_aload_n 1 dX11_move_21 rfl rfl ?_
    obtain ⟨fs2, r1, h1, h2, hw⟩ := hw
    refine aw_getf (k := 7) dX11_move_22 clX11 (by decide) k_955 (Or.inl rfl) h1 h2 ?_
    refine aw_iload_n 2 dX11_move_25 rfl rfl ?_
    refine aw_aload_n 1 dX11_move_26 rfl rfl ?_
    obtain ⟨fs4, r3, h1, h2, hw⟩ := hw
    refine aw_getf (k := 7) dX11_move_27 clX11 (by decide) k_955 (Or.inl rfl) h1 h2 ?_
    refine aw_iload_n 3 dX11_move_30 rfl rfl ?_
    obtain ⟨_, _, r5, h1, h2, h3, hw⟩ := hw
    refine aw_aI dX11_move_31 h1 h2 h3 ?_
    obtain ⟨_, _, h1, h2, hw⟩ := hw
    refine aw_iast dX11_move_32 h1 h2 ?_
    generalize a_up _ _ _ = h6 at hw ⊢
    refine aw_sub (lv' := [(4, .int s0)]) [0] rfl ?_
    exact abX11_move_33 l G d hG hd _ _ hw
set_option maxRecDepth 100000 in
theorem acX11_move (l : Launch) (G : aG) (d : Nat) (hG : a_GT G) (hd : 4 ≤ d) {Q : Int32 → aH → Prop} {h : aH} {v0 : Nat} {v1 : Int32} {v2 : Int32} {v3 : Int32} (hw : wX11_move h v0 v1 v2 v3 Q) : AC l G d 0 0 mX11_move [.ref v0, .int v1, .int v2, .int v3] h (qI Q) := by
  refine ac_of iX11_move (Nat.le_of_ble_eq_true rfl) ?_
  show AW l G d 0 0 mX11_move (qI Q) 0 [(0, .ref v0), (1, .int v1), (2, .int v2), (3, .int v3)] [] h
  unfold wX11_move at hw
  refine aw_iload_n 3 dX11_move_0 rfl rfl ?_
  refine aw_if_ne (tgt := 8) dX11_move_1 (by decide) (fun z => ?_) (fun z => ?_)
  · have hw := hw.1 z
    refine aw_aload_n 0 dX11_move_8 rfl rfl ?_
    refine aw_iload_n 2 dX11_move_9 rfl rfl ?_
    refine aw_iload_n 3 dX11_move_10 rfl rfl ?_
    obtain ⟨_, h1, hw⟩ := hw
    refine aw_virtI (As := [.int v2, .int v3]) (rest := []) dX11_move_11 (acX11_as l G (d - 1) hG (by omega) hw) iX11_as rfl k_1156 k_1158 k_55 rfl h1 (by omega) (by decide) (by decide) rfl (Nat.le_of_ble_eq_true rfl) (fun r8 h7 hw => ?_)
    refine aw_sub (lv' := [(0, .ref v0), (1, .int v1), (2, .int v2)]) [0, 1, 2] rfl ?_
    exact abX11_move_14 l G d hG hd _ _ _ _ _ hw
  · have hw := hw.2 z
    refine aw_iconst (v := 0) dX11_move_4 (by decide) ?_
    refine aw_goto (tgt := 14) dX11_move_5 (by decide) ?_
    refine aw_sub (lv' := [(0, .ref v0), (1, .int v1), (2, .int v2)]) [0, 1, 2] rfl ?_
    exact abX11_move_14 l G d hG hd _ _ _ _ _ hw
-- X11_done
def wbX11_done_159 (v4 : Int32) (s0 : Int32) (s1 : Int32) (s2 : Nat) (h : aH) (Q : Int32 → aH → Prop) : Prop :=
  isO h s2 9 (wX11_figure h s2 s1 s0 v4 (fun r2 h1 => Q r2 h1))
def wbX11_done_313 (s0 : Int32) (s1 : Int32) (s2 : Int32) (s3 : Int32) (s4 : Nat) (h : aH) (Q : Int32 → aH → Prop) : Prop :=
  isO h s4 9 (wX11_divide h s4 s3 s2 s1 s0 (fun r4 h3 => Q r4 h3))
def wbX11_done_292 (v0 : Nat) (v1 : Int32) (v2 : Int32) (v3 : Int32) (v4 : Int32) (h : aH) (Q : Int32 → aH → Prop) : Prop :=
  rR h v0 9 11 (fun r5 => aI h r5 v1 (fun r7 => (¬ r7 = 16 → wbX11_done_313 0 v4 v3 v2 v0 h Q) ∧ (r7 = 16 → wbX11_done_313 1 v4 v3 v2 v0 h Q)))
def wX11_done (h : aH) (v0 : Nat) (v1 : Int32) (Q : Int32 → aH → Prop) : Prop :=
  rR h v0 9 12 (fun r8 => aI h r8 v1 (fun r10 => rR h v0 9 13 (fun r11 => aI h r11 v1 (fun r13 => rR h v0 9 14 (fun r14 => aI h r14 v1 (fun r16 => rR h v0 9 15 (fun r17 => aI h r17 v1 (fun r19 => rR h v0 9 11 (fun r20 => aI h r20 v1 (fun r22 => ((r22.toInt < 0 ∨ 16 < r22.toInt) → Q 7 h) ∧ (r22.toInt = 0 → isO h v0 9 (wX11_make h v0 r10 r13 r16 (fun r24 h23 => Q r24 h23))) ∧ (r22.toInt = 1 → isO h v0 9 (wX11_deep h v0 r10 r13 r16 (fun r26 h25 => Q r26 h25))) ∧ (r22.toInt = 2 → isO h v0 9 (wX11_make h v0 r10 5 r13 (fun r28 h27 => Q r28 h27))) ∧ (r22.toInt = 3 → (¬ r13 = 0 → wbX11_done_159 r16 9 r10 v0 h Q) ∧ (r13 = 0 → wbX11_done_159 r16 8 r10 v0 h Q)) ∧ (r22.toInt = 4 → isO h v0 9 (wX11_move h v0 r10 r13 r16 (fun r30 h29 => Q r30 h29))) ∧ (r22.toInt = 5 → isO h v0 9 (wX11_get h v0 r10 r13 r16 r19 (fun r32 h31 => Q r32 h31))) ∧ (r22.toInt = 6 → isO h v0 9 (wX11_set h v0 r10 r13 r16 r19 (fun r34 h33 => Q r34 h33))) ∧ (r22.toInt = 7 → isO h v0 9 (wX11_take h v0 r10 r13 r16 r19 (fun r36 h35 => Q r36 h35))) ∧ (r22.toInt = 8 → isO h v0 9 (wX11_lay h v0 r10 r13 r16 r19 (fun r38 h37 => Q r38 h37))) ∧ (r22.toInt = 9 → isO h v0 9 (wX11_measure h v0 r10 r13 r16 (fun r40 h39 => Q r40 h39))) ∧ (r22.toInt = 10 → isO h v0 9 (wX11_cloned h v0 r10 r13 (fun r42 h41 => Q r42 h41))) ∧ (r22.toInt = 11 → isO h v0 9 (wX11_tell h v0 r10 r13 (fun r44 h43 => Q r44 h43))) ∧ (r22.toInt = 12 → rR h v0 9 8 (fun r45 => aL h r45 7 (fun r47 => isO h v0 9 (wX11_copy h v0 r10 r13 r16 r19 r47.toInt32 (fun r49 h48 => Q r49 h48))))) ∧ (r22.toInt = 13 → rR h v0 9 8 (fun r50 => sL h r50 r10 r13.toInt64 (fun h52 => Q 0 h52))) ∧ (r22.toInt = 14 → rR h v0 9 8 (fun r53 => rR h v0 9 8 (fun r55 => aL h r55 r13 (fun r57 => rR h v0 9 8 (fun r58 => aL h r58 r16 (fun r60 => sL h r53 r10 ((r57 + r60)) (fun h61 => Q 0 h61))))))) ∧ (r22.toInt = 15 → wbX11_done_292 v0 v1 r10 r13 r16 h Q) ∧ (r22.toInt = 16 → wbX11_done_292 v0 v1 r10 r13 r16 h Q)))))))))))
set_option maxRecDepth 100000 in
theorem abX11_done_159 (l : Launch) (G : aG) (d : Nat) (hG : a_GT G) (hd : 7 ≤ d) {Q : Int32 → aH → Prop} (v4 : Int32) (s0 : Int32) (s1 : Int32) (s2 : Nat) (h : aH) (hw : wbX11_done_159 v4 s0 s1 s2 h Q) : AW l G d 0 0 mX11_done (qI Q) 159 [(4, .int v4)] [.int s0, .int s1, .ref s2] h := by
  unfold wbX11_done_159 at hw
  refine aw_iload 0 dX11_done_159 rfl ?_
  obtain ⟨_, h1, hw⟩ := hw
  refine aw_virtI (As := [.int s1, .int s0, .int v4]) (rest := []) dX11_done_161 (acX11_figure l G (d - 1) hG (by omega) hw) iX11_figure rfl k_1148 k_1150 k_53 rfl h1 (by omega) (by decide) (by decide) rfl (Nat.le_of_ble_eq_true rfl) (fun r2 h1 hw => ?_)
  exact aw_iret dX11_done_164 rfl rfl ⟨_, rfl, hw⟩
set_option maxRecDepth 100000 in
theorem abX11_done_313 (l : Launch) (G : aG) (d : Nat) (hG : a_GT G) (hd : 7 ≤ d) {Q : Int32 → aH → Prop} (s0 : Int32) (s1 : Int32) (s2 : Int32) (s3 : Int32) (s4 : Nat) (h : aH) (hw : wbX11_done_313 s0 s1 s2 s3 s4 h Q) : AW l G d 0 0 mX11_done (qI Q) 313 [] [.int s0, .int s1, .int s2, .int s3, .ref s4] h := by
  unfold wbX11_done_313 at hw
  obtain ⟨_, h1, hw⟩ := hw
  refine aw_virtI (As := [.int s3, .int s2, .int s1, .int s0]) (rest := []) dX11_done_313 (acX11_divide l G (d - 1) hG (by omega) hw) iX11_divide rfl k_1216 k_1218 k_67 rfl h1 (by omega) (by decide) (by decide) rfl (Nat.le_of_ble_eq_true rfl) (fun r4 h3 hw => ?_)
  exact aw_iret dX11_done_316 rfl rfl ⟨_, rfl, hw⟩
set_option maxRecDepth 100000 in
theorem abX11_done_292 (l : Launch) (G : aG) (d : Nat) (hG : a_GT G) (hd : 7 ≤ d) {Q : Int32 → aH → Prop} (v0 : Nat) (v1 : Int32) (v2 : Int32) (v3 : Int32) (v4 : Int32) (h : aH) (hw : wbX11_done_292 v0 v1 v2 v3 v4 h Q) : AW l G d 0 0 mX11_done (qI Q) 292 [(0, .ref v0), (1, .int v1), (2, .int v2), (3, .int v3), (4, .int v4)] [] h := by
  unfold wbX11_done_292 at hw
  refine aw_aload_n 0 dX11_done_292 rfl rfl ?_
  refine aw_iload_n 2 dX11_done_293 rfl rfl ?_
  refine aw_iload_n 3 dX11_done_294 rfl rfl ?_
  refine aw_iload 4 dX11_done_295 rfl ?_
  refine aw_aload_n 0 dX11_done_297 rfl rfl ?_
  obtain ⟨fs6, r5, h1, h2, hw⟩ := hw
  refine aw_getf (k := 11) dX11_done_298 clX11 (by decide) k_959 (Or.inl rfl) h1 h2 ?_
  refine aw_iload_n 1 dX11_done_301 rfl rfl ?_
  obtain ⟨_, _, r7, h1, h2, h3, hw⟩ := hw
  refine aw_aI dX11_done_302 h1 h2 h3 ?_
  refine aw_bipush (v := 16) dX11_done_303 (by decide) ?_
  refine aw_icmp_ne (tgt := 312) dX11_done_305 (by decide) (fun z => ?_) (fun z => ?_)
  · have hw := hw.1 z
    refine aw_iconst (v := 0) dX11_done_312 (by decide) ?_
    refine aw_sub (lv' := []) [] rfl ?_
    exact abX11_done_313 l G d hG hd _ _ _ _ _ _ hw
  · have hw := hw.2 z
    refine aw_iconst (v := 1) dX11_done_308 (by decide) ?_
    refine aw_goto (tgt := 313) dX11_done_309 (by decide) ?_
    refine aw_sub (lv' := []) [] rfl ?_
    exact abX11_done_313 l G d hG hd _ _ _ _ _ _ hw
set_option maxRecDepth 100000 in
theorem acX11_done (l : Launch) (G : aG) (d : Nat) (hG : a_GT G) (hd : 7 ≤ d) {Q : Int32 → aH → Prop} {h : aH} {v0 : Nat} {v1 : Int32} (hw : wX11_done h v0 v1 Q) : AC l G d 0 0 mX11_done [.ref v0, .int v1] h (qI Q) := by
  refine ac_of iX11_done (Nat.le_of_ble_eq_true rfl) ?_
  show AW l G d 0 0 mX11_done (qI Q) 0 [(0, .ref v0), (1, .int v1)] [] h
  unfold wX11_done at hw
  refine aw_aload_n 0 dX11_done_0 rfl rfl ?_
  obtain ⟨fs9, r8, h1, h2, hw⟩ := hw
  refine aw_getf (k := 12) dX11_done_1 clX11 (by decide) k_960 (Or.inl rfl) h1 h2 ?_
  refine aw_iload_n 1 dX11_done_4 rfl rfl ?_
  obtain ⟨_, _, r10, h1, h2, h3, hw⟩ := hw
  refine aw_aI dX11_done_5 h1 h2 h3 ?_
  refine aw_istore_n (lv' := [(2, .int r10), (0, .ref v0), (1, .int v1)]) dX11_done_6 rfl (by decide) rfl ?_
  refine aw_aload_n 1 dX11_done_7 rfl rfl ?_
  obtain ⟨fs12, r11, h1, h2, hw⟩ := hw
  refine aw_getf (k := 13) dX11_done_8 clX11 (by decide) k_961 (Or.inl rfl) h1 h2 ?_
  refine aw_iload_n 2 dX11_done_11 rfl rfl ?_
  obtain ⟨_, _, r13, h1, h2, h3, hw⟩ := hw
  refine aw_aI dX11_done_12 h1 h2 h3 ?_
  refine aw_istore_n (lv' := [(3, .int r13), (2, .int r10), (0, .ref v0), (1, .int v1)]) dX11_done_13 rfl (by decide) rfl ?_
  refine aw_aload_n 2 dX11_done_14 rfl rfl ?_
  obtain ⟨fs15, r14, h1, h2, hw⟩ := hw
  refine aw_getf (k := 14) dX11_done_15 clX11 (by decide) k_962 (Or.inl rfl) h1 h2 ?_
  refine aw_iload_n 3 dX11_done_18 rfl rfl ?_
  obtain ⟨_, _, r16, h1, h2, h3, hw⟩ := hw
  refine aw_aI dX11_done_19 h1 h2 h3 ?_
  refine aw_istore (lv' := [(4, .int r16), (3, .int r13), (2, .int r10), (0, .ref v0), (1, .int v1)]) dX11_done_20 (by decide) rfl ?_
  refine aw_aload_n 3 dX11_done_22 rfl rfl ?_
  obtain ⟨fs18, r17, h1, h2, hw⟩ := hw
  refine aw_getf (k := 15) dX11_done_23 clX11 (by decide) k_963 (Or.inl rfl) h1 h2 ?_
  refine aw_iload_n 4 dX11_done_26 rfl rfl ?_
  obtain ⟨_, _, r19, h1, h2, h3, hw⟩ := hw
  refine aw_aI dX11_done_27 h1 h2 h3 ?_
  refine aw_istore (lv' := [(5, .int r19), (4, .int r16), (3, .int r13), (2, .int r10), (0, .ref v0), (1, .int v1)]) dX11_done_28 (by decide) rfl ?_
  refine aw_aload_n 4 dX11_done_30 rfl rfl ?_
  obtain ⟨fs21, r20, h1, h2, hw⟩ := hw
  refine aw_getf (k := 11) dX11_done_31 clX11 (by decide) k_959 (Or.inl rfl) h1 h2 ?_
  refine aw_iload_n 5 dX11_done_34 rfl rfl ?_
  obtain ⟨_, _, r22, h1, h2, h3, hw⟩ := hw
  refine aw_aI dX11_done_35 h1 h2 h3 ?_
  by_cases zo : r22.toInt < 0 ∨ 16 < r22.toInt
  · have hw := hw.1 zo
    refine aw_tableOut (tgt := 317) dX11_done_36 zo (by decide) ?_
    refine aw_bipush (v := 7) dX11_done_317 (by decide) ?_
    exact aw_iret dX11_done_319 rfl rfl ⟨_, rfl, hw⟩
  · have hw := hw.2
    have z : r22.toInt = 0 ∨ r22.toInt = 1 ∨ r22.toInt = 2 ∨ r22.toInt = 3 ∨ r22.toInt = 4 ∨ r22.toInt = 5 ∨ r22.toInt = 6 ∨ r22.toInt = 7 ∨ r22.toInt = 8 ∨ r22.toInt = 9 ∨ r22.toInt = 10 ∨ r22.toInt = 11 ∨ r22.toInt = 12 ∨ r22.toInt = 13 ∨ r22.toInt = 14 ∨ r22.toInt = 15 ∨ r22.toInt = 16 := by omega
    rcases z with z | z | z | z | z | z | z | z | z | z | z | z | z | z | z | z | z
    · have hw := hw.1 z
      refine aw_tableIn (off := 84) (tgt := 120) dX11_done_36 (by rw [z]; decide) (by rw [z]; decide) (by rw [z]; rfl) (by decide) ?_
      refine aw_aload_n 4 dX11_done_120 rfl rfl ?_
      refine aw_iload_n 3 dX11_done_121 rfl rfl ?_
      refine aw_iload_n 2 dX11_done_122 rfl rfl ?_
      refine aw_iload 1 dX11_done_123 rfl ?_
      obtain ⟨_, h1, hw⟩ := hw
      refine aw_virtI (As := [.int r10, .int r13, .int r16]) (rest := []) dX11_done_125 (acX11_make l G (d - 1) hG (by omega) hw) iX11_make rfl k_1130 k_1132 k_49 rfl h1 (by omega) (by decide) (by decide) rfl (Nat.le_of_ble_eq_true rfl) (fun r24 h23 hw => ?_)
      exact aw_iret dX11_done_128 rfl rfl ⟨_, rfl, hw⟩
    · have hw := hw.2.1 z
      refine aw_tableIn (off := 93) (tgt := 129) dX11_done_36 (by rw [z]; decide) (by rw [z]; decide) (by rw [z]; rfl) (by decide) ?_
      refine aw_aload_n 4 dX11_done_129 rfl rfl ?_
      refine aw_iload_n 3 dX11_done_130 rfl rfl ?_
      refine aw_iload_n 2 dX11_done_131 rfl rfl ?_
      refine aw_iload 1 dX11_done_132 rfl ?_
      obtain ⟨_, h1, hw⟩ := hw
      refine aw_virtI (As := [.int r10, .int r13, .int r16]) (rest := []) dX11_done_134 (acX11_deep l G (d - 1) hG (by omega) hw) iX11_deep rfl k_1144 k_1146 k_52 rfl h1 (by omega) (by decide) (by decide) rfl (Nat.le_of_ble_eq_true rfl) (fun r26 h25 hw => ?_)
      exact aw_iret dX11_done_137 rfl rfl ⟨_, rfl, hw⟩
    · have hw := hw.2.2.1 z
      refine aw_tableIn (off := 102) (tgt := 138) dX11_done_36 (by rw [z]; decide) (by rw [z]; decide) (by rw [z]; rfl) (by decide) ?_
      refine aw_aload_n 4 dX11_done_138 rfl rfl ?_
      refine aw_iload_n 3 dX11_done_139 rfl rfl ?_
      refine aw_iconst (v := 5) dX11_done_140 (by decide) ?_
      refine aw_iload_n 2 dX11_done_141 rfl rfl ?_
      obtain ⟨_, h1, hw⟩ := hw
      refine aw_virtI (As := [.int r10, .int 5, .int r13]) (rest := []) dX11_done_142 (acX11_make l G (d - 1) hG (by omega) hw) iX11_make rfl k_1130 k_1132 k_49 rfl h1 (by omega) (by decide) (by decide) rfl (Nat.le_of_ble_eq_true rfl) (fun r28 h27 hw => ?_)
      exact aw_iret dX11_done_145 rfl rfl ⟨_, rfl, hw⟩
    · have hw := hw.2.2.2.1 z
      refine aw_tableIn (off := 110) (tgt := 146) dX11_done_36 (by rw [z]; decide) (by rw [z]; decide) (by rw [z]; rfl) (by decide) ?_
      refine aw_aload_n 4 dX11_done_146 rfl rfl ?_
      refine aw_iload_n 3 dX11_done_147 rfl rfl ?_
      refine aw_iload_n 2 dX11_done_148 rfl rfl ?_
      refine aw_if_ne (tgt := 157) dX11_done_149 (by decide) (fun z => ?_) (fun z => ?_)
      · have hw := hw.1 z
        refine aw_bipush (v := 9) dX11_done_157 (by decide) ?_
        refine aw_sub (lv' := [(4, .int r16)]) [1] rfl ?_
        exact abX11_done_159 l G d hG hd _ _ _ _ _ hw
      · have hw := hw.2 z
        refine aw_bipush (v := 8) dX11_done_152 (by decide) ?_
        refine aw_goto (tgt := 159) dX11_done_154 (by decide) ?_
        refine aw_sub (lv' := [(4, .int r16)]) [1] rfl ?_
        exact abX11_done_159 l G d hG hd _ _ _ _ _ hw
    · have hw := hw.2.2.2.2.1 z
      refine aw_tableIn (off := 129) (tgt := 165) dX11_done_36 (by rw [z]; decide) (by rw [z]; decide) (by rw [z]; rfl) (by decide) ?_
      refine aw_aload_n 4 dX11_done_165 rfl rfl ?_
      refine aw_iload_n 3 dX11_done_166 rfl rfl ?_
      refine aw_iload_n 2 dX11_done_167 rfl rfl ?_
      refine aw_iload 1 dX11_done_168 rfl ?_
      obtain ⟨_, h1, hw⟩ := hw
      refine aw_virtI (As := [.int r10, .int r13, .int r16]) (rest := []) dX11_done_170 (acX11_move l G (d - 1) hG (by omega) hw) iX11_move rfl k_1152 k_1154 k_54 rfl h1 (by omega) (by decide) (by decide) rfl (Nat.le_of_ble_eq_true rfl) (fun r30 h29 hw => ?_)
      exact aw_iret dX11_done_173 rfl rfl ⟨_, rfl, hw⟩
    · have hw := hw.2.2.2.2.2.1 z
      refine aw_tableIn (off := 138) (tgt := 174) dX11_done_36 (by rw [z]; decide) (by rw [z]; decide) (by rw [z]; rfl) (by decide) ?_
      refine aw_aload_n 4 dX11_done_174 rfl rfl ?_
      refine aw_iload_n 3 dX11_done_175 rfl rfl ?_
      refine aw_iload_n 2 dX11_done_176 rfl rfl ?_
      refine aw_iload 1 dX11_done_177 rfl ?_
      refine aw_iload 0 dX11_done_179 rfl ?_
      obtain ⟨_, h1, hw⟩ := hw
      refine aw_virtI (As := [.int r10, .int r13, .int r16, .int r19]) (rest := []) dX11_done_181 (acX11_get l G (d - 1) hG (by omega) hw) iX11_get rfl k_1167 k_1169 k_57 rfl h1 (by omega) (by decide) (by decide) rfl (Nat.le_of_ble_eq_true rfl) (fun r32 h31 hw => ?_)
      exact aw_iret dX11_done_184 rfl rfl ⟨_, rfl, hw⟩
    · have hw := hw.2.2.2.2.2.2.1 z
      refine aw_tableIn (off := 149) (tgt := 185) dX11_done_36 (by rw [z]; decide) (by rw [z]; decide) (by rw [z]; rfl) (by decide) ?_
      refine aw_aload_n 4 dX11_done_185 rfl rfl ?_
      refine aw_iload_n 3 dX11_done_186 rfl rfl ?_
      refine aw_iload_n 2 dX11_done_187 rfl rfl ?_
      refine aw_iload 1 dX11_done_188 rfl ?_
      refine aw_iload 0 dX11_done_190 rfl ?_
      obtain ⟨_, h1, hw⟩ := hw
      refine aw_virtI (As := [.int r10, .int r13, .int r16, .int r19]) (rest := []) dX11_done_192 (acX11_set l G (d - 1) hG (by omega) hw) iX11_set rfl k_1179 k_1181 k_60 rfl h1 (by omega) (by decide) (by decide) rfl (Nat.le_of_ble_eq_true rfl) (fun r34 h33 hw => ?_)
      exact aw_iret dX11_done_195 rfl rfl ⟨_, rfl, hw⟩
    · have hw := hw.2.2.2.2.2.2.2.1 z
      refine aw_tableIn (off := 160) (tgt := 196) dX11_done_36 (by rw [z]; decide) (by rw [z]; decide) (by rw [z]; rfl) (by decide) ?_
      refine aw_aload_n 4 dX11_done_196 rfl rfl ?_
      refine aw_iload_n 3 dX11_done_197 rfl rfl ?_
      refine aw_iload_n 2 dX11_done_198 rfl rfl ?_
      refine aw_iload 1 dX11_done_199 rfl ?_
      refine aw_iload 0 dX11_done_201 rfl ?_
      obtain ⟨_, h1, hw⟩ := hw
      refine aw_virtI (As := [.int r10, .int r13, .int r16, .int r19]) (rest := []) dX11_done_203 (acX11_take l G (d - 1) hG (by omega) hw) iX11_take rfl k_1189 k_1191 k_61 rfl h1 (by omega) (by decide) (by decide) rfl (Nat.le_of_ble_eq_true rfl) (fun r36 h35 hw => ?_)
      exact aw_iret dX11_done_206 rfl rfl ⟨_, rfl, hw⟩
    · have hw := hw.2.2.2.2.2.2.2.2.1 z
      refine aw_tableIn (off := 171) (tgt := 207) dX11_done_36 (by rw [z]; decide) (by rw [z]; decide) (by rw [z]; rfl) (by decide) ?_
      refine aw_aload_n 4 dX11_done_207 rfl rfl ?_
      refine aw_iload_n 3 dX11_done_208 rfl rfl ?_
      refine aw_iload_n 2 dX11_done_209 rfl rfl ?_
      refine aw_iload 1 dX11_done_210 rfl ?_
      refine aw_iload 0 dX11_done_212 rfl ?_
      obtain ⟨_, h1, hw⟩ := hw
      refine aw_virtI (As := [.int r10, .int r13, .int r16, .int r19]) (rest := []) dX11_done_214 (acX11_lay l G (d - 1) hG (by omega) hw) iX11_lay rfl k_1193 k_1195 k_62 rfl h1 (by omega) (by decide) (by decide) rfl (Nat.le_of_ble_eq_true rfl) (fun r38 h37 hw => ?_)
      exact aw_iret dX11_done_217 rfl rfl ⟨_, rfl, hw⟩
    · have hw := hw.2.2.2.2.2.2.2.2.2.1 z
      refine aw_tableIn (off := 182) (tgt := 218) dX11_done_36 (by rw [z]; decide) (by rw [z]; decide) (by rw [z]; rfl) (by decide) ?_
      refine aw_aload_n 4 dX11_done_218 rfl rfl ?_
      refine aw_iload_n 3 dX11_done_219 rfl rfl ?_
      refine aw_iload_n 2 dX11_done_220 rfl rfl ?_
      refine aw_iload 1 dX11_done_221 rfl ?_
      obtain ⟨_, h1, hw⟩ := hw
      refine aw_virtI (As := [.int r10, .int r13, .int r16]) (rest := []) dX11_done_223 (acX11_measure l G (d - 1) hG (by omega) hw) iX11_measure rfl k_1197 k_1199 k_63 rfl h1 (by omega) (by decide) (by decide) rfl (Nat.le_of_ble_eq_true rfl) (fun r40 h39 hw => ?_)
      exact aw_iret dX11_done_226 rfl rfl ⟨_, rfl, hw⟩
    · have hw := hw.2.2.2.2.2.2.2.2.2.2.1 z
      refine aw_tableIn (off := 191) (tgt := 227) dX11_done_36 (by rw [z]; decide) (by rw [z]; decide) (by rw [z]; rfl) (by decide) ?_
      refine aw_aload_n 4 dX11_done_227 rfl rfl ?_
      refine aw_iload_n 3 dX11_done_228 rfl rfl ?_
      refine aw_iload_n 2 dX11_done_229 rfl rfl ?_
      obtain ⟨_, h1, hw⟩ := hw
      refine aw_virtI (As := [.int r10, .int r13]) (rest := []) dX11_done_230 (acX11_cloned l G (d - 1) hG (by omega) hw) iX11_cloned rfl k_1201 k_1203 k_64 rfl h1 (by omega) (by decide) (by decide) rfl (Nat.le_of_ble_eq_true rfl) (fun r42 h41 hw => ?_)
      exact aw_iret dX11_done_233 rfl rfl ⟨_, rfl, hw⟩
    · have hw := hw.2.2.2.2.2.2.2.2.2.2.2.1 z
      refine aw_tableIn (off := 198) (tgt := 234) dX11_done_36 (by rw [z]; decide) (by rw [z]; decide) (by rw [z]; rfl) (by decide) ?_
      refine aw_aload_n 4 dX11_done_234 rfl rfl ?_
      refine aw_iload_n 3 dX11_done_235 rfl rfl ?_
      refine aw_iload_n 2 dX11_done_236 rfl rfl ?_
      obtain ⟨_, h1, hw⟩ := hw
      refine aw_virtI (As := [.int r10, .int r13]) (rest := []) dX11_done_237 (acX11_tell l G (d - 1) hG (by omega) hw) iX11_tell rfl k_1205 k_1207 k_65 rfl h1 (by omega) (by decide) (by decide) rfl (Nat.le_of_ble_eq_true rfl) (fun r44 h43 hw => ?_)
      exact aw_iret dX11_done_240 rfl rfl ⟨_, rfl, hw⟩
    · have hw := hw.2.2.2.2.2.2.2.2.2.2.2.2.1 z
      refine aw_tableIn (off := 205) (tgt := 241) dX11_done_36 (by rw [z]; decide) (by rw [z]; decide) (by rw [z]; rfl) (by decide) ?_
      refine aw_aload_n 4 dX11_done_241 rfl rfl ?_
      refine aw_iload_n 3 dX11_done_242 rfl rfl ?_
      refine aw_iload_n 2 dX11_done_243 rfl rfl ?_
      refine aw_iload 1 dX11_done_244 rfl ?_
      refine aw_iload 0 dX11_done_246 rfl ?_
      refine aw_aload_n 4 dX11_done_248 rfl rfl ?_
      obtain ⟨fs46, r45, h1, h2, hw⟩ := hw
      refine aw_getf (k := 8) dX11_done_249 clX11 (by decide) k_956 (Or.inl rfl) h1 h2 ?_
      refine aw_bipush (v := 7) dX11_done_252 (by decide) ?_
      obtain ⟨_, _, r47, h1, h2, h3, hw⟩ := hw
      refine aw_aL dX11_done_254 h1 h2 h3 ?_
      refine aw_l2i dX11_done_255 ?_
      obtain ⟨_, h1, hw⟩ := hw
      refine aw_virtI (As := [.int r10, .int r13, .int r16, .int r19, .int r47.toInt32]) (rest := []) dX11_done_256 (acX11_copy l G (d - 1) hG (by omega) hw) iX11_copy rfl k_1209 k_1211 k_66 rfl h1 (by omega) (by decide) (by decide) rfl (Nat.le_of_ble_eq_true rfl) (fun r49 h48 hw => ?_)
      exact aw_iret dX11_done_259 rfl rfl ⟨_, rfl, hw⟩
    · have hw := hw.2.2.2.2.2.2.2.2.2.2.2.2.2.1 z
      refine aw_tableIn (off := 224) (tgt := 260) dX11_done_36 (by rw [z]; decide) (by rw [z]; decide) (by rw [z]; rfl) (by decide) ?_
      refine aw_aload_n 4 dX11_done_260 rfl rfl ?_
      obtain ⟨fs51, r50, h1, h2, hw⟩ := hw
      refine aw_getf (k := 8) dX11_done_261 clX11 (by decide) k_956 (Or.inl rfl) h1 h2 ?_
      refine aw_iload_n 3 dX11_done_264 rfl rfl ?_
      refine aw_iload_n 2 dX11_done_265 rfl rfl ?_
      refine aw_i2l dX11_done_266 ?_
      obtain ⟨_, _, h1, h2, hw⟩ := hw
      refine aw_last dX11_done_267 h1 h2 ?_
      generalize a_up _ _ _ = h52 at hw ⊢
      refine aw_iconst (v := 0) dX11_done_268 (by decide) ?_
      exact aw_iret dX11_done_269 rfl rfl ⟨_, rfl, hw⟩
    · have hw := hw.2.2.2.2.2.2.2.2.2.2.2.2.2.2.1 z
      refine aw_tableIn (off := 234) (tgt := 270) dX11_done_36 (by rw [z]; decide) (by rw [z]; decide) (by rw [z]; rfl) (by decide) ?_
      refine aw_aload_n 4 dX11_done_270 rfl rfl ?_
      obtain ⟨fs54, r53, h1, h2, hw⟩ := hw
      refine aw_getf (k := 8) dX11_done_271 clX11 (by decide) k_956 (Or.inl rfl) h1 h2 ?_
      refine aw_iload_n 3 dX11_done_274 rfl rfl ?_
      refine aw_aload_n 4 dX11_done_275 rfl rfl ?_
      obtain ⟨fs56, r55, h1, h2, hw⟩ := hw
      refine aw_getf (k := 8) dX11_done_276 clX11 (by decide) k_956 (Or.inl rfl) h1 h2 ?_
      refine aw_iload_n 2 dX11_done_279 rfl rfl ?_
      obtain ⟨_, _, r57, h1, h2, h3, hw⟩ := hw
      refine aw_aL dX11_done_280 h1 h2 h3 ?_
      refine aw_aload_n 4 dX11_done_281 rfl rfl ?_
      obtain ⟨fs59, r58, h1, h2, hw⟩ := hw
      refine aw_getf (k := 8) dX11_done_282 clX11 (by decide) k_956 (Or.inl rfl) h1 h2 ?_
      refine aw_iload 1 dX11_done_285 rfl ?_
      obtain ⟨_, _, r60, h1, h2, h3, hw⟩ := hw
      refine aw_aL dX11_done_287 h1 h2 h3 ?_
      refine aw_ladd dX11_done_288 ?_
      obtain ⟨_, _, h1, h2, hw⟩ := hw
      refine aw_last dX11_done_289 h1 h2 ?_
      generalize a_up _ _ _ = h61 at hw ⊢
      refine aw_iconst (v := 0) dX11_done_290 (by decide) ?_
      exact aw_iret dX11_done_291 rfl rfl ⟨_, rfl, hw⟩
    · have hw := hw.2.2.2.2.2.2.2.2.2.2.2.2.2.2.2.1 z
      refine aw_tableIn (off := 256) (tgt := 292) dX11_done_36 (by rw [z]; decide) (by rw [z]; decide) (by rw [z]; rfl) (by decide) ?_
      refine aw_sub (lv' := [(0, .ref v0), (1, .int v1), (2, .int r10), (3, .int r13), (4, .int r16)]) [4, 5, 3, 2, 1] rfl ?_
      exact abX11_done_292 l G d hG hd _ _ _ _ _ _ hw
    · have hw := hw.2.2.2.2.2.2.2.2.2.2.2.2.2.2.2.2 z
      refine aw_tableIn (off := 256) (tgt := 292) dX11_done_36 (by rw [z]; decide) (by rw [z]; decide) (by rw [z]; rfl) (by decide) ?_
      refine aw_sub (lv' := [(0, .ref v0), (1, .int v1), (2, .int r10), (3, .int r13), (4, .int r16)]) [4, 5, 3, 2, 1] rfl ?_
      exact abX11_done_292 l G d hG hd _ _ _ _ _ _ hw
-- X11_push
def wX11_push (h : aH) (v0 : Nat) (v1 : Int32) (Q : aH → Prop) : Prop :=
  rI h v0 9 27 (fun r1 => wF h v0 9 27 (.int (r1 + 1)) (fun h3 => rR h3 v0 9 24 (fun r5 => rI h3 v0 9 27 (fun r7 => sI h3 r5 r7 v1 (fun h9 => rR h9 v0 9 25 (fun r10 => rI h9 v0 9 27 (fun r12 => sI h9 r10 r12 0 (fun h14 => rR h14 v0 9 26 (fun r15 => rI h14 v0 9 27 (fun r17 => sI h14 r15 r17 0 (fun h19 => Q h19)))))))))))
set_option maxRecDepth 100000 in
theorem acX11_push (l : Launch) (G : aG) (d : Nat) (hG : a_GT G) (hd : 1 ≤ d) {Q : aH → Prop} {h : aH} {v0 : Nat} {v1 : Int32} (hw : wX11_push h v0 v1 Q) : AC l G d 0 0 mX11_push [.ref v0, .int v1] h (qV Q) := by
  refine ac_of iX11_push (Nat.le_of_ble_eq_true rfl) ?_
  show AW l G d 0 0 mX11_push (qV Q) 0 [(0, .ref v0), (1, .int v1)] [] h
  unfold wX11_push at hw
  refine aw_aload_n 0 dX11_push_0 rfl rfl ?_
  refine aw_dup dX11_push_1 rfl ?_
  obtain ⟨fs2, r1, h1, h2, hw⟩ := hw
  refine aw_getf (k := 27) dX11_push_2 clX11 (by decide) k_975 (Or.inl rfl) h1 h2 ?_
  refine aw_iconst (v := 1) dX11_push_5 (by decide) ?_
  refine aw_iadd dX11_push_6 ?_
  obtain ⟨fs4, h1, h2, hw⟩ := hw
  refine aw_putf (k := 27) dX11_push_7 clX11 (by decide) k_975 (Or.inl rfl) rfl rfl rfl h1 h2 ?_
  generalize a_up _ _ _ = h3 at hw ⊢
  refine aw_aload_n 0 dX11_push_10 rfl rfl ?_
  obtain ⟨fs6, r5, h1, h2, hw⟩ := hw
  refine aw_getf (k := 24) dX11_push_11 clX11 (by decide) k_972 (Or.inl rfl) h1 h2 ?_
  refine aw_aload_n 0 dX11_push_14 rfl rfl ?_
  obtain ⟨fs8, r7, h1, h2, hw⟩ := hw
  refine aw_getf (k := 27) dX11_push_15 clX11 (by decide) k_975 (Or.inl rfl) h1 h2 ?_
  refine aw_iload_n 1 dX11_push_18 rfl rfl ?_
  obtain ⟨_, _, h1, h2, hw⟩ := hw
  refine aw_iast dX11_push_19 h1 h2 ?_
  generalize a_up _ _ _ = h9 at hw ⊢
  refine aw_aload_n 0 dX11_push_20 rfl rfl ?_
  obtain ⟨fs11, r10, h1, h2, hw⟩ := hw
  refine aw_getf (k := 25) dX11_push_21 clX11 (by decide) k_973 (Or.inl rfl) h1 h2 ?_
  refine aw_aload_n 0 dX11_push_24 rfl rfl ?_
  obtain ⟨fs13, r12, h1, h2, hw⟩ := hw
  refine aw_getf (k := 27) dX11_push_25 clX11 (by decide) k_975 (Or.inl rfl) h1 h2 ?_
  refine aw_iconst (v := 0) dX11_push_28 (by decide) ?_
  obtain ⟨_, _, h1, h2, hw⟩ := hw
  refine aw_iast dX11_push_29 h1 h2 ?_
  generalize a_up _ _ _ = h14 at hw ⊢
  refine aw_aload_n 0 dX11_push_30 rfl rfl ?_
  obtain ⟨fs16, r15, h1, h2, hw⟩ := hw
  refine aw_getf (k := 26) dX11_push_31 clX11 (by decide) k_974 (Or.inl rfl) h1 h2 ?_
  refine aw_aload_n 0 dX11_push_34 rfl rfl ?_
  obtain ⟨fs18, r17, h1, h2, hw⟩ := hw
  refine aw_getf (k := 27) dX11_push_35 clX11 (by decide) k_975 (Or.inl rfl) h1 h2 ?_
  refine aw_iconst (v := 0) dX11_push_38 (by decide) ?_
  obtain ⟨_, _, h1, h2, hw⟩ := hw
  refine aw_iast dX11_push_39 h1 h2 ?_
  generalize a_up _ _ _ = h19 at hw ⊢
  exact aw_vret dX11_push_40 rfl ⟨rfl, hw⟩
-- X11_step
def wX11_step (h : aH) (v0 : Nat) (v1 : Int32) (v2 : Int32) (Q : aH → Prop) : Prop :=
  rR h v0 9 25 (fun r1 => rI h v0 9 27 (fun r3 => sI h r1 r3 v1 (fun h5 => isO h5 v0 9 (wX11_push h5 v0 v2 (fun h6 => Q h6)))))
set_option maxRecDepth 100000 in
theorem acX11_step (l : Launch) (G : aG) (d : Nat) (hG : a_GT G) (hd : 2 ≤ d) {Q : aH → Prop} {h : aH} {v0 : Nat} {v1 : Int32} {v2 : Int32} (hw : wX11_step h v0 v1 v2 Q) : AC l G d 0 0 mX11_step [.ref v0, .int v1, .int v2] h (qV Q) := by
  refine ac_of iX11_step (Nat.le_of_ble_eq_true rfl) ?_
  show AW l G d 0 0 mX11_step (qV Q) 0 [(0, .ref v0), (1, .int v1), (2, .int v2)] [] h
  unfold wX11_step at hw
  refine aw_aload_n 0 dX11_step_0 rfl rfl ?_
  obtain ⟨fs2, r1, h1, h2, hw⟩ := hw
  refine aw_getf (k := 25) dX11_step_1 clX11 (by decide) k_973 (Or.inl rfl) h1 h2 ?_
  refine aw_aload_n 0 dX11_step_4 rfl rfl ?_
  obtain ⟨fs4, r3, h1, h2, hw⟩ := hw
  refine aw_getf (k := 27) dX11_step_5 clX11 (by decide) k_975 (Or.inl rfl) h1 h2 ?_
  refine aw_iload_n 1 dX11_step_8 rfl rfl ?_
  obtain ⟨_, _, h1, h2, hw⟩ := hw
  refine aw_iast dX11_step_9 h1 h2 ?_
  generalize a_up _ _ _ = h5 at hw ⊢
  refine aw_aload_n 0 dX11_step_10 rfl rfl ?_
  refine aw_iload_n 2 dX11_step_11 rfl rfl ?_
  obtain ⟨_, h1, hw⟩ := hw
  refine aw_virtV (As := [.int v2]) (rest := []) dX11_step_12 (acX11_push l G (d - 1) hG (by omega) hw) iX11_push rfl k_1118 k_1120 k_46 rfl h1 (by omega) (by decide) (by decide) rfl (Nat.le_of_ble_eq_true rfl) (fun h6 hw => ?_)
  exact aw_vret dX11_step_15 rfl ⟨rfl, hw⟩
-- X11_ofAct
def wbX11_ofAct_47 (v0 : Nat) (v2 : Int32) (s0 : Int32) (s1 : Nat) (h : aH) (Q : Int32 → aH → Prop) : Prop :=
  wF h s1 9 22 (.int s0) (fun h1 => rI h1 v0 9 27 (fun r3 => wF h1 v0 9 27 (.int (r3 - 1)) (fun h5 => Q v2 h5)))
def wbX11_ofAct_30 (v0 : Nat) (v1 : Int32) (v2 : Int32) (s0 : Int32) (s1 : Int32) (s2 : Nat) (h : aH) (Q : Int32 → aH → Prop) : Prop :=
  wF h s2 9 18 (.int (s1 + s0)) (fun h7 => (¬ v2 = 0 → wbX11_ofAct_47 v0 v2 v1 v0 h7 Q) ∧ (v2 = 0 → rI h7 v0 9 22 (fun r9 => wbX11_ofAct_47 v0 v2 r9 v0 h7 Q)))
def wX11_ofAct (h : aH) (v0 : Nat) (v1 : Int32) (Q : Int32 → aH → Prop) : Prop :=
  rI h v0 9 17 (fun r11 => wF h v0 9 17 (.int (r11 + 1)) (fun h13 => isO h13 v0 9 (wX11_done h13 v0 v1 (fun r16 h15 => rI h15 v0 9 18 (fun r17 => (¬ r16 = 0 → wbX11_ofAct_30 v0 v1 r16 1 r17 v0 h15 Q) ∧ (r16 = 0 → wbX11_ofAct_30 v0 v1 r16 0 r17 v0 h15 Q))))))
set_option maxRecDepth 100000 in
theorem abX11_ofAct_47 (l : Launch) (G : aG) (d : Nat) (hG : a_GT G) (hd : 8 ≤ d) {Q : Int32 → aH → Prop} (v0 : Nat) (v2 : Int32) (s0 : Int32) (s1 : Nat) (h : aH) (hw : wbX11_ofAct_47 v0 v2 s0 s1 h Q) : AW l G d 0 0 mX11_ofAct (qI Q) 47 [(0, .ref v0), (2, .int v2)] [.int s0, .ref s1] h := by
  unfold wbX11_ofAct_47 at hw
  obtain ⟨fs2, h1, h2, hw⟩ := hw
  refine aw_putf (k := 22) dX11_ofAct_47 clX11 (by decide) k_970 (Or.inl rfl) rfl rfl rfl h1 h2 ?_
  generalize a_up _ _ _ = h1 at hw ⊢
  refine aw_aload_n 0 dX11_ofAct_50 rfl rfl ?_
  refine aw_dup dX11_ofAct_51 rfl ?_
  obtain ⟨fs4, r3, h1, h2, hw⟩ := hw
  refine aw_getf (k := 27) dX11_ofAct_52 clX11 (by decide) k_975 (Or.inl rfl) h1 h2 ?_
  refine aw_iconst (v := 1) dX11_ofAct_55 (by decide) ?_
  refine aw_isub dX11_ofAct_56 ?_
  obtain ⟨fs6, h1, h2, hw⟩ := hw
  refine aw_putf (k := 27) dX11_ofAct_57 clX11 (by decide) k_975 (Or.inl rfl) rfl rfl rfl h1 h2 ?_
  generalize a_up _ _ _ = h5 at hw ⊢
  refine aw_iload_n 1 dX11_ofAct_60 rfl rfl ?_
  exact aw_iret dX11_ofAct_61 rfl rfl ⟨_, rfl, hw⟩
set_option maxRecDepth 100000 in
theorem abX11_ofAct_30 (l : Launch) (G : aG) (d : Nat) (hG : a_GT G) (hd : 8 ≤ d) {Q : Int32 → aH → Prop} (v0 : Nat) (v1 : Int32) (v2 : Int32) (s0 : Int32) (s1 : Int32) (s2 : Nat) (h : aH) (hw : wbX11_ofAct_30 v0 v1 v2 s0 s1 s2 h Q) : AW l G d 0 0 mX11_ofAct (qI Q) 30 [(0, .ref v0), (1, .int v1), (2, .int v2)] [.int s0, .int s1, .ref s2] h := by
  unfold wbX11_ofAct_30 at hw
  refine aw_iadd dX11_ofAct_30 ?_
  obtain ⟨fs8, h1, h2, hw⟩ := hw
  refine aw_putf (k := 18) dX11_ofAct_31 clX11 (by decide) k_966 (Or.inl rfl) rfl rfl rfl h1 h2 ?_
  generalize a_up _ _ _ = h7 at hw ⊢
  refine aw_aload_n 0 dX11_ofAct_34 rfl rfl ?_
  refine aw_iload_n 2 dX11_ofAct_35 rfl rfl ?_
  refine aw_if_ne (tgt := 46) dX11_ofAct_36 (by decide) (fun z => ?_) (fun z => ?_)
  · have hw := hw.1 z
    refine aw_iload_n 1 dX11_ofAct_46 rfl rfl ?_
    refine aw_sub (lv' := [(0, .ref v0), (2, .int v2)]) [0, 2] rfl ?_
    exact abX11_ofAct_47 l G d hG hd _ _ _ _ _ hw
  · have hw := hw.2 z
    refine aw_aload_n 0 dX11_ofAct_39 rfl rfl ?_
    obtain ⟨fs10, r9, h1, h2, hw⟩ := hw
    refine aw_getf (k := 22) dX11_ofAct_40 clX11 (by decide) k_970 (Or.inl rfl) h1 h2 ?_
    refine aw_goto (tgt := 47) dX11_ofAct_43 (by decide) ?_
    refine aw_sub (lv' := [(0, .ref v0), (2, .int v2)]) [0, 2] rfl ?_
    exact abX11_ofAct_47 l G d hG hd _ _ _ _ _ hw
set_option maxRecDepth 100000 in
theorem acX11_ofAct (l : Launch) (G : aG) (d : Nat) (hG : a_GT G) (hd : 8 ≤ d) {Q : Int32 → aH → Prop} {h : aH} {v0 : Nat} {v1 : Int32} (hw : wX11_ofAct h v0 v1 Q) : AC l G d 0 0 mX11_ofAct [.ref v0, .int v1] h (qI Q) := by
  refine ac_of iX11_ofAct (Nat.le_of_ble_eq_true rfl) ?_
  show AW l G d 0 0 mX11_ofAct (qI Q) 0 [(0, .ref v0), (1, .int v1)] [] h
  unfold wX11_ofAct at hw
  refine aw_aload_n 0 dX11_ofAct_0 rfl rfl ?_
  refine aw_dup dX11_ofAct_1 rfl ?_
  obtain ⟨fs12, r11, h1, h2, hw⟩ := hw
  refine aw_getf (k := 17) dX11_ofAct_2 clX11 (by decide) k_965 (Or.inl rfl) h1 h2 ?_
  refine aw_iconst (v := 1) dX11_ofAct_5 (by decide) ?_
  refine aw_iadd dX11_ofAct_6 ?_
  obtain ⟨fs14, h1, h2, hw⟩ := hw
  refine aw_putf (k := 17) dX11_ofAct_7 clX11 (by decide) k_965 (Or.inl rfl) rfl rfl rfl h1 h2 ?_
  generalize a_up _ _ _ = h13 at hw ⊢
  refine aw_aload_n 0 dX11_ofAct_10 rfl rfl ?_
  refine aw_iload_n 1 dX11_ofAct_11 rfl rfl ?_
  obtain ⟨_, h1, hw⟩ := hw
  refine aw_virtI (As := [.int v1]) (rest := []) dX11_ofAct_12 (acX11_done l G (d - 1) hG (by omega) hw) iX11_done rfl k_1126 k_1128 k_48 rfl h1 (by omega) (by decide) (by decide) rfl (Nat.le_of_ble_eq_true rfl) (fun r16 h15 hw => ?_)
  refine aw_istore_n (lv' := [(2, .int r16), (0, .ref v0), (1, .int v1)]) dX11_ofAct_15 rfl (by decide) rfl ?_
  refine aw_aload_n 1 dX11_ofAct_16 rfl rfl ?_
  refine aw_dup dX11_ofAct_17 rfl ?_
  obtain ⟨fs18, r17, h1, h2, hw⟩ := hw
  refine aw_getf (k := 18) dX11_ofAct_18 clX11 (by decide) k_966 (Or.inl rfl) h1 h2 ?_
  refine aw_iload_n 0 dX11_ofAct_21 rfl rfl ?_
  refine aw_if_ne (tgt := 29) dX11_ofAct_22 (by decide) (fun z => ?_) (fun z => ?_)
  · have hw := hw.1 z
    refine aw_iconst (v := 1) dX11_ofAct_29 (by decide) ?_
    refine aw_sub (lv' := [(0, .ref v0), (1, .int v1), (2, .int r16)]) [1, 2, 0] rfl ?_
    exact abX11_ofAct_30 l G d hG hd _ _ _ _ _ _ _ hw
  · have hw := hw.2 z
    refine aw_iconst (v := 0) dX11_ofAct_25 (by decide) ?_
    refine aw_goto (tgt := 30) dX11_ofAct_26 (by decide) ?_
    refine aw_sub (lv' := [(0, .ref v0), (1, .int v1), (2, .int r16)]) [1, 2, 0] rfl ?_
    exact abX11_ofAct_30 l G d hG hd _ _ _ _ _ _ _ hw
-- X11_ofGuard
def wbX11_ofGuard_157 (v0 : Nat) (v1 : Int32) (s0 : Int32) (h : aH) (Q : Int32 → aH → Prop) : Prop :=
  rR h v0 9 15 (fun r1 => aI h r1 v1 (fun r3 => (0 ≤ r3 → rI h v0 9 20 (fun r4 => wF h v0 9 20 (.int (r4 + 1)) (fun h6 => rR h6 v0 9 26 (fun r8 => rI h6 v0 9 27 (fun r10 => sI h6 r8 r10 s0 (fun h12 => rR h12 v0 9 15 (fun r13 => aI h12 r13 v1 (fun r15 => isO h12 v0 9 (wX11_step h12 v0 3 r15 (fun h16 => Q 0 h16)))))))))) ∧ (¬ 0 ≤ r3 → rI h v0 9 27 (fun r17 => wF h v0 9 27 (.int (r17 - 1)) (fun h19 => Q s0 h19)))))
def wbX11_ofGuard_147 (v0 : Nat) (v1 : Int32) (v2 : Int32) (v4 : Int32) (h : aH) (Q : Int32 → aH → Prop) : Prop :=
  (v4 = 0 → wbX11_ofGuard_157 v0 v1 v2 h Q) ∧ (¬ v4 = 0 → wbX11_ofGuard_157 v0 v1 0 h Q)
def wbX11_ofGuard_118 (v0 : Nat) (v1 : Int32) (v2 : Int32) (s0 : Int32) (h : aH) (Q : Int32 → aH → Prop) : Prop :=
  (s0 = 0 → wbX11_ofGuard_147 v0 v1 v2 s0 h Q) ∧ (¬ s0 = 0 → rR h v0 9 14 (fun r21 => aI h r21 v1 (fun r23 => (r23 < 0 → wbX11_ofGuard_147 v0 v1 v2 s0 h Q) ∧ (¬ r23 < 0 → rR h v0 9 14 (fun r24 => aI h r24 v1 (fun r26 => isO h v0 9 (wX11_step h v0 2 r26 (fun h27 => Q 0 h27))))))))
def wbX11_ofGuard_117 (v0 : Nat) (v1 : Int32) (v2 : Int32) (h : aH) (Q : Int32 → aH → Prop) : Prop :=
  wbX11_ofGuard_118 v0 v1 v2 0 h Q
def wbX11_ofGuard_79 (v0 : Nat) (s0 : Int32) (h : aH) (Q : Int32 → aH → Prop) : Prop :=
  rI h v0 9 27 (fun r28 => wF h v0 9 27 (.int (r28 - 1)) (fun h30 => Q s0 h30))
def wbX11_ofGuard_58 (v0 : Nat) (v2 : Int32) (s0 : Int32) (s1 : Int32) (s2 : Nat) (h : aH) (Q : Int32 → aH → Prop) : Prop :=
  wF h s2 9 21 (.int (s1 + s0)) (fun h32 => (v2 = 0 → rR h32 v0 9 26 (fun r34 => rI h32 v0 9 27 (fun r36 => aI h32 r34 r36 (fun r38 => wbX11_ofGuard_79 v0 r38 h32 Q)))) ∧ (¬ v2 = 0 → wbX11_ofGuard_79 v0 v2 h32 Q))
def wbX11_ofGuard_57 (v0 : Nat) (v2 : Int32) (s0 : Int32) (s1 : Nat) (h : aH) (Q : Int32 → aH → Prop) : Prop :=
  wbX11_ofGuard_58 v0 v2 0 s0 s1 h Q
def wX11_ofGuard (h : aH) (v0 : Nat) (v1 : Int32) (v2 : Int32) (Q : Int32 → aH → Prop) : Prop :=
  rR h v0 9 25 (fun r39 => rI h v0 9 27 (fun r41 => aI h r39 r41 (fun r43 => (¬ r43 = 0 → (¬ r43 = 3 → (¬ r43 = 1 → wbX11_ofGuard_117 v0 v1 v2 h Q) ∧ (r43 = 1 → rR h v0 9 13 (fun r44 => aI h r44 v1 (fun r46 => (¬ ((r46 >>> (v2 &&& 31)) &&& 1) = 1 → wbX11_ofGuard_117 v0 v1 v2 h Q) ∧ (((r46 >>> (v2 &&& 31)) &&& 1) = 1 → wbX11_ofGuard_118 v0 v1 v2 1 h Q))))) ∧ (r43 = 3 → rI h v0 9 21 (fun r47 => (v2 = 0 → wbX11_ofGuard_57 v0 v2 r47 v0 h Q) ∧ (¬ v2 = 0 → rR h v0 9 26 (fun r49 => rI h v0 9 27 (fun r51 => aI h r49 r51 (fun r53 => (r53 = 0 → wbX11_ofGuard_57 v0 v2 r47 v0 h Q) ∧ (¬ r53 = 0 → wbX11_ofGuard_58 v0 v2 1 r47 v0 h Q)))))))) ∧ (r43 = 0 → rR h v0 9 12 (fun r54 => aI h r54 v1 (fun r56 => isO h v0 9 (wX11_step h v0 1 r56 (fun h57 => Q 0 h57))))))))
set_option maxRecDepth 100000 in
theorem abX11_ofGuard_157 (l : Launch) (G : aG) (d : Nat) (hG : a_GT G) (hd : 3 ≤ d) {Q : Int32 → aH → Prop} (v0 : Nat) (v1 : Int32) (s0 : Int32) (h : aH) (hw : wbX11_ofGuard_157 v0 v1 s0 h Q) : AW l G d 0 0 mX11_ofGuard (qI Q) 157 [(0, .ref v0), (1, .int v1)] [.int s0] h := by
  unfold wbX11_ofGuard_157 at hw
  refine aw_istore (lv' := [(5, .int s0), (0, .ref v0), (1, .int v1)]) dX11_ofGuard_157 (by decide) rfl ?_
  refine aw_aload_n 1 dX11_ofGuard_159 rfl rfl ?_
  obtain ⟨fs2, r1, h1, h2, hw⟩ := hw
  refine aw_getf (k := 15) dX11_ofGuard_160 clX11 (by decide) k_963 (Or.inl rfl) h1 h2 ?_
  refine aw_iload_n 2 dX11_ofGuard_163 rfl rfl ?_
  obtain ⟨_, _, r3, h1, h2, h3, hw⟩ := hw
  refine aw_aI dX11_ofGuard_164 h1 h2 h3 ?_
  refine aw_if_ge (tgt := 181) dX11_ofGuard_165 (by decide) (fun z => ?_) (fun z => ?_)
  · have hw := hw.1 z
    refine aw_aload_n 1 dX11_ofGuard_181 rfl rfl ?_
    refine aw_dup dX11_ofGuard_182 rfl ?_
    obtain ⟨fs5, r4, h1, h2, hw⟩ := hw
    refine aw_getf (k := 20) dX11_ofGuard_183 clX11 (by decide) k_968 (Or.inl rfl) h1 h2 ?_
    refine aw_iconst (v := 1) dX11_ofGuard_186 (by decide) ?_
    refine aw_iadd dX11_ofGuard_187 ?_
    obtain ⟨fs7, h1, h2, hw⟩ := hw
    refine aw_putf (k := 20) dX11_ofGuard_188 clX11 (by decide) k_968 (Or.inl rfl) rfl rfl rfl h1 h2 ?_
    generalize a_up _ _ _ = h6 at hw ⊢
    refine aw_aload_n 1 dX11_ofGuard_191 rfl rfl ?_
    obtain ⟨fs9, r8, h1, h2, hw⟩ := hw
    refine aw_getf (k := 26) dX11_ofGuard_192 clX11 (by decide) k_974 (Or.inl rfl) h1 h2 ?_
    refine aw_aload_n 1 dX11_ofGuard_195 rfl rfl ?_
    obtain ⟨fs11, r10, h1, h2, hw⟩ := hw
    refine aw_getf (k := 27) dX11_ofGuard_196 clX11 (by decide) k_975 (Or.inl rfl) h1 h2 ?_
    refine aw_iload 0 dX11_ofGuard_199 rfl ?_
    obtain ⟨_, _, h1, h2, hw⟩ := hw
    refine aw_iast dX11_ofGuard_201 h1 h2 ?_
    generalize a_up _ _ _ = h12 at hw ⊢
    refine aw_aload_n 1 dX11_ofGuard_202 rfl rfl ?_
    refine aw_iconst (v := 3) dX11_ofGuard_203 (by decide) ?_
    refine aw_aload_n 1 dX11_ofGuard_204 rfl rfl ?_
    obtain ⟨fs14, r13, h1, h2, hw⟩ := hw
    refine aw_getf (k := 15) dX11_ofGuard_205 clX11 (by decide) k_963 (Or.inl rfl) h1 h2 ?_
    refine aw_iload_n 2 dX11_ofGuard_208 rfl rfl ?_
    obtain ⟨_, _, r15, h1, h2, h3, hw⟩ := hw
    refine aw_aI dX11_ofGuard_209 h1 h2 h3 ?_
    obtain ⟨_, h1, hw⟩ := hw
    refine aw_virtV (As := [.int 3, .int r15]) (rest := []) dX11_ofGuard_210 (acX11_step l G (d - 1) hG (by omega) hw) iX11_step rfl k_1225 k_1227 k_69 rfl h1 (by omega) (by decide) (by decide) rfl (Nat.le_of_ble_eq_true rfl) (fun h16 hw => ?_)
    refine aw_iconst (v := 0) dX11_ofGuard_213 (by decide) ?_
    exact aw_iret dX11_ofGuard_214 rfl rfl ⟨_, rfl, hw⟩
  · have hw := hw.2 z
    refine aw_aload_n 1 dX11_ofGuard_168 rfl rfl ?_
    refine aw_dup dX11_ofGuard_169 rfl ?_
    obtain ⟨fs18, r17, h1, h2, hw⟩ := hw
    refine aw_getf (k := 27) dX11_ofGuard_170 clX11 (by decide) k_975 (Or.inl rfl) h1 h2 ?_
    refine aw_iconst (v := 1) dX11_ofGuard_173 (by decide) ?_
    refine aw_isub dX11_ofGuard_174 ?_
    obtain ⟨fs20, h1, h2, hw⟩ := hw
    refine aw_putf (k := 27) dX11_ofGuard_175 clX11 (by decide) k_975 (Or.inl rfl) rfl rfl rfl h1 h2 ?_
    generalize a_up _ _ _ = h19 at hw ⊢
    refine aw_iload 0 dX11_ofGuard_178 rfl ?_
    exact aw_iret dX11_ofGuard_180 rfl rfl ⟨_, rfl, hw⟩
set_option maxRecDepth 100000 in
theorem abX11_ofGuard_147 (l : Launch) (G : aG) (d : Nat) (hG : a_GT G) (hd : 3 ≤ d) {Q : Int32 → aH → Prop} (v0 : Nat) (v1 : Int32) (v2 : Int32) (v4 : Int32) (h : aH) (hw : wbX11_ofGuard_147 v0 v1 v2 v4 h Q) : AW l G d 0 0 mX11_ofGuard (qI Q) 147 [(0, .ref v0), (1, .int v1), (2, .int v2), (4, .int v4)] [] h := by
  unfold wbX11_ofGuard_147 at hw
  refine aw_iload 3 dX11_ofGuard_147 rfl ?_
  refine aw_if_eq (tgt := 156) dX11_ofGuard_149 (by decide) (fun z => ?_) (fun z => ?_)
  · have hw := hw.1 z
    refine aw_iload_n 2 dX11_ofGuard_156 rfl rfl ?_
    refine aw_sub (lv' := [(0, .ref v0), (1, .int v1)]) [0, 1] rfl ?_
    exact abX11_ofGuard_157 l G d hG hd _ _ _ _ hw
  · have hw := hw.2 z
    refine aw_iconst (v := 0) dX11_ofGuard_152 (by decide) ?_
    refine aw_goto (tgt := 157) dX11_ofGuard_153 (by decide) ?_
    refine aw_sub (lv' := [(0, .ref v0), (1, .int v1)]) [0, 1] rfl ?_
    exact abX11_ofGuard_157 l G d hG hd _ _ _ _ hw
set_option maxRecDepth 100000 in
theorem abX11_ofGuard_118 (l : Launch) (G : aG) (d : Nat) (hG : a_GT G) (hd : 3 ≤ d) {Q : Int32 → aH → Prop} (v0 : Nat) (v1 : Int32) (v2 : Int32) (s0 : Int32) (h : aH) (hw : wbX11_ofGuard_118 v0 v1 v2 s0 h Q) : AW l G d 0 0 mX11_ofGuard (qI Q) 118 [(0, .ref v0), (1, .int v1), (2, .int v2)] [.int s0] h := by
  unfold wbX11_ofGuard_118 at hw
  refine aw_istore (lv' := [(4, .int s0), (0, .ref v0), (1, .int v1), (2, .int v2)]) dX11_ofGuard_118 (by decide) rfl ?_
  refine aw_iload 0 dX11_ofGuard_120 rfl ?_
  refine aw_if_eq (tgt := 147) dX11_ofGuard_122 (by decide) (fun z => ?_) (fun z => ?_)
  · have hw := hw.1 z
    refine aw_sub (lv' := [(0, .ref v0), (1, .int v1), (2, .int v2), (4, .int s0)]) [1, 2, 3, 0] rfl ?_
    exact abX11_ofGuard_147 l G d hG hd _ _ _ _ _ hw
  · have hw := hw.2 z
    refine aw_aload_n 1 dX11_ofGuard_125 rfl rfl ?_
    obtain ⟨fs22, r21, h1, h2, hw⟩ := hw
    refine aw_getf (k := 14) dX11_ofGuard_126 clX11 (by decide) k_962 (Or.inl rfl) h1 h2 ?_
    refine aw_iload_n 2 dX11_ofGuard_129 rfl rfl ?_
    obtain ⟨_, _, r23, h1, h2, h3, hw⟩ := hw
    refine aw_aI dX11_ofGuard_130 h1 h2 h3 ?_
    refine aw_if_lt (tgt := 147) dX11_ofGuard_131 (by decide) (fun z => ?_) (fun z => ?_)
    · have hw := hw.1 z
      refine aw_sub (lv' := [(0, .ref v0), (1, .int v1), (2, .int v2), (4, .int s0)]) [1, 2, 3, 0] rfl ?_
      exact abX11_ofGuard_147 l G d hG hd _ _ _ _ _ hw
    · have hw := hw.2 z
      refine aw_aload_n 1 dX11_ofGuard_134 rfl rfl ?_
      refine aw_iconst (v := 2) dX11_ofGuard_135 (by decide) ?_
      refine aw_aload_n 1 dX11_ofGuard_136 rfl rfl ?_
      obtain ⟨fs25, r24, h1, h2, hw⟩ := hw
      refine aw_getf (k := 14) dX11_ofGuard_137 clX11 (by decide) k_962 (Or.inl rfl) h1 h2 ?_
      refine aw_iload_n 2 dX11_ofGuard_140 rfl rfl ?_
      obtain ⟨_, _, r26, h1, h2, h3, hw⟩ := hw
      refine aw_aI dX11_ofGuard_141 h1 h2 h3 ?_
      obtain ⟨_, h1, hw⟩ := hw
      refine aw_virtV (As := [.int 2, .int r26]) (rest := []) dX11_ofGuard_142 (acX11_step l G (d - 1) hG (by omega) hw) iX11_step rfl k_1225 k_1227 k_69 rfl h1 (by omega) (by decide) (by decide) rfl (Nat.le_of_ble_eq_true rfl) (fun h27 hw => ?_)
      refine aw_iconst (v := 0) dX11_ofGuard_145 (by decide) ?_
      exact aw_iret dX11_ofGuard_146 rfl rfl ⟨_, rfl, hw⟩
set_option maxRecDepth 100000 in
theorem abX11_ofGuard_117 (l : Launch) (G : aG) (d : Nat) (hG : a_GT G) (hd : 3 ≤ d) {Q : Int32 → aH → Prop} (v0 : Nat) (v1 : Int32) (v2 : Int32) (h : aH) (hw : wbX11_ofGuard_117 v0 v1 v2 h Q) : AW l G d 0 0 mX11_ofGuard (qI Q) 117 [(0, .ref v0), (1, .int v1), (2, .int v2)] [] h := by
  unfold wbX11_ofGuard_117 at hw
  refine aw_iconst (v := 0) dX11_ofGuard_117 (by decide) ?_
  exact abX11_ofGuard_118 l G d hG hd _ _ _ _ _ hw
set_option maxRecDepth 100000 in
theorem abX11_ofGuard_79 (l : Launch) (G : aG) (d : Nat) (hG : a_GT G) (hd : 3 ≤ d) {Q : Int32 → aH → Prop} (v0 : Nat) (s0 : Int32) (h : aH) (hw : wbX11_ofGuard_79 v0 s0 h Q) : AW l G d 0 0 mX11_ofGuard (qI Q) 79 [(0, .ref v0)] [.int s0] h := by
  unfold wbX11_ofGuard_79 at hw
  refine aw_istore (lv' := [(4, .int s0), (0, .ref v0)]) dX11_ofGuard_79 (by decide) rfl ?_
  refine aw_aload_n 1 dX11_ofGuard_81 rfl rfl ?_
  refine aw_dup dX11_ofGuard_82 rfl ?_
  obtain ⟨fs29, r28, h1, h2, hw⟩ := hw
  refine aw_getf (k := 27) dX11_ofGuard_83 clX11 (by decide) k_975 (Or.inl rfl) h1 h2 ?_
  refine aw_iconst (v := 1) dX11_ofGuard_86 (by decide) ?_
  refine aw_isub dX11_ofGuard_87 ?_
  obtain ⟨fs31, h1, h2, hw⟩ := hw
  refine aw_putf (k := 27) dX11_ofGuard_88 clX11 (by decide) k_975 (Or.inl rfl) rfl rfl rfl h1 h2 ?_
  generalize a_up _ _ _ = h30 at hw ⊢
  refine aw_iload 0 dX11_ofGuard_91 rfl ?_
  exact aw_iret dX11_ofGuard_93 rfl rfl ⟨_, rfl, hw⟩
set_option maxRecDepth 100000 in
theorem abX11_ofGuard_58 (l : Launch) (G : aG) (d : Nat) (hG : a_GT G) (hd : 3 ≤ d) {Q : Int32 → aH → Prop} (v0 : Nat) (v2 : Int32) (s0 : Int32) (s1 : Int32) (s2 : Nat) (h : aH) (hw : wbX11_ofGuard_58 v0 v2 s0 s1 s2 h Q) : AW l G d 0 0 mX11_ofGuard (qI Q) 58 [(0, .ref v0), (2, .int v2)] [.int s0, .int s1, .ref s2] h := by
  unfold wbX11_ofGuard_58 at hw
  refine aw_iadd dX11_ofGuard_58 ?_
  obtain ⟨fs33, h1, h2, hw⟩ := hw
  refine aw_putf (k := 21) dX11_ofGuard_59 clX11 (by decide) k_969 (Or.inl rfl) rfl rfl rfl h1 h2 ?_
  generalize a_up _ _ _ = h32 at hw ⊢
  refine aw_iload_n 1 dX11_ofGuard_62 rfl rfl ?_
  refine aw_if_eq (tgt := 70) dX11_ofGuard_63 (by decide) (fun z => ?_) (fun z => ?_)
  · have hw := hw.1 z
    refine aw_aload_n 0 dX11_ofGuard_70 rfl rfl ?_
    obtain ⟨fs35, r34, h1, h2, hw⟩ := hw
    refine aw_getf (k := 26) dX11_ofGuard_71 clX11 (by decide) k_974 (Or.inl rfl) h1 h2 ?_
    refine aw_aload_n 0 dX11_ofGuard_74 rfl rfl ?_
    obtain ⟨fs37, r36, h1, h2, hw⟩ := hw
    refine aw_getf (k := 27) dX11_ofGuard_75 clX11 (by decide) k_975 (Or.inl rfl) h1 h2 ?_
    obtain ⟨_, _, r38, h1, h2, h3, hw⟩ := hw
    refine aw_aI dX11_ofGuard_78 h1 h2 h3 ?_
    refine aw_sub (lv' := [(0, .ref v0)]) [0] rfl ?_
    exact abX11_ofGuard_79 l G d hG hd _ _ _ hw
  · have hw := hw.2 z
    refine aw_iload_n 1 dX11_ofGuard_66 rfl rfl ?_
    refine aw_goto (tgt := 79) dX11_ofGuard_67 (by decide) ?_
    refine aw_sub (lv' := [(0, .ref v0)]) [0] rfl ?_
    exact abX11_ofGuard_79 l G d hG hd _ _ _ hw
set_option maxRecDepth 100000 in
theorem abX11_ofGuard_57 (l : Launch) (G : aG) (d : Nat) (hG : a_GT G) (hd : 3 ≤ d) {Q : Int32 → aH → Prop} (v0 : Nat) (v2 : Int32) (s0 : Int32) (s1 : Nat) (h : aH) (hw : wbX11_ofGuard_57 v0 v2 s0 s1 h Q) : AW l G d 0 0 mX11_ofGuard (qI Q) 57 [(0, .ref v0), (2, .int v2)] [.int s0, .ref s1] h := by
  unfold wbX11_ofGuard_57 at hw
  refine aw_iconst (v := 0) dX11_ofGuard_57 (by decide) ?_
  exact abX11_ofGuard_58 l G d hG hd _ _ _ _ _ _ hw
set_option maxRecDepth 100000 in
theorem acX11_ofGuard (l : Launch) (G : aG) (d : Nat) (hG : a_GT G) (hd : 3 ≤ d) {Q : Int32 → aH → Prop} {h : aH} {v0 : Nat} {v1 : Int32} {v2 : Int32} (hw : wX11_ofGuard h v0 v1 v2 Q) : AC l G d 0 0 mX11_ofGuard [.ref v0, .int v1, .int v2] h (qI Q) := by
  refine ac_of iX11_ofGuard (Nat.le_of_ble_eq_true rfl) ?_
  show AW l G d 0 0 mX11_ofGuard (qI Q) 0 [(0, .ref v0), (1, .int v1), (2, .int v2)] [] h
  unfold wX11_ofGuard at hw
  refine aw_aload_n 0 dX11_ofGuard_0 rfl rfl ?_
  obtain ⟨fs40, r39, h1, h2, hw⟩ := hw
  refine aw_getf (k := 25) dX11_ofGuard_1 clX11 (by decide) k_973 (Or.inl rfl) h1 h2 ?_
  refine aw_aload_n 0 dX11_ofGuard_4 rfl rfl ?_
  obtain ⟨fs42, r41, h1, h2, hw⟩ := hw
  refine aw_getf (k := 27) dX11_ofGuard_5 clX11 (by decide) k_975 (Or.inl rfl) h1 h2 ?_
  obtain ⟨_, _, r43, h1, h2, h3, hw⟩ := hw
  refine aw_aI dX11_ofGuard_8 h1 h2 h3 ?_
  refine aw_istore_n (lv' := [(3, .int r43), (0, .ref v0), (1, .int v1), (2, .int v2)]) dX11_ofGuard_9 rfl (by decide) rfl ?_
  refine aw_iload_n 0 dX11_ofGuard_10 rfl rfl ?_
  refine aw_if_ne (tgt := 27) dX11_ofGuard_11 (by decide) (fun z => ?_) (fun z => ?_)
  · have hw := hw.1 z
    refine aw_iload_n 0 dX11_ofGuard_27 rfl rfl ?_
    refine aw_iconst (v := 3) dX11_ofGuard_28 (by decide) ?_
    refine aw_icmp_ne (tgt := 94) dX11_ofGuard_29 (by decide) (fun z => ?_) (fun z => ?_)
    · have hw := hw.1 z
      refine aw_iload_n 0 dX11_ofGuard_94 rfl rfl ?_
      refine aw_iconst (v := 1) dX11_ofGuard_95 (by decide) ?_
      refine aw_icmp_ne (tgt := 117) dX11_ofGuard_96 (by decide) (fun z => ?_) (fun z => ?_)
      · have hw := hw.1 z
        refine aw_sub (lv' := [(0, .ref v0), (1, .int v1), (2, .int v2)]) [1, 2, 3] rfl ?_
        exact abX11_ofGuard_117 l G d hG hd _ _ _ _ hw
      · have hw := hw.2 z
        refine aw_aload_n 1 dX11_ofGuard_99 rfl rfl ?_
        obtain ⟨fs45, r44, h1, h2, hw⟩ := hw
        refine aw_getf (k := 13) dX11_ofGuard_100 clX11 (by decide) k_961 (Or.inl rfl) h1 h2 ?_
        refine aw_iload_n 2 dX11_ofGuard_103 rfl rfl ?_
        obtain ⟨_, _, r46, h1, h2, h3, hw⟩ := hw
        refine aw_aI dX11_ofGuard_104 h1 h2 h3 ?_
        refine aw_iload_n 3 dX11_ofGuard_105 rfl rfl ?_
        refine aw_ishr dX11_ofGuard_106 ?_
        refine aw_iconst (v := 1) dX11_ofGuard_107 (by decide) ?_
        refine aw_iand dX11_ofGuard_108 ?_
        refine aw_iconst (v := 1) dX11_ofGuard_109 (by decide) ?_
        refine aw_icmp_ne (tgt := 117) dX11_ofGuard_110 (by decide) (fun z => ?_) (fun z => ?_)
        · have hw := hw.1 z
          refine aw_sub (lv' := [(0, .ref v0), (1, .int v1), (2, .int v2)]) [1, 2, 3] rfl ?_
          exact abX11_ofGuard_117 l G d hG hd _ _ _ _ hw
        · have hw := hw.2 z
          refine aw_iconst (v := 1) dX11_ofGuard_113 (by decide) ?_
          refine aw_goto (tgt := 118) dX11_ofGuard_114 (by decide) ?_
          refine aw_sub (lv' := [(0, .ref v0), (1, .int v1), (2, .int v2)]) [1, 2, 3] rfl ?_
          exact abX11_ofGuard_118 l G d hG hd _ _ _ _ _ hw
    · have hw := hw.2 z
      refine aw_aload_n 1 dX11_ofGuard_32 rfl rfl ?_
      refine aw_dup dX11_ofGuard_33 rfl ?_
      obtain ⟨fs48, r47, h1, h2, hw⟩ := hw
      refine aw_getf (k := 21) dX11_ofGuard_34 clX11 (by decide) k_969 (Or.inl rfl) h1 h2 ?_
      refine aw_iload_n 3 dX11_ofGuard_37 rfl rfl ?_
      refine aw_if_eq (tgt := 57) dX11_ofGuard_38 (by decide) (fun z => ?_) (fun z => ?_)
      · have hw := hw.1 z
        refine aw_sub (lv' := [(0, .ref v0), (2, .int v2)]) [1, 3] rfl ?_
        exact abX11_ofGuard_57 l G d hG hd _ _ _ _ _ hw
      · have hw := hw.2 z
        refine aw_aload_n 1 dX11_ofGuard_41 rfl rfl ?_
        obtain ⟨fs50, r49, h1, h2, hw⟩ := hw
        refine aw_getf (k := 26) dX11_ofGuard_42 clX11 (by decide) k_974 (Or.inl rfl) h1 h2 ?_
        refine aw_aload_n 1 dX11_ofGuard_45 rfl rfl ?_
        obtain ⟨fs52, r51, h1, h2, hw⟩ := hw
        refine aw_getf (k := 27) dX11_ofGuard_46 clX11 (by decide) k_975 (Or.inl rfl) h1 h2 ?_
        obtain ⟨_, _, r53, h1, h2, h3, hw⟩ := hw
        refine aw_aI dX11_ofGuard_49 h1 h2 h3 ?_
        refine aw_if_eq (tgt := 57) dX11_ofGuard_50 (by decide) (fun z => ?_) (fun z => ?_)
        · have hw := hw.1 z
          refine aw_sub (lv' := [(0, .ref v0), (2, .int v2)]) [1, 3] rfl ?_
          exact abX11_ofGuard_57 l G d hG hd _ _ _ _ _ hw
        · have hw := hw.2 z
          refine aw_iconst (v := 1) dX11_ofGuard_53 (by decide) ?_
          refine aw_goto (tgt := 58) dX11_ofGuard_54 (by decide) ?_
          refine aw_sub (lv' := [(0, .ref v0), (2, .int v2)]) [1, 3] rfl ?_
          exact abX11_ofGuard_58 l G d hG hd _ _ _ _ _ _ hw
  · have hw := hw.2 z
    refine aw_aload_n 1 dX11_ofGuard_14 rfl rfl ?_
    refine aw_iconst (v := 1) dX11_ofGuard_15 (by decide) ?_
    refine aw_aload_n 1 dX11_ofGuard_16 rfl rfl ?_
    obtain ⟨fs55, r54, h1, h2, hw⟩ := hw
    refine aw_getf (k := 12) dX11_ofGuard_17 clX11 (by decide) k_960 (Or.inl rfl) h1 h2 ?_
    refine aw_iload_n 2 dX11_ofGuard_20 rfl rfl ?_
    obtain ⟨_, _, r56, h1, h2, h3, hw⟩ := hw
    refine aw_aI dX11_ofGuard_21 h1 h2 h3 ?_
    obtain ⟨_, h1, hw⟩ := hw
    refine aw_virtV (As := [.int 1, .int r56]) (rest := []) dX11_ofGuard_22 (acX11_step l G (d - 1) hG (by omega) hw) iX11_step rfl k_1225 k_1227 k_69 rfl h1 (by omega) (by decide) (by decide) rfl (Nat.le_of_ble_eq_true rfl) (fun h57 hw => ?_)
    refine aw_iconst (v := 0) dX11_ofGuard_25 (by decide) ?_
    exact aw_iret dX11_ofGuard_26 rfl rfl ⟨_, rfl, hw⟩
-- X11_ofOther
def wbX11_ofOther_164 (v0 : Nat) (v2 : Int32) (h : aH) (Q : Int32 → aH → Prop) : Prop :=
  rI h v0 9 27 (fun r1 => wF h v0 9 27 (.int (r1 - 1)) (fun h3 => Q v2 h3))
def wbX11_ofOther_159 (s0 : Int32) (s1 : Int32) (s2 : Nat) (h : aH) (Q : Int32 → aH → Prop) : Prop :=
  isO h s2 9 (wX11_step h s2 s1 s0 (fun h5 => Q 0 h5))
def wbX11_ofOther_135 (v0 : Nat) (v1 : Int32) (s0 : Int32) (h : aH) (Q : Int32 → aH → Prop) : Prop :=
  (s0 = 0 → rR h v0 9 15 (fun r6 => aI h r6 v1 (fun r8 => wbX11_ofOther_159 r8 1 v0 h Q))) ∧ (¬ s0 = 0 → rR h v0 9 14 (fun r9 => aI h r9 v1 (fun r11 => wbX11_ofOther_159 r11 1 v0 h Q)))
def wbX11_ofOther_134 (v0 : Nat) (v1 : Int32) (h : aH) (Q : Int32 → aH → Prop) : Prop :=
  wbX11_ofOther_135 v0 v1 0 h Q
def wbX11_ofOther_61 (v0 : Nat) (v1 : Int32) (v2 : Int32) (v3 : Int32) (h : aH) (Q : Int32 → aH → Prop) : Prop :=
  rR h v0 9 10 (fun r12 => aI h r12 v1 (fun r14 => (¬ r14 = 2 → wbX11_ofOther_164 v0 v2 h Q) ∧ (r14 = 2 → (¬ v3 = 0 → wbX11_ofOther_164 v0 v2 h Q) ∧ (v3 = 0 → rR h v0 9 7 (fun r15 => rR h v0 9 12 (fun r17 => aI h r17 v1 (fun r19 => aI h r15 r19 (fun r20 => rR h v0 9 13 (fun r21 => aI h r21 v1 (fun r23 => (¬ r23 = 0 → (r20 = 0 → wbX11_ofOther_134 v0 v1 h Q) ∧ (¬ r20 = 0 → rR h v0 9 13 (fun r24 => aI h r24 v1 (fun r26 => isO h v0 9 (wX11_is h v0 r20 r26 (fun r28 h27 => (r28 = 0 → wbX11_ofOther_134 v0 v1 h27 Q) ∧ (¬ r28 = 0 → wbX11_ofOther_135 v0 v1 1 h27 Q))))))) ∧ (r23 = 0 → (¬ r20 = 0 → wbX11_ofOther_135 v0 v1 0 h Q) ∧ (r20 = 0 → wbX11_ofOther_135 v0 v1 1 h Q))))))))))))
def wbX11_ofOther_56 (s0 : Int32) (s1 : Int32) (s2 : Nat) (h : aH) (Q : Int32 → aH → Prop) : Prop :=
  isO h s2 9 (wX11_step h s2 s1 s0 (fun h29 => Q 0 h29))
def wbX11_ofOther_33 (v0 : Nat) (v1 : Int32) (v3 : Int32) (h : aH) (Q : Int32 → aH → Prop) : Prop :=
  (¬ v3 = 0 → rR h v0 9 13 (fun r30 => aI h r30 v1 (fun r32 => wbX11_ofOther_56 r32 ((v3 + 1)) v0 h Q))) ∧ (v3 = 0 → rR h v0 9 12 (fun r33 => aI h r33 v1 (fun r35 => wbX11_ofOther_56 r35 ((v3 + 1)) v0 h Q)))
def wX11_ofOther (h : aH) (v0 : Nat) (v1 : Int32) (v2 : Int32) (Q : Int32 → aH → Prop) : Prop :=
  rR h v0 9 25 (fun r36 => rI h v0 9 27 (fun r38 => aI h r36 r38 (fun r40 => rR h v0 9 10 (fun r41 => aI h r41 v1 (fun r43 => (¬ r43 = 1 → wbX11_ofOther_61 v0 v1 v2 r40 h Q) ∧ (r43 = 1 → (r40 = 0 → wbX11_ofOther_33 v0 v1 r40 h Q) ∧ (¬ r40 = 0 → (¬ r40 = 1 → wbX11_ofOther_61 v0 v1 v2 r40 h Q) ∧ (r40 = 1 → (¬ v2 = 0 → wbX11_ofOther_61 v0 v1 v2 r40 h Q) ∧ (v2 = 0 → wbX11_ofOther_33 v0 v1 r40 h Q)))))))))
set_option maxRecDepth 100000 in
theorem abX11_ofOther_164 (l : Launch) (G : aG) (d : Nat) (hG : a_GT G) (hd : 3 ≤ d) {Q : Int32 → aH → Prop} (v0 : Nat) (v2 : Int32) (h : aH) (hw : wbX11_ofOther_164 v0 v2 h Q) : AW l G d 0 0 mX11_ofOther (qI Q) 164 [(0, .ref v0), (2, .int v2)] [] h := by
  unfold wbX11_ofOther_164 at hw
  refine aw_aload_n 0 dX11_ofOther_164 rfl rfl ?_
  refine aw_dup dX11_ofOther_165 rfl ?_
  obtain ⟨fs2, r1, h1, h2, hw⟩ := hw
  refine aw_getf (k := 27) dX11_ofOther_166 clX11 (by decide) k_975 (Or.inl rfl) h1 h2 ?_
  refine aw_iconst (v := 1) dX11_ofOther_169 (by decide) ?_
  refine aw_isub dX11_ofOther_170 ?_
  obtain ⟨fs4, h1, h2, hw⟩ := hw
  refine aw_putf (k := 27) dX11_ofOther_171 clX11 (by decide) k_975 (Or.inl rfl) rfl rfl rfl h1 h2 ?_
  generalize a_up _ _ _ = h3 at hw ⊢
  refine aw_iload_n 1 dX11_ofOther_174 rfl rfl ?_
  exact aw_iret dX11_ofOther_175 rfl rfl ⟨_, rfl, hw⟩
set_option maxRecDepth 100000 in
theorem abX11_ofOther_159 (l : Launch) (G : aG) (d : Nat) (hG : a_GT G) (hd : 3 ≤ d) {Q : Int32 → aH → Prop} (s0 : Int32) (s1 : Int32) (s2 : Nat) (h : aH) (hw : wbX11_ofOther_159 s0 s1 s2 h Q) : AW l G d 0 0 mX11_ofOther (qI Q) 159 [] [.int s0, .int s1, .ref s2] h := by
  unfold wbX11_ofOther_159 at hw
  obtain ⟨_, h1, hw⟩ := hw
  refine aw_virtV (As := [.int s1, .int s0]) (rest := []) dX11_ofOther_159 (acX11_step l G (d - 1) hG (by omega) hw) iX11_step rfl k_1225 k_1227 k_69 rfl h1 (by omega) (by decide) (by decide) rfl (Nat.le_of_ble_eq_true rfl) (fun h5 hw => ?_)
  refine aw_iconst (v := 0) dX11_ofOther_162 (by decide) ?_
  exact aw_iret dX11_ofOther_163 rfl rfl ⟨_, rfl, hw⟩
set_option maxRecDepth 100000 in
theorem abX11_ofOther_135 (l : Launch) (G : aG) (d : Nat) (hG : a_GT G) (hd : 3 ≤ d) {Q : Int32 → aH → Prop} (v0 : Nat) (v1 : Int32) (s0 : Int32) (h : aH) (hw : wbX11_ofOther_135 v0 v1 s0 h Q) : AW l G d 0 0 mX11_ofOther (qI Q) 135 [(0, .ref v0), (1, .int v1)] [.int s0] h := by
  unfold wbX11_ofOther_135 at hw
  refine aw_istore (lv' := [(5, .int s0), (0, .ref v0), (1, .int v1)]) dX11_ofOther_135 (by decide) rfl ?_
  refine aw_aload_n 1 dX11_ofOther_137 rfl rfl ?_
  refine aw_iconst (v := 1) dX11_ofOther_138 (by decide) ?_
  refine aw_iload 0 dX11_ofOther_139 rfl ?_
  refine aw_if_eq (tgt := 153) dX11_ofOther_141 (by decide) (fun z => ?_) (fun z => ?_)
  · have hw := hw.1 z
    refine aw_aload_n 1 dX11_ofOther_153 rfl rfl ?_
    obtain ⟨fs7, r6, h1, h2, hw⟩ := hw
    refine aw_getf (k := 15) dX11_ofOther_154 clX11 (by decide) k_963 (Or.inl rfl) h1 h2 ?_
    refine aw_iload_n 2 dX11_ofOther_157 rfl rfl ?_
    obtain ⟨_, _, r8, h1, h2, h3, hw⟩ := hw
    refine aw_aI dX11_ofOther_158 h1 h2 h3 ?_
    refine aw_sub (lv' := []) [] rfl ?_
    exact abX11_ofOther_159 l G d hG hd _ _ _ _ hw
  · have hw := hw.2 z
    refine aw_aload_n 1 dX11_ofOther_144 rfl rfl ?_
    obtain ⟨fs10, r9, h1, h2, hw⟩ := hw
    refine aw_getf (k := 14) dX11_ofOther_145 clX11 (by decide) k_962 (Or.inl rfl) h1 h2 ?_
    refine aw_iload_n 2 dX11_ofOther_148 rfl rfl ?_
    obtain ⟨_, _, r11, h1, h2, h3, hw⟩ := hw
    refine aw_aI dX11_ofOther_149 h1 h2 h3 ?_
    refine aw_goto (tgt := 159) dX11_ofOther_150 (by decide) ?_
    refine aw_sub (lv' := []) [] rfl ?_
    exact abX11_ofOther_159 l G d hG hd _ _ _ _ hw
set_option maxRecDepth 100000 in
theorem abX11_ofOther_134 (l : Launch) (G : aG) (d : Nat) (hG : a_GT G) (hd : 3 ≤ d) {Q : Int32 → aH → Prop} (v0 : Nat) (v1 : Int32) (h : aH) (hw : wbX11_ofOther_134 v0 v1 h Q) : AW l G d 0 0 mX11_ofOther (qI Q) 134 [(0, .ref v0), (1, .int v1)] [] h := by
  unfold wbX11_ofOther_134 at hw
  refine aw_iconst (v := 0) dX11_ofOther_134 (by decide) ?_
  exact abX11_ofOther_135 l G d hG hd _ _ _ _ hw
set_option maxRecDepth 100000 in
theorem abX11_ofOther_61 (l : Launch) (G : aG) (d : Nat) (hG : a_GT G) (hd : 3 ≤ d) {Q : Int32 → aH → Prop} (v0 : Nat) (v1 : Int32) (v2 : Int32) (v3 : Int32) (h : aH) (hw : wbX11_ofOther_61 v0 v1 v2 v3 h Q) : AW l G d 0 0 mX11_ofOther (qI Q) 61 [(0, .ref v0), (1, .int v1), (2, .int v2), (3, .int v3)] [] h := by
  unfold wbX11_ofOther_61 at hw
  refine aw_aload_n 0 dX11_ofOther_61 rfl rfl ?_
  obtain ⟨fs13, r12, h1, h2, hw⟩ := hw
  refine aw_getf (k := 10) dX11_ofOther_62 clX11 (by decide) k_958 (Or.inl rfl) h1 h2 ?_
  refine aw_iload_n 1 dX11_ofOther_65 rfl rfl ?_
  obtain ⟨_, _, r14, h1, h2, h3, hw⟩ := hw
  refine aw_aI dX11_ofOther_66 h1 h2 h3 ?_
  refine aw_iconst (v := 2) dX11_ofOther_67 (by decide) ?_
  refine aw_icmp_ne (tgt := 164) dX11_ofOther_68 (by decide) (fun z => ?_) (fun z => ?_)
  · have hw := hw.1 z
    refine aw_sub (lv' := [(0, .ref v0), (2, .int v2)]) [0, 2] rfl ?_
    exact abX11_ofOther_164 l G d hG hd _ _ _ hw
  · have hw := hw.2 z
    refine aw_iload_n 3 dX11_ofOther_71 rfl rfl ?_
    refine aw_if_ne (tgt := 164) dX11_ofOther_72 (by decide) (fun z => ?_) (fun z => ?_)
    · have hw := hw.1 z
      refine aw_sub (lv' := [(0, .ref v0), (2, .int v2)]) [0, 2] rfl ?_
      exact abX11_ofOther_164 l G d hG hd _ _ _ hw
    · have hw := hw.2 z
      refine aw_aload_n 0 dX11_ofOther_75 rfl rfl ?_
      obtain ⟨fs16, r15, h1, h2, hw⟩ := hw
      refine aw_getf (k := 7) dX11_ofOther_76 clX11 (by decide) k_955 (Or.inl rfl) h1 h2 ?_
      refine aw_aload_n 0 dX11_ofOther_79 rfl rfl ?_
      obtain ⟨fs18, r17, h1, h2, hw⟩ := hw
      refine aw_getf (k := 12) dX11_ofOther_80 clX11 (by decide) k_960 (Or.inl rfl) h1 h2 ?_
      refine aw_iload_n 1 dX11_ofOther_83 rfl rfl ?_
      obtain ⟨_, _, r19, h1, h2, h3, hw⟩ := hw
      refine aw_aI dX11_ofOther_84 h1 h2 h3 ?_
      obtain ⟨_, _, r20, h1, h2, h3, hw⟩ := hw
      refine aw_aI dX11_ofOther_85 h1 h2 h3 ?_
      refine aw_istore (lv' := [(4, .int r20), (0, .ref v0), (1, .int v1), (2, .int v2), (3, .int v3)]) dX11_ofOther_86 (by decide) rfl ?_
      refine aw_aload_n 1 dX11_ofOther_88 rfl rfl ?_
      obtain ⟨fs22, r21, h1, h2, hw⟩ := hw
      refine aw_getf (k := 13) dX11_ofOther_89 clX11 (by decide) k_961 (Or.inl rfl) h1 h2 ?_
      refine aw_iload_n 2 dX11_ofOther_92 rfl rfl ?_
      obtain ⟨_, _, r23, h1, h2, h3, hw⟩ := hw
      refine aw_aI dX11_ofOther_93 h1 h2 h3 ?_
      refine aw_if_ne (tgt := 110) dX11_ofOther_94 (by decide) (fun z => ?_) (fun z => ?_)
      · have hw := hw.1 z
        refine aw_iload 0 dX11_ofOther_110 rfl ?_
        refine aw_if_eq (tgt := 134) dX11_ofOther_112 (by decide) (fun z => ?_) (fun z => ?_)
        · have hw := hw.1 z
          refine aw_sub (lv' := [(0, .ref v0), (1, .int v1)]) [1, 2] rfl ?_
          exact abX11_ofOther_134 l G d hG hd _ _ _ hw
        · have hw := hw.2 z
          refine aw_aload_n 1 dX11_ofOther_115 rfl rfl ?_
          refine aw_iload 0 dX11_ofOther_116 rfl ?_
          refine aw_aload_n 1 dX11_ofOther_118 rfl rfl ?_
          obtain ⟨fs25, r24, h1, h2, hw⟩ := hw
          refine aw_getf (k := 13) dX11_ofOther_119 clX11 (by decide) k_961 (Or.inl rfl) h1 h2 ?_
          refine aw_iload_n 2 dX11_ofOther_122 rfl rfl ?_
          obtain ⟨_, _, r26, h1, h2, h3, hw⟩ := hw
          refine aw_aI dX11_ofOther_123 h1 h2 h3 ?_
          obtain ⟨_, h1, hw⟩ := hw
          refine aw_virtI (As := [.int r20, .int r26]) (rest := []) dX11_ofOther_124 (acX11_is l G (d - 1) hG (by omega) hw) iX11_is rfl k_1160 k_1162 k_56 rfl h1 (by omega) (by decide) (by decide) rfl (Nat.le_of_ble_eq_true rfl) (fun r28 h27 hw => ?_)
          refine aw_if_eq (tgt := 134) dX11_ofOther_127 (by decide) (fun z => ?_) (fun z => ?_)
          · have hw := hw.1 z
            refine aw_sub (lv' := [(0, .ref v0), (1, .int v1)]) [1, 2] rfl ?_
            exact abX11_ofOther_134 l G d hG hd _ _ _ hw
          · have hw := hw.2 z
            refine aw_iconst (v := 1) dX11_ofOther_130 (by decide) ?_
            refine aw_goto (tgt := 135) dX11_ofOther_131 (by decide) ?_
            refine aw_sub (lv' := [(0, .ref v0), (1, .int v1)]) [1, 2] rfl ?_
            exact abX11_ofOther_135 l G d hG hd _ _ _ _ hw
      · have hw := hw.2 z
        refine aw_iload 0 dX11_ofOther_97 rfl ?_
        refine aw_if_ne (tgt := 106) dX11_ofOther_99 (by decide) (fun z => ?_) (fun z => ?_)
        · have hw := hw.1 z
          refine aw_iconst (v := 0) dX11_ofOther_106 (by decide) ?_
          refine aw_goto (tgt := 135) dX11_ofOther_107 (by decide) ?_
          refine aw_sub (lv' := [(0, .ref v0), (1, .int v1)]) [1, 2] rfl ?_
          exact abX11_ofOther_135 l G d hG hd _ _ _ _ hw
        · have hw := hw.2 z
          refine aw_iconst (v := 1) dX11_ofOther_102 (by decide) ?_
          refine aw_goto (tgt := 135) dX11_ofOther_103 (by decide) ?_
          refine aw_sub (lv' := [(0, .ref v0), (1, .int v1)]) [1, 2] rfl ?_
          exact abX11_ofOther_135 l G d hG hd _ _ _ _ hw
set_option maxRecDepth 100000 in
theorem abX11_ofOther_56 (l : Launch) (G : aG) (d : Nat) (hG : a_GT G) (hd : 3 ≤ d) {Q : Int32 → aH → Prop} (s0 : Int32) (s1 : Int32) (s2 : Nat) (h : aH) (hw : wbX11_ofOther_56 s0 s1 s2 h Q) : AW l G d 0 0 mX11_ofOther (qI Q) 56 [] [.int s0, .int s1, .ref s2] h := by
  unfold wbX11_ofOther_56 at hw
  obtain ⟨_, h1, hw⟩ := hw
  refine aw_virtV (As := [.int s1, .int s0]) (rest := []) dX11_ofOther_56 (acX11_step l G (d - 1) hG (by omega) hw) iX11_step rfl k_1225 k_1227 k_69 rfl h1 (by omega) (by decide) (by decide) rfl (Nat.le_of_ble_eq_true rfl) (fun h29 hw => ?_)
  refine aw_iconst (v := 0) dX11_ofOther_59 (by decide) ?_
  exact aw_iret dX11_ofOther_60 rfl rfl ⟨_, rfl, hw⟩
set_option maxRecDepth 100000 in
theorem abX11_ofOther_33 (l : Launch) (G : aG) (d : Nat) (hG : a_GT G) (hd : 3 ≤ d) {Q : Int32 → aH → Prop} (v0 : Nat) (v1 : Int32) (v3 : Int32) (h : aH) (hw : wbX11_ofOther_33 v0 v1 v3 h Q) : AW l G d 0 0 mX11_ofOther (qI Q) 33 [(0, .ref v0), (1, .int v1), (3, .int v3)] [] h := by
  unfold wbX11_ofOther_33 at hw
  refine aw_aload_n 0 dX11_ofOther_33 rfl rfl ?_
  refine aw_iload_n 2 dX11_ofOther_34 rfl rfl ?_
  refine aw_iconst (v := 1) dX11_ofOther_35 (by decide) ?_
  refine aw_iadd dX11_ofOther_36 ?_
  refine aw_iload_n 2 dX11_ofOther_37 rfl rfl ?_
  refine aw_if_ne (tgt := 50) dX11_ofOther_38 (by decide) (fun z => ?_) (fun z => ?_)
  · have hw := hw.1 z
    refine aw_aload_n 0 dX11_ofOther_50 rfl rfl ?_
    obtain ⟨fs31, r30, h1, h2, hw⟩ := hw
    refine aw_getf (k := 13) dX11_ofOther_51 clX11 (by decide) k_961 (Or.inl rfl) h1 h2 ?_
    refine aw_iload_n 1 dX11_ofOther_54 rfl rfl ?_
    obtain ⟨_, _, r32, h1, h2, h3, hw⟩ := hw
    refine aw_aI dX11_ofOther_55 h1 h2 h3 ?_
    refine aw_sub (lv' := []) [] rfl ?_
    exact abX11_ofOther_56 l G d hG hd _ _ _ _ hw
  · have hw := hw.2 z
    refine aw_aload_n 0 dX11_ofOther_41 rfl rfl ?_
    obtain ⟨fs34, r33, h1, h2, hw⟩ := hw
    refine aw_getf (k := 12) dX11_ofOther_42 clX11 (by decide) k_960 (Or.inl rfl) h1 h2 ?_
    refine aw_iload_n 1 dX11_ofOther_45 rfl rfl ?_
    obtain ⟨_, _, r35, h1, h2, h3, hw⟩ := hw
    refine aw_aI dX11_ofOther_46 h1 h2 h3 ?_
    refine aw_goto (tgt := 56) dX11_ofOther_47 (by decide) ?_
    refine aw_sub (lv' := []) [] rfl ?_
    exact abX11_ofOther_56 l G d hG hd _ _ _ _ hw
set_option maxRecDepth 100000 in
theorem acX11_ofOther (l : Launch) (G : aG) (d : Nat) (hG : a_GT G) (hd : 3 ≤ d) {Q : Int32 → aH → Prop} {h : aH} {v0 : Nat} {v1 : Int32} {v2 : Int32} (hw : wX11_ofOther h v0 v1 v2 Q) : AC l G d 0 0 mX11_ofOther [.ref v0, .int v1, .int v2] h (qI Q) := by
  refine ac_of iX11_ofOther (Nat.le_of_ble_eq_true rfl) ?_
  show AW l G d 0 0 mX11_ofOther (qI Q) 0 [(0, .ref v0), (1, .int v1), (2, .int v2)] [] h
  unfold wX11_ofOther at hw
  refine aw_aload_n 0 dX11_ofOther_0 rfl rfl ?_
  obtain ⟨fs37, r36, h1, h2, hw⟩ := hw
  refine aw_getf (k := 25) dX11_ofOther_1 clX11 (by decide) k_973 (Or.inl rfl) h1 h2 ?_
  refine aw_aload_n 0 dX11_ofOther_4 rfl rfl ?_
  obtain ⟨fs39, r38, h1, h2, hw⟩ := hw
  refine aw_getf (k := 27) dX11_ofOther_5 clX11 (by decide) k_975 (Or.inl rfl) h1 h2 ?_
  obtain ⟨_, _, r40, h1, h2, h3, hw⟩ := hw
  refine aw_aI dX11_ofOther_8 h1 h2 h3 ?_
  refine aw_istore_n (lv' := [(3, .int r40), (0, .ref v0), (1, .int v1), (2, .int v2)]) dX11_ofOther_9 rfl (by decide) rfl ?_
  refine aw_aload_n 1 dX11_ofOther_10 rfl rfl ?_
  obtain ⟨fs42, r41, h1, h2, hw⟩ := hw
  refine aw_getf (k := 10) dX11_ofOther_11 clX11 (by decide) k_958 (Or.inl rfl) h1 h2 ?_
  refine aw_iload_n 2 dX11_ofOther_14 rfl rfl ?_
  obtain ⟨_, _, r43, h1, h2, h3, hw⟩ := hw
  refine aw_aI dX11_ofOther_15 h1 h2 h3 ?_
  refine aw_iconst (v := 1) dX11_ofOther_16 (by decide) ?_
  refine aw_icmp_ne (tgt := 61) dX11_ofOther_17 (by decide) (fun z => ?_) (fun z => ?_)
  · have hw := hw.1 z
    refine aw_sub (lv' := [(0, .ref v0), (1, .int v1), (2, .int v2), (3, .int r40)]) [1, 2, 3, 0] rfl ?_
    exact abX11_ofOther_61 l G d hG hd _ _ _ _ _ hw
  · have hw := hw.2 z
    refine aw_iload_n 0 dX11_ofOther_20 rfl rfl ?_
    refine aw_if_eq (tgt := 33) dX11_ofOther_21 (by decide) (fun z => ?_) (fun z => ?_)
    · have hw := hw.1 z
      refine aw_sub (lv' := [(0, .ref v0), (1, .int v1), (3, .int r40)]) [1, 2, 0] rfl ?_
      exact abX11_ofOther_33 l G d hG hd _ _ _ _ hw
    · have hw := hw.2 z
      refine aw_iload_n 0 dX11_ofOther_24 rfl rfl ?_
      refine aw_iconst (v := 1) dX11_ofOther_25 (by decide) ?_
      refine aw_icmp_ne (tgt := 61) dX11_ofOther_26 (by decide) (fun z => ?_) (fun z => ?_)
      · have hw := hw.1 z
        refine aw_sub (lv' := [(0, .ref v0), (1, .int v1), (2, .int v2), (3, .int r40)]) [1, 2, 3, 0] rfl ?_
        exact abX11_ofOther_61 l G d hG hd _ _ _ _ _ hw
      · have hw := hw.2 z
        refine aw_iload_n 3 dX11_ofOther_29 rfl rfl ?_
        refine aw_if_ne (tgt := 61) dX11_ofOther_30 (by decide) (fun z => ?_) (fun z => ?_)
        · have hw := hw.1 z
          refine aw_sub (lv' := [(0, .ref v0), (1, .int v1), (2, .int v2), (3, .int r40)]) [1, 2, 3, 0] rfl ?_
          exact abX11_ofOther_61 l G d hG hd _ _ _ _ _ hw
        · have hw := hw.2 z
          refine aw_sub (lv' := [(0, .ref v0), (1, .int v1), (3, .int r40)]) [1, 2, 0] rfl ?_
          exact abX11_ofOther_33 l G d hG hd _ _ _ _ hw
-- X11_goes
def wbX11_goes_71 (K12 : Nat → Int32 →  aH → Prop) (v0 : Nat) (s0 : Int32) (h : aH) (Q : Int32 → aH → Prop) : Prop :=
  K12 v0 s0 h
def wbX11_goes_12_i (K12 : Nat → Int32 →  aH → Prop) (v0 : Nat) (v2 : Int32) (h : aH) (Q : Int32 → aH → Prop) : Prop :=
  rI h v0 9 27 (fun r1 => (r1 < 0 → Q v2 h) ∧ (¬ r1 < 0 → rR h v0 9 24 (fun r3 => rI h v0 9 27 (fun r5 => aI h r3 r5 (fun r7 => rR h v0 9 10 (fun r8 => aI h r8 r7 (fun r10 => (¬ r10 = 0 → rR h v0 9 10 (fun r11 => aI h r11 r7 (fun r13 => (¬ r13 = 3 → isO h v0 9 (wX11_ofOther h v0 r7 v2 (fun r15 h14 => wbX11_goes_71 K12 v0 r15 h14 Q))) ∧ (r13 = 3 → isO h v0 9 (wX11_ofGuard h v0 r7 v2 (fun r17 h16 => wbX11_goes_71 K12 v0 r17 h16 Q)))))) ∧ (r10 = 0 → isO h v0 9 (wX11_ofAct h v0 r7 (fun r19 h18 => wbX11_goes_71 K12 v0 r19 h18 Q))))))))))
def wbX11_goes_12 (n : Nat) (v0 : Nat) (v2 : Int32) (h : aH) (Q : Int32 → aH → Prop) : Prop := match n with
  | 0 => False
  | n + 1 => wbX11_goes_12_i (fun v0 v2 h => wbX11_goes_12 n v0 v2 h Q) v0 v2 h Q
def wX11_goes (h : aH) (v0 : Nat) (v1 : Int32) (Q : Int32 → aH → Prop) : Prop :=
  wF h v0 9 27 (.int (-1)) (fun h20 => isO h20 v0 9 (wX11_push h20 v0 v1 (fun h22 => ∃ n, wbX11_goes_12 n v0 0 h22 Q)))
set_option maxRecDepth 100000 in
theorem abX11_goes_71 (l : Launch) (G : aG) (d : Nat) (hG : a_GT G) (hd : 9 ≤ d) {Q : Int32 → aH → Prop} {K12 : Nat → Int32 →  aH → Prop} (kk12 : ∀ (v0 : Nat) (v2 : Int32) (h : aH), K12 v0 v2 h → AW l G d 0 0 mX11_goes (qI Q) 12 [(0, .ref v0), (2, .int v2)] [] h) (v0 : Nat) (s0 : Int32) (h : aH) (hw : wbX11_goes_71 K12 v0 s0 h Q) : AW l G d 0 0 mX11_goes (qI Q) 71 [(0, .ref v0)] [.int s0] h := by
  unfold wbX11_goes_71 at hw
  refine aw_istore_n (lv' := [(2, .int s0), (0, .ref v0)]) dX11_goes_71 rfl (by decide) rfl ?_
  refine aw_goto (tgt := 12) dX11_goes_72 (by decide) ?_
  refine aw_sub (lv' := [(0, .ref v0), (2, .int s0)]) [1, 0] rfl ?_
  exact kk12 _ _ _ hw
set_option maxRecDepth 100000 in
theorem abX11_goes_12_i (l : Launch) (G : aG) (d : Nat) (hG : a_GT G) (hd : 9 ≤ d) {Q : Int32 → aH → Prop} {K12 : Nat → Int32 →  aH → Prop} (kk12 : ∀ (v0 : Nat) (v2 : Int32) (h : aH), K12 v0 v2 h → AW l G d 0 0 mX11_goes (qI Q) 12 [(0, .ref v0), (2, .int v2)] [] h) (v0 : Nat) (v2 : Int32) (h : aH) (hw : wbX11_goes_12_i K12 v0 v2 h Q) : AW l G d 0 0 mX11_goes (qI Q) 12 [(0, .ref v0), (2, .int v2)] [] h := by
  unfold wbX11_goes_12_i at hw
  refine aw_aload_n 0 dX11_goes_12 rfl rfl ?_
  obtain ⟨fs2, r1, h1, h2, hw⟩ := hw
  refine aw_getf (k := 27) dX11_goes_13 clX11 (by decide) k_975 (Or.inl rfl) h1 h2 ?_
  refine aw_if_lt (tgt := 75) dX11_goes_16 (by decide) (fun z => ?_) (fun z => ?_)
  · have hw := hw.1 z
    refine aw_iload_n 1 dX11_goes_75 rfl rfl ?_
    exact aw_iret dX11_goes_76 rfl rfl ⟨_, rfl, hw⟩
  · have hw := hw.2 z
    refine aw_aload_n 0 dX11_goes_19 rfl rfl ?_
    obtain ⟨fs4, r3, h1, h2, hw⟩ := hw
    refine aw_getf (k := 24) dX11_goes_20 clX11 (by decide) k_972 (Or.inl rfl) h1 h2 ?_
    refine aw_aload_n 0 dX11_goes_23 rfl rfl ?_
    obtain ⟨fs6, r5, h1, h2, hw⟩ := hw
    refine aw_getf (k := 27) dX11_goes_24 clX11 (by decide) k_975 (Or.inl rfl) h1 h2 ?_
    obtain ⟨_, _, r7, h1, h2, h3, hw⟩ := hw
    refine aw_aI dX11_goes_27 h1 h2 h3 ?_
    refine aw_istore_n (lv' := [(3, .int r7), (0, .ref v0), (2, .int v2)]) dX11_goes_28 rfl (by decide) rfl ?_
    refine aw_aload_n 1 dX11_goes_29 rfl rfl ?_
    obtain ⟨fs9, r8, h1, h2, hw⟩ := hw
    refine aw_getf (k := 10) dX11_goes_30 clX11 (by decide) k_958 (Or.inl rfl) h1 h2 ?_
    refine aw_iload_n 0 dX11_goes_33 rfl rfl ?_
    obtain ⟨_, _, r10, h1, h2, h3, hw⟩ := hw
    refine aw_aI dX11_goes_34 h1 h2 h3 ?_
    refine aw_if_ne (tgt := 46) dX11_goes_35 (by decide) (fun z => ?_) (fun z => ?_)
    · have hw := hw.1 z
      refine aw_aload_n 1 dX11_goes_46 rfl rfl ?_
      obtain ⟨fs12, r11, h1, h2, hw⟩ := hw
      refine aw_getf (k := 10) dX11_goes_47 clX11 (by decide) k_958 (Or.inl rfl) h1 h2 ?_
      refine aw_iload_n 0 dX11_goes_50 rfl rfl ?_
      obtain ⟨_, _, r13, h1, h2, h3, hw⟩ := hw
      refine aw_aI dX11_goes_51 h1 h2 h3 ?_
      refine aw_iconst (v := 3) dX11_goes_52 (by decide) ?_
      refine aw_icmp_ne (tgt := 65) dX11_goes_53 (by decide) (fun z => ?_) (fun z => ?_)
      · have hw := hw.1 z
        refine aw_aload_n 1 dX11_goes_65 rfl rfl ?_
        refine aw_iload_n 0 dX11_goes_66 rfl rfl ?_
        refine aw_iload_n 2 dX11_goes_67 rfl rfl ?_
        obtain ⟨_, h1, hw⟩ := hw
        refine aw_virtI (As := [.int r7, .int v2]) (rest := []) dX11_goes_68 (acX11_ofOther l G (d - 1) hG (by omega) hw) iX11_ofOther rfl k_1229 k_1231 k_70 rfl h1 (by omega) (by decide) (by decide) rfl (Nat.le_of_ble_eq_true rfl) (fun r15 h14 hw => ?_)
        refine aw_sub (lv' := [(0, .ref v0)]) [1] rfl ?_
        exact abX11_goes_71 l G d hG hd kk12 _ _ _ hw
      · have hw := hw.2 z
        refine aw_aload_n 1 dX11_goes_56 rfl rfl ?_
        refine aw_iload_n 0 dX11_goes_57 rfl rfl ?_
        refine aw_iload_n 2 dX11_goes_58 rfl rfl ?_
        obtain ⟨_, h1, hw⟩ := hw
        refine aw_virtI (As := [.int r7, .int v2]) (rest := []) dX11_goes_59 (acX11_ofGuard l G (d - 1) hG (by omega) hw) iX11_ofGuard rfl k_1221 k_1223 k_68 rfl h1 (by omega) (by decide) (by decide) rfl (Nat.le_of_ble_eq_true rfl) (fun r17 h16 hw => ?_)
        refine aw_goto (tgt := 71) dX11_goes_62 (by decide) ?_
        refine aw_sub (lv' := [(0, .ref v0)]) [1] rfl ?_
        exact abX11_goes_71 l G d hG hd kk12 _ _ _ hw
    · have hw := hw.2 z
      refine aw_aload_n 1 dX11_goes_38 rfl rfl ?_
      refine aw_iload_n 0 dX11_goes_39 rfl rfl ?_
      obtain ⟨_, h1, hw⟩ := hw
      refine aw_virtI (As := [.int r7]) (rest := []) dX11_goes_40 (acX11_ofAct l G (d - 1) hG (by omega) hw) iX11_ofAct rfl k_1122 k_1124 k_47 rfl h1 (by omega) (by decide) (by decide) rfl (Nat.le_of_ble_eq_true rfl) (fun r19 h18 hw => ?_)
      refine aw_goto (tgt := 71) dX11_goes_43 (by decide) ?_
      refine aw_sub (lv' := [(0, .ref v0)]) [1] rfl ?_
      exact abX11_goes_71 l G d hG hd kk12 _ _ _ hw
set_option maxRecDepth 100000 in
theorem abX11_goes_12 (l : Launch) (G : aG) (d : Nat) (hG : a_GT G) (hd : 9 ≤ d) {Q : Int32 → aH → Prop} (n : Nat) : ∀  (v0 : Nat) (v2 : Int32) (h : aH), wbX11_goes_12 n v0 v2 h Q → AW l G d 0 0 mX11_goes (qI Q) 12 [(0, .ref v0), (2, .int v2)] [] h := by
  induction n with
  | zero => exact fun _ _ _ hw => hw.elim
  | succ n ih => exact fun _ _ _ hw => abX11_goes_12_i l G d hG hd ih _ _ _ hw
set_option maxRecDepth 100000 in
theorem acX11_goes (l : Launch) (G : aG) (d : Nat) (hG : a_GT G) (hd : 9 ≤ d) {Q : Int32 → aH → Prop} {h : aH} {v0 : Nat} {v1 : Int32} (hw : wX11_goes h v0 v1 Q) : AC l G d 0 0 mX11_goes [.ref v0, .int v1] h (qI Q) := by
  refine ac_of iX11_goes (Nat.le_of_ble_eq_true rfl) ?_
  show AW l G d 0 0 mX11_goes (qI Q) 0 [(0, .ref v0), (1, .int v1)] [] h
  unfold wX11_goes at hw
  refine aw_aload_n 0 dX11_goes_0 rfl rfl ?_
  refine aw_iconst (v := (-1)) dX11_goes_1 (by decide) ?_
  obtain ⟨fs21, h1, h2, hw⟩ := hw
  refine aw_putf (k := 27) dX11_goes_2 clX11 (by decide) k_975 (Or.inl rfl) rfl rfl rfl h1 h2 ?_
  generalize a_up _ _ _ = h20 at hw ⊢
  refine aw_aload_n 0 dX11_goes_5 rfl rfl ?_
  refine aw_iload_n 1 dX11_goes_6 rfl rfl ?_
  obtain ⟨_, h1, hw⟩ := hw
  refine aw_virtV (As := [.int v1]) (rest := []) dX11_goes_7 (acX11_push l G (d - 1) hG (by omega) hw) iX11_push rfl k_1118 k_1120 k_46 rfl h1 (by omega) (by decide) (by decide) rfl (Nat.le_of_ble_eq_true rfl) (fun h22 hw => ?_)
  refine aw_iconst (v := 0) dX11_goes_10 (by decide) ?_
  refine aw_istore_n (lv' := [(2, .int 0), (0, .ref v0), (1, .int v1)]) dX11_goes_11 rfl (by decide) rfl ?_
  obtain ⟨n, hw⟩ := hw
  refine aw_sub (lv' := [(0, .ref v0), (2, .int 0)]) [1, 0] rfl ?_
  exact abX11_goes_12 l G d hG hd n _ _ _ hw
-- X11_run
def wX11_run (h : aH) (v0 : Nat) (v1 : Int32) (Q : Int32 → aH → Prop) : Prop :=
  isO h v0 9 (wX11_isNode h v0 v1 (fun r2 h1 => (¬ r2 = 0 → wF h1 v0 9 17 (.int 0) (fun h3 => wF h3 v0 9 18 (.int 0) (fun h5 => wF h5 v0 9 19 (.int 0) (fun h7 => wF h7 v0 9 20 (.int 0) (fun h9 => wF h9 v0 9 21 (.int 0) (fun h11 => wF h11 v0 9 22 (.int (-1)) (fun h13 => isO h13 v0 9 (wX11_goes h13 v0 v1 (fun r16 h15 => Q r16 h15))))))))) ∧ (r2 = 0 → Q ((-1)) h1)))
set_option maxRecDepth 100000 in
theorem acX11_run (l : Launch) (G : aG) (d : Nat) (hG : a_GT G) (hd : 10 ≤ d) {Q : Int32 → aH → Prop} {h : aH} {v0 : Nat} {v1 : Int32} (hw : wX11_run h v0 v1 Q) : AC l G d 0 0 mX11_run [.ref v0, .int v1] h (qI Q) := by
  refine ac_of iX11_run (Nat.le_of_ble_eq_true rfl) ?_
  show AW l G d 0 0 mX11_run (qI Q) 0 [(0, .ref v0), (1, .int v1)] [] h
  unfold wX11_run at hw
  refine aw_aload_n 0 dX11_run_0 rfl rfl ?_
  refine aw_iload_n 1 dX11_run_1 rfl rfl ?_
  obtain ⟨_, h1, hw⟩ := hw
  refine aw_virtI (As := [.int v1]) (rest := []) dX11_run_2 (acX11_isNode l G (d - 1) hG (by omega) hw) iX11_isNode rfl k_1094 k_1096 k_44 rfl h1 (by omega) (by decide) (by decide) rfl (Nat.le_of_ble_eq_true rfl) (fun r2 h1 hw => ?_)
  refine aw_if_ne (tgt := 10) dX11_run_5 (by decide) (fun z => ?_) (fun z => ?_)
  · have hw := hw.1 z
    refine aw_aload_n 0 dX11_run_10 rfl rfl ?_
    refine aw_iconst (v := 0) dX11_run_11 (by decide) ?_
    obtain ⟨fs4, h1, h2, hw⟩ := hw
    refine aw_putf (k := 17) dX11_run_12 clX11 (by decide) k_965 (Or.inl rfl) rfl rfl rfl h1 h2 ?_
    generalize a_up _ _ _ = h3 at hw ⊢
    refine aw_aload_n 0 dX11_run_15 rfl rfl ?_
    refine aw_iconst (v := 0) dX11_run_16 (by decide) ?_
    obtain ⟨fs6, h1, h2, hw⟩ := hw
    refine aw_putf (k := 18) dX11_run_17 clX11 (by decide) k_966 (Or.inl rfl) rfl rfl rfl h1 h2 ?_
    generalize a_up _ _ _ = h5 at hw ⊢
    refine aw_aload_n 0 dX11_run_20 rfl rfl ?_
    refine aw_iconst (v := 0) dX11_run_21 (by decide) ?_
    obtain ⟨fs8, h1, h2, hw⟩ := hw
    refine aw_putf (k := 19) dX11_run_22 clX11 (by decide) k_967 (Or.inl rfl) rfl rfl rfl h1 h2 ?_
    generalize a_up _ _ _ = h7 at hw ⊢
    refine aw_aload_n 0 dX11_run_25 rfl rfl ?_
    refine aw_iconst (v := 0) dX11_run_26 (by decide) ?_
    obtain ⟨fs10, h1, h2, hw⟩ := hw
    refine aw_putf (k := 20) dX11_run_27 clX11 (by decide) k_968 (Or.inl rfl) rfl rfl rfl h1 h2 ?_
    generalize a_up _ _ _ = h9 at hw ⊢
    refine aw_aload_n 0 dX11_run_30 rfl rfl ?_
    refine aw_iconst (v := 0) dX11_run_31 (by decide) ?_
    obtain ⟨fs12, h1, h2, hw⟩ := hw
    refine aw_putf (k := 21) dX11_run_32 clX11 (by decide) k_969 (Or.inl rfl) rfl rfl rfl h1 h2 ?_
    generalize a_up _ _ _ = h11 at hw ⊢
    refine aw_aload_n 0 dX11_run_35 rfl rfl ?_
    refine aw_iconst (v := (-1)) dX11_run_36 (by decide) ?_
    obtain ⟨fs14, h1, h2, hw⟩ := hw
    refine aw_putf (k := 22) dX11_run_37 clX11 (by decide) k_970 (Or.inl rfl) rfl rfl rfl h1 h2 ?_
    generalize a_up _ _ _ = h13 at hw ⊢
    refine aw_aload_n 0 dX11_run_40 rfl rfl ?_
    refine aw_iload_n 1 dX11_run_41 rfl rfl ?_
    obtain ⟨_, h1, hw⟩ := hw
    refine aw_virtI (As := [.int v1]) (rest := []) dX11_run_42 (acX11_goes l G (d - 1) hG (by omega) hw) iX11_goes rfl k_1114 k_1116 k_45 rfl h1 (by omega) (by decide) (by decide) rfl (Nat.le_of_ble_eq_true rfl) (fun r16 h15 hw => ?_)
    exact aw_iret dX11_run_45 rfl rfl ⟨_, rfl, hw⟩
  · have hw := hw.2 z
    refine aw_iconst (v := (-1)) dX11_run_8 (by decide) ?_
    exact aw_iret dX11_run_9 rfl rfl ⟨_, rfl, hw⟩
-- X11_ran
def wX11_ran (h : aH) (v0 : Nat) (v1 : Int32) (Q : Int32 → aH → Prop) : Prop :=
  ((v1.toInt < 0 ∨ 5 < v1.toInt) → Q ((-1)) h) ∧ (v1.toInt = 0 → rI h v0 9 17 (fun r1 => Q r1 h)) ∧ (v1.toInt = 1 → rI h v0 9 18 (fun r3 => Q r3 h)) ∧ (v1.toInt = 2 → rI h v0 9 19 (fun r5 => Q r5 h)) ∧ (v1.toInt = 3 → rI h v0 9 20 (fun r7 => Q r7 h)) ∧ (v1.toInt = 4 → rI h v0 9 21 (fun r9 => Q r9 h)) ∧ (v1.toInt = 5 → rI h v0 9 22 (fun r11 => Q r11 h))
set_option maxRecDepth 100000 in
theorem acX11_ran (l : Launch) (G : aG) (d : Nat) (hG : a_GT G) (hd : 1 ≤ d) {Q : Int32 → aH → Prop} {h : aH} {v0 : Nat} {v1 : Int32} (hw : wX11_ran h v0 v1 Q) : AC l G d 0 0 mX11_ran [.ref v0, .int v1] h (qI Q) := by
  refine ac_of iX11_ran (Nat.le_of_ble_eq_true rfl) ?_
  show AW l G d 0 0 mX11_ran (qI Q) 0 [(0, .ref v0), (1, .int v1)] [] h
  unfold wX11_ran at hw
  refine aw_iload_n 1 dX11_ran_0 rfl rfl ?_
  by_cases zo : v1.toInt < 0 ∨ 5 < v1.toInt
  · have hw := hw.1 zo
    refine aw_tableOut (tgt := 70) dX11_ran_1 zo (by decide) ?_
    refine aw_iconst (v := (-1)) dX11_ran_70 (by decide) ?_
    exact aw_iret dX11_ran_71 rfl rfl ⟨_, rfl, hw⟩
  · have hw := hw.2
    have z : v1.toInt = 0 ∨ v1.toInt = 1 ∨ v1.toInt = 2 ∨ v1.toInt = 3 ∨ v1.toInt = 4 ∨ v1.toInt = 5 := by omega
    rcases z with z | z | z | z | z | z
    · have hw := hw.1 z
      refine aw_tableIn (off := 39) (tgt := 40) dX11_ran_1 (by rw [z]; decide) (by rw [z]; decide) (by rw [z]; rfl) (by decide) ?_
      refine aw_aload_n 0 dX11_ran_40 rfl rfl ?_
      obtain ⟨fs2, r1, h1, h2, hw⟩ := hw
      refine aw_getf (k := 17) dX11_ran_41 clX11 (by decide) k_965 (Or.inl rfl) h1 h2 ?_
      exact aw_iret dX11_ran_44 rfl rfl ⟨_, rfl, hw⟩
    · have hw := hw.2.1 z
      refine aw_tableIn (off := 44) (tgt := 45) dX11_ran_1 (by rw [z]; decide) (by rw [z]; decide) (by rw [z]; rfl) (by decide) ?_
      refine aw_aload_n 0 dX11_ran_45 rfl rfl ?_
      obtain ⟨fs4, r3, h1, h2, hw⟩ := hw
      refine aw_getf (k := 18) dX11_ran_46 clX11 (by decide) k_966 (Or.inl rfl) h1 h2 ?_
      exact aw_iret dX11_ran_49 rfl rfl ⟨_, rfl, hw⟩
    · have hw := hw.2.2.1 z
      refine aw_tableIn (off := 49) (tgt := 50) dX11_ran_1 (by rw [z]; decide) (by rw [z]; decide) (by rw [z]; rfl) (by decide) ?_
      refine aw_aload_n 0 dX11_ran_50 rfl rfl ?_
      obtain ⟨fs6, r5, h1, h2, hw⟩ := hw
      refine aw_getf (k := 19) dX11_ran_51 clX11 (by decide) k_967 (Or.inl rfl) h1 h2 ?_
      exact aw_iret dX11_ran_54 rfl rfl ⟨_, rfl, hw⟩
    · have hw := hw.2.2.2.1 z
      refine aw_tableIn (off := 54) (tgt := 55) dX11_ran_1 (by rw [z]; decide) (by rw [z]; decide) (by rw [z]; rfl) (by decide) ?_
      refine aw_aload_n 0 dX11_ran_55 rfl rfl ?_
      obtain ⟨fs8, r7, h1, h2, hw⟩ := hw
      refine aw_getf (k := 20) dX11_ran_56 clX11 (by decide) k_968 (Or.inl rfl) h1 h2 ?_
      exact aw_iret dX11_ran_59 rfl rfl ⟨_, rfl, hw⟩
    · have hw := hw.2.2.2.2.1 z
      refine aw_tableIn (off := 59) (tgt := 60) dX11_ran_1 (by rw [z]; decide) (by rw [z]; decide) (by rw [z]; rfl) (by decide) ?_
      refine aw_aload_n 0 dX11_ran_60 rfl rfl ?_
      obtain ⟨fs10, r9, h1, h2, hw⟩ := hw
      refine aw_getf (k := 21) dX11_ran_61 clX11 (by decide) k_969 (Or.inl rfl) h1 h2 ?_
      exact aw_iret dX11_ran_64 rfl rfl ⟨_, rfl, hw⟩
    · have hw := hw.2.2.2.2.2 z
      refine aw_tableIn (off := 64) (tgt := 65) dX11_ran_1 (by rw [z]; decide) (by rw [z]; decide) (by rw [z]; rfl) (by decide) ?_
      refine aw_aload_n 0 dX11_ran_65 rfl rfl ?_
      obtain ⟨fs12, r11, h1, h2, hw⟩ := hw
      refine aw_getf (k := 22) dX11_ran_66 clX11 (by decide) k_970 (Or.inl rfl) h1 h2 ?_
      exact aw_iret dX11_ran_69 rfl rfl ⟨_, rfl, hw⟩
-- X11_clear
def wbX11_clear_38_i (K38 : Nat → Int32 → Int32 →  aH → Prop) (v0 : Nat) (v1 : Int32) (v2 : Int32) (h : aH) (Q : Int32 → aH → Prop) : Prop :=
  (8 ≤ v2 → Q v1 h) ∧ (¬ 8 ≤ v2 → rR h v0 9 8 (fun r1 => sL h r1 v2 ((0 : Int64)) (fun h3 => K38 v0 v1 ((v2 + 1)) h3)))
def wbX11_clear_38 (n : Nat) (v0 : Nat) (v1 : Int32) (v2 : Int32) (h : aH) (Q : Int32 → aH → Prop) : Prop := match n with
  | 0 => False
  | n + 1 => wbX11_clear_38_i (fun v0 v1 v2 h => wbX11_clear_38 n v0 v1 v2 h Q) v0 v1 v2 h Q
def wbX11_clear_17_i (K17 : Nat → Int32 → Int32 →  aH → Prop) (v0 : Nat) (v1 : Int32) (v2 : Int32) (h : aH) (Q : Int32 → aH → Prop) : Prop :=
  (12 ≤ v2 → ∃ n, wbX11_clear_38 n v0 v1 0 h Q) ∧ (¬ 12 ≤ v2 → rR h v0 9 7 (fun r4 => sI h r4 v2 0 (fun h6 => K17 v0 v1 ((v2 + 1)) h6)))
def wbX11_clear_17 (n : Nat) (v0 : Nat) (v1 : Int32) (v2 : Int32) (h : aH) (Q : Int32 → aH → Prop) : Prop := match n with
  | 0 => False
  | n + 1 => wbX11_clear_17_i (fun v0 v1 v2 h => wbX11_clear_17 n v0 v1 v2 h Q) v0 v1 v2 h Q
def wX11_clear (h : aH) (v0 : Nat) (Q : Int32 → aH → Prop) : Prop :=
  rI h v0 9 0 (fun r7 => wF h v0 9 0 (.int 0) (fun h9 => wF h9 v0 9 1 (.int 0) (fun h11 => ∃ n, wbX11_clear_17 n v0 r7 0 h11 Q)))
set_option maxRecDepth 100000 in
theorem abX11_clear_38_i (l : Launch) (G : aG) (d : Nat) (hG : a_GT G) (hd : 1 ≤ d) {Q : Int32 → aH → Prop} {K38 : Nat → Int32 → Int32 →  aH → Prop} (kk38 : ∀ (v0 : Nat) (v1 : Int32) (v2 : Int32) (h : aH), K38 v0 v1 v2 h → AW l G d 0 0 mX11_clear (qI Q) 38 [(0, .ref v0), (1, .int v1), (2, .int v2)] [] h) (v0 : Nat) (v1 : Int32) (v2 : Int32) (h : aH) (hw : wbX11_clear_38_i K38 v0 v1 v2 h Q) : AW l G d 0 0 mX11_clear (qI Q) 38 [(0, .ref v0), (1, .int v1), (2, .int v2)] [] h := by
  unfold wbX11_clear_38_i at hw
  refine aw_iload_n 2 dX11_clear_38 rfl rfl ?_
  refine aw_bipush (v := 8) dX11_clear_39 (by decide) ?_
  refine aw_icmp_ge (tgt := 57) dX11_clear_41 (by decide) (fun z => ?_) (fun z => ?_)
  · have hw := hw.1 z
    refine aw_iload_n 1 dX11_clear_57 rfl rfl ?_
    exact aw_iret dX11_clear_58 rfl rfl ⟨_, rfl, hw⟩
  · have hw := hw.2 z
    refine aw_aload_n 0 dX11_clear_44 rfl rfl ?_
    obtain ⟨fs2, r1, h1, h2, hw⟩ := hw
    refine aw_getf (k := 8) dX11_clear_45 clX11 (by decide) k_956 (Or.inl rfl) h1 h2 ?_
    refine aw_iload_n 2 dX11_clear_48 rfl rfl ?_
    refine aw_lconst (v := 0) dX11_clear_49 (by decide) ?_
    obtain ⟨_, _, h1, h2, hw⟩ := hw
    refine aw_last dX11_clear_50 h1 h2 ?_
    generalize a_up _ _ _ = h3 at hw ⊢
    refine aw_iinc (v := (v2 + 1)) (lv' := [(2, .int (v2 + 1)), (0, .ref v0), (1, .int v1)]) 2 dX11_clear_51 rfl rfl (by decide) rfl ?_
    refine aw_goto (tgt := 38) dX11_clear_54 (by decide) ?_
    refine aw_sub (lv' := [(0, .ref v0), (1, .int v1), (2, .int (v2 + 1))]) [1, 2, 0] rfl ?_
    exact kk38 _ _ _ _ hw
set_option maxRecDepth 100000 in
theorem abX11_clear_38 (l : Launch) (G : aG) (d : Nat) (hG : a_GT G) (hd : 1 ≤ d) {Q : Int32 → aH → Prop} (n : Nat) : ∀  (v0 : Nat) (v1 : Int32) (v2 : Int32) (h : aH), wbX11_clear_38 n v0 v1 v2 h Q → AW l G d 0 0 mX11_clear (qI Q) 38 [(0, .ref v0), (1, .int v1), (2, .int v2)] [] h := by
  induction n with
  | zero => exact fun _ _ _ _ hw => hw.elim
  | succ n ih => exact fun _ _ _ _ hw => abX11_clear_38_i l G d hG hd ih _ _ _ _ hw
set_option maxRecDepth 100000 in
theorem abX11_clear_17_i (l : Launch) (G : aG) (d : Nat) (hG : a_GT G) (hd : 1 ≤ d) {Q : Int32 → aH → Prop} {K17 : Nat → Int32 → Int32 →  aH → Prop} (kk17 : ∀ (v0 : Nat) (v1 : Int32) (v2 : Int32) (h : aH), K17 v0 v1 v2 h → AW l G d 0 0 mX11_clear (qI Q) 17 [(0, .ref v0), (1, .int v1), (2, .int v2)] [] h) (v0 : Nat) (v1 : Int32) (v2 : Int32) (h : aH) (hw : wbX11_clear_17_i K17 v0 v1 v2 h Q) : AW l G d 0 0 mX11_clear (qI Q) 17 [(0, .ref v0), (1, .int v1), (2, .int v2)] [] h := by
  unfold wbX11_clear_17_i at hw
  refine aw_iload_n 2 dX11_clear_17 rfl rfl ?_
  refine aw_bipush (v := 12) dX11_clear_18 (by decide) ?_
  refine aw_icmp_ge (tgt := 36) dX11_clear_20 (by decide) (fun z => ?_) (fun z => ?_)
  · have hw := hw.1 z
    refine aw_iconst (v := 0) dX11_clear_36 (by decide) ?_
    refine aw_istore_n (lv' := [(2, .int 0), (0, .ref v0), (1, .int v1)]) dX11_clear_37 rfl (by decide) rfl ?_
    obtain ⟨n, hw⟩ := hw
    refine aw_sub (lv' := [(0, .ref v0), (1, .int v1), (2, .int 0)]) [1, 2, 0] rfl ?_
    exact abX11_clear_38 l G d hG hd n _ _ _ _ hw
  · have hw := hw.2 z
    refine aw_aload_n 0 dX11_clear_23 rfl rfl ?_
    obtain ⟨fs5, r4, h1, h2, hw⟩ := hw
    refine aw_getf (k := 7) dX11_clear_24 clX11 (by decide) k_955 (Or.inl rfl) h1 h2 ?_
    refine aw_iload_n 2 dX11_clear_27 rfl rfl ?_
    refine aw_iconst (v := 0) dX11_clear_28 (by decide) ?_
    obtain ⟨_, _, h1, h2, hw⟩ := hw
    refine aw_iast dX11_clear_29 h1 h2 ?_
    generalize a_up _ _ _ = h6 at hw ⊢
    refine aw_iinc (v := (v2 + 1)) (lv' := [(2, .int (v2 + 1)), (0, .ref v0), (1, .int v1)]) 2 dX11_clear_30 rfl rfl (by decide) rfl ?_
    refine aw_goto (tgt := 17) dX11_clear_33 (by decide) ?_
    refine aw_sub (lv' := [(0, .ref v0), (1, .int v1), (2, .int (v2 + 1))]) [1, 2, 0] rfl ?_
    exact kk17 _ _ _ _ hw
set_option maxRecDepth 100000 in
theorem abX11_clear_17 (l : Launch) (G : aG) (d : Nat) (hG : a_GT G) (hd : 1 ≤ d) {Q : Int32 → aH → Prop} (n : Nat) : ∀  (v0 : Nat) (v1 : Int32) (v2 : Int32) (h : aH), wbX11_clear_17 n v0 v1 v2 h Q → AW l G d 0 0 mX11_clear (qI Q) 17 [(0, .ref v0), (1, .int v1), (2, .int v2)] [] h := by
  induction n with
  | zero => exact fun _ _ _ _ hw => hw.elim
  | succ n ih => exact fun _ _ _ _ hw => abX11_clear_17_i l G d hG hd ih _ _ _ _ hw
set_option maxRecDepth 100000 in
theorem acX11_clear (l : Launch) (G : aG) (d : Nat) (hG : a_GT G) (hd : 1 ≤ d) {Q : Int32 → aH → Prop} {h : aH} {v0 : Nat} (hw : wX11_clear h v0 Q) : AC l G d 0 0 mX11_clear [.ref v0] h (qI Q) := by
  refine ac_of iX11_clear (Nat.le_of_ble_eq_true rfl) ?_
  show AW l G d 0 0 mX11_clear (qI Q) 0 [(0, .ref v0)] [] h
  unfold wX11_clear at hw
  refine aw_aload_n 0 dX11_clear_0 rfl rfl ?_
  obtain ⟨fs8, r7, h1, h2, hw⟩ := hw
  refine aw_getf (k := 0) dX11_clear_1 clX11 (by decide) k_948 (Or.inl rfl) h1 h2 ?_
  refine aw_istore_n (lv' := [(1, .int r7), (0, .ref v0)]) dX11_clear_4 rfl (by decide) rfl ?_
  refine aw_aload_n 1 dX11_clear_5 rfl rfl ?_
  refine aw_iconst (v := 0) dX11_clear_6 (by decide) ?_
  obtain ⟨fs10, h1, h2, hw⟩ := hw
  refine aw_putf (k := 0) dX11_clear_7 clX11 (by decide) k_948 (Or.inl rfl) rfl rfl rfl h1 h2 ?_
  generalize a_up _ _ _ = h9 at hw ⊢
  refine aw_aload_n 1 dX11_clear_10 rfl rfl ?_
  refine aw_iconst (v := 0) dX11_clear_11 (by decide) ?_
  obtain ⟨fs12, h1, h2, hw⟩ := hw
  refine aw_putf (k := 1) dX11_clear_12 clX11 (by decide) k_949 (Or.inl rfl) rfl rfl rfl h1 h2 ?_
  generalize a_up _ _ _ = h11 at hw ⊢
  refine aw_iconst (v := 0) dX11_clear_15 (by decide) ?_
  refine aw_istore_n (lv' := [(2, .int 0), (1, .int r7), (0, .ref v0)]) dX11_clear_16 rfl (by decide) rfl ?_
  obtain ⟨n, hw⟩ := hw
  refine aw_sub (lv' := [(0, .ref v0), (1, .int r7), (2, .int 0)]) [2, 1, 0] rfl ?_
  exact abX11_clear_17 l G d hG hd n _ _ _ _ hw
-- X11_count
def wbX11_count_66 (s0 : Int32) (h : aH) (Q : Int32 → aH → Prop) : Prop :=
  Q s0 h
def wX11_count (h : aH) (v0 : Nat) (v1 : Int32) (Q : Int32 → aH → Prop) : Prop :=
  (¬ v1 = 0 → (¬ v1 = 1 → (¬ v1 = 2 → (¬ v1 = 3 → wbX11_count_66 ((-1)) h Q) ∧ (v1 = 3 → rI h v0 9 9 (fun r1 => (¬ r1 = 0 → rR h v0 9 16 (fun r3 => rI h v0 9 9 (fun r5 => aI h r3 ((r5 - 1)) (fun r7 => wbX11_count_66 r7 h Q)))) ∧ (r1 = 0 → wbX11_count_66 0 h Q)))) ∧ (v1 = 2 → rI h v0 9 9 (fun r8 => wbX11_count_66 r8 h Q))) ∧ (v1 = 1 → rI h v0 9 1 (fun r10 => wbX11_count_66 r10 h Q))) ∧ (v1 = 0 → rI h v0 9 0 (fun r12 => wbX11_count_66 r12 h Q))
set_option maxRecDepth 100000 in
theorem abX11_count_66 (l : Launch) (G : aG) (d : Nat) (hG : a_GT G) (hd : 1 ≤ d) {Q : Int32 → aH → Prop} (s0 : Int32) (h : aH) (hw : wbX11_count_66 s0 h Q) : AW l G d 0 0 mX11_count (qI Q) 66 [] [.int s0] h := by
  unfold wbX11_count_66 at hw
  exact aw_iret dX11_count_66 rfl rfl ⟨_, rfl, hw⟩
set_option maxRecDepth 100000 in
theorem acX11_count (l : Launch) (G : aG) (d : Nat) (hG : a_GT G) (hd : 1 ≤ d) {Q : Int32 → aH → Prop} {h : aH} {v0 : Nat} {v1 : Int32} (hw : wX11_count h v0 v1 Q) : AC l G d 0 0 mX11_count [.ref v0, .int v1] h (qI Q) := by
  refine ac_of iX11_count (Nat.le_of_ble_eq_true rfl) ?_
  show AW l G d 0 0 mX11_count (qI Q) 0 [(0, .ref v0), (1, .int v1)] [] h
  unfold wX11_count at hw
  refine aw_iload_n 1 dX11_count_0 rfl rfl ?_
  refine aw_if_ne (tgt := 11) dX11_count_1 (by decide) (fun z => ?_) (fun z => ?_)
  · have hw := hw.1 z
    refine aw_iload_n 1 dX11_count_11 rfl rfl ?_
    refine aw_iconst (v := 1) dX11_count_12 (by decide) ?_
    refine aw_icmp_ne (tgt := 23) dX11_count_13 (by decide) (fun z => ?_) (fun z => ?_)
    · have hw := hw.1 z
      refine aw_iload_n 1 dX11_count_23 rfl rfl ?_
      refine aw_iconst (v := 2) dX11_count_24 (by decide) ?_
      refine aw_icmp_ne (tgt := 35) dX11_count_25 (by decide) (fun z => ?_) (fun z => ?_)
      · have hw := hw.1 z
        refine aw_iload_n 1 dX11_count_35 rfl rfl ?_
        refine aw_iconst (v := 3) dX11_count_36 (by decide) ?_
        refine aw_icmp_ne (tgt := 65) dX11_count_37 (by decide) (fun z => ?_) (fun z => ?_)
        · have hw := hw.1 z
          refine aw_iconst (v := (-1)) dX11_count_65 (by decide) ?_
          refine aw_sub (lv' := []) [] rfl ?_
          exact abX11_count_66 l G d hG hd _ _ hw
        · have hw := hw.2 z
          refine aw_aload_n 0 dX11_count_40 rfl rfl ?_
          obtain ⟨fs2, r1, h1, h2, hw⟩ := hw
          refine aw_getf (k := 9) dX11_count_41 clX11 (by decide) k_957 (Or.inl rfl) h1 h2 ?_
          refine aw_if_ne (tgt := 51) dX11_count_44 (by decide) (fun z => ?_) (fun z => ?_)
          · have hw := hw.1 z
            refine aw_aload_n 0 dX11_count_51 rfl rfl ?_
            obtain ⟨fs4, r3, h1, h2, hw⟩ := hw
            refine aw_getf (k := 16) dX11_count_52 clX11 (by decide) k_964 (Or.inl rfl) h1 h2 ?_
            refine aw_aload_n 0 dX11_count_55 rfl rfl ?_
            obtain ⟨fs6, r5, h1, h2, hw⟩ := hw
            refine aw_getf (k := 9) dX11_count_56 clX11 (by decide) k_957 (Or.inl rfl) h1 h2 ?_
            refine aw_iconst (v := 1) dX11_count_59 (by decide) ?_
            refine aw_isub dX11_count_60 ?_
            obtain ⟨_, _, r7, h1, h2, h3, hw⟩ := hw
            refine aw_aI dX11_count_61 h1 h2 h3 ?_
            refine aw_goto (tgt := 66) dX11_count_62 (by decide) ?_
            refine aw_sub (lv' := []) [] rfl ?_
            exact abX11_count_66 l G d hG hd _ _ hw
          · have hw := hw.2 z
            refine aw_iconst (v := 0) dX11_count_47 (by decide) ?_
            refine aw_goto (tgt := 66) dX11_count_48 (by decide) ?_
            refine aw_sub (lv' := []) [] rfl ?_
            exact abX11_count_66 l G d hG hd _ _ hw
      · have hw := hw.2 z
        refine aw_aload_n 0 dX11_count_28 rfl rfl ?_
        obtain ⟨fs9, r8, h1, h2, hw⟩ := hw
        refine aw_getf (k := 9) dX11_count_29 clX11 (by decide) k_957 (Or.inl rfl) h1 h2 ?_
        refine aw_goto (tgt := 66) dX11_count_32 (by decide) ?_
        refine aw_sub (lv' := []) [] rfl ?_
        exact abX11_count_66 l G d hG hd _ _ hw
    · have hw := hw.2 z
      refine aw_aload_n 0 dX11_count_16 rfl rfl ?_
      obtain ⟨fs11, r10, h1, h2, hw⟩ := hw
      refine aw_getf (k := 1) dX11_count_17 clX11 (by decide) k_949 (Or.inl rfl) h1 h2 ?_
      refine aw_goto (tgt := 66) dX11_count_20 (by decide) ?_
      refine aw_sub (lv' := []) [] rfl ?_
      exact abX11_count_66 l G d hG hd _ _ hw
  · have hw := hw.2 z
    refine aw_aload_n 0 dX11_count_4 rfl rfl ?_
    obtain ⟨fs13, r12, h1, h2, hw⟩ := hw
    refine aw_getf (k := 0) dX11_count_5 clX11 (by decide) k_948 (Or.inl rfl) h1 h2 ?_
    refine aw_goto (tgt := 66) dX11_count_8 (by decide) ?_
    refine aw_sub (lv' := []) [] rfl ?_
    exact abX11_count_66 l G d hG hd _ _ hw
-- X11_slot
def wbX11_slot_16 (h : aH) (Q : Int32 → aH → Prop) : Prop :=
  Q ((-1)) h
def wbX11_slot_81 (s0 : Int32) (h : aH) (Q : Int32 → aH → Prop) : Prop :=
  Q s0 h
def wX11_slot (h : aH) (v0 : Nat) (v1 : Int32) (v2 : Int32) (Q : Int32 → aH → Prop) : Prop :=
  wX11_isSlot h v1 (fun r2 h1 => (r2 = 0 → wbX11_slot_16 h1 Q) ∧ (¬ r2 = 0 → wX11_in h1 v2 0 2 (fun r4 h3 => (¬ r4 = 0 → rR h3 v0 9 7 (fun r5 => aI h3 r5 v1 (fun r7 => (¬ v2 = 0 → (¬ r7 = 0 → (¬ v2 = 1 → rR h3 v0 9 2 (fun r8 => aI h3 r8 r7 (fun r10 => (8 ≤ r10 → rR h3 v0 9 5 (fun r11 => aI h3 r11 r7 (fun r13 => wbX11_slot_81 r13 h3 Q))) ∧ (¬ 8 ≤ r10 → rR h3 v0 9 4 (fun r14 => aI h3 r14 r7 (fun r16 => wbX11_slot_81 r16 h3 Q)))))) ∧ (v2 = 1 → rR h3 v0 9 2 (fun r17 => aI h3 r17 r7 (fun r19 => wbX11_slot_81 r19 h3 Q)))) ∧ (r7 = 0 → wbX11_slot_81 0 h3 Q)) ∧ (v2 = 0 → wbX11_slot_81 r7 h3 Q)))) ∧ (r4 = 0 → wbX11_slot_16 h3 Q))))
set_option maxRecDepth 100000 in
theorem abX11_slot_16 (l : Launch) (G : aG) (d : Nat) (hG : a_GT G) (hd : 3 ≤ d) {Q : Int32 → aH → Prop} (h : aH) (hw : wbX11_slot_16  h Q) : AW l G d 0 0 mX11_slot (qI Q) 16 [] [] h := by
  unfold wbX11_slot_16 at hw
  refine aw_iconst (v := (-1)) dX11_slot_16 (by decide) ?_
  exact aw_iret dX11_slot_17 rfl rfl ⟨_, rfl, hw⟩
set_option maxRecDepth 100000 in
theorem abX11_slot_81 (l : Launch) (G : aG) (d : Nat) (hG : a_GT G) (hd : 3 ≤ d) {Q : Int32 → aH → Prop} (s0 : Int32) (h : aH) (hw : wbX11_slot_81 s0 h Q) : AW l G d 0 0 mX11_slot (qI Q) 81 [] [.int s0] h := by
  unfold wbX11_slot_81 at hw
  exact aw_iret dX11_slot_81 rfl rfl ⟨_, rfl, hw⟩
set_option maxRecDepth 100000 in
theorem acX11_slot (l : Launch) (G : aG) (d : Nat) (hG : a_GT G) (hd : 3 ≤ d) {Q : Int32 → aH → Prop} {h : aH} {v0 : Nat} {v1 : Int32} {v2 : Int32} (hw : wX11_slot h v0 v1 v2 Q) : AC l G d 0 0 mX11_slot [.ref v0, .int v1, .int v2] h (qI Q) := by
  refine ac_of iX11_slot (Nat.le_of_ble_eq_true rfl) ?_
  show AW l G d 0 0 mX11_slot (qI Q) 0 [(0, .ref v0), (1, .int v1), (2, .int v2)] [] h
  unfold wX11_slot at hw
  refine aw_iload_n 1 dX11_slot_0 rfl rfl ?_
  refine aw_staticI (As := [.int v1]) (rest := []) dX11_slot_1 (acX11_isSlot l G (d - 1) hG (by omega) hw) iX11_isSlot rfl k_1077 k_1078 (by omega) (by decide) (by decide) rfl (Nat.le_of_ble_eq_true rfl) (fun r2 h1 hw => ?_)
  refine aw_if_eq (tgt := 16) dX11_slot_4 (by decide) (fun z => ?_) (fun z => ?_)
  · have hw := hw.1 z
    refine aw_sub (lv' := []) [] rfl ?_
    exact abX11_slot_16 l G d hG hd _ hw
  · have hw := hw.2 z
    refine aw_iload_n 2 dX11_slot_7 rfl rfl ?_
    refine aw_iconst (v := 0) dX11_slot_8 (by decide) ?_
    refine aw_iconst (v := 2) dX11_slot_9 (by decide) ?_
    refine aw_staticI (As := [.int v2, .int 0, .int 2]) (rest := []) dX11_slot_10 (acX11_in l G (d - 1) hG (by omega) hw) iX11_in rfl k_1080 k_1081 (by omega) (by decide) (by decide) rfl (Nat.le_of_ble_eq_true rfl) (fun r4 h3 hw => ?_)
    refine aw_if_ne (tgt := 18) dX11_slot_13 (by decide) (fun z => ?_) (fun z => ?_)
    · have hw := hw.1 z
      refine aw_aload_n 0 dX11_slot_18 rfl rfl ?_
      obtain ⟨fs6, r5, h1, h2, hw⟩ := hw
      refine aw_getf (k := 7) dX11_slot_19 clX11 (by decide) k_955 (Or.inl rfl) h1 h2 ?_
      refine aw_iload_n 1 dX11_slot_22 rfl rfl ?_
      obtain ⟨_, _, r7, h1, h2, h3, hw⟩ := hw
      refine aw_aI dX11_slot_23 h1 h2 h3 ?_
      refine aw_istore_n (lv' := [(3, .int r7), (0, .ref v0), (1, .int v1), (2, .int v2)]) dX11_slot_24 rfl (by decide) rfl ?_
      refine aw_iload_n 3 dX11_slot_25 rfl rfl ?_
      refine aw_if_ne (tgt := 33) dX11_slot_26 (by decide) (fun z => ?_) (fun z => ?_)
      · have hw := hw.1 z
        refine aw_iload_n 0 dX11_slot_33 rfl rfl ?_
        refine aw_if_ne (tgt := 41) dX11_slot_34 (by decide) (fun z => ?_) (fun z => ?_)
        · have hw := hw.1 z
          refine aw_iload_n 3 dX11_slot_41 rfl rfl ?_
          refine aw_iconst (v := 1) dX11_slot_42 (by decide) ?_
          refine aw_icmp_ne (tgt := 55) dX11_slot_43 (by decide) (fun z => ?_) (fun z => ?_)
          · have hw := hw.1 z
            refine aw_aload_n 1 dX11_slot_55 rfl rfl ?_
            obtain ⟨fs9, r8, h1, h2, hw⟩ := hw
            refine aw_getf (k := 2) dX11_slot_56 clX11 (by decide) k_950 (Or.inl rfl) h1 h2 ?_
            refine aw_iload_n 0 dX11_slot_59 rfl rfl ?_
            obtain ⟨_, _, r10, h1, h2, h3, hw⟩ := hw
            refine aw_aI dX11_slot_60 h1 h2 h3 ?_
            refine aw_bipush (v := 8) dX11_slot_61 (by decide) ?_
            refine aw_icmp_ge (tgt := 75) dX11_slot_63 (by decide) (fun z => ?_) (fun z => ?_)
            · have hw := hw.1 z
              refine aw_aload_n 1 dX11_slot_75 rfl rfl ?_
              obtain ⟨fs12, r11, h1, h2, hw⟩ := hw
              refine aw_getf (k := 5) dX11_slot_76 clX11 (by decide) k_953 (Or.inl rfl) h1 h2 ?_
              refine aw_iload_n 0 dX11_slot_79 rfl rfl ?_
              obtain ⟨_, _, r13, h1, h2, h3, hw⟩ := hw
              refine aw_aI dX11_slot_80 h1 h2 h3 ?_
              refine aw_sub (lv' := []) [] rfl ?_
              exact abX11_slot_81 l G d hG hd _ _ hw
            · have hw := hw.2 z
              refine aw_aload_n 1 dX11_slot_66 rfl rfl ?_
              obtain ⟨fs15, r14, h1, h2, hw⟩ := hw
              refine aw_getf (k := 4) dX11_slot_67 clX11 (by decide) k_952 (Or.inl rfl) h1 h2 ?_
              refine aw_iload_n 0 dX11_slot_70 rfl rfl ?_
              obtain ⟨_, _, r16, h1, h2, h3, hw⟩ := hw
              refine aw_aI dX11_slot_71 h1 h2 h3 ?_
              refine aw_goto (tgt := 81) dX11_slot_72 (by decide) ?_
              refine aw_sub (lv' := []) [] rfl ?_
              exact abX11_slot_81 l G d hG hd _ _ hw
          · have hw := hw.2 z
            refine aw_aload_n 1 dX11_slot_46 rfl rfl ?_
            obtain ⟨fs18, r17, h1, h2, hw⟩ := hw
            refine aw_getf (k := 2) dX11_slot_47 clX11 (by decide) k_950 (Or.inl rfl) h1 h2 ?_
            refine aw_iload_n 0 dX11_slot_50 rfl rfl ?_
            obtain ⟨_, _, r19, h1, h2, h3, hw⟩ := hw
            refine aw_aI dX11_slot_51 h1 h2 h3 ?_
            refine aw_goto (tgt := 81) dX11_slot_52 (by decide) ?_
            refine aw_sub (lv' := []) [] rfl ?_
            exact abX11_slot_81 l G d hG hd _ _ hw
        · have hw := hw.2 z
          refine aw_iconst (v := 0) dX11_slot_37 (by decide) ?_
          refine aw_goto (tgt := 81) dX11_slot_38 (by decide) ?_
          refine aw_sub (lv' := []) [] rfl ?_
          exact abX11_slot_81 l G d hG hd _ _ hw
      · have hw := hw.2 z
        refine aw_iload_n 0 dX11_slot_29 rfl rfl ?_
        refine aw_goto (tgt := 81) dX11_slot_30 (by decide) ?_
        refine aw_sub (lv' := []) [] rfl ?_
        exact abX11_slot_81 l G d hG hd _ _ hw
    · have hw := hw.2 z
      refine aw_sub (lv' := []) [] rfl ?_
      exact abX11_slot_16 l G d hG hd _ hw
-- X11_item
def wbX11_item_69 (s0 : Int64) (h : aH) (Q : Int64 → aH → Prop) : Prop :=
  Q s0 h
def wbX11_item_42 (v0 : Nat) (v1 : Int32) (v2 : Int32) (s0 : Int32) (h : aH) (Q : Int64 → aH → Prop) : Prop :=
  (s0 = 0 → wbX11_item_69 ((0 : Int64)) h Q) ∧ (¬ s0 = 0 → rR h v0 9 6 (fun r1 => rR h v0 9 3 (fun r3 => rR h v0 9 7 (fun r5 => aI h r5 v1 (fun r7 => aI h r3 r7 (fun r8 => aL h r1 ((r8 + v2)) (fun r9 => wbX11_item_69 r9 h Q)))))))
def wbX11_item_41 (v0 : Nat) (v1 : Int32) (v2 : Int32) (h : aH) (Q : Int64 → aH → Prop) : Prop :=
  wbX11_item_42 v0 v1 v2 0 h Q
def wX11_item (h : aH) (v0 : Nat) (v1 : Int32) (v2 : Int32) (Q : Int64 → aH → Prop) : Prop :=
  wX11_isSlot h v1 (fun r11 h10 => (r11 = 0 → wbX11_item_41 v0 v1 v2 h10 Q) ∧ (¬ r11 = 0 → rR h10 v0 9 7 (fun r12 => aI h10 r12 v1 (fun r14 => (r14 = 0 → wbX11_item_41 v0 v1 v2 h10 Q) ∧ (¬ r14 = 0 → rR h10 v0 9 4 (fun r15 => rR h10 v0 9 7 (fun r17 => aI h10 r17 v1 (fun r19 => aI h10 r15 r19 (fun r20 => wX11_in h10 v2 0 ((r20 - 1)) (fun r22 h21 => (r22 = 0 → wbX11_item_41 v0 v1 v2 h21 Q) ∧ (¬ r22 = 0 → wbX11_item_42 v0 v1 v2 1 h21 Q)))))))))))
set_option maxRecDepth 100000 in
theorem abX11_item_69 (l : Launch) (G : aG) (d : Nat) (hG : a_GT G) (hd : 3 ≤ d) {Q : Int64 → aH → Prop} (s0 : Int64) (h : aH) (hw : wbX11_item_69 s0 h Q) : AW l G d 0 0 mX11_item (qL Q) 69 [] [.long s0] h := by
  unfold wbX11_item_69 at hw
  exact aw_lret dX11_item_69 rfl ⟨_, rfl, hw⟩
set_option maxRecDepth 100000 in
theorem abX11_item_42 (l : Launch) (G : aG) (d : Nat) (hG : a_GT G) (hd : 3 ≤ d) {Q : Int64 → aH → Prop} (v0 : Nat) (v1 : Int32) (v2 : Int32) (s0 : Int32) (h : aH) (hw : wbX11_item_42 v0 v1 v2 s0 h Q) : AW l G d 0 0 mX11_item (qL Q) 42 [(0, .ref v0), (1, .int v1), (2, .int v2)] [.int s0] h := by
  unfold wbX11_item_42 at hw
  refine aw_istore_n (lv' := [(3, .int s0), (0, .ref v0), (1, .int v1), (2, .int v2)]) dX11_item_42 rfl (by decide) rfl ?_
  refine aw_iload_n 0 dX11_item_43 rfl rfl ?_
  refine aw_if_eq (tgt := 68) dX11_item_44 (by decide) (fun z => ?_) (fun z => ?_)
  · have hw := hw.1 z
    refine aw_lconst (v := 0) dX11_item_68 (by decide) ?_
    refine aw_sub (lv' := []) [] rfl ?_
    exact abX11_item_69 l G d hG hd _ _ hw
  · have hw := hw.2 z
    refine aw_aload_n 1 dX11_item_47 rfl rfl ?_
    obtain ⟨fs2, r1, h1, h2, hw⟩ := hw
    refine aw_getf (k := 6) dX11_item_48 clX11 (by decide) k_954 (Or.inl rfl) h1 h2 ?_
    refine aw_aload_n 1 dX11_item_51 rfl rfl ?_
    obtain ⟨fs4, r3, h1, h2, hw⟩ := hw
    refine aw_getf (k := 3) dX11_item_52 clX11 (by decide) k_951 (Or.inl rfl) h1 h2 ?_
    refine aw_aload_n 1 dX11_item_55 rfl rfl ?_
    obtain ⟨fs6, r5, h1, h2, hw⟩ := hw
    refine aw_getf (k := 7) dX11_item_56 clX11 (by decide) k_955 (Or.inl rfl) h1 h2 ?_
    refine aw_iload_n 2 dX11_item_59 rfl rfl ?_
    obtain ⟨_, _, r7, h1, h2, h3, hw⟩ := hw
    refine aw_aI dX11_item_60 h1 h2 h3 ?_
    obtain ⟨_, _, r8, h1, h2, h3, hw⟩ := hw
    refine aw_aI dX11_item_61 h1 h2 h3 ?_
    refine aw_iload_n 3 dX11_item_62 rfl rfl ?_
    refine aw_iadd dX11_item_63 ?_
    obtain ⟨_, _, r9, h1, h2, h3, hw⟩ := hw
    refine aw_aL dX11_item_64 h1 h2 h3 ?_
    refine aw_goto (tgt := 69) dX11_item_65 (by decide) ?_
    refine aw_sub (lv' := []) [] rfl ?_
    exact abX11_item_69 l G d hG hd _ _ hw
set_option maxRecDepth 100000 in
theorem abX11_item_41 (l : Launch) (G : aG) (d : Nat) (hG : a_GT G) (hd : 3 ≤ d) {Q : Int64 → aH → Prop} (v0 : Nat) (v1 : Int32) (v2 : Int32) (h : aH) (hw : wbX11_item_41 v0 v1 v2 h Q) : AW l G d 0 0 mX11_item (qL Q) 41 [(0, .ref v0), (1, .int v1), (2, .int v2)] [] h := by
  unfold wbX11_item_41 at hw
  refine aw_iconst (v := 0) dX11_item_41 (by decide) ?_
  exact abX11_item_42 l G d hG hd _ _ _ _ _ hw
set_option maxRecDepth 100000 in
theorem acX11_item (l : Launch) (G : aG) (d : Nat) (hG : a_GT G) (hd : 3 ≤ d) {Q : Int64 → aH → Prop} {h : aH} {v0 : Nat} {v1 : Int32} {v2 : Int32} (hw : wX11_item h v0 v1 v2 Q) : AC l G d 0 0 mX11_item [.ref v0, .int v1, .int v2] h (qL Q) := by
  refine ac_of iX11_item (Nat.le_of_ble_eq_true rfl) ?_
  show AW l G d 0 0 mX11_item (qL Q) 0 [(0, .ref v0), (1, .int v1), (2, .int v2)] [] h
  unfold wX11_item at hw
  refine aw_iload_n 1 dX11_item_0 rfl rfl ?_
  refine aw_staticI (As := [.int v1]) (rest := []) dX11_item_1 (acX11_isSlot l G (d - 1) hG (by omega) hw) iX11_isSlot rfl k_1077 k_1078 (by omega) (by decide) (by decide) rfl (Nat.le_of_ble_eq_true rfl) (fun r11 h10 hw => ?_)
  refine aw_if_eq (tgt := 41) dX11_item_4 (by decide) (fun z => ?_) (fun z => ?_)
  · have hw := hw.1 z
    exact abX11_item_41 l G d hG hd _ _ _ _ hw
  · have hw := hw.2 z
    refine aw_aload_n 0 dX11_item_7 rfl rfl ?_
    obtain ⟨fs13, r12, h1, h2, hw⟩ := hw
    refine aw_getf (k := 7) dX11_item_8 clX11 (by decide) k_955 (Or.inl rfl) h1 h2 ?_
    refine aw_iload_n 1 dX11_item_11 rfl rfl ?_
    obtain ⟨_, _, r14, h1, h2, h3, hw⟩ := hw
    refine aw_aI dX11_item_12 h1 h2 h3 ?_
    refine aw_if_eq (tgt := 41) dX11_item_13 (by decide) (fun z => ?_) (fun z => ?_)
    · have hw := hw.1 z
      exact abX11_item_41 l G d hG hd _ _ _ _ hw
    · have hw := hw.2 z
      refine aw_iload_n 2 dX11_item_16 rfl rfl ?_
      refine aw_iconst (v := 0) dX11_item_17 (by decide) ?_
      refine aw_aload_n 0 dX11_item_18 rfl rfl ?_
      obtain ⟨fs16, r15, h1, h2, hw⟩ := hw
      refine aw_getf (k := 4) dX11_item_19 clX11 (by decide) k_952 (Or.inl rfl) h1 h2 ?_
      refine aw_aload_n 0 dX11_item_22 rfl rfl ?_
      obtain ⟨fs18, r17, h1, h2, hw⟩ := hw
      refine aw_getf (k := 7) dX11_item_23 clX11 (by decide) k_955 (Or.inl rfl) h1 h2 ?_
      refine aw_iload_n 1 dX11_item_26 rfl rfl ?_
      obtain ⟨_, _, r19, h1, h2, h3, hw⟩ := hw
      refine aw_aI dX11_item_27 h1 h2 h3 ?_
      obtain ⟨_, _, r20, h1, h2, h3, hw⟩ := hw
      refine aw_aI dX11_item_28 h1 h2 h3 ?_
      refine aw_iconst (v := 1) dX11_item_29 (by decide) ?_
      refine aw_isub dX11_item_30 ?_
      refine aw_staticI (As := [.int v2, .int 0, .int (r20 - 1)]) (rest := []) dX11_item_31 (acX11_in l G (d - 1) hG (by omega) hw) iX11_in rfl k_1080 k_1081 (by omega) (by decide) (by decide) rfl (Nat.le_of_ble_eq_true rfl) (fun r22 h21 hw => ?_)
      refine aw_if_eq (tgt := 41) dX11_item_34 (by decide) (fun z => ?_) (fun z => ?_)
      · have hw := hw.1 z
        exact abX11_item_41 l G d hG hd _ _ _ _ hw
      · have hw := hw.2 z
        refine aw_iconst (v := 1) dX11_item_37 (by decide) ?_
        refine aw_goto (tgt := 42) dX11_item_38 (by decide) ?_
        exact abX11_item_42 l G d hG hd _ _ _ _ _ hw
-- X11_register
def wbX11_register_17 (s0 : Int64) (h : aH) (Q : Int64 → aH → Prop) : Prop :=
  Q s0 h
def wX11_register (h : aH) (v0 : Nat) (v1 : Int32) (Q : Int64 → aH → Prop) : Prop :=
  wX11_isRegister h v1 (fun r2 h1 => (r2 = 0 → wbX11_register_17 ((0 : Int64)) h1 Q) ∧ (¬ r2 = 0 → rR h1 v0 9 8 (fun r3 => aL h1 r3 v1 (fun r5 => wbX11_register_17 r5 h1 Q))))
set_option maxRecDepth 100000 in
theorem abX11_register_17 (l : Launch) (G : aG) (d : Nat) (hG : a_GT G) (hd : 3 ≤ d) {Q : Int64 → aH → Prop} (s0 : Int64) (h : aH) (hw : wbX11_register_17 s0 h Q) : AW l G d 0 0 mX11_register (qL Q) 17 [] [.long s0] h := by
  unfold wbX11_register_17 at hw
  exact aw_lret dX11_register_17 rfl ⟨_, rfl, hw⟩
set_option maxRecDepth 100000 in
theorem acX11_register (l : Launch) (G : aG) (d : Nat) (hG : a_GT G) (hd : 3 ≤ d) {Q : Int64 → aH → Prop} {h : aH} {v0 : Nat} {v1 : Int32} (hw : wX11_register h v0 v1 Q) : AC l G d 0 0 mX11_register [.ref v0, .int v1] h (qL Q) := by
  refine ac_of iX11_register (Nat.le_of_ble_eq_true rfl) ?_
  show AW l G d 0 0 mX11_register (qL Q) 0 [(0, .ref v0), (1, .int v1)] [] h
  unfold wX11_register at hw
  refine aw_iload_n 1 dX11_register_0 rfl rfl ?_
  refine aw_staticI (As := [.int v1]) (rest := []) dX11_register_1 (acX11_isRegister l G (d - 1) hG (by omega) hw) iX11_isRegister rfl k_1083 k_1084 (by omega) (by decide) (by decide) rfl (Nat.le_of_ble_eq_true rfl) (fun r2 h1 hw => ?_)
  refine aw_if_eq (tgt := 16) dX11_register_4 (by decide) (fun z => ?_) (fun z => ?_)
  · have hw := hw.1 z
    refine aw_lconst (v := 0) dX11_register_16 (by decide) ?_
    refine aw_sub (lv' := []) [] rfl ?_
    exact abX11_register_17 l G d hG hd _ _ hw
  · have hw := hw.2 z
    refine aw_aload_n 0 dX11_register_7 rfl rfl ?_
    obtain ⟨fs4, r3, h1, h2, hw⟩ := hw
    refine aw_getf (k := 8) dX11_register_8 clX11 (by decide) k_956 (Or.inl rfl) h1 h2 ?_
    refine aw_iload_n 1 dX11_register_11 rfl rfl ?_
    obtain ⟨_, _, r5, h1, h2, h3, hw⟩ := hw
    refine aw_aL dX11_register_12 h1 h2 h3 ?_
    refine aw_goto (tgt := 17) dX11_register_13 (by decide) ?_
    refine aw_sub (lv' := []) [] rfl ?_
    exact abX11_register_17 l G d hG hd _ _ hw
-- X11_plainTwins
def wbX11_plainTwins_113 (v3 : Int32) (h : aH) (Q : Int32 → aH → Prop) : Prop :=
  oB v3 ∧ Q v3 h
def wbX11_plainTwins_106 (K54 : Nat → Int32 → Int32 → Int32 → Int32 →  aH → Prop) (v0 : Nat) (v1 : Int32) (v2 : Int32) (v4 : Int32) (s0 : Int32) (h : aH) (Q : Int32 → aH → Prop) : Prop :=
  K54 v0 v1 v2 s0 ((v4 + 1)) h
def wbX11_plainTwins_54_i (K54 : Nat → Int32 → Int32 → Int32 → Int32 →  aH → Prop) (v0 : Nat) (v1 : Int32) (v2 : Int32) (v3 : Int32) (v4 : Int32) (h : aH) (Q : Int32 → aH → Prop) : Prop :=
  (v3 = 0 → wbX11_plainTwins_113 v3 h Q) ∧ (¬ v3 = 0 → rR h v0 9 4 (fun r1 => aI h r1 v1 (fun r3 => (r3 ≤ v4 → wbX11_plainTwins_113 v3 h Q) ∧ (¬ r3 ≤ v4 → rR h v0 9 6 (fun r4 => rR h v0 9 3 (fun r6 => aI h r6 v1 (fun r8 => aL h r4 ((r8 + v4)) (fun r9 => rR h v0 9 6 (fun r10 => rR h v0 9 3 (fun r12 => aI h r12 v2 (fun r14 => aL h r10 ((r14 + v4)) (fun r15 => (¬ (lg_cmp r9 r15) = 0 → wbX11_plainTwins_106  K54 v0 v1 v2 v4 0 h Q) ∧ ((lg_cmp r9 r15) = 0 → wbX11_plainTwins_106  K54 v0 v1 v2 v4 1 h Q)))))))))))))
def wbX11_plainTwins_54 (n : Nat) (v0 : Nat) (v1 : Int32) (v2 : Int32) (v3 : Int32) (v4 : Int32) (h : aH) (Q : Int32 → aH → Prop) : Prop := match n with
  | 0 => False
  | n + 1 => wbX11_plainTwins_54_i (fun v0 v1 v2 v3 v4 h => wbX11_plainTwins_54 n v0 v1 v2 v3 v4 h Q) v0 v1 v2 v3 v4 h Q
def wbX11_plainTwins_50 (v0 : Nat) (v1 : Int32) (v2 : Int32) (s0 : Int32) (h : aH) (Q : Int32 → aH → Prop) : Prop :=
  ∃ n, wbX11_plainTwins_54 n v0 v1 v2 s0 0 h Q
def wbX11_plainTwins_49 (v0 : Nat) (v1 : Int32) (v2 : Int32) (h : aH) (Q : Int32 → aH → Prop) : Prop :=
  wbX11_plainTwins_50 v0 v1 v2 0 h Q
def wX11_plainTwins (h : aH) (v0 : Nat) (v1 : Int32) (v2 : Int32) (Q : Int32 → aH → Prop) : Prop :=
  rR h v0 9 2 (fun r16 => aI h r16 v1 (fun r18 => rR h v0 9 2 (fun r19 => aI h r19 v2 (fun r21 => (¬ r18 = r21 → wbX11_plainTwins_49 v0 v1 v2 h Q) ∧ (r18 = r21 → rR h v0 9 4 (fun r22 => aI h r22 v1 (fun r24 => rR h v0 9 4 (fun r25 => aI h r25 v2 (fun r27 => (¬ r24 = r27 → wbX11_plainTwins_49 v0 v1 v2 h Q) ∧ (r24 = r27 → rR h v0 9 5 (fun r28 => aI h r28 v1 (fun r30 => rR h v0 9 5 (fun r31 => aI h r31 v2 (fun r33 => (¬ r30 = r33 → wbX11_plainTwins_49 v0 v1 v2 h Q) ∧ (r30 = r33 → wbX11_plainTwins_50 v0 v1 v2 1 h Q)))))))))))))))
set_option maxRecDepth 100000 in
theorem abX11_plainTwins_113 (l : Launch) (G : aG) (d : Nat) (hG : a_GT G) (hd : 1 ≤ d) {Q : Int32 → aH → Prop} (v3 : Int32) (h : aH) (hw : wbX11_plainTwins_113 v3 h Q) : AW l G d 0 0 mX11_plainTwins (qI Q) 113 [(3, .int v3)] [] h := by
  unfold wbX11_plainTwins_113 at hw
  refine aw_iload_n 0 dX11_plainTwins_113 rfl rfl ?_
  exact aw_iret dX11_plainTwins_114 rfl (a_nB hw.1) ⟨_, rfl, hw.2⟩
set_option maxRecDepth 100000 in
theorem abX11_plainTwins_106 (l : Launch) (G : aG) (d : Nat) (hG : a_GT G) (hd : 1 ≤ d) {Q : Int32 → aH → Prop} {K54 : Nat → Int32 → Int32 → Int32 → Int32 →  aH → Prop} (kk54 : ∀ (v0 : Nat) (v1 : Int32) (v2 : Int32) (v3 : Int32) (v4 : Int32) (h : aH), K54 v0 v1 v2 v3 v4 h → AW l G d 0 0 mX11_plainTwins (qI Q) 54 [(0, .ref v0), (1, .int v1), (2, .int v2), (3, .int v3), (4, .int v4)] [] h) (v0 : Nat) (v1 : Int32) (v2 : Int32) (v4 : Int32) (s0 : Int32) (h : aH) (hw : wbX11_plainTwins_106 K54 v0 v1 v2 v4 s0 h Q) : AW l G d 0 0 mX11_plainTwins (qI Q) 106 [(0, .ref v0), (1, .int v1), (2, .int v2), (4, .int v4)] [.int s0] h := by
  unfold wbX11_plainTwins_106 at hw
  refine aw_istore_n (lv' := [(3, .int s0), (0, .ref v0), (1, .int v1), (2, .int v2), (4, .int v4)]) dX11_plainTwins_106 rfl (by decide) rfl ?_
  refine aw_iinc (v := (v4 + 1)) (lv' := [(4, .int (v4 + 1)), (3, .int s0), (0, .ref v0), (1, .int v1), (2, .int v2)]) 4 dX11_plainTwins_107 rfl rfl (by decide) rfl ?_
  refine aw_goto (tgt := 54) dX11_plainTwins_110 (by decide) ?_
  refine aw_sub (lv' := [(0, .ref v0), (1, .int v1), (2, .int v2), (3, .int s0), (4, .int (v4 + 1))]) [2, 3, 4, 1, 0] rfl ?_
  exact kk54 _ _ _ _ _ _ hw
set_option maxRecDepth 100000 in
theorem abX11_plainTwins_54_i (l : Launch) (G : aG) (d : Nat) (hG : a_GT G) (hd : 1 ≤ d) {Q : Int32 → aH → Prop} {K54 : Nat → Int32 → Int32 → Int32 → Int32 →  aH → Prop} (kk54 : ∀ (v0 : Nat) (v1 : Int32) (v2 : Int32) (v3 : Int32) (v4 : Int32) (h : aH), K54 v0 v1 v2 v3 v4 h → AW l G d 0 0 mX11_plainTwins (qI Q) 54 [(0, .ref v0), (1, .int v1), (2, .int v2), (3, .int v3), (4, .int v4)] [] h) (v0 : Nat) (v1 : Int32) (v2 : Int32) (v3 : Int32) (v4 : Int32) (h : aH) (hw : wbX11_plainTwins_54_i K54 v0 v1 v2 v3 v4 h Q) : AW l G d 0 0 mX11_plainTwins (qI Q) 54 [(0, .ref v0), (1, .int v1), (2, .int v2), (3, .int v3), (4, .int v4)] [] h := by
  unfold wbX11_plainTwins_54_i at hw
  refine aw_iload_n 3 dX11_plainTwins_54 rfl rfl ?_
  refine aw_if_eq (tgt := 113) dX11_plainTwins_55 (by decide) (fun z => ?_) (fun z => ?_)
  · have hw := hw.1 z
    refine aw_sub (lv' := [(3, .int v3)]) [3] rfl ?_
    exact abX11_plainTwins_113 l G d hG hd _ _ hw
  · have hw := hw.2 z
    refine aw_iload 4 dX11_plainTwins_58 rfl ?_
    refine aw_aload_n 0 dX11_plainTwins_60 rfl rfl ?_
    obtain ⟨fs2, r1, h1, h2, hw⟩ := hw
    refine aw_getf (k := 4) dX11_plainTwins_61 clX11 (by decide) k_952 (Or.inl rfl) h1 h2 ?_
    refine aw_iload_n 1 dX11_plainTwins_64 rfl rfl ?_
    obtain ⟨_, _, r3, h1, h2, h3, hw⟩ := hw
    refine aw_aI dX11_plainTwins_65 h1 h2 h3 ?_
    refine aw_icmp_ge (tgt := 113) dX11_plainTwins_66 (by decide) (fun z => ?_) (fun z => ?_)
    · have hw := hw.1 z
      refine aw_sub (lv' := [(3, .int v3)]) [3] rfl ?_
      exact abX11_plainTwins_113 l G d hG hd _ _ hw
    · have hw := hw.2 z
      refine aw_aload_n 0 dX11_plainTwins_69 rfl rfl ?_
      obtain ⟨fs5, r4, h1, h2, hw⟩ := hw
      refine aw_getf (k := 6) dX11_plainTwins_70 clX11 (by decide) k_954 (Or.inl rfl) h1 h2 ?_
      refine aw_aload_n 0 dX11_plainTwins_73 rfl rfl ?_
      obtain ⟨fs7, r6, h1, h2, hw⟩ := hw
      refine aw_getf (k := 3) dX11_plainTwins_74 clX11 (by decide) k_951 (Or.inl rfl) h1 h2 ?_
      refine aw_iload_n 1 dX11_plainTwins_77 rfl rfl ?_
      obtain ⟨_, _, r8, h1, h2, h3, hw⟩ := hw
      refine aw_aI dX11_plainTwins_78 h1 h2 h3 ?_
      refine aw_iload 4 dX11_plainTwins_79 rfl ?_
      refine aw_iadd dX11_plainTwins_81 ?_
      obtain ⟨_, _, r9, h1, h2, h3, hw⟩ := hw
      refine aw_aL dX11_plainTwins_82 h1 h2 h3 ?_
      refine aw_aload_n 0 dX11_plainTwins_83 rfl rfl ?_
      obtain ⟨fs11, r10, h1, h2, hw⟩ := hw
      refine aw_getf (k := 6) dX11_plainTwins_84 clX11 (by decide) k_954 (Or.inl rfl) h1 h2 ?_
      refine aw_aload_n 0 dX11_plainTwins_87 rfl rfl ?_
      obtain ⟨fs13, r12, h1, h2, hw⟩ := hw
      refine aw_getf (k := 3) dX11_plainTwins_88 clX11 (by decide) k_951 (Or.inl rfl) h1 h2 ?_
      refine aw_iload_n 2 dX11_plainTwins_91 rfl rfl ?_
      obtain ⟨_, _, r14, h1, h2, h3, hw⟩ := hw
      refine aw_aI dX11_plainTwins_92 h1 h2 h3 ?_
      refine aw_iload 4 dX11_plainTwins_93 rfl ?_
      refine aw_iadd dX11_plainTwins_95 ?_
      obtain ⟨_, _, r15, h1, h2, h3, hw⟩ := hw
      refine aw_aL dX11_plainTwins_96 h1 h2 h3 ?_
      refine aw_lcmp dX11_plainTwins_97 ?_
      refine aw_if_ne (tgt := 105) dX11_plainTwins_98 (by decide) (fun z => ?_) (fun z => ?_)
      · have hw := hw.1 z
        refine aw_iconst (v := 0) dX11_plainTwins_105 (by decide) ?_
        refine aw_sub (lv' := [(0, .ref v0), (1, .int v1), (2, .int v2), (4, .int v4)]) [0, 1, 2, 4] rfl ?_
        exact abX11_plainTwins_106 l G d hG hd kk54 _ _ _ _ _ _ hw
      · have hw := hw.2 z
        refine aw_iconst (v := 1) dX11_plainTwins_101 (by decide) ?_
        refine aw_goto (tgt := 106) dX11_plainTwins_102 (by decide) ?_
        refine aw_sub (lv' := [(0, .ref v0), (1, .int v1), (2, .int v2), (4, .int v4)]) [0, 1, 2, 4] rfl ?_
        exact abX11_plainTwins_106 l G d hG hd kk54 _ _ _ _ _ _ hw
set_option maxRecDepth 100000 in
theorem abX11_plainTwins_54 (l : Launch) (G : aG) (d : Nat) (hG : a_GT G) (hd : 1 ≤ d) {Q : Int32 → aH → Prop} (n : Nat) : ∀  (v0 : Nat) (v1 : Int32) (v2 : Int32) (v3 : Int32) (v4 : Int32) (h : aH), wbX11_plainTwins_54 n v0 v1 v2 v3 v4 h Q → AW l G d 0 0 mX11_plainTwins (qI Q) 54 [(0, .ref v0), (1, .int v1), (2, .int v2), (3, .int v3), (4, .int v4)] [] h := by
  induction n with
  | zero => exact fun _ _ _ _ _ _ hw => hw.elim
  | succ n ih => exact fun _ _ _ _ _ _ hw => abX11_plainTwins_54_i l G d hG hd ih _ _ _ _ _ _ hw
set_option maxRecDepth 100000 in
theorem abX11_plainTwins_50 (l : Launch) (G : aG) (d : Nat) (hG : a_GT G) (hd : 1 ≤ d) {Q : Int32 → aH → Prop} (v0 : Nat) (v1 : Int32) (v2 : Int32) (s0 : Int32) (h : aH) (hw : wbX11_plainTwins_50 v0 v1 v2 s0 h Q) : AW l G d 0 0 mX11_plainTwins (qI Q) 50 [(0, .ref v0), (1, .int v1), (2, .int v2)] [.int s0] h := by
  unfold wbX11_plainTwins_50 at hw
  refine aw_istore_n (lv' := [(3, .int s0), (0, .ref v0), (1, .int v1), (2, .int v2)]) dX11_plainTwins_50 rfl (by decide) rfl ?_
  refine aw_iconst (v := 0) dX11_plainTwins_51 (by decide) ?_
  refine aw_istore (lv' := [(4, .int 0), (3, .int s0), (0, .ref v0), (1, .int v1), (2, .int v2)]) dX11_plainTwins_52 (by decide) rfl ?_
  obtain ⟨n, hw⟩ := hw
  refine aw_sub (lv' := [(0, .ref v0), (1, .int v1), (2, .int v2), (3, .int s0), (4, .int 0)]) [2, 3, 4, 1, 0] rfl ?_
  exact abX11_plainTwins_54 l G d hG hd n _ _ _ _ _ _ hw
set_option maxRecDepth 100000 in
theorem abX11_plainTwins_49 (l : Launch) (G : aG) (d : Nat) (hG : a_GT G) (hd : 1 ≤ d) {Q : Int32 → aH → Prop} (v0 : Nat) (v1 : Int32) (v2 : Int32) (h : aH) (hw : wbX11_plainTwins_49 v0 v1 v2 h Q) : AW l G d 0 0 mX11_plainTwins (qI Q) 49 [(0, .ref v0), (1, .int v1), (2, .int v2)] [] h := by
  unfold wbX11_plainTwins_49 at hw
  refine aw_iconst (v := 0) dX11_plainTwins_49 (by decide) ?_
  exact abX11_plainTwins_50 l G d hG hd _ _ _ _ _ hw
set_option maxRecDepth 100000 in
theorem acX11_plainTwins (l : Launch) (G : aG) (d : Nat) (hG : a_GT G) (hd : 1 ≤ d) {Q : Int32 → aH → Prop} {h : aH} {v0 : Nat} {v1 : Int32} {v2 : Int32} (hw : wX11_plainTwins h v0 v1 v2 Q) : AC l G d 0 0 mX11_plainTwins [.ref v0, .int v1, .int v2] h (qI Q) := by
  refine ac_of iX11_plainTwins (Nat.le_of_ble_eq_true rfl) ?_
  show AW l G d 0 0 mX11_plainTwins (qI Q) 0 [(0, .ref v0), (1, .int v1), (2, .int v2)] [] h
  unfold wX11_plainTwins at hw
  refine aw_aload_n 0 dX11_plainTwins_0 rfl rfl ?_
  obtain ⟨fs17, r16, h1, h2, hw⟩ := hw
  refine aw_getf (k := 2) dX11_plainTwins_1 clX11 (by decide) k_950 (Or.inl rfl) h1 h2 ?_
  refine aw_iload_n 1 dX11_plainTwins_4 rfl rfl ?_
  obtain ⟨_, _, r18, h1, h2, h3, hw⟩ := hw
  refine aw_aI dX11_plainTwins_5 h1 h2 h3 ?_
  refine aw_aload_n 0 dX11_plainTwins_6 rfl rfl ?_
  obtain ⟨fs20, r19, h1, h2, hw⟩ := hw
  refine aw_getf (k := 2) dX11_plainTwins_7 clX11 (by decide) k_950 (Or.inl rfl) h1 h2 ?_
  refine aw_iload_n 2 dX11_plainTwins_10 rfl rfl ?_
  obtain ⟨_, _, r21, h1, h2, h3, hw⟩ := hw
  refine aw_aI dX11_plainTwins_11 h1 h2 h3 ?_
  refine aw_icmp_ne (tgt := 49) dX11_plainTwins_12 (by decide) (fun z => ?_) (fun z => ?_)
  · have hw := hw.1 z
    exact abX11_plainTwins_49 l G d hG hd _ _ _ _ hw
  · have hw := hw.2 z
    refine aw_aload_n 0 dX11_plainTwins_15 rfl rfl ?_
    obtain ⟨fs23, r22, h1, h2, hw⟩ := hw
    refine aw_getf (k := 4) dX11_plainTwins_16 clX11 (by decide) k_952 (Or.inl rfl) h1 h2 ?_
    refine aw_iload_n 1 dX11_plainTwins_19 rfl rfl ?_
    obtain ⟨_, _, r24, h1, h2, h3, hw⟩ := hw
    refine aw_aI dX11_plainTwins_20 h1 h2 h3 ?_
    refine aw_aload_n 0 dX11_plainTwins_21 rfl rfl ?_
    obtain ⟨fs26, r25, h1, h2, hw⟩ := hw
    refine aw_getf (k := 4) dX11_plainTwins_22 clX11 (by decide) k_952 (Or.inl rfl) h1 h2 ?_
    refine aw_iload_n 2 dX11_plainTwins_25 rfl rfl ?_
    obtain ⟨_, _, r27, h1, h2, h3, hw⟩ := hw
    refine aw_aI dX11_plainTwins_26 h1 h2 h3 ?_
    refine aw_icmp_ne (tgt := 49) dX11_plainTwins_27 (by decide) (fun z => ?_) (fun z => ?_)
    · have hw := hw.1 z
      exact abX11_plainTwins_49 l G d hG hd _ _ _ _ hw
    · have hw := hw.2 z
      refine aw_aload_n 0 dX11_plainTwins_30 rfl rfl ?_
      obtain ⟨fs29, r28, h1, h2, hw⟩ := hw
      refine aw_getf (k := 5) dX11_plainTwins_31 clX11 (by decide) k_953 (Or.inl rfl) h1 h2 ?_
      refine aw_iload_n 1 dX11_plainTwins_34 rfl rfl ?_
      obtain ⟨_, _, r30, h1, h2, h3, hw⟩ := hw
      refine aw_aI dX11_plainTwins_35 h1 h2 h3 ?_
      refine aw_aload_n 0 dX11_plainTwins_36 rfl rfl ?_
      obtain ⟨fs32, r31, h1, h2, hw⟩ := hw
      refine aw_getf (k := 5) dX11_plainTwins_37 clX11 (by decide) k_953 (Or.inl rfl) h1 h2 ?_
      refine aw_iload_n 2 dX11_plainTwins_40 rfl rfl ?_
      obtain ⟨_, _, r33, h1, h2, h3, hw⟩ := hw
      refine aw_aI dX11_plainTwins_41 h1 h2 h3 ?_
      refine aw_icmp_ne (tgt := 49) dX11_plainTwins_42 (by decide) (fun z => ?_) (fun z => ?_)
      · have hw := hw.1 z
        exact abX11_plainTwins_49 l G d hG hd _ _ _ _ hw
      · have hw := hw.2 z
        refine aw_iconst (v := 1) dX11_plainTwins_45 (by decide) ?_
        refine aw_goto (tgt := 50) dX11_plainTwins_46 (by decide) ?_
        exact abX11_plainTwins_50 l G d hG hd _ _ _ _ _ hw
-- X11_twins
def wbX11_twins_20 (v0 : Nat) (v1 : Int32) (v2 : Int32) (h : aH) (Q : Int32 → aH → Prop) : Prop :=
  isO h v0 9 (wX11_plainTwins h v0 v1 v2 (fun r2 h1 => oB r2 ∧ Q r2 h1))
def wbX11_twins_140 (v3 : Int32) (h : aH) (Q : Int32 → aH → Prop) : Prop :=
  oB v3 ∧ Q v3 h
def wbX11_twins_133 (K51 : Nat → Int32 → Int32 → Int32 → Int32 →  aH → Prop) (v0 : Nat) (v1 : Int32) (v2 : Int32) (v4 : Int32) (s0 : Int32) (h : aH) (Q : Int32 → aH → Prop) : Prop :=
  K51 v0 v1 v2 s0 ((v4 + 1)) h
def wbX11_twins_128 (K51 : Nat → Int32 → Int32 → Int32 → Int32 →  aH → Prop) (v0 : Nat) (v1 : Int32) (v2 : Int32) (v4 : Int32) (h : aH) (Q : Int32 → aH → Prop) : Prop :=
  wbX11_twins_133  K51 v0 v1 v2 v4 1 h Q
def wbX11_twins_132 (K51 : Nat → Int32 → Int32 → Int32 → Int32 →  aH → Prop) (v0 : Nat) (v1 : Int32) (v2 : Int32) (v4 : Int32) (h : aH) (Q : Int32 → aH → Prop) : Prop :=
  wbX11_twins_133  K51 v0 v1 v2 v4 0 h Q
def wbX11_twins_51_i (K51 : Nat → Int32 → Int32 → Int32 → Int32 →  aH → Prop) (v0 : Nat) (v1 : Int32) (v2 : Int32) (v3 : Int32) (v4 : Int32) (h : aH) (Q : Int32 → aH → Prop) : Prop :=
  (v3 = 0 → wbX11_twins_140 v3 h Q) ∧ (¬ v3 = 0 → rR h v0 9 4 (fun r3 => aI h r3 v1 (fun r5 => (r5 ≤ v4 → wbX11_twins_140 v3 h Q) ∧ (¬ r5 ≤ v4 → rR h v0 9 6 (fun r6 => rR h v0 9 3 (fun r8 => aI h r8 v1 (fun r10 => aL h r6 ((r10 + v4)) (fun r11 => rR h v0 9 6 (fun r12 => rR h v0 9 3 (fun r14 => aI h r14 v2 (fun r16 => aL h r12 ((r16 + v4)) (fun r17 => (r11.toInt32 = r17.toInt32 → wbX11_twins_128  K51 v0 v1 v2 v4 h Q) ∧ (¬ r11.toInt32 = r17.toInt32 → (r11.toInt32 = 0 → wbX11_twins_132  K51 v0 v1 v2 v4 h Q) ∧ (¬ r11.toInt32 = 0 → (r17.toInt32 = 0 → wbX11_twins_132  K51 v0 v1 v2 v4 h Q) ∧ (¬ r17.toInt32 = 0 → isO h v0 9 (wX11_plainTwins h v0 r11.toInt32 r17.toInt32 (fun r19 h18 => (r19 = 0 → wbX11_twins_132 K51 v0 v1 v2 v4 h18 Q) ∧ (¬ r19 = 0 → wbX11_twins_128 K51 v0 v1 v2 v4 h18 Q))))))))))))))))))
def wbX11_twins_51 (n : Nat) (v0 : Nat) (v1 : Int32) (v2 : Int32) (v3 : Int32) (v4 : Int32) (h : aH) (Q : Int32 → aH → Prop) : Prop := match n with
  | 0 => False
  | n + 1 => wbX11_twins_51_i (fun v0 v1 v2 v3 v4 h => wbX11_twins_51 n v0 v1 v2 v3 v4 h Q) v0 v1 v2 v3 v4 h Q
def wbX11_twins_47 (v0 : Nat) (v1 : Int32) (v2 : Int32) (s0 : Int32) (h : aH) (Q : Int32 → aH → Prop) : Prop :=
  ∃ n, wbX11_twins_51 n v0 v1 v2 s0 0 h Q
def wX11_twins (h : aH) (v0 : Nat) (v1 : Int32) (v2 : Int32) (Q : Int32 → aH → Prop) : Prop :=
  rR h v0 9 2 (fun r20 => aI h r20 v1 (fun r22 => (¬ r22 = 5 → wbX11_twins_20 v0 v1 v2 h Q) ∧ (r22 = 5 → rR h v0 9 2 (fun r23 => aI h r23 v2 (fun r25 => (r25 = 5 → rR h v0 9 4 (fun r26 => aI h r26 v1 (fun r28 => rR h v0 9 4 (fun r29 => aI h r29 v2 (fun r31 => (¬ r28 = r31 → wbX11_twins_47 v0 v1 v2 0 h Q) ∧ (r28 = r31 → wbX11_twins_47 v0 v1 v2 1 h Q)))))) ∧ (¬ r25 = 5 → wbX11_twins_20 v0 v1 v2 h Q))))))
set_option maxRecDepth 100000 in
theorem abX11_twins_20 (l : Launch) (G : aG) (d : Nat) (hG : a_GT G) (hd : 2 ≤ d) {Q : Int32 → aH → Prop} (v0 : Nat) (v1 : Int32) (v2 : Int32) (h : aH) (hw : wbX11_twins_20 v0 v1 v2 h Q) : AW l G d 0 0 mX11_twins (qI Q) 20 [(0, .ref v0), (1, .int v1), (2, .int v2)] [] h := by
  unfold wbX11_twins_20 at hw
  refine aw_aload_n 0 dX11_twins_20 rfl rfl ?_
  refine aw_iload_n 1 dX11_twins_21 rfl rfl ?_
  refine aw_iload_n 2 dX11_twins_22 rfl rfl ?_
  obtain ⟨_, h1, hw⟩ := hw
  refine aw_virtI (As := [.int v1, .int v2]) (rest := []) dX11_twins_23 (acX11_plainTwins l G (d - 1) hG (by omega) hw) iX11_plainTwins rfl k_1265 k_1267 k_72 rfl h1 (by omega) (by decide) (by decide) rfl (Nat.le_of_ble_eq_true rfl) (fun r2 h1 hw => ?_)
  exact aw_iret dX11_twins_26 rfl (a_nB hw.1) ⟨_, rfl, hw.2⟩
set_option maxRecDepth 100000 in
theorem abX11_twins_140 (l : Launch) (G : aG) (d : Nat) (hG : a_GT G) (hd : 2 ≤ d) {Q : Int32 → aH → Prop} (v3 : Int32) (h : aH) (hw : wbX11_twins_140 v3 h Q) : AW l G d 0 0 mX11_twins (qI Q) 140 [(3, .int v3)] [] h := by
  unfold wbX11_twins_140 at hw
  refine aw_iload_n 0 dX11_twins_140 rfl rfl ?_
  exact aw_iret dX11_twins_141 rfl (a_nB hw.1) ⟨_, rfl, hw.2⟩
set_option maxRecDepth 100000 in
theorem abX11_twins_133 (l : Launch) (G : aG) (d : Nat) (hG : a_GT G) (hd : 2 ≤ d) {Q : Int32 → aH → Prop} {K51 : Nat → Int32 → Int32 → Int32 → Int32 →  aH → Prop} (kk51 : ∀ (v0 : Nat) (v1 : Int32) (v2 : Int32) (v3 : Int32) (v4 : Int32) (h : aH), K51 v0 v1 v2 v3 v4 h → AW l G d 0 0 mX11_twins (qI Q) 51 [(0, .ref v0), (1, .int v1), (2, .int v2), (3, .int v3), (4, .int v4)] [] h) (v0 : Nat) (v1 : Int32) (v2 : Int32) (v4 : Int32) (s0 : Int32) (h : aH) (hw : wbX11_twins_133 K51 v0 v1 v2 v4 s0 h Q) : AW l G d 0 0 mX11_twins (qI Q) 133 [(0, .ref v0), (1, .int v1), (2, .int v2), (4, .int v4)] [.int s0] h := by
  unfold wbX11_twins_133 at hw
  refine aw_istore_n (lv' := [(3, .int s0), (0, .ref v0), (1, .int v1), (2, .int v2), (4, .int v4)]) dX11_twins_133 rfl (by decide) rfl ?_
  refine aw_iinc (v := (v4 + 1)) (lv' := [(4, .int (v4 + 1)), (3, .int s0), (0, .ref v0), (1, .int v1), (2, .int v2)]) 4 dX11_twins_134 rfl rfl (by decide) rfl ?_
  refine aw_goto (tgt := 51) dX11_twins_137 (by decide) ?_
  refine aw_sub (lv' := [(0, .ref v0), (1, .int v1), (2, .int v2), (3, .int s0), (4, .int (v4 + 1))]) [2, 3, 4, 1, 0] rfl ?_
  exact kk51 _ _ _ _ _ _ hw
set_option maxRecDepth 100000 in
theorem abX11_twins_128 (l : Launch) (G : aG) (d : Nat) (hG : a_GT G) (hd : 2 ≤ d) {Q : Int32 → aH → Prop} {K51 : Nat → Int32 → Int32 → Int32 → Int32 →  aH → Prop} (kk51 : ∀ (v0 : Nat) (v1 : Int32) (v2 : Int32) (v3 : Int32) (v4 : Int32) (h : aH), K51 v0 v1 v2 v3 v4 h → AW l G d 0 0 mX11_twins (qI Q) 51 [(0, .ref v0), (1, .int v1), (2, .int v2), (3, .int v3), (4, .int v4)] [] h) (v0 : Nat) (v1 : Int32) (v2 : Int32) (v4 : Int32) (h : aH) (hw : wbX11_twins_128 K51 v0 v1 v2 v4 h Q) : AW l G d 0 0 mX11_twins (qI Q) 128 [(0, .ref v0), (1, .int v1), (2, .int v2), (4, .int v4)] [] h := by
  unfold wbX11_twins_128 at hw
  refine aw_iconst (v := 1) dX11_twins_128 (by decide) ?_
  refine aw_goto (tgt := 133) dX11_twins_129 (by decide) ?_
  exact abX11_twins_133 l G d hG hd kk51 _ _ _ _ _ _ hw
set_option maxRecDepth 100000 in
theorem abX11_twins_132 (l : Launch) (G : aG) (d : Nat) (hG : a_GT G) (hd : 2 ≤ d) {Q : Int32 → aH → Prop} {K51 : Nat → Int32 → Int32 → Int32 → Int32 →  aH → Prop} (kk51 : ∀ (v0 : Nat) (v1 : Int32) (v2 : Int32) (v3 : Int32) (v4 : Int32) (h : aH), K51 v0 v1 v2 v3 v4 h → AW l G d 0 0 mX11_twins (qI Q) 51 [(0, .ref v0), (1, .int v1), (2, .int v2), (3, .int v3), (4, .int v4)] [] h) (v0 : Nat) (v1 : Int32) (v2 : Int32) (v4 : Int32) (h : aH) (hw : wbX11_twins_132 K51 v0 v1 v2 v4 h Q) : AW l G d 0 0 mX11_twins (qI Q) 132 [(0, .ref v0), (1, .int v1), (2, .int v2), (4, .int v4)] [] h := by
  unfold wbX11_twins_132 at hw
  refine aw_iconst (v := 0) dX11_twins_132 (by decide) ?_
  exact abX11_twins_133 l G d hG hd kk51 _ _ _ _ _ _ hw
set_option maxRecDepth 100000 in
theorem abX11_twins_51_i (l : Launch) (G : aG) (d : Nat) (hG : a_GT G) (hd : 2 ≤ d) {Q : Int32 → aH → Prop} {K51 : Nat → Int32 → Int32 → Int32 → Int32 →  aH → Prop} (kk51 : ∀ (v0 : Nat) (v1 : Int32) (v2 : Int32) (v3 : Int32) (v4 : Int32) (h : aH), K51 v0 v1 v2 v3 v4 h → AW l G d 0 0 mX11_twins (qI Q) 51 [(0, .ref v0), (1, .int v1), (2, .int v2), (3, .int v3), (4, .int v4)] [] h) (v0 : Nat) (v1 : Int32) (v2 : Int32) (v3 : Int32) (v4 : Int32) (h : aH) (hw : wbX11_twins_51_i K51 v0 v1 v2 v3 v4 h Q) : AW l G d 0 0 mX11_twins (qI Q) 51 [(0, .ref v0), (1, .int v1), (2, .int v2), (3, .int v3), (4, .int v4)] [] h := by
  unfold wbX11_twins_51_i at hw
  refine aw_iload_n 3 dX11_twins_51 rfl rfl ?_
  refine aw_if_eq (tgt := 140) dX11_twins_52 (by decide) (fun z => ?_) (fun z => ?_)
  · have hw := hw.1 z
    refine aw_sub (lv' := [(3, .int v3)]) [3] rfl ?_
    exact abX11_twins_140 l G d hG hd _ _ hw
  · have hw := hw.2 z
    refine aw_iload 4 dX11_twins_55 rfl ?_
    refine aw_aload_n 0 dX11_twins_57 rfl rfl ?_
    obtain ⟨fs4, r3, h1, h2, hw⟩ := hw
    refine aw_getf (k := 4) dX11_twins_58 clX11 (by decide) k_952 (Or.inl rfl) h1 h2 ?_
    refine aw_iload_n 1 dX11_twins_61 rfl rfl ?_
    obtain ⟨_, _, r5, h1, h2, h3, hw⟩ := hw
    refine aw_aI dX11_twins_62 h1 h2 h3 ?_
    refine aw_icmp_ge (tgt := 140) dX11_twins_63 (by decide) (fun z => ?_) (fun z => ?_)
    · have hw := hw.1 z
      refine aw_sub (lv' := [(3, .int v3)]) [3] rfl ?_
      exact abX11_twins_140 l G d hG hd _ _ hw
    · have hw := hw.2 z
      refine aw_aload_n 0 dX11_twins_66 rfl rfl ?_
      obtain ⟨fs7, r6, h1, h2, hw⟩ := hw
      refine aw_getf (k := 6) dX11_twins_67 clX11 (by decide) k_954 (Or.inl rfl) h1 h2 ?_
      refine aw_aload_n 0 dX11_twins_70 rfl rfl ?_
      obtain ⟨fs9, r8, h1, h2, hw⟩ := hw
      refine aw_getf (k := 3) dX11_twins_71 clX11 (by decide) k_951 (Or.inl rfl) h1 h2 ?_
      refine aw_iload_n 1 dX11_twins_74 rfl rfl ?_
      obtain ⟨_, _, r10, h1, h2, h3, hw⟩ := hw
      refine aw_aI dX11_twins_75 h1 h2 h3 ?_
      refine aw_iload 4 dX11_twins_76 rfl ?_
      refine aw_iadd dX11_twins_78 ?_
      obtain ⟨_, _, r11, h1, h2, h3, hw⟩ := hw
      refine aw_aL dX11_twins_79 h1 h2 h3 ?_
      refine aw_l2i dX11_twins_80 ?_
      refine aw_istore (lv' := [(5, .int r11.toInt32), (0, .ref v0), (1, .int v1), (2, .int v2), (3, .int v3), (4, .int v4)]) dX11_twins_81 (by decide) rfl ?_
      refine aw_aload_n 1 dX11_twins_83 rfl rfl ?_
      obtain ⟨fs13, r12, h1, h2, hw⟩ := hw
      refine aw_getf (k := 6) dX11_twins_84 clX11 (by decide) k_954 (Or.inl rfl) h1 h2 ?_
      refine aw_aload_n 1 dX11_twins_87 rfl rfl ?_
      obtain ⟨fs15, r14, h1, h2, hw⟩ := hw
      refine aw_getf (k := 3) dX11_twins_88 clX11 (by decide) k_951 (Or.inl rfl) h1 h2 ?_
      refine aw_iload_n 3 dX11_twins_91 rfl rfl ?_
      obtain ⟨_, _, r16, h1, h2, h3, hw⟩ := hw
      refine aw_aI dX11_twins_92 h1 h2 h3 ?_
      refine aw_iload 5 dX11_twins_93 rfl ?_
      refine aw_iadd dX11_twins_95 ?_
      obtain ⟨_, _, r17, h1, h2, h3, hw⟩ := hw
      refine aw_aL dX11_twins_96 h1 h2 h3 ?_
      refine aw_l2i dX11_twins_97 ?_
      refine aw_istore (lv' := [(6, .int r17.toInt32), (5, .int r11.toInt32), (0, .ref v0), (1, .int v1), (2, .int v2), (3, .int v3), (4, .int v4)]) dX11_twins_98 (by decide) rfl ?_
      refine aw_iload 1 dX11_twins_100 rfl ?_
      refine aw_iload 0 dX11_twins_102 rfl ?_
      refine aw_icmp_eq (tgt := 128) dX11_twins_104 (by decide) (fun z => ?_) (fun z => ?_)
      · have hw := hw.1 z
        refine aw_sub (lv' := [(0, .ref v0), (1, .int v1), (2, .int v2), (4, .int v4)]) [2, 3, 4, 6] rfl ?_
        exact abX11_twins_128 l G d hG hd kk51 _ _ _ _ _ hw
      · have hw := hw.2 z
        refine aw_iload 1 dX11_twins_107 rfl ?_
        refine aw_if_eq (tgt := 132) dX11_twins_109 (by decide) (fun z => ?_) (fun z => ?_)
        · have hw := hw.1 z
          refine aw_sub (lv' := [(0, .ref v0), (1, .int v1), (2, .int v2), (4, .int v4)]) [2, 3, 4, 6] rfl ?_
          exact abX11_twins_132 l G d hG hd kk51 _ _ _ _ _ hw
        · have hw := hw.2 z
          refine aw_iload 0 dX11_twins_112 rfl ?_
          refine aw_if_eq (tgt := 132) dX11_twins_114 (by decide) (fun z => ?_) (fun z => ?_)
          · have hw := hw.1 z
            refine aw_sub (lv' := [(0, .ref v0), (1, .int v1), (2, .int v2), (4, .int v4)]) [2, 3, 4, 6] rfl ?_
            exact abX11_twins_132 l G d hG hd kk51 _ _ _ _ _ hw
          · have hw := hw.2 z
            refine aw_aload_n 2 dX11_twins_117 rfl rfl ?_
            refine aw_iload 1 dX11_twins_118 rfl ?_
            refine aw_iload 0 dX11_twins_120 rfl ?_
            obtain ⟨_, h1, hw⟩ := hw
            refine aw_virtI (As := [.int r11.toInt32, .int r17.toInt32]) (rest := []) dX11_twins_122 (acX11_plainTwins l G (d - 1) hG (by omega) hw) iX11_plainTwins rfl k_1265 k_1267 k_72 rfl h1 (by omega) (by decide) (by decide) rfl (Nat.le_of_ble_eq_true rfl) (fun r19 h18 hw => ?_)
            refine aw_if_eq (tgt := 132) dX11_twins_125 (by decide) (fun z => ?_) (fun z => ?_)
            · have hw := hw.1 z
              refine aw_sub (lv' := [(0, .ref v0), (1, .int v1), (2, .int v2), (4, .int v4)]) [2, 3, 4, 6] rfl ?_
              exact abX11_twins_132 l G d hG hd kk51 _ _ _ _ _ hw
            · have hw := hw.2 z
              refine aw_sub (lv' := [(0, .ref v0), (1, .int v1), (2, .int v2), (4, .int v4)]) [2, 3, 4, 6] rfl ?_
              exact abX11_twins_128 l G d hG hd kk51 _ _ _ _ _ hw
set_option maxRecDepth 100000 in
theorem abX11_twins_51 (l : Launch) (G : aG) (d : Nat) (hG : a_GT G) (hd : 2 ≤ d) {Q : Int32 → aH → Prop} (n : Nat) : ∀  (v0 : Nat) (v1 : Int32) (v2 : Int32) (v3 : Int32) (v4 : Int32) (h : aH), wbX11_twins_51 n v0 v1 v2 v3 v4 h Q → AW l G d 0 0 mX11_twins (qI Q) 51 [(0, .ref v0), (1, .int v1), (2, .int v2), (3, .int v3), (4, .int v4)] [] h := by
  induction n with
  | zero => exact fun _ _ _ _ _ _ hw => hw.elim
  | succ n ih => exact fun _ _ _ _ _ _ hw => abX11_twins_51_i l G d hG hd ih _ _ _ _ _ _ hw
set_option maxRecDepth 100000 in
theorem abX11_twins_47 (l : Launch) (G : aG) (d : Nat) (hG : a_GT G) (hd : 2 ≤ d) {Q : Int32 → aH → Prop} (v0 : Nat) (v1 : Int32) (v2 : Int32) (s0 : Int32) (h : aH) (hw : wbX11_twins_47 v0 v1 v2 s0 h Q) : AW l G d 0 0 mX11_twins (qI Q) 47 [(0, .ref v0), (1, .int v1), (2, .int v2)] [.int s0] h := by
  unfold wbX11_twins_47 at hw
  refine aw_istore_n (lv' := [(3, .int s0), (0, .ref v0), (1, .int v1), (2, .int v2)]) dX11_twins_47 rfl (by decide) rfl ?_
  refine aw_iconst (v := 0) dX11_twins_48 (by decide) ?_
  refine aw_istore (lv' := [(4, .int 0), (3, .int s0), (0, .ref v0), (1, .int v1), (2, .int v2)]) dX11_twins_49 (by decide) rfl ?_
  obtain ⟨n, hw⟩ := hw
  refine aw_sub (lv' := [(0, .ref v0), (1, .int v1), (2, .int v2), (3, .int s0), (4, .int 0)]) [2, 3, 4, 1, 0] rfl ?_
  exact abX11_twins_51 l G d hG hd n _ _ _ _ _ _ hw
set_option maxRecDepth 100000 in
theorem acX11_twins (l : Launch) (G : aG) (d : Nat) (hG : a_GT G) (hd : 2 ≤ d) {Q : Int32 → aH → Prop} {h : aH} {v0 : Nat} {v1 : Int32} {v2 : Int32} (hw : wX11_twins h v0 v1 v2 Q) : AC l G d 0 0 mX11_twins [.ref v0, .int v1, .int v2] h (qI Q) := by
  refine ac_of iX11_twins (Nat.le_of_ble_eq_true rfl) ?_
  show AW l G d 0 0 mX11_twins (qI Q) 0 [(0, .ref v0), (1, .int v1), (2, .int v2)] [] h
  unfold wX11_twins at hw
  refine aw_aload_n 0 dX11_twins_0 rfl rfl ?_
  obtain ⟨fs21, r20, h1, h2, hw⟩ := hw
  refine aw_getf (k := 2) dX11_twins_1 clX11 (by decide) k_950 (Or.inl rfl) h1 h2 ?_
  refine aw_iload_n 1 dX11_twins_4 rfl rfl ?_
  obtain ⟨_, _, r22, h1, h2, h3, hw⟩ := hw
  refine aw_aI dX11_twins_5 h1 h2 h3 ?_
  refine aw_iconst (v := 5) dX11_twins_6 (by decide) ?_
  refine aw_icmp_ne (tgt := 20) dX11_twins_7 (by decide) (fun z => ?_) (fun z => ?_)
  · have hw := hw.1 z
    exact abX11_twins_20 l G d hG hd _ _ _ _ hw
  · have hw := hw.2 z
    refine aw_aload_n 0 dX11_twins_10 rfl rfl ?_
    obtain ⟨fs24, r23, h1, h2, hw⟩ := hw
    refine aw_getf (k := 2) dX11_twins_11 clX11 (by decide) k_950 (Or.inl rfl) h1 h2 ?_
    refine aw_iload_n 2 dX11_twins_14 rfl rfl ?_
    obtain ⟨_, _, r25, h1, h2, h3, hw⟩ := hw
    refine aw_aI dX11_twins_15 h1 h2 h3 ?_
    refine aw_iconst (v := 5) dX11_twins_16 (by decide) ?_
    refine aw_icmp_eq (tgt := 27) dX11_twins_17 (by decide) (fun z => ?_) (fun z => ?_)
    · have hw := hw.1 z
      refine aw_aload_n 0 dX11_twins_27 rfl rfl ?_
      obtain ⟨fs27, r26, h1, h2, hw⟩ := hw
      refine aw_getf (k := 4) dX11_twins_28 clX11 (by decide) k_952 (Or.inl rfl) h1 h2 ?_
      refine aw_iload_n 1 dX11_twins_31 rfl rfl ?_
      obtain ⟨_, _, r28, h1, h2, h3, hw⟩ := hw
      refine aw_aI dX11_twins_32 h1 h2 h3 ?_
      refine aw_aload_n 0 dX11_twins_33 rfl rfl ?_
      obtain ⟨fs30, r29, h1, h2, hw⟩ := hw
      refine aw_getf (k := 4) dX11_twins_34 clX11 (by decide) k_952 (Or.inl rfl) h1 h2 ?_
      refine aw_iload_n 2 dX11_twins_37 rfl rfl ?_
      obtain ⟨_, _, r31, h1, h2, h3, hw⟩ := hw
      refine aw_aI dX11_twins_38 h1 h2 h3 ?_
      refine aw_icmp_ne (tgt := 46) dX11_twins_39 (by decide) (fun z => ?_) (fun z => ?_)
      · have hw := hw.1 z
        refine aw_iconst (v := 0) dX11_twins_46 (by decide) ?_
        exact abX11_twins_47 l G d hG hd _ _ _ _ _ hw
      · have hw := hw.2 z
        refine aw_iconst (v := 1) dX11_twins_42 (by decide) ?_
        refine aw_goto (tgt := 47) dX11_twins_43 (by decide) ?_
        exact abX11_twins_47 l G d hG hd _ _ _ _ _ hw
    · have hw := hw.2 z
      exact abX11_twins_20 l G d hG hd _ _ _ _ hw
