-- X11_put
def wbX11_put_2_i (K2 : Nat → Int32 → Int32 →  aH → Prop) (v0 : Nat) (v1 : Int32) (v3 : Int32) (h : aH) (Q : aH → Prop) : Prop :=
  (9 ≤ v3 → Q h) ∧ (¬ 9 ≤ v3 → rR h v0 9 36 (fun r1 => rR h v0 9 36 (fun r3 => wX11_join h r1 ((((108 * v1) + 108) + (12 * v3))) r3 (((108 * v1) + (12 * v3))) (fun h5 => K2 v0 v1 ((v3 + 1)) h5))))
def wbX11_put_2 (n : Nat) (v0 : Nat) (v1 : Int32) (v3 : Int32) (h : aH) (Q : aH → Prop) : Prop := match n with
  | 0 => False
  | n + 1 => wbX11_put_2_i (fun v0 v1 v3 h => wbX11_put_2 n v0 v1 v3 h Q) v0 v1 v3 h Q
def wX11_put (h : aH) (v0 : Nat) (v1 : Int32) (v2 : Int32) (Q : aH → Prop) : Prop :=
  ∃ n, wbX11_put_2 n v0 v1 v2 h Q
set_option maxRecDepth 100000 in
theorem abX11_put_2_i (l : Launch) (G : aG) (d : Nat) (hG : a_GT G) (hd : 2 ≤ d) {Q : aH → Prop} {K2 : Nat → Int32 → Int32 →  aH → Prop} (kk2 : ∀ (v0 : Nat) (v1 : Int32) (v3 : Int32) (h : aH), K2 v0 v1 v3 h → AW l G d 0 0 mX11_put (qV Q) 2 [(0, .ref v0), (1, .int v1), (3, .int v3)] [] h) (v0 : Nat) (v1 : Int32) (v3 : Int32) (h : aH) (hw : wbX11_put_2_i K2 v0 v1 v3 h Q) : AW l G d 0 0 mX11_put (qV Q) 2 [(0, .ref v0), (1, .int v1), (3, .int v3)] [] h := by
  unfold wbX11_put_2_i at hw
  refine aw_iload_n 2 dX11_put_2 rfl rfl ?_
  refine aw_bipush (v := 9) dX11_put_3 (by decide) ?_
  refine aw_icmp_ge (tgt := 46) dX11_put_5 (by decide) (fun z => ?_) (fun z => ?_)
  · have hw := hw.1 z
    exact aw_vret dX11_put_46 rfl ⟨rfl, hw⟩
  · have hw := hw.2 z
    refine aw_aload_n 0 dX11_put_8 rfl rfl ?_
    obtain ⟨fs2, r1, h1, h2, hw⟩ := hw
    refine aw_getf (k := 36) dX11_put_9 clX11 (by decide) k_984 (Or.inl rfl) h1 h2 ?_
    refine aw_bipush (v := 108) dX11_put_12 (by decide) ?_
    refine aw_iload_n 1 dX11_put_14 rfl rfl ?_
    refine aw_imul dX11_put_15 ?_
    refine aw_bipush (v := 108) dX11_put_16 (by decide) ?_
    refine aw_iadd dX11_put_18 ?_
    refine aw_bipush (v := 12) dX11_put_19 (by decide) ?_
    refine aw_iload_n 2 dX11_put_21 rfl rfl ?_
    refine aw_imul dX11_put_22 ?_
    refine aw_iadd dX11_put_23 ?_
    refine aw_aload_n 0 dX11_put_24 rfl rfl ?_
    obtain ⟨fs4, r3, h1, h2, hw⟩ := hw
    refine aw_getf (k := 36) dX11_put_25 clX11 (by decide) k_984 (Or.inl rfl) h1 h2 ?_
    refine aw_bipush (v := 108) dX11_put_28 (by decide) ?_
    refine aw_iload_n 1 dX11_put_30 rfl rfl ?_
    refine aw_imul dX11_put_31 ?_
    refine aw_bipush (v := 12) dX11_put_32 (by decide) ?_
    refine aw_iload_n 2 dX11_put_34 rfl rfl ?_
    refine aw_imul dX11_put_35 ?_
    refine aw_iadd dX11_put_36 ?_
    refine aw_staticV (As := [.ref r1, .int (((108 * v1) + 108) + (12 * v3)), .ref r3, .int ((108 * v1) + (12 * v3))]) (rest := []) dX11_put_37 (acX11_join l G (d - 1) hG (by omega) hw) iX11_join rfl k_1296 k_1297 (by omega) (by decide) (by decide) rfl (Nat.le_of_ble_eq_true rfl) (fun h5 hw => ?_)
    refine aw_iinc (v := (v3 + 1)) (lv' := [(3, .int (v3 + 1)), (0, .ref v0), (1, .int v1)]) 2 dX11_put_40 rfl rfl (by decide) rfl ?_
    refine aw_goto (tgt := 2) dX11_put_43 (by decide) ?_
    refine aw_sub (lv' := [(0, .ref v0), (1, .int v1), (3, .int (v3 + 1))]) [1, 2, 0] rfl ?_
    exact kk2 _ _ _ _ hw
set_option maxRecDepth 100000 in
theorem abX11_put_2 (l : Launch) (G : aG) (d : Nat) (hG : a_GT G) (hd : 2 ≤ d) {Q : aH → Prop} (n : Nat) : ∀  (v0 : Nat) (v1 : Int32) (v3 : Int32) (h : aH), wbX11_put_2 n v0 v1 v3 h Q → AW l G d 0 0 mX11_put (qV Q) 2 [(0, .ref v0), (1, .int v1), (3, .int v3)] [] h := by
  induction n with
  | zero => exact fun _ _ _ _ hw => hw.elim
  | succ n ih => exact fun _ _ _ _ hw => abX11_put_2_i l G d hG hd ih _ _ _ _ hw
set_option maxRecDepth 100000 in
theorem acX11_put (l : Launch) (G : aG) (d : Nat) (hG : a_GT G) (hd : 2 ≤ d) {Q : aH → Prop} {h : aH} {v0 : Nat} {v1 : Int32} {v2 : Int32} (hw : wX11_put h v0 v1 v2 Q) : AC l G d 0 0 mX11_put [.ref v0, .int v1, .int v2] h (qV Q) := by
  refine ac_of iX11_put (Nat.le_of_ble_eq_true rfl) ?_
  show AW l G d 0 0 mX11_put (qV Q) 0 [(0, .ref v0), (1, .int v1), (2, .int v2)] [] h
  unfold wX11_put at hw
  refine aw_iload_n 2 dX11_put_0 rfl rfl ?_
  refine aw_istore_n (lv' := [(3, .int v2), (0, .ref v0), (1, .int v1), (2, .int v2)]) dX11_put_1 rfl (by decide) rfl ?_
  obtain ⟨n, hw⟩ := hw
  refine aw_sub (lv' := [(0, .ref v0), (1, .int v1), (3, .int v2)]) [1, 2, 0] rfl ?_
  exact abX11_put_2 l G d hG hd n _ _ _ _ hw
-- X11_enter
def wX11_enter (h : aH) (v0 : Nat) (v1 : Int32) (v2 : Int32) (Q : aH → Prop) : Prop :=
  rR h v0 9 36 (fun r1 => wX11_wipe h r1 ((108 * v2)) 108 (fun h3 => rR h3 v0 9 31 (fun r4 => sZ h3 r4 v1 1 (fun h6 => rR h6 v0 9 38 (fun r7 => rR h6 v0 9 33 (fun r9 => wX11_join h6 r7 ((12 * v2)) r9 ((12 * v1)) (fun h11 => Q h11)))))))
set_option maxRecDepth 100000 in
theorem acX11_enter (l : Launch) (G : aG) (d : Nat) (hG : a_GT G) (hd : 2 ≤ d) {Q : aH → Prop} {h : aH} {v0 : Nat} {v1 : Int32} {v2 : Int32} (hw : wX11_enter h v0 v1 v2 Q) : AC l G d 0 0 mX11_enter [.ref v0, .int v1, .int v2] h (qV Q) := by
  refine ac_of iX11_enter (Nat.le_of_ble_eq_true rfl) ?_
  show AW l G d 0 0 mX11_enter (qV Q) 0 [(0, .ref v0), (1, .int v1), (2, .int v2)] [] h
  unfold wX11_enter at hw
  refine aw_aload_n 0 dX11_enter_0 rfl rfl ?_
  obtain ⟨fs2, r1, h1, h2, hw⟩ := hw
  refine aw_getf (k := 36) dX11_enter_1 clX11 (by decide) k_984 (Or.inl rfl) h1 h2 ?_
  refine aw_bipush (v := 108) dX11_enter_4 (by decide) ?_
  refine aw_iload_n 2 dX11_enter_6 rfl rfl ?_
  refine aw_imul dX11_enter_7 ?_
  refine aw_bipush (v := 108) dX11_enter_8 (by decide) ?_
  refine aw_staticV (As := [.ref r1, .int (108 * v2), .int 108]) (rest := []) dX11_enter_10 (acX11_wipe l G (d - 1) hG (by omega) hw) iX11_wipe rfl k_1281 k_1282 (by omega) (by decide) (by decide) rfl (Nat.le_of_ble_eq_true rfl) (fun h3 hw => ?_)
  refine aw_aload_n 0 dX11_enter_13 rfl rfl ?_
  obtain ⟨fs5, r4, h1, h2, hw⟩ := hw
  refine aw_getf (k := 31) dX11_enter_14 clX11 (by decide) k_979 (Or.inl rfl) h1 h2 ?_
  refine aw_iload_n 1 dX11_enter_17 rfl rfl ?_
  refine aw_iconst (v := 1) dX11_enter_18 (by decide) ?_
  obtain ⟨_, _, h1, h2, hw⟩ := hw
  refine aw_zast dX11_enter_19 h1 h2 ?_
  generalize a_up _ _ _ = h6 at hw ⊢
  refine aw_aload_n 0 dX11_enter_20 rfl rfl ?_
  obtain ⟨fs8, r7, h1, h2, hw⟩ := hw
  refine aw_getf (k := 38) dX11_enter_21 clX11 (by decide) k_986 (Or.inl rfl) h1 h2 ?_
  refine aw_bipush (v := 12) dX11_enter_24 (by decide) ?_
  refine aw_iload_n 2 dX11_enter_26 rfl rfl ?_
  refine aw_imul dX11_enter_27 ?_
  refine aw_aload_n 0 dX11_enter_28 rfl rfl ?_
  obtain ⟨fs10, r9, h1, h2, hw⟩ := hw
  refine aw_getf (k := 33) dX11_enter_29 clX11 (by decide) k_981 (Or.inl rfl) h1 h2 ?_
  refine aw_bipush (v := 12) dX11_enter_32 (by decide) ?_
  refine aw_iload_n 1 dX11_enter_34 rfl rfl ?_
  refine aw_imul dX11_enter_35 ?_
  refine aw_staticV (As := [.ref r7, .int (12 * v2), .ref r9, .int (12 * v1)]) (rest := []) dX11_enter_36 (acX11_join l G (d - 1) hG (by omega) hw) iX11_join rfl k_1296 k_1297 (by omega) (by decide) (by decide) rfl (Nat.le_of_ble_eq_true rfl) (fun h11 hw => ?_)
  exact aw_vret dX11_enter_39 rfl ⟨rfl, hw⟩
-- X11_leave
def wbX11_leave_39 (K2 : Nat → Int32 → Int32 → Int32 →  aH → Prop) (v0 : Nat) (v1 : Int32) (v2 : Int32) (v3 : Int32) (s0 : Int32) (s1 : Int32) (s2 : Int32) (s3 : Nat) (h : aH) (Q : aH → Prop) : Prop :=
  sI h s3 s2 ((s1 ||| s0)) (fun h1 => K2 v0 v1 v2 ((v3 + 1)) h1)
def wbX11_leave_2_i (K2 : Nat → Int32 → Int32 → Int32 →  aH → Prop) (v0 : Nat) (v1 : Int32) (v2 : Int32) (v3 : Int32) (h : aH) (Q : aH → Prop) : Prop :=
  (9 ≤ v3 → rI h v0 9 27 (fun r2 => wF h v0 9 27 (.int (r2 - 1)) (fun h4 => Q h4))) ∧ (¬ 9 ≤ v3 → rR h v0 9 32 (fun r6 => aI h r6 v1 (fun r8 => rR h v0 9 36 (fun r9 => aI h r9 (((108 * v2) + (12 * v3))) (fun r11 => (r11 = 0 → wbX11_leave_39  K2 v0 v1 v2 v3 0 r8 v1 r6 h Q) ∧ (¬ r11 = 0 → wbX11_leave_39  K2 v0 v1 v2 v3 ((1 <<< (v3 &&& 31))) r8 v1 r6 h Q))))))
def wbX11_leave_2 (n : Nat) (v0 : Nat) (v1 : Int32) (v2 : Int32) (v3 : Int32) (h : aH) (Q : aH → Prop) : Prop := match n with
  | 0 => False
  | n + 1 => wbX11_leave_2_i (fun v0 v1 v2 v3 h => wbX11_leave_2 n v0 v1 v2 v3 h Q) v0 v1 v2 v3 h Q
def wX11_leave (h : aH) (v0 : Nat) (v1 : Int32) (v2 : Int32) (Q : aH → Prop) : Prop :=
  ∃ n, wbX11_leave_2 n v0 v1 v2 0 h Q
set_option maxRecDepth 100000 in
theorem abX11_leave_39 (l : Launch) (G : aG) (d : Nat) (hG : a_GT G) (hd : 1 ≤ d) {Q : aH → Prop} {K2 : Nat → Int32 → Int32 → Int32 →  aH → Prop} (kk2 : ∀ (v0 : Nat) (v1 : Int32) (v2 : Int32) (v3 : Int32) (h : aH), K2 v0 v1 v2 v3 h → AW l G d 0 0 mX11_leave (qV Q) 2 [(0, .ref v0), (1, .int v1), (2, .int v2), (3, .int v3)] [] h) (v0 : Nat) (v1 : Int32) (v2 : Int32) (v3 : Int32) (s0 : Int32) (s1 : Int32) (s2 : Int32) (s3 : Nat) (h : aH) (hw : wbX11_leave_39 K2 v0 v1 v2 v3 s0 s1 s2 s3 h Q) : AW l G d 0 0 mX11_leave (qV Q) 39 [(0, .ref v0), (1, .int v1), (2, .int v2), (3, .int v3)] [.int s0, .int s1, .int s2, .ref s3] h := by
  unfold wbX11_leave_39 at hw
  refine aw_ior dX11_leave_39 ?_
  obtain ⟨_, _, h1, h2, hw⟩ := hw
  refine aw_iast dX11_leave_40 h1 h2 ?_
  generalize a_up _ _ _ = h1 at hw ⊢
  refine aw_iinc (v := (v3 + 1)) (lv' := [(3, .int (v3 + 1)), (0, .ref v0), (1, .int v1), (2, .int v2)]) 3 dX11_leave_41 rfl rfl (by decide) rfl ?_
  refine aw_goto (tgt := 2) dX11_leave_44 (by decide) ?_
  refine aw_sub (lv' := [(0, .ref v0), (1, .int v1), (2, .int v2), (3, .int (v3 + 1))]) [1, 2, 3, 0] rfl ?_
  exact kk2 _ _ _ _ _ hw
set_option maxRecDepth 100000 in
theorem abX11_leave_2_i (l : Launch) (G : aG) (d : Nat) (hG : a_GT G) (hd : 1 ≤ d) {Q : aH → Prop} {K2 : Nat → Int32 → Int32 → Int32 →  aH → Prop} (kk2 : ∀ (v0 : Nat) (v1 : Int32) (v2 : Int32) (v3 : Int32) (h : aH), K2 v0 v1 v2 v3 h → AW l G d 0 0 mX11_leave (qV Q) 2 [(0, .ref v0), (1, .int v1), (2, .int v2), (3, .int v3)] [] h) (v0 : Nat) (v1 : Int32) (v2 : Int32) (v3 : Int32) (h : aH) (hw : wbX11_leave_2_i K2 v0 v1 v2 v3 h Q) : AW l G d 0 0 mX11_leave (qV Q) 2 [(0, .ref v0), (1, .int v1), (2, .int v2), (3, .int v3)] [] h := by
  unfold wbX11_leave_2_i at hw
  refine aw_iload_n 3 dX11_leave_2 rfl rfl ?_
  refine aw_bipush (v := 9) dX11_leave_3 (by decide) ?_
  refine aw_icmp_ge (tgt := 47) dX11_leave_5 (by decide) (fun z => ?_) (fun z => ?_)
  · have hw := hw.1 z
    refine aw_aload_n 0 dX11_leave_47 rfl rfl ?_
    refine aw_dup dX11_leave_48 rfl ?_
    obtain ⟨fs3, r2, h1, h2, hw⟩ := hw
    refine aw_getf (k := 27) dX11_leave_49 clX11 (by decide) k_975 (Or.inl rfl) h1 h2 ?_
    refine aw_iconst (v := 1) dX11_leave_52 (by decide) ?_
    refine aw_isub dX11_leave_53 ?_
    obtain ⟨fs5, h1, h2, hw⟩ := hw
    refine aw_putf (k := 27) dX11_leave_54 clX11 (by decide) k_975 (Or.inl rfl) rfl rfl rfl h1 h2 ?_
    generalize a_up _ _ _ = h4 at hw ⊢
    exact aw_vret dX11_leave_57 rfl ⟨rfl, hw⟩
  · have hw := hw.2 z
    refine aw_aload_n 0 dX11_leave_8 rfl rfl ?_
    obtain ⟨fs7, r6, h1, h2, hw⟩ := hw
    refine aw_getf (k := 32) dX11_leave_9 clX11 (by decide) k_980 (Or.inl rfl) h1 h2 ?_
    refine aw_iload_n 1 dX11_leave_12 rfl rfl ?_
    refine aw_dup2 dX11_leave_13 rfl rfl ?_
    obtain ⟨_, _, r8, h1, h2, h3, hw⟩ := hw
    refine aw_aI dX11_leave_14 h1 h2 h3 ?_
    refine aw_aload_n 0 dX11_leave_15 rfl rfl ?_
    obtain ⟨fs10, r9, h1, h2, hw⟩ := hw
    refine aw_getf (k := 36) dX11_leave_16 clX11 (by decide) k_984 (Or.inl rfl) h1 h2 ?_
    refine aw_bipush (v := 108) dX11_leave_19 (by decide) ?_
    refine aw_iload_n 2 dX11_leave_21 rfl rfl ?_
    refine aw_imul dX11_leave_22 ?_
    refine aw_bipush (v := 12) dX11_leave_23 (by decide) ?_
    refine aw_iload_n 3 dX11_leave_25 rfl rfl ?_
    refine aw_imul dX11_leave_26 ?_
    refine aw_iadd dX11_leave_27 ?_
    obtain ⟨_, _, r11, h1, h2, h3, hw⟩ := hw
    refine aw_aI dX11_leave_28 h1 h2 h3 ?_
    refine aw_if_eq (tgt := 38) dX11_leave_29 (by decide) (fun z => ?_) (fun z => ?_)
    · have hw := hw.1 z
      refine aw_iconst (v := 0) dX11_leave_38 (by decide) ?_
      exact abX11_leave_39 l G d hG hd kk2 _ _ _ _ _ _ _ _ _ hw
    · have hw := hw.2 z
      refine aw_iconst (v := 1) dX11_leave_32 (by decide) ?_
      refine aw_iload_n 3 dX11_leave_33 rfl rfl ?_
      refine aw_ishl dX11_leave_34 ?_
      refine aw_goto (tgt := 39) dX11_leave_35 (by decide) ?_
      exact abX11_leave_39 l G d hG hd kk2 _ _ _ _ _ _ _ _ _ hw
set_option maxRecDepth 100000 in
theorem abX11_leave_2 (l : Launch) (G : aG) (d : Nat) (hG : a_GT G) (hd : 1 ≤ d) {Q : aH → Prop} (n : Nat) : ∀  (v0 : Nat) (v1 : Int32) (v2 : Int32) (v3 : Int32) (h : aH), wbX11_leave_2 n v0 v1 v2 v3 h Q → AW l G d 0 0 mX11_leave (qV Q) 2 [(0, .ref v0), (1, .int v1), (2, .int v2), (3, .int v3)] [] h := by
  induction n with
  | zero => exact fun _ _ _ _ _ hw => hw.elim
  | succ n ih => exact fun _ _ _ _ _ hw => abX11_leave_2_i l G d hG hd ih _ _ _ _ _ hw
set_option maxRecDepth 100000 in
theorem acX11_leave (l : Launch) (G : aG) (d : Nat) (hG : a_GT G) (hd : 1 ≤ d) {Q : aH → Prop} {h : aH} {v0 : Nat} {v1 : Int32} {v2 : Int32} (hw : wX11_leave h v0 v1 v2 Q) : AC l G d 0 0 mX11_leave [.ref v0, .int v1, .int v2] h (qV Q) := by
  refine ac_of iX11_leave (Nat.le_of_ble_eq_true rfl) ?_
  show AW l G d 0 0 mX11_leave (qV Q) 0 [(0, .ref v0), (1, .int v1), (2, .int v2)] [] h
  unfold wX11_leave at hw
  refine aw_iconst (v := 0) dX11_leave_0 (by decide) ?_
  refine aw_istore_n (lv' := [(3, .int 0), (0, .ref v0), (1, .int v1), (2, .int v2)]) dX11_leave_1 rfl (by decide) rfl ?_
  obtain ⟨n, hw⟩ := hw
  refine aw_sub (lv' := [(0, .ref v0), (1, .int v1), (2, .int v2), (3, .int 0)]) [1, 2, 3, 0] rfl ?_
  exact abX11_leave_2 l G d hG hd n _ _ _ _ _ hw
-- X11_throughAct
def wbX11_throughAct_47 (v0 : Nat) (v1 : Int32) (v2 : Int32) (h : aH) (Q : aH → Prop) : Prop :=
  isO h v0 9 (wX11_leave h v0 v1 v2 (fun h1 => Q h1))
def wX11_throughAct (h : aH) (v0 : Nat) (v1 : Int32) (v2 : Int32) (Q : aH → Prop) : Prop :=
  isO h v0 9 (wX11_enter h v0 v1 v2 (fun h2 => rR h2 v0 9 38 (fun r3 => rR h2 v0 9 39 (fun r5 => wX11_lay_ h2 r3 ((12 * v2)) r5 0 (fun h7 => isO h7 v0 9 (wX11_mayAct h7 v0 v2 v1 (fun r9 h8 => (r9 = 0 → wbX11_throughAct_47 v0 v1 v2 h8 Q) ∧ (¬ r9 = 0 → rR h8 v0 9 39 (fun r10 => rR h8 v0 9 36 (fun r12 => wX11_join h8 r10 0 r12 ((108 * v2)) (fun h14 => wbX11_throughAct_47 v0 v1 v2 h14 Q)))))))))))
set_option maxRecDepth 100000 in
theorem abX11_throughAct_47 (l : Launch) (G : aG) (d : Nat) (hG : a_GT G) (hd : 7 ≤ d) {Q : aH → Prop} (v0 : Nat) (v1 : Int32) (v2 : Int32) (h : aH) (hw : wbX11_throughAct_47 v0 v1 v2 h Q) : AW l G d 0 0 mX11_throughAct (qV Q) 47 [(0, .ref v0), (1, .int v1), (2, .int v2)] [] h := by
  unfold wbX11_throughAct_47 at hw
  refine aw_aload_n 0 dX11_throughAct_47 rfl rfl ?_
  refine aw_iload_n 1 dX11_throughAct_48 rfl rfl ?_
  refine aw_iload_n 2 dX11_throughAct_49 rfl rfl ?_
  obtain ⟨_, h1, hw⟩ := hw
  refine aw_virtV (As := [.int v1, .int v2]) (rest := []) dX11_throughAct_50 (acX11_leave l G (d - 1) hG (by omega) hw) iX11_leave rfl k_1341 k_1343 k_86 rfl h1 (by omega) (by decide) (by decide) rfl (Nat.le_of_ble_eq_true rfl) (fun h1 hw => ?_)
  exact aw_vret dX11_throughAct_53 rfl ⟨rfl, hw⟩
set_option maxRecDepth 100000 in
theorem acX11_throughAct (l : Launch) (G : aG) (d : Nat) (hG : a_GT G) (hd : 7 ≤ d) {Q : aH → Prop} {h : aH} {v0 : Nat} {v1 : Int32} {v2 : Int32} (hw : wX11_throughAct h v0 v1 v2 Q) : AC l G d 0 0 mX11_throughAct [.ref v0, .int v1, .int v2] h (qV Q) := by
  refine ac_of iX11_throughAct (Nat.le_of_ble_eq_true rfl) ?_
  show AW l G d 0 0 mX11_throughAct (qV Q) 0 [(0, .ref v0), (1, .int v1), (2, .int v2)] [] h
  unfold wX11_throughAct at hw
  refine aw_aload_n 0 dX11_throughAct_0 rfl rfl ?_
  refine aw_iload_n 1 dX11_throughAct_1 rfl rfl ?_
  refine aw_iload_n 2 dX11_throughAct_2 rfl rfl ?_
  obtain ⟨_, h1, hw⟩ := hw
  refine aw_virtV (As := [.int v1, .int v2]) (rest := []) dX11_throughAct_3 (acX11_enter l G (d - 1) hG (by omega) hw) iX11_enter rfl k_1292 k_1294 k_76 rfl h1 (by omega) (by decide) (by decide) rfl (Nat.le_of_ble_eq_true rfl) (fun h2 hw => ?_)
  refine aw_aload_n 0 dX11_throughAct_6 rfl rfl ?_
  obtain ⟨fs4, r3, h1, h2, hw⟩ := hw
  refine aw_getf (k := 38) dX11_throughAct_7 clX11 (by decide) k_986 (Or.inl rfl) h1 h2 ?_
  refine aw_bipush (v := 12) dX11_throughAct_10 (by decide) ?_
  refine aw_iload_n 2 dX11_throughAct_12 rfl rfl ?_
  refine aw_imul dX11_throughAct_13 ?_
  refine aw_aload_n 0 dX11_throughAct_14 rfl rfl ?_
  obtain ⟨fs6, r5, h1, h2, hw⟩ := hw
  refine aw_getf (k := 39) dX11_throughAct_15 clX11 (by decide) k_987 (Or.inl rfl) h1 h2 ?_
  refine aw_iconst (v := 0) dX11_throughAct_18 (by decide) ?_
  refine aw_staticV (As := [.ref r3, .int (12 * v2), .ref r5, .int 0]) (rest := []) dX11_throughAct_19 (acX11_lay_ l G (d - 1) hG (by omega) hw) iX11_lay_ rfl k_1299 k_1300 (by omega) (by decide) (by decide) rfl (Nat.le_of_ble_eq_true rfl) (fun h7 hw => ?_)
  refine aw_aload_n 0 dX11_throughAct_22 rfl rfl ?_
  refine aw_iload_n 2 dX11_throughAct_23 rfl rfl ?_
  refine aw_iload_n 1 dX11_throughAct_24 rfl rfl ?_
  obtain ⟨_, h1, hw⟩ := hw
  refine aw_virtI (As := [.int v2, .int v1]) (rest := []) dX11_throughAct_25 (acX11_mayAct l G (d - 1) hG (by omega) hw) iX11_mayAct rfl k_1302 k_1304 k_77 rfl h1 (by omega) (by decide) (by decide) rfl (Nat.le_of_ble_eq_true rfl) (fun r9 h8 hw => ?_)
  refine aw_if_eq (tgt := 47) dX11_throughAct_28 (by decide) (fun z => ?_) (fun z => ?_)
  · have hw := hw.1 z
    exact abX11_throughAct_47 l G d hG hd _ _ _ _ hw
  · have hw := hw.2 z
    refine aw_aload_n 0 dX11_throughAct_31 rfl rfl ?_
    obtain ⟨fs11, r10, h1, h2, hw⟩ := hw
    refine aw_getf (k := 39) dX11_throughAct_32 clX11 (by decide) k_987 (Or.inl rfl) h1 h2 ?_
    refine aw_iconst (v := 0) dX11_throughAct_35 (by decide) ?_
    refine aw_aload_n 0 dX11_throughAct_36 rfl rfl ?_
    obtain ⟨fs13, r12, h1, h2, hw⟩ := hw
    refine aw_getf (k := 36) dX11_throughAct_37 clX11 (by decide) k_984 (Or.inl rfl) h1 h2 ?_
    refine aw_bipush (v := 108) dX11_throughAct_40 (by decide) ?_
    refine aw_iload_n 2 dX11_throughAct_42 rfl rfl ?_
    refine aw_imul dX11_throughAct_43 ?_
    refine aw_staticV (As := [.ref r10, .int 0, .ref r12, .int (108 * v2)]) (rest := []) dX11_throughAct_44 (acX11_join l G (d - 1) hG (by omega) hw) iX11_join rfl k_1296 k_1297 (by omega) (by decide) (by decide) rfl (Nat.le_of_ble_eq_true rfl) (fun h14 hw => ?_)
    exact abX11_throughAct_47 l G d hG hd _ _ _ _ hw
-- X11_throughBoth
def wbX11_throughBoth_133 (h : aH) (Q : aH → Prop) : Prop :=
  Q h
def wbX11_throughBoth_127 (v0 : Nat) (v1 : Int32) (v2 : Int32) (h : aH) (Q : aH → Prop) : Prop :=
  isO h v0 9 (wX11_leave h v0 v1 v2 (fun h1 => wbX11_throughBoth_133 h1 Q))
def wbX11_throughBoth_75 (v0 : Nat) (v1 : Int32) (v2 : Int32) (v3 : Int32) (v4 : Int32) (s0 : Int32) (s1 : Int32) (s2 : Nat) (h : aH) (Q : aH → Prop) : Prop :=
  isO h s2 9 (wX11_put h s2 s1 s0 (fun h2 => (¬ v3 = 1 → wbX11_throughBoth_127 v0 v1 v2 h2 Q) ∧ (v3 = 1 → rR h2 v0 9 36 (fun r3 => aI h2 r3 v4 (fun r5 => (r5 = 0 → wbX11_throughBoth_127 v0 v1 v2 h2 Q) ∧ (¬ r5 = 0 → rR h2 v0 9 36 (fun r6 => rR h2 v0 9 38 (fun r8 => wX11_lay_ h2 r6 v4 r8 (((12 * v2) + 12)) (fun h10 => rR h10 v0 9 13 (fun r11 => aI h10 r11 v1 (fun r13 => isO h10 v0 9 (wX11_step h10 v0 2 r13 (fun h14 => wbX11_throughBoth_133 h14 Q)))))))))))))
def wX11_throughBoth (h : aH) (v0 : Nat) (v1 : Int32) (v2 : Int32) (Q : aH → Prop) : Prop :=
  rR h v0 9 25 (fun r15 => rI h v0 9 27 (fun r17 => aI h r15 r17 (fun r19 => (¬ r19 = 0 → (¬ r19 = 1 → wbX11_throughBoth_75 v0 v1 v2 r19 (((108 * v2) + 108)) 0 v2 v0 h Q) ∧ (r19 = 1 → wbX11_throughBoth_75 v0 v1 v2 r19 (((108 * v2) + 108)) 1 v2 v0 h Q)) ∧ (r19 = 0 → isO h v0 9 (wX11_enter h v0 v1 v2 (fun h20 => rR h20 v0 9 38 (fun r21 => rR h20 v0 9 38 (fun r23 => wX11_lay_ h20 r21 ((12 * v2)) r23 (((12 * v2) + 12)) (fun h25 => rR h25 v0 9 12 (fun r26 => aI h25 r26 v1 (fun r28 => isO h25 v0 9 (wX11_step h25 v0 1 r28 (fun h29 => Q h29)))))))))))))
set_option maxRecDepth 100000 in
theorem abX11_throughBoth_133 (l : Launch) (G : aG) (d : Nat) (hG : a_GT G) (hd : 3 ≤ d) {Q : aH → Prop} (h : aH) (hw : wbX11_throughBoth_133  h Q) : AW l G d 0 0 mX11_throughBoth (qV Q) 133 [] [] h := by
  unfold wbX11_throughBoth_133 at hw
  exact aw_vret dX11_throughBoth_133 rfl ⟨rfl, hw⟩
set_option maxRecDepth 100000 in
theorem abX11_throughBoth_127 (l : Launch) (G : aG) (d : Nat) (hG : a_GT G) (hd : 3 ≤ d) {Q : aH → Prop} (v0 : Nat) (v1 : Int32) (v2 : Int32) (h : aH) (hw : wbX11_throughBoth_127 v0 v1 v2 h Q) : AW l G d 0 0 mX11_throughBoth (qV Q) 127 [(0, .ref v0), (1, .int v1), (2, .int v2)] [] h := by
  unfold wbX11_throughBoth_127 at hw
  refine aw_aload_n 0 dX11_throughBoth_127 rfl rfl ?_
  refine aw_iload_n 1 dX11_throughBoth_128 rfl rfl ?_
  refine aw_iload_n 2 dX11_throughBoth_129 rfl rfl ?_
  obtain ⟨_, h1, hw⟩ := hw
  refine aw_virtV (As := [.int v1, .int v2]) (rest := []) dX11_throughBoth_130 (acX11_leave l G (d - 1) hG (by omega) hw) iX11_leave rfl k_1341 k_1343 k_86 rfl h1 (by omega) (by decide) (by decide) rfl (Nat.le_of_ble_eq_true rfl) (fun h1 hw => ?_)
  refine aw_sub (lv' := []) [] rfl ?_
  exact abX11_throughBoth_133 l G d hG hd _ hw
set_option maxRecDepth 100000 in
theorem abX11_throughBoth_75 (l : Launch) (G : aG) (d : Nat) (hG : a_GT G) (hd : 3 ≤ d) {Q : aH → Prop} (v0 : Nat) (v1 : Int32) (v2 : Int32) (v3 : Int32) (v4 : Int32) (s0 : Int32) (s1 : Int32) (s2 : Nat) (h : aH) (hw : wbX11_throughBoth_75 v0 v1 v2 v3 v4 s0 s1 s2 h Q) : AW l G d 0 0 mX11_throughBoth (qV Q) 75 [(0, .ref v0), (1, .int v1), (2, .int v2), (3, .int v3), (4, .int v4)] [.int s0, .int s1, .ref s2] h := by
  unfold wbX11_throughBoth_75 at hw
  obtain ⟨_, h1, hw⟩ := hw
  refine aw_virtV (As := [.int s1, .int s0]) (rest := []) dX11_throughBoth_75 (acX11_put l G (d - 1) hG (by omega) hw) iX11_put rfl k_1349 k_1351 k_88 rfl h1 (by omega) (by decide) (by decide) rfl (Nat.le_of_ble_eq_true rfl) (fun h2 hw => ?_)
  refine aw_iload_n 3 dX11_throughBoth_78 rfl rfl ?_
  refine aw_iconst (v := 1) dX11_throughBoth_79 (by decide) ?_
  refine aw_icmp_ne (tgt := 127) dX11_throughBoth_80 (by decide) (fun z => ?_) (fun z => ?_)
  · have hw := hw.1 z
    refine aw_sub (lv' := [(0, .ref v0), (1, .int v1), (2, .int v2)]) [0, 1, 2] rfl ?_
    exact abX11_throughBoth_127 l G d hG hd _ _ _ _ hw
  · have hw := hw.2 z
    refine aw_aload_n 0 dX11_throughBoth_83 rfl rfl ?_
    obtain ⟨fs4, r3, h1, h2, hw⟩ := hw
    refine aw_getf (k := 36) dX11_throughBoth_84 clX11 (by decide) k_984 (Or.inl rfl) h1 h2 ?_
    refine aw_iload 4 dX11_throughBoth_87 rfl ?_
    obtain ⟨_, _, r5, h1, h2, h3, hw⟩ := hw
    refine aw_aI dX11_throughBoth_89 h1 h2 h3 ?_
    refine aw_if_eq (tgt := 127) dX11_throughBoth_90 (by decide) (fun z => ?_) (fun z => ?_)
    · have hw := hw.1 z
      refine aw_sub (lv' := [(0, .ref v0), (1, .int v1), (2, .int v2)]) [0, 1, 2] rfl ?_
      exact abX11_throughBoth_127 l G d hG hd _ _ _ _ hw
    · have hw := hw.2 z
      refine aw_aload_n 0 dX11_throughBoth_93 rfl rfl ?_
      obtain ⟨fs7, r6, h1, h2, hw⟩ := hw
      refine aw_getf (k := 36) dX11_throughBoth_94 clX11 (by decide) k_984 (Or.inl rfl) h1 h2 ?_
      refine aw_iload 4 dX11_throughBoth_97 rfl ?_
      refine aw_aload_n 0 dX11_throughBoth_99 rfl rfl ?_
      obtain ⟨fs9, r8, h1, h2, hw⟩ := hw
      refine aw_getf (k := 38) dX11_throughBoth_100 clX11 (by decide) k_986 (Or.inl rfl) h1 h2 ?_
      refine aw_bipush (v := 12) dX11_throughBoth_103 (by decide) ?_
      refine aw_iload_n 2 dX11_throughBoth_105 rfl rfl ?_
      refine aw_imul dX11_throughBoth_106 ?_
      refine aw_bipush (v := 12) dX11_throughBoth_107 (by decide) ?_
      refine aw_iadd dX11_throughBoth_109 ?_
      refine aw_staticV (As := [.ref r6, .int v4, .ref r8, .int ((12 * v2) + 12)]) (rest := []) dX11_throughBoth_110 (acX11_lay_ l G (d - 1) hG (by omega) hw) iX11_lay_ rfl k_1299 k_1300 (by omega) (by decide) (by decide) rfl (Nat.le_of_ble_eq_true rfl) (fun h10 hw => ?_)
      refine aw_aload_n 0 dX11_throughBoth_113 rfl rfl ?_
      refine aw_iconst (v := 2) dX11_throughBoth_114 (by decide) ?_
      refine aw_aload_n 0 dX11_throughBoth_115 rfl rfl ?_
      obtain ⟨fs12, r11, h1, h2, hw⟩ := hw
      refine aw_getf (k := 13) dX11_throughBoth_116 clX11 (by decide) k_961 (Or.inl rfl) h1 h2 ?_
      refine aw_iload_n 1 dX11_throughBoth_119 rfl rfl ?_
      obtain ⟨_, _, r13, h1, h2, h3, hw⟩ := hw
      refine aw_aI dX11_throughBoth_120 h1 h2 h3 ?_
      obtain ⟨_, h1, hw⟩ := hw
      refine aw_virtV (As := [.int 2, .int r13]) (rest := []) dX11_throughBoth_121 (acX11_step l G (d - 1) hG (by omega) hw) iX11_step rfl k_1225 k_1227 k_69 rfl h1 (by omega) (by decide) (by decide) rfl (Nat.le_of_ble_eq_true rfl) (fun h14 hw => ?_)
      refine aw_goto (tgt := 133) dX11_throughBoth_124 (by decide) ?_
      refine aw_sub (lv' := []) [] rfl ?_
      exact abX11_throughBoth_133 l G d hG hd _ hw
set_option maxRecDepth 100000 in
theorem acX11_throughBoth (l : Launch) (G : aG) (d : Nat) (hG : a_GT G) (hd : 3 ≤ d) {Q : aH → Prop} {h : aH} {v0 : Nat} {v1 : Int32} {v2 : Int32} (hw : wX11_throughBoth h v0 v1 v2 Q) : AC l G d 0 0 mX11_throughBoth [.ref v0, .int v1, .int v2] h (qV Q) := by
  refine ac_of iX11_throughBoth (Nat.le_of_ble_eq_true rfl) ?_
  show AW l G d 0 0 mX11_throughBoth (qV Q) 0 [(0, .ref v0), (1, .int v1), (2, .int v2)] [] h
  unfold wX11_throughBoth at hw
  refine aw_aload_n 0 dX11_throughBoth_0 rfl rfl ?_
  obtain ⟨fs16, r15, h1, h2, hw⟩ := hw
  refine aw_getf (k := 25) dX11_throughBoth_1 clX11 (by decide) k_973 (Or.inl rfl) h1 h2 ?_
  refine aw_aload_n 0 dX11_throughBoth_4 rfl rfl ?_
  obtain ⟨fs18, r17, h1, h2, hw⟩ := hw
  refine aw_getf (k := 27) dX11_throughBoth_5 clX11 (by decide) k_975 (Or.inl rfl) h1 h2 ?_
  obtain ⟨_, _, r19, h1, h2, h3, hw⟩ := hw
  refine aw_aI dX11_throughBoth_8 h1 h2 h3 ?_
  refine aw_istore_n (lv' := [(3, .int r19), (0, .ref v0), (1, .int v1), (2, .int v2)]) dX11_throughBoth_9 rfl (by decide) rfl ?_
  refine aw_bipush (v := 108) dX11_throughBoth_10 (by decide) ?_
  refine aw_iload_n 3 dX11_throughBoth_12 rfl rfl ?_
  refine aw_imul dX11_throughBoth_13 ?_
  refine aw_bipush (v := 108) dX11_throughBoth_14 (by decide) ?_
  refine aw_iadd dX11_throughBoth_16 ?_
  refine aw_istore (lv' := [(4, .int ((108 * v2) + 108)), (3, .int r19), (0, .ref v0), (1, .int v1), (2, .int v2)]) dX11_throughBoth_17 (by decide) rfl ?_
  refine aw_iload_n 1 dX11_throughBoth_19 rfl rfl ?_
  refine aw_if_ne (tgt := 63) dX11_throughBoth_20 (by decide) (fun z => ?_) (fun z => ?_)
  · have hw := hw.1 z
    refine aw_aload_n 2 dX11_throughBoth_63 rfl rfl ?_
    refine aw_iload_n 4 dX11_throughBoth_64 rfl rfl ?_
    refine aw_iload_n 1 dX11_throughBoth_65 rfl rfl ?_
    refine aw_iconst (v := 1) dX11_throughBoth_66 (by decide) ?_
    refine aw_icmp_ne (tgt := 74) dX11_throughBoth_67 (by decide) (fun z => ?_) (fun z => ?_)
    · have hw := hw.1 z
      refine aw_iconst (v := 0) dX11_throughBoth_74 (by decide) ?_
      refine aw_sub (lv' := [(0, .ref v0), (1, .int v1), (2, .int v2), (3, .int r19), (4, .int ((108 * v2) + 108))]) [2, 3, 4, 1, 0] rfl ?_
      exact abX11_throughBoth_75 l G d hG hd _ _ _ _ _ _ _ _ _ hw
    · have hw := hw.2 z
      refine aw_iconst (v := 1) dX11_throughBoth_70 (by decide) ?_
      refine aw_goto (tgt := 75) dX11_throughBoth_71 (by decide) ?_
      refine aw_sub (lv' := [(0, .ref v0), (1, .int v1), (2, .int v2), (3, .int r19), (4, .int ((108 * v2) + 108))]) [2, 3, 4, 1, 0] rfl ?_
      exact abX11_throughBoth_75 l G d hG hd _ _ _ _ _ _ _ _ _ hw
  · have hw := hw.2 z
    refine aw_aload_n 2 dX11_throughBoth_23 rfl rfl ?_
    refine aw_iload_n 3 dX11_throughBoth_24 rfl rfl ?_
    refine aw_iload_n 4 dX11_throughBoth_25 rfl rfl ?_
    obtain ⟨_, h1, hw⟩ := hw
    refine aw_virtV (As := [.int v1, .int v2]) (rest := []) dX11_throughBoth_26 (acX11_enter l G (d - 1) hG (by omega) hw) iX11_enter rfl k_1292 k_1294 k_76 rfl h1 (by omega) (by decide) (by decide) rfl (Nat.le_of_ble_eq_true rfl) (fun h20 hw => ?_)
    refine aw_aload_n 2 dX11_throughBoth_29 rfl rfl ?_
    obtain ⟨fs22, r21, h1, h2, hw⟩ := hw
    refine aw_getf (k := 38) dX11_throughBoth_30 clX11 (by decide) k_986 (Or.inl rfl) h1 h2 ?_
    refine aw_bipush (v := 12) dX11_throughBoth_33 (by decide) ?_
    refine aw_iload_n 4 dX11_throughBoth_35 rfl rfl ?_
    refine aw_imul dX11_throughBoth_36 ?_
    refine aw_aload_n 2 dX11_throughBoth_37 rfl rfl ?_
    obtain ⟨fs24, r23, h1, h2, hw⟩ := hw
    refine aw_getf (k := 38) dX11_throughBoth_38 clX11 (by decide) k_986 (Or.inl rfl) h1 h2 ?_
    refine aw_bipush (v := 12) dX11_throughBoth_41 (by decide) ?_
    refine aw_iload_n 4 dX11_throughBoth_43 rfl rfl ?_
    refine aw_imul dX11_throughBoth_44 ?_
    refine aw_bipush (v := 12) dX11_throughBoth_45 (by decide) ?_
    refine aw_iadd dX11_throughBoth_47 ?_
    refine aw_staticV (As := [.ref r21, .int (12 * v2), .ref r23, .int ((12 * v2) + 12)]) (rest := []) dX11_throughBoth_48 (acX11_lay_ l G (d - 1) hG (by omega) hw) iX11_lay_ rfl k_1299 k_1300 (by omega) (by decide) (by decide) rfl (Nat.le_of_ble_eq_true rfl) (fun h25 hw => ?_)
    refine aw_aload_n 2 dX11_throughBoth_51 rfl rfl ?_
    refine aw_iconst (v := 1) dX11_throughBoth_52 (by decide) ?_
    refine aw_aload_n 2 dX11_throughBoth_53 rfl rfl ?_
    obtain ⟨fs27, r26, h1, h2, hw⟩ := hw
    refine aw_getf (k := 12) dX11_throughBoth_54 clX11 (by decide) k_960 (Or.inl rfl) h1 h2 ?_
    refine aw_iload_n 3 dX11_throughBoth_57 rfl rfl ?_
    obtain ⟨_, _, r28, h1, h2, h3, hw⟩ := hw
    refine aw_aI dX11_throughBoth_58 h1 h2 h3 ?_
    obtain ⟨_, h1, hw⟩ := hw
    refine aw_virtV (As := [.int 1, .int r28]) (rest := []) dX11_throughBoth_59 (acX11_step l G (d - 1) hG (by omega) hw) iX11_step rfl k_1225 k_1227 k_69 rfl h1 (by omega) (by decide) (by decide) rfl (Nat.le_of_ble_eq_true rfl) (fun h29 hw => ?_)
    exact aw_vret dX11_throughBoth_62 rfl ⟨rfl, hw⟩
-- X11_throughChoice
def wbX11_throughChoice_206 (h : aH) (Q : aH → Prop) : Prop :=
  Q h
def wbX11_throughChoice_203 (s0 : Int32) (s1 : Int32) (s2 : Nat) (h : aH) (Q : aH → Prop) : Prop :=
  isO h s2 9 (wX11_step h s2 s1 s0 (fun h1 => wbX11_throughChoice_206 h1 Q))
def wbX11_throughChoice_106 (v0 : Nat) (v1 : Int32) (v2 : Int32) (v3 : Int32) (s0 : Int32) (s1 : Int32) (h : aH) (Q : aH → Prop) : Prop :=
  rR h v0 9 26 (fun r2 => rI h v0 9 27 (fun r4 => sI h r2 r4 ((s1 &&& s0)) (fun h6 => rR h6 v0 9 25 (fun r7 => rI h6 v0 9 27 (fun r9 => sI h6 r7 r9 ((v3 + 1)) (fun h11 => ((s1 &&& s0) = 0 → wbX11_throughChoice_206  h11 Q) ∧ (¬ (s1 &&& s0) = 0 → rR h11 v0 9 38 (fun r12 => rR h11 v0 9 38 (fun r14 => wX11_lay_ h11 r12 ((12 * v2)) r14 (((12 * v2) + 12)) (fun h16 => rR h16 v0 9 38 (fun r17 => rR h16 v0 9 12 (fun r19 => aI h16 r19 v1 (fun r21 => sI h16 r17 ((((12 * v2) + 12) + r21)) ((s1 &&& s0)) (fun h22 => (¬ v3 = 0 → rR h22 v0 9 15 (fun r23 => aI h22 r23 v1 (fun r25 => wbX11_throughChoice_203 r25 ((v3 + 1)) v0 h22 Q))) ∧ (v3 = 0 → rR h22 v0 9 14 (fun r26 => aI h22 r26 v1 (fun r28 => wbX11_throughChoice_203 r28 ((v3 + 1)) v0 h22 Q)))))))))))))))))
def wbX11_throughChoice_75 (v0 : Nat) (v1 : Int32) (v2 : Int32) (v3 : Int32) (s0 : Int32) (h : aH) (Q : aH → Prop) : Prop :=
  rR h v0 9 38 (fun r29 => rR h v0 9 12 (fun r31 => aI h r31 v1 (fun r33 => aI h r29 (((12 * v2) + r33)) (fun r34 => (¬ v3 = 0 → wbX11_throughChoice_106 v0 v1 v2 v3 ((s0 ^^^ (-1))) r34 h Q) ∧ (v3 = 0 → wbX11_throughChoice_106 v0 v1 v2 v3 s0 r34 h Q)))))
def wbX11_throughChoice_41 (v0 : Nat) (v1 : Int32) (v2 : Int32) (v3 : Int32) (h : aH) (Q : aH → Prop) : Prop :=
  (¬ v3 = 2 → rR h v0 9 13 (fun r35 => aI h r35 v1 (fun r37 => (¬ r37 = 0 → rR h v0 9 13 (fun r38 => aI h r38 v1 (fun r40 => wX11_mask h r40 (fun r42 h41 => wbX11_throughChoice_75 v0 v1 v2 v3 r42 h41 Q)))) ∧ (r37 = 0 → wbX11_throughChoice_75 v0 v1 v2 v3 1 h Q)))) ∧ (v3 = 2 → isO h v0 9 (wX11_leave h v0 v1 v2 (fun h43 => Q h43)))
def wX11_throughChoice (h : aH) (v0 : Nat) (v1 : Int32) (v2 : Int32) (Q : aH → Prop) : Prop :=
  rR h v0 9 25 (fun r44 => rI h v0 9 27 (fun r46 => aI h r44 r46 (fun r48 => (¬ r48 = 0 → rR h v0 9 26 (fun r49 => rI h v0 9 27 (fun r51 => aI h r49 r51 (fun r53 => (r53 = 0 → wbX11_throughChoice_41 v0 v1 v2 r48 h Q) ∧ (¬ r53 = 0 → isO h v0 9 (wX11_put h v0 v2 0 (fun h54 => wbX11_throughChoice_41 v0 v1 v2 r48 h54 Q))))))) ∧ (r48 = 0 → isO h v0 9 (wX11_enter h v0 v1 v2 (fun h55 => wbX11_throughChoice_41 v0 v1 v2 r48 h55 Q))))))
set_option maxRecDepth 100000 in
theorem abX11_throughChoice_206 (l : Launch) (G : aG) (d : Nat) (hG : a_GT G) (hd : 3 ≤ d) {Q : aH → Prop} (h : aH) (hw : wbX11_throughChoice_206  h Q) : AW l G d 0 0 mX11_throughChoice (qV Q) 206 [] [] h := by
  unfold wbX11_throughChoice_206 at hw
  exact aw_vret dX11_throughChoice_206 rfl ⟨rfl, hw⟩
set_option maxRecDepth 100000 in
theorem abX11_throughChoice_203 (l : Launch) (G : aG) (d : Nat) (hG : a_GT G) (hd : 3 ≤ d) {Q : aH → Prop} (s0 : Int32) (s1 : Int32) (s2 : Nat) (h : aH) (hw : wbX11_throughChoice_203 s0 s1 s2 h Q) : AW l G d 0 0 mX11_throughChoice (qV Q) 203 [] [.int s0, .int s1, .ref s2] h := by
  unfold wbX11_throughChoice_203 at hw
  obtain ⟨_, h1, hw⟩ := hw
  refine aw_virtV (As := [.int s1, .int s0]) (rest := []) dX11_throughChoice_203 (acX11_step l G (d - 1) hG (by omega) hw) iX11_step rfl k_1225 k_1227 k_69 rfl h1 (by omega) (by decide) (by decide) rfl (Nat.le_of_ble_eq_true rfl) (fun h1 hw => ?_)
  exact abX11_throughChoice_206 l G d hG hd _ hw
set_option maxRecDepth 100000 in
theorem abX11_throughChoice_106 (l : Launch) (G : aG) (d : Nat) (hG : a_GT G) (hd : 3 ≤ d) {Q : aH → Prop} (v0 : Nat) (v1 : Int32) (v2 : Int32) (v3 : Int32) (s0 : Int32) (s1 : Int32) (h : aH) (hw : wbX11_throughChoice_106 v0 v1 v2 v3 s0 s1 h Q) : AW l G d 0 0 mX11_throughChoice (qV Q) 106 [(0, .ref v0), (1, .int v1), (2, .int v2), (3, .int v3)] [.int s0, .int s1] h := by
  unfold wbX11_throughChoice_106 at hw
  refine aw_iand dX11_throughChoice_106 ?_
  refine aw_istore (lv' := [(5, .int (s1 &&& s0)), (0, .ref v0), (1, .int v1), (2, .int v2), (3, .int v3)]) dX11_throughChoice_107 (by decide) rfl ?_
  refine aw_aload_n 1 dX11_throughChoice_109 rfl rfl ?_
  obtain ⟨fs3, r2, h1, h2, hw⟩ := hw
  refine aw_getf (k := 26) dX11_throughChoice_110 clX11 (by decide) k_974 (Or.inl rfl) h1 h2 ?_
  refine aw_aload_n 1 dX11_throughChoice_113 rfl rfl ?_
  obtain ⟨fs5, r4, h1, h2, hw⟩ := hw
  refine aw_getf (k := 27) dX11_throughChoice_114 clX11 (by decide) k_975 (Or.inl rfl) h1 h2 ?_
  refine aw_iload 0 dX11_throughChoice_117 rfl ?_
  obtain ⟨_, _, h1, h2, hw⟩ := hw
  refine aw_iast dX11_throughChoice_119 h1 h2 ?_
  generalize a_up _ _ _ = h6 at hw ⊢
  refine aw_aload_n 1 dX11_throughChoice_120 rfl rfl ?_
  obtain ⟨fs8, r7, h1, h2, hw⟩ := hw
  refine aw_getf (k := 25) dX11_throughChoice_121 clX11 (by decide) k_973 (Or.inl rfl) h1 h2 ?_
  refine aw_aload_n 1 dX11_throughChoice_124 rfl rfl ?_
  obtain ⟨fs10, r9, h1, h2, hw⟩ := hw
  refine aw_getf (k := 27) dX11_throughChoice_125 clX11 (by decide) k_975 (Or.inl rfl) h1 h2 ?_
  refine aw_iload_n 4 dX11_throughChoice_128 rfl rfl ?_
  refine aw_iconst (v := 1) dX11_throughChoice_129 (by decide) ?_
  refine aw_iadd dX11_throughChoice_130 ?_
  obtain ⟨_, _, h1, h2, hw⟩ := hw
  refine aw_iast dX11_throughChoice_131 h1 h2 ?_
  generalize a_up _ _ _ = h11 at hw ⊢
  refine aw_iload 0 dX11_throughChoice_132 rfl ?_
  refine aw_if_eq (tgt := 206) dX11_throughChoice_134 (by decide) (fun z => ?_) (fun z => ?_)
  · have hw := hw.1 z
    refine aw_sub (lv' := []) [] rfl ?_
    exact abX11_throughChoice_206 l G d hG hd _ hw
  · have hw := hw.2 z
    refine aw_aload_n 1 dX11_throughChoice_137 rfl rfl ?_
    obtain ⟨fs13, r12, h1, h2, hw⟩ := hw
    refine aw_getf (k := 38) dX11_throughChoice_138 clX11 (by decide) k_986 (Or.inl rfl) h1 h2 ?_
    refine aw_bipush (v := 12) dX11_throughChoice_141 (by decide) ?_
    refine aw_iload_n 3 dX11_throughChoice_143 rfl rfl ?_
    refine aw_imul dX11_throughChoice_144 ?_
    refine aw_aload_n 1 dX11_throughChoice_145 rfl rfl ?_
    obtain ⟨fs15, r14, h1, h2, hw⟩ := hw
    refine aw_getf (k := 38) dX11_throughChoice_146 clX11 (by decide) k_986 (Or.inl rfl) h1 h2 ?_
    refine aw_bipush (v := 12) dX11_throughChoice_149 (by decide) ?_
    refine aw_iload_n 3 dX11_throughChoice_151 rfl rfl ?_
    refine aw_imul dX11_throughChoice_152 ?_
    refine aw_bipush (v := 12) dX11_throughChoice_153 (by decide) ?_
    refine aw_iadd dX11_throughChoice_155 ?_
    refine aw_staticV (As := [.ref r12, .int (12 * v2), .ref r14, .int ((12 * v2) + 12)]) (rest := []) dX11_throughChoice_156 (acX11_lay_ l G (d - 1) hG (by omega) hw) iX11_lay_ rfl k_1299 k_1300 (by omega) (by decide) (by decide) rfl (Nat.le_of_ble_eq_true rfl) (fun h16 hw => ?_)
    refine aw_aload_n 1 dX11_throughChoice_159 rfl rfl ?_
    obtain ⟨fs18, r17, h1, h2, hw⟩ := hw
    refine aw_getf (k := 38) dX11_throughChoice_160 clX11 (by decide) k_986 (Or.inl rfl) h1 h2 ?_
    refine aw_bipush (v := 12) dX11_throughChoice_163 (by decide) ?_
    refine aw_iload_n 3 dX11_throughChoice_165 rfl rfl ?_
    refine aw_imul dX11_throughChoice_166 ?_
    refine aw_bipush (v := 12) dX11_throughChoice_167 (by decide) ?_
    refine aw_iadd dX11_throughChoice_169 ?_
    refine aw_aload_n 1 dX11_throughChoice_170 rfl rfl ?_
    obtain ⟨fs20, r19, h1, h2, hw⟩ := hw
    refine aw_getf (k := 12) dX11_throughChoice_171 clX11 (by decide) k_960 (Or.inl rfl) h1 h2 ?_
    refine aw_iload_n 2 dX11_throughChoice_174 rfl rfl ?_
    obtain ⟨_, _, r21, h1, h2, h3, hw⟩ := hw
    refine aw_aI dX11_throughChoice_175 h1 h2 h3 ?_
    refine aw_iadd dX11_throughChoice_176 ?_
    refine aw_iload 0 dX11_throughChoice_177 rfl ?_
    obtain ⟨_, _, h1, h2, hw⟩ := hw
    refine aw_iast dX11_throughChoice_179 h1 h2 ?_
    generalize a_up _ _ _ = h22 at hw ⊢
    refine aw_aload_n 1 dX11_throughChoice_180 rfl rfl ?_
    refine aw_iload_n 4 dX11_throughChoice_181 rfl rfl ?_
    refine aw_iconst (v := 1) dX11_throughChoice_182 (by decide) ?_
    refine aw_iadd dX11_throughChoice_183 ?_
    refine aw_iload_n 4 dX11_throughChoice_184 rfl rfl ?_
    refine aw_if_ne (tgt := 197) dX11_throughChoice_185 (by decide) (fun z => ?_) (fun z => ?_)
    · have hw := hw.1 z
      refine aw_aload_n 1 dX11_throughChoice_197 rfl rfl ?_
      obtain ⟨fs24, r23, h1, h2, hw⟩ := hw
      refine aw_getf (k := 15) dX11_throughChoice_198 clX11 (by decide) k_963 (Or.inl rfl) h1 h2 ?_
      refine aw_iload_n 2 dX11_throughChoice_201 rfl rfl ?_
      obtain ⟨_, _, r25, h1, h2, h3, hw⟩ := hw
      refine aw_aI dX11_throughChoice_202 h1 h2 h3 ?_
      refine aw_sub (lv' := []) [] rfl ?_
      exact abX11_throughChoice_203 l G d hG hd _ _ _ _ hw
    · have hw := hw.2 z
      refine aw_aload_n 1 dX11_throughChoice_188 rfl rfl ?_
      obtain ⟨fs27, r26, h1, h2, hw⟩ := hw
      refine aw_getf (k := 14) dX11_throughChoice_189 clX11 (by decide) k_962 (Or.inl rfl) h1 h2 ?_
      refine aw_iload_n 2 dX11_throughChoice_192 rfl rfl ?_
      obtain ⟨_, _, r28, h1, h2, h3, hw⟩ := hw
      refine aw_aI dX11_throughChoice_193 h1 h2 h3 ?_
      refine aw_goto (tgt := 203) dX11_throughChoice_194 (by decide) ?_
      refine aw_sub (lv' := []) [] rfl ?_
      exact abX11_throughChoice_203 l G d hG hd _ _ _ _ hw
set_option maxRecDepth 100000 in
theorem abX11_throughChoice_75 (l : Launch) (G : aG) (d : Nat) (hG : a_GT G) (hd : 3 ≤ d) {Q : aH → Prop} (v0 : Nat) (v1 : Int32) (v2 : Int32) (v3 : Int32) (s0 : Int32) (h : aH) (hw : wbX11_throughChoice_75 v0 v1 v2 v3 s0 h Q) : AW l G d 0 0 mX11_throughChoice (qV Q) 75 [(0, .ref v0), (1, .int v1), (2, .int v2), (3, .int v3)] [.int s0] h := by
  unfold wbX11_throughChoice_75 at hw
  refine aw_istore (lv' := [(4, .int s0), (0, .ref v0), (1, .int v1), (2, .int v2), (3, .int v3)]) dX11_throughChoice_75 (by decide) rfl ?_
  refine aw_aload_n 1 dX11_throughChoice_77 rfl rfl ?_
  obtain ⟨fs30, r29, h1, h2, hw⟩ := hw
  refine aw_getf (k := 38) dX11_throughChoice_78 clX11 (by decide) k_986 (Or.inl rfl) h1 h2 ?_
  refine aw_bipush (v := 12) dX11_throughChoice_81 (by decide) ?_
  refine aw_iload_n 3 dX11_throughChoice_83 rfl rfl ?_
  refine aw_imul dX11_throughChoice_84 ?_
  refine aw_aload_n 1 dX11_throughChoice_85 rfl rfl ?_
  obtain ⟨fs32, r31, h1, h2, hw⟩ := hw
  refine aw_getf (k := 12) dX11_throughChoice_86 clX11 (by decide) k_960 (Or.inl rfl) h1 h2 ?_
  refine aw_iload_n 2 dX11_throughChoice_89 rfl rfl ?_
  obtain ⟨_, _, r33, h1, h2, h3, hw⟩ := hw
  refine aw_aI dX11_throughChoice_90 h1 h2 h3 ?_
  refine aw_iadd dX11_throughChoice_91 ?_
  obtain ⟨_, _, r34, h1, h2, h3, hw⟩ := hw
  refine aw_aI dX11_throughChoice_92 h1 h2 h3 ?_
  refine aw_iload_n 4 dX11_throughChoice_93 rfl rfl ?_
  refine aw_if_ne (tgt := 102) dX11_throughChoice_94 (by decide) (fun z => ?_) (fun z => ?_)
  · have hw := hw.1 z
    refine aw_iload 0 dX11_throughChoice_102 rfl ?_
    refine aw_iconst (v := (-1)) dX11_throughChoice_104 (by decide) ?_
    refine aw_ixor dX11_throughChoice_105 ?_
    refine aw_sub (lv' := [(0, .ref v0), (1, .int v1), (2, .int v2), (3, .int v3)]) [1, 2, 3, 4] rfl ?_
    exact abX11_throughChoice_106 l G d hG hd _ _ _ _ _ _ _ hw
  · have hw := hw.2 z
    refine aw_iload 0 dX11_throughChoice_97 rfl ?_
    refine aw_goto (tgt := 106) dX11_throughChoice_99 (by decide) ?_
    refine aw_sub (lv' := [(0, .ref v0), (1, .int v1), (2, .int v2), (3, .int v3)]) [1, 2, 3, 4] rfl ?_
    exact abX11_throughChoice_106 l G d hG hd _ _ _ _ _ _ _ hw
set_option maxRecDepth 100000 in
theorem abX11_throughChoice_41 (l : Launch) (G : aG) (d : Nat) (hG : a_GT G) (hd : 3 ≤ d) {Q : aH → Prop} (v0 : Nat) (v1 : Int32) (v2 : Int32) (v3 : Int32) (h : aH) (hw : wbX11_throughChoice_41 v0 v1 v2 v3 h Q) : AW l G d 0 0 mX11_throughChoice (qV Q) 41 [(0, .ref v0), (1, .int v1), (2, .int v2), (3, .int v3)] [] h := by
  unfold wbX11_throughChoice_41 at hw
  refine aw_iload_n 3 dX11_throughChoice_41 rfl rfl ?_
  refine aw_iconst (v := 2) dX11_throughChoice_42 (by decide) ?_
  refine aw_icmp_ne (tgt := 53) dX11_throughChoice_43 (by decide) (fun z => ?_) (fun z => ?_)
  · have hw := hw.1 z
    refine aw_aload_n 0 dX11_throughChoice_53 rfl rfl ?_
    obtain ⟨fs36, r35, h1, h2, hw⟩ := hw
    refine aw_getf (k := 13) dX11_throughChoice_54 clX11 (by decide) k_961 (Or.inl rfl) h1 h2 ?_
    refine aw_iload_n 1 dX11_throughChoice_57 rfl rfl ?_
    obtain ⟨_, _, r37, h1, h2, h3, hw⟩ := hw
    refine aw_aI dX11_throughChoice_58 h1 h2 h3 ?_
    refine aw_if_ne (tgt := 66) dX11_throughChoice_59 (by decide) (fun z => ?_) (fun z => ?_)
    · have hw := hw.1 z
      refine aw_aload_n 0 dX11_throughChoice_66 rfl rfl ?_
      obtain ⟨fs39, r38, h1, h2, hw⟩ := hw
      refine aw_getf (k := 13) dX11_throughChoice_67 clX11 (by decide) k_961 (Or.inl rfl) h1 h2 ?_
      refine aw_iload_n 1 dX11_throughChoice_70 rfl rfl ?_
      obtain ⟨_, _, r40, h1, h2, h3, hw⟩ := hw
      refine aw_aI dX11_throughChoice_71 h1 h2 h3 ?_
      refine aw_staticI (As := [.int r40]) (rest := []) dX11_throughChoice_72 (acX11_mask l G (d - 1) hG (by omega) hw) iX11_mask rfl k_1164 k_1165 (by omega) (by decide) (by decide) rfl (Nat.le_of_ble_eq_true rfl) (fun r42 h41 hw => ?_)
      exact abX11_throughChoice_75 l G d hG hd _ _ _ _ _ _ hw
    · have hw := hw.2 z
      refine aw_iconst (v := 1) dX11_throughChoice_62 (by decide) ?_
      refine aw_goto (tgt := 75) dX11_throughChoice_63 (by decide) ?_
      exact abX11_throughChoice_75 l G d hG hd _ _ _ _ _ _ hw
  · have hw := hw.2 z
    refine aw_aload_n 0 dX11_throughChoice_46 rfl rfl ?_
    refine aw_iload_n 1 dX11_throughChoice_47 rfl rfl ?_
    refine aw_iload_n 2 dX11_throughChoice_48 rfl rfl ?_
    obtain ⟨_, h1, hw⟩ := hw
    refine aw_virtV (As := [.int v1, .int v2]) (rest := []) dX11_throughChoice_49 (acX11_leave l G (d - 1) hG (by omega) hw) iX11_leave rfl k_1341 k_1343 k_86 rfl h1 (by omega) (by decide) (by decide) rfl (Nat.le_of_ble_eq_true rfl) (fun h43 hw => ?_)
    exact aw_vret dX11_throughChoice_52 rfl ⟨rfl, hw⟩
set_option maxRecDepth 100000 in
theorem acX11_throughChoice (l : Launch) (G : aG) (d : Nat) (hG : a_GT G) (hd : 3 ≤ d) {Q : aH → Prop} {h : aH} {v0 : Nat} {v1 : Int32} {v2 : Int32} (hw : wX11_throughChoice h v0 v1 v2 Q) : AC l G d 0 0 mX11_throughChoice [.ref v0, .int v1, .int v2] h (qV Q) := by
  refine ac_of iX11_throughChoice (Nat.le_of_ble_eq_true rfl) ?_
  show AW l G d 0 0 mX11_throughChoice (qV Q) 0 [(0, .ref v0), (1, .int v1), (2, .int v2)] [] h
  unfold wX11_throughChoice at hw
  refine aw_aload_n 0 dX11_throughChoice_0 rfl rfl ?_
  obtain ⟨fs45, r44, h1, h2, hw⟩ := hw
  refine aw_getf (k := 25) dX11_throughChoice_1 clX11 (by decide) k_973 (Or.inl rfl) h1 h2 ?_
  refine aw_aload_n 0 dX11_throughChoice_4 rfl rfl ?_
  obtain ⟨fs47, r46, h1, h2, hw⟩ := hw
  refine aw_getf (k := 27) dX11_throughChoice_5 clX11 (by decide) k_975 (Or.inl rfl) h1 h2 ?_
  obtain ⟨_, _, r48, h1, h2, h3, hw⟩ := hw
  refine aw_aI dX11_throughChoice_8 h1 h2 h3 ?_
  refine aw_istore_n (lv' := [(3, .int r48), (0, .ref v0), (1, .int v1), (2, .int v2)]) dX11_throughChoice_9 rfl (by decide) rfl ?_
  refine aw_iload_n 0 dX11_throughChoice_10 rfl rfl ?_
  refine aw_if_ne (tgt := 23) dX11_throughChoice_11 (by decide) (fun z => ?_) (fun z => ?_)
  · have hw := hw.1 z
    refine aw_aload_n 1 dX11_throughChoice_23 rfl rfl ?_
    obtain ⟨fs50, r49, h1, h2, hw⟩ := hw
    refine aw_getf (k := 26) dX11_throughChoice_24 clX11 (by decide) k_974 (Or.inl rfl) h1 h2 ?_
    refine aw_aload_n 1 dX11_throughChoice_27 rfl rfl ?_
    obtain ⟨fs52, r51, h1, h2, hw⟩ := hw
    refine aw_getf (k := 27) dX11_throughChoice_28 clX11 (by decide) k_975 (Or.inl rfl) h1 h2 ?_
    obtain ⟨_, _, r53, h1, h2, h3, hw⟩ := hw
    refine aw_aI dX11_throughChoice_31 h1 h2 h3 ?_
    refine aw_if_eq (tgt := 41) dX11_throughChoice_32 (by decide) (fun z => ?_) (fun z => ?_)
    · have hw := hw.1 z
      refine aw_sub (lv' := [(0, .ref v0), (1, .int v1), (2, .int v2), (3, .int r48)]) [1, 2, 3, 0] rfl ?_
      exact abX11_throughChoice_41 l G d hG hd _ _ _ _ _ hw
    · have hw := hw.2 z
      refine aw_aload_n 1 dX11_throughChoice_35 rfl rfl ?_
      refine aw_iload_n 3 dX11_throughChoice_36 rfl rfl ?_
      refine aw_iconst (v := 0) dX11_throughChoice_37 (by decide) ?_
      obtain ⟨_, h1, hw⟩ := hw
      refine aw_virtV (As := [.int v2, .int 0]) (rest := []) dX11_throughChoice_38 (acX11_put l G (d - 1) hG (by omega) hw) iX11_put rfl k_1349 k_1351 k_88 rfl h1 (by omega) (by decide) (by decide) rfl (Nat.le_of_ble_eq_true rfl) (fun h54 hw => ?_)
      refine aw_sub (lv' := [(0, .ref v0), (1, .int v1), (2, .int v2), (3, .int r48)]) [1, 2, 3, 0] rfl ?_
      exact abX11_throughChoice_41 l G d hG hd _ _ _ _ _ hw
  · have hw := hw.2 z
    refine aw_aload_n 1 dX11_throughChoice_14 rfl rfl ?_
    refine aw_iload_n 2 dX11_throughChoice_15 rfl rfl ?_
    refine aw_iload_n 3 dX11_throughChoice_16 rfl rfl ?_
    obtain ⟨_, h1, hw⟩ := hw
    refine aw_virtV (As := [.int v1, .int v2]) (rest := []) dX11_throughChoice_17 (acX11_enter l G (d - 1) hG (by omega) hw) iX11_enter rfl k_1292 k_1294 k_76 rfl h1 (by omega) (by decide) (by decide) rfl (Nat.le_of_ble_eq_true rfl) (fun h55 hw => ?_)
    refine aw_goto (tgt := 41) dX11_throughChoice_20 (by decide) ?_
    refine aw_sub (lv' := [(0, .ref v0), (1, .int v1), (2, .int v2), (3, .int r48)]) [1, 2, 3, 0] rfl ?_
    exact abX11_throughChoice_41 l G d hG hd _ _ _ _ _ hw
-- X11_part
def wbX11_part_137 (K27 : Nat → Int32 → Int32 → Int32 → Int32 →  aH → Prop) (v0 : Nat) (v1 : Int32) (v2 : Int32) (v3 : Int32) (v4 : Int32) (h : aH) (Q : aH → Prop) : Prop :=
  K27 v0 v1 v2 v3 ((v4 + 1)) h
def wbX11_part_64 (K27 : Nat → Int32 → Int32 → Int32 → Int32 →  aH → Prop) (v0 : Nat) (v1 : Int32) (v2 : Int32) (v3 : Int32) (v4 : Int32) (s0 : Int32) (s1 : Int32) (s2 : Int32) (s3 : Nat) (h : aH) (Q : aH → Prop) : Prop :=
  sI h s3 s2 ((s1 ||| s0)) (fun h1 => rR h1 v0 9 13 (fun r2 => aI h1 r2 v1 (fun r4 => (¬ ((r4 >>> (v4 &&& 31)) &&& 1) = 1 → rR h1 v0 9 36 (fun r5 => rR h1 v0 9 37 (fun r7 => wX11_join h1 r5 ((v3 + (12 * v4))) r7 (((108 * v2) + (12 * v4))) (fun h9 => wbX11_part_137 K27 v0 v1 v2 v3 v4 h9 Q)))) ∧ (((r4 >>> (v4 &&& 31)) &&& 1) = 1 → rR h1 v0 9 36 (fun r10 => rR h1 v0 9 38 (fun r12 => wX11_join h1 r10 ((v3 + (12 * v4))) r12 (((12 * v2) + 12)) (fun h14 => wbX11_part_137 K27 v0 v1 v2 v3 v4 h14 Q)))))))
def wbX11_part_27_i (K27 : Nat → Int32 → Int32 → Int32 → Int32 →  aH → Prop) (v0 : Nat) (v1 : Int32) (v2 : Int32) (v3 : Int32) (v4 : Int32) (h : aH) (Q : aH → Prop) : Prop :=
  (9 ≤ v4 → Q h) ∧ (¬ 9 ≤ v4 → rR h v0 9 34 (fun r15 => aI h r15 v1 (fun r17 => rR h v0 9 36 (fun r18 => aI h r18 ((v3 + (12 * v4))) (fun r20 => (r20 = 0 → wbX11_part_64  K27 v0 v1 v2 v3 v4 0 r17 v1 r15 h Q) ∧ (¬ r20 = 0 → wbX11_part_64  K27 v0 v1 v2 v3 v4 ((1 <<< (v4 &&& 31))) r17 v1 r15 h Q))))))
def wbX11_part_27 (n : Nat) (v0 : Nat) (v1 : Int32) (v2 : Int32) (v3 : Int32) (v4 : Int32) (h : aH) (Q : aH → Prop) : Prop := match n with
  | 0 => False
  | n + 1 => wbX11_part_27_i (fun v0 v1 v2 v3 v4 h => wbX11_part_27 n v0 v1 v2 v3 v4 h Q) v0 v1 v2 v3 v4 h Q
def wX11_part (h : aH) (v0 : Nat) (v1 : Int32) (v2 : Int32) (Q : aH → Prop) : Prop :=
  rR h v0 9 38 (fun r21 => wX11_wipe h r21 (((12 * v2) + 12)) 12 (fun h23 => ∃ n, wbX11_part_27 n v0 v1 v2 (((108 * v2) + 108)) 0 h23 Q))
set_option maxRecDepth 100000 in
theorem abX11_part_137 (l : Launch) (G : aG) (d : Nat) (hG : a_GT G) (hd : 2 ≤ d) {Q : aH → Prop} {K27 : Nat → Int32 → Int32 → Int32 → Int32 →  aH → Prop} (kk27 : ∀ (v0 : Nat) (v1 : Int32) (v2 : Int32) (v3 : Int32) (v4 : Int32) (h : aH), K27 v0 v1 v2 v3 v4 h → AW l G d 0 0 mX11_part (qV Q) 27 [(0, .ref v0), (1, .int v1), (2, .int v2), (3, .int v3), (4, .int v4)] [] h) (v0 : Nat) (v1 : Int32) (v2 : Int32) (v3 : Int32) (v4 : Int32) (h : aH) (hw : wbX11_part_137 K27 v0 v1 v2 v3 v4 h Q) : AW l G d 0 0 mX11_part (qV Q) 137 [(0, .ref v0), (1, .int v1), (2, .int v2), (3, .int v3), (4, .int v4)] [] h := by
  unfold wbX11_part_137 at hw
  refine aw_iinc (v := (v4 + 1)) (lv' := [(4, .int (v4 + 1)), (0, .ref v0), (1, .int v1), (2, .int v2), (3, .int v3)]) 4 dX11_part_137 rfl rfl (by decide) rfl ?_
  refine aw_goto (tgt := 27) dX11_part_140 (by decide) ?_
  refine aw_sub (lv' := [(0, .ref v0), (1, .int v1), (2, .int v2), (3, .int v3), (4, .int (v4 + 1))]) [1, 2, 3, 4, 0] rfl ?_
  exact kk27 _ _ _ _ _ _ hw
set_option maxRecDepth 100000 in
theorem abX11_part_64 (l : Launch) (G : aG) (d : Nat) (hG : a_GT G) (hd : 2 ≤ d) {Q : aH → Prop} {K27 : Nat → Int32 → Int32 → Int32 → Int32 →  aH → Prop} (kk27 : ∀ (v0 : Nat) (v1 : Int32) (v2 : Int32) (v3 : Int32) (v4 : Int32) (h : aH), K27 v0 v1 v2 v3 v4 h → AW l G d 0 0 mX11_part (qV Q) 27 [(0, .ref v0), (1, .int v1), (2, .int v2), (3, .int v3), (4, .int v4)] [] h) (v0 : Nat) (v1 : Int32) (v2 : Int32) (v3 : Int32) (v4 : Int32) (s0 : Int32) (s1 : Int32) (s2 : Int32) (s3 : Nat) (h : aH) (hw : wbX11_part_64 K27 v0 v1 v2 v3 v4 s0 s1 s2 s3 h Q) : AW l G d 0 0 mX11_part (qV Q) 64 [(0, .ref v0), (1, .int v1), (2, .int v2), (3, .int v3), (4, .int v4)] [.int s0, .int s1, .int s2, .ref s3] h := by
  unfold wbX11_part_64 at hw
  refine aw_ior dX11_part_64 ?_
  obtain ⟨_, _, h1, h2, hw⟩ := hw
  refine aw_iast dX11_part_65 h1 h2 ?_
  generalize a_up _ _ _ = h1 at hw ⊢
  refine aw_aload_n 0 dX11_part_66 rfl rfl ?_
  obtain ⟨fs3, r2, h1, h2, hw⟩ := hw
  refine aw_getf (k := 13) dX11_part_67 clX11 (by decide) k_961 (Or.inl rfl) h1 h2 ?_
  refine aw_iload_n 1 dX11_part_70 rfl rfl ?_
  obtain ⟨_, _, r4, h1, h2, h3, hw⟩ := hw
  refine aw_aI dX11_part_71 h1 h2 h3 ?_
  refine aw_iload 4 dX11_part_72 rfl ?_
  refine aw_ishr dX11_part_74 ?_
  refine aw_iconst (v := 1) dX11_part_75 (by decide) ?_
  refine aw_iand dX11_part_76 ?_
  refine aw_iconst (v := 1) dX11_part_77 (by decide) ?_
  refine aw_icmp_ne (tgt := 109) dX11_part_78 (by decide) (fun z => ?_) (fun z => ?_)
  · have hw := hw.1 z
    refine aw_aload_n 0 dX11_part_109 rfl rfl ?_
    obtain ⟨fs6, r5, h1, h2, hw⟩ := hw
    refine aw_getf (k := 36) dX11_part_110 clX11 (by decide) k_984 (Or.inl rfl) h1 h2 ?_
    refine aw_iload_n 3 dX11_part_113 rfl rfl ?_
    refine aw_bipush (v := 12) dX11_part_114 (by decide) ?_
    refine aw_iload 4 dX11_part_116 rfl ?_
    refine aw_imul dX11_part_118 ?_
    refine aw_iadd dX11_part_119 ?_
    refine aw_aload_n 0 dX11_part_120 rfl rfl ?_
    obtain ⟨fs8, r7, h1, h2, hw⟩ := hw
    refine aw_getf (k := 37) dX11_part_121 clX11 (by decide) k_985 (Or.inl rfl) h1 h2 ?_
    refine aw_bipush (v := 108) dX11_part_124 (by decide) ?_
    refine aw_iload_n 2 dX11_part_126 rfl rfl ?_
    refine aw_imul dX11_part_127 ?_
    refine aw_bipush (v := 12) dX11_part_128 (by decide) ?_
    refine aw_iload 4 dX11_part_130 rfl ?_
    refine aw_imul dX11_part_132 ?_
    refine aw_iadd dX11_part_133 ?_
    refine aw_staticV (As := [.ref r5, .int (v3 + (12 * v4)), .ref r7, .int ((108 * v2) + (12 * v4))]) (rest := []) dX11_part_134 (acX11_join l G (d - 1) hG (by omega) hw) iX11_join rfl k_1296 k_1297 (by omega) (by decide) (by decide) rfl (Nat.le_of_ble_eq_true rfl) (fun h9 hw => ?_)
    exact abX11_part_137 l G d hG hd kk27 _ _ _ _ _ _ hw
  · have hw := hw.2 z
    refine aw_aload_n 0 dX11_part_81 rfl rfl ?_
    obtain ⟨fs11, r10, h1, h2, hw⟩ := hw
    refine aw_getf (k := 36) dX11_part_82 clX11 (by decide) k_984 (Or.inl rfl) h1 h2 ?_
    refine aw_iload_n 3 dX11_part_85 rfl rfl ?_
    refine aw_bipush (v := 12) dX11_part_86 (by decide) ?_
    refine aw_iload 4 dX11_part_88 rfl ?_
    refine aw_imul dX11_part_90 ?_
    refine aw_iadd dX11_part_91 ?_
    refine aw_aload_n 0 dX11_part_92 rfl rfl ?_
    obtain ⟨fs13, r12, h1, h2, hw⟩ := hw
    refine aw_getf (k := 38) dX11_part_93 clX11 (by decide) k_986 (Or.inl rfl) h1 h2 ?_
    refine aw_bipush (v := 12) dX11_part_96 (by decide) ?_
    refine aw_iload_n 2 dX11_part_98 rfl rfl ?_
    refine aw_imul dX11_part_99 ?_
    refine aw_bipush (v := 12) dX11_part_100 (by decide) ?_
    refine aw_iadd dX11_part_102 ?_
    refine aw_staticV (As := [.ref r10, .int (v3 + (12 * v4)), .ref r12, .int ((12 * v2) + 12)]) (rest := []) dX11_part_103 (acX11_join l G (d - 1) hG (by omega) hw) iX11_join rfl k_1296 k_1297 (by omega) (by decide) (by decide) rfl (Nat.le_of_ble_eq_true rfl) (fun h14 hw => ?_)
    refine aw_goto (tgt := 137) dX11_part_106 (by decide) ?_
    exact abX11_part_137 l G d hG hd kk27 _ _ _ _ _ _ hw
set_option maxRecDepth 100000 in
theorem abX11_part_27_i (l : Launch) (G : aG) (d : Nat) (hG : a_GT G) (hd : 2 ≤ d) {Q : aH → Prop} {K27 : Nat → Int32 → Int32 → Int32 → Int32 →  aH → Prop} (kk27 : ∀ (v0 : Nat) (v1 : Int32) (v2 : Int32) (v3 : Int32) (v4 : Int32) (h : aH), K27 v0 v1 v2 v3 v4 h → AW l G d 0 0 mX11_part (qV Q) 27 [(0, .ref v0), (1, .int v1), (2, .int v2), (3, .int v3), (4, .int v4)] [] h) (v0 : Nat) (v1 : Int32) (v2 : Int32) (v3 : Int32) (v4 : Int32) (h : aH) (hw : wbX11_part_27_i K27 v0 v1 v2 v3 v4 h Q) : AW l G d 0 0 mX11_part (qV Q) 27 [(0, .ref v0), (1, .int v1), (2, .int v2), (3, .int v3), (4, .int v4)] [] h := by
  unfold wbX11_part_27_i at hw
  refine aw_iload 4 dX11_part_27 rfl ?_
  refine aw_bipush (v := 9) dX11_part_29 (by decide) ?_
  refine aw_icmp_ge (tgt := 143) dX11_part_31 (by decide) (fun z => ?_) (fun z => ?_)
  · have hw := hw.1 z
    exact aw_vret dX11_part_143 rfl ⟨rfl, hw⟩
  · have hw := hw.2 z
    refine aw_aload_n 0 dX11_part_34 rfl rfl ?_
    obtain ⟨fs16, r15, h1, h2, hw⟩ := hw
    refine aw_getf (k := 34) dX11_part_35 clX11 (by decide) k_982 (Or.inl rfl) h1 h2 ?_
    refine aw_iload_n 1 dX11_part_38 rfl rfl ?_
    refine aw_dup2 dX11_part_39 rfl rfl ?_
    obtain ⟨_, _, r17, h1, h2, h3, hw⟩ := hw
    refine aw_aI dX11_part_40 h1 h2 h3 ?_
    refine aw_aload_n 0 dX11_part_41 rfl rfl ?_
    obtain ⟨fs19, r18, h1, h2, hw⟩ := hw
    refine aw_getf (k := 36) dX11_part_42 clX11 (by decide) k_984 (Or.inl rfl) h1 h2 ?_
    refine aw_iload_n 3 dX11_part_45 rfl rfl ?_
    refine aw_bipush (v := 12) dX11_part_46 (by decide) ?_
    refine aw_iload 4 dX11_part_48 rfl ?_
    refine aw_imul dX11_part_50 ?_
    refine aw_iadd dX11_part_51 ?_
    obtain ⟨_, _, r20, h1, h2, h3, hw⟩ := hw
    refine aw_aI dX11_part_52 h1 h2 h3 ?_
    refine aw_if_eq (tgt := 63) dX11_part_53 (by decide) (fun z => ?_) (fun z => ?_)
    · have hw := hw.1 z
      refine aw_iconst (v := 0) dX11_part_63 (by decide) ?_
      exact abX11_part_64 l G d hG hd kk27 _ _ _ _ _ _ _ _ _ _ hw
    · have hw := hw.2 z
      refine aw_iconst (v := 1) dX11_part_56 (by decide) ?_
      refine aw_iload 4 dX11_part_57 rfl ?_
      refine aw_ishl dX11_part_59 ?_
      refine aw_goto (tgt := 64) dX11_part_60 (by decide) ?_
      exact abX11_part_64 l G d hG hd kk27 _ _ _ _ _ _ _ _ _ _ hw
set_option maxRecDepth 100000 in
theorem abX11_part_27 (l : Launch) (G : aG) (d : Nat) (hG : a_GT G) (hd : 2 ≤ d) {Q : aH → Prop} (n : Nat) : ∀  (v0 : Nat) (v1 : Int32) (v2 : Int32) (v3 : Int32) (v4 : Int32) (h : aH), wbX11_part_27 n v0 v1 v2 v3 v4 h Q → AW l G d 0 0 mX11_part (qV Q) 27 [(0, .ref v0), (1, .int v1), (2, .int v2), (3, .int v3), (4, .int v4)] [] h := by
  induction n with
  | zero => exact fun _ _ _ _ _ _ hw => hw.elim
  | succ n ih => exact fun _ _ _ _ _ _ hw => abX11_part_27_i l G d hG hd ih _ _ _ _ _ _ hw
set_option maxRecDepth 100000 in
theorem acX11_part (l : Launch) (G : aG) (d : Nat) (hG : a_GT G) (hd : 2 ≤ d) {Q : aH → Prop} {h : aH} {v0 : Nat} {v1 : Int32} {v2 : Int32} (hw : wX11_part h v0 v1 v2 Q) : AC l G d 0 0 mX11_part [.ref v0, .int v1, .int v2] h (qV Q) := by
  refine ac_of iX11_part (Nat.le_of_ble_eq_true rfl) ?_
  show AW l G d 0 0 mX11_part (qV Q) 0 [(0, .ref v0), (1, .int v1), (2, .int v2)] [] h
  unfold wX11_part at hw
  refine aw_bipush (v := 108) dX11_part_0 (by decide) ?_
  refine aw_iload_n 2 dX11_part_2 rfl rfl ?_
  refine aw_imul dX11_part_3 ?_
  refine aw_bipush (v := 108) dX11_part_4 (by decide) ?_
  refine aw_iadd dX11_part_6 ?_
  refine aw_istore_n (lv' := [(3, .int ((108 * v2) + 108)), (0, .ref v0), (1, .int v1), (2, .int v2)]) dX11_part_7 rfl (by decide) rfl ?_
  refine aw_aload_n 1 dX11_part_8 rfl rfl ?_
  obtain ⟨fs22, r21, h1, h2, hw⟩ := hw
  refine aw_getf (k := 38) dX11_part_9 clX11 (by decide) k_986 (Or.inl rfl) h1 h2 ?_
  refine aw_bipush (v := 12) dX11_part_12 (by decide) ?_
  refine aw_iload_n 3 dX11_part_14 rfl rfl ?_
  refine aw_imul dX11_part_15 ?_
  refine aw_bipush (v := 12) dX11_part_16 (by decide) ?_
  refine aw_iadd dX11_part_18 ?_
  refine aw_bipush (v := 12) dX11_part_19 (by decide) ?_
  refine aw_staticV (As := [.ref r21, .int ((12 * v2) + 12), .int 12]) (rest := []) dX11_part_21 (acX11_wipe l G (d - 1) hG (by omega) hw) iX11_wipe rfl k_1281 k_1282 (by omega) (by decide) (by decide) rfl (Nat.le_of_ble_eq_true rfl) (fun h23 hw => ?_)
  refine aw_iconst (v := 0) dX11_part_24 (by decide) ?_
  refine aw_istore (lv' := [(4, .int 0), (3, .int ((108 * v2) + 108)), (0, .ref v0), (1, .int v1), (2, .int v2)]) dX11_part_25 (by decide) rfl ?_
  obtain ⟨n, hw⟩ := hw
  refine aw_sub (lv' := [(0, .ref v0), (1, .int v1), (2, .int v2), (3, .int ((108 * v2) + 108)), (4, .int 0)]) [2, 3, 4, 1, 0] rfl ?_
  exact abX11_part_27 l G d hG hd n _ _ _ _ _ _ hw
-- X11_last
def wbX11_last_105 (s0 : Int32) (s1 : Int32) (s2 : Int32) (s3 : Nat) (h : aH) (Q : aH → Prop) : Prop :=
  sI h s3 s2 ((s1 ||| s0)) (fun h1 => Q h1)
def wbX11_last_104 (s0 : Int32) (s1 : Int32) (s2 : Nat) (h : aH) (Q : aH → Prop) : Prop :=
  wbX11_last_105 0 s0 s1 s2 h Q
def wbX11_last_73 (K43 : Nat → Int32 → Int32 → Int32 → Int32 → Int32 →  aH → Prop) (v0 : Nat) (v1 : Int32) (v3 : Int32) (v4 : Int32) (v6 : Int32) (s0 : Int32) (s1 : Int32) (h : aH) (Q : aH → Prop) : Prop :=
  K43 v0 v1 v3 v4 ((s1 ||| s0)) ((v6 + 1)) h
def wbX11_last_43_i (K43 : Nat → Int32 → Int32 → Int32 → Int32 → Int32 →  aH → Prop) (v0 : Nat) (v1 : Int32) (v3 : Int32) (v4 : Int32) (v5 : Int32) (v6 : Int32) (h : aH) (Q : aH → Prop) : Prop :=
  (9 ≤ v6 → rR h v0 9 35 (fun r2 => aI h r2 v1 (fun r4 => (v5 = 0 → wbX11_last_104 r4 v1 r2 h Q) ∧ (¬ v5 = 0 → (v3 ≤ 0 → wbX11_last_104 r4 v1 r2 h Q) ∧ (¬ v3 ≤ 0 → wbX11_last_105 ((1 <<< (v3 &&& 31))) r4 v1 r2 h Q))))) ∧ (¬ 9 ≤ v6 → rR h v0 9 36 (fun r5 => aI h r5 ((v4 + (12 * v6))) (fun r7 => (r7 = 0 → wbX11_last_73  K43 v0 v1 v3 v4 v6 0 v5 h Q) ∧ (¬ r7 = 0 → wbX11_last_73  K43 v0 v1 v3 v4 v6 1 v5 h Q))))
def wbX11_last_43 (n : Nat) (v0 : Nat) (v1 : Int32) (v3 : Int32) (v4 : Int32) (v5 : Int32) (v6 : Int32) (h : aH) (Q : aH → Prop) : Prop := match n with
  | 0 => False
  | n + 1 => wbX11_last_43_i (fun v0 v1 v3 v4 v5 v6 h => wbX11_last_43 n v0 v1 v3 v4 v5 v6 h Q) v0 v1 v3 v4 v5 v6 h Q
def wX11_last (h : aH) (v0 : Nat) (v1 : Int32) (v2 : Int32) (v3 : Int32) (Q : aH → Prop) : Prop :=
  rR h v0 9 36 (fun r8 => rR h v0 9 36 (fun r10 => wX11_join h r8 (((108 * v2) + 108)) r10 (((108 * v2) + (12 * v3))) (fun h12 => isO h12 v0 9 (wX11_put h12 v0 v2 1 (fun h13 => ∃ n, wbX11_last_43 n v0 v1 v3 (((108 * v2) + 108)) 0 1 h13 Q)))))
set_option maxRecDepth 100000 in
theorem abX11_last_105 (l : Launch) (G : aG) (d : Nat) (hG : a_GT G) (hd : 3 ≤ d) {Q : aH → Prop} (s0 : Int32) (s1 : Int32) (s2 : Int32) (s3 : Nat) (h : aH) (hw : wbX11_last_105 s0 s1 s2 s3 h Q) : AW l G d 0 0 mX11_last (qV Q) 105 [] [.int s0, .int s1, .int s2, .ref s3] h := by
  unfold wbX11_last_105 at hw
  refine aw_ior dX11_last_105 ?_
  obtain ⟨_, _, h1, h2, hw⟩ := hw
  refine aw_iast dX11_last_106 h1 h2 ?_
  generalize a_up _ _ _ = h1 at hw ⊢
  exact aw_vret dX11_last_107 rfl ⟨rfl, hw⟩
set_option maxRecDepth 100000 in
theorem abX11_last_104 (l : Launch) (G : aG) (d : Nat) (hG : a_GT G) (hd : 3 ≤ d) {Q : aH → Prop} (s0 : Int32) (s1 : Int32) (s2 : Nat) (h : aH) (hw : wbX11_last_104 s0 s1 s2 h Q) : AW l G d 0 0 mX11_last (qV Q) 104 [] [.int s0, .int s1, .ref s2] h := by
  unfold wbX11_last_104 at hw
  refine aw_iconst (v := 0) dX11_last_104 (by decide) ?_
  exact abX11_last_105 l G d hG hd _ _ _ _ _ hw
set_option maxRecDepth 100000 in
theorem abX11_last_73 (l : Launch) (G : aG) (d : Nat) (hG : a_GT G) (hd : 3 ≤ d) {Q : aH → Prop} {K43 : Nat → Int32 → Int32 → Int32 → Int32 → Int32 →  aH → Prop} (kk43 : ∀ (v0 : Nat) (v1 : Int32) (v3 : Int32) (v4 : Int32) (v5 : Int32) (v6 : Int32) (h : aH), K43 v0 v1 v3 v4 v5 v6 h → AW l G d 0 0 mX11_last (qV Q) 43 [(0, .ref v0), (1, .int v1), (3, .int v3), (4, .int v4), (5, .int v5), (6, .int v6)] [] h) (v0 : Nat) (v1 : Int32) (v3 : Int32) (v4 : Int32) (v6 : Int32) (s0 : Int32) (s1 : Int32) (h : aH) (hw : wbX11_last_73 K43 v0 v1 v3 v4 v6 s0 s1 h Q) : AW l G d 0 0 mX11_last (qV Q) 73 [(0, .ref v0), (1, .int v1), (3, .int v3), (4, .int v4), (6, .int v6)] [.int s0, .int s1] h := by
  unfold wbX11_last_73 at hw
  refine aw_ior dX11_last_73 ?_
  refine aw_istore (lv' := [(5, .int (s1 ||| s0)), (0, .ref v0), (1, .int v1), (3, .int v3), (4, .int v4), (6, .int v6)]) dX11_last_74 (by decide) rfl ?_
  refine aw_iinc (v := (v6 + 1)) (lv' := [(6, .int (v6 + 1)), (5, .int (s1 ||| s0)), (0, .ref v0), (1, .int v1), (3, .int v3), (4, .int v4)]) 5 dX11_last_76 rfl rfl (by decide) rfl ?_
  refine aw_goto (tgt := 43) dX11_last_79 (by decide) ?_
  refine aw_sub (lv' := [(0, .ref v0), (1, .int v1), (3, .int v3), (4, .int v4), (5, .int (s1 ||| s0)), (6, .int (v6 + 1))]) [2, 3, 4, 5, 1, 0] rfl ?_
  exact kk43 _ _ _ _ _ _ _ hw
set_option maxRecDepth 100000 in
theorem abX11_last_43_i (l : Launch) (G : aG) (d : Nat) (hG : a_GT G) (hd : 3 ≤ d) {Q : aH → Prop} {K43 : Nat → Int32 → Int32 → Int32 → Int32 → Int32 →  aH → Prop} (kk43 : ∀ (v0 : Nat) (v1 : Int32) (v3 : Int32) (v4 : Int32) (v5 : Int32) (v6 : Int32) (h : aH), K43 v0 v1 v3 v4 v5 v6 h → AW l G d 0 0 mX11_last (qV Q) 43 [(0, .ref v0), (1, .int v1), (3, .int v3), (4, .int v4), (5, .int v5), (6, .int v6)] [] h) (v0 : Nat) (v1 : Int32) (v3 : Int32) (v4 : Int32) (v5 : Int32) (v6 : Int32) (h : aH) (hw : wbX11_last_43_i K43 v0 v1 v3 v4 v5 v6 h Q) : AW l G d 0 0 mX11_last (qV Q) 43 [(0, .ref v0), (1, .int v1), (3, .int v3), (4, .int v4), (5, .int v5), (6, .int v6)] [] h := by
  unfold wbX11_last_43_i at hw
  refine aw_iload 5 dX11_last_43 rfl ?_
  refine aw_bipush (v := 9) dX11_last_45 (by decide) ?_
  refine aw_icmp_ge (tgt := 82) dX11_last_47 (by decide) (fun z => ?_) (fun z => ?_)
  · have hw := hw.1 z
    refine aw_aload_n 0 dX11_last_82 rfl rfl ?_
    obtain ⟨fs3, r2, h1, h2, hw⟩ := hw
    refine aw_getf (k := 35) dX11_last_83 clX11 (by decide) k_983 (Or.inl rfl) h1 h2 ?_
    refine aw_iload_n 1 dX11_last_86 rfl rfl ?_
    refine aw_dup2 dX11_last_87 rfl rfl ?_
    obtain ⟨_, _, r4, h1, h2, h3, hw⟩ := hw
    refine aw_aI dX11_last_88 h1 h2 h3 ?_
    refine aw_iload 4 dX11_last_89 rfl ?_
    refine aw_if_eq (tgt := 104) dX11_last_91 (by decide) (fun z => ?_) (fun z => ?_)
    · have hw := hw.1 z
      refine aw_sub (lv' := []) [] rfl ?_
      exact abX11_last_104 l G d hG hd _ _ _ _ hw
    · have hw := hw.2 z
      refine aw_iload_n 2 dX11_last_94 rfl rfl ?_
      refine aw_if_le (tgt := 104) dX11_last_95 (by decide) (fun z => ?_) (fun z => ?_)
      · have hw := hw.1 z
        refine aw_sub (lv' := []) [] rfl ?_
        exact abX11_last_104 l G d hG hd _ _ _ _ hw
      · have hw := hw.2 z
        refine aw_iconst (v := 1) dX11_last_98 (by decide) ?_
        refine aw_iload_n 2 dX11_last_99 rfl rfl ?_
        refine aw_ishl dX11_last_100 ?_
        refine aw_goto (tgt := 105) dX11_last_101 (by decide) ?_
        refine aw_sub (lv' := []) [] rfl ?_
        exact abX11_last_105 l G d hG hd _ _ _ _ _ hw
  · have hw := hw.2 z
    refine aw_iload 4 dX11_last_50 rfl ?_
    refine aw_aload_n 0 dX11_last_52 rfl rfl ?_
    obtain ⟨fs6, r5, h1, h2, hw⟩ := hw
    refine aw_getf (k := 36) dX11_last_53 clX11 (by decide) k_984 (Or.inl rfl) h1 h2 ?_
    refine aw_iload 3 dX11_last_56 rfl ?_
    refine aw_bipush (v := 12) dX11_last_58 (by decide) ?_
    refine aw_iload 5 dX11_last_60 rfl ?_
    refine aw_imul dX11_last_62 ?_
    refine aw_iadd dX11_last_63 ?_
    obtain ⟨_, _, r7, h1, h2, h3, hw⟩ := hw
    refine aw_aI dX11_last_64 h1 h2 h3 ?_
    refine aw_if_eq (tgt := 72) dX11_last_65 (by decide) (fun z => ?_) (fun z => ?_)
    · have hw := hw.1 z
      refine aw_iconst (v := 0) dX11_last_72 (by decide) ?_
      refine aw_sub (lv' := [(0, .ref v0), (1, .int v1), (3, .int v3), (4, .int v4), (6, .int v6)]) [0, 1, 2, 3, 5] rfl ?_
      exact abX11_last_73 l G d hG hd kk43 _ _ _ _ _ _ _ _ hw
    · have hw := hw.2 z
      refine aw_iconst (v := 1) dX11_last_68 (by decide) ?_
      refine aw_goto (tgt := 73) dX11_last_69 (by decide) ?_
      refine aw_sub (lv' := [(0, .ref v0), (1, .int v1), (3, .int v3), (4, .int v4), (6, .int v6)]) [0, 1, 2, 3, 5] rfl ?_
      exact abX11_last_73 l G d hG hd kk43 _ _ _ _ _ _ _ _ hw
set_option maxRecDepth 100000 in
theorem abX11_last_43 (l : Launch) (G : aG) (d : Nat) (hG : a_GT G) (hd : 3 ≤ d) {Q : aH → Prop} (n : Nat) : ∀  (v0 : Nat) (v1 : Int32) (v3 : Int32) (v4 : Int32) (v5 : Int32) (v6 : Int32) (h : aH), wbX11_last_43 n v0 v1 v3 v4 v5 v6 h Q → AW l G d 0 0 mX11_last (qV Q) 43 [(0, .ref v0), (1, .int v1), (3, .int v3), (4, .int v4), (5, .int v5), (6, .int v6)] [] h := by
  induction n with
  | zero => exact fun _ _ _ _ _ _ _ hw => hw.elim
  | succ n ih => exact fun _ _ _ _ _ _ _ hw => abX11_last_43_i l G d hG hd ih _ _ _ _ _ _ _ hw
set_option maxRecDepth 100000 in
theorem acX11_last (l : Launch) (G : aG) (d : Nat) (hG : a_GT G) (hd : 3 ≤ d) {Q : aH → Prop} {h : aH} {v0 : Nat} {v1 : Int32} {v2 : Int32} {v3 : Int32} (hw : wX11_last h v0 v1 v2 v3 Q) : AC l G d 0 0 mX11_last [.ref v0, .int v1, .int v2, .int v3] h (qV Q) := by
  refine ac_of iX11_last (Nat.le_of_ble_eq_true rfl) ?_
  show AW l G d 0 0 mX11_last (qV Q) 0 [(0, .ref v0), (1, .int v1), (2, .int v2), (3, .int v3)] [] h
  unfold wX11_last at hw
  refine aw_bipush (v := 108) dX11_last_0 (by decide) ?_
  refine aw_iload_n 2 dX11_last_2 rfl rfl ?_
  refine aw_imul dX11_last_3 ?_
  refine aw_bipush (v := 108) dX11_last_4 (by decide) ?_
  refine aw_iadd dX11_last_6 ?_
  refine aw_istore (lv' := [(4, .int ((108 * v2) + 108)), (0, .ref v0), (1, .int v1), (2, .int v2), (3, .int v3)]) dX11_last_7 (by decide) rfl ?_
  refine aw_aload_n 1 dX11_last_9 rfl rfl ?_
  obtain ⟨fs9, r8, h1, h2, hw⟩ := hw
  refine aw_getf (k := 36) dX11_last_10 clX11 (by decide) k_984 (Or.inl rfl) h1 h2 ?_
  refine aw_iload 0 dX11_last_13 rfl ?_
  refine aw_aload_n 1 dX11_last_15 rfl rfl ?_
  obtain ⟨fs11, r10, h1, h2, hw⟩ := hw
  refine aw_getf (k := 36) dX11_last_16 clX11 (by decide) k_984 (Or.inl rfl) h1 h2 ?_
  refine aw_bipush (v := 108) dX11_last_19 (by decide) ?_
  refine aw_iload_n 3 dX11_last_21 rfl rfl ?_
  refine aw_imul dX11_last_22 ?_
  refine aw_bipush (v := 12) dX11_last_23 (by decide) ?_
  refine aw_iload_n 4 dX11_last_25 rfl rfl ?_
  refine aw_imul dX11_last_26 ?_
  refine aw_iadd dX11_last_27 ?_
  refine aw_staticV (As := [.ref r8, .int ((108 * v2) + 108), .ref r10, .int ((108 * v2) + (12 * v3))]) (rest := []) dX11_last_28 (acX11_join l G (d - 1) hG (by omega) hw) iX11_join rfl k_1296 k_1297 (by omega) (by decide) (by decide) rfl (Nat.le_of_ble_eq_true rfl) (fun h12 hw => ?_)
  refine aw_aload_n 1 dX11_last_31 rfl rfl ?_
  refine aw_iload_n 3 dX11_last_32 rfl rfl ?_
  refine aw_iconst (v := 1) dX11_last_33 (by decide) ?_
  obtain ⟨_, h1, hw⟩ := hw
  refine aw_virtV (As := [.int v2, .int 1]) (rest := []) dX11_last_34 (acX11_put l G (d - 1) hG (by omega) hw) iX11_put rfl k_1349 k_1351 k_88 rfl h1 (by omega) (by decide) (by decide) rfl (Nat.le_of_ble_eq_true rfl) (fun h13 hw => ?_)
  refine aw_iconst (v := 0) dX11_last_37 (by decide) ?_
  refine aw_istore (lv' := [(5, .int 0), (4, .int ((108 * v2) + 108)), (0, .ref v0), (1, .int v1), (2, .int v2), (3, .int v3)]) dX11_last_38 (by decide) rfl ?_
  refine aw_iconst (v := 1) dX11_last_40 (by decide) ?_
  refine aw_istore (lv' := [(6, .int 1), (5, .int 0), (4, .int ((108 * v2) + 108)), (0, .ref v0), (1, .int v1), (2, .int v2), (3, .int v3)]) dX11_last_41 (by decide) rfl ?_
  obtain ⟨n, hw⟩ := hw
  refine aw_sub (lv' := [(0, .ref v0), (1, .int v1), (3, .int v3), (4, .int ((108 * v2) + 108)), (5, .int 0), (6, .int 1)]) [3, 4, 6, 2, 1, 0] rfl ?_
  exact abX11_last_43 l G d hG hd n _ _ _ _ _ _ _ hw
-- X11_throughGuard
def wbX11_throughGuard_382 (h : aH) (Q : aH → Prop) : Prop :=
  Q h
def wbX11_throughGuard_321 (v0 : Nat) (v1 : Int32) (v2 : Int32) (v3 : Int32) (v4 : Int32) (h : aH) (Q : aH → Prop) : Prop :=
  rR h v0 9 26 (fun r1 => rI h v0 9 27 (fun r3 => aI h r1 r3 (fun r5 => (¬ r5 = 9 → rR h v0 9 37 (fun r6 => rR h v0 9 26 (fun r8 => rI h v0 9 27 (fun r10 => aI h r8 r10 (fun r12 => rR h v0 9 38 (fun r13 => wX11_lay_ h r6 ((v3 + (12 * r12))) r13 v4 (fun h15 => rR h15 v0 9 15 (fun r16 => aI h15 r16 v1 (fun r18 => isO h15 v0 9 (wX11_step h15 v0 3 r18 (fun h19 => wbX11_throughGuard_382 h19 Q))))))))))) ∧ (r5 = 9 → isO h v0 9 (wX11_leave h v0 v1 v2 (fun h20 => wbX11_throughGuard_382 h20 Q))))))
def wbX11_throughGuard_269_i (K269 : Nat → Int32 → Int32 → Int32 → Int32 →  aH → Prop) (v0 : Nat) (v1 : Int32) (v2 : Int32) (v3 : Int32) (v4 : Int32) (h : aH) (Q : aH → Prop) : Prop :=
  rR h v0 9 26 (fun r21 => rI h v0 9 27 (fun r23 => aI h r21 r23 (fun r25 => (9 ≤ r25 → wbX11_throughGuard_321 v0 v1 v2 v3 v4 h Q) ∧ (¬ 9 ≤ r25 → rR h v0 9 37 (fun r26 => rR h v0 9 26 (fun r28 => rI h v0 9 27 (fun r30 => aI h r28 r30 (fun r32 => aI h r26 ((v3 + (12 * r32))) (fun r33 => (¬ r33 = 0 → wbX11_throughGuard_321 v0 v1 v2 v3 v4 h Q) ∧ (r33 = 0 → rR h v0 9 26 (fun r34 => rI h v0 9 27 (fun r36 => aI h r34 r36 (fun r38 => sI h r34 r36 ((r38 + 1)) (fun h39 => K269 v0 v1 v2 v3 v4 h39))))))))))))))
def wbX11_throughGuard_269 (n : Nat) (v0 : Nat) (v1 : Int32) (v2 : Int32) (v3 : Int32) (v4 : Int32) (h : aH) (Q : aH → Prop) : Prop := match n with
  | 0 => False
  | n + 1 => wbX11_throughGuard_269_i (fun v0 v1 v2 v3 v4 h => wbX11_throughGuard_269 n v0 v1 v2 v3 v4 h Q) v0 v1 v2 v3 v4 h Q
def wbX11_throughGuard_228_i (K228 : Nat → Int32 → Int32 → Int32 → Int32 →  aH → Prop) (v0 : Nat) (v1 : Int32) (v2 : Int32) (v3 : Int32) (v6 : Int32) (h : aH) (Q : aH → Prop) : Prop :=
  (108 ≤ v6 → isO h v0 9 (wX11_leave h v0 v1 v2 (fun h40 => Q h40))) ∧ (¬ 108 ≤ v6 → rR h v0 9 36 (fun r41 => aI h r41 ((v3 + v6)) (fun r43 => rR h v0 9 37 (fun r44 => aI h r44 ((v3 + v6)) (fun r46 => sI h r41 ((v3 + v6)) ((r43 ||| r46)) (fun h47 => K228 v0 v1 v2 v3 ((v6 + 1)) h47))))))
def wbX11_throughGuard_228 (n : Nat) (v0 : Nat) (v1 : Int32) (v2 : Int32) (v3 : Int32) (v6 : Int32) (h : aH) (Q : aH → Prop) : Prop := match n with
  | 0 => False
  | n + 1 => wbX11_throughGuard_228_i (fun v0 v1 v2 v3 v6 h => wbX11_throughGuard_228 n v0 v1 v2 v3 v6 h Q) v0 v1 v2 v3 v6 h Q
def wbX11_throughGuard_216 (v0 : Nat) (v1 : Int32) (v2 : Int32) (v3 : Int32) (v4 : Int32) (h : aH) (Q : aH → Prop) : Prop :=
  rR h v0 9 15 (fun r48 => aI h r48 v1 (fun r50 => (0 ≤ r50 → ∃ n, wbX11_throughGuard_269 n v0 v1 v2 v3 v4 h Q) ∧ (¬ 0 ≤ r50 → ∃ n, wbX11_throughGuard_228 n v0 v1 v2 v3 0 h Q)))
def wbX11_throughGuard_182 (v0 : Nat) (v1 : Int32) (v2 : Int32) (v3 : Int32) (v4 : Int32) (v5 : Int32) (h : aH) (Q : aH → Prop) : Prop :=
  (¬ v5 = 3 → wbX11_throughGuard_216 v0 v1 v2 v3 v4 h Q) ∧ (v5 = 3 → rR h v0 9 26 (fun r51 => rI h v0 9 27 (fun r53 => aI h r51 r53 (fun r55 => isO h v0 9 (wX11_last h v0 v1 v2 r55 (fun h56 => rR h56 v0 9 26 (fun r57 => rI h56 v0 9 27 (fun r59 => aI h56 r57 r59 (fun r61 => sI h56 r57 r59 ((r61 + 1)) (fun h62 => wbX11_throughGuard_216 v0 v1 v2 v3 v4 h62 Q))))))))))
def wbX11_throughGuard_141_i (K141 : Nat → Int32 → Int32 → Int32 → Int32 → Int32 → Int32 →  aH → Prop) (v0 : Nat) (v1 : Int32) (v2 : Int32) (v3 : Int32) (v4 : Int32) (v5 : Int32) (v6 : Int32) (h : aH) (Q : aH → Prop) : Prop :=
  (9 ≤ v6 → wbX11_throughGuard_182 v0 v1 v2 v3 v4 v5 h Q) ∧ (¬ 9 ≤ v6 → rR h v0 9 36 (fun r63 => rR h v0 9 37 (fun r65 => wX11_join h r63 (((v3 + 108) + (12 * v6))) r65 ((v3 + (12 * v6))) (fun h67 => K141 v0 v1 v2 v3 v4 v5 ((v6 + 1)) h67))))
def wbX11_throughGuard_141 (n : Nat) (v0 : Nat) (v1 : Int32) (v2 : Int32) (v3 : Int32) (v4 : Int32) (v5 : Int32) (v6 : Int32) (h : aH) (Q : aH → Prop) : Prop := match n with
  | 0 => False
  | n + 1 => wbX11_throughGuard_141_i (fun v0 v1 v2 v3 v4 v5 v6 h => wbX11_throughGuard_141 n v0 v1 v2 v3 v4 v5 v6 h Q) v0 v1 v2 v3 v4 v5 v6 h Q
def wbX11_throughGuard_132 (v0 : Nat) (v1 : Int32) (v2 : Int32) (v3 : Int32) (v4 : Int32) (v5 : Int32) (h : aH) (Q : aH → Prop) : Prop :=
  (¬ v5 = 2 → wbX11_throughGuard_182 v0 v1 v2 v3 v4 v5 h Q) ∧ (v5 = 2 → ∃ n, wbX11_throughGuard_141 n v0 v1 v2 v3 v4 v5 0 h Q)
def wbX11_throughGuard_118 (v0 : Nat) (v1 : Int32) (v2 : Int32) (v3 : Int32) (v4 : Int32) (v5 : Int32) (h : aH) (Q : aH → Prop) : Prop :=
  rR h v0 9 38 (fun r68 => rR h v0 9 37 (fun r70 => wX11_join h r68 v4 r70 v3 (fun h72 => wbX11_throughGuard_132 v0 v1 v2 v3 v4 v5 h72 Q)))
def wX11_throughGuard (h : aH) (v0 : Nat) (v1 : Int32) (v2 : Int32) (Q : aH → Prop) : Prop :=
  rR h v0 9 25 (fun r73 => rI h v0 9 27 (fun r75 => aI h r73 r75 (fun r77 => (¬ r77 = 0 → (¬ r77 = 1 → wbX11_throughGuard_132 v0 v1 v2 ((108 * v2)) (((12 * v2) + 12)) r77 h Q) ∧ (r77 = 1 → isO h v0 9 (wX11_part h v0 v1 v2 (fun h78 => rR h78 v0 9 38 (fun r79 => aI h78 r79 (((12 * v2) + 12)) (fun r81 => (r81 = 0 → wbX11_throughGuard_118 v0 v1 v2 ((108 * v2)) (((12 * v2) + 12)) r77 h78 Q) ∧ (¬ r81 = 0 → rR h78 v0 9 14 (fun r82 => aI h78 r82 v1 (fun r84 => (r84 < 0 → wbX11_throughGuard_118 v0 v1 v2 ((108 * v2)) (((12 * v2) + 12)) r77 h78 Q) ∧ (¬ r84 < 0 → rR h78 v0 9 14 (fun r85 => aI h78 r85 v1 (fun r87 => isO h78 v0 9 (wX11_step h78 v0 2 r87 (fun h88 => Q h88)))))))))))))) ∧ (r77 = 0 → isO h v0 9 (wX11_enter h v0 v1 v2 (fun h89 => rR h89 v0 9 37 (fun r90 => wX11_wipe h89 r90 ((108 * v2)) 108 (fun h92 => rR h92 v0 9 38 (fun r93 => rR h92 v0 9 38 (fun r95 => wX11_lay_ h92 r93 ((12 * v2)) r95 (((12 * v2) + 12)) (fun h97 => rR h97 v0 9 12 (fun r98 => aI h97 r98 v1 (fun r100 => isO h97 v0 9 (wX11_step h97 v0 1 r100 (fun h101 => Q h101)))))))))))))))
set_option maxRecDepth 100000 in
theorem abX11_throughGuard_382 (l : Launch) (G : aG) (d : Nat) (hG : a_GT G) (hd : 4 ≤ d) {Q : aH → Prop} (h : aH) (hw : wbX11_throughGuard_382  h Q) : AW l G d 0 0 mX11_throughGuard (qV Q) 382 [] [] h := by
  unfold wbX11_throughGuard_382 at hw
  exact aw_vret dX11_throughGuard_382 rfl ⟨rfl, hw⟩
set_option maxRecDepth 100000 in
theorem abX11_throughGuard_321 (l : Launch) (G : aG) (d : Nat) (hG : a_GT G) (hd : 4 ≤ d) {Q : aH → Prop} (v0 : Nat) (v1 : Int32) (v2 : Int32) (v3 : Int32) (v4 : Int32) (h : aH) (hw : wbX11_throughGuard_321 v0 v1 v2 v3 v4 h Q) : AW l G d 0 0 mX11_throughGuard (qV Q) 321 [(0, .ref v0), (1, .int v1), (2, .int v2), (3, .int v3), (4, .int v4)] [] h := by
  unfold wbX11_throughGuard_321 at hw
  refine aw_aload_n 0 dX11_throughGuard_321 rfl rfl ?_
  obtain ⟨fs2, r1, h1, h2, hw⟩ := hw
  refine aw_getf (k := 26) dX11_throughGuard_322 clX11 (by decide) k_974 (Or.inl rfl) h1 h2 ?_
  refine aw_aload_n 0 dX11_throughGuard_325 rfl rfl ?_
  obtain ⟨fs4, r3, h1, h2, hw⟩ := hw
  refine aw_getf (k := 27) dX11_throughGuard_326 clX11 (by decide) k_975 (Or.inl rfl) h1 h2 ?_
  obtain ⟨_, _, r5, h1, h2, h3, hw⟩ := hw
  refine aw_aI dX11_throughGuard_329 h1 h2 h3 ?_
  refine aw_bipush (v := 9) dX11_throughGuard_330 (by decide) ?_
  refine aw_icmp_ne (tgt := 344) dX11_throughGuard_332 (by decide) (fun z => ?_) (fun z => ?_)
  · have hw := hw.1 z
    refine aw_aload_n 0 dX11_throughGuard_344 rfl rfl ?_
    obtain ⟨fs7, r6, h1, h2, hw⟩ := hw
    refine aw_getf (k := 37) dX11_throughGuard_345 clX11 (by decide) k_985 (Or.inl rfl) h1 h2 ?_
    refine aw_iload_n 3 dX11_throughGuard_348 rfl rfl ?_
    refine aw_bipush (v := 12) dX11_throughGuard_349 (by decide) ?_
    refine aw_aload_n 0 dX11_throughGuard_351 rfl rfl ?_
    obtain ⟨fs9, r8, h1, h2, hw⟩ := hw
    refine aw_getf (k := 26) dX11_throughGuard_352 clX11 (by decide) k_974 (Or.inl rfl) h1 h2 ?_
    refine aw_aload_n 0 dX11_throughGuard_355 rfl rfl ?_
    obtain ⟨fs11, r10, h1, h2, hw⟩ := hw
    refine aw_getf (k := 27) dX11_throughGuard_356 clX11 (by decide) k_975 (Or.inl rfl) h1 h2 ?_
    obtain ⟨_, _, r12, h1, h2, h3, hw⟩ := hw
    refine aw_aI dX11_throughGuard_359 h1 h2 h3 ?_
    refine aw_imul dX11_throughGuard_360 ?_
    refine aw_iadd dX11_throughGuard_361 ?_
    refine aw_aload_n 0 dX11_throughGuard_362 rfl rfl ?_
    obtain ⟨fs14, r13, h1, h2, hw⟩ := hw
    refine aw_getf (k := 38) dX11_throughGuard_363 clX11 (by decide) k_986 (Or.inl rfl) h1 h2 ?_
    refine aw_iload 4 dX11_throughGuard_366 rfl ?_
    refine aw_staticV (As := [.ref r6, .int (v3 + (12 * r12)), .ref r13, .int v4]) (rest := []) dX11_throughGuard_368 (acX11_lay_ l G (d - 1) hG (by omega) hw) iX11_lay_ rfl k_1299 k_1300 (by omega) (by decide) (by decide) rfl (Nat.le_of_ble_eq_true rfl) (fun h15 hw => ?_)
    refine aw_aload_n 0 dX11_throughGuard_371 rfl rfl ?_
    refine aw_iconst (v := 3) dX11_throughGuard_372 (by decide) ?_
    refine aw_aload_n 0 dX11_throughGuard_373 rfl rfl ?_
    obtain ⟨fs17, r16, h1, h2, hw⟩ := hw
    refine aw_getf (k := 15) dX11_throughGuard_374 clX11 (by decide) k_963 (Or.inl rfl) h1 h2 ?_
    refine aw_iload_n 1 dX11_throughGuard_377 rfl rfl ?_
    obtain ⟨_, _, r18, h1, h2, h3, hw⟩ := hw
    refine aw_aI dX11_throughGuard_378 h1 h2 h3 ?_
    obtain ⟨_, h1, hw⟩ := hw
    refine aw_virtV (As := [.int 3, .int r18]) (rest := []) dX11_throughGuard_379 (acX11_step l G (d - 1) hG (by omega) hw) iX11_step rfl k_1225 k_1227 k_69 rfl h1 (by omega) (by decide) (by decide) rfl (Nat.le_of_ble_eq_true rfl) (fun h19 hw => ?_)
    refine aw_sub (lv' := []) [] rfl ?_
    exact abX11_throughGuard_382 l G d hG hd _ hw
  · have hw := hw.2 z
    refine aw_aload_n 0 dX11_throughGuard_335 rfl rfl ?_
    refine aw_iload_n 1 dX11_throughGuard_336 rfl rfl ?_
    refine aw_iload_n 2 dX11_throughGuard_337 rfl rfl ?_
    obtain ⟨_, h1, hw⟩ := hw
    refine aw_virtV (As := [.int v1, .int v2]) (rest := []) dX11_throughGuard_338 (acX11_leave l G (d - 1) hG (by omega) hw) iX11_leave rfl k_1341 k_1343 k_86 rfl h1 (by omega) (by decide) (by decide) rfl (Nat.le_of_ble_eq_true rfl) (fun h20 hw => ?_)
    refine aw_goto (tgt := 382) dX11_throughGuard_341 (by decide) ?_
    refine aw_sub (lv' := []) [] rfl ?_
    exact abX11_throughGuard_382 l G d hG hd _ hw
set_option maxRecDepth 100000 in
theorem abX11_throughGuard_269_i (l : Launch) (G : aG) (d : Nat) (hG : a_GT G) (hd : 4 ≤ d) {Q : aH → Prop} {K269 : Nat → Int32 → Int32 → Int32 → Int32 →  aH → Prop} (kk269 : ∀ (v0 : Nat) (v1 : Int32) (v2 : Int32) (v3 : Int32) (v4 : Int32) (h : aH), K269 v0 v1 v2 v3 v4 h → AW l G d 0 0 mX11_throughGuard (qV Q) 269 [(0, .ref v0), (1, .int v1), (2, .int v2), (3, .int v3), (4, .int v4)] [] h) (v0 : Nat) (v1 : Int32) (v2 : Int32) (v3 : Int32) (v4 : Int32) (h : aH) (hw : wbX11_throughGuard_269_i K269 v0 v1 v2 v3 v4 h Q) : AW l G d 0 0 mX11_throughGuard (qV Q) 269 [(0, .ref v0), (1, .int v1), (2, .int v2), (3, .int v3), (4, .int v4)] [] h := by
  unfold wbX11_throughGuard_269_i at hw
  refine aw_aload_n 0 dX11_throughGuard_269 rfl rfl ?_
  obtain ⟨fs22, r21, h1, h2, hw⟩ := hw
  refine aw_getf (k := 26) dX11_throughGuard_270 clX11 (by decide) k_974 (Or.inl rfl) h1 h2 ?_
  refine aw_aload_n 0 dX11_throughGuard_273 rfl rfl ?_
  obtain ⟨fs24, r23, h1, h2, hw⟩ := hw
  refine aw_getf (k := 27) dX11_throughGuard_274 clX11 (by decide) k_975 (Or.inl rfl) h1 h2 ?_
  obtain ⟨_, _, r25, h1, h2, h3, hw⟩ := hw
  refine aw_aI dX11_throughGuard_277 h1 h2 h3 ?_
  refine aw_bipush (v := 9) dX11_throughGuard_278 (by decide) ?_
  refine aw_icmp_ge (tgt := 321) dX11_throughGuard_280 (by decide) (fun z => ?_) (fun z => ?_)
  · have hw := hw.1 z
    exact abX11_throughGuard_321 l G d hG hd _ _ _ _ _ _ hw
  · have hw := hw.2 z
    refine aw_aload_n 0 dX11_throughGuard_283 rfl rfl ?_
    obtain ⟨fs27, r26, h1, h2, hw⟩ := hw
    refine aw_getf (k := 37) dX11_throughGuard_284 clX11 (by decide) k_985 (Or.inl rfl) h1 h2 ?_
    refine aw_iload_n 3 dX11_throughGuard_287 rfl rfl ?_
    refine aw_bipush (v := 12) dX11_throughGuard_288 (by decide) ?_
    refine aw_aload_n 0 dX11_throughGuard_290 rfl rfl ?_
    obtain ⟨fs29, r28, h1, h2, hw⟩ := hw
    refine aw_getf (k := 26) dX11_throughGuard_291 clX11 (by decide) k_974 (Or.inl rfl) h1 h2 ?_
    refine aw_aload_n 0 dX11_throughGuard_294 rfl rfl ?_
    obtain ⟨fs31, r30, h1, h2, hw⟩ := hw
    refine aw_getf (k := 27) dX11_throughGuard_295 clX11 (by decide) k_975 (Or.inl rfl) h1 h2 ?_
    obtain ⟨_, _, r32, h1, h2, h3, hw⟩ := hw
    refine aw_aI dX11_throughGuard_298 h1 h2 h3 ?_
    refine aw_imul dX11_throughGuard_299 ?_
    refine aw_iadd dX11_throughGuard_300 ?_
    obtain ⟨_, _, r33, h1, h2, h3, hw⟩ := hw
    refine aw_aI dX11_throughGuard_301 h1 h2 h3 ?_
    refine aw_if_ne (tgt := 321) dX11_throughGuard_302 (by decide) (fun z => ?_) (fun z => ?_)
    · have hw := hw.1 z
      exact abX11_throughGuard_321 l G d hG hd _ _ _ _ _ _ hw
    · have hw := hw.2 z
      refine aw_aload_n 0 dX11_throughGuard_305 rfl rfl ?_
      obtain ⟨fs35, r34, h1, h2, hw⟩ := hw
      refine aw_getf (k := 26) dX11_throughGuard_306 clX11 (by decide) k_974 (Or.inl rfl) h1 h2 ?_
      refine aw_aload_n 0 dX11_throughGuard_309 rfl rfl ?_
      obtain ⟨fs37, r36, h1, h2, hw⟩ := hw
      refine aw_getf (k := 27) dX11_throughGuard_310 clX11 (by decide) k_975 (Or.inl rfl) h1 h2 ?_
      refine aw_dup2 dX11_throughGuard_313 rfl rfl ?_
      obtain ⟨_, _, r38, h1, h2, h3, hw⟩ := hw
      refine aw_aI dX11_throughGuard_314 h1 h2 h3 ?_
      refine aw_iconst (v := 1) dX11_throughGuard_315 (by decide) ?_
      refine aw_iadd dX11_throughGuard_316 ?_
      obtain ⟨_, _, h1, h2, hw⟩ := hw
      refine aw_iast dX11_throughGuard_317 h1 h2 ?_
      generalize a_up _ _ _ = h39 at hw ⊢
      refine aw_goto (tgt := 269) dX11_throughGuard_318 (by decide) ?_
      exact kk269 _ _ _ _ _ _ hw
set_option maxRecDepth 100000 in
theorem abX11_throughGuard_269 (l : Launch) (G : aG) (d : Nat) (hG : a_GT G) (hd : 4 ≤ d) {Q : aH → Prop} (n : Nat) : ∀  (v0 : Nat) (v1 : Int32) (v2 : Int32) (v3 : Int32) (v4 : Int32) (h : aH), wbX11_throughGuard_269 n v0 v1 v2 v3 v4 h Q → AW l G d 0 0 mX11_throughGuard (qV Q) 269 [(0, .ref v0), (1, .int v1), (2, .int v2), (3, .int v3), (4, .int v4)] [] h := by
  induction n with
  | zero => exact fun _ _ _ _ _ _ hw => hw.elim
  | succ n ih => exact fun _ _ _ _ _ _ hw => abX11_throughGuard_269_i l G d hG hd ih _ _ _ _ _ _ hw
set_option maxRecDepth 100000 in
theorem abX11_throughGuard_228_i (l : Launch) (G : aG) (d : Nat) (hG : a_GT G) (hd : 4 ≤ d) {Q : aH → Prop} {K228 : Nat → Int32 → Int32 → Int32 → Int32 →  aH → Prop} (kk228 : ∀ (v0 : Nat) (v1 : Int32) (v2 : Int32) (v3 : Int32) (v6 : Int32) (h : aH), K228 v0 v1 v2 v3 v6 h → AW l G d 0 0 mX11_throughGuard (qV Q) 228 [(0, .ref v0), (1, .int v1), (2, .int v2), (3, .int v3), (6, .int v6)] [] h) (v0 : Nat) (v1 : Int32) (v2 : Int32) (v3 : Int32) (v6 : Int32) (h : aH) (hw : wbX11_throughGuard_228_i K228 v0 v1 v2 v3 v6 h Q) : AW l G d 0 0 mX11_throughGuard (qV Q) 228 [(0, .ref v0), (1, .int v1), (2, .int v2), (3, .int v3), (6, .int v6)] [] h := by
  unfold wbX11_throughGuard_228_i at hw
  refine aw_iload 4 dX11_throughGuard_228 rfl ?_
  refine aw_bipush (v := 108) dX11_throughGuard_230 (by decide) ?_
  refine aw_icmp_ge (tgt := 262) dX11_throughGuard_232 (by decide) (fun z => ?_) (fun z => ?_)
  · have hw := hw.1 z
    refine aw_aload_n 0 dX11_throughGuard_262 rfl rfl ?_
    refine aw_iload_n 1 dX11_throughGuard_263 rfl rfl ?_
    refine aw_iload_n 2 dX11_throughGuard_264 rfl rfl ?_
    obtain ⟨_, h1, hw⟩ := hw
    refine aw_virtV (As := [.int v1, .int v2]) (rest := []) dX11_throughGuard_265 (acX11_leave l G (d - 1) hG (by omega) hw) iX11_leave rfl k_1341 k_1343 k_86 rfl h1 (by omega) (by decide) (by decide) rfl (Nat.le_of_ble_eq_true rfl) (fun h40 hw => ?_)
    exact aw_vret dX11_throughGuard_268 rfl ⟨rfl, hw⟩
  · have hw := hw.2 z
    refine aw_aload_n 0 dX11_throughGuard_235 rfl rfl ?_
    obtain ⟨fs42, r41, h1, h2, hw⟩ := hw
    refine aw_getf (k := 36) dX11_throughGuard_236 clX11 (by decide) k_984 (Or.inl rfl) h1 h2 ?_
    refine aw_iload_n 3 dX11_throughGuard_239 rfl rfl ?_
    refine aw_iload 4 dX11_throughGuard_240 rfl ?_
    refine aw_iadd dX11_throughGuard_242 ?_
    refine aw_dup2 dX11_throughGuard_243 rfl rfl ?_
    obtain ⟨_, _, r43, h1, h2, h3, hw⟩ := hw
    refine aw_aI dX11_throughGuard_244 h1 h2 h3 ?_
    refine aw_aload_n 0 dX11_throughGuard_245 rfl rfl ?_
    obtain ⟨fs45, r44, h1, h2, hw⟩ := hw
    refine aw_getf (k := 37) dX11_throughGuard_246 clX11 (by decide) k_985 (Or.inl rfl) h1 h2 ?_
    refine aw_iload_n 3 dX11_throughGuard_249 rfl rfl ?_
    refine aw_iload 4 dX11_throughGuard_250 rfl ?_
    refine aw_iadd dX11_throughGuard_252 ?_
    obtain ⟨_, _, r46, h1, h2, h3, hw⟩ := hw
    refine aw_aI dX11_throughGuard_253 h1 h2 h3 ?_
    refine aw_ior dX11_throughGuard_254 ?_
    obtain ⟨_, _, h1, h2, hw⟩ := hw
    refine aw_iast dX11_throughGuard_255 h1 h2 ?_
    generalize a_up _ _ _ = h47 at hw ⊢
    refine aw_iinc (v := (v6 + 1)) (lv' := [(6, .int (v6 + 1)), (0, .ref v0), (1, .int v1), (2, .int v2), (3, .int v3)]) 4 dX11_throughGuard_256 rfl rfl (by decide) rfl ?_
    refine aw_goto (tgt := 228) dX11_throughGuard_259 (by decide) ?_
    refine aw_sub (lv' := [(0, .ref v0), (1, .int v1), (2, .int v2), (3, .int v3), (6, .int (v6 + 1))]) [1, 2, 3, 4, 0] rfl ?_
    exact kk228 _ _ _ _ _ _ hw
set_option maxRecDepth 100000 in
theorem abX11_throughGuard_228 (l : Launch) (G : aG) (d : Nat) (hG : a_GT G) (hd : 4 ≤ d) {Q : aH → Prop} (n : Nat) : ∀  (v0 : Nat) (v1 : Int32) (v2 : Int32) (v3 : Int32) (v6 : Int32) (h : aH), wbX11_throughGuard_228 n v0 v1 v2 v3 v6 h Q → AW l G d 0 0 mX11_throughGuard (qV Q) 228 [(0, .ref v0), (1, .int v1), (2, .int v2), (3, .int v3), (6, .int v6)] [] h := by
  induction n with
  | zero => exact fun _ _ _ _ _ _ hw => hw.elim
  | succ n ih => exact fun _ _ _ _ _ _ hw => abX11_throughGuard_228_i l G d hG hd ih _ _ _ _ _ _ hw
set_option maxRecDepth 100000 in
theorem abX11_throughGuard_216 (l : Launch) (G : aG) (d : Nat) (hG : a_GT G) (hd : 4 ≤ d) {Q : aH → Prop} (v0 : Nat) (v1 : Int32) (v2 : Int32) (v3 : Int32) (v4 : Int32) (h : aH) (hw : wbX11_throughGuard_216 v0 v1 v2 v3 v4 h Q) : AW l G d 0 0 mX11_throughGuard (qV Q) 216 [(0, .ref v0), (1, .int v1), (2, .int v2), (3, .int v3), (4, .int v4)] [] h := by
  unfold wbX11_throughGuard_216 at hw
  refine aw_aload_n 0 dX11_throughGuard_216 rfl rfl ?_
  obtain ⟨fs49, r48, h1, h2, hw⟩ := hw
  refine aw_getf (k := 15) dX11_throughGuard_217 clX11 (by decide) k_963 (Or.inl rfl) h1 h2 ?_
  refine aw_iload_n 1 dX11_throughGuard_220 rfl rfl ?_
  obtain ⟨_, _, r50, h1, h2, h3, hw⟩ := hw
  refine aw_aI dX11_throughGuard_221 h1 h2 h3 ?_
  refine aw_if_ge (tgt := 269) dX11_throughGuard_222 (by decide) (fun z => ?_) (fun z => ?_)
  · have hw := hw.1 z
    obtain ⟨n, hw⟩ := hw
    exact abX11_throughGuard_269 l G d hG hd n _ _ _ _ _ _ hw
  · have hw := hw.2 z
    refine aw_iconst (v := 0) dX11_throughGuard_225 (by decide) ?_
    refine aw_istore (lv' := [(6, .int 0), (0, .ref v0), (1, .int v1), (2, .int v2), (3, .int v3), (4, .int v4)]) dX11_throughGuard_226 (by decide) rfl ?_
    obtain ⟨n, hw⟩ := hw
    refine aw_sub (lv' := [(0, .ref v0), (1, .int v1), (2, .int v2), (3, .int v3), (6, .int 0)]) [1, 2, 3, 4, 0] rfl ?_
    exact abX11_throughGuard_228 l G d hG hd n _ _ _ _ _ _ hw
set_option maxRecDepth 100000 in
theorem abX11_throughGuard_182 (l : Launch) (G : aG) (d : Nat) (hG : a_GT G) (hd : 4 ≤ d) {Q : aH → Prop} (v0 : Nat) (v1 : Int32) (v2 : Int32) (v3 : Int32) (v4 : Int32) (v5 : Int32) (h : aH) (hw : wbX11_throughGuard_182 v0 v1 v2 v3 v4 v5 h Q) : AW l G d 0 0 mX11_throughGuard (qV Q) 182 [(0, .ref v0), (1, .int v1), (2, .int v2), (3, .int v3), (4, .int v4), (5, .int v5)] [] h := by
  unfold wbX11_throughGuard_182 at hw
  refine aw_iload 5 dX11_throughGuard_182 rfl ?_
  refine aw_iconst (v := 3) dX11_throughGuard_184 (by decide) ?_
  refine aw_icmp_ne (tgt := 216) dX11_throughGuard_185 (by decide) (fun z => ?_) (fun z => ?_)
  · have hw := hw.1 z
    refine aw_sub (lv' := [(0, .ref v0), (1, .int v1), (2, .int v2), (3, .int v3), (4, .int v4)]) [0, 1, 2, 3, 4] rfl ?_
    exact abX11_throughGuard_216 l G d hG hd _ _ _ _ _ _ hw
  · have hw := hw.2 z
    refine aw_aload_n 0 dX11_throughGuard_188 rfl rfl ?_
    refine aw_iload_n 1 dX11_throughGuard_189 rfl rfl ?_
    refine aw_iload_n 2 dX11_throughGuard_190 rfl rfl ?_
    refine aw_aload_n 0 dX11_throughGuard_191 rfl rfl ?_
    obtain ⟨fs52, r51, h1, h2, hw⟩ := hw
    refine aw_getf (k := 26) dX11_throughGuard_192 clX11 (by decide) k_974 (Or.inl rfl) h1 h2 ?_
    refine aw_aload_n 0 dX11_throughGuard_195 rfl rfl ?_
    obtain ⟨fs54, r53, h1, h2, hw⟩ := hw
    refine aw_getf (k := 27) dX11_throughGuard_196 clX11 (by decide) k_975 (Or.inl rfl) h1 h2 ?_
    obtain ⟨_, _, r55, h1, h2, h3, hw⟩ := hw
    refine aw_aI dX11_throughGuard_199 h1 h2 h3 ?_
    obtain ⟨_, h1, hw⟩ := hw
    refine aw_virtV (As := [.int v1, .int v2, .int r55]) (rest := []) dX11_throughGuard_200 (acX11_last l G (d - 1) hG (by omega) hw) iX11_last rfl k_1365 k_1367 k_92 rfl h1 (by omega) (by decide) (by decide) rfl (Nat.le_of_ble_eq_true rfl) (fun h56 hw => ?_)
    refine aw_aload_n 0 dX11_throughGuard_203 rfl rfl ?_
    obtain ⟨fs58, r57, h1, h2, hw⟩ := hw
    refine aw_getf (k := 26) dX11_throughGuard_204 clX11 (by decide) k_974 (Or.inl rfl) h1 h2 ?_
    refine aw_aload_n 0 dX11_throughGuard_207 rfl rfl ?_
    obtain ⟨fs60, r59, h1, h2, hw⟩ := hw
    refine aw_getf (k := 27) dX11_throughGuard_208 clX11 (by decide) k_975 (Or.inl rfl) h1 h2 ?_
    refine aw_dup2 dX11_throughGuard_211 rfl rfl ?_
    obtain ⟨_, _, r61, h1, h2, h3, hw⟩ := hw
    refine aw_aI dX11_throughGuard_212 h1 h2 h3 ?_
    refine aw_iconst (v := 1) dX11_throughGuard_213 (by decide) ?_
    refine aw_iadd dX11_throughGuard_214 ?_
    obtain ⟨_, _, h1, h2, hw⟩ := hw
    refine aw_iast dX11_throughGuard_215 h1 h2 ?_
    generalize a_up _ _ _ = h62 at hw ⊢
    refine aw_sub (lv' := [(0, .ref v0), (1, .int v1), (2, .int v2), (3, .int v3), (4, .int v4)]) [0, 1, 2, 3, 4] rfl ?_
    exact abX11_throughGuard_216 l G d hG hd _ _ _ _ _ _ hw
set_option maxRecDepth 100000 in
theorem abX11_throughGuard_141_i (l : Launch) (G : aG) (d : Nat) (hG : a_GT G) (hd : 4 ≤ d) {Q : aH → Prop} {K141 : Nat → Int32 → Int32 → Int32 → Int32 → Int32 → Int32 →  aH → Prop} (kk141 : ∀ (v0 : Nat) (v1 : Int32) (v2 : Int32) (v3 : Int32) (v4 : Int32) (v5 : Int32) (v6 : Int32) (h : aH), K141 v0 v1 v2 v3 v4 v5 v6 h → AW l G d 0 0 mX11_throughGuard (qV Q) 141 [(0, .ref v0), (1, .int v1), (2, .int v2), (3, .int v3), (4, .int v4), (5, .int v5), (6, .int v6)] [] h) (v0 : Nat) (v1 : Int32) (v2 : Int32) (v3 : Int32) (v4 : Int32) (v5 : Int32) (v6 : Int32) (h : aH) (hw : wbX11_throughGuard_141_i K141 v0 v1 v2 v3 v4 v5 v6 h Q) : AW l G d 0 0 mX11_throughGuard (qV Q) 141 [(0, .ref v0), (1, .int v1), (2, .int v2), (3, .int v3), (4, .int v4), (5, .int v5), (6, .int v6)] [] h := by
  unfold wbX11_throughGuard_141_i at hw
  refine aw_iload 6 dX11_throughGuard_141 rfl ?_
  refine aw_bipush (v := 9) dX11_throughGuard_143 (by decide) ?_
  refine aw_icmp_ge (tgt := 182) dX11_throughGuard_145 (by decide) (fun z => ?_) (fun z => ?_)
  · have hw := hw.1 z
    refine aw_sub (lv' := [(0, .ref v0), (1, .int v1), (2, .int v2), (3, .int v3), (4, .int v4), (5, .int v5)]) [0, 1, 2, 3, 4, 5] rfl ?_
    exact abX11_throughGuard_182 l G d hG hd _ _ _ _ _ _ _ hw
  · have hw := hw.2 z
    refine aw_aload_n 0 dX11_throughGuard_148 rfl rfl ?_
    obtain ⟨fs64, r63, h1, h2, hw⟩ := hw
    refine aw_getf (k := 36) dX11_throughGuard_149 clX11 (by decide) k_984 (Or.inl rfl) h1 h2 ?_
    refine aw_iload_n 3 dX11_throughGuard_152 rfl rfl ?_
    refine aw_bipush (v := 108) dX11_throughGuard_153 (by decide) ?_
    refine aw_iadd dX11_throughGuard_155 ?_
    refine aw_bipush (v := 12) dX11_throughGuard_156 (by decide) ?_
    refine aw_iload 6 dX11_throughGuard_158 rfl ?_
    refine aw_imul dX11_throughGuard_160 ?_
    refine aw_iadd dX11_throughGuard_161 ?_
    refine aw_aload_n 0 dX11_throughGuard_162 rfl rfl ?_
    obtain ⟨fs66, r65, h1, h2, hw⟩ := hw
    refine aw_getf (k := 37) dX11_throughGuard_163 clX11 (by decide) k_985 (Or.inl rfl) h1 h2 ?_
    refine aw_iload_n 3 dX11_throughGuard_166 rfl rfl ?_
    refine aw_bipush (v := 12) dX11_throughGuard_167 (by decide) ?_
    refine aw_iload 6 dX11_throughGuard_169 rfl ?_
    refine aw_imul dX11_throughGuard_171 ?_
    refine aw_iadd dX11_throughGuard_172 ?_
    refine aw_staticV (As := [.ref r63, .int ((v3 + 108) + (12 * v6)), .ref r65, .int (v3 + (12 * v6))]) (rest := []) dX11_throughGuard_173 (acX11_join l G (d - 1) hG (by omega) hw) iX11_join rfl k_1296 k_1297 (by omega) (by decide) (by decide) rfl (Nat.le_of_ble_eq_true rfl) (fun h67 hw => ?_)
    refine aw_iinc (v := (v6 + 1)) (lv' := [(6, .int (v6 + 1)), (0, .ref v0), (1, .int v1), (2, .int v2), (3, .int v3), (4, .int v4), (5, .int v5)]) 6 dX11_throughGuard_176 rfl rfl (by decide) rfl ?_
    refine aw_goto (tgt := 141) dX11_throughGuard_179 (by decide) ?_
    refine aw_sub (lv' := [(0, .ref v0), (1, .int v1), (2, .int v2), (3, .int v3), (4, .int v4), (5, .int v5), (6, .int (v6 + 1))]) [1, 2, 3, 4, 5, 6, 0] rfl ?_
    exact kk141 _ _ _ _ _ _ _ _ hw
set_option maxRecDepth 100000 in
theorem abX11_throughGuard_141 (l : Launch) (G : aG) (d : Nat) (hG : a_GT G) (hd : 4 ≤ d) {Q : aH → Prop} (n : Nat) : ∀  (v0 : Nat) (v1 : Int32) (v2 : Int32) (v3 : Int32) (v4 : Int32) (v5 : Int32) (v6 : Int32) (h : aH), wbX11_throughGuard_141 n v0 v1 v2 v3 v4 v5 v6 h Q → AW l G d 0 0 mX11_throughGuard (qV Q) 141 [(0, .ref v0), (1, .int v1), (2, .int v2), (3, .int v3), (4, .int v4), (5, .int v5), (6, .int v6)] [] h := by
  induction n with
  | zero => exact fun _ _ _ _ _ _ _ _ hw => hw.elim
  | succ n ih => exact fun _ _ _ _ _ _ _ _ hw => abX11_throughGuard_141_i l G d hG hd ih _ _ _ _ _ _ _ _ hw
set_option maxRecDepth 100000 in
theorem abX11_throughGuard_132 (l : Launch) (G : aG) (d : Nat) (hG : a_GT G) (hd : 4 ≤ d) {Q : aH → Prop} (v0 : Nat) (v1 : Int32) (v2 : Int32) (v3 : Int32) (v4 : Int32) (v5 : Int32) (h : aH) (hw : wbX11_throughGuard_132 v0 v1 v2 v3 v4 v5 h Q) : AW l G d 0 0 mX11_throughGuard (qV Q) 132 [(0, .ref v0), (1, .int v1), (2, .int v2), (3, .int v3), (4, .int v4), (5, .int v5)] [] h := by
  unfold wbX11_throughGuard_132 at hw
  refine aw_iload 5 dX11_throughGuard_132 rfl ?_
  refine aw_iconst (v := 2) dX11_throughGuard_134 (by decide) ?_
  refine aw_icmp_ne (tgt := 182) dX11_throughGuard_135 (by decide) (fun z => ?_) (fun z => ?_)
  · have hw := hw.1 z
    exact abX11_throughGuard_182 l G d hG hd _ _ _ _ _ _ _ hw
  · have hw := hw.2 z
    refine aw_iconst (v := 0) dX11_throughGuard_138 (by decide) ?_
    refine aw_istore (lv' := [(6, .int 0), (0, .ref v0), (1, .int v1), (2, .int v2), (3, .int v3), (4, .int v4), (5, .int v5)]) dX11_throughGuard_139 (by decide) rfl ?_
    obtain ⟨n, hw⟩ := hw
    refine aw_sub (lv' := [(0, .ref v0), (1, .int v1), (2, .int v2), (3, .int v3), (4, .int v4), (5, .int v5), (6, .int 0)]) [1, 2, 3, 4, 5, 6, 0] rfl ?_
    exact abX11_throughGuard_141 l G d hG hd n _ _ _ _ _ _ _ _ hw
set_option maxRecDepth 100000 in
theorem abX11_throughGuard_118 (l : Launch) (G : aG) (d : Nat) (hG : a_GT G) (hd : 4 ≤ d) {Q : aH → Prop} (v0 : Nat) (v1 : Int32) (v2 : Int32) (v3 : Int32) (v4 : Int32) (v5 : Int32) (h : aH) (hw : wbX11_throughGuard_118 v0 v1 v2 v3 v4 v5 h Q) : AW l G d 0 0 mX11_throughGuard (qV Q) 118 [(0, .ref v0), (1, .int v1), (2, .int v2), (3, .int v3), (4, .int v4), (5, .int v5)] [] h := by
  unfold wbX11_throughGuard_118 at hw
  refine aw_aload_n 0 dX11_throughGuard_118 rfl rfl ?_
  obtain ⟨fs69, r68, h1, h2, hw⟩ := hw
  refine aw_getf (k := 38) dX11_throughGuard_119 clX11 (by decide) k_986 (Or.inl rfl) h1 h2 ?_
  refine aw_iload 4 dX11_throughGuard_122 rfl ?_
  refine aw_aload_n 0 dX11_throughGuard_124 rfl rfl ?_
  obtain ⟨fs71, r70, h1, h2, hw⟩ := hw
  refine aw_getf (k := 37) dX11_throughGuard_125 clX11 (by decide) k_985 (Or.inl rfl) h1 h2 ?_
  refine aw_iload_n 3 dX11_throughGuard_128 rfl rfl ?_
  refine aw_staticV (As := [.ref r68, .int v4, .ref r70, .int v3]) (rest := []) dX11_throughGuard_129 (acX11_join l G (d - 1) hG (by omega) hw) iX11_join rfl k_1296 k_1297 (by omega) (by decide) (by decide) rfl (Nat.le_of_ble_eq_true rfl) (fun h72 hw => ?_)
  exact abX11_throughGuard_132 l G d hG hd _ _ _ _ _ _ _ hw
set_option maxRecDepth 100000 in
theorem acX11_throughGuard (l : Launch) (G : aG) (d : Nat) (hG : a_GT G) (hd : 4 ≤ d) {Q : aH → Prop} {h : aH} {v0 : Nat} {v1 : Int32} {v2 : Int32} (hw : wX11_throughGuard h v0 v1 v2 Q) : AC l G d 0 0 mX11_throughGuard [.ref v0, .int v1, .int v2] h (qV Q) := by
  refine ac_of iX11_throughGuard (Nat.le_of_ble_eq_true rfl) ?_
  show AW l G d 0 0 mX11_throughGuard (qV Q) 0 [(0, .ref v0), (1, .int v1), (2, .int v2)] [] h
  unfold wX11_throughGuard at hw
  refine aw_bipush (v := 108) dX11_throughGuard_0 (by decide) ?_
  refine aw_iload_n 2 dX11_throughGuard_2 rfl rfl ?_
  refine aw_imul dX11_throughGuard_3 ?_
  refine aw_istore_n (lv' := [(3, .int (108 * v2)), (0, .ref v0), (1, .int v1), (2, .int v2)]) dX11_throughGuard_4 rfl (by decide) rfl ?_
  refine aw_bipush (v := 12) dX11_throughGuard_5 (by decide) ?_
  refine aw_iload_n 3 dX11_throughGuard_7 rfl rfl ?_
  refine aw_imul dX11_throughGuard_8 ?_
  refine aw_bipush (v := 12) dX11_throughGuard_9 (by decide) ?_
  refine aw_iadd dX11_throughGuard_11 ?_
  refine aw_istore (lv' := [(4, .int ((12 * v2) + 12)), (3, .int (108 * v2)), (0, .ref v0), (1, .int v1), (2, .int v2)]) dX11_throughGuard_12 (by decide) rfl ?_
  refine aw_aload_n 2 dX11_throughGuard_14 rfl rfl ?_
  obtain ⟨fs74, r73, h1, h2, hw⟩ := hw
  refine aw_getf (k := 25) dX11_throughGuard_15 clX11 (by decide) k_973 (Or.inl rfl) h1 h2 ?_
  refine aw_aload_n 2 dX11_throughGuard_18 rfl rfl ?_
  obtain ⟨fs76, r75, h1, h2, hw⟩ := hw
  refine aw_getf (k := 27) dX11_throughGuard_19 clX11 (by decide) k_975 (Or.inl rfl) h1 h2 ?_
  obtain ⟨_, _, r77, h1, h2, h3, hw⟩ := hw
  refine aw_aI dX11_throughGuard_22 h1 h2 h3 ?_
  refine aw_istore (lv' := [(5, .int r77), (4, .int ((12 * v2) + 12)), (3, .int (108 * v2)), (0, .ref v0), (1, .int v1), (2, .int v2)]) dX11_throughGuard_23 (by decide) rfl ?_
  refine aw_iload 0 dX11_throughGuard_25 rfl ?_
  refine aw_if_ne (tgt := 75) dX11_throughGuard_27 (by decide) (fun z => ?_) (fun z => ?_)
  · have hw := hw.1 z
    refine aw_iload 0 dX11_throughGuard_75 rfl ?_
    refine aw_iconst (v := 1) dX11_throughGuard_77 (by decide) ?_
    refine aw_icmp_ne (tgt := 132) dX11_throughGuard_78 (by decide) (fun z => ?_) (fun z => ?_)
    · have hw := hw.1 z
      refine aw_sub (lv' := [(0, .ref v0), (1, .int v1), (2, .int v2), (3, .int (108 * v2)), (4, .int ((12 * v2) + 12)), (5, .int r77)]) [3, 4, 5, 2, 1, 0] rfl ?_
      exact abX11_throughGuard_132 l G d hG hd _ _ _ _ _ _ _ hw
    · have hw := hw.2 z
      refine aw_aload_n 3 dX11_throughGuard_81 rfl rfl ?_
      refine aw_iload_n 4 dX11_throughGuard_82 rfl rfl ?_
      refine aw_iload_n 5 dX11_throughGuard_83 rfl rfl ?_
      obtain ⟨_, h1, hw⟩ := hw
      refine aw_virtV (As := [.int v1, .int v2]) (rest := []) dX11_throughGuard_84 (acX11_part l G (d - 1) hG (by omega) hw) iX11_part rfl k_1361 k_1363 k_91 rfl h1 (by omega) (by decide) (by decide) rfl (Nat.le_of_ble_eq_true rfl) (fun h78 hw => ?_)
      refine aw_aload_n 3 dX11_throughGuard_87 rfl rfl ?_
      obtain ⟨fs80, r79, h1, h2, hw⟩ := hw
      refine aw_getf (k := 38) dX11_throughGuard_88 clX11 (by decide) k_986 (Or.inl rfl) h1 h2 ?_
      refine aw_iload 1 dX11_throughGuard_91 rfl ?_
      obtain ⟨_, _, r81, h1, h2, h3, hw⟩ := hw
      refine aw_aI dX11_throughGuard_93 h1 h2 h3 ?_
      refine aw_if_eq (tgt := 118) dX11_throughGuard_94 (by decide) (fun z => ?_) (fun z => ?_)
      · have hw := hw.1 z
        refine aw_sub (lv' := [(0, .ref v0), (1, .int v1), (2, .int v2), (3, .int (108 * v2)), (4, .int ((12 * v2) + 12)), (5, .int r77)]) [3, 4, 5, 2, 1, 0] rfl ?_
        exact abX11_throughGuard_118 l G d hG hd _ _ _ _ _ _ _ hw
      · have hw := hw.2 z
        refine aw_aload_n 3 dX11_throughGuard_97 rfl rfl ?_
        obtain ⟨fs83, r82, h1, h2, hw⟩ := hw
        refine aw_getf (k := 14) dX11_throughGuard_98 clX11 (by decide) k_962 (Or.inl rfl) h1 h2 ?_
        refine aw_iload_n 4 dX11_throughGuard_101 rfl rfl ?_
        obtain ⟨_, _, r84, h1, h2, h3, hw⟩ := hw
        refine aw_aI dX11_throughGuard_102 h1 h2 h3 ?_
        refine aw_if_lt (tgt := 118) dX11_throughGuard_103 (by decide) (fun z => ?_) (fun z => ?_)
        · have hw := hw.1 z
          refine aw_sub (lv' := [(0, .ref v0), (1, .int v1), (2, .int v2), (3, .int (108 * v2)), (4, .int ((12 * v2) + 12)), (5, .int r77)]) [3, 4, 5, 2, 1, 0] rfl ?_
          exact abX11_throughGuard_118 l G d hG hd _ _ _ _ _ _ _ hw
        · have hw := hw.2 z
          refine aw_aload_n 3 dX11_throughGuard_106 rfl rfl ?_
          refine aw_iconst (v := 2) dX11_throughGuard_107 (by decide) ?_
          refine aw_aload_n 3 dX11_throughGuard_108 rfl rfl ?_
          obtain ⟨fs86, r85, h1, h2, hw⟩ := hw
          refine aw_getf (k := 14) dX11_throughGuard_109 clX11 (by decide) k_962 (Or.inl rfl) h1 h2 ?_
          refine aw_iload_n 4 dX11_throughGuard_112 rfl rfl ?_
          obtain ⟨_, _, r87, h1, h2, h3, hw⟩ := hw
          refine aw_aI dX11_throughGuard_113 h1 h2 h3 ?_
          obtain ⟨_, h1, hw⟩ := hw
          refine aw_virtV (As := [.int 2, .int r87]) (rest := []) dX11_throughGuard_114 (acX11_step l G (d - 1) hG (by omega) hw) iX11_step rfl k_1225 k_1227 k_69 rfl h1 (by omega) (by decide) (by decide) rfl (Nat.le_of_ble_eq_true rfl) (fun h88 hw => ?_)
          exact aw_vret dX11_throughGuard_117 rfl ⟨rfl, hw⟩
  · have hw := hw.2 z
    refine aw_aload_n 3 dX11_throughGuard_30 rfl rfl ?_
    refine aw_iload_n 4 dX11_throughGuard_31 rfl rfl ?_
    refine aw_iload_n 5 dX11_throughGuard_32 rfl rfl ?_
    obtain ⟨_, h1, hw⟩ := hw
    refine aw_virtV (As := [.int v1, .int v2]) (rest := []) dX11_throughGuard_33 (acX11_enter l G (d - 1) hG (by omega) hw) iX11_enter rfl k_1292 k_1294 k_76 rfl h1 (by omega) (by decide) (by decide) rfl (Nat.le_of_ble_eq_true rfl) (fun h89 hw => ?_)
    refine aw_aload_n 3 dX11_throughGuard_36 rfl rfl ?_
    obtain ⟨fs91, r90, h1, h2, hw⟩ := hw
    refine aw_getf (k := 37) dX11_throughGuard_37 clX11 (by decide) k_985 (Or.inl rfl) h1 h2 ?_
    refine aw_iload_n 2 dX11_throughGuard_40 rfl rfl ?_
    refine aw_bipush (v := 108) dX11_throughGuard_41 (by decide) ?_
    refine aw_staticV (As := [.ref r90, .int (108 * v2), .int 108]) (rest := []) dX11_throughGuard_43 (acX11_wipe l G (d - 1) hG (by omega) hw) iX11_wipe rfl k_1281 k_1282 (by omega) (by decide) (by decide) rfl (Nat.le_of_ble_eq_true rfl) (fun h92 hw => ?_)
    refine aw_aload_n 3 dX11_throughGuard_46 rfl rfl ?_
    obtain ⟨fs94, r93, h1, h2, hw⟩ := hw
    refine aw_getf (k := 38) dX11_throughGuard_47 clX11 (by decide) k_986 (Or.inl rfl) h1 h2 ?_
    refine aw_bipush (v := 12) dX11_throughGuard_50 (by decide) ?_
    refine aw_iload_n 5 dX11_throughGuard_52 rfl rfl ?_
    refine aw_imul dX11_throughGuard_53 ?_
    refine aw_aload_n 3 dX11_throughGuard_54 rfl rfl ?_
    obtain ⟨fs96, r95, h1, h2, hw⟩ := hw
    refine aw_getf (k := 38) dX11_throughGuard_55 clX11 (by decide) k_986 (Or.inl rfl) h1 h2 ?_
    refine aw_iload 1 dX11_throughGuard_58 rfl ?_
    refine aw_staticV (As := [.ref r93, .int (12 * v2), .ref r95, .int ((12 * v2) + 12)]) (rest := []) dX11_throughGuard_60 (acX11_lay_ l G (d - 1) hG (by omega) hw) iX11_lay_ rfl k_1299 k_1300 (by omega) (by decide) (by decide) rfl (Nat.le_of_ble_eq_true rfl) (fun h97 hw => ?_)
    refine aw_aload_n 3 dX11_throughGuard_63 rfl rfl ?_
    refine aw_iconst (v := 1) dX11_throughGuard_64 (by decide) ?_
    refine aw_aload_n 3 dX11_throughGuard_65 rfl rfl ?_
    obtain ⟨fs99, r98, h1, h2, hw⟩ := hw
    refine aw_getf (k := 12) dX11_throughGuard_66 clX11 (by decide) k_960 (Or.inl rfl) h1 h2 ?_
    refine aw_iload_n 4 dX11_throughGuard_69 rfl rfl ?_
    obtain ⟨_, _, r100, h1, h2, h3, hw⟩ := hw
    refine aw_aI dX11_throughGuard_70 h1 h2 h3 ?_
    obtain ⟨_, h1, hw⟩ := hw
    refine aw_virtV (As := [.int 1, .int r100]) (rest := []) dX11_throughGuard_71 (acX11_step l G (d - 1) hG (by omega) hw) iX11_step rfl k_1225 k_1227 k_69 rfl h1 (by omega) (by decide) (by decide) rfl (Nat.le_of_ble_eq_true rfl) (fun h101 hw => ?_)
    exact aw_vret dX11_throughGuard_74 rfl ⟨rfl, hw⟩
-- X11_through
def wbX11_through_101 (K10 : Nat →  aH → Prop) (v0 : Nat) (h : aH) (Q : aH → Prop) : Prop :=
  K10 v0 h
def wbX11_through_10_i (K10 : Nat →  aH → Prop) (v0 : Nat) (h : aH) (Q : aH → Prop) : Prop :=
  rI h v0 9 27 (fun r1 => (r1 < 0 → Q h) ∧ (¬ r1 < 0 → rR h v0 9 24 (fun r3 => rI h v0 9 27 (fun r5 => aI h r3 r5 (fun r7 => rR h v0 9 10 (fun r8 => aI h r8 r7 (fun r10 => (¬ r10 = 0 → rR h v0 9 10 (fun r11 => aI h r11 r7 (fun r13 => (¬ r13 = 1 → rR h v0 9 10 (fun r14 => aI h r14 r7 (fun r16 => (¬ r16 = 2 → rI h v0 9 27 (fun r17 => isO h v0 9 (wX11_throughGuard h v0 r7 r17 (fun h19 => wbX11_through_101 K10 v0 h19 Q)))) ∧ (r16 = 2 → rI h v0 9 27 (fun r20 => isO h v0 9 (wX11_throughChoice h v0 r7 r20 (fun h22 => wbX11_through_101 K10 v0 h22 Q))))))) ∧ (r13 = 1 → rI h v0 9 27 (fun r23 => isO h v0 9 (wX11_throughBoth h v0 r7 r23 (fun h25 => wbX11_through_101 K10 v0 h25 Q))))))) ∧ (r10 = 0 → rI h v0 9 27 (fun r26 => isO h v0 9 (wX11_throughAct h v0 r7 r26 (fun h28 => wbX11_through_101 K10 v0 h28 Q)))))))))))
def wbX11_through_10 (n : Nat) (v0 : Nat) (h : aH) (Q : aH → Prop) : Prop := match n with
  | 0 => False
  | n + 1 => wbX11_through_10_i (fun v0 h => wbX11_through_10 n v0 h Q) v0 h Q
def wX11_through (h : aH) (v0 : Nat) (v1 : Int32) (Q : aH → Prop) : Prop :=
  wF h v0 9 27 (.int (-1)) (fun h29 => isO h29 v0 9 (wX11_push h29 v0 v1 (fun h31 => ∃ n, wbX11_through_10 n v0 h31 Q)))
set_option maxRecDepth 100000 in
theorem abX11_through_101 (l : Launch) (G : aG) (d : Nat) (hG : a_GT G) (hd : 8 ≤ d) {Q : aH → Prop} {K10 : Nat →  aH → Prop} (kk10 : ∀ (v0 : Nat) (h : aH), K10 v0 h → AW l G d 0 0 mX11_through (qV Q) 10 [(0, .ref v0)] [] h) (v0 : Nat) (h : aH) (hw : wbX11_through_101 K10 v0 h Q) : AW l G d 0 0 mX11_through (qV Q) 101 [(0, .ref v0)] [] h := by
  unfold wbX11_through_101 at hw
  refine aw_goto (tgt := 10) dX11_through_101 (by decide) ?_
  exact kk10 _ _ hw
set_option maxRecDepth 100000 in
theorem abX11_through_10_i (l : Launch) (G : aG) (d : Nat) (hG : a_GT G) (hd : 8 ≤ d) {Q : aH → Prop} {K10 : Nat →  aH → Prop} (kk10 : ∀ (v0 : Nat) (h : aH), K10 v0 h → AW l G d 0 0 mX11_through (qV Q) 10 [(0, .ref v0)] [] h) (v0 : Nat) (h : aH) (hw : wbX11_through_10_i K10 v0 h Q) : AW l G d 0 0 mX11_through (qV Q) 10 [(0, .ref v0)] [] h := by
  unfold wbX11_through_10_i at hw
  refine aw_aload_n 0 dX11_through_10 rfl rfl ?_
  obtain ⟨fs2, r1, h1, h2, hw⟩ := hw
  refine aw_getf (k := 27) dX11_through_11 clX11 (by decide) k_975 (Or.inl rfl) h1 h2 ?_
  refine aw_if_lt (tgt := 104) dX11_through_14 (by decide) (fun z => ?_) (fun z => ?_)
  · have hw := hw.1 z
    exact aw_vret dX11_through_104 rfl ⟨rfl, hw⟩
  · have hw := hw.2 z
    refine aw_aload_n 0 dX11_through_17 rfl rfl ?_
    obtain ⟨fs4, r3, h1, h2, hw⟩ := hw
    refine aw_getf (k := 24) dX11_through_18 clX11 (by decide) k_972 (Or.inl rfl) h1 h2 ?_
    refine aw_aload_n 0 dX11_through_21 rfl rfl ?_
    obtain ⟨fs6, r5, h1, h2, hw⟩ := hw
    refine aw_getf (k := 27) dX11_through_22 clX11 (by decide) k_975 (Or.inl rfl) h1 h2 ?_
    obtain ⟨_, _, r7, h1, h2, h3, hw⟩ := hw
    refine aw_aI dX11_through_25 h1 h2 h3 ?_
    refine aw_istore_n (lv' := [(2, .int r7), (0, .ref v0)]) dX11_through_26 rfl (by decide) rfl ?_
    refine aw_aload_n 1 dX11_through_27 rfl rfl ?_
    obtain ⟨fs9, r8, h1, h2, hw⟩ := hw
    refine aw_getf (k := 10) dX11_through_28 clX11 (by decide) k_958 (Or.inl rfl) h1 h2 ?_
    refine aw_iload_n 0 dX11_through_31 rfl rfl ?_
    obtain ⟨_, _, r10, h1, h2, h3, hw⟩ := hw
    refine aw_aI dX11_through_32 h1 h2 h3 ?_
    refine aw_if_ne (tgt := 48) dX11_through_33 (by decide) (fun z => ?_) (fun z => ?_)
    · have hw := hw.1 z
      refine aw_aload_n 1 dX11_through_48 rfl rfl ?_
      obtain ⟨fs12, r11, h1, h2, hw⟩ := hw
      refine aw_getf (k := 10) dX11_through_49 clX11 (by decide) k_958 (Or.inl rfl) h1 h2 ?_
      refine aw_iload_n 0 dX11_through_52 rfl rfl ?_
      obtain ⟨_, _, r13, h1, h2, h3, hw⟩ := hw
      refine aw_aI dX11_through_53 h1 h2 h3 ?_
      refine aw_iconst (v := 1) dX11_through_54 (by decide) ?_
      refine aw_icmp_ne (tgt := 70) dX11_through_55 (by decide) (fun z => ?_) (fun z => ?_)
      · have hw := hw.1 z
        refine aw_aload_n 1 dX11_through_70 rfl rfl ?_
        obtain ⟨fs15, r14, h1, h2, hw⟩ := hw
        refine aw_getf (k := 10) dX11_through_71 clX11 (by decide) k_958 (Or.inl rfl) h1 h2 ?_
        refine aw_iload_n 0 dX11_through_74 rfl rfl ?_
        obtain ⟨_, _, r16, h1, h2, h3, hw⟩ := hw
        refine aw_aI dX11_through_75 h1 h2 h3 ?_
        refine aw_iconst (v := 2) dX11_through_76 (by decide) ?_
        refine aw_icmp_ne (tgt := 92) dX11_through_77 (by decide) (fun z => ?_) (fun z => ?_)
        · have hw := hw.1 z
          refine aw_aload_n 1 dX11_through_92 rfl rfl ?_
          refine aw_iload_n 0 dX11_through_93 rfl rfl ?_
          refine aw_aload_n 1 dX11_through_94 rfl rfl ?_
          obtain ⟨fs18, r17, h1, h2, hw⟩ := hw
          refine aw_getf (k := 27) dX11_through_95 clX11 (by decide) k_975 (Or.inl rfl) h1 h2 ?_
          obtain ⟨_, h1, hw⟩ := hw
          refine aw_virtV (As := [.int r7, .int r17]) (rest := []) dX11_through_98 (acX11_throughGuard l G (d - 1) hG (by omega) hw) iX11_throughGuard rfl k_1357 k_1359 k_90 rfl h1 (by omega) (by decide) (by decide) rfl (Nat.le_of_ble_eq_true rfl) (fun h19 hw => ?_)
          refine aw_sub (lv' := [(0, .ref v0)]) [1] rfl ?_
          exact abX11_through_101 l G d hG hd kk10 _ _ hw
        · have hw := hw.2 z
          refine aw_aload_n 1 dX11_through_80 rfl rfl ?_
          refine aw_iload_n 0 dX11_through_81 rfl rfl ?_
          refine aw_aload_n 1 dX11_through_82 rfl rfl ?_
          obtain ⟨fs21, r20, h1, h2, hw⟩ := hw
          refine aw_getf (k := 27) dX11_through_83 clX11 (by decide) k_975 (Or.inl rfl) h1 h2 ?_
          obtain ⟨_, h1, hw⟩ := hw
          refine aw_virtV (As := [.int r7, .int r20]) (rest := []) dX11_through_86 (acX11_throughChoice l G (d - 1) hG (by omega) hw) iX11_throughChoice rfl k_1353 k_1355 k_89 rfl h1 (by omega) (by decide) (by decide) rfl (Nat.le_of_ble_eq_true rfl) (fun h22 hw => ?_)
          refine aw_goto (tgt := 101) dX11_through_89 (by decide) ?_
          refine aw_sub (lv' := [(0, .ref v0)]) [1] rfl ?_
          exact abX11_through_101 l G d hG hd kk10 _ _ hw
      · have hw := hw.2 z
        refine aw_aload_n 1 dX11_through_58 rfl rfl ?_
        refine aw_iload_n 0 dX11_through_59 rfl rfl ?_
        refine aw_aload_n 1 dX11_through_60 rfl rfl ?_
        obtain ⟨fs24, r23, h1, h2, hw⟩ := hw
        refine aw_getf (k := 27) dX11_through_61 clX11 (by decide) k_975 (Or.inl rfl) h1 h2 ?_
        obtain ⟨_, h1, hw⟩ := hw
        refine aw_virtV (As := [.int r7, .int r23]) (rest := []) dX11_through_64 (acX11_throughBoth l G (d - 1) hG (by omega) hw) iX11_throughBoth rfl k_1345 k_1347 k_87 rfl h1 (by omega) (by decide) (by decide) rfl (Nat.le_of_ble_eq_true rfl) (fun h25 hw => ?_)
        refine aw_goto (tgt := 101) dX11_through_67 (by decide) ?_
        refine aw_sub (lv' := [(0, .ref v0)]) [1] rfl ?_
        exact abX11_through_101 l G d hG hd kk10 _ _ hw
    · have hw := hw.2 z
      refine aw_aload_n 1 dX11_through_36 rfl rfl ?_
      refine aw_iload_n 0 dX11_through_37 rfl rfl ?_
      refine aw_aload_n 1 dX11_through_38 rfl rfl ?_
      obtain ⟨fs27, r26, h1, h2, hw⟩ := hw
      refine aw_getf (k := 27) dX11_through_39 clX11 (by decide) k_975 (Or.inl rfl) h1 h2 ?_
      obtain ⟨_, h1, hw⟩ := hw
      refine aw_virtV (As := [.int r7, .int r26]) (rest := []) dX11_through_42 (acX11_throughAct l G (d - 1) hG (by omega) hw) iX11_throughAct rfl k_1288 k_1290 k_75 rfl h1 (by omega) (by decide) (by decide) rfl (Nat.le_of_ble_eq_true rfl) (fun h28 hw => ?_)
      refine aw_goto (tgt := 101) dX11_through_45 (by decide) ?_
      refine aw_sub (lv' := [(0, .ref v0)]) [1] rfl ?_
      exact abX11_through_101 l G d hG hd kk10 _ _ hw
set_option maxRecDepth 100000 in
theorem abX11_through_10 (l : Launch) (G : aG) (d : Nat) (hG : a_GT G) (hd : 8 ≤ d) {Q : aH → Prop} (n : Nat) : ∀  (v0 : Nat) (h : aH), wbX11_through_10 n v0 h Q → AW l G d 0 0 mX11_through (qV Q) 10 [(0, .ref v0)] [] h := by
  induction n with
  | zero => exact fun _ _ hw => hw.elim
  | succ n ih => exact fun _ _ hw => abX11_through_10_i l G d hG hd ih _ _ hw
set_option maxRecDepth 100000 in
theorem acX11_through (l : Launch) (G : aG) (d : Nat) (hG : a_GT G) (hd : 8 ≤ d) {Q : aH → Prop} {h : aH} {v0 : Nat} {v1 : Int32} (hw : wX11_through h v0 v1 Q) : AC l G d 0 0 mX11_through [.ref v0, .int v1] h (qV Q) := by
  refine ac_of iX11_through (Nat.le_of_ble_eq_true rfl) ?_
  show AW l G d 0 0 mX11_through (qV Q) 0 [(0, .ref v0), (1, .int v1)] [] h
  unfold wX11_through at hw
  refine aw_aload_n 0 dX11_through_0 rfl rfl ?_
  refine aw_iconst (v := (-1)) dX11_through_1 (by decide) ?_
  obtain ⟨fs30, h1, h2, hw⟩ := hw
  refine aw_putf (k := 27) dX11_through_2 clX11 (by decide) k_975 (Or.inl rfl) rfl rfl rfl h1 h2 ?_
  generalize a_up _ _ _ = h29 at hw ⊢
  refine aw_aload_n 0 dX11_through_5 rfl rfl ?_
  refine aw_iload_n 1 dX11_through_6 rfl rfl ?_
  obtain ⟨_, h1, hw⟩ := hw
  refine aw_virtV (As := [.int v1]) (rest := []) dX11_through_7 (acX11_push l G (d - 1) hG (by omega) hw) iX11_push rfl k_1118 k_1120 k_46 rfl h1 (by omega) (by decide) (by decide) rfl (Nat.le_of_ble_eq_true rfl) (fun h31 hw => ?_)
  obtain ⟨n, hw⟩ := hw
  refine aw_sub (lv' := [(0, .ref v0)]) [0] rfl ?_
  exact abX11_through_10 l G d hG hd n _ _ hw
-- X11_report
def wbX11_report_65_i (K65 : Nat → Int32 → Int32 →  aH → Prop) (v0 : Nat) (v1 : Int32) (v2 : Int32) (h : aH) (Q : Int32 → aH → Prop) : Prop :=
  (12 ≤ v2 → wF h v0 9 28 (.int 1) (fun h1 => isO h1 v0 9 (wX11_through h1 v0 v1 (fun h3 => rR h3 v0 9 32 (fun r4 => aI h3 r4 v1 (fun r6 => Q r6 h3)))))) ∧ (¬ 12 ≤ v2 → rR h v0 9 38 (fun r7 => isO h v0 9 (wX11_startOf h v0 v2 (fun r10 h9 => sI h9 r7 v2 r10 (fun h11 => K65 v0 v1 ((v2 + 1)) h11)))))
def wbX11_report_65 (n : Nat) (v0 : Nat) (v1 : Int32) (v2 : Int32) (h : aH) (Q : Int32 → aH → Prop) : Prop := match n with
  | 0 => False
  | n + 1 => wbX11_report_65_i (fun v0 v1 v2 h => wbX11_report_65 n v0 v1 v2 h Q) v0 v1 v2 h Q
def wbX11_report_12_i (K12 : Nat → Int32 → Int32 →  aH → Prop) (v0 : Nat) (v1 : Int32) (v2 : Int32) (h : aH) (Q : Int32 → aH → Prop) : Prop :=
  (80 ≤ v2 → rR h v0 9 33 (fun r12 => wX11_wipe h r12 0 960 (fun h14 => ∃ n, wbX11_report_65 n v0 v1 0 h14 Q))) ∧ (¬ 80 ≤ v2 → rR h v0 9 31 (fun r15 => sZ h r15 v2 0 (fun h17 => rR h17 v0 9 32 (fun r18 => sI h17 r18 v2 0 (fun h20 => rR h20 v0 9 34 (fun r21 => sI h20 r21 v2 0 (fun h23 => rR h23 v0 9 35 (fun r24 => sI h23 r24 v2 0 (fun h26 => K12 v0 v1 ((v2 + 1)) h26)))))))))
def wbX11_report_12 (n : Nat) (v0 : Nat) (v1 : Int32) (v2 : Int32) (h : aH) (Q : Int32 → aH → Prop) : Prop := match n with
  | 0 => False
  | n + 1 => wbX11_report_12_i (fun v0 v1 v2 h => wbX11_report_12 n v0 v1 v2 h Q) v0 v1 v2 h Q
def wX11_report (h : aH) (v0 : Nat) (v1 : Int32) (Q : Int32 → aH → Prop) : Prop :=
  isO h v0 9 (wX11_isNode h v0 v1 (fun r28 h27 => (¬ r28 = 0 → ∃ n, wbX11_report_12 n v0 v1 0 h27 Q) ∧ (r28 = 0 → Q ((-1)) h27)))
set_option maxRecDepth 100000 in
theorem abX11_report_65_i (l : Launch) (G : aG) (d : Nat) (hG : a_GT G) (hd : 9 ≤ d) {Q : Int32 → aH → Prop} {K65 : Nat → Int32 → Int32 →  aH → Prop} (kk65 : ∀ (v0 : Nat) (v1 : Int32) (v2 : Int32) (h : aH), K65 v0 v1 v2 h → AW l G d 0 0 mX11_report (qI Q) 65 [(0, .ref v0), (1, .int v1), (2, .int v2)] [] h) (v0 : Nat) (v1 : Int32) (v2 : Int32) (h : aH) (hw : wbX11_report_65_i K65 v0 v1 v2 h Q) : AW l G d 0 0 mX11_report (qI Q) 65 [(0, .ref v0), (1, .int v1), (2, .int v2)] [] h := by
  unfold wbX11_report_65_i at hw
  refine aw_iload_n 2 dX11_report_65 rfl rfl ?_
  refine aw_bipush (v := 12) dX11_report_66 (by decide) ?_
  refine aw_icmp_ge (tgt := 88) dX11_report_68 (by decide) (fun z => ?_) (fun z => ?_)
  · have hw := hw.1 z
    refine aw_aload_n 0 dX11_report_88 rfl rfl ?_
    refine aw_iconst (v := 1) dX11_report_89 (by decide) ?_
    obtain ⟨fs2, h1, h2, hw⟩ := hw
    refine aw_putf (k := 28) dX11_report_90 clX11 (by decide) k_976 (Or.inl rfl) rfl rfl rfl h1 h2 ?_
    generalize a_up _ _ _ = h1 at hw ⊢
    refine aw_aload_n 0 dX11_report_93 rfl rfl ?_
    refine aw_iload_n 1 dX11_report_94 rfl rfl ?_
    obtain ⟨_, h1, hw⟩ := hw
    refine aw_virtV (As := [.int v1]) (rest := []) dX11_report_95 (acX11_through l G (d - 1) hG (by omega) hw) iX11_through rfl k_1284 k_1286 k_74 rfl h1 (by omega) (by decide) (by decide) rfl (Nat.le_of_ble_eq_true rfl) (fun h3 hw => ?_)
    refine aw_aload_n 0 dX11_report_98 rfl rfl ?_
    obtain ⟨fs5, r4, h1, h2, hw⟩ := hw
    refine aw_getf (k := 32) dX11_report_99 clX11 (by decide) k_980 (Or.inl rfl) h1 h2 ?_
    refine aw_iload_n 1 dX11_report_102 rfl rfl ?_
    obtain ⟨_, _, r6, h1, h2, h3, hw⟩ := hw
    refine aw_aI dX11_report_103 h1 h2 h3 ?_
    exact aw_iret dX11_report_104 rfl rfl ⟨_, rfl, hw⟩
  · have hw := hw.2 z
    refine aw_aload_n 0 dX11_report_71 rfl rfl ?_
    obtain ⟨fs8, r7, h1, h2, hw⟩ := hw
    refine aw_getf (k := 38) dX11_report_72 clX11 (by decide) k_986 (Or.inl rfl) h1 h2 ?_
    refine aw_iload_n 2 dX11_report_75 rfl rfl ?_
    refine aw_aload_n 0 dX11_report_76 rfl rfl ?_
    refine aw_iload_n 2 dX11_report_77 rfl rfl ?_
    obtain ⟨_, h1, hw⟩ := hw
    refine aw_virtI (As := [.int v2]) (rest := [.int v2, .ref r7]) dX11_report_78 (acX11_startOf l G (d - 1) hG (by omega) hw) iX11_startOf rfl k_1273 k_1275 k_73 rfl h1 (by omega) (by decide) (by decide) rfl (Nat.le_of_ble_eq_true rfl) (fun r10 h9 hw => ?_)
    obtain ⟨_, _, h1, h2, hw⟩ := hw
    refine aw_iast dX11_report_81 h1 h2 ?_
    generalize a_up _ _ _ = h11 at hw ⊢
    refine aw_iinc (v := (v2 + 1)) (lv' := [(2, .int (v2 + 1)), (0, .ref v0), (1, .int v1)]) 2 dX11_report_82 rfl rfl (by decide) rfl ?_
    refine aw_goto (tgt := 65) dX11_report_85 (by decide) ?_
    refine aw_sub (lv' := [(0, .ref v0), (1, .int v1), (2, .int (v2 + 1))]) [1, 2, 0] rfl ?_
    exact kk65 _ _ _ _ hw
set_option maxRecDepth 100000 in
theorem abX11_report_65 (l : Launch) (G : aG) (d : Nat) (hG : a_GT G) (hd : 9 ≤ d) {Q : Int32 → aH → Prop} (n : Nat) : ∀  (v0 : Nat) (v1 : Int32) (v2 : Int32) (h : aH), wbX11_report_65 n v0 v1 v2 h Q → AW l G d 0 0 mX11_report (qI Q) 65 [(0, .ref v0), (1, .int v1), (2, .int v2)] [] h := by
  induction n with
  | zero => exact fun _ _ _ _ hw => hw.elim
  | succ n ih => exact fun _ _ _ _ hw => abX11_report_65_i l G d hG hd ih _ _ _ _ hw
set_option maxRecDepth 100000 in
theorem abX11_report_12_i (l : Launch) (G : aG) (d : Nat) (hG : a_GT G) (hd : 9 ≤ d) {Q : Int32 → aH → Prop} {K12 : Nat → Int32 → Int32 →  aH → Prop} (kk12 : ∀ (v0 : Nat) (v1 : Int32) (v2 : Int32) (h : aH), K12 v0 v1 v2 h → AW l G d 0 0 mX11_report (qI Q) 12 [(0, .ref v0), (1, .int v1), (2, .int v2)] [] h) (v0 : Nat) (v1 : Int32) (v2 : Int32) (h : aH) (hw : wbX11_report_12_i K12 v0 v1 v2 h Q) : AW l G d 0 0 mX11_report (qI Q) 12 [(0, .ref v0), (1, .int v1), (2, .int v2)] [] h := by
  unfold wbX11_report_12_i at hw
  refine aw_iload_n 2 dX11_report_12 rfl rfl ?_
  refine aw_bipush (v := 80) dX11_report_13 (by decide) ?_
  refine aw_icmp_ge (tgt := 52) dX11_report_15 (by decide) (fun z => ?_) (fun z => ?_)
  · have hw := hw.1 z
    refine aw_aload_n 0 dX11_report_52 rfl rfl ?_
    obtain ⟨fs13, r12, h1, h2, hw⟩ := hw
    refine aw_getf (k := 33) dX11_report_53 clX11 (by decide) k_981 (Or.inl rfl) h1 h2 ?_
    refine aw_iconst (v := 0) dX11_report_56 (by decide) ?_
    refine aw_sipush (v := 960) dX11_report_57 (by decide) ?_
    refine aw_staticV (As := [.ref r12, .int 0, .int 960]) (rest := []) dX11_report_60 (acX11_wipe l G (d - 1) hG (by omega) hw) iX11_wipe rfl k_1281 k_1282 (by omega) (by decide) (by decide) rfl (Nat.le_of_ble_eq_true rfl) (fun h14 hw => ?_)
    refine aw_iconst (v := 0) dX11_report_63 (by decide) ?_
    refine aw_istore_n (lv' := [(2, .int 0), (0, .ref v0), (1, .int v1)]) dX11_report_64 rfl (by decide) rfl ?_
    obtain ⟨n, hw⟩ := hw
    refine aw_sub (lv' := [(0, .ref v0), (1, .int v1), (2, .int 0)]) [1, 2, 0] rfl ?_
    exact abX11_report_65 l G d hG hd n _ _ _ _ hw
  · have hw := hw.2 z
    refine aw_aload_n 0 dX11_report_18 rfl rfl ?_
    obtain ⟨fs16, r15, h1, h2, hw⟩ := hw
    refine aw_getf (k := 31) dX11_report_19 clX11 (by decide) k_979 (Or.inl rfl) h1 h2 ?_
    refine aw_iload_n 2 dX11_report_22 rfl rfl ?_
    refine aw_iconst (v := 0) dX11_report_23 (by decide) ?_
    obtain ⟨_, _, h1, h2, hw⟩ := hw
    refine aw_zast dX11_report_24 h1 h2 ?_
    generalize a_up _ _ _ = h17 at hw ⊢
    refine aw_aload_n 0 dX11_report_25 rfl rfl ?_
    obtain ⟨fs19, r18, h1, h2, hw⟩ := hw
    refine aw_getf (k := 32) dX11_report_26 clX11 (by decide) k_980 (Or.inl rfl) h1 h2 ?_
    refine aw_iload_n 2 dX11_report_29 rfl rfl ?_
    refine aw_iconst (v := 0) dX11_report_30 (by decide) ?_
    obtain ⟨_, _, h1, h2, hw⟩ := hw
    refine aw_iast dX11_report_31 h1 h2 ?_
    generalize a_up _ _ _ = h20 at hw ⊢
    refine aw_aload_n 0 dX11_report_32 rfl rfl ?_
    obtain ⟨fs22, r21, h1, h2, hw⟩ := hw
    refine aw_getf (k := 34) dX11_report_33 clX11 (by decide) k_982 (Or.inl rfl) h1 h2 ?_
    refine aw_iload_n 2 dX11_report_36 rfl rfl ?_
    refine aw_iconst (v := 0) dX11_report_37 (by decide) ?_
    obtain ⟨_, _, h1, h2, hw⟩ := hw
    refine aw_iast dX11_report_38 h1 h2 ?_
    generalize a_up _ _ _ = h23 at hw ⊢
    refine aw_aload_n 0 dX11_report_39 rfl rfl ?_
    obtain ⟨fs25, r24, h1, h2, hw⟩ := hw
    refine aw_getf (k := 35) dX11_report_40 clX11 (by decide) k_983 (Or.inl rfl) h1 h2 ?_
    refine aw_iload_n 2 dX11_report_43 rfl rfl ?_
    refine aw_iconst (v := 0) dX11_report_44 (by decide) ?_
    obtain ⟨_, _, h1, h2, hw⟩ := hw
    refine aw_iast dX11_report_45 h1 h2 ?_
    generalize a_up _ _ _ = h26 at hw ⊢
    refine aw_iinc (v := (v2 + 1)) (lv' := [(2, .int (v2 + 1)), (0, .ref v0), (1, .int v1)]) 2 dX11_report_46 rfl rfl (by decide) rfl ?_
    refine aw_goto (tgt := 12) dX11_report_49 (by decide) ?_
    refine aw_sub (lv' := [(0, .ref v0), (1, .int v1), (2, .int (v2 + 1))]) [1, 2, 0] rfl ?_
    exact kk12 _ _ _ _ hw
set_option maxRecDepth 100000 in
theorem abX11_report_12 (l : Launch) (G : aG) (d : Nat) (hG : a_GT G) (hd : 9 ≤ d) {Q : Int32 → aH → Prop} (n : Nat) : ∀  (v0 : Nat) (v1 : Int32) (v2 : Int32) (h : aH), wbX11_report_12 n v0 v1 v2 h Q → AW l G d 0 0 mX11_report (qI Q) 12 [(0, .ref v0), (1, .int v1), (2, .int v2)] [] h := by
  induction n with
  | zero => exact fun _ _ _ _ hw => hw.elim
  | succ n ih => exact fun _ _ _ _ hw => abX11_report_12_i l G d hG hd ih _ _ _ _ hw
set_option maxRecDepth 100000 in
theorem acX11_report (l : Launch) (G : aG) (d : Nat) (hG : a_GT G) (hd : 9 ≤ d) {Q : Int32 → aH → Prop} {h : aH} {v0 : Nat} {v1 : Int32} (hw : wX11_report h v0 v1 Q) : AC l G d 0 0 mX11_report [.ref v0, .int v1] h (qI Q) := by
  refine ac_of iX11_report (Nat.le_of_ble_eq_true rfl) ?_
  show AW l G d 0 0 mX11_report (qI Q) 0 [(0, .ref v0), (1, .int v1)] [] h
  unfold wX11_report at hw
  refine aw_aload_n 0 dX11_report_0 rfl rfl ?_
  refine aw_iload_n 1 dX11_report_1 rfl rfl ?_
  obtain ⟨_, h1, hw⟩ := hw
  refine aw_virtI (As := [.int v1]) (rest := []) dX11_report_2 (acX11_isNode l G (d - 1) hG (by omega) hw) iX11_isNode rfl k_1094 k_1096 k_44 rfl h1 (by omega) (by decide) (by decide) rfl (Nat.le_of_ble_eq_true rfl) (fun r28 h27 hw => ?_)
  refine aw_if_ne (tgt := 10) dX11_report_5 (by decide) (fun z => ?_) (fun z => ?_)
  · have hw := hw.1 z
    refine aw_iconst (v := 0) dX11_report_10 (by decide) ?_
    refine aw_istore_n (lv' := [(2, .int 0), (0, .ref v0), (1, .int v1)]) dX11_report_11 rfl (by decide) rfl ?_
    obtain ⟨n, hw⟩ := hw
    refine aw_sub (lv' := [(0, .ref v0), (1, .int v1), (2, .int 0)]) [1, 2, 0] rfl ?_
    exact abX11_report_12 l G d hG hd n _ _ _ _ hw
  · have hw := hw.2 z
    refine aw_iconst (v := (-1)) dX11_report_8 (by decide) ?_
    exact aw_iret dX11_report_9 rfl rfl ⟨_, rfl, hw⟩
-- X11_has
def wbX11_has_21 (s0 : Int32) (h : aH) (Q : Int32 → aH → Prop) : Prop :=
  oB s0 ∧ Q s0 h
def wbX11_has_20 (h : aH) (Q : Int32 → aH → Prop) : Prop :=
  wbX11_has_21 0 h Q
def wX11_has (h : aH) (v0 : Nat) (v1 : Int32) (Q : Int32 → aH → Prop) : Prop :=
  rI h v0 9 28 (fun r1 => (r1 = 0 → wbX11_has_20  h Q) ∧ (¬ r1 = 0 → rR h v0 9 31 (fun r3 => aZ h r3 v1 (fun r5 => (r5 = 0 → wbX11_has_20  h Q) ∧ (¬ r5 = 0 → wbX11_has_21 1 h Q)))))
set_option maxRecDepth 100000 in
theorem abX11_has_21 (l : Launch) (G : aG) (d : Nat) (hG : a_GT G) (hd : 1 ≤ d) {Q : Int32 → aH → Prop} (s0 : Int32) (h : aH) (hw : wbX11_has_21 s0 h Q) : AW l G d 0 0 mX11_has (qI Q) 21 [] [.int s0] h := by
  unfold wbX11_has_21 at hw
  exact aw_iret dX11_has_21 rfl (a_nB hw.1) ⟨_, rfl, hw.2⟩
set_option maxRecDepth 100000 in
theorem abX11_has_20 (l : Launch) (G : aG) (d : Nat) (hG : a_GT G) (hd : 1 ≤ d) {Q : Int32 → aH → Prop} (h : aH) (hw : wbX11_has_20  h Q) : AW l G d 0 0 mX11_has (qI Q) 20 [] [] h := by
  unfold wbX11_has_20 at hw
  refine aw_iconst (v := 0) dX11_has_20 (by decide) ?_
  exact abX11_has_21 l G d hG hd _ _ hw
set_option maxRecDepth 100000 in
theorem acX11_has (l : Launch) (G : aG) (d : Nat) (hG : a_GT G) (hd : 1 ≤ d) {Q : Int32 → aH → Prop} {h : aH} {v0 : Nat} {v1 : Int32} (hw : wX11_has h v0 v1 Q) : AC l G d 0 0 mX11_has [.ref v0, .int v1] h (qI Q) := by
  refine ac_of iX11_has (Nat.le_of_ble_eq_true rfl) ?_
  show AW l G d 0 0 mX11_has (qI Q) 0 [(0, .ref v0), (1, .int v1)] [] h
  unfold wX11_has at hw
  refine aw_aload_n 0 dX11_has_0 rfl rfl ?_
  obtain ⟨fs2, r1, h1, h2, hw⟩ := hw
  refine aw_getf (k := 28) dX11_has_1 clX11 (by decide) k_976 (Or.inl rfl) h1 h2 ?_
  refine aw_if_eq (tgt := 20) dX11_has_4 (by decide) (fun z => ?_) (fun z => ?_)
  · have hw := hw.1 z
    refine aw_sub (lv' := []) [] rfl ?_
    exact abX11_has_20 l G d hG hd _ hw
  · have hw := hw.2 z
    refine aw_aload_n 0 dX11_has_7 rfl rfl ?_
    obtain ⟨fs4, r3, h1, h2, hw⟩ := hw
    refine aw_getf (k := 31) dX11_has_8 clX11 (by decide) k_979 (Or.inl rfl) h1 h2 ?_
    refine aw_iload_n 1 dX11_has_11 rfl rfl ?_
    obtain ⟨_, _, r5, h1, h2, h3, hw⟩ := hw
    refine aw_aZ dX11_has_12 h1 h2 h3 ?_
    refine aw_if_eq (tgt := 20) dX11_has_13 (by decide) (fun z => ?_) (fun z => ?_)
    · have hw := hw.1 z
      refine aw_sub (lv' := []) [] rfl ?_
      exact abX11_has_20 l G d hG hd _ hw
    · have hw := hw.2 z
      refine aw_iconst (v := 1) dX11_has_16 (by decide) ?_
      refine aw_goto (tgt := 21) dX11_has_17 (by decide) ?_
      refine aw_sub (lv' := []) [] rfl ?_
      exact abX11_has_21 l G d hG hd _ _ hw
-- X11_reached
def wbX11_reached_25 (s0 : Int32) (h : aH) (Q : Int32 → aH → Prop) : Prop :=
  Q s0 h
def wX11_reached (h : aH) (v0 : Nat) (v1 : Int32) (Q : Int32 → aH → Prop) : Prop :=
  isO h v0 9 (wX11_isNode h v0 v1 (fun r2 h1 => (¬ r2 = 0 → isO h1 v0 9 (wX11_has h1 v0 v1 (fun r4 h3 => (r4 = 0 → wbX11_reached_25 0 h3 Q) ∧ (¬ r4 = 0 → wbX11_reached_25 1 h3 Q)))) ∧ (r2 = 0 → wbX11_reached_25 ((-1)) h1 Q)))
set_option maxRecDepth 100000 in
theorem abX11_reached_25 (l : Launch) (G : aG) (d : Nat) (hG : a_GT G) (hd : 3 ≤ d) {Q : Int32 → aH → Prop} (s0 : Int32) (h : aH) (hw : wbX11_reached_25 s0 h Q) : AW l G d 0 0 mX11_reached (qI Q) 25 [] [.int s0] h := by
  unfold wbX11_reached_25 at hw
  exact aw_iret dX11_reached_25 rfl rfl ⟨_, rfl, hw⟩
set_option maxRecDepth 100000 in
theorem acX11_reached (l : Launch) (G : aG) (d : Nat) (hG : a_GT G) (hd : 3 ≤ d) {Q : Int32 → aH → Prop} {h : aH} {v0 : Nat} {v1 : Int32} (hw : wX11_reached h v0 v1 Q) : AC l G d 0 0 mX11_reached [.ref v0, .int v1] h (qI Q) := by
  refine ac_of iX11_reached (Nat.le_of_ble_eq_true rfl) ?_
  show AW l G d 0 0 mX11_reached (qI Q) 0 [(0, .ref v0), (1, .int v1)] [] h
  unfold wX11_reached at hw
  refine aw_aload_n 0 dX11_reached_0 rfl rfl ?_
  refine aw_iload_n 1 dX11_reached_1 rfl rfl ?_
  obtain ⟨_, h1, hw⟩ := hw
  refine aw_virtI (As := [.int v1]) (rest := []) dX11_reached_2 (acX11_isNode l G (d - 1) hG (by omega) hw) iX11_isNode rfl k_1094 k_1096 k_44 rfl h1 (by omega) (by decide) (by decide) rfl (Nat.le_of_ble_eq_true rfl) (fun r2 h1 hw => ?_)
  refine aw_if_ne (tgt := 12) dX11_reached_5 (by decide) (fun z => ?_) (fun z => ?_)
  · have hw := hw.1 z
    refine aw_aload_n 0 dX11_reached_12 rfl rfl ?_
    refine aw_iload_n 1 dX11_reached_13 rfl rfl ?_
    obtain ⟨_, h1, hw⟩ := hw
    refine aw_virtI (As := [.int v1]) (rest := []) dX11_reached_14 (acX11_has l G (d - 1) hG (by omega) hw) iX11_has rfl k_1373 k_1375 k_93 rfl h1 (by omega) (by decide) (by decide) rfl (Nat.le_of_ble_eq_true rfl) (fun r4 h3 hw => ?_)
    refine aw_if_eq (tgt := 24) dX11_reached_17 (by decide) (fun z => ?_) (fun z => ?_)
    · have hw := hw.1 z
      refine aw_iconst (v := 0) dX11_reached_24 (by decide) ?_
      refine aw_sub (lv' := []) [] rfl ?_
      exact abX11_reached_25 l G d hG hd _ _ hw
    · have hw := hw.2 z
      refine aw_iconst (v := 1) dX11_reached_20 (by decide) ?_
      refine aw_goto (tgt := 25) dX11_reached_21 (by decide) ?_
      refine aw_sub (lv' := []) [] rfl ?_
      exact abX11_reached_25 l G d hG hd _ _ hw
  · have hw := hw.2 z
    refine aw_iconst (v := (-1)) dX11_reached_8 (by decide) ?_
    refine aw_goto (tgt := 25) dX11_reached_9 (by decide) ?_
    refine aw_sub (lv' := []) [] rfl ?_
    exact abX11_reached_25 l G d hG hd _ _ hw
