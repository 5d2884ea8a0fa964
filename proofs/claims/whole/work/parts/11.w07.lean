-- X11_alike
def wbX11_alike_14 (h : aH) (Q : Int32 → aH → Prop) : Prop :=
  Q ((-1)) h
def wbX11_alike_65 (s0 : Int32) (h : aH) (Q : Int32 → aH → Prop) : Prop :=
  Q s0 h
def wbX11_alike_64 (h : aH) (Q : Int32 → aH → Prop) : Prop :=
  wbX11_alike_65 0 h Q
def wX11_alike (h : aH) (v0 : Nat) (v1 : Int32) (v2 : Int32) (Q : Int32 → aH → Prop) : Prop :=
  wX11_isSlot h v1 (fun r2 h1 => (r2 = 0 → wbX11_alike_14 h1 Q) ∧ (¬ r2 = 0 → wX11_isSlot h1 v2 (fun r4 h3 => (¬ r4 = 0 → rR h3 v0 9 7 (fun r5 => aI h3 r5 v1 (fun r7 => rR h3 v0 9 7 (fun r8 => aI h3 r8 v2 (fun r10 => (¬ r7 = r10 → (r7 = 0 → wbX11_alike_64 h3 Q) ∧ (¬ r7 = 0 → (r10 = 0 → wbX11_alike_64 h3 Q) ∧ (¬ r10 = 0 → isO h3 v0 9 (wX11_twins h3 v0 r7 r10 (fun r12 h11 => (r12 = 0 → wbX11_alike_64 h11 Q) ∧ (¬ r12 = 0 → wbX11_alike_65 2 h11 Q)))))) ∧ (r7 = r10 → wbX11_alike_65 1 h3 Q)))))) ∧ (r4 = 0 → wbX11_alike_14 h3 Q))))
set_option maxRecDepth 100000 in
theorem abX11_alike_14 (l : Launch) (G : aG) (d : Nat) (hG : a_GT G) (hd : 3 ≤ d) {Q : Int32 → aH → Prop} (h : aH) (hw : wbX11_alike_14  h Q) : AW l G d 0 0 mX11_alike (qI Q) 14 [] [] h := by
  unfold wbX11_alike_14 at hw
  refine aw_iconst (v := (-1)) dX11_alike_14 (by decide) ?_
  exact aw_iret dX11_alike_15 rfl rfl ⟨_, rfl, hw⟩
set_option maxRecDepth 100000 in
theorem abX11_alike_65 (l : Launch) (G : aG) (d : Nat) (hG : a_GT G) (hd : 3 ≤ d) {Q : Int32 → aH → Prop} (s0 : Int32) (h : aH) (hw : wbX11_alike_65 s0 h Q) : AW l G d 0 0 mX11_alike (qI Q) 65 [] [.int s0] h := by
  unfold wbX11_alike_65 at hw
  exact aw_iret dX11_alike_65 rfl rfl ⟨_, rfl, hw⟩
set_option maxRecDepth 100000 in
theorem abX11_alike_64 (l : Launch) (G : aG) (d : Nat) (hG : a_GT G) (hd : 3 ≤ d) {Q : Int32 → aH → Prop} (h : aH) (hw : wbX11_alike_64  h Q) : AW l G d 0 0 mX11_alike (qI Q) 64 [] [] h := by
  unfold wbX11_alike_64 at hw
  refine aw_iconst (v := 0) dX11_alike_64 (by decide) ?_
  exact abX11_alike_65 l G d hG hd _ _ hw
set_option maxRecDepth 100000 in
theorem acX11_alike (l : Launch) (G : aG) (d : Nat) (hG : a_GT G) (hd : 3 ≤ d) {Q : Int32 → aH → Prop} {h : aH} {v0 : Nat} {v1 : Int32} {v2 : Int32} (hw : wX11_alike h v0 v1 v2 Q) : AC l G d 0 0 mX11_alike [.ref v0, .int v1, .int v2] h (qI Q) := by
  refine ac_of iX11_alike (Nat.le_of_ble_eq_true rfl) ?_
  show AW l G d 0 0 mX11_alike (qI Q) 0 [(0, .ref v0), (1, .int v1), (2, .int v2)] [] h
  unfold wX11_alike at hw
  refine aw_iload_n 1 dX11_alike_0 rfl rfl ?_
  refine aw_staticI (As := [.int v1]) (rest := []) dX11_alike_1 (acX11_isSlot l G (d - 1) hG (by omega) hw) iX11_isSlot rfl k_1077 k_1078 (by omega) (by decide) (by decide) rfl (Nat.le_of_ble_eq_true rfl) (fun r2 h1 hw => ?_)
  refine aw_if_eq (tgt := 14) dX11_alike_4 (by decide) (fun z => ?_) (fun z => ?_)
  · have hw := hw.1 z
    refine aw_sub (lv' := []) [] rfl ?_
    exact abX11_alike_14 l G d hG hd _ hw
  · have hw := hw.2 z
    refine aw_iload_n 2 dX11_alike_7 rfl rfl ?_
    refine aw_staticI (As := [.int v2]) (rest := []) dX11_alike_8 (acX11_isSlot l G (d - 1) hG (by omega) hw) iX11_isSlot rfl k_1077 k_1078 (by omega) (by decide) (by decide) rfl (Nat.le_of_ble_eq_true rfl) (fun r4 h3 hw => ?_)
    refine aw_if_ne (tgt := 16) dX11_alike_11 (by decide) (fun z => ?_) (fun z => ?_)
    · have hw := hw.1 z
      refine aw_aload_n 0 dX11_alike_16 rfl rfl ?_
      obtain ⟨fs6, r5, h1, h2, hw⟩ := hw
      refine aw_getf (k := 7) dX11_alike_17 clX11 (by decide) k_955 (Or.inl rfl) h1 h2 ?_
      refine aw_iload_n 1 dX11_alike_20 rfl rfl ?_
      obtain ⟨_, _, r7, h1, h2, h3, hw⟩ := hw
      refine aw_aI dX11_alike_21 h1 h2 h3 ?_
      refine aw_istore_n (lv' := [(3, .int r7), (0, .ref v0), (1, .int v1), (2, .int v2)]) dX11_alike_22 rfl (by decide) rfl ?_
      refine aw_aload_n 1 dX11_alike_23 rfl rfl ?_
      obtain ⟨fs9, r8, h1, h2, hw⟩ := hw
      refine aw_getf (k := 7) dX11_alike_24 clX11 (by decide) k_955 (Or.inl rfl) h1 h2 ?_
      refine aw_iload_n 3 dX11_alike_27 rfl rfl ?_
      obtain ⟨_, _, r10, h1, h2, h3, hw⟩ := hw
      refine aw_aI dX11_alike_28 h1 h2 h3 ?_
      refine aw_istore (lv' := [(4, .int r10), (3, .int r7), (0, .ref v0), (1, .int v1), (2, .int v2)]) dX11_alike_29 (by decide) rfl ?_
      refine aw_iload_n 1 dX11_alike_31 rfl rfl ?_
      refine aw_iload 0 dX11_alike_32 rfl ?_
      refine aw_icmp_ne (tgt := 41) dX11_alike_34 (by decide) (fun z => ?_) (fun z => ?_)
      · have hw := hw.1 z
        refine aw_iload_n 1 dX11_alike_41 rfl rfl ?_
        refine aw_if_eq (tgt := 64) dX11_alike_42 (by decide) (fun z => ?_) (fun z => ?_)
        · have hw := hw.1 z
          refine aw_sub (lv' := []) [] rfl ?_
          exact abX11_alike_64 l G d hG hd _ hw
        · have hw := hw.2 z
          refine aw_iload 0 dX11_alike_45 rfl ?_
          refine aw_if_eq (tgt := 64) dX11_alike_47 (by decide) (fun z => ?_) (fun z => ?_)
          · have hw := hw.1 z
            refine aw_sub (lv' := []) [] rfl ?_
            exact abX11_alike_64 l G d hG hd _ hw
          · have hw := hw.2 z
            refine aw_aload_n 2 dX11_alike_50 rfl rfl ?_
            refine aw_iload_n 1 dX11_alike_51 rfl rfl ?_
            refine aw_iload 0 dX11_alike_52 rfl ?_
            obtain ⟨_, h1, hw⟩ := hw
            refine aw_virtI (As := [.int r7, .int r10]) (rest := []) dX11_alike_54 (acX11_twins l G (d - 1) hG (by omega) hw) iX11_twins rfl k_1261 k_1263 k_71 rfl h1 (by omega) (by decide) (by decide) rfl (Nat.le_of_ble_eq_true rfl) (fun r12 h11 hw => ?_)
            refine aw_if_eq (tgt := 64) dX11_alike_57 (by decide) (fun z => ?_) (fun z => ?_)
            · have hw := hw.1 z
              refine aw_sub (lv' := []) [] rfl ?_
              exact abX11_alike_64 l G d hG hd _ hw
            · have hw := hw.2 z
              refine aw_iconst (v := 2) dX11_alike_60 (by decide) ?_
              refine aw_goto (tgt := 65) dX11_alike_61 (by decide) ?_
              refine aw_sub (lv' := []) [] rfl ?_
              exact abX11_alike_65 l G d hG hd _ _ hw
      · have hw := hw.2 z
        refine aw_iconst (v := 1) dX11_alike_37 (by decide) ?_
        refine aw_goto (tgt := 65) dX11_alike_38 (by decide) ?_
        refine aw_sub (lv' := []) [] rfl ?_
        exact abX11_alike_65 l G d hG hd _ _ hw
    · have hw := hw.2 z
      refine aw_sub (lv' := []) [] rfl ?_
      exact abX11_alike_14 l G d hG hd _ hw
-- X11_startOf
def wbX11_startOf_19 (s0 : Int32) (h : aH) (Q : Int32 → aH → Prop) : Prop :=
  Q s0 h
def wX11_startOf (h : aH) (v0 : Nat) (v1 : Int32) (Q : Int32 → aH → Prop) : Prop :=
  rR h v0 9 30 (fun r1 => aZ h r1 v1 (fun r3 => (r3 = 0 → wbX11_startOf_19 1 h Q) ∧ (¬ r3 = 0 → rR h v0 9 29 (fun r4 => aI h r4 v1 (fun r6 => wbX11_startOf_19 r6 h Q)))))
set_option maxRecDepth 100000 in
theorem abX11_startOf_19 (l : Launch) (G : aG) (d : Nat) (hG : a_GT G) (hd : 1 ≤ d) {Q : Int32 → aH → Prop} (s0 : Int32) (h : aH) (hw : wbX11_startOf_19 s0 h Q) : AW l G d 0 0 mX11_startOf (qI Q) 19 [] [.int s0] h := by
  unfold wbX11_startOf_19 at hw
  exact aw_iret dX11_startOf_19 rfl rfl ⟨_, rfl, hw⟩
set_option maxRecDepth 100000 in
theorem acX11_startOf (l : Launch) (G : aG) (d : Nat) (hG : a_GT G) (hd : 1 ≤ d) {Q : Int32 → aH → Prop} {h : aH} {v0 : Nat} {v1 : Int32} (hw : wX11_startOf h v0 v1 Q) : AC l G d 0 0 mX11_startOf [.ref v0, .int v1] h (qI Q) := by
  refine ac_of iX11_startOf (Nat.le_of_ble_eq_true rfl) ?_
  show AW l G d 0 0 mX11_startOf (qI Q) 0 [(0, .ref v0), (1, .int v1)] [] h
  unfold wX11_startOf at hw
  refine aw_aload_n 0 dX11_startOf_0 rfl rfl ?_
  obtain ⟨fs2, r1, h1, h2, hw⟩ := hw
  refine aw_getf (k := 30) dX11_startOf_1 clX11 (by decide) k_978 (Or.inl rfl) h1 h2 ?_
  refine aw_iload_n 1 dX11_startOf_4 rfl rfl ?_
  obtain ⟨_, _, r3, h1, h2, h3, hw⟩ := hw
  refine aw_aZ dX11_startOf_5 h1 h2 h3 ?_
  refine aw_if_eq (tgt := 18) dX11_startOf_6 (by decide) (fun z => ?_) (fun z => ?_)
  · have hw := hw.1 z
    refine aw_iconst (v := 1) dX11_startOf_18 (by decide) ?_
    refine aw_sub (lv' := []) [] rfl ?_
    exact abX11_startOf_19 l G d hG hd _ _ hw
  · have hw := hw.2 z
    refine aw_aload_n 0 dX11_startOf_9 rfl rfl ?_
    obtain ⟨fs5, r4, h1, h2, hw⟩ := hw
    refine aw_getf (k := 29) dX11_startOf_10 clX11 (by decide) k_977 (Or.inl rfl) h1 h2 ?_
    refine aw_iload_n 1 dX11_startOf_13 rfl rfl ?_
    obtain ⟨_, _, r6, h1, h2, h3, hw⟩ := hw
    refine aw_aI dX11_startOf_14 h1 h2 h3 ?_
    refine aw_goto (tgt := 19) dX11_startOf_15 (by decide) ?_
    refine aw_sub (lv' := []) [] rfl ?_
    exact abX11_startOf_19 l G d hG hd _ _ hw
-- X11_given
def wbX11_given_19 (h : aH) (Q : Int32 → aH → Prop) : Prop :=
  Q ((-1)) h
def wX11_given (h : aH) (v0 : Nat) (v1 : Int32) (v2 : Int32) (Q : Int32 → aH → Prop) : Prop :=
  wX11_isSlot h v1 (fun r2 h1 => (r2 = 0 → wbX11_given_19 h1 Q) ∧ (¬ r2 = 0 → (v2 < 1 → wbX11_given_19 h1 Q) ∧ (¬ v2 < 1 → (v2 ≤ 1023 → isO h1 v0 9 (wX11_startOf h1 v0 v1 (fun r4 h3 => rR h3 v0 9 29 (fun r5 => sI h3 r5 v1 v2 (fun h7 => rR h7 v0 9 30 (fun r8 => sZ h7 r8 v1 1 (fun h10 => Q r4 h10))))))) ∧ (¬ v2 ≤ 1023 → wbX11_given_19 h1 Q))))
set_option maxRecDepth 100000 in
theorem abX11_given_19 (l : Launch) (G : aG) (d : Nat) (hG : a_GT G) (hd : 3 ≤ d) {Q : Int32 → aH → Prop} (h : aH) (hw : wbX11_given_19  h Q) : AW l G d 0 0 mX11_given (qI Q) 19 [] [] h := by
  unfold wbX11_given_19 at hw
  refine aw_iconst (v := (-1)) dX11_given_19 (by decide) ?_
  exact aw_iret dX11_given_20 rfl rfl ⟨_, rfl, hw⟩
set_option maxRecDepth 100000 in
theorem acX11_given (l : Launch) (G : aG) (d : Nat) (hG : a_GT G) (hd : 3 ≤ d) {Q : Int32 → aH → Prop} {h : aH} {v0 : Nat} {v1 : Int32} {v2 : Int32} (hw : wX11_given h v0 v1 v2 Q) : AC l G d 0 0 mX11_given [.ref v0, .int v1, .int v2] h (qI Q) := by
  refine ac_of iX11_given (Nat.le_of_ble_eq_true rfl) ?_
  show AW l G d 0 0 mX11_given (qI Q) 0 [(0, .ref v0), (1, .int v1), (2, .int v2)] [] h
  unfold wX11_given at hw
  refine aw_iload_n 1 dX11_given_0 rfl rfl ?_
  refine aw_staticI (As := [.int v1]) (rest := []) dX11_given_1 (acX11_isSlot l G (d - 1) hG (by omega) hw) iX11_isSlot rfl k_1077 k_1078 (by omega) (by decide) (by decide) rfl (Nat.le_of_ble_eq_true rfl) (fun r2 h1 hw => ?_)
  refine aw_if_eq (tgt := 19) dX11_given_4 (by decide) (fun z => ?_) (fun z => ?_)
  · have hw := hw.1 z
    refine aw_sub (lv' := []) [] rfl ?_
    exact abX11_given_19 l G d hG hd _ hw
  · have hw := hw.2 z
    refine aw_iload_n 2 dX11_given_7 rfl rfl ?_
    refine aw_iconst (v := 1) dX11_given_8 (by decide) ?_
    refine aw_icmp_lt (tgt := 19) dX11_given_9 (by decide) (fun z => ?_) (fun z => ?_)
    · have hw := hw.1 z
      refine aw_sub (lv' := []) [] rfl ?_
      exact abX11_given_19 l G d hG hd _ hw
    · have hw := hw.2 z
      refine aw_iload_n 2 dX11_given_12 rfl rfl ?_
      refine aw_sipush (v := 1023) dX11_given_13 (by decide) ?_
      refine aw_icmp_le (tgt := 21) dX11_given_16 (by decide) (fun z => ?_) (fun z => ?_)
      · have hw := hw.1 z
        refine aw_aload_n 0 dX11_given_21 rfl rfl ?_
        refine aw_iload_n 1 dX11_given_22 rfl rfl ?_
        obtain ⟨_, h1, hw⟩ := hw
        refine aw_virtI (As := [.int v1]) (rest := []) dX11_given_23 (acX11_startOf l G (d - 1) hG (by omega) hw) iX11_startOf rfl k_1273 k_1275 k_73 rfl h1 (by omega) (by decide) (by decide) rfl (Nat.le_of_ble_eq_true rfl) (fun r4 h3 hw => ?_)
        refine aw_istore_n (lv' := [(3, .int r4), (0, .ref v0), (1, .int v1), (2, .int v2)]) dX11_given_26 rfl (by decide) rfl ?_
        refine aw_aload_n 1 dX11_given_27 rfl rfl ?_
        obtain ⟨fs6, r5, h1, h2, hw⟩ := hw
        refine aw_getf (k := 29) dX11_given_28 clX11 (by decide) k_977 (Or.inl rfl) h1 h2 ?_
        refine aw_iload_n 2 dX11_given_31 rfl rfl ?_
        refine aw_iload_n 3 dX11_given_32 rfl rfl ?_
        obtain ⟨_, _, h1, h2, hw⟩ := hw
        refine aw_iast dX11_given_33 h1 h2 ?_
        generalize a_up _ _ _ = h7 at hw ⊢
        refine aw_aload_n 1 dX11_given_34 rfl rfl ?_
        obtain ⟨fs9, r8, h1, h2, hw⟩ := hw
        refine aw_getf (k := 30) dX11_given_35 clX11 (by decide) k_978 (Or.inl rfl) h1 h2 ?_
        refine aw_iload_n 2 dX11_given_38 rfl rfl ?_
        refine aw_iconst (v := 1) dX11_given_39 (by decide) ?_
        obtain ⟨_, _, h1, h2, hw⟩ := hw
        refine aw_zast dX11_given_40 h1 h2 ?_
        generalize a_up _ _ _ = h10 at hw ⊢
        refine aw_iload_n 0 dX11_given_41 rfl rfl ?_
        exact aw_iret dX11_given_42 rfl rfl ⟨_, rfl, hw⟩
      · have hw := hw.2 z
        refine aw_sub (lv' := []) [] rfl ?_
        exact abX11_given_19 l G d hG hd _ hw
-- X11_join
def wbX11_join_3_i (K3 : Nat → Int32 → Nat → Int32 → Int32 →  aH → Prop) (v0 : Nat) (v1 : Int32) (v2 : Nat) (v3 : Int32) (v4 : Int32) (h : aH) (Q : aH → Prop) : Prop :=
  (12 ≤ v4 → Q h) ∧ (¬ 12 ≤ v4 → aI h v2 ((v3 + v4)) (fun r1 => aI h v0 ((v1 + v4)) (fun r2 => sI h v2 ((v3 + v4)) ((r1 ||| r2)) (fun h3 => K3 v0 v1 v2 v3 ((v4 + 1)) h3))))
def wbX11_join_3 (n : Nat) (v0 : Nat) (v1 : Int32) (v2 : Nat) (v3 : Int32) (v4 : Int32) (h : aH) (Q : aH → Prop) : Prop := match n with
  | 0 => False
  | n + 1 => wbX11_join_3_i (fun v0 v1 v2 v3 v4 h => wbX11_join_3 n v0 v1 v2 v3 v4 h Q) v0 v1 v2 v3 v4 h Q
def wX11_join (h : aH) (v0 : Nat) (v1 : Int32) (v2 : Nat) (v3 : Int32) (Q : aH → Prop) : Prop :=
  ∃ n, wbX11_join_3 n v0 v1 v2 v3 0 h Q
set_option maxRecDepth 100000 in
theorem abX11_join_3_i (l : Launch) (G : aG) (d : Nat) (hG : a_GT G) (hd : 1 ≤ d) {Q : aH → Prop} {K3 : Nat → Int32 → Nat → Int32 → Int32 →  aH → Prop} (kk3 : ∀ (v0 : Nat) (v1 : Int32) (v2 : Nat) (v3 : Int32) (v4 : Int32) (h : aH), K3 v0 v1 v2 v3 v4 h → AW l G d 0 0 mX11_join (qV Q) 3 [(0, .ref v0), (1, .int v1), (2, .ref v2), (3, .int v3), (4, .int v4)] [] h) (v0 : Nat) (v1 : Int32) (v2 : Nat) (v3 : Int32) (v4 : Int32) (h : aH) (hw : wbX11_join_3_i K3 v0 v1 v2 v3 v4 h Q) : AW l G d 0 0 mX11_join (qV Q) 3 [(0, .ref v0), (1, .int v1), (2, .ref v2), (3, .int v3), (4, .int v4)] [] h := by
  unfold wbX11_join_3_i at hw
  refine aw_iload 4 dX11_join_3 rfl ?_
  refine aw_bipush (v := 12) dX11_join_5 (by decide) ?_
  refine aw_icmp_ge (tgt := 31) dX11_join_7 (by decide) (fun z => ?_) (fun z => ?_)
  · have hw := hw.1 z
    exact aw_vret dX11_join_31 rfl ⟨rfl, hw⟩
  · have hw := hw.2 z
    refine aw_aload_n 2 dX11_join_10 rfl rfl ?_
    refine aw_iload_n 3 dX11_join_11 rfl rfl ?_
    refine aw_iload 4 dX11_join_12 rfl ?_
    refine aw_iadd dX11_join_14 ?_
    refine aw_dup2 dX11_join_15 rfl rfl ?_
    obtain ⟨_, _, r1, h1, h2, h3, hw⟩ := hw
    refine aw_aI dX11_join_16 h1 h2 h3 ?_
    refine aw_aload_n 0 dX11_join_17 rfl rfl ?_
    refine aw_iload_n 1 dX11_join_18 rfl rfl ?_
    refine aw_iload 4 dX11_join_19 rfl ?_
    refine aw_iadd dX11_join_21 ?_
    obtain ⟨_, _, r2, h1, h2, h3, hw⟩ := hw
    refine aw_aI dX11_join_22 h1 h2 h3 ?_
    refine aw_ior dX11_join_23 ?_
    obtain ⟨_, _, h1, h2, hw⟩ := hw
    refine aw_iast dX11_join_24 h1 h2 ?_
    generalize a_up _ _ _ = h3 at hw ⊢
    refine aw_iinc (v := (v4 + 1)) (lv' := [(4, .int (v4 + 1)), (0, .ref v0), (1, .int v1), (2, .ref v2), (3, .int v3)]) 4 dX11_join_25 rfl rfl (by decide) rfl ?_
    refine aw_goto (tgt := 3) dX11_join_28 (by decide) ?_
    refine aw_sub (lv' := [(0, .ref v0), (1, .int v1), (2, .ref v2), (3, .int v3), (4, .int (v4 + 1))]) [1, 2, 3, 4, 0] rfl ?_
    exact kk3 _ _ _ _ _ _ hw
set_option maxRecDepth 100000 in
theorem abX11_join_3 (l : Launch) (G : aG) (d : Nat) (hG : a_GT G) (hd : 1 ≤ d) {Q : aH → Prop} (n : Nat) : ∀  (v0 : Nat) (v1 : Int32) (v2 : Nat) (v3 : Int32) (v4 : Int32) (h : aH), wbX11_join_3 n v0 v1 v2 v3 v4 h Q → AW l G d 0 0 mX11_join (qV Q) 3 [(0, .ref v0), (1, .int v1), (2, .ref v2), (3, .int v3), (4, .int v4)] [] h := by
  induction n with
  | zero => exact fun _ _ _ _ _ _ hw => hw.elim
  | succ n ih => exact fun _ _ _ _ _ _ hw => abX11_join_3_i l G d hG hd ih _ _ _ _ _ _ hw
set_option maxRecDepth 100000 in
theorem acX11_join (l : Launch) (G : aG) (d : Nat) (hG : a_GT G) (hd : 1 ≤ d) {Q : aH → Prop} {h : aH} {v0 : Nat} {v1 : Int32} {v2 : Nat} {v3 : Int32} (hw : wX11_join h v0 v1 v2 v3 Q) : AC l G d 0 0 mX11_join [.ref v0, .int v1, .ref v2, .int v3] h (qV Q) := by
  refine ac_of iX11_join (Nat.le_of_ble_eq_true rfl) ?_
  show AW l G d 0 0 mX11_join (qV Q) 0 [(0, .ref v0), (1, .int v1), (2, .ref v2), (3, .int v3)] [] h
  unfold wX11_join at hw
  refine aw_iconst (v := 0) dX11_join_0 (by decide) ?_
  refine aw_istore (lv' := [(4, .int 0), (0, .ref v0), (1, .int v1), (2, .ref v2), (3, .int v3)]) dX11_join_1 (by decide) rfl ?_
  obtain ⟨n, hw⟩ := hw
  refine aw_sub (lv' := [(0, .ref v0), (1, .int v1), (2, .ref v2), (3, .int v3), (4, .int 0)]) [1, 2, 3, 4, 0] rfl ?_
  exact abX11_join_3 l G d hG hd n _ _ _ _ _ _ hw
-- X11_lay_
def wbX11_lay__3_i (K3 : Nat → Int32 → Nat → Int32 → Int32 →  aH → Prop) (v0 : Nat) (v1 : Int32) (v2 : Nat) (v3 : Int32) (v4 : Int32) (h : aH) (Q : aH → Prop) : Prop :=
  (12 ≤ v4 → Q h) ∧ (¬ 12 ≤ v4 → aI h v0 ((v1 + v4)) (fun r1 => sI h v2 ((v3 + v4)) r1 (fun h2 => K3 v0 v1 v2 v3 ((v4 + 1)) h2)))
def wbX11_lay__3 (n : Nat) (v0 : Nat) (v1 : Int32) (v2 : Nat) (v3 : Int32) (v4 : Int32) (h : aH) (Q : aH → Prop) : Prop := match n with
  | 0 => False
  | n + 1 => wbX11_lay__3_i (fun v0 v1 v2 v3 v4 h => wbX11_lay__3 n v0 v1 v2 v3 v4 h Q) v0 v1 v2 v3 v4 h Q
def wX11_lay_ (h : aH) (v0 : Nat) (v1 : Int32) (v2 : Nat) (v3 : Int32) (Q : aH → Prop) : Prop :=
  ∃ n, wbX11_lay__3 n v0 v1 v2 v3 0 h Q
set_option maxRecDepth 100000 in
theorem abX11_lay__3_i (l : Launch) (G : aG) (d : Nat) (hG : a_GT G) (hd : 1 ≤ d) {Q : aH → Prop} {K3 : Nat → Int32 → Nat → Int32 → Int32 →  aH → Prop} (kk3 : ∀ (v0 : Nat) (v1 : Int32) (v2 : Nat) (v3 : Int32) (v4 : Int32) (h : aH), K3 v0 v1 v2 v3 v4 h → AW l G d 0 0 mX11_lay_ (qV Q) 3 [(0, .ref v0), (1, .int v1), (2, .ref v2), (3, .int v3), (4, .int v4)] [] h) (v0 : Nat) (v1 : Int32) (v2 : Nat) (v3 : Int32) (v4 : Int32) (h : aH) (hw : wbX11_lay__3_i K3 v0 v1 v2 v3 v4 h Q) : AW l G d 0 0 mX11_lay_ (qV Q) 3 [(0, .ref v0), (1, .int v1), (2, .ref v2), (3, .int v3), (4, .int v4)] [] h := by
  unfold wbX11_lay__3_i at hw
  refine aw_iload 4 dX11_lay__3 rfl ?_
  refine aw_bipush (v := 12) dX11_lay__5 (by decide) ?_
  refine aw_icmp_ge (tgt := 28) dX11_lay__7 (by decide) (fun z => ?_) (fun z => ?_)
  · have hw := hw.1 z
    exact aw_vret dX11_lay__28 rfl ⟨rfl, hw⟩
  · have hw := hw.2 z
    refine aw_aload_n 2 dX11_lay__10 rfl rfl ?_
    refine aw_iload_n 3 dX11_lay__11 rfl rfl ?_
    refine aw_iload 4 dX11_lay__12 rfl ?_
    refine aw_iadd dX11_lay__14 ?_
    refine aw_aload_n 0 dX11_lay__15 rfl rfl ?_
    refine aw_iload_n 1 dX11_lay__16 rfl rfl ?_
    refine aw_iload 4 dX11_lay__17 rfl ?_
    refine aw_iadd dX11_lay__19 ?_
    obtain ⟨_, _, r1, h1, h2, h3, hw⟩ := hw
    refine aw_aI dX11_lay__20 h1 h2 h3 ?_
    obtain ⟨_, _, h1, h2, hw⟩ := hw
    refine aw_iast dX11_lay__21 h1 h2 ?_
    generalize a_up _ _ _ = h2 at hw ⊢
    refine aw_iinc (v := (v4 + 1)) (lv' := [(4, .int (v4 + 1)), (0, .ref v0), (1, .int v1), (2, .ref v2), (3, .int v3)]) 4 dX11_lay__22 rfl rfl (by decide) rfl ?_
    refine aw_goto (tgt := 3) dX11_lay__25 (by decide) ?_
    refine aw_sub (lv' := [(0, .ref v0), (1, .int v1), (2, .ref v2), (3, .int v3), (4, .int (v4 + 1))]) [1, 2, 3, 4, 0] rfl ?_
    exact kk3 _ _ _ _ _ _ hw
set_option maxRecDepth 100000 in
theorem abX11_lay__3 (l : Launch) (G : aG) (d : Nat) (hG : a_GT G) (hd : 1 ≤ d) {Q : aH → Prop} (n : Nat) : ∀  (v0 : Nat) (v1 : Int32) (v2 : Nat) (v3 : Int32) (v4 : Int32) (h : aH), wbX11_lay__3 n v0 v1 v2 v3 v4 h Q → AW l G d 0 0 mX11_lay_ (qV Q) 3 [(0, .ref v0), (1, .int v1), (2, .ref v2), (3, .int v3), (4, .int v4)] [] h := by
  induction n with
  | zero => exact fun _ _ _ _ _ _ hw => hw.elim
  | succ n ih => exact fun _ _ _ _ _ _ hw => abX11_lay__3_i l G d hG hd ih _ _ _ _ _ _ hw
set_option maxRecDepth 100000 in
theorem acX11_lay_ (l : Launch) (G : aG) (d : Nat) (hG : a_GT G) (hd : 1 ≤ d) {Q : aH → Prop} {h : aH} {v0 : Nat} {v1 : Int32} {v2 : Nat} {v3 : Int32} (hw : wX11_lay_ h v0 v1 v2 v3 Q) : AC l G d 0 0 mX11_lay_ [.ref v0, .int v1, .ref v2, .int v3] h (qV Q) := by
  refine ac_of iX11_lay_ (Nat.le_of_ble_eq_true rfl) ?_
  show AW l G d 0 0 mX11_lay_ (qV Q) 0 [(0, .ref v0), (1, .int v1), (2, .ref v2), (3, .int v3)] [] h
  unfold wX11_lay_ at hw
  refine aw_iconst (v := 0) dX11_lay__0 (by decide) ?_
  refine aw_istore (lv' := [(4, .int 0), (0, .ref v0), (1, .int v1), (2, .ref v2), (3, .int v3)]) dX11_lay__1 (by decide) rfl ?_
  obtain ⟨n, hw⟩ := hw
  refine aw_sub (lv' := [(0, .ref v0), (1, .int v1), (2, .ref v2), (3, .int v3), (4, .int 0)]) [1, 2, 3, 4, 0] rfl ?_
  exact abX11_lay__3 l G d hG hd n _ _ _ _ _ _ hw
-- X11_wipe
def wbX11_wipe_2_i (K2 : Nat → Int32 → Int32 → Int32 →  aH → Prop) (v0 : Nat) (v1 : Int32) (v2 : Int32) (v3 : Int32) (h : aH) (Q : aH → Prop) : Prop :=
  ((v1 + v2) ≤ v3 → Q h) ∧ (¬ (v1 + v2) ≤ v3 → sI h v0 v3 0 (fun h1 => K2 v0 v1 v2 ((v3 + 1)) h1))
def wbX11_wipe_2 (n : Nat) (v0 : Nat) (v1 : Int32) (v2 : Int32) (v3 : Int32) (h : aH) (Q : aH → Prop) : Prop := match n with
  | 0 => False
  | n + 1 => wbX11_wipe_2_i (fun v0 v1 v2 v3 h => wbX11_wipe_2 n v0 v1 v2 v3 h Q) v0 v1 v2 v3 h Q
def wX11_wipe (h : aH) (v0 : Nat) (v1 : Int32) (v2 : Int32) (Q : aH → Prop) : Prop :=
  ∃ n, wbX11_wipe_2 n v0 v1 v2 v1 h Q
set_option maxRecDepth 100000 in
theorem abX11_wipe_2_i (l : Launch) (G : aG) (d : Nat) (hG : a_GT G) (hd : 1 ≤ d) {Q : aH → Prop} {K2 : Nat → Int32 → Int32 → Int32 →  aH → Prop} (kk2 : ∀ (v0 : Nat) (v1 : Int32) (v2 : Int32) (v3 : Int32) (h : aH), K2 v0 v1 v2 v3 h → AW l G d 0 0 mX11_wipe (qV Q) 2 [(0, .ref v0), (1, .int v1), (2, .int v2), (3, .int v3)] [] h) (v0 : Nat) (v1 : Int32) (v2 : Int32) (v3 : Int32) (h : aH) (hw : wbX11_wipe_2_i K2 v0 v1 v2 v3 h Q) : AW l G d 0 0 mX11_wipe (qV Q) 2 [(0, .ref v0), (1, .int v1), (2, .int v2), (3, .int v3)] [] h := by
  unfold wbX11_wipe_2_i at hw
  refine aw_iload_n 3 dX11_wipe_2 rfl rfl ?_
  refine aw_iload_n 1 dX11_wipe_3 rfl rfl ?_
  refine aw_iload_n 2 dX11_wipe_4 rfl rfl ?_
  refine aw_iadd dX11_wipe_5 ?_
  refine aw_icmp_ge (tgt := 19) dX11_wipe_6 (by decide) (fun z => ?_) (fun z => ?_)
  · have hw := hw.1 z
    exact aw_vret dX11_wipe_19 rfl ⟨rfl, hw⟩
  · have hw := hw.2 z
    refine aw_aload_n 0 dX11_wipe_9 rfl rfl ?_
    refine aw_iload_n 3 dX11_wipe_10 rfl rfl ?_
    refine aw_iconst (v := 0) dX11_wipe_11 (by decide) ?_
    obtain ⟨_, _, h1, h2, hw⟩ := hw
    refine aw_iast dX11_wipe_12 h1 h2 ?_
    generalize a_up _ _ _ = h1 at hw ⊢
    refine aw_iinc (v := (v3 + 1)) (lv' := [(3, .int (v3 + 1)), (0, .ref v0), (1, .int v1), (2, .int v2)]) 3 dX11_wipe_13 rfl rfl (by decide) rfl ?_
    refine aw_goto (tgt := 2) dX11_wipe_16 (by decide) ?_
    refine aw_sub (lv' := [(0, .ref v0), (1, .int v1), (2, .int v2), (3, .int (v3 + 1))]) [1, 2, 3, 0] rfl ?_
    exact kk2 _ _ _ _ _ hw
set_option maxRecDepth 100000 in
theorem abX11_wipe_2 (l : Launch) (G : aG) (d : Nat) (hG : a_GT G) (hd : 1 ≤ d) {Q : aH → Prop} (n : Nat) : ∀  (v0 : Nat) (v1 : Int32) (v2 : Int32) (v3 : Int32) (h : aH), wbX11_wipe_2 n v0 v1 v2 v3 h Q → AW l G d 0 0 mX11_wipe (qV Q) 2 [(0, .ref v0), (1, .int v1), (2, .int v2), (3, .int v3)] [] h := by
  induction n with
  | zero => exact fun _ _ _ _ _ hw => hw.elim
  | succ n ih => exact fun _ _ _ _ _ hw => abX11_wipe_2_i l G d hG hd ih _ _ _ _ _ hw
set_option maxRecDepth 100000 in
theorem acX11_wipe (l : Launch) (G : aG) (d : Nat) (hG : a_GT G) (hd : 1 ≤ d) {Q : aH → Prop} {h : aH} {v0 : Nat} {v1 : Int32} {v2 : Int32} (hw : wX11_wipe h v0 v1 v2 Q) : AC l G d 0 0 mX11_wipe [.ref v0, .int v1, .int v2] h (qV Q) := by
  refine ac_of iX11_wipe (Nat.le_of_ble_eq_true rfl) ?_
  show AW l G d 0 0 mX11_wipe (qV Q) 0 [(0, .ref v0), (1, .int v1), (2, .int v2)] [] h
  unfold wX11_wipe at hw
  refine aw_iload_n 1 dX11_wipe_0 rfl rfl ?_
  refine aw_istore_n (lv' := [(3, .int v1), (0, .ref v0), (1, .int v1), (2, .int v2)]) dX11_wipe_1 rfl (by decide) rfl ?_
  obtain ⟨n, hw⟩ := hw
  refine aw_sub (lv' := [(0, .ref v0), (1, .int v1), (2, .int v2), (3, .int v1)]) [1, 2, 3, 0] rfl ?_
  exact abX11_wipe_2 l G d hG hd n _ _ _ _ _ hw
-- X11_mayFail
def wbX11_mayFail_61 (h : aH) (Q : aH → Prop) : Prop :=
  Q h
def wbX11_mayFail_28 (v0 : Nat) (v1 : Int32) (v2 : Int32) (v3 : Int32) (v5 : Int32) (h : aH) (Q : aH → Prop) : Prop :=
  rR h v0 9 39 (fun r1 => rR h v0 9 36 (fun r3 => wX11_join h r1 0 r3 (((108 * v1) + (12 * v2))) (fun h5 => (v3 < 0 → wbX11_mayFail_61 h5 Q) ∧ (¬ v3 < 0 → rR h5 v0 9 39 (fun r6 => sI h5 r6 v3 v5 (fun h8 => wbX11_mayFail_61 h8 Q))))))
def wbX11_mayFail_14 (v0 : Nat) (v1 : Int32) (v2 : Int32) (v3 : Int32) (v4 : Int32) (s0 : Int32) (h : aH) (Q : aH → Prop) : Prop :=
  (v3 < 0 → wbX11_mayFail_28 v0 v1 v2 v3 s0 h Q) ∧ (¬ v3 < 0 → rR h v0 9 39 (fun r9 => sI h r9 v3 v4 (fun h11 => wbX11_mayFail_28 v0 v1 v2 v3 s0 h11 Q)))
def wX11_mayFail (h : aH) (v0 : Nat) (v1 : Int32) (v2 : Int32) (v3 : Int32) (v4 : Int32) (Q : aH → Prop) : Prop :=
  (0 ≤ v3 → rR h v0 9 39 (fun r12 => aI h r12 v3 (fun r14 => wbX11_mayFail_14 v0 v1 v2 v3 v4 r14 h Q))) ∧ (¬ 0 ≤ v3 → wbX11_mayFail_14 v0 v1 v2 v3 v4 0 h Q)
set_option maxRecDepth 100000 in
theorem abX11_mayFail_61 (l : Launch) (G : aG) (d : Nat) (hG : a_GT G) (hd : 2 ≤ d) {Q : aH → Prop} (h : aH) (hw : wbX11_mayFail_61  h Q) : AW l G d 0 0 mX11_mayFail (qV Q) 61 [] [] h := by
  unfold wbX11_mayFail_61 at hw
  exact aw_vret dX11_mayFail_61 rfl ⟨rfl, hw⟩
set_option maxRecDepth 100000 in
theorem abX11_mayFail_28 (l : Launch) (G : aG) (d : Nat) (hG : a_GT G) (hd : 2 ≤ d) {Q : aH → Prop} (v0 : Nat) (v1 : Int32) (v2 : Int32) (v3 : Int32) (v5 : Int32) (h : aH) (hw : wbX11_mayFail_28 v0 v1 v2 v3 v5 h Q) : AW l G d 0 0 mX11_mayFail (qV Q) 28 [(0, .ref v0), (1, .int v1), (2, .int v2), (3, .int v3), (5, .int v5)] [] h := by
  unfold wbX11_mayFail_28 at hw
  refine aw_aload_n 0 dX11_mayFail_28 rfl rfl ?_
  obtain ⟨fs2, r1, h1, h2, hw⟩ := hw
  refine aw_getf (k := 39) dX11_mayFail_29 clX11 (by decide) k_987 (Or.inl rfl) h1 h2 ?_
  refine aw_iconst (v := 0) dX11_mayFail_32 (by decide) ?_
  refine aw_aload_n 0 dX11_mayFail_33 rfl rfl ?_
  obtain ⟨fs4, r3, h1, h2, hw⟩ := hw
  refine aw_getf (k := 36) dX11_mayFail_34 clX11 (by decide) k_984 (Or.inl rfl) h1 h2 ?_
  refine aw_bipush (v := 108) dX11_mayFail_37 (by decide) ?_
  refine aw_iload_n 1 dX11_mayFail_39 rfl rfl ?_
  refine aw_imul dX11_mayFail_40 ?_
  refine aw_bipush (v := 12) dX11_mayFail_41 (by decide) ?_
  refine aw_iload_n 2 dX11_mayFail_43 rfl rfl ?_
  refine aw_imul dX11_mayFail_44 ?_
  refine aw_iadd dX11_mayFail_45 ?_
  refine aw_staticV (As := [.ref r1, .int 0, .ref r3, .int ((108 * v1) + (12 * v2))]) (rest := []) dX11_mayFail_46 (acX11_join l G (d - 1) hG (by omega) hw) iX11_join rfl k_1296 k_1297 (by omega) (by decide) (by decide) rfl (Nat.le_of_ble_eq_true rfl) (fun h5 hw => ?_)
  refine aw_iload_n 3 dX11_mayFail_49 rfl rfl ?_
  refine aw_if_lt (tgt := 61) dX11_mayFail_50 (by decide) (fun z => ?_) (fun z => ?_)
  · have hw := hw.1 z
    refine aw_sub (lv' := []) [] rfl ?_
    exact abX11_mayFail_61 l G d hG hd _ hw
  · have hw := hw.2 z
    refine aw_aload_n 0 dX11_mayFail_53 rfl rfl ?_
    obtain ⟨fs7, r6, h1, h2, hw⟩ := hw
    refine aw_getf (k := 39) dX11_mayFail_54 clX11 (by decide) k_987 (Or.inl rfl) h1 h2 ?_
    refine aw_iload_n 3 dX11_mayFail_57 rfl rfl ?_
    refine aw_iload 4 dX11_mayFail_58 rfl ?_
    obtain ⟨_, _, h1, h2, hw⟩ := hw
    refine aw_iast dX11_mayFail_60 h1 h2 ?_
    generalize a_up _ _ _ = h8 at hw ⊢
    refine aw_sub (lv' := []) [] rfl ?_
    exact abX11_mayFail_61 l G d hG hd _ hw
set_option maxRecDepth 100000 in
theorem abX11_mayFail_14 (l : Launch) (G : aG) (d : Nat) (hG : a_GT G) (hd : 2 ≤ d) {Q : aH → Prop} (v0 : Nat) (v1 : Int32) (v2 : Int32) (v3 : Int32) (v4 : Int32) (s0 : Int32) (h : aH) (hw : wbX11_mayFail_14 v0 v1 v2 v3 v4 s0 h Q) : AW l G d 0 0 mX11_mayFail (qV Q) 14 [(0, .ref v0), (1, .int v1), (2, .int v2), (3, .int v3), (4, .int v4)] [.int s0] h := by
  unfold wbX11_mayFail_14 at hw
  refine aw_istore (lv' := [(5, .int s0), (0, .ref v0), (1, .int v1), (2, .int v2), (3, .int v3), (4, .int v4)]) dX11_mayFail_14 (by decide) rfl ?_
  refine aw_iload_n 4 dX11_mayFail_16 rfl rfl ?_
  refine aw_if_lt (tgt := 28) dX11_mayFail_17 (by decide) (fun z => ?_) (fun z => ?_)
  · have hw := hw.1 z
    refine aw_sub (lv' := [(0, .ref v0), (1, .int v1), (2, .int v2), (3, .int v3), (5, .int s0)]) [1, 2, 3, 4, 0] rfl ?_
    exact abX11_mayFail_28 l G d hG hd _ _ _ _ _ _ hw
  · have hw := hw.2 z
    refine aw_aload_n 1 dX11_mayFail_20 rfl rfl ?_
    obtain ⟨fs10, r9, h1, h2, hw⟩ := hw
    refine aw_getf (k := 39) dX11_mayFail_21 clX11 (by decide) k_987 (Or.inl rfl) h1 h2 ?_
    refine aw_iload_n 4 dX11_mayFail_24 rfl rfl ?_
    refine aw_iload 5 dX11_mayFail_25 rfl ?_
    obtain ⟨_, _, h1, h2, hw⟩ := hw
    refine aw_iast dX11_mayFail_27 h1 h2 ?_
    generalize a_up _ _ _ = h11 at hw ⊢
    refine aw_sub (lv' := [(0, .ref v0), (1, .int v1), (2, .int v2), (3, .int v3), (5, .int s0)]) [1, 2, 3, 4, 0] rfl ?_
    exact abX11_mayFail_28 l G d hG hd _ _ _ _ _ _ hw
set_option maxRecDepth 100000 in
theorem acX11_mayFail (l : Launch) (G : aG) (d : Nat) (hG : a_GT G) (hd : 2 ≤ d) {Q : aH → Prop} {h : aH} {v0 : Nat} {v1 : Int32} {v2 : Int32} {v3 : Int32} {v4 : Int32} (hw : wX11_mayFail h v0 v1 v2 v3 v4 Q) : AC l G d 0 0 mX11_mayFail [.ref v0, .int v1, .int v2, .int v3, .int v4] h (qV Q) := by
  refine ac_of iX11_mayFail (Nat.le_of_ble_eq_true rfl) ?_
  show AW l G d 0 0 mX11_mayFail (qV Q) 0 [(0, .ref v0), (1, .int v1), (2, .int v2), (3, .int v3), (4, .int v4)] [] h
  unfold wX11_mayFail at hw
  refine aw_iload_n 3 dX11_mayFail_0 rfl rfl ?_
  refine aw_if_ge (tgt := 8) dX11_mayFail_1 (by decide) (fun z => ?_) (fun z => ?_)
  · have hw := hw.1 z
    refine aw_aload_n 0 dX11_mayFail_8 rfl rfl ?_
    obtain ⟨fs13, r12, h1, h2, hw⟩ := hw
    refine aw_getf (k := 39) dX11_mayFail_9 clX11 (by decide) k_987 (Or.inl rfl) h1 h2 ?_
    refine aw_iload_n 3 dX11_mayFail_12 rfl rfl ?_
    obtain ⟨_, _, r14, h1, h2, h3, hw⟩ := hw
    refine aw_aI dX11_mayFail_13 h1 h2 h3 ?_
    exact abX11_mayFail_14 l G d hG hd _ _ _ _ _ _ _ hw
  · have hw := hw.2 z
    refine aw_iconst (v := 0) dX11_mayFail_4 (by decide) ?_
    refine aw_goto (tgt := 14) dX11_mayFail_5 (by decide) ?_
    exact abX11_mayFail_14 l G d hG hd _ _ _ _ _ _ _ hw
-- X11_mayAs
def wbX11_mayAs_61 (s0 : Int32) (h : aH) (Q : Int32 → aH → Prop) : Prop :=
  oB s0 ∧ Q s0 h
def wbX11_mayAs_32 (v0 : Nat) (v2 : Int32) (v3 : Int32) (h : aH) (Q : Int32 → aH → Prop) : Prop :=
  rR h v0 9 39 (fun r1 => aI h r1 v2 (fun r3 => wX11_mask h v3 (fun r5 h4 => sI h4 r1 v2 ((r3 &&& (r5 ||| 1))) (fun h6 => rR h6 v0 9 39 (fun r7 => aI h6 r7 v2 (fun r9 => (r9 = 0 → wbX11_mayAs_61 0 h6 Q) ∧ (¬ r9 = 0 → wbX11_mayAs_61 1 h6 Q)))))))
def wX11_mayAs (h : aH) (v0 : Nat) (v1 : Int32) (v2 : Int32) (v3 : Int32) (Q : Int32 → aH → Prop) : Prop :=
  rR h v0 9 39 (fun r10 => aI h r10 v2 (fun r12 => wX11_mask h v3 (fun r14 h13 => (((r12 &&& (r14 ^^^ (-1))) &&& (-2)) = 0 → wbX11_mayAs_32 v0 v2 v3 h13 Q) ∧ (¬ ((r12 &&& (r14 ^^^ (-1))) &&& (-2)) = 0 → isO h13 v0 9 (wX11_mayFail h13 v0 v1 2 v2 (((r12 &&& (r14 ^^^ (-1))) &&& (-2))) (fun h15 => wbX11_mayAs_32 v0 v2 v3 h15 Q))))))
set_option maxRecDepth 100000 in
theorem abX11_mayAs_61 (l : Launch) (G : aG) (d : Nat) (hG : a_GT G) (hd : 3 ≤ d) {Q : Int32 → aH → Prop} (s0 : Int32) (h : aH) (hw : wbX11_mayAs_61 s0 h Q) : AW l G d 0 0 mX11_mayAs (qI Q) 61 [] [.int s0] h := by
  unfold wbX11_mayAs_61 at hw
  exact aw_iret dX11_mayAs_61 rfl (a_nB hw.1) ⟨_, rfl, hw.2⟩
set_option maxRecDepth 100000 in
theorem abX11_mayAs_32 (l : Launch) (G : aG) (d : Nat) (hG : a_GT G) (hd : 3 ≤ d) {Q : Int32 → aH → Prop} (v0 : Nat) (v2 : Int32) (v3 : Int32) (h : aH) (hw : wbX11_mayAs_32 v0 v2 v3 h Q) : AW l G d 0 0 mX11_mayAs (qI Q) 32 [(0, .ref v0), (2, .int v2), (3, .int v3)] [] h := by
  unfold wbX11_mayAs_32 at hw
  refine aw_aload_n 0 dX11_mayAs_32 rfl rfl ?_
  obtain ⟨fs2, r1, h1, h2, hw⟩ := hw
  refine aw_getf (k := 39) dX11_mayAs_33 clX11 (by decide) k_987 (Or.inl rfl) h1 h2 ?_
  refine aw_iload_n 1 dX11_mayAs_36 rfl rfl ?_
  refine aw_dup2 dX11_mayAs_37 rfl rfl ?_
  obtain ⟨_, _, r3, h1, h2, h3, hw⟩ := hw
  refine aw_aI dX11_mayAs_38 h1 h2 h3 ?_
  refine aw_iload_n 2 dX11_mayAs_39 rfl rfl ?_
  refine aw_staticI (As := [.int v3]) (rest := [.int r3, .int v2, .ref r1]) dX11_mayAs_40 (acX11_mask l G (d - 1) hG (by omega) hw) iX11_mask rfl k_1164 k_1165 (by omega) (by decide) (by decide) rfl (Nat.le_of_ble_eq_true rfl) (fun r5 h4 hw => ?_)
  refine aw_iconst (v := 1) dX11_mayAs_43 (by decide) ?_
  refine aw_ior dX11_mayAs_44 ?_
  refine aw_iand dX11_mayAs_45 ?_
  obtain ⟨_, _, h1, h2, hw⟩ := hw
  refine aw_iast dX11_mayAs_46 h1 h2 ?_
  generalize a_up _ _ _ = h6 at hw ⊢
  refine aw_aload_n 0 dX11_mayAs_47 rfl rfl ?_
  obtain ⟨fs8, r7, h1, h2, hw⟩ := hw
  refine aw_getf (k := 39) dX11_mayAs_48 clX11 (by decide) k_987 (Or.inl rfl) h1 h2 ?_
  refine aw_iload_n 1 dX11_mayAs_51 rfl rfl ?_
  obtain ⟨_, _, r9, h1, h2, h3, hw⟩ := hw
  refine aw_aI dX11_mayAs_52 h1 h2 h3 ?_
  refine aw_if_eq (tgt := 60) dX11_mayAs_53 (by decide) (fun z => ?_) (fun z => ?_)
  · have hw := hw.1 z
    refine aw_iconst (v := 0) dX11_mayAs_60 (by decide) ?_
    refine aw_sub (lv' := []) [] rfl ?_
    exact abX11_mayAs_61 l G d hG hd _ _ hw
  · have hw := hw.2 z
    refine aw_iconst (v := 1) dX11_mayAs_56 (by decide) ?_
    refine aw_goto (tgt := 61) dX11_mayAs_57 (by decide) ?_
    refine aw_sub (lv' := []) [] rfl ?_
    exact abX11_mayAs_61 l G d hG hd _ _ hw
set_option maxRecDepth 100000 in
theorem acX11_mayAs (l : Launch) (G : aG) (d : Nat) (hG : a_GT G) (hd : 3 ≤ d) {Q : Int32 → aH → Prop} {h : aH} {v0 : Nat} {v1 : Int32} {v2 : Int32} {v3 : Int32} (hw : wX11_mayAs h v0 v1 v2 v3 Q) : AC l G d 0 0 mX11_mayAs [.ref v0, .int v1, .int v2, .int v3] h (qI Q) := by
  refine ac_of iX11_mayAs (Nat.le_of_ble_eq_true rfl) ?_
  show AW l G d 0 0 mX11_mayAs (qI Q) 0 [(0, .ref v0), (1, .int v1), (2, .int v2), (3, .int v3)] [] h
  unfold wX11_mayAs at hw
  refine aw_aload_n 0 dX11_mayAs_0 rfl rfl ?_
  obtain ⟨fs11, r10, h1, h2, hw⟩ := hw
  refine aw_getf (k := 39) dX11_mayAs_1 clX11 (by decide) k_987 (Or.inl rfl) h1 h2 ?_
  refine aw_iload_n 2 dX11_mayAs_4 rfl rfl ?_
  obtain ⟨_, _, r12, h1, h2, h3, hw⟩ := hw
  refine aw_aI dX11_mayAs_5 h1 h2 h3 ?_
  refine aw_iload_n 3 dX11_mayAs_6 rfl rfl ?_
  refine aw_staticI (As := [.int v3]) (rest := [.int r12]) dX11_mayAs_7 (acX11_mask l G (d - 1) hG (by omega) hw) iX11_mask rfl k_1164 k_1165 (by omega) (by decide) (by decide) rfl (Nat.le_of_ble_eq_true rfl) (fun r14 h13 hw => ?_)
  refine aw_iconst (v := (-1)) dX11_mayAs_10 (by decide) ?_
  refine aw_ixor dX11_mayAs_11 ?_
  refine aw_iand dX11_mayAs_12 ?_
  refine aw_bipush (v := (-2)) dX11_mayAs_13 (by decide) ?_
  refine aw_iand dX11_mayAs_15 ?_
  refine aw_istore (lv' := [(4, .int ((r12 &&& (r14 ^^^ (-1))) &&& (-2))), (0, .ref v0), (1, .int v1), (2, .int v2), (3, .int v3)]) dX11_mayAs_16 (by decide) rfl ?_
  refine aw_iload 0 dX11_mayAs_18 rfl ?_
  refine aw_if_eq (tgt := 32) dX11_mayAs_20 (by decide) (fun z => ?_) (fun z => ?_)
  · have hw := hw.1 z
    refine aw_sub (lv' := [(0, .ref v0), (2, .int v2), (3, .int v3)]) [1, 3, 4] rfl ?_
    exact abX11_mayAs_32 l G d hG hd _ _ _ _ hw
  · have hw := hw.2 z
    refine aw_aload_n 1 dX11_mayAs_23 rfl rfl ?_
    refine aw_iload_n 2 dX11_mayAs_24 rfl rfl ?_
    refine aw_iconst (v := 2) dX11_mayAs_25 (by decide) ?_
    refine aw_iload_n 3 dX11_mayAs_26 rfl rfl ?_
    refine aw_iload 0 dX11_mayAs_27 rfl ?_
    obtain ⟨_, h1, hw⟩ := hw
    refine aw_virtV (As := [.int v1, .int 2, .int v2, .int ((r12 &&& (r14 ^^^ (-1))) &&& (-2))]) (rest := []) dX11_mayAs_29 (acX11_mayFail l G (d - 1) hG (by omega) hw) iX11_mayFail rfl k_1310 k_1312 k_79 rfl h1 (by omega) (by decide) (by decide) rfl (Nat.le_of_ble_eq_true rfl) (fun h15 hw => ?_)
    refine aw_sub (lv' := [(0, .ref v0), (2, .int v2), (3, .int v3)]) [1, 3, 4] rfl ?_
    exact abX11_mayAs_32 l G d hG hd _ _ _ _ hw
-- X11_mayRow
def wbX11_mayRow_45 (s0 : Int32) (h : aH) (Q : Int32 → aH → Prop) : Prop :=
  oB s0 ∧ Q s0 h
def wbX11_mayRow_20 (v0 : Nat) (v2 : Int32) (h : aH) (Q : Int32 → aH → Prop) : Prop :=
  rR h v0 9 39 (fun r1 => aI h r1 v2 (fun r3 => sI h r1 v2 ((r3 &&& (-2))) (fun h4 => rR h4 v0 9 39 (fun r5 => aI h4 r5 v2 (fun r7 => (r7 = 0 → wbX11_mayRow_45 0 h4 Q) ∧ (¬ r7 = 0 → wbX11_mayRow_45 1 h4 Q))))))
def wX11_mayRow (h : aH) (v0 : Nat) (v1 : Int32) (v2 : Int32) (Q : Int32 → aH → Prop) : Prop :=
  rR h v0 9 39 (fun r8 => aI h r8 v2 (fun r10 => (¬ (r10 &&& 1) = 1 → wbX11_mayRow_20 v0 v2 h Q) ∧ ((r10 &&& 1) = 1 → isO h v0 9 (wX11_mayFail h v0 v1 1 v2 1 (fun h11 => wbX11_mayRow_20 v0 v2 h11 Q)))))
set_option maxRecDepth 100000 in
theorem abX11_mayRow_45 (l : Launch) (G : aG) (d : Nat) (hG : a_GT G) (hd : 3 ≤ d) {Q : Int32 → aH → Prop} (s0 : Int32) (h : aH) (hw : wbX11_mayRow_45 s0 h Q) : AW l G d 0 0 mX11_mayRow (qI Q) 45 [] [.int s0] h := by
  unfold wbX11_mayRow_45 at hw
  exact aw_iret dX11_mayRow_45 rfl (a_nB hw.1) ⟨_, rfl, hw.2⟩
set_option maxRecDepth 100000 in
theorem abX11_mayRow_20 (l : Launch) (G : aG) (d : Nat) (hG : a_GT G) (hd : 3 ≤ d) {Q : Int32 → aH → Prop} (v0 : Nat) (v2 : Int32) (h : aH) (hw : wbX11_mayRow_20 v0 v2 h Q) : AW l G d 0 0 mX11_mayRow (qI Q) 20 [(0, .ref v0), (2, .int v2)] [] h := by
  unfold wbX11_mayRow_20 at hw
  refine aw_aload_n 0 dX11_mayRow_20 rfl rfl ?_
  obtain ⟨fs2, r1, h1, h2, hw⟩ := hw
  refine aw_getf (k := 39) dX11_mayRow_21 clX11 (by decide) k_987 (Or.inl rfl) h1 h2 ?_
  refine aw_iload_n 1 dX11_mayRow_24 rfl rfl ?_
  refine aw_dup2 dX11_mayRow_25 rfl rfl ?_
  obtain ⟨_, _, r3, h1, h2, h3, hw⟩ := hw
  refine aw_aI dX11_mayRow_26 h1 h2 h3 ?_
  refine aw_bipush (v := (-2)) dX11_mayRow_27 (by decide) ?_
  refine aw_iand dX11_mayRow_29 ?_
  obtain ⟨_, _, h1, h2, hw⟩ := hw
  refine aw_iast dX11_mayRow_30 h1 h2 ?_
  generalize a_up _ _ _ = h4 at hw ⊢
  refine aw_aload_n 0 dX11_mayRow_31 rfl rfl ?_
  obtain ⟨fs6, r5, h1, h2, hw⟩ := hw
  refine aw_getf (k := 39) dX11_mayRow_32 clX11 (by decide) k_987 (Or.inl rfl) h1 h2 ?_
  refine aw_iload_n 1 dX11_mayRow_35 rfl rfl ?_
  obtain ⟨_, _, r7, h1, h2, h3, hw⟩ := hw
  refine aw_aI dX11_mayRow_36 h1 h2 h3 ?_
  refine aw_if_eq (tgt := 44) dX11_mayRow_37 (by decide) (fun z => ?_) (fun z => ?_)
  · have hw := hw.1 z
    refine aw_iconst (v := 0) dX11_mayRow_44 (by decide) ?_
    refine aw_sub (lv' := []) [] rfl ?_
    exact abX11_mayRow_45 l G d hG hd _ _ hw
  · have hw := hw.2 z
    refine aw_iconst (v := 1) dX11_mayRow_40 (by decide) ?_
    refine aw_goto (tgt := 45) dX11_mayRow_41 (by decide) ?_
    refine aw_sub (lv' := []) [] rfl ?_
    exact abX11_mayRow_45 l G d hG hd _ _ hw
set_option maxRecDepth 100000 in
theorem acX11_mayRow (l : Launch) (G : aG) (d : Nat) (hG : a_GT G) (hd : 3 ≤ d) {Q : Int32 → aH → Prop} {h : aH} {v0 : Nat} {v1 : Int32} {v2 : Int32} (hw : wX11_mayRow h v0 v1 v2 Q) : AC l G d 0 0 mX11_mayRow [.ref v0, .int v1, .int v2] h (qI Q) := by
  refine ac_of iX11_mayRow (Nat.le_of_ble_eq_true rfl) ?_
  show AW l G d 0 0 mX11_mayRow (qI Q) 0 [(0, .ref v0), (1, .int v1), (2, .int v2)] [] h
  unfold wX11_mayRow at hw
  refine aw_aload_n 0 dX11_mayRow_0 rfl rfl ?_
  obtain ⟨fs9, r8, h1, h2, hw⟩ := hw
  refine aw_getf (k := 39) dX11_mayRow_1 clX11 (by decide) k_987 (Or.inl rfl) h1 h2 ?_
  refine aw_iload_n 2 dX11_mayRow_4 rfl rfl ?_
  obtain ⟨_, _, r10, h1, h2, h3, hw⟩ := hw
  refine aw_aI dX11_mayRow_5 h1 h2 h3 ?_
  refine aw_iconst (v := 1) dX11_mayRow_6 (by decide) ?_
  refine aw_iand dX11_mayRow_7 ?_
  refine aw_iconst (v := 1) dX11_mayRow_8 (by decide) ?_
  refine aw_icmp_ne (tgt := 20) dX11_mayRow_9 (by decide) (fun z => ?_) (fun z => ?_)
  · have hw := hw.1 z
    refine aw_sub (lv' := [(0, .ref v0), (2, .int v2)]) [0, 2] rfl ?_
    exact abX11_mayRow_20 l G d hG hd _ _ _ hw
  · have hw := hw.2 z
    refine aw_aload_n 0 dX11_mayRow_12 rfl rfl ?_
    refine aw_iload_n 1 dX11_mayRow_13 rfl rfl ?_
    refine aw_iconst (v := 1) dX11_mayRow_14 (by decide) ?_
    refine aw_iload_n 2 dX11_mayRow_15 rfl rfl ?_
    refine aw_iconst (v := 1) dX11_mayRow_16 (by decide) ?_
    obtain ⟨_, h1, hw⟩ := hw
    refine aw_virtV (As := [.int v1, .int 1, .int v2, .int 1]) (rest := []) dX11_mayRow_17 (acX11_mayFail l G (d - 1) hG (by omega) hw) iX11_mayFail rfl k_1310 k_1312 k_79 rfl h1 (by omega) (by decide) (by decide) rfl (Nat.le_of_ble_eq_true rfl) (fun h11 hw => ?_)
    refine aw_sub (lv' := [(0, .ref v0), (2, .int v2)]) [0, 2] rfl ?_
    exact abX11_mayRow_20 l G d hG hd _ _ _ hw
-- X11_mayItem
def wbX11_mayItem_39 (v4 : Int32) (h : aH) (Q : Int32 → aH → Prop) : Prop :=
  oB v4 ∧ Q v4 h
def wbX11_mayItem_24 (v0 : Nat) (v1 : Int32) (s0 : Int32) (h : aH) (Q : Int32 → aH → Prop) : Prop :=
  (s0 = 0 → wbX11_mayItem_39 s0 h Q) ∧ (¬ s0 = 0 → isO h v0 9 (wX11_mayFail h v0 v1 3 ((-1)) 0 (fun h1 => wbX11_mayItem_39 s0 h1 Q)))
def wbX11_mayItem_23 (v0 : Nat) (v1 : Int32) (h : aH) (Q : Int32 → aH → Prop) : Prop :=
  wbX11_mayItem_24 v0 v1 0 h Q
def wX11_mayItem (h : aH) (v0 : Nat) (v1 : Int32) (v2 : Int32) (v3 : Int32) (Q : Int32 → aH → Prop) : Prop :=
  isO h v0 9 (wX11_mayAs h v0 v1 v2 v3 (fun r3 h2 => (r3 = 0 → wbX11_mayItem_23 v0 v1 h2 Q) ∧ (¬ r3 = 0 → isO h2 v0 9 (wX11_mayRow h2 v0 v1 v2 (fun r5 h4 => (r5 = 0 → wbX11_mayItem_23 v0 v1 h4 Q) ∧ (¬ r5 = 0 → wbX11_mayItem_24 v0 v1 1 h4 Q))))))
set_option maxRecDepth 100000 in
theorem abX11_mayItem_39 (l : Launch) (G : aG) (d : Nat) (hG : a_GT G) (hd : 4 ≤ d) {Q : Int32 → aH → Prop} (v4 : Int32) (h : aH) (hw : wbX11_mayItem_39 v4 h Q) : AW l G d 0 0 mX11_mayItem (qI Q) 39 [(4, .int v4)] [] h := by
  unfold wbX11_mayItem_39 at hw
  refine aw_iload 0 dX11_mayItem_39 rfl ?_
  exact aw_iret dX11_mayItem_41 rfl (a_nB hw.1) ⟨_, rfl, hw.2⟩
set_option maxRecDepth 100000 in
theorem abX11_mayItem_24 (l : Launch) (G : aG) (d : Nat) (hG : a_GT G) (hd : 4 ≤ d) {Q : Int32 → aH → Prop} (v0 : Nat) (v1 : Int32) (s0 : Int32) (h : aH) (hw : wbX11_mayItem_24 v0 v1 s0 h Q) : AW l G d 0 0 mX11_mayItem (qI Q) 24 [(0, .ref v0), (1, .int v1)] [.int s0] h := by
  unfold wbX11_mayItem_24 at hw
  refine aw_istore (lv' := [(4, .int s0), (0, .ref v0), (1, .int v1)]) dX11_mayItem_24 (by decide) rfl ?_
  refine aw_iload 0 dX11_mayItem_26 rfl ?_
  refine aw_if_eq (tgt := 39) dX11_mayItem_28 (by decide) (fun z => ?_) (fun z => ?_)
  · have hw := hw.1 z
    refine aw_sub (lv' := [(4, .int s0)]) [0] rfl ?_
    exact abX11_mayItem_39 l G d hG hd _ _ hw
  · have hw := hw.2 z
    refine aw_aload_n 1 dX11_mayItem_31 rfl rfl ?_
    refine aw_iload_n 2 dX11_mayItem_32 rfl rfl ?_
    refine aw_iconst (v := 3) dX11_mayItem_33 (by decide) ?_
    refine aw_iconst (v := (-1)) dX11_mayItem_34 (by decide) ?_
    refine aw_iconst (v := 0) dX11_mayItem_35 (by decide) ?_
    obtain ⟨_, h1, hw⟩ := hw
    refine aw_virtV (As := [.int v1, .int 3, .int (-1), .int 0]) (rest := []) dX11_mayItem_36 (acX11_mayFail l G (d - 1) hG (by omega) hw) iX11_mayFail rfl k_1310 k_1312 k_79 rfl h1 (by omega) (by decide) (by decide) rfl (Nat.le_of_ble_eq_true rfl) (fun h1 hw => ?_)
    refine aw_sub (lv' := [(4, .int s0)]) [0] rfl ?_
    exact abX11_mayItem_39 l G d hG hd _ _ hw
set_option maxRecDepth 100000 in
theorem abX11_mayItem_23 (l : Launch) (G : aG) (d : Nat) (hG : a_GT G) (hd : 4 ≤ d) {Q : Int32 → aH → Prop} (v0 : Nat) (v1 : Int32) (h : aH) (hw : wbX11_mayItem_23 v0 v1 h Q) : AW l G d 0 0 mX11_mayItem (qI Q) 23 [(0, .ref v0), (1, .int v1)] [] h := by
  unfold wbX11_mayItem_23 at hw
  refine aw_iconst (v := 0) dX11_mayItem_23 (by decide) ?_
  exact abX11_mayItem_24 l G d hG hd _ _ _ _ hw
set_option maxRecDepth 100000 in
theorem acX11_mayItem (l : Launch) (G : aG) (d : Nat) (hG : a_GT G) (hd : 4 ≤ d) {Q : Int32 → aH → Prop} {h : aH} {v0 : Nat} {v1 : Int32} {v2 : Int32} {v3 : Int32} (hw : wX11_mayItem h v0 v1 v2 v3 Q) : AC l G d 0 0 mX11_mayItem [.ref v0, .int v1, .int v2, .int v3] h (qI Q) := by
  refine ac_of iX11_mayItem (Nat.le_of_ble_eq_true rfl) ?_
  show AW l G d 0 0 mX11_mayItem (qI Q) 0 [(0, .ref v0), (1, .int v1), (2, .int v2), (3, .int v3)] [] h
  unfold wX11_mayItem at hw
  refine aw_aload_n 0 dX11_mayItem_0 rfl rfl ?_
  refine aw_iload_n 1 dX11_mayItem_1 rfl rfl ?_
  refine aw_iload_n 2 dX11_mayItem_2 rfl rfl ?_
  refine aw_iload_n 3 dX11_mayItem_3 rfl rfl ?_
  obtain ⟨_, h1, hw⟩ := hw
  refine aw_virtI (As := [.int v1, .int v2, .int v3]) (rest := []) dX11_mayItem_4 (acX11_mayAs l G (d - 1) hG (by omega) hw) iX11_mayAs rfl k_1314 k_1316 k_80 rfl h1 (by omega) (by decide) (by decide) rfl (Nat.le_of_ble_eq_true rfl) (fun r3 h2 hw => ?_)
  refine aw_if_eq (tgt := 23) dX11_mayItem_7 (by decide) (fun z => ?_) (fun z => ?_)
  · have hw := hw.1 z
    refine aw_sub (lv' := [(0, .ref v0), (1, .int v1)]) [0, 1] rfl ?_
    exact abX11_mayItem_23 l G d hG hd _ _ _ hw
  · have hw := hw.2 z
    refine aw_aload_n 0 dX11_mayItem_10 rfl rfl ?_
    refine aw_iload_n 1 dX11_mayItem_11 rfl rfl ?_
    refine aw_iload_n 2 dX11_mayItem_12 rfl rfl ?_
    obtain ⟨_, h1, hw⟩ := hw
    refine aw_virtI (As := [.int v1, .int v2]) (rest := []) dX11_mayItem_13 (acX11_mayRow l G (d - 1) hG (by omega) hw) iX11_mayRow rfl k_1322 k_1324 k_82 rfl h1 (by omega) (by decide) (by decide) rfl (Nat.le_of_ble_eq_true rfl) (fun r5 h4 hw => ?_)
    refine aw_if_eq (tgt := 23) dX11_mayItem_16 (by decide) (fun z => ?_) (fun z => ?_)
    · have hw := hw.1 z
      refine aw_sub (lv' := [(0, .ref v0), (1, .int v1)]) [0, 1] rfl ?_
      exact abX11_mayItem_23 l G d hG hd _ _ _ hw
    · have hw := hw.2 z
      refine aw_iconst (v := 1) dX11_mayItem_19 (by decide) ?_
      refine aw_goto (tgt := 24) dX11_mayItem_20 (by decide) ?_
      refine aw_sub (lv' := [(0, .ref v0), (1, .int v1)]) [0, 1] rfl ?_
      exact abX11_mayItem_24 l G d hG hd _ _ _ _ hw
-- X11_mayNew
def wX11_mayNew (h : aH) (v0 : Nat) (v1 : Int32) (v2 : Int32) (v3 : Int32) (v4 : Int32) (Q : Int32 → aH → Prop) : Prop :=
  (v2 = 0 → isO h v0 9 (wX11_mayFail h v0 v1 8 ((-1)) 0 (fun h1 => rR h1 v0 9 39 (fun r2 => sI h1 r2 v3 v4 (fun h4 => oB 1 ∧ Q 1 h4))))) ∧ (¬ v2 = 0 → isO h v0 9 (wX11_mayFail h v0 v1 4 ((-1)) 0 (fun h5 => oB 0 ∧ Q 0 h5)))
set_option maxRecDepth 100000 in
theorem acX11_mayNew (l : Launch) (G : aG) (d : Nat) (hG : a_GT G) (hd : 3 ≤ d) {Q : Int32 → aH → Prop} {h : aH} {v0 : Nat} {v1 : Int32} {v2 : Int32} {v3 : Int32} {v4 : Int32} (hw : wX11_mayNew h v0 v1 v2 v3 v4 Q) : AC l G d 0 0 mX11_mayNew [.ref v0, .int v1, .int v2, .int v3, .int v4] h (qI Q) := by
  refine ac_of iX11_mayNew (Nat.le_of_ble_eq_true rfl) ?_
  show AW l G d 0 0 mX11_mayNew (qI Q) 0 [(0, .ref v0), (1, .int v1), (2, .int v2), (3, .int v3), (4, .int v4)] [] h
  unfold wX11_mayNew at hw
  refine aw_iload_n 2 dX11_mayNew_0 rfl rfl ?_
  refine aw_if_eq (tgt := 14) dX11_mayNew_1 (by decide) (fun z => ?_) (fun z => ?_)
  · have hw := hw.1 z
    refine aw_aload_n 0 dX11_mayNew_14 rfl rfl ?_
    refine aw_iload_n 1 dX11_mayNew_15 rfl rfl ?_
    refine aw_bipush (v := 8) dX11_mayNew_16 (by decide) ?_
    refine aw_iconst (v := (-1)) dX11_mayNew_18 (by decide) ?_
    refine aw_iconst (v := 0) dX11_mayNew_19 (by decide) ?_
    obtain ⟨_, h1, hw⟩ := hw
    refine aw_virtV (As := [.int v1, .int 8, .int (-1), .int 0]) (rest := []) dX11_mayNew_20 (acX11_mayFail l G (d - 1) hG (by omega) hw) iX11_mayFail rfl k_1310 k_1312 k_79 rfl h1 (by omega) (by decide) (by decide) rfl (Nat.le_of_ble_eq_true rfl) (fun h1 hw => ?_)
    refine aw_aload_n 0 dX11_mayNew_23 rfl rfl ?_
    obtain ⟨fs3, r2, h1, h2, hw⟩ := hw
    refine aw_getf (k := 39) dX11_mayNew_24 clX11 (by decide) k_987 (Or.inl rfl) h1 h2 ?_
    refine aw_iload_n 3 dX11_mayNew_27 rfl rfl ?_
    refine aw_iload 4 dX11_mayNew_28 rfl ?_
    obtain ⟨_, _, h1, h2, hw⟩ := hw
    refine aw_iast dX11_mayNew_30 h1 h2 ?_
    generalize a_up _ _ _ = h4 at hw ⊢
    refine aw_iconst (v := 1) dX11_mayNew_31 (by decide) ?_
    exact aw_iret dX11_mayNew_32 rfl (a_nB hw.1) ⟨_, rfl, hw.2⟩
  · have hw := hw.2 z
    refine aw_aload_n 0 dX11_mayNew_4 rfl rfl ?_
    refine aw_iload_n 1 dX11_mayNew_5 rfl rfl ?_
    refine aw_iconst (v := 4) dX11_mayNew_6 (by decide) ?_
    refine aw_iconst (v := (-1)) dX11_mayNew_7 (by decide) ?_
    refine aw_iconst (v := 0) dX11_mayNew_8 (by decide) ?_
    obtain ⟨_, h1, hw⟩ := hw
    refine aw_virtV (As := [.int v1, .int 4, .int (-1), .int 0]) (rest := []) dX11_mayNew_9 (acX11_mayFail l G (d - 1) hG (by omega) hw) iX11_mayFail rfl k_1310 k_1312 k_79 rfl h1 (by omega) (by decide) (by decide) rfl (Nat.le_of_ble_eq_true rfl) (fun h5 hw => ?_)
    refine aw_iconst (v := 0) dX11_mayNew_12 (by decide) ?_
    exact aw_iret dX11_mayNew_13 rfl (a_nB hw.1) ⟨_, rfl, hw.2⟩
-- X11_mayLay
def wbX11_mayLay_51 (h : aH) (Q : Int32 → aH → Prop) : Prop :=
  oB 0 ∧ Q 0 h
def wbX11_mayLay_192 (s0 : Int32) (h : aH) (Q : Int32 → aH → Prop) : Prop :=
  oB s0 ∧ Q s0 h
def wbX11_mayLay_191 (h : aH) (Q : Int32 → aH → Prop) : Prop :=
  wbX11_mayLay_192 0 h Q
def wbX11_mayLay_168 (v0 : Nat) (v2 : Int32) (v4 : Int32) (h : aH) (Q : Int32 → aH → Prop) : Prop :=
  rR h v0 9 39 (fun r1 => aI h r1 v2 (fun r3 => (r3 = 0 → wbX11_mayLay_191  h Q) ∧ (¬ r3 = 0 → rR h v0 9 39 (fun r4 => aI h r4 v4 (fun r6 => (r6 = 0 → wbX11_mayLay_191  h Q) ∧ (¬ r6 = 0 → wbX11_mayLay_192 1 h Q))))))
def wbX11_mayLay_167 (v0 : Nat) (v2 : Int32) (v4 : Int32) (s0 : Int32) (s1 : Int32) (s2 : Nat) (h : aH) (Q : Int32 → aH → Prop) : Prop :=
  sI h s2 s1 s0 (fun h7 => wbX11_mayLay_168 v0 v2 v4 h7 Q)
def wbX11_mayLay_136 (v0 : Nat) (v2 : Int32) (v4 : Int32) (v5 : Int32) (v6 : Int32) (s0 : Int32) (s1 : Int32) (s2 : Nat) (h : aH) (Q : Int32 → aH → Prop) : Prop :=
  sI h s2 s1 s0 (fun h8 => rR h8 v0 9 39 (fun r9 => (¬ v5 = 128 → rR h8 v0 9 39 (fun r11 => aI h8 r11 v4 (fun r13 => wbX11_mayLay_167 v0 v2 v4 r13 v4 r9 h8 Q))) ∧ (v5 = 128 → wbX11_mayLay_167 v0 v2 v4 ((v6 &&& (-257))) v4 r9 h8 Q)))
def wbX11_mayLay_36 (v0 : Nat) (v1 : Int32) (v2 : Int32) (v4 : Int32) (s0 : Int32) (s1 : Int32) (s2 : Int32) (s3 : Nat) (h : aH) (Q : Int32 → aH → Prop) : Prop :=
  isO h s3 9 (wX11_mayAs h s3 s2 s1 s0 (fun r15 h14 => (r15 = 0 → wbX11_mayLay_51 h14 Q) ∧ (¬ r15 = 0 → isO h14 v0 9 (wX11_mayRow h14 v0 v1 v2 (fun r17 h16 => (¬ r17 = 0 → isO h16 v0 9 (wX11_mayFail h16 v0 v1 3 ((-1)) 0 (fun h18 => rR h18 v0 9 39 (fun r19 => aI h18 r19 v2 (fun r21 => rR h18 v0 9 39 (fun r22 => aI h18 r22 v4 (fun r24 => (¬ ((r21 >>> (7 &&& 31)) &&& 1) = 1 → wbX11_mayLay_168 v0 v2 v4 h18 Q) ∧ (((r21 >>> (7 &&& 31)) &&& 1) = 1 → (¬ ((r24 >>> (8 &&& 31)) &&& 1) = 1 → wbX11_mayLay_168 v0 v2 v4 h18 Q) ∧ (((r24 >>> (8 &&& 31)) &&& 1) = 1 → isO h18 v0 9 (wX11_mayFail h18 v0 v1 5 ((-1)) 0 (fun h25 => rR h25 v0 9 39 (fun r26 => (¬ r24 = 256 → rR h25 v0 9 39 (fun r28 => aI h25 r28 v2 (fun r30 => wbX11_mayLay_136 v0 v2 v4 r21 r24 r30 v2 r26 h25 Q))) ∧ (r24 = 256 → wbX11_mayLay_136 v0 v2 v4 r21 r24 ((r21 &&& (-129))) v2 r26 h25 Q))))))))))))) ∧ (r17 = 0 → wbX11_mayLay_51 h16 Q))))))
def wX11_mayLay (h : aH) (v0 : Nat) (v1 : Int32) (v2 : Int32) (v3 : Int32) (v4 : Int32) (Q : Int32 → aH → Prop) : Prop :=
  isO h v0 9 (wX11_mayAs h v0 v1 v2 v3 (fun r32 h31 => (r32 = 0 → wbX11_mayLay_51 h31 Q) ∧ (¬ r32 = 0 → (¬ v3 = 5 → (¬ v3 = 6 → wbX11_mayLay_36 v0 v1 v2 v4 9 v4 v1 v0 h31 Q) ∧ (v3 = 6 → wbX11_mayLay_36 v0 v1 v2 v4 8 v4 v1 v0 h31 Q)) ∧ (v3 = 5 → wbX11_mayLay_36 v0 v1 v2 v4 1 v4 v1 v0 h31 Q))))
set_option maxRecDepth 100000 in
theorem abX11_mayLay_51 (l : Launch) (G : aG) (d : Nat) (hG : a_GT G) (hd : 4 ≤ d) {Q : Int32 → aH → Prop} (h : aH) (hw : wbX11_mayLay_51  h Q) : AW l G d 0 0 mX11_mayLay (qI Q) 51 [] [] h := by
  unfold wbX11_mayLay_51 at hw
  refine aw_iconst (v := 0) dX11_mayLay_51 (by decide) ?_
  exact aw_iret dX11_mayLay_52 rfl (a_nB hw.1) ⟨_, rfl, hw.2⟩
set_option maxRecDepth 100000 in
theorem abX11_mayLay_192 (l : Launch) (G : aG) (d : Nat) (hG : a_GT G) (hd : 4 ≤ d) {Q : Int32 → aH → Prop} (s0 : Int32) (h : aH) (hw : wbX11_mayLay_192 s0 h Q) : AW l G d 0 0 mX11_mayLay (qI Q) 192 [] [.int s0] h := by
  unfold wbX11_mayLay_192 at hw
  exact aw_iret dX11_mayLay_192 rfl (a_nB hw.1) ⟨_, rfl, hw.2⟩
set_option maxRecDepth 100000 in
theorem abX11_mayLay_191 (l : Launch) (G : aG) (d : Nat) (hG : a_GT G) (hd : 4 ≤ d) {Q : Int32 → aH → Prop} (h : aH) (hw : wbX11_mayLay_191  h Q) : AW l G d 0 0 mX11_mayLay (qI Q) 191 [] [] h := by
  unfold wbX11_mayLay_191 at hw
  refine aw_iconst (v := 0) dX11_mayLay_191 (by decide) ?_
  exact abX11_mayLay_192 l G d hG hd _ _ hw
set_option maxRecDepth 100000 in
theorem abX11_mayLay_168 (l : Launch) (G : aG) (d : Nat) (hG : a_GT G) (hd : 4 ≤ d) {Q : Int32 → aH → Prop} (v0 : Nat) (v2 : Int32) (v4 : Int32) (h : aH) (hw : wbX11_mayLay_168 v0 v2 v4 h Q) : AW l G d 0 0 mX11_mayLay (qI Q) 168 [(0, .ref v0), (2, .int v2), (4, .int v4)] [] h := by
  unfold wbX11_mayLay_168 at hw
  refine aw_aload_n 0 dX11_mayLay_168 rfl rfl ?_
  obtain ⟨fs2, r1, h1, h2, hw⟩ := hw
  refine aw_getf (k := 39) dX11_mayLay_169 clX11 (by decide) k_987 (Or.inl rfl) h1 h2 ?_
  refine aw_iload_n 1 dX11_mayLay_172 rfl rfl ?_
  obtain ⟨_, _, r3, h1, h2, h3, hw⟩ := hw
  refine aw_aI dX11_mayLay_173 h1 h2 h3 ?_
  refine aw_if_eq (tgt := 191) dX11_mayLay_174 (by decide) (fun z => ?_) (fun z => ?_)
  · have hw := hw.1 z
    refine aw_sub (lv' := []) [] rfl ?_
    exact abX11_mayLay_191 l G d hG hd _ hw
  · have hw := hw.2 z
    refine aw_aload_n 0 dX11_mayLay_177 rfl rfl ?_
    obtain ⟨fs5, r4, h1, h2, hw⟩ := hw
    refine aw_getf (k := 39) dX11_mayLay_178 clX11 (by decide) k_987 (Or.inl rfl) h1 h2 ?_
    refine aw_iload 2 dX11_mayLay_181 rfl ?_
    obtain ⟨_, _, r6, h1, h2, h3, hw⟩ := hw
    refine aw_aI dX11_mayLay_183 h1 h2 h3 ?_
    refine aw_if_eq (tgt := 191) dX11_mayLay_184 (by decide) (fun z => ?_) (fun z => ?_)
    · have hw := hw.1 z
      refine aw_sub (lv' := []) [] rfl ?_
      exact abX11_mayLay_191 l G d hG hd _ hw
    · have hw := hw.2 z
      refine aw_iconst (v := 1) dX11_mayLay_187 (by decide) ?_
      refine aw_goto (tgt := 192) dX11_mayLay_188 (by decide) ?_
      refine aw_sub (lv' := []) [] rfl ?_
      exact abX11_mayLay_192 l G d hG hd _ _ hw
set_option maxRecDepth 100000 in
theorem abX11_mayLay_167 (l : Launch) (G : aG) (d : Nat) (hG : a_GT G) (hd : 4 ≤ d) {Q : Int32 → aH → Prop} (v0 : Nat) (v2 : Int32) (v4 : Int32) (s0 : Int32) (s1 : Int32) (s2 : Nat) (h : aH) (hw : wbX11_mayLay_167 v0 v2 v4 s0 s1 s2 h Q) : AW l G d 0 0 mX11_mayLay (qI Q) 167 [(0, .ref v0), (2, .int v2), (4, .int v4)] [.int s0, .int s1, .ref s2] h := by
  unfold wbX11_mayLay_167 at hw
  obtain ⟨_, _, h1, h2, hw⟩ := hw
  refine aw_iast dX11_mayLay_167 h1 h2 ?_
  generalize a_up _ _ _ = h7 at hw ⊢
  exact abX11_mayLay_168 l G d hG hd _ _ _ _ hw
set_option maxRecDepth 100000 in
theorem abX11_mayLay_136 (l : Launch) (G : aG) (d : Nat) (hG : a_GT G) (hd : 4 ≤ d) {Q : Int32 → aH → Prop} (v0 : Nat) (v2 : Int32) (v4 : Int32) (v5 : Int32) (v6 : Int32) (s0 : Int32) (s1 : Int32) (s2 : Nat) (h : aH) (hw : wbX11_mayLay_136 v0 v2 v4 v5 v6 s0 s1 s2 h Q) : AW l G d 0 0 mX11_mayLay (qI Q) 136 [(0, .ref v0), (2, .int v2), (4, .int v4), (5, .int v5), (6, .int v6)] [.int s0, .int s1, .ref s2] h := by
  unfold wbX11_mayLay_136 at hw
  obtain ⟨_, _, h1, h2, hw⟩ := hw
  refine aw_iast dX11_mayLay_136 h1 h2 ?_
  generalize a_up _ _ _ = h8 at hw ⊢
  refine aw_aload_n 0 dX11_mayLay_137 rfl rfl ?_
  obtain ⟨fs10, r9, h1, h2, hw⟩ := hw
  refine aw_getf (k := 39) dX11_mayLay_138 clX11 (by decide) k_987 (Or.inl rfl) h1 h2 ?_
  refine aw_iload 2 dX11_mayLay_141 rfl ?_
  refine aw_iload 3 dX11_mayLay_143 rfl ?_
  refine aw_sipush (v := 128) dX11_mayLay_145 (by decide) ?_
  refine aw_icmp_ne (tgt := 160) dX11_mayLay_148 (by decide) (fun z => ?_) (fun z => ?_)
  · have hw := hw.1 z
    refine aw_aload_n 0 dX11_mayLay_160 rfl rfl ?_
    obtain ⟨fs12, r11, h1, h2, hw⟩ := hw
    refine aw_getf (k := 39) dX11_mayLay_161 clX11 (by decide) k_987 (Or.inl rfl) h1 h2 ?_
    refine aw_iload 2 dX11_mayLay_164 rfl ?_
    obtain ⟨_, _, r13, h1, h2, h3, hw⟩ := hw
    refine aw_aI dX11_mayLay_166 h1 h2 h3 ?_
    refine aw_sub (lv' := [(0, .ref v0), (2, .int v2), (4, .int v4)]) [0, 1, 2] rfl ?_
    exact abX11_mayLay_167 l G d hG hd _ _ _ _ _ _ _ hw
  · have hw := hw.2 z
    refine aw_iload 4 dX11_mayLay_151 rfl ?_
    refine aw_sipush (v := (-257)) dX11_mayLay_153 (by decide) ?_
    refine aw_iand dX11_mayLay_156 ?_
    refine aw_goto (tgt := 167) dX11_mayLay_157 (by decide) ?_
    refine aw_sub (lv' := [(0, .ref v0), (2, .int v2), (4, .int v4)]) [0, 1, 2] rfl ?_
    exact abX11_mayLay_167 l G d hG hd _ _ _ _ _ _ _ hw
set_option maxRecDepth 100000 in
theorem abX11_mayLay_36 (l : Launch) (G : aG) (d : Nat) (hG : a_GT G) (hd : 4 ≤ d) {Q : Int32 → aH → Prop} (v0 : Nat) (v1 : Int32) (v2 : Int32) (v4 : Int32) (s0 : Int32) (s1 : Int32) (s2 : Int32) (s3 : Nat) (h : aH) (hw : wbX11_mayLay_36 v0 v1 v2 v4 s0 s1 s2 s3 h Q) : AW l G d 0 0 mX11_mayLay (qI Q) 36 [(0, .ref v0), (1, .int v1), (2, .int v2), (4, .int v4)] [.int s0, .int s1, .int s2, .ref s3] h := by
  unfold wbX11_mayLay_36 at hw
  obtain ⟨_, h1, hw⟩ := hw
  refine aw_virtI (As := [.int s2, .int s1, .int s0]) (rest := []) dX11_mayLay_36 (acX11_mayAs l G (d - 1) hG (by omega) hw) iX11_mayAs rfl k_1314 k_1316 k_80 rfl h1 (by omega) (by decide) (by decide) rfl (Nat.le_of_ble_eq_true rfl) (fun r15 h14 hw => ?_)
  refine aw_if_eq (tgt := 51) dX11_mayLay_39 (by decide) (fun z => ?_) (fun z => ?_)
  · have hw := hw.1 z
    refine aw_sub (lv' := []) [] rfl ?_
    exact abX11_mayLay_51 l G d hG hd _ hw
  · have hw := hw.2 z
    refine aw_aload_n 0 dX11_mayLay_42 rfl rfl ?_
    refine aw_iload_n 1 dX11_mayLay_43 rfl rfl ?_
    refine aw_iload_n 2 dX11_mayLay_44 rfl rfl ?_
    obtain ⟨_, h1, hw⟩ := hw
    refine aw_virtI (As := [.int v1, .int v2]) (rest := []) dX11_mayLay_45 (acX11_mayRow l G (d - 1) hG (by omega) hw) iX11_mayRow rfl k_1322 k_1324 k_82 rfl h1 (by omega) (by decide) (by decide) rfl (Nat.le_of_ble_eq_true rfl) (fun r17 h16 hw => ?_)
    refine aw_if_ne (tgt := 53) dX11_mayLay_48 (by decide) (fun z => ?_) (fun z => ?_)
    · have hw := hw.1 z
      refine aw_aload_n 0 dX11_mayLay_53 rfl rfl ?_
      refine aw_iload_n 1 dX11_mayLay_54 rfl rfl ?_
      refine aw_iconst (v := 3) dX11_mayLay_55 (by decide) ?_
      refine aw_iconst (v := (-1)) dX11_mayLay_56 (by decide) ?_
      refine aw_iconst (v := 0) dX11_mayLay_57 (by decide) ?_
      obtain ⟨_, h1, hw⟩ := hw
      refine aw_virtV (As := [.int v1, .int 3, .int (-1), .int 0]) (rest := []) dX11_mayLay_58 (acX11_mayFail l G (d - 1) hG (by omega) hw) iX11_mayFail rfl k_1310 k_1312 k_79 rfl h1 (by omega) (by decide) (by decide) rfl (Nat.le_of_ble_eq_true rfl) (fun h18 hw => ?_)
      refine aw_aload_n 0 dX11_mayLay_61 rfl rfl ?_
      obtain ⟨fs20, r19, h1, h2, hw⟩ := hw
      refine aw_getf (k := 39) dX11_mayLay_62 clX11 (by decide) k_987 (Or.inl rfl) h1 h2 ?_
      refine aw_iload_n 2 dX11_mayLay_65 rfl rfl ?_
      obtain ⟨_, _, r21, h1, h2, h3, hw⟩ := hw
      refine aw_aI dX11_mayLay_66 h1 h2 h3 ?_
      refine aw_istore (lv' := [(5, .int r21), (0, .ref v0), (1, .int v1), (2, .int v2), (4, .int v4)]) dX11_mayLay_67 (by decide) rfl ?_
      refine aw_aload_n 1 dX11_mayLay_69 rfl rfl ?_
      obtain ⟨fs23, r22, h1, h2, hw⟩ := hw
      refine aw_getf (k := 39) dX11_mayLay_70 clX11 (by decide) k_987 (Or.inl rfl) h1 h2 ?_
      refine aw_iload 4 dX11_mayLay_73 rfl ?_
      obtain ⟨_, _, r24, h1, h2, h3, hw⟩ := hw
      refine aw_aI dX11_mayLay_75 h1 h2 h3 ?_
      refine aw_istore (lv' := [(6, .int r24), (5, .int r21), (0, .ref v0), (1, .int v1), (2, .int v2), (4, .int v4)]) dX11_mayLay_76 (by decide) rfl ?_
      refine aw_iload 1 dX11_mayLay_78 rfl ?_
      refine aw_bipush (v := 7) dX11_mayLay_80 (by decide) ?_
      refine aw_ishr dX11_mayLay_82 ?_
      refine aw_iconst (v := 1) dX11_mayLay_83 (by decide) ?_
      refine aw_iand dX11_mayLay_84 ?_
      refine aw_iconst (v := 1) dX11_mayLay_85 (by decide) ?_
      refine aw_icmp_ne (tgt := 168) dX11_mayLay_86 (by decide) (fun z => ?_) (fun z => ?_)
      · have hw := hw.1 z
        refine aw_sub (lv' := [(0, .ref v0), (2, .int v2), (4, .int v4)]) [2, 4, 5] rfl ?_
        exact abX11_mayLay_168 l G d hG hd _ _ _ _ hw
      · have hw := hw.2 z
        refine aw_iload 0 dX11_mayLay_89 rfl ?_
        refine aw_bipush (v := 8) dX11_mayLay_91 (by decide) ?_
        refine aw_ishr dX11_mayLay_93 ?_
        refine aw_iconst (v := 1) dX11_mayLay_94 (by decide) ?_
        refine aw_iand dX11_mayLay_95 ?_
        refine aw_iconst (v := 1) dX11_mayLay_96 (by decide) ?_
        refine aw_icmp_ne (tgt := 168) dX11_mayLay_97 (by decide) (fun z => ?_) (fun z => ?_)
        · have hw := hw.1 z
          refine aw_sub (lv' := [(0, .ref v0), (2, .int v2), (4, .int v4)]) [2, 4, 5] rfl ?_
          exact abX11_mayLay_168 l G d hG hd _ _ _ _ hw
        · have hw := hw.2 z
          refine aw_aload_n 2 dX11_mayLay_100 rfl rfl ?_
          refine aw_iload_n 3 dX11_mayLay_101 rfl rfl ?_
          refine aw_iconst (v := 5) dX11_mayLay_102 (by decide) ?_
          refine aw_iconst (v := (-1)) dX11_mayLay_103 (by decide) ?_
          refine aw_iconst (v := 0) dX11_mayLay_104 (by decide) ?_
          obtain ⟨_, h1, hw⟩ := hw
          refine aw_virtV (As := [.int v1, .int 5, .int (-1), .int 0]) (rest := []) dX11_mayLay_105 (acX11_mayFail l G (d - 1) hG (by omega) hw) iX11_mayFail rfl k_1310 k_1312 k_79 rfl h1 (by omega) (by decide) (by decide) rfl (Nat.le_of_ble_eq_true rfl) (fun h25 hw => ?_)
          refine aw_aload_n 2 dX11_mayLay_108 rfl rfl ?_
          obtain ⟨fs27, r26, h1, h2, hw⟩ := hw
          refine aw_getf (k := 39) dX11_mayLay_109 clX11 (by decide) k_987 (Or.inl rfl) h1 h2 ?_
          refine aw_iload_n 4 dX11_mayLay_112 rfl rfl ?_
          refine aw_iload 0 dX11_mayLay_113 rfl ?_
          refine aw_sipush (v := 256) dX11_mayLay_115 (by decide) ?_
          refine aw_icmp_ne (tgt := 130) dX11_mayLay_118 (by decide) (fun z => ?_) (fun z => ?_)
          · have hw := hw.1 z
            refine aw_aload_n 2 dX11_mayLay_130 rfl rfl ?_
            obtain ⟨fs29, r28, h1, h2, hw⟩ := hw
            refine aw_getf (k := 39) dX11_mayLay_131 clX11 (by decide) k_987 (Or.inl rfl) h1 h2 ?_
            refine aw_iload_n 4 dX11_mayLay_134 rfl rfl ?_
            obtain ⟨_, _, r30, h1, h2, h3, hw⟩ := hw
            refine aw_aI dX11_mayLay_135 h1 h2 h3 ?_
            refine aw_sub (lv' := [(0, .ref v0), (2, .int v2), (4, .int v4), (5, .int r21), (6, .int r24)]) [2, 4, 5, 1, 0] rfl ?_
            exact abX11_mayLay_136 l G d hG hd _ _ _ _ _ _ _ _ _ hw
          · have hw := hw.2 z
            refine aw_iload 1 dX11_mayLay_121 rfl ?_
            refine aw_sipush (v := (-129)) dX11_mayLay_123 (by decide) ?_
            refine aw_iand dX11_mayLay_126 ?_
            refine aw_goto (tgt := 136) dX11_mayLay_127 (by decide) ?_
            refine aw_sub (lv' := [(0, .ref v0), (2, .int v2), (4, .int v4), (5, .int r21), (6, .int r24)]) [2, 4, 5, 1, 0] rfl ?_
            exact abX11_mayLay_136 l G d hG hd _ _ _ _ _ _ _ _ _ hw
    · have hw := hw.2 z
      refine aw_sub (lv' := []) [] rfl ?_
      exact abX11_mayLay_51 l G d hG hd _ hw
set_option maxRecDepth 100000 in
theorem acX11_mayLay (l : Launch) (G : aG) (d : Nat) (hG : a_GT G) (hd : 4 ≤ d) {Q : Int32 → aH → Prop} {h : aH} {v0 : Nat} {v1 : Int32} {v2 : Int32} {v3 : Int32} {v4 : Int32} (hw : wX11_mayLay h v0 v1 v2 v3 v4 Q) : AC l G d 0 0 mX11_mayLay [.ref v0, .int v1, .int v2, .int v3, .int v4] h (qI Q) := by
  refine ac_of iX11_mayLay (Nat.le_of_ble_eq_true rfl) ?_
  show AW l G d 0 0 mX11_mayLay (qI Q) 0 [(0, .ref v0), (1, .int v1), (2, .int v2), (3, .int v3), (4, .int v4)] [] h
  unfold wX11_mayLay at hw
  refine aw_aload_n 0 dX11_mayLay_0 rfl rfl ?_
  refine aw_iload_n 1 dX11_mayLay_1 rfl rfl ?_
  refine aw_iload_n 2 dX11_mayLay_2 rfl rfl ?_
  refine aw_iload_n 3 dX11_mayLay_3 rfl rfl ?_
  obtain ⟨_, h1, hw⟩ := hw
  refine aw_virtI (As := [.int v1, .int v2, .int v3]) (rest := []) dX11_mayLay_4 (acX11_mayAs l G (d - 1) hG (by omega) hw) iX11_mayAs rfl k_1314 k_1316 k_80 rfl h1 (by omega) (by decide) (by decide) rfl (Nat.le_of_ble_eq_true rfl) (fun r32 h31 hw => ?_)
  refine aw_if_eq (tgt := 51) dX11_mayLay_7 (by decide) (fun z => ?_) (fun z => ?_)
  · have hw := hw.1 z
    refine aw_sub (lv' := []) [] rfl ?_
    exact abX11_mayLay_51 l G d hG hd _ hw
  · have hw := hw.2 z
    refine aw_aload_n 0 dX11_mayLay_10 rfl rfl ?_
    refine aw_iload_n 1 dX11_mayLay_11 rfl rfl ?_
    refine aw_iload 4 dX11_mayLay_12 rfl ?_
    refine aw_iload_n 3 dX11_mayLay_14 rfl rfl ?_
    refine aw_iconst (v := 5) dX11_mayLay_15 (by decide) ?_
    refine aw_icmp_ne (tgt := 23) dX11_mayLay_16 (by decide) (fun z => ?_) (fun z => ?_)
    · have hw := hw.1 z
      refine aw_iload_n 3 dX11_mayLay_23 rfl rfl ?_
      refine aw_bipush (v := 6) dX11_mayLay_24 (by decide) ?_
      refine aw_icmp_ne (tgt := 34) dX11_mayLay_26 (by decide) (fun z => ?_) (fun z => ?_)
      · have hw := hw.1 z
        refine aw_bipush (v := 9) dX11_mayLay_34 (by decide) ?_
        refine aw_sub (lv' := [(0, .ref v0), (1, .int v1), (2, .int v2), (4, .int v4)]) [0, 1, 2, 4] rfl ?_
        exact abX11_mayLay_36 l G d hG hd _ _ _ _ _ _ _ _ _ hw
      · have hw := hw.2 z
        refine aw_bipush (v := 8) dX11_mayLay_29 (by decide) ?_
        refine aw_goto (tgt := 36) dX11_mayLay_31 (by decide) ?_
        refine aw_sub (lv' := [(0, .ref v0), (1, .int v1), (2, .int v2), (4, .int v4)]) [0, 1, 2, 4] rfl ?_
        exact abX11_mayLay_36 l G d hG hd _ _ _ _ _ _ _ _ _ hw
    · have hw := hw.2 z
      refine aw_iconst (v := 1) dX11_mayLay_19 (by decide) ?_
      refine aw_goto (tgt := 36) dX11_mayLay_20 (by decide) ?_
      refine aw_sub (lv' := [(0, .ref v0), (1, .int v1), (2, .int v2), (4, .int v4)]) [0, 1, 2, 4] rfl ?_
      exact abX11_mayLay_36 l G d hG hd _ _ _ _ _ _ _ _ _ hw
-- X11_partly
def wbX11_partly_51 (s0 : Int32) (h : aH) (Q : Int32 → aH → Prop) : Prop :=
  oB s0 ∧ Q s0 h
def wbX11_partly_46 (h : aH) (Q : Int32 → aH → Prop) : Prop :=
  wbX11_partly_51 1 h Q
def wbX11_partly_50 (h : aH) (Q : Int32 → aH → Prop) : Prop :=
  wbX11_partly_51 0 h Q
def wbX11_partly_34 (v0 : Int32) (v1 : Int32) (h : aH) (Q : Int32 → aH → Prop) : Prop :=
  (¬ v0 = 6 → wbX11_partly_50  h Q) ∧ (v0 = 6 → (¬ v1 = 7 → wbX11_partly_50  h Q) ∧ (v1 = 7 → wbX11_partly_46  h Q))
def wbX11_partly_29 (v0 : Int32) (v1 : Int32) (h : aH) (Q : Int32 → aH → Prop) : Prop :=
  (v1 = 5 → wbX11_partly_46  h Q) ∧ (¬ v1 = 5 → wbX11_partly_34 v0 v1 h Q)
def wbX11_partly_17 (v0 : Int32) (v1 : Int32) (h : aH) (Q : Int32 → aH → Prop) : Prop :=
  (v0 = 6 → wbX11_partly_29 v0 v1 h Q) ∧ (¬ v0 = 6 → (¬ v0 = 7 → wbX11_partly_34 v0 v1 h Q) ∧ (v0 = 7 → wbX11_partly_29 v0 v1 h Q))
def wX11_partly (h : aH) (v0 : Int32) (v1 : Int32) (Q : Int32 → aH → Prop) : Prop :=
  (¬ v0 = 5 → wbX11_partly_17 v0 v1 h Q) ∧ (v0 = 5 → (v1 = 6 → wbX11_partly_46  h Q) ∧ (¬ v1 = 6 → (v1 = 7 → wbX11_partly_46  h Q) ∧ (¬ v1 = 7 → wbX11_partly_17 v0 v1 h Q)))
set_option maxRecDepth 100000 in
theorem abX11_partly_51 (l : Launch) (G : aG) (d : Nat) (hG : a_GT G) (hd : 1 ≤ d) {Q : Int32 → aH → Prop} (s0 : Int32) (h : aH) (hw : wbX11_partly_51 s0 h Q) : AW l G d 0 0 mX11_partly (qI Q) 51 [] [.int s0] h := by
  unfold wbX11_partly_51 at hw
  exact aw_iret dX11_partly_51 rfl (a_nB hw.1) ⟨_, rfl, hw.2⟩
set_option maxRecDepth 100000 in
theorem abX11_partly_46 (l : Launch) (G : aG) (d : Nat) (hG : a_GT G) (hd : 1 ≤ d) {Q : Int32 → aH → Prop} (h : aH) (hw : wbX11_partly_46  h Q) : AW l G d 0 0 mX11_partly (qI Q) 46 [] [] h := by
  unfold wbX11_partly_46 at hw
  refine aw_iconst (v := 1) dX11_partly_46 (by decide) ?_
  refine aw_goto (tgt := 51) dX11_partly_47 (by decide) ?_
  exact abX11_partly_51 l G d hG hd _ _ hw
set_option maxRecDepth 100000 in
theorem abX11_partly_50 (l : Launch) (G : aG) (d : Nat) (hG : a_GT G) (hd : 1 ≤ d) {Q : Int32 → aH → Prop} (h : aH) (hw : wbX11_partly_50  h Q) : AW l G d 0 0 mX11_partly (qI Q) 50 [] [] h := by
  unfold wbX11_partly_50 at hw
  refine aw_iconst (v := 0) dX11_partly_50 (by decide) ?_
  exact abX11_partly_51 l G d hG hd _ _ hw
set_option maxRecDepth 100000 in
theorem abX11_partly_34 (l : Launch) (G : aG) (d : Nat) (hG : a_GT G) (hd : 1 ≤ d) {Q : Int32 → aH → Prop} (v0 : Int32) (v1 : Int32) (h : aH) (hw : wbX11_partly_34 v0 v1 h Q) : AW l G d 0 0 mX11_partly (qI Q) 34 [(0, .int v0), (1, .int v1)] [] h := by
  unfold wbX11_partly_34 at hw
  refine aw_iload_n 0 dX11_partly_34 rfl rfl ?_
  refine aw_bipush (v := 6) dX11_partly_35 (by decide) ?_
  refine aw_icmp_ne (tgt := 50) dX11_partly_37 (by decide) (fun z => ?_) (fun z => ?_)
  · have hw := hw.1 z
    refine aw_sub (lv' := []) [] rfl ?_
    exact abX11_partly_50 l G d hG hd _ hw
  · have hw := hw.2 z
    refine aw_iload_n 1 dX11_partly_40 rfl rfl ?_
    refine aw_bipush (v := 7) dX11_partly_41 (by decide) ?_
    refine aw_icmp_ne (tgt := 50) dX11_partly_43 (by decide) (fun z => ?_) (fun z => ?_)
    · have hw := hw.1 z
      refine aw_sub (lv' := []) [] rfl ?_
      exact abX11_partly_50 l G d hG hd _ hw
    · have hw := hw.2 z
      refine aw_sub (lv' := []) [] rfl ?_
      exact abX11_partly_46 l G d hG hd _ hw
set_option maxRecDepth 100000 in
theorem abX11_partly_29 (l : Launch) (G : aG) (d : Nat) (hG : a_GT G) (hd : 1 ≤ d) {Q : Int32 → aH → Prop} (v0 : Int32) (v1 : Int32) (h : aH) (hw : wbX11_partly_29 v0 v1 h Q) : AW l G d 0 0 mX11_partly (qI Q) 29 [(0, .int v0), (1, .int v1)] [] h := by
  unfold wbX11_partly_29 at hw
  refine aw_iload_n 1 dX11_partly_29 rfl rfl ?_
  refine aw_iconst (v := 5) dX11_partly_30 (by decide) ?_
  refine aw_icmp_eq (tgt := 46) dX11_partly_31 (by decide) (fun z => ?_) (fun z => ?_)
  · have hw := hw.1 z
    refine aw_sub (lv' := []) [] rfl ?_
    exact abX11_partly_46 l G d hG hd _ hw
  · have hw := hw.2 z
    exact abX11_partly_34 l G d hG hd _ _ _ hw
set_option maxRecDepth 100000 in
theorem abX11_partly_17 (l : Launch) (G : aG) (d : Nat) (hG : a_GT G) (hd : 1 ≤ d) {Q : Int32 → aH → Prop} (v0 : Int32) (v1 : Int32) (h : aH) (hw : wbX11_partly_17 v0 v1 h Q) : AW l G d 0 0 mX11_partly (qI Q) 17 [(0, .int v0), (1, .int v1)] [] h := by
  unfold wbX11_partly_17 at hw
  refine aw_iload_n 0 dX11_partly_17 rfl rfl ?_
  refine aw_bipush (v := 6) dX11_partly_18 (by decide) ?_
  refine aw_icmp_eq (tgt := 29) dX11_partly_20 (by decide) (fun z => ?_) (fun z => ?_)
  · have hw := hw.1 z
    exact abX11_partly_29 l G d hG hd _ _ _ hw
  · have hw := hw.2 z
    refine aw_iload_n 0 dX11_partly_23 rfl rfl ?_
    refine aw_bipush (v := 7) dX11_partly_24 (by decide) ?_
    refine aw_icmp_ne (tgt := 34) dX11_partly_26 (by decide) (fun z => ?_) (fun z => ?_)
    · have hw := hw.1 z
      exact abX11_partly_34 l G d hG hd _ _ _ hw
    · have hw := hw.2 z
      exact abX11_partly_29 l G d hG hd _ _ _ hw
set_option maxRecDepth 100000 in
theorem acX11_partly (l : Launch) (G : aG) (d : Nat) (hG : a_GT G) (hd : 1 ≤ d) {Q : Int32 → aH → Prop} {h : aH} {v0 : Int32} {v1 : Int32} (hw : wX11_partly h v0 v1 Q) : AC l G d 0 0 mX11_partly [.int v0, .int v1] h (qI Q) := by
  refine ac_of iX11_partly (Nat.le_of_ble_eq_true rfl) ?_
  show AW l G d 0 0 mX11_partly (qI Q) 0 [(0, .int v0), (1, .int v1)] [] h
  unfold wX11_partly at hw
  refine aw_iload_n 0 dX11_partly_0 rfl rfl ?_
  refine aw_iconst (v := 5) dX11_partly_1 (by decide) ?_
  refine aw_icmp_ne (tgt := 17) dX11_partly_2 (by decide) (fun z => ?_) (fun z => ?_)
  · have hw := hw.1 z
    exact abX11_partly_17 l G d hG hd _ _ _ hw
  · have hw := hw.2 z
    refine aw_iload_n 1 dX11_partly_5 rfl rfl ?_
    refine aw_bipush (v := 6) dX11_partly_6 (by decide) ?_
    refine aw_icmp_eq (tgt := 46) dX11_partly_8 (by decide) (fun z => ?_) (fun z => ?_)
    · have hw := hw.1 z
      refine aw_sub (lv' := []) [] rfl ?_
      exact abX11_partly_46 l G d hG hd _ hw
    · have hw := hw.2 z
      refine aw_iload_n 1 dX11_partly_11 rfl rfl ?_
      refine aw_bipush (v := 7) dX11_partly_12 (by decide) ?_
      refine aw_icmp_eq (tgt := 46) dX11_partly_14 (by decide) (fun z => ?_) (fun z => ?_)
      · have hw := hw.1 z
        refine aw_sub (lv' := []) [] rfl ?_
        exact abX11_partly_46 l G d hG hd _ hw
      · have hw := hw.2 z
        exact abX11_partly_17 l G d hG hd _ _ _ hw
-- X11_mayCopy
def wbX11_mayCopy_67 (h : aH) (Q : Int32 → aH → Prop) : Prop :=
  oB 0 ∧ Q 0 h
def wbX11_mayCopy_229 (v0 : Nat) (v1 : Int32) (v2 : Int32) (v3 : Int32) (v5 : Int32) (v6 : Int32) (h : aH) (Q : Int32 → aH → Prop) : Prop :=
  rR h v0 9 39 (fun r1 => sI h r1 v2 v5 (fun h3 => rR h3 v0 9 39 (fun r4 => sI h3 r4 v3 v6 (fun h6 => (¬ v5 = 0 → isO h6 v0 9 (wX11_mayFail h6 v0 v1 3 ((-1)) 0 (fun h7 => oB 1 ∧ Q 1 h7))) ∧ (v5 = 0 → oB 0 ∧ Q 0 h6)))))
def wbX11_mayCopy_204 (K81 : Nat → Int32 → Int32 → Int32 → Int32 → Int32 → Int32 → Int32 →  aH → Prop) (K91 : Nat → Int32 → Int32 → Int32 → Int32 → Int32 → Int32 → Int32 → Int32 →  aH → Prop) (v0 : Nat) (v1 : Int32) (v2 : Int32) (v3 : Int32) (v4 : Int32) (v5 : Int32) (v6 : Int32) (v7 : Int32) (v8 : Int32) (h : aH) (Q : Int32 → aH → Prop) : Prop :=
  K91 v0 v1 v2 v3 v4 v5 v6 v7 ((v8 + 1)) h
def wbX11_mayCopy_201 (K81 : Nat → Int32 → Int32 → Int32 → Int32 → Int32 → Int32 → Int32 →  aH → Prop) (K91 : Nat → Int32 → Int32 → Int32 → Int32 → Int32 → Int32 → Int32 → Int32 →  aH → Prop) (v0 : Nat) (v1 : Int32) (v2 : Int32) (v3 : Int32) (v4 : Int32) (v5 : Int32) (v7 : Int32) (v8 : Int32) (s0 : Int32) (s1 : Int32) (h : aH) (Q : Int32 → aH → Prop) : Prop :=
  wbX11_mayCopy_204  K81 K91 v0 v1 v2 v3 v4 v5 ((s1 ||| s0)) v7 v8 h Q
def wbX11_mayCopy_178 (K81 : Nat → Int32 → Int32 → Int32 → Int32 → Int32 → Int32 → Int32 →  aH → Prop) (K91 : Nat → Int32 → Int32 → Int32 → Int32 → Int32 → Int32 → Int32 → Int32 →  aH → Prop) (v0 : Nat) (v1 : Int32) (v2 : Int32) (v3 : Int32) (v4 : Int32) (v6 : Int32) (v7 : Int32) (v8 : Int32) (s0 : Int32) (s1 : Int32) (h : aH) (Q : Int32 → aH → Prop) : Prop :=
  wX11_meet h v7 v8 (fun r9 h8 => (r9 = 0 → wbX11_mayCopy_201 K81 K91 v0 v1 v2 v3 v4 ((s1 ||| s0)) v7 v8 0 v6 h8 Q) ∧ (¬ r9 = 0 → wbX11_mayCopy_201 K81 K91 v0 v1 v2 v3 v4 ((s1 ||| s0)) v7 v8 ((1 <<< (v8 &&& 31))) v6 h8 Q))
def wbX11_mayCopy_155 (K81 : Nat → Int32 → Int32 → Int32 → Int32 → Int32 → Int32 → Int32 →  aH → Prop) (K91 : Nat → Int32 → Int32 → Int32 → Int32 → Int32 → Int32 → Int32 → Int32 →  aH → Prop) (v0 : Nat) (v1 : Int32) (v2 : Int32) (v3 : Int32) (v5 : Int32) (v6 : Int32) (v7 : Int32) (v8 : Int32) (s0 : Int32) (s1 : Int32) (h : aH) (Q : Int32 → aH → Prop) : Prop :=
  wX11_meet h v7 v8 (fun r11 h10 => (r11 = 0 → wbX11_mayCopy_178 K81 K91 v0 v1 v2 v3 ((s1 ||| s0)) v6 v7 v8 0 v5 h10 Q) ∧ (¬ r11 = 0 → wbX11_mayCopy_178 K81 K91 v0 v1 v2 v3 ((s1 ||| s0)) v6 v7 v8 ((1 <<< (v7 &&& 31))) v5 h10 Q))
def wbX11_mayCopy_150 (K81 : Nat → Int32 → Int32 → Int32 → Int32 → Int32 → Int32 → Int32 →  aH → Prop) (K91 : Nat → Int32 → Int32 → Int32 → Int32 → Int32 → Int32 → Int32 → Int32 →  aH → Prop) (v0 : Nat) (v1 : Int32) (v2 : Int32) (v3 : Int32) (v5 : Int32) (v6 : Int32) (v7 : Int32) (v8 : Int32) (s0 : Int32) (h : aH) (Q : Int32 → aH → Prop) : Prop :=
  wbX11_mayCopy_155  K81 K91 v0 v1 v2 v3 v5 v6 v7 v8 1 s0 h Q
def wbX11_mayCopy_91_i (K81 : Nat → Int32 → Int32 → Int32 → Int32 → Int32 → Int32 → Int32 →  aH → Prop) (K91 : Nat → Int32 → Int32 → Int32 → Int32 → Int32 → Int32 → Int32 → Int32 →  aH → Prop) (v0 : Nat) (v1 : Int32) (v2 : Int32) (v3 : Int32) (v4 : Int32) (v5 : Int32) (v6 : Int32) (v7 : Int32) (v8 : Int32) (h : aH) (Q : Int32 → aH → Prop) : Prop :=
  (10 ≤ v8 → K81 v0 v1 v2 v3 v4 v5 v6 ((v7 + 1)) h) ∧ (¬ 10 ≤ v8 → rR h v0 9 39 (fun r12 => aI h r12 v2 (fun r14 => (¬ ((r14 >>> (v7 &&& 31)) &&& 1) = 1 → wbX11_mayCopy_204  K81 K91 v0 v1 v2 v3 v4 v5 v6 v7 v8 h Q) ∧ (((r14 >>> (v7 &&& 31)) &&& 1) = 1 → rR h v0 9 39 (fun r15 => aI h r15 v3 (fun r17 => (¬ ((r17 >>> (v8 &&& 31)) &&& 1) = 1 → wbX11_mayCopy_204  K81 K91 v0 v1 v2 v3 v4 v5 v6 v7 v8 h Q) ∧ (((r17 >>> (v8 &&& 31)) &&& 1) = 1 → wX11_meet h v7 v8 (fun r19 h18 => (r19 = 0 → wbX11_mayCopy_150 K81 K91 v0 v1 v2 v3 v5 v6 v7 v8 v4 h18 Q) ∧ (¬ r19 = 0 → wX11_partly h18 v7 v8 (fun r21 h20 => (r21 = 0 → wbX11_mayCopy_155 K81 K91 v0 v1 v2 v3 v5 v6 v7 v8 0 v4 h20 Q) ∧ (¬ r21 = 0 → wbX11_mayCopy_150 K81 K91 v0 v1 v2 v3 v5 v6 v7 v8 v4 h20 Q)))))))))))
def wbX11_mayCopy_91 (K81 : Nat → Int32 → Int32 → Int32 → Int32 → Int32 → Int32 → Int32 →  aH → Prop) (n : Nat) (v0 : Nat) (v1 : Int32) (v2 : Int32) (v3 : Int32) (v4 : Int32) (v5 : Int32) (v6 : Int32) (v7 : Int32) (v8 : Int32) (h : aH) (Q : Int32 → aH → Prop) : Prop := match n with
  | 0 => False
  | n + 1 => wbX11_mayCopy_91_i K81 (fun v0 v1 v2 v3 v4 v5 v6 v7 v8 h => wbX11_mayCopy_91 K81 n v0 v1 v2 v3 v4 v5 v6 v7 v8 h Q) v0 v1 v2 v3 v4 v5 v6 v7 v8 h Q
def wbX11_mayCopy_81_i (K81 : Nat → Int32 → Int32 → Int32 → Int32 → Int32 → Int32 → Int32 →  aH → Prop) (v0 : Nat) (v1 : Int32) (v2 : Int32) (v3 : Int32) (v4 : Int32) (v5 : Int32) (v6 : Int32) (v7 : Int32) (h : aH) (Q : Int32 → aH → Prop) : Prop :=
  (10 ≤ v7 → (v4 = 0 → wbX11_mayCopy_229 v0 v1 v2 v3 v5 v6 h Q) ∧ (¬ v4 = 0 → isO h v0 9 (wX11_mayFail h v0 v1 5 ((-1)) 0 (fun h22 => wbX11_mayCopy_229 v0 v1 v2 v3 v5 v6 h22 Q)))) ∧ (¬ 10 ≤ v7 → ∃ n, wbX11_mayCopy_91  K81 n v0 v1 v2 v3 v4 v5 v6 v7 1 h Q)
def wbX11_mayCopy_81 (n : Nat) (v0 : Nat) (v1 : Int32) (v2 : Int32) (v3 : Int32) (v4 : Int32) (v5 : Int32) (v6 : Int32) (v7 : Int32) (h : aH) (Q : Int32 → aH → Prop) : Prop := match n with
  | 0 => False
  | n + 1 => wbX11_mayCopy_81_i (fun v0 v1 v2 v3 v4 v5 v6 v7 h => wbX11_mayCopy_81 n v0 v1 v2 v3 v4 v5 v6 v7 h Q) v0 v1 v2 v3 v4 v5 v6 v7 h Q
def wbX11_mayCopy_27 (v0 : Nat) (v1 : Int32) (v2 : Int32) (v3 : Int32) (h : aH) (Q : Int32 → aH → Prop) : Prop :=
  rR h v0 9 39 (fun r23 => aI h r23 v2 (fun r25 => sI h r23 v2 ((r25 &&& (-2))) (fun h26 => rR h26 v0 9 39 (fun r27 => aI h26 r27 v3 (fun r29 => sI h26 r27 v3 ((r29 &&& (-2))) (fun h30 => rR h30 v0 9 39 (fun r31 => aI h30 r31 v2 (fun r33 => (r33 = 0 → wbX11_mayCopy_67  h30 Q) ∧ (¬ r33 = 0 → rR h30 v0 9 39 (fun r34 => aI h30 r34 v3 (fun r36 => (¬ r36 = 0 → ∃ n, wbX11_mayCopy_81 n v0 v1 v2 v3 0 0 0 1 h30 Q) ∧ (r36 = 0 → wbX11_mayCopy_67  h30 Q))))))))))))
def wX11_mayCopy (h : aH) (v0 : Nat) (v1 : Int32) (v2 : Int32) (v3 : Int32) (Q : Int32 → aH → Prop) : Prop :=
  rR h v0 9 39 (fun r37 => aI h r37 v2 (fun r39 => rR h v0 9 39 (fun r40 => aI h r40 v3 (fun r42 => (¬ ((r39 ||| r42) &&& 1) = 1 → wbX11_mayCopy_27 v0 v1 v2 v3 h Q) ∧ (((r39 ||| r42) &&& 1) = 1 → isO h v0 9 (wX11_mayFail h v0 v1 1 ((-1)) 0 (fun h43 => wbX11_mayCopy_27 v0 v1 v2 v3 h43 Q)))))))
set_option maxRecDepth 100000 in
theorem abX11_mayCopy_67 (l : Launch) (G : aG) (d : Nat) (hG : a_GT G) (hd : 3 ≤ d) {Q : Int32 → aH → Prop} (h : aH) (hw : wbX11_mayCopy_67  h Q) : AW l G d 0 0 mX11_mayCopy (qI Q) 67 [] [] h := by
  unfold wbX11_mayCopy_67 at hw
  refine aw_iconst (v := 0) dX11_mayCopy_67 (by decide) ?_
  exact aw_iret dX11_mayCopy_68 rfl (a_nB hw.1) ⟨_, rfl, hw.2⟩
set_option maxRecDepth 100000 in
theorem abX11_mayCopy_229 (l : Launch) (G : aG) (d : Nat) (hG : a_GT G) (hd : 3 ≤ d) {Q : Int32 → aH → Prop} (v0 : Nat) (v1 : Int32) (v2 : Int32) (v3 : Int32) (v5 : Int32) (v6 : Int32) (h : aH) (hw : wbX11_mayCopy_229 v0 v1 v2 v3 v5 v6 h Q) : AW l G d 0 0 mX11_mayCopy (qI Q) 229 [(0, .ref v0), (1, .int v1), (2, .int v2), (3, .int v3), (5, .int v5), (6, .int v6)] [] h := by
  unfold wbX11_mayCopy_229 at hw
  refine aw_aload_n 0 dX11_mayCopy_229 rfl rfl ?_
  obtain ⟨fs2, r1, h1, h2, hw⟩ := hw
  refine aw_getf (k := 39) dX11_mayCopy_230 clX11 (by decide) k_987 (Or.inl rfl) h1 h2 ?_
  refine aw_iload_n 2 dX11_mayCopy_233 rfl rfl ?_
  refine aw_iload 4 dX11_mayCopy_234 rfl ?_
  obtain ⟨_, _, h1, h2, hw⟩ := hw
  refine aw_iast dX11_mayCopy_236 h1 h2 ?_
  generalize a_up _ _ _ = h3 at hw ⊢
  refine aw_aload_n 0 dX11_mayCopy_237 rfl rfl ?_
  obtain ⟨fs5, r4, h1, h2, hw⟩ := hw
  refine aw_getf (k := 39) dX11_mayCopy_238 clX11 (by decide) k_987 (Or.inl rfl) h1 h2 ?_
  refine aw_iload_n 3 dX11_mayCopy_241 rfl rfl ?_
  refine aw_iload 5 dX11_mayCopy_242 rfl ?_
  obtain ⟨_, _, h1, h2, hw⟩ := hw
  refine aw_iast dX11_mayCopy_244 h1 h2 ?_
  generalize a_up _ _ _ = h6 at hw ⊢
  refine aw_iload 4 dX11_mayCopy_245 rfl ?_
  refine aw_if_ne (tgt := 252) dX11_mayCopy_247 (by decide) (fun z => ?_) (fun z => ?_)
  · have hw := hw.1 z
    refine aw_aload_n 0 dX11_mayCopy_252 rfl rfl ?_
    refine aw_iload_n 1 dX11_mayCopy_253 rfl rfl ?_
    refine aw_iconst (v := 3) dX11_mayCopy_254 (by decide) ?_
    refine aw_iconst (v := (-1)) dX11_mayCopy_255 (by decide) ?_
    refine aw_iconst (v := 0) dX11_mayCopy_256 (by decide) ?_
    obtain ⟨_, h1, hw⟩ := hw
    refine aw_virtV (As := [.int v1, .int 3, .int (-1), .int 0]) (rest := []) dX11_mayCopy_257 (acX11_mayFail l G (d - 1) hG (by omega) hw) iX11_mayFail rfl k_1310 k_1312 k_79 rfl h1 (by omega) (by decide) (by decide) rfl (Nat.le_of_ble_eq_true rfl) (fun h7 hw => ?_)
    refine aw_iconst (v := 1) dX11_mayCopy_260 (by decide) ?_
    exact aw_iret dX11_mayCopy_261 rfl (a_nB hw.1) ⟨_, rfl, hw.2⟩
  · have hw := hw.2 z
    refine aw_iconst (v := 0) dX11_mayCopy_250 (by decide) ?_
    exact aw_iret dX11_mayCopy_251 rfl (a_nB hw.1) ⟨_, rfl, hw.2⟩
set_option maxRecDepth 100000 in
theorem abX11_mayCopy_204 (l : Launch) (G : aG) (d : Nat) (hG : a_GT G) (hd : 3 ≤ d) {Q : Int32 → aH → Prop} {K81 : Nat → Int32 → Int32 → Int32 → Int32 → Int32 → Int32 → Int32 →  aH → Prop} {K91 : Nat → Int32 → Int32 → Int32 → Int32 → Int32 → Int32 → Int32 → Int32 →  aH → Prop} (kk81 : ∀ (v0 : Nat) (v1 : Int32) (v2 : Int32) (v3 : Int32) (v4 : Int32) (v5 : Int32) (v6 : Int32) (v7 : Int32) (h : aH), K81 v0 v1 v2 v3 v4 v5 v6 v7 h → AW l G d 0 0 mX11_mayCopy (qI Q) 81 [(0, .ref v0), (1, .int v1), (2, .int v2), (3, .int v3), (4, .int v4), (5, .int v5), (6, .int v6), (7, .int v7)] [] h) (kk91 : ∀ (v0 : Nat) (v1 : Int32) (v2 : Int32) (v3 : Int32) (v4 : Int32) (v5 : Int32) (v6 : Int32) (v7 : Int32) (v8 : Int32) (h : aH), K91 v0 v1 v2 v3 v4 v5 v6 v7 v8 h → AW l G d 0 0 mX11_mayCopy (qI Q) 91 [(0, .ref v0), (1, .int v1), (2, .int v2), (3, .int v3), (4, .int v4), (5, .int v5), (6, .int v6), (7, .int v7), (8, .int v8)] [] h) (v0 : Nat) (v1 : Int32) (v2 : Int32) (v3 : Int32) (v4 : Int32) (v5 : Int32) (v6 : Int32) (v7 : Int32) (v8 : Int32) (h : aH) (hw : wbX11_mayCopy_204 K81 K91 v0 v1 v2 v3 v4 v5 v6 v7 v8 h Q) : AW l G d 0 0 mX11_mayCopy (qI Q) 204 [(0, .ref v0), (1, .int v1), (2, .int v2), (3, .int v3), (4, .int v4), (5, .int v5), (6, .int v6), (7, .int v7), (8, .int v8)] [] h := by
  unfold wbX11_mayCopy_204 at hw
  refine aw_iinc (v := (v8 + 1)) (lv' := [(8, .int (v8 + 1)), (0, .ref v0), (1, .int v1), (2, .int v2), (3, .int v3), (4, .int v4), (5, .int v5), (6, .int v6), (7, .int v7)]) 8 dX11_mayCopy_204 rfl rfl (by decide) rfl ?_
  refine aw_goto (tgt := 91) dX11_mayCopy_207 (by decide) ?_
  refine aw_sub (lv' := [(0, .ref v0), (1, .int v1), (2, .int v2), (3, .int v3), (4, .int v4), (5, .int v5), (6, .int v6), (7, .int v7), (8, .int (v8 + 1))]) [1, 2, 3, 4, 5, 6, 7, 8, 0] rfl ?_
  exact kk91 _ _ _ _ _ _ _ _ _ _ hw
set_option maxRecDepth 100000 in
theorem abX11_mayCopy_201 (l : Launch) (G : aG) (d : Nat) (hG : a_GT G) (hd : 3 ≤ d) {Q : Int32 → aH → Prop} {K81 : Nat → Int32 → Int32 → Int32 → Int32 → Int32 → Int32 → Int32 →  aH → Prop} {K91 : Nat → Int32 → Int32 → Int32 → Int32 → Int32 → Int32 → Int32 → Int32 →  aH → Prop} (kk81 : ∀ (v0 : Nat) (v1 : Int32) (v2 : Int32) (v3 : Int32) (v4 : Int32) (v5 : Int32) (v6 : Int32) (v7 : Int32) (h : aH), K81 v0 v1 v2 v3 v4 v5 v6 v7 h → AW l G d 0 0 mX11_mayCopy (qI Q) 81 [(0, .ref v0), (1, .int v1), (2, .int v2), (3, .int v3), (4, .int v4), (5, .int v5), (6, .int v6), (7, .int v7)] [] h) (kk91 : ∀ (v0 : Nat) (v1 : Int32) (v2 : Int32) (v3 : Int32) (v4 : Int32) (v5 : Int32) (v6 : Int32) (v7 : Int32) (v8 : Int32) (h : aH), K91 v0 v1 v2 v3 v4 v5 v6 v7 v8 h → AW l G d 0 0 mX11_mayCopy (qI Q) 91 [(0, .ref v0), (1, .int v1), (2, .int v2), (3, .int v3), (4, .int v4), (5, .int v5), (6, .int v6), (7, .int v7), (8, .int v8)] [] h) (v0 : Nat) (v1 : Int32) (v2 : Int32) (v3 : Int32) (v4 : Int32) (v5 : Int32) (v7 : Int32) (v8 : Int32) (s0 : Int32) (s1 : Int32) (h : aH) (hw : wbX11_mayCopy_201 K81 K91 v0 v1 v2 v3 v4 v5 v7 v8 s0 s1 h Q) : AW l G d 0 0 mX11_mayCopy (qI Q) 201 [(0, .ref v0), (1, .int v1), (2, .int v2), (3, .int v3), (4, .int v4), (5, .int v5), (7, .int v7), (8, .int v8)] [.int s0, .int s1] h := by
  unfold wbX11_mayCopy_201 at hw
  refine aw_ior dX11_mayCopy_201 ?_
  refine aw_istore (lv' := [(6, .int (s1 ||| s0)), (0, .ref v0), (1, .int v1), (2, .int v2), (3, .int v3), (4, .int v4), (5, .int v5), (7, .int v7), (8, .int v8)]) dX11_mayCopy_202 (by decide) rfl ?_
  refine aw_sub (lv' := [(0, .ref v0), (1, .int v1), (2, .int v2), (3, .int v3), (4, .int v4), (5, .int v5), (6, .int (s1 ||| s0)), (7, .int v7), (8, .int v8)]) [1, 2, 3, 4, 5, 6, 0, 7, 8] rfl ?_
  exact abX11_mayCopy_204 l G d hG hd kk81 kk91 _ _ _ _ _ _ _ _ _ _ hw
set_option maxRecDepth 100000 in
theorem abX11_mayCopy_178 (l : Launch) (G : aG) (d : Nat) (hG : a_GT G) (hd : 3 ≤ d) {Q : Int32 → aH → Prop} {K81 : Nat → Int32 → Int32 → Int32 → Int32 → Int32 → Int32 → Int32 →  aH → Prop} {K91 : Nat → Int32 → Int32 → Int32 → Int32 → Int32 → Int32 → Int32 → Int32 →  aH → Prop} (kk81 : ∀ (v0 : Nat) (v1 : Int32) (v2 : Int32) (v3 : Int32) (v4 : Int32) (v5 : Int32) (v6 : Int32) (v7 : Int32) (h : aH), K81 v0 v1 v2 v3 v4 v5 v6 v7 h → AW l G d 0 0 mX11_mayCopy (qI Q) 81 [(0, .ref v0), (1, .int v1), (2, .int v2), (3, .int v3), (4, .int v4), (5, .int v5), (6, .int v6), (7, .int v7)] [] h) (kk91 : ∀ (v0 : Nat) (v1 : Int32) (v2 : Int32) (v3 : Int32) (v4 : Int32) (v5 : Int32) (v6 : Int32) (v7 : Int32) (v8 : Int32) (h : aH), K91 v0 v1 v2 v3 v4 v5 v6 v7 v8 h → AW l G d 0 0 mX11_mayCopy (qI Q) 91 [(0, .ref v0), (1, .int v1), (2, .int v2), (3, .int v3), (4, .int v4), (5, .int v5), (6, .int v6), (7, .int v7), (8, .int v8)] [] h) (v0 : Nat) (v1 : Int32) (v2 : Int32) (v3 : Int32) (v4 : Int32) (v6 : Int32) (v7 : Int32) (v8 : Int32) (s0 : Int32) (s1 : Int32) (h : aH) (hw : wbX11_mayCopy_178 K81 K91 v0 v1 v2 v3 v4 v6 v7 v8 s0 s1 h Q) : AW l G d 0 0 mX11_mayCopy (qI Q) 178 [(0, .ref v0), (1, .int v1), (2, .int v2), (3, .int v3), (4, .int v4), (6, .int v6), (7, .int v7), (8, .int v8)] [.int s0, .int s1] h := by
  unfold wbX11_mayCopy_178 at hw
  refine aw_ior dX11_mayCopy_178 ?_
  refine aw_istore (lv' := [(5, .int (s1 ||| s0)), (0, .ref v0), (1, .int v1), (2, .int v2), (3, .int v3), (4, .int v4), (6, .int v6), (7, .int v7), (8, .int v8)]) dX11_mayCopy_179 (by decide) rfl ?_
  refine aw_iload 6 dX11_mayCopy_181 rfl ?_
  refine aw_iload 7 dX11_mayCopy_183 rfl ?_
  refine aw_iload 8 dX11_mayCopy_185 rfl ?_
  refine aw_staticI (As := [.int v7, .int v8]) (rest := [.int v6]) dX11_mayCopy_187 (acX11_meet l G (d - 1) hG (by omega) hw) iX11_meet rfl k_1213 k_1214 (by omega) (by decide) (by decide) rfl (Nat.le_of_ble_eq_true rfl) (fun r9 h8 hw => ?_)
  refine aw_if_eq (tgt := 200) dX11_mayCopy_190 (by decide) (fun z => ?_) (fun z => ?_)
  · have hw := hw.1 z
    refine aw_iconst (v := 0) dX11_mayCopy_200 (by decide) ?_
    refine aw_sub (lv' := [(0, .ref v0), (1, .int v1), (2, .int v2), (3, .int v3), (4, .int v4), (5, .int (s1 ||| s0)), (7, .int v7), (8, .int v8)]) [1, 2, 3, 4, 5, 0, 7, 8] rfl ?_
    exact abX11_mayCopy_201 l G d hG hd kk81 kk91 _ _ _ _ _ _ _ _ _ _ _ hw
  · have hw := hw.2 z
    refine aw_iconst (v := 1) dX11_mayCopy_193 (by decide) ?_
    refine aw_iload 8 dX11_mayCopy_194 rfl ?_
    refine aw_ishl dX11_mayCopy_196 ?_
    refine aw_goto (tgt := 201) dX11_mayCopy_197 (by decide) ?_
    refine aw_sub (lv' := [(0, .ref v0), (1, .int v1), (2, .int v2), (3, .int v3), (4, .int v4), (5, .int (s1 ||| s0)), (7, .int v7), (8, .int v8)]) [1, 2, 3, 4, 5, 0, 7, 8] rfl ?_
    exact abX11_mayCopy_201 l G d hG hd kk81 kk91 _ _ _ _ _ _ _ _ _ _ _ hw
set_option maxRecDepth 100000 in
theorem abX11_mayCopy_155 (l : Launch) (G : aG) (d : Nat) (hG : a_GT G) (hd : 3 ≤ d) {Q : Int32 → aH → Prop} {K81 : Nat → Int32 → Int32 → Int32 → Int32 → Int32 → Int32 → Int32 →  aH → Prop} {K91 : Nat → Int32 → Int32 → Int32 → Int32 → Int32 → Int32 → Int32 → Int32 →  aH → Prop} (kk81 : ∀ (v0 : Nat) (v1 : Int32) (v2 : Int32) (v3 : Int32) (v4 : Int32) (v5 : Int32) (v6 : Int32) (v7 : Int32) (h : aH), K81 v0 v1 v2 v3 v4 v5 v6 v7 h → AW l G d 0 0 mX11_mayCopy (qI Q) 81 [(0, .ref v0), (1, .int v1), (2, .int v2), (3, .int v3), (4, .int v4), (5, .int v5), (6, .int v6), (7, .int v7)] [] h) (kk91 : ∀ (v0 : Nat) (v1 : Int32) (v2 : Int32) (v3 : Int32) (v4 : Int32) (v5 : Int32) (v6 : Int32) (v7 : Int32) (v8 : Int32) (h : aH), K91 v0 v1 v2 v3 v4 v5 v6 v7 v8 h → AW l G d 0 0 mX11_mayCopy (qI Q) 91 [(0, .ref v0), (1, .int v1), (2, .int v2), (3, .int v3), (4, .int v4), (5, .int v5), (6, .int v6), (7, .int v7), (8, .int v8)] [] h) (v0 : Nat) (v1 : Int32) (v2 : Int32) (v3 : Int32) (v5 : Int32) (v6 : Int32) (v7 : Int32) (v8 : Int32) (s0 : Int32) (s1 : Int32) (h : aH) (hw : wbX11_mayCopy_155 K81 K91 v0 v1 v2 v3 v5 v6 v7 v8 s0 s1 h Q) : AW l G d 0 0 mX11_mayCopy (qI Q) 155 [(0, .ref v0), (1, .int v1), (2, .int v2), (3, .int v3), (5, .int v5), (6, .int v6), (7, .int v7), (8, .int v8)] [.int s0, .int s1] h := by
  unfold wbX11_mayCopy_155 at hw
  refine aw_ior dX11_mayCopy_155 ?_
  refine aw_istore (lv' := [(4, .int (s1 ||| s0)), (0, .ref v0), (1, .int v1), (2, .int v2), (3, .int v3), (5, .int v5), (6, .int v6), (7, .int v7), (8, .int v8)]) dX11_mayCopy_156 (by decide) rfl ?_
  refine aw_iload 5 dX11_mayCopy_158 rfl ?_
  refine aw_iload 7 dX11_mayCopy_160 rfl ?_
  refine aw_iload 8 dX11_mayCopy_162 rfl ?_
  refine aw_staticI (As := [.int v7, .int v8]) (rest := [.int v5]) dX11_mayCopy_164 (acX11_meet l G (d - 1) hG (by omega) hw) iX11_meet rfl k_1213 k_1214 (by omega) (by decide) (by decide) rfl (Nat.le_of_ble_eq_true rfl) (fun r11 h10 hw => ?_)
  refine aw_if_eq (tgt := 177) dX11_mayCopy_167 (by decide) (fun z => ?_) (fun z => ?_)
  · have hw := hw.1 z
    refine aw_iconst (v := 0) dX11_mayCopy_177 (by decide) ?_
    refine aw_sub (lv' := [(0, .ref v0), (1, .int v1), (2, .int v2), (3, .int v3), (4, .int (s1 ||| s0)), (6, .int v6), (7, .int v7), (8, .int v8)]) [1, 2, 3, 4, 0, 6, 7, 8] rfl ?_
    exact abX11_mayCopy_178 l G d hG hd kk81 kk91 _ _ _ _ _ _ _ _ _ _ _ hw
  · have hw := hw.2 z
    refine aw_iconst (v := 1) dX11_mayCopy_170 (by decide) ?_
    refine aw_iload 7 dX11_mayCopy_171 rfl ?_
    refine aw_ishl dX11_mayCopy_173 ?_
    refine aw_goto (tgt := 178) dX11_mayCopy_174 (by decide) ?_
    refine aw_sub (lv' := [(0, .ref v0), (1, .int v1), (2, .int v2), (3, .int v3), (4, .int (s1 ||| s0)), (6, .int v6), (7, .int v7), (8, .int v8)]) [1, 2, 3, 4, 0, 6, 7, 8] rfl ?_
    exact abX11_mayCopy_178 l G d hG hd kk81 kk91 _ _ _ _ _ _ _ _ _ _ _ hw
set_option maxRecDepth 100000 in
theorem abX11_mayCopy_150 (l : Launch) (G : aG) (d : Nat) (hG : a_GT G) (hd : 3 ≤ d) {Q : Int32 → aH → Prop} {K81 : Nat → Int32 → Int32 → Int32 → Int32 → Int32 → Int32 → Int32 →  aH → Prop} {K91 : Nat → Int32 → Int32 → Int32 → Int32 → Int32 → Int32 → Int32 → Int32 →  aH → Prop} (kk81 : ∀ (v0 : Nat) (v1 : Int32) (v2 : Int32) (v3 : Int32) (v4 : Int32) (v5 : Int32) (v6 : Int32) (v7 : Int32) (h : aH), K81 v0 v1 v2 v3 v4 v5 v6 v7 h → AW l G d 0 0 mX11_mayCopy (qI Q) 81 [(0, .ref v0), (1, .int v1), (2, .int v2), (3, .int v3), (4, .int v4), (5, .int v5), (6, .int v6), (7, .int v7)] [] h) (kk91 : ∀ (v0 : Nat) (v1 : Int32) (v2 : Int32) (v3 : Int32) (v4 : Int32) (v5 : Int32) (v6 : Int32) (v7 : Int32) (v8 : Int32) (h : aH), K91 v0 v1 v2 v3 v4 v5 v6 v7 v8 h → AW l G d 0 0 mX11_mayCopy (qI Q) 91 [(0, .ref v0), (1, .int v1), (2, .int v2), (3, .int v3), (4, .int v4), (5, .int v5), (6, .int v6), (7, .int v7), (8, .int v8)] [] h) (v0 : Nat) (v1 : Int32) (v2 : Int32) (v3 : Int32) (v5 : Int32) (v6 : Int32) (v7 : Int32) (v8 : Int32) (s0 : Int32) (h : aH) (hw : wbX11_mayCopy_150 K81 K91 v0 v1 v2 v3 v5 v6 v7 v8 s0 h Q) : AW l G d 0 0 mX11_mayCopy (qI Q) 150 [(0, .ref v0), (1, .int v1), (2, .int v2), (3, .int v3), (5, .int v5), (6, .int v6), (7, .int v7), (8, .int v8)] [.int s0] h := by
  unfold wbX11_mayCopy_150 at hw
  refine aw_iconst (v := 1) dX11_mayCopy_150 (by decide) ?_
  refine aw_goto (tgt := 155) dX11_mayCopy_151 (by decide) ?_
  exact abX11_mayCopy_155 l G d hG hd kk81 kk91 _ _ _ _ _ _ _ _ _ _ _ hw
set_option maxRecDepth 100000 in
theorem abX11_mayCopy_91_i (l : Launch) (G : aG) (d : Nat) (hG : a_GT G) (hd : 3 ≤ d) {Q : Int32 → aH → Prop} {K81 : Nat → Int32 → Int32 → Int32 → Int32 → Int32 → Int32 → Int32 →  aH → Prop} (kk81 : ∀ (v0 : Nat) (v1 : Int32) (v2 : Int32) (v3 : Int32) (v4 : Int32) (v5 : Int32) (v6 : Int32) (v7 : Int32) (h : aH), K81 v0 v1 v2 v3 v4 v5 v6 v7 h → AW l G d 0 0 mX11_mayCopy (qI Q) 81 [(0, .ref v0), (1, .int v1), (2, .int v2), (3, .int v3), (4, .int v4), (5, .int v5), (6, .int v6), (7, .int v7)] [] h) {K91 : Nat → Int32 → Int32 → Int32 → Int32 → Int32 → Int32 → Int32 → Int32 →  aH → Prop} (kk91 : ∀ (v0 : Nat) (v1 : Int32) (v2 : Int32) (v3 : Int32) (v4 : Int32) (v5 : Int32) (v6 : Int32) (v7 : Int32) (v8 : Int32) (h : aH), K91 v0 v1 v2 v3 v4 v5 v6 v7 v8 h → AW l G d 0 0 mX11_mayCopy (qI Q) 91 [(0, .ref v0), (1, .int v1), (2, .int v2), (3, .int v3), (4, .int v4), (5, .int v5), (6, .int v6), (7, .int v7), (8, .int v8)] [] h) (v0 : Nat) (v1 : Int32) (v2 : Int32) (v3 : Int32) (v4 : Int32) (v5 : Int32) (v6 : Int32) (v7 : Int32) (v8 : Int32) (h : aH) (hw : wbX11_mayCopy_91_i K81 K91 v0 v1 v2 v3 v4 v5 v6 v7 v8 h Q) : AW l G d 0 0 mX11_mayCopy (qI Q) 91 [(0, .ref v0), (1, .int v1), (2, .int v2), (3, .int v3), (4, .int v4), (5, .int v5), (6, .int v6), (7, .int v7), (8, .int v8)] [] h := by
  unfold wbX11_mayCopy_91_i at hw
  refine aw_iload 8 dX11_mayCopy_91 rfl ?_
  refine aw_bipush (v := 10) dX11_mayCopy_93 (by decide) ?_
  refine aw_icmp_ge (tgt := 210) dX11_mayCopy_95 (by decide) (fun z => ?_) (fun z => ?_)
  · have hw := hw.1 z
    refine aw_iinc (v := (v7 + 1)) (lv' := [(7, .int (v7 + 1)), (0, .ref v0), (1, .int v1), (2, .int v2), (3, .int v3), (4, .int v4), (5, .int v5), (6, .int v6), (8, .int v8)]) 7 dX11_mayCopy_210 rfl rfl (by decide) rfl ?_
    refine aw_goto (tgt := 81) dX11_mayCopy_213 (by decide) ?_
    refine aw_sub (lv' := [(0, .ref v0), (1, .int v1), (2, .int v2), (3, .int v3), (4, .int v4), (5, .int v5), (6, .int v6), (7, .int (v7 + 1))]) [1, 2, 3, 4, 5, 6, 7, 0] rfl ?_
    exact kk81 _ _ _ _ _ _ _ _ _ hw
  · have hw := hw.2 z
    refine aw_aload_n 0 dX11_mayCopy_98 rfl rfl ?_
    obtain ⟨fs13, r12, h1, h2, hw⟩ := hw
    refine aw_getf (k := 39) dX11_mayCopy_99 clX11 (by decide) k_987 (Or.inl rfl) h1 h2 ?_
    refine aw_iload_n 2 dX11_mayCopy_102 rfl rfl ?_
    obtain ⟨_, _, r14, h1, h2, h3, hw⟩ := hw
    refine aw_aI dX11_mayCopy_103 h1 h2 h3 ?_
    refine aw_iload 7 dX11_mayCopy_104 rfl ?_
    refine aw_ishr dX11_mayCopy_106 ?_
    refine aw_iconst (v := 1) dX11_mayCopy_107 (by decide) ?_
    refine aw_iand dX11_mayCopy_108 ?_
    refine aw_iconst (v := 1) dX11_mayCopy_109 (by decide) ?_
    refine aw_icmp_ne (tgt := 204) dX11_mayCopy_110 (by decide) (fun z => ?_) (fun z => ?_)
    · have hw := hw.1 z
      exact abX11_mayCopy_204 l G d hG hd kk81 kk91 _ _ _ _ _ _ _ _ _ _ hw
    · have hw := hw.2 z
      refine aw_aload_n 0 dX11_mayCopy_113 rfl rfl ?_
      obtain ⟨fs16, r15, h1, h2, hw⟩ := hw
      refine aw_getf (k := 39) dX11_mayCopy_114 clX11 (by decide) k_987 (Or.inl rfl) h1 h2 ?_
      refine aw_iload_n 3 dX11_mayCopy_117 rfl rfl ?_
      obtain ⟨_, _, r17, h1, h2, h3, hw⟩ := hw
      refine aw_aI dX11_mayCopy_118 h1 h2 h3 ?_
      refine aw_iload 8 dX11_mayCopy_119 rfl ?_
      refine aw_ishr dX11_mayCopy_121 ?_
      refine aw_iconst (v := 1) dX11_mayCopy_122 (by decide) ?_
      refine aw_iand dX11_mayCopy_123 ?_
      refine aw_iconst (v := 1) dX11_mayCopy_124 (by decide) ?_
      refine aw_icmp_ne (tgt := 204) dX11_mayCopy_125 (by decide) (fun z => ?_) (fun z => ?_)
      · have hw := hw.1 z
        exact abX11_mayCopy_204 l G d hG hd kk81 kk91 _ _ _ _ _ _ _ _ _ _ hw
      · have hw := hw.2 z
        refine aw_iload 4 dX11_mayCopy_128 rfl ?_
        refine aw_iload 7 dX11_mayCopy_130 rfl ?_
        refine aw_iload 8 dX11_mayCopy_132 rfl ?_
        refine aw_staticI (As := [.int v7, .int v8]) (rest := [.int v4]) dX11_mayCopy_134 (acX11_meet l G (d - 1) hG (by omega) hw) iX11_meet rfl k_1213 k_1214 (by omega) (by decide) (by decide) rfl (Nat.le_of_ble_eq_true rfl) (fun r19 h18 hw => ?_)
        refine aw_if_eq (tgt := 150) dX11_mayCopy_137 (by decide) (fun z => ?_) (fun z => ?_)
        · have hw := hw.1 z
          refine aw_sub (lv' := [(0, .ref v0), (1, .int v1), (2, .int v2), (3, .int v3), (5, .int v5), (6, .int v6), (7, .int v7), (8, .int v8)]) [0, 1, 2, 3, 5, 6, 7, 8] rfl ?_
          exact abX11_mayCopy_150 l G d hG hd kk81 kk91 _ _ _ _ _ _ _ _ _ _ hw
        · have hw := hw.2 z
          refine aw_iload 7 dX11_mayCopy_140 rfl ?_
          refine aw_iload 8 dX11_mayCopy_142 rfl ?_
          refine aw_staticI (As := [.int v7, .int v8]) (rest := [.int v4]) dX11_mayCopy_144 (acX11_partly l G (d - 1) hG (by omega) hw) iX11_partly rfl k_1338 k_1339 (by omega) (by decide) (by decide) rfl (Nat.le_of_ble_eq_true rfl) (fun r21 h20 hw => ?_)
          refine aw_if_eq (tgt := 154) dX11_mayCopy_147 (by decide) (fun z => ?_) (fun z => ?_)
          · have hw := hw.1 z
            refine aw_iconst (v := 0) dX11_mayCopy_154 (by decide) ?_
            refine aw_sub (lv' := [(0, .ref v0), (1, .int v1), (2, .int v2), (3, .int v3), (5, .int v5), (6, .int v6), (7, .int v7), (8, .int v8)]) [0, 1, 2, 3, 5, 6, 7, 8] rfl ?_
            exact abX11_mayCopy_155 l G d hG hd kk81 kk91 _ _ _ _ _ _ _ _ _ _ _ hw
          · have hw := hw.2 z
            refine aw_sub (lv' := [(0, .ref v0), (1, .int v1), (2, .int v2), (3, .int v3), (5, .int v5), (6, .int v6), (7, .int v7), (8, .int v8)]) [0, 1, 2, 3, 5, 6, 7, 8] rfl ?_
            exact abX11_mayCopy_150 l G d hG hd kk81 kk91 _ _ _ _ _ _ _ _ _ _ hw
set_option maxRecDepth 100000 in
theorem abX11_mayCopy_91 (l : Launch) (G : aG) (d : Nat) (hG : a_GT G) (hd : 3 ≤ d) {Q : Int32 → aH → Prop} {K81 : Nat → Int32 → Int32 → Int32 → Int32 → Int32 → Int32 → Int32 →  aH → Prop} (kk81 : ∀ (v0 : Nat) (v1 : Int32) (v2 : Int32) (v3 : Int32) (v4 : Int32) (v5 : Int32) (v6 : Int32) (v7 : Int32) (h : aH), K81 v0 v1 v2 v3 v4 v5 v6 v7 h → AW l G d 0 0 mX11_mayCopy (qI Q) 81 [(0, .ref v0), (1, .int v1), (2, .int v2), (3, .int v3), (4, .int v4), (5, .int v5), (6, .int v6), (7, .int v7)] [] h) (n : Nat) : ∀  (v0 : Nat) (v1 : Int32) (v2 : Int32) (v3 : Int32) (v4 : Int32) (v5 : Int32) (v6 : Int32) (v7 : Int32) (v8 : Int32) (h : aH), wbX11_mayCopy_91 K81 n v0 v1 v2 v3 v4 v5 v6 v7 v8 h Q → AW l G d 0 0 mX11_mayCopy (qI Q) 91 [(0, .ref v0), (1, .int v1), (2, .int v2), (3, .int v3), (4, .int v4), (5, .int v5), (6, .int v6), (7, .int v7), (8, .int v8)] [] h := by
  induction n with
  | zero => exact fun _ _ _ _ _ _ _ _ _ _ hw => hw.elim
  | succ n ih => exact fun _ _ _ _ _ _ _ _ _ _ hw => abX11_mayCopy_91_i l G d hG hd kk81 ih _ _ _ _ _ _ _ _ _ _ hw
set_option maxRecDepth 100000 in
theorem abX11_mayCopy_81_i (l : Launch) (G : aG) (d : Nat) (hG : a_GT G) (hd : 3 ≤ d) {Q : Int32 → aH → Prop} {K81 : Nat → Int32 → Int32 → Int32 → Int32 → Int32 → Int32 → Int32 →  aH → Prop} (kk81 : ∀ (v0 : Nat) (v1 : Int32) (v2 : Int32) (v3 : Int32) (v4 : Int32) (v5 : Int32) (v6 : Int32) (v7 : Int32) (h : aH), K81 v0 v1 v2 v3 v4 v5 v6 v7 h → AW l G d 0 0 mX11_mayCopy (qI Q) 81 [(0, .ref v0), (1, .int v1), (2, .int v2), (3, .int v3), (4, .int v4), (5, .int v5), (6, .int v6), (7, .int v7)] [] h) (v0 : Nat) (v1 : Int32) (v2 : Int32) (v3 : Int32) (v4 : Int32) (v5 : Int32) (v6 : Int32) (v7 : Int32) (h : aH) (hw : wbX11_mayCopy_81_i K81 v0 v1 v2 v3 v4 v5 v6 v7 h Q) : AW l G d 0 0 mX11_mayCopy (qI Q) 81 [(0, .ref v0), (1, .int v1), (2, .int v2), (3, .int v3), (4, .int v4), (5, .int v5), (6, .int v6), (7, .int v7)] [] h := by
  unfold wbX11_mayCopy_81_i at hw
  refine aw_iload 7 dX11_mayCopy_81 rfl ?_
  refine aw_bipush (v := 10) dX11_mayCopy_83 (by decide) ?_
  refine aw_icmp_ge (tgt := 216) dX11_mayCopy_85 (by decide) (fun z => ?_) (fun z => ?_)
  · have hw := hw.1 z
    refine aw_iload 4 dX11_mayCopy_216 rfl ?_
    refine aw_if_eq (tgt := 229) dX11_mayCopy_218 (by decide) (fun z => ?_) (fun z => ?_)
    · have hw := hw.1 z
      refine aw_sub (lv' := [(0, .ref v0), (1, .int v1), (2, .int v2), (3, .int v3), (5, .int v5), (6, .int v6)]) [0, 1, 2, 3, 5, 6] rfl ?_
      exact abX11_mayCopy_229 l G d hG hd _ _ _ _ _ _ _ hw
    · have hw := hw.2 z
      refine aw_aload_n 0 dX11_mayCopy_221 rfl rfl ?_
      refine aw_iload_n 1 dX11_mayCopy_222 rfl rfl ?_
      refine aw_iconst (v := 5) dX11_mayCopy_223 (by decide) ?_
      refine aw_iconst (v := (-1)) dX11_mayCopy_224 (by decide) ?_
      refine aw_iconst (v := 0) dX11_mayCopy_225 (by decide) ?_
      obtain ⟨_, h1, hw⟩ := hw
      refine aw_virtV (As := [.int v1, .int 5, .int (-1), .int 0]) (rest := []) dX11_mayCopy_226 (acX11_mayFail l G (d - 1) hG (by omega) hw) iX11_mayFail rfl k_1310 k_1312 k_79 rfl h1 (by omega) (by decide) (by decide) rfl (Nat.le_of_ble_eq_true rfl) (fun h22 hw => ?_)
      refine aw_sub (lv' := [(0, .ref v0), (1, .int v1), (2, .int v2), (3, .int v3), (5, .int v5), (6, .int v6)]) [0, 1, 2, 3, 5, 6] rfl ?_
      exact abX11_mayCopy_229 l G d hG hd _ _ _ _ _ _ _ hw
  · have hw := hw.2 z
    refine aw_iconst (v := 1) dX11_mayCopy_88 (by decide) ?_
    refine aw_istore (lv' := [(8, .int 1), (0, .ref v0), (1, .int v1), (2, .int v2), (3, .int v3), (4, .int v4), (5, .int v5), (6, .int v6), (7, .int v7)]) dX11_mayCopy_89 (by decide) rfl ?_
    obtain ⟨n, hw⟩ := hw
    refine aw_sub (lv' := [(0, .ref v0), (1, .int v1), (2, .int v2), (3, .int v3), (4, .int v4), (5, .int v5), (6, .int v6), (7, .int v7), (8, .int 1)]) [1, 2, 3, 4, 5, 6, 7, 8, 0] rfl ?_
    exact abX11_mayCopy_91 l G d hG hd kk81 n _ _ _ _ _ _ _ _ _ _ hw
set_option maxRecDepth 100000 in
theorem abX11_mayCopy_81 (l : Launch) (G : aG) (d : Nat) (hG : a_GT G) (hd : 3 ≤ d) {Q : Int32 → aH → Prop} (n : Nat) : ∀  (v0 : Nat) (v1 : Int32) (v2 : Int32) (v3 : Int32) (v4 : Int32) (v5 : Int32) (v6 : Int32) (v7 : Int32) (h : aH), wbX11_mayCopy_81 n v0 v1 v2 v3 v4 v5 v6 v7 h Q → AW l G d 0 0 mX11_mayCopy (qI Q) 81 [(0, .ref v0), (1, .int v1), (2, .int v2), (3, .int v3), (4, .int v4), (5, .int v5), (6, .int v6), (7, .int v7)] [] h := by
  induction n with
  | zero => exact fun _ _ _ _ _ _ _ _ _ hw => hw.elim
  | succ n ih => exact fun _ _ _ _ _ _ _ _ _ hw => abX11_mayCopy_81_i l G d hG hd ih _ _ _ _ _ _ _ _ _ hw
set_option maxRecDepth 100000 in
theorem abX11_mayCopy_27 (l : Launch) (G : aG) (d : Nat) (hG : a_GT G) (hd : 3 ≤ d) {Q : Int32 → aH → Prop} (v0 : Nat) (v1 : Int32) (v2 : Int32) (v3 : Int32) (h : aH) (hw : wbX11_mayCopy_27 v0 v1 v2 v3 h Q) : AW l G d 0 0 mX11_mayCopy (qI Q) 27 [(0, .ref v0), (1, .int v1), (2, .int v2), (3, .int v3)] [] h := by
  unfold wbX11_mayCopy_27 at hw
  refine aw_aload_n 0 dX11_mayCopy_27 rfl rfl ?_
  obtain ⟨fs24, r23, h1, h2, hw⟩ := hw
  refine aw_getf (k := 39) dX11_mayCopy_28 clX11 (by decide) k_987 (Or.inl rfl) h1 h2 ?_
  refine aw_iload_n 2 dX11_mayCopy_31 rfl rfl ?_
  refine aw_dup2 dX11_mayCopy_32 rfl rfl ?_
  obtain ⟨_, _, r25, h1, h2, h3, hw⟩ := hw
  refine aw_aI dX11_mayCopy_33 h1 h2 h3 ?_
  refine aw_bipush (v := (-2)) dX11_mayCopy_34 (by decide) ?_
  refine aw_iand dX11_mayCopy_36 ?_
  obtain ⟨_, _, h1, h2, hw⟩ := hw
  refine aw_iast dX11_mayCopy_37 h1 h2 ?_
  generalize a_up _ _ _ = h26 at hw ⊢
  refine aw_aload_n 0 dX11_mayCopy_38 rfl rfl ?_
  obtain ⟨fs28, r27, h1, h2, hw⟩ := hw
  refine aw_getf (k := 39) dX11_mayCopy_39 clX11 (by decide) k_987 (Or.inl rfl) h1 h2 ?_
  refine aw_iload_n 3 dX11_mayCopy_42 rfl rfl ?_
  refine aw_dup2 dX11_mayCopy_43 rfl rfl ?_
  obtain ⟨_, _, r29, h1, h2, h3, hw⟩ := hw
  refine aw_aI dX11_mayCopy_44 h1 h2 h3 ?_
  refine aw_bipush (v := (-2)) dX11_mayCopy_45 (by decide) ?_
  refine aw_iand dX11_mayCopy_47 ?_
  obtain ⟨_, _, h1, h2, hw⟩ := hw
  refine aw_iast dX11_mayCopy_48 h1 h2 ?_
  generalize a_up _ _ _ = h30 at hw ⊢
  refine aw_aload_n 0 dX11_mayCopy_49 rfl rfl ?_
  obtain ⟨fs32, r31, h1, h2, hw⟩ := hw
  refine aw_getf (k := 39) dX11_mayCopy_50 clX11 (by decide) k_987 (Or.inl rfl) h1 h2 ?_
  refine aw_iload_n 2 dX11_mayCopy_53 rfl rfl ?_
  obtain ⟨_, _, r33, h1, h2, h3, hw⟩ := hw
  refine aw_aI dX11_mayCopy_54 h1 h2 h3 ?_
  refine aw_if_eq (tgt := 67) dX11_mayCopy_55 (by decide) (fun z => ?_) (fun z => ?_)
  · have hw := hw.1 z
    refine aw_sub (lv' := []) [] rfl ?_
    exact abX11_mayCopy_67 l G d hG hd _ hw
  · have hw := hw.2 z
    refine aw_aload_n 0 dX11_mayCopy_58 rfl rfl ?_
    obtain ⟨fs35, r34, h1, h2, hw⟩ := hw
    refine aw_getf (k := 39) dX11_mayCopy_59 clX11 (by decide) k_987 (Or.inl rfl) h1 h2 ?_
    refine aw_iload_n 3 dX11_mayCopy_62 rfl rfl ?_
    obtain ⟨_, _, r36, h1, h2, h3, hw⟩ := hw
    refine aw_aI dX11_mayCopy_63 h1 h2 h3 ?_
    refine aw_if_ne (tgt := 69) dX11_mayCopy_64 (by decide) (fun z => ?_) (fun z => ?_)
    · have hw := hw.1 z
      refine aw_iconst (v := 0) dX11_mayCopy_69 (by decide) ?_
      refine aw_istore (lv' := [(4, .int 0), (0, .ref v0), (1, .int v1), (2, .int v2), (3, .int v3)]) dX11_mayCopy_70 (by decide) rfl ?_
      refine aw_iconst (v := 0) dX11_mayCopy_72 (by decide) ?_
      refine aw_istore (lv' := [(5, .int 0), (4, .int 0), (0, .ref v0), (1, .int v1), (2, .int v2), (3, .int v3)]) dX11_mayCopy_73 (by decide) rfl ?_
      refine aw_iconst (v := 0) dX11_mayCopy_75 (by decide) ?_
      refine aw_istore (lv' := [(6, .int 0), (5, .int 0), (4, .int 0), (0, .ref v0), (1, .int v1), (2, .int v2), (3, .int v3)]) dX11_mayCopy_76 (by decide) rfl ?_
      refine aw_iconst (v := 1) dX11_mayCopy_78 (by decide) ?_
      refine aw_istore (lv' := [(7, .int 1), (6, .int 0), (5, .int 0), (4, .int 0), (0, .ref v0), (1, .int v1), (2, .int v2), (3, .int v3)]) dX11_mayCopy_79 (by decide) rfl ?_
      obtain ⟨n, hw⟩ := hw
      refine aw_sub (lv' := [(0, .ref v0), (1, .int v1), (2, .int v2), (3, .int v3), (4, .int 0), (5, .int 0), (6, .int 0), (7, .int 1)]) [4, 5, 6, 7, 3, 2, 1, 0] rfl ?_
      exact abX11_mayCopy_81 l G d hG hd n _ _ _ _ _ _ _ _ _ hw
    · have hw := hw.2 z
      refine aw_sub (lv' := []) [] rfl ?_
      exact abX11_mayCopy_67 l G d hG hd _ hw
set_option maxRecDepth 100000 in
theorem acX11_mayCopy (l : Launch) (G : aG) (d : Nat) (hG : a_GT G) (hd : 3 ≤ d) {Q : Int32 → aH → Prop} {h : aH} {v0 : Nat} {v1 : Int32} {v2 : Int32} {v3 : Int32} (hw : wX11_mayCopy h v0 v1 v2 v3 Q) : AC l G d 0 0 mX11_mayCopy [.ref v0, .int v1, .int v2, .int v3] h (qI Q) := by
  refine ac_of iX11_mayCopy (Nat.le_of_ble_eq_true rfl) ?_
  show AW l G d 0 0 mX11_mayCopy (qI Q) 0 [(0, .ref v0), (1, .int v1), (2, .int v2), (3, .int v3)] [] h
  unfold wX11_mayCopy at hw
  refine aw_aload_n 0 dX11_mayCopy_0 rfl rfl ?_
  obtain ⟨fs38, r37, h1, h2, hw⟩ := hw
  refine aw_getf (k := 39) dX11_mayCopy_1 clX11 (by decide) k_987 (Or.inl rfl) h1 h2 ?_
  refine aw_iload_n 2 dX11_mayCopy_4 rfl rfl ?_
  obtain ⟨_, _, r39, h1, h2, h3, hw⟩ := hw
  refine aw_aI dX11_mayCopy_5 h1 h2 h3 ?_
  refine aw_aload_n 0 dX11_mayCopy_6 rfl rfl ?_
  obtain ⟨fs41, r40, h1, h2, hw⟩ := hw
  refine aw_getf (k := 39) dX11_mayCopy_7 clX11 (by decide) k_987 (Or.inl rfl) h1 h2 ?_
  refine aw_iload_n 3 dX11_mayCopy_10 rfl rfl ?_
  obtain ⟨_, _, r42, h1, h2, h3, hw⟩ := hw
  refine aw_aI dX11_mayCopy_11 h1 h2 h3 ?_
  refine aw_ior dX11_mayCopy_12 ?_
  refine aw_iconst (v := 1) dX11_mayCopy_13 (by decide) ?_
  refine aw_iand dX11_mayCopy_14 ?_
  refine aw_iconst (v := 1) dX11_mayCopy_15 (by decide) ?_
  refine aw_icmp_ne (tgt := 27) dX11_mayCopy_16 (by decide) (fun z => ?_) (fun z => ?_)
  · have hw := hw.1 z
    exact abX11_mayCopy_27 l G d hG hd _ _ _ _ _ hw
  · have hw := hw.2 z
    refine aw_aload_n 0 dX11_mayCopy_19 rfl rfl ?_
    refine aw_iload_n 1 dX11_mayCopy_20 rfl rfl ?_
    refine aw_iconst (v := 1) dX11_mayCopy_21 (by decide) ?_
    refine aw_iconst (v := (-1)) dX11_mayCopy_22 (by decide) ?_
    refine aw_iconst (v := 0) dX11_mayCopy_23 (by decide) ?_
    obtain ⟨_, h1, hw⟩ := hw
    refine aw_virtV (As := [.int v1, .int 1, .int (-1), .int 0]) (rest := []) dX11_mayCopy_24 (acX11_mayFail l G (d - 1) hG (by omega) hw) iX11_mayFail rfl k_1310 k_1312 k_79 rfl h1 (by omega) (by decide) (by decide) rfl (Nat.le_of_ble_eq_true rfl) (fun h43 hw => ?_)
    exact abX11_mayCopy_27 l G d hG hd _ _ _ _ _ hw
-- X11_mayTake
def wbX11_mayTake_61 (v5 : Int32) (h : aH) (Q : Int32 → aH → Prop) : Prop :=
  oB v5 ∧ Q v5 h
def wbX11_mayTake_60 (v5 : Int32) (s0 : Int32) (s1 : Int32) (s2 : Nat) (h : aH) (Q : Int32 → aH → Prop) : Prop :=
  sI h s2 s1 s0 (fun h1 => wbX11_mayTake_61 v5 h1 Q)
def wbX11_mayTake_37 (v0 : Nat) (v2 : Int32) (v4 : Int32) (v5 : Int32) (s0 : Int32) (h : aH) (Q : Int32 → aH → Prop) : Prop :=
  rR h v0 9 39 (fun r2 => (¬ v4 = 5 → wbX11_mayTake_60 v5 ((513 ||| s0)) v2 r2 h Q) ∧ (v4 = 5 → wbX11_mayTake_60 v5 3 v2 r2 h Q))
def wX11_mayTake (h : aH) (v0 : Nat) (v1 : Int32) (v2 : Int32) (v3 : Int32) (v4 : Int32) (Q : Int32 → aH → Prop) : Prop :=
  isO h v0 9 (wX11_mayItem h v0 v1 v3 v4 (fun r5 h4 => (r5 = 0 → wbX11_mayTake_61 r5 h4 Q) ∧ (¬ r5 = 0 → rR h4 v0 9 39 (fun r6 => aI h4 r6 v3 (fun r8 => (¬ ((r8 >>> (6 &&& 31)) &&& 1) = 1 → wbX11_mayTake_37 v0 v2 v4 r5 0 h4 Q) ∧ (((r8 >>> (6 &&& 31)) &&& 1) = 1 → wbX11_mayTake_37 v0 v2 v4 r5 256 h4 Q))))))
set_option maxRecDepth 100000 in
theorem abX11_mayTake_61 (l : Launch) (G : aG) (d : Nat) (hG : a_GT G) (hd : 5 ≤ d) {Q : Int32 → aH → Prop} (v5 : Int32) (h : aH) (hw : wbX11_mayTake_61 v5 h Q) : AW l G d 0 0 mX11_mayTake (qI Q) 61 [(5, .int v5)] [] h := by
  unfold wbX11_mayTake_61 at hw
  refine aw_iload 0 dX11_mayTake_61 rfl ?_
  exact aw_iret dX11_mayTake_63 rfl (a_nB hw.1) ⟨_, rfl, hw.2⟩
set_option maxRecDepth 100000 in
theorem abX11_mayTake_60 (l : Launch) (G : aG) (d : Nat) (hG : a_GT G) (hd : 5 ≤ d) {Q : Int32 → aH → Prop} (v5 : Int32) (s0 : Int32) (s1 : Int32) (s2 : Nat) (h : aH) (hw : wbX11_mayTake_60 v5 s0 s1 s2 h Q) : AW l G d 0 0 mX11_mayTake (qI Q) 60 [(5, .int v5)] [.int s0, .int s1, .ref s2] h := by
  unfold wbX11_mayTake_60 at hw
  obtain ⟨_, _, h1, h2, hw⟩ := hw
  refine aw_iast dX11_mayTake_60 h1 h2 ?_
  generalize a_up _ _ _ = h1 at hw ⊢
  exact abX11_mayTake_61 l G d hG hd _ _ hw
set_option maxRecDepth 100000 in
theorem abX11_mayTake_37 (l : Launch) (G : aG) (d : Nat) (hG : a_GT G) (hd : 5 ≤ d) {Q : Int32 → aH → Prop} (v0 : Nat) (v2 : Int32) (v4 : Int32) (v5 : Int32) (s0 : Int32) (h : aH) (hw : wbX11_mayTake_37 v0 v2 v4 v5 s0 h Q) : AW l G d 0 0 mX11_mayTake (qI Q) 37 [(0, .ref v0), (2, .int v2), (4, .int v4), (5, .int v5)] [.int s0] h := by
  unfold wbX11_mayTake_37 at hw
  refine aw_istore (lv' := [(6, .int s0), (0, .ref v0), (2, .int v2), (4, .int v4), (5, .int v5)]) dX11_mayTake_37 (by decide) rfl ?_
  refine aw_aload_n 1 dX11_mayTake_39 rfl rfl ?_
  obtain ⟨fs3, r2, h1, h2, hw⟩ := hw
  refine aw_getf (k := 39) dX11_mayTake_40 clX11 (by decide) k_987 (Or.inl rfl) h1 h2 ?_
  refine aw_iload_n 2 dX11_mayTake_43 rfl rfl ?_
  refine aw_iload 3 dX11_mayTake_44 rfl ?_
  refine aw_iconst (v := 5) dX11_mayTake_46 (by decide) ?_
  refine aw_icmp_ne (tgt := 54) dX11_mayTake_47 (by decide) (fun z => ?_) (fun z => ?_)
  · have hw := hw.1 z
    refine aw_sipush (v := 513) dX11_mayTake_54 (by decide) ?_
    refine aw_iload 0 dX11_mayTake_57 rfl ?_
    refine aw_ior dX11_mayTake_59 ?_
    refine aw_sub (lv' := [(5, .int v5)]) [4] rfl ?_
    exact abX11_mayTake_60 l G d hG hd _ _ _ _ _ hw
  · have hw := hw.2 z
    refine aw_iconst (v := 3) dX11_mayTake_50 (by decide) ?_
    refine aw_goto (tgt := 60) dX11_mayTake_51 (by decide) ?_
    refine aw_sub (lv' := [(5, .int v5)]) [4] rfl ?_
    exact abX11_mayTake_60 l G d hG hd _ _ _ _ _ hw
set_option maxRecDepth 100000 in
theorem acX11_mayTake (l : Launch) (G : aG) (d : Nat) (hG : a_GT G) (hd : 5 ≤ d) {Q : Int32 → aH → Prop} {h : aH} {v0 : Nat} {v1 : Int32} {v2 : Int32} {v3 : Int32} {v4 : Int32} (hw : wX11_mayTake h v0 v1 v2 v3 v4 Q) : AC l G d 0 0 mX11_mayTake [.ref v0, .int v1, .int v2, .int v3, .int v4] h (qI Q) := by
  refine ac_of iX11_mayTake (Nat.le_of_ble_eq_true rfl) ?_
  show AW l G d 0 0 mX11_mayTake (qI Q) 0 [(0, .ref v0), (1, .int v1), (2, .int v2), (3, .int v3), (4, .int v4)] [] h
  unfold wX11_mayTake at hw
  refine aw_aload_n 0 dX11_mayTake_0 rfl rfl ?_
  refine aw_iload_n 1 dX11_mayTake_1 rfl rfl ?_
  refine aw_iload_n 3 dX11_mayTake_2 rfl rfl ?_
  refine aw_iload 4 dX11_mayTake_3 rfl ?_
  obtain ⟨_, h1, hw⟩ := hw
  refine aw_virtI (As := [.int v1, .int v3, .int v4]) (rest := []) dX11_mayTake_5 (acX11_mayItem l G (d - 1) hG (by omega) hw) iX11_mayItem rfl k_1318 k_1320 k_81 rfl h1 (by omega) (by decide) (by decide) rfl (Nat.le_of_ble_eq_true rfl) (fun r5 h4 hw => ?_)
  refine aw_istore (lv' := [(5, .int r5), (0, .ref v0), (1, .int v1), (2, .int v2), (3, .int v3), (4, .int v4)]) dX11_mayTake_8 (by decide) rfl ?_
  refine aw_iload 0 dX11_mayTake_10 rfl ?_
  refine aw_if_eq (tgt := 61) dX11_mayTake_12 (by decide) (fun z => ?_) (fun z => ?_)
  · have hw := hw.1 z
    refine aw_sub (lv' := [(5, .int r5)]) [0] rfl ?_
    exact abX11_mayTake_61 l G d hG hd _ _ hw
  · have hw := hw.2 z
    refine aw_aload_n 1 dX11_mayTake_15 rfl rfl ?_
    obtain ⟨fs7, r6, h1, h2, hw⟩ := hw
    refine aw_getf (k := 39) dX11_mayTake_16 clX11 (by decide) k_987 (Or.inl rfl) h1 h2 ?_
    refine aw_iload_n 4 dX11_mayTake_19 rfl rfl ?_
    obtain ⟨_, _, r8, h1, h2, h3, hw⟩ := hw
    refine aw_aI dX11_mayTake_20 h1 h2 h3 ?_
    refine aw_bipush (v := 6) dX11_mayTake_21 (by decide) ?_
    refine aw_ishr dX11_mayTake_23 ?_
    refine aw_iconst (v := 1) dX11_mayTake_24 (by decide) ?_
    refine aw_iand dX11_mayTake_25 ?_
    refine aw_iconst (v := 1) dX11_mayTake_26 (by decide) ?_
    refine aw_icmp_ne (tgt := 36) dX11_mayTake_27 (by decide) (fun z => ?_) (fun z => ?_)
    · have hw := hw.1 z
      refine aw_iconst (v := 0) dX11_mayTake_36 (by decide) ?_
      refine aw_sub (lv' := [(0, .ref v0), (2, .int v2), (4, .int v4), (5, .int r5)]) [1, 3, 5, 0] rfl ?_
      exact abX11_mayTake_37 l G d hG hd _ _ _ _ _ _ hw
    · have hw := hw.2 z
      refine aw_sipush (v := 256) dX11_mayTake_30 (by decide) ?_
      refine aw_goto (tgt := 37) dX11_mayTake_33 (by decide) ?_
      refine aw_sub (lv' := [(0, .ref v0), (2, .int v2), (4, .int v4), (5, .int r5)]) [1, 3, 5, 0] rfl ?_
      exact abX11_mayTake_37 l G d hG hd _ _ _ _ _ _ hw
-- X11_mayAct
def wbX11_mayAct_124 (v3 : Int32) (v4 : Int32) (s0 : Int32) (s1 : Int32) (s2 : Nat) (h : aH) (Q : Int32 → aH → Prop) : Prop :=
  isO h s2 9 (wX11_mayNew h s2 s1 s0 v3 ((1 <<< (v4 &&& 31))) (fun r2 h1 => oB r2 ∧ Q r2 h1))
def wbX11_mayAct_150 (v3 : Int32) (s0 : Int32) (s1 : Int32) (s2 : Nat) (h : aH) (Q : Int32 → aH → Prop) : Prop :=
  isO h s2 9 (wX11_mayNew h s2 s1 s0 v3 32 (fun r4 h3 => oB r4 ∧ Q r4 h3))
def wbX11_mayAct_145 (v3 : Int32) (s0 : Int32) (s1 : Nat) (h : aH) (Q : Int32 → aH → Prop) : Prop :=
  wbX11_mayAct_150 v3 1 s0 s1 h Q
def wbX11_mayAct_169 (v3 : Int32) (s0 : Int32) (s1 : Int32) (s2 : Nat) (h : aH) (Q : Int32 → aH → Prop) : Prop :=
  isO h s2 9 (wX11_mayNew h s2 s1 s0 v3 32 (fun r6 h5 => oB r6 ∧ Q r6 h5))
def wbX11_mayAct_194 (s0 : Int32) (s1 : Int32) (s2 : Int32) (s3 : Int32) (s4 : Nat) (h : aH) (Q : Int32 → aH → Prop) : Prop :=
  isO h s4 9 (wX11_mayNew h s4 s3 s2 s1 s0 (fun r8 h7 => oB r8 ∧ Q r8 h7))
def wbX11_mayAct_220 (v0 : Nat) (v3 : Int32) (v4 : Int32) (s0 : Int32) (h : aH) (Q : Int32 → aH → Prop) : Prop :=
  rR h v0 9 39 (fun r9 => rR h v0 9 39 (fun r11 => aI h r11 v4 (fun r13 => sI h r9 v3 r13 (fun h14 => oB s0 ∧ Q s0 h14))))
def wbX11_mayAct_215 (v0 : Nat) (v3 : Int32) (v4 : Int32) (h : aH) (Q : Int32 → aH → Prop) : Prop :=
  wbX11_mayAct_220 v0 v3 v4 1 h Q
def wbX11_mayAct_310 (s0 : Int32) (h : aH) (Q : Int32 → aH → Prop) : Prop :=
  oB s0 ∧ Q s0 h
def wbX11_mayAct_309 (h : aH) (Q : Int32 → aH → Prop) : Prop :=
  wbX11_mayAct_310 0 h Q
def wbX11_mayAct_348 (s0 : Int32) (h : aH) (Q : Int32 → aH → Prop) : Prop :=
  oB s0 ∧ Q s0 h
def wbX11_mayAct_347 (h : aH) (Q : Int32 → aH → Prop) : Prop :=
  wbX11_mayAct_348 0 h Q
def wbX11_mayAct_376 (s0 : Int32) (h : aH) (Q : Int32 → aH → Prop) : Prop :=
  oB s0 ∧ Q s0 h
def wbX11_mayAct_375 (h : aH) (Q : Int32 → aH → Prop) : Prop :=
  wbX11_mayAct_376 0 h Q
def wbX11_mayAct_386 (h : aH) (Q : Int32 → aH → Prop) : Prop :=
  oB 1 ∧ Q 1 h
def wbX11_mayAct_388 (v0 : Nat) (v1 : Int32) (h : aH) (Q : Int32 → aH → Prop) : Prop :=
  isO h v0 9 (wX11_mayFail h v0 v1 6 ((-1)) 0 (fun h15 => oB 1 ∧ Q 1 h15))
def wX11_mayAct (h : aH) (v0 : Nat) (v1 : Int32) (v2 : Int32) (Q : Int32 → aH → Prop) : Prop :=
  rR h v0 9 12 (fun r16 => aI h r16 v2 (fun r18 => rR h v0 9 13 (fun r19 => aI h r19 v2 (fun r21 => rR h v0 9 14 (fun r22 => aI h r22 v2 (fun r24 => rR h v0 9 11 (fun r25 => aI h r25 v2 (fun r27 => ((r27.toInt < 0 ∨ 16 < r27.toInt) → isO h v0 9 (wX11_mayFail h v0 v1 7 ((-1)) 0 (fun h28 => oB 0 ∧ Q 0 h28))) ∧ (r27.toInt = 0 → (0 ≤ r24 → wbX11_mayAct_124 r18 r21 0 v1 v0 h Q) ∧ (¬ 0 ≤ r24 → wbX11_mayAct_124 r18 r21 1 v1 v0 h Q)) ∧ (r27.toInt = 1 → (r21 < 0 → wbX11_mayAct_145 r18 v1 v0 h Q) ∧ (¬ r21 < 0 → (0 ≤ r24 → wbX11_mayAct_150 r18 0 v1 v0 h Q) ∧ (¬ 0 ≤ r24 → wbX11_mayAct_145 r18 v1 v0 h Q))) ∧ (r27.toInt = 2 → (0 ≤ r21 → wbX11_mayAct_169 r18 0 v1 v0 h Q) ∧ (¬ 0 ≤ r21 → wbX11_mayAct_169 r18 1 v1 v0 h Q)) ∧ (r27.toInt = 3 → (¬ r21 = 0 → wbX11_mayAct_194 512 r18 0 v1 v0 h Q) ∧ (r21 = 0 → wbX11_mayAct_194 256 r18 0 v1 v0 h Q)) ∧ (r27.toInt = 4 → (r24 = 0 → wbX11_mayAct_215 v0 r18 r21 h Q) ∧ (¬ r24 = 0 → isO h v0 9 (wX11_mayAs h v0 v1 r21 r24 (fun r30 h29 => (r30 = 0 → wbX11_mayAct_220 v0 r18 r21 0 h29 Q) ∧ (¬ r30 = 0 → wbX11_mayAct_215 v0 r18 r21 h29 Q))))) ∧ (r27.toInt = 5 → isO h v0 9 (wX11_mayItem h v0 v1 r21 r24 (fun r32 h31 => oB r32 ∧ Q r32 h31))) ∧ (r27.toInt = 6 → isO h v0 9 (wX11_mayItem h v0 v1 r18 r21 (fun r34 h33 => oB r34 ∧ Q r34 h33))) ∧ (r27.toInt = 7 → isO h v0 9 (wX11_mayTake h v0 v1 r18 r21 r24 (fun r36 h35 => oB r36 ∧ Q r36 h35))) ∧ (r27.toInt = 8 → rR h v0 9 15 (fun r37 => aI h r37 v2 (fun r39 => isO h v0 9 (wX11_mayLay h v0 v1 r18 r21 r39 (fun r41 h40 => oB r41 ∧ Q r41 h40))))) ∧ (r27.toInt = 9 → isO h v0 9 (wX11_mayAs h v0 v1 r21 r24 (fun r43 h42 => (r43 = 0 → wbX11_mayAct_309 h42 Q) ∧ (¬ r43 = 0 → isO h42 v0 9 (wX11_mayRow h42 v0 v1 r21 (fun r45 h44 => (r45 = 0 → wbX11_mayAct_309 h44 Q) ∧ (¬ r45 = 0 → wbX11_mayAct_310 1 h44 Q))))))) ∧ (r27.toInt = 10 → isO h v0 9 (wX11_mayAs h v0 v1 r21 1 (fun r47 h46 => (r47 = 0 → wbX11_mayAct_347 h46 Q) ∧ (¬ r47 = 0 → isO h46 v0 9 (wX11_mayRow h46 v0 v1 r21 (fun r49 h48 => (r49 = 0 → wbX11_mayAct_347 h48 Q) ∧ (¬ r49 = 0 → isO h48 v0 9 (wX11_mayNew h48 v0 v1 0 r18 2 (fun r51 h50 => (r51 = 0 → wbX11_mayAct_347 h50 Q) ∧ (¬ r51 = 0 → wbX11_mayAct_348 1 h50 Q)))))))))) ∧ (r27.toInt = 11 → isO h v0 9 (wX11_mayAs h v0 v1 r21 8 (fun r53 h52 => (r53 = 0 → wbX11_mayAct_375 h52 Q) ∧ (¬ r53 = 0 → isO h52 v0 9 (wX11_mayRow h52 v0 v1 r21 (fun r55 h54 => (r55 = 0 → wbX11_mayAct_375 h54 Q) ∧ (¬ r55 = 0 → wbX11_mayAct_376 1 h54 Q))))))) ∧ (r27.toInt = 12 → isO h v0 9 (wX11_mayCopy h v0 v1 r18 r24 (fun r57 h56 => oB r57 ∧ Q r57 h56))) ∧ (r27.toInt = 13 → wbX11_mayAct_386  h Q) ∧ (r27.toInt = 14 → wbX11_mayAct_386  h Q) ∧ (r27.toInt = 15 → wbX11_mayAct_388 v0 v1 h Q) ∧ (r27.toInt = 16 → wbX11_mayAct_388 v0 v1 h Q)))))))))
set_option maxRecDepth 100000 in
theorem abX11_mayAct_124 (l : Launch) (G : aG) (d : Nat) (hG : a_GT G) (hd : 6 ≤ d) {Q : Int32 → aH → Prop} (v3 : Int32) (v4 : Int32) (s0 : Int32) (s1 : Int32) (s2 : Nat) (h : aH) (hw : wbX11_mayAct_124 v3 v4 s0 s1 s2 h Q) : AW l G d 0 0 mX11_mayAct (qI Q) 124 [(3, .int v3), (4, .int v4)] [.int s0, .int s1, .ref s2] h := by
  unfold wbX11_mayAct_124 at hw
  refine aw_iload_n 0 dX11_mayAct_124 rfl rfl ?_
  refine aw_iconst (v := 1) dX11_mayAct_125 (by decide) ?_
  refine aw_iload 1 dX11_mayAct_126 rfl ?_
  refine aw_ishl dX11_mayAct_128 ?_
  obtain ⟨_, h1, hw⟩ := hw
  refine aw_virtI (As := [.int s1, .int s0, .int v3, .int (1 <<< (v4 &&& 31))]) (rest := []) dX11_mayAct_129 (acX11_mayNew l G (d - 1) hG (by omega) hw) iX11_mayNew rfl k_1306 k_1308 k_78 rfl h1 (by omega) (by decide) (by decide) rfl (Nat.le_of_ble_eq_true rfl) (fun r2 h1 hw => ?_)
  exact aw_iret dX11_mayAct_132 rfl (a_nB hw.1) ⟨_, rfl, hw.2⟩
set_option maxRecDepth 100000 in
theorem abX11_mayAct_150 (l : Launch) (G : aG) (d : Nat) (hG : a_GT G) (hd : 6 ≤ d) {Q : Int32 → aH → Prop} (v3 : Int32) (s0 : Int32) (s1 : Int32) (s2 : Nat) (h : aH) (hw : wbX11_mayAct_150 v3 s0 s1 s2 h Q) : AW l G d 0 0 mX11_mayAct (qI Q) 150 [(3, .int v3)] [.int s0, .int s1, .ref s2] h := by
  unfold wbX11_mayAct_150 at hw
  refine aw_iload_n 0 dX11_mayAct_150 rfl rfl ?_
  refine aw_bipush (v := 32) dX11_mayAct_151 (by decide) ?_
  obtain ⟨_, h1, hw⟩ := hw
  refine aw_virtI (As := [.int s1, .int s0, .int v3, .int 32]) (rest := []) dX11_mayAct_153 (acX11_mayNew l G (d - 1) hG (by omega) hw) iX11_mayNew rfl k_1306 k_1308 k_78 rfl h1 (by omega) (by decide) (by decide) rfl (Nat.le_of_ble_eq_true rfl) (fun r4 h3 hw => ?_)
  exact aw_iret dX11_mayAct_156 rfl (a_nB hw.1) ⟨_, rfl, hw.2⟩
set_option maxRecDepth 100000 in
theorem abX11_mayAct_145 (l : Launch) (G : aG) (d : Nat) (hG : a_GT G) (hd : 6 ≤ d) {Q : Int32 → aH → Prop} (v3 : Int32) (s0 : Int32) (s1 : Nat) (h : aH) (hw : wbX11_mayAct_145 v3 s0 s1 h Q) : AW l G d 0 0 mX11_mayAct (qI Q) 145 [(3, .int v3)] [.int s0, .ref s1] h := by
  unfold wbX11_mayAct_145 at hw
  refine aw_iconst (v := 1) dX11_mayAct_145 (by decide) ?_
  refine aw_goto (tgt := 150) dX11_mayAct_146 (by decide) ?_
  exact abX11_mayAct_150 l G d hG hd _ _ _ _ _ hw
set_option maxRecDepth 100000 in
theorem abX11_mayAct_169 (l : Launch) (G : aG) (d : Nat) (hG : a_GT G) (hd : 6 ≤ d) {Q : Int32 → aH → Prop} (v3 : Int32) (s0 : Int32) (s1 : Int32) (s2 : Nat) (h : aH) (hw : wbX11_mayAct_169 v3 s0 s1 s2 h Q) : AW l G d 0 0 mX11_mayAct (qI Q) 169 [(3, .int v3)] [.int s0, .int s1, .ref s2] h := by
  unfold wbX11_mayAct_169 at hw
  refine aw_iload_n 0 dX11_mayAct_169 rfl rfl ?_
  refine aw_bipush (v := 32) dX11_mayAct_170 (by decide) ?_
  obtain ⟨_, h1, hw⟩ := hw
  refine aw_virtI (As := [.int s1, .int s0, .int v3, .int 32]) (rest := []) dX11_mayAct_172 (acX11_mayNew l G (d - 1) hG (by omega) hw) iX11_mayNew rfl k_1306 k_1308 k_78 rfl h1 (by omega) (by decide) (by decide) rfl (Nat.le_of_ble_eq_true rfl) (fun r6 h5 hw => ?_)
  exact aw_iret dX11_mayAct_175 rfl (a_nB hw.1) ⟨_, rfl, hw.2⟩
set_option maxRecDepth 100000 in
theorem abX11_mayAct_194 (l : Launch) (G : aG) (d : Nat) (hG : a_GT G) (hd : 6 ≤ d) {Q : Int32 → aH → Prop} (s0 : Int32) (s1 : Int32) (s2 : Int32) (s3 : Int32) (s4 : Nat) (h : aH) (hw : wbX11_mayAct_194 s0 s1 s2 s3 s4 h Q) : AW l G d 0 0 mX11_mayAct (qI Q) 194 [] [.int s0, .int s1, .int s2, .int s3, .ref s4] h := by
  unfold wbX11_mayAct_194 at hw
  obtain ⟨_, h1, hw⟩ := hw
  refine aw_virtI (As := [.int s3, .int s2, .int s1, .int s0]) (rest := []) dX11_mayAct_194 (acX11_mayNew l G (d - 1) hG (by omega) hw) iX11_mayNew rfl k_1306 k_1308 k_78 rfl h1 (by omega) (by decide) (by decide) rfl (Nat.le_of_ble_eq_true rfl) (fun r8 h7 hw => ?_)
  exact aw_iret dX11_mayAct_197 rfl (a_nB hw.1) ⟨_, rfl, hw.2⟩
set_option maxRecDepth 100000 in
theorem abX11_mayAct_220 (l : Launch) (G : aG) (d : Nat) (hG : a_GT G) (hd : 6 ≤ d) {Q : Int32 → aH → Prop} (v0 : Nat) (v3 : Int32) (v4 : Int32) (s0 : Int32) (h : aH) (hw : wbX11_mayAct_220 v0 v3 v4 s0 h Q) : AW l G d 0 0 mX11_mayAct (qI Q) 220 [(0, .ref v0), (3, .int v3), (4, .int v4)] [.int s0] h := by
  unfold wbX11_mayAct_220 at hw
  refine aw_istore (lv' := [(6, .int s0), (0, .ref v0), (3, .int v3), (4, .int v4)]) dX11_mayAct_220 (by decide) rfl ?_
  refine aw_aload_n 1 dX11_mayAct_222 rfl rfl ?_
  obtain ⟨fs10, r9, h1, h2, hw⟩ := hw
  refine aw_getf (k := 39) dX11_mayAct_223 clX11 (by decide) k_987 (Or.inl rfl) h1 h2 ?_
  refine aw_iload_n 2 dX11_mayAct_226 rfl rfl ?_
  refine aw_aload_n 1 dX11_mayAct_227 rfl rfl ?_
  obtain ⟨fs12, r11, h1, h2, hw⟩ := hw
  refine aw_getf (k := 39) dX11_mayAct_228 clX11 (by decide) k_987 (Or.inl rfl) h1 h2 ?_
  refine aw_iload 3 dX11_mayAct_231 rfl ?_
  obtain ⟨_, _, r13, h1, h2, h3, hw⟩ := hw
  refine aw_aI dX11_mayAct_233 h1 h2 h3 ?_
  obtain ⟨_, _, h1, h2, hw⟩ := hw
  refine aw_iast dX11_mayAct_234 h1 h2 ?_
  generalize a_up _ _ _ = h14 at hw ⊢
  refine aw_iload 0 dX11_mayAct_235 rfl ?_
  exact aw_iret dX11_mayAct_237 rfl (a_nB hw.1) ⟨_, rfl, hw.2⟩
set_option maxRecDepth 100000 in
theorem abX11_mayAct_215 (l : Launch) (G : aG) (d : Nat) (hG : a_GT G) (hd : 6 ≤ d) {Q : Int32 → aH → Prop} (v0 : Nat) (v3 : Int32) (v4 : Int32) (h : aH) (hw : wbX11_mayAct_215 v0 v3 v4 h Q) : AW l G d 0 0 mX11_mayAct (qI Q) 215 [(0, .ref v0), (3, .int v3), (4, .int v4)] [] h := by
  unfold wbX11_mayAct_215 at hw
  refine aw_iconst (v := 1) dX11_mayAct_215 (by decide) ?_
  refine aw_goto (tgt := 220) dX11_mayAct_216 (by decide) ?_
  exact abX11_mayAct_220 l G d hG hd _ _ _ _ _ hw
set_option maxRecDepth 100000 in
theorem abX11_mayAct_310 (l : Launch) (G : aG) (d : Nat) (hG : a_GT G) (hd : 6 ≤ d) {Q : Int32 → aH → Prop} (s0 : Int32) (h : aH) (hw : wbX11_mayAct_310 s0 h Q) : AW l G d 0 0 mX11_mayAct (qI Q) 310 [] [.int s0] h := by
  unfold wbX11_mayAct_310 at hw
  exact aw_iret dX11_mayAct_310 rfl (a_nB hw.1) ⟨_, rfl, hw.2⟩
set_option maxRecDepth 100000 in
theorem abX11_mayAct_309 (l : Launch) (G : aG) (d : Nat) (hG : a_GT G) (hd : 6 ≤ d) {Q : Int32 → aH → Prop} (h : aH) (hw : wbX11_mayAct_309  h Q) : AW l G d 0 0 mX11_mayAct (qI Q) 309 [] [] h := by
  unfold wbX11_mayAct_309 at hw
  refine aw_iconst (v := 0) dX11_mayAct_309 (by decide) ?_
  exact abX11_mayAct_310 l G d hG hd _ _ hw
set_option maxRecDepth 100000 in
theorem abX11_mayAct_348 (l : Launch) (G : aG) (d : Nat) (hG : a_GT G) (hd : 6 ≤ d) {Q : Int32 → aH → Prop} (s0 : Int32) (h : aH) (hw : wbX11_mayAct_348 s0 h Q) : AW l G d 0 0 mX11_mayAct (qI Q) 348 [] [.int s0] h := by
  unfold wbX11_mayAct_348 at hw
  exact aw_iret dX11_mayAct_348 rfl (a_nB hw.1) ⟨_, rfl, hw.2⟩
set_option maxRecDepth 100000 in
theorem abX11_mayAct_347 (l : Launch) (G : aG) (d : Nat) (hG : a_GT G) (hd : 6 ≤ d) {Q : Int32 → aH → Prop} (h : aH) (hw : wbX11_mayAct_347  h Q) : AW l G d 0 0 mX11_mayAct (qI Q) 347 [] [] h := by
  unfold wbX11_mayAct_347 at hw
  refine aw_iconst (v := 0) dX11_mayAct_347 (by decide) ?_
  exact abX11_mayAct_348 l G d hG hd _ _ hw
set_option maxRecDepth 100000 in
theorem abX11_mayAct_376 (l : Launch) (G : aG) (d : Nat) (hG : a_GT G) (hd : 6 ≤ d) {Q : Int32 → aH → Prop} (s0 : Int32) (h : aH) (hw : wbX11_mayAct_376 s0 h Q) : AW l G d 0 0 mX11_mayAct (qI Q) 376 [] [.int s0] h := by
  unfold wbX11_mayAct_376 at hw
  exact aw_iret dX11_mayAct_376 rfl (a_nB hw.1) ⟨_, rfl, hw.2⟩
set_option maxRecDepth 100000 in
theorem abX11_mayAct_375 (l : Launch) (G : aG) (d : Nat) (hG : a_GT G) (hd : 6 ≤ d) {Q : Int32 → aH → Prop} (h : aH) (hw : wbX11_mayAct_375  h Q) : AW l G d 0 0 mX11_mayAct (qI Q) 375 [] [] h := by
  unfold wbX11_mayAct_375 at hw
  refine aw_iconst (v := 0) dX11_mayAct_375 (by decide) ?_
  exact abX11_mayAct_376 l G d hG hd _ _ hw
set_option maxRecDepth 100000 in
theorem abX11_mayAct_386 (l : Launch) (G : aG) (d : Nat) (hG : a_GT G) (hd : 6 ≤ d) {Q : Int32 → aH → Prop} (h : aH) (hw : wbX11_mayAct_386  h Q) : AW l G d 0 0 mX11_mayAct (qI Q) 386 [] [] h := by
  unfold wbX11_mayAct_386 at hw
  refine aw_iconst (v := 1) dX11_mayAct_386 (by decide) ?_
  exact aw_iret dX11_mayAct_387 rfl (a_nB hw.1) ⟨_, rfl, hw.2⟩
set_option maxRecDepth 100000 in
theorem abX11_mayAct_388 (l : Launch) (G : aG) (d : Nat) (hG : a_GT G) (hd : 6 ≤ d) {Q : Int32 → aH → Prop} (v0 : Nat) (v1 : Int32) (h : aH) (hw : wbX11_mayAct_388 v0 v1 h Q) : AW l G d 0 0 mX11_mayAct (qI Q) 388 [(0, .ref v0), (1, .int v1)] [] h := by
  unfold wbX11_mayAct_388 at hw
  refine aw_aload_n 0 dX11_mayAct_388 rfl rfl ?_
  refine aw_iload_n 1 dX11_mayAct_389 rfl rfl ?_
  refine aw_bipush (v := 6) dX11_mayAct_390 (by decide) ?_
  refine aw_iconst (v := (-1)) dX11_mayAct_392 (by decide) ?_
  refine aw_iconst (v := 0) dX11_mayAct_393 (by decide) ?_
  obtain ⟨_, h1, hw⟩ := hw
  refine aw_virtV (As := [.int v1, .int 6, .int (-1), .int 0]) (rest := []) dX11_mayAct_394 (acX11_mayFail l G (d - 1) hG (by omega) hw) iX11_mayFail rfl k_1310 k_1312 k_79 rfl h1 (by omega) (by decide) (by decide) rfl (Nat.le_of_ble_eq_true rfl) (fun h15 hw => ?_)
  refine aw_iconst (v := 1) dX11_mayAct_397 (by decide) ?_
  exact aw_iret dX11_mayAct_398 rfl (a_nB hw.1) ⟨_, rfl, hw.2⟩
set_option maxRecDepth 100000 in
theorem acX11_mayAct (l : Launch) (G : aG) (d : Nat) (hG : a_GT G) (hd : 6 ≤ d) {Q : Int32 → aH → Prop} {h : aH} {v0 : Nat} {v1 : Int32} {v2 : Int32} (hw : wX11_mayAct h v0 v1 v2 Q) : AC l G d 0 0 mX11_mayAct [.ref v0, .int v1, .int v2] h (qI Q) := by
  refine ac_of iX11_mayAct (Nat.le_of_ble_eq_true rfl) ?_
  show AW l G d 0 0 mX11_mayAct (qI Q) 0 [(0, .ref v0), (1, .int v1), (2, .int v2)] [] h
  unfold wX11_mayAct at hw
  refine aw_aload_n 0 dX11_mayAct_0 rfl rfl ?_
  obtain ⟨fs17, r16, h1, h2, hw⟩ := hw
  refine aw_getf (k := 12) dX11_mayAct_1 clX11 (by decide) k_960 (Or.inl rfl) h1 h2 ?_
  refine aw_iload_n 2 dX11_mayAct_4 rfl rfl ?_
  obtain ⟨_, _, r18, h1, h2, h3, hw⟩ := hw
  refine aw_aI dX11_mayAct_5 h1 h2 h3 ?_
  refine aw_istore_n (lv' := [(3, .int r18), (0, .ref v0), (1, .int v1), (2, .int v2)]) dX11_mayAct_6 rfl (by decide) rfl ?_
  refine aw_aload_n 1 dX11_mayAct_7 rfl rfl ?_
  obtain ⟨fs20, r19, h1, h2, hw⟩ := hw
  refine aw_getf (k := 13) dX11_mayAct_8 clX11 (by decide) k_961 (Or.inl rfl) h1 h2 ?_
  refine aw_iload_n 3 dX11_mayAct_11 rfl rfl ?_
  obtain ⟨_, _, r21, h1, h2, h3, hw⟩ := hw
  refine aw_aI dX11_mayAct_12 h1 h2 h3 ?_
  refine aw_istore (lv' := [(4, .int r21), (3, .int r18), (0, .ref v0), (1, .int v1), (2, .int v2)]) dX11_mayAct_13 (by decide) rfl ?_
  refine aw_aload_n 2 dX11_mayAct_15 rfl rfl ?_
  obtain ⟨fs23, r22, h1, h2, hw⟩ := hw
  refine aw_getf (k := 14) dX11_mayAct_16 clX11 (by decide) k_962 (Or.inl rfl) h1 h2 ?_
  refine aw_iload_n 4 dX11_mayAct_19 rfl rfl ?_
  obtain ⟨_, _, r24, h1, h2, h3, hw⟩ := hw
  refine aw_aI dX11_mayAct_20 h1 h2 h3 ?_
  refine aw_istore (lv' := [(5, .int r24), (4, .int r21), (3, .int r18), (0, .ref v0), (1, .int v1), (2, .int v2)]) dX11_mayAct_21 (by decide) rfl ?_
  refine aw_aload_n 3 dX11_mayAct_23 rfl rfl ?_
  obtain ⟨fs26, r25, h1, h2, hw⟩ := hw
  refine aw_getf (k := 11) dX11_mayAct_24 clX11 (by decide) k_959 (Or.inl rfl) h1 h2 ?_
  refine aw_iload_n 5 dX11_mayAct_27 rfl rfl ?_
  obtain ⟨_, _, r27, h1, h2, h3, hw⟩ := hw
  refine aw_aI dX11_mayAct_28 h1 h2 h3 ?_
  by_cases zo : r27.toInt < 0 ∨ 16 < r27.toInt
  · have hw := hw.1 zo
    refine aw_tableOut (tgt := 399) dX11_mayAct_29 zo (by decide) ?_
    refine aw_aload_n 3 dX11_mayAct_399 rfl rfl ?_
    refine aw_iload_n 4 dX11_mayAct_400 rfl rfl ?_
    refine aw_bipush (v := 7) dX11_mayAct_401 (by decide) ?_
    refine aw_iconst (v := (-1)) dX11_mayAct_403 (by decide) ?_
    refine aw_iconst (v := 0) dX11_mayAct_404 (by decide) ?_
    obtain ⟨_, h1, hw⟩ := hw
    refine aw_virtV (As := [.int v1, .int 7, .int (-1), .int 0]) (rest := []) dX11_mayAct_405 (acX11_mayFail l G (d - 1) hG (by omega) hw) iX11_mayFail rfl k_1310 k_1312 k_79 rfl h1 (by omega) (by decide) (by decide) rfl (Nat.le_of_ble_eq_true rfl) (fun h28 hw => ?_)
    refine aw_iconst (v := 0) dX11_mayAct_408 (by decide) ?_
    exact aw_iret dX11_mayAct_409 rfl (a_nB hw.1) ⟨_, rfl, hw.2⟩
  · have hw := hw.2
    have z : r27.toInt = 0 ∨ r27.toInt = 1 ∨ r27.toInt = 2 ∨ r27.toInt = 3 ∨ r27.toInt = 4 ∨ r27.toInt = 5 ∨ r27.toInt = 6 ∨ r27.toInt = 7 ∨ r27.toInt = 8 ∨ r27.toInt = 9 ∨ r27.toInt = 10 ∨ r27.toInt = 11 ∨ r27.toInt = 12 ∨ r27.toInt = 13 ∨ r27.toInt = 14 ∨ r27.toInt = 15 ∨ r27.toInt = 16 := by omega
    rcases z with z | z | z | z | z | z | z | z | z | z | z | z | z | z | z | z | z
    · have hw := hw.1 z
      refine aw_tableIn (off := 83) (tgt := 112) dX11_mayAct_29 (by rw [z]; decide) (by rw [z]; decide) (by rw [z]; rfl) (by decide) ?_
      refine aw_aload_n 3 dX11_mayAct_112 rfl rfl ?_
      refine aw_iload_n 4 dX11_mayAct_113 rfl rfl ?_
      refine aw_iload 0 dX11_mayAct_114 rfl ?_
      refine aw_if_ge (tgt := 123) dX11_mayAct_116 (by decide) (fun z => ?_) (fun z => ?_)
      · have hw := hw.1 z
        refine aw_iconst (v := 0) dX11_mayAct_123 (by decide) ?_
        refine aw_sub (lv' := [(3, .int r18), (4, .int r21)]) [2, 1] rfl ?_
        exact abX11_mayAct_124 l G d hG hd _ _ _ _ _ _ hw
      · have hw := hw.2 z
        refine aw_iconst (v := 1) dX11_mayAct_119 (by decide) ?_
        refine aw_goto (tgt := 124) dX11_mayAct_120 (by decide) ?_
        refine aw_sub (lv' := [(3, .int r18), (4, .int r21)]) [2, 1] rfl ?_
        exact abX11_mayAct_124 l G d hG hd _ _ _ _ _ _ hw
    · have hw := hw.2.1 z
      refine aw_tableIn (off := 104) (tgt := 133) dX11_mayAct_29 (by rw [z]; decide) (by rw [z]; decide) (by rw [z]; rfl) (by decide) ?_
      refine aw_aload_n 3 dX11_mayAct_133 rfl rfl ?_
      refine aw_iload_n 4 dX11_mayAct_134 rfl rfl ?_
      refine aw_iload 1 dX11_mayAct_135 rfl ?_
      refine aw_if_lt (tgt := 145) dX11_mayAct_137 (by decide) (fun z => ?_) (fun z => ?_)
      · have hw := hw.1 z
        refine aw_sub (lv' := [(3, .int r18)]) [2] rfl ?_
        exact abX11_mayAct_145 l G d hG hd _ _ _ _ hw
      · have hw := hw.2 z
        refine aw_iload 0 dX11_mayAct_140 rfl ?_
        refine aw_if_ge (tgt := 149) dX11_mayAct_142 (by decide) (fun z => ?_) (fun z => ?_)
        · have hw := hw.1 z
          refine aw_iconst (v := 0) dX11_mayAct_149 (by decide) ?_
          refine aw_sub (lv' := [(3, .int r18)]) [2] rfl ?_
          exact abX11_mayAct_150 l G d hG hd _ _ _ _ _ hw
        · have hw := hw.2 z
          refine aw_sub (lv' := [(3, .int r18)]) [2] rfl ?_
          exact abX11_mayAct_145 l G d hG hd _ _ _ _ hw
    · have hw := hw.2.2.1 z
      refine aw_tableIn (off := 128) (tgt := 157) dX11_mayAct_29 (by rw [z]; decide) (by rw [z]; decide) (by rw [z]; rfl) (by decide) ?_
      refine aw_aload_n 3 dX11_mayAct_157 rfl rfl ?_
      refine aw_iload_n 4 dX11_mayAct_158 rfl rfl ?_
      refine aw_iload 1 dX11_mayAct_159 rfl ?_
      refine aw_if_ge (tgt := 168) dX11_mayAct_161 (by decide) (fun z => ?_) (fun z => ?_)
      · have hw := hw.1 z
        refine aw_iconst (v := 0) dX11_mayAct_168 (by decide) ?_
        refine aw_sub (lv' := [(3, .int r18)]) [2] rfl ?_
        exact abX11_mayAct_169 l G d hG hd _ _ _ _ _ hw
      · have hw := hw.2 z
        refine aw_iconst (v := 1) dX11_mayAct_164 (by decide) ?_
        refine aw_goto (tgt := 169) dX11_mayAct_165 (by decide) ?_
        refine aw_sub (lv' := [(3, .int r18)]) [2] rfl ?_
        exact abX11_mayAct_169 l G d hG hd _ _ _ _ _ hw
    · have hw := hw.2.2.2.1 z
      refine aw_tableIn (off := 147) (tgt := 176) dX11_mayAct_29 (by rw [z]; decide) (by rw [z]; decide) (by rw [z]; rfl) (by decide) ?_
      refine aw_aload_n 3 dX11_mayAct_176 rfl rfl ?_
      refine aw_iload_n 4 dX11_mayAct_177 rfl rfl ?_
      refine aw_iconst (v := 0) dX11_mayAct_178 (by decide) ?_
      refine aw_iload_n 2 dX11_mayAct_179 rfl rfl ?_
      refine aw_iload 1 dX11_mayAct_180 rfl ?_
      refine aw_if_ne (tgt := 191) dX11_mayAct_182 (by decide) (fun z => ?_) (fun z => ?_)
      · have hw := hw.1 z
        refine aw_sipush (v := 512) dX11_mayAct_191 (by decide) ?_
        refine aw_sub (lv' := []) [] rfl ?_
        exact abX11_mayAct_194 l G d hG hd _ _ _ _ _ _ hw
      · have hw := hw.2 z
        refine aw_sipush (v := 256) dX11_mayAct_185 (by decide) ?_
        refine aw_goto (tgt := 194) dX11_mayAct_188 (by decide) ?_
        refine aw_sub (lv' := []) [] rfl ?_
        exact abX11_mayAct_194 l G d hG hd _ _ _ _ _ _ hw
    · have hw := hw.2.2.2.2.1 z
      refine aw_tableIn (off := 169) (tgt := 198) dX11_mayAct_29 (by rw [z]; decide) (by rw [z]; decide) (by rw [z]; rfl) (by decide) ?_
      refine aw_iload 0 dX11_mayAct_198 rfl ?_
      refine aw_if_eq (tgt := 215) dX11_mayAct_200 (by decide) (fun z => ?_) (fun z => ?_)
      · have hw := hw.1 z
        refine aw_sub (lv' := [(0, .ref v0), (3, .int r18), (4, .int r21)]) [3, 2, 1] rfl ?_
        exact abX11_mayAct_215 l G d hG hd _ _ _ _ hw
      · have hw := hw.2 z
        refine aw_aload_n 3 dX11_mayAct_203 rfl rfl ?_
        refine aw_iload_n 4 dX11_mayAct_204 rfl rfl ?_
        refine aw_iload 1 dX11_mayAct_205 rfl ?_
        refine aw_iload 0 dX11_mayAct_207 rfl ?_
        obtain ⟨_, h1, hw⟩ := hw
        refine aw_virtI (As := [.int v1, .int r21, .int r24]) (rest := []) dX11_mayAct_209 (acX11_mayAs l G (d - 1) hG (by omega) hw) iX11_mayAs rfl k_1314 k_1316 k_80 rfl h1 (by omega) (by decide) (by decide) rfl (Nat.le_of_ble_eq_true rfl) (fun r30 h29 hw => ?_)
        refine aw_if_eq (tgt := 219) dX11_mayAct_212 (by decide) (fun z => ?_) (fun z => ?_)
        · have hw := hw.1 z
          refine aw_iconst (v := 0) dX11_mayAct_219 (by decide) ?_
          refine aw_sub (lv' := [(0, .ref v0), (3, .int r18), (4, .int r21)]) [3, 2, 1] rfl ?_
          exact abX11_mayAct_220 l G d hG hd _ _ _ _ _ hw
        · have hw := hw.2 z
          refine aw_sub (lv' := [(0, .ref v0), (3, .int r18), (4, .int r21)]) [3, 2, 1] rfl ?_
          exact abX11_mayAct_215 l G d hG hd _ _ _ _ hw
    · have hw := hw.2.2.2.2.2.1 z
      refine aw_tableIn (off := 209) (tgt := 238) dX11_mayAct_29 (by rw [z]; decide) (by rw [z]; decide) (by rw [z]; rfl) (by decide) ?_
      refine aw_aload_n 3 dX11_mayAct_238 rfl rfl ?_
      refine aw_iload_n 4 dX11_mayAct_239 rfl rfl ?_
      refine aw_iload 1 dX11_mayAct_240 rfl ?_
      refine aw_iload 0 dX11_mayAct_242 rfl ?_
      obtain ⟨_, h1, hw⟩ := hw
      refine aw_virtI (As := [.int v1, .int r21, .int r24]) (rest := []) dX11_mayAct_244 (acX11_mayItem l G (d - 1) hG (by omega) hw) iX11_mayItem rfl k_1318 k_1320 k_81 rfl h1 (by omega) (by decide) (by decide) rfl (Nat.le_of_ble_eq_true rfl) (fun r32 h31 hw => ?_)
      exact aw_iret dX11_mayAct_247 rfl (a_nB hw.1) ⟨_, rfl, hw.2⟩
    · have hw := hw.2.2.2.2.2.2.1 z
      refine aw_tableIn (off := 219) (tgt := 248) dX11_mayAct_29 (by rw [z]; decide) (by rw [z]; decide) (by rw [z]; rfl) (by decide) ?_
      refine aw_aload_n 3 dX11_mayAct_248 rfl rfl ?_
      refine aw_iload_n 4 dX11_mayAct_249 rfl rfl ?_
      refine aw_iload_n 2 dX11_mayAct_250 rfl rfl ?_
      refine aw_iload 1 dX11_mayAct_251 rfl ?_
      obtain ⟨_, h1, hw⟩ := hw
      refine aw_virtI (As := [.int v1, .int r18, .int r21]) (rest := []) dX11_mayAct_253 (acX11_mayItem l G (d - 1) hG (by omega) hw) iX11_mayItem rfl k_1318 k_1320 k_81 rfl h1 (by omega) (by decide) (by decide) rfl (Nat.le_of_ble_eq_true rfl) (fun r34 h33 hw => ?_)
      exact aw_iret dX11_mayAct_256 rfl (a_nB hw.1) ⟨_, rfl, hw.2⟩
    · have hw := hw.2.2.2.2.2.2.2.1 z
      refine aw_tableIn (off := 228) (tgt := 257) dX11_mayAct_29 (by rw [z]; decide) (by rw [z]; decide) (by rw [z]; rfl) (by decide) ?_
      refine aw_aload_n 3 dX11_mayAct_257 rfl rfl ?_
      refine aw_iload_n 4 dX11_mayAct_258 rfl rfl ?_
      refine aw_iload_n 2 dX11_mayAct_259 rfl rfl ?_
      refine aw_iload 1 dX11_mayAct_260 rfl ?_
      refine aw_iload 0 dX11_mayAct_262 rfl ?_
      obtain ⟨_, h1, hw⟩ := hw
      refine aw_virtI (As := [.int v1, .int r18, .int r21, .int r24]) (rest := []) dX11_mayAct_264 (acX11_mayTake l G (d - 1) hG (by omega) hw) iX11_mayTake rfl k_1326 k_1328 k_83 rfl h1 (by omega) (by decide) (by decide) rfl (Nat.le_of_ble_eq_true rfl) (fun r36 h35 hw => ?_)
      exact aw_iret dX11_mayAct_267 rfl (a_nB hw.1) ⟨_, rfl, hw.2⟩
    · have hw := hw.2.2.2.2.2.2.2.2.1 z
      refine aw_tableIn (off := 239) (tgt := 268) dX11_mayAct_29 (by rw [z]; decide) (by rw [z]; decide) (by rw [z]; rfl) (by decide) ?_
      refine aw_aload_n 3 dX11_mayAct_268 rfl rfl ?_
      refine aw_iload_n 4 dX11_mayAct_269 rfl rfl ?_
      refine aw_iload_n 2 dX11_mayAct_270 rfl rfl ?_
      refine aw_iload 1 dX11_mayAct_271 rfl ?_
      refine aw_aload_n 3 dX11_mayAct_273 rfl rfl ?_
      obtain ⟨fs38, r37, h1, h2, hw⟩ := hw
      refine aw_getf (k := 15) dX11_mayAct_274 clX11 (by decide) k_963 (Or.inl rfl) h1 h2 ?_
      refine aw_iload_n 5 dX11_mayAct_277 rfl rfl ?_
      obtain ⟨_, _, r39, h1, h2, h3, hw⟩ := hw
      refine aw_aI dX11_mayAct_278 h1 h2 h3 ?_
      obtain ⟨_, h1, hw⟩ := hw
      refine aw_virtI (As := [.int v1, .int r18, .int r21, .int r39]) (rest := []) dX11_mayAct_279 (acX11_mayLay l G (d - 1) hG (by omega) hw) iX11_mayLay rfl k_1330 k_1332 k_84 rfl h1 (by omega) (by decide) (by decide) rfl (Nat.le_of_ble_eq_true rfl) (fun r41 h40 hw => ?_)
      exact aw_iret dX11_mayAct_282 rfl (a_nB hw.1) ⟨_, rfl, hw.2⟩
    · have hw := hw.2.2.2.2.2.2.2.2.2.1 z
      refine aw_tableIn (off := 254) (tgt := 283) dX11_mayAct_29 (by rw [z]; decide) (by rw [z]; decide) (by rw [z]; rfl) (by decide) ?_
      refine aw_aload_n 3 dX11_mayAct_283 rfl rfl ?_
      refine aw_iload_n 4 dX11_mayAct_284 rfl rfl ?_
      refine aw_iload 1 dX11_mayAct_285 rfl ?_
      refine aw_iload 0 dX11_mayAct_287 rfl ?_
      obtain ⟨_, h1, hw⟩ := hw
      refine aw_virtI (As := [.int v1, .int r21, .int r24]) (rest := []) dX11_mayAct_289 (acX11_mayAs l G (d - 1) hG (by omega) hw) iX11_mayAs rfl k_1314 k_1316 k_80 rfl h1 (by omega) (by decide) (by decide) rfl (Nat.le_of_ble_eq_true rfl) (fun r43 h42 hw => ?_)
      refine aw_if_eq (tgt := 309) dX11_mayAct_292 (by decide) (fun z => ?_) (fun z => ?_)
      · have hw := hw.1 z
        refine aw_sub (lv' := []) [] rfl ?_
        exact abX11_mayAct_309 l G d hG hd _ hw
      · have hw := hw.2 z
        refine aw_aload_n 3 dX11_mayAct_295 rfl rfl ?_
        refine aw_iload_n 4 dX11_mayAct_296 rfl rfl ?_
        refine aw_iload 1 dX11_mayAct_297 rfl ?_
        obtain ⟨_, h1, hw⟩ := hw
        refine aw_virtI (As := [.int v1, .int r21]) (rest := []) dX11_mayAct_299 (acX11_mayRow l G (d - 1) hG (by omega) hw) iX11_mayRow rfl k_1322 k_1324 k_82 rfl h1 (by omega) (by decide) (by decide) rfl (Nat.le_of_ble_eq_true rfl) (fun r45 h44 hw => ?_)
        refine aw_if_eq (tgt := 309) dX11_mayAct_302 (by decide) (fun z => ?_) (fun z => ?_)
        · have hw := hw.1 z
          refine aw_sub (lv' := []) [] rfl ?_
          exact abX11_mayAct_309 l G d hG hd _ hw
        · have hw := hw.2 z
          refine aw_iconst (v := 1) dX11_mayAct_305 (by decide) ?_
          refine aw_goto (tgt := 310) dX11_mayAct_306 (by decide) ?_
          refine aw_sub (lv' := []) [] rfl ?_
          exact abX11_mayAct_310 l G d hG hd _ _ hw
    · have hw := hw.2.2.2.2.2.2.2.2.2.2.1 z
      refine aw_tableIn (off := 282) (tgt := 311) dX11_mayAct_29 (by rw [z]; decide) (by rw [z]; decide) (by rw [z]; rfl) (by decide) ?_
      refine aw_aload_n 3 dX11_mayAct_311 rfl rfl ?_
      refine aw_iload_n 4 dX11_mayAct_312 rfl rfl ?_
      refine aw_iload 1 dX11_mayAct_313 rfl ?_
      refine aw_iconst (v := 1) dX11_mayAct_315 (by decide) ?_
      obtain ⟨_, h1, hw⟩ := hw
      refine aw_virtI (As := [.int v1, .int r21, .int 1]) (rest := []) dX11_mayAct_316 (acX11_mayAs l G (d - 1) hG (by omega) hw) iX11_mayAs rfl k_1314 k_1316 k_80 rfl h1 (by omega) (by decide) (by decide) rfl (Nat.le_of_ble_eq_true rfl) (fun r47 h46 hw => ?_)
      refine aw_if_eq (tgt := 347) dX11_mayAct_319 (by decide) (fun z => ?_) (fun z => ?_)
      · have hw := hw.1 z
        refine aw_sub (lv' := []) [] rfl ?_
        exact abX11_mayAct_347 l G d hG hd _ hw
      · have hw := hw.2 z
        refine aw_aload_n 3 dX11_mayAct_322 rfl rfl ?_
        refine aw_iload_n 4 dX11_mayAct_323 rfl rfl ?_
        refine aw_iload 1 dX11_mayAct_324 rfl ?_
        obtain ⟨_, h1, hw⟩ := hw
        refine aw_virtI (As := [.int v1, .int r21]) (rest := []) dX11_mayAct_326 (acX11_mayRow l G (d - 1) hG (by omega) hw) iX11_mayRow rfl k_1322 k_1324 k_82 rfl h1 (by omega) (by decide) (by decide) rfl (Nat.le_of_ble_eq_true rfl) (fun r49 h48 hw => ?_)
        refine aw_if_eq (tgt := 347) dX11_mayAct_329 (by decide) (fun z => ?_) (fun z => ?_)
        · have hw := hw.1 z
          refine aw_sub (lv' := []) [] rfl ?_
          exact abX11_mayAct_347 l G d hG hd _ hw
        · have hw := hw.2 z
          refine aw_aload_n 3 dX11_mayAct_332 rfl rfl ?_
          refine aw_iload_n 4 dX11_mayAct_333 rfl rfl ?_
          refine aw_iconst (v := 0) dX11_mayAct_334 (by decide) ?_
          refine aw_iload_n 2 dX11_mayAct_335 rfl rfl ?_
          refine aw_iconst (v := 2) dX11_mayAct_336 (by decide) ?_
          obtain ⟨_, h1, hw⟩ := hw
          refine aw_virtI (As := [.int v1, .int 0, .int r18, .int 2]) (rest := []) dX11_mayAct_337 (acX11_mayNew l G (d - 1) hG (by omega) hw) iX11_mayNew rfl k_1306 k_1308 k_78 rfl h1 (by omega) (by decide) (by decide) rfl (Nat.le_of_ble_eq_true rfl) (fun r51 h50 hw => ?_)
          refine aw_if_eq (tgt := 347) dX11_mayAct_340 (by decide) (fun z => ?_) (fun z => ?_)
          · have hw := hw.1 z
            refine aw_sub (lv' := []) [] rfl ?_
            exact abX11_mayAct_347 l G d hG hd _ hw
          · have hw := hw.2 z
            refine aw_iconst (v := 1) dX11_mayAct_343 (by decide) ?_
            refine aw_goto (tgt := 348) dX11_mayAct_344 (by decide) ?_
            refine aw_sub (lv' := []) [] rfl ?_
            exact abX11_mayAct_348 l G d hG hd _ _ hw
    · have hw := hw.2.2.2.2.2.2.2.2.2.2.2.1 z
      refine aw_tableIn (off := 320) (tgt := 349) dX11_mayAct_29 (by rw [z]; decide) (by rw [z]; decide) (by rw [z]; rfl) (by decide) ?_
      refine aw_aload_n 3 dX11_mayAct_349 rfl rfl ?_
      refine aw_iload_n 4 dX11_mayAct_350 rfl rfl ?_
      refine aw_iload 1 dX11_mayAct_351 rfl ?_
      refine aw_bipush (v := 8) dX11_mayAct_353 (by decide) ?_
      obtain ⟨_, h1, hw⟩ := hw
      refine aw_virtI (As := [.int v1, .int r21, .int 8]) (rest := []) dX11_mayAct_355 (acX11_mayAs l G (d - 1) hG (by omega) hw) iX11_mayAs rfl k_1314 k_1316 k_80 rfl h1 (by omega) (by decide) (by decide) rfl (Nat.le_of_ble_eq_true rfl) (fun r53 h52 hw => ?_)
      refine aw_if_eq (tgt := 375) dX11_mayAct_358 (by decide) (fun z => ?_) (fun z => ?_)
      · have hw := hw.1 z
        refine aw_sub (lv' := []) [] rfl ?_
        exact abX11_mayAct_375 l G d hG hd _ hw
      · have hw := hw.2 z
        refine aw_aload_n 3 dX11_mayAct_361 rfl rfl ?_
        refine aw_iload_n 4 dX11_mayAct_362 rfl rfl ?_
        refine aw_iload 1 dX11_mayAct_363 rfl ?_
        obtain ⟨_, h1, hw⟩ := hw
        refine aw_virtI (As := [.int v1, .int r21]) (rest := []) dX11_mayAct_365 (acX11_mayRow l G (d - 1) hG (by omega) hw) iX11_mayRow rfl k_1322 k_1324 k_82 rfl h1 (by omega) (by decide) (by decide) rfl (Nat.le_of_ble_eq_true rfl) (fun r55 h54 hw => ?_)
        refine aw_if_eq (tgt := 375) dX11_mayAct_368 (by decide) (fun z => ?_) (fun z => ?_)
        · have hw := hw.1 z
          refine aw_sub (lv' := []) [] rfl ?_
          exact abX11_mayAct_375 l G d hG hd _ hw
        · have hw := hw.2 z
          refine aw_iconst (v := 1) dX11_mayAct_371 (by decide) ?_
          refine aw_goto (tgt := 376) dX11_mayAct_372 (by decide) ?_
          refine aw_sub (lv' := []) [] rfl ?_
          exact abX11_mayAct_376 l G d hG hd _ _ hw
    · have hw := hw.2.2.2.2.2.2.2.2.2.2.2.2.1 z
      refine aw_tableIn (off := 348) (tgt := 377) dX11_mayAct_29 (by rw [z]; decide) (by rw [z]; decide) (by rw [z]; rfl) (by decide) ?_
      refine aw_aload_n 3 dX11_mayAct_377 rfl rfl ?_
      refine aw_iload_n 4 dX11_mayAct_378 rfl rfl ?_
      refine aw_iload_n 2 dX11_mayAct_379 rfl rfl ?_
      refine aw_iload 0 dX11_mayAct_380 rfl ?_
      obtain ⟨_, h1, hw⟩ := hw
      refine aw_virtI (As := [.int v1, .int r18, .int r24]) (rest := []) dX11_mayAct_382 (acX11_mayCopy l G (d - 1) hG (by omega) hw) iX11_mayCopy rfl k_1334 k_1336 k_85 rfl h1 (by omega) (by decide) (by decide) rfl (Nat.le_of_ble_eq_true rfl) (fun r57 h56 hw => ?_)
      exact aw_iret dX11_mayAct_385 rfl (a_nB hw.1) ⟨_, rfl, hw.2⟩
    · have hw := hw.2.2.2.2.2.2.2.2.2.2.2.2.2.1 z
      refine aw_tableIn (off := 357) (tgt := 386) dX11_mayAct_29 (by rw [z]; decide) (by rw [z]; decide) (by rw [z]; rfl) (by decide) ?_
      refine aw_sub (lv' := []) [] rfl ?_
      exact abX11_mayAct_386 l G d hG hd _ hw
    · have hw := hw.2.2.2.2.2.2.2.2.2.2.2.2.2.2.1 z
      refine aw_tableIn (off := 357) (tgt := 386) dX11_mayAct_29 (by rw [z]; decide) (by rw [z]; decide) (by rw [z]; rfl) (by decide) ?_
      refine aw_sub (lv' := []) [] rfl ?_
      exact abX11_mayAct_386 l G d hG hd _ hw
    · have hw := hw.2.2.2.2.2.2.2.2.2.2.2.2.2.2.2.1 z
      refine aw_tableIn (off := 359) (tgt := 388) dX11_mayAct_29 (by rw [z]; decide) (by rw [z]; decide) (by rw [z]; rfl) (by decide) ?_
      refine aw_sub (lv' := [(0, .ref v0), (1, .int v1)]) [3, 4] rfl ?_
      exact abX11_mayAct_388 l G d hG hd _ _ _ hw
    · have hw := hw.2.2.2.2.2.2.2.2.2.2.2.2.2.2.2.2 z
      refine aw_tableIn (off := 359) (tgt := 388) dX11_mayAct_29 (by rw [z]; decide) (by rw [z]; decide) (by rw [z]; rfl) (by decide) ?_
      refine aw_sub (lv' := [(0, .ref v0), (1, .int v1)]) [3, 4] rfl ?_
      exact abX11_mayAct_388 l G d hG hd _ _ _ hw
