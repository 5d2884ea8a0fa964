-- X7_init
def wX7_init (h : aH) (v0 : Nat) (Q : aH → Prop) : Prop :=
  ∀ (q2 : Nat) (h1 : aH), q2 = h.1 → h1 = a_nw h (.inl (0, 12, .inl (fun _ => 0))) → wF h1 v0 5 0 (.ref q2) (fun h3 => Q h3)
set_option maxRecDepth 100000 in
theorem acX7_init (l : Launch) (G : aG) (d : Nat) (hG : a_GT G) (hd : 1 ≤ d) {Q : aH → Prop} {h : aH} {v0 : Nat} (hw : wX7_init h v0 Q) : AC l G d 1 12 mX7_init [.ref v0] h (qV Q) := by
  refine ac_of iX7_init (Nat.le_of_ble_eq_true rfl) ?_
  show AW l G d 1 12 mX7_init (qV Q) 0 [(0, .ref v0)] [] h
  unfold wX7_init at hw
  refine aw_aload_n 0 dX7_init_0 rfl rfl ?_
  refine aw_obj dX7_init_1 k_201 k_115 k_116 (by omega) (Nat.le_of_ble_eq_true rfl) ?_
  refine aw_aload_n 0 dX7_init_4 rfl rfl ?_
  refine aw_bipush (v := 12) dX7_init_5 (by decide) ?_
  refine aw_newa (N := 12) (a0 := (12, .inl (fun _ => 0))) 0 (by decide) dX7_init_7 rfl k_150 (a_z0 _) (by decide) (by decide) (by omega) (by omega) (by omega) ?_
  have hw := hw _ _ rfl rfl
  generalize a_nw _ _ = h1 at hw ⊢
  generalize h.1 = q2 at hw ⊢
  refine aw_bud (c1 := 0) (w1 := 0) (Nat.le_refl _) (Nat.le_refl _) ?_
  obtain ⟨fs4, h1, h2, hw⟩ := hw
  refine aw_putF (k := 0) dX7_init_9 clX7 (by decide) k_202 (Or.inl rfl) rfl rfl rfl rfl rfl h1 h2 ?_
  generalize a_up _ _ _ = h3 at hw ⊢
  exact aw_vret dX7_init_12 rfl ⟨rfl, hw⟩
-- X9_init
def wbX9_init_15 (n : Nat) (v0 : Nat) (v1 : Int32) (h : aH) (Q : aH → Prop) : Prop := match n with
  | 0 => 8 < v1 ∧ Q h
  | n + 1 => ¬ 8 < v1 ∧ rR h v0 7 0 (fun r1 => ∀ (q4 : Nat) (h3 : aH), q4 = h.1 → h3 = a_nw h (.inr (5, [.null])) → wX7_init h3 q4 (fun h5 => sR h5 4 r1 v1 q4 (fun ci => ci = 5) (fun h6 => wbX9_init_15 n v0 (v1 + 1) h6 Q)))
def wX9_init (h : aH) (v0 : Nat) (Q : aH → Prop) : Prop :=
  ∀ (q8 : Nat) (h7 : aH), q8 = h.1 → h7 = a_nw h (.inl (4, 9, .inr (.inr (.inr (.inr (fun _ => none)))))) → wF h7 v0 7 0 (.ref q8) (fun h9 => wbX9_init_15 9 v0 0 h9 Q)
set_option maxRecDepth 100000 in
theorem abX9_init_15 (l : Launch) (G : aG) (d : Nat) (hG : a_GT G) (hd : 2 ≤ d) {Q : aH → Prop} (n : Nat) : ∀ (v0 : Nat) (v1 : Int32) (h : aH), wbX9_init_15 n v0 v1 h Q → AW l G d (2 * n) (13 * n) mX9_init (qV Q) 15 [(0, .ref v0), (1, .int v1)] [] h := by
  induction n with
  | zero =>
    intro v0 v1 h hw
    refine aw_iload_n 1 dX9_init_15 rfl rfl ?_
    refine aw_bipush (v := 8) dX9_init_16 (by decide) ?_
    refine aw_icmp_gt (tgt := 40) dX9_init_18 (by decide) (fun z => ?_) (fun z => absurd hw.1 z)
    exact aw_vret dX9_init_40 rfl ⟨rfl, hw.2⟩
  | succ n ih =>
    intro v0 v1 h hw
    refine aw_iload_n 1 dX9_init_15 rfl rfl ?_
    refine aw_bipush (v := 8) dX9_init_16 (by decide) ?_
    refine aw_icmp_gt (tgt := 40) dX9_init_18 (by decide) (fun z => absurd z hw.1) (fun z => ?_)
    have hw := hw.2
    refine aw_aload_n 0 dX9_init_21 rfl rfl ?_
    obtain ⟨fs2, r1, h1, h2, hw⟩ := hw
    refine aw_getf (k := 0) dX9_init_22 clX9 (by decide) k_259 (Or.inl rfl) h1 h2 ?_
    refine aw_iload_n 1 dX9_init_25 rfl rfl ?_
    refine aw_new (ci := 5) (fs := [.null]) dX9_init_26 clX7 k_256 k_197 k_98 dvX7 (by omega) (by omega) ?_
    have hw := hw _ _ rfl rfl
    generalize a_nw _ _ = h3 at hw ⊢
    generalize h.1 = q4 at hw ⊢
    refine aw_dup dX9_init_29 rfl ?_
    refine aw_initNV (As := []) (rest := [.ref q4, .int v1, .ref r1]) (c1 := 1) (w1 := 12) (host := "ThrowReports") dX9_init_30 (acX7_init l G (d - 1) hG (by omega) hw) iX7_init rfl rfl rfl (by decide +kernel) k_199 (by omega) (by omega) (by omega) rfl (Nat.le_of_ble_eq_true rfl) (fun h5 hw => ?_)
    obtain ⟨_, _, _, _, h1, h2, h3, h4, hw⟩ := hw
    subst h4
    refine aw_aast 4 (by decide) dX9_init_33 rfl h1 h3 rfl (Or.inl rfl) h2 ?_
    generalize a_up _ _ _ = h6 at hw ⊢
    refine aw_iinc (v := (v1 + 1)) (lv' := [(1, .int (v1 + 1)), (0, .ref v0)]) 1 dX9_init_34 rfl rfl (by decide) rfl ?_
    refine aw_goto (tgt := 15) dX9_init_37 (by decide) ?_
    refine aw_sub (lv' := [(0, .ref v0), (1, .int (v1 + 1))]) [1, 0] rfl ?_
    refine aw_bud (c1 := 2 * n) (w1 := 13 * n) (by omega) (by omega) ?_
    exact ih _ _ _ hw
set_option maxRecDepth 100000 in
theorem acX9_init (l : Launch) (G : aG) (d : Nat) (hG : a_GT G) (hd : 2 ≤ d) {Q : aH → Prop} {h : aH} {v0 : Nat} (hw : wX9_init h v0 Q) : AC l G d 19 126 mX9_init [.ref v0] h (qV Q) := by
  refine ac_of iX9_init (Nat.le_of_ble_eq_true rfl) ?_
  show AW l G d 19 126 mX9_init (qV Q) 0 [(0, .ref v0)] [] h
  unfold wX9_init at hw
  refine aw_aload_n 0 dX9_init_0 rfl rfl ?_
  refine aw_obj dX9_init_1 k_255 k_115 k_116 (by omega) (Nat.le_of_ble_eq_true rfl) ?_
  refine aw_aload_n 0 dX9_init_4 rfl rfl ?_
  refine aw_bipush (v := 9) dX9_init_5 (by decide) ?_
  refine aw_newq (N := 9) 4 (by decide) dX9_init_7 rfl k_256 (by decide) (by decide) (by decide) (by decide) (by decide) ?_
  have hw := hw _ _ rfl rfl
  generalize a_nw _ _ = h7 at hw ⊢
  generalize h.1 = q8 at hw ⊢
  obtain ⟨fs10, h1, h2, hw⟩ := hw
  refine aw_putF (k := 0) dX9_init_10 clX9 (by decide) k_259 (Or.inl rfl) rfl rfl rfl rfl rfl h1 h2 ?_
  generalize a_up _ _ _ = h9 at hw ⊢
  refine aw_iconst (v := 0) dX9_init_13 (by decide) ?_
  refine aw_istore_n (lv' := [(1, .int 0), (0, .ref v0)]) dX9_init_14 rfl (by decide) rfl ?_
  refine aw_sub (lv' := [(0, .ref v0), (1, .int 0)]) [1, 0] rfl ?_
  exact abX9_init_15 l G d hG hd 9 _ _ _ hw
-- X6_init
def wX6_init (h : aH) (v0 : Nat) (v1 : Int32) (v2 : Int32) (Q : aH → Prop) : Prop :=
  ∀ (q2 : Nat) (h1 : aH), q2 = h.1 → h1 = a_nw h (.inr (5, [.null])) → wX7_init h1 q2 (fun h3 => wFN h3 v0 2 (.ref q2) (fun h4 => ∀ (q7 : Nat) (h6 : aH), q7 = h4.1 → h6 = a_nw h4 (.inr (7, [.null])) → wX9_init h6 q7 (fun h8 => wFN h8 v0 3 (.ref q7) (fun h9 => wFN h9 v0 0 (.int v1) (fun h11 => wFN h11 v0 1 (.int v2) (fun h13 => Q h13))))))
set_option maxRecDepth 100000 in
theorem acX6_init (l : Launch) (G : aG) (d : Nat) (hG : a_GT G) (hd : 3 ≤ d) {Q : aH → Prop} {h : aH} {v0 : Nat} {v1 : Int32} {v2 : Int32} (hw : wX6_init h v0 v1 v2 Q) : AC l G d 22 140 mX6_init [.ref v0, .int v1, .int v2] h (qV Q) := by
  refine ac_of iX6_init (Nat.le_of_ble_eq_true rfl) ?_
  show AW l G d 22 140 mX6_init (qV Q) 0 [(0, .ref v0), (1, .int v1), (2, .int v2)] [] h
  unfold wX6_init at hw
  refine aw_aload_n 0 dX6_init_0 rfl rfl ?_
  refine aw_obj dX6_init_1 k_247 k_115 k_116 (by omega) (Nat.le_of_ble_eq_true rfl) ?_
  refine aw_aload_n 0 dX6_init_4 rfl rfl ?_
  refine aw_new (ci := 5) (fs := [.null]) dX6_init_5 clX7 k_248 k_197 k_98 dvX7 (by omega) (by omega) ?_
  have hw := hw _ _ rfl rfl
  generalize a_nw _ _ = h1 at hw ⊢
  generalize h.1 = q2 at hw ⊢
  refine aw_bud (c1 := 21) (w1 := 139) (Nat.le_refl _) (Nat.le_refl _) ?_
  refine aw_dup dX6_init_8 rfl ?_
  refine aw_initNV (As := []) (rest := [.ref q2, .ref v0]) (c1 := 1) (w1 := 12) (host := "ThrowReports") dX6_init_9 (acX7_init l G (d - 1) hG (by omega) hw) iX7_init rfl rfl rfl (by decide +kernel) k_199 (by omega) (by omega) (by omega) rfl (Nat.le_of_ble_eq_true rfl) (fun h3 hw => ?_)
  refine aw_bud (c1 := 20) (w1 := 127) (Nat.le_refl _) (Nat.le_refl _) ?_
  obtain ⟨ci18, fs5, hc, h1, h2, hw⟩ := hw
  refine aw_putNF (k := 2) dX6_init_12 hc (by decide) k_276 rfl rfl rfl rfl rfl h1 h2 ?_
  generalize a_up _ _ _ = h4 at hw ⊢
  refine aw_aload_n 0 dX6_init_15 rfl rfl ?_
  refine aw_new (ci := 7) (fs := [.null]) dX6_init_16 clX9 k_250 k_251 k_102 dvX9 (by omega) (by omega) ?_
  have hw := hw _ _ rfl rfl
  generalize a_nw _ _ = h6 at hw ⊢
  generalize h4.1 = q7 at hw ⊢
  refine aw_bud (c1 := 19) (w1 := 126) (Nat.le_refl _) (Nat.le_refl _) ?_
  refine aw_dup dX6_init_19 rfl ?_
  refine aw_initV (As := []) (rest := [.ref q7, .ref v0]) (c1 := 19) (w1 := 126) dX6_init_20 (acX9_init l G (d - 1) hG (by omega) hw) iX9_init rfl rfl rfl k_252 k_253 (by omega) (by omega) (by omega) rfl (Nat.le_of_ble_eq_true rfl) (fun h8 hw => ?_)
  refine aw_bud (c1 := 0) (w1 := 0) (Nat.le_refl _) (Nat.le_refl _) ?_
  obtain ⟨ci17, fs10, hc, h1, h2, hw⟩ := hw
  refine aw_putNF (k := 3) dX6_init_23 hc (by decide) k_278 rfl rfl rfl rfl rfl h1 h2 ?_
  generalize a_up _ _ _ = h9 at hw ⊢
  refine aw_aload_n 0 dX6_init_26 rfl rfl ?_
  refine aw_iload_n 1 dX6_init_27 rfl rfl ?_
  obtain ⟨ci16, fs12, hc, h1, h2, hw⟩ := hw
  refine aw_putNF (k := 0) dX6_init_28 hc (by decide) k_271 rfl rfl rfl rfl rfl h1 h2 ?_
  generalize a_up _ _ _ = h11 at hw ⊢
  refine aw_aload_n 0 dX6_init_31 rfl rfl ?_
  refine aw_iload_n 2 dX6_init_32 rfl rfl ?_
  obtain ⟨ci15, fs14, hc, h1, h2, hw⟩ := hw
  refine aw_putNF (k := 1) dX6_init_33 hc (by decide) k_274 rfl rfl rfl rfl rfl h1 h2 ?_
  generalize a_up _ _ _ = h13 at hw ⊢
  exact aw_vret dX6_init_36 rfl ⟨rfl, hw⟩
-- X0_init
def wX0_init (h : aH) (v0 : Nat) (v1 : Int32) (v2 : Int32) (v3 : Int32) (v4 : Int32) (v5 : Int32) (v6 : Int32) (Q : aH → Prop) : Prop :=
  wX6_init h v0 v1 1 (fun h1 => ∀ (q3 : Nat) (h2 : aH), q3 = h1.1 → h2 = a_nw h1 (.inr (5, [.null])) → wX7_init h2 q3 (fun h4 => wF h4 v0 0 10 (.ref q3) (fun h5 => wF h5 v0 0 5 (.int v2) (fun h7 => wF h7 v0 0 6 (.int v3) (fun h9 => wF h9 v0 0 7 (.int v4) (fun h11 => wF h11 v0 0 8 (.int v5) (fun h13 => wF h13 v0 0 9 (.int v6) (fun h15 => Q h15))))))))
set_option maxRecDepth 100000 in
theorem acX0_init (l : Launch) (G : aG) (d : Nat) (hG : a_GT G) (hd : 4 ≤ d) {Q : aH → Prop} {h : aH} {v0 : Nat} {v1 : Int32} {v2 : Int32} {v3 : Int32} {v4 : Int32} {v5 : Int32} {v6 : Int32} (hw : wX0_init h v0 v1 v2 v3 v4 v5 v6 Q) : AC l G d 24 153 mX0_init [.ref v0, .int v1, .int v2, .int v3, .int v4, .int v5, .int v6] h (qV Q) := by
  refine ac_of iX0_init (Nat.le_of_ble_eq_true rfl) ?_
  show AW l G d 24 153 mX0_init (qV Q) 0 [(0, .ref v0), (1, .int v1), (2, .int v2), (3, .int v3), (4, .int v4), (5, .int v5), (6, .int v6)] [] h
  unfold wX0_init at hw
  refine aw_aload_n 0 dX0_init_0 rfl rfl ?_
  refine aw_iload_n 1 dX0_init_1 rfl rfl ?_
  refine aw_iconst (v := 1) dX0_init_2 (by decide) ?_
  refine aw_initV (As := [.int v1, .int 1]) (rest := []) (c1 := 22) (w1 := 140) dX0_init_3 (acX6_init l G (d - 1) hG (by omega) hw) iX6_init rfl rfl rfl k_244 k_245 (by omega) (by omega) (by omega) rfl (Nat.le_of_ble_eq_true rfl) (fun h1 hw => ?_)
  refine aw_bud (c1 := 2) (w1 := 13) (Nat.le_refl _) (Nat.le_refl _) ?_
  refine aw_aload_n 0 dX0_init_6 rfl rfl ?_
  refine aw_new (ci := 5) (fs := [.null]) dX0_init_7 clX7 k_263 k_197 k_98 dvX7 (by omega) (by omega) ?_
  have hw := hw _ _ rfl rfl
  generalize a_nw _ _ = h2 at hw ⊢
  generalize h1.1 = q3 at hw ⊢
  refine aw_bud (c1 := 1) (w1 := 12) (Nat.le_refl _) (Nat.le_refl _) ?_
  refine aw_dup dX0_init_10 rfl ?_
  refine aw_initNV (As := []) (rest := [.ref q3, .ref v0]) (c1 := 1) (w1 := 12) (host := "ThrowReports") dX0_init_11 (acX7_init l G (d - 1) hG (by omega) hw) iX7_init rfl rfl rfl (by decide +kernel) k_199 (by omega) (by omega) (by omega) rfl (Nat.le_of_ble_eq_true rfl) (fun h4 hw => ?_)
  refine aw_bud (c1 := 0) (w1 := 0) (Nat.le_refl _) (Nat.le_refl _) ?_
  obtain ⟨fs6, h1, h2, hw⟩ := hw
  refine aw_putF (k := 10) dX0_init_14 clX0 (by decide) k_270 (Or.inl rfl) rfl rfl rfl rfl rfl h1 h2 ?_
  generalize a_up _ _ _ = h5 at hw ⊢
  refine aw_aload_n 0 dX0_init_17 rfl rfl ?_
  refine aw_iload_n 2 dX0_init_18 rfl rfl ?_
  obtain ⟨fs8, h1, h2, hw⟩ := hw
  refine aw_putF (k := 5) dX0_init_19 clX0 (by decide) k_265 (Or.inl rfl) rfl rfl rfl rfl rfl h1 h2 ?_
  generalize a_up _ _ _ = h7 at hw ⊢
  refine aw_aload_n 0 dX0_init_22 rfl rfl ?_
  refine aw_iload_n 3 dX0_init_23 rfl rfl ?_
  obtain ⟨fs10, h1, h2, hw⟩ := hw
  refine aw_putF (k := 6) dX0_init_24 clX0 (by decide) k_266 (Or.inl rfl) rfl rfl rfl rfl rfl h1 h2 ?_
  generalize a_up _ _ _ = h9 at hw ⊢
  refine aw_aload_n 0 dX0_init_27 rfl rfl ?_
  refine aw_iload 4 dX0_init_28 rfl ?_
  obtain ⟨fs12, h1, h2, hw⟩ := hw
  refine aw_putF (k := 7) dX0_init_30 clX0 (by decide) k_267 (Or.inl rfl) rfl rfl rfl rfl rfl h1 h2 ?_
  generalize a_up _ _ _ = h11 at hw ⊢
  refine aw_aload_n 0 dX0_init_33 rfl rfl ?_
  refine aw_iload 5 dX0_init_34 rfl ?_
  obtain ⟨fs14, h1, h2, hw⟩ := hw
  refine aw_putF (k := 8) dX0_init_36 clX0 (by decide) k_268 (Or.inl rfl) rfl rfl rfl rfl rfl h1 h2 ?_
  generalize a_up _ _ _ = h13 at hw ⊢
  refine aw_aload_n 0 dX0_init_39 rfl rfl ?_
  refine aw_iload 6 dX0_init_40 rfl ?_
  obtain ⟨fs16, h1, h2, hw⟩ := hw
  refine aw_putF (k := 9) dX0_init_42 clX0 (by decide) k_269 (Or.inl rfl) rfl rfl rfl rfl rfl h1 h2 ?_
  generalize a_up _ _ _ = h15 at hw ⊢
  exact aw_vret dX0_init_45 rfl ⟨rfl, hw⟩
-- X0_fits
def wbX0_fits_28 (s0 : Int32) (h : aH) (Q : Int32 → aH → Prop) : Prop :=
  oB s0 ∧ Q s0 h
def wbX0_fits_23 (h : aH) (Q : Int32 → aH → Prop) : Prop :=
  wbX0_fits_28 1 h Q
def wbX0_fits_27 (h : aH) (Q : Int32 → aH → Prop) : Prop :=
  wbX0_fits_28 0 h Q
def wX0_fits (h : aH) (v0 : Int32) (v1 : Int32) (Q : Int32 → aH → Prop) : Prop :=
  (v0 = (-1) → wbX0_fits_23  h Q) ∧ (¬ v0 = (-1) → (v1 < 0 → wbX0_fits_27  h Q) ∧ (¬ v1 < 0 → (12 ≤ v1 → wbX0_fits_27  h Q) ∧ (¬ 12 ≤ v1 → (((v0 >>> (v1 &&& 31)) &&& 1) = 0 → wbX0_fits_27  h Q) ∧ (¬ ((v0 >>> (v1 &&& 31)) &&& 1) = 0 → wbX0_fits_23  h Q))))
set_option maxRecDepth 100000 in
theorem abX0_fits_28 (l : Launch) (G : aG) (d : Nat) (hG : a_GT G) (hd : 1 ≤ d) {Q : Int32 → aH → Prop} (s0 : Int32) (h : aH) (hw : wbX0_fits_28 s0 h Q) : AW l G d 0 0 mX0_fits (qI Q) 28 [] [.int s0] h := by
  unfold wbX0_fits_28 at hw
  exact aw_iret dX0_fits_28 rfl (a_nB hw.1) ⟨_, rfl, hw.2⟩
set_option maxRecDepth 100000 in
theorem abX0_fits_23 (l : Launch) (G : aG) (d : Nat) (hG : a_GT G) (hd : 1 ≤ d) {Q : Int32 → aH → Prop} (h : aH) (hw : wbX0_fits_23  h Q) : AW l G d 0 0 mX0_fits (qI Q) 23 [] [] h := by
  unfold wbX0_fits_23 at hw
  refine aw_iconst (v := 1) dX0_fits_23 (by decide) ?_
  refine aw_goto (tgt := 28) dX0_fits_24 (by decide) ?_
  exact abX0_fits_28 l G d hG hd _ _ hw
set_option maxRecDepth 100000 in
theorem abX0_fits_27 (l : Launch) (G : aG) (d : Nat) (hG : a_GT G) (hd : 1 ≤ d) {Q : Int32 → aH → Prop} (h : aH) (hw : wbX0_fits_27  h Q) : AW l G d 0 0 mX0_fits (qI Q) 27 [] [] h := by
  unfold wbX0_fits_27 at hw
  refine aw_iconst (v := 0) dX0_fits_27 (by decide) ?_
  exact abX0_fits_28 l G d hG hd _ _ hw
set_option maxRecDepth 100000 in
theorem acX0_fits (l : Launch) (G : aG) (d : Nat) (hG : a_GT G) (hd : 1 ≤ d) {Q : Int32 → aH → Prop} {h : aH} {v0 : Int32} {v1 : Int32} (hw : wX0_fits h v0 v1 Q) : AC l G d 0 0 mX0_fits [.int v0, .int v1] h (qI Q) := by
  refine ac_of iX0_fits (Nat.le_of_ble_eq_true rfl) ?_
  show AW l G d 0 0 mX0_fits (qI Q) 0 [(0, .int v0), (1, .int v1)] [] h
  unfold wX0_fits at hw
  refine aw_iload_n 0 dX0_fits_0 rfl rfl ?_
  refine aw_iconst (v := (-1)) dX0_fits_1 (by decide) ?_
  refine aw_icmp_eq (tgt := 23) dX0_fits_2 (by decide) (fun z => ?_) (fun z => ?_)
  · have hw := hw.1 z
    refine aw_sub (lv' := []) [] rfl ?_
    exact abX0_fits_23 l G d hG hd _ hw
  · have hw := hw.2 z
    refine aw_iload_n 1 dX0_fits_5 rfl rfl ?_
    refine aw_if_lt (tgt := 27) dX0_fits_6 (by decide) (fun z => ?_) (fun z => ?_)
    · have hw := hw.1 z
      refine aw_sub (lv' := []) [] rfl ?_
      exact abX0_fits_27 l G d hG hd _ hw
    · have hw := hw.2 z
      refine aw_iload_n 1 dX0_fits_9 rfl rfl ?_
      refine aw_bipush (v := 12) dX0_fits_10 (by decide) ?_
      refine aw_icmp_ge (tgt := 27) dX0_fits_12 (by decide) (fun z => ?_) (fun z => ?_)
      · have hw := hw.1 z
        refine aw_sub (lv' := []) [] rfl ?_
        exact abX0_fits_27 l G d hG hd _ hw
      · have hw := hw.2 z
        refine aw_iload_n 0 dX0_fits_15 rfl rfl ?_
        refine aw_iload_n 1 dX0_fits_16 rfl rfl ?_
        refine aw_ishr dX0_fits_17 ?_
        refine aw_iconst (v := 1) dX0_fits_18 (by decide) ?_
        refine aw_iand dX0_fits_19 ?_
        refine aw_if_eq (tgt := 27) dX0_fits_20 (by decide) (fun z => ?_) (fun z => ?_)
        · have hw := hw.1 z
          refine aw_sub (lv' := []) [] rfl ?_
          exact abX0_fits_27 l G d hG hd _ hw
        · have hw := hw.2 z
          refine aw_sub (lv' := []) [] rfl ?_
          exact abX0_fits_23 l G d hG hd _ hw
-- X0_isAsTold
def wbX0_isAsTold_78 (s0 : Int32) (h : aH) (Q : Int32 → aH → Prop) : Prop :=
  oB s0 ∧ Q s0 h
def wbX0_isAsTold_77 (h : aH) (Q : Int32 → aH → Prop) : Prop :=
  wbX0_isAsTold_78 0 h Q
def wX0_isAsTold (h : aH) (v0 : Int32) (v1 : Int32) (v2 : Int32) (v3 : Int32) (v4 : Int32) (Q : Int32 → aH → Prop) : Prop :=
  (v0 < 0 → wbX0_isAsTold_77  h Q) ∧ (¬ v0 < 0 → (17 < v0 → wbX0_isAsTold_77  h Q) ∧ (¬ 17 < v0 → tB 0 ((4 * v0)) (fun r1 => wX0_fits h r1 v1 (fun r3 h2 => (r3 = 0 → wbX0_isAsTold_77 h2 Q) ∧ (¬ r3 = 0 → tB 0 (((4 * v0) + 1)) (fun r4 => wX0_fits h2 r4 v2 (fun r6 h5 => (r6 = 0 → wbX0_isAsTold_77 h5 Q) ∧ (¬ r6 = 0 → tB 0 (((4 * v0) + 2)) (fun r7 => wX0_fits h5 r7 v3 (fun r9 h8 => (r9 = 0 → wbX0_isAsTold_77 h8 Q) ∧ (¬ r9 = 0 → tB 0 (((4 * v0) + 3)) (fun r10 => wX0_fits h8 r10 v4 (fun r12 h11 => (r12 = 0 → wbX0_isAsTold_77 h11 Q) ∧ (¬ r12 = 0 → wbX0_isAsTold_78 1 h11 Q))))))))))))))
set_option maxRecDepth 100000 in
theorem abX0_isAsTold_78 (l : Launch) (G : aG) (d : Nat) (hG : a_GT G) (hd : 2 ≤ d) {Q : Int32 → aH → Prop} (s0 : Int32) (h : aH) (hw : wbX0_isAsTold_78 s0 h Q) : AW l G d 0 0 mX0_isAsTold (qI Q) 78 [] [.int s0] h := by
  unfold wbX0_isAsTold_78 at hw
  exact aw_iret dX0_isAsTold_78 rfl (a_nB hw.1) ⟨_, rfl, hw.2⟩
set_option maxRecDepth 100000 in
theorem abX0_isAsTold_77 (l : Launch) (G : aG) (d : Nat) (hG : a_GT G) (hd : 2 ≤ d) {Q : Int32 → aH → Prop} (h : aH) (hw : wbX0_isAsTold_77  h Q) : AW l G d 0 0 mX0_isAsTold (qI Q) 77 [] [] h := by
  unfold wbX0_isAsTold_77 at hw
  refine aw_iconst (v := 0) dX0_isAsTold_77 (by decide) ?_
  exact abX0_isAsTold_78 l G d hG hd _ _ hw
set_option maxRecDepth 100000 in
theorem acX0_isAsTold (l : Launch) (G : aG) (d : Nat) (hG : a_GT G) (hd : 2 ≤ d) {Q : Int32 → aH → Prop} {h : aH} {v0 : Int32} {v1 : Int32} {v2 : Int32} {v3 : Int32} {v4 : Int32} (hw : wX0_isAsTold h v0 v1 v2 v3 v4 Q) : AC l G d 0 0 mX0_isAsTold [.int v0, .int v1, .int v2, .int v3, .int v4] h (qI Q) := by
  refine ac_of iX0_isAsTold (Nat.le_of_ble_eq_true rfl) ?_
  show AW l G d 0 0 mX0_isAsTold (qI Q) 0 [(0, .int v0), (1, .int v1), (2, .int v2), (3, .int v3), (4, .int v4)] [] h
  unfold wX0_isAsTold at hw
  refine aw_iload_n 0 dX0_isAsTold_0 rfl rfl ?_
  refine aw_if_lt (tgt := 77) dX0_isAsTold_1 (by decide) (fun z => ?_) (fun z => ?_)
  · have hw := hw.1 z
    refine aw_sub (lv' := []) [] rfl ?_
    exact abX0_isAsTold_77 l G d hG hd _ hw
  · have hw := hw.2 z
    refine aw_iload_n 0 dX0_isAsTold_4 rfl rfl ?_
    refine aw_bipush (v := 17) dX0_isAsTold_5 (by decide) ?_
    refine aw_icmp_gt (tgt := 77) dX0_isAsTold_7 (by decide) (fun z => ?_) (fun z => ?_)
    · have hw := hw.1 z
      refine aw_sub (lv' := []) [] rfl ?_
      exact abX0_isAsTold_77 l G d hG hd _ hw
    · have hw := hw.2 z
      refine aw_gets 0 (by decide) dX0_isAsTold_10 rfl k_230 ?_
      refine aw_iconst (v := 4) dX0_isAsTold_13 (by decide) ?_
      refine aw_iload_n 0 dX0_isAsTold_14 rfl rfl ?_
      refine aw_imul dX0_isAsTold_15 ?_
      obtain ⟨r1, h1, h2, hw⟩ := hw
      refine aw_tB 0 (by decide) hG dX0_isAsTold_16 h1 h2 ?_
      refine aw_iload_n 1 dX0_isAsTold_17 rfl rfl ?_
      refine aw_staticI (As := [.int r1, .int v1]) (rest := []) dX0_isAsTold_18 (acX0_fits l G (d - 1) hG (by omega) hw) iX0_fits rfl k_232 k_233 (by omega) (by decide) (by decide) rfl (Nat.le_of_ble_eq_true rfl) (fun r3 h2 hw => ?_)
      refine aw_if_eq (tgt := 77) dX0_isAsTold_21 (by decide) (fun z => ?_) (fun z => ?_)
      · have hw := hw.1 z
        refine aw_sub (lv' := []) [] rfl ?_
        exact abX0_isAsTold_77 l G d hG hd _ hw
      · have hw := hw.2 z
        refine aw_gets 0 (by decide) dX0_isAsTold_24 rfl k_230 ?_
        refine aw_iconst (v := 4) dX0_isAsTold_27 (by decide) ?_
        refine aw_iload_n 0 dX0_isAsTold_28 rfl rfl ?_
        refine aw_imul dX0_isAsTold_29 ?_
        refine aw_iconst (v := 1) dX0_isAsTold_30 (by decide) ?_
        refine aw_iadd dX0_isAsTold_31 ?_
        obtain ⟨r4, h1, h2, hw⟩ := hw
        refine aw_tB 0 (by decide) hG dX0_isAsTold_32 h1 h2 ?_
        refine aw_iload_n 2 dX0_isAsTold_33 rfl rfl ?_
        refine aw_staticI (As := [.int r4, .int v2]) (rest := []) dX0_isAsTold_34 (acX0_fits l G (d - 1) hG (by omega) hw) iX0_fits rfl k_232 k_233 (by omega) (by decide) (by decide) rfl (Nat.le_of_ble_eq_true rfl) (fun r6 h5 hw => ?_)
        refine aw_if_eq (tgt := 77) dX0_isAsTold_37 (by decide) (fun z => ?_) (fun z => ?_)
        · have hw := hw.1 z
          refine aw_sub (lv' := []) [] rfl ?_
          exact abX0_isAsTold_77 l G d hG hd _ hw
        · have hw := hw.2 z
          refine aw_gets 0 (by decide) dX0_isAsTold_40 rfl k_230 ?_
          refine aw_iconst (v := 4) dX0_isAsTold_43 (by decide) ?_
          refine aw_iload_n 0 dX0_isAsTold_44 rfl rfl ?_
          refine aw_imul dX0_isAsTold_45 ?_
          refine aw_iconst (v := 2) dX0_isAsTold_46 (by decide) ?_
          refine aw_iadd dX0_isAsTold_47 ?_
          obtain ⟨r7, h1, h2, hw⟩ := hw
          refine aw_tB 0 (by decide) hG dX0_isAsTold_48 h1 h2 ?_
          refine aw_iload_n 3 dX0_isAsTold_49 rfl rfl ?_
          refine aw_staticI (As := [.int r7, .int v3]) (rest := []) dX0_isAsTold_50 (acX0_fits l G (d - 1) hG (by omega) hw) iX0_fits rfl k_232 k_233 (by omega) (by decide) (by decide) rfl (Nat.le_of_ble_eq_true rfl) (fun r9 h8 hw => ?_)
          refine aw_if_eq (tgt := 77) dX0_isAsTold_53 (by decide) (fun z => ?_) (fun z => ?_)
          · have hw := hw.1 z
            refine aw_sub (lv' := []) [] rfl ?_
            exact abX0_isAsTold_77 l G d hG hd _ hw
          · have hw := hw.2 z
            refine aw_gets 0 (by decide) dX0_isAsTold_56 rfl k_230 ?_
            refine aw_iconst (v := 4) dX0_isAsTold_59 (by decide) ?_
            refine aw_iload_n 0 dX0_isAsTold_60 rfl rfl ?_
            refine aw_imul dX0_isAsTold_61 ?_
            refine aw_iconst (v := 3) dX0_isAsTold_62 (by decide) ?_
            refine aw_iadd dX0_isAsTold_63 ?_
            obtain ⟨r10, h1, h2, hw⟩ := hw
            refine aw_tB 0 (by decide) hG dX0_isAsTold_64 h1 h2 ?_
            refine aw_iload 4 dX0_isAsTold_65 rfl ?_
            refine aw_staticI (As := [.int r10, .int v4]) (rest := []) dX0_isAsTold_67 (acX0_fits l G (d - 1) hG (by omega) hw) iX0_fits rfl k_232 k_233 (by omega) (by decide) (by decide) rfl (Nat.le_of_ble_eq_true rfl) (fun r12 h11 hw => ?_)
            refine aw_if_eq (tgt := 77) dX0_isAsTold_70 (by decide) (fun z => ?_) (fun z => ?_)
            · have hw := hw.1 z
              refine aw_sub (lv' := []) [] rfl ?_
              exact abX0_isAsTold_77 l G d hG hd _ hw
            · have hw := hw.2 z
              refine aw_iconst (v := 1) dX0_isAsTold_73 (by decide) ?_
              refine aw_goto (tgt := 78) dX0_isAsTold_74 (by decide) ?_
              refine aw_sub (lv' := []) [] rfl ?_
              exact abX0_isAsTold_78 l G d hG hd _ _ hw
-- X8_haveRoom
def wbX8_haveRoom_33 (s0 : Int32) (h : aH) (Q : Int32 → aH → Prop) : Prop :=
  oB s0 ∧ Q s0 h
def wbX8_haveRoom_32 (h : aH) (Q : Int32 → aH → Prop) : Prop :=
  wbX8_haveRoom_33 0 h Q
def wX8_haveRoom (h : aH) (v0 : Nat) (v1 : Int64) (v3 : Int64) (Q : Int32 → aH → Prop) : Prop :=
  rI h v0 6 4 (fun r1 => (0 < (lg_cmp ((r1.toInt64 + v1)) ((200 : Int64))) → wbX8_haveRoom_32  h Q) ∧ (¬ 0 < (lg_cmp ((r1.toInt64 + v1)) ((200 : Int64))) → rI h v0 6 5 (fun r3 => (0 < (lg_cmp ((r3.toInt64 + v3)) ((3000 : Int64))) → wbX8_haveRoom_32  h Q) ∧ (¬ 0 < (lg_cmp ((r3.toInt64 + v3)) ((3000 : Int64))) → wbX8_haveRoom_33 1 h Q))))
set_option maxRecDepth 100000 in
theorem abX8_haveRoom_33 (l : Launch) (G : aG) (d : Nat) (hG : a_GT G) (hd : 1 ≤ d) {Q : Int32 → aH → Prop} (s0 : Int32) (h : aH) (hw : wbX8_haveRoom_33 s0 h Q) : AW l G d 0 0 mX8_haveRoom (qI Q) 33 [] [.int s0] h := by
  unfold wbX8_haveRoom_33 at hw
  exact aw_iret dX8_haveRoom_33 rfl (a_nB hw.1) ⟨_, rfl, hw.2⟩
set_option maxRecDepth 100000 in
theorem abX8_haveRoom_32 (l : Launch) (G : aG) (d : Nat) (hG : a_GT G) (hd : 1 ≤ d) {Q : Int32 → aH → Prop} (h : aH) (hw : wbX8_haveRoom_32  h Q) : AW l G d 0 0 mX8_haveRoom (qI Q) 32 [] [] h := by
  unfold wbX8_haveRoom_32 at hw
  refine aw_iconst (v := 0) dX8_haveRoom_32 (by decide) ?_
  exact abX8_haveRoom_33 l G d hG hd _ _ hw
set_option maxRecDepth 100000 in
theorem acX8_haveRoom (l : Launch) (G : aG) (d : Nat) (hG : a_GT G) (hd : 1 ≤ d) {Q : Int32 → aH → Prop} {h : aH} {v0 : Nat} {v1 : Int64} {v3 : Int64} (hw : wX8_haveRoom h v0 v1 v3 Q) : AC l G d 0 0 mX8_haveRoom [.ref v0, .long v1, .long v3] h (qI Q) := by
  refine ac_of iX8_haveRoom (Nat.le_of_ble_eq_true rfl) ?_
  show AW l G d 0 0 mX8_haveRoom (qI Q) 0 [(0, .ref v0), (1, .long v1), (3, .long v3)] [] h
  unfold wX8_haveRoom at hw
  refine aw_aload_n 0 dX8_haveRoom_0 rfl rfl ?_
  obtain ⟨fs2, r1, h1, h2, hw⟩ := hw
  refine aw_getf (k := 4) dX8_haveRoom_1 clX8 (by decide) k_133 (Or.inl rfl) h1 h2 ?_
  refine aw_i2l dX8_haveRoom_4 ?_
  refine aw_lload_n 1 dX8_haveRoom_5 rfl rfl ?_
  refine aw_ladd dX8_haveRoom_6 ?_
  refine aw_ldc2 (v := 200) dX8_haveRoom_7 k_473 ?_
  refine aw_lcmp dX8_haveRoom_10 ?_
  refine aw_if_gt (tgt := 32) dX8_haveRoom_11 (by decide) (fun z => ?_) (fun z => ?_)
  · have hw := hw.1 z
    refine aw_sub (lv' := []) [] rfl ?_
    exact abX8_haveRoom_32 l G d hG hd _ hw
  · have hw := hw.2 z
    refine aw_aload_n 0 dX8_haveRoom_14 rfl rfl ?_
    obtain ⟨fs4, r3, h1, h2, hw⟩ := hw
    refine aw_getf (k := 5) dX8_haveRoom_15 clX8 (by decide) k_135 (Or.inl rfl) h1 h2 ?_
    refine aw_i2l dX8_haveRoom_18 ?_
    refine aw_lload_n 2 dX8_haveRoom_19 rfl rfl ?_
    refine aw_ladd dX8_haveRoom_20 ?_
    refine aw_ldc2 (v := 3000) dX8_haveRoom_21 k_474 ?_
    refine aw_lcmp dX8_haveRoom_24 ?_
    refine aw_if_gt (tgt := 32) dX8_haveRoom_25 (by decide) (fun z => ?_) (fun z => ?_)
    · have hw := hw.1 z
      refine aw_sub (lv' := []) [] rfl ?_
      exact abX8_haveRoom_32 l G d hG hd _ hw
    · have hw := hw.2 z
      refine aw_iconst (v := 1) dX8_haveRoom_28 (by decide) ?_
      refine aw_goto (tgt := 33) dX8_haveRoom_29 (by decide) ?_
      refine aw_sub (lv' := []) [] rfl ?_
      exact abX8_haveRoom_33 l G d hG hd _ _ hw
-- X8_addFigure
def wX8_addFigure (h : aH) (v0 : Nat) (v1 : Int32) (v2 : Int32) (Q : Int32 → aH → Prop) : Prop :=
  isO h v0 6 (wX8_haveRoom h v0 ((1 : Int64)) ((0 : Int64)) (fun r2 h1 => (¬ r2 = 0 → rI h1 v0 6 4 (fun r3 => wF h1 v0 6 4 (.int (r3 + 1)) (fun h5 => rR h5 v0 6 0 (fun r7 => rI h5 v0 6 4 (fun r9 => sI h5 r7 r9 v1 (fun h11 => rR h11 v0 6 1 (fun r12 => rI h11 v0 6 4 (fun r14 => sI h11 r12 r14 0 (fun h16 => rR h16 v0 6 2 (fun r17 => rI h16 v0 6 4 (fun r19 => sI h16 r17 r19 v2 (fun h21 => rI h21 v0 6 4 (fun r22 => Q r22 h21))))))))))))) ∧ (r2 = 0 → Q 0 h1)))
set_option maxRecDepth 100000 in
theorem acX8_addFigure (l : Launch) (G : aG) (d : Nat) (hG : a_GT G) (hd : 2 ≤ d) {Q : Int32 → aH → Prop} {h : aH} {v0 : Nat} {v1 : Int32} {v2 : Int32} (hw : wX8_addFigure h v0 v1 v2 Q) : AC l G d 0 0 mX8_addFigure [.ref v0, .int v1, .int v2] h (qI Q) := by
  refine ac_of iX8_addFigure (Nat.le_of_ble_eq_true rfl) ?_
  show AW l G d 0 0 mX8_addFigure (qI Q) 0 [(0, .ref v0), (1, .int v1), (2, .int v2)] [] h
  unfold wX8_addFigure at hw
  refine aw_aload_n 0 dX8_addFigure_0 rfl rfl ?_
  refine aw_lconst (v := 1) dX8_addFigure_1 (by decide) ?_
  refine aw_lconst (v := 0) dX8_addFigure_2 (by decide) ?_
  obtain ⟨_, h1, hw⟩ := hw
  refine aw_virtI (As := [.long (1 : Int64), .long (0 : Int64)]) (rest := []) dX8_addFigure_3 (acX8_haveRoom l G (d - 1) hG (by omega) hw) iX8_haveRoom rfl k_479 k_470 k_471 rfl h1 (by omega) (by decide) (by decide) rfl (Nat.le_of_ble_eq_true rfl) (fun r2 h1 hw => ?_)
  refine aw_if_ne (tgt := 11) dX8_addFigure_6 (by decide) (fun z => ?_) (fun z => ?_)
  · have hw := hw.1 z
    refine aw_aload_n 0 dX8_addFigure_11 rfl rfl ?_
    refine aw_dup dX8_addFigure_12 rfl ?_
    obtain ⟨fs4, r3, h1, h2, hw⟩ := hw
    refine aw_getf (k := 4) dX8_addFigure_13 clX8 (by decide) k_133 (Or.inl rfl) h1 h2 ?_
    refine aw_iconst (v := 1) dX8_addFigure_16 (by decide) ?_
    refine aw_iadd dX8_addFigure_17 ?_
    obtain ⟨fs6, h1, h2, hw⟩ := hw
    refine aw_putf (k := 4) dX8_addFigure_18 clX8 (by decide) k_133 (Or.inl rfl) rfl rfl rfl h1 h2 ?_
    generalize a_up _ _ _ = h5 at hw ⊢
    refine aw_aload_n 0 dX8_addFigure_21 rfl rfl ?_
    obtain ⟨fs8, r7, h1, h2, hw⟩ := hw
    refine aw_getf (k := 0) dX8_addFigure_22 clX8 (by decide) k_129 (Or.inl rfl) h1 h2 ?_
    refine aw_aload_n 0 dX8_addFigure_25 rfl rfl ?_
    obtain ⟨fs10, r9, h1, h2, hw⟩ := hw
    refine aw_getf (k := 4) dX8_addFigure_26 clX8 (by decide) k_133 (Or.inl rfl) h1 h2 ?_
    refine aw_iload_n 1 dX8_addFigure_29 rfl rfl ?_
    obtain ⟨_, _, h1, h2, hw⟩ := hw
    refine aw_iast dX8_addFigure_30 h1 h2 ?_
    generalize a_up _ _ _ = h11 at hw ⊢
    refine aw_aload_n 0 dX8_addFigure_31 rfl rfl ?_
    obtain ⟨fs13, r12, h1, h2, hw⟩ := hw
    refine aw_getf (k := 1) dX8_addFigure_32 clX8 (by decide) k_130 (Or.inl rfl) h1 h2 ?_
    refine aw_aload_n 0 dX8_addFigure_35 rfl rfl ?_
    obtain ⟨fs15, r14, h1, h2, hw⟩ := hw
    refine aw_getf (k := 4) dX8_addFigure_36 clX8 (by decide) k_133 (Or.inl rfl) h1 h2 ?_
    refine aw_iconst (v := 0) dX8_addFigure_39 (by decide) ?_
    obtain ⟨_, _, h1, h2, hw⟩ := hw
    refine aw_iast dX8_addFigure_40 h1 h2 ?_
    generalize a_up _ _ _ = h16 at hw ⊢
    refine aw_aload_n 0 dX8_addFigure_41 rfl rfl ?_
    obtain ⟨fs18, r17, h1, h2, hw⟩ := hw
    refine aw_getf (k := 2) dX8_addFigure_42 clX8 (by decide) k_131 (Or.inl rfl) h1 h2 ?_
    refine aw_aload_n 0 dX8_addFigure_45 rfl rfl ?_
    obtain ⟨fs20, r19, h1, h2, hw⟩ := hw
    refine aw_getf (k := 4) dX8_addFigure_46 clX8 (by decide) k_133 (Or.inl rfl) h1 h2 ?_
    refine aw_iload_n 2 dX8_addFigure_49 rfl rfl ?_
    obtain ⟨_, _, h1, h2, hw⟩ := hw
    refine aw_iast dX8_addFigure_50 h1 h2 ?_
    generalize a_up _ _ _ = h21 at hw ⊢
    refine aw_aload_n 0 dX8_addFigure_51 rfl rfl ?_
    obtain ⟨fs23, r22, h1, h2, hw⟩ := hw
    refine aw_getf (k := 4) dX8_addFigure_52 clX8 (by decide) k_133 (Or.inl rfl) h1 h2 ?_
    exact aw_iret dX8_addFigure_55 rfl rfl ⟨_, rfl, hw⟩
  · have hw := hw.2 z
    refine aw_iconst (v := 0) dX8_addFigure_9 (by decide) ?_
    exact aw_iret dX8_addFigure_10 rfl rfl ⟨_, rfl, hw⟩
-- X5_makeFigure
def wX5_makeFigure (h : aH) (v0 : Nat) (v1 : Int32) (v2 : Int32) (v3 : Int32) (Q : Int32 → aH → Prop) : Prop :=
  rR h v0 4 0 (fun r1 => isO h r1 6 (wX8_haveRoom h r1 ((1 : Int64)) ((0 : Int64)) (fun r4 h3 => (¬ r4 = 0 → rR h3 v0 4 1 (fun r5 => rR h3 v0 4 0 (fun r7 => isO h3 r7 6 (wX8_addFigure h3 r7 v2 v3 (fun r10 h9 => sI h9 r5 v1 r10 (fun h11 => Q 0 h11)))))) ∧ (r4 = 0 → Q 8 h3))))
set_option maxRecDepth 100000 in
theorem acX5_makeFigure (l : Launch) (G : aG) (d : Nat) (hG : a_GT G) (hd : 3 ≤ d) {Q : Int32 → aH → Prop} {h : aH} {v0 : Nat} {v1 : Int32} {v2 : Int32} {v3 : Int32} (hw : wX5_makeFigure h v0 v1 v2 v3 Q) : AC l G d 0 0 mX5_makeFigure [.ref v0, .int v1, .int v2, .int v3] h (qI Q) := by
  refine ac_of iX5_makeFigure (Nat.le_of_ble_eq_true rfl) ?_
  show AW l G d 0 0 mX5_makeFigure (qI Q) 0 [(0, .ref v0), (1, .int v1), (2, .int v2), (3, .int v3)] [] h
  unfold wX5_makeFigure at hw
  refine aw_aload_n 0 dX5_makeFigure_0 rfl rfl ?_
  obtain ⟨fs2, r1, h1, h2, hw⟩ := hw
  refine aw_getf (k := 0) dX5_makeFigure_1 clX5 (by decide) k_152 (Or.inl rfl) h1 h2 ?_
  refine aw_lconst (v := 1) dX5_makeFigure_4 (by decide) ?_
  refine aw_lconst (v := 0) dX5_makeFigure_5 (by decide) ?_
  obtain ⟨_, h1, hw⟩ := hw
  refine aw_virtI (As := [.long (1 : Int64), .long (0 : Int64)]) (rest := []) dX5_makeFigure_6 (acX8_haveRoom l G (d - 1) hG (by omega) hw) iX8_haveRoom rfl k_469 k_470 k_471 rfl h1 (by omega) (by decide) (by decide) rfl (Nat.le_of_ble_eq_true rfl) (fun r4 h3 hw => ?_)
  refine aw_if_ne (tgt := 15) dX5_makeFigure_9 (by decide) (fun z => ?_) (fun z => ?_)
  · have hw := hw.1 z
    refine aw_aload_n 0 dX5_makeFigure_15 rfl rfl ?_
    obtain ⟨fs6, r5, h1, h2, hw⟩ := hw
    refine aw_getf (k := 1) dX5_makeFigure_16 clX5 (by decide) k_154 (Or.inl rfl) h1 h2 ?_
    refine aw_iload_n 1 dX5_makeFigure_19 rfl rfl ?_
    refine aw_aload_n 0 dX5_makeFigure_20 rfl rfl ?_
    obtain ⟨fs8, r7, h1, h2, hw⟩ := hw
    refine aw_getf (k := 0) dX5_makeFigure_21 clX5 (by decide) k_152 (Or.inl rfl) h1 h2 ?_
    refine aw_iload_n 2 dX5_makeFigure_24 rfl rfl ?_
    refine aw_iload_n 3 dX5_makeFigure_25 rfl rfl ?_
    obtain ⟨_, h1, hw⟩ := hw
    refine aw_virtI (As := [.int v2, .int v3]) (rest := [.int v1, .ref r5]) dX5_makeFigure_26 (acX8_addFigure l G (d - 1) hG (by omega) hw) iX8_addFigure rfl k_515 k_516 k_517 rfl h1 (by omega) (by decide) (by decide) rfl (Nat.le_of_ble_eq_true rfl) (fun r10 h9 hw => ?_)
    obtain ⟨_, _, h1, h2, hw⟩ := hw
    refine aw_iast dX5_makeFigure_29 h1 h2 ?_
    generalize a_up _ _ _ = h11 at hw ⊢
    refine aw_iconst (v := 0) dX5_makeFigure_30 (by decide) ?_
    exact aw_iret dX5_makeFigure_31 rfl rfl ⟨_, rfl, hw⟩
  · have hw := hw.2 z
    refine aw_bipush (v := 8) dX5_makeFigure_12 (by decide) ?_
    exact aw_iret dX5_makeFigure_14 rfl rfl ⟨_, rfl, hw⟩
-- J7_rangeCheck_23922
def wJ7_rangeCheck_23922 (h : aH) (v0 : Int32) (v1 : Int32) (v2 : Int32) (Q : aH → Prop) : Prop :=
  (v1 ≤ v2 → (0 ≤ v1 → (v2 ≤ v0 → Q h) ∧ (¬ v2 ≤ v0 → False)) ∧ (¬ 0 ≤ v1 → False)) ∧ (¬ v1 ≤ v2 → False)
set_option maxRecDepth 100000 in
theorem acJ7_rangeCheck_23922 (l : Launch) (G : aG) (d : Nat) (hG : a_GT G) (hd : 1 ≤ d) {Q : aH → Prop} {h : aH} {v0 : Int32} {v1 : Int32} {v2 : Int32} (hw : wJ7_rangeCheck_23922 h v0 v1 v2 Q) : AC l G d 0 0 mJ7_rangeCheck_23922 [.int v0, .int v1, .int v2] h (qV Q) := by
  refine ac_of iJ7_rangeCheck_23922 (Nat.le_of_ble_eq_true rfl) ?_
  show AW l G d 0 0 mJ7_rangeCheck_23922 (qV Q) 0 [(0, .int v0), (1, .int v1), (2, .int v2)] [] h
  unfold wJ7_rangeCheck_23922 at hw
  refine aw_iload_n 1 dJ7_rangeCheck_23922_0 rfl rfl ?_
  refine aw_iload_n 2 dJ7_rangeCheck_23922_1 rfl rfl ?_
  refine aw_icmp_le (tgt := 46) dJ7_rangeCheck_23922_2 (by decide) (fun z => ?_) (fun z => ?_)
  · have hw := hw.1 z
    refine aw_iload_n 1 dJ7_rangeCheck_23922_46 rfl rfl ?_
    refine aw_if_ge (tgt := 59) dJ7_rangeCheck_23922_47 (by decide) (fun z => ?_) (fun z => ?_)
    · have hw := hw.1 z
      refine aw_iload_n 2 dJ7_rangeCheck_23922_59 rfl rfl ?_
      refine aw_iload_n 0 dJ7_rangeCheck_23922_60 rfl rfl ?_
      refine aw_icmp_le (tgt := 73) dJ7_rangeCheck_23922_61 (by decide) (fun z => ?_) (fun z => ?_)
      · have hw := hw.1 z
        exact aw_vret dJ7_rangeCheck_23922_73 rfl ⟨rfl, hw⟩
      · have hw := hw.2 z
        exact hw.elim
    · have hw := hw.2 z
      exact hw.elim
  · have hw := hw.2 z
    exact hw.elim
-- J7_fill_bad5a
def wbJ7_fill_bad5a_10_i (K10 : Nat → Int32 → Int64 → Int32 →  aH → Prop) (v0 : Nat) (v2 : Int32) (v3 : Int64) (v5 : Int32) (h : aH) (Q : aH → Prop) : Prop :=
  (v2 ≤ v5 → Q h) ∧ (¬ v2 ≤ v5 → sL h v0 v5 v3 (fun h1 => K10 v0 v2 v3 ((v5 + 1)) h1))
def wbJ7_fill_bad5a_10 (n : Nat) (v0 : Nat) (v2 : Int32) (v3 : Int64) (v5 : Int32) (h : aH) (Q : aH → Prop) : Prop := match n with
  | 0 => False
  | n + 1 => wbJ7_fill_bad5a_10_i (fun v0 v2 v3 v5 h => wbJ7_fill_bad5a_10 n v0 v2 v3 v5 h Q) v0 v2 v3 v5 h Q
def wJ7_fill_bad5a (h : aH) (v0 : Nat) (v1 : Int32) (v2 : Int32) (v3 : Int64) (Q : aH → Prop) : Prop :=
  lnA h v0 (fun r2 => wJ7_rangeCheck_23922 h r2 v1 v2 (fun h3 => ∃ n, wbJ7_fill_bad5a_10 n v0 v2 v3 v1 h3 Q))
set_option maxRecDepth 100000 in
theorem abJ7_fill_bad5a_10_i (l : Launch) (G : aG) (d : Nat) (hG : a_GT G) (hd : 2 ≤ d) {Q : aH → Prop} {K10 : Nat → Int32 → Int64 → Int32 →  aH → Prop} (kk10 : ∀ (v0 : Nat) (v2 : Int32) (v3 : Int64) (v5 : Int32) (h : aH), K10 v0 v2 v3 v5 h → AW l G d 0 0 mJ7_fill_bad5a (qV Q) 10 [(0, .ref v0), (2, .int v2), (3, .long v3), (5, .int v5)] [] h) (v0 : Nat) (v2 : Int32) (v3 : Int64) (v5 : Int32) (h : aH) (hw : wbJ7_fill_bad5a_10_i K10 v0 v2 v3 v5 h Q) : AW l G d 0 0 mJ7_fill_bad5a (qV Q) 10 [(0, .ref v0), (2, .int v2), (3, .long v3), (5, .int v5)] [] h := by
  unfold wbJ7_fill_bad5a_10_i at hw
  refine aw_iload 3 dJ7_fill_bad5a_10 rfl ?_
  refine aw_iload_n 1 dJ7_fill_bad5a_12 rfl rfl ?_
  refine aw_icmp_ge (tgt := 27) dJ7_fill_bad5a_13 (by decide) (fun z => ?_) (fun z => ?_)
  · have hw := hw.1 z
    exact aw_vret dJ7_fill_bad5a_27 rfl ⟨rfl, hw⟩
  · have hw := hw.2 z
    refine aw_aload_n 0 dJ7_fill_bad5a_16 rfl rfl ?_
    refine aw_iload 3 dJ7_fill_bad5a_17 rfl ?_
    refine aw_lload_n 2 dJ7_fill_bad5a_19 rfl rfl ?_
    obtain ⟨_, _, h1, h2, hw⟩ := hw
    refine aw_last dJ7_fill_bad5a_20 h1 h2 ?_
    generalize a_up _ _ _ = h1 at hw ⊢
    refine aw_iinc (v := (v5 + 1)) (lv' := [(5, .int (v5 + 1)), (0, .ref v0), (2, .int v2), (3, .long v3)]) 3 dJ7_fill_bad5a_21 rfl rfl (by decide) rfl ?_
    refine aw_goto (tgt := 10) dJ7_fill_bad5a_24 (by decide) ?_
    refine aw_sub (lv' := [(0, .ref v0), (2, .int v2), (3, .long v3), (5, .int (v5 + 1))]) [1, 2, 3, 0] rfl ?_
    exact kk10 _ _ _ _ _ hw
set_option maxRecDepth 100000 in
theorem abJ7_fill_bad5a_10 (l : Launch) (G : aG) (d : Nat) (hG : a_GT G) (hd : 2 ≤ d) {Q : aH → Prop} (n : Nat) : ∀  (v0 : Nat) (v2 : Int32) (v3 : Int64) (v5 : Int32) (h : aH), wbJ7_fill_bad5a_10 n v0 v2 v3 v5 h Q → AW l G d 0 0 mJ7_fill_bad5a (qV Q) 10 [(0, .ref v0), (2, .int v2), (3, .long v3), (5, .int v5)] [] h := by
  induction n with
  | zero => exact fun _ _ _ _ _ hw => hw.elim
  | succ n ih => exact fun _ _ _ _ _ hw => abJ7_fill_bad5a_10_i l G d hG hd ih _ _ _ _ _ hw
set_option maxRecDepth 100000 in
theorem acJ7_fill_bad5a (l : Launch) (G : aG) (d : Nat) (hG : a_GT G) (hd : 2 ≤ d) {Q : aH → Prop} {h : aH} {v0 : Nat} {v1 : Int32} {v2 : Int32} {v3 : Int64} (hw : wJ7_fill_bad5a h v0 v1 v2 v3 Q) : AC l G d 0 0 mJ7_fill_bad5a [.ref v0, .int v1, .int v2, .long v3] h (qV Q) := by
  refine ac_of iJ7_fill_bad5a (Nat.le_of_ble_eq_true rfl) ?_
  show AW l G d 0 0 mJ7_fill_bad5a (qV Q) 0 [(0, .ref v0), (1, .int v1), (2, .int v2), (3, .long v3)] [] h
  unfold wJ7_fill_bad5a at hw
  refine aw_aload_n 0 dJ7_fill_bad5a_0 rfl rfl ?_
  obtain ⟨_, x_, h1, h2, hw⟩ := hw
  refine aw_alen dJ7_fill_bad5a_1 h1 h2 ?_
  generalize Int32.ofNat x_.1 = r2 at hw ⊢
  refine aw_iload_n 1 dJ7_fill_bad5a_2 rfl rfl ?_
  refine aw_iload_n 2 dJ7_fill_bad5a_3 rfl rfl ?_
  refine aw_staticV (As := [.int r2, .int v1, .int v2]) (rest := []) dJ7_fill_bad5a_4 (acJ7_rangeCheck_23922 l G (d - 1) hG (by omega) hw) iJ7_rangeCheck_23922 rfl k_483 k_484 (by omega) (by decide) (by decide) rfl (Nat.le_of_ble_eq_true rfl) (fun h3 hw => ?_)
  refine aw_iload_n 1 dJ7_fill_bad5a_7 rfl rfl ?_
  refine aw_istore (lv' := [(5, .int v1), (0, .ref v0), (1, .int v1), (2, .int v2), (3, .long v3)]) dJ7_fill_bad5a_8 (by decide) rfl ?_
  obtain ⟨n, hw⟩ := hw
  refine aw_sub (lv' := [(0, .ref v0), (2, .int v2), (3, .long v3), (5, .int v1)]) [1, 3, 4, 0] rfl ?_
  exact abJ7_fill_bad5a_10 l G d hG hd n _ _ _ _ _ hw
-- X8_addRow
def wbX8_addRow_14 (h : aH) (Q : Int32 → aH → Prop) : Prop :=
  Q 0 h
def wX8_addRow (h : aH) (v0 : Nat) (v1 : Int32) (v2 : Int32) (Q : Int32 → aH → Prop) : Prop :=
  (v2 < 0 → wbX8_addRow_14  h Q) ∧ (¬ v2 < 0 → isO h v0 6 (wX8_haveRoom h v0 ((1 : Int64)) v2.toInt64 (fun r2 h1 => (¬ r2 = 0 → rI h1 v0 6 4 (fun r3 => wF h1 v0 6 4 (.int (r3 + 1)) (fun h5 => rR h5 v0 6 0 (fun r7 => rI h5 v0 6 4 (fun r9 => sI h5 r7 r9 v1 (fun h11 => rR h11 v0 6 1 (fun r12 => rI h11 v0 6 4 (fun r14 => rI h11 v0 6 5 (fun r16 => sI h11 r12 r14 r16 (fun h18 => rR h18 v0 6 2 (fun r19 => rI h18 v0 6 4 (fun r21 => sI h18 r19 r21 v2 (fun h23 => rR h23 v0 6 3 (fun r24 => rI h23 v0 6 5 (fun r26 => rI h23 v0 6 5 (fun r28 => wJ7_fill_bad5a h23 r24 r26 ((r28 + v2)) ((0 : Int64)) (fun h30 => rI h30 v0 6 5 (fun r31 => wF h30 v0 6 5 (.int (r31 + v2)) (fun h33 => rI h33 v0 6 4 (fun r35 => Q r35 h33)))))))))))))))))))) ∧ (r2 = 0 → wbX8_addRow_14 h1 Q))))
set_option maxRecDepth 100000 in
theorem abX8_addRow_14 (l : Launch) (G : aG) (d : Nat) (hG : a_GT G) (hd : 3 ≤ d) {Q : Int32 → aH → Prop} (h : aH) (hw : wbX8_addRow_14  h Q) : AW l G d 0 0 mX8_addRow (qI Q) 14 [] [] h := by
  unfold wbX8_addRow_14 at hw
  refine aw_iconst (v := 0) dX8_addRow_14 (by decide) ?_
  exact aw_iret dX8_addRow_15 rfl rfl ⟨_, rfl, hw⟩
set_option maxRecDepth 100000 in
theorem acX8_addRow (l : Launch) (G : aG) (d : Nat) (hG : a_GT G) (hd : 3 ≤ d) {Q : Int32 → aH → Prop} {h : aH} {v0 : Nat} {v1 : Int32} {v2 : Int32} (hw : wX8_addRow h v0 v1 v2 Q) : AC l G d 0 0 mX8_addRow [.ref v0, .int v1, .int v2] h (qI Q) := by
  refine ac_of iX8_addRow (Nat.le_of_ble_eq_true rfl) ?_
  show AW l G d 0 0 mX8_addRow (qI Q) 0 [(0, .ref v0), (1, .int v1), (2, .int v2)] [] h
  unfold wX8_addRow at hw
  refine aw_iload_n 2 dX8_addRow_0 rfl rfl ?_
  refine aw_if_lt (tgt := 14) dX8_addRow_1 (by decide) (fun z => ?_) (fun z => ?_)
  · have hw := hw.1 z
    refine aw_sub (lv' := []) [] rfl ?_
    exact abX8_addRow_14 l G d hG hd _ hw
  · have hw := hw.2 z
    refine aw_aload_n 0 dX8_addRow_4 rfl rfl ?_
    refine aw_lconst (v := 1) dX8_addRow_5 (by decide) ?_
    refine aw_iload_n 2 dX8_addRow_6 rfl rfl ?_
    refine aw_i2l dX8_addRow_7 ?_
    obtain ⟨_, h1, hw⟩ := hw
    refine aw_virtI (As := [.long (1 : Int64), .long v2.toInt64]) (rest := []) dX8_addRow_8 (acX8_haveRoom l G (d - 1) hG (by omega) hw) iX8_haveRoom rfl k_479 k_470 k_471 rfl h1 (by omega) (by decide) (by decide) rfl (Nat.le_of_ble_eq_true rfl) (fun r2 h1 hw => ?_)
    refine aw_if_ne (tgt := 16) dX8_addRow_11 (by decide) (fun z => ?_) (fun z => ?_)
    · have hw := hw.1 z
      refine aw_aload_n 0 dX8_addRow_16 rfl rfl ?_
      refine aw_dup dX8_addRow_17 rfl ?_
      obtain ⟨fs4, r3, h1, h2, hw⟩ := hw
      refine aw_getf (k := 4) dX8_addRow_18 clX8 (by decide) k_133 (Or.inl rfl) h1 h2 ?_
      refine aw_iconst (v := 1) dX8_addRow_21 (by decide) ?_
      refine aw_iadd dX8_addRow_22 ?_
      obtain ⟨fs6, h1, h2, hw⟩ := hw
      refine aw_putf (k := 4) dX8_addRow_23 clX8 (by decide) k_133 (Or.inl rfl) rfl rfl rfl h1 h2 ?_
      generalize a_up _ _ _ = h5 at hw ⊢
      refine aw_aload_n 0 dX8_addRow_26 rfl rfl ?_
      obtain ⟨fs8, r7, h1, h2, hw⟩ := hw
      refine aw_getf (k := 0) dX8_addRow_27 clX8 (by decide) k_129 (Or.inl rfl) h1 h2 ?_
      refine aw_aload_n 0 dX8_addRow_30 rfl rfl ?_
      obtain ⟨fs10, r9, h1, h2, hw⟩ := hw
      refine aw_getf (k := 4) dX8_addRow_31 clX8 (by decide) k_133 (Or.inl rfl) h1 h2 ?_
      refine aw_iload_n 1 dX8_addRow_34 rfl rfl ?_
      obtain ⟨_, _, h1, h2, hw⟩ := hw
      refine aw_iast dX8_addRow_35 h1 h2 ?_
      generalize a_up _ _ _ = h11 at hw ⊢
      refine aw_aload_n 0 dX8_addRow_36 rfl rfl ?_
      obtain ⟨fs13, r12, h1, h2, hw⟩ := hw
      refine aw_getf (k := 1) dX8_addRow_37 clX8 (by decide) k_130 (Or.inl rfl) h1 h2 ?_
      refine aw_aload_n 0 dX8_addRow_40 rfl rfl ?_
      obtain ⟨fs15, r14, h1, h2, hw⟩ := hw
      refine aw_getf (k := 4) dX8_addRow_41 clX8 (by decide) k_133 (Or.inl rfl) h1 h2 ?_
      refine aw_aload_n 0 dX8_addRow_44 rfl rfl ?_
      obtain ⟨fs17, r16, h1, h2, hw⟩ := hw
      refine aw_getf (k := 5) dX8_addRow_45 clX8 (by decide) k_135 (Or.inl rfl) h1 h2 ?_
      obtain ⟨_, _, h1, h2, hw⟩ := hw
      refine aw_iast dX8_addRow_48 h1 h2 ?_
      generalize a_up _ _ _ = h18 at hw ⊢
      refine aw_aload_n 0 dX8_addRow_49 rfl rfl ?_
      obtain ⟨fs20, r19, h1, h2, hw⟩ := hw
      refine aw_getf (k := 2) dX8_addRow_50 clX8 (by decide) k_131 (Or.inl rfl) h1 h2 ?_
      refine aw_aload_n 0 dX8_addRow_53 rfl rfl ?_
      obtain ⟨fs22, r21, h1, h2, hw⟩ := hw
      refine aw_getf (k := 4) dX8_addRow_54 clX8 (by decide) k_133 (Or.inl rfl) h1 h2 ?_
      refine aw_iload_n 2 dX8_addRow_57 rfl rfl ?_
      obtain ⟨_, _, h1, h2, hw⟩ := hw
      refine aw_iast dX8_addRow_58 h1 h2 ?_
      generalize a_up _ _ _ = h23 at hw ⊢
      refine aw_aload_n 0 dX8_addRow_59 rfl rfl ?_
      obtain ⟨fs25, r24, h1, h2, hw⟩ := hw
      refine aw_getf (k := 3) dX8_addRow_60 clX8 (by decide) k_132 (Or.inl rfl) h1 h2 ?_
      refine aw_aload_n 0 dX8_addRow_63 rfl rfl ?_
      obtain ⟨fs27, r26, h1, h2, hw⟩ := hw
      refine aw_getf (k := 5) dX8_addRow_64 clX8 (by decide) k_135 (Or.inl rfl) h1 h2 ?_
      refine aw_aload_n 0 dX8_addRow_67 rfl rfl ?_
      obtain ⟨fs29, r28, h1, h2, hw⟩ := hw
      refine aw_getf (k := 5) dX8_addRow_68 clX8 (by decide) k_135 (Or.inl rfl) h1 h2 ?_
      refine aw_iload_n 2 dX8_addRow_71 rfl rfl ?_
      refine aw_iadd dX8_addRow_72 ?_
      refine aw_lconst (v := 0) dX8_addRow_73 (by decide) ?_
      refine aw_staticV (As := [.ref r24, .int r26, .int (r28 + v2), .long (0 : Int64)]) (rest := []) dX8_addRow_74 (acJ7_fill_bad5a l G (d - 1) hG (by omega) hw) iJ7_fill_bad5a rfl k_480 k_481 (by omega) (by decide) (by decide) rfl (Nat.le_of_ble_eq_true rfl) (fun h30 hw => ?_)
      refine aw_aload_n 0 dX8_addRow_77 rfl rfl ?_
      refine aw_dup dX8_addRow_78 rfl ?_
      obtain ⟨fs32, r31, h1, h2, hw⟩ := hw
      refine aw_getf (k := 5) dX8_addRow_79 clX8 (by decide) k_135 (Or.inl rfl) h1 h2 ?_
      refine aw_iload_n 2 dX8_addRow_82 rfl rfl ?_
      refine aw_iadd dX8_addRow_83 ?_
      obtain ⟨fs34, h1, h2, hw⟩ := hw
      refine aw_putf (k := 5) dX8_addRow_84 clX8 (by decide) k_135 (Or.inl rfl) rfl rfl rfl h1 h2 ?_
      generalize a_up _ _ _ = h33 at hw ⊢
      refine aw_aload_n 0 dX8_addRow_87 rfl rfl ?_
      obtain ⟨fs36, r35, h1, h2, hw⟩ := hw
      refine aw_getf (k := 4) dX8_addRow_88 clX8 (by decide) k_133 (Or.inl rfl) h1 h2 ?_
      exact aw_iret dX8_addRow_91 rfl rfl ⟨_, rfl, hw⟩
    · have hw := hw.2 z
      refine aw_sub (lv' := []) [] rfl ?_
      exact abX8_addRow_14 l G d hG hd _ hw
-- X5_make
def wX5_make (h : aH) (v0 : Nat) (v1 : Int32) (v2 : Int32) (v3 : Int32) (Q : Int32 → aH → Prop) : Prop :=
  (0 ≤ v3 → rR h v0 4 0 (fun r1 => isO h r1 6 (wX8_haveRoom h r1 ((1 : Int64)) v3.toInt64 (fun r4 h3 => (¬ r4 = 0 → rR h3 v0 4 1 (fun r5 => rR h3 v0 4 0 (fun r7 => isO h3 r7 6 (wX8_addRow h3 r7 v2 v3 (fun r10 h9 => sI h9 r5 v1 r10 (fun h11 => Q 0 h11)))))) ∧ (r4 = 0 → Q 8 h3))))) ∧ (¬ 0 ≤ v3 → Q 4 h)
set_option maxRecDepth 100000 in
theorem acX5_make (l : Launch) (G : aG) (d : Nat) (hG : a_GT G) (hd : 4 ≤ d) {Q : Int32 → aH → Prop} {h : aH} {v0 : Nat} {v1 : Int32} {v2 : Int32} {v3 : Int32} (hw : wX5_make h v0 v1 v2 v3 Q) : AC l G d 0 0 mX5_make [.ref v0, .int v1, .int v2, .int v3] h (qI Q) := by
  refine ac_of iX5_make (Nat.le_of_ble_eq_true rfl) ?_
  show AW l G d 0 0 mX5_make (qI Q) 0 [(0, .ref v0), (1, .int v1), (2, .int v2), (3, .int v3)] [] h
  unfold wX5_make at hw
  refine aw_iload_n 3 dX5_make_0 rfl rfl ?_
  refine aw_if_ge (tgt := 6) dX5_make_1 (by decide) (fun z => ?_) (fun z => ?_)
  · have hw := hw.1 z
    refine aw_aload_n 0 dX5_make_6 rfl rfl ?_
    obtain ⟨fs2, r1, h1, h2, hw⟩ := hw
    refine aw_getf (k := 0) dX5_make_7 clX5 (by decide) k_152 (Or.inl rfl) h1 h2 ?_
    refine aw_lconst (v := 1) dX5_make_10 (by decide) ?_
    refine aw_iload_n 3 dX5_make_11 rfl rfl ?_
    refine aw_i2l dX5_make_12 ?_
    obtain ⟨_, h1, hw⟩ := hw
    refine aw_virtI (As := [.long (1 : Int64), .long v3.toInt64]) (rest := []) dX5_make_13 (acX8_haveRoom l G (d - 1) hG (by omega) hw) iX8_haveRoom rfl k_469 k_470 k_471 rfl h1 (by omega) (by decide) (by decide) rfl (Nat.le_of_ble_eq_true rfl) (fun r4 h3 hw => ?_)
    refine aw_if_ne (tgt := 22) dX5_make_16 (by decide) (fun z => ?_) (fun z => ?_)
    · have hw := hw.1 z
      refine aw_aload_n 0 dX5_make_22 rfl rfl ?_
      obtain ⟨fs6, r5, h1, h2, hw⟩ := hw
      refine aw_getf (k := 1) dX5_make_23 clX5 (by decide) k_154 (Or.inl rfl) h1 h2 ?_
      refine aw_iload_n 1 dX5_make_26 rfl rfl ?_
      refine aw_aload_n 0 dX5_make_27 rfl rfl ?_
      obtain ⟨fs8, r7, h1, h2, hw⟩ := hw
      refine aw_getf (k := 0) dX5_make_28 clX5 (by decide) k_152 (Or.inl rfl) h1 h2 ?_
      refine aw_iload_n 2 dX5_make_31 rfl rfl ?_
      refine aw_iload_n 3 dX5_make_32 rfl rfl ?_
      obtain ⟨_, h1, hw⟩ := hw
      refine aw_virtI (As := [.int v2, .int v3]) (rest := [.int v1, .ref r5]) dX5_make_33 (acX8_addRow l G (d - 1) hG (by omega) hw) iX8_addRow rfl k_475 k_476 k_477 rfl h1 (by omega) (by decide) (by decide) rfl (Nat.le_of_ble_eq_true rfl) (fun r10 h9 hw => ?_)
      obtain ⟨_, _, h1, h2, hw⟩ := hw
      refine aw_iast dX5_make_36 h1 h2 ?_
      generalize a_up _ _ _ = h11 at hw ⊢
      refine aw_iconst (v := 0) dX5_make_37 (by decide) ?_
      exact aw_iret dX5_make_38 rfl rfl ⟨_, rfl, hw⟩
    · have hw := hw.2 z
      refine aw_bipush (v := 8) dX5_make_19 (by decide) ?_
      exact aw_iret dX5_make_21 rfl rfl ⟨_, rfl, hw⟩
  · have hw := hw.2 z
    refine aw_iconst (v := 4) dX5_make_4 (by decide) ?_
    exact aw_iret dX5_make_5 rfl rfl ⟨_, rfl, hw⟩
-- X8_asItem
def wbX8_asItem_61 (v1 : Int64) (h : aH) (Q : Int64 → aH → Prop) : Prop :=
  Q v1 h
def wbX8_asItem_60 (s0 : Int64) (h : aH) (Q : Int64 → aH → Prop) : Prop :=
  Q s0 h
def wX8_asItem (h : aH) (v0 : Int32) (v1 : Int64) (Q : Int64 → aH → Prop) : Prop :=
  ((v0.toInt < 1 ∨ 4 < v0.toInt) → wbX8_asItem_61 v1 h Q) ∧ (v0.toInt = 1 → Q v1.toInt32.toInt64 h) ∧ (v0.toInt = 2 → Q v1.toInt32.toInt8.toInt32.toInt64 h) ∧ (v0.toInt = 3 → wbX8_asItem_61 v1 h Q) ∧ (v0.toInt = 4 → ((lg_cmp ((v1 &&& (9223372036854775807 : Int64))) ((9218868437227405312 : Int64))) ≤ 0 → wbX8_asItem_60 v1 h Q) ∧ (¬ (lg_cmp ((v1 &&& (9223372036854775807 : Int64))) ((9218868437227405312 : Int64))) ≤ 0 → wbX8_asItem_60 ((9221120237041090560 : Int64)) h Q))
set_option maxRecDepth 100000 in
theorem abX8_asItem_61 (l : Launch) (G : aG) (d : Nat) (hG : a_GT G) (hd : 1 ≤ d) {Q : Int64 → aH → Prop} (v1 : Int64) (h : aH) (hw : wbX8_asItem_61 v1 h Q) : AW l G d 0 0 mX8_asItem (qL Q) 61 [(1, .long v1)] [] h := by
  unfold wbX8_asItem_61 at hw
  refine aw_lload_n 0 dX8_asItem_61 rfl rfl ?_
  exact aw_lret dX8_asItem_62 rfl ⟨_, rfl, hw⟩
set_option maxRecDepth 100000 in
theorem abX8_asItem_60 (l : Launch) (G : aG) (d : Nat) (hG : a_GT G) (hd : 1 ≤ d) {Q : Int64 → aH → Prop} (s0 : Int64) (h : aH) (hw : wbX8_asItem_60 s0 h Q) : AW l G d 0 0 mX8_asItem (qL Q) 60 [] [.long s0] h := by
  unfold wbX8_asItem_60 at hw
  exact aw_lret dX8_asItem_60 rfl ⟨_, rfl, hw⟩
set_option maxRecDepth 100000 in
theorem acX8_asItem (l : Launch) (G : aG) (d : Nat) (hG : a_GT G) (hd : 1 ≤ d) {Q : Int64 → aH → Prop} {h : aH} {v0 : Int32} {v1 : Int64} (hw : wX8_asItem h v0 v1 Q) : AC l G d 0 0 mX8_asItem [.int v0, .long v1] h (qL Q) := by
  refine ac_of iX8_asItem (Nat.le_of_ble_eq_true rfl) ?_
  show AW l G d 0 0 mX8_asItem (qL Q) 0 [(0, .int v0), (1, .long v1)] [] h
  unfold wX8_asItem at hw
  refine aw_iload_n 0 dX8_asItem_0 rfl rfl ?_
  by_cases zo : v0.toInt < 1 ∨ 4 < v0.toInt
  · have hw := hw.1 zo
    refine aw_tableOut (tgt := 61) dX8_asItem_1 zo (by decide) ?_
    refine aw_sub (lv' := [(1, .long v1)]) [1] rfl ?_
    exact abX8_asItem_61 l G d hG hd _ _ hw
  · have hw := hw.2
    have z : v0.toInt = 1 ∨ v0.toInt = 2 ∨ v0.toInt = 3 ∨ v0.toInt = 4 := by omega
    rcases z with z | z | z | z
    · have hw := hw.1 z
      refine aw_tableIn (off := 31) (tgt := 32) dX8_asItem_1 (by rw [z]; decide) (by rw [z]; decide) (by rw [z]; rfl) (by decide) ?_
      refine aw_lload_n 1 dX8_asItem_32 rfl rfl ?_
      refine aw_l2i dX8_asItem_33 ?_
      refine aw_i2l dX8_asItem_34 ?_
      exact aw_lret dX8_asItem_35 rfl ⟨_, rfl, hw⟩
    · have hw := hw.2.1 z
      refine aw_tableIn (off := 35) (tgt := 36) dX8_asItem_1 (by rw [z]; decide) (by rw [z]; decide) (by rw [z]; rfl) (by decide) ?_
      refine aw_lload_n 1 dX8_asItem_36 rfl rfl ?_
      refine aw_l2i dX8_asItem_37 ?_
      refine aw_i2b dX8_asItem_38 ?_
      refine aw_i2l dX8_asItem_39 ?_
      exact aw_lret dX8_asItem_40 rfl ⟨_, rfl, hw⟩
    · have hw := hw.2.2.1 z
      refine aw_tableIn (off := 60) (tgt := 61) dX8_asItem_1 (by rw [z]; decide) (by rw [z]; decide) (by rw [z]; rfl) (by decide) ?_
      refine aw_sub (lv' := [(1, .long v1)]) [1] rfl ?_
      exact abX8_asItem_61 l G d hG hd _ _ hw
    · have hw := hw.2.2.2 z
      refine aw_tableIn (off := 40) (tgt := 41) dX8_asItem_1 (by rw [z]; decide) (by rw [z]; decide) (by rw [z]; rfl) (by decide) ?_
      refine aw_lload_n 1 dX8_asItem_41 rfl rfl ?_
      refine aw_ldc2 (v := 9223372036854775807) dX8_asItem_42 k_508 ?_
      refine aw_land dX8_asItem_45 ?_
      refine aw_ldc2 (v := 9218868437227405312) dX8_asItem_46 k_509 ?_
      refine aw_lcmp dX8_asItem_49 ?_
      refine aw_if_le (tgt := 59) dX8_asItem_50 (by decide) (fun z => ?_) (fun z => ?_)
      · have hw := hw.1 z
        refine aw_lload_n 1 dX8_asItem_59 rfl rfl ?_
        refine aw_sub (lv' := []) [] rfl ?_
        exact abX8_asItem_60 l G d hG hd _ _ hw
      · have hw := hw.2 z
        refine aw_ldc2 (v := 9221120237041090560) dX8_asItem_53 k_510 ?_
        refine aw_goto (tgt := 60) dX8_asItem_56 (by decide) ?_
        refine aw_sub (lv' := []) [] rfl ?_
        exact abX8_asItem_60 l G d hG hd _ _ hw
-- X4_isRow
def wbX4_isRow_15 (s0 : Int32) (h : aH) (Q : Int32 → aH → Prop) : Prop :=
  oB s0 ∧ Q s0 h
def wbX4_isRow_14 (h : aH) (Q : Int32 → aH → Prop) : Prop :=
  wbX4_isRow_15 0 h Q
def wX4_isRow (h : aH) (v0 : Int32) (Q : Int32 → aH → Prop) : Prop :=
  (v0 ≤ 0 → wbX4_isRow_14  h Q) ∧ (¬ v0 ≤ 0 → (7 < v0 → wbX4_isRow_14  h Q) ∧ (¬ 7 < v0 → wbX4_isRow_15 1 h Q))
set_option maxRecDepth 100000 in
theorem abX4_isRow_15 (l : Launch) (G : aG) (d : Nat) (hG : a_GT G) (hd : 1 ≤ d) {Q : Int32 → aH → Prop} (s0 : Int32) (h : aH) (hw : wbX4_isRow_15 s0 h Q) : AW l G d 0 0 mX4_isRow (qI Q) 15 [] [.int s0] h := by
  unfold wbX4_isRow_15 at hw
  exact aw_iret dX4_isRow_15 rfl (a_nB hw.1) ⟨_, rfl, hw.2⟩
set_option maxRecDepth 100000 in
theorem abX4_isRow_14 (l : Launch) (G : aG) (d : Nat) (hG : a_GT G) (hd : 1 ≤ d) {Q : Int32 → aH → Prop} (h : aH) (hw : wbX4_isRow_14  h Q) : AW l G d 0 0 mX4_isRow (qI Q) 14 [] [] h := by
  unfold wbX4_isRow_14 at hw
  refine aw_iconst (v := 0) dX4_isRow_14 (by decide) ?_
  exact abX4_isRow_15 l G d hG hd _ _ hw
set_option maxRecDepth 100000 in
theorem acX4_isRow (l : Launch) (G : aG) (d : Nat) (hG : a_GT G) (hd : 1 ≤ d) {Q : Int32 → aH → Prop} {h : aH} {v0 : Int32} (hw : wX4_isRow h v0 Q) : AC l G d 0 0 mX4_isRow [.int v0] h (qI Q) := by
  refine ac_of iX4_isRow (Nat.le_of_ble_eq_true rfl) ?_
  show AW l G d 0 0 mX4_isRow (qI Q) 0 [(0, .int v0)] [] h
  unfold wX4_isRow at hw
  refine aw_iload_n 0 dX4_isRow_0 rfl rfl ?_
  refine aw_if_le (tgt := 14) dX4_isRow_1 (by decide) (fun z => ?_) (fun z => ?_)
  · have hw := hw.1 z
    refine aw_sub (lv' := []) [] rfl ?_
    exact abX4_isRow_14 l G d hG hd _ hw
  · have hw := hw.2 z
    refine aw_iload_n 0 dX4_isRow_4 rfl rfl ?_
    refine aw_bipush (v := 7) dX4_isRow_5 (by decide) ?_
    refine aw_icmp_gt (tgt := 14) dX4_isRow_7 (by decide) (fun z => ?_) (fun z => ?_)
    · have hw := hw.1 z
      refine aw_sub (lv' := []) [] rfl ?_
      exact abX4_isRow_14 l G d hG hd _ hw
    · have hw := hw.2 z
      refine aw_iconst (v := 1) dX4_isRow_10 (by decide) ?_
      refine aw_goto (tgt := 15) dX4_isRow_11 (by decide) ?_
      refine aw_sub (lv' := []) [] rfl ?_
      exact abX4_isRow_15 l G d hG hd _ _ hw
-- X8_kindOf
def wbX8_kindOf_22 (s0 : Int32) (h : aH) (Q : Int32 → aH → Prop) : Prop :=
  Q s0 h
def wbX8_kindOf_21 (h : aH) (Q : Int32 → aH → Prop) : Prop :=
  wbX8_kindOf_22 0 h Q
def wX8_kindOf (h : aH) (v0 : Nat) (v1 : Int32) (Q : Int32 → aH → Prop) : Prop :=
  (v1 ≤ 0 → wbX8_kindOf_21  h Q) ∧ (¬ v1 ≤ 0 → rI h v0 6 4 (fun r1 => (r1 < v1 → wbX8_kindOf_21  h Q) ∧ (¬ r1 < v1 → rR h v0 6 0 (fun r3 => aI h r3 v1 (fun r5 => wbX8_kindOf_22 r5 h Q)))))
set_option maxRecDepth 100000 in
theorem abX8_kindOf_22 (l : Launch) (G : aG) (d : Nat) (hG : a_GT G) (hd : 1 ≤ d) {Q : Int32 → aH → Prop} (s0 : Int32) (h : aH) (hw : wbX8_kindOf_22 s0 h Q) : AW l G d 0 0 mX8_kindOf (qI Q) 22 [] [.int s0] h := by
  unfold wbX8_kindOf_22 at hw
  exact aw_iret dX8_kindOf_22 rfl rfl ⟨_, rfl, hw⟩
set_option maxRecDepth 100000 in
theorem abX8_kindOf_21 (l : Launch) (G : aG) (d : Nat) (hG : a_GT G) (hd : 1 ≤ d) {Q : Int32 → aH → Prop} (h : aH) (hw : wbX8_kindOf_21  h Q) : AW l G d 0 0 mX8_kindOf (qI Q) 21 [] [] h := by
  unfold wbX8_kindOf_21 at hw
  refine aw_iconst (v := 0) dX8_kindOf_21 (by decide) ?_
  exact abX8_kindOf_22 l G d hG hd _ _ hw
set_option maxRecDepth 100000 in
theorem acX8_kindOf (l : Launch) (G : aG) (d : Nat) (hG : a_GT G) (hd : 1 ≤ d) {Q : Int32 → aH → Prop} {h : aH} {v0 : Nat} {v1 : Int32} (hw : wX8_kindOf h v0 v1 Q) : AC l G d 0 0 mX8_kindOf [.ref v0, .int v1] h (qI Q) := by
  refine ac_of iX8_kindOf (Nat.le_of_ble_eq_true rfl) ?_
  show AW l G d 0 0 mX8_kindOf (qI Q) 0 [(0, .ref v0), (1, .int v1)] [] h
  unfold wX8_kindOf at hw
  refine aw_iload_n 1 dX8_kindOf_0 rfl rfl ?_
  refine aw_if_le (tgt := 21) dX8_kindOf_1 (by decide) (fun z => ?_) (fun z => ?_)
  · have hw := hw.1 z
    refine aw_sub (lv' := []) [] rfl ?_
    exact abX8_kindOf_21 l G d hG hd _ hw
  · have hw := hw.2 z
    refine aw_iload_n 1 dX8_kindOf_4 rfl rfl ?_
    refine aw_aload_n 0 dX8_kindOf_5 rfl rfl ?_
    obtain ⟨fs2, r1, h1, h2, hw⟩ := hw
    refine aw_getf (k := 4) dX8_kindOf_6 clX8 (by decide) k_133 (Or.inl rfl) h1 h2 ?_
    refine aw_icmp_gt (tgt := 21) dX8_kindOf_9 (by decide) (fun z => ?_) (fun z => ?_)
    · have hw := hw.1 z
      refine aw_sub (lv' := []) [] rfl ?_
      exact abX8_kindOf_21 l G d hG hd _ hw
    · have hw := hw.2 z
      refine aw_aload_n 0 dX8_kindOf_12 rfl rfl ?_
      obtain ⟨fs4, r3, h1, h2, hw⟩ := hw
      refine aw_getf (k := 0) dX8_kindOf_13 clX8 (by decide) k_129 (Or.inl rfl) h1 h2 ?_
      refine aw_iload_n 1 dX8_kindOf_16 rfl rfl ?_
      obtain ⟨_, _, r5, h1, h2, h3, hw⟩ := hw
      refine aw_aI dX8_kindOf_17 h1 h2 h3 ?_
      refine aw_goto (tgt := 22) dX8_kindOf_18 (by decide) ?_
      refine aw_sub (lv' := []) [] rfl ?_
      exact abX8_kindOf_22 l G d hG hd _ _ hw
-- X8_hasItem
def wbX8_hasItem_30 (s0 : Int32) (h : aH) (Q : Int32 → aH → Prop) : Prop :=
  oB s0 ∧ Q s0 h
def wbX8_hasItem_29 (h : aH) (Q : Int32 → aH → Prop) : Prop :=
  wbX8_hasItem_30 0 h Q
def wX8_hasItem (h : aH) (v0 : Nat) (v1 : Int32) (v2 : Int32) (Q : Int32 → aH → Prop) : Prop :=
  isO h v0 6 (wX8_kindOf h v0 v1 (fun r2 h1 => wX4_isRow h1 r2 (fun r4 h3 => (r4 = 0 → wbX8_hasItem_29 h3 Q) ∧ (¬ r4 = 0 → (v2 < 0 → wbX8_hasItem_29 h3 Q) ∧ (¬ v2 < 0 → rR h3 v0 6 2 (fun r5 => aI h3 r5 v1 (fun r7 => (r7 ≤ v2 → wbX8_hasItem_29 h3 Q) ∧ (¬ r7 ≤ v2 → wbX8_hasItem_30 1 h3 Q))))))))
set_option maxRecDepth 100000 in
theorem abX8_hasItem_30 (l : Launch) (G : aG) (d : Nat) (hG : a_GT G) (hd : 2 ≤ d) {Q : Int32 → aH → Prop} (s0 : Int32) (h : aH) (hw : wbX8_hasItem_30 s0 h Q) : AW l G d 0 0 mX8_hasItem (qI Q) 30 [] [.int s0] h := by
  unfold wbX8_hasItem_30 at hw
  exact aw_iret dX8_hasItem_30 rfl (a_nB hw.1) ⟨_, rfl, hw.2⟩
set_option maxRecDepth 100000 in
theorem abX8_hasItem_29 (l : Launch) (G : aG) (d : Nat) (hG : a_GT G) (hd : 2 ≤ d) {Q : Int32 → aH → Prop} (h : aH) (hw : wbX8_hasItem_29  h Q) : AW l G d 0 0 mX8_hasItem (qI Q) 29 [] [] h := by
  unfold wbX8_hasItem_29 at hw
  refine aw_iconst (v := 0) dX8_hasItem_29 (by decide) ?_
  exact abX8_hasItem_30 l G d hG hd _ _ hw
set_option maxRecDepth 100000 in
theorem acX8_hasItem (l : Launch) (G : aG) (d : Nat) (hG : a_GT G) (hd : 2 ≤ d) {Q : Int32 → aH → Prop} {h : aH} {v0 : Nat} {v1 : Int32} {v2 : Int32} (hw : wX8_hasItem h v0 v1 v2 Q) : AC l G d 0 0 mX8_hasItem [.ref v0, .int v1, .int v2] h (qI Q) := by
  refine ac_of iX8_hasItem (Nat.le_of_ble_eq_true rfl) ?_
  show AW l G d 0 0 mX8_hasItem (qI Q) 0 [(0, .ref v0), (1, .int v1), (2, .int v2)] [] h
  unfold wX8_hasItem at hw
  refine aw_aload_n 0 dX8_hasItem_0 rfl rfl ?_
  refine aw_iload_n 1 dX8_hasItem_1 rfl rfl ?_
  obtain ⟨_, h1, hw⟩ := hw
  refine aw_virtI (As := [.int v1]) (rest := []) dX8_hasItem_2 (acX8_kindOf l G (d - 1) hG (by omega) hw) iX8_kindOf rfl k_498 k_499 k_500 rfl h1 (by omega) (by decide) (by decide) rfl (Nat.le_of_ble_eq_true rfl) (fun r2 h1 hw => ?_)
  refine aw_staticI (As := [.int r2]) (rest := []) dX8_hasItem_5 (acX4_isRow l G (d - 1) hG (by omega) hw) iX4_isRow rfl k_502 k_503 (by omega) (by decide) (by decide) rfl (Nat.le_of_ble_eq_true rfl) (fun r4 h3 hw => ?_)
  refine aw_if_eq (tgt := 29) dX8_hasItem_8 (by decide) (fun z => ?_) (fun z => ?_)
  · have hw := hw.1 z
    refine aw_sub (lv' := []) [] rfl ?_
    exact abX8_hasItem_29 l G d hG hd _ hw
  · have hw := hw.2 z
    refine aw_iload_n 2 dX8_hasItem_11 rfl rfl ?_
    refine aw_if_lt (tgt := 29) dX8_hasItem_12 (by decide) (fun z => ?_) (fun z => ?_)
    · have hw := hw.1 z
      refine aw_sub (lv' := []) [] rfl ?_
      exact abX8_hasItem_29 l G d hG hd _ hw
    · have hw := hw.2 z
      refine aw_iload_n 2 dX8_hasItem_15 rfl rfl ?_
      refine aw_aload_n 0 dX8_hasItem_16 rfl rfl ?_
      obtain ⟨fs6, r5, h1, h2, hw⟩ := hw
      refine aw_getf (k := 2) dX8_hasItem_17 clX8 (by decide) k_131 (Or.inl rfl) h1 h2 ?_
      refine aw_iload_n 1 dX8_hasItem_20 rfl rfl ?_
      obtain ⟨_, _, r7, h1, h2, h3, hw⟩ := hw
      refine aw_aI dX8_hasItem_21 h1 h2 h3 ?_
      refine aw_icmp_ge (tgt := 29) dX8_hasItem_22 (by decide) (fun z => ?_) (fun z => ?_)
      · have hw := hw.1 z
        refine aw_sub (lv' := []) [] rfl ?_
        exact abX8_hasItem_29 l G d hG hd _ hw
      · have hw := hw.2 z
        refine aw_iconst (v := 1) dX8_hasItem_25 (by decide) ?_
        refine aw_goto (tgt := 30) dX8_hasItem_26 (by decide) ?_
        refine aw_sub (lv' := []) [] rfl ?_
        exact abX8_hasItem_30 l G d hG hd _ _ hw
-- X8_write
def wbX8_write_32 (h : aH) (Q : aH → Prop) : Prop :=
  Q h
def wX8_write (h : aH) (v0 : Nat) (v1 : Int32) (v2 : Int32) (v3 : Int64) (Q : aH → Prop) : Prop :=
  isO h v0 6 (wX8_hasItem h v0 v1 v2 (fun r2 h1 => (r2 = 0 → wbX8_write_32 h1 Q) ∧ (¬ r2 = 0 → rR h1 v0 6 3 (fun r3 => rR h1 v0 6 1 (fun r5 => aI h1 r5 v1 (fun r7 => rR h1 v0 6 0 (fun r8 => aI h1 r8 v1 (fun r10 => wX8_asItem h1 r10 v3 (fun r12 h11 => sL h11 r3 ((r7 + v2)) r12 (fun h13 => wbX8_write_32 h13 Q))))))))))
set_option maxRecDepth 100000 in
theorem abX8_write_32 (l : Launch) (G : aG) (d : Nat) (hG : a_GT G) (hd : 3 ≤ d) {Q : aH → Prop} (h : aH) (hw : wbX8_write_32  h Q) : AW l G d 0 0 mX8_write (qV Q) 32 [] [] h := by
  unfold wbX8_write_32 at hw
  exact aw_vret dX8_write_32 rfl ⟨rfl, hw⟩
set_option maxRecDepth 100000 in
theorem acX8_write (l : Launch) (G : aG) (d : Nat) (hG : a_GT G) (hd : 3 ≤ d) {Q : aH → Prop} {h : aH} {v0 : Nat} {v1 : Int32} {v2 : Int32} {v3 : Int64} (hw : wX8_write h v0 v1 v2 v3 Q) : AC l G d 0 0 mX8_write [.ref v0, .int v1, .int v2, .long v3] h (qV Q) := by
  refine ac_of iX8_write (Nat.le_of_ble_eq_true rfl) ?_
  show AW l G d 0 0 mX8_write (qV Q) 0 [(0, .ref v0), (1, .int v1), (2, .int v2), (3, .long v3)] [] h
  unfold wX8_write at hw
  refine aw_aload_n 0 dX8_write_0 rfl rfl ?_
  refine aw_iload_n 1 dX8_write_1 rfl rfl ?_
  refine aw_iload_n 2 dX8_write_2 rfl rfl ?_
  obtain ⟨_, h1, hw⟩ := hw
  refine aw_virtI (As := [.int v1, .int v2]) (rest := []) dX8_write_3 (acX8_hasItem l G (d - 1) hG (by omega) hw) iX8_hasItem rfl k_494 k_495 k_496 rfl h1 (by omega) (by decide) (by decide) rfl (Nat.le_of_ble_eq_true rfl) (fun r2 h1 hw => ?_)
  refine aw_if_eq (tgt := 32) dX8_write_6 (by decide) (fun z => ?_) (fun z => ?_)
  · have hw := hw.1 z
    refine aw_sub (lv' := []) [] rfl ?_
    exact abX8_write_32 l G d hG hd _ hw
  · have hw := hw.2 z
    refine aw_aload_n 0 dX8_write_9 rfl rfl ?_
    obtain ⟨fs4, r3, h1, h2, hw⟩ := hw
    refine aw_getf (k := 3) dX8_write_10 clX8 (by decide) k_132 (Or.inl rfl) h1 h2 ?_
    refine aw_aload_n 0 dX8_write_13 rfl rfl ?_
    obtain ⟨fs6, r5, h1, h2, hw⟩ := hw
    refine aw_getf (k := 1) dX8_write_14 clX8 (by decide) k_130 (Or.inl rfl) h1 h2 ?_
    refine aw_iload_n 1 dX8_write_17 rfl rfl ?_
    obtain ⟨_, _, r7, h1, h2, h3, hw⟩ := hw
    refine aw_aI dX8_write_18 h1 h2 h3 ?_
    refine aw_iload_n 2 dX8_write_19 rfl rfl ?_
    refine aw_iadd dX8_write_20 ?_
    refine aw_aload_n 0 dX8_write_21 rfl rfl ?_
    obtain ⟨fs9, r8, h1, h2, hw⟩ := hw
    refine aw_getf (k := 0) dX8_write_22 clX8 (by decide) k_129 (Or.inl rfl) h1 h2 ?_
    refine aw_iload_n 1 dX8_write_25 rfl rfl ?_
    obtain ⟨_, _, r10, h1, h2, h3, hw⟩ := hw
    refine aw_aI dX8_write_26 h1 h2 h3 ?_
    refine aw_lload_n 3 dX8_write_27 rfl rfl ?_
    refine aw_staticL (As := [.int r10, .long v3]) (rest := [.int (r7 + v2), .ref r3]) dX8_write_28 (acX8_asItem l G (d - 1) hG (by omega) hw) iX8_asItem rfl k_505 k_506 (by omega) (by decide) (by decide) rfl (Nat.le_of_ble_eq_true rfl) (fun r12 h11 hw => ?_)
    obtain ⟨_, _, h1, h2, hw⟩ := hw
    refine aw_last dX8_write_31 h1 h2 ?_
    generalize a_up _ _ _ = h13 at hw ⊢
    refine aw_sub (lv' := []) [] rfl ?_
    exact abX8_write_32 l G d hG hd _ hw
-- X5_makeDeep
def wbX5_makeDeep_8 (h : aH) (Q : Int32 → aH → Prop) : Prop :=
  Q 4 h
def wbX5_makeDeep_49_i (K49 : Nat → Int32 → Int32 → Int32 → Int32 → Int32 →  aH → Prop) (v0 : Nat) (v1 : Int32) (v2 : Int32) (v3 : Int32) (v4 : Int32) (v5 : Int32) (h : aH) (Q : Int32 → aH → Prop) : Prop :=
  (v2 ≤ v5 → rR h v0 4 1 (fun r1 => sI h r1 v1 v4 (fun h3 => Q 0 h3))) ∧ (¬ v2 ≤ v5 → rR h v0 4 0 (fun r4 => rR h v0 4 0 (fun r6 => isO h r6 6 (wX8_addRow h r6 1 v3 (fun r9 h8 => isO h8 r4 6 (wX8_write h8 r4 v4 v5 r9.toInt64 (fun h10 => K49 v0 v1 v2 v3 v4 ((v5 + 1)) h10)))))))
def wbX5_makeDeep_49 (n : Nat) (v0 : Nat) (v1 : Int32) (v2 : Int32) (v3 : Int32) (v4 : Int32) (v5 : Int32) (h : aH) (Q : Int32 → aH → Prop) : Prop := match n with
  | 0 => False
  | n + 1 => wbX5_makeDeep_49_i (fun v0 v1 v2 v3 v4 v5 h => wbX5_makeDeep_49 n v0 v1 v2 v3 v4 v5 h Q) v0 v1 v2 v3 v4 v5 h Q
def wX5_makeDeep (h : aH) (v0 : Nat) (v1 : Int32) (v2 : Int32) (v3 : Int32) (Q : Int32 → aH → Prop) : Prop :=
  (v2 < 0 → wbX5_makeDeep_8  h Q) ∧ (¬ v2 < 0 → (0 ≤ v3 → rR h v0 4 0 (fun r11 => isO h r11 6 (wX8_haveRoom h r11 (((1 : Int64) + v2.toInt64)) ((v2.toInt64 + (v2.toInt64 * v3.toInt64))) (fun r14 h13 => (¬ r14 = 0 → rR h13 v0 4 0 (fun r15 => isO h13 r15 6 (wX8_addRow h13 r15 5 v2 (fun r18 h17 => ∃ n, wbX5_makeDeep_49 n v0 v1 v2 v3 r18 0 h17 Q)))) ∧ (r14 = 0 → Q 8 h13))))) ∧ (¬ 0 ≤ v3 → wbX5_makeDeep_8  h Q))
set_option maxRecDepth 100000 in
theorem abX5_makeDeep_8 (l : Launch) (G : aG) (d : Nat) (hG : a_GT G) (hd : 4 ≤ d) {Q : Int32 → aH → Prop} (h : aH) (hw : wbX5_makeDeep_8  h Q) : AW l G d 0 0 mX5_makeDeep (qI Q) 8 [] [] h := by
  unfold wbX5_makeDeep_8 at hw
  refine aw_iconst (v := 4) dX5_makeDeep_8 (by decide) ?_
  exact aw_iret dX5_makeDeep_9 rfl rfl ⟨_, rfl, hw⟩
set_option maxRecDepth 100000 in
theorem abX5_makeDeep_49_i (l : Launch) (G : aG) (d : Nat) (hG : a_GT G) (hd : 4 ≤ d) {Q : Int32 → aH → Prop} {K49 : Nat → Int32 → Int32 → Int32 → Int32 → Int32 →  aH → Prop} (kk49 : ∀ (v0 : Nat) (v1 : Int32) (v2 : Int32) (v3 : Int32) (v4 : Int32) (v5 : Int32) (h : aH), K49 v0 v1 v2 v3 v4 v5 h → AW l G d 0 0 mX5_makeDeep (qI Q) 49 [(0, .ref v0), (1, .int v1), (2, .int v2), (3, .int v3), (4, .int v4), (5, .int v5)] [] h) (v0 : Nat) (v1 : Int32) (v2 : Int32) (v3 : Int32) (v4 : Int32) (v5 : Int32) (h : aH) (hw : wbX5_makeDeep_49_i K49 v0 v1 v2 v3 v4 v5 h Q) : AW l G d 0 0 mX5_makeDeep (qI Q) 49 [(0, .ref v0), (1, .int v1), (2, .int v2), (3, .int v3), (4, .int v4), (5, .int v5)] [] h := by
  unfold wbX5_makeDeep_49_i at hw
  refine aw_iload 5 dX5_makeDeep_49 rfl ?_
  refine aw_iload_n 2 dX5_makeDeep_51 rfl rfl ?_
  refine aw_icmp_ge (tgt := 82) dX5_makeDeep_52 (by decide) (fun z => ?_) (fun z => ?_)
  · have hw := hw.1 z
    refine aw_aload_n 0 dX5_makeDeep_82 rfl rfl ?_
    obtain ⟨fs2, r1, h1, h2, hw⟩ := hw
    refine aw_getf (k := 1) dX5_makeDeep_83 clX5 (by decide) k_154 (Or.inl rfl) h1 h2 ?_
    refine aw_iload_n 1 dX5_makeDeep_86 rfl rfl ?_
    refine aw_iload 4 dX5_makeDeep_87 rfl ?_
    obtain ⟨_, _, h1, h2, hw⟩ := hw
    refine aw_iast dX5_makeDeep_89 h1 h2 ?_
    generalize a_up _ _ _ = h3 at hw ⊢
    refine aw_iconst (v := 0) dX5_makeDeep_90 (by decide) ?_
    exact aw_iret dX5_makeDeep_91 rfl rfl ⟨_, rfl, hw⟩
  · have hw := hw.2 z
    refine aw_aload_n 0 dX5_makeDeep_55 rfl rfl ?_
    obtain ⟨fs5, r4, h1, h2, hw⟩ := hw
    refine aw_getf (k := 0) dX5_makeDeep_56 clX5 (by decide) k_152 (Or.inl rfl) h1 h2 ?_
    refine aw_iload 4 dX5_makeDeep_59 rfl ?_
    refine aw_iload 5 dX5_makeDeep_61 rfl ?_
    refine aw_aload_n 0 dX5_makeDeep_63 rfl rfl ?_
    obtain ⟨fs7, r6, h1, h2, hw⟩ := hw
    refine aw_getf (k := 0) dX5_makeDeep_64 clX5 (by decide) k_152 (Or.inl rfl) h1 h2 ?_
    refine aw_iconst (v := 1) dX5_makeDeep_67 (by decide) ?_
    refine aw_iload_n 3 dX5_makeDeep_68 rfl rfl ?_
    obtain ⟨_, h1, hw⟩ := hw
    refine aw_virtI (As := [.int 1, .int v3]) (rest := [.int v5, .int v4, .ref r4]) dX5_makeDeep_69 (acX8_addRow l G (d - 1) hG (by omega) hw) iX8_addRow rfl k_475 k_476 k_477 rfl h1 (by omega) (by decide) (by decide) rfl (Nat.le_of_ble_eq_true rfl) (fun r9 h8 hw => ?_)
    refine aw_i2l dX5_makeDeep_72 ?_
    obtain ⟨_, h1, hw⟩ := hw
    refine aw_virtV (As := [.int v4, .int v5, .long r9.toInt64]) (rest := []) dX5_makeDeep_73 (acX8_write l G (d - 1) hG (by omega) hw) iX8_write rfl k_490 k_491 k_492 rfl h1 (by omega) (by decide) (by decide) rfl (Nat.le_of_ble_eq_true rfl) (fun h10 hw => ?_)
    refine aw_iinc (v := (v5 + 1)) (lv' := [(5, .int (v5 + 1)), (0, .ref v0), (1, .int v1), (2, .int v2), (3, .int v3), (4, .int v4)]) 5 dX5_makeDeep_76 rfl rfl (by decide) rfl ?_
    refine aw_goto (tgt := 49) dX5_makeDeep_79 (by decide) ?_
    refine aw_sub (lv' := [(0, .ref v0), (1, .int v1), (2, .int v2), (3, .int v3), (4, .int v4), (5, .int (v5 + 1))]) [1, 2, 3, 4, 5, 0] rfl ?_
    exact kk49 _ _ _ _ _ _ _ hw
set_option maxRecDepth 100000 in
theorem abX5_makeDeep_49 (l : Launch) (G : aG) (d : Nat) (hG : a_GT G) (hd : 4 ≤ d) {Q : Int32 → aH → Prop} (n : Nat) : ∀  (v0 : Nat) (v1 : Int32) (v2 : Int32) (v3 : Int32) (v4 : Int32) (v5 : Int32) (h : aH), wbX5_makeDeep_49 n v0 v1 v2 v3 v4 v5 h Q → AW l G d 0 0 mX5_makeDeep (qI Q) 49 [(0, .ref v0), (1, .int v1), (2, .int v2), (3, .int v3), (4, .int v4), (5, .int v5)] [] h := by
  induction n with
  | zero => exact fun _ _ _ _ _ _ _ hw => hw.elim
  | succ n ih => exact fun _ _ _ _ _ _ _ hw => abX5_makeDeep_49_i l G d hG hd ih _ _ _ _ _ _ _ hw
set_option maxRecDepth 100000 in
theorem acX5_makeDeep (l : Launch) (G : aG) (d : Nat) (hG : a_GT G) (hd : 4 ≤ d) {Q : Int32 → aH → Prop} {h : aH} {v0 : Nat} {v1 : Int32} {v2 : Int32} {v3 : Int32} (hw : wX5_makeDeep h v0 v1 v2 v3 Q) : AC l G d 0 0 mX5_makeDeep [.ref v0, .int v1, .int v2, .int v3] h (qI Q) := by
  refine ac_of iX5_makeDeep (Nat.le_of_ble_eq_true rfl) ?_
  show AW l G d 0 0 mX5_makeDeep (qI Q) 0 [(0, .ref v0), (1, .int v1), (2, .int v2), (3, .int v3)] [] h
  unfold wX5_makeDeep at hw
  refine aw_iload_n 2 dX5_makeDeep_0 rfl rfl ?_
  refine aw_if_lt (tgt := 8) dX5_makeDeep_1 (by decide) (fun z => ?_) (fun z => ?_)
  · have hw := hw.1 z
    refine aw_sub (lv' := []) [] rfl ?_
    exact abX5_makeDeep_8 l G d hG hd _ hw
  · have hw := hw.2 z
    refine aw_iload_n 3 dX5_makeDeep_4 rfl rfl ?_
    refine aw_if_ge (tgt := 10) dX5_makeDeep_5 (by decide) (fun z => ?_) (fun z => ?_)
    · have hw := hw.1 z
      refine aw_aload_n 0 dX5_makeDeep_10 rfl rfl ?_
      obtain ⟨fs12, r11, h1, h2, hw⟩ := hw
      refine aw_getf (k := 0) dX5_makeDeep_11 clX5 (by decide) k_152 (Or.inl rfl) h1 h2 ?_
      refine aw_lconst (v := 1) dX5_makeDeep_14 (by decide) ?_
      refine aw_iload_n 2 dX5_makeDeep_15 rfl rfl ?_
      refine aw_i2l dX5_makeDeep_16 ?_
      refine aw_ladd dX5_makeDeep_17 ?_
      refine aw_iload_n 2 dX5_makeDeep_18 rfl rfl ?_
      refine aw_i2l dX5_makeDeep_19 ?_
      refine aw_iload_n 2 dX5_makeDeep_20 rfl rfl ?_
      refine aw_i2l dX5_makeDeep_21 ?_
      refine aw_iload_n 3 dX5_makeDeep_22 rfl rfl ?_
      refine aw_i2l dX5_makeDeep_23 ?_
      refine aw_lmul dX5_makeDeep_24 ?_
      refine aw_ladd dX5_makeDeep_25 ?_
      obtain ⟨_, h1, hw⟩ := hw
      refine aw_virtI (As := [.long ((1 : Int64) + v2.toInt64), .long (v2.toInt64 + (v2.toInt64 * v3.toInt64))]) (rest := []) dX5_makeDeep_26 (acX8_haveRoom l G (d - 1) hG (by omega) hw) iX8_haveRoom rfl k_469 k_470 k_471 rfl h1 (by omega) (by decide) (by decide) rfl (Nat.le_of_ble_eq_true rfl) (fun r14 h13 hw => ?_)
      refine aw_if_ne (tgt := 35) dX5_makeDeep_29 (by decide) (fun z => ?_) (fun z => ?_)
      · have hw := hw.1 z
        refine aw_aload_n 0 dX5_makeDeep_35 rfl rfl ?_
        obtain ⟨fs16, r15, h1, h2, hw⟩ := hw
        refine aw_getf (k := 0) dX5_makeDeep_36 clX5 (by decide) k_152 (Or.inl rfl) h1 h2 ?_
        refine aw_iconst (v := 5) dX5_makeDeep_39 (by decide) ?_
        refine aw_iload_n 2 dX5_makeDeep_40 rfl rfl ?_
        obtain ⟨_, h1, hw⟩ := hw
        refine aw_virtI (As := [.int 5, .int v2]) (rest := []) dX5_makeDeep_41 (acX8_addRow l G (d - 1) hG (by omega) hw) iX8_addRow rfl k_475 k_476 k_477 rfl h1 (by omega) (by decide) (by decide) rfl (Nat.le_of_ble_eq_true rfl) (fun r18 h17 hw => ?_)
        refine aw_istore (lv' := [(4, .int r18), (0, .ref v0), (1, .int v1), (2, .int v2), (3, .int v3)]) dX5_makeDeep_44 (by decide) rfl ?_
        refine aw_iconst (v := 0) dX5_makeDeep_46 (by decide) ?_
        refine aw_istore (lv' := [(5, .int 0), (4, .int r18), (0, .ref v0), (1, .int v1), (2, .int v2), (3, .int v3)]) dX5_makeDeep_47 (by decide) rfl ?_
        obtain ⟨n, hw⟩ := hw
        refine aw_sub (lv' := [(0, .ref v0), (1, .int v1), (2, .int v2), (3, .int v3), (4, .int r18), (5, .int 0)]) [2, 3, 4, 5, 1, 0] rfl ?_
        exact abX5_makeDeep_49 l G d hG hd n _ _ _ _ _ _ _ hw
      · have hw := hw.2 z
        refine aw_bipush (v := 8) dX5_makeDeep_32 (by decide) ?_
        exact aw_iret dX5_makeDeep_34 rfl rfl ⟨_, rfl, hw⟩
    · have hw := hw.2 z
      refine aw_sub (lv' := []) [] rfl ?_
      exact abX5_makeDeep_8 l G d hG hd _ hw
-- X4_has
def wbX4_has_13 (s0 : Int32) (h : aH) (Q : Int32 → aH → Prop) : Prop :=
  oB s0 ∧ Q s0 h
def wX4_has (h : aH) (v0 : Int32) (v1 : Int32) (Q : Int32 → aH → Prop) : Prop :=
  (((v0 >>> (v1 &&& 31)) &&& 1) = 0 → wbX4_has_13 0 h Q) ∧ (¬ ((v0 >>> (v1 &&& 31)) &&& 1) = 0 → wbX4_has_13 1 h Q)
set_option maxRecDepth 100000 in
theorem abX4_has_13 (l : Launch) (G : aG) (d : Nat) (hG : a_GT G) (hd : 1 ≤ d) {Q : Int32 → aH → Prop} (s0 : Int32) (h : aH) (hw : wbX4_has_13 s0 h Q) : AW l G d 0 0 mX4_has (qI Q) 13 [] [.int s0] h := by
  unfold wbX4_has_13 at hw
  exact aw_iret dX4_has_13 rfl (a_nB hw.1) ⟨_, rfl, hw.2⟩
set_option maxRecDepth 100000 in
theorem acX4_has (l : Launch) (G : aG) (d : Nat) (hG : a_GT G) (hd : 1 ≤ d) {Q : Int32 → aH → Prop} {h : aH} {v0 : Int32} {v1 : Int32} (hw : wX4_has h v0 v1 Q) : AC l G d 0 0 mX4_has [.int v0, .int v1] h (qI Q) := by
  refine ac_of iX4_has (Nat.le_of_ble_eq_true rfl) ?_
  show AW l G d 0 0 mX4_has (qI Q) 0 [(0, .int v0), (1, .int v1)] [] h
  unfold wX4_has at hw
  refine aw_iload_n 0 dX4_has_0 rfl rfl ?_
  refine aw_iload_n 1 dX4_has_1 rfl rfl ?_
  refine aw_ishr dX4_has_2 ?_
  refine aw_iconst (v := 1) dX4_has_3 (by decide) ?_
  refine aw_iand dX4_has_4 ?_
  refine aw_if_eq (tgt := 12) dX4_has_5 (by decide) (fun z => ?_) (fun z => ?_)
  · have hw := hw.1 z
    refine aw_iconst (v := 0) dX4_has_12 (by decide) ?_
    refine aw_sub (lv' := []) [] rfl ?_
    exact abX4_has_13 l G d hG hd _ _ hw
  · have hw := hw.2 z
    refine aw_iconst (v := 1) dX4_has_8 (by decide) ?_
    refine aw_goto (tgt := 13) dX4_has_9 (by decide) ?_
    refine aw_sub (lv' := []) [] rfl ?_
    exact abX4_has_13 l G d hG hd _ _ hw
-- X4_thoseThatAre
def wbX4_thoseThatAre_21 (s0 : Int32) (h : aH) (Q : Int32 → aH → Prop) : Prop :=
  Q s0 h
def wbX4_thoseThatAre_20 (h : aH) (Q : Int32 → aH → Prop) : Prop :=
  wbX4_thoseThatAre_21 0 h Q
def wX4_thoseThatAre (h : aH) (v0 : Int32) (Q : Int32 → aH → Prop) : Prop :=
  (v0 < 0 → wbX4_thoseThatAre_20  h Q) ∧ (¬ v0 < 0 → (10 ≤ v0 → wbX4_thoseThatAre_20  h Q) ∧ (¬ 10 ≤ v0 → tB 1 v0 (fun r1 => wbX4_thoseThatAre_21 r1 h Q)))
set_option maxRecDepth 100000 in
theorem abX4_thoseThatAre_21 (l : Launch) (G : aG) (d : Nat) (hG : a_GT G) (hd : 1 ≤ d) {Q : Int32 → aH → Prop} (s0 : Int32) (h : aH) (hw : wbX4_thoseThatAre_21 s0 h Q) : AW l G d 0 0 mX4_thoseThatAre (qI Q) 21 [] [.int s0] h := by
  unfold wbX4_thoseThatAre_21 at hw
  exact aw_iret dX4_thoseThatAre_21 rfl rfl ⟨_, rfl, hw⟩
set_option maxRecDepth 100000 in
theorem abX4_thoseThatAre_20 (l : Launch) (G : aG) (d : Nat) (hG : a_GT G) (hd : 1 ≤ d) {Q : Int32 → aH → Prop} (h : aH) (hw : wbX4_thoseThatAre_20  h Q) : AW l G d 0 0 mX4_thoseThatAre (qI Q) 20 [] [] h := by
  unfold wbX4_thoseThatAre_20 at hw
  refine aw_iconst (v := 0) dX4_thoseThatAre_20 (by decide) ?_
  exact abX4_thoseThatAre_21 l G d hG hd _ _ hw
set_option maxRecDepth 100000 in
theorem acX4_thoseThatAre (l : Launch) (G : aG) (d : Nat) (hG : a_GT G) (hd : 1 ≤ d) {Q : Int32 → aH → Prop} {h : aH} {v0 : Int32} (hw : wX4_thoseThatAre h v0 Q) : AC l G d 0 0 mX4_thoseThatAre [.int v0] h (qI Q) := by
  refine ac_of iX4_thoseThatAre (Nat.le_of_ble_eq_true rfl) ?_
  show AW l G d 0 0 mX4_thoseThatAre (qI Q) 0 [(0, .int v0)] [] h
  unfold wX4_thoseThatAre at hw
  refine aw_iload_n 0 dX4_thoseThatAre_0 rfl rfl ?_
  refine aw_if_lt (tgt := 20) dX4_thoseThatAre_1 (by decide) (fun z => ?_) (fun z => ?_)
  · have hw := hw.1 z
    refine aw_sub (lv' := []) [] rfl ?_
    exact abX4_thoseThatAre_20 l G d hG hd _ hw
  · have hw := hw.2 z
    refine aw_iload_n 0 dX4_thoseThatAre_4 rfl rfl ?_
    refine aw_gets 1 (by decide) dX4_thoseThatAre_5 rfl k_534 ?_
    refine aw_tL 1 (by decide) hG (v := 10) dX4_thoseThatAre_8 (by decide) ?_
    refine aw_icmp_ge (tgt := 20) dX4_thoseThatAre_9 (by decide) (fun z => ?_) (fun z => ?_)
    · have hw := hw.1 z
      refine aw_sub (lv' := []) [] rfl ?_
      exact abX4_thoseThatAre_20 l G d hG hd _ hw
    · have hw := hw.2 z
      refine aw_gets 1 (by decide) dX4_thoseThatAre_12 rfl k_534 ?_
      refine aw_iload_n 0 dX4_thoseThatAre_15 rfl rfl ?_
      obtain ⟨r1, h1, h2, hw⟩ := hw
      refine aw_tB 1 (by decide) hG dX4_thoseThatAre_16 h1 h2 ?_
      refine aw_goto (tgt := 21) dX4_thoseThatAre_17 (by decide) ?_
      refine aw_sub (lv' := []) [] rfl ?_
      exact abX4_thoseThatAre_21 l G d hG hd _ _ hw
-- X5_holds
def wX5_holds (h : aH) (v0 : Nat) (v1 : Int32) (v2 : Int32) (Q : Int32 → aH → Prop) : Prop :=
  wX4_thoseThatAre h v2 (fun r2 h1 => rR h1 v0 4 0 (fun r3 => rR h1 v0 4 1 (fun r5 => aI h1 r5 v1 (fun r7 => isO h1 r3 6 (wX8_kindOf h1 r3 r7 (fun r9 h8 => wX4_has h8 r2 r9 (fun r11 h10 => oB r11 ∧ Q r11 h10)))))))
set_option maxRecDepth 100000 in
theorem acX5_holds (l : Launch) (G : aG) (d : Nat) (hG : a_GT G) (hd : 2 ≤ d) {Q : Int32 → aH → Prop} {h : aH} {v0 : Nat} {v1 : Int32} {v2 : Int32} (hw : wX5_holds h v0 v1 v2 Q) : AC l G d 0 0 mX5_holds [.ref v0, .int v1, .int v2] h (qI Q) := by
  refine ac_of iX5_holds (Nat.le_of_ble_eq_true rfl) ?_
  show AW l G d 0 0 mX5_holds (qI Q) 0 [(0, .ref v0), (1, .int v1), (2, .int v2)] [] h
  unfold wX5_holds at hw
  refine aw_iload_n 2 dX5_holds_0 rfl rfl ?_
  refine aw_staticI (As := [.int v2]) (rest := []) dX5_holds_1 (acX4_thoseThatAre l G (d - 1) hG (by omega) hw) iX4_thoseThatAre rfl k_531 k_532 (by omega) (by decide) (by decide) rfl (Nat.le_of_ble_eq_true rfl) (fun r2 h1 hw => ?_)
  refine aw_aload_n 0 dX5_holds_4 rfl rfl ?_
  obtain ⟨fs4, r3, h1, h2, hw⟩ := hw
  refine aw_getf (k := 0) dX5_holds_5 clX5 (by decide) k_152 (Or.inl rfl) h1 h2 ?_
  refine aw_aload_n 0 dX5_holds_8 rfl rfl ?_
  obtain ⟨fs6, r5, h1, h2, hw⟩ := hw
  refine aw_getf (k := 1) dX5_holds_9 clX5 (by decide) k_154 (Or.inl rfl) h1 h2 ?_
  refine aw_iload_n 1 dX5_holds_12 rfl rfl ?_
  obtain ⟨_, _, r7, h1, h2, h3, hw⟩ := hw
  refine aw_aI dX5_holds_13 h1 h2 h3 ?_
  obtain ⟨_, h1, hw⟩ := hw
  refine aw_virtI (As := [.int r7]) (rest := [.int r2]) dX5_holds_14 (acX8_kindOf l G (d - 1) hG (by omega) hw) iX8_kindOf rfl k_536 k_499 k_500 rfl h1 (by omega) (by decide) (by decide) rfl (Nat.le_of_ble_eq_true rfl) (fun r9 h8 hw => ?_)
  refine aw_staticI (As := [.int r2, .int r9]) (rest := []) dX5_holds_17 (acX4_has l G (d - 1) hG (by omega) hw) iX4_has rfl k_537 k_538 (by omega) (by decide) (by decide) rfl (Nat.le_of_ble_eq_true rfl) (fun r11 h10 hw => ?_)
  exact aw_iret dX5_holds_20 rfl (a_nB hw.1) ⟨_, rfl, hw.2⟩
-- X5_unlessAs
def wbX5_unlessAs_23 (s0 : Int32) (h : aH) (Q : Int32 → aH → Prop) : Prop :=
  Q s0 h
def wbX5_unlessAs_18 (h : aH) (Q : Int32 → aH → Prop) : Prop :=
  wbX5_unlessAs_23 0 h Q
def wX5_unlessAs (h : aH) (v0 : Nat) (v1 : Int32) (v2 : Int32) (Q : Int32 → aH → Prop) : Prop :=
  rR h v0 4 1 (fun r1 => aI h r1 v1 (fun r3 => (r3 = 0 → wbX5_unlessAs_18  h Q) ∧ (¬ r3 = 0 → isO h v0 4 (wX5_holds h v0 v1 v2 (fun r5 h4 => (r5 = 0 → wbX5_unlessAs_23 2 h4 Q) ∧ (¬ r5 = 0 → wbX5_unlessAs_18 h4 Q))))))
set_option maxRecDepth 100000 in
theorem abX5_unlessAs_23 (l : Launch) (G : aG) (d : Nat) (hG : a_GT G) (hd : 3 ≤ d) {Q : Int32 → aH → Prop} (s0 : Int32) (h : aH) (hw : wbX5_unlessAs_23 s0 h Q) : AW l G d 0 0 mX5_unlessAs (qI Q) 23 [] [.int s0] h := by
  unfold wbX5_unlessAs_23 at hw
  exact aw_iret dX5_unlessAs_23 rfl rfl ⟨_, rfl, hw⟩
set_option maxRecDepth 100000 in
theorem abX5_unlessAs_18 (l : Launch) (G : aG) (d : Nat) (hG : a_GT G) (hd : 3 ≤ d) {Q : Int32 → aH → Prop} (h : aH) (hw : wbX5_unlessAs_18  h Q) : AW l G d 0 0 mX5_unlessAs (qI Q) 18 [] [] h := by
  unfold wbX5_unlessAs_18 at hw
  refine aw_iconst (v := 0) dX5_unlessAs_18 (by decide) ?_
  refine aw_goto (tgt := 23) dX5_unlessAs_19 (by decide) ?_
  exact abX5_unlessAs_23 l G d hG hd _ _ hw
set_option maxRecDepth 100000 in
theorem acX5_unlessAs (l : Launch) (G : aG) (d : Nat) (hG : a_GT G) (hd : 3 ≤ d) {Q : Int32 → aH → Prop} {h : aH} {v0 : Nat} {v1 : Int32} {v2 : Int32} (hw : wX5_unlessAs h v0 v1 v2 Q) : AC l G d 0 0 mX5_unlessAs [.ref v0, .int v1, .int v2] h (qI Q) := by
  refine ac_of iX5_unlessAs (Nat.le_of_ble_eq_true rfl) ?_
  show AW l G d 0 0 mX5_unlessAs (qI Q) 0 [(0, .ref v0), (1, .int v1), (2, .int v2)] [] h
  unfold wX5_unlessAs at hw
  refine aw_aload_n 0 dX5_unlessAs_0 rfl rfl ?_
  obtain ⟨fs2, r1, h1, h2, hw⟩ := hw
  refine aw_getf (k := 1) dX5_unlessAs_1 clX5 (by decide) k_154 (Or.inl rfl) h1 h2 ?_
  refine aw_iload_n 1 dX5_unlessAs_4 rfl rfl ?_
  obtain ⟨_, _, r3, h1, h2, h3, hw⟩ := hw
  refine aw_aI dX5_unlessAs_5 h1 h2 h3 ?_
  refine aw_if_eq (tgt := 18) dX5_unlessAs_6 (by decide) (fun z => ?_) (fun z => ?_)
  · have hw := hw.1 z
    refine aw_sub (lv' := []) [] rfl ?_
    exact abX5_unlessAs_18 l G d hG hd _ hw
  · have hw := hw.2 z
    refine aw_aload_n 0 dX5_unlessAs_9 rfl rfl ?_
    refine aw_iload_n 1 dX5_unlessAs_10 rfl rfl ?_
    refine aw_iload_n 2 dX5_unlessAs_11 rfl rfl ?_
    obtain ⟨_, h1, hw⟩ := hw
    refine aw_virtI (As := [.int v1, .int v2]) (rest := []) dX5_unlessAs_12 (acX5_holds l G (d - 1) hG (by omega) hw) iX5_holds rfl k_527 k_528 k_529 rfl h1 (by omega) (by decide) (by decide) rfl (Nat.le_of_ble_eq_true rfl) (fun r5 h4 hw => ?_)
    refine aw_if_eq (tgt := 22) dX5_unlessAs_15 (by decide) (fun z => ?_) (fun z => ?_)
    · have hw := hw.1 z
      refine aw_iconst (v := 2) dX5_unlessAs_22 (by decide) ?_
      refine aw_sub (lv' := []) [] rfl ?_
      exact abX5_unlessAs_23 l G d hG hd _ _ hw
    · have hw := hw.2 z
      refine aw_sub (lv' := []) [] rfl ?_
      exact abX5_unlessAs_18 l G d hG hd _ hw
-- X5_move
def wbX5_move_33 (v4 : Int32) (h : aH) (Q : Int32 → aH → Prop) : Prop :=
  Q v4 h
def wbX5_move_14 (v0 : Nat) (v1 : Int32) (v2 : Int32) (s0 : Int32) (h : aH) (Q : Int32 → aH → Prop) : Prop :=
  (¬ s0 = 0 → wbX5_move_33 s0 h Q) ∧ (s0 = 0 → rR h v0 4 1 (fun r1 => rR h v0 4 1 (fun r3 => aI h r3 v2 (fun r5 => sI h r1 v1 r5 (fun h6 => wbX5_move_33 s0 h6 Q)))))
def wX5_move (h : aH) (v0 : Nat) (v1 : Int32) (v2 : Int32) (v3 : Int32) (Q : Int32 → aH → Prop) : Prop :=
  (¬ v3 = 0 → isO h v0 4 (wX5_unlessAs h v0 v2 v3 (fun r8 h7 => wbX5_move_14 v0 v1 v2 r8 h7 Q))) ∧ (v3 = 0 → wbX5_move_14 v0 v1 v2 0 h Q)
set_option maxRecDepth 100000 in
theorem abX5_move_33 (l : Launch) (G : aG) (d : Nat) (hG : a_GT G) (hd : 4 ≤ d) {Q : Int32 → aH → Prop} (v4 : Int32) (h : aH) (hw : wbX5_move_33 v4 h Q) : AW l G d 0 0 mX5_move (qI Q) 33 [(4, .int v4)] [] h := by
  unfold wbX5_move_33 at hw
  refine aw_iload 0 dX5_move_33 rfl ?_
  exact aw_iret dX5_move_35 rfl rfl ⟨_, rfl, hw⟩
set_option maxRecDepth 100000 in
theorem abX5_move_14 (l : Launch) (G : aG) (d : Nat) (hG : a_GT G) (hd : 4 ≤ d) {Q : Int32 → aH → Prop} (v0 : Nat) (v1 : Int32) (v2 : Int32) (s0 : Int32) (h : aH) (hw : wbX5_move_14 v0 v1 v2 s0 h Q) : AW l G d 0 0 mX5_move (qI Q) 14 [(0, .ref v0), (1, .int v1), (2, .int v2)] [.int s0] h := by
  unfold wbX5_move_14 at hw
  refine aw_istore (lv' := [(4, .int s0), (0, .ref v0), (1, .int v1), (2, .int v2)]) dX5_move_14 (by decide) rfl ?_
  refine aw_iload 0 dX5_move_16 rfl ?_
  refine aw_if_ne (tgt := 33) dX5_move_18 (by decide) (fun z => ?_) (fun z => ?_)
  · have hw := hw.1 z
    refine aw_sub (lv' := [(4, .int s0)]) [0] rfl ?_
    exact abX5_move_33 l G d hG hd _ _ hw
  · have hw := hw.2 z
    refine aw_aload_n 1 dX5_move_21 rfl rfl ?_
    obtain ⟨fs2, r1, h1, h2, hw⟩ := hw
    refine aw_getf (k := 1) dX5_move_22 clX5 (by decide) k_154 (Or.inl rfl) h1 h2 ?_
    refine aw_iload_n 2 dX5_move_25 rfl rfl ?_
    refine aw_aload_n 1 dX5_move_26 rfl rfl ?_
    obtain ⟨fs4, r3, h1, h2, hw⟩ := hw
    refine aw_getf (k := 1) dX5_move_27 clX5 (by decide) k_154 (Or.inl rfl) h1 h2 ?_
    refine aw_iload_n 3 dX5_move_30 rfl rfl ?_
    obtain ⟨_, _, r5, h1, h2, h3, hw⟩ := hw
    refine aw_aI dX5_move_31 h1 h2 h3 ?_
    obtain ⟨_, _, h1, h2, hw⟩ := hw
    refine aw_iast dX5_move_32 h1 h2 ?_
    generalize a_up _ _ _ = h6 at hw ⊢
    refine aw_sub (lv' := [(4, .int s0)]) [0] rfl ?_
    exact abX5_move_33 l G d hG hd _ _ hw
set_option maxRecDepth 100000 in
theorem acX5_move (l : Launch) (G : aG) (d : Nat) (hG : a_GT G) (hd : 4 ≤ d) {Q : Int32 → aH → Prop} {h : aH} {v0 : Nat} {v1 : Int32} {v2 : Int32} {v3 : Int32} (hw : wX5_move h v0 v1 v2 v3 Q) : AC l G d 0 0 mX5_move [.ref v0, .int v1, .int v2, .int v3] h (qI Q) := by
  refine ac_of iX5_move (Nat.le_of_ble_eq_true rfl) ?_
  show AW l G d 0 0 mX5_move (qI Q) 0 [(0, .ref v0), (1, .int v1), (2, .int v2), (3, .int v3)] [] h
  unfold wX5_move at hw
  refine aw_iload_n 3 dX5_move_0 rfl rfl ?_
  refine aw_if_ne (tgt := 8) dX5_move_1 (by decide) (fun z => ?_) (fun z => ?_)
  · have hw := hw.1 z
    refine aw_aload_n 0 dX5_move_8 rfl rfl ?_
    refine aw_iload_n 2 dX5_move_9 rfl rfl ?_
    refine aw_iload_n 3 dX5_move_10 rfl rfl ?_
    obtain ⟨_, h1, hw⟩ := hw
    refine aw_virtI (As := [.int v2, .int v3]) (rest := []) dX5_move_11 (acX5_unlessAs l G (d - 1) hG (by omega) hw) iX5_unlessAs rfl k_523 k_525 k_10 rfl h1 (by omega) (by decide) (by decide) rfl (Nat.le_of_ble_eq_true rfl) (fun r8 h7 hw => ?_)
    refine aw_sub (lv' := [(0, .ref v0), (1, .int v1), (2, .int v2)]) [0, 1, 2] rfl ?_
    exact abX5_move_14 l G d hG hd _ _ _ _ _ hw
  · have hw := hw.2 z
    refine aw_iconst (v := 0) dX5_move_4 (by decide) ?_
    refine aw_goto (tgt := 14) dX5_move_5 (by decide) ?_
    refine aw_sub (lv' := [(0, .ref v0), (1, .int v1), (2, .int v2)]) [0, 1, 2] rfl ?_
    exact abX5_move_14 l G d hG hd _ _ _ _ _ hw
-- X8_read
def wbX8_read_26 (s0 : Int64) (h : aH) (Q : Int64 → aH → Prop) : Prop :=
  Q s0 h
def wX8_read (h : aH) (v0 : Nat) (v1 : Int32) (v2 : Int32) (Q : Int64 → aH → Prop) : Prop :=
  isO h v0 6 (wX8_hasItem h v0 v1 v2 (fun r2 h1 => (r2 = 0 → wbX8_read_26 ((0 : Int64)) h1 Q) ∧ (¬ r2 = 0 → rR h1 v0 6 3 (fun r3 => rR h1 v0 6 1 (fun r5 => aI h1 r5 v1 (fun r7 => aL h1 r3 ((r7 + v2)) (fun r8 => wbX8_read_26 r8 h1 Q)))))))
set_option maxRecDepth 100000 in
theorem abX8_read_26 (l : Launch) (G : aG) (d : Nat) (hG : a_GT G) (hd : 3 ≤ d) {Q : Int64 → aH → Prop} (s0 : Int64) (h : aH) (hw : wbX8_read_26 s0 h Q) : AW l G d 0 0 mX8_read (qL Q) 26 [] [.long s0] h := by
  unfold wbX8_read_26 at hw
  exact aw_lret dX8_read_26 rfl ⟨_, rfl, hw⟩
set_option maxRecDepth 100000 in
theorem acX8_read (l : Launch) (G : aG) (d : Nat) (hG : a_GT G) (hd : 3 ≤ d) {Q : Int64 → aH → Prop} {h : aH} {v0 : Nat} {v1 : Int32} {v2 : Int32} (hw : wX8_read h v0 v1 v2 Q) : AC l G d 0 0 mX8_read [.ref v0, .int v1, .int v2] h (qL Q) := by
  refine ac_of iX8_read (Nat.le_of_ble_eq_true rfl) ?_
  show AW l G d 0 0 mX8_read (qL Q) 0 [(0, .ref v0), (1, .int v1), (2, .int v2)] [] h
  unfold wX8_read at hw
  refine aw_aload_n 0 dX8_read_0 rfl rfl ?_
  refine aw_iload_n 1 dX8_read_1 rfl rfl ?_
  refine aw_iload_n 2 dX8_read_2 rfl rfl ?_
  obtain ⟨_, h1, hw⟩ := hw
  refine aw_virtI (As := [.int v1, .int v2]) (rest := []) dX8_read_3 (acX8_hasItem l G (d - 1) hG (by omega) hw) iX8_hasItem rfl k_494 k_495 k_496 rfl h1 (by omega) (by decide) (by decide) rfl (Nat.le_of_ble_eq_true rfl) (fun r2 h1 hw => ?_)
  refine aw_if_eq (tgt := 25) dX8_read_6 (by decide) (fun z => ?_) (fun z => ?_)
  · have hw := hw.1 z
    refine aw_lconst (v := 0) dX8_read_25 (by decide) ?_
    refine aw_sub (lv' := []) [] rfl ?_
    exact abX8_read_26 l G d hG hd _ _ hw
  · have hw := hw.2 z
    refine aw_aload_n 0 dX8_read_9 rfl rfl ?_
    obtain ⟨fs4, r3, h1, h2, hw⟩ := hw
    refine aw_getf (k := 3) dX8_read_10 clX8 (by decide) k_132 (Or.inl rfl) h1 h2 ?_
    refine aw_aload_n 0 dX8_read_13 rfl rfl ?_
    obtain ⟨fs6, r5, h1, h2, hw⟩ := hw
    refine aw_getf (k := 1) dX8_read_14 clX8 (by decide) k_130 (Or.inl rfl) h1 h2 ?_
    refine aw_iload_n 1 dX8_read_17 rfl rfl ?_
    obtain ⟨_, _, r7, h1, h2, h3, hw⟩ := hw
    refine aw_aI dX8_read_18 h1 h2 h3 ?_
    refine aw_iload_n 2 dX8_read_19 rfl rfl ?_
    refine aw_iadd dX8_read_20 ?_
    obtain ⟨_, _, r8, h1, h2, h3, hw⟩ := hw
    refine aw_aL dX8_read_21 h1 h2 h3 ?_
    refine aw_goto (tgt := 26) dX8_read_22 (by decide) ?_
    refine aw_sub (lv' := []) [] rfl ?_
    exact abX8_read_26 l G d hG hd _ _ hw
-- X5_unlessItem
def wbX5_unlessItem_44 (s0 : Int32) (h : aH) (Q : Int32 → aH → Prop) : Prop :=
  Q s0 h
def wX5_unlessItem (h : aH) (v0 : Nat) (v1 : Int32) (v2 : Int32) (v3 : Int32) (Q : Int32 → aH → Prop) : Prop :=
  rR h v0 4 1 (fun r1 => aI h r1 v1 (fun r3 => (¬ r3 = 0 → isO h v0 4 (wX5_holds h v0 v1 v2 (fun r5 h4 => (¬ r5 = 0 → rR h4 v0 4 0 (fun r6 => rR h4 v0 4 1 (fun r8 => aI h4 r8 v1 (fun r10 => isO h4 r6 6 (wX8_hasItem h4 r6 r10 v3 (fun r12 h11 => (r12 = 0 → wbX5_unlessItem_44 3 h11 Q) ∧ (¬ r12 = 0 → wbX5_unlessItem_44 0 h11 Q))))))) ∧ (r5 = 0 → Q 2 h4)))) ∧ (r3 = 0 → Q 1 h)))
set_option maxRecDepth 100000 in
theorem abX5_unlessItem_44 (l : Launch) (G : aG) (d : Nat) (hG : a_GT G) (hd : 3 ≤ d) {Q : Int32 → aH → Prop} (s0 : Int32) (h : aH) (hw : wbX5_unlessItem_44 s0 h Q) : AW l G d 0 0 mX5_unlessItem (qI Q) 44 [] [.int s0] h := by
  unfold wbX5_unlessItem_44 at hw
  exact aw_iret dX5_unlessItem_44 rfl rfl ⟨_, rfl, hw⟩
set_option maxRecDepth 100000 in
theorem acX5_unlessItem (l : Launch) (G : aG) (d : Nat) (hG : a_GT G) (hd : 3 ≤ d) {Q : Int32 → aH → Prop} {h : aH} {v0 : Nat} {v1 : Int32} {v2 : Int32} {v3 : Int32} (hw : wX5_unlessItem h v0 v1 v2 v3 Q) : AC l G d 0 0 mX5_unlessItem [.ref v0, .int v1, .int v2, .int v3] h (qI Q) := by
  refine ac_of iX5_unlessItem (Nat.le_of_ble_eq_true rfl) ?_
  show AW l G d 0 0 mX5_unlessItem (qI Q) 0 [(0, .ref v0), (1, .int v1), (2, .int v2), (3, .int v3)] [] h
  unfold wX5_unlessItem at hw
  refine aw_aload_n 0 dX5_unlessItem_0 rfl rfl ?_
  obtain ⟨fs2, r1, h1, h2, hw⟩ := hw
  refine aw_getf (k := 1) dX5_unlessItem_1 clX5 (by decide) k_154 (Or.inl rfl) h1 h2 ?_
  refine aw_iload_n 1 dX5_unlessItem_4 rfl rfl ?_
  obtain ⟨_, _, r3, h1, h2, h3, hw⟩ := hw
  refine aw_aI dX5_unlessItem_5 h1 h2 h3 ?_
  refine aw_if_ne (tgt := 11) dX5_unlessItem_6 (by decide) (fun z => ?_) (fun z => ?_)
  · have hw := hw.1 z
    refine aw_aload_n 0 dX5_unlessItem_11 rfl rfl ?_
    refine aw_iload_n 1 dX5_unlessItem_12 rfl rfl ?_
    refine aw_iload_n 2 dX5_unlessItem_13 rfl rfl ?_
    obtain ⟨_, h1, hw⟩ := hw
    refine aw_virtI (As := [.int v1, .int v2]) (rest := []) dX5_unlessItem_14 (acX5_holds l G (d - 1) hG (by omega) hw) iX5_holds rfl k_527 k_528 k_529 rfl h1 (by omega) (by decide) (by decide) rfl (Nat.le_of_ble_eq_true rfl) (fun r5 h4 hw => ?_)
    refine aw_if_ne (tgt := 22) dX5_unlessItem_17 (by decide) (fun z => ?_) (fun z => ?_)
    · have hw := hw.1 z
      refine aw_aload_n 0 dX5_unlessItem_22 rfl rfl ?_
      obtain ⟨fs7, r6, h1, h2, hw⟩ := hw
      refine aw_getf (k := 0) dX5_unlessItem_23 clX5 (by decide) k_152 (Or.inl rfl) h1 h2 ?_
      refine aw_aload_n 0 dX5_unlessItem_26 rfl rfl ?_
      obtain ⟨fs9, r8, h1, h2, hw⟩ := hw
      refine aw_getf (k := 1) dX5_unlessItem_27 clX5 (by decide) k_154 (Or.inl rfl) h1 h2 ?_
      refine aw_iload_n 1 dX5_unlessItem_30 rfl rfl ?_
      obtain ⟨_, _, r10, h1, h2, h3, hw⟩ := hw
      refine aw_aI dX5_unlessItem_31 h1 h2 h3 ?_
      refine aw_iload_n 3 dX5_unlessItem_32 rfl rfl ?_
      obtain ⟨_, h1, hw⟩ := hw
      refine aw_virtI (As := [.int r10, .int v3]) (rest := []) dX5_unlessItem_33 (acX8_hasItem l G (d - 1) hG (by omega) hw) iX8_hasItem rfl k_548 k_495 k_496 rfl h1 (by omega) (by decide) (by decide) rfl (Nat.le_of_ble_eq_true rfl) (fun r12 h11 hw => ?_)
      refine aw_if_eq (tgt := 43) dX5_unlessItem_36 (by decide) (fun z => ?_) (fun z => ?_)
      · have hw := hw.1 z
        refine aw_iconst (v := 3) dX5_unlessItem_43 (by decide) ?_
        refine aw_sub (lv' := []) [] rfl ?_
        exact abX5_unlessItem_44 l G d hG hd _ _ hw
      · have hw := hw.2 z
        refine aw_iconst (v := 0) dX5_unlessItem_39 (by decide) ?_
        refine aw_goto (tgt := 44) dX5_unlessItem_40 (by decide) ?_
        refine aw_sub (lv' := []) [] rfl ?_
        exact abX5_unlessItem_44 l G d hG hd _ _ hw
    · have hw := hw.2 z
      refine aw_iconst (v := 2) dX5_unlessItem_20 (by decide) ?_
      exact aw_iret dX5_unlessItem_21 rfl rfl ⟨_, rfl, hw⟩
  · have hw := hw.2 z
    refine aw_iconst (v := 1) dX5_unlessItem_9 (by decide) ?_
    exact aw_iret dX5_unlessItem_10 rfl rfl ⟨_, rfl, hw⟩
-- X5_get
def wbX5_get_36 (v5 : Int32) (h : aH) (Q : Int32 → aH → Prop) : Prop :=
  Q v5 h
def wX5_get (h : aH) (v0 : Nat) (v1 : Int32) (v2 : Int32) (v3 : Int32) (v4 : Int32) (Q : Int32 → aH → Prop) : Prop :=
  isO h v0 4 (wX5_unlessItem h v0 v2 v3 v4 (fun r2 h1 => (¬ r2 = 0 → wbX5_get_36 r2 h1 Q) ∧ (r2 = 0 → rR h1 v0 4 2 (fun r3 => rR h1 v0 4 0 (fun r5 => rR h1 v0 4 1 (fun r7 => aI h1 r7 v2 (fun r9 => isO h1 r5 6 (wX8_read h1 r5 r9 v4 (fun r11 h10 => sL h10 r3 v1 r11 (fun h12 => wbX5_get_36 r2 h12 Q))))))))))
set_option maxRecDepth 100000 in
theorem abX5_get_36 (l : Launch) (G : aG) (d : Nat) (hG : a_GT G) (hd : 4 ≤ d) {Q : Int32 → aH → Prop} (v5 : Int32) (h : aH) (hw : wbX5_get_36 v5 h Q) : AW l G d 0 0 mX5_get (qI Q) 36 [(5, .int v5)] [] h := by
  unfold wbX5_get_36 at hw
  refine aw_iload 0 dX5_get_36 rfl ?_
  exact aw_iret dX5_get_38 rfl rfl ⟨_, rfl, hw⟩
set_option maxRecDepth 100000 in
theorem acX5_get (l : Launch) (G : aG) (d : Nat) (hG : a_GT G) (hd : 4 ≤ d) {Q : Int32 → aH → Prop} {h : aH} {v0 : Nat} {v1 : Int32} {v2 : Int32} {v3 : Int32} {v4 : Int32} (hw : wX5_get h v0 v1 v2 v3 v4 Q) : AC l G d 0 0 mX5_get [.ref v0, .int v1, .int v2, .int v3, .int v4] h (qI Q) := by
  refine ac_of iX5_get (Nat.le_of_ble_eq_true rfl) ?_
  show AW l G d 0 0 mX5_get (qI Q) 0 [(0, .ref v0), (1, .int v1), (2, .int v2), (3, .int v3), (4, .int v4)] [] h
  unfold wX5_get at hw
  refine aw_aload_n 0 dX5_get_0 rfl rfl ?_
  refine aw_iload_n 2 dX5_get_1 rfl rfl ?_
  refine aw_iload_n 3 dX5_get_2 rfl rfl ?_
  refine aw_iload 4 dX5_get_3 rfl ?_
  obtain ⟨_, h1, hw⟩ := hw
  refine aw_virtI (As := [.int v2, .int v3, .int v4]) (rest := []) dX5_get_5 (acX5_unlessItem l G (d - 1) hG (by omega) hw) iX5_unlessItem rfl k_544 k_546 k_12 rfl h1 (by omega) (by decide) (by decide) rfl (Nat.le_of_ble_eq_true rfl) (fun r2 h1 hw => ?_)
  refine aw_istore (lv' := [(5, .int r2), (0, .ref v0), (1, .int v1), (2, .int v2), (3, .int v3), (4, .int v4)]) dX5_get_8 (by decide) rfl ?_
  refine aw_iload 0 dX5_get_10 rfl ?_
  refine aw_if_ne (tgt := 36) dX5_get_12 (by decide) (fun z => ?_) (fun z => ?_)
  · have hw := hw.1 z
    refine aw_sub (lv' := [(5, .int r2)]) [0] rfl ?_
    exact abX5_get_36 l G d hG hd _ _ hw
  · have hw := hw.2 z
    refine aw_aload_n 1 dX5_get_15 rfl rfl ?_
    obtain ⟨fs4, r3, h1, h2, hw⟩ := hw
    refine aw_getf (k := 2) dX5_get_16 clX5 (by decide) k_156 (Or.inl rfl) h1 h2 ?_
    refine aw_iload_n 2 dX5_get_19 rfl rfl ?_
    refine aw_aload_n 1 dX5_get_20 rfl rfl ?_
    obtain ⟨fs6, r5, h1, h2, hw⟩ := hw
    refine aw_getf (k := 0) dX5_get_21 clX5 (by decide) k_152 (Or.inl rfl) h1 h2 ?_
    refine aw_aload_n 1 dX5_get_24 rfl rfl ?_
    obtain ⟨fs8, r7, h1, h2, hw⟩ := hw
    refine aw_getf (k := 1) dX5_get_25 clX5 (by decide) k_154 (Or.inl rfl) h1 h2 ?_
    refine aw_iload_n 3 dX5_get_28 rfl rfl ?_
    obtain ⟨_, _, r9, h1, h2, h3, hw⟩ := hw
    refine aw_aI dX5_get_29 h1 h2 h3 ?_
    refine aw_iload 5 dX5_get_30 rfl ?_
    obtain ⟨_, h1, hw⟩ := hw
    refine aw_virtL (As := [.int r9, .int v4]) (rest := [.int v1, .ref r3]) dX5_get_32 (acX8_read l G (d - 1) hG (by omega) hw) iX8_read rfl k_549 k_550 k_551 rfl h1 (by omega) (by decide) (by decide) rfl (Nat.le_of_ble_eq_true rfl) (fun r11 h10 hw => ?_)
    obtain ⟨_, _, h1, h2, hw⟩ := hw
    refine aw_last dX5_get_35 h1 h2 ?_
    generalize a_up _ _ _ = h12 at hw ⊢
    refine aw_sub (lv' := [(5, .int r2)]) [0] rfl ?_
    exact abX5_get_36 l G d hG hd _ _ hw
-- X5_set
def wbX5_set_35 (v5 : Int32) (h : aH) (Q : Int32 → aH → Prop) : Prop :=
  Q v5 h
def wX5_set (h : aH) (v0 : Nat) (v1 : Int32) (v2 : Int32) (v3 : Int32) (v4 : Int32) (Q : Int32 → aH → Prop) : Prop :=
  isO h v0 4 (wX5_unlessItem h v0 v1 v2 v3 (fun r2 h1 => (¬ r2 = 0 → wbX5_set_35 r2 h1 Q) ∧ (r2 = 0 → rR h1 v0 4 0 (fun r3 => rR h1 v0 4 1 (fun r5 => aI h1 r5 v1 (fun r7 => rR h1 v0 4 2 (fun r8 => aL h1 r8 v4 (fun r10 => isO h1 r3 6 (wX8_write h1 r3 r7 v3 r10 (fun h11 => wbX5_set_35 r2 h11 Q))))))))))
set_option maxRecDepth 100000 in
theorem abX5_set_35 (l : Launch) (G : aG) (d : Nat) (hG : a_GT G) (hd : 4 ≤ d) {Q : Int32 → aH → Prop} (v5 : Int32) (h : aH) (hw : wbX5_set_35 v5 h Q) : AW l G d 0 0 mX5_set (qI Q) 35 [(5, .int v5)] [] h := by
  unfold wbX5_set_35 at hw
  refine aw_iload 0 dX5_set_35 rfl ?_
  exact aw_iret dX5_set_37 rfl rfl ⟨_, rfl, hw⟩
set_option maxRecDepth 100000 in
theorem acX5_set (l : Launch) (G : aG) (d : Nat) (hG : a_GT G) (hd : 4 ≤ d) {Q : Int32 → aH → Prop} {h : aH} {v0 : Nat} {v1 : Int32} {v2 : Int32} {v3 : Int32} {v4 : Int32} (hw : wX5_set h v0 v1 v2 v3 v4 Q) : AC l G d 0 0 mX5_set [.ref v0, .int v1, .int v2, .int v3, .int v4] h (qI Q) := by
  refine ac_of iX5_set (Nat.le_of_ble_eq_true rfl) ?_
  show AW l G d 0 0 mX5_set (qI Q) 0 [(0, .ref v0), (1, .int v1), (2, .int v2), (3, .int v3), (4, .int v4)] [] h
  unfold wX5_set at hw
  refine aw_aload_n 0 dX5_set_0 rfl rfl ?_
  refine aw_iload_n 1 dX5_set_1 rfl rfl ?_
  refine aw_iload_n 2 dX5_set_2 rfl rfl ?_
  refine aw_iload_n 3 dX5_set_3 rfl rfl ?_
  obtain ⟨_, h1, hw⟩ := hw
  refine aw_virtI (As := [.int v1, .int v2, .int v3]) (rest := []) dX5_set_4 (acX5_unlessItem l G (d - 1) hG (by omega) hw) iX5_unlessItem rfl k_544 k_546 k_12 rfl h1 (by omega) (by decide) (by decide) rfl (Nat.le_of_ble_eq_true rfl) (fun r2 h1 hw => ?_)
  refine aw_istore (lv' := [(5, .int r2), (0, .ref v0), (1, .int v1), (2, .int v2), (3, .int v3), (4, .int v4)]) dX5_set_7 (by decide) rfl ?_
  refine aw_iload 0 dX5_set_9 rfl ?_
  refine aw_if_ne (tgt := 35) dX5_set_11 (by decide) (fun z => ?_) (fun z => ?_)
  · have hw := hw.1 z
    refine aw_sub (lv' := [(5, .int r2)]) [0] rfl ?_
    exact abX5_set_35 l G d hG hd _ _ hw
  · have hw := hw.2 z
    refine aw_aload_n 1 dX5_set_14 rfl rfl ?_
    obtain ⟨fs4, r3, h1, h2, hw⟩ := hw
    refine aw_getf (k := 0) dX5_set_15 clX5 (by decide) k_152 (Or.inl rfl) h1 h2 ?_
    refine aw_aload_n 1 dX5_set_18 rfl rfl ?_
    obtain ⟨fs6, r5, h1, h2, hw⟩ := hw
    refine aw_getf (k := 1) dX5_set_19 clX5 (by decide) k_154 (Or.inl rfl) h1 h2 ?_
    refine aw_iload_n 2 dX5_set_22 rfl rfl ?_
    obtain ⟨_, _, r7, h1, h2, h3, hw⟩ := hw
    refine aw_aI dX5_set_23 h1 h2 h3 ?_
    refine aw_iload_n 4 dX5_set_24 rfl rfl ?_
    refine aw_aload_n 1 dX5_set_25 rfl rfl ?_
    obtain ⟨fs9, r8, h1, h2, hw⟩ := hw
    refine aw_getf (k := 2) dX5_set_26 clX5 (by decide) k_156 (Or.inl rfl) h1 h2 ?_
    refine aw_iload 5 dX5_set_29 rfl ?_
    obtain ⟨_, _, r10, h1, h2, h3, hw⟩ := hw
    refine aw_aL dX5_set_31 h1 h2 h3 ?_
    obtain ⟨_, h1, hw⟩ := hw
    refine aw_virtV (As := [.int r7, .int v3, .long r10]) (rest := []) dX5_set_32 (acX8_write l G (d - 1) hG (by omega) hw) iX8_write rfl k_490 k_491 k_492 rfl h1 (by omega) (by decide) (by decide) rfl (Nat.le_of_ble_eq_true rfl) (fun h11 hw => ?_)
    refine aw_sub (lv' := [(5, .int r2)]) [0] rfl ?_
    exact abX5_set_35 l G d hG hd _ _ hw
-- X5_take
def wbX5_take_37 (v5 : Int32) (h : aH) (Q : Int32 → aH → Prop) : Prop :=
  Q v5 h
def wX5_take (h : aH) (v0 : Nat) (v1 : Int32) (v2 : Int32) (v3 : Int32) (v4 : Int32) (Q : Int32 → aH → Prop) : Prop :=
  isO h v0 4 (wX5_unlessItem h v0 v2 v3 v4 (fun r2 h1 => (¬ r2 = 0 → wbX5_take_37 r2 h1 Q) ∧ (r2 = 0 → rR h1 v0 4 1 (fun r3 => rR h1 v0 4 0 (fun r5 => rR h1 v0 4 1 (fun r7 => aI h1 r7 v2 (fun r9 => isO h1 r5 6 (wX8_read h1 r5 r9 v4 (fun r11 h10 => sI h10 r3 v1 r11.toInt32 (fun h12 => wbX5_take_37 r2 h12 Q))))))))))
set_option maxRecDepth 100000 in
theorem abX5_take_37 (l : Launch) (G : aG) (d : Nat) (hG : a_GT G) (hd : 4 ≤ d) {Q : Int32 → aH → Prop} (v5 : Int32) (h : aH) (hw : wbX5_take_37 v5 h Q) : AW l G d 0 0 mX5_take (qI Q) 37 [(5, .int v5)] [] h := by
  unfold wbX5_take_37 at hw
  refine aw_iload 0 dX5_take_37 rfl ?_
  exact aw_iret dX5_take_39 rfl rfl ⟨_, rfl, hw⟩
set_option maxRecDepth 100000 in
theorem acX5_take (l : Launch) (G : aG) (d : Nat) (hG : a_GT G) (hd : 4 ≤ d) {Q : Int32 → aH → Prop} {h : aH} {v0 : Nat} {v1 : Int32} {v2 : Int32} {v3 : Int32} {v4 : Int32} (hw : wX5_take h v0 v1 v2 v3 v4 Q) : AC l G d 0 0 mX5_take [.ref v0, .int v1, .int v2, .int v3, .int v4] h (qI Q) := by
  refine ac_of iX5_take (Nat.le_of_ble_eq_true rfl) ?_
  show AW l G d 0 0 mX5_take (qI Q) 0 [(0, .ref v0), (1, .int v1), (2, .int v2), (3, .int v3), (4, .int v4)] [] h
  unfold wX5_take at hw
  refine aw_aload_n 0 dX5_take_0 rfl rfl ?_
  refine aw_iload_n 2 dX5_take_1 rfl rfl ?_
  refine aw_iload_n 3 dX5_take_2 rfl rfl ?_
  refine aw_iload 4 dX5_take_3 rfl ?_
  obtain ⟨_, h1, hw⟩ := hw
  refine aw_virtI (As := [.int v2, .int v3, .int v4]) (rest := []) dX5_take_5 (acX5_unlessItem l G (d - 1) hG (by omega) hw) iX5_unlessItem rfl k_544 k_546 k_12 rfl h1 (by omega) (by decide) (by decide) rfl (Nat.le_of_ble_eq_true rfl) (fun r2 h1 hw => ?_)
  refine aw_istore (lv' := [(5, .int r2), (0, .ref v0), (1, .int v1), (2, .int v2), (3, .int v3), (4, .int v4)]) dX5_take_8 (by decide) rfl ?_
  refine aw_iload 0 dX5_take_10 rfl ?_
  refine aw_if_ne (tgt := 37) dX5_take_12 (by decide) (fun z => ?_) (fun z => ?_)
  · have hw := hw.1 z
    refine aw_sub (lv' := [(5, .int r2)]) [0] rfl ?_
    exact abX5_take_37 l G d hG hd _ _ hw
  · have hw := hw.2 z
    refine aw_aload_n 1 dX5_take_15 rfl rfl ?_
    obtain ⟨fs4, r3, h1, h2, hw⟩ := hw
    refine aw_getf (k := 1) dX5_take_16 clX5 (by decide) k_154 (Or.inl rfl) h1 h2 ?_
    refine aw_iload_n 2 dX5_take_19 rfl rfl ?_
    refine aw_aload_n 1 dX5_take_20 rfl rfl ?_
    obtain ⟨fs6, r5, h1, h2, hw⟩ := hw
    refine aw_getf (k := 0) dX5_take_21 clX5 (by decide) k_152 (Or.inl rfl) h1 h2 ?_
    refine aw_aload_n 1 dX5_take_24 rfl rfl ?_
    obtain ⟨fs8, r7, h1, h2, hw⟩ := hw
    refine aw_getf (k := 1) dX5_take_25 clX5 (by decide) k_154 (Or.inl rfl) h1 h2 ?_
    refine aw_iload_n 3 dX5_take_28 rfl rfl ?_
    obtain ⟨_, _, r9, h1, h2, h3, hw⟩ := hw
    refine aw_aI dX5_take_29 h1 h2 h3 ?_
    refine aw_iload 5 dX5_take_30 rfl ?_
    obtain ⟨_, h1, hw⟩ := hw
    refine aw_virtL (As := [.int r9, .int v4]) (rest := [.int v1, .ref r3]) dX5_take_32 (acX8_read l G (d - 1) hG (by omega) hw) iX8_read rfl k_549 k_550 k_551 rfl h1 (by omega) (by decide) (by decide) rfl (Nat.le_of_ble_eq_true rfl) (fun r11 h10 hw => ?_)
    refine aw_l2i dX5_take_35 ?_
    obtain ⟨_, _, h1, h2, hw⟩ := hw
    refine aw_iast dX5_take_36 h1 h2 ?_
    generalize a_up _ _ _ = h12 at hw ⊢
    refine aw_sub (lv' := [(5, .int r2)]) [0] rfl ?_
    exact abX5_take_37 l G d hG hd _ _ hw
-- X5_kindIn
def wX5_kindIn (h : aH) (v0 : Nat) (v1 : Int32) (Q : Int32 → aH → Prop) : Prop :=
  rR h v0 4 0 (fun r1 => rR h v0 4 1 (fun r3 => aI h r3 v1 (fun r5 => isO h r1 6 (wX8_kindOf h r1 r5 (fun r7 h6 => Q r7 h6)))))
set_option maxRecDepth 100000 in
theorem acX5_kindIn (l : Launch) (G : aG) (d : Nat) (hG : a_GT G) (hd : 2 ≤ d) {Q : Int32 → aH → Prop} {h : aH} {v0 : Nat} {v1 : Int32} (hw : wX5_kindIn h v0 v1 Q) : AC l G d 0 0 mX5_kindIn [.ref v0, .int v1] h (qI Q) := by
  refine ac_of iX5_kindIn (Nat.le_of_ble_eq_true rfl) ?_
  show AW l G d 0 0 mX5_kindIn (qI Q) 0 [(0, .ref v0), (1, .int v1)] [] h
  unfold wX5_kindIn at hw
  refine aw_aload_n 0 dX5_kindIn_0 rfl rfl ?_
  obtain ⟨fs2, r1, h1, h2, hw⟩ := hw
  refine aw_getf (k := 0) dX5_kindIn_1 clX5 (by decide) k_152 (Or.inl rfl) h1 h2 ?_
  refine aw_aload_n 0 dX5_kindIn_4 rfl rfl ?_
  obtain ⟨fs4, r3, h1, h2, hw⟩ := hw
  refine aw_getf (k := 1) dX5_kindIn_5 clX5 (by decide) k_154 (Or.inl rfl) h1 h2 ?_
  refine aw_iload_n 1 dX5_kindIn_8 rfl rfl ?_
  obtain ⟨_, _, r5, h1, h2, h3, hw⟩ := hw
  refine aw_aI dX5_kindIn_9 h1 h2 h3 ?_
  obtain ⟨_, h1, hw⟩ := hw
  refine aw_virtI (As := [.int r5]) (rest := []) dX5_kindIn_10 (acX8_kindOf l G (d - 1) hG (by omega) hw) iX8_kindOf rfl k_536 k_499 k_500 rfl h1 (by omega) (by decide) (by decide) rfl (Nat.le_of_ble_eq_true rfl) (fun r7 h6 hw => ?_)
  exact aw_iret dX5_kindIn_13 rfl rfl ⟨_, rfl, hw⟩
-- X4_ofItems
def wbX4_ofItems_21 (s0 : Int32) (h : aH) (Q : Int32 → aH → Prop) : Prop :=
  Q s0 h
def wbX4_ofItems_20 (h : aH) (Q : Int32 → aH → Prop) : Prop :=
  wbX4_ofItems_21 0 h Q
def wX4_ofItems (h : aH) (v0 : Int32) (Q : Int32 → aH → Prop) : Prop :=
  (v0 < 0 → wbX4_ofItems_20  h Q) ∧ (¬ v0 < 0 → (10 ≤ v0 → wbX4_ofItems_20  h Q) ∧ (¬ 10 ≤ v0 → tB 4 v0 (fun r1 => wbX4_ofItems_21 r1 h Q)))
set_option maxRecDepth 100000 in
theorem abX4_ofItems_21 (l : Launch) (G : aG) (d : Nat) (hG : a_GT G) (hd : 1 ≤ d) {Q : Int32 → aH → Prop} (s0 : Int32) (h : aH) (hw : wbX4_ofItems_21 s0 h Q) : AW l G d 0 0 mX4_ofItems (qI Q) 21 [] [.int s0] h := by
  unfold wbX4_ofItems_21 at hw
  exact aw_iret dX4_ofItems_21 rfl rfl ⟨_, rfl, hw⟩
set_option maxRecDepth 100000 in
theorem abX4_ofItems_20 (l : Launch) (G : aG) (d : Nat) (hG : a_GT G) (hd : 1 ≤ d) {Q : Int32 → aH → Prop} (h : aH) (hw : wbX4_ofItems_20  h Q) : AW l G d 0 0 mX4_ofItems (qI Q) 20 [] [] h := by
  unfold wbX4_ofItems_20 at hw
  refine aw_iconst (v := 0) dX4_ofItems_20 (by decide) ?_
  exact abX4_ofItems_21 l G d hG hd _ _ hw
set_option maxRecDepth 100000 in
theorem acX4_ofItems (l : Launch) (G : aG) (d : Nat) (hG : a_GT G) (hd : 1 ≤ d) {Q : Int32 → aH → Prop} {h : aH} {v0 : Int32} (hw : wX4_ofItems h v0 Q) : AC l G d 0 0 mX4_ofItems [.int v0] h (qI Q) := by
  refine ac_of iX4_ofItems (Nat.le_of_ble_eq_true rfl) ?_
  show AW l G d 0 0 mX4_ofItems (qI Q) 0 [(0, .int v0)] [] h
  unfold wX4_ofItems at hw
  refine aw_iload_n 0 dX4_ofItems_0 rfl rfl ?_
  refine aw_if_lt (tgt := 20) dX4_ofItems_1 (by decide) (fun z => ?_) (fun z => ?_)
  · have hw := hw.1 z
    refine aw_sub (lv' := []) [] rfl ?_
    exact abX4_ofItems_20 l G d hG hd _ hw
  · have hw := hw.2 z
    refine aw_iload_n 0 dX4_ofItems_4 rfl rfl ?_
    refine aw_gets 4 (by decide) dX4_ofItems_5 rfl k_568 ?_
    refine aw_tL 4 (by decide) hG (v := 10) dX4_ofItems_8 (by decide) ?_
    refine aw_icmp_ge (tgt := 20) dX4_ofItems_9 (by decide) (fun z => ?_) (fun z => ?_)
    · have hw := hw.1 z
      refine aw_sub (lv' := []) [] rfl ?_
      exact abX4_ofItems_20 l G d hG hd _ hw
    · have hw := hw.2 z
      refine aw_gets 4 (by decide) dX4_ofItems_12 rfl k_568 ?_
      refine aw_iload_n 0 dX4_ofItems_15 rfl rfl ?_
      obtain ⟨r1, h1, h2, hw⟩ := hw
      refine aw_tB 4 (by decide) hG dX4_ofItems_16 h1 h2 ?_
      refine aw_goto (tgt := 21) dX4_ofItems_17 (by decide) ?_
      refine aw_sub (lv' := []) [] rfl ?_
      exact abX4_ofItems_21 l G d hG hd _ _ hw
-- X5_lay
def wbX5_lay_95 (v5 : Int32) (h : aH) (Q : Int32 → aH → Prop) : Prop :=
  Q v5 h
def wbX5_lay_68 (v0 : Nat) (v1 : Int32) (v3 : Int32) (v4 : Int32) (v5 : Int32) (h : aH) (Q : Int32 → aH → Prop) : Prop :=
  (¬ v5 = 0 → wbX5_lay_95 v5 h Q) ∧ (v5 = 0 → rR h v0 4 0 (fun r1 => rR h v0 4 1 (fun r3 => aI h r3 v1 (fun r5 => rR h v0 4 1 (fun r6 => aI h r6 v4 (fun r8 => isO h r1 6 (wX8_write h r1 r5 v3 r8.toInt64 (fun h9 => wbX5_lay_95 v5 h9 Q))))))))
def wbX5_lay_39 (v0 : Nat) (v1 : Int32) (v3 : Int32) (v4 : Int32) (v5 : Int32) (h : aH) (Q : Int32 → aH → Prop) : Prop :=
  (¬ v5 = 0 → wbX5_lay_68 v0 v1 v3 v4 v5 h Q) ∧ (v5 = 0 → isO h v0 4 (wX5_kindIn h v0 v1 (fun r11 h10 => (¬ r11 = 7 → wbX5_lay_68 v0 v1 v3 v4 v5 h10 Q) ∧ (r11 = 7 → isO h10 v0 4 (wX5_kindIn h10 v0 v4 (fun r13 h12 => (¬ r13 = 8 → wbX5_lay_68 v0 v1 v3 v4 v5 h12 Q) ∧ (r13 = 8 → wbX5_lay_68 v0 v1 v3 v4 5 h12 Q)))))))
def wbX5_lay_25 (v0 : Nat) (v1 : Int32) (v2 : Int32) (v3 : Int32) (v4 : Int32) (v5 : Int32) (h : aH) (Q : Int32 → aH → Prop) : Prop :=
  (¬ v5 = 0 → wbX5_lay_39 v0 v1 v3 v4 v5 h Q) ∧ (v5 = 0 → isO h v0 4 (wX5_unlessItem h v0 v1 v2 v3 (fun r15 h14 => wbX5_lay_39 v0 v1 v3 v4 r15 h14 Q)))
def wX5_lay (h : aH) (v0 : Nat) (v1 : Int32) (v2 : Int32) (v3 : Int32) (v4 : Int32) (Q : Int32 → aH → Prop) : Prop :=
  isO h v0 4 (wX5_unlessAs h v0 v1 v2 (fun r17 h16 => (¬ r17 = 0 → wbX5_lay_25 v0 v1 v2 v3 v4 r17 h16 Q) ∧ (r17 = 0 → wX4_ofItems h16 v2 (fun r19 h18 => isO h18 v0 4 (wX5_unlessAs h18 v0 v4 r19 (fun r21 h20 => wbX5_lay_25 v0 v1 v2 v3 v4 r21 h20 Q))))))
set_option maxRecDepth 100000 in
theorem abX5_lay_95 (l : Launch) (G : aG) (d : Nat) (hG : a_GT G) (hd : 4 ≤ d) {Q : Int32 → aH → Prop} (v5 : Int32) (h : aH) (hw : wbX5_lay_95 v5 h Q) : AW l G d 0 0 mX5_lay (qI Q) 95 [(5, .int v5)] [] h := by
  unfold wbX5_lay_95 at hw
  refine aw_iload 0 dX5_lay_95 rfl ?_
  exact aw_iret dX5_lay_97 rfl rfl ⟨_, rfl, hw⟩
set_option maxRecDepth 100000 in
theorem abX5_lay_68 (l : Launch) (G : aG) (d : Nat) (hG : a_GT G) (hd : 4 ≤ d) {Q : Int32 → aH → Prop} (v0 : Nat) (v1 : Int32) (v3 : Int32) (v4 : Int32) (v5 : Int32) (h : aH) (hw : wbX5_lay_68 v0 v1 v3 v4 v5 h Q) : AW l G d 0 0 mX5_lay (qI Q) 68 [(0, .ref v0), (1, .int v1), (3, .int v3), (4, .int v4), (5, .int v5)] [] h := by
  unfold wbX5_lay_68 at hw
  refine aw_iload 4 dX5_lay_68 rfl ?_
  refine aw_if_ne (tgt := 95) dX5_lay_70 (by decide) (fun z => ?_) (fun z => ?_)
  · have hw := hw.1 z
    refine aw_sub (lv' := [(5, .int v5)]) [4] rfl ?_
    exact abX5_lay_95 l G d hG hd _ _ hw
  · have hw := hw.2 z
    refine aw_aload_n 0 dX5_lay_73 rfl rfl ?_
    obtain ⟨fs2, r1, h1, h2, hw⟩ := hw
    refine aw_getf (k := 0) dX5_lay_74 clX5 (by decide) k_152 (Or.inl rfl) h1 h2 ?_
    refine aw_aload_n 0 dX5_lay_77 rfl rfl ?_
    obtain ⟨fs4, r3, h1, h2, hw⟩ := hw
    refine aw_getf (k := 1) dX5_lay_78 clX5 (by decide) k_154 (Or.inl rfl) h1 h2 ?_
    refine aw_iload_n 1 dX5_lay_81 rfl rfl ?_
    obtain ⟨_, _, r5, h1, h2, h3, hw⟩ := hw
    refine aw_aI dX5_lay_82 h1 h2 h3 ?_
    refine aw_iload_n 2 dX5_lay_83 rfl rfl ?_
    refine aw_aload_n 0 dX5_lay_84 rfl rfl ?_
    obtain ⟨fs7, r6, h1, h2, hw⟩ := hw
    refine aw_getf (k := 1) dX5_lay_85 clX5 (by decide) k_154 (Or.inl rfl) h1 h2 ?_
    refine aw_iload 3 dX5_lay_88 rfl ?_
    obtain ⟨_, _, r8, h1, h2, h3, hw⟩ := hw
    refine aw_aI dX5_lay_90 h1 h2 h3 ?_
    refine aw_i2l dX5_lay_91 ?_
    obtain ⟨_, h1, hw⟩ := hw
    refine aw_virtV (As := [.int r5, .int v3, .long r8.toInt64]) (rest := []) dX5_lay_92 (acX8_write l G (d - 1) hG (by omega) hw) iX8_write rfl k_490 k_491 k_492 rfl h1 (by omega) (by decide) (by decide) rfl (Nat.le_of_ble_eq_true rfl) (fun h9 hw => ?_)
    refine aw_sub (lv' := [(5, .int v5)]) [4] rfl ?_
    exact abX5_lay_95 l G d hG hd _ _ hw
set_option maxRecDepth 100000 in
theorem abX5_lay_39 (l : Launch) (G : aG) (d : Nat) (hG : a_GT G) (hd : 4 ≤ d) {Q : Int32 → aH → Prop} (v0 : Nat) (v1 : Int32) (v3 : Int32) (v4 : Int32) (v5 : Int32) (h : aH) (hw : wbX5_lay_39 v0 v1 v3 v4 v5 h Q) : AW l G d 0 0 mX5_lay (qI Q) 39 [(0, .ref v0), (1, .int v1), (3, .int v3), (4, .int v4), (5, .int v5)] [] h := by
  unfold wbX5_lay_39 at hw
  refine aw_iload 4 dX5_lay_39 rfl ?_
  refine aw_if_ne (tgt := 68) dX5_lay_41 (by decide) (fun z => ?_) (fun z => ?_)
  · have hw := hw.1 z
    exact abX5_lay_68 l G d hG hd _ _ _ _ _ _ hw
  · have hw := hw.2 z
    refine aw_aload_n 0 dX5_lay_44 rfl rfl ?_
    refine aw_iload_n 1 dX5_lay_45 rfl rfl ?_
    obtain ⟨_, h1, hw⟩ := hw
    refine aw_virtI (As := [.int v1]) (rest := []) dX5_lay_46 (acX5_kindIn l G (d - 1) hG (by omega) hw) iX5_kindIn rfl k_570 k_572 k_16 rfl h1 (by omega) (by decide) (by decide) rfl (Nat.le_of_ble_eq_true rfl) (fun r11 h10 hw => ?_)
    refine aw_bipush (v := 7) dX5_lay_49 (by decide) ?_
    refine aw_icmp_ne (tgt := 68) dX5_lay_51 (by decide) (fun z => ?_) (fun z => ?_)
    · have hw := hw.1 z
      exact abX5_lay_68 l G d hG hd _ _ _ _ _ _ hw
    · have hw := hw.2 z
      refine aw_aload_n 0 dX5_lay_54 rfl rfl ?_
      refine aw_iload 3 dX5_lay_55 rfl ?_
      obtain ⟨_, h1, hw⟩ := hw
      refine aw_virtI (As := [.int v4]) (rest := []) dX5_lay_57 (acX5_kindIn l G (d - 1) hG (by omega) hw) iX5_kindIn rfl k_570 k_572 k_16 rfl h1 (by omega) (by decide) (by decide) rfl (Nat.le_of_ble_eq_true rfl) (fun r13 h12 hw => ?_)
      refine aw_bipush (v := 8) dX5_lay_60 (by decide) ?_
      refine aw_icmp_ne (tgt := 68) dX5_lay_62 (by decide) (fun z => ?_) (fun z => ?_)
      · have hw := hw.1 z
        exact abX5_lay_68 l G d hG hd _ _ _ _ _ _ hw
      · have hw := hw.2 z
        refine aw_iconst (v := 5) dX5_lay_65 (by decide) ?_
        refine aw_istore (lv' := [(5, .int 5), (0, .ref v0), (1, .int v1), (3, .int v3), (4, .int v4)]) dX5_lay_66 (by decide) rfl ?_
        refine aw_sub (lv' := [(0, .ref v0), (1, .int v1), (3, .int v3), (4, .int v4), (5, .int 5)]) [1, 2, 3, 4, 0] rfl ?_
        exact abX5_lay_68 l G d hG hd _ _ _ _ _ _ hw
set_option maxRecDepth 100000 in
theorem abX5_lay_25 (l : Launch) (G : aG) (d : Nat) (hG : a_GT G) (hd : 4 ≤ d) {Q : Int32 → aH → Prop} (v0 : Nat) (v1 : Int32) (v2 : Int32) (v3 : Int32) (v4 : Int32) (v5 : Int32) (h : aH) (hw : wbX5_lay_25 v0 v1 v2 v3 v4 v5 h Q) : AW l G d 0 0 mX5_lay (qI Q) 25 [(0, .ref v0), (1, .int v1), (2, .int v2), (3, .int v3), (4, .int v4), (5, .int v5)] [] h := by
  unfold wbX5_lay_25 at hw
  refine aw_iload 5 dX5_lay_25 rfl ?_
  refine aw_if_ne (tgt := 39) dX5_lay_27 (by decide) (fun z => ?_) (fun z => ?_)
  · have hw := hw.1 z
    refine aw_sub (lv' := [(0, .ref v0), (1, .int v1), (3, .int v3), (4, .int v4), (5, .int v5)]) [0, 1, 3, 4, 5] rfl ?_
    exact abX5_lay_39 l G d hG hd _ _ _ _ _ _ hw
  · have hw := hw.2 z
    refine aw_aload_n 0 dX5_lay_30 rfl rfl ?_
    refine aw_iload_n 1 dX5_lay_31 rfl rfl ?_
    refine aw_iload_n 2 dX5_lay_32 rfl rfl ?_
    refine aw_iload_n 3 dX5_lay_33 rfl rfl ?_
    obtain ⟨_, h1, hw⟩ := hw
    refine aw_virtI (As := [.int v1, .int v2, .int v3]) (rest := []) dX5_lay_34 (acX5_unlessItem l G (d - 1) hG (by omega) hw) iX5_unlessItem rfl k_544 k_546 k_12 rfl h1 (by omega) (by decide) (by decide) rfl (Nat.le_of_ble_eq_true rfl) (fun r15 h14 hw => ?_)
    refine aw_istore (lv' := [(5, .int r15), (0, .ref v0), (1, .int v1), (2, .int v2), (3, .int v3), (4, .int v4)]) dX5_lay_37 (by decide) rfl ?_
    refine aw_sub (lv' := [(0, .ref v0), (1, .int v1), (3, .int v3), (4, .int v4), (5, .int r15)]) [1, 2, 4, 5, 0] rfl ?_
    exact abX5_lay_39 l G d hG hd _ _ _ _ _ _ hw
set_option maxRecDepth 100000 in
theorem acX5_lay (l : Launch) (G : aG) (d : Nat) (hG : a_GT G) (hd : 4 ≤ d) {Q : Int32 → aH → Prop} {h : aH} {v0 : Nat} {v1 : Int32} {v2 : Int32} {v3 : Int32} {v4 : Int32} (hw : wX5_lay h v0 v1 v2 v3 v4 Q) : AC l G d 0 0 mX5_lay [.ref v0, .int v1, .int v2, .int v3, .int v4] h (qI Q) := by
  refine ac_of iX5_lay (Nat.le_of_ble_eq_true rfl) ?_
  show AW l G d 0 0 mX5_lay (qI Q) 0 [(0, .ref v0), (1, .int v1), (2, .int v2), (3, .int v3), (4, .int v4)] [] h
  unfold wX5_lay at hw
  refine aw_aload_n 0 dX5_lay_0 rfl rfl ?_
  refine aw_iload_n 1 dX5_lay_1 rfl rfl ?_
  refine aw_iload_n 2 dX5_lay_2 rfl rfl ?_
  obtain ⟨_, h1, hw⟩ := hw
  refine aw_virtI (As := [.int v1, .int v2]) (rest := []) dX5_lay_3 (acX5_unlessAs l G (d - 1) hG (by omega) hw) iX5_unlessAs rfl k_523 k_525 k_10 rfl h1 (by omega) (by decide) (by decide) rfl (Nat.le_of_ble_eq_true rfl) (fun r17 h16 hw => ?_)
  refine aw_istore (lv' := [(5, .int r17), (0, .ref v0), (1, .int v1), (2, .int v2), (3, .int v3), (4, .int v4)]) dX5_lay_6 (by decide) rfl ?_
  refine aw_iload 0 dX5_lay_8 rfl ?_
  refine aw_if_ne (tgt := 25) dX5_lay_10 (by decide) (fun z => ?_) (fun z => ?_)
  · have hw := hw.1 z
    refine aw_sub (lv' := [(0, .ref v0), (1, .int v1), (2, .int v2), (3, .int v3), (4, .int v4), (5, .int r17)]) [1, 2, 3, 4, 5, 0] rfl ?_
    exact abX5_lay_25 l G d hG hd _ _ _ _ _ _ _ hw
  · have hw := hw.2 z
    refine aw_aload_n 1 dX5_lay_13 rfl rfl ?_
    refine aw_iload 5 dX5_lay_14 rfl ?_
    refine aw_iload_n 3 dX5_lay_16 rfl rfl ?_
    refine aw_staticI (As := [.int v2]) (rest := [.int v4, .ref v0]) dX5_lay_17 (acX4_ofItems l G (d - 1) hG (by omega) hw) iX4_ofItems rfl k_565 k_566 (by omega) (by decide) (by decide) rfl (Nat.le_of_ble_eq_true rfl) (fun r19 h18 hw => ?_)
    obtain ⟨_, h1, hw⟩ := hw
    refine aw_virtI (As := [.int v4, .int r19]) (rest := []) dX5_lay_20 (acX5_unlessAs l G (d - 1) hG (by omega) hw) iX5_unlessAs rfl k_523 k_525 k_10 rfl h1 (by omega) (by decide) (by decide) rfl (Nat.le_of_ble_eq_true rfl) (fun r21 h20 hw => ?_)
    refine aw_istore (lv' := [(5, .int r21), (0, .ref v0), (1, .int v1), (2, .int v2), (3, .int v3), (4, .int v4)]) dX5_lay_23 (by decide) rfl ?_
    refine aw_sub (lv' := [(0, .ref v0), (1, .int v1), (2, .int v2), (3, .int v3), (4, .int v4), (5, .int r21)]) [1, 2, 3, 4, 5, 0] rfl ?_
    exact abX5_lay_25 l G d hG hd _ _ _ _ _ _ _ hw
-- X8_sizeOf
def wbX8_sizeOf_22 (s0 : Int32) (h : aH) (Q : Int32 → aH → Prop) : Prop :=
  Q s0 h
def wbX8_sizeOf_21 (h : aH) (Q : Int32 → aH → Prop) : Prop :=
  wbX8_sizeOf_22 0 h Q
def wX8_sizeOf (h : aH) (v0 : Nat) (v1 : Int32) (Q : Int32 → aH → Prop) : Prop :=
  (v1 ≤ 0 → wbX8_sizeOf_21  h Q) ∧ (¬ v1 ≤ 0 → rI h v0 6 4 (fun r1 => (r1 < v1 → wbX8_sizeOf_21  h Q) ∧ (¬ r1 < v1 → rR h v0 6 2 (fun r3 => aI h r3 v1 (fun r5 => wbX8_sizeOf_22 r5 h Q)))))
set_option maxRecDepth 100000 in
theorem abX8_sizeOf_22 (l : Launch) (G : aG) (d : Nat) (hG : a_GT G) (hd : 1 ≤ d) {Q : Int32 → aH → Prop} (s0 : Int32) (h : aH) (hw : wbX8_sizeOf_22 s0 h Q) : AW l G d 0 0 mX8_sizeOf (qI Q) 22 [] [.int s0] h := by
  unfold wbX8_sizeOf_22 at hw
  exact aw_iret dX8_sizeOf_22 rfl rfl ⟨_, rfl, hw⟩
set_option maxRecDepth 100000 in
theorem abX8_sizeOf_21 (l : Launch) (G : aG) (d : Nat) (hG : a_GT G) (hd : 1 ≤ d) {Q : Int32 → aH → Prop} (h : aH) (hw : wbX8_sizeOf_21  h Q) : AW l G d 0 0 mX8_sizeOf (qI Q) 21 [] [] h := by
  unfold wbX8_sizeOf_21 at hw
  refine aw_iconst (v := 0) dX8_sizeOf_21 (by decide) ?_
  exact abX8_sizeOf_22 l G d hG hd _ _ hw
set_option maxRecDepth 100000 in
theorem acX8_sizeOf (l : Launch) (G : aG) (d : Nat) (hG : a_GT G) (hd : 1 ≤ d) {Q : Int32 → aH → Prop} {h : aH} {v0 : Nat} {v1 : Int32} (hw : wX8_sizeOf h v0 v1 Q) : AC l G d 0 0 mX8_sizeOf [.ref v0, .int v1] h (qI Q) := by
  refine ac_of iX8_sizeOf (Nat.le_of_ble_eq_true rfl) ?_
  show AW l G d 0 0 mX8_sizeOf (qI Q) 0 [(0, .ref v0), (1, .int v1)] [] h
  unfold wX8_sizeOf at hw
  refine aw_iload_n 1 dX8_sizeOf_0 rfl rfl ?_
  refine aw_if_le (tgt := 21) dX8_sizeOf_1 (by decide) (fun z => ?_) (fun z => ?_)
  · have hw := hw.1 z
    refine aw_sub (lv' := []) [] rfl ?_
    exact abX8_sizeOf_21 l G d hG hd _ hw
  · have hw := hw.2 z
    refine aw_iload_n 1 dX8_sizeOf_4 rfl rfl ?_
    refine aw_aload_n 0 dX8_sizeOf_5 rfl rfl ?_
    obtain ⟨fs2, r1, h1, h2, hw⟩ := hw
    refine aw_getf (k := 4) dX8_sizeOf_6 clX8 (by decide) k_133 (Or.inl rfl) h1 h2 ?_
    refine aw_icmp_gt (tgt := 21) dX8_sizeOf_9 (by decide) (fun z => ?_) (fun z => ?_)
    · have hw := hw.1 z
      refine aw_sub (lv' := []) [] rfl ?_
      exact abX8_sizeOf_21 l G d hG hd _ hw
    · have hw := hw.2 z
      refine aw_aload_n 0 dX8_sizeOf_12 rfl rfl ?_
      obtain ⟨fs4, r3, h1, h2, hw⟩ := hw
      refine aw_getf (k := 2) dX8_sizeOf_13 clX8 (by decide) k_131 (Or.inl rfl) h1 h2 ?_
      refine aw_iload_n 1 dX8_sizeOf_16 rfl rfl ?_
      obtain ⟨_, _, r5, h1, h2, h3, hw⟩ := hw
      refine aw_aI dX8_sizeOf_17 h1 h2 h3 ?_
      refine aw_goto (tgt := 22) dX8_sizeOf_18 (by decide) ?_
      refine aw_sub (lv' := []) [] rfl ?_
      exact abX8_sizeOf_22 l G d hG hd _ _ hw
-- X5_unlessSomething
def wbX5_unlessSomething_25 (s0 : Int32) (h : aH) (Q : Int32 → aH → Prop) : Prop :=
  Q s0 h
def wX5_unlessSomething (h : aH) (v0 : Nat) (v1 : Int32) (v2 : Int32) (Q : Int32 → aH → Prop) : Prop :=
  rR h v0 4 1 (fun r1 => aI h r1 v1 (fun r3 => (¬ r3 = 0 → isO h v0 4 (wX5_holds h v0 v1 v2 (fun r5 h4 => (r5 = 0 → wbX5_unlessSomething_25 2 h4 Q) ∧ (¬ r5 = 0 → wbX5_unlessSomething_25 0 h4 Q)))) ∧ (r3 = 0 → Q 1 h)))
set_option maxRecDepth 100000 in
theorem abX5_unlessSomething_25 (l : Launch) (G : aG) (d : Nat) (hG : a_GT G) (hd : 3 ≤ d) {Q : Int32 → aH → Prop} (s0 : Int32) (h : aH) (hw : wbX5_unlessSomething_25 s0 h Q) : AW l G d 0 0 mX5_unlessSomething (qI Q) 25 [] [.int s0] h := by
  unfold wbX5_unlessSomething_25 at hw
  exact aw_iret dX5_unlessSomething_25 rfl rfl ⟨_, rfl, hw⟩
set_option maxRecDepth 100000 in
theorem acX5_unlessSomething (l : Launch) (G : aG) (d : Nat) (hG : a_GT G) (hd : 3 ≤ d) {Q : Int32 → aH → Prop} {h : aH} {v0 : Nat} {v1 : Int32} {v2 : Int32} (hw : wX5_unlessSomething h v0 v1 v2 Q) : AC l G d 0 0 mX5_unlessSomething [.ref v0, .int v1, .int v2] h (qI Q) := by
  refine ac_of iX5_unlessSomething (Nat.le_of_ble_eq_true rfl) ?_
  show AW l G d 0 0 mX5_unlessSomething (qI Q) 0 [(0, .ref v0), (1, .int v1), (2, .int v2)] [] h
  unfold wX5_unlessSomething at hw
  refine aw_aload_n 0 dX5_unlessSomething_0 rfl rfl ?_
  obtain ⟨fs2, r1, h1, h2, hw⟩ := hw
  refine aw_getf (k := 1) dX5_unlessSomething_1 clX5 (by decide) k_154 (Or.inl rfl) h1 h2 ?_
  refine aw_iload_n 1 dX5_unlessSomething_4 rfl rfl ?_
  obtain ⟨_, _, r3, h1, h2, h3, hw⟩ := hw
  refine aw_aI dX5_unlessSomething_5 h1 h2 h3 ?_
  refine aw_if_ne (tgt := 11) dX5_unlessSomething_6 (by decide) (fun z => ?_) (fun z => ?_)
  · have hw := hw.1 z
    refine aw_aload_n 0 dX5_unlessSomething_11 rfl rfl ?_
    refine aw_iload_n 1 dX5_unlessSomething_12 rfl rfl ?_
    refine aw_iload_n 2 dX5_unlessSomething_13 rfl rfl ?_
    obtain ⟨_, h1, hw⟩ := hw
    refine aw_virtI (As := [.int v1, .int v2]) (rest := []) dX5_unlessSomething_14 (acX5_holds l G (d - 1) hG (by omega) hw) iX5_holds rfl k_527 k_528 k_529 rfl h1 (by omega) (by decide) (by decide) rfl (Nat.le_of_ble_eq_true rfl) (fun r5 h4 hw => ?_)
    refine aw_if_eq (tgt := 24) dX5_unlessSomething_17 (by decide) (fun z => ?_) (fun z => ?_)
    · have hw := hw.1 z
      refine aw_iconst (v := 2) dX5_unlessSomething_24 (by decide) ?_
      refine aw_sub (lv' := []) [] rfl ?_
      exact abX5_unlessSomething_25 l G d hG hd _ _ hw
    · have hw := hw.2 z
      refine aw_iconst (v := 0) dX5_unlessSomething_20 (by decide) ?_
      refine aw_goto (tgt := 25) dX5_unlessSomething_21 (by decide) ?_
      refine aw_sub (lv' := []) [] rfl ?_
      exact abX5_unlessSomething_25 l G d hG hd _ _ hw
  · have hw := hw.2 z
    refine aw_iconst (v := 1) dX5_unlessSomething_9 (by decide) ?_
    exact aw_iret dX5_unlessSomething_10 rfl rfl ⟨_, rfl, hw⟩
-- X5_length
def wbX5_length_33 (v4 : Int32) (h : aH) (Q : Int32 → aH → Prop) : Prop :=
  Q v4 h
def wX5_length (h : aH) (v0 : Nat) (v1 : Int32) (v2 : Int32) (v3 : Int32) (Q : Int32 → aH → Prop) : Prop :=
  isO h v0 4 (wX5_unlessSomething h v0 v2 v3 (fun r2 h1 => (¬ r2 = 0 → wbX5_length_33 r2 h1 Q) ∧ (r2 = 0 → rR h1 v0 4 2 (fun r3 => rR h1 v0 4 0 (fun r5 => rR h1 v0 4 1 (fun r7 => aI h1 r7 v2 (fun r9 => isO h1 r5 6 (wX8_sizeOf h1 r5 r9 (fun r11 h10 => sL h10 r3 v1 r11.toInt64 (fun h12 => wbX5_length_33 r2 h12 Q))))))))))
set_option maxRecDepth 100000 in
theorem abX5_length_33 (l : Launch) (G : aG) (d : Nat) (hG : a_GT G) (hd : 4 ≤ d) {Q : Int32 → aH → Prop} (v4 : Int32) (h : aH) (hw : wbX5_length_33 v4 h Q) : AW l G d 0 0 mX5_length (qI Q) 33 [(4, .int v4)] [] h := by
  unfold wbX5_length_33 at hw
  refine aw_iload 0 dX5_length_33 rfl ?_
  exact aw_iret dX5_length_35 rfl rfl ⟨_, rfl, hw⟩
set_option maxRecDepth 100000 in
theorem acX5_length (l : Launch) (G : aG) (d : Nat) (hG : a_GT G) (hd : 4 ≤ d) {Q : Int32 → aH → Prop} {h : aH} {v0 : Nat} {v1 : Int32} {v2 : Int32} {v3 : Int32} (hw : wX5_length h v0 v1 v2 v3 Q) : AC l G d 0 0 mX5_length [.ref v0, .int v1, .int v2, .int v3] h (qI Q) := by
  refine ac_of iX5_length (Nat.le_of_ble_eq_true rfl) ?_
  show AW l G d 0 0 mX5_length (qI Q) 0 [(0, .ref v0), (1, .int v1), (2, .int v2), (3, .int v3)] [] h
  unfold wX5_length at hw
  refine aw_aload_n 0 dX5_length_0 rfl rfl ?_
  refine aw_iload_n 2 dX5_length_1 rfl rfl ?_
  refine aw_iload_n 3 dX5_length_2 rfl rfl ?_
  obtain ⟨_, h1, hw⟩ := hw
  refine aw_virtI (As := [.int v2, .int v3]) (rest := []) dX5_length_3 (acX5_unlessSomething l G (d - 1) hG (by omega) hw) iX5_unlessSomething rfl k_578 k_580 k_18 rfl h1 (by omega) (by decide) (by decide) rfl (Nat.le_of_ble_eq_true rfl) (fun r2 h1 hw => ?_)
  refine aw_istore (lv' := [(4, .int r2), (0, .ref v0), (1, .int v1), (2, .int v2), (3, .int v3)]) dX5_length_6 (by decide) rfl ?_
  refine aw_iload 0 dX5_length_8 rfl ?_
  refine aw_if_ne (tgt := 33) dX5_length_10 (by decide) (fun z => ?_) (fun z => ?_)
  · have hw := hw.1 z
    refine aw_sub (lv' := [(4, .int r2)]) [0] rfl ?_
    exact abX5_length_33 l G d hG hd _ _ hw
  · have hw := hw.2 z
    refine aw_aload_n 1 dX5_length_13 rfl rfl ?_
    obtain ⟨fs4, r3, h1, h2, hw⟩ := hw
    refine aw_getf (k := 2) dX5_length_14 clX5 (by decide) k_156 (Or.inl rfl) h1 h2 ?_
    refine aw_iload_n 2 dX5_length_17 rfl rfl ?_
    refine aw_aload_n 1 dX5_length_18 rfl rfl ?_
    obtain ⟨fs6, r5, h1, h2, hw⟩ := hw
    refine aw_getf (k := 0) dX5_length_19 clX5 (by decide) k_152 (Or.inl rfl) h1 h2 ?_
    refine aw_aload_n 1 dX5_length_22 rfl rfl ?_
    obtain ⟨fs8, r7, h1, h2, hw⟩ := hw
    refine aw_getf (k := 1) dX5_length_23 clX5 (by decide) k_154 (Or.inl rfl) h1 h2 ?_
    refine aw_iload_n 3 dX5_length_26 rfl rfl ?_
    obtain ⟨_, _, r9, h1, h2, h3, hw⟩ := hw
    refine aw_aI dX5_length_27 h1 h2 h3 ?_
    obtain ⟨_, h1, hw⟩ := hw
    refine aw_virtI (As := [.int r9]) (rest := [.int v1, .ref r3]) dX5_length_28 (acX8_sizeOf l G (d - 1) hG (by omega) hw) iX8_sizeOf rfl k_582 k_583 k_584 rfl h1 (by omega) (by decide) (by decide) rfl (Nat.le_of_ble_eq_true rfl) (fun r11 h10 hw => ?_)
    refine aw_i2l dX5_length_31 ?_
    obtain ⟨_, _, h1, h2, hw⟩ := hw
    refine aw_last dX5_length_32 h1 h2 ?_
    generalize a_up _ _ _ = h12 at hw ⊢
    refine aw_sub (lv' := [(4, .int r2)]) [0] rfl ?_
    exact abX5_length_33 l G d hG hd _ _ hw
-- X8_bringOneByOne
def wbX8_bringOneByOne_40_i (K40 : Nat → Int32 → Int32 → Int32 → Int32 → Int32 →  aH → Prop) (v0 : Nat) (v5 : Int32) (v6 : Int32) (v7 : Int32) (v8 : Int32) (v9 : Int32) (h : aH) (Q : Int32 → aH → Prop) : Prop :=
  (v5 ≤ v9 → Q v5 h) ∧ (¬ v5 ≤ v9 → rR h v0 6 3 (fun r1 => aL h r1 ((v7 + v9)) (fun r3 => isO h v0 6 (wX8_kindOf h v0 r3.toInt32 (fun r5 h4 => wX4_has h4 v6 r5 (fun r7 h6 => (¬ r7 = 0 → rR h6 v0 6 3 (fun r8 => sL h6 r8 ((v8 + v9)) r3.toInt32.toInt64 (fun h10 => K40 v0 v5 v6 v7 v8 ((v9 + 1)) h10))) ∧ (r7 = 0 → Q v9 h6)))))))
def wbX8_bringOneByOne_40 (n : Nat) (v0 : Nat) (v5 : Int32) (v6 : Int32) (v7 : Int32) (v8 : Int32) (v9 : Int32) (h : aH) (Q : Int32 → aH → Prop) : Prop := match n with
  | 0 => False
  | n + 1 => wbX8_bringOneByOne_40_i (fun v0 v5 v6 v7 v8 v9 h => wbX8_bringOneByOne_40 n v0 v5 v6 v7 v8 v9 h Q) v0 v5 v6 v7 v8 v9 h Q
def wX8_bringOneByOne (h : aH) (v0 : Nat) (v1 : Int32) (v2 : Int32) (v3 : Int32) (v4 : Int32) (v5 : Int32) (Q : Int32 → aH → Prop) : Prop :=
  rR h v0 6 0 (fun r11 => aI h r11 v3 (fun r13 => wX4_ofItems h r13 (fun r15 h14 => wX4_thoseThatAre h14 r15 (fun r17 h16 => rR h16 v0 6 1 (fun r18 => aI h16 r18 v1 (fun r20 => rR h16 v0 6 1 (fun r21 => aI h16 r21 v3 (fun r23 => ∃ n, wbX8_bringOneByOne_40 n v0 v5 ((r17 ||| 1)) ((r20 + v2)) ((r23 + v4)) 0 h16 Q))))))))
set_option maxRecDepth 100000 in
theorem abX8_bringOneByOne_40_i (l : Launch) (G : aG) (d : Nat) (hG : a_GT G) (hd : 2 ≤ d) {Q : Int32 → aH → Prop} {K40 : Nat → Int32 → Int32 → Int32 → Int32 → Int32 →  aH → Prop} (kk40 : ∀ (v0 : Nat) (v5 : Int32) (v6 : Int32) (v7 : Int32) (v8 : Int32) (v9 : Int32) (h : aH), K40 v0 v5 v6 v7 v8 v9 h → AW l G d 0 0 mX8_bringOneByOne (qI Q) 40 [(0, .ref v0), (5, .int v5), (6, .int v6), (7, .int v7), (8, .int v8), (9, .int v9)] [] h) (v0 : Nat) (v5 : Int32) (v6 : Int32) (v7 : Int32) (v8 : Int32) (v9 : Int32) (h : aH) (hw : wbX8_bringOneByOne_40_i K40 v0 v5 v6 v7 v8 v9 h Q) : AW l G d 0 0 mX8_bringOneByOne (qI Q) 40 [(0, .ref v0), (5, .int v5), (6, .int v6), (7, .int v7), (8, .int v8), (9, .int v9)] [] h := by
  unfold wbX8_bringOneByOne_40_i at hw
  refine aw_iload 5 dX8_bringOneByOne_40 rfl ?_
  refine aw_iload 1 dX8_bringOneByOne_42 rfl ?_
  refine aw_icmp_ge (tgt := 96) dX8_bringOneByOne_44 (by decide) (fun z => ?_) (fun z => ?_)
  · have hw := hw.1 z
    refine aw_iload 1 dX8_bringOneByOne_96 rfl ?_
    exact aw_iret dX8_bringOneByOne_98 rfl rfl ⟨_, rfl, hw⟩
  · have hw := hw.2 z
    refine aw_aload_n 0 dX8_bringOneByOne_47 rfl rfl ?_
    obtain ⟨fs2, r1, h1, h2, hw⟩ := hw
    refine aw_getf (k := 3) dX8_bringOneByOne_48 clX8 (by decide) k_132 (Or.inl rfl) h1 h2 ?_
    refine aw_iload 3 dX8_bringOneByOne_51 rfl ?_
    refine aw_iload 5 dX8_bringOneByOne_53 rfl ?_
    refine aw_iadd dX8_bringOneByOne_55 ?_
    obtain ⟨_, _, r3, h1, h2, h3, hw⟩ := hw
    refine aw_aL dX8_bringOneByOne_56 h1 h2 h3 ?_
    refine aw_l2i dX8_bringOneByOne_57 ?_
    refine aw_istore (lv' := [(10, .int r3.toInt32), (0, .ref v0), (5, .int v5), (6, .int v6), (7, .int v7), (8, .int v8), (9, .int v9)]) dX8_bringOneByOne_58 (by decide) rfl ?_
    refine aw_iload 3 dX8_bringOneByOne_60 rfl ?_
    refine aw_aload_n 1 dX8_bringOneByOne_62 rfl rfl ?_
    refine aw_iload 0 dX8_bringOneByOne_63 rfl ?_
    obtain ⟨_, h1, hw⟩ := hw
    refine aw_virtI (As := [.int r3.toInt32]) (rest := [.int v6]) dX8_bringOneByOne_65 (acX8_kindOf l G (d - 1) hG (by omega) hw) iX8_kindOf rfl k_498 k_499 k_500 rfl h1 (by omega) (by decide) (by decide) rfl (Nat.le_of_ble_eq_true rfl) (fun r5 h4 hw => ?_)
    refine aw_staticI (As := [.int v6, .int r5]) (rest := []) dX8_bringOneByOne_68 (acX4_has l G (d - 1) hG (by omega) hw) iX4_has rfl k_604 k_538 (by omega) (by decide) (by decide) rfl (Nat.le_of_ble_eq_true rfl) (fun r7 h6 hw => ?_)
    refine aw_if_ne (tgt := 77) dX8_bringOneByOne_71 (by decide) (fun z => ?_) (fun z => ?_)
    · have hw := hw.1 z
      refine aw_aload_n 1 dX8_bringOneByOne_77 rfl rfl ?_
      obtain ⟨fs9, r8, h1, h2, hw⟩ := hw
      refine aw_getf (k := 3) dX8_bringOneByOne_78 clX8 (by decide) k_132 (Or.inl rfl) h1 h2 ?_
      refine aw_iload 5 dX8_bringOneByOne_81 rfl ?_
      refine aw_iload 6 dX8_bringOneByOne_83 rfl ?_
      refine aw_iadd dX8_bringOneByOne_85 ?_
      refine aw_iload 0 dX8_bringOneByOne_86 rfl ?_
      refine aw_i2l dX8_bringOneByOne_88 ?_
      obtain ⟨_, _, h1, h2, hw⟩ := hw
      refine aw_last dX8_bringOneByOne_89 h1 h2 ?_
      generalize a_up _ _ _ = h10 at hw ⊢
      refine aw_iinc (v := (v9 + 1)) (lv' := [(9, .int (v9 + 1)), (10, .int r3.toInt32), (0, .ref v0), (5, .int v5), (6, .int v6), (7, .int v7), (8, .int v8)]) 6 dX8_bringOneByOne_90 rfl rfl (by decide) rfl ?_
      refine aw_goto (tgt := 40) dX8_bringOneByOne_93 (by decide) ?_
      refine aw_sub (lv' := [(0, .ref v0), (5, .int v5), (6, .int v6), (7, .int v7), (8, .int v8), (9, .int (v9 + 1))]) [2, 3, 4, 5, 6, 0] rfl ?_
      exact kk40 _ _ _ _ _ _ _ hw
    · have hw := hw.2 z
      refine aw_iload 6 dX8_bringOneByOne_74 rfl ?_
      exact aw_iret dX8_bringOneByOne_76 rfl rfl ⟨_, rfl, hw⟩
set_option maxRecDepth 100000 in
theorem abX8_bringOneByOne_40 (l : Launch) (G : aG) (d : Nat) (hG : a_GT G) (hd : 2 ≤ d) {Q : Int32 → aH → Prop} (n : Nat) : ∀  (v0 : Nat) (v5 : Int32) (v6 : Int32) (v7 : Int32) (v8 : Int32) (v9 : Int32) (h : aH), wbX8_bringOneByOne_40 n v0 v5 v6 v7 v8 v9 h Q → AW l G d 0 0 mX8_bringOneByOne (qI Q) 40 [(0, .ref v0), (5, .int v5), (6, .int v6), (7, .int v7), (8, .int v8), (9, .int v9)] [] h := by
  induction n with
  | zero => exact fun _ _ _ _ _ _ _ hw => hw.elim
  | succ n ih => exact fun _ _ _ _ _ _ _ hw => abX8_bringOneByOne_40_i l G d hG hd ih _ _ _ _ _ _ _ hw
set_option maxRecDepth 100000 in
theorem acX8_bringOneByOne (l : Launch) (G : aG) (d : Nat) (hG : a_GT G) (hd : 2 ≤ d) {Q : Int32 → aH → Prop} {h : aH} {v0 : Nat} {v1 : Int32} {v2 : Int32} {v3 : Int32} {v4 : Int32} {v5 : Int32} (hw : wX8_bringOneByOne h v0 v1 v2 v3 v4 v5 Q) : AC l G d 0 0 mX8_bringOneByOne [.ref v0, .int v1, .int v2, .int v3, .int v4, .int v5] h (qI Q) := by
  refine ac_of iX8_bringOneByOne (Nat.le_of_ble_eq_true rfl) ?_
  show AW l G d 0 0 mX8_bringOneByOne (qI Q) 0 [(0, .ref v0), (1, .int v1), (2, .int v2), (3, .int v3), (4, .int v4), (5, .int v5)] [] h
  unfold wX8_bringOneByOne at hw
  refine aw_aload_n 0 dX8_bringOneByOne_0 rfl rfl ?_
  obtain ⟨fs12, r11, h1, h2, hw⟩ := hw
  refine aw_getf (k := 0) dX8_bringOneByOne_1 clX8 (by decide) k_129 (Or.inl rfl) h1 h2 ?_
  refine aw_iload_n 3 dX8_bringOneByOne_4 rfl rfl ?_
  obtain ⟨_, _, r13, h1, h2, h3, hw⟩ := hw
  refine aw_aI dX8_bringOneByOne_5 h1 h2 h3 ?_
  refine aw_staticI (As := [.int r13]) (rest := []) dX8_bringOneByOne_6 (acX4_ofItems l G (d - 1) hG (by omega) hw) iX4_ofItems rfl k_602 k_566 (by omega) (by decide) (by decide) rfl (Nat.le_of_ble_eq_true rfl) (fun r15 h14 hw => ?_)
  refine aw_staticI (As := [.int r15]) (rest := []) dX8_bringOneByOne_9 (acX4_thoseThatAre l G (d - 1) hG (by omega) hw) iX4_thoseThatAre rfl k_603 k_532 (by omega) (by decide) (by decide) rfl (Nat.le_of_ble_eq_true rfl) (fun r17 h16 hw => ?_)
  refine aw_iconst (v := 1) dX8_bringOneByOne_12 (by decide) ?_
  refine aw_ior dX8_bringOneByOne_13 ?_
  refine aw_istore (lv' := [(6, .int (r17 ||| 1)), (0, .ref v0), (1, .int v1), (2, .int v2), (3, .int v3), (4, .int v4), (5, .int v5)]) dX8_bringOneByOne_14 (by decide) rfl ?_
  refine aw_aload_n 1 dX8_bringOneByOne_16 rfl rfl ?_
  obtain ⟨fs19, r18, h1, h2, hw⟩ := hw
  refine aw_getf (k := 1) dX8_bringOneByOne_17 clX8 (by decide) k_130 (Or.inl rfl) h1 h2 ?_
  refine aw_iload_n 2 dX8_bringOneByOne_20 rfl rfl ?_
  obtain ⟨_, _, r20, h1, h2, h3, hw⟩ := hw
  refine aw_aI dX8_bringOneByOne_21 h1 h2 h3 ?_
  refine aw_iload_n 3 dX8_bringOneByOne_22 rfl rfl ?_
  refine aw_iadd dX8_bringOneByOne_23 ?_
  refine aw_istore (lv' := [(7, .int (r20 + v2)), (6, .int (r17 ||| 1)), (0, .ref v0), (1, .int v1), (2, .int v2), (3, .int v3), (4, .int v4), (5, .int v5)]) dX8_bringOneByOne_24 (by decide) rfl ?_
  refine aw_aload_n 2 dX8_bringOneByOne_26 rfl rfl ?_
  obtain ⟨fs22, r21, h1, h2, hw⟩ := hw
  refine aw_getf (k := 1) dX8_bringOneByOne_27 clX8 (by decide) k_130 (Or.inl rfl) h1 h2 ?_
  refine aw_iload_n 5 dX8_bringOneByOne_30 rfl rfl ?_
  obtain ⟨_, _, r23, h1, h2, h3, hw⟩ := hw
  refine aw_aI dX8_bringOneByOne_31 h1 h2 h3 ?_
  refine aw_iload 6 dX8_bringOneByOne_32 rfl ?_
  refine aw_iadd dX8_bringOneByOne_34 ?_
  refine aw_istore (lv' := [(8, .int (r23 + v4)), (7, .int (r20 + v2)), (6, .int (r17 ||| 1)), (0, .ref v0), (1, .int v1), (2, .int v2), (3, .int v3), (4, .int v4), (5, .int v5)]) dX8_bringOneByOne_35 (by decide) rfl ?_
  refine aw_iconst (v := 0) dX8_bringOneByOne_37 (by decide) ?_
  refine aw_istore (lv' := [(9, .int 0), (8, .int (r23 + v4)), (7, .int (r20 + v2)), (6, .int (r17 ||| 1)), (0, .ref v0), (1, .int v1), (2, .int v2), (3, .int v3), (4, .int v4), (5, .int v5)]) dX8_bringOneByOne_38 (by decide) rfl ?_
  obtain ⟨n, hw⟩ := hw
  refine aw_sub (lv' := [(0, .ref v0), (5, .int v5), (6, .int (r17 ||| 1)), (7, .int (r20 + v2)), (8, .int (r23 + v4)), (9, .int 0)]) [4, 9, 3, 2, 1, 0] rfl ?_
  exact abX8_bringOneByOne_40 l G d hG hd n _ _ _ _ _ _ _ hw
