abbrev mL_law : aM := (yL_law, cL_law, 4, some .boolean)
def tS (L : Nat) (xs : Nat → Int32) (j : Int32) (K : Int32 → Prop) : Prop := ∃ x, vp_in j L ∧ xs j.toNatClampNeg = x ∧ K x
theorem aw_tS {l : Launch} {G : aG} {d c w : Nat} {M : aM} {Q : Option Value → aH → Prop} {pc : Nat} {lv : List (Nat × Value)} {st : List Value} {h : aH} {L : Nat} {xs : Nat → Int32} {j x : Int32} (hX : (G.2.2.2 5).2 = (L, xs)) (hdg : decode M.2.1 pc = .ok (.iaload, 1)) (hin : vp_in j L) (hx : xs j.toNatClampNeg = x) (kk : AW l G d c w M Q (pc + 1) lv (.int x :: st) h) : AW l G d c w M Q pc lv (.int j :: .ref (G.2.2.2 5).1 :: st) h := by
  refine aw_tab 5 (by decide) hdg (by rw [hX]; exact hin) ?_
  rw [hX]
  subst hx
  exact kk
theorem aw_sL {l : Launch} {G : aG} {d c w : Nat} {M : aM} {Q : Option Value → aH → Prop} {pc : Nat} {lv : List (Nat × Value)} {st : List Value} {h : aH} {L : Nat} {xs : Nat → Int32} (hX : (G.2.2.2 5).2 = (L, xs)) (hdg : decode M.2.1 pc = .ok (.arraylength, 1)) (kk : AW l G d c w M Q (pc + 1) lv (.int (Int32.ofNat L) :: st) h) : AW l G d c w M Q pc lv (.ref (G.2.2.2 5).1 :: st) h := by
  refine aw_tlen 5 (by decide) hdg ?_
  rw [hX]
  exact kk
def wbL_law_713 (Rd : Nat → aH → Nat → Nat → (Int32 → aH → Prop) → Prop) (Rf : Nat → aH → Nat → Nat → (aH → Prop) → Prop) (L : Nat) (xs : Nat → Int32) (K18 : Nat → Nat → Int32 → aH → Prop) (v1 : Nat) (v2 : Nat) (v3 : Int32) (h : aH) (Q : Int32 → aH → Prop) : Prop :=
  K18 v1 v2 ((v3 + 6)) h
set_option maxRecDepth 100000 in
set_option maxHeartbeats 4000000 in
theorem abL_law_713 (l : Launch) (G : aG) (d : Nat) (hG : a_GT G) {L : Nat} {xs : Nat → Int32} (hX : (G.2.2.2 5).2 = (L, xs)) {Rd : Nat → aH → Nat → Nat → (Int32 → aH → Prop) → Prop} {Rf : Nat → aH → Nat → Nat → (aH → Prop) → Prop} {dRd : Nat} (hRd : ∀ (ci : Nat) (h : aH) (a b : Nat) (Q : Int32 → aH → Prop), ci < 4 → Rd ci h a b Q → AC l G dRd 0 0 (mdone ci) [.ref a, .ref b] h (qI Q)) {dRf : Nat} (hRf : ∀ (ci : Nat) (h : aH) (a b : Nat) (Q : aH → Prop), ci < 4 → Rf ci h a b Q → AC l G dRf 0 0 (mfindWays ci) [.ref a, .ref b] h (qV Q)) (hd : 11 ≤ d) (hdRd : dRd + 2 ≤ d) (hdRf : dRf + 3 ≤ d) {Q : Int32 → aH → Prop} {c0 w0 : Nat} {K18 : Nat → Nat → Int32 → aH → Prop} (kk18 : ∀ (v1 : Nat) (v2 : Nat) (v3 : Int32) (h : aH), K18 v1 v2 v3 h → AW l G d c0 w0 mL_law (qI Q) 18 [(0, .ref (G.2.2.2 5).1), (1, .ref v1), (2, .ref v2), (3, .int v3)] [] h) (v1 : Nat) (v2 : Nat) (v3 : Int32) (h : aH) (hw : wbL_law_713 Rd Rf L xs K18 v1 v2 v3 h Q) : AW l G d c0 w0 mL_law (qI Q) 713 [(0, .ref (G.2.2.2 5).1), (1, .ref v1), (2, .ref v2), (3, .int v3)] [] h := by
  unfold wbL_law_713 at hw
  refine aw_iinc (v := (v3 + 6)) (lv' := [(3, .int (v3 + 6)), (0, .ref (G.2.2.2 5).1), (1, .ref v1), (2, .ref v2)]) 3 dL_law_713 rfl rfl (by decide) rfl ?_
  refine aw_goto (tgt := 18) dL_law_716 (by decide) ?_
  refine aw_sub (lv' := [(0, .ref (G.2.2.2 5).1), (1, .ref v1), (2, .ref v2), (3, .int (v3 + 6))]) [1, 2, 3, 0] rfl ?_
  refine aw_bud (c1 := c0) (w1 := w0) (by omega) (by omega) ?_
  exact kk18 _ _ _ _ hw
def wbL_law_18_i (Rd : Nat → aH → Nat → Nat → (Int32 → aH → Prop) → Prop) (Rf : Nat → aH → Nat → Nat → (aH → Prop) → Prop) (L : Nat) (xs : Nat → Int32) (K18 : Nat → Nat → Int32 → aH → Prop) (v1 : Nat) (v2 : Nat) (v3 : Int32) (h : aH) (Q : Int32 → aH → Prop) : Prop :=
  (((Int32.ofNat L) - 6) < v3 → oB 1 ∧ Q 1 h) ∧ (¬ ((Int32.ofNat L) - 6) < v3 → tS L xs v3 (fun r1 => ((((r1 &&& 31)).toInt < 0 ∨ 18 < ((r1 &&& 31)).toInt) → wbL_law_713 Rd Rf L xs K18 v1 v2 v3 h Q) ∧ (((r1 &&& 31)).toInt = 0 → tS L xs ((v3 + 1)) (fun r2 => tS L xs ((v3 + 2)) (fun r3 => tS L xs ((v3 + 3)) (fun r4 => tS L xs ((v3 + 4)) (fun r5 => tS L xs ((v3 + 5)) (fun r6 => isO h v1 8 (wX10_act h v1 r2 r3 r4 r5 r6 (fun r8 h7 => tS L xs ((v3 + 1)) (fun r9 => tS L xs ((v3 + 2)) (fun r10 => tS L xs ((v3 + 3)) (fun r11 => tS L xs ((v3 + 4)) (fun r12 => tS L xs ((v3 + 5)) (fun r13 => isO h7 v2 9 (wX11_act h7 v2 r9 r10 r11 r12 r13 (fun r15 h14 => (r8 = r15 → wbL_law_713 Rd Rf L xs K18 v1 v2 v3 h14 Q) ∧ (¬ r8 = r15 → oB 0 ∧ Q 0 h14)))))))))))))))) ∧ (((r1 &&& 31)).toInt = 1 → tS L xs ((v3 + 1)) (fun r16 => tS L xs ((v3 + 2)) (fun r17 => isO h v1 8 (wX10_both h v1 r16 r17 (fun r19 h18 => tS L xs ((v3 + 1)) (fun r20 => tS L xs ((v3 + 2)) (fun r21 => isO h18 v2 9 (wX11_both h18 v2 r20 r21 (fun r23 h22 => (r19 = r23 → wbL_law_713 Rd Rf L xs K18 v1 v2 v3 h22 Q) ∧ (¬ r19 = r23 → oB 0 ∧ Q 0 h22)))))))))) ∧ (((r1 &&& 31)).toInt = 2 → tS L xs ((v3 + 1)) (fun r24 => tS L xs ((v3 + 2)) (fun r25 => tS L xs ((v3 + 3)) (fun r26 => tS L xs ((v3 + 4)) (fun r27 => isO h v1 8 (wX10_choice h v1 r24 r25 r26 r27 (fun r29 h28 => tS L xs ((v3 + 1)) (fun r30 => tS L xs ((v3 + 2)) (fun r31 => tS L xs ((v3 + 3)) (fun r32 => tS L xs ((v3 + 4)) (fun r33 => isO h28 v2 9 (wX11_choice h28 v2 r30 r31 r32 r33 (fun r35 h34 => (r29 = r35 → wbL_law_713 Rd Rf L xs K18 v1 v2 v3 h34 Q) ∧ (¬ r29 = r35 → oB 0 ∧ Q 0 h34)))))))))))))) ∧ (((r1 &&& 31)).toInt = 3 → tS L xs ((v3 + 1)) (fun r36 => tS L xs ((v3 + 2)) (fun r37 => tS L xs ((v3 + 3)) (fun r38 => tS L xs ((v3 + 4)) (fun r39 => isO h v1 8 (wX10_guard h v1 r36 r37 r38 r39 (fun r41 h40 => tS L xs ((v3 + 1)) (fun r42 => tS L xs ((v3 + 2)) (fun r43 => tS L xs ((v3 + 3)) (fun r44 => tS L xs ((v3 + 4)) (fun r45 => isO h40 v2 9 (wX11_guard h40 v2 r42 r43 r44 r45 (fun r47 h46 => (r41 = r47 → wbL_law_713 Rd Rf L xs K18 v1 v2 v3 h46 Q) ∧ (¬ r41 = r47 → oB 0 ∧ Q 0 h46)))))))))))))) ∧ (((r1 &&& 31)).toInt = 4 → isO h v1 8 (wX10_forget h v1 (fun r49 h48 => isO h48 v2 9 (wX11_forget h48 v2 (fun r51 h50 => (r49 = r51 → wbL_law_713 Rd Rf L xs K18 v1 v2 v3 h50 Q) ∧ (¬ r49 = r51 → oB 0 ∧ Q 0 h50)))))) ∧ (((r1 &&& 31)).toInt = 5 → tS L xs ((v3 + 1)) (fun r52 => isO h v1 8 (wX10_run Rd h v1 r52 (fun r54 h53 => tS L xs ((v3 + 1)) (fun r55 => isO h53 v2 9 (wX11_run h53 v2 r55 (fun r57 h56 => (r54 = r57 → wbL_law_713 Rd Rf L xs K18 v1 v2 v3 h56 Q) ∧ (¬ r54 = r57 → oB 0 ∧ Q 0 h56)))))))) ∧ (((r1 &&& 31)).toInt = 6 → tS L xs ((v3 + 1)) (fun r58 => isO h v1 8 (wX10_ran h v1 r58 (fun r60 h59 => tS L xs ((v3 + 1)) (fun r61 => isO h59 v2 9 (wX11_ran h59 v2 r61 (fun r63 h62 => (r60 = r63 → wbL_law_713 Rd Rf L xs K18 v1 v2 v3 h62 Q) ∧ (¬ r60 = r63 → oB 0 ∧ Q 0 h62)))))))) ∧ (((r1 &&& 31)).toInt = 7 → isO h v1 8 (wX10_clear h v1 (fun r65 h64 => isO h64 v2 9 (wX11_clear h64 v2 (fun r67 h66 => (r65 = r67 → wbL_law_713 Rd Rf L xs K18 v1 v2 v3 h66 Q) ∧ (¬ r65 = r67 → oB 0 ∧ Q 0 h66)))))) ∧ (((r1 &&& 31)).toInt = 8 → tS L xs ((v3 + 1)) (fun r68 => isO h v1 8 (wX10_count h v1 r68 (fun r70 h69 => tS L xs ((v3 + 1)) (fun r71 => isO h69 v2 9 (wX11_count h69 v2 r71 (fun r73 h72 => (r70 = r73 → wbL_law_713 Rd Rf L xs K18 v1 v2 v3 h72 Q) ∧ (¬ r70 = r73 → oB 0 ∧ Q 0 h72)))))))) ∧ (((r1 &&& 31)).toInt = 9 → tS L xs ((v3 + 1)) (fun r74 => tS L xs ((v3 + 2)) (fun r75 => isO h v1 8 (wX10_slot h v1 r74 r75 (fun r77 h76 => tS L xs ((v3 + 1)) (fun r78 => tS L xs ((v3 + 2)) (fun r79 => isO h76 v2 9 (wX11_slot h76 v2 r78 r79 (fun r81 h80 => (r77 = r81 → wbL_law_713 Rd Rf L xs K18 v1 v2 v3 h80 Q) ∧ (¬ r77 = r81 → oB 0 ∧ Q 0 h80)))))))))) ∧ (((r1 &&& 31)).toInt = 10 → tS L xs ((v3 + 1)) (fun r82 => tS L xs ((v3 + 2)) (fun r83 => isO h v1 8 (wX10_item h v1 r82 r83 (fun r85 h84 => tS L xs ((v3 + 1)) (fun r86 => tS L xs ((v3 + 2)) (fun r87 => isO h84 v2 9 (wX11_item h84 v2 r86 r87 (fun r89 h88 => ((lg_cmp r85 r89) = 0 → wbL_law_713 Rd Rf L xs K18 v1 v2 v3 h88 Q) ∧ (¬ (lg_cmp r85 r89) = 0 → oB 0 ∧ Q 0 h88)))))))))) ∧ (((r1 &&& 31)).toInt = 11 → tS L xs ((v3 + 1)) (fun r90 => isO h v1 8 (wX10_register h v1 r90 (fun r92 h91 => tS L xs ((v3 + 1)) (fun r93 => isO h91 v2 9 (wX11_register h91 v2 r93 (fun r95 h94 => ((lg_cmp r92 r95) = 0 → wbL_law_713 Rd Rf L xs K18 v1 v2 v3 h94 Q) ∧ (¬ (lg_cmp r92 r95) = 0 → oB 0 ∧ Q 0 h94)))))))) ∧ (((r1 &&& 31)).toInt = 12 → tS L xs ((v3 + 1)) (fun r96 => tS L xs ((v3 + 2)) (fun r97 => isO h v1 8 (wX10_alike h v1 r96 r97 (fun r99 h98 => tS L xs ((v3 + 1)) (fun r100 => tS L xs ((v3 + 2)) (fun r101 => isO h98 v2 9 (wX11_alike h98 v2 r100 r101 (fun r103 h102 => (r99 = r103 → wbL_law_713 Rd Rf L xs K18 v1 v2 v3 h102 Q) ∧ (¬ r99 = r103 → oB 0 ∧ Q 0 h102)))))))))) ∧ (((r1 &&& 31)).toInt = 13 → tS L xs ((v3 + 1)) (fun r104 => tS L xs ((v3 + 2)) (fun r105 => isO h v1 8 (wX10_given h v1 r104 r105 (fun r107 h106 => tS L xs ((v3 + 1)) (fun r108 => tS L xs ((v3 + 2)) (fun r109 => isO h106 v2 9 (wX11_given h106 v2 r108 r109 (fun r111 h110 => (r107 = r111 → wbL_law_713 Rd Rf L xs K18 v1 v2 v3 h110 Q) ∧ (¬ r107 = r111 → oB 0 ∧ Q 0 h110)))))))))) ∧ (((r1 &&& 31)).toInt = 14 → tS L xs ((v3 + 1)) (fun r112 => isO h v1 8 (wX10_report Rf h v1 r112 (fun r114 h113 => tS L xs ((v3 + 1)) (fun r115 => isO h113 v2 9 (wX11_report h113 v2 r115 (fun r117 h116 => (r114 = r117 → wbL_law_713 Rd Rf L xs K18 v1 v2 v3 h116 Q) ∧ (¬ r114 = r117 → oB 0 ∧ Q 0 h116)))))))) ∧ (((r1 &&& 31)).toInt = 15 → tS L xs ((v3 + 1)) (fun r118 => isO h v1 8 (wX10_reached h v1 r118 (fun r120 h119 => tS L xs ((v3 + 1)) (fun r121 => isO h119 v2 9 (wX11_reached h119 v2 r121 (fun r123 h122 => (r120 = r123 → wbL_law_713 Rd Rf L xs K18 v1 v2 v3 h122 Q) ∧ (¬ r120 = r123 → oB 0 ∧ Q 0 h122)))))))) ∧ (((r1 &&& 31)).toInt = 16 → tS L xs ((v3 + 1)) (fun r124 => isO h v1 8 (wX10_may h v1 r124 (fun r126 h125 => tS L xs ((v3 + 1)) (fun r127 => isO h125 v2 9 (wX11_may h125 v2 r127 (fun r129 h128 => (r126 = r129 → wbL_law_713 Rd Rf L xs K18 v1 v2 v3 h128 Q) ∧ (¬ r126 = r129 → oB 0 ∧ Q 0 h128)))))))) ∧ (((r1 &&& 31)).toInt = 17 → tS L xs ((v3 + 1)) (fun r130 => tS L xs ((v3 + 2)) (fun r131 => isO h v1 8 (wX10_ahead h v1 r130 r131 (fun r133 h132 => tS L xs ((v3 + 1)) (fun r134 => tS L xs ((v3 + 2)) (fun r135 => isO h132 v2 9 (wX11_ahead h132 v2 r134 r135 (fun r137 h136 => (r133 = r137 → wbL_law_713 Rd Rf L xs K18 v1 v2 v3 h136 Q) ∧ (¬ r133 = r137 → oB 0 ∧ Q 0 h136)))))))))) ∧ (((r1 &&& 31)).toInt = 18 → tS L xs ((v3 + 1)) (fun r138 => tS L xs ((v3 + 2)) (fun r139 => isO h v1 8 (wX10_guarded h v1 r138 r139 (fun r141 h140 => tS L xs ((v3 + 1)) (fun r142 => tS L xs ((v3 + 2)) (fun r143 => isO h140 v2 9 (wX11_guarded h140 v2 r142 r143 (fun r145 h144 => (r141 = r145 → wbL_law_713 Rd Rf L xs K18 v1 v2 v3 h144 Q) ∧ (¬ r141 = r145 → oB 0 ∧ Q 0 h144))))))))))))
set_option maxRecDepth 100000 in
set_option maxHeartbeats 4000000 in
theorem abL_law_18_i (l : Launch) (G : aG) (d : Nat) (hG : a_GT G) {L : Nat} {xs : Nat → Int32} (hX : (G.2.2.2 5).2 = (L, xs)) {Rd : Nat → aH → Nat → Nat → (Int32 → aH → Prop) → Prop} {Rf : Nat → aH → Nat → Nat → (aH → Prop) → Prop} {dRd : Nat} (hRd : ∀ (ci : Nat) (h : aH) (a b : Nat) (Q : Int32 → aH → Prop), ci < 4 → Rd ci h a b Q → AC l G dRd 0 0 (mdone ci) [.ref a, .ref b] h (qI Q)) {dRf : Nat} (hRf : ∀ (ci : Nat) (h : aH) (a b : Nat) (Q : aH → Prop), ci < 4 → Rf ci h a b Q → AC l G dRf 0 0 (mfindWays ci) [.ref a, .ref b] h (qV Q)) (hd : 11 ≤ d) (hdRd : dRd + 2 ≤ d) (hdRf : dRf + 3 ≤ d) {Q : Int32 → aH → Prop} {c0 w0 : Nat} {K18 : Nat → Nat → Int32 → aH → Prop} (kk18 : ∀ (v1 : Nat) (v2 : Nat) (v3 : Int32) (h : aH), K18 v1 v2 v3 h → AW l G d c0 w0 mL_law (qI Q) 18 [(0, .ref (G.2.2.2 5).1), (1, .ref v1), (2, .ref v2), (3, .int v3)] [] h) (v1 : Nat) (v2 : Nat) (v3 : Int32) (h : aH) (hw : wbL_law_18_i Rd Rf L xs K18 v1 v2 v3 h Q) : AW l G d (c0 + 50) (w0 + 400) mL_law (qI Q) 18 [(0, .ref (G.2.2.2 5).1), (1, .ref v1), (2, .ref v2), (3, .int v3)] [] h := by
  unfold wbL_law_18_i at hw
  refine aw_iload_n 3 dL_law_18 rfl rfl ?_
  refine aw_aload_n 0 dL_law_19 rfl rfl ?_
  refine aw_sL hX dL_law_20 ?_
  refine aw_bipush (v := 6) dL_law_21 (by decide) ?_
  refine aw_isub dL_law_23 ?_
  refine aw_icmp_gt (tgt := 719) dL_law_24 (by decide) (fun z => ?_) (fun z => ?_)
  · have hw := hw.1 z
    refine aw_iconst (v := 1) dL_law_719 (by decide) ?_
    exact aw_iret dL_law_720 rfl (a_nB hw.1) ⟨_, rfl, hw.2⟩
  · have hw := hw.2 z
    refine aw_aload_n 0 dL_law_27 rfl rfl ?_
    refine aw_iload_n 3 dL_law_28 rfl rfl ?_
    obtain ⟨r1, h1, h2, hw⟩ := hw
    refine aw_tS hX dL_law_29 h1 h2 ?_
    refine aw_bipush (v := 31) dL_law_30 (by decide) ?_
    refine aw_iand dL_law_32 ?_
    by_cases zo : ((r1 &&& 31)).toInt < 0 ∨ 18 < ((r1 &&& 31)).toInt
    · have hw := hw.1 zo
      refine aw_tableOut (tgt := 713) dL_law_33 zo (by decide) ?_
      refine aw_sub (lv' := [(0, .ref (G.2.2.2 5).1), (1, .ref v1), (2, .ref v2), (3, .int v3)]) [0, 1, 2, 3] rfl ?_
      refine aw_bud (c1 := c0) (w1 := w0) (by omega) (by omega) ?_
      exact abL_law_713 l G d hG hX hRd hRf hd hdRd hdRf kk18 _ _ _ _ hw
    · have hw := hw.2
      have z : ((r1 &&& 31)).toInt = 0 ∨ ((r1 &&& 31)).toInt = 1 ∨ ((r1 &&& 31)).toInt = 2 ∨ ((r1 &&& 31)).toInt = 3 ∨ ((r1 &&& 31)).toInt = 4 ∨ ((r1 &&& 31)).toInt = 5 ∨ ((r1 &&& 31)).toInt = 6 ∨ ((r1 &&& 31)).toInt = 7 ∨ ((r1 &&& 31)).toInt = 8 ∨ ((r1 &&& 31)).toInt = 9 ∨ ((r1 &&& 31)).toInt = 10 ∨ ((r1 &&& 31)).toInt = 11 ∨ ((r1 &&& 31)).toInt = 12 ∨ ((r1 &&& 31)).toInt = 13 ∨ ((r1 &&& 31)).toInt = 14 ∨ ((r1 &&& 31)).toInt = 15 ∨ ((r1 &&& 31)).toInt = 16 ∨ ((r1 &&& 31)).toInt = 17 ∨ ((r1 &&& 31)).toInt = 18 := by omega
      rcases z with z | z | z | z | z | z | z | z | z | z | z | z | z | z | z | z | z | z | z
      · have hw := hw.1 z
        refine aw_tableIn (off := 91) (tgt := 124) dL_law_33 (by rw [z]; decide) (by rw [z]; decide) (by rw [z]; rfl) (by decide) ?_
        refine aw_aload_n 1 dL_law_124 rfl rfl ?_
        refine aw_aload_n 0 dL_law_125 rfl rfl ?_
        refine aw_iload_n 3 dL_law_126 rfl rfl ?_
        refine aw_iconst (v := 1) dL_law_127 (by decide) ?_
        refine aw_iadd dL_law_128 ?_
        obtain ⟨r2, h1, h2, hw⟩ := hw
        refine aw_tS hX dL_law_129 h1 h2 ?_
        refine aw_aload_n 0 dL_law_130 rfl rfl ?_
        refine aw_iload_n 3 dL_law_131 rfl rfl ?_
        refine aw_iconst (v := 2) dL_law_132 (by decide) ?_
        refine aw_iadd dL_law_133 ?_
        obtain ⟨r3, h1, h2, hw⟩ := hw
        refine aw_tS hX dL_law_134 h1 h2 ?_
        refine aw_aload_n 0 dL_law_135 rfl rfl ?_
        refine aw_iload_n 3 dL_law_136 rfl rfl ?_
        refine aw_iconst (v := 3) dL_law_137 (by decide) ?_
        refine aw_iadd dL_law_138 ?_
        obtain ⟨r4, h1, h2, hw⟩ := hw
        refine aw_tS hX dL_law_139 h1 h2 ?_
        refine aw_aload_n 0 dL_law_140 rfl rfl ?_
        refine aw_iload_n 3 dL_law_141 rfl rfl ?_
        refine aw_iconst (v := 4) dL_law_142 (by decide) ?_
        refine aw_iadd dL_law_143 ?_
        obtain ⟨r5, h1, h2, hw⟩ := hw
        refine aw_tS hX dL_law_144 h1 h2 ?_
        refine aw_aload_n 0 dL_law_145 rfl rfl ?_
        refine aw_iload_n 3 dL_law_146 rfl rfl ?_
        refine aw_iconst (v := 5) dL_law_147 (by decide) ?_
        refine aw_iadd dL_law_148 ?_
        obtain ⟨r6, h1, h2, hw⟩ := hw
        refine aw_tS hX dL_law_149 h1 h2 ?_
        obtain ⟨_, h1, hw⟩ := hw
        refine aw_virtI (As := [.int r2, .int r3, .int r4, .int r5, .int r6]) (rest := []) (c1 := 25) (w1 := 164) dL_law_150 (acX10_act l G (d - 1) hG (by omega) hw) iX10_act rfl k_223 k_224 k_225 rfl h1 (by omega) (by omega) (by omega) rfl (Nat.le_of_ble_eq_true rfl) (fun r8 h7 hw => ?_)
        skip
        refine aw_aload_n 2 dL_law_153 rfl rfl ?_
        refine aw_aload_n 0 dL_law_154 rfl rfl ?_
        refine aw_iload_n 3 dL_law_155 rfl rfl ?_
        refine aw_iconst (v := 1) dL_law_156 (by decide) ?_
        refine aw_iadd dL_law_157 ?_
        obtain ⟨r9, h1, h2, hw⟩ := hw
        refine aw_tS hX dL_law_158 h1 h2 ?_
        refine aw_aload_n 0 dL_law_159 rfl rfl ?_
        refine aw_iload_n 3 dL_law_160 rfl rfl ?_
        refine aw_iconst (v := 2) dL_law_161 (by decide) ?_
        refine aw_iadd dL_law_162 ?_
        obtain ⟨r10, h1, h2, hw⟩ := hw
        refine aw_tS hX dL_law_163 h1 h2 ?_
        refine aw_aload_n 0 dL_law_164 rfl rfl ?_
        refine aw_iload_n 3 dL_law_165 rfl rfl ?_
        refine aw_iconst (v := 3) dL_law_166 (by decide) ?_
        refine aw_iadd dL_law_167 ?_
        obtain ⟨r11, h1, h2, hw⟩ := hw
        refine aw_tS hX dL_law_168 h1 h2 ?_
        refine aw_aload_n 0 dL_law_169 rfl rfl ?_
        refine aw_iload_n 3 dL_law_170 rfl rfl ?_
        refine aw_iconst (v := 4) dL_law_171 (by decide) ?_
        refine aw_iadd dL_law_172 ?_
        obtain ⟨r12, h1, h2, hw⟩ := hw
        refine aw_tS hX dL_law_173 h1 h2 ?_
        refine aw_aload_n 0 dL_law_174 rfl rfl ?_
        refine aw_iload_n 3 dL_law_175 rfl rfl ?_
        refine aw_iconst (v := 5) dL_law_176 (by decide) ?_
        refine aw_iadd dL_law_177 ?_
        obtain ⟨r13, h1, h2, hw⟩ := hw
        refine aw_tS hX dL_law_178 h1 h2 ?_
        obtain ⟨_, h1, hw⟩ := hw
        refine aw_virtI (As := [.int r9, .int r10, .int r11, .int r12, .int r13]) (rest := [.int r8]) dL_law_179 (acX11_act l G (d - 1) hG (by omega) hw) iX11_act rfl k_1070 k_1071 k_1072 rfl h1 (by omega) (by omega) (by omega) rfl (Nat.le_of_ble_eq_true rfl) (fun r15 h14 hw => ?_)
        refine aw_icmp_eq (tgt := 713) dL_law_182 (by decide) (fun z => ?_) (fun z => ?_)
        · have hw := hw.1 z
          refine aw_sub (lv' := [(0, .ref (G.2.2.2 5).1), (1, .ref v1), (2, .ref v2), (3, .int v3)]) [0, 1, 2, 3] rfl ?_
          refine aw_bud (c1 := c0) (w1 := w0) (by omega) (by omega) ?_
          exact abL_law_713 l G d hG hX hRd hRf hd hdRd hdRf kk18 _ _ _ _ hw
        · have hw := hw.2 z
          refine aw_iconst (v := 0) dL_law_185 (by decide) ?_
          exact aw_iret dL_law_186 rfl (a_nB hw.1) ⟨_, rfl, hw.2⟩
      · have hw := hw.2.1 z
        refine aw_tableIn (off := 154) (tgt := 187) dL_law_33 (by rw [z]; decide) (by rw [z]; decide) (by rw [z]; rfl) (by decide) ?_
        refine aw_aload_n 1 dL_law_187 rfl rfl ?_
        refine aw_aload_n 0 dL_law_188 rfl rfl ?_
        refine aw_iload_n 3 dL_law_189 rfl rfl ?_
        refine aw_iconst (v := 1) dL_law_190 (by decide) ?_
        refine aw_iadd dL_law_191 ?_
        obtain ⟨r16, h1, h2, hw⟩ := hw
        refine aw_tS hX dL_law_192 h1 h2 ?_
        refine aw_aload_n 0 dL_law_193 rfl rfl ?_
        refine aw_iload_n 3 dL_law_194 rfl rfl ?_
        refine aw_iconst (v := 2) dL_law_195 (by decide) ?_
        refine aw_iadd dL_law_196 ?_
        obtain ⟨r17, h1, h2, hw⟩ := hw
        refine aw_tS hX dL_law_197 h1 h2 ?_
        obtain ⟨_, h1, hw⟩ := hw
        refine aw_virtI (As := [.int r16, .int r17]) (rest := []) (c1 := 25) (w1 := 161) dL_law_198 (acX10_both l G (d - 1) hG (by omega) hw) iX10_both rfl k_319 k_320 k_321 rfl h1 (by omega) (by omega) (by omega) rfl (Nat.le_of_ble_eq_true rfl) (fun r19 h18 hw => ?_)
        skip
        refine aw_aload_n 2 dL_law_201 rfl rfl ?_
        refine aw_aload_n 0 dL_law_202 rfl rfl ?_
        refine aw_iload_n 3 dL_law_203 rfl rfl ?_
        refine aw_iconst (v := 1) dL_law_204 (by decide) ?_
        refine aw_iadd dL_law_205 ?_
        obtain ⟨r20, h1, h2, hw⟩ := hw
        refine aw_tS hX dL_law_206 h1 h2 ?_
        refine aw_aload_n 0 dL_law_207 rfl rfl ?_
        refine aw_iload_n 3 dL_law_208 rfl rfl ?_
        refine aw_iconst (v := 2) dL_law_209 (by decide) ?_
        refine aw_iadd dL_law_210 ?_
        obtain ⟨r21, h1, h2, hw⟩ := hw
        refine aw_tS hX dL_law_211 h1 h2 ?_
        obtain ⟨_, h1, hw⟩ := hw
        refine aw_virtI (As := [.int r20, .int r21]) (rest := [.int r19]) dL_law_212 (acX11_both l G (d - 1) hG (by omega) hw) iX11_both rfl k_1090 k_1091 k_1092 rfl h1 (by omega) (by omega) (by omega) rfl (Nat.le_of_ble_eq_true rfl) (fun r23 h22 hw => ?_)
        refine aw_icmp_eq (tgt := 713) dL_law_215 (by decide) (fun z => ?_) (fun z => ?_)
        · have hw := hw.1 z
          refine aw_sub (lv' := [(0, .ref (G.2.2.2 5).1), (1, .ref v1), (2, .ref v2), (3, .int v3)]) [0, 1, 2, 3] rfl ?_
          refine aw_bud (c1 := c0) (w1 := w0) (by omega) (by omega) ?_
          exact abL_law_713 l G d hG hX hRd hRf hd hdRd hdRf kk18 _ _ _ _ hw
        · have hw := hw.2 z
          refine aw_iconst (v := 0) dL_law_218 (by decide) ?_
          exact aw_iret dL_law_219 rfl (a_nB hw.1) ⟨_, rfl, hw.2⟩
      · have hw := hw.2.2.1 z
        refine aw_tableIn (off := 187) (tgt := 220) dL_law_33 (by rw [z]; decide) (by rw [z]; decide) (by rw [z]; rfl) (by decide) ?_
        refine aw_aload_n 1 dL_law_220 rfl rfl ?_
        refine aw_aload_n 0 dL_law_221 rfl rfl ?_
        refine aw_iload_n 3 dL_law_222 rfl rfl ?_
        refine aw_iconst (v := 1) dL_law_223 (by decide) ?_
        refine aw_iadd dL_law_224 ?_
        obtain ⟨r24, h1, h2, hw⟩ := hw
        refine aw_tS hX dL_law_225 h1 h2 ?_
        refine aw_aload_n 0 dL_law_226 rfl rfl ?_
        refine aw_iload_n 3 dL_law_227 rfl rfl ?_
        refine aw_iconst (v := 2) dL_law_228 (by decide) ?_
        refine aw_iadd dL_law_229 ?_
        obtain ⟨r25, h1, h2, hw⟩ := hw
        refine aw_tS hX dL_law_230 h1 h2 ?_
        refine aw_aload_n 0 dL_law_231 rfl rfl ?_
        refine aw_iload_n 3 dL_law_232 rfl rfl ?_
        refine aw_iconst (v := 3) dL_law_233 (by decide) ?_
        refine aw_iadd dL_law_234 ?_
        obtain ⟨r26, h1, h2, hw⟩ := hw
        refine aw_tS hX dL_law_235 h1 h2 ?_
        refine aw_aload_n 0 dL_law_236 rfl rfl ?_
        refine aw_iload_n 3 dL_law_237 rfl rfl ?_
        refine aw_iconst (v := 4) dL_law_238 (by decide) ?_
        refine aw_iadd dL_law_239 ?_
        obtain ⟨r27, h1, h2, hw⟩ := hw
        refine aw_tS hX dL_law_240 h1 h2 ?_
        obtain ⟨_, h1, hw⟩ := hw
        refine aw_virtI (As := [.int r24, .int r25, .int r26, .int r27]) (rest := []) (c1 := 25) (w1 := 163) dL_law_241 (acX10_choice l G (d - 1) hG (by omega) hw) iX10_choice rfl k_354 k_355 k_356 rfl h1 (by omega) (by omega) (by omega) rfl (Nat.le_of_ble_eq_true rfl) (fun r29 h28 hw => ?_)
        skip
        refine aw_aload_n 2 dL_law_244 rfl rfl ?_
        refine aw_aload_n 0 dL_law_245 rfl rfl ?_
        refine aw_iload_n 3 dL_law_246 rfl rfl ?_
        refine aw_iconst (v := 1) dL_law_247 (by decide) ?_
        refine aw_iadd dL_law_248 ?_
        obtain ⟨r30, h1, h2, hw⟩ := hw
        refine aw_tS hX dL_law_249 h1 h2 ?_
        refine aw_aload_n 0 dL_law_250 rfl rfl ?_
        refine aw_iload_n 3 dL_law_251 rfl rfl ?_
        refine aw_iconst (v := 2) dL_law_252 (by decide) ?_
        refine aw_iadd dL_law_253 ?_
        obtain ⟨r31, h1, h2, hw⟩ := hw
        refine aw_tS hX dL_law_254 h1 h2 ?_
        refine aw_aload_n 0 dL_law_255 rfl rfl ?_
        refine aw_iload_n 3 dL_law_256 rfl rfl ?_
        refine aw_iconst (v := 3) dL_law_257 (by decide) ?_
        refine aw_iadd dL_law_258 ?_
        obtain ⟨r32, h1, h2, hw⟩ := hw
        refine aw_tS hX dL_law_259 h1 h2 ?_
        refine aw_aload_n 0 dL_law_260 rfl rfl ?_
        refine aw_iload_n 3 dL_law_261 rfl rfl ?_
        refine aw_iconst (v := 4) dL_law_262 (by decide) ?_
        refine aw_iadd dL_law_263 ?_
        obtain ⟨r33, h1, h2, hw⟩ := hw
        refine aw_tS hX dL_law_264 h1 h2 ?_
        obtain ⟨_, h1, hw⟩ := hw
        refine aw_virtI (As := [.int r30, .int r31, .int r32, .int r33]) (rest := [.int r29]) dL_law_265 (acX11_choice l G (d - 1) hG (by omega) hw) iX11_choice rfl k_1098 k_1099 k_1100 rfl h1 (by omega) (by omega) (by omega) rfl (Nat.le_of_ble_eq_true rfl) (fun r35 h34 hw => ?_)
        refine aw_icmp_eq (tgt := 713) dL_law_268 (by decide) (fun z => ?_) (fun z => ?_)
        · have hw := hw.1 z
          refine aw_sub (lv' := [(0, .ref (G.2.2.2 5).1), (1, .ref v1), (2, .ref v2), (3, .int v3)]) [0, 1, 2, 3] rfl ?_
          refine aw_bud (c1 := c0) (w1 := w0) (by omega) (by omega) ?_
          exact abL_law_713 l G d hG hX hRd hRf hd hdRd hdRf kk18 _ _ _ _ hw
        · have hw := hw.2 z
          refine aw_iconst (v := 0) dL_law_271 (by decide) ?_
          exact aw_iret dL_law_272 rfl (a_nB hw.1) ⟨_, rfl, hw.2⟩
      · have hw := hw.2.2.2.1 z
        refine aw_tableIn (off := 240) (tgt := 273) dL_law_33 (by rw [z]; decide) (by rw [z]; decide) (by rw [z]; rfl) (by decide) ?_
        refine aw_aload_n 1 dL_law_273 rfl rfl ?_
        refine aw_aload_n 0 dL_law_274 rfl rfl ?_
        refine aw_iload_n 3 dL_law_275 rfl rfl ?_
        refine aw_iconst (v := 1) dL_law_276 (by decide) ?_
        refine aw_iadd dL_law_277 ?_
        obtain ⟨r36, h1, h2, hw⟩ := hw
        refine aw_tS hX dL_law_278 h1 h2 ?_
        refine aw_aload_n 0 dL_law_279 rfl rfl ?_
        refine aw_iload_n 3 dL_law_280 rfl rfl ?_
        refine aw_iconst (v := 2) dL_law_281 (by decide) ?_
        refine aw_iadd dL_law_282 ?_
        obtain ⟨r37, h1, h2, hw⟩ := hw
        refine aw_tS hX dL_law_283 h1 h2 ?_
        refine aw_aload_n 0 dL_law_284 rfl rfl ?_
        refine aw_iload_n 3 dL_law_285 rfl rfl ?_
        refine aw_iconst (v := 3) dL_law_286 (by decide) ?_
        refine aw_iadd dL_law_287 ?_
        obtain ⟨r38, h1, h2, hw⟩ := hw
        refine aw_tS hX dL_law_288 h1 h2 ?_
        refine aw_aload_n 0 dL_law_289 rfl rfl ?_
        refine aw_iload_n 3 dL_law_290 rfl rfl ?_
        refine aw_iconst (v := 4) dL_law_291 (by decide) ?_
        refine aw_iadd dL_law_292 ?_
        obtain ⟨r39, h1, h2, hw⟩ := hw
        refine aw_tS hX dL_law_293 h1 h2 ?_
        obtain ⟨_, h1, hw⟩ := hw
        refine aw_virtI (As := [.int r36, .int r37, .int r38, .int r39]) (rest := []) (c1 := 45) (w1 := 293) dL_law_294 (acX10_guard l G (d - 1) hG (by omega) hw) iX10_guard rfl k_390 k_391 k_392 rfl h1 (by omega) (by omega) (by omega) rfl (Nat.le_of_ble_eq_true rfl) (fun r41 h40 hw => ?_)
        skip
        refine aw_aload_n 2 dL_law_297 rfl rfl ?_
        refine aw_aload_n 0 dL_law_298 rfl rfl ?_
        refine aw_iload_n 3 dL_law_299 rfl rfl ?_
        refine aw_iconst (v := 1) dL_law_300 (by decide) ?_
        refine aw_iadd dL_law_301 ?_
        obtain ⟨r42, h1, h2, hw⟩ := hw
        refine aw_tS hX dL_law_302 h1 h2 ?_
        refine aw_aload_n 0 dL_law_303 rfl rfl ?_
        refine aw_iload_n 3 dL_law_304 rfl rfl ?_
        refine aw_iconst (v := 2) dL_law_305 (by decide) ?_
        refine aw_iadd dL_law_306 ?_
        obtain ⟨r43, h1, h2, hw⟩ := hw
        refine aw_tS hX dL_law_307 h1 h2 ?_
        refine aw_aload_n 0 dL_law_308 rfl rfl ?_
        refine aw_iload_n 3 dL_law_309 rfl rfl ?_
        refine aw_iconst (v := 3) dL_law_310 (by decide) ?_
        refine aw_iadd dL_law_311 ?_
        obtain ⟨r44, h1, h2, hw⟩ := hw
        refine aw_tS hX dL_law_312 h1 h2 ?_
        refine aw_aload_n 0 dL_law_313 rfl rfl ?_
        refine aw_iload_n 3 dL_law_314 rfl rfl ?_
        refine aw_iconst (v := 4) dL_law_315 (by decide) ?_
        refine aw_iadd dL_law_316 ?_
        obtain ⟨r45, h1, h2, hw⟩ := hw
        refine aw_tS hX dL_law_317 h1 h2 ?_
        obtain ⟨_, h1, hw⟩ := hw
        refine aw_virtI (As := [.int r42, .int r43, .int r44, .int r45]) (rest := [.int r41]) dL_law_318 (acX11_guard l G (d - 1) hG (by omega) hw) iX11_guard rfl k_1102 k_1103 k_1104 rfl h1 (by omega) (by omega) (by omega) rfl (Nat.le_of_ble_eq_true rfl) (fun r47 h46 hw => ?_)
        refine aw_icmp_eq (tgt := 713) dL_law_321 (by decide) (fun z => ?_) (fun z => ?_)
        · have hw := hw.1 z
          refine aw_sub (lv' := [(0, .ref (G.2.2.2 5).1), (1, .ref v1), (2, .ref v2), (3, .int v3)]) [0, 1, 2, 3] rfl ?_
          refine aw_bud (c1 := c0) (w1 := w0) (by omega) (by omega) ?_
          exact abL_law_713 l G d hG hX hRd hRf hd hdRd hdRf kk18 _ _ _ _ hw
        · have hw := hw.2 z
          refine aw_iconst (v := 0) dL_law_324 (by decide) ?_
          exact aw_iret dL_law_325 rfl (a_nB hw.1) ⟨_, rfl, hw.2⟩
      · have hw := hw.2.2.2.2.1 z
        refine aw_tableIn (off := 293) (tgt := 326) dL_law_33 (by rw [z]; decide) (by rw [z]; decide) (by rw [z]; rfl) (by decide) ?_
        refine aw_aload_n 1 dL_law_326 rfl rfl ?_
        obtain ⟨_, h1, hw⟩ := hw
        refine aw_virtI (As := []) (rest := []) dL_law_327 (acX10_forget l G (d - 1) hG (by omega) hw) iX10_forget rfl k_443 k_444 k_445 rfl h1 (by omega) (by omega) (by omega) rfl (Nat.le_of_ble_eq_true rfl) (fun r49 h48 hw => ?_)
        refine aw_aload_n 2 dL_law_330 rfl rfl ?_
        obtain ⟨_, h1, hw⟩ := hw
        refine aw_virtI (As := []) (rest := [.int r49]) dL_law_331 (acX11_forget l G (d - 1) hG (by omega) hw) iX11_forget rfl k_1106 k_1107 k_1108 rfl h1 (by omega) (by omega) (by omega) rfl (Nat.le_of_ble_eq_true rfl) (fun r51 h50 hw => ?_)
        refine aw_icmp_eq (tgt := 713) dL_law_334 (by decide) (fun z => ?_) (fun z => ?_)
        · have hw := hw.1 z
          refine aw_sub (lv' := [(0, .ref (G.2.2.2 5).1), (1, .ref v1), (2, .ref v2), (3, .int v3)]) [0, 1, 2, 3] rfl ?_
          refine aw_bud (c1 := c0) (w1 := w0) (by omega) (by omega) ?_
          exact abL_law_713 l G d hG hX hRd hRf hd hdRd hdRf kk18 _ _ _ _ hw
        · have hw := hw.2 z
          refine aw_iconst (v := 0) dL_law_337 (by decide) ?_
          exact aw_iret dL_law_338 rfl (a_nB hw.1) ⟨_, rfl, hw.2⟩
      · have hw := hw.2.2.2.2.2.1 z
        refine aw_tableIn (off := 306) (tgt := 339) dL_law_33 (by rw [z]; decide) (by rw [z]; decide) (by rw [z]; rfl) (by decide) ?_
        refine aw_aload_n 1 dL_law_339 rfl rfl ?_
        refine aw_aload_n 0 dL_law_340 rfl rfl ?_
        refine aw_iload_n 3 dL_law_341 rfl rfl ?_
        refine aw_iconst (v := 1) dL_law_342 (by decide) ?_
        refine aw_iadd dL_law_343 ?_
        obtain ⟨r52, h1, h2, hw⟩ := hw
        refine aw_tS hX dL_law_344 h1 h2 ?_
        obtain ⟨_, h1, hw⟩ := hw
        refine aw_virtI (As := [.int r52]) (rest := []) dL_law_345 (acX10_run l G (d - 1) hG hRd (by omega) (by omega) hw) iX10_run rfl k_447 k_448 k_449 rfl h1 (by omega) (by omega) (by omega) rfl (Nat.le_of_ble_eq_true rfl) (fun r54 h53 hw => ?_)
        refine aw_aload_n 2 dL_law_348 rfl rfl ?_
        refine aw_aload_n 0 dL_law_349 rfl rfl ?_
        refine aw_iload_n 3 dL_law_350 rfl rfl ?_
        refine aw_iconst (v := 1) dL_law_351 (by decide) ?_
        refine aw_iadd dL_law_352 ?_
        obtain ⟨r55, h1, h2, hw⟩ := hw
        refine aw_tS hX dL_law_353 h1 h2 ?_
        obtain ⟨_, h1, hw⟩ := hw
        refine aw_virtI (As := [.int r55]) (rest := [.int r54]) dL_law_354 (acX11_run l G (d - 1) hG (by omega) hw) iX11_run rfl k_1110 k_1111 k_1112 rfl h1 (by omega) (by omega) (by omega) rfl (Nat.le_of_ble_eq_true rfl) (fun r57 h56 hw => ?_)
        refine aw_icmp_eq (tgt := 713) dL_law_357 (by decide) (fun z => ?_) (fun z => ?_)
        · have hw := hw.1 z
          refine aw_sub (lv' := [(0, .ref (G.2.2.2 5).1), (1, .ref v1), (2, .ref v2), (3, .int v3)]) [0, 1, 2, 3] rfl ?_
          refine aw_bud (c1 := c0) (w1 := w0) (by omega) (by omega) ?_
          exact abL_law_713 l G d hG hX hRd hRf hd hdRd hdRf kk18 _ _ _ _ hw
        · have hw := hw.2 z
          refine aw_iconst (v := 0) dL_law_360 (by decide) ?_
          exact aw_iret dL_law_361 rfl (a_nB hw.1) ⟨_, rfl, hw.2⟩
      · have hw := hw.2.2.2.2.2.2.1 z
        refine aw_tableIn (off := 329) (tgt := 362) dL_law_33 (by rw [z]; decide) (by rw [z]; decide) (by rw [z]; rfl) (by decide) ?_
        refine aw_aload_n 1 dL_law_362 rfl rfl ?_
        refine aw_aload_n 0 dL_law_363 rfl rfl ?_
        refine aw_iload_n 3 dL_law_364 rfl rfl ?_
        refine aw_iconst (v := 1) dL_law_365 (by decide) ?_
        refine aw_iadd dL_law_366 ?_
        obtain ⟨r58, h1, h2, hw⟩ := hw
        refine aw_tS hX dL_law_367 h1 h2 ?_
        obtain ⟨_, h1, hw⟩ := hw
        refine aw_virtI (As := [.int r58]) (rest := []) dL_law_368 (acX10_ran l G (d - 1) hG (by omega) hw) iX10_ran rfl k_647 k_648 k_649 rfl h1 (by omega) (by omega) (by omega) rfl (Nat.le_of_ble_eq_true rfl) (fun r60 h59 hw => ?_)
        refine aw_aload_n 2 dL_law_371 rfl rfl ?_
        refine aw_aload_n 0 dL_law_372 rfl rfl ?_
        refine aw_iload_n 3 dL_law_373 rfl rfl ?_
        refine aw_iconst (v := 1) dL_law_374 (by decide) ?_
        refine aw_iadd dL_law_375 ?_
        obtain ⟨r61, h1, h2, hw⟩ := hw
        refine aw_tS hX dL_law_376 h1 h2 ?_
        obtain ⟨_, h1, hw⟩ := hw
        refine aw_virtI (As := [.int r61]) (rest := [.int r60]) dL_law_377 (acX11_ran l G (d - 1) hG (by omega) hw) iX11_ran rfl k_1233 k_1234 k_1235 rfl h1 (by omega) (by omega) (by omega) rfl (Nat.le_of_ble_eq_true rfl) (fun r63 h62 hw => ?_)
        refine aw_icmp_eq (tgt := 713) dL_law_380 (by decide) (fun z => ?_) (fun z => ?_)
        · have hw := hw.1 z
          refine aw_sub (lv' := [(0, .ref (G.2.2.2 5).1), (1, .ref v1), (2, .ref v2), (3, .int v3)]) [0, 1, 2, 3] rfl ?_
          refine aw_bud (c1 := c0) (w1 := w0) (by omega) (by omega) ?_
          exact abL_law_713 l G d hG hX hRd hRf hd hdRd hdRf kk18 _ _ _ _ hw
        · have hw := hw.2 z
          refine aw_iconst (v := 0) dL_law_383 (by decide) ?_
          exact aw_iret dL_law_384 rfl (a_nB hw.1) ⟨_, rfl, hw.2⟩
      · have hw := hw.2.2.2.2.2.2.2.1 z
        refine aw_tableIn (off := 352) (tgt := 385) dL_law_33 (by rw [z]; decide) (by rw [z]; decide) (by rw [z]; rfl) (by decide) ?_
        refine aw_aload_n 1 dL_law_385 rfl rfl ?_
        obtain ⟨_, h1, hw⟩ := hw
        refine aw_virtI (As := []) (rest := []) dL_law_386 (acX10_clear l G (d - 1) hG (by omega) hw) iX10_clear rfl k_651 k_652 k_653 rfl h1 (by omega) (by omega) (by omega) rfl (Nat.le_of_ble_eq_true rfl) (fun r65 h64 hw => ?_)
        refine aw_aload_n 2 dL_law_389 rfl rfl ?_
        obtain ⟨_, h1, hw⟩ := hw
        refine aw_virtI (As := []) (rest := [.int r65]) dL_law_390 (acX11_clear l G (d - 1) hG (by omega) hw) iX11_clear rfl k_1237 k_1238 k_1239 rfl h1 (by omega) (by omega) (by omega) rfl (Nat.le_of_ble_eq_true rfl) (fun r67 h66 hw => ?_)
        refine aw_icmp_eq (tgt := 713) dL_law_393 (by decide) (fun z => ?_) (fun z => ?_)
        · have hw := hw.1 z
          refine aw_sub (lv' := [(0, .ref (G.2.2.2 5).1), (1, .ref v1), (2, .ref v2), (3, .int v3)]) [0, 1, 2, 3] rfl ?_
          refine aw_bud (c1 := c0) (w1 := w0) (by omega) (by omega) ?_
          exact abL_law_713 l G d hG hX hRd hRf hd hdRd hdRf kk18 _ _ _ _ hw
        · have hw := hw.2 z
          refine aw_iconst (v := 0) dL_law_396 (by decide) ?_
          exact aw_iret dL_law_397 rfl (a_nB hw.1) ⟨_, rfl, hw.2⟩
      · have hw := hw.2.2.2.2.2.2.2.2.1 z
        refine aw_tableIn (off := 365) (tgt := 398) dL_law_33 (by rw [z]; decide) (by rw [z]; decide) (by rw [z]; rfl) (by decide) ?_
        refine aw_aload_n 1 dL_law_398 rfl rfl ?_
        refine aw_aload_n 0 dL_law_399 rfl rfl ?_
        refine aw_iload_n 3 dL_law_400 rfl rfl ?_
        refine aw_iconst (v := 1) dL_law_401 (by decide) ?_
        refine aw_iadd dL_law_402 ?_
        obtain ⟨r68, h1, h2, hw⟩ := hw
        refine aw_tS hX dL_law_403 h1 h2 ?_
        obtain ⟨_, h1, hw⟩ := hw
        refine aw_virtI (As := [.int r68]) (rest := []) dL_law_404 (acX10_count l G (d - 1) hG (by omega) hw) iX10_count rfl k_669 k_670 k_671 rfl h1 (by omega) (by omega) (by omega) rfl (Nat.le_of_ble_eq_true rfl) (fun r70 h69 hw => ?_)
        refine aw_aload_n 2 dL_law_407 rfl rfl ?_
        refine aw_aload_n 0 dL_law_408 rfl rfl ?_
        refine aw_iload_n 3 dL_law_409 rfl rfl ?_
        refine aw_iconst (v := 1) dL_law_410 (by decide) ?_
        refine aw_iadd dL_law_411 ?_
        obtain ⟨r71, h1, h2, hw⟩ := hw
        refine aw_tS hX dL_law_412 h1 h2 ?_
        obtain ⟨_, h1, hw⟩ := hw
        refine aw_virtI (As := [.int r71]) (rest := [.int r70]) dL_law_413 (acX11_count l G (d - 1) hG (by omega) hw) iX11_count rfl k_1241 k_1242 k_1243 rfl h1 (by omega) (by omega) (by omega) rfl (Nat.le_of_ble_eq_true rfl) (fun r73 h72 hw => ?_)
        refine aw_icmp_eq (tgt := 713) dL_law_416 (by decide) (fun z => ?_) (fun z => ?_)
        · have hw := hw.1 z
          refine aw_sub (lv' := [(0, .ref (G.2.2.2 5).1), (1, .ref v1), (2, .ref v2), (3, .int v3)]) [0, 1, 2, 3] rfl ?_
          refine aw_bud (c1 := c0) (w1 := w0) (by omega) (by omega) ?_
          exact abL_law_713 l G d hG hX hRd hRf hd hdRd hdRf kk18 _ _ _ _ hw
        · have hw := hw.2 z
          refine aw_iconst (v := 0) dL_law_419 (by decide) ?_
          exact aw_iret dL_law_420 rfl (a_nB hw.1) ⟨_, rfl, hw.2⟩
      · have hw := hw.2.2.2.2.2.2.2.2.2.1 z
        refine aw_tableIn (off := 388) (tgt := 421) dL_law_33 (by rw [z]; decide) (by rw [z]; decide) (by rw [z]; rfl) (by decide) ?_
        refine aw_aload_n 1 dL_law_421 rfl rfl ?_
        refine aw_aload_n 0 dL_law_422 rfl rfl ?_
        refine aw_iload_n 3 dL_law_423 rfl rfl ?_
        refine aw_iconst (v := 1) dL_law_424 (by decide) ?_
        refine aw_iadd dL_law_425 ?_
        obtain ⟨r74, h1, h2, hw⟩ := hw
        refine aw_tS hX dL_law_426 h1 h2 ?_
        refine aw_aload_n 0 dL_law_427 rfl rfl ?_
        refine aw_iload_n 3 dL_law_428 rfl rfl ?_
        refine aw_iconst (v := 2) dL_law_429 (by decide) ?_
        refine aw_iadd dL_law_430 ?_
        obtain ⟨r75, h1, h2, hw⟩ := hw
        refine aw_tS hX dL_law_431 h1 h2 ?_
        obtain ⟨_, h1, hw⟩ := hw
        refine aw_virtI (As := [.int r74, .int r75]) (rest := []) dL_law_432 (acX10_slot l G (d - 1) hG (by omega) hw) iX10_slot rfl k_673 k_674 k_675 rfl h1 (by omega) (by omega) (by omega) rfl (Nat.le_of_ble_eq_true rfl) (fun r77 h76 hw => ?_)
        refine aw_aload_n 2 dL_law_435 rfl rfl ?_
        refine aw_aload_n 0 dL_law_436 rfl rfl ?_
        refine aw_iload_n 3 dL_law_437 rfl rfl ?_
        refine aw_iconst (v := 1) dL_law_438 (by decide) ?_
        refine aw_iadd dL_law_439 ?_
        obtain ⟨r78, h1, h2, hw⟩ := hw
        refine aw_tS hX dL_law_440 h1 h2 ?_
        refine aw_aload_n 0 dL_law_441 rfl rfl ?_
        refine aw_iload_n 3 dL_law_442 rfl rfl ?_
        refine aw_iconst (v := 2) dL_law_443 (by decide) ?_
        refine aw_iadd dL_law_444 ?_
        obtain ⟨r79, h1, h2, hw⟩ := hw
        refine aw_tS hX dL_law_445 h1 h2 ?_
        obtain ⟨_, h1, hw⟩ := hw
        refine aw_virtI (As := [.int r78, .int r79]) (rest := [.int r77]) dL_law_446 (acX11_slot l G (d - 1) hG (by omega) hw) iX11_slot rfl k_1245 k_1246 k_1247 rfl h1 (by omega) (by omega) (by omega) rfl (Nat.le_of_ble_eq_true rfl) (fun r81 h80 hw => ?_)
        refine aw_icmp_eq (tgt := 713) dL_law_449 (by decide) (fun z => ?_) (fun z => ?_)
        · have hw := hw.1 z
          refine aw_sub (lv' := [(0, .ref (G.2.2.2 5).1), (1, .ref v1), (2, .ref v2), (3, .int v3)]) [0, 1, 2, 3] rfl ?_
          refine aw_bud (c1 := c0) (w1 := w0) (by omega) (by omega) ?_
          exact abL_law_713 l G d hG hX hRd hRf hd hdRd hdRf kk18 _ _ _ _ hw
        · have hw := hw.2 z
          refine aw_iconst (v := 0) dL_law_452 (by decide) ?_
          exact aw_iret dL_law_453 rfl (a_nB hw.1) ⟨_, rfl, hw.2⟩
      · have hw := hw.2.2.2.2.2.2.2.2.2.2.1 z
        refine aw_tableIn (off := 421) (tgt := 454) dL_law_33 (by rw [z]; decide) (by rw [z]; decide) (by rw [z]; rfl) (by decide) ?_
        refine aw_aload_n 1 dL_law_454 rfl rfl ?_
        refine aw_aload_n 0 dL_law_455 rfl rfl ?_
        refine aw_iload_n 3 dL_law_456 rfl rfl ?_
        refine aw_iconst (v := 1) dL_law_457 (by decide) ?_
        refine aw_iadd dL_law_458 ?_
        obtain ⟨r82, h1, h2, hw⟩ := hw
        refine aw_tS hX dL_law_459 h1 h2 ?_
        refine aw_aload_n 0 dL_law_460 rfl rfl ?_
        refine aw_iload_n 3 dL_law_461 rfl rfl ?_
        refine aw_iconst (v := 2) dL_law_462 (by decide) ?_
        refine aw_iadd dL_law_463 ?_
        obtain ⟨r83, h1, h2, hw⟩ := hw
        refine aw_tS hX dL_law_464 h1 h2 ?_
        obtain ⟨_, h1, hw⟩ := hw
        refine aw_virtL (As := [.int r82, .int r83]) (rest := []) dL_law_465 (acX10_item l G (d - 1) hG (by omega) hw) iX10_item rfl k_679 k_680 k_681 rfl h1 (by omega) (by omega) (by omega) rfl (Nat.le_of_ble_eq_true rfl) (fun r85 h84 hw => ?_)
        refine aw_aload_n 2 dL_law_468 rfl rfl ?_
        refine aw_aload_n 0 dL_law_469 rfl rfl ?_
        refine aw_iload_n 3 dL_law_470 rfl rfl ?_
        refine aw_iconst (v := 1) dL_law_471 (by decide) ?_
        refine aw_iadd dL_law_472 ?_
        obtain ⟨r86, h1, h2, hw⟩ := hw
        refine aw_tS hX dL_law_473 h1 h2 ?_
        refine aw_aload_n 0 dL_law_474 rfl rfl ?_
        refine aw_iload_n 3 dL_law_475 rfl rfl ?_
        refine aw_iconst (v := 2) dL_law_476 (by decide) ?_
        refine aw_iadd dL_law_477 ?_
        obtain ⟨r87, h1, h2, hw⟩ := hw
        refine aw_tS hX dL_law_478 h1 h2 ?_
        obtain ⟨_, h1, hw⟩ := hw
        refine aw_virtL (As := [.int r86, .int r87]) (rest := [.long r85]) dL_law_479 (acX11_item l G (d - 1) hG (by omega) hw) iX11_item rfl k_1249 k_1250 k_1251 rfl h1 (by omega) (by omega) (by omega) rfl (Nat.le_of_ble_eq_true rfl) (fun r89 h88 hw => ?_)
        refine aw_lcmp dL_law_482 ?_
        refine aw_if_eq (tgt := 713) dL_law_483 (by decide) (fun z => ?_) (fun z => ?_)
        · have hw := hw.1 z
          refine aw_sub (lv' := [(0, .ref (G.2.2.2 5).1), (1, .ref v1), (2, .ref v2), (3, .int v3)]) [0, 1, 2, 3] rfl ?_
          refine aw_bud (c1 := c0) (w1 := w0) (by omega) (by omega) ?_
          exact abL_law_713 l G d hG hX hRd hRf hd hdRd hdRf kk18 _ _ _ _ hw
        · have hw := hw.2 z
          refine aw_iconst (v := 0) dL_law_486 (by decide) ?_
          exact aw_iret dL_law_487 rfl (a_nB hw.1) ⟨_, rfl, hw.2⟩
      · have hw := hw.2.2.2.2.2.2.2.2.2.2.2.1 z
        refine aw_tableIn (off := 455) (tgt := 488) dL_law_33 (by rw [z]; decide) (by rw [z]; decide) (by rw [z]; rfl) (by decide) ?_
        refine aw_aload_n 1 dL_law_488 rfl rfl ?_
        refine aw_aload_n 0 dL_law_489 rfl rfl ?_
        refine aw_iload_n 3 dL_law_490 rfl rfl ?_
        refine aw_iconst (v := 1) dL_law_491 (by decide) ?_
        refine aw_iadd dL_law_492 ?_
        obtain ⟨r90, h1, h2, hw⟩ := hw
        refine aw_tS hX dL_law_493 h1 h2 ?_
        obtain ⟨_, h1, hw⟩ := hw
        refine aw_virtL (As := [.int r90]) (rest := []) dL_law_494 (acX10_register l G (d - 1) hG (by omega) hw) iX10_register rfl k_684 k_685 k_686 rfl h1 (by omega) (by omega) (by omega) rfl (Nat.le_of_ble_eq_true rfl) (fun r92 h91 hw => ?_)
        refine aw_aload_n 2 dL_law_497 rfl rfl ?_
        refine aw_aload_n 0 dL_law_498 rfl rfl ?_
        refine aw_iload_n 3 dL_law_499 rfl rfl ?_
        refine aw_iconst (v := 1) dL_law_500 (by decide) ?_
        refine aw_iadd dL_law_501 ?_
        obtain ⟨r93, h1, h2, hw⟩ := hw
        refine aw_tS hX dL_law_502 h1 h2 ?_
        obtain ⟨_, h1, hw⟩ := hw
        refine aw_virtL (As := [.int r93]) (rest := [.long r92]) dL_law_503 (acX11_register l G (d - 1) hG (by omega) hw) iX11_register rfl k_1253 k_1254 k_1255 rfl h1 (by omega) (by omega) (by omega) rfl (Nat.le_of_ble_eq_true rfl) (fun r95 h94 hw => ?_)
        refine aw_lcmp dL_law_506 ?_
        refine aw_if_eq (tgt := 713) dL_law_507 (by decide) (fun z => ?_) (fun z => ?_)
        · have hw := hw.1 z
          refine aw_sub (lv' := [(0, .ref (G.2.2.2 5).1), (1, .ref v1), (2, .ref v2), (3, .int v3)]) [0, 1, 2, 3] rfl ?_
          refine aw_bud (c1 := c0) (w1 := w0) (by omega) (by omega) ?_
          exact abL_law_713 l G d hG hX hRd hRf hd hdRd hdRf kk18 _ _ _ _ hw
        · have hw := hw.2 z
          refine aw_iconst (v := 0) dL_law_510 (by decide) ?_
          exact aw_iret dL_law_511 rfl (a_nB hw.1) ⟨_, rfl, hw.2⟩
      · have hw := hw.2.2.2.2.2.2.2.2.2.2.2.2.1 z
        refine aw_tableIn (off := 479) (tgt := 512) dL_law_33 (by rw [z]; decide) (by rw [z]; decide) (by rw [z]; rfl) (by decide) ?_
        refine aw_aload_n 1 dL_law_512 rfl rfl ?_
        refine aw_aload_n 0 dL_law_513 rfl rfl ?_
        refine aw_iload_n 3 dL_law_514 rfl rfl ?_
        refine aw_iconst (v := 1) dL_law_515 (by decide) ?_
        refine aw_iadd dL_law_516 ?_
        obtain ⟨r96, h1, h2, hw⟩ := hw
        refine aw_tS hX dL_law_517 h1 h2 ?_
        refine aw_aload_n 0 dL_law_518 rfl rfl ?_
        refine aw_iload_n 3 dL_law_519 rfl rfl ?_
        refine aw_iconst (v := 2) dL_law_520 (by decide) ?_
        refine aw_iadd dL_law_521 ?_
        obtain ⟨r97, h1, h2, hw⟩ := hw
        refine aw_tS hX dL_law_522 h1 h2 ?_
        obtain ⟨_, h1, hw⟩ := hw
        refine aw_virtI (As := [.int r96, .int r97]) (rest := []) dL_law_523 (acX10_alike l G (d - 1) hG (by omega) hw) iX10_alike rfl k_688 k_689 k_690 rfl h1 (by omega) (by omega) (by omega) rfl (Nat.le_of_ble_eq_true rfl) (fun r99 h98 hw => ?_)
        refine aw_aload_n 2 dL_law_526 rfl rfl ?_
        refine aw_aload_n 0 dL_law_527 rfl rfl ?_
        refine aw_iload_n 3 dL_law_528 rfl rfl ?_
        refine aw_iconst (v := 1) dL_law_529 (by decide) ?_
        refine aw_iadd dL_law_530 ?_
        obtain ⟨r100, h1, h2, hw⟩ := hw
        refine aw_tS hX dL_law_531 h1 h2 ?_
        refine aw_aload_n 0 dL_law_532 rfl rfl ?_
        refine aw_iload_n 3 dL_law_533 rfl rfl ?_
        refine aw_iconst (v := 2) dL_law_534 (by decide) ?_
        refine aw_iadd dL_law_535 ?_
        obtain ⟨r101, h1, h2, hw⟩ := hw
        refine aw_tS hX dL_law_536 h1 h2 ?_
        obtain ⟨_, h1, hw⟩ := hw
        refine aw_virtI (As := [.int r100, .int r101]) (rest := [.int r99]) dL_law_537 (acX11_alike l G (d - 1) hG (by omega) hw) iX11_alike rfl k_1257 k_1258 k_1259 rfl h1 (by omega) (by omega) (by omega) rfl (Nat.le_of_ble_eq_true rfl) (fun r103 h102 hw => ?_)
        refine aw_icmp_eq (tgt := 713) dL_law_540 (by decide) (fun z => ?_) (fun z => ?_)
        · have hw := hw.1 z
          refine aw_sub (lv' := [(0, .ref (G.2.2.2 5).1), (1, .ref v1), (2, .ref v2), (3, .int v3)]) [0, 1, 2, 3] rfl ?_
          refine aw_bud (c1 := c0) (w1 := w0) (by omega) (by omega) ?_
          exact abL_law_713 l G d hG hX hRd hRf hd hdRd hdRf kk18 _ _ _ _ hw
        · have hw := hw.2 z
          refine aw_iconst (v := 0) dL_law_543 (by decide) ?_
          exact aw_iret dL_law_544 rfl (a_nB hw.1) ⟨_, rfl, hw.2⟩
      · have hw := hw.2.2.2.2.2.2.2.2.2.2.2.2.2.1 z
        refine aw_tableIn (off := 512) (tgt := 545) dL_law_33 (by rw [z]; decide) (by rw [z]; decide) (by rw [z]; rfl) (by decide) ?_
        refine aw_aload_n 1 dL_law_545 rfl rfl ?_
        refine aw_aload_n 0 dL_law_546 rfl rfl ?_
        refine aw_iload_n 3 dL_law_547 rfl rfl ?_
        refine aw_iconst (v := 1) dL_law_548 (by decide) ?_
        refine aw_iadd dL_law_549 ?_
        obtain ⟨r104, h1, h2, hw⟩ := hw
        refine aw_tS hX dL_law_550 h1 h2 ?_
        refine aw_aload_n 0 dL_law_551 rfl rfl ?_
        refine aw_iload_n 3 dL_law_552 rfl rfl ?_
        refine aw_iconst (v := 2) dL_law_553 (by decide) ?_
        refine aw_iadd dL_law_554 ?_
        obtain ⟨r105, h1, h2, hw⟩ := hw
        refine aw_tS hX dL_law_555 h1 h2 ?_
        obtain ⟨_, h1, hw⟩ := hw
        refine aw_virtI (As := [.int r104, .int r105]) (rest := []) dL_law_556 (acX10_given l G (d - 1) hG (by omega) hw) iX10_given rfl k_706 k_707 k_708 rfl h1 (by omega) (by omega) (by omega) rfl (Nat.le_of_ble_eq_true rfl) (fun r107 h106 hw => ?_)
        refine aw_aload_n 2 dL_law_559 rfl rfl ?_
        refine aw_aload_n 0 dL_law_560 rfl rfl ?_
        refine aw_iload_n 3 dL_law_561 rfl rfl ?_
        refine aw_iconst (v := 1) dL_law_562 (by decide) ?_
        refine aw_iadd dL_law_563 ?_
        obtain ⟨r108, h1, h2, hw⟩ := hw
        refine aw_tS hX dL_law_564 h1 h2 ?_
        refine aw_aload_n 0 dL_law_565 rfl rfl ?_
        refine aw_iload_n 3 dL_law_566 rfl rfl ?_
        refine aw_iconst (v := 2) dL_law_567 (by decide) ?_
        refine aw_iadd dL_law_568 ?_
        obtain ⟨r109, h1, h2, hw⟩ := hw
        refine aw_tS hX dL_law_569 h1 h2 ?_
        obtain ⟨_, h1, hw⟩ := hw
        refine aw_virtI (As := [.int r108, .int r109]) (rest := [.int r107]) dL_law_570 (acX11_given l G (d - 1) hG (by omega) hw) iX11_given rfl k_1269 k_1270 k_1271 rfl h1 (by omega) (by omega) (by omega) rfl (Nat.le_of_ble_eq_true rfl) (fun r111 h110 hw => ?_)
        refine aw_icmp_eq (tgt := 713) dL_law_573 (by decide) (fun z => ?_) (fun z => ?_)
        · have hw := hw.1 z
          refine aw_sub (lv' := [(0, .ref (G.2.2.2 5).1), (1, .ref v1), (2, .ref v2), (3, .int v3)]) [0, 1, 2, 3] rfl ?_
          refine aw_bud (c1 := c0) (w1 := w0) (by omega) (by omega) ?_
          exact abL_law_713 l G d hG hX hRd hRf hd hdRd hdRf kk18 _ _ _ _ hw
        · have hw := hw.2 z
          refine aw_iconst (v := 0) dL_law_576 (by decide) ?_
          exact aw_iret dL_law_577 rfl (a_nB hw.1) ⟨_, rfl, hw.2⟩
      · have hw := hw.2.2.2.2.2.2.2.2.2.2.2.2.2.2.1 z
        refine aw_tableIn (off := 545) (tgt := 578) dL_law_33 (by rw [z]; decide) (by rw [z]; decide) (by rw [z]; rfl) (by decide) ?_
        refine aw_aload_n 1 dL_law_578 rfl rfl ?_
        refine aw_aload_n 0 dL_law_579 rfl rfl ?_
        refine aw_iload_n 3 dL_law_580 rfl rfl ?_
        refine aw_iconst (v := 1) dL_law_581 (by decide) ?_
        refine aw_iadd dL_law_582 ?_
        obtain ⟨r112, h1, h2, hw⟩ := hw
        refine aw_tS hX dL_law_583 h1 h2 ?_
        obtain ⟨_, h1, hw⟩ := hw
        refine aw_virtI (As := [.int r112]) (rest := []) dL_law_584 (acX10_report l G (d - 1) hG hRf (by omega) (by omega) hw) iX10_report rfl k_714 k_715 k_716 rfl h1 (by omega) (by omega) (by omega) rfl (Nat.le_of_ble_eq_true rfl) (fun r114 h113 hw => ?_)
        refine aw_aload_n 2 dL_law_587 rfl rfl ?_
        refine aw_aload_n 0 dL_law_588 rfl rfl ?_
        refine aw_iload_n 3 dL_law_589 rfl rfl ?_
        refine aw_iconst (v := 1) dL_law_590 (by decide) ?_
        refine aw_iadd dL_law_591 ?_
        obtain ⟨r115, h1, h2, hw⟩ := hw
        refine aw_tS hX dL_law_592 h1 h2 ?_
        obtain ⟨_, h1, hw⟩ := hw
        refine aw_virtI (As := [.int r115]) (rest := [.int r114]) dL_law_593 (acX11_report l G (d - 1) hG (by omega) hw) iX11_report rfl k_1277 k_1278 k_1279 rfl h1 (by omega) (by omega) (by omega) rfl (Nat.le_of_ble_eq_true rfl) (fun r117 h116 hw => ?_)
        refine aw_icmp_eq (tgt := 713) dL_law_596 (by decide) (fun z => ?_) (fun z => ?_)
        · have hw := hw.1 z
          refine aw_sub (lv' := [(0, .ref (G.2.2.2 5).1), (1, .ref v1), (2, .ref v2), (3, .int v3)]) [0, 1, 2, 3] rfl ?_
          refine aw_bud (c1 := c0) (w1 := w0) (by omega) (by omega) ?_
          exact abL_law_713 l G d hG hX hRd hRf hd hdRd hdRf kk18 _ _ _ _ hw
        · have hw := hw.2 z
          refine aw_iconst (v := 0) dL_law_599 (by decide) ?_
          exact aw_iret dL_law_600 rfl (a_nB hw.1) ⟨_, rfl, hw.2⟩
      · have hw := hw.2.2.2.2.2.2.2.2.2.2.2.2.2.2.2.1 z
        refine aw_tableIn (off := 568) (tgt := 601) dL_law_33 (by rw [z]; decide) (by rw [z]; decide) (by rw [z]; rfl) (by decide) ?_
        refine aw_aload_n 1 dL_law_601 rfl rfl ?_
        refine aw_aload_n 0 dL_law_602 rfl rfl ?_
        refine aw_iload_n 3 dL_law_603 rfl rfl ?_
        refine aw_iconst (v := 1) dL_law_604 (by decide) ?_
        refine aw_iadd dL_law_605 ?_
        obtain ⟨r118, h1, h2, hw⟩ := hw
        refine aw_tS hX dL_law_606 h1 h2 ?_
        obtain ⟨_, h1, hw⟩ := hw
        refine aw_virtI (As := [.int r118]) (rest := []) dL_law_607 (acX10_reached l G (d - 1) hG (by omega) hw) iX10_reached rfl k_909 k_910 k_911 rfl h1 (by omega) (by omega) (by omega) rfl (Nat.le_of_ble_eq_true rfl) (fun r120 h119 hw => ?_)
        refine aw_aload_n 2 dL_law_610 rfl rfl ?_
        refine aw_aload_n 0 dL_law_611 rfl rfl ?_
        refine aw_iload_n 3 dL_law_612 rfl rfl ?_
        refine aw_iconst (v := 1) dL_law_613 (by decide) ?_
        refine aw_iadd dL_law_614 ?_
        obtain ⟨r121, h1, h2, hw⟩ := hw
        refine aw_tS hX dL_law_615 h1 h2 ?_
        obtain ⟨_, h1, hw⟩ := hw
        refine aw_virtI (As := [.int r121]) (rest := [.int r120]) dL_law_616 (acX11_reached l G (d - 1) hG (by omega) hw) iX11_reached rfl k_1369 k_1370 k_1371 rfl h1 (by omega) (by omega) (by omega) rfl (Nat.le_of_ble_eq_true rfl) (fun r123 h122 hw => ?_)
        refine aw_icmp_eq (tgt := 713) dL_law_619 (by decide) (fun z => ?_) (fun z => ?_)
        · have hw := hw.1 z
          refine aw_sub (lv' := [(0, .ref (G.2.2.2 5).1), (1, .ref v1), (2, .ref v2), (3, .int v3)]) [0, 1, 2, 3] rfl ?_
          refine aw_bud (c1 := c0) (w1 := w0) (by omega) (by omega) ?_
          exact abL_law_713 l G d hG hX hRd hRf hd hdRd hdRf kk18 _ _ _ _ hw
        · have hw := hw.2 z
          refine aw_iconst (v := 0) dL_law_622 (by decide) ?_
          exact aw_iret dL_law_623 rfl (a_nB hw.1) ⟨_, rfl, hw.2⟩
      · have hw := hw.2.2.2.2.2.2.2.2.2.2.2.2.2.2.2.2.1 z
        refine aw_tableIn (off := 591) (tgt := 624) dL_law_33 (by rw [z]; decide) (by rw [z]; decide) (by rw [z]; rfl) (by decide) ?_
        refine aw_aload_n 1 dL_law_624 rfl rfl ?_
        refine aw_aload_n 0 dL_law_625 rfl rfl ?_
        refine aw_iload_n 3 dL_law_626 rfl rfl ?_
        refine aw_iconst (v := 1) dL_law_627 (by decide) ?_
        refine aw_iadd dL_law_628 ?_
        obtain ⟨r124, h1, h2, hw⟩ := hw
        refine aw_tS hX dL_law_629 h1 h2 ?_
        obtain ⟨_, h1, hw⟩ := hw
        refine aw_virtI (As := [.int r124]) (rest := []) dL_law_630 (acX10_may l G (d - 1) hG (by omega) hw) iX10_may rfl k_922 k_923 k_924 rfl h1 (by omega) (by omega) (by omega) rfl (Nat.le_of_ble_eq_true rfl) (fun r126 h125 hw => ?_)
        refine aw_aload_n 2 dL_law_633 rfl rfl ?_
        refine aw_aload_n 0 dL_law_634 rfl rfl ?_
        refine aw_iload_n 3 dL_law_635 rfl rfl ?_
        refine aw_iconst (v := 1) dL_law_636 (by decide) ?_
        refine aw_iadd dL_law_637 ?_
        obtain ⟨r127, h1, h2, hw⟩ := hw
        refine aw_tS hX dL_law_638 h1 h2 ?_
        obtain ⟨_, h1, hw⟩ := hw
        refine aw_virtI (As := [.int r127]) (rest := [.int r126]) dL_law_639 (acX11_may l G (d - 1) hG (by omega) hw) iX11_may rfl k_1377 k_1378 k_1379 rfl h1 (by omega) (by omega) (by omega) rfl (Nat.le_of_ble_eq_true rfl) (fun r129 h128 hw => ?_)
        refine aw_icmp_eq (tgt := 713) dL_law_642 (by decide) (fun z => ?_) (fun z => ?_)
        · have hw := hw.1 z
          refine aw_sub (lv' := [(0, .ref (G.2.2.2 5).1), (1, .ref v1), (2, .ref v2), (3, .int v3)]) [0, 1, 2, 3] rfl ?_
          refine aw_bud (c1 := c0) (w1 := w0) (by omega) (by omega) ?_
          exact abL_law_713 l G d hG hX hRd hRf hd hdRd hdRf kk18 _ _ _ _ hw
        · have hw := hw.2 z
          refine aw_iconst (v := 0) dL_law_645 (by decide) ?_
          exact aw_iret dL_law_646 rfl (a_nB hw.1) ⟨_, rfl, hw.2⟩
      · have hw := hw.2.2.2.2.2.2.2.2.2.2.2.2.2.2.2.2.2.1 z
        refine aw_tableIn (off := 614) (tgt := 647) dL_law_33 (by rw [z]; decide) (by rw [z]; decide) (by rw [z]; rfl) (by decide) ?_
        refine aw_aload_n 1 dL_law_647 rfl rfl ?_
        refine aw_aload_n 0 dL_law_648 rfl rfl ?_
        refine aw_iload_n 3 dL_law_649 rfl rfl ?_
        refine aw_iconst (v := 1) dL_law_650 (by decide) ?_
        refine aw_iadd dL_law_651 ?_
        obtain ⟨r130, h1, h2, hw⟩ := hw
        refine aw_tS hX dL_law_652 h1 h2 ?_
        refine aw_aload_n 0 dL_law_653 rfl rfl ?_
        refine aw_iload_n 3 dL_law_654 rfl rfl ?_
        refine aw_iconst (v := 2) dL_law_655 (by decide) ?_
        refine aw_iadd dL_law_656 ?_
        obtain ⟨r131, h1, h2, hw⟩ := hw
        refine aw_tS hX dL_law_657 h1 h2 ?_
        obtain ⟨_, h1, hw⟩ := hw
        refine aw_virtI (As := [.int r130, .int r131]) (rest := []) dL_law_658 (acX10_ahead l G (d - 1) hG (by omega) hw) iX10_ahead rfl k_926 k_927 k_928 rfl h1 (by omega) (by omega) (by omega) rfl (Nat.le_of_ble_eq_true rfl) (fun r133 h132 hw => ?_)
        refine aw_aload_n 2 dL_law_661 rfl rfl ?_
        refine aw_aload_n 0 dL_law_662 rfl rfl ?_
        refine aw_iload_n 3 dL_law_663 rfl rfl ?_
        refine aw_iconst (v := 1) dL_law_664 (by decide) ?_
        refine aw_iadd dL_law_665 ?_
        obtain ⟨r134, h1, h2, hw⟩ := hw
        refine aw_tS hX dL_law_666 h1 h2 ?_
        refine aw_aload_n 0 dL_law_667 rfl rfl ?_
        refine aw_iload_n 3 dL_law_668 rfl rfl ?_
        refine aw_iconst (v := 2) dL_law_669 (by decide) ?_
        refine aw_iadd dL_law_670 ?_
        obtain ⟨r135, h1, h2, hw⟩ := hw
        refine aw_tS hX dL_law_671 h1 h2 ?_
        obtain ⟨_, h1, hw⟩ := hw
        refine aw_virtI (As := [.int r134, .int r135]) (rest := [.int r133]) dL_law_672 (acX11_ahead l G (d - 1) hG (by omega) hw) iX11_ahead rfl k_1381 k_1382 k_1383 rfl h1 (by omega) (by omega) (by omega) rfl (Nat.le_of_ble_eq_true rfl) (fun r137 h136 hw => ?_)
        refine aw_icmp_eq (tgt := 713) dL_law_675 (by decide) (fun z => ?_) (fun z => ?_)
        · have hw := hw.1 z
          refine aw_sub (lv' := [(0, .ref (G.2.2.2 5).1), (1, .ref v1), (2, .ref v2), (3, .int v3)]) [0, 1, 2, 3] rfl ?_
          refine aw_bud (c1 := c0) (w1 := w0) (by omega) (by omega) ?_
          exact abL_law_713 l G d hG hX hRd hRf hd hdRd hdRf kk18 _ _ _ _ hw
        · have hw := hw.2 z
          refine aw_iconst (v := 0) dL_law_678 (by decide) ?_
          exact aw_iret dL_law_679 rfl (a_nB hw.1) ⟨_, rfl, hw.2⟩
      · have hw := hw.2.2.2.2.2.2.2.2.2.2.2.2.2.2.2.2.2.2 z
        refine aw_tableIn (off := 647) (tgt := 680) dL_law_33 (by rw [z]; decide) (by rw [z]; decide) (by rw [z]; rfl) (by decide) ?_
        refine aw_aload_n 1 dL_law_680 rfl rfl ?_
        refine aw_aload_n 0 dL_law_681 rfl rfl ?_
        refine aw_iload_n 3 dL_law_682 rfl rfl ?_
        refine aw_iconst (v := 1) dL_law_683 (by decide) ?_
        refine aw_iadd dL_law_684 ?_
        obtain ⟨r138, h1, h2, hw⟩ := hw
        refine aw_tS hX dL_law_685 h1 h2 ?_
        refine aw_aload_n 0 dL_law_686 rfl rfl ?_
        refine aw_iload_n 3 dL_law_687 rfl rfl ?_
        refine aw_iconst (v := 2) dL_law_688 (by decide) ?_
        refine aw_iadd dL_law_689 ?_
        obtain ⟨r139, h1, h2, hw⟩ := hw
        refine aw_tS hX dL_law_690 h1 h2 ?_
        obtain ⟨_, h1, hw⟩ := hw
        refine aw_virtI (As := [.int r138, .int r139]) (rest := []) dL_law_691 (acX10_guarded l G (d - 1) hG (by omega) hw) iX10_guarded rfl k_930 k_931 k_932 rfl h1 (by omega) (by omega) (by omega) rfl (Nat.le_of_ble_eq_true rfl) (fun r141 h140 hw => ?_)
        refine aw_aload_n 2 dL_law_694 rfl rfl ?_
        refine aw_aload_n 0 dL_law_695 rfl rfl ?_
        refine aw_iload_n 3 dL_law_696 rfl rfl ?_
        refine aw_iconst (v := 1) dL_law_697 (by decide) ?_
        refine aw_iadd dL_law_698 ?_
        obtain ⟨r142, h1, h2, hw⟩ := hw
        refine aw_tS hX dL_law_699 h1 h2 ?_
        refine aw_aload_n 0 dL_law_700 rfl rfl ?_
        refine aw_iload_n 3 dL_law_701 rfl rfl ?_
        refine aw_iconst (v := 2) dL_law_702 (by decide) ?_
        refine aw_iadd dL_law_703 ?_
        obtain ⟨r143, h1, h2, hw⟩ := hw
        refine aw_tS hX dL_law_704 h1 h2 ?_
        obtain ⟨_, h1, hw⟩ := hw
        refine aw_virtI (As := [.int r142, .int r143]) (rest := [.int r141]) dL_law_705 (acX11_guarded l G (d - 1) hG (by omega) hw) iX11_guarded rfl k_1385 k_1386 k_1387 rfl h1 (by omega) (by omega) (by omega) rfl (Nat.le_of_ble_eq_true rfl) (fun r145 h144 hw => ?_)
        refine aw_icmp_eq (tgt := 713) dL_law_708 (by decide) (fun z => ?_) (fun z => ?_)
        · have hw := hw.1 z
          refine aw_sub (lv' := [(0, .ref (G.2.2.2 5).1), (1, .ref v1), (2, .ref v2), (3, .int v3)]) [0, 1, 2, 3] rfl ?_
          refine aw_bud (c1 := c0) (w1 := w0) (by omega) (by omega) ?_
          exact abL_law_713 l G d hG hX hRd hRf hd hdRd hdRf kk18 _ _ _ _ hw
        · have hw := hw.2 z
          refine aw_iconst (v := 0) dL_law_711 (by decide) ?_
          exact aw_iret dL_law_712 rfl (a_nB hw.1) ⟨_, rfl, hw.2⟩
def wL_law (K18 : Nat → Nat → Int32 → aH → Prop) (h : aH) : Prop :=
  ∀ (q147 : Nat) (h146 : aH), q147 = h.1 → h146 = a_nw h (.inr (8, [.null, .null, .null, .int 0])) → wX10_init h146 q147 (fun h148 => ∀ (q150 : Nat) (h149 : aH), q150 = h148.1 → h149 = a_nw h148 (.inr (9, [.int 0, .int 0, .null, .null, .null, .null, .null, .null, .null, .int 0, .null, .null, .null, .null, .null, .null, .null, .int 0, .int 0, .int 0, .int 0, .int 0, .int 0, .null, .null, .null, .null, .int 0, .int 0, .null, .null, .null, .null, .null, .null, .null, .null, .null, .null, .null])) → wX11_init h149 q150 (fun h151 => K18 q147 q150 0 h151))
set_option maxRecDepth 100000 in
set_option maxHeartbeats 4000000 in
theorem abL_law_0 (l : Launch) (G : aG) (d : Nat) (hG : a_GT G) {L : Nat} {xs : Nat → Int32} (hX : (G.2.2.2 5).2 = (L, xs)) {Rd : Nat → aH → Nat → Nat → (Int32 → aH → Prop) → Prop} {Rf : Nat → aH → Nat → Nat → (aH → Prop) → Prop} {dRd : Nat} (hRd : ∀ (ci : Nat) (h : aH) (a b : Nat) (Q : Int32 → aH → Prop), ci < 4 → Rd ci h a b Q → AC l G dRd 0 0 (mdone ci) [.ref a, .ref b] h (qI Q)) {dRf : Nat} (hRf : ∀ (ci : Nat) (h : aH) (a b : Nat) (Q : aH → Prop), ci < 4 → Rf ci h a b Q → AC l G dRf 0 0 (mfindWays ci) [.ref a, .ref b] h (qV Q)) (hd : 11 ≤ d) (hdRd : dRd + 2 ≤ d) (hdRf : dRf + 3 ≤ d) {Q : Int32 → aH → Prop} {c0 w0 : Nat} {K18 : Nat → Nat → Int32 → aH → Prop} (kk18 : ∀ (v1 : Nat) (v2 : Nat) (v3 : Int32) (h : aH), K18 v1 v2 v3 h → AW l G d c0 w0 mL_law (qI Q) 18 [(0, .ref (G.2.2.2 5).1), (1, .ref v1), (2, .ref v2), (3, .int v3)] [] h) (h : aH) (hw : wL_law K18 h) : AW l G d (c0 + 42) (w0 + 31417) mL_law (qI Q) 0 [(0, .ref (G.2.2.2 5).1)] [] h := by
  unfold wL_law at hw
  refine aw_new (ci := 8) (fs := [.null, .null, .null, .int 0]) dL_law_0 clX10 k_109 k_110 k_95 dvX10 (by omega) (by omega) ?_
  have hw := hw _ _ rfl rfl
  generalize a_nw _ _ = h146 at hw ⊢
  generalize h.1 = q147 at hw ⊢
  skip
  refine aw_dup dL_law_3 rfl ?_
  refine aw_initV (As := []) (rest := [.ref q147]) (c1 := 11) (w1 := 3731) dL_law_4 (acX10_init l G (d - 1) hG (by omega) hw) iX10_init rfl rfl rfl k_111 k_112 (by omega) (by omega) (by omega) rfl (Nat.le_of_ble_eq_true rfl) (fun h148 hw => ?_)
  skip
  refine aw_astore_n (lv' := [(1, .ref q147), (0, .ref (G.2.2.2 5).1)]) dL_law_7 rfl (by decide) rfl ?_
  refine aw_new (ci := 9) (fs := [.int 0, .int 0, .null, .null, .null, .null, .null, .null, .null, .int 0, .null, .null, .null, .null, .null, .null, .null, .int 0, .int 0, .int 0, .int 0, .int 0, .int 0, .null, .null, .null, .null, .int 0, .int 0, .null, .null, .null, .null, .null, .null, .null, .null, .null, .null, .null]) dL_law_8 clX11 k_942 k_943 k_99 dvX11 (by omega) (by omega) ?_
  have hw := hw _ _ rfl rfl
  generalize a_nw _ _ = h149 at hw ⊢
  generalize h148.1 = q150 at hw ⊢
  skip
  refine aw_dup dL_law_11 rfl ?_
  refine aw_initV (As := []) (rest := [.ref q150]) (c1 := 29) (w1 := 27642) dL_law_12 (acX11_init l G (d - 1) hG (by omega) hw) iX11_init rfl rfl rfl k_944 k_945 (by omega) (by omega) (by omega) rfl (Nat.le_of_ble_eq_true rfl) (fun h151 hw => ?_)
  skip
  refine aw_astore_n (lv' := [(2, .ref q150), (1, .ref q147), (0, .ref (G.2.2.2 5).1)]) dL_law_15 rfl (by decide) rfl ?_
  refine aw_iconst (v := 0) dL_law_16 (by decide) ?_
  refine aw_istore_n (lv' := [(3, .int 0), (2, .ref q150), (1, .ref q147), (0, .ref (G.2.2.2 5).1)]) dL_law_17 rfl (by decide) rfl ?_
  refine aw_sub (lv' := [(0, .ref (G.2.2.2 5).1), (1, .ref q147), (2, .ref q150), (3, .int 0)]) [3, 2, 1, 0] rfl ?_
  refine aw_bud (c1 := c0) (w1 := w0) (by omega) (by omega) ?_
  exact kk18 _ _ _ _ hw
