-- X3_findWays
def wbX3_findWays_120 (Rf : Nat → aH → Nat → Nat → (aH → Prop) → Prop) (h : aH) (Q : aH → Prop) : Prop :=
  Q h
def wbX3_findWays_91 (Rf : Nat → aH → Nat → Nat → (aH → Prop) → Prop) (v0 : Nat) (h : aH) (Q : aH → Prop) : Prop :=
  rQ h v0 3 8 (fun r1 => (∀ x0 : Nat, r1 = some x0 → rQ h v0 3 8 (fun r4 => ∃ b6 : Nat, r4 = some b6 ∧ isO h v0 3 (wX3_goOnThroughLast Rf h v0 b6 (fun h7 => wbX3_findWays_120 Rf h7 Q)))) ∧ (r1 = none → rR h v0 3 3 (fun r8 => rR h v0 3 10 (fun r10 => isO h r8 7 (wX9_join h r8 r10 (fun h12 => wbX3_findWays_120 Rf h12 Q))))))
def wbX3_findWays_76 (Rf : Nat → aH → Nat → Nat → (aH → Prop) → Prop) (v0 : Nat) (h : aH) (Q : aH → Prop) : Prop :=
  rR h v0 3 10 (fun r13 => isO h r13 7 (wX9_by h r13 0 (fun r16 h15 => ∃ r17, r16 = some r17 ∧ rR h15 v0 3 9 (fun r18 => isO h15 r17 5 (wX7_join h15 r17 r18 (fun h20 => wbX3_findWays_91 Rf v0 h20 Q))))))
def wX3_findWays (Rf : Nat → aH → Nat → Nat → (aH → Prop) → Prop) (h : aH) (v0 : Nat) (v1 : Nat) (Q : aH → Prop) : Prop :=
  rR h v0 3 5 (fun r21 => isN h r21 (fun _ => wX6_goThrough Rf h r21 v1 (fun h23 => rI h23 v0 3 11 (fun r24 => rR h23 v0 3 5 (fun r26 => rRN h23 r26 3 (fun r28 => isO h23 r28 7 (wX9_bits h23 r28 (fun r31 h30 => wF h30 v0 3 11 (.int (r24 ||| r31)) (fun h32 => isO h32 v0 3 (wX3_sortBodysWays h32 v0 (fun h34 => rR h34 v0 3 9 (fun r35 => isO h34 r35 5 (wX7_isThere h34 r35 (fun r38 h37 => (r38 = 0 → wbX3_findWays_76 Rf v0 h37 Q) ∧ (¬ r38 = 0 → rQ h37 v0 3 7 (fun r39 => (r39 = none → wbX3_findWays_76 Rf v0 h37 Q) ∧ (∀ x0 : Nat, r39 = some x0 → rQ h37 v0 3 7 (fun r42 => rR h37 v0 3 9 (fun r44 => ∃ b46 : Nat, r42 = some b46 ∧ isN h37 b46 (fun _ => wX6_goThrough Rf h37 b46 r44 (fun h47 => rR h47 v0 3 10 (fun r48 => rQ h47 v0 3 7 (fun r50 => ∃ b52 : Nat, r50 = some b52 ∧ rRN h47 b52 3 (fun r53 => isO h47 r48 7 (wX9_join h47 r48 r53 (fun h55 => wbX3_findWays_91 Rf v0 h55 Q))))))))))))))))))))))))))
set_option maxRecDepth 100000 in
theorem abX3_findWays_120 (l : Launch) (G : aG) (d : Nat) (hG : a_GT G) {Rf : Nat → aH → Nat → Nat → (aH → Prop) → Prop} {dRf : Nat} (hRf : ∀ (ci : Nat) (h : aH) (a b : Nat) (Q : aH → Prop), ci < 4 → Rf ci h a b Q → AC l G dRf 0 0 (mfindWays ci) [.ref a, .ref b] h (qV Q)) (hd : 6 ≤ d) (hdRf : dRf + 3 ≤ d) {Q : aH → Prop} (h : aH) (hw : wbX3_findWays_120 Rf  h Q) : AW l G d 0 0 mX3_findWays (qV Q) 120 [] [] h := by
  unfold wbX3_findWays_120 at hw
  exact aw_vret dX3_findWays_120 rfl ⟨rfl, hw⟩
set_option maxRecDepth 100000 in
theorem abX3_findWays_91 (l : Launch) (G : aG) (d : Nat) (hG : a_GT G) {Rf : Nat → aH → Nat → Nat → (aH → Prop) → Prop} {dRf : Nat} (hRf : ∀ (ci : Nat) (h : aH) (a b : Nat) (Q : aH → Prop), ci < 4 → Rf ci h a b Q → AC l G dRf 0 0 (mfindWays ci) [.ref a, .ref b] h (qV Q)) (hd : 6 ≤ d) (hdRf : dRf + 3 ≤ d) {Q : aH → Prop} (v0 : Nat) (h : aH) (hw : wbX3_findWays_91 Rf v0 h Q) : AW l G d 0 0 mX3_findWays (qV Q) 91 [(0, .ref v0)] [] h := by
  unfold wbX3_findWays_91 at hw
  refine aw_aload_n 0 dX3_findWays_91 rfl rfl ?_
  obtain ⟨fs2, r1, h1, h2, hw⟩ := hw
  refine aw_getf (k := 8) dX3_findWays_92 clX3 (by decide) k_415 (Or.inl rfl) h1 h2 ?_
  refine aw_ifnonnull (tgt := 112) dX3_findWays_95 (by decide) (fun x0 z => ?_) (fun z => ?_)
  · have hw := hw.1 x0 z
    refine aw_aload_n 0 dX3_findWays_112 rfl rfl ?_
    refine aw_aload_n 0 dX3_findWays_113 rfl rfl ?_
    obtain ⟨fs5, r4, h1, h2, hw⟩ := hw
    refine aw_getf (k := 8) dX3_findWays_114 clX3 (by decide) k_415 (Or.inl rfl) h1 h2 ?_
    obtain ⟨b6, rfl, hw⟩ := hw
    obtain ⟨_, h1, hw⟩ := hw
    refine aw_virtV (As := [.ref b6]) (rest := []) dX3_findWays_117 (acX3_goOnThroughLast l G (d - 1) hG hRf (by omega) (by omega) hw) iX3_goOnThroughLast rfl k_903 k_905 k_42 rfl h1 (by omega) (by decide) (by decide) rfl (Nat.le_of_ble_eq_true rfl) (fun h7 hw => ?_)
    refine aw_sub (lv' := []) [] rfl ?_
    exact abX3_findWays_120 l G d hG hRf hd hdRf _ hw
  · have hw := hw.2 z
    refine aw_aload_n 0 dX3_findWays_98 rfl rfl ?_
    obtain ⟨fs9, r8, h1, h2, hw⟩ := hw
    refine aw_getf (k := 3) dX3_findWays_99 clX3 (by decide) k_286 (Or.inr k_287) h1 h2 ?_
    refine aw_aload_n 0 dX3_findWays_102 rfl rfl ?_
    obtain ⟨fs11, r10, h1, h2, hw⟩ := hw
    refine aw_getf (k := 10) dX3_findWays_103 clX3 (by decide) k_417 (Or.inl rfl) h1 h2 ?_
    obtain ⟨_, h1, hw⟩ := hw
    refine aw_virtV (As := [.ref r10]) (rest := []) dX3_findWays_106 (acX9_join l G (d - 1) hG (by omega) hw) iX9_join rfl k_902 k_868 k_869 rfl h1 (by omega) (by decide) (by decide) rfl (Nat.le_of_ble_eq_true rfl) (fun h12 hw => ?_)
    refine aw_goto (tgt := 120) dX3_findWays_109 (by decide) ?_
    refine aw_sub (lv' := []) [] rfl ?_
    exact abX3_findWays_120 l G d hG hRf hd hdRf _ hw
set_option maxRecDepth 100000 in
theorem abX3_findWays_76 (l : Launch) (G : aG) (d : Nat) (hG : a_GT G) {Rf : Nat → aH → Nat → Nat → (aH → Prop) → Prop} {dRf : Nat} (hRf : ∀ (ci : Nat) (h : aH) (a b : Nat) (Q : aH → Prop), ci < 4 → Rf ci h a b Q → AC l G dRf 0 0 (mfindWays ci) [.ref a, .ref b] h (qV Q)) (hd : 6 ≤ d) (hdRf : dRf + 3 ≤ d) {Q : aH → Prop} (v0 : Nat) (h : aH) (hw : wbX3_findWays_76 Rf v0 h Q) : AW l G d 0 0 mX3_findWays (qV Q) 76 [(0, .ref v0)] [] h := by
  unfold wbX3_findWays_76 at hw
  refine aw_aload_n 0 dX3_findWays_76 rfl rfl ?_
  obtain ⟨fs14, r13, h1, h2, hw⟩ := hw
  refine aw_getf (k := 10) dX3_findWays_77 clX3 (by decide) k_417 (Or.inl rfl) h1 h2 ?_
  refine aw_iconst (v := 0) dX3_findWays_80 (by decide) ?_
  obtain ⟨_, h1, hw⟩ := hw
  refine aw_virtQ (As := [.int 0]) (rest := []) dX3_findWays_81 (acX9_by l G (d - 1) hG (by omega) hw) iX9_by rfl k_899 k_782 k_783 rfl h1 (by omega) (by decide) (by decide) rfl (Nat.le_of_ble_eq_true rfl) (fun r16 h15 hw => ?_)
  obtain ⟨r17, rfl, hw⟩ := hw
  refine aw_aload_n 0 dX3_findWays_84 rfl rfl ?_
  obtain ⟨fs19, r18, h1, h2, hw⟩ := hw
  refine aw_getf (k := 9) dX3_findWays_85 clX3 (by decide) k_416 (Or.inl rfl) h1 h2 ?_
  obtain ⟨_, h1, hw⟩ := hw
  refine aw_virtV (As := [.ref r18]) (rest := []) dX3_findWays_88 (acX7_join l G (d - 1) hG (by omega) hw) iX7_join rfl k_900 k_743 k_744 rfl h1 (by omega) (by decide) (by decide) rfl (Nat.le_of_ble_eq_true rfl) (fun h20 hw => ?_)
  exact abX3_findWays_91 l G d hG hRf hd hdRf _ _ hw
set_option maxRecDepth 100000 in
theorem acX3_findWays (l : Launch) (G : aG) (d : Nat) (hG : a_GT G) {Rf : Nat → aH → Nat → Nat → (aH → Prop) → Prop} {dRf : Nat} (hRf : ∀ (ci : Nat) (h : aH) (a b : Nat) (Q : aH → Prop), ci < 4 → Rf ci h a b Q → AC l G dRf 0 0 (mfindWays ci) [.ref a, .ref b] h (qV Q)) (hd : 6 ≤ d) (hdRf : dRf + 3 ≤ d) {Q : aH → Prop} {h : aH} {v0 : Nat} {v1 : Nat} (hw : wX3_findWays Rf h v0 v1 Q) : AC l G d 0 0 mX3_findWays [.ref v0, .ref v1] h (qV Q) := by
  refine ac_of iX3_findWays (Nat.le_of_ble_eq_true rfl) ?_
  show AW l G d 0 0 mX3_findWays (qV Q) 0 [(0, .ref v0), (1, .ref v1)] [] h
  unfold wX3_findWays at hw
  refine aw_aload_n 0 dX3_findWays_0 rfl rfl ?_
  obtain ⟨fs22, r21, h1, h2, hw⟩ := hw
  refine aw_getf (k := 5) dX3_findWays_1 clX3 (by decide) k_412 (Or.inl rfl) h1 h2 ?_
  refine aw_aload_n 1 dX3_findWays_4 rfl rfl ?_
  obtain ⟨ci, _, h1, h2, hw⟩ := hw
  refine aw_vgoThrough dX3_findWays_5 h1 h2 (acX6_goThrough l G (d - 1) hG hRf (by omega) (by omega) hw) k_888 (by omega) (Nat.zero_le _) (Nat.zero_le _) rfl (Nat.le_of_ble_eq_true rfl) (fun h23 hw => ?_)
  refine aw_aload_n 0 dX3_findWays_8 rfl rfl ?_
  refine aw_dup dX3_findWays_9 rfl ?_
  obtain ⟨fs25, r24, h1, h2, hw⟩ := hw
  refine aw_getf (k := 11) dX3_findWays_10 clX3 (by decide) k_418 (Or.inl rfl) h1 h2 ?_
  refine aw_aload_n 0 dX3_findWays_13 rfl rfl ?_
  obtain ⟨fs27, r26, h1, h2, hw⟩ := hw
  refine aw_getf (k := 5) dX3_findWays_14 clX3 (by decide) k_412 (Or.inl rfl) h1 h2 ?_
  obtain ⟨ci57, fs29, r28, hc, h1, h2, hw⟩ := hw
  refine aw_getN (k := 3) dX3_findWays_17 hc (by decide) k_282 h1 h2 ?_
  obtain ⟨_, h1, hw⟩ := hw
  refine aw_virtI (As := []) (rest := [.int r24, .ref v0]) dX3_findWays_20 (acX9_bits l G (d - 1) hG (by omega) hw) iX9_bits rfl k_889 k_890 k_891 rfl h1 (by omega) (by decide) (by decide) rfl (Nat.le_of_ble_eq_true rfl) (fun r31 h30 hw => ?_)
  refine aw_ior dX3_findWays_23 ?_
  obtain ⟨fs33, h1, h2, hw⟩ := hw
  refine aw_putf (k := 11) dX3_findWays_24 clX3 (by decide) k_418 (Or.inl rfl) rfl rfl rfl h1 h2 ?_
  generalize a_up _ _ _ = h32 at hw ⊢
  refine aw_aload_n 0 dX3_findWays_27 rfl rfl ?_
  obtain ⟨_, h1, hw⟩ := hw
  refine aw_virtV (As := []) (rest := []) dX3_findWays_28 (acX3_sortBodysWays l G (d - 1) hG (by omega) hw) iX3_sortBodysWays rfl k_893 k_895 k_41 rfl h1 (by omega) (by decide) (by decide) rfl (Nat.le_of_ble_eq_true rfl) (fun h34 hw => ?_)
  refine aw_aload_n 0 dX3_findWays_31 rfl rfl ?_
  obtain ⟨fs36, r35, h1, h2, hw⟩ := hw
  refine aw_getf (k := 9) dX3_findWays_32 clX3 (by decide) k_416 (Or.inl rfl) h1 h2 ?_
  obtain ⟨_, h1, hw⟩ := hw
  refine aw_virtI (As := []) (rest := []) dX3_findWays_35 (acX7_isThere l G (d - 1) hG (by omega) hw) iX7_isThere rfl k_901 k_751 k_752 rfl h1 (by omega) (by decide) (by decide) rfl (Nat.le_of_ble_eq_true rfl) (fun r38 h37 hw => ?_)
  refine aw_if_eq (tgt := 76) dX3_findWays_38 (by decide) (fun z => ?_) (fun z => ?_)
  · have hw := hw.1 z
    refine aw_sub (lv' := [(0, .ref v0)]) [0] rfl ?_
    exact abX3_findWays_76 l G d hG hRf hd hdRf _ _ hw
  · have hw := hw.2 z
    refine aw_aload_n 0 dX3_findWays_41 rfl rfl ?_
    obtain ⟨fs40, r39, h1, h2, hw⟩ := hw
    refine aw_getf (k := 7) dX3_findWays_42 clX3 (by decide) k_414 (Or.inl rfl) h1 h2 ?_
    refine aw_ifnull (tgt := 76) dX3_findWays_45 (by decide) (fun z => ?_) (fun x0 z => ?_)
    · have hw := hw.1 z
      refine aw_sub (lv' := [(0, .ref v0)]) [0] rfl ?_
      exact abX3_findWays_76 l G d hG hRf hd hdRf _ _ hw
    · have hw := hw.2 x0 z
      refine aw_aload_n 0 dX3_findWays_48 rfl rfl ?_
      obtain ⟨fs43, r42, h1, h2, hw⟩ := hw
      refine aw_getf (k := 7) dX3_findWays_49 clX3 (by decide) k_414 (Or.inl rfl) h1 h2 ?_
      refine aw_aload_n 0 dX3_findWays_52 rfl rfl ?_
      obtain ⟨fs45, r44, h1, h2, hw⟩ := hw
      refine aw_getf (k := 9) dX3_findWays_53 clX3 (by decide) k_416 (Or.inl rfl) h1 h2 ?_
      obtain ⟨b46, rfl, hw⟩ := hw
      obtain ⟨ci, _, h1, h2, hw⟩ := hw
      refine aw_vgoThrough dX3_findWays_56 h1 h2 (acX6_goThrough l G (d - 1) hG hRf (by omega) (by omega) hw) k_888 (by omega) (Nat.zero_le _) (Nat.zero_le _) rfl (Nat.le_of_ble_eq_true rfl) (fun h47 hw => ?_)
      refine aw_aload_n 0 dX3_findWays_59 rfl rfl ?_
      obtain ⟨fs49, r48, h1, h2, hw⟩ := hw
      refine aw_getf (k := 10) dX3_findWays_60 clX3 (by decide) k_417 (Or.inl rfl) h1 h2 ?_
      refine aw_aload_n 0 dX3_findWays_63 rfl rfl ?_
      obtain ⟨fs51, r50, h1, h2, hw⟩ := hw
      refine aw_getf (k := 7) dX3_findWays_64 clX3 (by decide) k_414 (Or.inl rfl) h1 h2 ?_
      obtain ⟨b52, rfl, hw⟩ := hw
      obtain ⟨ci56, fs54, r53, hc, h1, h2, hw⟩ := hw
      refine aw_getN (k := 3) dX3_findWays_67 hc (by decide) k_282 h1 h2 ?_
      obtain ⟨_, h1, hw⟩ := hw
      refine aw_virtV (As := [.ref r53]) (rest := []) dX3_findWays_70 (acX9_join l G (d - 1) hG (by omega) hw) iX9_join rfl k_902 k_868 k_869 rfl h1 (by omega) (by decide) (by decide) rfl (Nat.le_of_ble_eq_true rfl) (fun h55 hw => ?_)
      refine aw_goto (tgt := 91) dX3_findWays_73 (by decide) ?_
      refine aw_sub (lv' := [(0, .ref v0)]) [0] rfl ?_
      exact abX3_findWays_91 l G d hG hRf hd hdRf _ _ hw
-- X6_isReached
def wX6_isReached (h : aH) (v0 : Nat) (Q : Int32 → aH → Prop) : Prop :=
  rRN h v0 2 (fun r1 => isO h r1 5 (wX7_isThere h r1 (fun r4 h3 => oB r4 ∧ Q r4 h3)))
set_option maxRecDepth 100000 in
theorem acX6_isReached (l : Launch) (G : aG) (d : Nat) (hG : a_GT G) (hd : 2 ≤ d) {Q : Int32 → aH → Prop} {h : aH} {v0 : Nat} (hw : wX6_isReached h v0 Q) : AC l G d 0 0 mX6_isReached [.ref v0] h (qI Q) := by
  refine ac_of iX6_isReached (Nat.le_of_ble_eq_true rfl) ?_
  show AW l G d 0 0 mX6_isReached (qI Q) 0 [(0, .ref v0)] [] h
  unfold wX6_isReached at hw
  refine aw_aload_n 0 dX6_isReached_0 rfl rfl ?_
  obtain ⟨ci5, fs2, r1, hc, h1, h2, hw⟩ := hw
  refine aw_getN (k := 2) dX6_isReached_1 hc (by decide) k_276 h1 h2 ?_
  obtain ⟨_, h1, hw⟩ := hw
  refine aw_virtI (As := []) (rest := []) dX6_isReached_4 (acX7_isThere l G (d - 1) hG (by omega) hw) iX7_isThere rfl k_921 k_751 k_752 rfl h1 (by omega) (by decide) (by decide) rfl (Nat.le_of_ble_eq_true rfl) (fun r4 h3 hw => ?_)
  exact aw_iret dX6_isReached_7 rfl (a_nB hw.1) ⟨_, rfl, hw.2⟩
section AWO
variable {l : Launch} {G : aG} {d c w : Nat} {M : aM} {Q : Option Value → aH → Prop} {pc : Nat} {lv : List (Nat × Value)} {st : List Value} {h : aH}
theorem aw_virtOI {N : aM} {x : MethodName} {n d1 c1 w1 index a ci : Nat} {bb : ByteArray} {mm : Nat} {rr : Option FieldType} {fs : List Value} {q : vw_C} {As rest : List Value} {Q1 : Int32 → aH → Prop} (hdg : decode M.2.1 pc = .ok (.invokevirtual index, 3)) (hC : AC l G d1 c1 w1 N (.ref a :: As) h (qI Q1)) (hm : a_mi N n) (hn : As.length = n) (hL : Cond.methodLink M.1.cls index x ∈ a_wt) (hsame : Cond.sameMethod x.cls N.1.cls x.name x.desc ∈ a_wt) (hx : N.1.cls ≠ "java/lang/invoke/MethodHandle" ∧ N.1.cls ≠ "java/lang/invoke/VarHandle") (hxd : (x.name, x.desc) = (N.1.name, N.1.desc)) (hin : Cond.instanceMethod N.1 ∈ a_wt) (hco : Cond.code N.1 bb mm rr ∈ a_wt) (hsel : Cond.selects q.1 x N.1 ∈ a_wt) (hq : vwCl[ci]? = some q) (hf : h.2 a = some (.inr (ci, fs))) (hd : d1 + 1 ≤ d) (hc : c1 ≤ c) (hw : w1 ≤ w) (he : st = As.reverse ++ .ref a :: rest) (hr : (rest.map fun v => v.category).sum ≤ 8) (kk : ∀ (x1 : Int32) (h1 : aH), Q1 x1 h1 → AW l G d (c - c1) (w - w1) M Q (pc + 3) lv (.int x1 :: rest) h1) : AW l G d c w M Q pc lv st h := by
  have kk' : ∀ (v : Option Value) (h1 : aH), (qI Q1) v h1 → AW l G d (c - c1) (w - w1) M Q (pc + 3) lv (v.toList ++ rest) h1 := fun v h1 q => by obtain ⟨x1, rfl, q⟩ := q; exact kk x1 h1 q
  have hn1 : x.name = N.1.name := congrArg Prod.fst hxd
  have hn2 : x.desc = N.1.desc := congrArg Prod.snd hxd
  intro p e R s m args below meth cd H locs cells slots mc ms ls F S hl
  obtain ⟨F1, F2, F3, F4, F5, F6, F7, F8, F9, F10, F11⟩ := id F
  subst he
  have hD : va_Decl s ⟨N.1.cls, x.name, x.desc⟩ := by
    rw [hn1, hn2]
    exact va_Decl.of (F7 _ hin) (F7 _ hco)
  refine a_after F S hl hc hw (va_runU (As := As) (rest := rest) (C := q.1) (owner := N.1.cls) (x := x) (ret := N.2.2.2) (bytes := N.2.1) (maxL := N.2.2.1) ⟨F1, F2, F4, F5, F7⟩ hC ?_ ⟨a_blind, a_recv F9 S.2.2.2.2.1 hq hf, a_pre F9 S⟩ rfl hn hl.1 rfl (lv_room hr) hdg ⟨by have := S.1; have := S.2.2.1; omega, by have := S.2.1; have := S.2.2.2.1; omega⟩) kk'
  exact ⟨a_back (c1 := c1) (w1 := w1) F7 hm hd F10 F11, F7 _ hm.1, F7 _ hm.2.1, hx, a_params (by rw [hn2]; exact hm.2.2.2.1), F7 _ hL, F7 _ hsame, hD, F7 _ hsel, F7 _ hin⟩
end AWO
-- X3_vainFailures
def wbX3_vainFailures_22 (s0 : Int32) (h : aH) (Q : Int32 → aH → Prop) : Prop :=
  Q s0 h
def wX3_vainFailures (h : aH) (v0 : Nat) (Q : Int32 → aH → Prop) : Prop :=
  isO h v0 3 (wX6_isReached h v0 (fun r2 h1 => (r2 = 0 → wbX3_vainFailures_22 0 h1 Q) ∧ (¬ r2 = 0 → rI h1 v0 3 6 (fun r3 => rI h1 v0 3 11 (fun r5 => wbX3_vainFailures_22 ((r3 &&& (r5 ^^^ (-1)))) h1 Q)))))
set_option maxRecDepth 100000 in
theorem abX3_vainFailures_22 (l : Launch) (G : aG) (d : Nat) (hG : a_GT G) (hd : 3 ≤ d) {Q : Int32 → aH → Prop} (s0 : Int32) (h : aH) (hw : wbX3_vainFailures_22 s0 h Q) : AW l G d 0 0 mX3_vainFailures (qI Q) 22 [] [.int s0] h := by
  unfold wbX3_vainFailures_22 at hw
  exact aw_iret dX3_vainFailures_22 rfl rfl ⟨_, rfl, hw⟩
set_option maxRecDepth 100000 in
theorem acX3_vainFailures (l : Launch) (G : aG) (d : Nat) (hG : a_GT G) (hd : 3 ≤ d) {Q : Int32 → aH → Prop} {h : aH} {v0 : Nat} (hw : wX3_vainFailures h v0 Q) : AC l G d 0 0 mX3_vainFailures [.ref v0] h (qI Q) := by
  refine ac_of iX3_vainFailures (Nat.le_of_ble_eq_true rfl) ?_
  show AW l G d 0 0 mX3_vainFailures (qI Q) 0 [(0, .ref v0)] [] h
  unfold wX3_vainFailures at hw
  refine aw_aload_n 0 dX3_vainFailures_0 rfl rfl ?_
  obtain ⟨_, h1, hw⟩ := hw
  refine aw_virtOI (As := []) (rest := []) dX3_vainFailures_1 (acX6_isReached l G (d - 1) hG (by omega) hw) iX6_isReached rfl k_938 k_939 (by decide) rfl k_914 k_920 k_941 rfl h1 (by omega) (by decide) (by decide) rfl (Nat.le_of_ble_eq_true rfl) (fun r2 h1 hw => ?_)
  refine aw_if_eq (tgt := 21) dX3_vainFailures_4 (by decide) (fun z => ?_) (fun z => ?_)
  · have hw := hw.1 z
    refine aw_iconst (v := 0) dX3_vainFailures_21 (by decide) ?_
    refine aw_sub (lv' := []) [] rfl ?_
    exact abX3_vainFailures_22 l G d hG hd _ _ hw
  · have hw := hw.2 z
    refine aw_aload_n 0 dX3_vainFailures_7 rfl rfl ?_
    obtain ⟨fs4, r3, h1, h2, hw⟩ := hw
    refine aw_getf (k := 6) dX3_vainFailures_8 clX3 (by decide) k_413 (Or.inl rfl) h1 h2 ?_
    refine aw_aload_n 0 dX3_vainFailures_11 rfl rfl ?_
    obtain ⟨fs6, r5, h1, h2, hw⟩ := hw
    refine aw_getf (k := 11) dX3_vainFailures_12 clX3 (by decide) k_418 (Or.inl rfl) h1 h2 ?_
    refine aw_iconst (v := (-1)) dX3_vainFailures_15 (by decide) ?_
    refine aw_ixor dX3_vainFailures_16 ?_
    refine aw_iand dX3_vainFailures_17 ?_
    refine aw_goto (tgt := 22) dX3_vainFailures_18 (by decide) ?_
    refine aw_sub (lv' := []) [] rfl ?_
    exact abX3_vainFailures_22 l G d hG hd _ _ hw
-- X6_forgetReport
def wX6_forgetReport (h : aH) (v0 : Nat) (Q : aH → Prop) : Prop :=
  rRN h v0 2 (fun r1 => isO h r1 5 (wX7_erase h r1 (fun h3 => wFN h3 v0 4 (.int 0) (fun h4 => Q h4))))
set_option maxRecDepth 100000 in
theorem acX6_forgetReport (l : Launch) (G : aG) (d : Nat) (hG : a_GT G) (hd : 3 ≤ d) {Q : aH → Prop} {h : aH} {v0 : Nat} (hw : wX6_forgetReport h v0 Q) : AC l G d 0 0 mX6_forgetReport [.ref v0] h (qV Q) := by
  refine ac_of iX6_forgetReport (Nat.le_of_ble_eq_true rfl) ?_
  show AW l G d 0 0 mX6_forgetReport (qV Q) 0 [(0, .ref v0)] [] h
  unfold wX6_forgetReport at hw
  refine aw_aload_n 0 dX6_forgetReport_0 rfl rfl ?_
  obtain ⟨ci7, fs2, r1, hc, h1, h2, hw⟩ := hw
  refine aw_getN (k := 2) dX6_forgetReport_1 hc (by decide) k_276 h1 h2 ?_
  obtain ⟨_, h1, hw⟩ := hw
  refine aw_virtV (As := []) (rest := []) dX6_forgetReport_4 (acX7_erase l G (d - 1) hG (by omega) hw) iX7_erase rfl k_729 k_730 k_731 rfl h1 (by omega) (by decide) (by decide) rfl (Nat.le_of_ble_eq_true rfl) (fun h3 hw => ?_)
  refine aw_aload_n 0 dX6_forgetReport_7 rfl rfl ?_
  refine aw_iconst (v := 0) dX6_forgetReport_8 (by decide) ?_
  obtain ⟨ci6, fs5, hc, h1, h2, hw⟩ := hw
  refine aw_putN (k := 4) dX6_forgetReport_9 hc (by decide) k_290 rfl rfl rfl h1 h2 ?_
  generalize a_up _ _ _ = h4 at hw ⊢
  exact aw_vret dX6_forgetReport_12 rfl ⟨rfl, hw⟩
-- X3_forgetReport
def wX3_forgetReport (h : aH) (v0 : Nat) (Q : aH → Prop) : Prop :=
  isO h v0 3 (wX6_forgetReport h v0 (fun h1 => wF h1 v0 3 11 (.int 0) (fun h2 => wF h2 v0 3 12 (.int 0) (fun h4 => Q h4))))
set_option maxRecDepth 100000 in
theorem acX3_forgetReport (l : Launch) (G : aG) (d : Nat) (hG : a_GT G) (hd : 4 ≤ d) {Q : aH → Prop} {h : aH} {v0 : Nat} (hw : wX3_forgetReport h v0 Q) : AC l G d 0 0 mX3_forgetReport [.ref v0] h (qV Q) := by
  refine ac_of iX3_forgetReport (Nat.le_of_ble_eq_true rfl) ?_
  show AW l G d 0 0 mX3_forgetReport (qV Q) 0 [(0, .ref v0)] [] h
  unfold wX3_forgetReport at hw
  refine aw_aload_n 0 dX3_forgetReport_0 rfl rfl ?_
  obtain ⟨_, h1, hw⟩ := hw
  refine aw_superV (As := []) (rest := []) dX3_forgetReport_1 (acX6_forgetReport l G (d - 1) hG (by omega) hw) iX6_forgetReport rfl (by decide) k_727 k_720 k_442 k_719 rfl h1 (by omega) (by decide) (by decide) rfl (Nat.le_of_ble_eq_true rfl) (fun h1 hw => ?_)
  refine aw_aload_n 0 dX3_forgetReport_4 rfl rfl ?_
  refine aw_iconst (v := 0) dX3_forgetReport_5 (by decide) ?_
  obtain ⟨fs3, h1, h2, hw⟩ := hw
  refine aw_putf (k := 11) dX3_forgetReport_6 clX3 (by decide) k_418 (Or.inl rfl) rfl rfl rfl h1 h2 ?_
  generalize a_up _ _ _ = h2 at hw ⊢
  refine aw_aload_n 0 dX3_forgetReport_9 rfl rfl ?_
  refine aw_iconst (v := 0) dX3_forgetReport_10 (by decide) ?_
  obtain ⟨fs5, h1, h2, hw⟩ := hw
  refine aw_putf (k := 12) dX3_forgetReport_11 clX3 (by decide) k_419 (Or.inl rfl) rfl rfl rfl h1 h2 ?_
  generalize a_up _ _ _ = h4 at hw ⊢
  exact aw_vret dX3_forgetReport_14 rfl ⟨rfl, hw⟩
-- X8_init
def wX8_init (h : aH) (v0 : Nat) (Q : aH → Prop) : Prop :=
  ∀ (q2 : Nat) (h1 : aH), q2 = h.1 → h1 = a_nw h (.inl (0, 201, .inl (fun _ => 0))) → wF h1 v0 6 0 (.ref q2) (fun h3 => ∀ (q6 : Nat) (h5 : aH), q6 = h3.1 → h5 = a_nw h3 (.inl (0, 201, .inl (fun _ => 0))) → wF h5 v0 6 1 (.ref q6) (fun h7 => ∀ (q10 : Nat) (h9 : aH), q10 = h7.1 → h9 = a_nw h7 (.inl (0, 201, .inl (fun _ => 0))) → wF h9 v0 6 2 (.ref q10) (fun h11 => ∀ (q14 : Nat) (h13 : aH), q14 = h11.1 → h13 = a_nw h11 (.inl (1, 3000, .inr (.inl (fun _ => 0)))) → wF h13 v0 6 3 (.ref q14) (fun h15 => Q h15))))
set_option maxRecDepth 100000 in
theorem acX8_init (l : Launch) (G : aG) (d : Nat) (hG : a_GT G) (hd : 1 ≤ d) {Q : aH → Prop} {h : aH} {v0 : Nat} (hw : wX8_init h v0 Q) : AC l G d 4 3603 mX8_init [.ref v0] h (qV Q) := by
  refine ac_of iX8_init (Nat.le_of_ble_eq_true rfl) ?_
  show AW l G d 4 3603 mX8_init (qV Q) 0 [(0, .ref v0)] [] h
  unfold wX8_init at hw
  refine aw_aload_n 0 dX8_init_0 rfl rfl ?_
  refine aw_obj dX8_init_1 k_128 k_115 k_116 (by omega) (Nat.le_of_ble_eq_true rfl) ?_
  refine aw_aload_n 0 dX8_init_4 rfl rfl ?_
  refine aw_sipush (v := 201) dX8_init_5 (by decide) ?_
  refine aw_newa (N := 201) (a0 := (201, .inl (fun _ => 0))) 0 (by decide) dX8_init_8 rfl k_150 (a_z0 _) (by decide) (by decide) (by omega) (by omega) (by omega) ?_
  have hw := hw _ _ rfl rfl
  generalize a_nw _ _ = h1 at hw ⊢
  generalize h.1 = q2 at hw ⊢
  refine aw_bud (c1 := 3) (w1 := 3402) (Nat.le_refl _) (Nat.le_refl _) ?_
  obtain ⟨fs4, h1, h2, hw⟩ := hw
  refine aw_putF (k := 0) dX8_init_10 clX8 (by decide) k_129 (Or.inl rfl) rfl rfl rfl rfl rfl h1 h2 ?_
  generalize a_up _ _ _ = h3 at hw ⊢
  refine aw_aload_n 0 dX8_init_13 rfl rfl ?_
  refine aw_sipush (v := 201) dX8_init_14 (by decide) ?_
  refine aw_newa (N := 201) (a0 := (201, .inl (fun _ => 0))) 0 (by decide) dX8_init_17 rfl k_150 (a_z0 _) (by decide) (by decide) (by omega) (by omega) (by omega) ?_
  have hw := hw _ _ rfl rfl
  generalize a_nw _ _ = h5 at hw ⊢
  generalize h3.1 = q6 at hw ⊢
  refine aw_bud (c1 := 2) (w1 := 3201) (Nat.le_refl _) (Nat.le_refl _) ?_
  obtain ⟨fs8, h1, h2, hw⟩ := hw
  refine aw_putF (k := 1) dX8_init_19 clX8 (by decide) k_130 (Or.inl rfl) rfl rfl rfl rfl rfl h1 h2 ?_
  generalize a_up _ _ _ = h7 at hw ⊢
  refine aw_aload_n 0 dX8_init_22 rfl rfl ?_
  refine aw_sipush (v := 201) dX8_init_23 (by decide) ?_
  refine aw_newa (N := 201) (a0 := (201, .inl (fun _ => 0))) 0 (by decide) dX8_init_26 rfl k_150 (a_z0 _) (by decide) (by decide) (by omega) (by omega) (by omega) ?_
  have hw := hw _ _ rfl rfl
  generalize a_nw _ _ = h9 at hw ⊢
  generalize h7.1 = q10 at hw ⊢
  refine aw_bud (c1 := 1) (w1 := 3000) (Nat.le_refl _) (Nat.le_refl _) ?_
  obtain ⟨fs12, h1, h2, hw⟩ := hw
  refine aw_putF (k := 2) dX8_init_28 clX8 (by decide) k_131 (Or.inl rfl) rfl rfl rfl rfl rfl h1 h2 ?_
  generalize a_up _ _ _ = h11 at hw ⊢
  refine aw_aload_n 0 dX8_init_31 rfl rfl ?_
  refine aw_sipush (v := 3000) dX8_init_32 (by decide) ?_
  refine aw_newa (N := 3000) (a0 := (3000, .inr (.inl (fun _ => 0)))) 1 (by decide) dX8_init_35 rfl k_151 (a_z1 _) (by decide) (by decide) (by omega) (by omega) (by omega) ?_
  have hw := hw _ _ rfl rfl
  generalize a_nw _ _ = h13 at hw ⊢
  generalize h11.1 = q14 at hw ⊢
  refine aw_bud (c1 := 0) (w1 := 0) (Nat.le_refl _) (Nat.le_refl _) ?_
  obtain ⟨fs16, h1, h2, hw⟩ := hw
  refine aw_putF (k := 3) dX8_init_37 clX8 (by decide) k_132 (Or.inl rfl) rfl rfl rfl rfl rfl h1 h2 ?_
  generalize a_up _ _ _ = h15 at hw ⊢
  exact aw_vret dX8_init_40 rfl ⟨rfl, hw⟩
-- X5_init
def wX5_init (h : aH) (v0 : Nat) (Q : aH → Prop) : Prop :=
  ∀ (q2 : Nat) (h1 : aH), q2 = h.1 → h1 = a_nw h (.inr (6, [.null, .null, .null, .null, .int 0, .int 0])) → wX8_init h1 q2 (fun h3 => wF h3 v0 4 0 (.ref q2) (fun h4 => ∀ (q7 : Nat) (h6 : aH), q7 = h4.1 → h6 = a_nw h4 (.inl (0, 12, .inl (fun _ => 0))) → wF h6 v0 4 1 (.ref q7) (fun h8 => ∀ (q11 : Nat) (h10 : aH), q11 = h8.1 → h10 = a_nw h8 (.inl (1, 8, .inr (.inl (fun _ => 0)))) → wF h10 v0 4 2 (.ref q11) (fun h12 => wF h12 v0 4 8 (.int (-1)) (fun h14 => Q h14)))))
set_option maxRecDepth 100000 in
theorem acX5_init (l : Launch) (G : aG) (d : Nat) (hG : a_GT G) (hd : 2 ≤ d) {Q : aH → Prop} {h : aH} {v0 : Nat} (hw : wX5_init h v0 Q) : AC l G d 7 3629 mX5_init [.ref v0] h (qV Q) := by
  refine ac_of iX5_init (Nat.le_of_ble_eq_true rfl) ?_
  show AW l G d 7 3629 mX5_init (qV Q) 0 [(0, .ref v0)] [] h
  unfold wX5_init at hw
  refine aw_aload_n 0 dX5_init_0 rfl rfl ?_
  refine aw_obj dX5_init_1 k_122 k_115 k_116 (by omega) (Nat.le_of_ble_eq_true rfl) ?_
  refine aw_aload_n 0 dX5_init_4 rfl rfl ?_
  refine aw_new (ci := 6) (fs := [.null, .null, .null, .null, .int 0, .int 0]) dX5_init_5 clX8 k_123 k_124 k_97 dvX8 (by omega) (by omega) ?_
  have hw := hw _ _ rfl rfl
  generalize a_nw _ _ = h1 at hw ⊢
  generalize h.1 = q2 at hw ⊢
  refine aw_bud (c1 := 6) (w1 := 3623) (Nat.le_refl _) (Nat.le_refl _) ?_
  refine aw_dup dX5_init_8 rfl ?_
  refine aw_initNV (As := []) (rest := [.ref q2, .ref v0]) (c1 := 4) (w1 := 3603) (host := "ThrowReports") dX5_init_9 (acX8_init l G (d - 1) hG (by omega) hw) iX8_init rfl rfl rfl (by decide +kernel) k_126 (by omega) (by omega) (by omega) rfl (Nat.le_of_ble_eq_true rfl) (fun h3 hw => ?_)
  refine aw_bud (c1 := 2) (w1 := 20) (Nat.le_refl _) (Nat.le_refl _) ?_
  obtain ⟨fs5, h1, h2, hw⟩ := hw
  refine aw_putF (k := 0) dX5_init_12 clX5 (by decide) k_152 (Or.inl rfl) rfl rfl rfl rfl rfl h1 h2 ?_
  generalize a_up _ _ _ = h4 at hw ⊢
  refine aw_aload_n 0 dX5_init_15 rfl rfl ?_
  refine aw_bipush (v := 12) dX5_init_16 (by decide) ?_
  refine aw_newa (N := 12) (a0 := (12, .inl (fun _ => 0))) 0 (by decide) dX5_init_18 rfl k_150 (a_z0 _) (by decide) (by decide) (by omega) (by omega) (by omega) ?_
  have hw := hw _ _ rfl rfl
  generalize a_nw _ _ = h6 at hw ⊢
  generalize h4.1 = q7 at hw ⊢
  refine aw_bud (c1 := 1) (w1 := 8) (Nat.le_refl _) (Nat.le_refl _) ?_
  obtain ⟨fs9, h1, h2, hw⟩ := hw
  refine aw_putF (k := 1) dX5_init_20 clX5 (by decide) k_154 (Or.inl rfl) rfl rfl rfl rfl rfl h1 h2 ?_
  generalize a_up _ _ _ = h8 at hw ⊢
  refine aw_aload_n 0 dX5_init_23 rfl rfl ?_
  refine aw_bipush (v := 8) dX5_init_24 (by decide) ?_
  refine aw_newa (N := 8) (a0 := (8, .inr (.inl (fun _ => 0)))) 1 (by decide) dX5_init_26 rfl k_151 (a_z1 _) (by decide) (by decide) (by omega) (by omega) (by omega) ?_
  have hw := hw _ _ rfl rfl
  generalize a_nw _ _ = h10 at hw ⊢
  generalize h8.1 = q11 at hw ⊢
  refine aw_bud (c1 := 0) (w1 := 0) (Nat.le_refl _) (Nat.le_refl _) ?_
  obtain ⟨fs13, h1, h2, hw⟩ := hw
  refine aw_putF (k := 2) dX5_init_28 clX5 (by decide) k_156 (Or.inl rfl) rfl rfl rfl rfl rfl h1 h2 ?_
  generalize a_up _ _ _ = h12 at hw ⊢
  refine aw_aload_n 0 dX5_init_31 rfl rfl ?_
  refine aw_iconst (v := (-1)) dX5_init_32 (by decide) ?_
  obtain ⟨fs15, h1, h2, hw⟩ := hw
  refine aw_putf (k := 8) dX5_init_33 clX5 (by decide) k_172 (Or.inl rfl) rfl rfl rfl h1 h2 ?_
  generalize a_up _ _ _ = h14 at hw ⊢
  exact aw_vret dX5_init_36 rfl ⟨rfl, hw⟩
-- X5_beginRun
def wX5_beginRun (h : aH) (v0 : Nat) (Q : aH → Prop) : Prop :=
  wF h v0 4 3 (.int 0) (fun h1 => wF h1 v0 4 4 (.int 0) (fun h3 => wF h3 v0 4 5 (.int 0) (fun h5 => wF h5 v0 4 6 (.int 0) (fun h7 => wF h7 v0 4 7 (.int 0) (fun h9 => wF h9 v0 4 8 (.int (-1)) (fun h11 => Q h11))))))
set_option maxRecDepth 100000 in
theorem acX5_beginRun (l : Launch) (G : aG) (d : Nat) (hG : a_GT G) (hd : 1 ≤ d) {Q : aH → Prop} {h : aH} {v0 : Nat} (hw : wX5_beginRun h v0 Q) : AC l G d 0 0 mX5_beginRun [.ref v0] h (qV Q) := by
  refine ac_of iX5_beginRun (Nat.le_of_ble_eq_true rfl) ?_
  show AW l G d 0 0 mX5_beginRun (qV Q) 0 [(0, .ref v0)] [] h
  unfold wX5_beginRun at hw
  refine aw_aload_n 0 dX5_beginRun_0 rfl rfl ?_
  refine aw_iconst (v := 0) dX5_beginRun_1 (by decide) ?_
  obtain ⟨fs2, h1, h2, hw⟩ := hw
  refine aw_putf (k := 3) dX5_beginRun_2 clX5 (by decide) k_158 (Or.inl rfl) rfl rfl rfl h1 h2 ?_
  generalize a_up _ _ _ = h1 at hw ⊢
  refine aw_aload_n 0 dX5_beginRun_5 rfl rfl ?_
  refine aw_iconst (v := 0) dX5_beginRun_6 (by decide) ?_
  obtain ⟨fs4, h1, h2, hw⟩ := hw
  refine aw_putf (k := 4) dX5_beginRun_7 clX5 (by decide) k_161 (Or.inl rfl) rfl rfl rfl h1 h2 ?_
  generalize a_up _ _ _ = h3 at hw ⊢
  refine aw_aload_n 0 dX5_beginRun_10 rfl rfl ?_
  refine aw_iconst (v := 0) dX5_beginRun_11 (by decide) ?_
  obtain ⟨fs6, h1, h2, hw⟩ := hw
  refine aw_putf (k := 5) dX5_beginRun_12 clX5 (by decide) k_164 (Or.inl rfl) rfl rfl rfl h1 h2 ?_
  generalize a_up _ _ _ = h5 at hw ⊢
  refine aw_aload_n 0 dX5_beginRun_15 rfl rfl ?_
  refine aw_iconst (v := 0) dX5_beginRun_16 (by decide) ?_
  obtain ⟨fs8, h1, h2, hw⟩ := hw
  refine aw_putf (k := 6) dX5_beginRun_17 clX5 (by decide) k_166 (Or.inl rfl) rfl rfl rfl h1 h2 ?_
  generalize a_up _ _ _ = h7 at hw ⊢
  refine aw_aload_n 0 dX5_beginRun_20 rfl rfl ?_
  refine aw_iconst (v := 0) dX5_beginRun_21 (by decide) ?_
  obtain ⟨fs10, h1, h2, hw⟩ := hw
  refine aw_putf (k := 7) dX5_beginRun_22 clX5 (by decide) k_169 (Or.inl rfl) rfl rfl rfl h1 h2 ?_
  generalize a_up _ _ _ = h9 at hw ⊢
  refine aw_aload_n 0 dX5_beginRun_25 rfl rfl ?_
  refine aw_iconst (v := (-1)) dX5_beginRun_26 (by decide) ?_
  obtain ⟨fs12, h1, h2, hw⟩ := hw
  refine aw_putf (k := 8) dX5_beginRun_27 clX5 (by decide) k_172 (Or.inl rfl) rfl rfl rfl h1 h2 ?_
  generalize a_up _ _ _ = h11 at hw ⊢
  exact aw_vret dX5_beginRun_30 rfl ⟨rfl, hw⟩
-- X8_removeAll
def wX8_removeAll (h : aH) (v0 : Nat) (Q : Int32 → aH → Prop) : Prop :=
  rI h v0 6 4 (fun r1 => wF h v0 6 4 (.int 0) (fun h3 => wF h3 v0 6 5 (.int 0) (fun h5 => Q r1 h5)))
set_option maxRecDepth 100000 in
theorem acX8_removeAll (l : Launch) (G : aG) (d : Nat) (hG : a_GT G) (hd : 1 ≤ d) {Q : Int32 → aH → Prop} {h : aH} {v0 : Nat} (hw : wX8_removeAll h v0 Q) : AC l G d 0 0 mX8_removeAll [.ref v0] h (qI Q) := by
  refine ac_of iX8_removeAll (Nat.le_of_ble_eq_true rfl) ?_
  show AW l G d 0 0 mX8_removeAll (qI Q) 0 [(0, .ref v0)] [] h
  unfold wX8_removeAll at hw
  refine aw_aload_n 0 dX8_removeAll_0 rfl rfl ?_
  obtain ⟨fs2, r1, h1, h2, hw⟩ := hw
  refine aw_getf (k := 4) dX8_removeAll_1 clX8 (by decide) k_133 (Or.inl rfl) h1 h2 ?_
  refine aw_istore_n (lv' := [(1, .int r1), (0, .ref v0)]) dX8_removeAll_4 rfl (by decide) rfl ?_
  refine aw_aload_n 1 dX8_removeAll_5 rfl rfl ?_
  refine aw_iconst (v := 0) dX8_removeAll_6 (by decide) ?_
  obtain ⟨fs4, h1, h2, hw⟩ := hw
  refine aw_putf (k := 4) dX8_removeAll_7 clX8 (by decide) k_133 (Or.inl rfl) rfl rfl rfl h1 h2 ?_
  generalize a_up _ _ _ = h3 at hw ⊢
  refine aw_aload_n 1 dX8_removeAll_10 rfl rfl ?_
  refine aw_iconst (v := 0) dX8_removeAll_11 (by decide) ?_
  obtain ⟨fs6, h1, h2, hw⟩ := hw
  refine aw_putf (k := 5) dX8_removeAll_12 clX8 (by decide) k_135 (Or.inl rfl) rfl rfl rfl h1 h2 ?_
  generalize a_up _ _ _ = h5 at hw ⊢
  refine aw_iload_n 0 dX8_removeAll_15 rfl rfl ?_
  exact aw_iret dX8_removeAll_16 rfl rfl ⟨_, rfl, hw⟩
-- J7_fill_d0a16
def wbJ7_fill_d0a16_6_i (K6 : Nat → Int64 → Int32 → Int32 →  aH → Prop) (v0 : Nat) (v1 : Int64) (v3 : Int32) (v4 : Int32) (h : aH) (Q : aH → Prop) : Prop :=
  (v4 ≤ v3 → Q h) ∧ (¬ v4 ≤ v3 → sL h v0 v3 v1 (fun h1 => K6 v0 v1 ((v3 + 1)) v4 h1))
def wbJ7_fill_d0a16_6 (n : Nat) (v0 : Nat) (v1 : Int64) (v3 : Int32) (v4 : Int32) (h : aH) (Q : aH → Prop) : Prop := match n with
  | 0 => False
  | n + 1 => wbJ7_fill_d0a16_6_i (fun v0 v1 v3 v4 h => wbJ7_fill_d0a16_6 n v0 v1 v3 v4 h Q) v0 v1 v3 v4 h Q
def wJ7_fill_d0a16 (h : aH) (v0 : Nat) (v1 : Int64) (Q : aH → Prop) : Prop :=
  lnA h v0 (fun r2 => ∃ n, wbJ7_fill_d0a16_6 n v0 v1 0 r2 h Q)
set_option maxRecDepth 100000 in
theorem abJ7_fill_d0a16_6_i (l : Launch) (G : aG) (d : Nat) (hG : a_GT G) (hd : 1 ≤ d) {Q : aH → Prop} {K6 : Nat → Int64 → Int32 → Int32 →  aH → Prop} (kk6 : ∀ (v0 : Nat) (v1 : Int64) (v3 : Int32) (v4 : Int32) (h : aH), K6 v0 v1 v3 v4 h → AW l G d 0 0 mJ7_fill_d0a16 (qV Q) 6 [(0, .ref v0), (1, .long v1), (3, .int v3), (4, .int v4)] [] h) (v0 : Nat) (v1 : Int64) (v3 : Int32) (v4 : Int32) (h : aH) (hw : wbJ7_fill_d0a16_6_i K6 v0 v1 v3 v4 h Q) : AW l G d 0 0 mJ7_fill_d0a16 (qV Q) 6 [(0, .ref v0), (1, .long v1), (3, .int v3), (4, .int v4)] [] h := by
  unfold wbJ7_fill_d0a16_6_i at hw
  refine aw_iload_n 2 dJ7_fill_d0a16_6 rfl rfl ?_
  refine aw_iload 3 dJ7_fill_d0a16_7 rfl ?_
  refine aw_icmp_ge (tgt := 22) dJ7_fill_d0a16_9 (by decide) (fun z => ?_) (fun z => ?_)
  · have hw := hw.1 z
    exact aw_vret dJ7_fill_d0a16_22 rfl ⟨rfl, hw⟩
  · have hw := hw.2 z
    refine aw_aload_n 0 dJ7_fill_d0a16_12 rfl rfl ?_
    refine aw_iload_n 2 dJ7_fill_d0a16_13 rfl rfl ?_
    refine aw_lload_n 1 dJ7_fill_d0a16_14 rfl rfl ?_
    obtain ⟨_, _, h1, h2, hw⟩ := hw
    refine aw_last dJ7_fill_d0a16_15 h1 h2 ?_
    generalize a_up _ _ _ = h1 at hw ⊢
    refine aw_iinc (v := (v3 + 1)) (lv' := [(3, .int (v3 + 1)), (0, .ref v0), (1, .long v1), (4, .int v4)]) 2 dJ7_fill_d0a16_16 rfl rfl (by decide) rfl ?_
    refine aw_goto (tgt := 6) dJ7_fill_d0a16_19 (by decide) ?_
    refine aw_sub (lv' := [(0, .ref v0), (1, .long v1), (3, .int (v3 + 1)), (4, .int v4)]) [1, 2, 0, 3] rfl ?_
    exact kk6 _ _ _ _ _ hw
set_option maxRecDepth 100000 in
theorem abJ7_fill_d0a16_6 (l : Launch) (G : aG) (d : Nat) (hG : a_GT G) (hd : 1 ≤ d) {Q : aH → Prop} (n : Nat) : ∀  (v0 : Nat) (v1 : Int64) (v3 : Int32) (v4 : Int32) (h : aH), wbJ7_fill_d0a16_6 n v0 v1 v3 v4 h Q → AW l G d 0 0 mJ7_fill_d0a16 (qV Q) 6 [(0, .ref v0), (1, .long v1), (3, .int v3), (4, .int v4)] [] h := by
  induction n with
  | zero => exact fun _ _ _ _ _ hw => hw.elim
  | succ n ih => exact fun _ _ _ _ _ hw => abJ7_fill_d0a16_6_i l G d hG hd ih _ _ _ _ _ hw
set_option maxRecDepth 100000 in
theorem acJ7_fill_d0a16 (l : Launch) (G : aG) (d : Nat) (hG : a_GT G) (hd : 1 ≤ d) {Q : aH → Prop} {h : aH} {v0 : Nat} {v1 : Int64} (hw : wJ7_fill_d0a16 h v0 v1 Q) : AC l G d 0 0 mJ7_fill_d0a16 [.ref v0, .long v1] h (qV Q) := by
  refine ac_of iJ7_fill_d0a16 (Nat.le_of_ble_eq_true rfl) ?_
  show AW l G d 0 0 mJ7_fill_d0a16 (qV Q) 0 [(0, .ref v0), (1, .long v1)] [] h
  unfold wJ7_fill_d0a16 at hw
  refine aw_iconst (v := 0) dJ7_fill_d0a16_0 (by decide) ?_
  refine aw_istore_n (lv' := [(3, .int 0), (0, .ref v0), (1, .long v1)]) dJ7_fill_d0a16_1 rfl (by decide) rfl ?_
  refine aw_aload_n 1 dJ7_fill_d0a16_2 rfl rfl ?_
  obtain ⟨_, x_, h1, h2, hw⟩ := hw
  refine aw_alen dJ7_fill_d0a16_3 h1 h2 ?_
  generalize Int32.ofNat x_.1 = r2 at hw ⊢
  refine aw_istore (lv' := [(4, .int r2), (3, .int 0), (0, .ref v0), (1, .long v1)]) dJ7_fill_d0a16_4 (by decide) rfl ?_
  obtain ⟨n, hw⟩ := hw
  refine aw_sub (lv' := [(0, .ref v0), (1, .long v1), (3, .int 0), (4, .int r2)]) [2, 3, 1, 0] rfl ?_
  exact abJ7_fill_d0a16_6 l G d hG hd n _ _ _ _ _ hw
-- X5_empty
def wX5_empty (h : aH) (v0 : Nat) (Q : Int32 → aH → Prop) : Prop :=
  rR h v0 4 1 (fun r1 => wJ7_fill_53178 h r1 0 (fun h3 => rR h3 v0 4 2 (fun r4 => wJ7_fill_d0a16 h3 r4 ((0 : Int64)) (fun h6 => rR h6 v0 4 0 (fun r7 => isO h6 r7 6 (wX8_removeAll h6 r7 (fun r10 h9 => Q r10 h9)))))))
set_option maxRecDepth 100000 in
theorem acX5_empty (l : Launch) (G : aG) (d : Nat) (hG : a_GT G) (hd : 2 ≤ d) {Q : Int32 → aH → Prop} {h : aH} {v0 : Nat} (hw : wX5_empty h v0 Q) : AC l G d 0 0 mX5_empty [.ref v0] h (qI Q) := by
  refine ac_of iX5_empty (Nat.le_of_ble_eq_true rfl) ?_
  show AW l G d 0 0 mX5_empty (qI Q) 0 [(0, .ref v0)] [] h
  unfold wX5_empty at hw
  refine aw_aload_n 0 dX5_empty_0 rfl rfl ?_
  obtain ⟨fs2, r1, h1, h2, hw⟩ := hw
  refine aw_getf (k := 1) dX5_empty_1 clX5 (by decide) k_154 (Or.inl rfl) h1 h2 ?_
  refine aw_iconst (v := 0) dX5_empty_4 (by decide) ?_
  refine aw_staticV (As := [.ref r1, .int 0]) (rest := []) dX5_empty_5 (acJ7_fill_53178 l G (d - 1) hG (by omega) hw) iJ7_fill_53178 rfl k_659 k_660 (by omega) (by decide) (by decide) rfl (Nat.le_of_ble_eq_true rfl) (fun h3 hw => ?_)
  refine aw_aload_n 0 dX5_empty_8 rfl rfl ?_
  obtain ⟨fs5, r4, h1, h2, hw⟩ := hw
  refine aw_getf (k := 2) dX5_empty_9 clX5 (by decide) k_156 (Or.inl rfl) h1 h2 ?_
  refine aw_lconst (v := 0) dX5_empty_12 (by decide) ?_
  refine aw_staticV (As := [.ref r4, .long (0 : Int64)]) (rest := []) dX5_empty_13 (acJ7_fill_d0a16 l G (d - 1) hG (by omega) hw) iJ7_fill_d0a16 rfl k_662 k_663 (by omega) (by decide) (by decide) rfl (Nat.le_of_ble_eq_true rfl) (fun h6 hw => ?_)
  refine aw_aload_n 0 dX5_empty_16 rfl rfl ?_
  obtain ⟨fs8, r7, h1, h2, hw⟩ := hw
  refine aw_getf (k := 0) dX5_empty_17 clX5 (by decide) k_152 (Or.inl rfl) h1 h2 ?_
  obtain ⟨_, h1, hw⟩ := hw
  refine aw_virtI (As := []) (rest := []) dX5_empty_20 (acX8_removeAll l G (d - 1) hG (by omega) hw) iX8_removeAll rfl k_665 k_666 k_667 rfl h1 (by omega) (by decide) (by decide) rfl (Nat.le_of_ble_eq_true rfl) (fun r10 h9 hw => ?_)
  exact aw_iret dX5_empty_23 rfl rfl ⟨_, rfl, hw⟩
-- X8_numbersMatch
def wbX8_numbersMatch_20_i (K20 : Nat → Int32 → Int32 → Int32 → Int32 →  aH → Prop) (v0 : Nat) (v1 : Int32) (v2 : Int32) (v3 : Int32) (v4 : Int32) (h : aH) (Q : Int32 → aH → Prop) : Prop :=
  (v3 ≤ v4 → oB 1 ∧ Q 1 h) ∧ (¬ v3 ≤ v4 → isO h v0 6 (wX8_read h v0 v1 v4 (fun r2 h1 => isO h1 v0 6 (wX8_read h1 v0 v2 v4 (fun r4 h3 => ((lg_cmp r2 r4) = 0 → K20 v0 v1 v2 v3 ((v4 + 1)) h3) ∧ (¬ (lg_cmp r2 r4) = 0 → oB 0 ∧ Q 0 h3))))))
def wbX8_numbersMatch_20 (n : Nat) (v0 : Nat) (v1 : Int32) (v2 : Int32) (v3 : Int32) (v4 : Int32) (h : aH) (Q : Int32 → aH → Prop) : Prop := match n with
  | 0 => False
  | n + 1 => wbX8_numbersMatch_20_i (fun v0 v1 v2 v3 v4 h => wbX8_numbersMatch_20 n v0 v1 v2 v3 v4 h Q) v0 v1 v2 v3 v4 h Q
def wX8_numbersMatch (h : aH) (v0 : Nat) (v1 : Int32) (v2 : Int32) (Q : Int32 → aH → Prop) : Prop :=
  isO h v0 6 (wX8_sizeOf h v0 v1 (fun r6 h5 => isO h5 v0 6 (wX8_sizeOf h5 v0 v2 (fun r8 h7 => (r6 = r8 → ∃ n, wbX8_numbersMatch_20 n v0 v1 v2 r6 0 h7 Q) ∧ (¬ r6 = r8 → oB 0 ∧ Q 0 h7)))))
set_option maxRecDepth 100000 in
theorem abX8_numbersMatch_20_i (l : Launch) (G : aG) (d : Nat) (hG : a_GT G) (hd : 4 ≤ d) {Q : Int32 → aH → Prop} {K20 : Nat → Int32 → Int32 → Int32 → Int32 →  aH → Prop} (kk20 : ∀ (v0 : Nat) (v1 : Int32) (v2 : Int32) (v3 : Int32) (v4 : Int32) (h : aH), K20 v0 v1 v2 v3 v4 h → AW l G d 0 0 mX8_numbersMatch (qI Q) 20 [(0, .ref v0), (1, .int v1), (2, .int v2), (3, .int v3), (4, .int v4)] [] h) (v0 : Nat) (v1 : Int32) (v2 : Int32) (v3 : Int32) (v4 : Int32) (h : aH) (hw : wbX8_numbersMatch_20_i K20 v0 v1 v2 v3 v4 h Q) : AW l G d 0 0 mX8_numbersMatch (qI Q) 20 [(0, .ref v0), (1, .int v1), (2, .int v2), (3, .int v3), (4, .int v4)] [] h := by
  unfold wbX8_numbersMatch_20_i at hw
  refine aw_iload 4 dX8_numbersMatch_20 rfl ?_
  refine aw_iload_n 3 dX8_numbersMatch_22 rfl rfl ?_
  refine aw_icmp_ge (tgt := 52) dX8_numbersMatch_23 (by decide) (fun z => ?_) (fun z => ?_)
  · have hw := hw.1 z
    refine aw_iconst (v := 1) dX8_numbersMatch_52 (by decide) ?_
    exact aw_iret dX8_numbersMatch_53 rfl (a_nB hw.1) ⟨_, rfl, hw.2⟩
  · have hw := hw.2 z
    refine aw_aload_n 0 dX8_numbersMatch_26 rfl rfl ?_
    refine aw_iload_n 1 dX8_numbersMatch_27 rfl rfl ?_
    refine aw_iload 4 dX8_numbersMatch_28 rfl ?_
    obtain ⟨_, h1, hw⟩ := hw
    refine aw_virtL (As := [.int v1, .int v4]) (rest := []) dX8_numbersMatch_30 (acX8_read l G (d - 1) hG (by omega) hw) iX8_read rfl k_701 k_550 k_551 rfl h1 (by omega) (by decide) (by decide) rfl (Nat.le_of_ble_eq_true rfl) (fun r2 h1 hw => ?_)
    refine aw_aload_n 0 dX8_numbersMatch_33 rfl rfl ?_
    refine aw_iload_n 2 dX8_numbersMatch_34 rfl rfl ?_
    refine aw_iload 4 dX8_numbersMatch_35 rfl ?_
    obtain ⟨_, h1, hw⟩ := hw
    refine aw_virtL (As := [.int v2, .int v4]) (rest := [.long r2]) dX8_numbersMatch_37 (acX8_read l G (d - 1) hG (by omega) hw) iX8_read rfl k_701 k_550 k_551 rfl h1 (by omega) (by decide) (by decide) rfl (Nat.le_of_ble_eq_true rfl) (fun r4 h3 hw => ?_)
    refine aw_lcmp dX8_numbersMatch_40 ?_
    refine aw_if_eq (tgt := 46) dX8_numbersMatch_41 (by decide) (fun z => ?_) (fun z => ?_)
    · have hw := hw.1 z
      refine aw_iinc (v := (v4 + 1)) (lv' := [(4, .int (v4 + 1)), (0, .ref v0), (1, .int v1), (2, .int v2), (3, .int v3)]) 4 dX8_numbersMatch_46 rfl rfl (by decide) rfl ?_
      refine aw_goto (tgt := 20) dX8_numbersMatch_49 (by decide) ?_
      refine aw_sub (lv' := [(0, .ref v0), (1, .int v1), (2, .int v2), (3, .int v3), (4, .int (v4 + 1))]) [1, 2, 3, 4, 0] rfl ?_
      exact kk20 _ _ _ _ _ _ hw
    · have hw := hw.2 z
      refine aw_iconst (v := 0) dX8_numbersMatch_44 (by decide) ?_
      exact aw_iret dX8_numbersMatch_45 rfl (a_nB hw.1) ⟨_, rfl, hw.2⟩
set_option maxRecDepth 100000 in
theorem abX8_numbersMatch_20 (l : Launch) (G : aG) (d : Nat) (hG : a_GT G) (hd : 4 ≤ d) {Q : Int32 → aH → Prop} (n : Nat) : ∀  (v0 : Nat) (v1 : Int32) (v2 : Int32) (v3 : Int32) (v4 : Int32) (h : aH), wbX8_numbersMatch_20 n v0 v1 v2 v3 v4 h Q → AW l G d 0 0 mX8_numbersMatch (qI Q) 20 [(0, .ref v0), (1, .int v1), (2, .int v2), (3, .int v3), (4, .int v4)] [] h := by
  induction n with
  | zero => exact fun _ _ _ _ _ _ hw => hw.elim
  | succ n ih => exact fun _ _ _ _ _ _ hw => abX8_numbersMatch_20_i l G d hG hd ih _ _ _ _ _ _ hw
set_option maxRecDepth 100000 in
theorem acX8_numbersMatch (l : Launch) (G : aG) (d : Nat) (hG : a_GT G) (hd : 4 ≤ d) {Q : Int32 → aH → Prop} {h : aH} {v0 : Nat} {v1 : Int32} {v2 : Int32} (hw : wX8_numbersMatch h v0 v1 v2 Q) : AC l G d 0 0 mX8_numbersMatch [.ref v0, .int v1, .int v2] h (qI Q) := by
  refine ac_of iX8_numbersMatch (Nat.le_of_ble_eq_true rfl) ?_
  show AW l G d 0 0 mX8_numbersMatch (qI Q) 0 [(0, .ref v0), (1, .int v1), (2, .int v2)] [] h
  unfold wX8_numbersMatch at hw
  refine aw_aload_n 0 dX8_numbersMatch_0 rfl rfl ?_
  refine aw_iload_n 1 dX8_numbersMatch_1 rfl rfl ?_
  obtain ⟨_, h1, hw⟩ := hw
  refine aw_virtI (As := [.int v1]) (rest := []) dX8_numbersMatch_2 (acX8_sizeOf l G (d - 1) hG (by omega) hw) iX8_sizeOf rfl k_696 k_583 k_584 rfl h1 (by omega) (by decide) (by decide) rfl (Nat.le_of_ble_eq_true rfl) (fun r6 h5 hw => ?_)
  refine aw_istore_n (lv' := [(3, .int r6), (0, .ref v0), (1, .int v1), (2, .int v2)]) dX8_numbersMatch_5 rfl (by decide) rfl ?_
  refine aw_iload_n 0 dX8_numbersMatch_6 rfl rfl ?_
  refine aw_aload_n 1 dX8_numbersMatch_7 rfl rfl ?_
  refine aw_iload_n 3 dX8_numbersMatch_8 rfl rfl ?_
  obtain ⟨_, h1, hw⟩ := hw
  refine aw_virtI (As := [.int v2]) (rest := [.int r6]) dX8_numbersMatch_9 (acX8_sizeOf l G (d - 1) hG (by omega) hw) iX8_sizeOf rfl k_696 k_583 k_584 rfl h1 (by omega) (by decide) (by decide) rfl (Nat.le_of_ble_eq_true rfl) (fun r8 h7 hw => ?_)
  refine aw_icmp_eq (tgt := 17) dX8_numbersMatch_12 (by decide) (fun z => ?_) (fun z => ?_)
  · have hw := hw.1 z
    refine aw_iconst (v := 0) dX8_numbersMatch_17 (by decide) ?_
    refine aw_istore (lv' := [(4, .int 0), (3, .int r6), (0, .ref v0), (1, .int v1), (2, .int v2)]) dX8_numbersMatch_18 (by decide) rfl ?_
    obtain ⟨n, hw⟩ := hw
    refine aw_sub (lv' := [(0, .ref v0), (1, .int v1), (2, .int v2), (3, .int r6), (4, .int 0)]) [2, 3, 4, 1, 0] rfl ?_
    exact abX8_numbersMatch_20 l G d hG hd n _ _ _ _ _ _ hw
  · have hw := hw.2 z
    refine aw_iconst (v := 0) dX8_numbersMatch_15 (by decide) ?_
    exact aw_iret dX8_numbersMatch_16 rfl (a_nB hw.1) ⟨_, rfl, hw.2⟩
-- X8_rowsMatch
def wbX8_rowsMatch_77 (K9 : Nat → Int32 → Int32 → Int32 → Int32 →  aH → Prop) (v0 : Nat) (v1 : Int32) (v2 : Int32) (v3 : Int32) (v4 : Int32) (h : aH) (Q : Int32 → aH → Prop) : Prop :=
  K9 v0 v1 v2 v3 ((v4 + 1)) h
def wbX8_rowsMatch_75 (h : aH) (Q : Int32 → aH → Prop) : Prop :=
  oB 0 ∧ Q 0 h
def wbX8_rowsMatch_50 (K9 : Nat → Int32 → Int32 → Int32 → Int32 →  aH → Prop) (v0 : Nat) (v1 : Int32) (v2 : Int32) (v3 : Int32) (v4 : Int32) (v5 : Int32) (v6 : Int32) (s0 : Int32) (h : aH) (Q : Int32 → aH → Prop) : Prop :=
  (v5 = v6 → wbX8_rowsMatch_77  K9 v0 v1 v2 v3 v4 h Q) ∧ (¬ v5 = v6 → (¬ s0 = 0 → wbX8_rowsMatch_75  h Q) ∧ (s0 = 0 → isO h v0 6 (wX8_numbersMatch h v0 v5 v6 (fun r2 h1 => (¬ r2 = 0 → wbX8_rowsMatch_77 K9 v0 v1 v2 v3 v4 h1 Q) ∧ (r2 = 0 → wbX8_rowsMatch_75 h1 Q)))))
def wbX8_rowsMatch_45 (K9 : Nat → Int32 → Int32 → Int32 → Int32 →  aH → Prop) (v0 : Nat) (v1 : Int32) (v2 : Int32) (v3 : Int32) (v4 : Int32) (v5 : Int32) (v6 : Int32) (h : aH) (Q : Int32 → aH → Prop) : Prop :=
  wbX8_rowsMatch_50  K9 v0 v1 v2 v3 v4 v5 v6 1 h Q
def wbX8_rowsMatch_9_i (K9 : Nat → Int32 → Int32 → Int32 → Int32 →  aH → Prop) (v0 : Nat) (v1 : Int32) (v2 : Int32) (v3 : Int32) (v4 : Int32) (h : aH) (Q : Int32 → aH → Prop) : Prop :=
  (v3 ≤ v4 → oB 1 ∧ Q 1 h) ∧ (¬ v3 ≤ v4 → isO h v0 6 (wX8_read h v0 v1 v4 (fun r4 h3 => isO h3 v0 6 (wX8_read h3 v0 v2 v4 (fun r6 h5 => (r4.toInt32 = 0 → wbX8_rowsMatch_45 K9 v0 v1 v2 v3 v4 r4.toInt32 r6.toInt32 h5 Q) ∧ (¬ r4.toInt32 = 0 → (¬ r6.toInt32 = 0 → wbX8_rowsMatch_50 K9 v0 v1 v2 v3 v4 r4.toInt32 r6.toInt32 0 h5 Q) ∧ (r6.toInt32 = 0 → wbX8_rowsMatch_45 K9 v0 v1 v2 v3 v4 r4.toInt32 r6.toInt32 h5 Q)))))))
def wbX8_rowsMatch_9 (n : Nat) (v0 : Nat) (v1 : Int32) (v2 : Int32) (v3 : Int32) (v4 : Int32) (h : aH) (Q : Int32 → aH → Prop) : Prop := match n with
  | 0 => False
  | n + 1 => wbX8_rowsMatch_9_i (fun v0 v1 v2 v3 v4 h => wbX8_rowsMatch_9 n v0 v1 v2 v3 v4 h Q) v0 v1 v2 v3 v4 h Q
def wX8_rowsMatch (h : aH) (v0 : Nat) (v1 : Int32) (v2 : Int32) (Q : Int32 → aH → Prop) : Prop :=
  isO h v0 6 (wX8_sizeOf h v0 v1 (fun r8 h7 => ∃ n, wbX8_rowsMatch_9 n v0 v1 v2 r8 0 h7 Q))
set_option maxRecDepth 100000 in
theorem abX8_rowsMatch_77 (l : Launch) (G : aG) (d : Nat) (hG : a_GT G) (hd : 5 ≤ d) {Q : Int32 → aH → Prop} {K9 : Nat → Int32 → Int32 → Int32 → Int32 →  aH → Prop} (kk9 : ∀ (v0 : Nat) (v1 : Int32) (v2 : Int32) (v3 : Int32) (v4 : Int32) (h : aH), K9 v0 v1 v2 v3 v4 h → AW l G d 0 0 mX8_rowsMatch (qI Q) 9 [(0, .ref v0), (1, .int v1), (2, .int v2), (3, .int v3), (4, .int v4)] [] h) (v0 : Nat) (v1 : Int32) (v2 : Int32) (v3 : Int32) (v4 : Int32) (h : aH) (hw : wbX8_rowsMatch_77 K9 v0 v1 v2 v3 v4 h Q) : AW l G d 0 0 mX8_rowsMatch (qI Q) 77 [(0, .ref v0), (1, .int v1), (2, .int v2), (3, .int v3), (4, .int v4)] [] h := by
  unfold wbX8_rowsMatch_77 at hw
  refine aw_iinc (v := (v4 + 1)) (lv' := [(4, .int (v4 + 1)), (0, .ref v0), (1, .int v1), (2, .int v2), (3, .int v3)]) 4 dX8_rowsMatch_77 rfl rfl (by decide) rfl ?_
  refine aw_goto (tgt := 9) dX8_rowsMatch_80 (by decide) ?_
  refine aw_sub (lv' := [(0, .ref v0), (1, .int v1), (2, .int v2), (3, .int v3), (4, .int (v4 + 1))]) [1, 2, 3, 4, 0] rfl ?_
  exact kk9 _ _ _ _ _ _ hw
set_option maxRecDepth 100000 in
theorem abX8_rowsMatch_75 (l : Launch) (G : aG) (d : Nat) (hG : a_GT G) (hd : 5 ≤ d) {Q : Int32 → aH → Prop} (h : aH) (hw : wbX8_rowsMatch_75  h Q) : AW l G d 0 0 mX8_rowsMatch (qI Q) 75 [] [] h := by
  unfold wbX8_rowsMatch_75 at hw
  refine aw_iconst (v := 0) dX8_rowsMatch_75 (by decide) ?_
  exact aw_iret dX8_rowsMatch_76 rfl (a_nB hw.1) ⟨_, rfl, hw.2⟩
set_option maxRecDepth 100000 in
theorem abX8_rowsMatch_50 (l : Launch) (G : aG) (d : Nat) (hG : a_GT G) (hd : 5 ≤ d) {Q : Int32 → aH → Prop} {K9 : Nat → Int32 → Int32 → Int32 → Int32 →  aH → Prop} (kk9 : ∀ (v0 : Nat) (v1 : Int32) (v2 : Int32) (v3 : Int32) (v4 : Int32) (h : aH), K9 v0 v1 v2 v3 v4 h → AW l G d 0 0 mX8_rowsMatch (qI Q) 9 [(0, .ref v0), (1, .int v1), (2, .int v2), (3, .int v3), (4, .int v4)] [] h) (v0 : Nat) (v1 : Int32) (v2 : Int32) (v3 : Int32) (v4 : Int32) (v5 : Int32) (v6 : Int32) (s0 : Int32) (h : aH) (hw : wbX8_rowsMatch_50 K9 v0 v1 v2 v3 v4 v5 v6 s0 h Q) : AW l G d 0 0 mX8_rowsMatch (qI Q) 50 [(0, .ref v0), (1, .int v1), (2, .int v2), (3, .int v3), (4, .int v4), (5, .int v5), (6, .int v6)] [.int s0] h := by
  unfold wbX8_rowsMatch_50 at hw
  refine aw_istore (lv' := [(7, .int s0), (0, .ref v0), (1, .int v1), (2, .int v2), (3, .int v3), (4, .int v4), (5, .int v5), (6, .int v6)]) dX8_rowsMatch_50 (by decide) rfl ?_
  refine aw_iload 6 dX8_rowsMatch_52 rfl ?_
  refine aw_iload 7 dX8_rowsMatch_54 rfl ?_
  refine aw_icmp_eq (tgt := 77) dX8_rowsMatch_56 (by decide) (fun z => ?_) (fun z => ?_)
  · have hw := hw.1 z
    refine aw_sub (lv' := [(0, .ref v0), (1, .int v1), (2, .int v2), (3, .int v3), (4, .int v4)]) [1, 2, 3, 4, 5] rfl ?_
    exact abX8_rowsMatch_77 l G d hG hd kk9 _ _ _ _ _ _ hw
  · have hw := hw.2 z
    refine aw_iload 0 dX8_rowsMatch_59 rfl ?_
    refine aw_if_ne (tgt := 75) dX8_rowsMatch_61 (by decide) (fun z => ?_) (fun z => ?_)
    · have hw := hw.1 z
      refine aw_sub (lv' := []) [] rfl ?_
      exact abX8_rowsMatch_75 l G d hG hd _ hw
    · have hw := hw.2 z
      refine aw_aload_n 1 dX8_rowsMatch_64 rfl rfl ?_
      refine aw_iload 6 dX8_rowsMatch_65 rfl ?_
      refine aw_iload 7 dX8_rowsMatch_67 rfl ?_
      obtain ⟨_, h1, hw⟩ := hw
      refine aw_virtI (As := [.int v5, .int v6]) (rest := []) dX8_rowsMatch_69 (acX8_numbersMatch l G (d - 1) hG (by omega) hw) iX8_numbersMatch rfl k_702 k_704 k_27 rfl h1 (by omega) (by decide) (by decide) rfl (Nat.le_of_ble_eq_true rfl) (fun r2 h1 hw => ?_)
      refine aw_if_ne (tgt := 77) dX8_rowsMatch_72 (by decide) (fun z => ?_) (fun z => ?_)
      · have hw := hw.1 z
        refine aw_sub (lv' := [(0, .ref v0), (1, .int v1), (2, .int v2), (3, .int v3), (4, .int v4)]) [1, 2, 3, 4, 5] rfl ?_
        exact abX8_rowsMatch_77 l G d hG hd kk9 _ _ _ _ _ _ hw
      · have hw := hw.2 z
        refine aw_sub (lv' := []) [] rfl ?_
        exact abX8_rowsMatch_75 l G d hG hd _ hw
set_option maxRecDepth 100000 in
theorem abX8_rowsMatch_45 (l : Launch) (G : aG) (d : Nat) (hG : a_GT G) (hd : 5 ≤ d) {Q : Int32 → aH → Prop} {K9 : Nat → Int32 → Int32 → Int32 → Int32 →  aH → Prop} (kk9 : ∀ (v0 : Nat) (v1 : Int32) (v2 : Int32) (v3 : Int32) (v4 : Int32) (h : aH), K9 v0 v1 v2 v3 v4 h → AW l G d 0 0 mX8_rowsMatch (qI Q) 9 [(0, .ref v0), (1, .int v1), (2, .int v2), (3, .int v3), (4, .int v4)] [] h) (v0 : Nat) (v1 : Int32) (v2 : Int32) (v3 : Int32) (v4 : Int32) (v5 : Int32) (v6 : Int32) (h : aH) (hw : wbX8_rowsMatch_45 K9 v0 v1 v2 v3 v4 v5 v6 h Q) : AW l G d 0 0 mX8_rowsMatch (qI Q) 45 [(0, .ref v0), (1, .int v1), (2, .int v2), (3, .int v3), (4, .int v4), (5, .int v5), (6, .int v6)] [] h := by
  unfold wbX8_rowsMatch_45 at hw
  refine aw_iconst (v := 1) dX8_rowsMatch_45 (by decide) ?_
  refine aw_goto (tgt := 50) dX8_rowsMatch_46 (by decide) ?_
  exact abX8_rowsMatch_50 l G d hG hd kk9 _ _ _ _ _ _ _ _ _ hw
set_option maxRecDepth 100000 in
theorem abX8_rowsMatch_9_i (l : Launch) (G : aG) (d : Nat) (hG : a_GT G) (hd : 5 ≤ d) {Q : Int32 → aH → Prop} {K9 : Nat → Int32 → Int32 → Int32 → Int32 →  aH → Prop} (kk9 : ∀ (v0 : Nat) (v1 : Int32) (v2 : Int32) (v3 : Int32) (v4 : Int32) (h : aH), K9 v0 v1 v2 v3 v4 h → AW l G d 0 0 mX8_rowsMatch (qI Q) 9 [(0, .ref v0), (1, .int v1), (2, .int v2), (3, .int v3), (4, .int v4)] [] h) (v0 : Nat) (v1 : Int32) (v2 : Int32) (v3 : Int32) (v4 : Int32) (h : aH) (hw : wbX8_rowsMatch_9_i K9 v0 v1 v2 v3 v4 h Q) : AW l G d 0 0 mX8_rowsMatch (qI Q) 9 [(0, .ref v0), (1, .int v1), (2, .int v2), (3, .int v3), (4, .int v4)] [] h := by
  unfold wbX8_rowsMatch_9_i at hw
  refine aw_iload 4 dX8_rowsMatch_9 rfl ?_
  refine aw_iload_n 3 dX8_rowsMatch_11 rfl rfl ?_
  refine aw_icmp_ge (tgt := 83) dX8_rowsMatch_12 (by decide) (fun z => ?_) (fun z => ?_)
  · have hw := hw.1 z
    refine aw_iconst (v := 1) dX8_rowsMatch_83 (by decide) ?_
    exact aw_iret dX8_rowsMatch_84 rfl (a_nB hw.1) ⟨_, rfl, hw.2⟩
  · have hw := hw.2 z
    refine aw_aload_n 0 dX8_rowsMatch_15 rfl rfl ?_
    refine aw_iload_n 1 dX8_rowsMatch_16 rfl rfl ?_
    refine aw_iload 4 dX8_rowsMatch_17 rfl ?_
    obtain ⟨_, h1, hw⟩ := hw
    refine aw_virtL (As := [.int v1, .int v4]) (rest := []) dX8_rowsMatch_19 (acX8_read l G (d - 1) hG (by omega) hw) iX8_read rfl k_701 k_550 k_551 rfl h1 (by omega) (by decide) (by decide) rfl (Nat.le_of_ble_eq_true rfl) (fun r4 h3 hw => ?_)
    refine aw_l2i dX8_rowsMatch_22 ?_
    refine aw_istore (lv' := [(5, .int r4.toInt32), (0, .ref v0), (1, .int v1), (2, .int v2), (3, .int v3), (4, .int v4)]) dX8_rowsMatch_23 (by decide) rfl ?_
    refine aw_aload_n 1 dX8_rowsMatch_25 rfl rfl ?_
    refine aw_iload_n 3 dX8_rowsMatch_26 rfl rfl ?_
    refine aw_iload 5 dX8_rowsMatch_27 rfl ?_
    obtain ⟨_, h1, hw⟩ := hw
    refine aw_virtL (As := [.int v2, .int v4]) (rest := []) dX8_rowsMatch_29 (acX8_read l G (d - 1) hG (by omega) hw) iX8_read rfl k_701 k_550 k_551 rfl h1 (by omega) (by decide) (by decide) rfl (Nat.le_of_ble_eq_true rfl) (fun r6 h5 hw => ?_)
    refine aw_l2i dX8_rowsMatch_32 ?_
    refine aw_istore (lv' := [(6, .int r6.toInt32), (5, .int r4.toInt32), (0, .ref v0), (1, .int v1), (2, .int v2), (3, .int v3), (4, .int v4)]) dX8_rowsMatch_33 (by decide) rfl ?_
    refine aw_iload 1 dX8_rowsMatch_35 rfl ?_
    refine aw_if_eq (tgt := 45) dX8_rowsMatch_37 (by decide) (fun z => ?_) (fun z => ?_)
    · have hw := hw.1 z
      refine aw_sub (lv' := [(0, .ref v0), (1, .int v1), (2, .int v2), (3, .int v3), (4, .int v4), (5, .int r4.toInt32), (6, .int r6.toInt32)]) [2, 3, 4, 5, 6, 1, 0] rfl ?_
      exact abX8_rowsMatch_45 l G d hG hd kk9 _ _ _ _ _ _ _ _ hw
    · have hw := hw.2 z
      refine aw_iload 0 dX8_rowsMatch_40 rfl ?_
      refine aw_if_ne (tgt := 49) dX8_rowsMatch_42 (by decide) (fun z => ?_) (fun z => ?_)
      · have hw := hw.1 z
        refine aw_iconst (v := 0) dX8_rowsMatch_49 (by decide) ?_
        refine aw_sub (lv' := [(0, .ref v0), (1, .int v1), (2, .int v2), (3, .int v3), (4, .int v4), (5, .int r4.toInt32), (6, .int r6.toInt32)]) [2, 3, 4, 5, 6, 1, 0] rfl ?_
        exact abX8_rowsMatch_50 l G d hG hd kk9 _ _ _ _ _ _ _ _ _ hw
      · have hw := hw.2 z
        refine aw_sub (lv' := [(0, .ref v0), (1, .int v1), (2, .int v2), (3, .int v3), (4, .int v4), (5, .int r4.toInt32), (6, .int r6.toInt32)]) [2, 3, 4, 5, 6, 1, 0] rfl ?_
        exact abX8_rowsMatch_45 l G d hG hd kk9 _ _ _ _ _ _ _ _ hw
set_option maxRecDepth 100000 in
theorem abX8_rowsMatch_9 (l : Launch) (G : aG) (d : Nat) (hG : a_GT G) (hd : 5 ≤ d) {Q : Int32 → aH → Prop} (n : Nat) : ∀  (v0 : Nat) (v1 : Int32) (v2 : Int32) (v3 : Int32) (v4 : Int32) (h : aH), wbX8_rowsMatch_9 n v0 v1 v2 v3 v4 h Q → AW l G d 0 0 mX8_rowsMatch (qI Q) 9 [(0, .ref v0), (1, .int v1), (2, .int v2), (3, .int v3), (4, .int v4)] [] h := by
  induction n with
  | zero => exact fun _ _ _ _ _ _ hw => hw.elim
  | succ n ih => exact fun _ _ _ _ _ _ hw => abX8_rowsMatch_9_i l G d hG hd ih _ _ _ _ _ _ hw
set_option maxRecDepth 100000 in
theorem acX8_rowsMatch (l : Launch) (G : aG) (d : Nat) (hG : a_GT G) (hd : 5 ≤ d) {Q : Int32 → aH → Prop} {h : aH} {v0 : Nat} {v1 : Int32} {v2 : Int32} (hw : wX8_rowsMatch h v0 v1 v2 Q) : AC l G d 0 0 mX8_rowsMatch [.ref v0, .int v1, .int v2] h (qI Q) := by
  refine ac_of iX8_rowsMatch (Nat.le_of_ble_eq_true rfl) ?_
  show AW l G d 0 0 mX8_rowsMatch (qI Q) 0 [(0, .ref v0), (1, .int v1), (2, .int v2)] [] h
  unfold wX8_rowsMatch at hw
  refine aw_aload_n 0 dX8_rowsMatch_0 rfl rfl ?_
  refine aw_iload_n 1 dX8_rowsMatch_1 rfl rfl ?_
  obtain ⟨_, h1, hw⟩ := hw
  refine aw_virtI (As := [.int v1]) (rest := []) dX8_rowsMatch_2 (acX8_sizeOf l G (d - 1) hG (by omega) hw) iX8_sizeOf rfl k_696 k_583 k_584 rfl h1 (by omega) (by decide) (by decide) rfl (Nat.le_of_ble_eq_true rfl) (fun r8 h7 hw => ?_)
  refine aw_istore_n (lv' := [(3, .int r8), (0, .ref v0), (1, .int v1), (2, .int v2)]) dX8_rowsMatch_5 rfl (by decide) rfl ?_
  refine aw_iconst (v := 0) dX8_rowsMatch_6 (by decide) ?_
  refine aw_istore (lv' := [(4, .int 0), (3, .int r8), (0, .ref v0), (1, .int v1), (2, .int v2)]) dX8_rowsMatch_7 (by decide) rfl ?_
  obtain ⟨n, hw⟩ := hw
  refine aw_sub (lv' := [(0, .ref v0), (1, .int v1), (2, .int v2), (3, .int r8), (4, .int 0)]) [2, 3, 4, 1, 0] rfl ?_
  exact abX8_rowsMatch_9 l G d hG hd n _ _ _ _ _ _ hw
-- X8_match
def wbX8_match_28 (h : aH) (Q : Int32 → aH → Prop) : Prop :=
  oB 0 ∧ Q 0 h
def wbX8_match_59 (s0 : Int32) (h : aH) (Q : Int32 → aH → Prop) : Prop :=
  oB s0 ∧ Q s0 h
def wX8_match (h : aH) (v0 : Nat) (v1 : Int32) (v2 : Int32) (Q : Int32 → aH → Prop) : Prop :=
  isO h v0 6 (wX8_kindOf h v0 v1 (fun r2 h1 => isO h1 v0 6 (wX8_kindOf h1 v0 v2 (fun r4 h3 => (¬ r2 = r4 → wbX8_match_28 h3 Q) ∧ (r2 = r4 → isO h3 v0 6 (wX8_sizeOf h3 v0 v1 (fun r6 h5 => isO h5 v0 6 (wX8_sizeOf h5 v0 v2 (fun r8 h7 => (r6 = r8 → wX4_isRow h7 r2 (fun r10 h9 => (¬ r10 = 0 → (¬ r2 = 5 → isO h9 v0 6 (wX8_numbersMatch h9 v0 v1 v2 (fun r12 h11 => wbX8_match_59 r12 h11 Q))) ∧ (r2 = 5 → isO h9 v0 6 (wX8_rowsMatch h9 v0 v1 v2 (fun r14 h13 => wbX8_match_59 r14 h13 Q)))) ∧ (r10 = 0 → oB 1 ∧ Q 1 h9))) ∧ (¬ r6 = r8 → wbX8_match_28 h7 Q))))))))))
set_option maxRecDepth 100000 in
theorem abX8_match_28 (l : Launch) (G : aG) (d : Nat) (hG : a_GT G) (hd : 6 ≤ d) {Q : Int32 → aH → Prop} (h : aH) (hw : wbX8_match_28  h Q) : AW l G d 0 0 mX8_match (qI Q) 28 [] [] h := by
  unfold wbX8_match_28 at hw
  refine aw_iconst (v := 0) dX8_match_28 (by decide) ?_
  exact aw_iret dX8_match_29 rfl (a_nB hw.1) ⟨_, rfl, hw.2⟩
set_option maxRecDepth 100000 in
theorem abX8_match_59 (l : Launch) (G : aG) (d : Nat) (hG : a_GT G) (hd : 6 ≤ d) {Q : Int32 → aH → Prop} (s0 : Int32) (h : aH) (hw : wbX8_match_59 s0 h Q) : AW l G d 0 0 mX8_match (qI Q) 59 [] [.int s0] h := by
  unfold wbX8_match_59 at hw
  exact aw_iret dX8_match_59 rfl (a_nB hw.1) ⟨_, rfl, hw.2⟩
set_option maxRecDepth 100000 in
theorem acX8_match (l : Launch) (G : aG) (d : Nat) (hG : a_GT G) (hd : 6 ≤ d) {Q : Int32 → aH → Prop} {h : aH} {v0 : Nat} {v1 : Int32} {v2 : Int32} (hw : wX8_match h v0 v1 v2 Q) : AC l G d 0 0 mX8_match [.ref v0, .int v1, .int v2] h (qI Q) := by
  refine ac_of iX8_match (Nat.le_of_ble_eq_true rfl) ?_
  show AW l G d 0 0 mX8_match (qI Q) 0 [(0, .ref v0), (1, .int v1), (2, .int v2)] [] h
  unfold wX8_match at hw
  refine aw_aload_n 0 dX8_match_0 rfl rfl ?_
  refine aw_iload_n 1 dX8_match_1 rfl rfl ?_
  obtain ⟨_, h1, hw⟩ := hw
  refine aw_virtI (As := [.int v1]) (rest := []) dX8_match_2 (acX8_kindOf l G (d - 1) hG (by omega) hw) iX8_kindOf rfl k_498 k_499 k_500 rfl h1 (by omega) (by decide) (by decide) rfl (Nat.le_of_ble_eq_true rfl) (fun r2 h1 hw => ?_)
  refine aw_istore_n (lv' := [(3, .int r2), (0, .ref v0), (1, .int v1), (2, .int v2)]) dX8_match_5 rfl (by decide) rfl ?_
  refine aw_iload_n 0 dX8_match_6 rfl rfl ?_
  refine aw_aload_n 1 dX8_match_7 rfl rfl ?_
  refine aw_iload_n 3 dX8_match_8 rfl rfl ?_
  obtain ⟨_, h1, hw⟩ := hw
  refine aw_virtI (As := [.int v2]) (rest := [.int r2]) dX8_match_9 (acX8_kindOf l G (d - 1) hG (by omega) hw) iX8_kindOf rfl k_498 k_499 k_500 rfl h1 (by omega) (by decide) (by decide) rfl (Nat.le_of_ble_eq_true rfl) (fun r4 h3 hw => ?_)
  refine aw_icmp_ne (tgt := 28) dX8_match_12 (by decide) (fun z => ?_) (fun z => ?_)
  · have hw := hw.1 z
    refine aw_sub (lv' := []) [] rfl ?_
    exact abX8_match_28 l G d hG hd _ hw
  · have hw := hw.2 z
    refine aw_aload_n 1 dX8_match_15 rfl rfl ?_
    refine aw_iload_n 2 dX8_match_16 rfl rfl ?_
    obtain ⟨_, h1, hw⟩ := hw
    refine aw_virtI (As := [.int v1]) (rest := []) dX8_match_17 (acX8_sizeOf l G (d - 1) hG (by omega) hw) iX8_sizeOf rfl k_696 k_583 k_584 rfl h1 (by omega) (by decide) (by decide) rfl (Nat.le_of_ble_eq_true rfl) (fun r6 h5 hw => ?_)
    refine aw_aload_n 1 dX8_match_20 rfl rfl ?_
    refine aw_iload_n 3 dX8_match_21 rfl rfl ?_
    obtain ⟨_, h1, hw⟩ := hw
    refine aw_virtI (As := [.int v2]) (rest := [.int r6]) dX8_match_22 (acX8_sizeOf l G (d - 1) hG (by omega) hw) iX8_sizeOf rfl k_696 k_583 k_584 rfl h1 (by omega) (by decide) (by decide) rfl (Nat.le_of_ble_eq_true rfl) (fun r8 h7 hw => ?_)
    refine aw_icmp_eq (tgt := 30) dX8_match_25 (by decide) (fun z => ?_) (fun z => ?_)
    · have hw := hw.1 z
      refine aw_iload_n 0 dX8_match_30 rfl rfl ?_
      refine aw_staticI (As := [.int r2]) (rest := []) dX8_match_31 (acX4_isRow l G (d - 1) hG (by omega) hw) iX4_isRow rfl k_502 k_503 (by omega) (by decide) (by decide) rfl (Nat.le_of_ble_eq_true rfl) (fun r10 h9 hw => ?_)
      refine aw_if_ne (tgt := 39) dX8_match_34 (by decide) (fun z => ?_) (fun z => ?_)
      · have hw := hw.1 z
        refine aw_iload_n 0 dX8_match_39 rfl rfl ?_
        refine aw_iconst (v := 5) dX8_match_40 (by decide) ?_
        refine aw_icmp_ne (tgt := 53) dX8_match_41 (by decide) (fun z => ?_) (fun z => ?_)
        · have hw := hw.1 z
          refine aw_aload_n 1 dX8_match_53 rfl rfl ?_
          refine aw_iload_n 2 dX8_match_54 rfl rfl ?_
          refine aw_iload_n 3 dX8_match_55 rfl rfl ?_
          obtain ⟨_, h1, hw⟩ := hw
          refine aw_virtI (As := [.int v1, .int v2]) (rest := []) dX8_match_56 (acX8_numbersMatch l G (d - 1) hG (by omega) hw) iX8_numbersMatch rfl k_702 k_704 k_27 rfl h1 (by omega) (by decide) (by decide) rfl (Nat.le_of_ble_eq_true rfl) (fun r12 h11 hw => ?_)
          refine aw_sub (lv' := []) [] rfl ?_
          exact abX8_match_59 l G d hG hd _ _ hw
        · have hw := hw.2 z
          refine aw_aload_n 1 dX8_match_44 rfl rfl ?_
          refine aw_iload_n 2 dX8_match_45 rfl rfl ?_
          refine aw_iload_n 3 dX8_match_46 rfl rfl ?_
          obtain ⟨_, h1, hw⟩ := hw
          refine aw_virtI (As := [.int v1, .int v2]) (rest := []) dX8_match_47 (acX8_rowsMatch l G (d - 1) hG (by omega) hw) iX8_rowsMatch rfl k_697 k_699 k_26 rfl h1 (by omega) (by decide) (by decide) rfl (Nat.le_of_ble_eq_true rfl) (fun r14 h13 hw => ?_)
          refine aw_goto (tgt := 59) dX8_match_50 (by decide) ?_
          refine aw_sub (lv' := []) [] rfl ?_
          exact abX8_match_59 l G d hG hd _ _ hw
      · have hw := hw.2 z
        refine aw_iconst (v := 1) dX8_match_37 (by decide) ?_
        exact aw_iret dX8_match_38 rfl (a_nB hw.1) ⟨_, rfl, hw.2⟩
    · have hw := hw.2 z
      refine aw_sub (lv' := []) [] rfl ?_
      exact abX8_match_28 l G d hG hd _ hw
-- X10_init
def wbX10_init_37_i (K37 : Nat → Int32 →  aH → Prop) (v0 : Nat) (v1 : Int32) (h : aH) (Q : aH → Prop) : Prop :=
  (12 ≤ v1 → Q h) ∧ (¬ 12 ≤ v1 → rR h v0 8 2 (fun r1 => isO h r1 5 (wX7_put h r1 v1 1 (fun h3 => K37 v0 ((v1 + 1)) h3))))
def wbX10_init_37 (n : Nat) (v0 : Nat) (v1 : Int32) (h : aH) (Q : aH → Prop) : Prop := match n with
  | 0 => False
  | n + 1 => wbX10_init_37_i (fun v0 v1 h => wbX10_init_37 n v0 v1 h Q) v0 v1 h Q
def wX10_init (h : aH) (v0 : Nat) (Q : aH → Prop) : Prop :=
  ∀ (q5 : Nat) (h4 : aH), q5 = h.1 → h4 = a_nw h (.inr (4, [.null, .null, .null, .int 0, .int 0, .int 0, .int 0, .int 0, .int 0])) → wX5_init h4 q5 (fun h6 => wF h6 v0 8 0 (.ref q5) (fun h7 => ∀ (q10 : Nat) (h9 : aH), q10 = h7.1 → h9 = a_nw h7 (.inl (3, 80, .inr (.inr (.inr (.inr (fun _ => none)))))) → wF h9 v0 8 1 (.ref q10) (fun h11 => ∀ (q14 : Nat) (h13 : aH), q14 = h11.1 → h13 = a_nw h11 (.inr (5, [.null])) → wX7_init h13 q14 (fun h15 => wF h15 v0 8 2 (.ref q14) (fun h16 => ∃ n, wbX10_init_37 n v0 0 h16 Q)))))
set_option maxRecDepth 100000 in
theorem abX10_init_37_i (l : Launch) (G : aG) (d : Nat) (hG : a_GT G) (hd : 3 ≤ d) {Q : aH → Prop} {K37 : Nat → Int32 →  aH → Prop} (kk37 : ∀ (v0 : Nat) (v1 : Int32) (h : aH), K37 v0 v1 h → AW l G d 0 0 mX10_init (qV Q) 37 [(0, .ref v0), (1, .int v1)] [] h) (v0 : Nat) (v1 : Int32) (h : aH) (hw : wbX10_init_37_i K37 v0 v1 h Q) : AW l G d 0 0 mX10_init (qV Q) 37 [(0, .ref v0), (1, .int v1)] [] h := by
  unfold wbX10_init_37_i at hw
  refine aw_iload_n 1 dX10_init_37 rfl rfl ?_
  refine aw_bipush (v := 12) dX10_init_38 (by decide) ?_
  refine aw_icmp_ge (tgt := 58) dX10_init_40 (by decide) (fun z => ?_) (fun z => ?_)
  · have hw := hw.1 z
    exact aw_vret dX10_init_58 rfl ⟨rfl, hw⟩
  · have hw := hw.2 z
    refine aw_aload_n 0 dX10_init_43 rfl rfl ?_
    obtain ⟨fs2, r1, h1, h2, hw⟩ := hw
    refine aw_getf (k := 2) dX10_init_44 clX10 (by decide) k_212 (Or.inl rfl) h1 h2 ?_
    refine aw_iload_n 1 dX10_init_47 rfl rfl ?_
    refine aw_iconst (v := 1) dX10_init_48 (by decide) ?_
    obtain ⟨_, h1, hw⟩ := hw
    refine aw_virtV (As := [.int v1, .int 1]) (rest := []) dX10_init_49 (acX7_put l G (d - 1) hG (by omega) hw) iX7_put rfl k_206 k_207 k_208 rfl h1 (by omega) (by omega) (by omega) rfl (Nat.le_of_ble_eq_true rfl) (fun h3 hw => ?_)
    refine aw_iinc (v := (v1 + 1)) (lv' := [(1, .int (v1 + 1)), (0, .ref v0)]) 1 dX10_init_52 rfl rfl (by decide) rfl ?_
    refine aw_goto (tgt := 37) dX10_init_55 (by decide) ?_
    refine aw_sub (lv' := [(0, .ref v0), (1, .int (v1 + 1))]) [1, 0] rfl ?_
    refine aw_bud (c1 := 0) (w1 := 0) (Nat.zero_le _) (Nat.zero_le _) ?_
    exact kk37 _ _ _ hw
set_option maxRecDepth 100000 in
theorem abX10_init_37 (l : Launch) (G : aG) (d : Nat) (hG : a_GT G) (hd : 3 ≤ d) {Q : aH → Prop} (n : Nat) : ∀  (v0 : Nat) (v1 : Int32) (h : aH), wbX10_init_37 n v0 v1 h Q → AW l G d 0 0 mX10_init (qV Q) 37 [(0, .ref v0), (1, .int v1)] [] h := by
  induction n with
  | zero => exact fun _ _ _ hw => hw.elim
  | succ n ih => exact fun _ _ _ hw => abX10_init_37_i l G d hG hd ih _ _ _ hw
set_option maxRecDepth 100000 in
theorem acX10_init (l : Launch) (G : aG) (d : Nat) (hG : a_GT G) (hd : 3 ≤ d) {Q : aH → Prop} {h : aH} {v0 : Nat} (hw : wX10_init h v0 Q) : AC l G d 11 3731 mX10_init [.ref v0] h (qV Q) := by
  refine ac_of iX10_init (Nat.le_of_ble_eq_true rfl) ?_
  show AW l G d 11 3731 mX10_init (qV Q) 0 [(0, .ref v0)] [] h
  unfold wX10_init at hw
  refine aw_aload_n 0 dX10_init_0 rfl rfl ?_
  refine aw_obj dX10_init_1 k_114 k_115 k_116 (by omega) (Nat.le_of_ble_eq_true rfl) ?_
  refine aw_aload_n 0 dX10_init_4 rfl rfl ?_
  refine aw_new (ci := 4) (fs := [.null, .null, .null, .int 0, .int 0, .int 0, .int 0, .int 0, .int 0]) dX10_init_5 clX5 k_117 k_118 k_96 dvX5 (by omega) (by omega) ?_
  have hw := hw _ _ rfl rfl
  generalize a_nw _ _ = h4 at hw ⊢
  generalize h.1 = q5 at hw ⊢
  refine aw_bud (c1 := 10) (w1 := 3722) (Nat.le_refl _) (Nat.le_refl _) ?_
  refine aw_dup dX10_init_8 rfl ?_
  refine aw_initNV (As := []) (rest := [.ref q5, .ref v0]) (c1 := 7) (w1 := 3629) (host := "ThrowReports") dX10_init_9 (acX5_init l G (d - 1) hG (by omega) hw) iX5_init rfl rfl rfl (by decide +kernel) k_120 (by omega) (by omega) (by omega) rfl (Nat.le_of_ble_eq_true rfl) (fun h6 hw => ?_)
  refine aw_bud (c1 := 3) (w1 := 93) (Nat.le_refl _) (Nat.le_refl _) ?_
  obtain ⟨fs8, h1, h2, hw⟩ := hw
  refine aw_putF (k := 0) dX10_init_12 clX10 (by decide) k_210 (Or.inl rfl) rfl rfl rfl rfl rfl h1 h2 ?_
  generalize a_up _ _ _ = h7 at hw ⊢
  refine aw_aload_n 0 dX10_init_15 rfl rfl ?_
  refine aw_bipush (v := 80) dX10_init_16 (by decide) ?_
  refine aw_newq (N := 80) 3 (by decide) dX10_init_18 rfl k_194 (by decide) (by decide) (by omega) (by omega) (by omega) ?_
  have hw := hw _ _ rfl rfl
  generalize a_nw _ _ = h9 at hw ⊢
  generalize h7.1 = q10 at hw ⊢
  refine aw_bud (c1 := 2) (w1 := 13) (Nat.le_refl _) (Nat.le_refl _) ?_
  obtain ⟨fs12, h1, h2, hw⟩ := hw
  refine aw_putF (k := 1) dX10_init_21 clX10 (by decide) k_211 (Or.inl rfl) rfl rfl rfl rfl rfl h1 h2 ?_
  generalize a_up _ _ _ = h11 at hw ⊢
  refine aw_aload_n 0 dX10_init_24 rfl rfl ?_
  refine aw_new (ci := 5) (fs := [.null]) dX10_init_25 clX7 k_196 k_197 k_98 dvX7 (by omega) (by omega) ?_
  have hw := hw _ _ rfl rfl
  generalize a_nw _ _ = h13 at hw ⊢
  generalize h11.1 = q14 at hw ⊢
  refine aw_bud (c1 := 1) (w1 := 12) (Nat.le_refl _) (Nat.le_refl _) ?_
  refine aw_dup dX10_init_28 rfl ?_
  refine aw_initNV (As := []) (rest := [.ref q14, .ref v0]) (c1 := 1) (w1 := 12) (host := "ThrowReports") dX10_init_29 (acX7_init l G (d - 1) hG (by omega) hw) iX7_init rfl rfl rfl (by decide +kernel) k_199 (by omega) (by omega) (by omega) rfl (Nat.le_of_ble_eq_true rfl) (fun h15 hw => ?_)
  refine aw_bud (c1 := 0) (w1 := 0) (Nat.le_refl _) (Nat.le_refl _) ?_
  obtain ⟨fs17, h1, h2, hw⟩ := hw
  refine aw_putF (k := 2) dX10_init_32 clX10 (by decide) k_212 (Or.inl rfl) rfl rfl rfl rfl rfl h1 h2 ?_
  generalize a_up _ _ _ = h16 at hw ⊢
  refine aw_iconst (v := 0) dX10_init_35 (by decide) ?_
  refine aw_istore_n (lv' := [(1, .int 0), (0, .ref v0)]) dX10_init_36 rfl (by decide) rfl ?_
  obtain ⟨n, hw⟩ := hw
  refine aw_sub (lv' := [(0, .ref v0), (1, .int 0)]) [1, 0] rfl ?_
  refine aw_bud (c1 := 0) (w1 := 0) (Nat.zero_le _) (Nat.zero_le _) ?_
  exact abX10_init_37 l G d hG hd n _ _ _ hw
-- X10_added
def wX10_added (h : aH) (v0 : Nat) (v1 : Nat) (Q : Int32 → aH → Prop) : Prop :=
  rR h v0 8 1 (fun r1 => rI h v0 8 3 (fun r3 => sR h 3 r1 r3 v1 (fun ci => ci < 4) (fun h5 => rI h5 v0 8 3 (fun r6 => wF h5 v0 8 3 (.int (r6 + 1)) (fun h8 => rI h8 v0 8 3 (fun r10 => Q ((r10 - 1)) h8))))))
set_option maxRecDepth 100000 in
theorem acX10_added (l : Launch) (G : aG) (d : Nat) (hG : a_GT G) (hd : 1 ≤ d) {Q : Int32 → aH → Prop} {h : aH} {v0 : Nat} {v1 : Nat} (hw : wX10_added h v0 v1 Q) : AC l G d 0 0 mX10_added [.ref v0, .ref v1] h (qI Q) := by
  refine ac_of iX10_added (Nat.le_of_ble_eq_true rfl) ?_
  show AW l G d 0 0 mX10_added (qI Q) 0 [(0, .ref v0), (1, .ref v1)] [] h
  unfold wX10_added at hw
  refine aw_aload_n 0 dX10_added_0 rfl rfl ?_
  obtain ⟨fs2, r1, h1, h2, hw⟩ := hw
  refine aw_getf (k := 1) dX10_added_1 clX10 (by decide) k_211 (Or.inl rfl) h1 h2 ?_
  refine aw_aload_n 0 dX10_added_4 rfl rfl ?_
  obtain ⟨fs4, r3, h1, h2, hw⟩ := hw
  refine aw_getf (k := 3) dX10_added_5 clX10 (by decide) k_213 (Or.inl rfl) h1 h2 ?_
  refine aw_aload_n 1 dX10_added_8 rfl rfl ?_
  obtain ⟨_, _, _, _, h1, h2, h3, h4, hw⟩ := hw
  refine aw_aastNode dX10_added_9 h1 h3 h4 h2 ?_
  generalize a_up _ _ _ = h5 at hw ⊢
  refine aw_aload_n 0 dX10_added_10 rfl rfl ?_
  refine aw_dup dX10_added_11 rfl ?_
  obtain ⟨fs7, r6, h1, h2, hw⟩ := hw
  refine aw_getf (k := 3) dX10_added_12 clX10 (by decide) k_213 (Or.inl rfl) h1 h2 ?_
  refine aw_iconst (v := 1) dX10_added_15 (by decide) ?_
  refine aw_iadd dX10_added_16 ?_
  obtain ⟨fs9, h1, h2, hw⟩ := hw
  refine aw_putf (k := 3) dX10_added_17 clX10 (by decide) k_213 (Or.inl rfl) rfl rfl rfl h1 h2 ?_
  generalize a_up _ _ _ = h8 at hw ⊢
  refine aw_aload_n 0 dX10_added_20 rfl rfl ?_
  obtain ⟨fs11, r10, h1, h2, hw⟩ := hw
  refine aw_getf (k := 3) dX10_added_21 clX10 (by decide) k_213 (Or.inl rfl) h1 h2 ?_
  refine aw_iconst (v := 1) dX10_added_24 (by decide) ?_
  refine aw_isub dX10_added_25 ?_
  exact aw_iret dX10_added_26 rfl rfl ⟨_, rfl, hw⟩
-- X10_isFull
def wbX10_isFull_20 (s0 : Int32) (h : aH) (Q : Int32 → aH → Prop) : Prop :=
  oB s0 ∧ Q s0 h
def wbX10_isFull_15 (h : aH) (Q : Int32 → aH → Prop) : Prop :=
  wbX10_isFull_20 1 h Q
def wX10_isFull (h : aH) (v0 : Nat) (v1 : Int32) (Q : Int32 → aH → Prop) : Prop :=
  rI h v0 8 3 (fun r1 => (80 ≤ r1 → wbX10_isFull_15  h Q) ∧ (¬ 80 ≤ r1 → (v1 ≤ 100 → wbX10_isFull_20 0 h Q) ∧ (¬ v1 ≤ 100 → wbX10_isFull_15  h Q)))
set_option maxRecDepth 100000 in
theorem abX10_isFull_20 (l : Launch) (G : aG) (d : Nat) (hG : a_GT G) (hd : 1 ≤ d) {Q : Int32 → aH → Prop} (s0 : Int32) (h : aH) (hw : wbX10_isFull_20 s0 h Q) : AW l G d 0 0 mX10_isFull (qI Q) 20 [] [.int s0] h := by
  unfold wbX10_isFull_20 at hw
  exact aw_iret dX10_isFull_20 rfl (a_nB hw.1) ⟨_, rfl, hw.2⟩
set_option maxRecDepth 100000 in
theorem abX10_isFull_15 (l : Launch) (G : aG) (d : Nat) (hG : a_GT G) (hd : 1 ≤ d) {Q : Int32 → aH → Prop} (h : aH) (hw : wbX10_isFull_15  h Q) : AW l G d 0 0 mX10_isFull (qI Q) 15 [] [] h := by
  unfold wbX10_isFull_15 at hw
  refine aw_iconst (v := 1) dX10_isFull_15 (by decide) ?_
  refine aw_goto (tgt := 20) dX10_isFull_16 (by decide) ?_
  exact abX10_isFull_20 l G d hG hd _ _ hw
set_option maxRecDepth 100000 in
theorem acX10_isFull (l : Launch) (G : aG) (d : Nat) (hG : a_GT G) (hd : 1 ≤ d) {Q : Int32 → aH → Prop} {h : aH} {v0 : Nat} {v1 : Int32} (hw : wX10_isFull h v0 v1 Q) : AC l G d 0 0 mX10_isFull [.ref v0, .int v1] h (qI Q) := by
  refine ac_of iX10_isFull (Nat.le_of_ble_eq_true rfl) ?_
  show AW l G d 0 0 mX10_isFull (qI Q) 0 [(0, .ref v0), (1, .int v1)] [] h
  unfold wX10_isFull at hw
  refine aw_aload_n 0 dX10_isFull_0 rfl rfl ?_
  obtain ⟨fs2, r1, h1, h2, hw⟩ := hw
  refine aw_getf (k := 3) dX10_isFull_1 clX10 (by decide) k_213 (Or.inl rfl) h1 h2 ?_
  refine aw_bipush (v := 80) dX10_isFull_4 (by decide) ?_
  refine aw_icmp_ge (tgt := 15) dX10_isFull_6 (by decide) (fun z => ?_) (fun z => ?_)
  · have hw := hw.1 z
    refine aw_sub (lv' := []) [] rfl ?_
    exact abX10_isFull_15 l G d hG hd _ hw
  · have hw := hw.2 z
    refine aw_iload_n 1 dX10_isFull_9 rfl rfl ?_
    refine aw_bipush (v := 100) dX10_isFull_10 (by decide) ?_
    refine aw_icmp_le (tgt := 19) dX10_isFull_12 (by decide) (fun z => ?_) (fun z => ?_)
    · have hw := hw.1 z
      refine aw_iconst (v := 0) dX10_isFull_19 (by decide) ?_
      refine aw_sub (lv' := []) [] rfl ?_
      exact abX10_isFull_20 l G d hG hd _ _ hw
    · have hw := hw.2 z
      refine aw_sub (lv' := []) [] rfl ?_
      exact abX10_isFull_15 l G d hG hd _ hw
-- X10_act
def wbX10_act_50 (s0 : Int32) (h : aH) (Q : Int32 → aH → Prop) : Prop :=
  Q s0 h
def wX10_act (h : aH) (v0 : Nat) (v1 : Int32) (v2 : Int32) (v3 : Int32) (v4 : Int32) (v5 : Int32) (Q : Int32 → aH → Prop) : Prop :=
  wX0_isAsTold h v1 v2 v3 v4 v5 (fun r2 h1 => (¬ r2 = 0 → isO h1 v0 8 (wX10_isFull h1 v0 1 (fun r4 h3 => (r4 = 0 → ∀ (q6 : Nat) (h5 : aH), q6 = h3.1 → h5 = a_nw h3 (.inr (0, [.int 0, .int 0, .null, .null, .int 0, .int 0, .int 0, .int 0, .int 0, .int 0, .null])) → rI h5 v0 8 3 (fun r7 => wX0_init h5 q6 r7 v1 v2 v3 v4 v5 (fun h9 => isO h9 v0 8 (wX10_added h9 v0 q6 (fun r11 h10 => wbX10_act_50 r11 h10 Q))))) ∧ (¬ r4 = 0 → wbX10_act_50 ((-2)) h3 Q)))) ∧ (r2 = 0 → Q ((-1)) h1))
set_option maxRecDepth 100000 in
theorem abX10_act_50 (l : Launch) (G : aG) (d : Nat) (hG : a_GT G) (hd : 5 ≤ d) {Q : Int32 → aH → Prop} (s0 : Int32) (h : aH) (hw : wbX10_act_50 s0 h Q) : AW l G d 0 0 mX10_act (qI Q) 50 [] [.int s0] h := by
  unfold wbX10_act_50 at hw
  exact aw_iret dX10_act_50 rfl rfl ⟨_, rfl, hw⟩
set_option maxRecDepth 100000 in
theorem acX10_act (l : Launch) (G : aG) (d : Nat) (hG : a_GT G) (hd : 5 ≤ d) {Q : Int32 → aH → Prop} {h : aH} {v0 : Nat} {v1 : Int32} {v2 : Int32} {v3 : Int32} {v4 : Int32} {v5 : Int32} (hw : wX10_act h v0 v1 v2 v3 v4 v5 Q) : AC l G d 25 164 mX10_act [.ref v0, .int v1, .int v2, .int v3, .int v4, .int v5] h (qI Q) := by
  refine ac_of iX10_act (Nat.le_of_ble_eq_true rfl) ?_
  show AW l G d 25 164 mX10_act (qI Q) 0 [(0, .ref v0), (1, .int v1), (2, .int v2), (3, .int v3), (4, .int v4), (5, .int v5)] [] h
  unfold wX10_act at hw
  refine aw_iload_n 1 dX10_act_0 rfl rfl ?_
  refine aw_iload_n 2 dX10_act_1 rfl rfl ?_
  refine aw_iload_n 3 dX10_act_2 rfl rfl ?_
  refine aw_iload 4 dX10_act_3 rfl ?_
  refine aw_iload 5 dX10_act_5 rfl ?_
  refine aw_staticI (As := [.int v1, .int v2, .int v3, .int v4, .int v5]) (rest := []) dX10_act_7 (acX0_isAsTold l G (d - 1) hG (by omega) hw) iX0_isAsTold rfl k_227 k_228 (by omega) (by omega) (by omega) rfl (Nat.le_of_ble_eq_true rfl) (fun r2 h1 hw => ?_)
  refine aw_if_ne (tgt := 15) dX10_act_10 (by decide) (fun z => ?_) (fun z => ?_)
  · have hw := hw.1 z
    refine aw_aload_n 0 dX10_act_15 rfl rfl ?_
    refine aw_iconst (v := 1) dX10_act_16 (by decide) ?_
    obtain ⟨_, h1, hw⟩ := hw
    refine aw_virtI (As := [.int 1]) (rest := []) dX10_act_17 (acX10_isFull l G (d - 1) hG (by omega) hw) iX10_isFull rfl k_235 k_237 k_0 rfl h1 (by omega) (by omega) (by omega) rfl (Nat.le_of_ble_eq_true rfl) (fun r4 h3 hw => ?_)
    refine aw_if_eq (tgt := 28) dX10_act_20 (by decide) (fun z => ?_) (fun z => ?_)
    · have hw := hw.1 z
      refine aw_aload_n 0 dX10_act_28 rfl rfl ?_
      refine aw_new (ci := 0) (fs := [.int 0, .int 0, .null, .null, .int 0, .int 0, .int 0, .int 0, .int 0, .int 0, .null]) dX10_act_29 clX0 k_239 k_240 k_101 dvX0 (by omega) (by omega) ?_
      have hw := hw _ _ rfl rfl
      generalize a_nw _ _ = h5 at hw ⊢
      generalize h3.1 = q6 at hw ⊢
      refine aw_bud (c1 := 24) (w1 := 153) (Nat.le_refl _) (Nat.le_refl _) ?_
      refine aw_dup dX10_act_32 rfl ?_
      refine aw_aload_n 0 dX10_act_33 rfl rfl ?_
      obtain ⟨fs8, r7, h1, h2, hw⟩ := hw
      refine aw_getf (k := 3) dX10_act_34 clX10 (by decide) k_213 (Or.inl rfl) h1 h2 ?_
      refine aw_iload_n 1 dX10_act_37 rfl rfl ?_
      refine aw_iload_n 2 dX10_act_38 rfl rfl ?_
      refine aw_iload_n 3 dX10_act_39 rfl rfl ?_
      refine aw_iload 4 dX10_act_40 rfl ?_
      refine aw_iload 5 dX10_act_42 rfl ?_
      refine aw_initV (As := [.int r7, .int v1, .int v2, .int v3, .int v4, .int v5]) (rest := [.ref q6, .ref v0]) (c1 := 24) (w1 := 153) dX10_act_44 (acX0_init l G (d - 1) hG (by omega) hw) iX0_init rfl rfl rfl k_241 k_242 (by omega) (by omega) (by omega) rfl (Nat.le_of_ble_eq_true rfl) (fun h9 hw => ?_)
      refine aw_bud (c1 := 0) (w1 := 0) (Nat.le_refl _) (Nat.le_refl _) ?_
      obtain ⟨_, h1, hw⟩ := hw
      refine aw_virtI (As := [.ref q6]) (rest := []) dX10_act_47 (acX10_added l G (d - 1) hG (by omega) hw) iX10_added rfl k_315 k_317 k_1 rfl h1 (by omega) (by omega) (by omega) rfl (Nat.le_of_ble_eq_true rfl) (fun r11 h10 hw => ?_)
      refine aw_sub (lv' := []) [] rfl ?_
      refine aw_bud (c1 := 0) (w1 := 0) (Nat.zero_le _) (Nat.zero_le _) ?_
      exact abX10_act_50 l G d hG hd _ _ hw
    · have hw := hw.2 z
      refine aw_bipush (v := (-2)) dX10_act_23 (by decide) ?_
      refine aw_goto (tgt := 50) dX10_act_25 (by decide) ?_
      refine aw_sub (lv' := []) [] rfl ?_
      refine aw_bud (c1 := 0) (w1 := 0) (Nat.zero_le _) (Nat.zero_le _) ?_
      exact abX10_act_50 l G d hG hd _ _ hw
  · have hw := hw.2 z
    refine aw_iconst (v := (-1)) dX10_act_13 (by decide) ?_
    exact aw_iret dX10_act_14 rfl rfl ⟨_, rfl, hw⟩
-- X10_isNode
def wbX10_isNode_17 (s0 : Int32) (h : aH) (Q : Int32 → aH → Prop) : Prop :=
  oB s0 ∧ Q s0 h
def wbX10_isNode_16 (h : aH) (Q : Int32 → aH → Prop) : Prop :=
  wbX10_isNode_17 0 h Q
def wX10_isNode (h : aH) (v0 : Nat) (v1 : Int32) (Q : Int32 → aH → Prop) : Prop :=
  (v1 < 0 → wbX10_isNode_16  h Q) ∧ (¬ v1 < 0 → rI h v0 8 3 (fun r1 => (r1 ≤ v1 → wbX10_isNode_16  h Q) ∧ (¬ r1 ≤ v1 → wbX10_isNode_17 1 h Q)))
set_option maxRecDepth 100000 in
theorem abX10_isNode_17 (l : Launch) (G : aG) (d : Nat) (hG : a_GT G) (hd : 1 ≤ d) {Q : Int32 → aH → Prop} (s0 : Int32) (h : aH) (hw : wbX10_isNode_17 s0 h Q) : AW l G d 0 0 mX10_isNode (qI Q) 17 [] [.int s0] h := by
  unfold wbX10_isNode_17 at hw
  exact aw_iret dX10_isNode_17 rfl (a_nB hw.1) ⟨_, rfl, hw.2⟩
set_option maxRecDepth 100000 in
theorem abX10_isNode_16 (l : Launch) (G : aG) (d : Nat) (hG : a_GT G) (hd : 1 ≤ d) {Q : Int32 → aH → Prop} (h : aH) (hw : wbX10_isNode_16  h Q) : AW l G d 0 0 mX10_isNode (qI Q) 16 [] [] h := by
  unfold wbX10_isNode_16 at hw
  refine aw_iconst (v := 0) dX10_isNode_16 (by decide) ?_
  exact abX10_isNode_17 l G d hG hd _ _ hw
set_option maxRecDepth 100000 in
theorem acX10_isNode (l : Launch) (G : aG) (d : Nat) (hG : a_GT G) (hd : 1 ≤ d) {Q : Int32 → aH → Prop} {h : aH} {v0 : Nat} {v1 : Int32} (hw : wX10_isNode h v0 v1 Q) : AC l G d 0 0 mX10_isNode [.ref v0, .int v1] h (qI Q) := by
  refine ac_of iX10_isNode (Nat.le_of_ble_eq_true rfl) ?_
  show AW l G d 0 0 mX10_isNode (qI Q) 0 [(0, .ref v0), (1, .int v1)] [] h
  unfold wX10_isNode at hw
  refine aw_iload_n 1 dX10_isNode_0 rfl rfl ?_
  refine aw_if_lt (tgt := 16) dX10_isNode_1 (by decide) (fun z => ?_) (fun z => ?_)
  · have hw := hw.1 z
    refine aw_sub (lv' := []) [] rfl ?_
    exact abX10_isNode_16 l G d hG hd _ hw
  · have hw := hw.2 z
    refine aw_iload_n 1 dX10_isNode_4 rfl rfl ?_
    refine aw_aload_n 0 dX10_isNode_5 rfl rfl ?_
    obtain ⟨fs2, r1, h1, h2, hw⟩ := hw
    refine aw_getf (k := 3) dX10_isNode_6 clX10 (by decide) k_213 (Or.inl rfl) h1 h2 ?_
    refine aw_icmp_ge (tgt := 16) dX10_isNode_9 (by decide) (fun z => ?_) (fun z => ?_)
    · have hw := hw.1 z
      refine aw_sub (lv' := []) [] rfl ?_
      exact abX10_isNode_16 l G d hG hd _ hw
    · have hw := hw.2 z
      refine aw_iconst (v := 1) dX10_isNode_12 (by decide) ?_
      refine aw_goto (tgt := 17) dX10_isNode_13 (by decide) ?_
      refine aw_sub (lv' := []) [] rfl ?_
      exact abX10_isNode_17 l G d hG hd _ _ hw
-- X10_costOf
def wbX10_costOf_21 (s0 : Int32) (h : aH) (Q : Int32 → aH → Prop) : Prop :=
  Q s0 h
def wX10_costOf (h : aH) (v0 : Nat) (v1 : Int32) (Q : Int32 → aH → Prop) : Prop :=
  isO h v0 8 (wX10_isNode h v0 v1 (fun r2 h1 => (r2 = 0 → wbX10_costOf_21 0 h1 Q) ∧ (¬ r2 = 0 → rR h1 v0 8 1 (fun r3 => aR h1 3 r3 v1 (fun r5 => rIN h1 r5 1 (fun r6 => wbX10_costOf_21 r6 h1 Q))))))
set_option maxRecDepth 100000 in
theorem abX10_costOf_21 (l : Launch) (G : aG) (d : Nat) (hG : a_GT G) (hd : 2 ≤ d) {Q : Int32 → aH → Prop} (s0 : Int32) (h : aH) (hw : wbX10_costOf_21 s0 h Q) : AW l G d 0 0 mX10_costOf (qI Q) 21 [] [.int s0] h := by
  unfold wbX10_costOf_21 at hw
  exact aw_iret dX10_costOf_21 rfl rfl ⟨_, rfl, hw⟩
set_option maxRecDepth 100000 in
theorem acX10_costOf (l : Launch) (G : aG) (d : Nat) (hG : a_GT G) (hd : 2 ≤ d) {Q : Int32 → aH → Prop} {h : aH} {v0 : Nat} {v1 : Int32} (hw : wX10_costOf h v0 v1 Q) : AC l G d 0 0 mX10_costOf [.ref v0, .int v1] h (qI Q) := by
  refine ac_of iX10_costOf (Nat.le_of_ble_eq_true rfl) ?_
  show AW l G d 0 0 mX10_costOf (qI Q) 0 [(0, .ref v0), (1, .int v1)] [] h
  unfold wX10_costOf at hw
  refine aw_aload_n 0 dX10_costOf_0 rfl rfl ?_
  refine aw_iload_n 1 dX10_costOf_1 rfl rfl ?_
  obtain ⟨_, h1, hw⟩ := hw
  refine aw_virtI (As := [.int v1]) (rest := []) dX10_costOf_2 (acX10_isNode l G (d - 1) hG (by omega) hw) iX10_isNode rfl k_323 k_325 k_2 rfl h1 (by omega) (by decide) (by decide) rfl (Nat.le_of_ble_eq_true rfl) (fun r2 h1 hw => ?_)
  refine aw_if_eq (tgt := 20) dX10_costOf_5 (by decide) (fun z => ?_) (fun z => ?_)
  · have hw := hw.1 z
    refine aw_iconst (v := 0) dX10_costOf_20 (by decide) ?_
    refine aw_sub (lv' := []) [] rfl ?_
    exact abX10_costOf_21 l G d hG hd _ _ hw
  · have hw := hw.2 z
    refine aw_aload_n 0 dX10_costOf_8 rfl rfl ?_
    obtain ⟨fs4, r3, h1, h2, hw⟩ := hw
    refine aw_getf (k := 1) dX10_costOf_9 clX10 (by decide) k_211 (Or.inl rfl) h1 h2 ?_
    refine aw_iload_n 1 dX10_costOf_12 rfl rfl ?_
    obtain ⟨_, _, r5, h1, h2, h3, hw⟩ := hw
    refine aw_aR dX10_costOf_13 (by decide) h1 h2 h3 ?_
    obtain ⟨ci8, fs7, r6, hc, h1, h2, hw⟩ := hw
    refine aw_getN (k := 1) dX10_costOf_14 hc (by decide) k_275 h1 h2 ?_
    refine aw_goto (tgt := 21) dX10_costOf_17 (by decide) ?_
    refine aw_sub (lv' := []) [] rfl ?_
    exact abX10_costOf_21 l G d hG hd _ _ hw
-- X10_both
def wbX10_both_16 (h : aH) (Q : Int32 → aH → Prop) : Prop :=
  Q ((-1)) h
def wbX10_both_73 (s0 : Int32) (h : aH) (Q : Int32 → aH → Prop) : Prop :=
  Q s0 h
def wX10_both (h : aH) (v0 : Nat) (v1 : Int32) (v2 : Int32) (Q : Int32 → aH → Prop) : Prop :=
  isO h v0 8 (wX10_isNode h v0 v1 (fun r2 h1 => (r2 = 0 → wbX10_both_16 h1 Q) ∧ (¬ r2 = 0 → isO h1 v0 8 (wX10_isNode h1 v0 v2 (fun r4 h3 => (¬ r4 = 0 → isO h3 v0 8 (wX10_costOf h3 v0 v1 (fun r6 h5 => isO h5 v0 8 (wX10_costOf h5 v0 v2 (fun r8 h7 => isO h7 v0 8 (wX10_isFull h7 v0 (((1 + r6) + r8)) (fun r10 h9 => (r10 = 0 → ∀ (q12 : Nat) (h11 : aH), q12 = h9.1 → h11 = a_nw h9 (.inr (1, [.int 0, .int 0, .null, .null, .int 0, .null, .null, .null])) → rI h11 v0 8 3 (fun r13 => rR h11 v0 8 1 (fun r15 => aR h11 3 r15 v1 (fun r17 => rR h11 v0 8 1 (fun r18 => aR h11 3 r18 v2 (fun r20 => wX1_init h11 q12 r13 (((1 + r6) + r8)) r17 r20 (fun h21 => isO h21 v0 8 (wX10_added h21 v0 q12 (fun r23 h22 => wbX10_both_73 r23 h22 Q))))))))) ∧ (¬ r10 = 0 → wbX10_both_73 ((-2)) h9 Q)))))))) ∧ (r4 = 0 → wbX10_both_16 h3 Q))))))
set_option maxRecDepth 100000 in
theorem abX10_both_16 (l : Launch) (G : aG) (d : Nat) (hG : a_GT G) (hd : 5 ≤ d) {Q : Int32 → aH → Prop} (h : aH) (hw : wbX10_both_16  h Q) : AW l G d 0 0 mX10_both (qI Q) 16 [] [] h := by
  unfold wbX10_both_16 at hw
  refine aw_iconst (v := (-1)) dX10_both_16 (by decide) ?_
  exact aw_iret dX10_both_17 rfl rfl ⟨_, rfl, hw⟩
set_option maxRecDepth 100000 in
theorem abX10_both_73 (l : Launch) (G : aG) (d : Nat) (hG : a_GT G) (hd : 5 ≤ d) {Q : Int32 → aH → Prop} (s0 : Int32) (h : aH) (hw : wbX10_both_73 s0 h Q) : AW l G d 0 0 mX10_both (qI Q) 73 [] [.int s0] h := by
  unfold wbX10_both_73 at hw
  exact aw_iret dX10_both_73 rfl rfl ⟨_, rfl, hw⟩
set_option maxRecDepth 100000 in
theorem acX10_both (l : Launch) (G : aG) (d : Nat) (hG : a_GT G) (hd : 5 ≤ d) {Q : Int32 → aH → Prop} {h : aH} {v0 : Nat} {v1 : Int32} {v2 : Int32} (hw : wX10_both h v0 v1 v2 Q) : AC l G d 25 161 mX10_both [.ref v0, .int v1, .int v2] h (qI Q) := by
  refine ac_of iX10_both (Nat.le_of_ble_eq_true rfl) ?_
  show AW l G d 25 161 mX10_both (qI Q) 0 [(0, .ref v0), (1, .int v1), (2, .int v2)] [] h
  unfold wX10_both at hw
  refine aw_aload_n 0 dX10_both_0 rfl rfl ?_
  refine aw_iload_n 1 dX10_both_1 rfl rfl ?_
  obtain ⟨_, h1, hw⟩ := hw
  refine aw_virtI (As := [.int v1]) (rest := []) dX10_both_2 (acX10_isNode l G (d - 1) hG (by omega) hw) iX10_isNode rfl k_323 k_325 k_2 rfl h1 (by omega) (by omega) (by omega) rfl (Nat.le_of_ble_eq_true rfl) (fun r2 h1 hw => ?_)
  refine aw_if_eq (tgt := 16) dX10_both_5 (by decide) (fun z => ?_) (fun z => ?_)
  · have hw := hw.1 z
    refine aw_sub (lv' := []) [] rfl ?_
    refine aw_bud (c1 := 0) (w1 := 0) (Nat.zero_le _) (Nat.zero_le _) ?_
    exact abX10_both_16 l G d hG hd _ hw
  · have hw := hw.2 z
    refine aw_aload_n 0 dX10_both_8 rfl rfl ?_
    refine aw_iload_n 2 dX10_both_9 rfl rfl ?_
    obtain ⟨_, h1, hw⟩ := hw
    refine aw_virtI (As := [.int v2]) (rest := []) dX10_both_10 (acX10_isNode l G (d - 1) hG (by omega) hw) iX10_isNode rfl k_323 k_325 k_2 rfl h1 (by omega) (by omega) (by omega) rfl (Nat.le_of_ble_eq_true rfl) (fun r4 h3 hw => ?_)
    refine aw_if_ne (tgt := 18) dX10_both_13 (by decide) (fun z => ?_) (fun z => ?_)
    · have hw := hw.1 z
      refine aw_iconst (v := 1) dX10_both_18 (by decide) ?_
      refine aw_aload_n 0 dX10_both_19 rfl rfl ?_
      refine aw_iload_n 1 dX10_both_20 rfl rfl ?_
      obtain ⟨_, h1, hw⟩ := hw
      refine aw_virtI (As := [.int v1]) (rest := [.int 1]) dX10_both_21 (acX10_costOf l G (d - 1) hG (by omega) hw) iX10_costOf rfl k_327 k_329 k_3 rfl h1 (by omega) (by omega) (by omega) rfl (Nat.le_of_ble_eq_true rfl) (fun r6 h5 hw => ?_)
      refine aw_iadd dX10_both_24 ?_
      refine aw_aload_n 0 dX10_both_25 rfl rfl ?_
      refine aw_iload_n 2 dX10_both_26 rfl rfl ?_
      obtain ⟨_, h1, hw⟩ := hw
      refine aw_virtI (As := [.int v2]) (rest := [.int (1 + r6)]) dX10_both_27 (acX10_costOf l G (d - 1) hG (by omega) hw) iX10_costOf rfl k_327 k_329 k_3 rfl h1 (by omega) (by omega) (by omega) rfl (Nat.le_of_ble_eq_true rfl) (fun r8 h7 hw => ?_)
      refine aw_iadd dX10_both_30 ?_
      refine aw_istore_n (lv' := [(3, .int ((1 + r6) + r8)), (0, .ref v0), (1, .int v1), (2, .int v2)]) dX10_both_31 rfl (by decide) rfl ?_
      refine aw_aload_n 1 dX10_both_32 rfl rfl ?_
      refine aw_iload_n 0 dX10_both_33 rfl rfl ?_
      obtain ⟨_, h1, hw⟩ := hw
      refine aw_virtI (As := [.int ((1 + r6) + r8)]) (rest := []) dX10_both_34 (acX10_isFull l G (d - 1) hG (by omega) hw) iX10_isFull rfl k_235 k_237 k_0 rfl h1 (by omega) (by omega) (by omega) rfl (Nat.le_of_ble_eq_true rfl) (fun r10 h9 hw => ?_)
      refine aw_if_eq (tgt := 45) dX10_both_37 (by decide) (fun z => ?_) (fun z => ?_)
      · have hw := hw.1 z
        refine aw_aload_n 1 dX10_both_45 rfl rfl ?_
        refine aw_new (ci := 1) (fs := [.int 0, .int 0, .null, .null, .int 0, .null, .null, .null]) dX10_both_46 clX1 k_331 k_332 k_103 dvX1 (by omega) (by omega) ?_
        have hw := hw _ _ rfl rfl
        generalize a_nw _ _ = h11 at hw ⊢
        generalize h9.1 = q12 at hw ⊢
        refine aw_bud (c1 := 24) (w1 := 153) (Nat.le_refl _) (Nat.le_refl _) ?_
        refine aw_dup dX10_both_49 rfl ?_
        refine aw_aload_n 1 dX10_both_50 rfl rfl ?_
        obtain ⟨fs14, r13, h1, h2, hw⟩ := hw
        refine aw_getf (k := 3) dX10_both_51 clX10 (by decide) k_213 (Or.inl rfl) h1 h2 ?_
        refine aw_iload_n 0 dX10_both_54 rfl rfl ?_
        refine aw_aload_n 1 dX10_both_55 rfl rfl ?_
        obtain ⟨fs16, r15, h1, h2, hw⟩ := hw
        refine aw_getf (k := 1) dX10_both_56 clX10 (by decide) k_211 (Or.inl rfl) h1 h2 ?_
        refine aw_iload_n 2 dX10_both_59 rfl rfl ?_
        obtain ⟨_, _, r17, h1, h2, h3, hw⟩ := hw
        refine aw_aR dX10_both_60 (by decide) h1 h2 h3 ?_
        refine aw_aload_n 1 dX10_both_61 rfl rfl ?_
        obtain ⟨fs19, r18, h1, h2, hw⟩ := hw
        refine aw_getf (k := 1) dX10_both_62 clX10 (by decide) k_211 (Or.inl rfl) h1 h2 ?_
        refine aw_iload_n 3 dX10_both_65 rfl rfl ?_
        obtain ⟨_, _, r20, h1, h2, h3, hw⟩ := hw
        refine aw_aR dX10_both_66 (by decide) h1 h2 h3 ?_
        refine aw_initV (As := [.int r13, .int ((1 + r6) + r8), .ref r17, .ref r20]) (rest := [.ref q12, .ref v0]) (c1 := 24) (w1 := 153) dX10_both_67 (acX1_init l G (d - 1) hG (by omega) hw) iX1_init rfl rfl rfl k_333 k_334 (by omega) (by omega) (by omega) rfl (Nat.le_of_ble_eq_true rfl) (fun h21 hw => ?_)
        refine aw_bud (c1 := 0) (w1 := 0) (Nat.le_refl _) (Nat.le_refl _) ?_
        obtain ⟨_, h1, hw⟩ := hw
        refine aw_virtI (As := [.ref q12]) (rest := []) dX10_both_70 (acX10_added l G (d - 1) hG (by omega) hw) iX10_added rfl k_315 k_317 k_1 rfl h1 (by omega) (by omega) (by omega) rfl (Nat.le_of_ble_eq_true rfl) (fun r23 h22 hw => ?_)
        refine aw_sub (lv' := []) [] rfl ?_
        refine aw_bud (c1 := 0) (w1 := 0) (Nat.zero_le _) (Nat.zero_le _) ?_
        exact abX10_both_73 l G d hG hd _ _ hw
      · have hw := hw.2 z
        refine aw_bipush (v := (-2)) dX10_both_40 (by decide) ?_
        refine aw_goto (tgt := 73) dX10_both_42 (by decide) ?_
        refine aw_sub (lv' := []) [] rfl ?_
        refine aw_bud (c1 := 0) (w1 := 0) (Nat.zero_le _) (Nat.zero_le _) ?_
        exact abX10_both_73 l G d hG hd _ _ hw
    · have hw := hw.2 z
      refine aw_sub (lv' := []) [] rfl ?_
      refine aw_bud (c1 := 0) (w1 := 0) (Nat.zero_le _) (Nat.zero_le _) ?_
      exact abX10_both_16 l G d hG hd _ hw
-- X10_isSlot
def wbX10_isSlot_15 (s0 : Int32) (h : aH) (Q : Int32 → aH → Prop) : Prop :=
  oB s0 ∧ Q s0 h
def wbX10_isSlot_14 (h : aH) (Q : Int32 → aH → Prop) : Prop :=
  wbX10_isSlot_15 0 h Q
def wX10_isSlot (h : aH) (v0 : Int32) (Q : Int32 → aH → Prop) : Prop :=
  (v0 < 0 → wbX10_isSlot_14  h Q) ∧ (¬ v0 < 0 → (12 ≤ v0 → wbX10_isSlot_14  h Q) ∧ (¬ 12 ≤ v0 → wbX10_isSlot_15 1 h Q))
set_option maxRecDepth 100000 in
theorem abX10_isSlot_15 (l : Launch) (G : aG) (d : Nat) (hG : a_GT G) (hd : 1 ≤ d) {Q : Int32 → aH → Prop} (s0 : Int32) (h : aH) (hw : wbX10_isSlot_15 s0 h Q) : AW l G d 0 0 mX10_isSlot (qI Q) 15 [] [.int s0] h := by
  unfold wbX10_isSlot_15 at hw
  exact aw_iret dX10_isSlot_15 rfl (a_nB hw.1) ⟨_, rfl, hw.2⟩
set_option maxRecDepth 100000 in
theorem abX10_isSlot_14 (l : Launch) (G : aG) (d : Nat) (hG : a_GT G) (hd : 1 ≤ d) {Q : Int32 → aH → Prop} (h : aH) (hw : wbX10_isSlot_14  h Q) : AW l G d 0 0 mX10_isSlot (qI Q) 14 [] [] h := by
  unfold wbX10_isSlot_14 at hw
  refine aw_iconst (v := 0) dX10_isSlot_14 (by decide) ?_
  exact abX10_isSlot_15 l G d hG hd _ _ hw
set_option maxRecDepth 100000 in
theorem acX10_isSlot (l : Launch) (G : aG) (d : Nat) (hG : a_GT G) (hd : 1 ≤ d) {Q : Int32 → aH → Prop} {h : aH} {v0 : Int32} (hw : wX10_isSlot h v0 Q) : AC l G d 0 0 mX10_isSlot [.int v0] h (qI Q) := by
  refine ac_of iX10_isSlot (Nat.le_of_ble_eq_true rfl) ?_
  show AW l G d 0 0 mX10_isSlot (qI Q) 0 [(0, .int v0)] [] h
  unfold wX10_isSlot at hw
  refine aw_iload_n 0 dX10_isSlot_0 rfl rfl ?_
  refine aw_if_lt (tgt := 14) dX10_isSlot_1 (by decide) (fun z => ?_) (fun z => ?_)
  · have hw := hw.1 z
    refine aw_sub (lv' := []) [] rfl ?_
    exact abX10_isSlot_14 l G d hG hd _ hw
  · have hw := hw.2 z
    refine aw_iload_n 0 dX10_isSlot_4 rfl rfl ?_
    refine aw_bipush (v := 12) dX10_isSlot_5 (by decide) ?_
    refine aw_icmp_ge (tgt := 14) dX10_isSlot_7 (by decide) (fun z => ?_) (fun z => ?_)
    · have hw := hw.1 z
      refine aw_sub (lv' := []) [] rfl ?_
      exact abX10_isSlot_14 l G d hG hd _ hw
    · have hw := hw.2 z
      refine aw_iconst (v := 1) dX10_isSlot_10 (by decide) ?_
      refine aw_goto (tgt := 15) dX10_isSlot_11 (by decide) ?_
      refine aw_sub (lv' := []) [] rfl ?_
      exact abX10_isSlot_15 l G d hG hd _ _ hw
-- X10_choice
def wbX10_choice_34 (h : aH) (Q : Int32 → aH → Prop) : Prop :=
  Q ((-1)) h
def wbX10_choice_98 (s0 : Int32) (h : aH) (Q : Int32 → aH → Prop) : Prop :=
  Q s0 h
def wX10_choice (h : aH) (v0 : Nat) (v1 : Int32) (v2 : Int32) (v3 : Int32) (v4 : Int32) (Q : Int32 → aH → Prop) : Prop :=
  wX10_isSlot h v1 (fun r2 h1 => (r2 = 0 → wbX10_choice_34 h1 Q) ∧ (¬ r2 = 0 → (v2 < 0 → wbX10_choice_34 h1 Q) ∧ (¬ v2 < 0 → (9 < v2 → wbX10_choice_34 h1 Q) ∧ (¬ 9 < v2 → isO h1 v0 8 (wX10_isNode h1 v0 v3 (fun r4 h3 => (r4 = 0 → wbX10_choice_34 h3 Q) ∧ (¬ r4 = 0 → isO h3 v0 8 (wX10_isNode h3 v0 v4 (fun r6 h5 => (¬ r6 = 0 → isO h5 v0 8 (wX10_costOf h5 v0 v3 (fun r8 h7 => isO h7 v0 8 (wX10_costOf h7 v0 v4 (fun r10 h9 => isO h9 v0 8 (wX10_isFull h9 v0 (((1 + r8) + r10)) (fun r12 h11 => (r12 = 0 → ∀ (q14 : Nat) (h13 : aH), q14 = h11.1 → h13 = a_nw h11 (.inr (2, [.int 0, .int 0, .null, .null, .int 0, .int 0, .int 0, .null, .null, .null])) → rI h13 v0 8 3 (fun r15 => rR h13 v0 8 1 (fun r17 => aR h13 3 r17 v3 (fun r19 => rR h13 v0 8 1 (fun r20 => aR h13 3 r20 v4 (fun r22 => wX2_init h13 q14 r15 (((1 + r8) + r10)) v1 v2 r19 r22 (fun h23 => isO h23 v0 8 (wX10_added h23 v0 q14 (fun r25 h24 => wbX10_choice_98 r25 h24 Q))))))))) ∧ (¬ r12 = 0 → wbX10_choice_98 ((-2)) h11 Q)))))))) ∧ (r6 = 0 → wbX10_choice_34 h5 Q))))))))))
set_option maxRecDepth 100000 in
theorem abX10_choice_34 (l : Launch) (G : aG) (d : Nat) (hG : a_GT G) (hd : 5 ≤ d) {Q : Int32 → aH → Prop} (h : aH) (hw : wbX10_choice_34  h Q) : AW l G d 0 0 mX10_choice (qI Q) 34 [] [] h := by
  unfold wbX10_choice_34 at hw
  refine aw_iconst (v := (-1)) dX10_choice_34 (by decide) ?_
  exact aw_iret dX10_choice_35 rfl rfl ⟨_, rfl, hw⟩
set_option maxRecDepth 100000 in
theorem abX10_choice_98 (l : Launch) (G : aG) (d : Nat) (hG : a_GT G) (hd : 5 ≤ d) {Q : Int32 → aH → Prop} (s0 : Int32) (h : aH) (hw : wbX10_choice_98 s0 h Q) : AW l G d 0 0 mX10_choice (qI Q) 98 [] [.int s0] h := by
  unfold wbX10_choice_98 at hw
  exact aw_iret dX10_choice_98 rfl rfl ⟨_, rfl, hw⟩
set_option maxRecDepth 100000 in
theorem acX10_choice (l : Launch) (G : aG) (d : Nat) (hG : a_GT G) (hd : 5 ≤ d) {Q : Int32 → aH → Prop} {h : aH} {v0 : Nat} {v1 : Int32} {v2 : Int32} {v3 : Int32} {v4 : Int32} (hw : wX10_choice h v0 v1 v2 v3 v4 Q) : AC l G d 25 163 mX10_choice [.ref v0, .int v1, .int v2, .int v3, .int v4] h (qI Q) := by
  refine ac_of iX10_choice (Nat.le_of_ble_eq_true rfl) ?_
  show AW l G d 25 163 mX10_choice (qI Q) 0 [(0, .ref v0), (1, .int v1), (2, .int v2), (3, .int v3), (4, .int v4)] [] h
  unfold wX10_choice at hw
  refine aw_iload_n 1 dX10_choice_0 rfl rfl ?_
  refine aw_staticI (As := [.int v1]) (rest := []) dX10_choice_1 (acX10_isSlot l G (d - 1) hG (by omega) hw) iX10_isSlot rfl k_358 k_359 (by omega) (by omega) (by omega) rfl (Nat.le_of_ble_eq_true rfl) (fun r2 h1 hw => ?_)
  refine aw_if_eq (tgt := 34) dX10_choice_4 (by decide) (fun z => ?_) (fun z => ?_)
  · have hw := hw.1 z
    refine aw_sub (lv' := []) [] rfl ?_
    refine aw_bud (c1 := 0) (w1 := 0) (Nat.zero_le _) (Nat.zero_le _) ?_
    exact abX10_choice_34 l G d hG hd _ hw
  · have hw := hw.2 z
    refine aw_iload_n 2 dX10_choice_7 rfl rfl ?_
    refine aw_if_lt (tgt := 34) dX10_choice_8 (by decide) (fun z => ?_) (fun z => ?_)
    · have hw := hw.1 z
      refine aw_sub (lv' := []) [] rfl ?_
      refine aw_bud (c1 := 0) (w1 := 0) (Nat.zero_le _) (Nat.zero_le _) ?_
      exact abX10_choice_34 l G d hG hd _ hw
    · have hw := hw.2 z
      refine aw_iload_n 2 dX10_choice_11 rfl rfl ?_
      refine aw_bipush (v := 9) dX10_choice_12 (by decide) ?_
      refine aw_icmp_gt (tgt := 34) dX10_choice_14 (by decide) (fun z => ?_) (fun z => ?_)
      · have hw := hw.1 z
        refine aw_sub (lv' := []) [] rfl ?_
        refine aw_bud (c1 := 0) (w1 := 0) (Nat.zero_le _) (Nat.zero_le _) ?_
        exact abX10_choice_34 l G d hG hd _ hw
      · have hw := hw.2 z
        refine aw_aload_n 0 dX10_choice_17 rfl rfl ?_
        refine aw_iload_n 3 dX10_choice_18 rfl rfl ?_
        obtain ⟨_, h1, hw⟩ := hw
        refine aw_virtI (As := [.int v3]) (rest := []) dX10_choice_19 (acX10_isNode l G (d - 1) hG (by omega) hw) iX10_isNode rfl k_323 k_325 k_2 rfl h1 (by omega) (by omega) (by omega) rfl (Nat.le_of_ble_eq_true rfl) (fun r4 h3 hw => ?_)
        refine aw_if_eq (tgt := 34) dX10_choice_22 (by decide) (fun z => ?_) (fun z => ?_)
        · have hw := hw.1 z
          refine aw_sub (lv' := []) [] rfl ?_
          refine aw_bud (c1 := 0) (w1 := 0) (Nat.zero_le _) (Nat.zero_le _) ?_
          exact abX10_choice_34 l G d hG hd _ hw
        · have hw := hw.2 z
          refine aw_aload_n 0 dX10_choice_25 rfl rfl ?_
          refine aw_iload 4 dX10_choice_26 rfl ?_
          obtain ⟨_, h1, hw⟩ := hw
          refine aw_virtI (As := [.int v4]) (rest := []) dX10_choice_28 (acX10_isNode l G (d - 1) hG (by omega) hw) iX10_isNode rfl k_323 k_325 k_2 rfl h1 (by omega) (by omega) (by omega) rfl (Nat.le_of_ble_eq_true rfl) (fun r6 h5 hw => ?_)
          refine aw_if_ne (tgt := 36) dX10_choice_31 (by decide) (fun z => ?_) (fun z => ?_)
          · have hw := hw.1 z
            refine aw_iconst (v := 1) dX10_choice_36 (by decide) ?_
            refine aw_aload_n 0 dX10_choice_37 rfl rfl ?_
            refine aw_iload_n 3 dX10_choice_38 rfl rfl ?_
            obtain ⟨_, h1, hw⟩ := hw
            refine aw_virtI (As := [.int v3]) (rest := [.int 1]) dX10_choice_39 (acX10_costOf l G (d - 1) hG (by omega) hw) iX10_costOf rfl k_327 k_329 k_3 rfl h1 (by omega) (by omega) (by omega) rfl (Nat.le_of_ble_eq_true rfl) (fun r8 h7 hw => ?_)
            refine aw_iadd dX10_choice_42 ?_
            refine aw_aload_n 0 dX10_choice_43 rfl rfl ?_
            refine aw_iload 4 dX10_choice_44 rfl ?_
            obtain ⟨_, h1, hw⟩ := hw
            refine aw_virtI (As := [.int v4]) (rest := [.int (1 + r8)]) dX10_choice_46 (acX10_costOf l G (d - 1) hG (by omega) hw) iX10_costOf rfl k_327 k_329 k_3 rfl h1 (by omega) (by omega) (by omega) rfl (Nat.le_of_ble_eq_true rfl) (fun r10 h9 hw => ?_)
            refine aw_iadd dX10_choice_49 ?_
            refine aw_istore (lv' := [(5, .int ((1 + r8) + r10)), (0, .ref v0), (1, .int v1), (2, .int v2), (3, .int v3), (4, .int v4)]) dX10_choice_50 (by decide) rfl ?_
            refine aw_aload_n 1 dX10_choice_52 rfl rfl ?_
            refine aw_iload 0 dX10_choice_53 rfl ?_
            obtain ⟨_, h1, hw⟩ := hw
            refine aw_virtI (As := [.int ((1 + r8) + r10)]) (rest := []) dX10_choice_55 (acX10_isFull l G (d - 1) hG (by omega) hw) iX10_isFull rfl k_235 k_237 k_0 rfl h1 (by omega) (by omega) (by omega) rfl (Nat.le_of_ble_eq_true rfl) (fun r12 h11 hw => ?_)
            refine aw_if_eq (tgt := 66) dX10_choice_58 (by decide) (fun z => ?_) (fun z => ?_)
            · have hw := hw.1 z
              refine aw_aload_n 1 dX10_choice_66 rfl rfl ?_
              refine aw_new (ci := 2) (fs := [.int 0, .int 0, .null, .null, .int 0, .int 0, .int 0, .null, .null, .null]) dX10_choice_67 clX2 k_361 k_362 k_104 dvX2 (by omega) (by omega) ?_
              have hw := hw _ _ rfl rfl
              generalize a_nw _ _ = h13 at hw ⊢
              generalize h11.1 = q14 at hw ⊢
              refine aw_bud (c1 := 24) (w1 := 153) (Nat.le_refl _) (Nat.le_refl _) ?_
              refine aw_dup dX10_choice_70 rfl ?_
              refine aw_aload_n 1 dX10_choice_71 rfl rfl ?_
              obtain ⟨fs16, r15, h1, h2, hw⟩ := hw
              refine aw_getf (k := 3) dX10_choice_72 clX10 (by decide) k_213 (Or.inl rfl) h1 h2 ?_
              refine aw_iload 0 dX10_choice_75 rfl ?_
              refine aw_iload_n 2 dX10_choice_77 rfl rfl ?_
              refine aw_iload_n 3 dX10_choice_78 rfl rfl ?_
              refine aw_aload_n 1 dX10_choice_79 rfl rfl ?_
              obtain ⟨fs18, r17, h1, h2, hw⟩ := hw
              refine aw_getf (k := 1) dX10_choice_80 clX10 (by decide) k_211 (Or.inl rfl) h1 h2 ?_
              refine aw_iload_n 4 dX10_choice_83 rfl rfl ?_
              obtain ⟨_, _, r19, h1, h2, h3, hw⟩ := hw
              refine aw_aR dX10_choice_84 (by decide) h1 h2 h3 ?_
              refine aw_aload_n 1 dX10_choice_85 rfl rfl ?_
              obtain ⟨fs21, r20, h1, h2, hw⟩ := hw
              refine aw_getf (k := 1) dX10_choice_86 clX10 (by decide) k_211 (Or.inl rfl) h1 h2 ?_
              refine aw_iload 5 dX10_choice_89 rfl ?_
              obtain ⟨_, _, r22, h1, h2, h3, hw⟩ := hw
              refine aw_aR dX10_choice_91 (by decide) h1 h2 h3 ?_
              refine aw_initV (As := [.int r15, .int ((1 + r8) + r10), .int v1, .int v2, .ref r19, .ref r22]) (rest := [.ref q14, .ref v0]) (c1 := 24) (w1 := 153) dX10_choice_92 (acX2_init l G (d - 1) hG (by omega) hw) iX2_init rfl rfl rfl k_363 k_364 (by omega) (by omega) (by omega) rfl (Nat.le_of_ble_eq_true rfl) (fun h23 hw => ?_)
              refine aw_bud (c1 := 0) (w1 := 0) (Nat.le_refl _) (Nat.le_refl _) ?_
              obtain ⟨_, h1, hw⟩ := hw
              refine aw_virtI (As := [.ref q14]) (rest := []) dX10_choice_95 (acX10_added l G (d - 1) hG (by omega) hw) iX10_added rfl k_315 k_317 k_1 rfl h1 (by omega) (by omega) (by omega) rfl (Nat.le_of_ble_eq_true rfl) (fun r25 h24 hw => ?_)
              refine aw_sub (lv' := []) [] rfl ?_
              refine aw_bud (c1 := 0) (w1 := 0) (Nat.zero_le _) (Nat.zero_le _) ?_
              exact abX10_choice_98 l G d hG hd _ _ hw
            · have hw := hw.2 z
              refine aw_bipush (v := (-2)) dX10_choice_61 (by decide) ?_
              refine aw_goto (tgt := 98) dX10_choice_63 (by decide) ?_
              refine aw_sub (lv' := []) [] rfl ?_
              refine aw_bud (c1 := 0) (w1 := 0) (Nat.zero_le _) (Nat.zero_le _) ?_
              exact abX10_choice_98 l G d hG hd _ _ hw
          · have hw := hw.2 z
            refine aw_sub (lv' := []) [] rfl ?_
            refine aw_bud (c1 := 0) (w1 := 0) (Nat.zero_le _) (Nat.zero_le _) ?_
            exact abX10_choice_34 l G d hG hd _ hw
-- X10_nodeOrNull
def wbX10_nodeOrNull_18 (s0 : Option Nat) (h : aH) (Q : Option Nat → aH → Prop) : Prop :=
  Q s0 h
def wX10_nodeOrNull (h : aH) (v0 : Nat) (v1 : Int32) (Q : Option Nat → aH → Prop) : Prop :=
  isO h v0 8 (wX10_isNode h v0 v1 (fun r2 h1 => (r2 = 0 → wbX10_nodeOrNull_18 none h1 Q) ∧ (¬ r2 = 0 → rR h1 v0 8 1 (fun r3 => aR h1 3 r3 v1 (fun r5 => wbX10_nodeOrNull_18 (some r5) h1 Q)))))
set_option maxRecDepth 100000 in
theorem abX10_nodeOrNull_18 (l : Launch) (G : aG) (d : Nat) (hG : a_GT G) (hd : 2 ≤ d) {Q : Option Nat → aH → Prop} (s0 : Option Nat) (h : aH) (hw : wbX10_nodeOrNull_18 s0 h Q) : AW l G d 0 0 mX10_nodeOrNull (qQ Q) 18 [] [va_rf s0] h := by
  unfold wbX10_nodeOrNull_18 at hw
  exact aw_aret (r := s0) dX10_nodeOrNull_18 rfl ⟨_, rfl, hw⟩
set_option maxRecDepth 100000 in
theorem acX10_nodeOrNull (l : Launch) (G : aG) (d : Nat) (hG : a_GT G) (hd : 2 ≤ d) {Q : Option Nat → aH → Prop} {h : aH} {v0 : Nat} {v1 : Int32} (hw : wX10_nodeOrNull h v0 v1 Q) : AC l G d 0 0 mX10_nodeOrNull [.ref v0, .int v1] h (qQ Q) := by
  refine ac_of iX10_nodeOrNull (Nat.le_of_ble_eq_true rfl) ?_
  show AW l G d 0 0 mX10_nodeOrNull (qQ Q) 0 [(0, .ref v0), (1, .int v1)] [] h
  unfold wX10_nodeOrNull at hw
  refine aw_aload_n 0 dX10_nodeOrNull_0 rfl rfl ?_
  refine aw_iload_n 1 dX10_nodeOrNull_1 rfl rfl ?_
  obtain ⟨_, h1, hw⟩ := hw
  refine aw_virtI (As := [.int v1]) (rest := []) dX10_nodeOrNull_2 (acX10_isNode l G (d - 1) hG (by omega) hw) iX10_isNode rfl k_323 k_325 k_2 rfl h1 (by omega) (by decide) (by decide) rfl (Nat.le_of_ble_eq_true rfl) (fun r2 h1 hw => ?_)
  refine aw_if_eq (tgt := 17) dX10_nodeOrNull_5 (by decide) (fun z => ?_) (fun z => ?_)
  · have hw := hw.1 z
    refine aw_null dX10_nodeOrNull_17 ?_
    refine aw_sub (lv' := []) [] rfl ?_
    exact abX10_nodeOrNull_18 l G d hG hd _ _ hw
  · have hw := hw.2 z
    refine aw_aload_n 0 dX10_nodeOrNull_8 rfl rfl ?_
    obtain ⟨fs4, r3, h1, h2, hw⟩ := hw
    refine aw_getf (k := 1) dX10_nodeOrNull_9 clX10 (by decide) k_211 (Or.inl rfl) h1 h2 ?_
    refine aw_iload_n 1 dX10_nodeOrNull_12 rfl rfl ?_
    obtain ⟨_, _, r5, h1, h2, h3, hw⟩ := hw
    refine aw_aR dX10_nodeOrNull_13 (by decide) h1 h2 h3 ?_
    refine aw_goto (tgt := 18) dX10_nodeOrNull_14 (by decide) ?_
    refine aw_sub (lv' := []) [] rfl ?_
    exact abX10_nodeOrNull_18 l G d hG hd _ _ hw
-- X10_isNodeOrNone
def wbX10_isNodeOrNone_18 (s0 : Int32) (h : aH) (Q : Int32 → aH → Prop) : Prop :=
  oB s0 ∧ Q s0 h
def wbX10_isNodeOrNone_13 (h : aH) (Q : Int32 → aH → Prop) : Prop :=
  wbX10_isNodeOrNone_18 1 h Q
def wX10_isNodeOrNone (h : aH) (v0 : Nat) (v1 : Int32) (Q : Int32 → aH → Prop) : Prop :=
  (v1 = (-1) → wbX10_isNodeOrNone_13  h Q) ∧ (¬ v1 = (-1) → isO h v0 8 (wX10_isNode h v0 v1 (fun r2 h1 => (r2 = 0 → wbX10_isNodeOrNone_18 0 h1 Q) ∧ (¬ r2 = 0 → wbX10_isNodeOrNone_13 h1 Q))))
set_option maxRecDepth 100000 in
theorem abX10_isNodeOrNone_18 (l : Launch) (G : aG) (d : Nat) (hG : a_GT G) (hd : 2 ≤ d) {Q : Int32 → aH → Prop} (s0 : Int32) (h : aH) (hw : wbX10_isNodeOrNone_18 s0 h Q) : AW l G d 0 0 mX10_isNodeOrNone (qI Q) 18 [] [.int s0] h := by
  unfold wbX10_isNodeOrNone_18 at hw
  exact aw_iret dX10_isNodeOrNone_18 rfl (a_nB hw.1) ⟨_, rfl, hw.2⟩
set_option maxRecDepth 100000 in
theorem abX10_isNodeOrNone_13 (l : Launch) (G : aG) (d : Nat) (hG : a_GT G) (hd : 2 ≤ d) {Q : Int32 → aH → Prop} (h : aH) (hw : wbX10_isNodeOrNone_13  h Q) : AW l G d 0 0 mX10_isNodeOrNone (qI Q) 13 [] [] h := by
  unfold wbX10_isNodeOrNone_13 at hw
  refine aw_iconst (v := 1) dX10_isNodeOrNone_13 (by decide) ?_
  refine aw_goto (tgt := 18) dX10_isNodeOrNone_14 (by decide) ?_
  exact abX10_isNodeOrNone_18 l G d hG hd _ _ hw
set_option maxRecDepth 100000 in
theorem acX10_isNodeOrNone (l : Launch) (G : aG) (d : Nat) (hG : a_GT G) (hd : 2 ≤ d) {Q : Int32 → aH → Prop} {h : aH} {v0 : Nat} {v1 : Int32} (hw : wX10_isNodeOrNone h v0 v1 Q) : AC l G d 0 0 mX10_isNodeOrNone [.ref v0, .int v1] h (qI Q) := by
  refine ac_of iX10_isNodeOrNone (Nat.le_of_ble_eq_true rfl) ?_
  show AW l G d 0 0 mX10_isNodeOrNone (qI Q) 0 [(0, .ref v0), (1, .int v1)] [] h
  unfold wX10_isNodeOrNone at hw
  refine aw_iload_n 1 dX10_isNodeOrNone_0 rfl rfl ?_
  refine aw_iconst (v := (-1)) dX10_isNodeOrNone_1 (by decide) ?_
  refine aw_icmp_eq (tgt := 13) dX10_isNodeOrNone_2 (by decide) (fun z => ?_) (fun z => ?_)
  · have hw := hw.1 z
    refine aw_sub (lv' := []) [] rfl ?_
    exact abX10_isNodeOrNone_13 l G d hG hd _ hw
  · have hw := hw.2 z
    refine aw_aload_n 0 dX10_isNodeOrNone_5 rfl rfl ?_
    refine aw_iload_n 1 dX10_isNodeOrNone_6 rfl rfl ?_
    obtain ⟨_, h1, hw⟩ := hw
    refine aw_virtI (As := [.int v1]) (rest := []) dX10_isNodeOrNone_7 (acX10_isNode l G (d - 1) hG (by omega) hw) iX10_isNode rfl k_323 k_325 k_2 rfl h1 (by omega) (by decide) (by decide) rfl (Nat.le_of_ble_eq_true rfl) (fun r2 h1 hw => ?_)
    refine aw_if_eq (tgt := 17) dX10_isNodeOrNone_10 (by decide) (fun z => ?_) (fun z => ?_)
    · have hw := hw.1 z
      refine aw_iconst (v := 0) dX10_isNodeOrNone_17 (by decide) ?_
      refine aw_sub (lv' := []) [] rfl ?_
      exact abX10_isNodeOrNone_18 l G d hG hd _ _ hw
    · have hw := hw.2 z
      refine aw_sub (lv' := []) [] rfl ?_
      exact abX10_isNodeOrNone_13 l G d hG hd _ hw
-- X10_guard
def wbX10_guard_25 (h : aH) (Q : Int32 → aH → Prop) : Prop :=
  Q ((-1)) h
def wX10_guard (h : aH) (v0 : Nat) (v1 : Int32) (v2 : Int32) (v3 : Int32) (v4 : Int32) (Q : Int32 → aH → Prop) : Prop :=
  isO h v0 8 (wX10_isNode h v0 v1 (fun r2 h1 => (r2 = 0 → wbX10_guard_25 h1 Q) ∧ (¬ r2 = 0 → isO h1 v0 8 (wX10_isNodeOrNone h1 v0 v3 (fun r4 h3 => (r4 = 0 → wbX10_guard_25 h3 Q) ∧ (¬ r4 = 0 → isO h3 v0 8 (wX10_isNodeOrNone h3 v0 v4 (fun r6 h5 => (¬ r6 = 0 → isO h5 v0 8 (wX10_costOf h5 v0 v1 (fun r8 h7 => isO h7 v0 8 (wX10_costOf h7 v0 v3 (fun r10 h9 => isO h9 v0 8 (wX10_costOf h9 v0 v4 (fun r12 h11 => isO h11 v0 8 (wX10_isFull h11 v0 ((((1 + r8) + r10) + (9 * r12))) (fun r14 h13 => (r14 = 0 → ∀ (q16 : Nat) (h15 : aH), q16 = h13.1 → h15 = a_nw h13 (.inr (3, [.int 0, .int 0, .null, .null, .int 0, .null, .int 0, .null, .null, .null, .null, .int 0, .int 0])) → rI h15 v0 8 3 (fun r17 => rR h15 v0 8 1 (fun r19 => aR h15 3 r19 v1 (fun r21 => isO h15 v0 8 (wX10_nodeOrNull h15 v0 v3 (fun r23 h22 => isO h22 v0 8 (wX10_nodeOrNull h22 v0 v4 (fun r25 h24 => wX3_init h24 q16 r17 ((((1 + r8) + r10) + (9 * r12))) r21 ((v2 &&& 510)) r23 r25 (fun h26 => isO h26 v0 8 (wX10_added h26 v0 q16 (fun r28 h27 => Q r28 h27))))))))))) ∧ (¬ r14 = 0 → Q ((-2)) h13)))))))))) ∧ (r6 = 0 → wbX10_guard_25 h5 Q)))))))))
set_option maxRecDepth 100000 in
theorem abX10_guard_25 (l : Launch) (G : aG) (d : Nat) (hG : a_GT G) (hd : 5 ≤ d) {Q : Int32 → aH → Prop} (h : aH) (hw : wbX10_guard_25  h Q) : AW l G d 0 0 mX10_guard (qI Q) 25 [] [] h := by
  unfold wbX10_guard_25 at hw
  refine aw_iconst (v := (-1)) dX10_guard_25 (by decide) ?_
  exact aw_iret dX10_guard_26 rfl rfl ⟨_, rfl, hw⟩
set_option maxRecDepth 100000 in
theorem acX10_guard (l : Launch) (G : aG) (d : Nat) (hG : a_GT G) (hd : 5 ≤ d) {Q : Int32 → aH → Prop} {h : aH} {v0 : Nat} {v1 : Int32} {v2 : Int32} {v3 : Int32} {v4 : Int32} (hw : wX10_guard h v0 v1 v2 v3 v4 Q) : AC l G d 45 293 mX10_guard [.ref v0, .int v1, .int v2, .int v3, .int v4] h (qI Q) := by
  refine ac_of iX10_guard (Nat.le_of_ble_eq_true rfl) ?_
  show AW l G d 45 293 mX10_guard (qI Q) 0 [(0, .ref v0), (1, .int v1), (2, .int v2), (3, .int v3), (4, .int v4)] [] h
  unfold wX10_guard at hw
  refine aw_aload_n 0 dX10_guard_0 rfl rfl ?_
  refine aw_iload_n 1 dX10_guard_1 rfl rfl ?_
  obtain ⟨_, h1, hw⟩ := hw
  refine aw_virtI (As := [.int v1]) (rest := []) dX10_guard_2 (acX10_isNode l G (d - 1) hG (by omega) hw) iX10_isNode rfl k_323 k_325 k_2 rfl h1 (by omega) (by omega) (by omega) rfl (Nat.le_of_ble_eq_true rfl) (fun r2 h1 hw => ?_)
  refine aw_if_eq (tgt := 25) dX10_guard_5 (by decide) (fun z => ?_) (fun z => ?_)
  · have hw := hw.1 z
    refine aw_sub (lv' := []) [] rfl ?_
    refine aw_bud (c1 := 0) (w1 := 0) (Nat.zero_le _) (Nat.zero_le _) ?_
    exact abX10_guard_25 l G d hG hd _ hw
  · have hw := hw.2 z
    refine aw_aload_n 0 dX10_guard_8 rfl rfl ?_
    refine aw_iload_n 3 dX10_guard_9 rfl rfl ?_
    obtain ⟨_, h1, hw⟩ := hw
    refine aw_virtI (As := [.int v3]) (rest := []) dX10_guard_10 (acX10_isNodeOrNone l G (d - 1) hG (by omega) hw) iX10_isNodeOrNone rfl k_394 k_396 k_4 rfl h1 (by omega) (by omega) (by omega) rfl (Nat.le_of_ble_eq_true rfl) (fun r4 h3 hw => ?_)
    refine aw_if_eq (tgt := 25) dX10_guard_13 (by decide) (fun z => ?_) (fun z => ?_)
    · have hw := hw.1 z
      refine aw_sub (lv' := []) [] rfl ?_
      refine aw_bud (c1 := 0) (w1 := 0) (Nat.zero_le _) (Nat.zero_le _) ?_
      exact abX10_guard_25 l G d hG hd _ hw
    · have hw := hw.2 z
      refine aw_aload_n 0 dX10_guard_16 rfl rfl ?_
      refine aw_iload 4 dX10_guard_17 rfl ?_
      obtain ⟨_, h1, hw⟩ := hw
      refine aw_virtI (As := [.int v4]) (rest := []) dX10_guard_19 (acX10_isNodeOrNone l G (d - 1) hG (by omega) hw) iX10_isNodeOrNone rfl k_394 k_396 k_4 rfl h1 (by omega) (by omega) (by omega) rfl (Nat.le_of_ble_eq_true rfl) (fun r6 h5 hw => ?_)
      refine aw_if_ne (tgt := 27) dX10_guard_22 (by decide) (fun z => ?_) (fun z => ?_)
      · have hw := hw.1 z
        refine aw_iconst (v := 1) dX10_guard_27 (by decide) ?_
        refine aw_aload_n 0 dX10_guard_28 rfl rfl ?_
        refine aw_iload_n 1 dX10_guard_29 rfl rfl ?_
        obtain ⟨_, h1, hw⟩ := hw
        refine aw_virtI (As := [.int v1]) (rest := [.int 1]) dX10_guard_30 (acX10_costOf l G (d - 1) hG (by omega) hw) iX10_costOf rfl k_327 k_329 k_3 rfl h1 (by omega) (by omega) (by omega) rfl (Nat.le_of_ble_eq_true rfl) (fun r8 h7 hw => ?_)
        refine aw_iadd dX10_guard_33 ?_
        refine aw_aload_n 0 dX10_guard_34 rfl rfl ?_
        refine aw_iload_n 3 dX10_guard_35 rfl rfl ?_
        obtain ⟨_, h1, hw⟩ := hw
        refine aw_virtI (As := [.int v3]) (rest := [.int (1 + r8)]) dX10_guard_36 (acX10_costOf l G (d - 1) hG (by omega) hw) iX10_costOf rfl k_327 k_329 k_3 rfl h1 (by omega) (by omega) (by omega) rfl (Nat.le_of_ble_eq_true rfl) (fun r10 h9 hw => ?_)
        refine aw_iadd dX10_guard_39 ?_
        refine aw_bipush (v := 9) dX10_guard_40 (by decide) ?_
        refine aw_aload_n 0 dX10_guard_42 rfl rfl ?_
        refine aw_iload 4 dX10_guard_43 rfl ?_
        obtain ⟨_, h1, hw⟩ := hw
        refine aw_virtI (As := [.int v4]) (rest := [.int 9, .int ((1 + r8) + r10)]) dX10_guard_45 (acX10_costOf l G (d - 1) hG (by omega) hw) iX10_costOf rfl k_327 k_329 k_3 rfl h1 (by omega) (by omega) (by omega) rfl (Nat.le_of_ble_eq_true rfl) (fun r12 h11 hw => ?_)
        refine aw_imul dX10_guard_48 ?_
        refine aw_iadd dX10_guard_49 ?_
        refine aw_istore (lv' := [(5, .int (((1 + r8) + r10) + (9 * r12))), (0, .ref v0), (1, .int v1), (2, .int v2), (3, .int v3), (4, .int v4)]) dX10_guard_50 (by decide) rfl ?_
        refine aw_aload_n 1 dX10_guard_52 rfl rfl ?_
        refine aw_iload 0 dX10_guard_53 rfl ?_
        obtain ⟨_, h1, hw⟩ := hw
        refine aw_virtI (As := [.int (((1 + r8) + r10) + (9 * r12))]) (rest := []) dX10_guard_55 (acX10_isFull l G (d - 1) hG (by omega) hw) iX10_isFull rfl k_235 k_237 k_0 rfl h1 (by omega) (by omega) (by omega) rfl (Nat.le_of_ble_eq_true rfl) (fun r14 h13 hw => ?_)
        refine aw_if_eq (tgt := 64) dX10_guard_58 (by decide) (fun z => ?_) (fun z => ?_)
        · have hw := hw.1 z
          refine aw_aload_n 1 dX10_guard_64 rfl rfl ?_
          refine aw_new (ci := 3) (fs := [.int 0, .int 0, .null, .null, .int 0, .null, .int 0, .null, .null, .null, .null, .int 0, .int 0]) dX10_guard_65 clX3 k_398 k_399 k_105 dvX3 (by omega) (by omega) ?_
          have hw := hw _ _ rfl rfl
          generalize a_nw _ _ = h15 at hw ⊢
          generalize h13.1 = q16 at hw ⊢
          refine aw_bud (c1 := 44) (w1 := 280) (Nat.le_refl _) (Nat.le_refl _) ?_
          refine aw_dup dX10_guard_68 rfl ?_
          refine aw_aload_n 1 dX10_guard_69 rfl rfl ?_
          obtain ⟨fs18, r17, h1, h2, hw⟩ := hw
          refine aw_getf (k := 3) dX10_guard_70 clX10 (by decide) k_213 (Or.inl rfl) h1 h2 ?_
          refine aw_iload 0 dX10_guard_73 rfl ?_
          refine aw_aload_n 1 dX10_guard_75 rfl rfl ?_
          obtain ⟨fs20, r19, h1, h2, hw⟩ := hw
          refine aw_getf (k := 1) dX10_guard_76 clX10 (by decide) k_211 (Or.inl rfl) h1 h2 ?_
          refine aw_iload_n 2 dX10_guard_79 rfl rfl ?_
          obtain ⟨_, _, r21, h1, h2, h3, hw⟩ := hw
          refine aw_aR dX10_guard_80 (by decide) h1 h2 h3 ?_
          refine aw_iload_n 3 dX10_guard_81 rfl rfl ?_
          refine aw_sipush (v := 510) dX10_guard_82 (by decide) ?_
          refine aw_iand dX10_guard_85 ?_
          refine aw_aload_n 1 dX10_guard_86 rfl rfl ?_
          refine aw_iload_n 4 dX10_guard_87 rfl rfl ?_
          obtain ⟨_, h1, hw⟩ := hw
          refine aw_virtQ (As := [.int v3]) (rest := [.int (v2 &&& 510), .ref r21, .int (((1 + r8) + r10) + (9 * r12)), .int r17, .ref q16, .ref q16, .ref v0]) dX10_guard_88 (acX10_nodeOrNull l G (d - 1) hG (by omega) hw) iX10_nodeOrNull rfl k_400 k_402 k_5 rfl h1 (by omega) (by omega) (by omega) rfl (Nat.le_of_ble_eq_true rfl) (fun r23 h22 hw => ?_)
          refine aw_aload_n 1 dX10_guard_91 rfl rfl ?_
          refine aw_iload 5 dX10_guard_92 rfl ?_
          obtain ⟨_, h1, hw⟩ := hw
          refine aw_virtQ (As := [.int v4]) (rest := [va_rf r23, .int (v2 &&& 510), .ref r21, .int (((1 + r8) + r10) + (9 * r12)), .int r17, .ref q16, .ref q16, .ref v0]) dX10_guard_94 (acX10_nodeOrNull l G (d - 1) hG (by omega) hw) iX10_nodeOrNull rfl k_400 k_402 k_5 rfl h1 (by omega) (by omega) (by omega) rfl (by cases r23 <;> exact Nat.le_of_ble_eq_true rfl) (fun r25 h24 hw => ?_)
          refine aw_initV (As := [.int r17, .int (((1 + r8) + r10) + (9 * r12)), .ref r21, .int (v2 &&& 510), va_rf r23, va_rf r25]) (rest := [.ref q16, .ref v0]) (c1 := 44) (w1 := 280) dX10_guard_97 (acX3_init l G (d - 1) hG (by omega) hw) iX3_init rfl rfl rfl k_404 k_405 (by omega) (by omega) (by omega) rfl (Nat.le_of_ble_eq_true rfl) (fun h26 hw => ?_)
          refine aw_bud (c1 := 0) (w1 := 0) (Nat.le_refl _) (Nat.le_refl _) ?_
          obtain ⟨_, h1, hw⟩ := hw
          refine aw_virtI (As := [.ref q16]) (rest := []) dX10_guard_100 (acX10_added l G (d - 1) hG (by omega) hw) iX10_added rfl k_315 k_317 k_1 rfl h1 (by omega) (by omega) (by omega) rfl (Nat.le_of_ble_eq_true rfl) (fun r28 h27 hw => ?_)
          exact aw_iret dX10_guard_103 rfl rfl ⟨_, rfl, hw⟩
        · have hw := hw.2 z
          refine aw_bipush (v := (-2)) dX10_guard_61 (by decide) ?_
          exact aw_iret dX10_guard_63 rfl rfl ⟨_, rfl, hw⟩
      · have hw := hw.2 z
        refine aw_sub (lv' := []) [] rfl ?_
        refine aw_bud (c1 := 0) (w1 := 0) (Nat.zero_le _) (Nat.zero_le _) ?_
        exact abX10_guard_25 l G d hG hd _ hw
-- X10_forget
def wbX10_forget_7_i (K7 : Nat → Int32 → Int32 →  aH → Prop) (v0 : Nat) (v1 : Int32) (v2 : Int32) (h : aH) (Q : Int32 → aH → Prop) : Prop :=
  (80 ≤ v2 → wF h v0 8 3 (.int 0) (fun h1 => Q v1 h1)) ∧ (¬ 80 ≤ v2 → rR h v0 8 1 (fun r3 => sN h 3 r3 v2 (fun h5 => K7 v0 v1 ((v2 + 1)) h5)))
def wbX10_forget_7 (n : Nat) (v0 : Nat) (v1 : Int32) (v2 : Int32) (h : aH) (Q : Int32 → aH → Prop) : Prop := match n with
  | 0 => False
  | n + 1 => wbX10_forget_7_i (fun v0 v1 v2 h => wbX10_forget_7 n v0 v1 v2 h Q) v0 v1 v2 h Q
def wX10_forget (h : aH) (v0 : Nat) (Q : Int32 → aH → Prop) : Prop :=
  rI h v0 8 3 (fun r6 => ∃ n, wbX10_forget_7 n v0 r6 0 h Q)
set_option maxRecDepth 100000 in
theorem abX10_forget_7_i (l : Launch) (G : aG) (d : Nat) (hG : a_GT G) (hd : 1 ≤ d) {Q : Int32 → aH → Prop} {K7 : Nat → Int32 → Int32 →  aH → Prop} (kk7 : ∀ (v0 : Nat) (v1 : Int32) (v2 : Int32) (h : aH), K7 v0 v1 v2 h → AW l G d 0 0 mX10_forget (qI Q) 7 [(0, .ref v0), (1, .int v1), (2, .int v2)] [] h) (v0 : Nat) (v1 : Int32) (v2 : Int32) (h : aH) (hw : wbX10_forget_7_i K7 v0 v1 v2 h Q) : AW l G d 0 0 mX10_forget (qI Q) 7 [(0, .ref v0), (1, .int v1), (2, .int v2)] [] h := by
  unfold wbX10_forget_7_i at hw
  refine aw_iload_n 2 dX10_forget_7 rfl rfl ?_
  refine aw_bipush (v := 80) dX10_forget_8 (by decide) ?_
  refine aw_icmp_ge (tgt := 26) dX10_forget_10 (by decide) (fun z => ?_) (fun z => ?_)
  · have hw := hw.1 z
    refine aw_aload_n 0 dX10_forget_26 rfl rfl ?_
    refine aw_iconst (v := 0) dX10_forget_27 (by decide) ?_
    obtain ⟨fs2, h1, h2, hw⟩ := hw
    refine aw_putf (k := 3) dX10_forget_28 clX10 (by decide) k_213 (Or.inl rfl) rfl rfl rfl h1 h2 ?_
    generalize a_up _ _ _ = h1 at hw ⊢
    refine aw_iload_n 1 dX10_forget_31 rfl rfl ?_
    exact aw_iret dX10_forget_32 rfl rfl ⟨_, rfl, hw⟩
  · have hw := hw.2 z
    refine aw_aload_n 0 dX10_forget_13 rfl rfl ?_
    obtain ⟨fs4, r3, h1, h2, hw⟩ := hw
    refine aw_getf (k := 1) dX10_forget_14 clX10 (by decide) k_211 (Or.inl rfl) h1 h2 ?_
    refine aw_iload_n 2 dX10_forget_17 rfl rfl ?_
    refine aw_null dX10_forget_18 ?_
    obtain ⟨_, _, h1, h2, hw⟩ := hw
    refine aw_aastN 3 (by decide) dX10_forget_19 rfl h1 h2 ?_
    generalize a_up _ _ _ = h5 at hw ⊢
    refine aw_iinc (v := (v2 + 1)) (lv' := [(2, .int (v2 + 1)), (0, .ref v0), (1, .int v1)]) 2 dX10_forget_20 rfl rfl (by decide) rfl ?_
    refine aw_goto (tgt := 7) dX10_forget_23 (by decide) ?_
    refine aw_sub (lv' := [(0, .ref v0), (1, .int v1), (2, .int (v2 + 1))]) [1, 2, 0] rfl ?_
    exact kk7 _ _ _ _ hw
set_option maxRecDepth 100000 in
theorem abX10_forget_7 (l : Launch) (G : aG) (d : Nat) (hG : a_GT G) (hd : 1 ≤ d) {Q : Int32 → aH → Prop} (n : Nat) : ∀  (v0 : Nat) (v1 : Int32) (v2 : Int32) (h : aH), wbX10_forget_7 n v0 v1 v2 h Q → AW l G d 0 0 mX10_forget (qI Q) 7 [(0, .ref v0), (1, .int v1), (2, .int v2)] [] h := by
  induction n with
  | zero => exact fun _ _ _ _ hw => hw.elim
  | succ n ih => exact fun _ _ _ _ hw => abX10_forget_7_i l G d hG hd ih _ _ _ _ hw
set_option maxRecDepth 100000 in
theorem acX10_forget (l : Launch) (G : aG) (d : Nat) (hG : a_GT G) (hd : 1 ≤ d) {Q : Int32 → aH → Prop} {h : aH} {v0 : Nat} (hw : wX10_forget h v0 Q) : AC l G d 0 0 mX10_forget [.ref v0] h (qI Q) := by
  refine ac_of iX10_forget (Nat.le_of_ble_eq_true rfl) ?_
  show AW l G d 0 0 mX10_forget (qI Q) 0 [(0, .ref v0)] [] h
  unfold wX10_forget at hw
  refine aw_aload_n 0 dX10_forget_0 rfl rfl ?_
  obtain ⟨fs7, r6, h1, h2, hw⟩ := hw
  refine aw_getf (k := 3) dX10_forget_1 clX10 (by decide) k_213 (Or.inl rfl) h1 h2 ?_
  refine aw_istore_n (lv' := [(1, .int r6), (0, .ref v0)]) dX10_forget_4 rfl (by decide) rfl ?_
  refine aw_iconst (v := 0) dX10_forget_5 (by decide) ?_
  refine aw_istore_n (lv' := [(2, .int 0), (1, .int r6), (0, .ref v0)]) dX10_forget_6 rfl (by decide) rfl ?_
  obtain ⟨n, hw⟩ := hw
  refine aw_sub (lv' := [(0, .ref v0), (1, .int r6), (2, .int 0)]) [2, 1, 0] rfl ?_
  exact abX10_forget_7 l G d hG hd n _ _ _ _ hw
-- X10_run
def wX10_run (Rd : Nat → aH → Nat → Nat → (Int32 → aH → Prop) → Prop) (h : aH) (v0 : Nat) (v1 : Int32) (Q : Int32 → aH → Prop) : Prop :=
  isO h v0 8 (wX10_isNode h v0 v1 (fun r2 h1 => (¬ r2 = 0 → rR h1 v0 8 0 (fun r3 => isO h1 r3 4 (wX5_beginRun h1 r3 (fun h5 => rR h5 v0 8 1 (fun r6 => aR h5 3 r6 v1 (fun r8 => rR h5 v0 8 0 (fun r9 => isN h5 r8 (fun ci => Rd ci h5 r8 r9 (fun r12 h11 => Q r12 h11))))))))) ∧ (r2 = 0 → Q ((-1)) h1)))
set_option maxRecDepth 100000 in
theorem acX10_run (l : Launch) (G : aG) (d : Nat) (hG : a_GT G) {Rd : Nat → aH → Nat → Nat → (Int32 → aH → Prop) → Prop} {dRd : Nat} (hRd : ∀ (ci : Nat) (h : aH) (a b : Nat) (Q : Int32 → aH → Prop), ci < 4 → Rd ci h a b Q → AC l G dRd 0 0 (mdone ci) [.ref a, .ref b] h (qI Q)) (hd : 2 ≤ d) (hdRd : dRd + 1 ≤ d) {Q : Int32 → aH → Prop} {h : aH} {v0 : Nat} {v1 : Int32} (hw : wX10_run Rd h v0 v1 Q) : AC l G d 0 0 mX10_run [.ref v0, .int v1] h (qI Q) := by
  refine ac_of iX10_run (Nat.le_of_ble_eq_true rfl) ?_
  show AW l G d 0 0 mX10_run (qI Q) 0 [(0, .ref v0), (1, .int v1)] [] h
  unfold wX10_run at hw
  refine aw_aload_n 0 dX10_run_0 rfl rfl ?_
  refine aw_iload_n 1 dX10_run_1 rfl rfl ?_
  obtain ⟨_, h1, hw⟩ := hw
  refine aw_virtI (As := [.int v1]) (rest := []) dX10_run_2 (acX10_isNode l G (d - 1) hG (by omega) hw) iX10_isNode rfl k_323 k_325 k_2 rfl h1 (by omega) (by decide) (by decide) rfl (Nat.le_of_ble_eq_true rfl) (fun r2 h1 hw => ?_)
  refine aw_if_ne (tgt := 10) dX10_run_5 (by decide) (fun z => ?_) (fun z => ?_)
  · have hw := hw.1 z
    refine aw_aload_n 0 dX10_run_10 rfl rfl ?_
    obtain ⟨fs4, r3, h1, h2, hw⟩ := hw
    refine aw_getf (k := 0) dX10_run_11 clX10 (by decide) k_210 (Or.inl rfl) h1 h2 ?_
    obtain ⟨_, h1, hw⟩ := hw
    refine aw_virtV (As := []) (rest := []) dX10_run_14 (acX5_beginRun l G (d - 1) hG (by omega) hw) iX5_beginRun rfl k_451 k_452 k_453 rfl h1 (by omega) (by decide) (by decide) rfl (Nat.le_of_ble_eq_true rfl) (fun h5 hw => ?_)
    refine aw_aload_n 0 dX10_run_17 rfl rfl ?_
    obtain ⟨fs7, r6, h1, h2, hw⟩ := hw
    refine aw_getf (k := 1) dX10_run_18 clX10 (by decide) k_211 (Or.inl rfl) h1 h2 ?_
    refine aw_iload_n 1 dX10_run_21 rfl rfl ?_
    obtain ⟨_, _, r8, h1, h2, h3, hw⟩ := hw
    refine aw_aR dX10_run_22 (by decide) h1 h2 h3 ?_
    refine aw_aload_n 0 dX10_run_23 rfl rfl ?_
    obtain ⟨fs10, r9, h1, h2, hw⟩ := hw
    refine aw_getf (k := 0) dX10_run_24 clX10 (by decide) k_210 (Or.inl rfl) h1 h2 ?_
    obtain ⟨ci, _, h1, h2, hw⟩ := hw
    refine aw_vdone dX10_run_27 h1 h2 (hRd ci _ _ _ _ h1 hw) k_455 (by omega) (Nat.zero_le _) (Nat.zero_le _) rfl (Nat.le_of_ble_eq_true rfl) (fun r12 h11 hw => ?_)
    exact aw_iret dX10_run_30 rfl rfl ⟨_, rfl, hw⟩
  · have hw := hw.2 z
    refine aw_iconst (v := (-1)) dX10_run_8 (by decide) ?_
    exact aw_iret dX10_run_9 rfl rfl ⟨_, rfl, hw⟩
-- X10_ran
def wX10_ran (h : aH) (v0 : Nat) (v1 : Int32) (Q : Int32 → aH → Prop) : Prop :=
  ((v1.toInt < 0 ∨ 5 < v1.toInt) → Q ((-1)) h) ∧ (v1.toInt = 0 → rR h v0 8 0 (fun r1 => rI h r1 4 3 (fun r3 => Q r3 h))) ∧ (v1.toInt = 1 → rR h v0 8 0 (fun r5 => rI h r5 4 4 (fun r7 => Q r7 h))) ∧ (v1.toInt = 2 → rR h v0 8 0 (fun r9 => rI h r9 4 5 (fun r11 => Q r11 h))) ∧ (v1.toInt = 3 → rR h v0 8 0 (fun r13 => rI h r13 4 6 (fun r15 => Q r15 h))) ∧ (v1.toInt = 4 → rR h v0 8 0 (fun r17 => rI h r17 4 7 (fun r19 => Q r19 h))) ∧ (v1.toInt = 5 → rR h v0 8 0 (fun r21 => rI h r21 4 8 (fun r23 => Q r23 h)))
set_option maxRecDepth 100000 in
theorem acX10_ran (l : Launch) (G : aG) (d : Nat) (hG : a_GT G) (hd : 1 ≤ d) {Q : Int32 → aH → Prop} {h : aH} {v0 : Nat} {v1 : Int32} (hw : wX10_ran h v0 v1 Q) : AC l G d 0 0 mX10_ran [.ref v0, .int v1] h (qI Q) := by
  refine ac_of iX10_ran (Nat.le_of_ble_eq_true rfl) ?_
  show AW l G d 0 0 mX10_ran (qI Q) 0 [(0, .ref v0), (1, .int v1)] [] h
  unfold wX10_ran at hw
  refine aw_iload_n 1 dX10_ran_0 rfl rfl ?_
  by_cases zo : v1.toInt < 0 ∨ 5 < v1.toInt
  · have hw := hw.1 zo
    refine aw_tableOut (tgt := 88) dX10_ran_1 zo (by decide) ?_
    refine aw_iconst (v := (-1)) dX10_ran_88 (by decide) ?_
    exact aw_iret dX10_ran_89 rfl rfl ⟨_, rfl, hw⟩
  · have hw := hw.2
    have z : v1.toInt = 0 ∨ v1.toInt = 1 ∨ v1.toInt = 2 ∨ v1.toInt = 3 ∨ v1.toInt = 4 ∨ v1.toInt = 5 := by omega
    rcases z with z | z | z | z | z | z
    · have hw := hw.1 z
      refine aw_tableIn (off := 39) (tgt := 40) dX10_ran_1 (by rw [z]; decide) (by rw [z]; decide) (by rw [z]; rfl) (by decide) ?_
      refine aw_aload_n 0 dX10_ran_40 rfl rfl ?_
      obtain ⟨fs2, r1, h1, h2, hw⟩ := hw
      refine aw_getf (k := 0) dX10_ran_41 clX10 (by decide) k_210 (Or.inl rfl) h1 h2 ?_
      obtain ⟨fs4, r3, h1, h2, hw⟩ := hw
      refine aw_getf (k := 3) dX10_ran_44 clX5 (by decide) k_160 (Or.inl rfl) h1 h2 ?_
      exact aw_iret dX10_ran_47 rfl rfl ⟨_, rfl, hw⟩
    · have hw := hw.2.1 z
      refine aw_tableIn (off := 47) (tgt := 48) dX10_ran_1 (by rw [z]; decide) (by rw [z]; decide) (by rw [z]; rfl) (by decide) ?_
      refine aw_aload_n 0 dX10_ran_48 rfl rfl ?_
      obtain ⟨fs6, r5, h1, h2, hw⟩ := hw
      refine aw_getf (k := 0) dX10_ran_49 clX10 (by decide) k_210 (Or.inl rfl) h1 h2 ?_
      obtain ⟨fs8, r7, h1, h2, hw⟩ := hw
      refine aw_getf (k := 4) dX10_ran_52 clX5 (by decide) k_163 (Or.inl rfl) h1 h2 ?_
      exact aw_iret dX10_ran_55 rfl rfl ⟨_, rfl, hw⟩
    · have hw := hw.2.2.1 z
      refine aw_tableIn (off := 55) (tgt := 56) dX10_ran_1 (by rw [z]; decide) (by rw [z]; decide) (by rw [z]; rfl) (by decide) ?_
      refine aw_aload_n 0 dX10_ran_56 rfl rfl ?_
      obtain ⟨fs10, r9, h1, h2, hw⟩ := hw
      refine aw_getf (k := 0) dX10_ran_57 clX10 (by decide) k_210 (Or.inl rfl) h1 h2 ?_
      obtain ⟨fs12, r11, h1, h2, hw⟩ := hw
      refine aw_getf (k := 5) dX10_ran_60 clX5 (by decide) k_165 (Or.inl rfl) h1 h2 ?_
      exact aw_iret dX10_ran_63 rfl rfl ⟨_, rfl, hw⟩
    · have hw := hw.2.2.2.1 z
      refine aw_tableIn (off := 63) (tgt := 64) dX10_ran_1 (by rw [z]; decide) (by rw [z]; decide) (by rw [z]; rfl) (by decide) ?_
      refine aw_aload_n 0 dX10_ran_64 rfl rfl ?_
      obtain ⟨fs14, r13, h1, h2, hw⟩ := hw
      refine aw_getf (k := 0) dX10_ran_65 clX10 (by decide) k_210 (Or.inl rfl) h1 h2 ?_
      obtain ⟨fs16, r15, h1, h2, hw⟩ := hw
      refine aw_getf (k := 6) dX10_ran_68 clX5 (by decide) k_168 (Or.inl rfl) h1 h2 ?_
      exact aw_iret dX10_ran_71 rfl rfl ⟨_, rfl, hw⟩
    · have hw := hw.2.2.2.2.1 z
      refine aw_tableIn (off := 71) (tgt := 72) dX10_ran_1 (by rw [z]; decide) (by rw [z]; decide) (by rw [z]; rfl) (by decide) ?_
      refine aw_aload_n 0 dX10_ran_72 rfl rfl ?_
      obtain ⟨fs18, r17, h1, h2, hw⟩ := hw
      refine aw_getf (k := 0) dX10_ran_73 clX10 (by decide) k_210 (Or.inl rfl) h1 h2 ?_
      obtain ⟨fs20, r19, h1, h2, hw⟩ := hw
      refine aw_getf (k := 7) dX10_ran_76 clX5 (by decide) k_171 (Or.inl rfl) h1 h2 ?_
      exact aw_iret dX10_ran_79 rfl rfl ⟨_, rfl, hw⟩
    · have hw := hw.2.2.2.2.2 z
      refine aw_tableIn (off := 79) (tgt := 80) dX10_ran_1 (by rw [z]; decide) (by rw [z]; decide) (by rw [z]; rfl) (by decide) ?_
      refine aw_aload_n 0 dX10_ran_80 rfl rfl ?_
      obtain ⟨fs22, r21, h1, h2, hw⟩ := hw
      refine aw_getf (k := 0) dX10_ran_81 clX10 (by decide) k_210 (Or.inl rfl) h1 h2 ?_
      obtain ⟨fs24, r23, h1, h2, hw⟩ := hw
      refine aw_getf (k := 8) dX10_ran_84 clX5 (by decide) k_174 (Or.inl rfl) h1 h2 ?_
      exact aw_iret dX10_ran_87 rfl rfl ⟨_, rfl, hw⟩
-- X10_clear
def wX10_clear (h : aH) (v0 : Nat) (Q : Int32 → aH → Prop) : Prop :=
  rR h v0 8 0 (fun r1 => isO h r1 4 (wX5_empty h r1 (fun r4 h3 => Q r4 h3)))
set_option maxRecDepth 100000 in
theorem acX10_clear (l : Launch) (G : aG) (d : Nat) (hG : a_GT G) (hd : 3 ≤ d) {Q : Int32 → aH → Prop} {h : aH} {v0 : Nat} (hw : wX10_clear h v0 Q) : AC l G d 0 0 mX10_clear [.ref v0] h (qI Q) := by
  refine ac_of iX10_clear (Nat.le_of_ble_eq_true rfl) ?_
  show AW l G d 0 0 mX10_clear (qI Q) 0 [(0, .ref v0)] [] h
  unfold wX10_clear at hw
  refine aw_aload_n 0 dX10_clear_0 rfl rfl ?_
  obtain ⟨fs2, r1, h1, h2, hw⟩ := hw
  refine aw_getf (k := 0) dX10_clear_1 clX10 (by decide) k_210 (Or.inl rfl) h1 h2 ?_
  obtain ⟨_, h1, hw⟩ := hw
  refine aw_virtI (As := []) (rest := []) dX10_clear_4 (acX5_empty l G (d - 1) hG (by omega) hw) iX5_empty rfl k_655 k_656 k_657 rfl h1 (by omega) (by decide) (by decide) rfl (Nat.le_of_ble_eq_true rfl) (fun r4 h3 hw => ?_)
  exact aw_iret dX10_clear_7 rfl rfl ⟨_, rfl, hw⟩
-- X10_count
def wX10_count (h : aH) (v0 : Nat) (v1 : Int32) (Q : Int32 → aH → Prop) : Prop :=
  ((v1.toInt < 0 ∨ 3 < v1.toInt) → Q ((-1)) h) ∧ (v1.toInt = 0 → rR h v0 8 0 (fun r1 => rR h r1 4 0 (fun r3 => rI h r3 6 4 (fun r5 => Q r5 h)))) ∧ (v1.toInt = 1 → rR h v0 8 0 (fun r7 => rR h r7 4 0 (fun r9 => rI h r9 6 5 (fun r11 => Q r11 h)))) ∧ (v1.toInt = 2 → rI h v0 8 3 (fun r13 => Q r13 h)) ∧ (v1.toInt = 3 → rI h v0 8 3 (fun r15 => isO h v0 8 (wX10_costOf h v0 ((r15 - 1)) (fun r18 h17 => Q r18 h17))))
set_option maxRecDepth 100000 in
theorem acX10_count (l : Launch) (G : aG) (d : Nat) (hG : a_GT G) (hd : 3 ≤ d) {Q : Int32 → aH → Prop} {h : aH} {v0 : Nat} {v1 : Int32} (hw : wX10_count h v0 v1 Q) : AC l G d 0 0 mX10_count [.ref v0, .int v1] h (qI Q) := by
  refine ac_of iX10_count (Nat.le_of_ble_eq_true rfl) ?_
  show AW l G d 0 0 mX10_count (qI Q) 0 [(0, .ref v0), (1, .int v1)] [] h
  unfold wX10_count at hw
  refine aw_iload_n 1 dX10_count_0 rfl rfl ?_
  by_cases zo : v1.toInt < 0 ∨ 3 < v1.toInt
  · have hw := hw.1 zo
    refine aw_tableOut (tgt := 70) dX10_count_1 zo (by decide) ?_
    refine aw_iconst (v := (-1)) dX10_count_70 (by decide) ?_
    exact aw_iret dX10_count_71 rfl rfl ⟨_, rfl, hw⟩
  · have hw := hw.2
    have z : v1.toInt = 0 ∨ v1.toInt = 1 ∨ v1.toInt = 2 ∨ v1.toInt = 3 := by omega
    rcases z with z | z | z | z
    · have hw := hw.1 z
      refine aw_tableIn (off := 31) (tgt := 32) dX10_count_1 (by rw [z]; decide) (by rw [z]; decide) (by rw [z]; rfl) (by decide) ?_
      refine aw_aload_n 0 dX10_count_32 rfl rfl ?_
      obtain ⟨fs2, r1, h1, h2, hw⟩ := hw
      refine aw_getf (k := 0) dX10_count_33 clX10 (by decide) k_210 (Or.inl rfl) h1 h2 ?_
      obtain ⟨fs4, r3, h1, h2, hw⟩ := hw
      refine aw_getf (k := 0) dX10_count_36 clX5 (by decide) k_153 (Or.inl rfl) h1 h2 ?_
      obtain ⟨fs6, r5, h1, h2, hw⟩ := hw
      refine aw_getfN (k := 4) (host := "ThrowReports") dX10_count_39 clX8 (by decide) (by decide +kernel) (Or.inl rfl) h1 h2 ?_
      exact aw_iret dX10_count_42 rfl rfl ⟨_, rfl, hw⟩
    · have hw := hw.2.1 z
      refine aw_tableIn (off := 42) (tgt := 43) dX10_count_1 (by rw [z]; decide) (by rw [z]; decide) (by rw [z]; rfl) (by decide) ?_
      refine aw_aload_n 0 dX10_count_43 rfl rfl ?_
      obtain ⟨fs8, r7, h1, h2, hw⟩ := hw
      refine aw_getf (k := 0) dX10_count_44 clX10 (by decide) k_210 (Or.inl rfl) h1 h2 ?_
      obtain ⟨fs10, r9, h1, h2, hw⟩ := hw
      refine aw_getf (k := 0) dX10_count_47 clX5 (by decide) k_153 (Or.inl rfl) h1 h2 ?_
      obtain ⟨fs12, r11, h1, h2, hw⟩ := hw
      refine aw_getfN (k := 5) (host := "ThrowReports") dX10_count_50 clX8 (by decide) (by decide +kernel) (Or.inl rfl) h1 h2 ?_
      exact aw_iret dX10_count_53 rfl rfl ⟨_, rfl, hw⟩
    · have hw := hw.2.2.1 z
      refine aw_tableIn (off := 53) (tgt := 54) dX10_count_1 (by rw [z]; decide) (by rw [z]; decide) (by rw [z]; rfl) (by decide) ?_
      refine aw_aload_n 0 dX10_count_54 rfl rfl ?_
      obtain ⟨fs14, r13, h1, h2, hw⟩ := hw
      refine aw_getf (k := 3) dX10_count_55 clX10 (by decide) k_213 (Or.inl rfl) h1 h2 ?_
      exact aw_iret dX10_count_58 rfl rfl ⟨_, rfl, hw⟩
    · have hw := hw.2.2.2 z
      refine aw_tableIn (off := 58) (tgt := 59) dX10_count_1 (by rw [z]; decide) (by rw [z]; decide) (by rw [z]; rfl) (by decide) ?_
      refine aw_aload_n 0 dX10_count_59 rfl rfl ?_
      refine aw_aload_n 0 dX10_count_60 rfl rfl ?_
      obtain ⟨fs16, r15, h1, h2, hw⟩ := hw
      refine aw_getf (k := 3) dX10_count_61 clX10 (by decide) k_213 (Or.inl rfl) h1 h2 ?_
      refine aw_iconst (v := 1) dX10_count_64 (by decide) ?_
      refine aw_isub dX10_count_65 ?_
      obtain ⟨_, h1, hw⟩ := hw
      refine aw_virtI (As := [.int (r15 - 1)]) (rest := []) dX10_count_66 (acX10_costOf l G (d - 1) hG (by omega) hw) iX10_costOf rfl k_327 k_329 k_3 rfl h1 (by omega) (by decide) (by decide) rfl (Nat.le_of_ble_eq_true rfl) (fun r18 h17 hw => ?_)
      exact aw_iret dX10_count_69 rfl rfl ⟨_, rfl, hw⟩
