/-! THE CLAIM OUT OF ONE WALK OF THE LAW'S BODY. Your part is whole_start (and what it stands on); all else here is the same for every law, but numbers. -/
def R_law : String := "ThrowReportsLaw"
def lw_P (b : Addr) (xs : List Int32) (args : Array Value) (s : State) : Prop := args = #[.ref b] ∧ s.IntsAt b xs ∧ xs.length ≤ 3072 ∧ (Jvm.Cond.and given_1 narrow_1).before args s = true
def lw_Q (_ : Array Value) (s : State) (o : Outcome) (t : State) : Prop := o = .returned (some (.int 1)) ∧ Framed s o t [] 600000 7302250
def lw_Z (below : List Frame) (a : Array Value) (s : State) : State → Prop := fun t => ∃ o, t.status = .running ∧ Ended t below o ∧ lw_Q a s o t
/-- the law's own end, with 1 on the stack, nothing written that was there before, its room as the claim has it -/
theorem lw_ret {p : Program} {l : Launch} {e : Env} {s : State} {m : MethodId} {below : List Frame} {meth : Method} {c : Code} {b : Nat} (hx : p.tables.exec = Jvm.exec) (hb : c.code = code) (hr : meth.sig.returnType = ret) (hlocks : meth.locks = false) {pc : Nat} {H : Heap} {ls : Array Slot} (hdg : decode code pc = .ok (.ireturn, 1)) : W p l e room_1 s m #[Value.ref b] below meth c H [] 600000 7302250 (lw_Z below #[Value.ref b] s) (F0 m pc ls [.int 1]) := by
  intro T hT X
  obtain ⟨fs, hret, hrun, hended, hW, hframe⟩ := X.leave (v := some (.int 1)) (hlocks := hlocks) (fun h => by rw [hr] at h; cases h)
  have hmeth' : T.vm.method? m = some meth := X.method'
  refine ⟨T.setFrames fs, ?_, .returned (some (.int 1)), hrun, hended, rfl, ⟨_, rfl⟩, hW, hframe⟩
  jvm_step X.here [X.here.top, hx, hb, hdg, hmeth', hr, ret, narrow_b1]
  (try refine ⟨rfl, ?_⟩); (try refine ⟨rfl, ?_⟩)
  first | (intro acts; rw [hret _ acts rfl rfl rfl]) | rw [hret _ _ rfl rfl rfl]
  exact Steps.refl _
/-- what holds at the law's entry: the machine, the code, the tables' words (any of lw_tbl by 'hts w (by decide +kernel)'), the script of L ints xs at the cell b, what the Statement gives of the start (any of its parts by flat_of_before) -/
def lw_At (p : Program) (s : State) (m : MethodId) (meth : Method) (c : Code) (b L : Nat) (xs : Nat → Int32) : Prop :=
  p.tables.exec = Jvm.exec ∧ c.code = code ∧ meth.sig.returnType = ret ∧ c.maxLocals = 4 ∧ s.vm.findClass R_law = some m.cls ∧ (∀ w ∈ lw_tbl, w.before #[Value.ref b] s = true) ∧ va_X b L xs s s.heap ∧ b < s.heap.size ∧ meth.locks = false ∧ (Jvm.Cond.and given_1 narrow_1).before #[Value.ref b] s = true
/-! THE VIRTUAL CALLS THAT GO ROUND, by the number of levels -/
def RdN : Nat → Nat → aH → Nat → Nat → (Int32 → aH → Prop) → Prop
  | 0 => fun _ _ _ _ _ => False
  | k + 1 => fun ci h a b Q => match ci with
    | 0 => wX0_done h a b Q
    | 1 => wX1_done (RdN k) h a b Q
    | 2 => wX2_done (RdN k) h a b Q
    | _ => wX3_done (RdN k) h a b Q
def RfN : Nat → Nat → aH → Nat → Nat → (aH → Prop) → Prop
  | 0 => fun _ _ _ _ _ => False
  | k + 1 => fun ci h a b Q => match ci with
    | 0 => wX0_findWays h a b Q
    | 1 => wX1_findWays (RfN k) h a b Q
    | 2 => wX2_findWays (RfN k) h a b Q
    | _ => wX3_findWays (RfN k) h a b Q
theorem acRd (l : Launch) (G : aG) (hG : a_GT G) (k : Nat) : ∀ (ci : Nat) (h : aH) (a b : Nat) (Q : Int32 → aH → Prop), ci < 4 → RdN k ci h a b Q → AC l G (20 + k) 0 0 (mdone ci) [.ref a, .ref b] h (qI Q) := by
  induction k with
  | zero => exact fun _ _ _ _ _ _ hw => hw.elim
  | succ k ih =>
    intro ci h a b Q hci hw
    rcases (show ci = 0 ∨ ci = 1 ∨ ci = 2 ∨ ci = 3 by omega) with rfl | rfl | rfl | rfl
    · exact acX0_done l G (20 + (k + 1)) hG (by omega) hw
    · exact acX1_done l G (20 + (k + 1)) hG ih (by omega) (by omega) hw
    · exact acX2_done l G (20 + (k + 1)) hG ih (by omega) (by omega) hw
    · exact acX3_done l G (20 + (k + 1)) hG ih (by omega) (by omega) hw
theorem acRf (l : Launch) (G : aG) (hG : a_GT G) (k : Nat) : ∀ (ci : Nat) (h : aH) (a b : Nat) (Q : aH → Prop), ci < 4 → RfN k ci h a b Q → AC l G (20 + 3 * k) 0 0 (mfindWays ci) [.ref a, .ref b] h (qV Q) := by
  induction k with
  | zero => exact fun _ _ _ _ _ _ hw => hw.elim
  | succ k ih =>
    intro ci h a b Q hci hw
    rcases (show ci = 0 ∨ ci = 1 ∨ ci = 2 ∨ ci = 3 by omega) with rfl | rfl | rfl | rfl
    · exact acX0_findWays l G (20 + 3 * (k + 1)) hG (by omega) hw
    · exact acX1_findWays l G (20 + 3 * (k + 1)) hG ih (by omega) (by omega) hw
    · exact acX2_findWays l G (20 + 3 * (k + 1)) hG ih (by omega) (by omega) hw
    · exact acX3_findWays l G (20 + 3 * (k + 1)) hG ih (by omega) (by omega) hw
/-- the law's loop, n rounds at most; k levels of nodes -/
def wLoop (k L : Nat) (xs : Nat → Int32) : Nat → Nat → Nat → Int32 → aH → Prop
  | 0 => fun _ _ _ _ => False
  | n + 1 => fun v1 v2 v3 h => wbL_law_18_i (RdN k) (RfN k) L xs (wLoop k L xs n) v1 v2 v3 h (fun r _ => r = 1)
theorem awLoop (l : Launch) (G : aG) (d k : Nat) (hG : a_GT G) {L : Nat} {xs : Nat → Int32} (hX : (G.2.2.2 5).2 = (L, xs)) (hd : 30 + 3 * k ≤ d) (n : Nat) : ∀ (v1 v2 : Nat) (v3 : Int32) (h : aH), wLoop k L xs n v1 v2 v3 h → AW l G d (50 * n) (400 * n) mL_law (qI (fun r _ => r = 1)) 18 [(0, .ref (G.2.2.2 5).1), (1, .ref v1), (2, .ref v2), (3, .int v3)] [] h := by
  induction n with
  | zero => exact fun _ _ _ _ hw => hw.elim
  | succ n ih => exact fun v1 v2 v3 h hw => abL_law_18_i (c0 := 50 * n) (w0 := 400 * n) l G d hG hX (acRd l G hG k) (acRf l G hG k) (by omega) (by omega) (by omega) ih v1 v2 v3 h hw

theorem a_st4 : ∀ j, j < 10 → Cond.eq (.elem (.static "ThrowReports$Kinds" "ITEMS" "[I") (.int (Int32.ofNat j))) (.int (ITEMS_L.getD j 0)) ∈ flatC (Jvm.Cond.and given_1 narrow_1) := by
  decide +kernel
theorem a_st3 : ∀ j, j < 10 → Cond.eq (.elem (.static "ThrowReports$Kinds" "TAKE_ALL" "[I") (.int (Int32.ofNat j))) (.int (TAKE_L.getD j 0)) ∈ flatC (Jvm.Cond.and given_1 narrow_1) := by
  decide +kernel
theorem a_st2 : ∀ j, j < 10 → Cond.eq (.elem (.static "ThrowReports$Kinds" "MEET" "[I") (.int (Int32.ofNat j))) (.int (MEET_L.getD j 0)) ∈ flatC (Jvm.Cond.and given_1 narrow_1) := by
  decide +kernel
theorem a_st1 : ∀ j, j < 10 → Cond.eq (.elem (.static "ThrowReports$Kinds" "ARE" "[I") (.int (Int32.ofNat j))) (.int (ARE_L.getD j 0)) ∈ flatC (Jvm.Cond.and given_1 narrow_1) := by
  decide +kernel
theorem a_st0 : ∀ j, j < 72 → Cond.eq (.elem (.static "ThrowReports$Act" "FORMS" "[I") (.int (Int32.ofNat j))) (.int (FORMS_L.getD j 0)) ∈ flatC (Jvm.Cond.and given_1 narrow_1) := by
  decide +kernel
theorem a_ctx {p : Program} {s : State} {m : MethodId} {meth : Method} {c : Code} {b L : Nat} {xs : Nat → Int32} (hL : L ≤ 3072) (C0 : lw_At p s m meth c b L xs) : ∃ G : aG, G.1 = s.heap.size ∧ a_KN G s ∧ a_GT G ∧ G.2.2.2 5 = (b, L, xs) := by
  obtain ⟨hx, hb, hr, hml, hown, hts, hX, hbl, hlocks, hgv⟩ := id C0
  have hw : ∀ w ∈ a_wt, w.before #[Value.ref b] s = true := fun w h => hts w (List.mem_filter.mp h).1
  have hA : ∀ a : Nat, a < s.heap.size → ¬ (fun q : Nat => s.heap.size ≤ q) a := fun a h => Nat.not_le.mpr h

  obtain ⟨c0, i0, hk0⟩ := u_known (C := RX0) (T := TX0) (N := 11) (n := 11) hw clX0.2.1 (hw _ k_240)
  obtain ⟨c1, i1, hk1⟩ := u_known (C := RX1) (T := TX1) (N := 8) (n := 8) hw clX1.2.1 (hw _ k_332)
  obtain ⟨c2, i2, hk2⟩ := u_known (C := RX2) (T := TX2) (N := 10) (n := 10) hw clX2.2.1 (hw _ k_362)
  obtain ⟨c3, i3, hk3⟩ := u_known (C := RX3) (T := TX3) (N := 13) (n := 13) hw clX3.2.1 (hw _ k_399)
  obtain ⟨c4, i4, hk4⟩ := u_known (C := RX5) (T := TX5) (N := 9) (n := 9) hw clX5.2.1 (hw _ k_118)
  obtain ⟨c5, i5, hk5⟩ := u_known (C := RX7) (T := TX7) (N := 1) (n := 1) hw clX7.2.1 (hw _ k_197)
  obtain ⟨c6, i6, hk6⟩ := u_known (C := RX8) (T := TX8) (N := 6) (n := 6) hw clX8.2.1 (hw _ k_124)
  obtain ⟨c7, i7, hk7⟩ := u_known (C := RX9) (T := TX9) (N := 1) (n := 1) hw clX9.2.1 (hw _ k_251)
  obtain ⟨c8, i8, hk8⟩ := u_known (C := RX10) (T := TX10) (N := 4) (n := 4) hw clX10.2.1 (hw _ k_110)
  obtain ⟨c9, i9, hk9⟩ := u_known (C := RX11) (T := TX11) (N := 40) (n := 40) hw clX11.2.1 (hw _ k_943)
  obtain ⟨a0, ka0, co0, f0, g0, e0⟩ := Cond.arrayClass_spec (hw _ k_150)
  obtain ⟨a1, ka1, co1, f1, g1, e1⟩ := Cond.arrayClass_spec (hw _ k_151)
  obtain ⟨a2, ka2, co2, f2, g2, e2⟩ := Cond.arrayClass_spec (hw _ k_1069)
  have ao3 : va_AO RX6 s := va_AO.of (hts _ (List.mem_of_getElem? (i := 195) (by decide +kernel)))
  obtain ⟨co3, a3, ka3, m3, n3, g3, e3, f3⟩ := Cond.arrayOver_spec ao3
  have ao4 : va_AO RX7 s := va_AO.of (hts _ (List.mem_of_getElem? (i := 257) (by decide +kernel)))
  obtain ⟨co4, a4, ka4, m4, n4, g4, e4, f4⟩ := Cond.arrayOver_spec ao4
  have hs := flat_of_before _ hgv
  obtain ⟨t0, z0, y0⟩ := va_Tof (A := fun q : Nat => s.heap.size ≤ q) (tm := .static "ThrowReports$Act" "FORMS" "[I") (ty := .int) (N := 72) (f := fun j => .int (FORMS_L.getD j 0)) (by decide) (hs _ (by decide +kernel)) (va_eqt (hs _ (by decide +kernel))) (fun j hj => va_eqt (hs _ (a_st0 j hj))) hA
  have zz0 := va_Zof (A := fun q : Nat => s.heap.size ≤ q) (hts (.laysStatic "ThrowReports$Act" "FORMS" "[I") (List.mem_of_getElem? (i := 231) (by decide +kernel))) (hw _ k_101) z0 hA
  obtain ⟨t1, z1, y1⟩ := va_Tof (A := fun q : Nat => s.heap.size ≤ q) (tm := .static "ThrowReports$Kinds" "ARE" "[I") (ty := .int) (N := 10) (f := fun j => .int (ARE_L.getD j 0)) (by decide) (hs _ (by decide +kernel)) (va_eqt (hs _ (by decide +kernel))) (fun j hj => va_eqt (hs _ (a_st1 j hj))) hA
  have zz1 := va_Zof (A := fun q : Nat => s.heap.size ≤ q) (hts (.laysStatic "ThrowReports$Kinds" "ARE" "[I") (List.mem_of_getElem? (i := 535) (by decide +kernel))) (hw _ k_107) z1 hA
  obtain ⟨t2, z2, y2⟩ := va_Tof (A := fun q : Nat => s.heap.size ≤ q) (tm := .static "ThrowReports$Kinds" "MEET" "[I") (ty := .int) (N := 10) (f := fun j => .int (MEET_L.getD j 0)) (by decide) (hs _ (by decide +kernel)) (va_eqt (hs _ (by decide +kernel))) (fun j hj => va_eqt (hs _ (a_st2 j hj))) hA
  have zz2 := va_Zof (A := fun q : Nat => s.heap.size ≤ q) (hts (.laysStatic "ThrowReports$Kinds" "MEET" "[I") (List.mem_of_getElem? (i := 620) (by decide +kernel))) (hw _ k_107) z2 hA
  obtain ⟨t3, z3, y3⟩ := va_Tof (A := fun q : Nat => s.heap.size ≤ q) (tm := .static "ThrowReports$Kinds" "TAKE_ALL" "[I") (ty := .int) (N := 10) (f := fun j => .int (TAKE_L.getD j 0)) (by decide) (hs _ (by decide +kernel)) (va_eqt (hs _ (by decide +kernel))) (fun j hj => va_eqt (hs _ (a_st3 j hj))) hA
  have zz3 := va_Zof (A := fun q : Nat => s.heap.size ≤ q) (hts (.laysStatic "ThrowReports$Kinds" "TAKE_ALL" "[I") (List.mem_of_getElem? (i := 849) (by decide +kernel))) (hw _ k_107) z3 hA
  obtain ⟨t4, z4, y4⟩ := va_Tof (A := fun q : Nat => s.heap.size ≤ q) (tm := .static "ThrowReports$Kinds" "ITEMS" "[I") (ty := .int) (N := 10) (f := fun j => .int (ITEMS_L.getD j 0)) (by decide) (hs _ (by decide +kernel)) (va_eqt (hs _ (by decide +kernel))) (fun j hj => va_eqt (hs _ (a_st4 j hj))) hA
  have zz4 := va_Zof (A := fun q : Nat => s.heap.size ≤ q) (hts (.laysStatic "ThrowReports$Kinds" "ITEMS" "[I") (List.mem_of_getElem? (i := 569) (by decide +kernel))) (hw _ k_107) z4 hA
  obtain ⟨scr, x1, x2, x3, x4, x5⟩ := id hX
  refine ⟨(s.heap.size, (fun k => match k with | 0 => c0 | 1 => c1 | 2 => c2 | 3 => c3 | 4 => c4 | 5 => c5 | 6 => c6 | 7 => c7 | 8 => c8 | _ => c9, fun k => match k with | 0 => i0 | 1 => i1 | 2 => i2 | 3 => i3 | 4 => i4 | 5 => i5 | 6 => i6 | 7 => i7 | 8 => i8 | _ => i9), (fun t => match t with | 0 => a0 | 1 => a1 | 2 => a2 | 3 => a3 | _ => a4), fun i => match i with | 0 => (t0, 72, fun j => FORMS_L.getD j 0) | 1 => (t1, 10, fun j => ARE_L.getD j 0) | 2 => (t2, 10, fun j => MEET_L.getD j 0) | 3 => (t3, 10, fun j => TAKE_L.getD j 0) | 4 => (t4, 10, fun j => ITEMS_L.getD j 0) | _ => (b, L, xs)), rfl, ⟨⟨?_, ?_⟩, ?_, ?_, ?_, ?_, ao3, ao4⟩, ?_, rfl⟩
  · intro k q hq
    match k, hq with
    | 0, hq => cases hq; exact hk0
    | 1, hq => cases hq; exact hk1
    | 2, hq => cases hq; exact hk2
    | 3, hq => cases hq; exact hk3
    | 4, hq => cases hq; exact hk4
    | 5, hq => cases hq; exact hk5
    | 6, hq => cases hq; exact hk6
    | 7, hq => cases hq; exact hk7
    | 8, hq => cases hq; exact hk8
    | 9, hq => cases hq; exact hk9
    | k + 10, hq => simp [vwCl] at hq
  · intro k q hq
    match k, hq with
    | 0, hq => cases hq; exact ⟨fun n z => ⟨fun k h => (by cases h), ka0, g0, co0, e0⟩, f0⟩
    | 1, hq => cases hq; exact ⟨fun n z => ⟨fun k h => (by cases h), ka1, g1, co1, e1⟩, f1⟩
    | 2, hq => cases hq; exact ⟨fun n z => ⟨fun k h => (by cases h), ka2, g2, co2, e2⟩, f2⟩
    | 3, hq => cases hq; exact ⟨fun n z => ⟨fun k h => (by cases h), ka3, g3, co3, e3⟩, ka3, co3, g3, e3, m3, f3⟩
    | 4, hq => cases hq; exact ⟨fun n z => ⟨fun k h => (by cases h), ka4, g4, co4, e4⟩, ka4, co4, g4, e4, m4, f4⟩
    | k + 5, hq => simp [a_tys] at hq
  · exact fun w hm => va_Nw.of (a_nw_on (a_nws_ok w hm)) (hts w (a_nws_in w hm))
  · intro i hi
    rcases (show i = 0 ∨ i = 1 ∨ i = 2 ∨ i = 3 ∨ i = 4 by omega) with rfl | rfl | rfl | rfl | rfl
    · exact zz0
    · exact zz1
    · exact zz2
    · exact zz3
    · exact zz4
  · intro i hi
    rcases (show i = 0 ∨ i = 1 ∨ i = 2 ∨ i = 3 ∨ i = 4 ∨ i = 5 by omega) with rfl | rfl | rfl | rfl | rfl | rfl
    · exact y0
    · exact y1
    · exact y2
    · exact y3
    · exact y4
    · exact ⟨scr, x1, x2, x3, by show L ≤ _; omega, by rw [x4]; rfl, x5, Nat.not_le.mpr hbl⟩
  · intro q hq
    simp only [a_nc, List.mem_cons, List.not_mem_nil, or_false] at hq
    rcases hq with rfl | rfl | rfl
    · exact va_Nc.of (hs _ (by decide +kernel))
    · exact va_Nc.of (hs _ (by decide +kernel))
    · exact va_Nc.of (hs _ (by decide +kernel))
  · intro i hi
    rcases (show i = 0 ∨ i = 1 ∨ i = 2 ∨ i = 3 ∨ i = 4 by omega) with rfl | rfl | rfl | rfl | rfl <;> rfl

/-- WHAT IS LEFT, without the machine: for every script the law's two objects are made and its loop ends with 1 -/
def a_pure : Prop := ∀ (base L : Nat) (xs : Nat → Int32), L ≤ 3072 → ∃ n k : Nat, n ≤ 600 ∧ k ≤ 85 ∧ wL_law (wLoop k L xs n) (base, fun _ => none)
theorem whole_start_open (hpure : a_pure) {p : Program} {e : Env} {s : State} {m : MethodId} {below : List Frame} {meth : Method} {c : Code} (l : Launch) {b L : Nat} {xs : Nat → Int32} (hL : L ≤ 3072) (C0 : lw_At p s m meth c b L xs) : W p l e room_1 s m #[Value.ref b] below meth c s.heap [] 0 0 (lw_Z below #[Value.ref b] s) (entryFrame m ([Value.ref b] : List Value).toArray 4) := by
  obtain ⟨hx, hb, hr, hml, hown, hts, hX, hbl, hlocks, hgv⟩ := id C0
  obtain ⟨G, hG1, hKN, hGT, hG5⟩ := a_ctx hL C0
  have hw : ∀ w ∈ a_wt, w.before #[Value.ref b] s = true := fun w h => hts w (List.mem_filter.mp h).1
  obtain ⟨n, k, hn, hk, hp⟩ := hpure s.heap.size L xs hL
  have hX5 : (G.2.2.2 5).2 = (L, xs) := by rw [hG5]
  have key := abL_law_0 (c0 := 50 * n) (w0 := 400 * n) l G 300 hGT hX5 (acRd l G hGT k) (acRf l G hGT k) (by omega) (by omega) (by omega) (awLoop l G 300 k hGT hX5 (by omega) n) (s.heap.size, fun _ => none) hp
  have key2 := aw_bud (c := 600000) (w := 7302250) (by omega) (by omega) key
  have hl := lv_entry ([.ref b]) (n := 4) (Nat.le_of_ble_eq_true rfl)
  rw [lg_entry_eq]
  have hP0 : a_HP G (s.heap.size, fun _ => none) s.heap := ⟨rfl, by rw [hG1]; exact Nat.le_refl _, fun a c h => by cases h⟩
  have hb5 : (G.2.2.2 5).1 = b := by rw [hG5]
  rw [hb5] at key2
  have W1 := key2 p e room_1 s m #[.ref b] below meth c s.heap [] 0 0 600000 7302250 _ ⟨hx, hb, hr, hml, hown, (fun hn => absurd hn (by decide)), hw, hlocks, hKN, by decide, by decide⟩ ⟨by decide, by decide, by decide, by decide, hP0, va_S.rf, by rw [hG1]; exact Nat.le_refl _⟩ hl
  intro T hT X
  obtain ⟨t, h1, o, h2, h3, ⟨⟨v, h', hv, ⟨x, hxv, hx1⟩, hp'⟩, hF⟩, L', hFE, hfree⟩ := W1 T hT X
  refine ⟨t, h1, o, h2, h3, by rw [hv, hxv, hx1], hFE.1, hFE.2.1, hFE.2.2.weaken (fun y hy hlt => ?_) (Nat.le_refl _) (Nat.le_refl _)⟩
  have := hfree y hy
  unfold a_A at this
  rw [hG1] at this
  exact absurd hlt (Nat.not_lt.mpr this)

