/-! act, both, choice, guard -/
section CAL
variable {X Y cnt n : Nat} {P : Nat → Nat} {N : nT} {M : mT} {ρ : rD} {gs : rS} {S : sS} {D : sD} {h : aH}
theorem cc_isFull (C : CI X cnt P N M ρ gs n S D h) {co : Int32} {Q : Int32 → aH → Prop} (q1 : (cnt = 80 ∨ ¬ co ≤ 100) → Q 1 h) (q0 : cnt < 80 → co ≤ 100 → Q 0 h) : isO h X 8 (wX10_isFull h X co Q) := by
  have c80 := C.c80
  refine R_O C.R C.s0 (R_I C.R C.s0 rfl ?_)
  rw [C.cn]
  refine ⟨fun z => ⟨Or.inr rfl, q1 (Or.inl ?_)⟩, fun z => ⟨fun y => ⟨Or.inl rfl, q0 ?_ y⟩, fun y => ⟨Or.inr rfl, q1 (Or.inr y)⟩⟩⟩
  · have := (nI_leI (a := 80) (by omega) (by omega)).mp z
    omega
  · have : ¬ 80 ≤ cnt := fun e => z (nI_le (a := 80) e (by omega))
    omega
theorem cc_costOf (C : CI X cnt P N M ρ gs n S D h) {s : Nat} (hs : s < cnt) {Q : Int32 → aH → Prop} (hq : Q (nCo N s) h) : isO h X 8 (wX10_costOf h X (nI s) Q) := by
  have c80 := C.c80
  obtain ⟨o, hp, L, dd⟩ := C.W s hs
  refine R_O C.R C.s0 (cc_isNode C (fun _ => ⟨fun z => absurd z (by decide), fun _ => R_R C.R C.s0 rfl (R_aR3 C.R C.2.1.2.1 (vp_in_nI (by omega) (by omega)) (b := P s) ?_ (R_IN C.R L.1 o.s4 rfl ?_))⟩) (fun e => absurd ⟨s, hs, rfl⟩ e))
  · rw [nI_clamp (by omega)]; exact C.2.2.2.2.2.2.2.2.1 s hs
  · rw [dd.2.1]; exact hq
theorem cc_costOf0 (C : CI X cnt P N M ρ gs n S D h) {v : Int32} (hv : ¬ nS v cnt) {Q : Int32 → aH → Prop} (hq : Q 0 h) : isO h X 8 (wX10_costOf h X v Q) :=
  R_O C.R C.s0 (cc_isNode C (fun e => absurd e hv) (fun _ => ⟨fun _ => hq, fun z => absurd rfl z⟩))
theorem cc_act (C : CI X cnt P N M ρ gs n S D h) (hr : rOk cnt ρ) {op a b c d : Int32} {Q : Int32 → aH → Prop} (q0 : ¬ aOk op a b c d → Q (-1) h) (q1 : aOk op a b c d → cnt = 80 → Q (-2) h) (q2 : ∀ o, op = nI o → actOk o a b c d → cnt < 80 → ∀ n' S' D' h', CI X (cnt + 1) (upP P cnt n) (upN N cnt (0, o, a, b, c, d, 1)) M ρ gs n' S' D' h' → inC (X + 12) S D S' D' → Q (nI cnt) h') : wX10_act h X op a b c d Q := by
  refine cc_isAsTold (fun ok => ⟨fun _ => cc_isFull C (fun z => ⟨fun w => absurd w (by decide), fun _ => q1 ok (z.resolve_right fun e => e (by decide))⟩) (fun lt _ => ⟨fun _ => ?_, fun w => absurd rfl w⟩), fun w => absurd w (by decide)⟩) (fun nok => ⟨fun w => absurd rfl w, fun _ => q0 nok⟩)
  obtain ⟨o, eo, ao⟩ := ok
  refine N_o (ci := 0) (fl := [none, none, some none, some none, none, none, none, none, none, none, some none]) C.R C.2.2.1 rfl fun h1 S1 D1 R1 f1 x1 s1 z1 => ?_
  have hn := C.2.2.2.2.2.2.1
  refine R_I R1 ((x1 X (by omega) (by omega)).1.trans C.s0) rfl ?_
  rw [(x1 X (by omega) (by omega)).2.1, C.cn]
  refine N_act0 R1 f1 s1 z1 fun h2 S2 D2 R2 f2 x2 nn => ?_
  refine cc_add C hr lt R2 f2 (x1.tr x2 (by omega)) (r := (0, o, a, b, c, d, 1)) (v := fun k => if k = 9 then d else if k = 8 then c else if k = 7 then b else if k = 6 then a else if k = 5 then op else if k = 1 then 1 else if k = 0 then nI cnt else 0) ?_ ?_ ?_ ?_ fun h3 D3 C3 O3 => q2 o eo ao lt _ S2 D3 h3 C3 O3
  · exact nOk.cg (N := fun _ => (0, o, a, b, c, d, 1)) (Or.inl ⟨rfl, ao⟩) upN_at
  · have : nFl (upP P cnt n) (upN N cnt (0, o, a, b, c, d, 1)) cnt = [none, none, some (some (n + 1)), some (some (n + 3)), none, none, none, none, none, none, some (some (n + 23))] := by
      unfold nFl nSo; rw [upP_at, upN_at]; rfl
    rw [this]; exact nn
  · unfold nVal; simp only [nSo, nOp, nA, nB, nC, nD, nCo, upN_at]
    exact ⟨rfl, rfl, fun _ => ⟨eo, rfl, rfl, rfl, rfl⟩, fun e => absurd e (by decide), fun e => absurd e (by decide), rfl, fun e => absurd e (by decide)⟩
  · unfold nHi nSo; rw [upP_at, upN_at]; rfl
theorem mm_act (C : MI Y cnt N M ρ gs n S D h) (hr : rOk cnt ρ) {op a b c d : Int32} {Q : Int32 → aH → Prop} (q0 : ¬ aOk op a b c d → Q (-1) h) (q1 : aOk op a b c d → cnt = 80 → Q (-2) h) (q2 : ∀ o, op = nI o → actOk o a b c d → cnt < 80 → ∀ D' h', MI Y (cnt + 1) (upN N cnt (0, o, a, b, c, d, 1)) M ρ gs n S D' h' → inM Y D D' → Q (nI cnt) h') : wX11_act h Y op a b c d Q := by
  refine mm_isAct (fun ok => ⟨fun w => absurd w (by decide), fun _ => ?_⟩) (fun nok => ⟨fun _ => q0 nok, fun w => absurd rfl w⟩)
  obtain ⟨o, eo, ao⟩ := id ok
  have l18 := actOk_18 ao
  rw [eo]
  refine mm_node (so := 0) C hr (by omega) l18 ?_ (fun z => q1 ok (z.resolve_right fun e => e (by decide))) (fun lt _ h1 D1 C1 O1 => q2 o eo ao lt D1 h1 C1 O1)
  exact nOk.cg (N := fun _ => (0, o, a, b, c, d, 1)) (Or.inl ⟨rfl, ao⟩) upN_at
/-- reading a node's row of the class, after something new -/
theorem cc_ref (C : CI X cnt P N M ρ gs n S D h) {S1 : sS} {D1 : sD} {h1 : aH} (R1 : HR (n + 1) S1 D1 h1) (x1 : Ex n n S D S1 D1) {s : Nat} (hs : s < cnt) {K : Nat → Prop} (hK : K (P s)) : rR h1 X 8 1 (fun r => aR h1 3 r (nI s) K) := by
  have c80 := C.c80
  have hn := C.2.2.2.2.2.2.1
  refine R_R R1 ((x1 X (by omega) (by omega)).1.trans C.s0) rfl (R_aR3 R1 ((x1 (X + 9) (by omega) (by omega)).1.trans C.2.1.2.1) (vp_in_nI (by omega) (by omega)) (b := P s) ?_ hK)
  rw [nI_clamp (by omega), (x1 (X + 9) (by omega) (by omega)).2.2.2.2]; exact C.2.2.2.2.2.2.2.2.1 s hs
theorem cc_both (C : CI X cnt P N M ρ gs n S D h) (hr : rOk cnt ρ) {a b : Int32} {Q : Int32 → aH → Prop} (q0 : ¬ (nS a cnt ∧ nS b cnt) → Q (-1) h) (q1 : ∀ sa sb, sa < cnt → sb < cnt → a = nI sa → b = nI sb → (cnt = 80 ∨ ¬ 1 + nCo N sa + nCo N sb ≤ 100) → Q (-2) h) (q2 : ∀ sa sb, sa < cnt → sb < cnt → a = nI sa → b = nI sb → cnt < 80 → 1 + nCo N sa + nCo N sb ≤ 100 → ∀ n' S' D' h', CI X (cnt + 1) (upP P cnt n) (upN N cnt (1, 0, a, b, 0, 0, 1 + nCo N sa + nCo N sb)) M ρ gs n' S' D' h' → inC (X + 12) S D S' D' → Q (nI cnt) h') : wX10_both h X a b Q := by
  have hn := C.2.2.2.2.2.2.1
  have c80 := C.c80
  refine cc_isNode C (fun na => ⟨fun w => absurd w (by decide), fun _ => cc_isNode C (fun nb => ⟨fun _ => ?_, fun w => absurd w (by decide)⟩) (fun nb => ⟨fun w => absurd rfl w, fun _ => q0 fun e => nb e.2⟩)⟩) (fun na => ⟨fun _ => q0 fun e => na e.1, fun w => absurd rfl w⟩)
  obtain ⟨sa, ha, rfl⟩ := id na
  obtain ⟨sb, hb, rfl⟩ := id nb
  refine cc_costOf C ha (cc_costOf C hb (cc_isFull C (fun z => ⟨fun w => absurd w (by decide), fun _ => q1 sa sb ha hb rfl rfl z⟩) (fun lt le => ⟨fun _ => ?_, fun w => absurd rfl w⟩)))
  refine N_o (ci := 1) (fl := [none, none, some none, some none, none, some none, some none, some none]) C.R C.2.2.1 rfl fun h1 S1 D1 R1 f1 x1 s1 z1 => ?_
  refine R_I R1 ((x1 X (by omega) (by omega)).1.trans C.s0) rfl ?_
  rw [(x1 X (by omega) (by omega)).2.1, C.cn]
  refine cc_ref C R1 x1 ha (cc_ref C R1 x1 hb ?_)
  refine N_both0 R1 f1 s1 z1 fun h2 S2 D2 R2 f2 x2 nn => ?_
  refine cc_add C hr lt R2 f2 (x1.tr x2 (by omega)) (r := (1, 0, nI sa, nI sb, 0, 0, 1 + nCo N sa + nCo N sb)) (v := fun k => if k = 1 then 1 + nCo N sa + nCo N sb else if k = 0 then nI cnt else 0) ?_ ?_ ?_ ?_ fun h3 D3 C3 O3 => q2 sa sb ha hb rfl rfl lt le _ S2 D3 h3 C3 O3
  · exact nOk.cg (N := fun _ => (1, 0, nI sa, nI sb, 0, 0, 1 + nCo N sa + nCo N sb)) (Or.inr (Or.inl ⟨rfl, na, nb⟩)) upN_at
  · have : nFl (upP P cnt n) (upN N cnt (1, 0, nI sa, nI sb, 0, 0, 1 + nCo N sa + nCo N sb)) cnt = [none, none, some (some (n + 1)), some (some (n + 3)), none, some (some (P sa)), some (some (P sb)), some (some (n + 23))] := by
      unfold nFl; simp only [nSo, nA, nB, upP_at, upN_at]
      rw [tN_nI (show sa < 2 ^ 31 by omega), tN_nI (show sb < 2 ^ 31 by omega), upP_ne (show sa ≠ cnt by omega), upP_ne (show sb ≠ cnt by omega)]; rfl
    rw [this]; exact nn
  · unfold nVal; simp only [nSo, nOp, nA, nB, nC, nD, nCo, upN_at]
    exact ⟨rfl, rfl, fun e => absurd e (by decide), fun e => absurd e (by decide), fun e => absurd e (by decide), rfl, fun e => absurd e (by decide)⟩
  · unfold nHi nSo; rw [upP_at, upN_at]; rfl
theorem mm_cost (C : MI Y cnt N M ρ gs n S D h) {s : Nat} (hs : s < cnt) {K : Int32 → Prop} (hK : K (nCo N s)) : rR h Y 9 16 (fun r => aI h r (nI s) K) := R_R C.R C.L.1 rfl (sm_nCo C.1 hs hK)
theorem mm_both (C : MI Y cnt N M ρ gs n S D h) (hr : rOk cnt ρ) {a b : Int32} {Q : Int32 → aH → Prop} (q0 : ¬ (nS a cnt ∧ nS b cnt) → Q (-1) h) (q1 : ∀ sa sb, sa < cnt → sb < cnt → a = nI sa → b = nI sb → (cnt = 80 ∨ ¬ 1 + nCo N sa + nCo N sb ≤ 100) → Q (-2) h) (q2 : ∀ sa sb, sa < cnt → sb < cnt → a = nI sa → b = nI sb → cnt < 80 → 1 + nCo N sa + nCo N sb ≤ 100 → ∀ D' h', MI Y (cnt + 1) (upN N cnt (1, 0, a, b, 0, 0, 1 + nCo N sa + nCo N sb)) M ρ gs n S D' h' → inM Y D D' → Q (nI cnt) h') : wX11_both h Y a b Q := by
  refine mm_isNode C (fun na => ⟨fun w => absurd w (by decide), fun _ => mm_isNode C (fun nb => ⟨fun w => absurd w (by decide), fun _ => ?_⟩) (fun nb => ⟨fun _ => q0 fun e => nb e.2, fun w => absurd rfl w⟩)⟩) (fun na => ⟨fun _ => q0 fun e => na e.1, fun w => absurd rfl w⟩)
  obtain ⟨sa, ha, rfl⟩ := id na
  obtain ⟨sb, hb, rfl⟩ := id nb
  refine mm_cost C ha (mm_cost C hb (mm_node (so := 1) (op := 0) C hr (by omega) (by omega) ?_ (q1 sa sb ha hb rfl rfl) (fun lt le h1 D1 C1 O1 => q2 sa sb ha hb rfl rfl lt le D1 h1 C1 O1)))
  exact nOk.cg (N := fun _ => (1, 0, nI sa, nI sb, 0, 0, 1 + nCo N sa + nCo N sb)) (Or.inr (Or.inl ⟨rfl, na, nb⟩)) upN_at
theorem cc_choice (C : CI X cnt P N M ρ gs n S D h) (hr : rOk cnt ρ) {x k a b : Int32} {Q : Int32 → aH → Prop} (q0 : ¬ (nS x 12 ∧ nS k 10 ∧ nS a cnt ∧ nS b cnt) → Q (-1) h) (q1 : ∀ sa sb, sa < cnt → sb < cnt → a = nI sa → b = nI sb → nS x 12 → nS k 10 → (cnt = 80 ∨ ¬ 1 + nCo N sa + nCo N sb ≤ 100) → Q (-2) h) (q2 : ∀ sa sb, sa < cnt → sb < cnt → a = nI sa → b = nI sb → nS x 12 → nS k 10 → cnt < 80 → 1 + nCo N sa + nCo N sb ≤ 100 → ∀ n' S' D' h', CI X (cnt + 1) (upP P cnt n) (upN N cnt (2, 0, x, k, a, b, 1 + nCo N sa + nCo N sb)) M ρ gs n' S' D' h' → inC (X + 12) S D S' D' → Q (nI cnt) h') : wX10_choice h X x k a b Q := by
  have hn := C.2.2.2.2.2.2.1
  have c80 := C.c80
  have e10 := nS_iff (v := k) (k := 10) (by omega)
  refine cc_isSlot (fun nx => ⟨fun w => absurd w (by decide), fun _ => ⟨fun z => q0 fun e => (e10.mp e.2.1).1 z, fun z => ⟨fun y => q0 ?_, fun y => ?_⟩⟩⟩) (fun nx => ⟨fun _ => q0 fun e => nx e.1, fun w => absurd rfl w⟩)
  · rintro ⟨-, ⟨s, hs, rfl⟩, -⟩
    exact absurd ((nI_ltI (a := 9) (by omega) (by omega)).mp y) (by omega)
  have nk : nS k 10 := by
    obtain ⟨j, hj, rfl⟩ := nI_of z
    have : ¬ 9 < j := fun e => y ((nI_ltI (a := 9) (by omega) hj).mpr e)
    exact ⟨j, by omega, rfl⟩
  refine cc_isNode C (fun na => ⟨fun w => absurd w (by decide), fun _ => cc_isNode C (fun nb => ⟨fun _ => ?_, fun w => absurd w (by decide)⟩) (fun nb => ⟨fun w => absurd rfl w, fun _ => q0 fun e => nb e.2.2.2⟩)⟩) (fun na => ⟨fun _ => q0 fun e => na e.2.2.1, fun w => absurd rfl w⟩)
  obtain ⟨sa, ha, rfl⟩ := id na
  obtain ⟨sb, hb, rfl⟩ := id nb
  refine cc_costOf C ha (cc_costOf C hb (cc_isFull C (fun z => ⟨fun w => absurd w (by decide), fun _ => q1 sa sb ha hb rfl rfl nx nk z⟩) (fun lt le => ⟨fun _ => ?_, fun w => absurd rfl w⟩)))
  refine N_o (ci := 2) (fl := [none, none, some none, some none, none, none, none, some none, some none, some none]) C.R C.2.2.1 rfl fun h1 S1 D1 R1 f1 x1 s1 z1 => ?_
  refine R_I R1 ((x1 X (by omega) (by omega)).1.trans C.s0) rfl ?_
  rw [(x1 X (by omega) (by omega)).2.1, C.cn]
  refine cc_ref C R1 x1 ha (cc_ref C R1 x1 hb ?_)
  refine N_choice0 R1 f1 s1 z1 fun h2 S2 D2 R2 f2 x2 nn => ?_
  refine cc_add C hr lt R2 f2 (x1.tr x2 (by omega)) (r := (2, 0, x, k, nI sa, nI sb, 1 + nCo N sa + nCo N sb)) (v := fun j => if j = 6 then k else if j = 5 then x else if j = 1 then 1 + nCo N sa + nCo N sb else if j = 0 then nI cnt else 0) ?_ ?_ ?_ ?_ fun h3 D3 C3 O3 => q2 sa sb ha hb rfl rfl nx nk lt le _ S2 D3 h3 C3 O3
  · exact nOk.cg (N := fun _ => (2, 0, x, k, nI sa, nI sb, 1 + nCo N sa + nCo N sb)) (Or.inr (Or.inr (Or.inl ⟨rfl, nx, nk, na, nb⟩))) upN_at
  · have : nFl (upP P cnt n) (upN N cnt (2, 0, x, k, nI sa, nI sb, 1 + nCo N sa + nCo N sb)) cnt = [none, none, some (some (n + 1)), some (some (n + 3)), none, none, none, some (some (P sa)), some (some (P sb)), some (some (n + 23))] := by
      unfold nFl; simp only [nSo, nA, nB, nC, nD, upP_at, upN_at]
      rw [tN_nI (show sa < 2 ^ 31 by omega), tN_nI (show sb < 2 ^ 31 by omega), upP_ne (show sa ≠ cnt by omega), upP_ne (show sb ≠ cnt by omega)]; rfl
    rw [this]; exact nn
  · unfold nVal; simp only [nSo, nOp, nA, nB, nC, nD, nCo, upN_at]
    exact ⟨rfl, rfl, fun e => absurd e (by decide), fun _ => ⟨rfl, rfl⟩, fun e => absurd e (by decide), rfl, fun e => absurd e (by decide)⟩
  · unfold nHi nSo; rw [upP_at, upN_at]; rfl
theorem mm_choice (C : MI Y cnt N M ρ gs n S D h) (hr : rOk cnt ρ) {x k a b : Int32} {Q : Int32 → aH → Prop} (q0 : ¬ (nS x 12 ∧ nS k 10 ∧ nS a cnt ∧ nS b cnt) → Q (-1) h) (q1 : ∀ sa sb, sa < cnt → sb < cnt → a = nI sa → b = nI sb → nS x 12 → nS k 10 → (cnt = 80 ∨ ¬ 1 + nCo N sa + nCo N sb ≤ 100) → Q (-2) h) (q2 : ∀ sa sb, sa < cnt → sb < cnt → a = nI sa → b = nI sb → nS x 12 → nS k 10 → cnt < 80 → 1 + nCo N sa + nCo N sb ≤ 100 → ∀ D' h', MI Y (cnt + 1) (upN N cnt (2, 0, x, k, a, b, 1 + nCo N sa + nCo N sb)) M ρ gs n S D' h' → inM Y D D' → Q (nI cnt) h') : wX11_choice h Y x k a b Q := by
  have k0 : ¬ (nS x 12 ∧ nS k 10 ∧ nS a cnt ∧ nS b cnt) → wbX11_choice_38 Y x k a b h Q := fun e => ⟨fun _ => q0 e, fun w => absurd rfl w⟩
  refine mm_isSlot (fun nx => ⟨fun w => absurd w (by decide), fun _ => mm_in (a := 0) (b := 9) (by omega) (by omega) (fun nk => ⟨fun w => absurd w (by decide), fun _ => mm_isNode C (fun na => ⟨fun w => absurd w (by decide), fun _ => mm_isNode C (fun nb => ⟨fun w => absurd w (by decide), fun _ => ⟨fun w => absurd w (by decide), fun _ => ?_⟩⟩) (fun nb => ⟨fun _ => k0 fun e => nb e.2.2.2, fun w => absurd rfl w⟩)⟩) (fun na => ⟨fun _ => k0 fun e => na e.2.2.1, fun w => absurd rfl w⟩)⟩) (fun nk => ⟨fun _ => k0 fun e => nk (nS_in.mp e.2.1), fun w => absurd rfl w⟩)⟩) (fun nx => ⟨fun _ => k0 fun e => nx e.1, fun w => absurd rfl w⟩)
  have nk := nS_in.mpr nk
  obtain ⟨sa, ha, rfl⟩ := id na
  obtain ⟨sb, hb, rfl⟩ := id nb
  refine mm_cost C ha (mm_cost C hb (mm_node (so := 2) (op := 0) C hr (by omega) (by omega) ?_ (q1 sa sb ha hb rfl rfl nx nk) (fun lt le h1 D1 C1 O1 => q2 sa sb ha hb rfl rfl nx nk lt le D1 h1 C1 O1)))
  exact nOk.cg (N := fun _ => (2, 0, x, k, nI sa, nI sb, 1 + nCo N sa + nCo N sb)) (Or.inr (Or.inr (Or.inl ⟨rfl, nx, nk, na, nb⟩))) upN_at
/-! guard -/
def nN (v : Int32) (k : Nat) : Prop := v = -1 ∨ nS v k
def gCo (N : nT) (v : Int32) : Int32 := if 0 ≤ v then nCo N (tN v) else 0
theorem cc_isNodeOrNone (C : CI X cnt P N M ρ gs n S D h) {v : Int32} {Q : Int32 → aH → Prop} (h1 : nN v cnt → Q 1 h) (h0 : ¬ nN v cnt → Q 0 h) : isO h X 8 (wX10_isNodeOrNone h X v Q) :=
  R_O C.R C.s0 ⟨fun z => ⟨Or.inr rfl, h1 (Or.inl z)⟩, fun z => cc_isNode C (fun e => ⟨fun w => absurd w (by decide), fun _ => ⟨Or.inr rfl, h1 (Or.inr e)⟩⟩) (fun e => ⟨fun _ => ⟨Or.inl rfl, h0 fun q => q.elim z e⟩, fun w => absurd rfl w⟩)⟩
theorem m1_nS {k : Nat} (hk : k < 2 ^ 31) : ¬ nS (-1) k := fun e => by
  have := (nS_iff hk).mp e
  exact this.1 (by decide)
theorem cc_cost2 (C : CI X cnt P N M ρ gs n S D h) {v : Int32} (hv : nN v cnt) {Q : Int32 → aH → Prop} (hq : Q (gCo N v) h) : isO h X 8 (wX10_costOf h X v Q) := by
  have c80 := C.c80
  unfold gCo at hq
  rcases hv with rfl | ⟨s, hs, rfl⟩
  · rw [if_neg (by decide)] at hq
    exact cc_costOf0 C (m1_nS (by omega)) hq
  · rw [if_pos (nI_pos' (by omega)), tN_nI (show s < 2 ^ 31 by omega)] at hq
    exact cc_costOf C hs hq
theorem cc_orNull (C : CI X cnt P N M ρ gs n S D h) {S1 : sS} {D1 : sD} {h1 : aH} (R1 : HR (n + 1) S1 D1 h1) (x1 : Ex n n S D S1 D1) {v : Int32} (hv : nN v cnt) {Q : Option Nat → aH → Prop} (hq : Q (nRef P v) h1) : isO h1 X 8 (wX10_nodeOrNull h1 X v Q) := by
  have c80 := C.c80
  have hn := C.2.2.2.2.2.2.1
  have s0 := (x1 X (by omega) (by omega)).1.trans C.s0
  have e0 : D1.1 X 3 = nI cnt := by rw [(x1 X (by omega) (by omega)).2.1]; exact C.cn
  refine R_O R1 s0 (R_O R1 s0 ⟨fun z => ⟨Or.inl rfl, fun _ => ?_, fun w => absurd rfl w⟩, fun z => R_I R1 s0 rfl ?_⟩)
  · have : ¬ 0 ≤ v := Int32.not_le.mpr z
    unfold nRef at hq; rw [if_neg this] at hq; exact hq
  · rw [e0]
    obtain ⟨s, hs, rfl⟩ : nS v cnt := hv.resolve_left fun e => by rw [e] at z; exact z (by decide)
    refine ⟨fun y => absurd ((nI_leI (by omega) (by omega)).mp y) (by omega), fun y => ⟨Or.inr rfl, fun w => absurd w (by decide), fun _ => cc_ref C R1 x1 hs ?_⟩⟩
    unfold nRef at hq
    rw [if_pos (nI_pos' (by omega)), tN_nI (show s < 2 ^ 31 by omega)] at hq; exact hq
theorem cc_guard (C : CI X cnt P N M ρ gs n S D h) (hr : rOk cnt ρ) {a b c d : Int32} {Q : Int32 → aH → Prop} (q0 : ¬ (nS a cnt ∧ nN c cnt ∧ nN d cnt) → Q (-1) h) (q1 : ∀ sa, sa < cnt → a = nI sa → nN c cnt → nN d cnt → (cnt = 80 ∨ ¬ 1 + nCo N sa + gCo N c + 9 * gCo N d ≤ 100) → Q (-2) h) (q2 : ∀ sa, sa < cnt → a = nI sa → nN c cnt → nN d cnt → cnt < 80 → 1 + nCo N sa + gCo N c + 9 * gCo N d ≤ 100 → ∀ n' S' D' h', CI X (cnt + 1) (upP P cnt n) (upN N cnt (3, 0, a, b &&& 510, c, d, 1 + nCo N sa + gCo N c + 9 * gCo N d)) M ρ gs n' S' D' h' → inC (X + 12) S D S' D' → Q (nI cnt) h') : wX10_guard h X a b c d Q := by
  have hn := C.2.2.2.2.2.2.1
  have c80 := C.c80
  refine cc_isNode C (fun na => ⟨fun w => absurd w (by decide), fun _ => cc_isNodeOrNone C (fun nc => ⟨fun w => absurd w (by decide), fun _ => cc_isNodeOrNone C (fun nd => ⟨fun _ => ?_, fun w => absurd w (by decide)⟩) (fun nd => ⟨fun w => absurd rfl w, fun _ => q0 fun e => nd e.2.2⟩)⟩) (fun nc => ⟨fun _ => q0 fun e => nc e.2.1, fun w => absurd rfl w⟩)⟩) (fun na => ⟨fun _ => q0 fun e => na e.1, fun w => absurd rfl w⟩)
  obtain ⟨sa, ha, rfl⟩ := id na
  refine cc_costOf C ha (cc_cost2 C nc (cc_cost2 C nd (cc_isFull C (fun z => ⟨fun w => absurd w (by decide), fun _ => q1 sa ha rfl nc nd z⟩) (fun lt le => ⟨fun _ => ?_, fun w => absurd rfl w⟩))))
  refine N_o (ci := 3) (fl := [none, none, some none, some none, none, some none, none, some none, some none, some none, some none, none, none]) C.R C.2.2.1 rfl fun h1 S1 D1 R1 f1 x1 s1 z1 => ?_
  refine R_I R1 ((x1 X (by omega) (by omega)).1.trans C.s0) rfl ?_
  rw [(x1 X (by omega) (by omega)).2.1, C.cn]
  refine cc_ref C R1 x1 ha (cc_orNull C R1 x1 nc (cc_orNull C R1 x1 nd ?_))
  refine N_guard0 R1 f1 s1 z1 fun h2 S2 D2 R2 f2 x2 nn => ?_
  refine cc_add C hr lt R2 f2 (x1.tr x2 (by omega)) (r := (3, 0, nI sa, b &&& 510, c, d, 1 + nCo N sa + gCo N c + 9 * gCo N d)) (v := fun j => if j = 6 then b &&& 510 else if j = 1 then 1 + nCo N sa + gCo N c + 9 * gCo N d else if j = 0 then nI cnt else 0) ?_ ?_ ?_ ?_ fun h3 D3 C3 O3 => q2 sa ha rfl nc nd lt le _ S2 D3 h3 C3 O3
  · exact nOk.cg (N := fun _ => (3, 0, nI sa, b &&& 510, c, d, 1 + nCo N sa + gCo N c + 9 * gCo N d)) (Or.inr (Or.inr (Or.inr ⟨rfl, na, by show (b &&& 510) &&& 510 = b &&& 510; rw [Int32.and_assoc, Int32.and_self], nc, nd⟩))) upN_at
  · have rf : ∀ v, nN v cnt → nRef (upP P cnt n) v = nRef P v := fun v hv => by
      unfold nRef
      by_cases v0 : 0 ≤ v
      · have := (tN_lt (ge0_nS hv v0) (by omega)).1
        rw [if_pos v0, if_pos v0, upP_ne (by omega)]
      · rw [if_neg v0, if_neg v0]
    have : nFl (upP P cnt n) (upN N cnt (3, 0, nI sa, b &&& 510, c, d, 1 + nCo N sa + gCo N c + 9 * gCo N d)) cnt = [none, none, some (some (n + 1)), some (some (n + 3)), none, some (some (P sa)), none, some (nRef P c), some (nRef P d), some (some (n + 23)), some (some (n + 25)), none, none] := by
      unfold nFl; simp only [nSo, nA, nB, nC, nD, upP_at, upN_at]
      rw [tN_nI (show sa < 2 ^ 31 by omega), upP_ne (show sa ≠ cnt by omega), rf c nc, rf d nd]; rfl
    rw [this]; exact nn
  · unfold nVal; simp only [nSo, nOp, nA, nB, nC, nD, nCo, upN_at]
    exact ⟨rfl, rfl, fun e => absurd e (by decide), fun e => absurd e (by decide), fun _ => rfl, rfl, fun _ => ⟨rfl, rfl⟩⟩
  · unfold nHi nSo; rw [upP_at, upN_at]; rfl
theorem nN_m1 {v : Int32} {k : Nat} (hk : k < 2 ^ 31) (hv : nN v k) : (0 ≤ v → ∃ s, s < k ∧ v = nI s) ∧ (¬ 0 ≤ v → v = -1) := by
  constructor
  · intro h; exact ge0_nS hv h
  · intro h
    refine hv.resolve_right ?_
    rintro ⟨s, hs, rfl⟩
    exact h (nI_pos' (by omega))
theorem mm_guard (C : MI Y cnt N M ρ gs n S D h) (hr : rOk cnt ρ) {a b c d : Int32} {Q : Int32 → aH → Prop} (q0 : ¬ (nS a cnt ∧ nN c cnt ∧ nN d cnt) → Q (-1) h) (q1 : ∀ sa, sa < cnt → a = nI sa → nN c cnt → nN d cnt → (cnt = 80 ∨ ¬ 1 + nCo N sa + gCo N c + 9 * gCo N d ≤ 100) → Q (-2) h) (q2 : ∀ sa, sa < cnt → a = nI sa → nN c cnt → nN d cnt → cnt < 80 → 1 + nCo N sa + gCo N c + 9 * gCo N d ≤ 100 → ∀ D' h', MI Y (cnt + 1) (upN N cnt (3, 0, a, b &&& 510, c, d, 1 + nCo N sa + gCo N c + 9 * gCo N d)) M ρ gs n S D' h' → inM Y D D' → Q (nI cnt) h') : wX11_guard h Y a b c d Q := by
  have c80 := C.c80
  have k40 : ¬ (nS a cnt ∧ nN c cnt ∧ nN d cnt) → wbX11_guard_40 Y a b c d h Q := fun e => ⟨fun w => absurd rfl w, fun _ => q0 e⟩
  have k36 : nS a cnt → nN c cnt → nN d cnt → wbX11_guard_36 Y a b c d h Q := by
    intro na nc nd
    obtain ⟨sa, ha, rfl⟩ := id na
    have k92 : ∀ v w : Int32, v + w = 1 + nCo N sa + gCo N c + 9 * gCo N d → wbX11_guard_92 Y (nI sa) b c d w v h Q := by
      intro v w e
      have := mm_node (so := 3) (op := 0) (a := nI sa) (b := b &&& 510) (c := c) (d := d) (co := 1 + nCo N sa + gCo N c + 9 * gCo N d) (Q := Q) C hr (by omega) (by omega) (by exact nOk.cg (N := fun _ => (3, 0, nI sa, b &&& 510, c, d, 1 + nCo N sa + gCo N c + 9 * gCo N d)) (Or.inr (Or.inr (Or.inr ⟨rfl, na, by show (b &&& 510) &&& 510 = b &&& 510; rw [Int32.and_assoc, Int32.and_self], nc, nd⟩))) upN_at) (q1 sa ha rfl nc nd) (fun lt le h1 D1 C1 O1 => q2 sa ha rfl nc nd lt le D1 h1 C1 O1)
      show isO h Y 9 (wX11_node h Y 3 0 (nI sa) (b &&& 510) c d (v + w) (fun r2 h1 => Q r2 h1))
      rw [e]; exact this
    have k72 : wbX11_guard_72 Y (nI sa) b c d (gCo N c) (1 + nCo N sa) h Q := by
      refine ⟨fun z => ?_, fun z => k92 _ 0 ?_⟩
      · obtain ⟨s, hs, rfl⟩ := (nN_m1 (by omega) nd).1 z
        refine mm_cost C hs (k92 _ _ ?_)
        unfold gCo; rw [if_pos z, tN_nI (show s < 2 ^ 31 by omega)]
      · have e : gCo N d = 0 := by unfold gCo; rw [if_neg z]
        rw [e, Int32.mul_zero]
    refine ⟨fun _ => mm_cost C ha ⟨fun z => ?_, fun z => ?_⟩, fun w => absurd w (by decide)⟩
    · obtain ⟨s, hs, rfl⟩ := (nN_m1 (by omega) nc).1 z
      refine mm_cost C hs ?_
      have e : gCo N (nI s) = nCo N s := by unfold gCo; rw [if_pos z, tN_nI (show s < 2 ^ 31 by omega)]
      rw [← e]; exact k72
    · have e : gCo N c = 0 := by unfold gCo; rw [if_neg z]
      rw [e] at k72; exact k72
  have k21 : nS a cnt → nN c cnt → wbX11_guard_21 Y a b c d h Q := fun na nc => ⟨fun z => k36 na nc (Or.inl z), fun z => mm_isNode C (fun nd => ⟨fun w => absurd w (by decide), fun _ => k36 na nc (Or.inr nd)⟩) (fun nd => ⟨fun _ => k40 fun e => e.2.2.elim z nd, fun w => absurd rfl w⟩)⟩
  exact mm_isNode C (fun na => ⟨fun w => absurd w (by decide), fun _ => ⟨fun z => k21 na (Or.inl z), fun z => mm_isNode C (fun nc => ⟨fun w => absurd w (by decide), fun _ => k21 na (Or.inr nc)⟩) (fun nc => ⟨fun _ => k40 fun e => e.2.1.elim z nc, fun w => absurd rfl w⟩)⟩⟩) (fun na => ⟨fun _ => k40 fun e => na e.1, fun w => absurd rfl w⟩)
end CAL
