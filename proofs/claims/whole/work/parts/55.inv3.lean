/-! a new node, on both sides -/
def upN (N : nT) (m : Nat) (r : nR) : nT := fun k => if k = m then r else N k
def upP (P : Nat → Nat) (m p : Nat) : Nat → Nat := fun k => if k = m then p else P k
theorem upN_at {N : nT} {m : Nat} {r : nR} : upN N m r m = r := by simp [upN]
theorem upN_ne {N : nT} {m k : Nat} {r : nR} (h : k ≠ m) : upN N m r k = N k := by simp [upN, h]
theorem upP_at {P : Nat → Nat} {m p : Nat} : upP P m p m = p := by simp [upP]
theorem upP_ne {P : Nat → Nat} {m k p : Nat} (h : k ≠ m) : upP P m p k = P k := by simp [upP, h]
theorem nOk.cg {N N' : nT} {m : Nat} (h : nOk N m) (e : N' m = N m) : nOk N' m := by
  unfold nOk nSo nOp nA nB nC nD at h ⊢
  rw [e]; exact h
theorem nFl_cg {P P' : Nat → Nat} {N N' : nT} {m : Nat} (hm : m ≤ 80) (o : nOk N m) (e : N' m = N m) (eP : ∀ c, c ≤ m → P' c = P c) : nFl P' N' m = nFl P N m := by
  have em := eP m (Nat.le_refl m)
  have e0 : nSo N' m = nSo N m := by unfold nSo; rw [e]
  have ea : nA N' m = nA N m := by unfold nA; rw [e]
  have eb : nB N' m = nB N m := by unfold nB; rw [e]
  have ec : nC N' m = nC N m := by unfold nC; rw [e]
  have ed : nD N' m = nD N m := by unfold nD; rw [e]
  have rf : ∀ c : Int32, (c = -1 ∨ nS c m) → nRef P' c = nRef P c := by
    intro c hc
    unfold nRef
    by_cases c0 : 0 ≤ c
    · rw [if_pos c0, if_pos c0, eP _ (Nat.le_of_lt (tN_lt (ge0_nS hc c0) (by omega)).1)]
    · rw [if_neg c0, if_neg c0]
  have kd : ∀ c : Int32, nS c m → P' (tN c) = P (tN c) := fun c hc => eP _ (Nat.le_of_lt (tN_lt hc (by omega)).1)
  unfold nFl
  rw [e0, ea, eb, ec, ed, em]
  rcases o with ⟨s0, -⟩ | ⟨s1, oa, ob⟩ | ⟨s2, oa, ob, oc, od⟩ | ⟨s3, oa, ob, oc, od⟩
  · rw [if_pos s0, if_pos s0]
  · have n0 : ¬ nSo N m = 0 := by omega
    simp only [if_neg n0, if_pos s1, kd _ oa, kd _ ob]
  · have n0 : ¬ nSo N m = 0 := by omega
    have n1 : ¬ nSo N m = 1 := by omega
    simp only [if_neg n0, if_neg n1, if_pos s2, kd _ oc, kd _ od]
  · have n0 : ¬ nSo N m = 0 := by omega
    have n1 : ¬ nSo N m = 1 := by omega
    have n2 : ¬ nSo N m = 2 := by omega
    simp only [if_neg n0, if_neg n1, if_neg n2, kd _ oa, rf _ oc, rf _ od]
/-- what a new node's numbers are -/
def nVal (N : nT) (m : Nat) (v : Nat → Int32) : Prop := v 0 = nI m ∧ v 1 = nCo N m ∧ (nSo N m = 0 → v 5 = nI (nOp N m) ∧ v 6 = nA N m ∧ v 7 = nB N m ∧ v 8 = nC N m ∧ v 9 = nD N m) ∧ (nSo N m = 2 → v 5 = nA N m ∧ v 6 = nB N m) ∧ (nSo N m = 3 → v 6 = nB N m) ∧ v 4 = 0 ∧ (nSo N m = 3 → v 11 = 0 ∧ v 12 = 0)
section ADD
variable {X Y cnt n : Nat} {P : Nat → Nat} {N : nT} {M : mT} {ρ : rD} {gs : rS} {S : sS} {D : sD} {h : aH}
theorem CRm.pn {P' : Nat → Nat} {N' : nT} {m : Nat} (c : CRm P N ρ D m) (eP : P' m = P m) (eN : N' m = N m) : CRm P' N' ρ D m := by
  unfold CRm CRo nSo at c ⊢
  rw [eP, eN]; exact c
theorem cc_add (C : CI X cnt P N M ρ gs n S D h) (hr : rOk cnt ρ) (h80 : cnt < 80) {n' : Nat} {S' : sS} {D' : sD} {h' : aH} (R' : HR n' S' D' h') (f' : fr n' S') (x : Ex n n S D S' D') {r : nR} {v : Nat → Int32} (ok : nOk (upN N cnt r) cnt) (nn : NN n r.1 (nFl (upP P cnt n) (upN N cnt r) cnt) v S' D') (hv : nVal (upN N cnt r) cnt v) (hn : n' = nHi (upP P cnt n) (upN N cnt r) cnt) {Q : Int32 → aH → Prop} (hq : ∀ h2 D2, CI X (cnt + 1) (upP P cnt n) (upN N cnt r) M ρ gs n' S' D2 h2 → inC (X + 12) S D S' D2 → Q (nI cnt) h2) : isO h' X 8 (wX10_added h' X n Q) := by
  obtain ⟨c1, c2, c3, c4, c5, c6, c7, c8, c9, c10, c11, c12, c13⟩ := C
  obtain ⟨q1, q2, q3, q4, q5, q6, q7, q8, q9⟩ := nn
  have sx : ∀ a, a < n → S' a = S a := fun a ha => (x a ha (by omega)).1
  have s0 := (sx X (by omega)).trans c2.1
  have s9 := (sx (X + 9) (by omega)).trans c2.2.1
  have h4 : r.1 < 4 := by
    have := ok.s4
    unfold nSo at this
    rw [upN_at] at this; exact this
  have cn' : D'.1 X 3 = nI cnt := by rw [(x X (by omega) (by omega)).2.1]; exact c8
  refine R_O R' s0 (R_R R' s0 rfl (R_I R' s0 rfl ?_))
  rw [cn']
  refine R_sR R' s9 (vp_in_nI h80 (by omega)) q1 h4 fun h1 R1 => R_I R1 s0 rfl ?_
  have e1 : (uP D' (X + 9) (va_up (D'.2.2.2 (X + 9)) (nI cnt).toNatClampNeg (some n))).1 X 3 = nI cnt := cn'
  rw [e1, nI_1]
  refine R_wF R1 s0 rfl fun h2 R2 => R_I R2 s0 rfl ?_
  rw [uO_at, if_pos rfl, nI_pred]
  rw [nI_clamp (by omega)] at R2
  generalize eD2 : uO (uP D' (X + 9) (va_up (D'.2.2.2 (X + 9)) cnt (some n))) X 3 (nI (cnt + 1)) = D2 at R2
  have o1 : ∀ a, a ≠ X → D2.1 a = D'.1 a := fun a ha => by subst eD2; simp [uO, uP, va_up, ha]
  have oX : ∀ k, k ≠ 3 → D2.1 X k = D'.1 X k := fun k hk => by subst eD2; rw [uO_at, if_neg hk]; rfl
  have o2 : D2.2.1 = D'.2.1 := by subst eD2; rfl
  have o3 : D2.2.2.1 = D'.2.2.1 := by subst eD2; rfl
  have o4 : ∀ a, a ≠ X + 9 → D2.2.2.2 a = D'.2.2.2 a := fun a ha => by subst eD2; simp [uO, uP, va_up, ha]
  have o5 : D2.1 X 3 = nI (cnt + 1) := by subst eD2; rw [uO_at, if_pos rfl]
  have o6 : ∀ k, D2.2.2.2 (X + 9) k = if k = cnt then some n else D.2.2.2 (X + 9) k := fun k => by
    subst eD2
    show (uP D' (X + 9) _).2.2.2 (X + 9) k = _
    simp only [uP, va_up, if_pos]
    rw [(x (X + 9) (by omega) (by omega)).2.2.2.2]
  have ow : ∀ a, a < n → a ≠ X → a ≠ X + 9 → D2.1 a = D.1 a ∧ D2.2.1 a = D.2.1 a ∧ D2.2.2.1 a = D.2.2.1 a ∧ D2.2.2.2 a = D.2.2.2 a := fun a ha h1 h2 => by
    obtain ⟨-, a2, a3, a4, a5⟩ := x a ha (by omega)
    exact ⟨(o1 a h1).trans a2, by rw [o2]; exact a3, by rw [o3]; exact a4, (o4 a h2).trans a5⟩
  refine hq h2 D2 ⟨⟨R2, ?_, c1.2.2.1.eq fun a g1 g2 => ?_, c1.2.2.2⟩, ?_, f', ?_, ?_, ?_, ?_, o5, ?_, ?_, c11, ?_, by omega⟩ ?_
  · obtain ⟨l1, l2, l3, l4, l5, l6, l7, l8⟩ := c1.2.1
    exact ⟨(sx _ (by omega)).trans l1, (sx _ (by omega)).trans l2, (sx _ (by omega)).trans l3, (sx _ (by omega)).trans l4, (sx _ (by omega)).trans l5, (sx _ (by omega)).trans l6, (sx _ (by omega)).trans l7, (sx _ (by omega)).trans l8⟩
  · exact ⟨(ow a (by omega) (by omega) (by omega)).1, (ow a (by omega) (by omega) (by omega)).2.1, (ow a (by omega) (by omega) (by omega)).2.2.1⟩
  · exact ⟨s0, s9, (sx _ (by omega)).trans c2.2.2.1, (sx _ (by omega)).trans c2.2.2.2⟩
  · -- the nodes
    intro m hm
    by_cases e : m = cnt
    · subst e
      refine ⟨ok, by rw [upP_at]; omega, ?_, ?_⟩
      · unfold NdL
        rw [upP_at]
        have es : nSo (upN N m r) m = r.1 := by unfold nSo; rw [upN_at]
        rw [es]
        exact ⟨q1, q3, q4, q5, fun e => (q9 e).1⟩
      · unfold NdD
        rw [upP_at, o1 n (by omega), o4 (n + 4) (by omega), o4 (n + 26) (by omega)]
        obtain ⟨v0, v1, v5, v6, v7, v8, v9⟩ := hv
        have es : nSo (upN N m r) m = r.1 := by unfold nSo; rw [upN_at]
        refine ⟨(q2 0).trans v0, (q2 1).trans v1, fun e => ?_, fun e => ?_, fun e => ?_, q7, fun e => (q9 (by rw [← es]; exact e)).2.1⟩
        · obtain ⟨w1, w2, w3, w4, w5⟩ := v5 e
          exact ⟨(q2 5).trans w1, (q2 6).trans w2, (q2 7).trans w3, (q2 8).trans w4, (q2 9).trans w5⟩
        · exact ⟨(q2 5).trans (v6 e).1, (q2 6).trans (v6 e).2⟩
        · exact (q2 6).trans (v7 e)
    · have hm' : m < cnt := by omega
      obtain ⟨g1, g2, g3, g4⟩ := c4 m hm'
      have g6 := c6 m hm'
      have h25 := nHi_25 P N m
      have eN : upN N cnt r m = N m := upN_ne e
      have eP : upP P cnt n m = P m := upP_ne e
      have es : nSo (upN N cnt r) m = nSo N m := by unfold nSo; rw [eN]
      refine ⟨g1.cg eN, by rw [eP]; exact g2, ?_, ?_⟩
      · obtain ⟨l1, l2, l3, l4, l5⟩ := g3
        unfold NdL
        rw [eP, es, nFl_cg (by omega) g1 eN (fun c hc => upP_ne (by omega))]
        refine ⟨(sx _ (by omega)).trans l1, ⟨(sx _ (by omega)).trans l2.1, (sx _ (by omega)).trans l2.2⟩, ⟨(sx _ (by omega)).trans l3.1, (sx _ (by omega)).trans l3.2.1, fun i hi => ⟨(sx _ (by omega)).trans (l3.2.2 i hi).1, (sx _ (by omega)).trans (l3.2.2 i hi).2⟩⟩, ⟨(sx _ (by omega)).trans l4.1, (sx _ (by omega)).trans l4.2⟩, fun s => ?_⟩
        have h45 := nHi_45 P N m s
        have l5 := l5 s
        exact ⟨(sx _ (by omega)).trans l5.1, (sx _ (by omega)).trans l5.2.1, fun i hi => ⟨(sx _ (by omega)).trans (l5.2.2 i hi).1, (sx _ (by omega)).trans (l5.2.2 i hi).2⟩⟩
      · unfold NdD nSo nCo nOp nA nB nC nD at g4 ⊢
        rw [eP, eN, (ow (P m) (by omega) (by omega) (by omega)).1, (ow (P m + 4) (by omega) (by omega) (by omega)).2.2.2]
        obtain ⟨k1, k2, k3, k4, k5, k6, k7⟩ := g4
        refine ⟨k1, k2, k3, k4, k5, k6, fun s => ?_⟩
        have h45 := nHi_45 P N m s
        rw [(ow (P m + 26) (by omega) (by omega) (by omega)).2.2.2]; exact k7 s
  · -- the order
    intro i j hij hj
    have ei : i ≠ cnt := by omega
    have hi' : nHi (upP P cnt n) (upN N cnt r) i = nHi P N i := by unfold nHi nSo; rw [upP_ne ei, upN_ne ei]
    rw [hi']
    by_cases e : j = cnt
    · subst e; rw [upP_at]; exact c6 i hij
    · rw [upP_ne e]; exact c5 i j hij (by omega)
  · intro m hm
    by_cases e : m = cnt
    · subst e; omega
    · have hi' : nHi (upP P cnt n) (upN N cnt r) m = nHi P N m := by unfold nHi nSo; rw [upP_ne e, upN_ne e]
      rw [hi', hn]
      have := c6 m (by omega)
      have := nHi_25 (upP P cnt n) (upN N cnt r) cnt
      rw [upP_at] at this
      omega
  · have := nHi_25 (upP P cnt n) (upN N cnt r) cnt
    rw [upP_at] at this
    omega
  · intro m hm
    rw [o6]
    by_cases e : m = cnt
    · rw [if_pos e, e, upP_at]
    · rw [if_neg e, upP_ne e]; exact c9 m (by omega)
  · exact c10.cg (ow _ (by omega) (by omega) (by omega)).2.1
  · intro g hg
    by_cases e : g = cnt
    · subst e
      obtain ⟨z1, z2, z3, z4⟩ := hr.1 g (hr.2 g (Nat.le_refl g))
      have es : nSo (upN N g r) g = r.1 := by unfold nSo; rw [upN_at]
      unfold CRm CRo
      rw [upP_at, es]
      refine ⟨⟨fun i hi => ?_, ?_, fun s => ?_⟩, ⟨rZW, okW.z, fun f hf i hi => ?_⟩, fun s => ⟨rZW, okW.z, fun f hf i hi => ?_⟩⟩
      · rw [o2, z1 i]; exact q6 i
      · rw [o1 n (by omega), z2]; exact (q2 4).trans hv.2.2.2.2.2.1
      · rw [o1 n (by omega), z3, z4]
        have := hv.2.2.2.2.2.2 (by rw [es]; exact s)
        exact ⟨(q2 11).trans this.1, (q2 12).trans this.2⟩
      · rw [o2]
        have := q8 f hf i
        rw [show n + 3 + 2 + 2 * f + 1 = n + 5 + 2 * f + 1 by omega]; exact this
      · rw [o2]
        have := (q9 s).2.2 f hf i
        rw [show n + 25 + 2 + 2 * f + 1 = n + 27 + 2 * f + 1 by omega]; exact this
    · have g6 := c6 g (by omega)
      have g2 := (c4 g (by omega)).2.1
      refine ((c12 g (by omega)).cg (fun a h1 h2 => ?_) rAt.rf).pn (upP_ne e) (upN_ne e)
      exact ⟨(ow a (by omega) (by omega) (by omega)).1, (ow a (by omega) (by omega) (by omega)).2.1⟩
  · intro a h1 h2
    obtain ⟨a1, a2, a3, a4, a5⟩ := x a (by omega) (by omega)
    exact ⟨a1, (o1 a (by omega)).trans a2, by rw [o2]; exact a3, by rw [o3]; exact a4, (o4 a (by omega)).trans a5⟩
theorem rOk.up (hr : rOk cnt ρ) : rOk (cnt + 1) ρ := ⟨hr.1, fun g hg => hr.2 g (by omega)⟩
theorem mRep.eq2 {D' : sD} (r : mRep Y M D) (h1 : ∀ k, (k ≤ 1 ∨ (17 ≤ k ∧ k ≤ 22)) → D'.1 Y k = D.1 Y k) (h2 : ∀ a, Y ≤ a → a ≤ Y + 7 → D'.2.1 a = D.2.1 a ∧ D'.2.2.1 a = D.2.2.1 a) : mRep Y M D' := by
  unfold mRep at r ⊢
  rw [h1 0 (by omega), h1 1 (by omega), (h2 (Y + 1) (by omega) (by omega)).1, (h2 (Y + 2) (by omega) (by omega)).1, (h2 (Y + 3) (by omega) (by omega)).1, (h2 (Y + 4) (by omega) (by omega)).1, (h2 (Y + 5) (by omega) (by omega)).2, (h2 (Y + 6) (by omega) (by omega)).1, (h2 (Y + 7) (by omega) (by omega)).2]
  obtain ⟨r1, r2, r3, r4, r5, r6, r7, r8, r9⟩ := r
  exact ⟨r1, r2, r3, r4, r5, r6, r7, r8, fun k hk => (h1 _ (by omega)).trans (r9 k hk)⟩
/-- the model's new node -/
theorem mm_node (C : MI Y cnt N M ρ gs n S D h) (hr : rOk cnt ρ) {so op : Nat} {a b c d co : Int32} (hso : so < 4) (hop : op < 18) (ok : nOk (upN N cnt (so, op, a, b, c, d, co)) cnt) {Q : Int32 → aH → Prop} (h0 : (cnt = 80 ∨ ¬ co ≤ 100) → Q (-2) h) (h1 : cnt < 80 → co ≤ 100 → ∀ h' D', MI Y (cnt + 1) (upN N cnt (so, op, a, b, c, d, co)) M ρ gs n S D' h' → inM Y D D' → Q (nI cnt) h') : isO h Y 9 (wX11_node h Y (nI so) (nI op) a b c d co Q) := by
  obtain ⟨⟨⟨R, L, mr, mi⟩, nd, c80⟩, so1, fl⟩ := C
  refine R_O R L.1 (R_I R L.1 rfl ?_)
  rw [nd.1]
  refine ⟨fun z => h0 (Or.inl ((nI_eq (b := 80) (by omega) (by omega)).mp z)), fun z => ⟨fun y => ?_, fun y => h0 (Or.inr y)⟩⟩
  have lt : cnt < 80 := by
    rcases Nat.lt_or_ge cnt 80 with e | e
    · exact e
    · exact absurd (show nI cnt = 80 by rw [show cnt = 80 by omega]; rfl) z
  have vi : vp_in (nI cnt) 80 := vp_in_nI lt (by omega)
  have cl : (nI cnt).toNatClampNeg = cnt := nI_clamp (by omega)
  refine R_R R L.1 rfl (R_I R L.1 rfl ?_)
  rw [nd.1]
  refine R_sI R L.s8 vi fun h1' R1 => R_R R1 L.1 rfl (R_I R1 L.1 rfl ?_)
  rw [show ∀ b f, (uF D b f).1 Y 9 = nI cnt from fun _ _ => nd.1]
  refine R_sI R1 L.s9 vi fun h2 R2 => R_R R2 L.1 rfl (R_I R2 L.1 rfl ?_)
  rw [show ∀ b f b' f', (uF (uF D b f) b' f').1 Y 9 = nI cnt from fun _ _ _ _ => nd.1]
  refine R_sI R2 L.s10 vi fun h3 R3 => R_R R3 L.1 rfl (R_I R3 L.1 rfl ?_)
  rw [show ∀ b f b' f' b'' f'', (uF (uF (uF D b f) b' f') b'' f'').1 Y 9 = nI cnt from fun _ _ _ _ _ _ => nd.1]
  refine R_sI R3 L.s11 vi fun h4 R4 => R_R R4 L.1 rfl (R_I R4 L.1 rfl ?_)
  generalize eD4 : uF (uF (uF (uF D (Y + 8) _) (Y + 9) _) (Y + 10) _) (Y + 11) _ = D4 at R4
  have n4 : D4.1 = D.1 := by subst eD4; rfl
  have n4' : D4.1 Y 9 = nI cnt := by rw [n4]; exact nd.1
  rw [n4']
  refine R_sI R4 L.s12 vi fun h5 R5 => R_R R5 L.1 rfl (R_I R5 L.1 rfl ?_)
  rw [show ∀ b f, (uF D4 b f).1 Y 9 = nI cnt from fun _ _ => n4']
  refine R_sI R5 L.s13 vi fun h6 R6 => R_R R6 L.1 rfl (R_I R6 L.1 rfl ?_)
  rw [show ∀ b f b' f', (uF (uF D4 b f) b' f').1 Y 9 = nI cnt from fun _ _ _ _ => n4']
  refine R_sI R6 L.s14 vi fun h7 R7 => R_R R7 L.1 rfl (R_I R7 L.1 rfl ?_)
  rw [show ∀ b f b' f' b'' f'', (uF (uF (uF D4 b f) b' f') b'' f'').1 Y 9 = nI cnt from fun _ _ _ _ _ _ => n4']
  refine R_sZ R7 L.s21 vi fun h8 R8 => R_I R8 L.1 rfl ?_
  generalize eD8 : uF (uF (uF (uF D4 (Y + 12) _) (Y + 13) _) (Y + 14) _) (Y + 21) _ = D8 at R8
  have n8 : D8.1 = D.1 := by subst eD8; exact n4
  have n8' : D8.1 Y 9 = nI cnt := by rw [n8]; exact nd.1
  rw [n8', nI_1]
  refine R_wF R8 L.1 rfl fun h9 R9 => R_I R9 L.1 rfl ?_
  rw [uO_at, if_pos rfl, nI_pred]
  rw [cl] at eD4 eD8
  have b4 : ∀ e, e ≠ Y + 8 → e ≠ Y + 9 → e ≠ Y + 10 → e ≠ Y + 11 → D4.2.1 e = D.2.1 e := fun e g1 g2 g3 g4 => by subst eD4; rw [uF_ne g4, uF_ne g3, uF_ne g2, uF_ne g1]
  have b8 : ∀ e, e ≠ Y + 12 → e ≠ Y + 13 → e ≠ Y + 14 → e ≠ Y + 21 → D8.2.1 e = D4.2.1 e := fun e g1 g2 g3 g4 => by subst eD8; rw [uF_ne g4, uF_ne g3, uF_ne g2, uF_ne g1]
  have r8 : D8.2.1 (Y + 8) = upd (D.2.1 (Y + 8)) cnt (nI so) := by
    rw [b8 _ (by omega) (by omega) (by omega) (by omega)]; subst eD4; rw [uF_ne (by omega), uF_ne (by omega), uF_ne (by omega), uF_at]
  have r9 : D8.2.1 (Y + 9) = upd (D.2.1 (Y + 9)) cnt (nI op) := by
    rw [b8 _ (by omega) (by omega) (by omega) (by omega)]; subst eD4; rw [uF_ne (by omega), uF_ne (by omega), uF_at, uF_ne (by omega)]
  have r10 : D8.2.1 (Y + 10) = upd (D.2.1 (Y + 10)) cnt a := by
    rw [b8 _ (by omega) (by omega) (by omega) (by omega)]; subst eD4; rw [uF_ne (by omega), uF_at, uF_ne (by omega), uF_ne (by omega)]
  have r11 : D8.2.1 (Y + 11) = upd (D.2.1 (Y + 11)) cnt b := by
    rw [b8 _ (by omega) (by omega) (by omega) (by omega)]; subst eD4; rw [uF_at, uF_ne (by omega), uF_ne (by omega), uF_ne (by omega)]
  have r12 : D8.2.1 (Y + 12) = upd (D.2.1 (Y + 12)) cnt c := by
    have := b4 (Y + 12) (by omega) (by omega) (by omega) (by omega)
    subst eD8; rw [uF_ne (by omega), uF_ne (by omega), uF_ne (by omega), uF_at, this]
  have r13 : D8.2.1 (Y + 13) = upd (D.2.1 (Y + 13)) cnt d := by
    have := b4 (Y + 13) (by omega) (by omega) (by omega) (by omega)
    subst eD8; rw [uF_ne (by omega), uF_ne (by omega), uF_at, uF_ne (by omega), this]
  have r14 : D8.2.1 (Y + 14) = upd (D.2.1 (Y + 14)) cnt co := by
    have := b4 (Y + 14) (by omega) (by omega) (by omega) (by omega)
    subst eD8; rw [uF_ne (by omega), uF_at, uF_ne (by omega), uF_ne (by omega), this]
  have r21 : D8.2.1 (Y + 21) = upd (D.2.1 (Y + 21)) cnt 0 := by
    have := b4 (Y + 21) (by omega) (by omega) (by omega) (by omega)
    subst eD8; rw [uF_at, uF_ne (by omega), uF_ne (by omega), uF_ne (by omega), this]; rfl
  have p4 : D4.2.2 = D.2.2 := by subst eD4; rfl
  have p8 : D8.2.2 = D.2.2 := by subst eD8; exact p4
  have keep : ∀ e, ¬ (Y + 8 ≤ e ∧ e ≤ Y + 14) → e ≠ Y + 21 → D8.2.1 e = D.2.1 e := fun e g1 g2 => (b8 e (by omega) (by omega) (by omega) g2).trans (b4 e (by omega) (by omega) (by omega) (by omega))
  clear eD4 eD8 b4 b8
  refine h1 lt y h9 _ ⟨⟨⟨R9, L, mr.eq2 (fun k hk => ?_) (fun e g1 g2 => ⟨keep e (by omega) (by omega), ?_⟩), mi⟩, ⟨by rw [uO_at, if_pos rfl], fun m hm => ?_⟩, by omega⟩, fun i hi => ?_, ?_⟩ (fun e he => ⟨?_, keep e (by omega) (by omega), ?_, ?_⟩)
  · rw [uO_at, if_neg (by omega), n8]
  · show D8.2.2.1 e = _; rw [p8]
  · show nOk _ m ∧ D8.2.1 (Y + 8) m = _ ∧ D8.2.1 (Y + 9) m = _ ∧ D8.2.1 (Y + 10) m = _ ∧ D8.2.1 (Y + 11) m = _ ∧ D8.2.1 (Y + 12) m = _ ∧ D8.2.1 (Y + 13) m = _ ∧ D8.2.1 (Y + 14) m = _
    rw [r8, r9, r10, r11, r12, r13, r14]
    by_cases e : m = cnt
    · subst e
      refine ⟨ok, ?_, ?_, ?_, ?_, ?_, ?_, ?_⟩ <;> simp [upd, nSo, nOp, nA, nB, nC, nD, nCo, upN_at]
    · obtain ⟨g1, g2, g3, g4, g5, g6, g7, g8⟩ := nd.2 m (by omega)
      have eN : upN N cnt (so, op, a, b, c, d, co) m = N m := upN_ne e
      refine ⟨g1.cg eN, ?_, ?_, ?_, ?_, ?_, ?_, ?_⟩ <;> simp only [upd, if_neg e, nSo, nOp, nA, nB, nC, nD, nCo, eN] <;> assumption
  · show (D8.2.1 (Y + 20) i = 0 ∧ _) ∨ (¬ D8.2.1 (Y + 20) i = 0 ∧ D8.2.1 (Y + 19) i = _)
    rw [keep (Y + 20) (by omega) (by omega), keep (Y + 19) (by omega) (by omega)]; exact so1 i hi
  · rw [uO_at, if_neg (by omega), n8]
    rcases fl with fl | ⟨e, fl⟩
    · exact Or.inl fl
    · refine Or.inr ⟨e, fun g hg => ?_⟩
      obtain ⟨g1, g2, g3, g4, g5⟩ := fl g hg
      show (∀ i, i < 12 → D8.2.1 (Y + 23) (12 * g + i) = _) ∧ D8.2.1 (Y + 22) g = _ ∧ D8.2.1 (Y + 24) g = _ ∧ D8.2.1 (Y + 25) g = _ ∧ D8.2.1 (Y + 21) g = _
      rw [keep (Y + 23) (by omega) (by omega), keep (Y + 22) (by omega) (by omega), keep (Y + 24) (by omega) (by omega), keep (Y + 25) (by omega) (by omega), r21]
      refine ⟨g1, g2, g3, g4, ?_⟩
      simp only [upd]
      split
      · rename_i e2; rw [e2, if_pos (hr.2 cnt (Nat.le_refl cnt))]
      · exact g5
  · simp [uO, va_up, show e ≠ Y by omega, n8]
  · show D8.2.2.1 e = _; rw [p8]
  · show D8.2.2.2 e = _; rw [p8]
end ADD
