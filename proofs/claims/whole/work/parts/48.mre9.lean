/-! CHOICE -/
theorem mask_0 : kTab 1 0 = 1 := by decide +kernel
section TMC
variable {Y n cnt : Nat} {N : nT} {M : mT} {ρ : rD} {S : sS} {D : sD} {h : aH}
/-- after a part of a choice: what the next turn joins -/
def cEn (Y d : Nat) (q : Int32) (Wn : rW) (D : sD) : Prop := (q = 0 ∧ outR Y d Wn D) ∨ (¬ q = 0 ∧ ∃ W V, outR Y d W D ∧ outR Y (d + 1) V D ∧ Wn = jnA W V)
theorem tm_c41 (C : TM Y cnt N M ρ n S D h) {m d : Nat} {s : rS} {q : Int32} {v : Nat} (hv : v < 2) (hm : m < cnt) (s2 : nSo N m = 2) (oa : nS (nA N m) 12) (ob : nS (nB N m) 10) (hd : d < 81) (ht : D.1 Y 27 = nI d) {p : Int32} (sa : sAt Y D d (nI m) p q) (hi : insR Y d s D) {k : Int32} (ek : k = if v = 0 then kTab 1 (nB N m) else kTab 1 (nB N m) ^^^ (-1)) {Q : aH → Prop}
    (q0 : s (tN (nA N m)) &&& k = 0 → ∀ h' D', TM Y cnt N M ρ n S D' h' → tOut Y d D D' → D'.1 Y 27 = nI d → sAt Y D' d (nI m) (nI (v + 1)) 0 → insR Y d s D' → D'.2.1 (Y + 26) = D.2.1 (Y + 26) → Q h')
    (q1 : ¬ s (tN (nA N m)) &&& k = 0 → ∀ h' D', TM Y cnt N M ρ n S D' h' → tOut Y d D D' → D'.1 Y 27 = nI (d + 1) → sAt Y D' (d + 1) (if v = 0 then nC N m else nD N m) 0 0 → sAt Y D' d (nI m) (nI (v + 1)) (s (tN (nA N m)) &&& k) → insR Y (d + 1) (upd s (tN (nA N m)) (s (tN (nA N m)) &&& k)) D' → insR Y d s D' → D'.2.1 (Y + 26) = D.2.1 (Y + 26) → Q h') : wbX11_throughChoice_41 Y (nI m) (nI d) (nI v) h Q := by
  have h80 := C.1.2.2
  have lx := tN_lt oa (by omega)
  have lb := tN_lt ob (by omega)
  generalize ex : tN (nA N m) = x at lx q0 q1
  -- with the set
  have k106 : ∀ k' : Int32, k' = k → wbX11_throughChoice_106 Y (nI m) (nI d) (nI v) k' (s x) h Q := by
    intro k' ek'
    rw [ek']
    refine R_R C.R C.L.1 rfl (sm_top C.1 ht (sm_setStk C.1 (by omega) (Or.inr (Or.inr rfl)) fun h1 D1 C1 O1 f1 => ?_))
    have t1 : D1.1 Y 27 = nI d := by rw [f1]; exact ht
    refine R_R C1.1.1 C1.1.2.1.1 rfl (sm_top C1 t1 (sm_setStk C1 (by omega) (Or.inr (Or.inl rfl)) fun h2 D2 C2 O2 f2 => ?_))
    have t2 : D2.1 Y 27 = nI d := by rw [f2]; exact t1
    have C2' : TM Y cnt N M ρ n S D2 h2 := (C.r C1 O1).r C2 O2
    have O02 := O1.tr O2
    have sa2 : sAt Y D2 d (nI m) (nI (v + 1)) (s x &&& k) := by
      subst f2 f1
      refine ⟨?_, ?_, ?_⟩
      · simp [uF, va_up, upd]; exact sa.1
      · simp [uF, va_up, upd]; exact nI_1 v
      · simp [uF, va_up, upd]
    refine ⟨fun z => ?_, fun z => R_R C2'.R C2'.L.1 rfl (R_R C2'.R C2'.L.1 rfl ?_)⟩
    · rw [z] at sa2
      exact q0 z h2 D2 C2' O02.t t2 sa2 (hi.w (O02.row (by omega))) (O02.row (by omega))
    · rw [ix4, ix3]
      refine tm_layIns C2' C2'.L.s28 (by omega) (by omega) hd (hi.w (O02.row (by omega))) (fun _ => by omega) fun h3 D3 C3 x3 t3 i3 => R_R C3.R C3.L.1 rfl (R_R C3.R C3.L.1 rfl (sm_nA C3.1 hm ?_))
      rw [lx.2, nI_add]
      refine R_sI C3.R C3.L.s28 (vp_in_nI (by omega) (by omega)) fun h4 R4 => ?_
      rw [nI_clamp (by omega)] at R4
      have x4 : eqx (Y + 28) D3 (uF D3 (Y + 28) (upd (D3.2.1 (Y + 28)) (12 * d + 12 + x) (s x &&& k))) := eqx.u
      have r4 : (uF D3 (Y + 28) (upd (D3.2.1 (Y + 28)) (12 * d + 12 + x) (s x &&& k))).2.1 (Y + 28) = upd (D3.2.1 (Y + 28)) (12 * d + 12 + x) (s x &&& k) := uF_at
      generalize uF D3 (Y + 28) (upd (D3.2.1 (Y + 28)) (12 * d + 12 + x) (s x &&& k)) = D4 at R4 x4 r4
      have C4 := C3.x R4 x4 (by omega)
      have t4 : tOut Y d D3 D4 := x4.t (by omega) (fun e => by omega) (fun _ i hi => by rw [r4]; simp only [upd]; rw [if_neg (by omega)])
      have i4 : insR Y (d + 1) (upd s x (s x &&& k)) D4 := fun i hi' => by
        rw [r4]; simp only [upd]
        by_cases e : i = x
        · rw [if_pos (by omega), if_pos e]
        · rw [if_neg (by omega), if_neg e]; exact i3 i hi'
      have i4' : insR Y d s D4 := ((hi.w (O02.row (by omega))).t t3 (by omega)).t t4 (by omega)
      have sa4 : sAt Y D4 d (nI m) (nI (v + 1)) (s x &&& k) := (sa2.x x3 (by omega)).x x4 (by omega)
      have u4 : D4.1 Y 27 = nI d := by rw [x4.1, x3.1]; exact t2
      have o4 : D4.2.1 (Y + 26) = D.2.1 (Y + 26) := by rw [x4.2.2 _ (by omega), x3.2.2 _ (by omega)]; exact O02.row (by omega)
      have fin : ∀ c : Int32, (c = if v = 0 then nC N m else nD N m) → wbX11_throughChoice_203 c (nI v + 1) Y h4 Q := by
        intro c ec
        rw [nI_1]
        refine R_O C4.R C4.L.1 (sm_step C4.1 u4 (by omega) sa4 fun h5 D5 C5 O5 t5 s5 s5' => q1 z h5 D5 (C4.r C5 O5) (((O02.t.tr t3).tr t4).tr O5.t) t5 ?_ s5' (i4.w (O5.row (by omega))) (i4'.w (O5.row (by omega))) ((O5.row (by omega)).trans o4))
        rw [← ec]; exact s5
      refine ⟨fun y => R_R C4.R C4.L.1 rfl (sm_nD C4.1 hm (fin _ ?_)), fun y => R_R C4.R C4.L.1 rfl (sm_nC C4.1 hm (fin _ ?_))⟩
      · rw [if_neg (fun e => y (by rw [e]; rfl))]
      · rw [if_pos ((nI_eq0 (by omega)).mp y)]
  have k75 : ∀ k' : Int32, k' = kTab 1 (nB N m) → wbX11_throughChoice_75 Y (nI m) (nI d) (nI v) k' h Q := by
    intro k' ek'
    refine R_R C.R C.L.1 rfl (R_R C.R C.L.1 rfl (sm_nA C.1 hm ?_))
    rw [lx.2, ix3, nI_add]
    refine R_aI C.R C.L.s28 (vp_in_nI (by omega) (by omega)) ?_
    rw [nI_clamp (by omega), hi x lx.1]
    refine ⟨fun y => k106 _ ?_, fun y => k106 _ ?_⟩
    · rw [ek, if_neg (fun e => y (by rw [e]; rfl)), ek']
    · rw [ek, if_pos ((nI_eq0 (by omega)).mp y), ek']
  refine ⟨fun _ => R_R C.R C.L.1 rfl (sm_nB C.1 hm ⟨fun y => R_R C.R C.L.1 rfl (sm_nB C.1 hm (sm_mask (k75 _ ?_))), fun y => k75 1 ?_⟩), fun z => ?_⟩
  · rw [lb.2]; exact mMask_are _ lb.1
  · rw [y]; exact mask_0.symm
  · exact absurd ((nI_eq (b := 2) (by omega) (by omega)).mp z) (by omega)
/-- a turn with the phase v ≥ 1 -/
theorem tm_cIn (C : TM Y cnt N M ρ n S D h) {m d v : Nat} {q : Int32} {Wn : rW} (hm : m < cnt) (hv : 1 ≤ v ∧ v ≤ 2) (hd : d < 81) (ht : D.1 Y 27 = nI d) (sa : sAt Y D d (nI m) (nI v) q) (hc : cEn Y d q Wn D) {Q : aH → Prop} (hq : ∀ h' D', TM Y cnt N M ρ n S D' h' → eqx (Y + 26) D D' → tOut Y d D D' → outR Y d Wn D' → wbX11_throughChoice_41 Y (nI m) (nI d) (nI v) h' Q) : wX11_throughChoice h Y (nI m) (nI d) Q := by
  refine R_R C.R C.L.1 rfl (sm_top C.1 ht (sm_ph C.1 (by omega) sa.2.1 ⟨fun _ => R_R C.R C.L.1 rfl (sm_top C.1 ht (sm_hd C.1 (by omega) sa.2.2 ⟨fun y => ?_, fun y => ?_⟩)), fun z => ?_⟩))
  · rcases hc with ⟨-, ho⟩ | ⟨e, -⟩
    · exact hq h D C eqx.rf tOut.rf ho
    · exact absurd y e
  · rcases hc with ⟨e, -⟩ | ⟨-, W, V, ho, hvv, e⟩
    · exact absurd e y
    · refine R_O C.R C.L.1 (tm_put (f := 0) C hd (by omega) ho hvv fun h1 D1 C1 x1 t1 o1 v1 => hq h1 D1 C1 x1 t1 ?_)
      rw [e, ← putW_0]; exact o1
  · exact absurd ((nI_eq0 (by omega)).mp z) (by omega)
theorem th_choose {m d : Nat} (hm : m < cnt) (h80 : cnt ≤ 80) (s2 : nSo N m = 2) (oa : nS (nA N m) 12) (ob : nS (nB N m) 10) (hd : m + d ≤ 80) {s : rS} (ok : okS s) {t : Nat → rT} (IH : ∀ c, c < m → ∀ s ρ, okS s → TH Y cnt N M n S (t c) c (d + 1) s ρ) {v : Nat} (hv : v < 2) {k : Int32} (ek : k = if v = 0 then kTab 1 (nB N m) else kTab 1 (nB N m) ^^^ (-1)) {c : Int32} (ec : c = if v = 0 then nC N m else nD N m) (oc : nS c m) (W : rW) (ρ : rD) :
    ∃ cc, ∀ (D : sD) (h : aH) (j : Nat) (Q : aH → Prop) (p q : Int32), TM Y cnt N M ρ n S D h → D.1 Y 27 = nI d → sAt Y D d (nI m) p q → insR Y d s D → outR Y d W D → (∀ h' D' q', TM Y cnt N M (chooseR (t (tN c)) s (tN (nA N m)) k (W, ρ)).2 n S D' h' → tOut Y d D D' → D'.1 Y 27 = nI d → sAt Y D' d (nI m) (nI (v + 1)) q' → insR Y d s D' → cEn Y d q' (chooseR (t (tN c)) s (tN (nA N m)) k (W, ρ)).1 D' → wbX11_through_10 j Y h' Q) → wbX11_throughChoice_41 Y (nI m) (nI d) (nI v) h (fun h' => wbX11_through_10 (j + cc) Y h' Q) := by
  have lc := tN_lt oc (by omega)
  unfold chooseR
  by_cases z : s (tN (nA N m)) &&& k = 0
  · simp only [if_pos z]
    refine ⟨0, fun D h j Q p q C ht sa hi ho hq => ?_⟩
    exact tm_c41 C hv hm s2 oa ob (by omega) ht sa hi ek (fun _ h1 D1 C1 t1 e1 s1 i1 o1 => hq h1 D1 0 C1 t1 e1 s1 i1 (Or.inl ⟨rfl, ho.w o1⟩)) (fun y => absurd z y)
  · simp only [if_neg z]
    obtain ⟨cc, hc⟩ := IH _ lc.1 (upd s (tN (nA N m)) (s (tN (nA N m)) &&& k)) ρ (ok.up z (by rw [and_sw, (ok _).2]))
    refine ⟨cc, fun D h j Q p q C ht sa hi ho hq => ?_⟩
    refine tm_c41 C hv hm s2 oa ob (by omega) ht sa hi ek (fun y => absurd y z) (fun _ h1 D1 C1 t1 e1 s1 s1' i1 i1' o1 => ?_)
    rw [← ec, lc.2] at s1
    refine hc D1 h1 j Q C1 e1 s1 i1 fun h2 D2 C2 t2 e2 o2 => ?_
    rw [nI_pred] at e2
    exact hq h2 D2 _ C2 (t1.tr (t2.mono (by omega))) e2 (s1'.t t2 (by omega)) (i1'.t t2 (by omega)) (Or.inr ⟨z, W, _, (ho.w o1).t t2 (by omega), o2, rfl⟩)
theorem th_choice {m d : Nat} (hm : m < cnt) (h80 : cnt ≤ 80) (s2 : nSo N m = 2) (oa : nS (nA N m) 12) (ob : nS (nB N m) 10) (oc : nS (nC N m) m) (od : nS (nD N m) m) (hd : m + d ≤ 80) {s : rS} (ok : okS s) {t : Nat → rT} (IH : ∀ c, c < m → ∀ s ρ, okS s → TH Y cnt N M n S (t c) c (d + 1) s ρ) : TH Y cnt N M n S (fun s ρ => leaveR m (findR N t m s (enterR m s ρ))) m d s ρ := by
  have ef : findR N t m s (enterR m s ρ) = choiceR (t (tN (nC N m))) (t (tN (nD N m))) (tN (nA N m)) (nB N m) s (enterR m s ρ) := by
    unfold findR; rw [if_neg (by omega), if_neg (by omega), if_pos s2]
  obtain ⟨c1, h1⟩ := th_choose (Y := Y) (M := M) (n := n) (S := S) hm h80 s2 oa ob hd ok IH (v := 0) (by omega) (k := kTab 1 (nB N m)) rfl (c := nC N m) rfl oc rZW (enterR m s ρ)
  obtain ⟨c2, h2⟩ := th_choose (Y := Y) (M := M) (n := n) (S := S) hm h80 s2 oa ob hd ok IH (v := 1) (by omega) (k := kTab 1 (nB N m) ^^^ (-1)) rfl (c := nD N m) rfl od (chooseR (t (tN (nC N m))) s (tN (nA N m)) (kTab 1 (nB N m)) (rZW, enterR m s ρ)).1 (chooseR (t (tN (nC N m))) s (tN (nA N m)) (kTab 1 (nB N m)) (rZW, enterR m s ρ)).2
  refine ⟨1 + c2 + 1 + c1 + 1, fun D h j Q C ht sa hi hq => ?_⟩
  simp only [ef] at hq
  unfold choiceR at hq
  rw [show j + (1 + c2 + 1 + c1 + 1) = ((((j + 1) + c2) + 1) + c1) + 1 by omega]
  refine tm_iter C hm (by omega) ht sa (fun e => by omega) (fun e => by omega) (fun _ => ?_) (fun e => by omega)
  refine R_R C.R C.L.1 rfl (sm_top C.1 ht (sm_ph C.1 (by omega) sa.2.1 ⟨fun z => absurd rfl z, fun _ => R_O C.R C.L.1 (tm_enter C (by omega) (by omega) hi ok fun g1 D1 C1 e1 b1 t1 i1 o1 => ?_)⟩))
  have s1 : sAt Y D1 d (nI m) 0 0 := by unfold sAt; rw [b1 16 (by omega), b1 17 (by omega), b1 18 (by omega)]; exact sa
  refine h1 D1 g1 (((j + 1) + c2) + 1) Q 0 0 C1 (by rw [e1]; exact ht) s1 i1 o1 fun g2 D2 q2 C2 t2 e2 s2' i2 en2 => ?_
  refine tm_iter C2 hm (by omega) e2 s2' (fun e => by omega) (fun e => by omega) (fun _ => tm_cIn C2 hm (by omega) (by omega) e2 s2' en2 fun g3 D3 C3 x3 t3 o3 => ?_) (fun e => by omega)
  refine h2 D3 g3 (j + 1) Q _ _ C3 (by rw [x3.1]; exact e2) (s2'.x x3 (by omega)) (i2.w (x3.2.2 _ (by omega))) o3 fun g4 D4 q4 C4 t4 e4 s4 i4 en4 => ?_
  refine tm_iter C4 hm (by omega) e4 s4 (fun e => by omega) (fun e => by omega) (fun _ => tm_cIn C4 hm (by omega) (by omega) e4 s4 en4 fun g5 D5 C5 x5 t5 o5 => ⟨fun z => absurd rfl z, fun _ => R_O C5.R C5.L.1 (tm_leave C5 (by omega) (by omega) (by rw [x5.1]; exact e4) o5 fun g6 D6 C6 t6 e6 o6 => hq g6 D6 C6 (((((t1.tr t2).tr t3).tr t4).tr t5).tr t6) e6 o6)⟩) (fun e => by omega)
end TMC
