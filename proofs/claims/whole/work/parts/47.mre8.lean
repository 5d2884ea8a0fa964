/-! the model goes through its nodes: a turn of the loop, by sort and phase -/
section TMB
variable {Y n cnt : Nat} {N : nT} {M : mT} {ρ : rD} {S : sS} {D : sD} {h : aH}
theorem tm_iter (C : TM Y cnt N M ρ n S D h) {m d : Nat} {p q : Int32} (hm : m < cnt) (hd : d < 82) (ht : D.1 Y 27 = nI d) (sa : sAt Y D d (nI m) p q) {K : Nat → aH → Prop} {Q : aH → Prop}
    (q0 : nSo N m = 0 → wX11_throughAct h Y (nI m) (nI d) (fun h' => K Y h')) (q1 : nSo N m = 1 → wX11_throughBoth h Y (nI m) (nI d) (fun h' => K Y h')) (q2 : nSo N m = 2 → wX11_throughChoice h Y (nI m) (nI d) (fun h' => K Y h')) (q3 : nSo N m = 3 → wX11_throughGuard h Y (nI m) (nI d) (fun h' => K Y h')) : wbX11_through_10_i K Y h Q := by
  have o := (C.1.2.1.2 m hm).1.s4
  have R := C.R
  have L := C.L
  refine sm_top C.1 ht ⟨fun z => absurd z (nI_pos (by omega)), fun _ => R_R R L.1 rfl (sm_top C.1 ht (sm_stk C.1 hd sa.1 (R_R R L.1 rfl (sm_nSo C.1 hm ⟨fun z => R_R R L.1 rfl (sm_nSo C.1 hm ⟨fun y => R_R R L.1 rfl (sm_nSo C.1 hm ⟨fun x => sm_top C.1 ht (R_O R L.1 (q3 ?_)), fun x => sm_top C.1 ht (R_O R L.1 (q2 ?_))⟩), fun y => sm_top C.1 ht (R_O R L.1 (q1 ?_))⟩), fun z => sm_top C.1 ht (R_O R L.1 (q0 ?_))⟩))))⟩
  · have a0 : ¬ nSo N m = 0 := fun e => z (by rw [e]; rfl)
    have a1 : ¬ nSo N m = 1 := fun e => y (by rw [e]; rfl)
    have a2 : ¬ nSo N m = 2 := fun e => x (by rw [e]; rfl)
    omega
  · exact (nI_eq (b := 2) (by omega) (by omega)).mp x
  · exact (nI_eq (b := 1) (by omega) (by omega)).mp y
  · exact (nI_eq0 (by omega)).mp z
theorem yOn.t {d : Nat} {D D' : sD} (o : yOn Y d D D') : tOut Y d D D' := by
  obtain ⟨h1, h2, h3, h4⟩ := o
  exact ⟨fun a _ _ g => ⟨by rw [h1], h3 a (by omega) (by omega), by rw [h2], by rw [h2]⟩, fun k _ _ => by rw [h1], fun i _ => ⟨by rw [h3 _ (by omega) (by omega)], by rw [h3 _ (by omega) (by omega)], by rw [h3 _ (by omega) (by omega)]⟩, fun i hi => ⟨h4 i (by omega), by rw [h3 _ (by omega) (by omega)]⟩, fun i hi => by rw [h3 _ (by omega) (by omega)]⟩
theorem TM.y (C : TM Y cnt N M ρ n S D h) {D' : sD} {h' : aH} {d : Nat} (R' : HR n S D' h') (e : yOn Y d D D') : TM Y cnt N M ρ n S D' h' := by
  obtain ⟨g1, g2, g3, g4⟩ := e
  refine ⟨⟨⟨R', C.L, C.1.1.2.2.1.eq (fun k _ => by rw [g1]) (fun a _ h2 => ⟨g3 a (by omega) (by omega), by rw [g2]⟩), C.1.1.2.2.2⟩, ?_, C.1.2.2⟩, C.2.w fun c _ hc => g3 _ (by omega) (by omega)⟩
  obtain ⟨h1, h2⟩ := C.1.2.1
  refine ⟨by rw [g1]; exact h1, ?_⟩
  rw [g3 (Y + 8) (by omega) (by omega), g3 (Y + 9) (by omega) (by omega), g3 (Y + 10) (by omega) (by omega), g3 (Y + 11) (by omega) (by omega), g3 (Y + 12) (by omega) (by omega), g3 (Y + 13) (by omega) (by omega), g3 (Y + 14) (by omega) (by omega)]
  exact h2
theorem tm_act (C : TM Y cnt N M ρ n S D h) {m d : Nat} {s : rS} (hm : m < cnt) (s0 : nSo N m = 0) (hd : d < 81) (ht : D.1 Y 27 = nI d) (hi : insR Y d s D) (ok : okS s) {W : rW} (eW : W = fwS (nOp N m) (nA N m) (nB N m) (nC N m) (nD N m) s) {Q : aH → Prop} (hq : ∀ h' D', TM Y cnt N M (leaveR m (W, enterR m s ρ)).2 n S D' h' → tOut Y d D D' → D'.1 Y 27 = nI d - 1 → outR Y d W D' → Q h') : wX11_throughAct h Y (nI m) (nI d) Q := by
  have h80 := C.1.2.2
  have o := (C.1.2.1.2 m hm).1
  have oo : actOk (nOp N m) (nA N m) (nB N m) (nC N m) (nD N m) := by
    rcases o with o | o | o | o
    · exact o.2
    all_goals omega
  refine R_O C.R C.L.1 (tm_enter C (by omega) hd hi ok fun h1 D1 C1 e1 b1 t1 i1 o1 => R_R C1.R C1.L.1 rfl (R_R C1.R C1.L.1 rfl ?_))
  rw [ix3]
  refine mj_lay (to := 0) C1.R C1.L.s28 C1.L.s29 (by omega) (by omega) (by omega) (by omega) (Or.inl (by omega)) fun h2 R2 => ?_
  have x2 : eqx (Y + 29) D1 (uF D1 (Y + 29) (lyG (D1.2.1 (Y + 28)) (D1.2.1 (Y + 29)) (12 * d) 0 12)) := eqx.u
  have n2 : nowR Y s (uF D1 (Y + 29) (lyG (D1.2.1 (Y + 28)) (D1.2.1 (Y + 29)) (12 * d) 0 12)) := fun i hi => by
    rw [uF_at]; unfold lyG; rw [if_pos (by omega), show 12 * d + (i - 0) = 12 * d + i by omega]; exact i1 i hi
  generalize uF D1 (Y + 29) (lyG (D1.2.1 (Y + 28)) (D1.2.1 (Y + 29)) (12 * d) 0 12) = D2 at R2 x2 n2
  have C2 := C1.x R2 x2 (by omega)
  have o2 : outR Y d rZW D2 := o1.w (x2.2.2 _ (by omega))
  have X2 : YX Y d (s, rZW) n S D2 h2 := ⟨R2, C2.L, n2, o2, by omega⟩
  have t2 : tOut Y d D D2 := t1.tr (x2.t (by omega) (fun e => by omega) (fun e => by omega))
  have k2 : D2.1 Y 27 = nI d := by rw [x2.1, e1]; exact ht
  obtain ⟨-, -, c1, c2, c3, c4, c5, -⟩ := C2.1.2.1.2 m hm
  have fin : ∀ (h3 : aH) (D3 : sD), HR n S D3 h3 → yOn Y d D2 D3 → outR Y d W D3 → wbX11_throughAct_47 Y (nI m) (nI d) h3 Q := by
    intro h3 D3 R3 y3 o3
    have C3 := C2.y R3 y3
    exact R_O R3 C3.L.1 (tm_leave C3 (by omega) hd (by rw [y3.1]; exact k2) o3 fun h4 D4 C4 t4 e4 o4 => hq h4 D4 C4 ((t2.tr y3.t).tr t4) e4 o4)
  refine R_O R2 C2.L.1 (my_mayAct X2 ok (by omega) c1 c2 c3 c4 c5 oo fun h3 D3 r C3 O3 => ⟨fun z => fin h3 D3 C3.1 O3 ?_, fun z => ?_⟩)
  · have e : W = (fwP (nOp N m) (nA N m) (nB N m) (nC N m) (nD N m) (s, rZW)).2 := by
      rw [eW]; unfold fwS pEnd; rw [C3.no z, jn_z]
    rw [e]; exact C3.2.2.1
  · obtain ⟨C3', ok3⟩ := C3.yes z
    refine R_R C3'.1 C3'.2.1.1 rfl (R_R C3'.1 C3'.2.1.1 rfl ?_)
    rw [ix2]
    exact my_join (f := 0) C3' (by omega) fun h4 D4 C4 O4 => fin h4 D4 C4.1 (O3.tr O4) (by rw [eW]; exact C4.2.2.2.1)
/-! BOTH -/
theorem tm_b0 (C : TM Y cnt N M ρ n S D h) {m d : Nat} {s : rS} {q : Int32} (hm : m < cnt) (hd : d < 81) (ht : D.1 Y 27 = nI d) (sa : sAt Y D d (nI m) 0 q) (hi : insR Y d s D) (ok : okS s) {Q : aH → Prop} (hq : ∀ h' D', TM Y cnt N M (enterR m s ρ) n S D' h' → tOut Y d D D' → D'.1 Y 27 = nI (d + 1) → sAt Y D' (d + 1) (nA N m) 0 0 → sAt Y D' d (nI m) 1 q → insR Y (d + 1) s D' → insR Y d s D' → outR Y d rZW D' → Q h') : wX11_throughBoth h Y (nI m) (nI d) Q := by
  have h80 := C.1.2.2
  refine R_R C.R C.L.1 rfl (sm_top C.1 ht (sm_ph C.1 (by omega) sa.2.1 ⟨fun z => absurd rfl z, fun _ => R_O C.R C.L.1 (tm_enter C (by omega) hd hi ok fun h1 D1 C1 e1 b1 t1 i1 o1 => R_R C1.R C1.L.1 rfl (R_R C1.R C1.L.1 rfl ?_))⟩))
  rw [ix4, ix3]
  refine tm_layIns C1 C1.L.s28 (by omega) (by omega) hd i1 (fun _ => by omega) fun h2 D2 C2 x2 t2 i2 => ?_
  have s2 : sAt Y D2 d (nI m) 0 q := by
    unfold sAt; rw [x2.2.2 _ (by omega), x2.2.2 _ (by omega), x2.2.2 _ (by omega), b1 16 (by omega), b1 17 (by omega), b1 18 (by omega)]; exact sa
  refine R_R C2.R C2.L.1 rfl (sm_nA C2.1 hm (R_O C2.R C2.L.1 (sm_step C2.1 (by rw [x2.1, e1]; exact ht) (by omega) s2 fun h3 D3 C3 O3 t3 s3 s3' => hq h3 D3 (C2.r C3 O3) ((t1.tr t2).tr O3.t) t3 s3 s3' (i2.w (O3.row (by omega))) ((i1.t t2 (by omega)).w (O3.row (by omega))) ((o1.w (x2.2.2 _ (by omega))).w (O3.row (by omega))))))
theorem tm_b1 (C : TM Y cnt N M ρ n S D h) {m d : Nat} {W V : rW} {q : Int32} (hm : m < cnt) (hd : d < 81) (ht : D.1 Y 27 = nI d) (sa : sAt Y D d (nI m) 1 q) (ho : outR Y d W D) (hv : outR Y (d + 1) V D) {Q : aH → Prop}
    (q0 : V 0 0 = 0 → ∀ h' D', TM Y cnt N M (leaveR m (jnF W V, ρ)).2 n S D' h' → tOut Y d D D' → D'.1 Y 27 = nI d - 1 → outR Y d (jnF W V) D' → Q h')
    (q1 : ¬ V 0 0 = 0 → ∀ h' D', TM Y cnt N M ρ n S D' h' → tOut Y d D D' → D'.1 Y 27 = nI (d + 1) → sAt Y D' (d + 1) (nB N m) 0 0 → sAt Y D' d (nI m) 2 q → insR Y (d + 1) (V 0) D' → outR Y d (jnF W V) D' → Q h') : wX11_throughBoth h Y (nI m) (nI d) Q := by
  have h80 := C.1.2.2
  refine R_R C.R C.L.1 rfl (sm_top C.1 ht (sm_ph C.1 (by omega) sa.2.1 ⟨fun _ => ⟨fun z => absurd rfl z, fun _ => ?_⟩, fun z => absurd z (by decide)⟩))
  rw [ix5]
  refine R_O C.R C.L.1 (tm_put (f := 1) C hd (by omega) ho hv fun h1 D1 C1 x1 t1 o1 v1 => ⟨fun z => absurd rfl z, fun _ => R_R C1.R C1.L.1 rfl (R_aI C1.R C1.L.s26 (vp_in_nI (by omega) (by omega)) ?_)⟩)
  rw [putW_1] at o1
  rw [nI_clamp (by omega)]
  have e0 : D1.2.1 (Y + 26) (108 * d + 108) = V 0 0 := v1 0 (by omega) 0 (by omega)
  rw [e0]
  refine ⟨fun z => R_O C1.R C1.L.1 (tm_leave C1 (by omega) hd (by rw [x1.1]; exact ht) o1 fun h2 D2 C2 t2 e2 o2 => q0 z h2 D2 C2 (t1.tr t2) e2 o2), fun z => R_R C1.R C1.L.1 rfl (R_R C1.R C1.L.1 rfl ?_)⟩
  rw [ix4]
  refine tm_layIns C1 C1.L.s26 (by omega) (by omega) hd (s := V 0) (fun i hi => v1 0 (by omega) i hi) (fun e => by omega) fun h2 D2 C2 x2 t2 i2 => ?_
  have s2 : sAt Y D2 d (nI m) 1 q := (sa.x x1 (by omega)).x x2 (by omega)
  refine R_R C2.R C2.L.1 rfl (sm_nB C2.1 hm (R_O C2.R C2.L.1 (sm_step C2.1 (by rw [x2.1, x1.1]; exact ht) (by omega) s2 fun h3 D3 C3 O3 t3 s3 s3' => q1 z h3 D3 (C2.r C3 O3) ((t1.tr t2).tr O3.t) t3 s3 s3' (i2.w (O3.row (by omega))) ((o1.w (x2.2.2 _ (by omega))).w (O3.row (by omega))))))
theorem tm_b2 (C : TM Y cnt N M ρ n S D h) {m d : Nat} {W V : rW} {q : Int32} (hm : m < cnt) (hd : d < 81) (ht : D.1 Y 27 = nI d) (sa : sAt Y D d (nI m) 2 q) (ho : outR Y d W D) (hv : outR Y (d + 1) V D) {Q : aH → Prop}
    (q0 : ∀ h' D', TM Y cnt N M (leaveR m (jnA W V, ρ)).2 n S D' h' → tOut Y d D D' → D'.1 Y 27 = nI d - 1 → outR Y d (jnA W V) D' → Q h') : wX11_throughBoth h Y (nI m) (nI d) Q := by
  have h80 := C.1.2.2
  refine R_R C.R C.L.1 rfl (sm_top C.1 ht (sm_ph C.1 (by omega) sa.2.1 ⟨fun _ => ⟨fun _ => ?_, fun z => absurd z (by decide)⟩, fun z => absurd z (by decide)⟩))
  refine R_O C.R C.L.1 (tm_put (f := 0) C hd (by omega) ho hv fun h1 D1 C1 x1 t1 o1 v1 => ⟨fun _ => ?_, fun z => absurd z (by decide)⟩)
  rw [putW_0] at o1
  exact R_O C1.R C1.L.1 (tm_leave C1 (by omega) hd (by rw [x1.1]; exact ht) o1 fun h2 D2 C2 t2 e2 o2 => q0 h2 D2 C2 (t1.tr t2) e2 o2)
/-- going through a node, with the loop's count -/
def TH (Y cnt : Nat) (N : nT) (M : mT) (n : Nat) (S : sS) (t : rT) (m d : Nat) (s : rS) (ρ : rD) : Prop :=
  ∃ c, ∀ (D : sD) (h : aH) (j : Nat) (Q : aH → Prop), TM Y cnt N M ρ n S D h → D.1 Y 27 = nI d → sAt Y D d (nI m) 0 0 → insR Y d s D → (∀ h' D', TM Y cnt N M (t s ρ).2 n S D' h' → tOut Y d D D' → D'.1 Y 27 = nI d - 1 → outR Y d (t s ρ).1 D' → wbX11_through_10 j Y h' Q) → wbX11_through_10 (j + c) Y h Q
theorem th_act {m d : Nat} (hm : m < cnt) (hN : nOk N m) (s0 : nSo N m = 0) (hd : m + d ≤ 80) {s : rS} (ok : okS s) {t : Nat → rT} : TH Y cnt N M n S (fun s ρ => leaveR m (findR N t m s (enterR m s ρ))) m d s ρ := by
  refine ⟨1, fun D h j Q C ht sa hi hq => ?_⟩
  unfold findR at hq
  rw [if_pos s0] at hq
  exact tm_iter C hm (by omega) ht sa (fun _ => tm_act C hm s0 (by omega) ht hi ok rfl hq) (fun e => by omega) (fun e => by omega) (fun e => by omega)
theorem th_both {m d : Nat} (hm : m < cnt) (h80 : cnt ≤ 80) (s1 : nSo N m = 1) (oa : nS (nA N m) m) (ob : nS (nB N m) m) (hd : m + d ≤ 80) {s : rS} (ok : okS s) {t : Nat → rT} (tk : ∀ c, c < m → tOk (c + 1) (t c)) (IH : ∀ c, c < m → ∀ s ρ, okS s → TH Y cnt N M n S (t c) c (d + 1) s ρ) : TH Y cnt N M n S (fun s ρ => leaveR m (findR N t m s (enterR m s ρ))) m d s ρ := by
  have la := tN_lt oa (by omega)
  have lb := tN_lt ob (by omega)
  obtain ⟨ca, ha⟩ := IH _ la.1 s (enterR m s ρ) ok
  have oka := (tk _ la.1 s (enterR m s ρ) ok).1
  have ef : findR N t m s (enterR m s ρ) = bothR (t (tN (nA N m))) (t (tN (nB N m))) s (enterR m s ρ) := by
    unfold findR; rw [if_neg (by omega), if_pos s1]
  have key : ∃ c, ∀ (D : sD) (h : aH) (j : Nat) (Q : aH → Prop), TM Y cnt N M (t (tN (nA N m)) s (enterR m s ρ)).2 n S D h → D.1 Y 27 = nI d → sAt Y D d (nI m) 1 0 → outR Y d rZW D → outR Y (d + 1) (t (tN (nA N m)) s (enterR m s ρ)).1 D → (∀ h' D', TM Y cnt N M (leaveR m (findR N t m s (enterR m s ρ))).2 n S D' h' → tOut Y d D D' → D'.1 Y 27 = nI d - 1 → outR Y d (findR N t m s (enterR m s ρ)).1 D' → wbX11_through_10 j Y h' Q) → wbX11_through_10 (j + c) Y h Q := by
    rw [ef]
    unfold bothR
    generalize t (tN (nA N m)) s (enterR m s ρ) = A at oka
    by_cases z : A.1 0 0 = 0
    · simp only [if_pos z]
      refine ⟨1, fun D h j Q C ht sa ho hv hq => ?_⟩
      exact tm_iter C hm (by omega) ht sa (fun e => by omega) (fun _ => tm_b1 C hm (by omega) ht sa ho hv (fun _ => hq) (fun y => absurd z y)) (fun e => by omega) (fun e => by omega)
    · simp only [if_neg z]
      obtain ⟨cb, hb⟩ := IH _ lb.1 (A.1 0) A.2 ((oka 0).ok z)
      refine ⟨1 + cb + 1, fun D h j Q C ht sa ho hv hq => ?_⟩
      rw [show j + (1 + cb + 1) = ((j + 1) + cb) + 1 by omega]
      refine tm_iter C hm (by omega) ht sa (fun e => by omega) (fun _ => tm_b1 C hm (by omega) ht sa ho hv (fun y => absurd y z) (fun _ h1 D1 C1 t1 e1 s1a s1b i1 o1 => ?_)) (fun e => by omega) (fun e => by omega)
      rw [lb.2] at s1a
      refine hb D1 h1 (j + 1) Q C1 e1 s1a i1 fun h2 D2 C2 t2 e2 o2 => ?_
      rw [nI_pred] at e2
      have s2 := s1b.t t2 (by omega)
      exact tm_iter C2 hm (by omega) e2 s2 (fun e => by omega) (fun _ => tm_b2 C2 hm (by omega) e2 s2 (o1.t t2 (by omega)) o2 fun h3 D3 C3 t3 e3 o3 => hq h3 D3 C3 ((t1.tr (t2.mono (by omega))).tr t3) e3 o3) (fun e => by omega) (fun e => by omega)
  obtain ⟨ck, hk⟩ := key
  refine ⟨ck + ca + 1, fun D h j Q C ht sa hi hq => ?_⟩
  rw [show j + (ck + ca + 1) = ((j + ck) + ca) + 1 by omega]
  refine tm_iter C hm (by omega) ht sa (fun e => by omega) (fun _ => tm_b0 C hm (by omega) ht sa hi ok fun h1 D1 C1 t1 e1 s1a s1b i1 i1' o1 => ?_) (fun e => by omega) (fun e => by omega)
  rw [la.2] at s1a
  refine ha D1 h1 (j + ck) Q C1 e1 s1a i1 fun h2 D2 C2 t2 e2 o2 => ?_
  rw [nI_pred] at e2
  exact hk D2 h2 j Q C2 e2 (s1b.t t2 (by omega)) (o1.t t2 (by omega)) o2 fun h3 D3 C3 t3 e3 o3 => hq h3 D3 C3 ((t1.tr (t2.mono (by omega))).tr t3) e3 o3
end TMB
