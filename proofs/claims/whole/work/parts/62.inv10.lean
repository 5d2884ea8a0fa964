/-! the model's report, and what is asked of it -/
section RPM
variable {X Y cnt n : Nat} {P : Nat → Nat} {N : nT} {M : mT} {ρ : rD} {gs : rS} {S : sS} {D : sD} {h : aH}
theorem eqx.i {b : Nat} {D D' : sD} (h : eqx (Y + b) D D') (hb : b ≤ 29) : inM Y D D' := fun a ha => ⟨by rw [h.1], h.2.2 a (by omega), by rw [h.2.1], by rw [h.2.1]⟩
/-- while it is begun: the machine and the start stand -/
def RS (Y cnt : Nat) (N : nT) (M : mT) (gs : rS) (n : Nat) (S : sS) (D : sD) (h : aH) : Prop := RM Y cnt N M n S D h ∧ stO Y gs D
theorem RS.x (C : RS Y cnt N M gs n S D h) {D' : sD} {h' : aH} {b : Nat} (R' : HR n S D' h') (e : eqx (Y + b) D D') (hb : 21 ≤ b) : RS Y cnt N M gs n S D' h' := ⟨C.1.x R' e (by omega), by unfold stO; rw [e.2.2 (Y + 20) (by omega), e.2.2 (Y + 19) (by omega)]; exact C.2⟩
def z4 (Y i : Nat) (D : sD) : Prop := ∀ g, g < i → D.2.1 (Y + 21) g = 0 ∧ D.2.1 (Y + 22) g = 0 ∧ D.2.1 (Y + 24) g = 0 ∧ D.2.1 (Y + 25) g = 0
theorem mm_rep12 {m : Nat} {Q : Int32 → aH → Prop} : ∀ (j i : Nat) (D : sD) (h : aH), j + i = 80 → RS Y cnt N M gs n S D h → z4 Y i D → (∀ h' D', RS Y cnt N M gs n S D' h' → MRr Y rD0 D' → inM Y D D' → ∃ k, wbX11_report_65 k Y (nI m) 0 h' Q) → wbX11_report_12 (j + 1) Y (nI m) (nI i) h Q
  | 0, i, D, h, hi, C, z, hq => by
    have e : i = 80 := by omega
    subst e
    have R := C.1.1.1
    have L := C.1.1.2.1
    refine ⟨fun _ => R_R R L.1 rfl (mj_wipe (fo := 0) (c := 960) R L.s23 (by omega) (by omega) fun h1 R1 => ?_), fun w => absurd (nI_le (Nat.le_refl 80) (by omega)) w⟩
    have x1 : eqx (Y + 23) D (uF D (Y + 23) (wpG (D.2.1 (Y + 23)) 0 960)) := eqx.u
    have r1 : (uF D (Y + 23) (wpG (D.2.1 (Y + 23)) 0 960)).2.1 (Y + 23) = wpG (D.2.1 (Y + 23)) 0 960 := uF_at
    generalize uF D (Y + 23) (wpG (D.2.1 (Y + 23)) 0 960) = D1 at R1 x1 r1
    refine hq h1 D1 (C.x R1 x1 (by omega)) (fun g hg => ?_) (x1.i (by omega))
    obtain ⟨a, b, c, d⟩ := z g hg
    rw [r1, x1.2.2 (Y + 22) (by omega), x1.2.2 (Y + 24) (by omega), x1.2.2 (Y + 25) (by omega), x1.2.2 (Y + 21) (by omega)]
    refine ⟨fun i hi => ?_, b, c, d, ?_⟩
    · unfold wpG; rw [if_pos (by omega)]; rfl
    · rw [a]; rfl
  | j + 1, i, D, h, hi, C, z, hq => by
    have R := C.1.1.1
    have L := C.1.1.2.1
    have vi : vp_in (nI i) 80 := vp_in_nI (by omega) (by omega)
    refine ⟨fun w => absurd ((nI_leI (a := 80) (by omega) (by omega)).mp w) (by omega), fun _ => R_R R L.1 rfl (R_sZ R L.s21 vi fun h1 R1 => ?_)⟩
    rw [nI_clamp (by omega)] at R1
    have x1 : eqx (Y + 21) D (uF D (Y + 21) (upd (D.2.1 (Y + 21)) i (vp_nar .boolean 0))) := eqx.u
    have r1 : (uF D (Y + 21) (upd (D.2.1 (Y + 21)) i (vp_nar .boolean 0))).2.1 (Y + 21) = upd (D.2.1 (Y + 21)) i 0 := by rw [uF_at]; rfl
    generalize uF D (Y + 21) (upd (D.2.1 (Y + 21)) i (vp_nar .boolean 0)) = D1 at R1 x1 r1
    refine R_R R1 L.1 rfl (R_sI R1 L.s22 vi fun h2 R2 => ?_)
    rw [nI_clamp (by omega)] at R2
    have x2 : eqx (Y + 22) D1 (uF D1 (Y + 22) (upd (D1.2.1 (Y + 22)) i 0)) := eqx.u
    have r2 : (uF D1 (Y + 22) (upd (D1.2.1 (Y + 22)) i 0)).2.1 (Y + 22) = upd (D.2.1 (Y + 22)) i 0 := by rw [uF_at, x1.2.2 _ (by omega)]
    generalize uF D1 (Y + 22) (upd (D1.2.1 (Y + 22)) i 0) = D2 at R2 x2 r2
    refine R_R R2 L.1 rfl (R_sI R2 L.s24 vi fun h3 R3 => ?_)
    rw [nI_clamp (by omega)] at R3
    have x3 : eqx (Y + 24) D2 (uF D2 (Y + 24) (upd (D2.2.1 (Y + 24)) i 0)) := eqx.u
    have r3 : (uF D2 (Y + 24) (upd (D2.2.1 (Y + 24)) i 0)).2.1 (Y + 24) = upd (D.2.1 (Y + 24)) i 0 := by rw [uF_at, x2.2.2 _ (by omega), x1.2.2 _ (by omega)]
    generalize uF D2 (Y + 24) (upd (D2.2.1 (Y + 24)) i 0) = D3 at R3 x3 r3
    refine R_R R3 L.1 rfl (R_sI R3 L.s25 vi fun h4 R4 => ?_)
    rw [nI_clamp (by omega)] at R4
    have x4 : eqx (Y + 25) D3 (uF D3 (Y + 25) (upd (D3.2.1 (Y + 25)) i 0)) := eqx.u
    have r4 : (uF D3 (Y + 25) (upd (D3.2.1 (Y + 25)) i 0)).2.1 (Y + 25) = upd (D.2.1 (Y + 25)) i 0 := by rw [uF_at, x3.2.2 _ (by omega), x2.2.2 _ (by omega), x1.2.2 _ (by omega)]
    generalize uF D3 (Y + 25) (upd (D3.2.1 (Y + 25)) i 0) = D4 at R4 x4 r4
    have C4 := (((C.x R1 x1 (by omega)).x R2 x2 (by omega)).x R3 x3 (by omega)).x R4 x4 (by omega)
    show wbX11_report_12 (j + 1) Y (nI m) (nI i + 1) h4 Q
    rw [nI_1]
    refine mm_rep12 j (i + 1) D4 h4 (by omega) C4 (fun g hg => ?_) fun h' D' C' r' o' => hq h' D' C' r' (((((x1.i (by omega)).tr (x2.i (by omega))).tr (x3.i (by omega))).tr (x4.i (by omega))).tr o')
    rw [r4, x4.2.2 (Y + 24) (by omega), r3, x4.2.2 (Y + 22) (by omega), x3.2.2 (Y + 22) (by omega), r2, x4.2.2 (Y + 21) (by omega), x3.2.2 (Y + 21) (by omega), x2.2.2 (Y + 21) (by omega), r1]
    simp only [upd]
    by_cases e : g = i
    · simp only [if_pos e]; exact ⟨trivial, trivial, trivial, trivial⟩
    · simp only [if_neg e]; exact z g (by omega)
theorem mm_rep65 {m : Nat} (hm : m < cnt) (okg : okS gs) {Q : Int32 → aH → Prop} : ∀ (j i : Nat) (D : sD) (h : aH), j + i = 12 → RS Y cnt N M gs n S D h → MRr Y rD0 D → (∀ k, k < i → D.2.1 (Y + 28) k = gs k) → (∀ h' D', MI Y cnt N M (thrN N 85 m gs rD0).2 gs n S D' h' → inM Y D D' → Q ((thrN N 85 m gs rD0).2.2.1 m) h') → wbX11_report_65 (j + 1) Y (nI m) (nI i) h Q
  | 0, i, D, h, hi, C, mr, hk, hq => by
    have e : i = 12 := by omega
    subst e
    have R := C.1.1.1
    have L := C.1.1.2.1
    have c80 := C.1.2.2
    have hN : ∀ m, m < cnt → nOk N m := fun m hm => (C.1.2.1.2 m hm).1
    refine ⟨fun _ => R_wF R L.1 rfl fun h1 R1 => R_O R1 L.1 ?_, fun w => absurd (nI_le (Nat.le_refl 12) (by omega)) w⟩
    have f1 : (uO D Y 28 1).1 Y 28 = 1 := by rw [uO_at, if_pos rfl]
    have g1 : (uO D Y 28 1).2 = D.2 := rfl
    have C1 : RM Y cnt N M n S (uO D Y 28 1) h1 := by
      obtain ⟨⟨a1, a2, a3, a4⟩, a5, a6⟩ := C.1
      exact ⟨⟨R1, a2, a3.eq2 (fun k hk => by rw [uO_at, if_neg (by omega)]) (fun _ _ _ => ⟨rfl, rfl⟩), a4⟩, a5.cg (by rw [uO_at, if_neg (by omega)]) (fun _ _ _ => rfl), a6⟩
    have i1 : inM Y D (uO D Y 28 1) := inM.O
    generalize uO D Y 28 1 = D1 at R1 f1 g1 C1 i1
    refine sm_setTop C1 0 fun h2 D2 C2 O2 e2 _ => R_O C2.1.1 L.1 (sm_push (d := 0) C2 e2 (by omega) (by decide) fun h3 D3 C3 O3 e3 s3 => ?_)
    have mr3 : MRr Y rD0 D3 := ((mr.w fun b _ _ => by rw [g1]).w fun b hb _ => O2.row (by omega)).w fun b hb _ => O3.row (by omega)
    have in3 : insR Y 0 gs D3 := fun i hi => by
      rw [O3.row (b := 28) (by omega), O2.row (b := 28) (by omega), g1, show 12 * 0 + i = i by omega]; exact hk i hi
    obtain ⟨c, hc⟩ := th_thr (Y := Y) (M := M) (n := n) (S := S) hN c80 85 m 0 gs rD0 (by omega) hm (by omega) okg
    refine ⟨1 + c, hc D3 h3 1 _ ⟨C3, mr3⟩ e3 s3 in3 fun h4 D4 C4 t4 e4 o4 => ?_⟩
    have e4' : D4.1 Y 27 = -1 := by rw [e4]; decide
    refine sm_top C4.1 e4' ⟨fun _ => R_R C4.R L.1 rfl (R_aI C4.R L.s22 (vp_in_nI (by omega) (by omega)) ?_), fun w => absurd (by decide) w⟩
    rw [nI_clamp (by omega), (C4.2 m (by omega)).2.1]
    have st4 : stO Y gs D4 := by
      have t20 := (t4.1 (Y + 20) (by omega) (by omega) (by omega)).2.1
      have t19 := (t4.1 (Y + 19) (by omega) (by omega) (by omega)).2.1
      unfold stO
      rw [t20, t19, O3.row (b := 20) (by omega), O3.row (b := 19) (by omega), O2.row (b := 20) (by omega), O2.row (b := 19) (by omega), g1]; exact C.2
    have fl4 : D4.1 Y 28 = 1 := by rw [t4.2.1 28 (by omega) (by omega), O3.2.1 28 (by omega) (by omega), O2.2.1 28 (by omega) (by omega)]; exact f1
    exact hq h4 D4 ⟨C4.1, st4, Or.inr ⟨fl4, C4.2⟩⟩ (((i1.tr O2.i).tr O3.i).tr t4.i)
  | j + 1, i, D, h, hi, C, mr, hk, hq => by
    have R := C.1.1.1
    have L := C.1.1.2.1
    refine ⟨fun w => absurd ((nI_leI (a := 12) (by omega) (by omega)).mp w) (by omega), fun _ => R_R R L.1 rfl ?_⟩
    have so : ∀ {K : Int32 → aH → Prop}, K (gs i) h → isO h Y 9 (wX11_startOf h Y (nI i) K) := by
      intro K hK
      refine R_O R L.1 (R_R R L.1 rfl (R_aZ R L.s20 (vp_in_nI (by omega) (by omega)) ?_))
      rw [nI_clamp (by omega)]
      rcases C.2 i (by omega) with ⟨a1, a2⟩ | ⟨a1, a2⟩
      · refine ⟨fun _ => ?_, fun w => absurd a1 w⟩
        rw [a2] at hK; exact hK
      · refine ⟨fun w => absurd w a1, fun _ => R_R R L.1 rfl (R_aI R L.s19 (vp_in_nI (by omega) (by omega)) ?_)⟩
        rw [nI_clamp (by omega), a2]; exact hK
    refine so (R_sI R L.s28 (vp_in_nI (by omega) (by omega)) fun h1 R1 => ?_)
    rw [nI_clamp (by omega)] at R1
    have x1 : eqx (Y + 28) D (uF D (Y + 28) (upd (D.2.1 (Y + 28)) i (gs i))) := eqx.u
    have r1 : (uF D (Y + 28) (upd (D.2.1 (Y + 28)) i (gs i))).2.1 (Y + 28) = upd (D.2.1 (Y + 28)) i (gs i) := uF_at
    generalize uF D (Y + 28) (upd (D.2.1 (Y + 28)) i (gs i)) = D1 at R1 x1 r1
    show wbX11_report_65 (j + 1) Y (nI m) (nI i + 1) h1 Q
    rw [nI_1]
    refine mm_rep65 hm okg j (i + 1) D1 h1 (by omega) (C.x R1 x1 (by omega)) (mr.w fun b _ _ => x1.2.2 _ (by omega)) (fun k hk' => ?_) fun h' D' C' o' => hq h' D' C' ((x1.i (by omega)).tr o')
    rw [r1]
    simp only [upd]
    by_cases e : k = i
    · rw [if_pos e, e]
    · rw [if_neg e]; exact hk k (by omega)
theorem mm_report (C : MI Y cnt N M ρ gs n S D h) (okg : okS gs) {v : Int32} {Q : Int32 → aH → Prop} (q0 : ¬ nS v cnt → Q (-1) h) (q1 : ∀ m, m < cnt → v = nI m → ∀ h' D', MI Y cnt N M (thrN N 85 m gs rD0).2 gs n S D' h' → inM Y D D' → Q ((thrN N 85 m gs rD0).2.2.1 m) h') : wX11_report h Y v Q := by
  refine mm_isNode C (fun nv => ⟨fun _ => ?_, fun w => absurd w (by decide)⟩) (fun nv => ⟨fun w => absurd rfl w, fun _ => q0 nv⟩)
  obtain ⟨m, hm, rfl⟩ := nv
  refine ⟨81, mm_rep12 80 0 D h rfl ⟨C.1, C.2.1⟩ (fun g hg => absurd hg (Nat.not_lt_zero g)) fun h1 D1 C1 r1 o1 => ⟨13, mm_rep65 hm okg 12 0 D1 h1 rfl C1 r1 (fun k hk => absurd hk (Nat.not_lt_zero k)) fun h2 D2 C2 o2 => q1 m hm rfl h2 D2 C2 (o1.tr o2)⟩⟩
/-! reached, may, ahead, guarded -/
theorem mm_has (C : MI Y cnt N M ρ gs n S D h) {m : Nat} (hm : m < cnt) {Q : Int32 → aH → Prop} (q0 : ρ.1 m 0 = 0 → Q 0 h) (q1 : ¬ ρ.1 m 0 = 0 → MRr Y ρ D → Q 1 h) : isO h Y 9 (wX11_has h Y (nI m) Q) := by
  have c80 := C.c80
  refine R_O C.R C.L.1 (R_I C.R C.L.1 rfl ?_)
  rcases C.2.2 with ⟨e, z⟩ | ⟨e, mr⟩
  · exact ⟨fun _ => ⟨Or.inl rfl, q0 (z m)⟩, fun w => absurd e w⟩
  · rw [e]
    refine ⟨fun w => absurd w (by decide), fun _ => R_R C.R C.L.1 rfl (R_aZ C.R C.L.s21 (vp_in_nI (by omega) (by omega)) ?_)⟩
    rw [nI_clamp (by omega), (mr m (by omega)).2.2.2.2]
    by_cases z : ρ.1 m 0 = 0
    · rw [if_pos z]; exact ⟨fun _ => ⟨Or.inl rfl, q0 z⟩, fun w => absurd rfl w⟩
    · rw [if_neg z]; exact ⟨fun w => absurd w (by decide), fun _ => ⟨Or.inr rfl, q1 z mr⟩⟩
def rcA (ρ : rD) (m : Nat) : Int32 := if ρ.1 m 0 = 0 then 0 else 1
theorem cc_there (C : CI X cnt P N M ρ gs n S D h) {m : Nat} (hm : m < cnt) {Q : Int32 → aH → Prop} (q0 : ρ.1 m 0 = 0 → Q 0 h) (q1 : ¬ ρ.1 m 0 = 0 → Q 1 h) : wX6_isReached h (P m) Q := by
  obtain ⟨o, hp, L, dd⟩ := C.W m hm
  have cr := (C.2.2.2.2.2.2.2.2.2.2.2.1 m hm).1.1
  have hk2 : (nFl P N m)[2]? = some (some (some (P m + 1))) := by unfold nFl; rfl
  exact R_RN C.R L.1 o.s4 hk2 (R_O C.R L.2.1.1 (st_isThere C.R L.2.1 cr (fun z => ⟨Or.inl rfl, q0 z⟩) (fun z => ⟨Or.inr rfl, q1 z⟩)))
theorem cc_reached (C : CI X cnt P N M ρ gs n S D h) {v : Int32} {Q : Int32 → aH → Prop} (q0 : ¬ nS v cnt → Q (-1) h) (q1 : ∀ m, m < cnt → v = nI m → Q (rcA ρ m) h) : wX10_reached h X v Q := by
  refine cc_isNode C (fun nv => ⟨fun _ => ?_, fun w => absurd w (by decide)⟩) (fun nv => ⟨fun w => absurd rfl w, fun _ => q0 nv⟩)
  obtain ⟨m, hm, rfl⟩ := nv
  have hq := q1 m hm rfl
  unfold rcA at hq
  obtain ⟨o, hp, L, dd⟩ := C.W m hm
  refine cc_nodeRow C hm (R_N C.R L.1 o.s4 (cc_there C hm (fun z => ⟨fun _ => ?_, fun w => absurd rfl w⟩) (fun z => ⟨fun w => absurd w (by decide), fun _ => ?_⟩)))
  · rw [if_pos z] at hq; exact hq
  · rw [if_neg z] at hq; exact hq
theorem mm_reached (C : MI Y cnt N M ρ gs n S D h) {v : Int32} {Q : Int32 → aH → Prop} (q0 : ¬ nS v cnt → Q (-1) h) (q1 : ∀ m, m < cnt → v = nI m → Q (rcA ρ m) h) : wX11_reached h Y v Q := by
  refine mm_isNode C (fun nv => ⟨fun _ => ?_, fun w => absurd w (by decide)⟩) (fun nv => ⟨fun w => absurd rfl w, fun _ => q0 nv⟩)
  obtain ⟨m, hm, rfl⟩ := nv
  have hq := q1 m hm rfl
  unfold rcA at hq
  refine mm_has C hm (fun z => ⟨fun _ => ?_, fun w => absurd rfl w⟩) (fun z _ => ⟨fun w => absurd w (by decide), fun _ => ?_⟩)
  · rw [if_pos z] at hq; exact hq
  · rw [if_neg z] at hq; exact hq
theorem cc_may (C : CI X cnt P N M ρ gs n S D h) {v : Int32} {Q : Int32 → aH → Prop} (q0 : ¬ nS v cnt → Q (-1) h) (q1 : ∀ m, m < cnt → v = nI m → Q (ρ.2.1 m) h) : wX10_may h X v Q := by
  refine cc_isNode C (fun nv => ⟨fun w => absurd w (by decide), fun _ => ?_⟩) (fun nv => ⟨fun _ => q0 nv, fun w => absurd rfl w⟩)
  obtain ⟨m, hm, rfl⟩ := nv
  have hq := q1 m hm rfl
  obtain ⟨o, hp, L, dd⟩ := C.W m hm
  have cr := (C.2.2.2.2.2.2.2.2.2.2.2.1 m hm).1.2.1
  refine cc_nodeRow C hm (R_IN C.R L.1 o.s4 (by unfold nFl; rfl) ?_)
  rw [cr]; exact hq
theorem mm_may (C : MI Y cnt N M ρ gs n S D h) (hr : rOk cnt ρ) {v : Int32} {Q : Int32 → aH → Prop} (q0 : ¬ nS v cnt → Q (-1) h) (q1 : ∀ m, m < cnt → v = nI m → Q (ρ.2.1 m) h) : wX11_may h Y v Q := by
  have c80 := C.c80
  refine mm_isNode C (fun nv => ⟨fun _ => ?_, fun w => absurd w (by decide)⟩) (fun nv => ⟨fun w => absurd rfl w, fun _ => q0 nv⟩)
  obtain ⟨m, hm, rfl⟩ := nv
  have hq := q1 m hm rfl
  refine mm_has C hm (fun z => ⟨fun _ => ?_, fun w => absurd rfl w⟩) (fun z mr => ⟨fun w => absurd w (by decide), fun _ => R_R C.R C.L.1 rfl (R_aI C.R C.L.s22 (vp_in_nI (by omega) (by omega)) ?_)⟩)
  · rw [(hr.1 m z).2.1] at hq; exact hq
  · rw [nI_clamp (by omega), (mr m (by omega)).2.1]; exact hq
theorem cc_ahead (C : CI X cnt P N M ρ gs n S D h) {v w : Int32} {Q : Int32 → aH → Prop} (q0 : ¬ (nS v cnt ∧ nS w 12) → Q (-1) h) (q1 : ∀ m s, m < cnt → s < 12 → v = nI m → w = nI s → Q (ρ.1 m s) h) : wX10_ahead h X v w Q := by
  refine cc_isNode C (fun nv => ⟨fun w => absurd w (by decide), fun _ => cc_isSlot (fun nw => ⟨fun w => absurd w (by decide), fun _ => ?_⟩) (fun nw => ⟨fun _ => q0 fun e => nw e.2, fun w => absurd rfl w⟩)⟩) (fun nv => ⟨fun _ => q0 fun e => nv e.1, fun w => absurd rfl w⟩)
  obtain ⟨m, hm, rfl⟩ := nv
  obtain ⟨s, hs, rfl⟩ := nw
  have hq := q1 m s hm hs rfl rfl
  obtain ⟨o, hp, L, dd⟩ := C.W m hm
  have cr := (C.2.2.2.2.2.2.2.2.2.2.2.1 m hm).1.1
  have hk2 : (nFl P N m)[2]? = some (some (some (P m + 1))) := by unfold nFl; rfl
  exact cc_nodeRow C hm (R_RN C.R L.1 o.s4 hk2 (R_O C.R L.2.1.1 (st_of C.R L.2.1 cr hs hq)))
theorem mm_ahead (C : MI Y cnt N M ρ gs n S D h) (hr : rOk cnt ρ) {v w : Int32} {Q : Int32 → aH → Prop} (q0 : ¬ (nS v cnt ∧ nS w 12) → Q (-1) h) (q1 : ∀ m s, m < cnt → s < 12 → v = nI m → w = nI s → Q (ρ.1 m s) h) : wX11_ahead h Y v w Q := by
  have c80 := C.c80
  refine mm_isNode C (fun nv => ⟨fun w => absurd w (by decide), fun _ => mm_isSlot (fun nw => ⟨fun _ => ?_, fun w => absurd w (by decide)⟩) (fun nw => ⟨fun w => absurd rfl w, fun _ => q0 fun e => nw e.2⟩)⟩) (fun nv => ⟨fun _ => q0 fun e => nv e.1, fun w => absurd rfl w⟩)
  obtain ⟨m, hm, rfl⟩ := nv
  obtain ⟨s, hs, rfl⟩ := nw
  have hq := q1 m s hm hs rfl rfl
  refine mm_has C hm (fun z => ⟨fun _ => ?_, fun w => absurd rfl w⟩) (fun z mr => ⟨fun w => absurd w (by decide), fun _ => R_R C.R C.L.1 rfl ?_⟩)
  · rw [(hr.1 m z).1 s] at hq; exact hq
  · rw [ix3, nI_add]
    refine R_aI C.R C.L.s23 (vp_in_nI (by omega) (by omega)) ?_
    rw [nI_clamp (by omega), (mr m (by omega)).1 s hs]; exact hq
def gdO (N : nT) (cnt : Nat) (v w : Int32) : Prop := (∃ m, m < cnt ∧ v = nI m ∧ nSo N m = 3) ∧ nS w 2
def gdA (N : nT) (ρ : rD) (m s : Nat) : Int32 := if s = 0 then (if ρ.1 m 0 = 0 then 0 else nB N m &&& (ρ.2.2.1 m ^^^ (-1))) else ρ.2.2.2 m
theorem cc_guarded (C : CI X cnt P N M ρ gs n S D h) {v w : Int32} {Q : Int32 → aH → Prop} (q0 : ¬ gdO N cnt v w → Q (-1) h) (q1 : ∀ m s, m < cnt → s < 2 → v = nI m → w = nI s → nSo N m = 3 → Q (gdA N ρ m s) h) : wX10_guarded h X v w Q := by
  have c80 := C.c80
  have e2 := nS_iff (v := w) (k := 2) (by omega)
  refine cc_isNode C (fun nv => ⟨fun w => absurd w (by decide), fun _ => ⟨fun z => q0 fun e => (e2.mp e.2).1 z, fun z => ⟨fun y => ?_, fun y => q0 ?_⟩⟩⟩) (fun nv => ⟨fun _ => q0 ?_, fun w => absurd rfl w⟩)
  · obtain ⟨m, hm, rfl⟩ := nv
    have nw : nS w 2 := by
      obtain ⟨j, hj, rfl⟩ := nI_of z
      exact ⟨j, by have := (nI_leI (b := 1) hj (by omega)).mp y; omega, rfl⟩
    obtain ⟨s, hs, rfl⟩ := nw
    obtain ⟨o, hp, L, dd⟩ := C.W m hm
    refine cc_nodeRow C hm (R_N C.R L.1 o.s4 fun r6 e6 => ?_)
    by_cases s3 : nSo N m = 3
    · rw [if_pos s3] at e6
      subst e6
      have hq := q1 m s hm hs rfl rfl s3
      have cr := (C.2.2.2.2.2.2.2.2.2.2.2.1 m hm).1.2.2 s3
      have sh : S (P m) = some (.inr (3, [none, none, some (some (P m + 1)), some (some (P m + 3)), none, some (some (P (tN (nA N m)))), none, some (nRef P (nC N m)), some (nRef P (nD N m)), some (some (P m + 23)), some (some (P m + 25)), none, none])) := by
        rw [L.1, s3]; unfold nFl; rw [if_neg (by omega), if_neg (by omega), if_neg (by omega)]; rfl
      unfold gdA at hq
      refine ⟨fun w => absurd w (by decide), fun _ => R_O C.R sh ⟨fun s0 => R_I C.R sh rfl ?_, fun s0 => R_O C.R sh (R_O C.R sh (cc_there C hm (fun z => ⟨fun _ => ?_, fun w => absurd rfl w⟩) (fun z => ⟨fun w => absurd w (by decide), fun _ => R_I C.R sh rfl (R_I C.R sh rfl ?_)⟩)))⟩⟩
      · rw [if_neg (fun e => s0 (by rw [e]; rfl))] at hq
        rw [cr.2]; exact hq
      · rw [if_pos ((nI_eq0 (by omega)).mp s0), if_pos z] at hq; exact hq
      · rw [if_pos ((nI_eq0 (by omega)).mp s0), if_neg z] at hq
        rw [cr.1, dd.2.2.2.2.1 s3]; exact hq
    · rw [if_neg s3] at e6
      subst e6
      refine ⟨fun _ => q0 ?_, fun w => absurd rfl w⟩
      rintro ⟨⟨m', hm', e, s3'⟩, -⟩
      rw [(nI_eq (by omega) (by omega)).mp e] at s3
      exact s3 s3'
  · rintro ⟨-, s, hs, rfl⟩
    exact y (nI_le (b := 1) (by omega) (by omega))
  · rintro ⟨⟨m, hm, e, -⟩, -⟩
    exact nv ⟨m, hm, e⟩
theorem mm_guarded (C : MI Y cnt N M ρ gs n S D h) (hr : rOk cnt ρ) {v w : Int32} {Q : Int32 → aH → Prop} (q0 : ¬ gdO N cnt v w → Q (-1) h) (q1 : ∀ m s, m < cnt → s < 2 → v = nI m → w = nI s → nSo N m = 3 → Q (gdA N ρ m s) h) : wX11_guarded h Y v w Q := by
  have c80 := C.c80
  refine mm_isNode C (fun nv => ⟨fun w => absurd w (by decide), fun _ => ?_⟩) (fun nv => ⟨fun _ => q0 ?_, fun w => absurd rfl w⟩)
  · obtain ⟨m, hm, rfl⟩ := nv
    have o4 := (C.1.2.1.2 m hm).1.s4
    refine R_R C.R C.L.1 rfl (sm_nSo C.1 hm ⟨fun z => q0 ?_, fun z => ?_⟩)
    · rintro ⟨⟨m', hm', e, s3'⟩, -⟩
      rw [← (nI_eq (by omega) (by omega)).mp e] at s3'
      exact z (by rw [s3']; rfl)
    · have s3 : nSo N m = 3 := (nI_eq (b := 3) (by omega) (by omega)).mp z
      refine mm_in (a := 0) (b := 1) (by omega) (by omega) (fun nw => ⟨fun _ => ?_, fun w => absurd w (by decide)⟩) (fun nw => ⟨fun w => absurd rfl w, fun _ => q0 fun e => nw (nS_in.mp e.2)⟩)
      obtain ⟨s, -, hs, rfl⟩ := nw
      have hq := q1 m s hm (by omega) rfl rfl s3
      unfold gdA at hq
      refine mm_has C hm (fun z => ⟨fun w => absurd rfl w, fun _ => ?_⟩) (fun z mr => ⟨fun _ => ⟨fun s0 => R_R C.R C.L.1 rfl (R_aI C.R C.L.s25 (vp_in_nI (by omega) (by omega)) ?_), fun s0 => R_R C.R C.L.1 rfl (sm_nB C.1 hm (R_R C.R C.L.1 rfl (R_aI C.R C.L.s24 (vp_in_nI (by omega) (by omega)) ?_)))⟩, fun w => absurd w (by decide)⟩)
      · rw [if_pos z, (hr.1 m z).2.2.2] at hq
        have : (if s = 0 then (0 : Int32) else 0) = 0 := by split <;> rfl
        rw [this] at hq; exact hq
      · rw [if_neg (fun e => s0 (by rw [e]; rfl))] at hq
        rw [nI_clamp (by omega), (mr m (by omega)).2.2.2.1]; exact hq
      · rw [if_pos ((nI_eq0 (by omega)).mp s0), if_neg z] at hq
        rw [nI_clamp (by omega), (mr m (by omega)).2.2.1]; exact hq
  · rintro ⟨⟨m, hm, e, -⟩, -⟩
    exact nv ⟨m, hm, e⟩
end RPM
