/-! GUARD -/
section TMG
variable {Y n cnt : Nat} {N : nT} {M : mT} {ρ : rD} {S : sS} {D : sD} {h : aH}
theorem tkB_0 {b r : Int32} : tkB b r = 0 ↔ ¬ (b >>> (r &&& 31)) &&& 1 = 1 := by
  unfold tkB; split
  · rename_i e; simp [e]
  · rename_i e; simp [e]
theorem tm_g0 (C : TM Y cnt N M ρ n S D h) {m d : Nat} {s : rS} (hm : m < cnt) (hd : d < 81) (ht : D.1 Y 27 = nI d) (sa : sAt Y D d (nI m) 0 0) (hi : insR Y d s D) (ok : okS s) {Q : aH → Prop} (hq : ∀ h' D', TM Y cnt N M (enterR m s ρ) n S D' h' → tOut Y d D D' → D'.1 Y 27 = nI (d + 1) → sAt Y D' (d + 1) (nA N m) 0 0 → sAt Y D' d (nI m) 1 0 → insR Y (d + 1) s D' → outR Y d rZW D' → wayR Y d rZW D' → Q h') : wX11_throughGuard h Y (nI m) (nI d) Q := by
  have h80 := C.1.2.2
  refine R_R C.R C.L.1 rfl (sm_top C.1 ht (sm_ph C.1 (by omega) sa.2.1 ⟨fun z => absurd rfl z, fun _ => R_O C.R C.L.1 (tm_enter C (by omega) hd hi ok fun h1 D1 C1 e1 b1 t1 i1 o1 => R_R C1.R C1.L.1 rfl ?_)⟩))
  rw [ix2]
  refine mj_wipe (c := 108) C1.R C1.L.s27 (by omega) (by omega) fun h2 R2 => ?_
  have x2 : eqx (Y + 27) D1 (uF D1 (Y + 27) (wpG (D1.2.1 (Y + 27)) (108 * d) 108)) := eqx.u
  have w2 : wayR Y d rZW (uF D1 (Y + 27) (wpG (D1.2.1 (Y + 27)) (108 * d) 108)) := fun f hf i hi => by
    rw [uF_at]; unfold wpG; rw [if_pos (by omega)]; rfl
  have t2 : tOut Y d D1 (uF D1 (Y + 27) (wpG (D1.2.1 (Y + 27)) (108 * d) 108)) := x2.t (by omega) (fun _ i hi => by rw [uF_at]; unfold wpG; rw [if_neg (by omega)]) (fun e => by omega)
  have C2 := C1.x R2 x2 (by omega)
  generalize uF D1 (Y + 27) (wpG (D1.2.1 (Y + 27)) (108 * d) 108) = D2 at R2 x2 w2 t2 C2
  refine R_R C2.R C2.L.1 rfl (R_R C2.R C2.L.1 rfl ?_)
  rw [ix4, ix3]
  refine tm_layIns C2 C2.L.s28 (by omega) (by omega) hd (i1.t t2 (by omega)) (fun _ => by omega) fun h3 D3 C3 x3 t3 i3 => ?_
  have s3 : sAt Y D3 d (nI m) 0 0 := by
    unfold sAt; rw [x3.2.2 _ (by omega), x3.2.2 _ (by omega), x3.2.2 _ (by omega), x2.2.2 _ (by omega), x2.2.2 _ (by omega), x2.2.2 _ (by omega), b1 16 (by omega), b1 17 (by omega), b1 18 (by omega)]; exact sa
  refine R_R C3.R C3.L.1 rfl (sm_nA C3.1 hm (R_O C3.R C3.L.1 (sm_step C3.1 (by rw [x3.1, x2.1, e1]; exact ht) (by omega) s3 fun h4 D4 C4 O4 t4 s4 s4' => hq h4 D4 (C3.r C4 O4) (((t1.tr t2).tr t3).tr O4.t) t4 s4 s4' (i3.w (O4.row (by omega))) (((o1.w (x2.2.2 _ (by omega))).w (x3.2.2 _ (by omega))).w (O4.row (by omega))) ((w2.w (x3.2.2 _ (by omega))).w (O4.row (by omega))))))
/-- the loop that parts a body's ways -/
theorem tm_part_loop {m d : Nat} {V : rW} (hm : m < cnt) (h80 : cnt ≤ 80) (hd : d < 81) {Q : aH → Prop} : ∀ (j f : Nat) (b : Int32) (D : sD) (h : aH), j + f = 9 → TM Y cnt N M (ρ.1, ρ.2.1, upd ρ.2.2.1 m b, ρ.2.2.2) n S D h → outR Y (d + 1) V D → wayR Y d (fun g => if g < f then hdW (nB N m) V g else rZ) D → insR Y (d + 1) (tkN (nB N m) V f) D → (∀ h' D', TM Y cnt N M (ρ.1, ρ.2.1, upd ρ.2.2.1 m (bitsN V j f b), ρ.2.2.2) n S D' h' → tOut Y d D D' → D'.1 = D.1 → (∀ b, b ≤ 20 ∨ b = 26 → D'.2.1 (Y + b) = D.2.1 (Y + b)) → wayR Y d (hdW (nB N m) V) D' → insR Y (d + 1) (tkN (nB N m) V 9) D' → Q h') → wbX11_part_27 (j + 1) Y (nI m) (nI d) (nI (108 * d + 108)) (nI f) h Q
  | 0, f, b, D, h, hf, C, ho, hw, hi, hq => by
    have e : f = 9 := by omega
    subst e
    refine ⟨fun _ => hq h D C tOut.rf rfl (fun _ _ => rfl) (fun g hg i hi => ?_) hi, fun z => absurd (nI_le (Nat.le_refl 9) (by omega)) z⟩
    have := hw g hg i hi
    simp only [if_pos hg] at this; exact this
  | j + 1, f, b, D, h, hf, C, ho, hw, hi, hq => by
    refine ⟨fun z => absurd ((nI_leI (a := 9) (by omega) (by omega)).mp z) (by omega), fun _ => R_R C.R C.L.1 rfl (R_aI C.R C.L.s24 (vp_in_nI (by omega) (by omega)) (R_R C.R C.L.1 rfl ?_))⟩
    rw [ix3, nI_add]
    refine R_aI C.R C.L.s26 (vp_in_nI (by omega) (by omega)) ?_
    rw [nI_clamp (by omega), nI_clamp (by omega), (C.2 m (by omega)).2.2.1, show 108 * d + 108 + 12 * f = 108 * (d + 1) + 12 * f + 0 by omega, ho f (by omega) 0 (by omega)]
    have eb : (ρ.1, ρ.2.1, upd ρ.2.2.1 m b, ρ.2.2.2).2.2.1 m = b := by show upd ρ.2.2.1 m b m = b; simp [upd]
    rw [eb]
    have key : ∀ v : Int32, (b ||| v = if V f 0 = 0 then b else b ||| (1 <<< (nI f &&& 31))) → wbX11_part_64 (fun v0 v1 v2 v3 v4 h => wbX11_part_27 (j + 1) v0 v1 v2 v3 v4 h Q) Y (nI m) (nI d) (nI (108 * d + 108)) (nI f) v b (nI m) (Y + 24) h Q := by
      intro v hv
      refine R_sI C.R C.L.s24 (vp_in_nI (by omega) (by omega)) fun h1 R1 => ?_
      rw [nI_clamp (by omega)] at R1
      have x1 : eqx (Y + 24) D (uF D (Y + 24) (upd (D.2.1 (Y + 24)) m (b ||| v))) := eqx.u
      have r1 : (uF D (Y + 24) (upd (D.2.1 (Y + 24)) m (b ||| v))).2.1 (Y + 24) = upd (D.2.1 (Y + 24)) m (b ||| v) := uF_at
      generalize uF D (Y + 24) (upd (D.2.1 (Y + 24)) m (b ||| v)) = D1 at R1 x1 r1
      have C1 : TM Y cnt N M (ρ.1, ρ.2.1, upd ρ.2.2.1 m (b ||| v), ρ.2.2.2) n S D1 h1 := by
        refine ⟨C.1.x R1 x1 (by omega), fun g hg => ?_⟩
        obtain ⟨g1, g2, g3, g4, g5⟩ := C.2 g hg
        rw [r1, x1.2.2 (Y + 23) (by omega), x1.2.2 (Y + 22) (by omega), x1.2.2 (Y + 25) (by omega), x1.2.2 (Y + 21) (by omega)]
        refine ⟨g1, g2, ?_, g4, g5⟩
        simp only [upd] at g3 ⊢
        split
        · rfl
        · rename_i e; rw [if_neg e] at g3; exact g3
      have t1 : tOut Y d D D1 := x1.t (by omega) (fun e => by omega) (fun e => by omega)
      have o1 : outR Y (d + 1) V D1 := ho.w (x1.2.2 _ (by omega))
      have w1 := hw.w (D' := D1) (x1.2.2 _ (by omega))
      have i1 := hi.w (D' := D1) (x1.2.2 _ (by omega))
      refine R_R C1.R C1.L.1 rfl (sm_nB C1.1 hm ⟨fun y => R_R C1.R C1.L.1 rfl (R_R C1.R C1.L.1 rfl ?_), fun y => R_R C1.R C1.L.1 rfl (R_R C1.R C1.L.1 rfl ?_)⟩)
      · rw [ix3, ix2, nI_add, nI_add]
        refine mj_join C1.R C1.L.s26 C1.L.s27 (by omega) (by omega) (by omega) (by omega) (Or.inl (by omega)) fun h2 R2 => ?_
        have x2 : eqx (Y + 27) D1 (uF D1 (Y + 27) (jnG (D1.2.1 (Y + 26)) (D1.2.1 (Y + 27)) (108 * d + 108 + 12 * f) (108 * d + 12 * f) 12)) := eqx.u
        have r2 : (uF D1 (Y + 27) (jnG (D1.2.1 (Y + 26)) (D1.2.1 (Y + 27)) (108 * d + 108 + 12 * f) (108 * d + 12 * f) 12)).2.1 (Y + 27) = jnG (D1.2.1 (Y + 26)) (D1.2.1 (Y + 27)) (108 * d + 108 + 12 * f) (108 * d + 12 * f) 12 := uF_at
        generalize uF D1 (Y + 27) (jnG (D1.2.1 (Y + 26)) (D1.2.1 (Y + 27)) (108 * d + 108 + 12 * f) (108 * d + 12 * f) 12) = D2 at R2 x2 r2
        have t2 : tOut Y d D1 D2 := x2.t (by omega) (fun _ i hi => by rw [r2]; unfold jnG; rw [if_neg (by omega)]) (fun e => by omega)
        show wbX11_part_27 (j + 1) Y (nI m) (nI d) (nI (108 * d + 108)) (nI f + 1) h2 Q
        rw [nI_1]
        refine tm_part_loop hm h80 hd j (f + 1) (b ||| v) D2 h2 (by omega) (C1.x R2 x2 (by omega)) (o1.w (x2.2.2 _ (by omega))) (fun g hg i hi' => ?_) ?_ fun h' D' C' O' e' b' w' i' => hq h' D' ?_ ((t1.tr t2).tr O') (e'.trans (x2.1.trans x1.1)) (fun c hc => (b' c hc).trans ((x2.2.2 _ (by omega)).trans (x1.2.2 _ (by omega)))) w' i'
        · rw [r2]; unfold jnG
          have wg := w1 g hg i hi'
          by_cases e : g = f
          · subst e
            have og := o1 g hg i hi'
            rw [if_pos (by omega), wg, show 108 * d + 108 + 12 * g + (108 * d + 12 * g + i - (108 * d + 12 * g)) = 108 * (d + 1) + 12 * g + i by omega, og]
            simp only [if_neg (Nat.lt_irrefl g), if_pos (Nat.lt_succ_self g)]
            unfold hdW
            rw [if_pos (tkB_0.mpr y)]
            exact z_or _
          · rw [if_neg (by omega), wg]
            by_cases e2 : g < f
            · simp only [if_pos e2, if_pos (show g < f + 1 by omega)]
            · simp only [if_neg e2, if_neg (show ¬ g < f + 1 by omega)]
        · have : tkN (nB N m) V (f + 1) = tkN (nB N m) V f := by
            show (if tkB (nB N m) (nI f) = 0 then _ else _) = _
            rw [if_pos (tkB_0.mpr y)]
          rw [this]; exact i1.w (x2.2.2 _ (by omega))
        · rw [hv] at C'; exact C'
      · rw [ix3, ix4, nI_add]
        refine mj_join C1.R C1.L.s26 C1.L.s28 (by omega) (by omega) (by omega) (by omega) (Or.inl (by omega)) fun h2 R2 => ?_
        have x2 : eqx (Y + 28) D1 (uF D1 (Y + 28) (jnG (D1.2.1 (Y + 26)) (D1.2.1 (Y + 28)) (108 * d + 108 + 12 * f) (12 * d + 12) 12)) := eqx.u
        have r2 : (uF D1 (Y + 28) (jnG (D1.2.1 (Y + 26)) (D1.2.1 (Y + 28)) (108 * d + 108 + 12 * f) (12 * d + 12) 12)).2.1 (Y + 28) = jnG (D1.2.1 (Y + 26)) (D1.2.1 (Y + 28)) (108 * d + 108 + 12 * f) (12 * d + 12) 12 := uF_at
        generalize uF D1 (Y + 28) (jnG (D1.2.1 (Y + 26)) (D1.2.1 (Y + 28)) (108 * d + 108 + 12 * f) (12 * d + 12) 12) = D2 at R2 x2 r2
        have t2 : tOut Y d D1 D2 := x2.t (by omega) (fun e => by omega) (fun _ i hi => by rw [r2]; unfold jnG; rw [if_neg (by omega)])
        show wbX11_part_27 (j + 1) Y (nI m) (nI d) (nI (108 * d + 108)) (nI f + 1) h2 Q
        rw [nI_1]
        refine tm_part_loop hm h80 hd j (f + 1) (b ||| v) D2 h2 (by omega) (C1.x R2 x2 (by omega)) (o1.w (x2.2.2 _ (by omega))) (fun g hg i hi' => ?_) (fun i hi' => ?_) fun h' D' C' O' e' b' w' i' => hq h' D' ?_ ((t1.tr t2).tr O') (e'.trans (x2.1.trans x1.1)) (fun c hc => (b' c hc).trans ((x2.2.2 _ (by omega)).trans (x1.2.2 _ (by omega)))) w' i'
        · have wg := w1 g hg i hi'
          rw [x2.2.2 _ (by omega), wg]
          by_cases e2 : g < f
          · simp only [if_pos e2, if_pos (show g < f + 1 by omega)]
          · by_cases e : g = f
            · subst e
              simp only [if_neg (Nat.lt_irrefl g), if_pos (Nat.lt_succ_self g)]
              unfold hdW
              rw [if_neg (fun e => tkB_0.mp e y)]
            · simp only [if_neg e2, if_neg (show ¬ g < f + 1 by omega)]
        · rw [r2]; unfold jnG
          have ig := i1 i hi'
          have og := o1 f (by omega) i hi'
          rw [if_pos (by omega), ig, show 108 * d + 108 + 12 * f + (12 * (d + 1) + i - (12 * d + 12)) = 108 * (d + 1) + 12 * f + i by omega, og]
          show _ = (if tkB (nB N m) (nI f) = 0 then tkN (nB N m) V f else fun i => tkN (nB N m) V f i ||| V f i) i
          rw [if_neg (fun e => tkB_0.mp e y)]
        · rw [hv] at C'; exact C'
    refine ⟨fun z => key 0 (by rw [if_pos z, or_0]), fun z => key _ (by rw [if_neg z])⟩
theorem tm_part (C : TM Y cnt N M ρ n S D h) {m d : Nat} {V : rW} (hm : m < cnt) (hd : d < 81) (ho : outR Y (d + 1) V D) (hw : wayR Y d rZW D) {Q : aH → Prop} (hq : ∀ h' D', TM Y cnt N M (bodR m V ρ) n S D' h' → tOut Y d D D' → D'.1 = D.1 → (∀ b, b ≤ 20 ∨ b = 26 → D'.2.1 (Y + b) = D.2.1 (Y + b)) → wayR Y d (hdW (nB N m) V) D' → insR Y (d + 1) (tkN (nB N m) V 9) D' → Q h') : wX11_part h Y (nI m) (nI d) Q := by
  have h80 := C.1.2.2
  refine R_R C.R C.L.1 rfl ?_
  rw [ix4]
  refine mj_wipe (c := 12) C.R C.L.s28 (by omega) (by omega) fun h1 R1 => ⟨10, ?_⟩
  rw [ix5]
  have x1 : eqx (Y + 28) D (uF D (Y + 28) (wpG (D.2.1 (Y + 28)) (12 * d + 12) 12)) := eqx.u
  have r1 : (uF D (Y + 28) (wpG (D.2.1 (Y + 28)) (12 * d + 12) 12)).2.1 (Y + 28) = wpG (D.2.1 (Y + 28)) (12 * d + 12) 12 := uF_at
  generalize uF D (Y + 28) (wpG (D.2.1 (Y + 28)) (12 * d + 12) 12) = D1 at R1 x1 r1
  have t1 : tOut Y d D D1 := x1.t (by omega) (fun e => by omega) (fun _ i hi => by rw [r1]; unfold wpG; rw [if_neg (by omega)])
  have C0 : TM Y cnt N M (ρ.1, ρ.2.1, upd ρ.2.2.1 m (ρ.2.2.1 m), ρ.2.2.2) n S D1 h1 := by rw [upd_self]; exact C.x R1 x1 (by omega)
  refine tm_part_loop (ρ := ρ) hm h80 hd 9 0 (ρ.2.2.1 m) D1 h1 rfl C0 (ho.w (x1.2.2 _ (by omega))) (fun g hg i hi => ?_) (fun i hi => ?_) fun h' D' C' O' e' b' w' i' => hq h' D' ?_ (t1.tr O') (e'.trans x1.1) (fun c hc => (b' c hc).trans (x1.2.2 _ (by omega))) w' i'
  · simp only [if_neg (Nat.not_lt_zero g)]
    rw [x1.2.2 _ (by omega)]; exact hw g hg i hi
  · rw [r1]; unfold wpG; rw [if_pos (by omega)]; rfl
  · rw [bits_or] at C'; exact C'
/-- a body's ways and a handler's, joined -/
theorem tm_g141 {m d : Nat} {V : rW} {v4 v5 : Int32} (hd : d < 81) {Q : aH → Prop} : ∀ (j f : Nat) (W : rW) (D : sD) (h : aH), j + f = 9 → TM Y cnt N M ρ n S D h → wayR Y d W D → outR Y (d + 1) V D → (∀ h' D', TM Y cnt N M ρ n S D' h' → eqx (Y + 27) D D' → tOut Y d D D' → wayR Y d (putW f W V) D' → wbX11_throughGuard_182 Y (nI m) (nI d) (nI (108 * d)) v4 v5 h' Q) → wbX11_throughGuard_141 (j + 1) Y (nI m) (nI d) (nI (108 * d)) v4 v5 (nI f) h Q
  | 0, f, W, D, h, hf, C, ho, hv, hq => by
    have e : f = 9 := by omega
    subst e
    refine ⟨fun _ => hq h D C eqx.rf tOut.rf (fun g hg i hi => ?_), fun z => absurd (nI_le (Nat.le_refl 9) (by omega)) z⟩
    unfold putW; rw [if_neg (by omega)]; exact ho g hg i hi
  | j + 1, f, W, D, h, hf, C, ho, hv, hq => by
    refine ⟨fun z => absurd ((nI_leI (a := 9) (by omega) (by omega)).mp z) (by omega), fun _ => R_R C.R C.L.1 rfl (R_R C.R C.L.1 rfl ?_)⟩
    have e108 : nI (108 * d) + 108 = nI (108 * d + 108) := nI_add _ 108
    rw [e108, ix3, nI_add, nI_add]
    refine mj_join C.R C.L.s26 C.L.s27 (by omega) (by omega) (by omega) (by omega) (Or.inl (by omega)) fun h1 R1 => ?_
    have x1 : eqx (Y + 27) D (uF D (Y + 27) (jnG (D.2.1 (Y + 26)) (D.2.1 (Y + 27)) (108 * d + 108 + 12 * f) (108 * d + 12 * f) 12)) := eqx.u
    have r1 : (uF D (Y + 27) (jnG (D.2.1 (Y + 26)) (D.2.1 (Y + 27)) (108 * d + 108 + 12 * f) (108 * d + 12 * f) 12)).2.1 (Y + 27) = jnG (D.2.1 (Y + 26)) (D.2.1 (Y + 27)) (108 * d + 108 + 12 * f) (108 * d + 12 * f) 12 := uF_at
    generalize uF D (Y + 27) (jnG (D.2.1 (Y + 26)) (D.2.1 (Y + 27)) (108 * d + 108 + 12 * f) (108 * d + 12 * f) 12) = D1 at R1 x1 r1
    have t1 : tOut Y d D D1 := x1.t (by omega) (fun _ i hi => by rw [r1]; unfold jnG; rw [if_neg (by omega)]) (fun e => by omega)
    show wbX11_throughGuard_141 (j + 1) Y (nI m) (nI d) (nI (108 * d)) v4 v5 (nI f + 1) h1 Q
    rw [nI_1]
    refine tm_g141 hd j (f + 1) (jn W f (V f)) D1 h1 (by omega) (C.x R1 x1 (by omega)) (fun g hg i hi => ?_) (hv.w (x1.2.2 _ (by omega))) fun h' D' C' x' O' o' => hq h' D' C' (x1.tr x') (t1.tr O') ?_
    · rw [r1]; unfold jnG jn
      by_cases e : g = f
      · subst e
        rw [if_pos (by omega), if_pos rfl, ho g hg i hi, show 108 * d + 108 + 12 * g + (108 * d + 12 * g + i - (108 * d + 12 * g)) = 108 * (d + 1) + 12 * g + i by omega, hv g hg i hi]
      · rw [if_neg e, if_neg (by omega)]; exact ho g hg i hi
    · have : putW (f + 1) (jn W f (V f)) V = putW f W V := by
        funext x i; unfold putW jn
        by_cases e : x = f
        · rw [if_neg (by omega), if_pos e, if_pos (by omega), e]
        · by_cases e2 : f ≤ x
          · rw [if_pos (by omega), if_neg e, if_pos e2]
          · rw [if_neg (by omega), if_neg e, if_neg e2]
      rw [this] at o'; exact o'
/-- without a last part: the ways come out as they are -/
theorem tm_g228 {m d : Nat} {W H : rW} (hm : m < 80) (hd : d < 81) {D0 : sD} (ho : outR Y d W D0) (hw : wayR Y d H D0) (ht : D0.1 Y 27 = nI d) {Q : aH → Prop} (hq : ∀ h' D', TM Y cnt N M (leaveR m (jnA W H, ρ)).2 n S D' h' → tOut Y d D0 D' → D'.1 Y 27 = nI d - 1 → outR Y d (jnA W H) D' → Q h') : ∀ (j i : Nat) (D : sD) (h : aH), j + i = 108 → TM Y cnt N M ρ n S D h → D = uF D0 (Y + 26) (jnG (D0.2.1 (Y + 27)) (D0.2.1 (Y + 26)) (108 * d) (108 * d) i) → wbX11_throughGuard_228 (j + 1) Y (nI m) (nI d) (nI (108 * d)) (nI i) h Q
  | 0, i, D, h, hi, C, eD => by
    have e : i = 108 := by omega
    subst e
    have x1 : eqx (Y + 26) D0 D := by rw [eD]; exact eqx.u
    have r1 : D.2.1 (Y + 26) = jnG (D0.2.1 (Y + 27)) (D0.2.1 (Y + 26)) (108 * d) (108 * d) 108 := by rw [eD]; exact uF_at
    have t1 : tOut Y d D0 D := x1.t (by omega) (fun _ i hi => by rw [r1]; unfold jnG; rw [if_neg (by omega)]) (fun e => by omega)
    refine ⟨fun _ => R_O C.R C.L.1 (tm_leave C hm hd (by rw [x1.1]; exact ht) (W := jnA W H) (fun f hf i hi => ?_) fun h2 D2 C2 t2 e2 o2 => hq h2 D2 C2 (t1.tr t2) e2 o2), fun z => absurd (nI_le (Nat.le_refl 108) (by omega)) z⟩
    rw [r1]; unfold jnG jnA
    rw [if_pos (by omega), ho f hf i hi, show 108 * d + (108 * d + 12 * f + i - 108 * d) = 108 * d + 12 * f + i by omega, hw f hf i hi]
  | j + 1, i, D, h, hi, C, eD => by
    refine ⟨fun z => absurd ((nI_leI (a := 108) (by omega) (by omega)).mp z) (by omega), fun _ => ?_⟩
    rw [nI_add]
    refine R_R C.R C.L.1 rfl (R_aI C.R C.L.s26 (vp_in_nI (by omega) (by omega)) (R_R C.R C.L.1 rfl (R_aI C.R C.L.s27 (vp_in_nI (by omega) (by omega)) (R_sI C.R C.L.s26 (vp_in_nI (by omega) (by omega)) fun h1 R1 => ?_))))
    rw [nI_clamp (by omega)] at R1
    have x1 : eqx (Y + 26) D (uF D (Y + 26) (upd (D.2.1 (Y + 26)) (108 * d + i) (D.2.1 (Y + 26) (108 * d + i) ||| D.2.1 (Y + 27) (108 * d + i)))) := eqx.u
    show wbX11_throughGuard_228 (j + 1) Y (nI m) (nI d) (nI (108 * d)) (nI i + 1) h1 Q
    rw [nI_1]
    refine tm_g228 hm hd ho hw ht hq j (i + 1) _ h1 (by omega) (C.x R1 x1 (by omega)) ?_
    subst eD
    rw [uF_at, uF_uF, uF_ne (show Y + 27 ≠ Y + 26 by omega)]
    congr 1
    funext k
    simp only [upd]
    by_cases e : k = 108 * d + i
    · subst e
      unfold jnG
      rw [if_pos rfl, if_neg (by omega), if_pos (by omega), show 108 * d + (108 * d + i - 108 * d) = 108 * d + i by omega]
    · rw [if_neg e]
      unfold jnG
      by_cases c : 108 * d ≤ k ∧ k < 108 * d + i
      · rw [if_pos c, if_pos (by omega)]
      · rw [if_neg c, if_neg (by omega)]
/-- does the last part fail itself -/
def moreN (W : rW) : Nat → Nat → Int32 → Int32
  | 0, _, b => b
  | j + 1, f, b => moreN W j (f + 1) (b ||| (if W f 0 = 0 then 0 else 1))
theorem bit510 : ∀ f, f < 9 → 1 ≤ f → ¬ (1 : Int32) <<< (nI f &&& 31) &&& 510 = 0 := by decide +kernel
theorem one_n0 : ¬ (1 : Int32) = 0 := by decide
theorem more_bits (W : rW) : ∀ j f b c, j + f = 9 → 1 ≤ f → (b = 0 ↔ c &&& 510 = 0) → (moreN W j f b = 0 ↔ bitsN W j f c &&& 510 = 0)
  | 0, f, b, c, _, _, h => h
  | j + 1, f, b, c, hj, hf, h => by
    show moreN W j (f + 1) _ = 0 ↔ bitsN W j (f + 1) _ &&& 510 = 0
    refine more_bits W j (f + 1) _ _ (by omega) (by omega) ?_
    by_cases z : W f 0 = 0
    · rw [if_pos z, if_pos z, or_0]; exact h
    · rw [if_neg z, if_neg z, or_eq0, or_and, or_eq0, h]
      have := bit510 f (by omega) hf
      simp [this]
theorem more_all (W : rW) : moreN W 8 1 0 = 0 ↔ bits W &&& 510 = 0 := by
  have e : bits W = bitsN W 8 1 (if W 0 0 = 0 then (0 : Int32) else (0 : Int32) ||| ((1 : Int32) <<< (nI 0 &&& 31))) := rfl
  rw [e]
  refine more_bits W 8 1 0 _ rfl (Nat.le_refl 1) ?_
  split
  · decide
  · decide
theorem bitv : ∀ f, f < 9 → 1 ≤ f → ((1 : Int32) <<< (nI f &&& 31)) &&& 510 = (1 : Int32) <<< (nI f &&& 31) := by decide +kernel
theorem bitv0 : (1 : Int32) <<< (nI 0 &&& 31) &&& 510 = 0 := by decide
/-- the last part's failures are written down -/
theorem tm_last_loop {m d f : Nat} {V : rW} (hm : m < 80) (hf : f < 9) (hd : d < 81) (C : TM Y cnt N M ρ n S D h) (hv : outR Y (d + 1) V D) {Q : aH → Prop} (hq : ∀ h' D', TM Y cnt N M (losR m f V ρ) n S D' h' → eqx (Y + 25) D D' → Q h') : ∀ (j g : Nat) (b : Int32), j + g = 9 → 1 ≤ g → moreN V j g b = moreN V 8 1 0 → wbX11_last_43 (j + 1) Y (nI m) (nI f) (nI (108 * d + 108)) b (nI g) h Q
  | 0, g, b, hg, h1, eb => by
    have e : g = 9 := by omega
    subst e
    have eb' : b = moreN V 8 1 0 := eb
    have hb := more_all V
    rw [← eb'] at hb
    refine ⟨fun _ => R_R C.R C.L.1 rfl (R_aI C.R C.L.s25 (vp_in_nI (by omega) (by omega)) ?_), fun z => absurd (nI_le (Nat.le_refl 9) (by omega)) z⟩
    rw [nI_clamp (by omega)]
    have key : ∀ v : Int32, ((losR m f V ρ).1 = ρ.1 ∧ (losR m f V ρ).2.1 = ρ.2.1 ∧ (losR m f V ρ).2.2.1 = ρ.2.2.1 ∧ (losR m f V ρ).2.2.2 = upd ρ.2.2.2 m (ρ.2.2.2 m ||| v)) → wbX11_last_105 v (D.2.1 (Y + 25) m) (nI m) (Y + 25) h Q := by
      intro v hv'
      refine R_sI C.R C.L.s25 (vp_in_nI (by omega) (by omega)) fun h1 R1 => ?_
      rw [nI_clamp (by omega), (C.2 m hm).2.2.2.1] at R1
      have x1 : eqx (Y + 25) D (uF D (Y + 25) (upd (D.2.1 (Y + 25)) m (ρ.2.2.2 m ||| v))) := eqx.u
      have r1 : (uF D (Y + 25) (upd (D.2.1 (Y + 25)) m (ρ.2.2.2 m ||| v))).2.1 (Y + 25) = upd (D.2.1 (Y + 25)) m (ρ.2.2.2 m ||| v) := uF_at
      generalize uF D (Y + 25) (upd (D.2.1 (Y + 25)) m (ρ.2.2.2 m ||| v)) = D1 at R1 x1 r1
      refine hq h1 D1 ⟨C.1.x R1 x1 (by omega), fun g hg => ?_⟩ x1
      obtain ⟨g1, g2, g3, g4, g5⟩ := C.2 g hg
      rw [r1, x1.2.2 (Y + 23) (by omega), x1.2.2 (Y + 22) (by omega), x1.2.2 (Y + 24) (by omega), x1.2.2 (Y + 21) (by omega), hv'.1, hv'.2.1, hv'.2.2.1, hv'.2.2.2]
      refine ⟨g1, g2, g3, ?_, g5⟩
      simp only [upd]
      split
      · rfl
      · exact g4
    have up0 : upd ρ.2.2.2 m (ρ.2.2.2 m ||| 0) = ρ.2.2.2 := by rw [or_0]; exact upd_self
    unfold losR at key
    refine ⟨fun z => key 0 ?_, fun z => ⟨fun y => key 0 ?_, fun y => key _ ?_⟩⟩
    · rw [if_pos (hb.mp z), up0]; exact ⟨rfl, rfl, rfl, rfl⟩
    · rw [if_neg (fun e => z (hb.mpr e))]
      have f0 : f = 0 := (nI_le0 (by omega)).mp y
      rw [f0, bitv0]; exact ⟨rfl, rfl, rfl, rfl⟩
    · rw [if_neg (fun e => z (hb.mpr e))]
      have f0 : 1 ≤ f := by
        rcases Nat.eq_zero_or_pos f with e | e
        · exact absurd ((nI_le0 (by omega)).mpr e) y
        · exact e
      rw [bitv f hf f0]; exact ⟨rfl, rfl, rfl, rfl⟩
  | j + 1, g, b, hg, h1, eb => by
    refine ⟨fun z => absurd ((nI_leI (a := 9) (by omega) (by omega)).mp z) (by omega), fun _ => R_R C.R C.L.1 rfl ?_⟩
    rw [ix3, nI_add]
    refine R_aI C.R C.L.s26 (vp_in_nI (by omega) (by omega)) ?_
    rw [nI_clamp (by omega), show 108 * d + 108 + 12 * g = 108 * (d + 1) + 12 * g + 0 by omega, hv g (by omega) 0 (by omega)]
    refine ⟨fun z => ?_, fun z => ?_⟩
    · show wbX11_last_43 (j + 1) Y (nI m) (nI f) (nI (108 * d + 108)) (b ||| 0) (nI g + 1) h Q
      rw [nI_1]
      refine tm_last_loop hm hf hd C hv hq j (g + 1) _ (by omega) (by omega) ?_
      rw [← eb]; show _ = moreN V j (g + 1) _; rw [if_pos z]
    · show wbX11_last_43 (j + 1) Y (nI m) (nI f) (nI (108 * d + 108)) (b ||| 1) (nI g + 1) h Q
      rw [nI_1]
      refine tm_last_loop hm hf hd C hv hq j (g + 1) _ (by omega) (by omega) ?_
      rw [← eb]; show _ = moreN V j (g + 1) _; rw [if_neg z]
theorem tm_last (C : TM Y cnt N M ρ n S D h) {m d f : Nat} {W V : rW} (hm : m < 80) (hf : f < 9) (hd : d < 81) (ho : outR Y d W D) (hv : outR Y (d + 1) V D) {Q : aH → Prop} (hq : ∀ h' D', TM Y cnt N M (losR m f V ρ) n S D' h' → tOut Y d D D' → D'.1 = D.1 → (∀ b, b ≤ 20 ∨ b = 27 → D'.2.1 (Y + b) = D.2.1 (Y + b)) → outR Y d (jnF (jn W f (V 0)) V) D' → Q h') : wX11_last h Y (nI m) (nI d) (nI f) Q := by
  refine R_R C.R C.L.1 rfl (R_R C.R C.L.1 rfl ?_)
  rw [ix5, ix1]
  refine mj_join C.R C.L.s26 C.L.s26 (by omega) (by omega) (by omega) (by omega) (Or.inr (Or.inl (by omega))) fun h1 R1 => ?_
  have x1 : eqx (Y + 26) D (uF D (Y + 26) (jnG (D.2.1 (Y + 26)) (D.2.1 (Y + 26)) (108 * d + 108) (108 * d + 12 * f) 12)) := eqx.u
  have r1 : (uF D (Y + 26) (jnG (D.2.1 (Y + 26)) (D.2.1 (Y + 26)) (108 * d + 108) (108 * d + 12 * f) 12)).2.1 (Y + 26) = jnG (D.2.1 (Y + 26)) (D.2.1 (Y + 26)) (108 * d + 108) (108 * d + 12 * f) 12 := uF_at
  generalize uF D (Y + 26) (jnG (D.2.1 (Y + 26)) (D.2.1 (Y + 26)) (108 * d + 108) (108 * d + 12 * f) 12) = D1 at R1 x1 r1
  have t1 : tOut Y d D D1 := x1.t (by omega) (fun _ i hi => by rw [r1]; unfold jnG; rw [if_neg (by omega)]) (fun e => by omega)
  have C1 := C.x R1 x1 (by omega)
  have o1 : outR Y d (jn W f (V 0)) D1 := fun g hg i hi => by
    rw [r1]; unfold jnG jn
    by_cases e : g = f
    · subst e
      have v0 : D.2.1 (Y + 26) (108 * d + 108 + i) = V 0 i := hv 0 (by omega) i hi
      rw [if_pos (by omega), if_pos rfl, ho g hg i hi, show 108 * d + 108 + (108 * d + 12 * g + i - (108 * d + 12 * g)) = 108 * d + 108 + i by omega, v0]
    · rw [if_neg e, if_neg (by omega)]; exact ho g hg i hi
  have v1 : outR Y (d + 1) V D1 := fun g hg i hi => by
    rw [r1]; unfold jnG
    rw [if_neg (by omega)]; exact hv g hg i hi
  refine R_O C1.R C1.L.1 (tm_put (f := 1) C1 hd (by omega) o1 v1 fun h2 D2 C2 x2 t2 o2 v2 => ⟨9, ?_⟩)
  rw [putW_1] at o2
  refine tm_last_loop hm hf hd C2 v2 (fun h3 D3 C3 x3 => hq h3 D3 C3 ((t1.tr t2).tr (x3.t (by omega) (fun e => by omega) (fun e => by omega))) (x3.1.trans (x2.1.trans x1.1)) (fun b hb => (x3.2.2 _ (by omega)).trans ((x2.2.2 _ (by omega)).trans (x1.2.2 _ (by omega)))) (o2.w (x3.2.2 _ (by omega)))) 8 1 0 rfl (Nat.le_refl 1) rfl
end TMG
