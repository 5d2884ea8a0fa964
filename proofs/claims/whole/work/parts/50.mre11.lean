section TMH
variable {Y n cnt : Nat} {N : nT} {M : mT} {ρ : rD} {S : sS} {D : sD} {h : aH}
/-- the last parts, one by one -/
theorem th_last {m d : Nat} (hm : m < cnt) (h80 : cnt ≤ 80) (s3 : nSo N m = 3) (od : nS (nD N m) m) (hd : m + d ≤ 80) {t : Nat → rT} (IH : ∀ c, c < m → ∀ s ρ, okS s → TH Y cnt N M n S (t c) c (d + 1) s ρ) {H : rW} (hH : okW H) : ∀ (i f : Nat) (p : rW × rD), i + f = 9 →
    ∃ c, ∀ (D : sD) (h : aH) (j : Nat) (Q : aH → Prop) (pp : Int32), TM Y cnt N M p.2 n S D h → D.1 Y 27 = nI d → sAt Y D d (nI m) pp (nI f) → outR Y d p.1 D → wayR Y d H D → (∀ h' D', TM Y cnt N M (leaveR m (lastN (t (tN (nD N m))) H m i f p)).2 n S D' h' → tOut Y d D D' → D'.1 Y 27 = nI d - 1 → outR Y d (lastN (t (tN (nD N m))) H m i f p).1 D' → wbX11_through_10 j Y h' Q) → wbX11_throughGuard_269 (i + 1) Y (nI m) (nI d) (nI (108 * d)) (nI (12 * d + 12)) h (fun h' => wbX11_through_10 (j + c) Y h' Q)
  | 0, f, p, hf => by
    have e : f = 9 := by omega
    subst e
    refine ⟨0, fun D h j Q pp C ht sa ho hw hq => ?_⟩
    refine R_R C.R C.L.1 rfl (sm_top C.1 ht (sm_hd C.1 (by omega) sa.2.2 ⟨fun _ => R_R C.R C.L.1 rfl (sm_top C.1 ht (sm_hd C.1 (by omega) sa.2.2 ⟨fun z => absurd rfl z, fun _ => R_O C.R C.L.1 (tm_leave C (by omega) (by omega) ht ho hq)⟩)), fun z => absurd (nI_le (Nat.le_refl 9) (by omega)) z⟩))
  | i + 1, f, p, hf => by
    have ld := tN_lt od (by omega)
    have rd : ∀ (D : sD) (h : aH), TM Y cnt N M p.2 n S D h → wayR Y d H D → ∀ K : Int32 → Prop, K (H f 0) → aI h (Y + 27) (nI (108 * d) + 12 * nI f) K := by
      intro D h C hw K hK
      rw [ix3, nI_add]
      refine R_aI C.R C.L.s27 (vp_in_nI (by omega) (by omega)) ?_
      rw [nI_clamp (by omega), show 108 * d + 12 * f = 108 * d + 12 * f + 0 from rfl, hw f (by omega) 0 (by omega)]; exact hK
    have l9 : ¬ (9 : Int32) ≤ nI f := fun z => absurd ((nI_leI (a := 9) (by omega) (by omega)).mp z) (by omega)
    by_cases z : H f 0 = 0
    · obtain ⟨c, hc⟩ := th_last hm h80 s3 od hd IH hH i (f + 1) p (by omega)
      refine ⟨c, fun D h j Q pp C ht sa ho hw hq => ?_⟩
      simp only [lastN, if_pos z] at hq
      refine R_R C.R C.L.1 rfl (sm_top C.1 ht (sm_hd C.1 (by omega) sa.2.2 ⟨fun y => absurd y l9, fun _ => R_R C.R C.L.1 rfl (R_R C.R C.L.1 rfl (sm_top C.1 ht (sm_hd C.1 (by omega) sa.2.2 (rd D h C hw _ ⟨fun y => absurd z y, fun _ => R_R C.R C.L.1 rfl (sm_top C.1 ht (sm_hd C.1 (by omega) sa.2.2 (sm_setStk C.1 (by omega) (Or.inr (Or.inr rfl)) fun h1 D1 C1 O1 f1 => ?_)))⟩))))⟩))
      rw [nI_1] at f1
      have s1 : sAt Y D1 d (nI m) pp (nI (f + 1)) := by
        subst f1
        refine ⟨?_, ?_, ?_⟩
        · simp [uF, va_up, upd]; exact sa.1
        · simp [uF, va_up, upd]; exact sa.2.1
        · simp [uF, va_up, upd]
      exact hc D1 h1 j Q pp (C.r C1 O1) (by rw [f1]; exact ht) s1 (ho.w (O1.row (by omega))) (hw.w (O1.row (by omega))) fun h2 D2 C2 t2 e2 o2 => hq h2 D2 C2 (O1.t.tr t2) e2 o2
    · obtain ⟨cd, hcd⟩ := IH _ ld.1 (H f) p.2 ((hH f).ok z)
      obtain ⟨c, hc⟩ := th_last hm h80 s3 od hd IH hH i (f + 1) (jnF (jn p.1 f ((t (tN (nD N m)) (H f) p.2).1 0)) (t (tN (nD N m)) (H f) p.2).1, losR m f (t (tN (nD N m)) (H f) p.2).1 (t (tN (nD N m)) (H f) p.2).2) (by omega)
      refine ⟨c + 1 + cd, fun D h j Q pp C ht sa ho hw hq => ?_⟩
      simp only [lastN, if_neg z] at hq
      have n9 : ¬ nI f = 9 := fun y => absurd ((nI_eq (b := 9) (by omega) (by omega)).mp y) (by omega)
      refine R_R C.R C.L.1 rfl (sm_top C.1 ht (sm_hd C.1 (by omega) sa.2.2 ⟨fun y => absurd y l9, fun _ => R_R C.R C.L.1 rfl (R_R C.R C.L.1 rfl (sm_top C.1 ht (sm_hd C.1 (by omega) sa.2.2 (rd D h C hw _ ⟨fun _ => R_R C.R C.L.1 rfl (sm_top C.1 ht (sm_hd C.1 (by omega) sa.2.2 ⟨fun _ => R_R C.R C.L.1 rfl (R_R C.R C.L.1 rfl (sm_top C.1 ht (sm_hd C.1 (by omega) sa.2.2 (R_R C.R C.L.1 rfl ?_)))), fun y => absurd y n9⟩)), fun y => absurd y z⟩))))⟩))
      rw [ix3, nI_add]
      refine tm_layIns C C.L.s27 (by omega) (by omega) (by omega) (s := H f) (fun i hi => hw f (by omega) i hi) (fun e => by omega) fun h1 D1 C1 x1 t1 i1 => ?_
      refine R_R C1.R C1.L.1 rfl (sm_nD C1.1 hm (R_O C1.R C1.L.1 (sm_step C1.1 (by rw [x1.1]; exact ht) (by omega) (sa.x x1 (by omega)) fun h2 D2 C2 O2 t2 s2 s2' => ?_)))
      show wbX11_through_10 (j + (c + 1 + cd)) Y h2 Q
      rw [show j + (c + 1 + cd) = ((j + c) + 1) + cd by omega]
      rw [ld.2] at s2
      refine hcd D2 h2 ((j + c) + 1) Q (C1.r C2 O2) t2 s2 (i1.w (O2.row (by omega))) fun h3 D3 C3 t3 e3 o3 => ?_
      rw [nI_pred] at e3
      have s3' := s2'.t t3 (by omega)
      have ho3 : outR Y d p.1 D3 := ((ho.w (x1.2.2 _ (by omega))).w (O2.row (by omega))).t t3 (by omega)
      have hw3 : wayR Y d H D3 := ((hw.w (x1.2.2 _ (by omega))).w (O2.row (by omega))).t t3 (by omega)
      refine tm_iter C3 hm (by omega) e3 s3' (fun e => by omega) (fun e => by omega) (fun e => by omega) (fun _ => R_R C3.R C3.L.1 rfl (sm_top C3.1 e3 (sm_ph C3.1 (by omega) s3'.2.1 ⟨fun _ => ⟨fun _ => ?_, fun y => absurd y (by decide)⟩, fun y => absurd y (by decide)⟩)))
      rw [ix2, ix4]
      refine ⟨fun _ => ⟨fun y => absurd rfl y, fun _ => R_R C3.R C3.L.1 rfl (sm_top C3.1 e3 (sm_hd C3.1 (by omega) s3'.2.2 (R_O C3.R C3.L.1 (tm_last C3 (by omega) (by omega) (by omega) ho3 o3 fun h4 D4 C4 t4 e4 b4 o4 => ?_))))⟩, fun y => absurd y (by decide)⟩
      have s4 : sAt Y D4 d (nI m) 3 (nI f) := by
        unfold sAt; rw [b4 16 (by omega), b4 17 (by omega), b4 18 (by omega)]; exact s3'
      have u4 : D4.1 Y 27 = nI d := by rw [e4]; exact e3
      refine R_R C4.R C4.L.1 rfl (sm_top C4.1 u4 (sm_hd C4.1 (by omega) s4.2.2 (sm_setStk C4.1 (by omega) (Or.inr (Or.inr rfl)) fun h5 D5 C5 O5 f5 => ?_)))
      rw [nI_1] at f5
      have C5' := C4.r C5 O5
      have s5 : sAt Y D5 d (nI m) 3 (nI (f + 1)) := by
        subst f5
        refine ⟨?_, ?_, ?_⟩
        · simp [uF, va_up, upd]; exact s4.1
        · simp [uF, va_up, upd]; exact s4.2.1
        · simp [uF, va_up, upd]
      have d0 : 0 ≤ nD N m := by rw [ld.2]; exact nI_pos' (by omega)
      refine R_R C5'.R C5'.L.1 rfl (sm_nD C5'.1 hm ⟨fun _ => ⟨i + 1, ?_⟩, fun y => absurd d0 y⟩)
      exact hc D5 h5 j Q 3 C5' (by rw [f5]; exact u4) s5 (o4.w (O5.row (by omega))) ((hw3.w (b4 27 (Or.inr rfl))).w (O5.row (by omega))) fun h6 D6 C6 t6 e6 o6 => hq h6 D6 C6 (((((t1.tr O2.t).tr (t3.mono (by omega))).tr t4).tr O5.t).tr t6) e6 o6
/-- from where the ways stand -/
theorem th_216 {m d : Nat} (hm : m < cnt) (h80 : cnt ≤ 80) (s3 : nSo N m = 3) (od : nD N m = -1 ∨ nS (nD N m) m) (hd : m + d ≤ 80) {t : Nat → rT} (IH : ∀ c, c < m → ∀ s ρ, okS s → TH Y cnt N M n S (t c) c (d + 1) s ρ) {H : rW} (hH : okW H) (ρ : rD) {F : rW × rD} (eF : F = if 0 ≤ nD N m then lastN (t (tN (nD N m))) H m 9 0 (rZW, ρ) else (jnA rZW H, ρ)) :
    ∃ c, ∀ (D : sD) (h : aH) (j : Nat) (Q : aH → Prop) (pp : Int32), TM Y cnt N M ρ n S D h → D.1 Y 27 = nI d → sAt Y D d (nI m) pp 0 → outR Y d rZW D → wayR Y d H D → (∀ h' D', TM Y cnt N M (leaveR m F).2 n S D' h' → tOut Y d D D' → D'.1 Y 27 = nI d - 1 → outR Y d F.1 D' → wbX11_through_10 j Y h' Q) → wbX11_throughGuard_216 Y (nI m) (nI d) (nI (108 * d)) (nI (12 * d + 12)) h (fun h' => wbX11_through_10 (j + c) Y h' Q) := by
  by_cases d0 : 0 ≤ nD N m
  · rw [if_pos d0] at eF
    subst eF
    obtain ⟨c, hc⟩ := th_last (Y := Y) (M := M) (n := n) (S := S) hm h80 s3 (ge0_nS od d0) hd IH hH 9 0 (rZW, ρ) rfl
    refine ⟨c, fun D h j Q pp C ht sa ho hw hq => R_R C.R C.L.1 rfl (sm_nD C.1 hm ⟨fun _ => ⟨10, hc D h j Q pp C ht sa ho hw hq⟩, fun y => absurd d0 y⟩)⟩
  · rw [if_neg d0] at eF
    subst eF
    refine ⟨0, fun D h j Q pp C ht sa ho hw hq => R_R C.R C.L.1 rfl (sm_nD C.1 hm ⟨fun y => absurd y d0, fun _ => ⟨109, ?_⟩⟩)⟩
    refine tm_g228 (by omega) (by omega) ho hw ht hq 108 0 D h rfl C ?_
    have : jnG (D.2.1 (Y + 27)) (D.2.1 (Y + 26)) (108 * d) (108 * d) 0 = D.2.1 (Y + 26) := by funext k; unfold jnG; rw [if_neg (by omega)]
    rw [this, uF_self]
theorem th_guard {m d : Nat} (hm : m < cnt) (h80 : cnt ≤ 80) (s3 : nSo N m = 3) (oa : nS (nA N m) m) (oc : nC N m = -1 ∨ nS (nC N m) m) (od : nD N m = -1 ∨ nS (nD N m) m) (hd : m + d ≤ 80) {s : rS} (ok : okS s) {t : Nat → rT} (tk : ∀ c, c < m → tOk (c + 1) (t c)) (IH : ∀ c, c < m → ∀ s ρ, okS s → TH Y cnt N M n S (t c) c (d + 1) s ρ) : TH Y cnt N M n S (fun s ρ => leaveR m (findR N t m s (enterR m s ρ))) m d s ρ := by
  have la := tN_lt oa (by omega)
  obtain ⟨ca, ha⟩ := IH _ la.1 s (enterR m s ρ) ok
  have oka := (tk _ la.1 s (enterR m s ρ) ok).1
  have ef : findR N t m s (enterR m s ρ) = guardR (t (tN (nA N m))) (t (tN (nC N m))) (t (tN (nD N m))) m (nB N m) (nC N m) (nD N m) s (enterR m s ρ) := by
    unfold findR; rw [if_neg (by omega), if_neg (by omega), if_neg (by omega)]
  have key : ∃ c, ∀ (D : sD) (h : aH) (j : Nat) (Q : aH → Prop), TM Y cnt N M (t (tN (nA N m)) s (enterR m s ρ)).2 n S D h → D.1 Y 27 = nI d → sAt Y D d (nI m) 1 0 → outR Y d rZW D → wayR Y d rZW D → outR Y (d + 1) (t (tN (nA N m)) s (enterR m s ρ)).1 D → (∀ h' D', TM Y cnt N M (leaveR m (findR N t m s (enterR m s ρ))).2 n S D' h' → tOut Y d D D' → D'.1 Y 27 = nI d - 1 → outR Y d (findR N t m s (enterR m s ρ)).1 D' → wbX11_through_10 j Y h' Q) → wbX11_through_10 (j + c) Y h Q := by
    rw [ef]
    unfold guardR
    generalize t (tN (nA N m)) s (enterR m s ρ) = A at oka
    -- the first turn: part
    have first : ∀ (D : sD) (h : aH), TM Y cnt N M A.2 n S D h → D.1 Y 27 = nI d → sAt Y D d (nI m) 1 0 → outR Y d rZW D → wayR Y d rZW D → outR Y (d + 1) A.1 D → ∀ (K : Nat → aH → Prop) (Q : aH → Prop),
        ((tkN (nB N m) A.1 9 0 = 0 ∨ ¬ 0 ≤ nC N m) → ∀ h' D', TM Y cnt N M (bodR m A.1 A.2) n S D' h' → tOut Y d D D' → D'.1 Y 27 = nI d → sAt Y D' d (nI m) 1 0 → outR Y d rZW D' → wayR Y d (jn (hdW (nB N m) A.1) 0 (tkN (nB N m) A.1 9)) D' → wbX11_throughGuard_216 Y (nI m) (nI d) (nI (108 * d)) (nI (12 * d + 12)) h' (fun h' => K Y h')) →
        (¬ (tkN (nB N m) A.1 9 0 = 0 ∨ ¬ 0 ≤ nC N m) → ∀ h' D', TM Y cnt N M (bodR m A.1 A.2) n S D' h' → tOut Y d D D' → D'.1 Y 27 = nI (d + 1) → sAt Y D' (d + 1) (nC N m) 0 0 → sAt Y D' d (nI m) 2 0 → outR Y d rZW D' → wayR Y d (hdW (nB N m) A.1) D' → insR Y (d + 1) (tkN (nB N m) A.1 9) D' → K Y h') →
        wbX11_through_10_i K Y h Q := by
      intro D h C ht sa ho hw hv K Q q0 q1
      refine tm_iter C hm (by omega) ht sa (fun e => by omega) (fun e => by omega) (fun e => by omega) (fun _ => R_R C.R C.L.1 rfl (sm_top C.1 ht (sm_ph C.1 (by omega) sa.2.1 ⟨fun _ => ⟨fun y => absurd rfl y, fun _ => R_O C.R C.L.1 (tm_part C hm (by omega) hv hw fun h1 D1 C1 t1 e1 b1 w1 i1 => R_R C1.R C1.L.1 rfl ?_)⟩, fun y => absurd y (by decide)⟩)))
      rw [ix4, ix2]
      have s1 : sAt Y D1 d (nI m) 1 0 := by unfold sAt; rw [b1 16 (by omega), b1 17 (by omega), b1 18 (by omega)]; exact sa
      have u1 : D1.1 Y 27 = nI d := by rw [e1]; exact ht
      have o1 : outR Y d rZW D1 := ho.w (b1 26 (Or.inr rfl))
      have k118 : (tkN (nB N m) A.1 9 0 = 0 ∨ ¬ 0 ≤ nC N m) → wbX11_throughGuard_118 Y (nI m) (nI d) (nI (108 * d)) (nI (12 * d + 12)) 1 h1 (fun h' => K Y h') := by
        intro hz
        refine R_R C1.R C1.L.1 rfl (R_R C1.R C1.L.1 rfl (mj_join C1.R C1.L.s28 C1.L.s27 (by omega) (by omega) (by omega) (by omega) (Or.inl (by omega)) fun h2 R2 => ?_))
        have x2 : eqx (Y + 27) D1 (uF D1 (Y + 27) (jnG (D1.2.1 (Y + 28)) (D1.2.1 (Y + 27)) (12 * d + 12) (108 * d) 12)) := eqx.u
        have r2 : (uF D1 (Y + 27) (jnG (D1.2.1 (Y + 28)) (D1.2.1 (Y + 27)) (12 * d + 12) (108 * d) 12)).2.1 (Y + 27) = jnG (D1.2.1 (Y + 28)) (D1.2.1 (Y + 27)) (12 * d + 12) (108 * d) 12 := uF_at
        generalize uF D1 (Y + 27) (jnG (D1.2.1 (Y + 28)) (D1.2.1 (Y + 27)) (12 * d + 12) (108 * d) 12) = D2 at R2 x2 r2
        have t2 : tOut Y d D1 D2 := x2.t (by omega) (fun _ i hi => by rw [r2]; unfold jnG; rw [if_neg (by omega)]) (fun e => by omega)
        refine ⟨fun _ => ⟨fun _ => q0 hz h2 D2 (C1.x R2 x2 (by omega)) (t1.tr t2) (by rw [x2.1]; exact u1) (s1.x x2 (by omega)) (o1.w (x2.2.2 _ (by omega))) (fun g hg i hi => ?_), fun y => absurd y (by decide)⟩, fun y => absurd y (by decide)⟩
        rw [r2]; unfold jnG jn
        by_cases e : g = 0
        · subst e
          have wi := w1 0 (by omega) i hi
          have ii := i1 i hi
          rw [if_pos (by omega), if_pos rfl, wi, show 12 * d + 12 + (108 * d + 12 * 0 + i - 108 * d) = 12 * (d + 1) + i by omega, ii]
        · rw [if_neg e, if_neg (by omega)]; exact w1 g hg i hi
      refine R_aI C1.R C1.L.s28 (vp_in_nI (by omega) (by omega)) ?_
      rw [nI_clamp (by omega)]
      have e0 : D1.2.1 (Y + 28) (12 * d + 12) = tkN (nB N m) A.1 9 0 := i1 0 (by omega)
      rw [e0]
      refine ⟨fun y => k118 (Or.inl y), fun y => R_R C1.R C1.L.1 rfl (sm_nC C1.1 hm ⟨fun x => k118 (Or.inr (Int32.not_le.mpr x)), fun x => R_R C1.R C1.L.1 rfl (sm_nC C1.1 hm (R_O C1.R C1.L.1 (sm_step C1.1 u1 (by omega) s1 fun h2 D2 C2 O2 t2 s2 s2' => q1 (fun e => e.elim y (fun e => e (Int32.not_lt.mp x))) h2 D2 (C1.r C2 O2) (t1.tr O2.t) t2 s2 s2' (o1.w (O2.row (by omega))) (w1.w (O2.row (by omega))) (i1.w (O2.row (by omega))))))⟩)⟩
    unfold handR
    have okt := tkN_wf (b := nB N m) oka 9
    by_cases z : tkN (nB N m) A.1 9 0 = 0 ∨ ¬ 0 ≤ nC N m
    · simp only [if_pos z]
      obtain ⟨c, hc⟩ := th_216 (Y := Y) (M := M) (n := n) (S := S) hm h80 s3 od hd IH (H := jn (hdW (nB N m) A.1) 0 (tkN (nB N m) A.1 9)) ((hdW_ok oka).oj okt) (bodR m A.1 A.2) rfl
      refine ⟨c + 1, fun D h j Q C ht sa ho hw hv hq => ?_⟩
      exact first D h C ht sa ho hw hv _ Q (fun _ h1 D1 C1 t1 e1 s1 o1 w1 => hc D1 h1 j Q 1 C1 e1 s1 o1 w1 fun h2 D2 C2 t2 e2 o2 => hq h2 D2 C2 (t1.tr t2) e2 o2) (fun y => absurd z y)
    · simp only [if_neg z]
      have z1 : ¬ tkN (nB N m) A.1 9 0 = 0 := fun e => z (Or.inl e)
      have c0 : 0 ≤ nC N m := by
        by_cases e : 0 ≤ nC N m
        · exact e
        · exact absurd (Or.inr e) z
      have lc := tN_lt (ge0_nS oc c0) (by omega)
      obtain ⟨cc, hcc⟩ := IH _ lc.1 (tkN (nB N m) A.1 9) (bodR m A.1 A.2) (okt.ok z1)
      have okc := (tk _ lc.1 (tkN (nB N m) A.1 9) (bodR m A.1 A.2) (okt.ok z1)).1
      generalize t (tN (nC N m)) (tkN (nB N m) A.1 9) (bodR m A.1 A.2) = B at hcc okc
      obtain ⟨c, hc⟩ := th_216 (Y := Y) (M := M) (n := n) (S := S) hm h80 s3 od hd IH (H := jnA (hdW (nB N m) A.1) B.1) ((hdW_ok oka).oA okc) B.2 rfl
      refine ⟨c + 1 + cc + 1, fun D h j Q C ht sa ho hw hv hq => ?_⟩
      rw [show j + (c + 1 + cc + 1) = (((j + c) + 1) + cc) + 1 by omega]
      refine first D h C ht sa ho hw hv _ Q (fun y => absurd y z) (fun _ h1 D1 C1 t1 e1 s1 s1' o1 w1 i1 => ?_)
      rw [lc.2] at s1
      refine hcc D1 h1 ((j + c) + 1) Q C1 e1 s1 i1 fun h2 D2 C2 t2 e2 o2 => ?_
      rw [nI_pred] at e2
      have s2 := s1'.t t2 (by omega)
      refine tm_iter C2 hm (by omega) e2 s2 (fun e => by omega) (fun e => by omega) (fun e => by omega) (fun _ => R_R C2.R C2.L.1 rfl (sm_top C2.1 e2 (sm_ph C2.1 (by omega) s2.2.1 ⟨fun _ => ⟨fun _ => ⟨fun y => absurd rfl y, fun _ => ⟨10, ?_⟩⟩, fun y => absurd y (by decide)⟩, fun y => absurd y (by decide)⟩)))
      rw [ix2, ix4]
      refine tm_g141 (by omega) 9 0 (hdW (nB N m) A.1) D2 h2 rfl C2 (w1.t t2 (by omega)) o2 fun h3 D3 C3 x3 t3 w3 => ⟨fun _ => ?_, fun y => absurd y (by decide)⟩
      rw [putW_0] at w3
      exact hc D3 h3 j Q 2 C3 (by rw [x3.1]; exact e2) (s2.x x3 (by omega)) ((o1.t t2 (by omega)).w (x3.2.2 _ (by omega))) w3 fun h4 D4 C4 t4 e4 o4 => hq h4 D4 C4 (((t1.tr (t2.mono (by omega))).tr t3).tr t4) e4 o4
  obtain ⟨ck, hk⟩ := key
  refine ⟨ck + ca + 1, fun D h j Q C ht sa hi hq => ?_⟩
  rw [show j + (ck + ca + 1) = ((j + ck) + ca) + 1 by omega]
  refine tm_iter C hm (by omega) ht sa (fun e => by omega) (fun e => by omega) (fun e => by omega) (fun _ => tm_g0 C hm (by omega) ht sa hi ok fun h1 D1 C1 t1 e1 s1a s1b i1 o1 w1 => ?_)
  rw [la.2] at s1a
  refine ha D1 h1 (j + ck) Q C1 e1 s1a i1 fun h2 D2 C2 t2 e2 o2 => ?_
  rw [nI_pred] at e2
  exact hk D2 h2 j Q C2 e2 (s1b.t t2 (by omega)) (o1.t t2 (by omega)) (w1.t t2 (by omega)) o2 fun h3 D3 C3 t3 e3 o3 => hq h3 D3 C3 ((t1.tr (t2.mono (by omega))).tr t3) e3 o3
/-- the model goes through its nodes as thrN says -/
theorem th_thr (hN : ∀ m, m < cnt → nOk N m) (h80 : cnt ≤ 80) : ∀ (k m d : Nat) (s : rS) (ρ : rD), m < k → m < cnt → m + d ≤ 80 → okS s → TH Y cnt N M n S (thrN N k m) m d s ρ
  | 0, m, d, s, ρ, hk, _, _, _ => absurd hk (Nat.not_lt_zero _)
  | k + 1, m, d, s, ρ, hk, hm, hd, ok => by
    have IH : ∀ c, c < m → ∀ s ρ, okS s → TH Y cnt N M n S (thrN N k c) c (d + 1) s ρ := fun c hc s ρ ok => th_thr hN h80 k c (d + 1) s ρ (by omega) (by omega) (by omega) ok
    have tk : ∀ c, c < m → tOk (c + 1) (thrN N k c) := fun c hc => thrN_ok hN h80 k c (by omega)
    show TH Y cnt N M n S (fun s ρ => leaveR m (findR N (thrN N k) m s (enterR m s ρ))) m d s ρ
    rcases hN m hm with ⟨s0, o⟩ | ⟨s1, oa, ob⟩ | ⟨s2, oa, ob, oc, od⟩ | ⟨s3, oa, ob, oc, od⟩
    · exact th_act hm (hN m hm) s0 hd ok
    · exact th_both hm h80 s1 oa ob hd ok tk IH
    · exact th_choice hm h80 s2 oa ob oc od hd ok IH
    · exact th_guard hm h80 s3 oa oc od hd ok tk IH
end TMH
