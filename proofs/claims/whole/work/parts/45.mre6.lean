section MY4
variable {Y d n : Nat} {q : rP} {S : sS} {D : sD} {h : aH}
theorem my_some2 (C : YX Y d q n S D h) (ok : okS q.1) {s : Nat} (hs : s < 12) {k : Nat} (hk : k < 10) {Z P : aH → Prop} (hz : ∀ h' D', YO Y d (pSome s (nI k) q) n S D' h' 0 → yOn Y d D D' → Z h') (hp : ∀ h' D', YX Y d (pSome s (nI k) q) n S D' h' → okS (pSome s (nI k) q).1 → yOn Y d D D' → P h') : wX11_mayAs h Y (nI d) (nI s) (nI k) (fun r h2 => (r = 0 → Z h2) ∧ (¬ r = 0 → isO h2 Y 9 (wX11_mayRow h2 Y (nI d) (nI s) (fun r2 h3 => (r2 = 0 → Z h3) ∧ (¬ r2 = 0 → P h3))))) := by
  refine my_mayAs C ok hs hk fun h1 D1 r C1 O1 => ⟨fun z => hz h1 D1 ?_ O1, fun z => ?_⟩
  · have := C1.no z
    rw [z] at C1
    exact C1.cg (pFor_z this)
  · obtain ⟨C1', ok1⟩ := C1.yes z
    refine R_O C1'.1 C1'.2.1.1 (my_mayRow C1' ok1 hs fun h2 D2 r2 C2 O2 => ⟨fun y => ?_, fun y => ?_⟩)
    · rw [y] at C2; exact hz h2 D2 C2 (O1.tr O2)
    · obtain ⟨C2', ok2⟩ := C2.yes y
      exact hp h2 D2 C2' ok2 (O1.tr O2)
theorem pAsk_z {w : Int32} {a : Nat} {x : Int32} {q : rP} (h : q.1 = rZ) : pAsk w a x q = q := by
  have e : (if w = 0 then q else pMust 4 q) = q := by
    split
    · rfl
    · unfold pMust; rw [h, jn_z, ← h]
  unfold pAsk
  rw [e, pMay_z h, pNew_z h]
theorem m1_i : ((-1 : Int) < 0) := by decide
theorem my_mayAct (C : YX Y d q n S D h) (ok : okS q.1) {m : Nat} (hm : m < 80) {op : Nat} {a b c dd : Int32} (e1 : D.2.1 (Y + 9) m = nI op) (e2 : D.2.1 (Y + 10) m = a) (e3 : D.2.1 (Y + 11) m = b) (e4 : D.2.1 (Y + 12) m = c) (e5 : D.2.1 (Y + 13) m = dd) (oo : actOk op a b c dd) {Q : Int32 → aH → Prop} (hq : ∀ h' D' r, YO Y d (fwP op a b c dd q) n S D' h' r → yOn Y d D D' → Q r h') : wX11_mayAct h Y (nI d) (nI m) Q := by
  obtain ⟨R, L, -⟩ := id C
  have hop : op < 18 := by
    rcases Nat.lt_or_ge op 18 with z | z
    · exact z
    · obtain ⟨e, rfl⟩ : ∃ e, op = e + 18 := ⟨op - 18, by omega⟩
      exact oo.elim
  have eo : (nI op).toInt = (op : Int) := nI_int (by omega)
  have vi : vp_in (nI m) 80 := vp_in_nI hm (by omega)
  have fin : ∀ (h' : aH) (D' : sD) (r : Int32), YO Y d (fwP op a b c dd q) n S D' h' r → yOn Y d D D' → oB r ∧ Q r h' := fun h' D' r C' O' => ⟨C'.B, hq h' D' r C' O'⟩
  refine R_R R L.1 rfl (R_aI R L.s10 vi (R_R R L.1 rfl (R_aI R L.s11 vi (R_R R L.1 rfl (R_aI R L.s12 vi (R_R R L.1 rfl (R_aI R L.s9 vi ?_)))))))
  rw [nI_clamp (by omega), e1, e2, e3, e4, eo]
  refine ⟨fun z => ?_, fun z => ?_, fun z => ?_, fun z => ?_, fun z => ?_, fun z => ?_, fun z => ?_, fun z => ?_, fun z => ?_, fun z => ?_, fun z => ?_, fun z => ?_, fun z => ?_, fun z => ?_, fun z => ?_, fun z => ?_, fun z => ?_, fun z => ?_⟩
  · have e : op = 17 := by omega
    subst e
    exact R_O R L.1 (my_mayFail (f := 7) C (by omega) fun h1 D1 C1 O1 => fin h1 D1 0 (C1.off (q' := pMust 7 q) rfl rfl) O1)
  · have e : op = 0 := by omega
    subst e
    obtain ⟨⟨s, hs, rfl⟩, hk⟩ := oo
    have hx : ¬ ((1 : Int32) <<< (b &&& 31)) = 0 ∧ ((1 : Int32) <<< (b &&& 31)) &&& 1023 = (1 : Int32) <<< (b &&& 31) := by
      rcases hk with rfl | rfl | rfl | rfl | rfl | rfl <;> decide
    simp only [fwP, tN_nI (show s < 2 ^ 31 by omega), ngB] at fin
    refine ⟨fun y => ?_, fun y => ?_⟩
    · rw [if_pos y] at fin; exact R_O R L.1 (my_mayNew C ok hs hx fin)
    · rw [if_neg y] at fin; exact R_O R L.1 (my_mayNew C ok hs hx fin)
  · have e : op = 1 := by omega
    subst e
    obtain ⟨s, hs, rfl⟩ := oo
    simp only [fwP, tN_nI (show s < 2 ^ 31 by omega), ngB] at fin
    have hx : ¬ (32 : Int32) = 0 ∧ (32 : Int32) &&& 1023 = 32 := by decide
    refine ⟨fun y => ?_, fun y => ⟨fun x => ?_, fun x => ?_⟩⟩
    · rw [if_pos y] at fin; exact R_O R L.1 (my_mayNew C ok hs hx fin)
    · rw [if_neg y, if_pos x] at fin; exact R_O R L.1 (my_mayNew C ok hs hx fin)
    · rw [if_neg y, if_neg x] at fin; exact R_O R L.1 (my_mayNew C ok hs hx fin)
  · have e : op = 2 := by omega
    subst e
    obtain ⟨s, hs, rfl⟩ := oo
    simp only [fwP, tN_nI (show s < 2 ^ 31 by omega), ngB] at fin
    have hx : ¬ (32 : Int32) = 0 ∧ (32 : Int32) &&& 1023 = 32 := by decide
    refine ⟨fun y => ?_, fun y => ?_⟩
    · rw [if_pos y] at fin; exact R_O R L.1 (my_mayNew C ok hs hx fin)
    · rw [if_neg y] at fin; exact R_O R L.1 (my_mayNew C ok hs hx fin)
  · have e : op = 3 := by omega
    subst e
    obtain ⟨s, hs, rfl⟩ := oo
    simp only [fwP, tN_nI (show s < 2 ^ 31 by omega)] at fin
    refine ⟨fun y => ?_, fun y => ?_⟩
    · rw [if_neg y] at fin; exact R_O R L.1 (my_mayNew C ok hs (by decide) fin)
    · rw [if_pos y] at fin; exact R_O R L.1 (my_mayNew C ok hs (by decide) fin)
  · have e : op = 4 := by omega
    subst e
    obtain ⟨⟨s, hs, rfl⟩, ⟨t, ht, rfl⟩, ⟨k, hk, rfl⟩⟩ := oo
    simp only [fwP, tN_nI (show s < 2 ^ 31 by omega), tN_nI (show t < 2 ^ 31 by omega), pMove] at fin
    have k220 : ∀ (q1 : rP) (D1 : sD) (h1 : aH), YX Y d q1 n S D1 h1 → okS q1.1 → yOn Y d D D1 → (∀ h' D' r, YO Y d (pNew s (q1.1 t) q1) n S D' h' r → yOn Y d D D' → oB r ∧ Q r h') → wbX11_mayAct_220 Y (nI s) (nI t) 1 h1 Q := by
      intro q1 D1 h1 C1 ok1 O1 f1
      refine R_R C1.1 C1.2.1.1 rfl (R_R C1.1 C1.2.1.1 rfl (my_now C1 ht (my_setNow C1 hs fun h2 D2 C2 O2 => f1 h2 D2 1 ?_ (O1.tr O2))))
      have : pNew s (q1.1 t) q1 = (upd q1.1 s (q1.1 t), q1.2) := by unfold pNew; rw [if_neg (ok1 0).1]
      rw [this]
      exact C2.on (ok1.up (ok1 t).1 (ok1 t).2)
    refine ⟨fun y => ?_, fun y => R_O R L.1 (my_mayAs C ok ht hk fun h1 D1 r C1 O1 => ⟨fun x => ?_, fun x => ?_⟩)⟩
    · rw [if_pos y] at fin
      exact k220 q D h C ok yOn.rf fin
    · rw [if_neg y] at fin
      have zz := C1.no x
      refine R_R C1.1 C1.2.1.1 rfl (R_R C1.1 C1.2.1.1 rfl (R_aI C1.1 C1.2.1.s29 (vp_in_nI ht (by omega)) (R_sI C1.1 C1.2.1.s29 (vp_in_nI hs (by omega)) fun h2 R2 => ?_)))
      have x2 : yOn Y d D1 (uF D1 (Y + 29) (upd (D1.2.1 (Y + 29)) (nI s).toNatClampNeg (D1.2.1 (Y + 29) (nI t).toNatClampNeg))) := yOn.now
      have o2 : ∀ f, f < 9 → ∀ i, i < 12 → (uF D1 (Y + 29) (upd (D1.2.1 (Y + 29)) (nI s).toNatClampNeg (D1.2.1 (Y + 29) (nI t).toNatClampNeg))).2.1 (Y + 26) (108 * d + 12 * f + i) = (pAs t (nI k) q).2 f i := fun f hf i hi => by
        rw [uF_ne (by omega)]; exact C1.2.2.1 f hf i hi
      generalize uF D1 (Y + 29) (upd (D1.2.1 (Y + 29)) (nI s).toNatClampNeg (D1.2.1 (Y + 29) (nI t).toNatClampNeg)) = D2 at R2 x2 o2
      have y2 : YO Y d (pNew s ((pAs t (nI k) q).1 t) (pAs t (nI k) q)) n S D2 h2 0 := by
        rw [pNew_z zz]
        exact ⟨R2, C1.2.1, o2, C1.2.2.2.1, Or.inr ⟨rfl, zz⟩⟩
      exact fin h2 D2 0 y2 (O1.tr x2)
    · rw [if_neg y] at fin
      obtain ⟨C1', ok1⟩ := C1.yes x
      exact k220 _ D1 h1 C1' ok1 O1 fin
  · have e : op = 5 := by omega
    subst e
    obtain ⟨-, ⟨t, ht, rfl⟩, k, hk1, hk4, rfl⟩ := oo
    simp only [fwP, tN_nI (show t < 2 ^ 31 by omega)] at fin
    exact R_O R L.1 (my_mayItem C ok ht (by omega) fin)
  · have e : op = 6 := by omega
    subst e
    obtain ⟨⟨s, hs, rfl⟩, ⟨k, hk1, hk4, rfl⟩, -⟩ := oo
    simp only [fwP, tN_nI (show s < 2 ^ 31 by omega)] at fin
    exact R_O R L.1 (my_mayItem C ok hs (by omega) fin)
  · have e : op = 7 := by omega
    subst e
    obtain ⟨⟨s, hs, rfl⟩, ⟨t, ht, rfl⟩, k, hk1, hk4, rfl⟩ := oo
    simp only [fwP, tN_nI (show s < 2 ^ 31 by omega), tN_nI (show t < 2 ^ 31 by omega)] at fin
    exact R_O R L.1 (my_mayTake C ok hs ht (by omega) fin)
  · have e : op = 8 := by omega
    subst e
    obtain ⟨⟨s, hs, rfl⟩, ⟨k, hk1, hk4, rfl⟩, ⟨t, ht, rfl⟩⟩ := oo
    simp only [fwP, tN_nI (show s < 2 ^ 31 by omega), tN_nI (show t < 2 ^ 31 by omega)] at fin
    refine R_R R L.1 rfl (R_aI R L.s13 vi ?_)
    rw [nI_clamp (by omega), e5]
    exact R_O R L.1 (my_mayLay C ok hs ht hk1 hk4 fin)
  · have e : op = 9 := by omega
    subst e
    obtain ⟨-, ⟨t, ht, rfl⟩, k, hk1, hk4, rfl⟩ := oo
    simp only [fwP, tN_nI (show t < 2 ^ 31 by omega)] at fin
    exact R_O R L.1 (my_some2 C ok ht (by omega) (fun h1 D1 C1 O1 => fin h1 D1 0 C1 O1) (fun h1 D1 C1 ok1 O1 => fin h1 D1 1 (C1.on ok1) O1))
  · have e : op = 10 := by omega
    subst e
    obtain ⟨⟨s, hs, rfl⟩, ⟨t, ht, rfl⟩⟩ := oo
    simp only [fwP, tN_nI (show s < 2 ^ 31 by omega), tN_nI (show t < 2 ^ 31 by omega)] at fin
    refine R_O R L.1 (my_some2 (k := 1) C ok ht (by omega) (fun h1 D1 C1 O1 => fin h1 D1 0 ?_ O1) (fun h1 D1 C1 ok1 O1 => R_O C1.1 C1.2.1.1 (my_mayNew (w := 0) C1 ok1 hs (by decide) fun h2 D2 r2 C2 O2 => ⟨fun y => ?_, fun y => ?_⟩)))
    · exact C1.cg (pAsk_z (C1.no rfl))
    · rw [y] at C2; exact fin h2 D2 0 C2 (O1.tr O2)
    · rw [C2.B.resolve_left y] at C2; exact fin h2 D2 1 C2 (O1.tr O2)
  · have e : op = 11 := by omega
    subst e
    obtain ⟨-, ⟨t, ht, rfl⟩⟩ := oo
    simp only [fwP, tN_nI (show t < 2 ^ 31 by omega)] at fin
    exact R_O R L.1 (my_some2 (k := 8) C ok ht (by omega) (fun h1 D1 C1 O1 => fin h1 D1 0 C1 O1) (fun h1 D1 C1 ok1 O1 => fin h1 D1 1 (C1.on ok1) O1))
  · have e : op = 12 := by omega
    subst e
    obtain ⟨⟨s, hs, rfl⟩, ⟨t, ht, rfl⟩⟩ := oo
    simp only [fwP, tN_nI (show s < 2 ^ 31 by omega), tN_nI (show t < 2 ^ 31 by omega)] at fin
    exact R_O R L.1 (my_mayCopy C ok hs ht fin)
  · have e : op = 13 := by omega
    subst e
    exact fin h D 1 (C.on ok) yOn.rf
  · have e : op = 14 := by omega
    subst e
    exact fin h D 1 (C.on ok) yOn.rf
  · have e : op = 15 := by omega
    subst e
    exact R_O R L.1 (my_mayFail (f := 6) C (by omega) fun h1 D1 C1 O1 => fin h1 D1 1 (C1.on (q := pMay 6 q) ok) O1)
  · have e : op = 16 := by omega
    subst e
    exact R_O R L.1 (my_mayFail (f := 6) C (by omega) fun h1 D1 C1 O1 => fin h1 D1 1 (C1.on (q := pMay 6 q) ok) O1)
end MY4
