/-! the law: call by call -/
def IV (X cnt : Nat) (P : Nat → Nat) (N : nT) (M : mT) (ρ : rD) (gs : rS) (n : Nat) (S : sS) (D : sD) (h : aH) : Prop := CI X cnt P N M ρ gs n S D h ∧ MI (X + 12) cnt N M ρ gs n S D h ∧ rOk cnt ρ
def IVs (X : Nat) (h : aH) : Prop := ∃ cnt P N M ρ gs n S D, IV X cnt P N M ρ gs n S D h
theorem IV.s {X cnt : Nat} {P : Nat → Nat} {N : nT} {M : mT} {ρ : rD} {gs : rS} {n : Nat} {S : sS} {D : sD} {h : aH} (I : IV X cnt P N M ρ gs n S D h) : IVs X h := ⟨cnt, P, N, M, ρ, gs, n, S, D, I⟩
section LAW
variable {X : Nat} {h : aH} {K B : aH → Prop}
theorem eqc {r : Int32} {A B : Prop} (a : A) : (r = r → A) ∧ (¬ r = r → B) := ⟨fun _ => a, fun w => absurd rfl w⟩
theorem lw_act (I : IVs X h) (nx : ∀ h, IVs X h → K h) {a b c d e : Int32} {G : (Int32 → Int32 → Int32 → Int32 → Int32 → Prop) → Prop} (hG : ∀ F : Int32 → Int32 → Int32 → Int32 → Int32 → Prop, F a b c d e → G F) : isO h X 8 (wX10_act h X a b c d e (fun r h7 => G (fun a b c d e => isO h7 (X + 12) 9 (wX11_act h7 (X + 12) a b c d e (fun r' h14 => (r = r' → K h14) ∧ (¬ r = r' → B h14)))))) := by
  obtain ⟨cnt, P, N, M, ρ, gs, n, S, D, I⟩ := I
  obtain ⟨C, Mi, hr⟩ := id I
  refine R_O C.R C.s0 (cc_act C hr (fun nok => hG _ (R_O Mi.R Mi.L.1 (mm_act Mi hr (fun _ => eqc (nx _ I.s)) (fun ok _ => absurd ok nok) (fun o eo ao _ => absurd ⟨o, eo, ao⟩ nok)))) (fun ok c80 => hG _ (R_O Mi.R Mi.L.1 (mm_act Mi hr (fun nok => absurd ok nok) (fun _ _ => eqc (nx _ I.s)) (fun o eo ao lt => by omega)))) (fun o eo ao lt n' S' D' h' C' O' => hG _ ?_))
  have Mi' := Mi.cg C'.R O'
  refine R_O Mi'.R Mi'.L.1 (mm_act Mi' hr (fun nok => absurd ⟨o, eo, ao⟩ nok) (fun _ c80 => by omega) (fun o' eo' ao' _ D'' h'' M'' O'' => ?_))
  have eq : o' = o := by
    have l1 := actOk_18 ao
    have l2 := actOk_18 ao'
    exact (nI_eq (by omega) (by omega)).mp (eo'.symm.trans eo)
  subst eq
  exact eqc (nx _ (IV.s ⟨C'.cg M''.R O'', M'', hr.up⟩))
theorem lw_both (I : IVs X h) (nx : ∀ h, IVs X h → K h) {a b : Int32} {G : (Int32 → Int32 → Prop) → Prop} (hG : ∀ F : Int32 → Int32 → Prop, F a b → G F) : isO h X 8 (wX10_both h X a b (fun r h7 => G (fun a b => isO h7 (X + 12) 9 (wX11_both h7 (X + 12) a b (fun r' h14 => (r = r' → K h14) ∧ (¬ r = r' → B h14)))))) := by
  obtain ⟨cnt, P, N, M, ρ, gs, n, S, D, I⟩ := I
  obtain ⟨C, Mi, hr⟩ := id I
  have c80 := C.c80
  refine R_O C.R C.s0 (cc_both C hr (fun nok => hG _ (R_O Mi.R Mi.L.1 (mm_both Mi hr (fun _ => eqc (nx _ I.s)) (fun sa sb ha hb ea eb _ => absurd ⟨⟨sa, ha, ea⟩, ⟨sb, hb, eb⟩⟩ nok) (fun sa sb ha hb ea eb _ _ => absurd ⟨⟨sa, ha, ea⟩, ⟨sb, hb, eb⟩⟩ nok)))) (fun sa sb ha hb ea eb z => hG _ (R_O Mi.R Mi.L.1 (mm_both Mi hr (fun nok => absurd ⟨⟨sa, ha, ea⟩, ⟨sb, hb, eb⟩⟩ nok) (fun _ _ _ _ _ _ _ => eqc (nx _ I.s)) (fun sa' sb' ha' hb' ea' eb' lt le => ?_)))) (fun sa sb ha hb ea eb lt le n' S' D' h' C' O' => hG _ ?_))
  · have e1 : sa' = sa := (nI_eq (by omega) (by omega)).mp (ea'.symm.trans ea)
    have e2 : sb' = sb := (nI_eq (by omega) (by omega)).mp (eb'.symm.trans eb)
    subst e1 e2
    exact absurd z (fun q => q.elim (by omega) (fun q => q le))
  · have Mi' := Mi.cg C'.R O'
    refine R_O Mi'.R Mi'.L.1 (mm_both Mi' hr (fun nok => absurd ⟨⟨sa, ha, ea⟩, ⟨sb, hb, eb⟩⟩ nok) (fun sa' sb' ha' hb' ea' eb' z => ?_) (fun sa' sb' ha' hb' ea' eb' _ _ D'' h'' M'' O'' => ?_))
    · have e1 : sa' = sa := (nI_eq (by omega) (by omega)).mp (ea'.symm.trans ea)
      have e2 : sb' = sb := (nI_eq (by omega) (by omega)).mp (eb'.symm.trans eb)
      subst e1 e2
      exact absurd z (fun q => q.elim (by omega) (fun q => q le))
    · have e1 : sa' = sa := (nI_eq (by omega) (by omega)).mp (ea'.symm.trans ea)
      have e2 : sb' = sb := (nI_eq (by omega) (by omega)).mp (eb'.symm.trans eb)
      subst e1 e2
      exact eqc (nx _ (IV.s ⟨C'.cg M''.R O'', M'', hr.up⟩))
theorem lw_choice (I : IVs X h) (nx : ∀ h, IVs X h → K h) {x k a b : Int32} {G : (Int32 → Int32 → Int32 → Int32 → Prop) → Prop} (hG : ∀ F : Int32 → Int32 → Int32 → Int32 → Prop, F x k a b → G F) : isO h X 8 (wX10_choice h X x k a b (fun r h7 => G (fun x k a b => isO h7 (X + 12) 9 (wX11_choice h7 (X + 12) x k a b (fun r' h14 => (r = r' → K h14) ∧ (¬ r = r' → B h14)))))) := by
  obtain ⟨cnt, P, N, M, ρ, gs, n, S, D, I⟩ := I
  obtain ⟨C, Mi, hr⟩ := id I
  have c80 := C.c80
  refine R_O C.R C.s0 (cc_choice C hr (fun nok => hG _ (R_O Mi.R Mi.L.1 (mm_choice Mi hr (fun _ => eqc (nx _ I.s)) (fun sa sb ha hb ea eb nx' nk _ => absurd ⟨nx', nk, ⟨sa, ha, ea⟩, ⟨sb, hb, eb⟩⟩ nok) (fun sa sb ha hb ea eb nx' nk _ _ => absurd ⟨nx', nk, ⟨sa, ha, ea⟩, ⟨sb, hb, eb⟩⟩ nok)))) (fun sa sb ha hb ea eb nx' nk z => hG _ (R_O Mi.R Mi.L.1 (mm_choice Mi hr (fun nok => absurd ⟨nx', nk, ⟨sa, ha, ea⟩, ⟨sb, hb, eb⟩⟩ nok) (fun _ _ _ _ _ _ _ _ _ => eqc (nx _ I.s)) (fun sa' sb' ha' hb' ea' eb' _ _ lt le => ?_)))) (fun sa sb ha hb ea eb nx' nk lt le n' S' D' h' C' O' => hG _ ?_))
  · have e1 : sa' = sa := (nI_eq (by omega) (by omega)).mp (ea'.symm.trans ea)
    have e2 : sb' = sb := (nI_eq (by omega) (by omega)).mp (eb'.symm.trans eb)
    subst e1 e2
    exact absurd z (fun q => q.elim (by omega) (fun q => q le))
  · have Mi' := Mi.cg C'.R O'
    refine R_O Mi'.R Mi'.L.1 (mm_choice Mi' hr (fun nok => absurd ⟨nx', nk, ⟨sa, ha, ea⟩, ⟨sb, hb, eb⟩⟩ nok) (fun sa' sb' ha' hb' ea' eb' _ _ z => ?_) (fun sa' sb' ha' hb' ea' eb' _ _ _ _ D'' h'' M'' O'' => ?_))
    · have e1 : sa' = sa := (nI_eq (by omega) (by omega)).mp (ea'.symm.trans ea)
      have e2 : sb' = sb := (nI_eq (by omega) (by omega)).mp (eb'.symm.trans eb)
      subst e1 e2
      exact absurd z (fun q => q.elim (by omega) (fun q => q le))
    · have e1 : sa' = sa := (nI_eq (by omega) (by omega)).mp (ea'.symm.trans ea)
      have e2 : sb' = sb := (nI_eq (by omega) (by omega)).mp (eb'.symm.trans eb)
      subst e1 e2
      exact eqc (nx _ (IV.s ⟨C'.cg M''.R O'', M'', hr.up⟩))
theorem lw_guard (I : IVs X h) (nx : ∀ h, IVs X h → K h) {a b c d : Int32} {G : (Int32 → Int32 → Int32 → Int32 → Prop) → Prop} (hG : ∀ F : Int32 → Int32 → Int32 → Int32 → Prop, F a b c d → G F) : isO h X 8 (wX10_guard h X a b c d (fun r h7 => G (fun a b c d => isO h7 (X + 12) 9 (wX11_guard h7 (X + 12) a b c d (fun r' h14 => (r = r' → K h14) ∧ (¬ r = r' → B h14)))))) := by
  obtain ⟨cnt, P, N, M, ρ, gs, n, S, D, I⟩ := I
  obtain ⟨C, Mi, hr⟩ := id I
  have c80 := C.c80
  refine R_O C.R C.s0 (cc_guard C hr (fun nok => hG _ (R_O Mi.R Mi.L.1 (mm_guard Mi hr (fun _ => eqc (nx _ I.s)) (fun sa ha ea nc nd _ => absurd ⟨⟨sa, ha, ea⟩, nc, nd⟩ nok) (fun sa ha ea nc nd _ _ => absurd ⟨⟨sa, ha, ea⟩, nc, nd⟩ nok)))) (fun sa ha ea nc nd z => hG _ (R_O Mi.R Mi.L.1 (mm_guard Mi hr (fun nok => absurd ⟨⟨sa, ha, ea⟩, nc, nd⟩ nok) (fun _ _ _ _ _ _ => eqc (nx _ I.s)) (fun sa' ha' ea' _ _ lt le => ?_)))) (fun sa ha ea nc nd lt le n' S' D' h' C' O' => hG _ ?_))
  · have e1 : sa' = sa := (nI_eq (by omega) (by omega)).mp (ea'.symm.trans ea)
    subst e1
    exact absurd z (fun q => q.elim (by omega) (fun q => q le))
  · have Mi' := Mi.cg C'.R O'
    refine R_O Mi'.R Mi'.L.1 (mm_guard Mi' hr (fun nok => absurd ⟨⟨sa, ha, ea⟩, nc, nd⟩ nok) (fun sa' ha' ea' _ _ z => ?_) (fun sa' ha' ea' _ _ _ _ D'' h'' M'' O'' => ?_))
    · have e1 : sa' = sa := (nI_eq (by omega) (by omega)).mp (ea'.symm.trans ea)
      subst e1
      exact absurd z (fun q => q.elim (by omega) (fun q => q le))
    · have e1 : sa' = sa := (nI_eq (by omega) (by omega)).mp (ea'.symm.trans ea)
      subst e1
      exact eqc (nx _ (IV.s ⟨C'.cg M''.R O'', M'', hr.up⟩))
theorem lw_forget (I : IVs X h) (nx : ∀ h, IVs X h → K h) : isO h X 8 (wX10_forget h X (fun r h7 => isO h7 (X + 12) 9 (wX11_forget h7 (X + 12) (fun r' h14 => (r = r' → K h14) ∧ (¬ r = r' → B h14))))) := by
  obtain ⟨cnt, P, N, M, ρ, gs, n, S, D, I⟩ := I
  obtain ⟨C, Mi, hr⟩ := id I
  refine R_O C.R C.s0 (cc_forget C fun h' D' C' O' => ?_)
  have Mi' := Mi.cg C'.R O'
  exact R_O Mi'.R Mi'.L.1 (mm_forget Mi' fun h'' D'' M'' O'' => eqc (nx _ (IV.s ⟨C'.cg M''.R O'', M'', rOk_0⟩)))
theorem lw_run (I : IVs X h) (nx : ∀ h, IVs X h → K h) {a : Int32} {G : (Int32 → Prop) → Prop} (hG : ∀ F : Int32 → Prop, F a → G F) : isO h X 8 (wX10_run (RdN 85) h X a (fun r h7 => G (fun a => isO h7 (X + 12) 9 (wX11_run h7 (X + 12) a (fun r' h14 => (r = r' → K h14) ∧ (¬ r = r' → B h14)))))) := by
  obtain ⟨cnt, P, N, M, ρ, gs, n, S, D, I⟩ := I
  obtain ⟨C, Mi, hr⟩ := id I
  have c80 := C.c80
  refine R_O C.R C.s0 (cc_run C (fun nok => hG _ (R_O Mi.R Mi.L.1 (mm_run Mi (fun _ => eqc (nx _ I.s)) (fun s hs e => absurd ⟨s, hs, e⟩ nok)))) (fun s hs e h' D' C' O' => hG _ ?_))
  have Mi' := Mi.cg C'.R O'
  refine R_O Mi'.R Mi'.L.1 (mm_run Mi' (fun nok => absurd ⟨s, hs, e⟩ nok) (fun s' hs' e' h'' D'' M'' O'' => ?_))
  have e1 : s' = s := (nI_eq (by omega) (by omega)).mp (e'.symm.trans e)
  subst e1
  exact eqc (nx _ (IV.s ⟨C'.cg M''.R O'', M'', hr⟩))
theorem lw_ran (I : IVs X h) (nx : ∀ h, IVs X h → K h) {a : Int32} {G : (Int32 → Prop) → Prop} (hG : ∀ F : Int32 → Prop, F a → G F) : isO h X 8 (wX10_ran h X a (fun r h7 => G (fun a => isO h7 (X + 12) 9 (wX11_ran h7 (X + 12) a (fun r' h14 => (r = r' → K h14) ∧ (¬ r = r' → B h14)))))) := by
  obtain ⟨cnt, P, N, M, ρ, gs, n, S, D, I⟩ := I
  obtain ⟨C, Mi, hr⟩ := id I
  exact R_O C.R C.s0 (cc_ran C (hG _ (R_O Mi.R Mi.L.1 (mm_ran Mi (eqc (nx _ I.s))))))
theorem lw_clear (I : IVs X h) (nx : ∀ h, IVs X h → K h) : isO h X 8 (wX10_clear h X (fun r h7 => isO h7 (X + 12) 9 (wX11_clear h7 (X + 12) (fun r' h14 => (r = r' → K h14) ∧ (¬ r = r' → B h14))))) := by
  obtain ⟨cnt, P, N, M, ρ, gs, n, S, D, I⟩ := I
  obtain ⟨C, Mi, hr⟩ := id I
  refine R_O C.R C.s0 (cc_clear C fun h' D' C' O' => ?_)
  have Mi' := Mi.cg C'.R O'
  exact R_O Mi'.R Mi'.L.1 (mm_clear Mi' fun h'' D'' M'' O'' => eqc (nx _ (IV.s ⟨C'.cg M''.R O'', M'', hr⟩)))
theorem lw_count (I : IVs X h) (nx : ∀ h, IVs X h → K h) {a : Int32} {G : (Int32 → Prop) → Prop} (hG : ∀ F : Int32 → Prop, F a → G F) : isO h X 8 (wX10_count h X a (fun r h7 => G (fun a => isO h7 (X + 12) 9 (wX11_count h7 (X + 12) a (fun r' h14 => (r = r' → K h14) ∧ (¬ r = r' → B h14)))))) := by
  obtain ⟨cnt, P, N, M, ρ, gs, n, S, D, I⟩ := I
  obtain ⟨C, Mi, hr⟩ := id I
  exact R_O C.R C.s0 (cc_count C (hG _ (R_O Mi.R Mi.L.1 (mm_count Mi (eqc (nx _ I.s))))))
theorem lw_slot (I : IVs X h) (nx : ∀ h, IVs X h → K h) {a b : Int32} {G : (Int32 → Int32 → Prop) → Prop} (hG : ∀ F : Int32 → Int32 → Prop, F a b → G F) : isO h X 8 (wX10_slot h X a b (fun r h7 => G (fun a b => isO h7 (X + 12) 9 (wX11_slot h7 (X + 12) a b (fun r' h14 => (r = r' → K h14) ∧ (¬ r = r' → B h14)))))) := by
  obtain ⟨cnt, P, N, M, ρ, gs, n, S, D, I⟩ := I
  obtain ⟨C, Mi, hr⟩ := id I
  refine R_O C.R C.s0 (cc_slot C (fun nok => hG _ (R_O Mi.R Mi.L.1 (mm_slot Mi (fun _ => eqc (nx _ I.s)) (fun s hs e => absurd ⟨s, hs, e⟩ nok)))) (fun s hs e => hG _ (R_O Mi.R Mi.L.1 (mm_slot Mi (fun nok => absurd ⟨s, hs, e⟩ nok) (fun s' hs' e' => ?_)))))
  have e1 : s' = s := (nI_eq (by omega) (by omega)).mp (e'.symm.trans e)
  subst e1
  exact eqc (nx _ I.s)
theorem lw_item (I : IVs X h) (nx : ∀ h, IVs X h → K h) {a b : Int32} {G : (Int32 → Int32 → Prop) → Prop} (hG : ∀ F : Int32 → Int32 → Prop, F a b → G F) : isO h X 8 (wX10_item h X a b (fun r h7 => G (fun a b => isO h7 (X + 12) 9 (wX11_item h7 (X + 12) a b (fun r' h14 => (lg_cmp r r' = 0 → K h14) ∧ (¬ lg_cmp r r' = 0 → B h14)))))) := by
  obtain ⟨cnt, P, N, M, ρ, gs, n, S, D, I⟩ := I
  obtain ⟨C, Mi, hr⟩ := id I
  have fin : ∀ r : Int64, (lg_cmp r r = 0 → K h) ∧ (¬ lg_cmp r r = 0 → B h) := fun r => ⟨fun _ => nx _ I.s, fun w => absurd (lg_eq.mpr rfl) w⟩
  refine R_O C.R C.s0 (cc_item C (fun nok => hG _ (R_O Mi.R Mi.L.1 (mm_item Mi (fun _ => fin _) (fun s hs e => absurd ⟨s, hs, e⟩ nok)))) (fun s hs e => hG _ (R_O Mi.R Mi.L.1 (mm_item Mi (fun nok => absurd ⟨s, hs, e⟩ nok) (fun s' hs' e' => ?_)))))
  have e1 : s' = s := (nI_eq (by omega) (by omega)).mp (e'.symm.trans e)
  subst e1
  exact fin _
theorem lw_register (I : IVs X h) (nx : ∀ h, IVs X h → K h) {a : Int32} {G : (Int32 → Prop) → Prop} (hG : ∀ F : Int32 → Prop, F a → G F) : isO h X 8 (wX10_register h X a (fun r h7 => G (fun a => isO h7 (X + 12) 9 (wX11_register h7 (X + 12) a (fun r' h14 => (lg_cmp r r' = 0 → K h14) ∧ (¬ lg_cmp r r' = 0 → B h14)))))) := by
  obtain ⟨cnt, P, N, M, ρ, gs, n, S, D, I⟩ := I
  obtain ⟨C, Mi, hr⟩ := id I
  have fin : ∀ r : Int64, (lg_cmp r r = 0 → K h) ∧ (¬ lg_cmp r r = 0 → B h) := fun r => ⟨fun _ => nx _ I.s, fun w => absurd (lg_eq.mpr rfl) w⟩
  refine R_O C.R C.s0 (cc_register C (fun nok => hG _ (R_O Mi.R Mi.L.1 (mm_register Mi (fun _ => fin _) (fun s hs e => absurd ⟨s, hs, e⟩ nok)))) (fun s hs e => hG _ (R_O Mi.R Mi.L.1 (mm_register Mi (fun nok => absurd ⟨s, hs, e⟩ nok) (fun s' hs' e' => ?_)))))
  have e1 : s' = s := (nI_eq (by omega) (by omega)).mp (e'.symm.trans e)
  subst e1
  exact fin _
theorem lw_alike (I : IVs X h) (nx : ∀ h, IVs X h → K h) {a b : Int32} {G : (Int32 → Int32 → Prop) → Prop} (hG : ∀ F : Int32 → Int32 → Prop, F a b → G F) : isO h X 8 (wX10_alike h X a b (fun r h7 => G (fun a b => isO h7 (X + 12) 9 (wX11_alike h7 (X + 12) a b (fun r' h14 => (r = r' → K h14) ∧ (¬ r = r' → B h14)))))) := by
  obtain ⟨cnt, P, N, M, ρ, gs, n, S, D, I⟩ := I
  obtain ⟨C, Mi, hr⟩ := id I
  refine R_O C.R C.s0 (cc_alike C (fun nok => hG _ (R_O Mi.R Mi.L.1 (mm_alike Mi (fun _ => eqc (nx _ I.s)) (fun s s' hs hs' e e' _ _ => absurd ⟨⟨s, hs, e⟩, ⟨s', hs', e'⟩⟩ nok)))) (fun s t hs ht e et r hr' => hG _ (R_O Mi.R Mi.L.1 (mm_alike Mi (fun nok => absurd ⟨⟨s, hs, e⟩, ⟨t, ht, et⟩⟩ nok) (fun s' t' hs' ht' e' et' r' hr'' => ?_)))))
  have e1 : s' = s := (nI_eq (by omega) (by omega)).mp (e'.symm.trans e)
  have e2 : t' = t := (nI_eq (by omega) (by omega)).mp (et'.symm.trans et)
  subst e1 e2
  have := alA_u hr' hr''
  subst this
  exact eqc (nx _ I.s)
theorem lw_given (I : IVs X h) (nx : ∀ h, IVs X h → K h) {a b : Int32} {G : (Int32 → Int32 → Prop) → Prop} (hG : ∀ F : Int32 → Int32 → Prop, F a b → G F) : isO h X 8 (wX10_given h X a b (fun r h7 => G (fun a b => isO h7 (X + 12) 9 (wX11_given h7 (X + 12) a b (fun r' h14 => (r = r' → K h14) ∧ (¬ r = r' → B h14)))))) := by
  obtain ⟨cnt, P, N, M, ρ, gs, n, S, D, I⟩ := I
  obtain ⟨C, Mi, hr⟩ := id I
  refine R_O C.R C.s0 (cc_given C (fun nok => hG _ (R_O Mi.R Mi.L.1 (mm_given Mi (fun _ => eqc (nx _ I.s)) (fun s hs e g1 g2 => absurd ⟨⟨s, hs, e⟩, g1, g2⟩ nok)))) (fun s hs e g1 g2 h' D' C' O' => hG _ ?_))
  have Mi' := Mi.cg C'.R O'
  refine R_O Mi'.R Mi'.L.1 (mm_given Mi' (fun nok => absurd ⟨⟨s, hs, e⟩, g1, g2⟩ nok) (fun s' hs' e' _ _ h'' D'' M'' O'' => ?_))
  have e1 : s' = s := (nI_eq (by omega) (by omega)).mp (e'.symm.trans e)
  subst e1
  exact eqc (nx _ (IV.s ⟨C'.cg M''.R O'', M'', hr⟩))
theorem CI.okg {X cnt : Nat} {P : Nat → Nat} {N : nT} {M : mT} {ρ : rD} {gs : rS} {n : Nat} {S : sS} {D : sD} {h : aH} (C : CI X cnt P N M ρ gs n S D h) : okS gs := C.2.2.2.2.2.2.2.2.2.2.1
theorem lw_report (I : IVs X h) (nx : ∀ h, IVs X h → K h) {a : Int32} {G : (Int32 → Prop) → Prop} (hG : ∀ F : Int32 → Prop, F a → G F) : isO h X 8 (wX10_report (RfN 85) h X a (fun r h7 => G (fun a => isO h7 (X + 12) 9 (wX11_report h7 (X + 12) a (fun r' h14 => (r = r' → K h14) ∧ (¬ r = r' → B h14)))))) := by
  obtain ⟨cnt, P, N, M, ρ, gs, n, S, D, I⟩ := I
  obtain ⟨C, Mi, hr⟩ := id I
  have c80 := C.c80
  have hN : ∀ m, m < cnt → nOk N m := fun m hm => (C.W m hm).1
  refine R_O C.R C.s0 (cc_report C (fun nok => hG _ (R_O Mi.R Mi.L.1 (mm_report Mi C.okg (fun _ => eqc (nx _ I.s)) (fun s hs e => absurd ⟨s, hs, e⟩ nok)))) (fun s hs e h' D' C' O' => hG _ ?_))
  have Mi' := Mi.cg C'.R O'
  refine R_O Mi'.R Mi'.L.1 (mm_report Mi' C.okg (fun nok => absurd ⟨s, hs, e⟩ nok) (fun s' hs' e' h'' D'' M'' O'' => ?_))
  have e1 : s' = s := (nI_eq (by omega) (by omega)).mp (e'.symm.trans e)
  subst e1
  exact eqc (nx _ (IV.s ⟨C'.cg M''.R O'', M'', thr_rOk hN c80 hs C.okg⟩))
theorem lw_reached (I : IVs X h) (nx : ∀ h, IVs X h → K h) {a : Int32} {G : (Int32 → Prop) → Prop} (hG : ∀ F : Int32 → Prop, F a → G F) : isO h X 8 (wX10_reached h X a (fun r h7 => G (fun a => isO h7 (X + 12) 9 (wX11_reached h7 (X + 12) a (fun r' h14 => (r = r' → K h14) ∧ (¬ r = r' → B h14)))))) := by
  obtain ⟨cnt, P, N, M, ρ, gs, n, S, D, I⟩ := I
  obtain ⟨C, Mi, hr⟩ := id I
  have c80 := C.c80
  refine R_O C.R C.s0 (cc_reached C (fun nok => hG _ (R_O Mi.R Mi.L.1 (mm_reached Mi (fun _ => eqc (nx _ I.s)) (fun s hs e => absurd ⟨s, hs, e⟩ nok)))) (fun s hs e => hG _ (R_O Mi.R Mi.L.1 (mm_reached Mi (fun nok => absurd ⟨s, hs, e⟩ nok) (fun s' hs' e' => ?_)))))
  have e1 : s' = s := (nI_eq (by omega) (by omega)).mp (e'.symm.trans e)
  subst e1
  exact eqc (nx _ I.s)
theorem lw_may (I : IVs X h) (nx : ∀ h, IVs X h → K h) {a : Int32} {G : (Int32 → Prop) → Prop} (hG : ∀ F : Int32 → Prop, F a → G F) : isO h X 8 (wX10_may h X a (fun r h7 => G (fun a => isO h7 (X + 12) 9 (wX11_may h7 (X + 12) a (fun r' h14 => (r = r' → K h14) ∧ (¬ r = r' → B h14)))))) := by
  obtain ⟨cnt, P, N, M, ρ, gs, n, S, D, I⟩ := I
  obtain ⟨C, Mi, hr⟩ := id I
  have c80 := C.c80
  refine R_O C.R C.s0 (cc_may C (fun nok => hG _ (R_O Mi.R Mi.L.1 (mm_may Mi hr (fun _ => eqc (nx _ I.s)) (fun s hs e => absurd ⟨s, hs, e⟩ nok)))) (fun s hs e => hG _ (R_O Mi.R Mi.L.1 (mm_may Mi hr (fun nok => absurd ⟨s, hs, e⟩ nok) (fun s' hs' e' => ?_)))))
  have e1 : s' = s := (nI_eq (by omega) (by omega)).mp (e'.symm.trans e)
  subst e1
  exact eqc (nx _ I.s)
theorem lw_ahead (I : IVs X h) (nx : ∀ h, IVs X h → K h) {a b : Int32} {G : (Int32 → Int32 → Prop) → Prop} (hG : ∀ F : Int32 → Int32 → Prop, F a b → G F) : isO h X 8 (wX10_ahead h X a b (fun r h7 => G (fun a b => isO h7 (X + 12) 9 (wX11_ahead h7 (X + 12) a b (fun r' h14 => (r = r' → K h14) ∧ (¬ r = r' → B h14)))))) := by
  obtain ⟨cnt, P, N, M, ρ, gs, n, S, D, I⟩ := I
  obtain ⟨C, Mi, hr⟩ := id I
  have c80 := C.c80
  refine R_O C.R C.s0 (cc_ahead C (fun nok => hG _ (R_O Mi.R Mi.L.1 (mm_ahead Mi hr (fun _ => eqc (nx _ I.s)) (fun s t hs ht e et => absurd ⟨⟨s, hs, e⟩, ⟨t, ht, et⟩⟩ nok)))) (fun s t hs ht e et => hG _ (R_O Mi.R Mi.L.1 (mm_ahead Mi hr (fun nok => absurd ⟨⟨s, hs, e⟩, ⟨t, ht, et⟩⟩ nok) (fun s' t' hs' ht' e' et' => ?_)))))
  have e1 : s' = s := (nI_eq (by omega) (by omega)).mp (e'.symm.trans e)
  have e2 : t' = t := (nI_eq (by omega) (by omega)).mp (et'.symm.trans et)
  subst e1 e2
  exact eqc (nx _ I.s)
theorem lw_guarded (I : IVs X h) (nx : ∀ h, IVs X h → K h) {a b : Int32} {G : (Int32 → Int32 → Prop) → Prop} (hG : ∀ F : Int32 → Int32 → Prop, F a b → G F) : isO h X 8 (wX10_guarded h X a b (fun r h7 => G (fun a b => isO h7 (X + 12) 9 (wX11_guarded h7 (X + 12) a b (fun r' h14 => (r = r' → K h14) ∧ (¬ r = r' → B h14)))))) := by
  obtain ⟨cnt, P, N, M, ρ, gs, n, S, D, I⟩ := I
  obtain ⟨C, Mi, hr⟩ := id I
  have c80 := C.c80
  refine R_O C.R C.s0 (cc_guarded C (fun nok => hG _ (R_O Mi.R Mi.L.1 (mm_guarded Mi hr (fun _ => eqc (nx _ I.s)) (fun s t hs ht e et s3 => absurd ⟨⟨s, hs, e, s3⟩, ⟨t, ht, et⟩⟩ nok)))) (fun s t hs ht e et s3 => hG _ (R_O Mi.R Mi.L.1 (mm_guarded Mi hr (fun nok => absurd ⟨⟨s, hs, e, s3⟩, ⟨t, ht, et⟩⟩ nok) (fun s' t' hs' ht' e' et' _ => ?_)))))
  have e1 : s' = s := (nI_eq (by omega) (by omega)).mp (e'.symm.trans e)
  have e2 : t' = t := (nI_eq (by omega) (by omega)).mp (et'.symm.trans et)
  subst e1 e2
  exact eqc (nx _ I.s)
/-- the start -/
def M00 : mT := ((0, 0), fun _ => 0, fun _ => 0, fun _ => 0, fun _ => 0, fun _ => 0, fun _ => 0, fun _ => 0, fun k => if k = 5 then -1 else 0)
theorem M00_inv : mInv M00 := by
  refine ⟨Nat.zero_le _, Nat.zero_le _, rfl, fun t h1 h2 => ?_, fun t h1 h2 => ?_, fun t u h1 h2 h3 => ?_, fun s hs => Nat.le_refl _, fun t h1 h2 => ?_⟩
  all_goals exfalso
  all_goals first | exact absurd (Nat.le_trans h1 h2) (by show ¬ 1 ≤ 0; omega) | exact absurd (Nat.le_trans (Nat.le_trans h1 (Nat.le_of_lt h2)) h3) (by show ¬ 1 ≤ 0; omega)
theorem ok1 : okS (fun _ => 1) := fun _ => ⟨(by decide : ¬ (1 : Int32) = 0), (by decide : (1 : Int32) &&& 1023 = 1)⟩
theorem IV_0 {S0 S : sS} {D : sD} (c : cIni X S0 D) (R : HR (X + 42) S (uO D (X + 12) 22 (-1)) h) (f : fr (X + 42) S) (L : LayM (X + 12) S) (o : ∀ a, a < X + 12 → S a = S0 a) : IVs X h := by
  obtain ⟨c1, c2, c3, c4, c5, c6, c7⟩ := c
  have e1 : ∀ a, a ≠ X + 12 → (uO D (X + 12) 22 (-1)).1 a = D.1 a := fun a ha => by simp [uO, va_up, ha]
  have eY : ∀ k, (uO D (X + 12) 22 (-1)).1 (X + 12) k = if k = 22 then -1 else 0 := fun k => by
    rw [uO_at, c4]
    by_cases e : k = 22
    · rw [if_pos e, if_pos e]
    · rw [if_neg e, if_neg e, if_neg (fun q => by omega)]
  have eF : (uO D (X + 12) 22 (-1)).2.1 = D.2.1 := rfl
  have eB : (uO D (X + 12) 22 (-1)).2.2.1 = D.2.2.1 := rfl
  have eP : (uO D (X + 12) 22 (-1)).2.2.2 = D.2.2.2 := rfl
  generalize uO D (X + 12) 22 (-1) = D' at R e1 eY eF eB eP
  refine ⟨0, fun _ => 0, fun _ => (0, 0, 0, 0, 0, 0, 0), M00, rD0, fun _ => 1, X + 42, S, D', ⟨⟨⟨R, ?_, ?_, M00_inv⟩, ⟨?_, ?_, ?_, ?_⟩, f, fun m hm => absurd hm (Nat.not_lt_zero m), fun i j _ hj => absurd hj (Nat.not_lt_zero j), fun m hm => absurd hm (Nat.not_lt_zero m), Nat.le_refl _, ?_, fun m hm => absurd hm (Nat.not_lt_zero m), fun i hi => by rw [eF]; exact c3 i hi, ok1, fun m hm => absurd hm (Nat.not_lt_zero m), by omega⟩, ⟨⟨⟨R, L, ?_, M00_inv⟩, ⟨?_, fun m hm => absurd hm (Nat.not_lt_zero m)⟩, by omega⟩, fun i hi => Or.inl ⟨by rw [eF]; exact c5 _ _ (by omega), rfl⟩, Or.inl ⟨?_, fun _ => rfl⟩⟩, rOk_0⟩⟩
  · obtain ⟨l1, l2, l3, l4, l5, l6, l7, l8⟩ := c1
    exact ⟨(o _ (by omega)).trans l1, (o _ (by omega)).trans l2, (o _ (by omega)).trans l3, (o _ (by omega)).trans l4, (o _ (by omega)).trans l5, (o _ (by omega)).trans l6, (o _ (by omega)).trans l7, (o _ (by omega)).trans l8⟩
  · refine ⟨?_, ?_, fun t ht => ?_, fun t ht hr => absurd hr not_rw0, fun t ht hr h0 => ?_, fun j hj => ?_, fun s hs => ?_, fun q hq => ?_, fun k hk => ?_⟩
    · rw [e1 _ (by omega), c4, if_neg (fun q => by omega)]; rfl
    · rw [e1 _ (by omega), c4, if_neg (fun q => by omega)]; rfl
    · rw [eF]; exact c5 _ _ (by omega)
    · rw [eF]; exact c5 _ _ (by omega)
    · rw [eB]; exact c6 _ _
    · rw [eF]; exact c5 _ _ (by omega)
    · rw [eB]; exact c6 _ _
    · rw [e1 _ (by omega), c4]
      show _ = if k = 5 then (-1 : Int32) else 0
      by_cases e : k = 5
      · rw [if_pos e, if_pos ⟨rfl, by omega⟩]
      · rw [if_neg e, if_neg (fun q => by omega)]
  · exact (o _ (by omega)).trans c2.1
  · exact (o _ (by omega)).trans c2.2.1
  · exact (o _ (by omega)).trans c2.2.2.1
  · exact (o _ (by omega)).trans c2.2.2.2
  · rw [e1 _ (by omega), c4, if_neg (fun q => by omega)]; rfl
  · refine ⟨?_, ?_, fun t ht => ?_, fun t ht hr => absurd hr not_rw0, fun t ht hr h0 => ?_, fun j hj => ?_, fun s hs => ?_, fun q hq => ?_, fun k hk => ?_⟩
    · rw [eY, if_neg (by omega)]; rfl
    · rw [eY, if_neg (by omega)]; rfl
    · rw [eF]; exact c5 _ _ (by omega)
    · rw [eF]; exact ⟨c5 _ _ (by omega), c5 _ _ (by omega)⟩
    · rw [eB]; exact c6 _ _
    · rw [eF]; exact c5 _ _ (by omega)
    · rw [eB]; exact c6 _ _
    · rw [eY]
      show _ = if k = 5 then (-1 : Int32) else 0
      by_cases e : k = 5
      · rw [if_pos e, if_pos (by omega)]
      · rw [if_neg e, if_neg (by omega)]
  · rw [eY, if_neg (by omega)]; rfl
  · rw [eY, if_neg (by omega)]
end LAW
