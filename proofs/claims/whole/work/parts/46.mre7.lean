/-! the model's report: what it writes down -/
def MRr (Y : Nat) (ρ : rD) (D : sD) : Prop := ∀ g, g < 80 → (∀ i, i < 12 → D.2.1 (Y + 23) (12 * g + i) = ρ.1 g i) ∧ D.2.1 (Y + 22) g = ρ.2.1 g ∧ D.2.1 (Y + 24) g = ρ.2.2.1 g ∧ D.2.1 (Y + 25) g = ρ.2.2.2 g ∧ D.2.1 (Y + 21) g = if ρ.1 g 0 = 0 then 0 else 1
def insR (Y d : Nat) (s : rS) (D : sD) : Prop := ∀ i, i < 12 → D.2.1 (Y + 28) (12 * d + i) = s i
def wayR (Y d : Nat) (W : rW) (D : sD) : Prop := ∀ f, f < 9 → ∀ i, i < 12 → D.2.1 (Y + 27) (108 * d + 12 * f + i) = W f i
/-- what going through changes, from level d on -/
def tOut (Y d : Nat) (D D' : sD) : Prop := (∀ a, ¬ (Y ≤ a ∧ a ≤ Y + 7) → ¬ (Y + 15 ≤ a ∧ a ≤ Y + 18) → ¬ (Y + 21 ≤ a ∧ a ≤ Y + 29) → D'.1 a = D.1 a ∧ D'.2.1 a = D.2.1 a ∧ D'.2.2.1 a = D.2.2.1 a ∧ D'.2.2.2 a = D.2.2.2 a) ∧ (∀ k, ((2 ≤ k ∧ k ≤ 16) ∨ 23 ≤ k) → k ≠ 27 → D'.1 Y k = D.1 Y k) ∧ (∀ i, i < d → D'.2.1 (Y + 16) i = D.2.1 (Y + 16) i ∧ D'.2.1 (Y + 17) i = D.2.1 (Y + 17) i ∧ D'.2.1 (Y + 18) i = D.2.1 (Y + 18) i) ∧ (∀ i, i < 108 * d → D'.2.1 (Y + 26) i = D.2.1 (Y + 26) i ∧ D'.2.1 (Y + 27) i = D.2.1 (Y + 27) i) ∧ ∀ i, i < 12 * (d + 1) → D'.2.1 (Y + 28) i = D.2.1 (Y + 28) i
theorem tOut.rf {Y d : Nat} {D : sD} : tOut Y d D D := ⟨fun _ _ _ _ => ⟨rfl, rfl, rfl, rfl⟩, fun _ _ _ => rfl, fun _ _ => ⟨rfl, rfl, rfl⟩, fun _ _ => ⟨rfl, rfl⟩, fun _ _ => rfl⟩
theorem tOut.tr {Y d : Nat} {D D' D'' : sD} (h : tOut Y d D D') (h' : tOut Y d D' D'') : tOut Y d D D'' :=
  ⟨fun a h1 h2 h3 => ⟨(h'.1 a h1 h2 h3).1.trans (h.1 a h1 h2 h3).1, (h'.1 a h1 h2 h3).2.1.trans (h.1 a h1 h2 h3).2.1, (h'.1 a h1 h2 h3).2.2.1.trans (h.1 a h1 h2 h3).2.2.1, (h'.1 a h1 h2 h3).2.2.2.trans (h.1 a h1 h2 h3).2.2.2⟩, fun k h1 h2 => (h'.2.1 k h1 h2).trans (h.2.1 k h1 h2), fun i hi => ⟨(h'.2.2.1 i hi).1.trans (h.2.2.1 i hi).1, (h'.2.2.1 i hi).2.1.trans (h.2.2.1 i hi).2.1, (h'.2.2.1 i hi).2.2.trans (h.2.2.1 i hi).2.2⟩, fun i hi => ⟨(h'.2.2.2.1 i hi).1.trans (h.2.2.2.1 i hi).1, (h'.2.2.2.1 i hi).2.trans (h.2.2.2.1 i hi).2⟩, fun i hi => (h'.2.2.2.2 i hi).trans (h.2.2.2.2 i hi)⟩
theorem tOut.mono {Y d e : Nat} {D D' : sD} (h : tOut Y e D D') (he : d ≤ e) : tOut Y d D D' := ⟨h.1, h.2.1, fun i hi => h.2.2.1 i (by omega), fun i hi => h.2.2.2.1 i (by omega), fun i hi => h.2.2.2.2 i (by omega)⟩
theorem rOut.t {Y d : Nat} {D D' : sD} (h : rOut Y d D D') : tOut Y d D D' := by
  refine ⟨fun a h1 h2 _ => h.1 a h1 (by omega) (by omega) (by omega) (by omega), h.2.1, h.2.2, fun i _ => ⟨?_, ?_⟩, fun i _ => ?_⟩
  · rw [(h.1 (Y + 26) (by omega) (by omega) (by omega) (by omega) (by omega)).2.1]
  · rw [(h.1 (Y + 27) (by omega) (by omega) (by omega) (by omega) (by omega)).2.1]
  · rw [(h.1 (Y + 28) (by omega) (by omega) (by omega) (by omega) (by omega)).2.1]
theorem rOut.row {Y d : Nat} {D D' : sD} (h : rOut Y d D D') {b : Nat} (hb : 19 ≤ b) : D'.2.1 (Y + b) = D.2.1 (Y + b) := (h.1 (Y + b) (by omega) (by omega) (by omega) (by omega) (by omega)).2.1
/-- only the row b changed -/
def eqx (b : Nat) (D D' : sD) : Prop := D'.1 = D.1 ∧ D'.2.2 = D.2.2 ∧ ∀ a, a ≠ b → D'.2.1 a = D.2.1 a
theorem eqx.rf {b : Nat} {D : sD} : eqx b D D := ⟨rfl, rfl, fun _ _ => rfl⟩
theorem eqx.u {b : Nat} {D : sD} {f : Nat → Int32} : eqx b D (uF D b f) := ⟨rfl, rfl, fun _ h => uF_ne h⟩
theorem eqx.tr {b : Nat} {D D' D'' : sD} (h : eqx b D D') (h' : eqx b D' D'') : eqx b D D'' := ⟨h'.1.trans h.1, h'.2.1.trans h.2.1, fun a ha => (h'.2.2 a ha).trans (h.2.2 a ha)⟩
theorem eqx.t {Y b d : Nat} {D D' : sD} (h : eqx (Y + b) D D') (hb : 21 ≤ b ∧ b ≤ 29) (h6 : b = 26 ∨ b = 27 → ∀ i, i < 108 * d → D'.2.1 (Y + b) i = D.2.1 (Y + b) i) (h8 : b = 28 → ∀ i, i < 12 * (d + 1) → D'.2.1 (Y + b) i = D.2.1 (Y + b) i) : tOut Y d D D' := by
  obtain ⟨h1, h2, h3⟩ := h
  refine ⟨fun a _ _ g => ⟨by rw [h1], h3 a (by omega), by rw [h2], by rw [h2]⟩, fun k _ _ => by rw [h1], fun i _ => ⟨by rw [h3 _ (by omega)], by rw [h3 _ (by omega)], by rw [h3 _ (by omega)]⟩, fun i hi => ⟨?_, ?_⟩, fun i hi => ?_⟩
  · by_cases e : b = 26
    · subst e; exact h6 (Or.inl rfl) i hi
    · rw [h3 _ (by omega)]
  · by_cases e : b = 27
    · subst e; exact h6 (Or.inr rfl) i hi
    · rw [h3 _ (by omega)]
  · by_cases e : b = 28
    · subst e; exact h8 rfl i hi
    · rw [h3 _ (by omega)]
theorem sAt.t {Y d e : Nat} {D D' : sD} {u p q : Int32} (sa : sAt Y D d u p q) (h : tOut Y e D D') (he : d < e) : sAt Y D' d u p q := by
  obtain ⟨g1, g2, g3⟩ := h.2.2.1 d he
  exact ⟨g1.trans sa.1, g2.trans sa.2.1, g3.trans sa.2.2⟩
theorem sAt.x {Y d b : Nat} {D D' : sD} {u p q : Int32} (sa : sAt Y D d u p q) (h : eqx (Y + b) D D') (hb : 21 ≤ b) : sAt Y D' d u p q := by
  unfold sAt
  rw [h.2.2 (Y + 16) (by omega), h.2.2 (Y + 17) (by omega), h.2.2 (Y + 18) (by omega)]; exact sa
theorem outR.t {Y d e : Nat} {W : rW} {D D' : sD} (o : outR Y d W D) (h : tOut Y e D D') (he : d < e) : outR Y d W D' := fun f hf i hi => ((h.2.2.2.1 _ (by omega)).1).trans (o f hf i hi)
theorem wayR.t {Y d e : Nat} {W : rW} {D D' : sD} (o : wayR Y d W D) (h : tOut Y e D D') (he : d < e) : wayR Y d W D' := fun f hf i hi => ((h.2.2.2.1 _ (by omega)).2).trans (o f hf i hi)
theorem insR.t {Y d e : Nat} {s : rS} {D D' : sD} (o : insR Y d s D) (h : tOut Y e D D') (he : d ≤ e) : insR Y d s D' := fun i hi => (h.2.2.2.2 _ (by omega)).trans (o i hi)
theorem outR.w {Y d : Nat} {W : rW} {D D' : sD} (o : outR Y d W D) (h : D'.2.1 (Y + 26) = D.2.1 (Y + 26)) : outR Y d W D' := by unfold outR; rw [h]; exact o
theorem wayR.w {Y d : Nat} {W : rW} {D D' : sD} (o : wayR Y d W D) (h : D'.2.1 (Y + 27) = D.2.1 (Y + 27)) : wayR Y d W D' := by unfold wayR; rw [h]; exact o
theorem insR.w {Y d : Nat} {W : rS} {D D' : sD} (o : insR Y d W D) (h : D'.2.1 (Y + 28) = D.2.1 (Y + 28)) : insR Y d W D' := by unfold insR; rw [h]; exact o
theorem MRr.w {Y : Nat} {ρ : rD} {D D' : sD} (o : MRr Y ρ D) (h : ∀ b, 21 ≤ b → b ≤ 25 → D'.2.1 (Y + b) = D.2.1 (Y + b)) : MRr Y ρ D' := by
  unfold MRr
  rw [h 21 (by omega) (by omega), h 22 (by omega) (by omega), h 23 (by omega) (by omega), h 24 (by omega) (by omega), h 25 (by omega) (by omega)]; exact o
def TM (Y cnt : Nat) (N : nT) (M : mT) (ρ : rD) (n : Nat) (S : sS) (D : sD) (h : aH) : Prop := RM Y cnt N M n S D h ∧ MRr Y ρ D
section TMS
variable {Y n cnt : Nat} {N : nT} {M : mT} {ρ : rD} {S : sS} {D : sD} {h : aH}
theorem RM.x (C : RM Y cnt N M n S D h) {D' : sD} {h' : aH} {b : Nat} (R' : HR n S D' h') (e : eqx (Y + b) D D') (hb : 19 ≤ b) : RM Y cnt N M n S D' h' := by
  refine ⟨⟨R', C.1.2.1, C.1.2.2.1.eq (fun k _ => by rw [e.1]) (fun a _ h2 => ⟨e.2.2 a (by omega), by rw [e.2.1]⟩), C.1.2.2.2⟩, ?_, C.2.2⟩
  obtain ⟨h1, h2⟩ := C.2.1
  refine ⟨by rw [e.1]; exact h1, ?_⟩
  rw [e.2.2 (Y + 8) (by omega), e.2.2 (Y + 9) (by omega), e.2.2 (Y + 10) (by omega), e.2.2 (Y + 11) (by omega), e.2.2 (Y + 12) (by omega), e.2.2 (Y + 13) (by omega), e.2.2 (Y + 14) (by omega)]
  exact h2
theorem TM.x (C : TM Y cnt N M ρ n S D h) {D' : sD} {h' : aH} {b : Nat} (R' : HR n S D' h') (e : eqx (Y + b) D D') (hb : 26 ≤ b) : TM Y cnt N M ρ n S D' h' := ⟨C.1.x R' e (by omega), C.2.w fun c _ hc => e.2.2 _ (by omega)⟩
theorem TM.r (C : TM Y cnt N M ρ n S D h) {D' : sD} {h' : aH} {d : Nat} (C' : RM Y cnt N M n S D' h') (o : rOut Y d D D') : TM Y cnt N M ρ n S D' h' := ⟨C', C.2.w fun c hc _ => o.row (by omega)⟩
theorem TM.R (C : TM Y cnt N M ρ n S D h) : HR n S D h := C.1.1.1
theorem TM.L (C : TM Y cnt N M ρ n S D h) : LayM Y S := C.1.1.2.1
/-- lay and join between ins, outs and ways -/
theorem tm_layIns (C : TM Y cnt N M ρ n S D h) {A la fo d : Nat} {s : rS} (hA : S A = some (.inl (0, la))) (h1 : fo + 12 ≤ la) (l1 : la < 2 ^ 31) (hd : d < 81) (hs : ∀ i, i < 12 → D.2.1 A (fo + i) = s i) (hx : A = Y + 28 → fo + 12 ≤ 12 * (d + 1)) {Q : aH → Prop} (hq : ∀ h' D', TM Y cnt N M ρ n S D' h' → eqx (Y + 28) D D' → tOut Y d D D' → insR Y (d + 1) s D' → Q h') : wX11_lay_ h A (nI fo) (Y + 28) (nI (12 * d + 12)) Q := by
  refine mj_lay C.R hA C.L.s28 h1 (by omega) l1 (by omega) (by by_cases e : A = Y + 28; exact Or.inr (Or.inr (by have := hx e; omega)); exact Or.inl e) fun h' R' => ?_
  have ex : eqx (Y + 28) D (uF D (Y + 28) (lyG (D.2.1 A) (D.2.1 (Y + 28)) fo (12 * d + 12) 12)) := eqx.u
  refine hq h' _ (C.x R' ex (by omega)) ex (ex.t (by omega) (fun e => by omega) fun _ i hi => ?_) fun i hi => ?_
  · rw [uF_at]; unfold lyG; rw [if_neg (by omega)]
  · rw [uF_at]; unfold lyG
    rw [if_pos (by omega), show fo + (12 * (d + 1) + i - (12 * d + 12)) = fo + i by omega]
    exact hs i hi
theorem tm_enter (C : TM Y cnt N M ρ n S D h) {m d : Nat} {s : rS} (hm : m < 80) (hd : d < 81) (hi : insR Y d s D) (ok : okS s) {Q : aH → Prop} (hq : ∀ h' D', TM Y cnt N M (enterR m s ρ) n S D' h' → D'.1 = D.1 → (∀ b, b ≤ 20 → D'.2.1 (Y + b) = D.2.1 (Y + b)) → tOut Y d D D' → insR Y d s D' → outR Y d rZW D' → Q h') : wX11_enter h Y (nI m) (nI d) Q := by
  have e0 : (12 * m) % 1 = 0 := Nat.mod_one _
  refine R_R C.R C.L.1 rfl ?_
  rw [ix2]
  refine mj_wipe (c := 108) C.R C.L.s26 (by omega) (by omega) fun h1 R1 => ?_
  have x1 : eqx (Y + 26) D (uF D (Y + 26) (wpG (D.2.1 (Y + 26)) (108 * d) 108)) := eqx.u
  have o1 : outR Y d rZW (uF D (Y + 26) (wpG (D.2.1 (Y + 26)) (108 * d) 108)) := fun f hf i hi => by
    rw [uF_at]; unfold wpG; rw [if_pos (by omega)]; rfl
  have t1 : tOut Y d D (uF D (Y + 26) (wpG (D.2.1 (Y + 26)) (108 * d) 108)) := x1.t (by omega) (fun _ i hi => by rw [uF_at]; unfold wpG; rw [if_neg (by omega)]) (fun e => by omega)
  have C1 := C.x R1 x1 (by omega)
  generalize uF D (Y + 26) (wpG (D.2.1 (Y + 26)) (108 * d) 108) = D1 at R1 x1 o1 t1 C1
  refine R_R C1.R C1.L.1 rfl (R_sZ C1.R C1.L.s21 (vp_in_nI hm (by omega)) fun h2 R2 => ?_)
  rw [nI_clamp (by omega)] at R2
  have x2 : eqx (Y + 21) D1 (uF D1 (Y + 21) (upd (D1.2.1 (Y + 21)) m (vp_nar .boolean 1))) := eqx.u
  have r2 : (uF D1 (Y + 21) (upd (D1.2.1 (Y + 21)) m (vp_nar .boolean 1))).2.1 (Y + 21) = upd (D1.2.1 (Y + 21)) m 1 := by
    rw [uF_at]; rfl
  generalize uF D1 (Y + 21) (upd (D1.2.1 (Y + 21)) m (vp_nar .boolean 1)) = D2 at R2 x2 r2
  refine R_R R2 C1.L.1 rfl (R_R R2 C1.L.1 rfl ?_)
  rw [ix3, ix3]
  refine mj_join R2 C1.L.s28 C1.L.s23 (by omega) (by omega) (by omega) (by omega) (Or.inl (by omega)) fun h3 R3 => ?_
  have x3 : eqx (Y + 23) D2 (uF D2 (Y + 23) (jnG (D2.2.1 (Y + 28)) (D2.2.1 (Y + 23)) (12 * d) (12 * m) 12)) := eqx.u
  have r3 : (uF D2 (Y + 23) (jnG (D2.2.1 (Y + 28)) (D2.2.1 (Y + 23)) (12 * d) (12 * m) 12)).2.1 (Y + 23) = jnG (D.2.1 (Y + 28)) (D.2.1 (Y + 23)) (12 * d) (12 * m) 12 := by
    rw [uF_at, x2.2.2 _ (by omega), x2.2.2 _ (by omega), x1.2.2 _ (by omega), x1.2.2 _ (by omega)]
  generalize uF D2 (Y + 23) (jnG (D2.2.1 (Y + 28)) (D2.2.1 (Y + 23)) (12 * d) (12 * m) 12) = D3 at R3 x3 r3
  have C3 : RM Y cnt N M n S D3 h3 := (C1.1.x R2 x2 (by omega)).x R3 x3 (by omega)
  have t3 : tOut Y d D D3 := (t1.tr (x2.t (by omega) (fun e => by omega) (fun e => by omega))).tr (x3.t (by omega) (fun e => by omega) (fun e => by omega))
  refine hq h3 D3 ⟨C3, fun g hg => ?_⟩ (x3.1.trans (x2.1.trans x1.1)) (fun b hb => by rw [x3.2.2 _ (by omega), x2.2.2 _ (by omega), x1.2.2 _ (by omega)]) t3 (hi.t t3 (by omega)) ((o1.w (x2.2.2 _ (by omega))).w (x3.2.2 _ (by omega)))
  obtain ⟨g1, g2, g3, g4, g5⟩ := C.2 g hg
  rw [r3, x3.2.2 (Y + 22) (by omega), x3.2.2 (Y + 24) (by omega), x3.2.2 (Y + 25) (by omega), x3.2.2 (Y + 21) (by omega), x2.2.2 (Y + 22) (by omega), x2.2.2 (Y + 24) (by omega), x2.2.2 (Y + 25) (by omega), r2, x1.2.2 (Y + 22) (by omega), x1.2.2 (Y + 24) (by omega), x1.2.2 (Y + 25) (by omega), x1.2.2 (Y + 21) (by omega)]
  unfold enterR
  simp only [upd]
  by_cases e : g = m
  · subst e
    simp only [if_pos]
    refine ⟨fun i hi' => ?_, g2, g3, g4, ?_⟩
    · unfold jnG
      rw [if_pos (by omega), g1 i hi', show 12 * d + (12 * g + i - 12 * g) = 12 * d + i by omega, hi i hi']
    · rw [if_neg]
      rw [Int32.or_comm]; exact or_ne0 (ok 0).1
  · simp only [if_neg e]
    refine ⟨fun i hi' => ?_, g2, g3, g4, g5⟩
    unfold jnG
    rw [if_neg (by omega)]; exact g1 i hi'
theorem tm_leave_loop {m d : Nat} {W : rW} (hm : m < 80) (hd : d < 81) {Q : aH → Prop} : ∀ (j f : Nat) (b : Int32) (D : sD) (h : aH), j + f = 9 → TM Y cnt N M (ρ.1, upd ρ.2.1 m b, ρ.2.2) n S D h → D.1 Y 27 = nI d → outR Y d W D → (∀ h' D', TM Y cnt N M (ρ.1, upd ρ.2.1 m (bitsN W j f b), ρ.2.2) n S D' h' → tOut Y d D D' → D'.1 Y 27 = nI d - 1 → outR Y d W D' → Q h') → wbX11_leave_2 (j + 1) Y (nI m) (nI d) (nI f) h Q
  | 0, f, b, D, h, hf, C, ht, ho, hq => by
    have e : f = 9 := by omega
    subst e
    refine ⟨fun _ => sm_pop C.1 ht fun h' D' C' O' e => hq h' D' (C.r C' O') O'.t e (ho.w (O'.row (by omega))), fun z => absurd (nI_le (Nat.le_refl 9) (by omega)) z⟩
  | j + 1, f, b, D, h, hf, C, ht, ho, hq => by
    refine ⟨fun z => absurd ((nI_leI (a := 9) (by omega) (by omega)).mp z) (by omega), fun _ => R_R C.R C.L.1 rfl (R_aI C.R C.L.s22 (vp_in_nI hm (by omega)) (R_R C.R C.L.1 rfl ?_))⟩
    rw [ix1]
    refine R_aI C.R C.L.s26 (vp_in_nI (by omega) (by omega)) ?_
    rw [nI_clamp (by omega), nI_clamp (by omega), (C.2 m hm).2.1, show 108 * d + 12 * f = 108 * d + 12 * f + 0 from rfl, ho f (by omega) 0 (by omega)]
    have eb : (ρ.1, upd ρ.2.1 m b, ρ.2.2).2.1 m = b := by show upd ρ.2.1 m b m = b; simp [upd]
    rw [eb]
    have key : ∀ v : Int32, (b ||| v = if W f 0 = 0 then b else b ||| (1 <<< (nI f &&& 31))) → wbX11_leave_39 (fun v0 v1 v2 v3 h => wbX11_leave_2 (j + 1) v0 v1 v2 v3 h Q) Y (nI m) (nI d) (nI f) v b (nI m) (Y + 22) h Q := by
      intro v hv
      refine R_sI C.R C.L.s22 (vp_in_nI hm (by omega)) fun h1 R1 => ?_
      rw [nI_clamp (by omega)] at R1
      have x1 : eqx (Y + 22) D (uF D (Y + 22) (upd (D.2.1 (Y + 22)) m (b ||| v))) := eqx.u
      have r1 : (uF D (Y + 22) (upd (D.2.1 (Y + 22)) m (b ||| v))).2.1 (Y + 22) = upd (D.2.1 (Y + 22)) m (b ||| v) := uF_at
      generalize uF D (Y + 22) (upd (D.2.1 (Y + 22)) m (b ||| v)) = D1 at R1 x1 r1
      show wbX11_leave_2 (j + 1) Y (nI m) (nI d) (nI f + 1) h1 Q
      rw [nI_1]
      have C1 : TM Y cnt N M (ρ.1, upd ρ.2.1 m (b ||| v), ρ.2.2) n S D1 h1 := by
        refine ⟨C.1.x R1 x1 (by omega), fun g hg => ?_⟩
        obtain ⟨g1, g2, g3, g4, g5⟩ := C.2 g hg
        rw [r1, x1.2.2 (Y + 23) (by omega), x1.2.2 (Y + 24) (by omega), x1.2.2 (Y + 25) (by omega), x1.2.2 (Y + 21) (by omega)]
        refine ⟨g1, ?_, g3, g4, g5⟩
        simp only [upd] at g2 ⊢
        split
        · rfl
        · rename_i e; rw [if_neg e] at g2; exact g2
      have t1 : tOut Y d D D1 := x1.t (by omega) (fun e => by omega) (fun e => by omega)
      refine tm_leave_loop hm hd j (f + 1) (b ||| v) D1 h1 (by omega) C1 (by rw [x1.1]; exact ht) (ho.w (x1.2.2 _ (by omega))) fun h' D' C' O' e o => hq h' D' ?_ (t1.tr O') e o
      rw [hv] at C'
      exact C'
    refine ⟨fun z => key 0 (by rw [if_pos z, or_0]), fun z => key _ (by rw [if_neg z])⟩
theorem tm_leave (C : TM Y cnt N M ρ n S D h) {m d : Nat} {W : rW} (hm : m < 80) (hd : d < 81) (ht : D.1 Y 27 = nI d) (ho : outR Y d W D) {Q : aH → Prop} (hq : ∀ h' D', TM Y cnt N M (leaveR m (W, ρ)).2 n S D' h' → tOut Y d D D' → D'.1 Y 27 = nI d - 1 → outR Y d W D' → Q h') : wX11_leave h Y (nI m) (nI d) Q := by
  have C0 : TM Y cnt N M (ρ.1, upd ρ.2.1 m (ρ.2.1 m), ρ.2.2) n S D h := by rw [upd_self]; exact C
  refine ⟨10, tm_leave_loop (ρ := ρ) (W := W) hm hd 9 0 (ρ.2.1 m) D h rfl C0 ht ho fun h' D' C' O' e o => hq h' D' ?_ O' e o⟩
  rw [bits_or] at C'; exact C'
def putW (g : Nat) (W V : rW) : rW := fun x i => if g ≤ x then W x i ||| V x i else W x i
theorem putW_0 (W V : rW) : putW 0 W V = jnA W V := by funext x i; unfold putW jnA; rw [if_pos (Nat.zero_le _)]
theorem putW_1 (W V : rW) : putW 1 W V = jnF W V := by
  funext x i; unfold putW jnF
  by_cases e : x = 0
  · rw [if_pos e, if_neg (by omega)]
  · rw [if_neg e, if_pos (by omega)]
theorem tm_put_loop {d : Nat} {V : rW} (hd : d < 81) {Q : aH → Prop} : ∀ (j f : Nat) (W : rW) (D : sD) (h : aH), j + f = 9 → TM Y cnt N M ρ n S D h → outR Y d W D → outR Y (d + 1) V D → (∀ h' D', TM Y cnt N M ρ n S D' h' → eqx (Y + 26) D D' → tOut Y d D D' → outR Y d (putW f W V) D' → outR Y (d + 1) V D' → Q h') → wbX11_put_2 (j + 1) Y (nI d) (nI f) h Q
  | 0, f, W, D, h, hf, C, ho, hv, hq => by
    have e : f = 9 := by omega
    subst e
    refine ⟨fun _ => hq h D C eqx.rf tOut.rf (fun g hg i hi => ?_) hv, fun z => absurd (nI_le (Nat.le_refl 9) (by omega)) z⟩
    unfold putW; rw [if_neg (by omega)]; exact ho g hg i hi
  | j + 1, f, W, D, h, hf, C, ho, hv, hq => by
    refine ⟨fun z => absurd ((nI_leI (a := 9) (by omega) (by omega)).mp z) (by omega), fun _ => R_R C.R C.L.1 rfl (R_R C.R C.L.1 rfl ?_)⟩
    rw [ix6, ix1]
    refine mj_join C.R C.L.s26 C.L.s26 (by omega) (by omega) (by omega) (by omega) (Or.inr (Or.inl (by omega))) fun h1 R1 => ?_
    have x1 : eqx (Y + 26) D (uF D (Y + 26) (jnG (D.2.1 (Y + 26)) (D.2.1 (Y + 26)) (108 * d + 108 + 12 * f) (108 * d + 12 * f) 12)) := eqx.u
    have r1 : (uF D (Y + 26) (jnG (D.2.1 (Y + 26)) (D.2.1 (Y + 26)) (108 * d + 108 + 12 * f) (108 * d + 12 * f) 12)).2.1 (Y + 26) = jnG (D.2.1 (Y + 26)) (D.2.1 (Y + 26)) (108 * d + 108 + 12 * f) (108 * d + 12 * f) 12 := uF_at
    generalize uF D (Y + 26) (jnG (D.2.1 (Y + 26)) (D.2.1 (Y + 26)) (108 * d + 108 + 12 * f) (108 * d + 12 * f) 12) = D1 at R1 x1 r1
    have t1 : tOut Y d D D1 := x1.t (by omega) (fun _ i hi => by rw [r1]; unfold jnG; rw [if_neg (by omega)]) (fun e => by omega)
    show wbX11_put_2 (j + 1) Y (nI d) (nI f + 1) h1 Q
    rw [nI_1]
    refine tm_put_loop hd j (f + 1) (jn W f (V f)) D1 h1 (by omega) (C.x R1 x1 (by omega)) (fun g hg i hi => ?_) (fun g hg i hi => ?_) fun h' D' C' x' O' o' v' => hq h' D' C' (x1.tr x') (t1.tr O') ?_ v'
    · rw [r1]; unfold jnG jn
      by_cases e : g = f
      · subst e
        rw [if_pos (by omega), if_pos rfl, ho g hg i hi, show 108 * d + 108 + 12 * g + (108 * d + 12 * g + i - (108 * d + 12 * g)) = 108 * (d + 1) + 12 * g + i by omega, hv g hg i hi]
      · rw [if_neg e, if_neg (by omega)]; exact ho g hg i hi
    · rw [r1]; unfold jnG
      rw [if_neg (by omega)]; exact hv g hg i hi
    · have : putW (f + 1) (jn W f (V f)) V = putW f W V := by
        funext x i; unfold putW jn
        by_cases e : x = f
        · rw [if_neg (by omega), if_pos e, if_pos (by omega), e]
        · by_cases e2 : f ≤ x
          · rw [if_pos (by omega), if_neg e, if_pos e2]
          · rw [if_neg (by omega), if_neg e, if_neg e2]
      rw [this] at o'; exact o'
theorem tm_put (C : TM Y cnt N M ρ n S D h) {d f : Nat} {W V : rW} (hd : d < 81) (hf : f ≤ 9) (ho : outR Y d W D) (hv : outR Y (d + 1) V D) {Q : aH → Prop} (hq : ∀ h' D', TM Y cnt N M ρ n S D' h' → eqx (Y + 26) D D' → tOut Y d D D' → outR Y d (putW f W V) D' → outR Y (d + 1) V D' → Q h') : wX11_put h Y (nI d) (nI f) Q := ⟨9 - f + 1, tm_put_loop hd (9 - f) f W D h (by omega) C ho hv hq⟩
end TMS
