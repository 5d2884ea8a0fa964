/-! WHAT HOLDS BETWEEN TWO CALLS: of the class, of the model -/
theorem nS_iff {v : Int32} {k : Nat} (hk : k < 2 ^ 31) : nS v k ↔ ¬ v < 0 ∧ ¬ nI k ≤ v := by
  constructor
  · rintro ⟨s, hs, rfl⟩
    exact ⟨nI_pos (by omega), fun e => absurd ((nI_leI hk (by omega)).mp e) (by omega)⟩
  · rintro ⟨h0, h1⟩
    obtain ⟨j, hj, rfl⟩ := nI_of h0
    exact ⟨j, by have : ¬ k ≤ j := fun e => h1 ((nI_leI hk hj).mpr e); omega, rfl⟩
theorem mIn_iff {v : Int32} {a b : Nat} (ha : a < 2 ^ 31) (hb : b < 2 ^ 31) : ¬ mIn v (nI a) (nI b) = 0 ↔ ∃ s : Nat, a ≤ s ∧ s ≤ b ∧ v = nI s := by
  unfold mIn
  constructor
  · intro h
    by_cases h1 : v < nI a
    · rw [if_pos h1] at h; exact absurd rfl h
    · rw [if_neg h1] at h
      by_cases h2 : nI b < v
      · rw [if_pos h2] at h; exact absurd rfl h
      · have h0 : ¬ v < 0 := fun e => h1 (Int32.lt_of_lt_of_le e (nI_pos' ha))
        obtain ⟨j, hj, rfl⟩ := nI_of h0
        have e1 : ¬ j < a := fun e => h1 ((nI_ltI hj ha).mpr e)
        have e2 : ¬ b < j := fun e => h2 ((nI_ltI hb hj).mpr e)
        exact ⟨j, by omega, by omega, rfl⟩
  · rintro ⟨s, h1, h2, rfl⟩
    rw [if_neg (nI_nlt h1 (by omega)), if_neg (nI_nlt h2 hb)]
    decide
def L0 (X : Nat) (S : sS) : Prop := S X = some (.inr (8, [some (some (X + 1)), some (some (X + 9)), some (some (X + 10)), none])) ∧ S (X + 9) = some (.inl (3, 80)) ∧ StL (X + 10) S
def CI (X cnt : Nat) (P : Nat → Nat) (N : nT) (M : mT) (ρ : rD) (gs : rS) (n : Nat) (S : sS) (D : sD) (h : aH) : Prop :=
  CM X M n S D h ∧ L0 X S ∧ fr n S ∧ NdC X cnt P N S D ∧ nOrd cnt P N ∧ (∀ m, m < cnt → nHi P N m ≤ n) ∧ X + 42 ≤ n ∧ D.1 X 3 = nI cnt ∧ (∀ m, m < cnt → D.2.2.2 (X + 9) m = some (P m)) ∧ stR (X + 10) gs D ∧ okS gs ∧ (∀ g, g < cnt → CRm P N ρ D g) ∧ cnt ≤ 80
def stO (Y : Nat) (gs : rS) (D : sD) : Prop := ∀ i, i < 12 → (D.2.1 (Y + 20) i = 0 ∧ gs i = 1) ∨ (¬ D.2.1 (Y + 20) i = 0 ∧ D.2.1 (Y + 19) i = gs i)
def MI (Y cnt : Nat) (N : nT) (M : mT) (ρ : rD) (gs : rS) (n : Nat) (S : sS) (D : sD) (h : aH) : Prop :=
  RM Y cnt N M n S D h ∧ stO Y gs D ∧ ((D.1 Y 28 = 0 ∧ ∀ g, ρ.1 g 0 = 0) ∨ (D.1 Y 28 = 1 ∧ MRr Y ρ D))
def rOk (cnt : Nat) (ρ : rD) : Prop := (∀ g, ρ.1 g 0 = 0 → (∀ i, ρ.1 g i = 0) ∧ ρ.2.1 g = 0 ∧ ρ.2.2.1 g = 0 ∧ ρ.2.2.2 g = 0) ∧ ∀ g, cnt ≤ g → ρ.1 g 0 = 0
/-- nothing but the model's cells -/
def inM (Y : Nat) (D D' : sD) : Prop := ∀ a, ¬ (Y ≤ a ∧ a ≤ Y + 29) → D'.1 a = D.1 a ∧ D'.2.1 a = D.2.1 a ∧ D'.2.2.1 a = D.2.2.1 a ∧ D'.2.2.2 a = D.2.2.2 a
theorem inM.rf {Y : Nat} {D : sD} : inM Y D D := fun _ _ => ⟨rfl, rfl, rfl, rfl⟩
theorem inM.tr {Y : Nat} {D D' D'' : sD} (h : inM Y D D') (h' : inM Y D' D'') : inM Y D D'' := fun a ha => ⟨(h' a ha).1.trans (h a ha).1, (h' a ha).2.1.trans (h a ha).2.1, (h' a ha).2.2.1.trans (h a ha).2.2.1, (h' a ha).2.2.2.trans (h a ha).2.2.2⟩
theorem inM.O {Y : Nat} {D : sD} {k : Nat} {v : Int32} : inM Y D (uO D Y k v) := fun a ha => ⟨by simp [uO, va_up, show a ≠ Y by omega], rfl, rfl, rfl⟩
theorem inM.F {Y b : Nat} {D : sD} {f : Nat → Int32} (hb : b ≤ 29) : inM Y D (uF D (Y + b) f) := fun a ha => ⟨rfl, uF_ne (by omega), rfl, rfl⟩
theorem inM.B {Y b : Nat} {D : sD} {f : Nat → Int64} (hb : b ≤ 29) : inM Y D (uB D (Y + b) f) := fun a ha => ⟨rfl, rfl, by simp [uB, va_up, show a ≠ Y + b by omega], rfl⟩
theorem mOut.i {Y : Nat} {D D' : sD} (h : mOut Y D D') : inM Y D D' := fun a ha => h.1 a (by omega) (by omega)
theorem rOut.i {Y d : Nat} {D D' : sD} (h : rOut Y d D D') : inM Y D D' := fun a ha => h.1 a (by omega) (by omega) (by omega) (by omega) (by omega)
theorem tOut.i {Y d : Nat} {D D' : sD} (h : tOut Y d D D') : inM Y D D' := fun a ha => h.1 a (by omega) (by omega) (by omega)
/-- the model's cells are as they were -/
def inC (Y : Nat) (S : sS) (D : sD) (S' : sS) (D' : sD) : Prop := ∀ a, Y ≤ a → a ≤ Y + 29 → S' a = S a ∧ D'.1 a = D.1 a ∧ D'.2.1 a = D.2.1 a ∧ D'.2.2.1 a = D.2.2.1 a ∧ D'.2.2.2 a = D.2.2.2 a
theorem cOut.i {X : Nat} {S : sS} {D D' : sD} (h : cOut X D D') : inC (X + 12) S D S D' := fun a h1 h2 => ⟨rfl, h a (by omega)⟩
theorem gOut.i {X e : Nat} {S : sS} {D D' : sD} (h : gOut X e D D') : inC (X + 12) S D S D' := fun a h1 h2 => ⟨rfl, (h.2.2 a (by omega)).1, (h.2.2 a (by omega)).2, by rw [h.1], by rw [h.1]⟩
theorem inC.rf {Y : Nat} {S : sS} {D : sD} : inC Y S D S D := fun _ _ _ => ⟨rfl, rfl, rfl, rfl, rfl⟩
theorem inC.tr {Y : Nat} {S S' S'' : sS} {D D' D'' : sD} (h : inC Y S D S' D') (h' : inC Y S' D' S'' D'') : inC Y S D S'' D'' := fun a h1 h2 => by
  obtain ⟨a1, a2, a3, a4, a5⟩ := h a h1 h2
  obtain ⟨b1, b2, b3, b4, b5⟩ := h' a h1 h2
  exact ⟨b1.trans a1, b2.trans a2, b3.trans a3, b4.trans a4, b5.trans a5⟩
section INV
variable {X Y cnt n : Nat} {P : Nat → Nat} {N : nT} {M : mT} {ρ : rD} {gs : rS} {S : sS} {D : sD} {h : aH}
theorem cRep.eq {D' : sD} (r : cRep X M D) (o : ∀ a, X + 1 ≤ a → a ≤ X + 8 → D'.1 a = D.1 a ∧ D'.2.1 a = D.2.1 a ∧ D'.2.2.1 a = D.2.2.1 a) : cRep X M D' := by
  unfold cRep at r ⊢
  rw [(o (X + 1) (by omega) (by omega)).1, (o (X + 2) (by omega) (by omega)).1, (o (X + 3) (by omega) (by omega)).2.1, (o (X + 4) (by omega) (by omega)).2.1, (o (X + 5) (by omega) (by omega)).2.1, (o (X + 6) (by omega) (by omega)).2.2, (o (X + 7) (by omega) (by omega)).2.1, (o (X + 8) (by omega) (by omega)).2.2]
  exact r
theorem NdC.cg {D' : sD} (W : NdC X cnt P N S D) (o : ∀ a, X + 42 ≤ a → D'.1 a = D.1 a ∧ D'.2.2.2 a = D.2.2.2 a) : NdC X cnt P N S D' := by
  intro m hm
  obtain ⟨h1, h2, h3, h4⟩ := W m hm
  refine ⟨h1, h2, h3, ?_⟩
  unfold NdD at h4 ⊢
  rw [(o (P m) (by omega)).1, (o (P m + 4) (by omega)).2, (o (P m + 26) (by omega)).2]
  exact h4
theorem CI.cg (C : CI X cnt P N M ρ gs n S D h) {D' : sD} {h' : aH} (R' : HR n S D' h') (o : inM (X + 12) D D') : CI X cnt P N M ρ gs n S D' h' := by
  obtain ⟨c1, c2, c3, c4, c5, c6, c7, c8, c9, c10, c11, c12, c13⟩ := C
  refine ⟨⟨R', c1.2.1, c1.2.2.1.eq fun a h1 h2 => ⟨(o a (by omega)).1, (o a (by omega)).2.1, (o a (by omega)).2.2.1⟩, c1.2.2.2⟩, c2, c3, c4.cg fun a ha => ⟨(o a (by omega)).1, (o a (by omega)).2.2.2⟩, c5, c6, c7, ?_, ?_, c10.cg (o _ (by omega)).2.1, c11, fun g hg => (c12 g hg).cg (fun a h1 h2 => ?_) rAt.rf, c13⟩
  · rw [(o X (by omega)).1]; exact c8
  · rw [(o (X + 9) (by omega)).2.2.2]; exact c9
  · have := (c4 g hg).2.1
    exact ⟨(o a (by omega)).1, (o a (by omega)).2.1⟩
/-- the class' calls on its machine -/
theorem CI.m (C : CI X cnt P N M ρ gs n S D h) {M' : mT} {D' : sD} {h' : aH} (C' : CM X M' n S D' h') (o : cOut X D D') : CI X cnt P N M' ρ gs n S D' h' := by
  obtain ⟨c1, c2, c3, c4, c5, c6, c7, c8, c9, c10, c11, c12, c13⟩ := C
  refine ⟨C', c2, c3, c4.cg fun a ha => ⟨(o a (by omega)).1, (o a (by omega)).2.2.2⟩, c5, c6, c7, ?_, ?_, c10.cg (o _ (by omega)).2.1, c11, fun g hg => (c12 g hg).cg (fun a h1 h2 => ?_) rAt.rf, c13⟩
  · rw [(o X (by omega)).1]; exact c8
  · rw [(o (X + 9) (by omega)).2.2.2]; exact c9
  · have := (c4 g hg).2.1
    exact ⟨(o a (by omega)).1, (o a (by omega)).2.1⟩
theorem LayM.cg {S' : sS} (L : LayM Y S) (o : ∀ a, Y ≤ a → a ≤ Y + 29 → S' a = S a) : LayM Y S' := ⟨(o Y (by omega) (by omega)).trans L.1, fun k h1 h2 => (o _ (by omega) (by omega)).trans (L.2 k h1 h2)⟩
theorem NdM.cg {D' : sD} (W : NdM Y cnt N D) (o1 : D'.1 Y 9 = D.1 Y 9) (o : ∀ a, Y + 8 ≤ a → a ≤ Y + 14 → D'.2.1 a = D.2.1 a) : NdM Y cnt N D' := by
  obtain ⟨h1, h2⟩ := W
  refine ⟨o1.trans h1, ?_⟩
  rw [o (Y + 8) (by omega) (by omega), o (Y + 9) (by omega) (by omega), o (Y + 10) (by omega) (by omega), o (Y + 11) (by omega) (by omega), o (Y + 12) (by omega) (by omega), o (Y + 13) (by omega) (by omega), o (Y + 14) (by omega) (by omega)]
  exact h2
theorem MI.cg (C : MI Y cnt N M ρ gs n S D h) {n' : Nat} {S' : sS} {D' : sD} {h' : aH} (R' : HR n' S' D' h') (o : inC Y S D S' D') : MI Y cnt N M ρ gs n' S' D' h' := by
  obtain ⟨⟨⟨c1, c2, c3, c4⟩, c5, c6⟩, c7, c8⟩ := C
  refine ⟨⟨⟨R', c2.cg fun a h1 h2 => (o a h1 h2).1, c3.eq (fun k _ => by rw [(o Y (by omega) (by omega)).2.1]) (fun a h1 h2 => ⟨(o a h1 (by omega)).2.2.1, (o a h1 (by omega)).2.2.2.1⟩), c4⟩, c5.cg (by rw [(o Y (by omega) (by omega)).2.1]) (fun a h1 h2 => (o a (by omega) (by omega)).2.2.1), c6⟩, ?_, ?_⟩
  · unfold stO; rw [(o (Y + 20) (by omega) (by omega)).2.2.1, (o (Y + 19) (by omega) (by omega)).2.2.1]; exact c7
  · rw [(o Y (by omega) (by omega)).2.1]
    rcases c8 with c8 | ⟨e, c8⟩
    · exact Or.inl c8
    · exact Or.inr ⟨e, c8.w fun b h1 h2 => (o _ (by omega) (by omega)).2.2.1⟩
/-- the model's calls on its machine -/
theorem MI.m (C : MI Y cnt N M ρ gs n S D h) {M' : mT} {D' : sD} {h' : aH} (C' : MM Y M' n S D' h') (o : mOut Y D D') : MI Y cnt N M' ρ gs n S D' h' := by
  refine ⟨C.1.m C' o, ?_, ?_⟩
  · unfold stO; rw [(o.1 (Y + 20) (by omega) (by omega)).2.1, (o.1 (Y + 19) (by omega) (by omega)).2.1]; exact C.2.1
  · rw [o.2 28 (by omega)]
    rcases C.2.2 with c8 | ⟨e, c8⟩
    · exact Or.inl c8
    · exact Or.inr ⟨e, c8.w fun b h1 h2 => (o.1 _ (by omega) (by omega)).2.1⟩
theorem MI.r (C : MI Y cnt N M ρ gs n S D h) {M' : mT} {D' : sD} {h' : aH} {d : Nat} (C' : RM Y cnt N M' n S D' h') (o : rOut Y d D D') : MI Y cnt N M' ρ gs n S D' h' := by
  refine ⟨C', ?_, ?_⟩
  · unfold stO; rw [o.row (b := 20) (by omega), o.row (b := 19) (by omega)]; exact C.2.1
  · rw [o.2.1 28 (by omega) (by omega)]
    rcases C.2.2 with c8 | ⟨e, c8⟩
    · exact Or.inl c8
    · exact Or.inr ⟨e, c8.w fun b h1 h2 => o.row (by omega)⟩
theorem CI.R (C : CI X cnt P N M ρ gs n S D h) : HR n S D h := C.1.1
theorem CI.s0 (C : CI X cnt P N M ρ gs n S D h) : S X = some (.inr (8, [some (some (X + 1)), some (some (X + 9)), some (some (X + 10)), none])) := C.2.1.1
theorem CI.c80 (C : CI X cnt P N M ρ gs n S D h) : cnt ≤ 80 := C.2.2.2.2.2.2.2.2.2.2.2.2
theorem CI.W (C : CI X cnt P N M ρ gs n S D h) : NdC X cnt P N S D := C.2.2.2.1
theorem CI.cn (C : CI X cnt P N M ρ gs n S D h) : D.1 X 3 = nI cnt := C.2.2.2.2.2.2.2.1
theorem MI.R (C : MI Y cnt N M ρ gs n S D h) : HR n S D h := C.1.1.1
theorem MI.L (C : MI Y cnt N M ρ gs n S D h) : LayM Y S := C.1.1.2.1
theorem MI.c80 (C : MI Y cnt N M ρ gs n S D h) : cnt ≤ 80 := C.1.2.2
theorem MI.cn (C : MI Y cnt N M ρ gs n S D h) : D.1 Y 9 = nI cnt := C.1.2.1.1
/-- is it a node, a slot, a register -/
theorem cc_isNode (C : CI X cnt P N M ρ gs n S D h) {v : Int32} {Q : Int32 → aH → Prop} (h1 : nS v cnt → Q 1 h) (h0 : ¬ nS v cnt → Q 0 h) : isO h X 8 (wX10_isNode h X v Q) := by
  have c80 := C.c80
  have e := nS_iff (v := v) (k := cnt) (by omega)
  refine R_O C.R C.s0 ⟨fun z => ⟨Or.inl rfl, h0 (fun w => (e.mp w).1 z)⟩, fun z => R_I C.R C.s0 rfl ?_⟩
  rw [C.cn]
  exact ⟨fun y => ⟨Or.inl rfl, h0 (fun w => (e.mp w).2 y)⟩, fun y => ⟨Or.inr rfl, h1 (e.mpr ⟨z, y⟩)⟩⟩
theorem mm_isNode (C : MI Y cnt N M ρ gs n S D h) {v : Int32} {Q : Int32 → aH → Prop} (h1 : nS v cnt → Q 1 h) (h0 : ¬ nS v cnt → Q 0 h) : isO h Y 9 (wX11_isNode h Y v Q) := by
  have c80 := C.c80
  have e := nS_iff (v := v) (k := cnt) (by omega)
  refine R_O C.R C.L.1 (R_I C.R C.L.1 rfl (sm_in ⟨mIn_B _ _ _, ?_⟩))
  rw [C.cn]
  unfold mIn
  by_cases z : v < 0
  · rw [if_pos z]; exact h0 (fun w => (e.mp w).1 z)
  · rw [if_neg z]
    by_cases y : nI cnt - 1 < v
    · rw [if_pos y]; exact h0 (fun w => (e.mp w).2 ((nI_m1 (by omega) z).mp y))
    · rw [if_neg y]; exact h1 (e.mpr ⟨z, fun w => y ((nI_m1 (by omega) z).mpr w)⟩)
theorem cc_isSlot {v : Int32} {Q : Int32 → aH → Prop} (h1 : nS v 12 → Q 1 h) (h0 : ¬ nS v 12 → Q 0 h) : wX10_isSlot h v Q := by
  have e := nS_iff (v := v) (k := 12) (by omega)
  exact ⟨fun z => ⟨Or.inl rfl, h0 (fun w => (e.mp w).1 z)⟩, fun z => ⟨fun y => ⟨Or.inl rfl, h0 (fun w => (e.mp w).2 y)⟩, fun y => ⟨Or.inr rfl, h1 (e.mpr ⟨z, y⟩)⟩⟩⟩
theorem mm_in {v : Int32} {a b : Nat} (ha : a < 2 ^ 31) (hb : b < 2 ^ 31) {Q : Int32 → aH → Prop} (h1 : (∃ s : Nat, a ≤ s ∧ s ≤ b ∧ v = nI s) → Q 1 h) (h0 : ¬ (∃ s : Nat, a ≤ s ∧ s ≤ b ∧ v = nI s) → Q 0 h) : wX11_in h v (nI a) (nI b) Q := by
  refine sm_in ?_
  by_cases e : mIn v (nI a) (nI b) = 0
  · rw [e]; exact h0 (fun w => (mIn_iff ha hb).mpr w e)
  · rw [(mIn_B v (nI a) (nI b)).resolve_left e]; exact h1 ((mIn_iff ha hb).mp e)
theorem nS_in {v : Int32} {k : Nat} : nS v (k + 1) ↔ ∃ s : Nat, 0 ≤ s ∧ s ≤ k ∧ v = nI s := ⟨fun ⟨s, h1, h2⟩ => ⟨s, Nat.zero_le _, by omega, h2⟩, fun ⟨s, _, h1, h2⟩ => ⟨s, by omega, h2⟩⟩
theorem mm_isSlot {v : Int32} {Q : Int32 → aH → Prop} (h1 : nS v 12 → Q 1 h) (h0 : ¬ nS v 12 → Q 0 h) : wX11_isSlot h v Q := mm_in (a := 0) (b := 11) (by omega) (by omega) (fun w => ⟨Or.inr rfl, h1 (nS_in.mpr w)⟩) (fun w => ⟨Or.inl rfl, h0 (fun e => w (nS_in.mp e))⟩)
theorem mm_isReg {v : Int32} {Q : Int32 → aH → Prop} (h1 : nS v 8 → Q 1 h) (h0 : ¬ nS v 8 → Q 0 h) : wX11_isRegister h v Q := mm_in (a := 0) (b := 7) (by omega) (by omega) (fun w => ⟨Or.inr rfl, h1 (nS_in.mpr w)⟩) (fun w => ⟨Or.inl rfl, h0 (fun e => w (nS_in.mp e))⟩)
end INV
