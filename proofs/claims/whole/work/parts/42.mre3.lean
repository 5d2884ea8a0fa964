/-! COPY in the model's report: two loops over the KINDS -/
def mPartly (j k : Int32) : Int32 := if (j = 5 ∧ (k = 6 ∨ k = 7)) ∨ ((j = 6 ∨ j = 7) ∧ k = 5) ∨ (j = 6 ∧ k = 7) then 1 else 0
theorem sm_partly {h : aH} {j k : Int32} {Q : Int32 → aH → Prop} (hq : Q (mPartly j k) h) : wX11_partly h j k Q := by
  unfold mPartly at hq
  have y : (j = 5 ∧ (k = 6 ∨ k = 7)) ∨ ((j = 6 ∨ j = 7) ∧ k = 5) ∨ (j = 6 ∧ k = 7) → wbX11_partly_46 h Q := fun c => ⟨Or.inr rfl, by rwa [if_pos c] at hq⟩
  have z : ¬ ((j = 5 ∧ (k = 6 ∨ k = 7)) ∨ ((j = 6 ∨ j = 7) ∧ k = 5) ∨ (j = 6 ∧ k = 7)) → wbX11_partly_50 h Q := fun c => ⟨Or.inl rfl, by rwa [if_neg c] at hq⟩
  have k34 : ¬ (j = 5 ∧ (k = 6 ∨ k = 7)) → ¬ ((j = 6 ∨ j = 7) ∧ k = 5) → wbX11_partly_34 j k h Q := fun a b => ⟨fun c => z (fun e => e.elim a (fun e => e.elim b (fun e => c e.1))), fun c => ⟨fun e => z (fun f => f.elim a (fun f => f.elim b (fun f => e f.2))), fun e => y (Or.inr (Or.inr ⟨c, e⟩))⟩⟩
  have k29 : ¬ (j = 5 ∧ (k = 6 ∨ k = 7)) → (j = 6 ∨ j = 7) → wbX11_partly_29 j k h Q := fun a b => ⟨fun c => y (Or.inr (Or.inl ⟨b, c⟩)), fun c => k34 a (fun e => c e.2)⟩
  have k17 : ¬ (j = 5 ∧ (k = 6 ∨ k = 7)) → wbX11_partly_17 j k h Q := fun a => ⟨fun b => k29 a (Or.inl b), fun b => ⟨fun c => k34 a (fun e => e.1.elim b c), fun c => k29 a (Or.inr c)⟩⟩
  exact ⟨fun a => k17 (fun e => a e.1), fun a => ⟨fun b => y (Or.inl ⟨a, Or.inl b⟩), fun b => ⟨fun c => y (Or.inl ⟨a, Or.inr c⟩), fun c => k17 (fun e => e.2.elim b c)⟩⟩⟩
abbrev cT : Type := Int32 × Int32 × Int32
def cStep (j k : Nat) (t : cT) : cT :=
  (t.1 ||| (if mMeet (nI j) (nI k) = 0 then 1 else mPartly (nI j) (nI k)), t.2.1 ||| (if mMeet (nI j) (nI k) = 0 then (0 : Int32) else 1 <<< (nI j &&& 31)), t.2.2 ||| (if mMeet (nI j) (nI k) = 0 then (0 : Int32) else 1 <<< (nI k &&& 31)))
def cIn (c : Int32) (j : Nat) : Nat → Nat → cT → cT
  | 0, _, t => t
  | i + 1, k, t => cIn c j i (k + 1) (if (c >>> (nI k &&& 31)) &&& 1 = 1 then cStep j k t else t)
def cOu (a c : Int32) : Nat → Nat → cT → cT
  | 0, _, t => t
  | i + 1, j, t => cOu a c i (j + 1) (if (a >>> (nI j &&& 31)) &&& 1 = 1 then cIn c j 9 1 t else t)
theorem cIn_or (c : Int32) (j : Nat) (u : cT) : ∀ i k t, cIn c j i k (u.1 ||| t.1, u.2.1 ||| t.2.1, u.2.2 ||| t.2.2) = (u.1 ||| (cIn c j i k t).1, u.2.1 ||| (cIn c j i k t).2.1, u.2.2 ||| (cIn c j i k t).2.2)
  | 0, k, t => rfl
  | i + 1, k, t => by
    unfold cIn
    by_cases e : (c >>> (nI k &&& 31)) &&& 1 = 1
    · rw [if_pos e, if_pos e]
      have : cStep j k (u.1 ||| t.1, u.2.1 ||| t.2.1, u.2.2 ||| t.2.2) = (u.1 ||| (cStep j k t).1, u.2.1 ||| (cStep j k t).2.1, u.2.2 ||| (cStep j k t).2.2) := by
        unfold cStep
        simp only [Int32.or_assoc]
      rw [this]
      exact cIn_or c j u i (k + 1) _
    · rw [if_neg e, if_neg e]
      exact cIn_or c j u i (k + 1) t
theorem cIn_0 (c : Int32) (j : Nat) (t : cT) : cIn c j 9 1 t = (t.1 ||| (cIn c j 9 1 (0, 0, 0)).1, t.2.1 ||| (cIn c j 9 1 (0, 0, 0)).2.1, t.2.2 ||| (cIn c j 9 1 (0, 0, 0)).2.2) := by
  have := cIn_or c j t 9 1 (0, 0, 0)
  simp only [or_0] at this
  exact this
/-- what the loop over the other KINDS gives: for an even set -/
theorem cIn_x : ∀ j, j < 10 → ∀ c, c < 512 → (cIn (nI (2 * c)) j 9 1 (0, 0, 0)).2.1 = (if kTab 2 (nI j) &&& nI (2 * c) = 0 then (0 : Int32) else 1 <<< (nI j &&& 31)) := by decide +kernel
theorem cIn_y : ∀ j, j < 10 → ∀ c, c < 512 → (cIn (nI (2 * c)) j 9 1 (0, 0, 0)).2.2 = kTab 2 (nI j) &&& nI (2 * c) := by decide +kernel
theorem cIn_b : ∀ j, j < 10 → ∀ c, c < 512 → ((cIn (nI (2 * c)) j 9 1 (0, 0, 0)).1 = 0 ↔ nI (2 * c) &&& (kTab 3 (nI j) ^^^ (-1)) = 0) := by decide +kernel
