/-! are the numbers of an ACT as told -/
def aOk (op a b c d : Int32) : Prop := ∃ o : Nat, op = nI o ∧ actOk o a b c d
theorem actOk_18 {o : Nat} {a b c d : Int32} (h : actOk o a b c d) : o < 18 := by
  rcases Nat.lt_or_ge o 18 with z | z
  · exact z
  · obtain ⟨e, rfl⟩ : ∃ e, o = e + 18 := ⟨o - 18, by omega⟩
    exact h.elim
theorem aOk_o {o : Nat} (ho : o < 2 ^ 31) {a b c d : Int32} : aOk (nI o) a b c d ↔ actOk o a b c d := by
  constructor
  · rintro ⟨o', e, h⟩
    have := actOk_18 h
    rw [(nI_eq ho (by omega)).mp e]; exact h
  · intro h; exact ⟨o, rfl, h⟩
def fit (f v : Int32) : Prop := f = -1 ∨ (nS v 12 ∧ ¬ (f >>> (v &&& 31)) &&& 1 = 0)
theorem sp_fits {h : aH} {f v : Int32} {Q : Int32 → aH → Prop} (h1 : fit f v → Q 1 h) (h0 : ¬ fit f v → Q 0 h) : wX0_fits h f v Q := by
  have e := nS_iff (v := v) (k := 12) (by omega)
  refine ⟨fun z => ⟨Or.inr rfl, h1 (Or.inl z)⟩, fun z => ⟨fun y => ⟨Or.inl rfl, h0 ?_⟩, fun y => ⟨fun x => ⟨Or.inl rfl, h0 ?_⟩, fun x => ⟨fun w => ⟨Or.inl rfl, h0 ?_⟩, fun w => ⟨Or.inr rfl, h1 (Or.inr ⟨e.mpr ⟨y, x⟩, w⟩)⟩⟩⟩⟩⟩
  · exact fun q => q.elim z fun q => (e.mp q.1).1 y
  · exact fun q => q.elim z fun q => (e.mp q.1).2 x
  · exact fun q => q.elim z fun q => q.2 w
theorem fit_m1 {v : Int32} : fit (-1) v ↔ True := ⟨fun _ => trivial, fun _ => Or.inl rfl⟩
theorem fit_of {f v : Int32} (hf : ¬ f = -1) {p : Nat → Prop} (hp : ∀ s, s < 12 → (¬ (f >>> (nI s &&& 31)) &&& 1 = 0 ↔ p s)) : fit f v ↔ ∃ s, s < 12 ∧ p s ∧ v = nI s := by
  constructor
  · rintro (e | ⟨⟨s, hs, rfl⟩, h⟩)
    · exact absurd e hf
    · exact ⟨s, hs, (hp s hs).mp h, rfl⟩
  · rintro ⟨s, hs, h, rfl⟩
    exact Or.inr ⟨⟨s, hs, rfl⟩, (hp s hs).mpr h⟩
theorem f4095 : ∀ s, s < 12 → (¬ ((4095 : Int32) >>> (nI s &&& 31)) &&& 1 = 0 ↔ s < 12) := by decide +kernel
theorem f1023 : ∀ s, s < 12 → (¬ ((1023 : Int32) >>> (nI s &&& 31)) &&& 1 = 0 ↔ s < 10) := by decide +kernel
theorem f255 : ∀ s, s < 12 → (¬ ((255 : Int32) >>> (nI s &&& 31)) &&& 1 = 0 ↔ s < 8) := by decide +kernel
theorem f30 : ∀ s, s < 12 → (¬ ((30 : Int32) >>> (nI s &&& 31)) &&& 1 = 0 ↔ (1 ≤ s ∧ s ≤ 4)) := by decide +kernel
theorem f224 : ∀ s, s < 12 → (¬ ((224 : Int32) >>> (nI s &&& 31)) &&& 1 = 0 ↔ (5 ≤ s ∧ s ≤ 7)) := by decide +kernel
theorem f254 : ∀ s, s < 12 → (¬ ((254 : Int32) >>> (nI s &&& 31)) &&& 1 = 0 ↔ (1 ≤ s ∧ s ≤ 7)) := by decide +kernel
theorem f222 : ∀ s, s < 12 → (¬ ((222 : Int32) >>> (nI s &&& 31)) &&& 1 = 0 ↔ (s = 1 ∨ s = 2 ∨ s = 3 ∨ s = 4 ∨ s = 6 ∨ s = 7)) := by decide +kernel
theorem fit_lt {f v : Int32} (hf : ¬ f = -1) {k : Nat} (hk : k ≤ 12) (hp : ∀ s, s < 12 → (¬ (f >>> (nI s &&& 31)) &&& 1 = 0 ↔ s < k)) : fit f v ↔ nS v k := by
  rw [fit_of hf hp]
  exact ⟨fun ⟨s, _, h2, h3⟩ => ⟨s, h2, h3⟩, fun ⟨s, h2, h3⟩ => ⟨s, by omega, h2, h3⟩⟩
theorem fit_bt {f v : Int32} (hf : ¬ f = -1) {a b : Nat} (hb : b < 12) (hp : ∀ s, s < 12 → (¬ (f >>> (nI s &&& 31)) &&& 1 = 0 ↔ (a ≤ s ∧ s ≤ b))) : fit f v ↔ ∃ k : Nat, a ≤ k ∧ k ≤ b ∧ v = nI k := by
  rw [fit_of hf hp]
  exact ⟨fun ⟨s, _, h2, h3⟩ => ⟨s, h2.1, h2.2, h3⟩, fun ⟨s, h1, h2, h3⟩ => ⟨s, by omega, ⟨h1, h2⟩, h3⟩⟩
theorem fit12 {v : Int32} : fit 4095 v ↔ nS v 12 := fit_lt (by decide) (by omega) f4095
theorem fit10 {v : Int32} : fit 1023 v ↔ nS v 10 := fit_lt (by decide) (by omega) f1023
theorem fit8 {v : Int32} : fit 255 v ↔ nS v 8 := fit_lt (by decide) (by omega) f255
theorem fit14 {v : Int32} : fit 30 v ↔ ∃ k : Nat, 1 ≤ k ∧ k ≤ 4 ∧ v = nI k := fit_bt (by decide) (by omega) f30
theorem fit57 {v : Int32} : fit 224 v ↔ ∃ k : Nat, 5 ≤ k ∧ k ≤ 7 ∧ v = nI k := fit_bt (by decide) (by omega) f224
theorem fit17 {v : Int32} : fit 254 v ↔ ∃ k : Nat, 1 ≤ k ∧ k ≤ 7 ∧ v = nI k := fit_bt (by decide) (by omega) f254
theorem fitN {v : Int32} : fit 222 v ↔ (v = 1 ∨ v = 2 ∨ v = 3 ∨ v = 4 ∨ v = 6 ∨ v = 7) := by
  rw [fit_of (by decide) f222]
  constructor
  · rintro ⟨s, -, e | e | e | e | e | e, rfl⟩ <;> subst e
    · exact Or.inl rfl
    · exact Or.inr (Or.inl rfl)
    · exact Or.inr (Or.inr (Or.inl rfl))
    · exact Or.inr (Or.inr (Or.inr (Or.inl rfl)))
    · exact Or.inr (Or.inr (Or.inr (Or.inr (Or.inl rfl))))
    · exact Or.inr (Or.inr (Or.inr (Or.inr (Or.inr rfl))))
  · rintro (rfl | rfl | rfl | rfl | rfl | rfl)
    · exact ⟨1, by omega, by omega, rfl⟩
    · exact ⟨2, by omega, by omega, rfl⟩
    · exact ⟨3, by omega, by omega, rfl⟩
    · exact ⟨4, by omega, by omega, rfl⟩
    · exact ⟨6, by omega, by omega, rfl⟩
    · exact ⟨7, by omega, by omega, rfl⟩
def fF (j : Nat) : Int32 := (a_tc 0).getD j 0
theorem act_fit {a b c d : Int32} : ∀ o, o < 18 → (actOk o a b c d ↔ fit (fF (4 * o)) a ∧ fit (fF (4 * o + 1)) b ∧ fit (fF (4 * o + 2)) c ∧ fit (fF (4 * o + 3)) d)
  | 0, _ => by show _ ↔ fit 4095 a ∧ fit 222 b ∧ fit (-1) c ∧ fit (-1) d; rw [fit12, fitN, fit_m1, fit_m1]; simp [actOk]
  | 1, _ => by show _ ↔ fit 4095 a ∧ fit (-1) b ∧ fit (-1) c ∧ fit (-1) d; rw [fit12, fit_m1, fit_m1, fit_m1]; simp [actOk]
  | 2, _ => by show _ ↔ fit 4095 a ∧ fit (-1) b ∧ fit (-1) c ∧ fit (-1) d; rw [fit12, fit_m1, fit_m1, fit_m1]; simp [actOk]
  | 3, _ => by show _ ↔ fit 4095 a ∧ fit (-1) b ∧ fit (-1) c ∧ fit (-1) d; rw [fit12, fit_m1, fit_m1, fit_m1]; simp [actOk]
  | 4, _ => by show _ ↔ fit 4095 a ∧ fit 4095 b ∧ fit 1023 c ∧ fit (-1) d; rw [fit12, fit12, fit10, fit_m1]; simp [actOk]
  | 5, _ => by show _ ↔ fit 255 a ∧ fit 4095 b ∧ fit 30 c ∧ fit (-1) d; rw [fit8, fit12, fit14, fit_m1]; simp [actOk]
  | 6, _ => by show _ ↔ fit 4095 a ∧ fit 30 b ∧ fit (-1) c ∧ fit 255 d; rw [fit12, fit14, fit_m1, fit8]; simp [actOk]
  | 7, _ => by show _ ↔ fit 4095 a ∧ fit 4095 b ∧ fit 224 c ∧ fit (-1) d; rw [fit12, fit12, fit57, fit_m1]; simp [actOk]
  | 8, _ => by show _ ↔ fit 4095 a ∧ fit 224 b ∧ fit (-1) c ∧ fit 4095 d; rw [fit12, fit57, fit_m1, fit12]; simp [actOk]
  | 9, _ => by show _ ↔ fit 255 a ∧ fit 4095 b ∧ fit 254 c ∧ fit (-1) d; rw [fit8, fit12, fit17, fit_m1]; simp [actOk]
  | 10, _ => by show _ ↔ fit 4095 a ∧ fit 4095 b ∧ fit (-1) c ∧ fit (-1) d; rw [fit12, fit12, fit_m1, fit_m1]; simp [actOk]
  | 11, _ => by show _ ↔ fit 255 a ∧ fit 4095 b ∧ fit (-1) c ∧ fit (-1) d; rw [fit8, fit12, fit_m1, fit_m1]; simp [actOk]
  | 12, _ => by show _ ↔ fit 4095 a ∧ fit (-1) b ∧ fit 4095 c ∧ fit (-1) d; rw [fit12, fit_m1, fit12, fit_m1]; simp [actOk]
  | 13, _ => by show _ ↔ fit 255 a ∧ fit (-1) b ∧ fit (-1) c ∧ fit (-1) d; rw [fit8, fit_m1, fit_m1, fit_m1]; simp [actOk]
  | 14, _ => by show _ ↔ fit 255 a ∧ fit 255 b ∧ fit 255 c ∧ fit (-1) d; rw [fit8, fit8, fit8, fit_m1]; simp [actOk]
  | 15, _ => by show _ ↔ fit 255 a ∧ fit 255 b ∧ fit 255 c ∧ fit (-1) d; rw [fit8, fit8, fit8, fit_m1]; simp [actOk]
  | 16, _ => by show _ ↔ fit 255 a ∧ fit 255 b ∧ fit 255 c ∧ fit (-1) d; rw [fit8, fit8, fit8, fit_m1]; simp [actOk]
  | 17, _ => by show _ ↔ fit (-1) a ∧ fit (-1) b ∧ fit (-1) c ∧ fit (-1) d; rw [fit_m1, fit_m1, fit_m1, fit_m1]; simp [actOk]
  | o + 18, h => absurd h (by omega)
theorem len0 : (a_tc 0).length = 72 := by decide +kernel
theorem tB0 {j : Nat} (hj : j < 72) {K : Int32 → Prop} (hK : K (fF j)) : tB 0 (nI j) K := by
  refine ⟨fF j, ?_, ?_, hK⟩
  · rw [len0]; exact vp_in_nI hj (by omega)
  · rw [nI_clamp (by omega)]; rfl
theorem cc_isAsTold {h : aH} {op a b c d : Int32} {Q : Int32 → aH → Prop} (h1 : aOk op a b c d → Q 1 h) (h0 : ¬ aOk op a b c d → Q 0 h) : wX0_isAsTold h op a b c d Q := by
  refine ⟨fun z => ⟨Or.inl rfl, h0 ?_⟩, fun z => ⟨fun y => ⟨Or.inl rfl, h0 ?_⟩, fun y => ?_⟩⟩
  · rintro ⟨o, rfl, e⟩
    have := actOk_18 e
    exact nI_pos (by omega) z
  · rintro ⟨o, rfl, e⟩
    have := actOk_18 e
    exact absurd ((nI_ltI (a := 17) (by omega) (by omega)).mp y) (by omega)
  · obtain ⟨o, ho, rfl⟩ := nI_of z
    have ho : o < 18 := by
      have : ¬ 17 < o := fun e => y ((nI_ltI (a := 17) (by omega) ho).mpr e)
      omega
    have af := act_fit (a := a) (b := b) (c := c) (d := d) o ho
    rw [aOk_o (by omega), af] at h1 h0
    have e0 : (4 : Int32) * nI o = nI (4 * o) := nI_mul 4 o
    have e1 : nI (4 * o) + 1 = nI (4 * o + 1) := nI_add _ 1
    have e2 : nI (4 * o) + 2 = nI (4 * o + 2) := nI_add _ 2
    have e3 : nI (4 * o) + 3 = nI (4 * o + 3) := nI_add _ 3
    rw [e0, e1, e2, e3]
    refine tB0 (by omega) (sp_fits (fun fa => ⟨fun w => absurd w (by decide), fun _ => tB0 (by omega) (sp_fits (fun fb => ⟨fun w => absurd w (by decide), fun _ => tB0 (by omega) (sp_fits (fun fc => ⟨fun w => absurd w (by decide), fun _ => tB0 (by omega) (sp_fits (fun fd => ⟨fun w => absurd w (by decide), fun _ => ⟨Or.inr rfl, h1 ⟨fa, fb, fc, fd⟩⟩⟩) (fun nf => ⟨fun _ => ⟨Or.inl rfl, h0 fun q => nf q.2.2.2⟩, fun w => absurd rfl w⟩))⟩) (fun nf => ⟨fun _ => ⟨Or.inl rfl, h0 fun q => nf q.2.2.1⟩, fun w => absurd rfl w⟩))⟩) (fun nf => ⟨fun _ => ⟨Or.inl rfl, h0 fun q => nf q.2.1⟩, fun w => absurd rfl w⟩))⟩) (fun nf => ⟨fun _ => ⟨Or.inl rfl, h0 fun q => nf q.1⟩, fun w => absurd rfl w⟩))
theorem i32_of {v : Int32} {o : Nat} (h : v.toInt = (o : Int)) (ho : o < 2 ^ 31) : v = nI o := by
  rw [← Int32.toInt_inj, h, nI_toInt ho]
theorem mm_isAct {h : aH} {op a b c d : Int32} {Q : Int32 → aH → Prop} (h1 : aOk op a b c d → Q 1 h) (h0 : ¬ aOk op a b c d → Q 0 h) : wX11_isAct h op a b c d Q := by
  have key : ∀ o : Nat, o < 18 → op.toInt = (o : Int) → (actOk o a b c d → Q 1 h) ∧ (¬ actOk o a b c d → Q 0 h) := by
    intro o ho e
    have := i32_of e (by omega)
    subst this
    rw [aOk_o (by omega)] at h1 h0
    exact ⟨h1, h0⟩
  have no : ∀ {A B : Prop}, B → ((0 : Int32) = 0 → B) ∧ (¬ (0 : Int32) = 0 → A) := fun b => ⟨fun _ => b, fun w => absurd rfl w⟩
  have yes : ∀ {A B : Prop}, A → ((1 : Int32) = 0 → B) ∧ (¬ (1 : Int32) = 0 → A) := fun a => ⟨fun w => absurd w (by decide), fun _ => a⟩
  refine ⟨fun z => ⟨fun y => ⟨Or.inl rfl, h0 ?_⟩, fun y => ⟨Or.inr rfl, h1 ⟨17, y, trivial⟩⟩⟩, fun z => ?_, fun z => ?_, fun z => ?_, fun z => ?_, fun z => ?_, fun z => ?_, fun z => ?_, fun z => ?_, fun z => ?_, fun z => ?_, fun z => ?_, fun z => ?_, fun z => ?_, fun z => ?_, fun z => ?_, fun z => ?_, fun z => ?_⟩
  · rintro ⟨o, rfl, e⟩
    have l18 := actOk_18 e
    rw [nI_int (by omega)] at z
    have : o = 17 := by omega
    exact y (by rw [this]; rfl)
  · obtain ⟨k1, k0⟩ := key 0 (by omega) z
    refine mm_isSlot (fun sa => yes (mm_in (a := 1) (b := 7) (by omega) (by omega) (fun sb => yes ⟨fun w => ⟨Or.inl rfl, k0 fun q => ?_⟩, fun w => ⟨Or.inr rfl, k1 ⟨sa, ?_⟩⟩⟩) (fun nb => no ⟨Or.inl rfl, k0 fun q => nb ?_⟩))) (fun na => no ⟨Or.inl rfl, k0 fun q => na q.1⟩)
    · rw [w] at q
      rcases q.2 with e | e | e | e | e | e <;> exact absurd e (by decide)
    · obtain ⟨s, hs1, hs7, rfl⟩ := sb
      have : s ≠ 5 := fun e => w (by rw [e]; rfl)
      rcases (show s = 1 ∨ s = 2 ∨ s = 3 ∨ s = 4 ∨ s = 6 ∨ s = 7 by omega) with rfl | rfl | rfl | rfl | rfl | rfl
      · exact Or.inl rfl
      · exact Or.inr (Or.inl rfl)
      · exact Or.inr (Or.inr (Or.inl rfl))
      · exact Or.inr (Or.inr (Or.inr (Or.inl rfl)))
      · exact Or.inr (Or.inr (Or.inr (Or.inr (Or.inl rfl))))
      · exact Or.inr (Or.inr (Or.inr (Or.inr (Or.inr rfl))))
    · rcases q.2 with rfl | rfl | rfl | rfl | rfl | rfl
      · exact ⟨1, by omega, by omega, rfl⟩
      · exact ⟨2, by omega, by omega, rfl⟩
      · exact ⟨3, by omega, by omega, rfl⟩
      · exact ⟨4, by omega, by omega, rfl⟩
      · exact ⟨6, by omega, by omega, rfl⟩
      · exact ⟨7, by omega, by omega, rfl⟩
  · obtain ⟨k1, k0⟩ := key 1 (by omega) z
    exact mm_isSlot (fun sa => ⟨Or.inr rfl, k1 sa⟩) (fun na => ⟨Or.inl rfl, k0 na⟩)
  · obtain ⟨k1, k0⟩ := key 2 (by omega) z
    exact mm_isSlot (fun sa => ⟨Or.inr rfl, k1 sa⟩) (fun na => ⟨Or.inl rfl, k0 na⟩)
  · obtain ⟨k1, k0⟩ := key 3 (by omega) z
    exact mm_isSlot (fun sa => ⟨Or.inr rfl, k1 sa⟩) (fun na => ⟨Or.inl rfl, k0 na⟩)
  · obtain ⟨k1, k0⟩ := key 4 (by omega) z
    exact mm_isSlot (fun sa => yes (mm_isSlot (fun sb => yes (mm_in (a := 0) (b := 9) (by omega) (by omega) (fun sc => yes ⟨Or.inr rfl, k1 ⟨sa, sb, nS_in.mpr sc⟩⟩) (fun nc => no ⟨Or.inl rfl, k0 fun q => nc (nS_in.mp q.2.2)⟩))) (fun nb => no ⟨Or.inl rfl, k0 fun q => nb q.2.1⟩))) (fun na => no ⟨Or.inl rfl, k0 fun q => na q.1⟩)
  · obtain ⟨k1, k0⟩ := key 5 (by omega) z
    exact mm_isReg (fun sa => yes (mm_isSlot (fun sb => yes (mm_in (a := 1) (b := 4) (by omega) (by omega) (fun sc => yes ⟨Or.inr rfl, k1 ⟨sa, sb, sc⟩⟩) (fun nc => no ⟨Or.inl rfl, k0 fun q => nc q.2.2⟩))) (fun nb => no ⟨Or.inl rfl, k0 fun q => nb q.2.1⟩))) (fun na => no ⟨Or.inl rfl, k0 fun q => na q.1⟩)
  · obtain ⟨k1, k0⟩ := key 6 (by omega) z
    exact mm_isSlot (fun sa => yes (mm_in (a := 1) (b := 4) (by omega) (by omega) (fun sb => yes (mm_isReg (fun sc => yes ⟨Or.inr rfl, k1 ⟨sa, sb, sc⟩⟩) (fun nc => no ⟨Or.inl rfl, k0 fun q => nc q.2.2⟩))) (fun nb => no ⟨Or.inl rfl, k0 fun q => nb q.2.1⟩))) (fun na => no ⟨Or.inl rfl, k0 fun q => na q.1⟩)
  · obtain ⟨k1, k0⟩ := key 7 (by omega) z
    exact mm_isSlot (fun sa => yes (mm_isSlot (fun sb => yes (mm_in (a := 5) (b := 7) (by omega) (by omega) (fun sc => yes ⟨Or.inr rfl, k1 ⟨sa, sb, sc⟩⟩) (fun nc => no ⟨Or.inl rfl, k0 fun q => nc q.2.2⟩))) (fun nb => no ⟨Or.inl rfl, k0 fun q => nb q.2.1⟩))) (fun na => no ⟨Or.inl rfl, k0 fun q => na q.1⟩)
  · obtain ⟨k1, k0⟩ := key 8 (by omega) z
    exact mm_isSlot (fun sa => yes (mm_in (a := 5) (b := 7) (by omega) (by omega) (fun sb => yes (mm_isSlot (fun sc => yes ⟨Or.inr rfl, k1 ⟨sa, sb, sc⟩⟩) (fun nc => no ⟨Or.inl rfl, k0 fun q => nc q.2.2⟩))) (fun nb => no ⟨Or.inl rfl, k0 fun q => nb q.2.1⟩))) (fun na => no ⟨Or.inl rfl, k0 fun q => na q.1⟩)
  · obtain ⟨k1, k0⟩ := key 9 (by omega) z
    exact mm_isReg (fun sa => yes (mm_isSlot (fun sb => yes (mm_in (a := 1) (b := 7) (by omega) (by omega) (fun sc => yes ⟨Or.inr rfl, k1 ⟨sa, sb, sc⟩⟩) (fun nc => no ⟨Or.inl rfl, k0 fun q => nc q.2.2⟩))) (fun nb => no ⟨Or.inl rfl, k0 fun q => nb q.2.1⟩))) (fun na => no ⟨Or.inl rfl, k0 fun q => na q.1⟩)
  · obtain ⟨k1, k0⟩ := key 10 (by omega) z
    exact mm_isSlot (fun sa => yes (mm_isSlot (fun sb => yes ⟨Or.inr rfl, k1 ⟨sa, sb⟩⟩) (fun nb => no ⟨Or.inl rfl, k0 fun q => nb q.2⟩))) (fun na => no ⟨Or.inl rfl, k0 fun q => na q.1⟩)
  · obtain ⟨k1, k0⟩ := key 11 (by omega) z
    exact mm_isReg (fun sa => yes (mm_isSlot (fun sb => yes ⟨Or.inr rfl, k1 ⟨sa, sb⟩⟩) (fun nb => no ⟨Or.inl rfl, k0 fun q => nb q.2⟩))) (fun na => no ⟨Or.inl rfl, k0 fun q => na q.1⟩)
  · obtain ⟨k1, k0⟩ := key 12 (by omega) z
    exact mm_isSlot (fun sa => yes (mm_isSlot (fun sb => yes ⟨Or.inr rfl, k1 ⟨sa, sb⟩⟩) (fun nb => no ⟨Or.inl rfl, k0 fun q => nb q.2⟩))) (fun na => no ⟨Or.inl rfl, k0 fun q => na q.1⟩)
  · obtain ⟨k1, k0⟩ := key 13 (by omega) z
    exact mm_isReg (fun sa => ⟨Or.inr rfl, k1 sa⟩) (fun na => ⟨Or.inl rfl, k0 na⟩)
  · obtain ⟨k1, k0⟩ := key 14 (by omega) z
    exact mm_isReg (fun sa => yes (mm_isReg (fun sb => yes (mm_isReg (fun sc => yes ⟨Or.inr rfl, k1 ⟨sa, sb, sc⟩⟩) (fun nc => no ⟨Or.inl rfl, k0 fun q => nc q.2.2⟩))) (fun nb => no ⟨Or.inl rfl, k0 fun q => nb q.2.1⟩))) (fun na => no ⟨Or.inl rfl, k0 fun q => na q.1⟩)
  · obtain ⟨k1, k0⟩ := key 15 (by omega) z
    exact mm_isReg (fun sa => yes (mm_isReg (fun sb => yes (mm_isReg (fun sc => yes ⟨Or.inr rfl, k1 ⟨sa, sb, sc⟩⟩) (fun nc => no ⟨Or.inl rfl, k0 fun q => nc q.2.2⟩))) (fun nb => no ⟨Or.inl rfl, k0 fun q => nb q.2.1⟩))) (fun na => no ⟨Or.inl rfl, k0 fun q => na q.1⟩)
  · obtain ⟨k1, k0⟩ := key 16 (by omega) z
    exact mm_isReg (fun sa => yes (mm_isReg (fun sb => yes (mm_isReg (fun sc => yes ⟨Or.inr rfl, k1 ⟨sa, sb, sc⟩⟩) (fun nc => no ⟨Or.inl rfl, k0 fun q => nc q.2.2⟩))) (fun nb => no ⟨Or.inl rfl, k0 fun q => nb q.2.1⟩))) (fun na => no ⟨Or.inl rfl, k0 fun q => na q.1⟩)
