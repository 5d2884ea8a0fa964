/-! the constructors -/
def zD (n : Nat) (D : sD) : Prop := ∀ a, n ≤ a → (∀ k, D.1 a k = 0) ∧ (∀ k, D.2.1 a k = 0) ∧ (∀ k, D.2.2.1 a k = 0) ∧ ∀ k, D.2.2.2 a k = none
theorem zD.mono {n m : Nat} {D : sD} (h : zD n D) (hm : n ≤ m) : zD m D := fun a ha => h a (by omega)
section CON
variable {n : Nat} {S : sS} {D : sD} {h : aH}
theorem A_o (R : HR n S D h) (f : fr n S) (z : zD n D) {ci : Nat} {fl : List (Option (Option Nat))} {vals : List Value} (e : s_f (fun _ => 0) 0 fl = vals) {K : Nat → aH → Prop} (hK : ∀ h' S', HR (n + 1) S' D h' → fr (n + 1) S' → (∀ a, a ≠ n → S' a = S a) → S' n = some (.inr (ci, fl)) → K n h') : ∀ (q : Nat) (h1 : aH), q = h.1 → h1 = a_nw h (.inr (ci, vals)) → K q h1 := by
  intro q h1 eq eh
  rw [eq, eh, R.1]
  refine hK _ _ (R.nw (D1 := D) (sh := .inr (ci, fl)) ?_ fun b s _ => rfl) f.up (fun a ha => by simp only [va_up]; rw [if_neg ha]) (by simp only [va_up, if_pos])
  have : D.1 n = fun _ => 0 := funext (z n (Nat.le_refl n)).1
  simp only [s_c]; rw [this, e]
theorem A_F (R : HR n S D h) (f : fr n S) (z : zD n D) {t len : Nat} (ht : t = 0 ∨ t = 2) {K : Nat → aH → Prop} (hK : ∀ h' S', HR (n + 1) S' D h' → fr (n + 1) S' → (∀ a, a ≠ n → S' a = S a) → S' n = some (.inl (t, len)) → K n h') : ∀ (q : Nat) (h1 : aH), q = h.1 → h1 = a_nw h (.inl (t, len, .inl (fun _ => 0))) → K q h1 := by
  intro q h1 eq eh
  rw [eq, eh, R.1]
  refine hK _ _ (R.nw (D1 := D) (sh := .inl (t, len)) ?_ fun b s _ => rfl) f.up (fun a ha => by simp only [va_up]; rw [if_neg ha]) (by simp only [va_up, if_pos])
  have : D.2.1 n = fun _ => 0 := funext (z n (Nat.le_refl n)).2.1
  rcases ht with rfl | rfl <;> simp only [s_c] <;> rw [this]
theorem A_B (R : HR n S D h) (f : fr n S) (z : zD n D) {len : Nat} {K : Nat → aH → Prop} (hK : ∀ h' S', HR (n + 1) S' D h' → fr (n + 1) S' → (∀ a, a ≠ n → S' a = S a) → S' n = some (.inl (1, len)) → K n h') : ∀ (q : Nat) (h1 : aH), q = h.1 → h1 = a_nw h (.inl (1, len, .inr (.inl (fun _ => 0)))) → K q h1 := by
  intro q h1 eq eh
  rw [eq, eh, R.1]
  refine hK _ _ (R.nw (D1 := D) (sh := .inl (1, len)) ?_ fun b s _ => rfl) f.up (fun a ha => by simp only [va_up]; rw [if_neg ha]) (by simp only [va_up, if_pos])
  have : D.2.2.1 n = fun _ => 0 := funext (z n (Nat.le_refl n)).2.2.1
  simp only [s_c]; rw [this]
theorem A_P (R : HR n S D h) (f : fr n S) (z : zD n D) {len : Nat} {K : Nat → aH → Prop} (hK : ∀ h' S', HR (n + 1) S' D h' → fr (n + 1) S' → (∀ a, a ≠ n → S' a = S a) → S' n = some (.inl (3, len)) → K n h') : ∀ (q : Nat) (h1 : aH), q = h.1 → h1 = a_nw h (.inl (3, len, .inr (.inr (.inr (.inr (fun _ => none)))))) → K q h1 := by
  intro q h1 eq eh
  rw [eq, eh, R.1]
  refine hK _ _ (R.nw (D1 := D) (sh := .inl (3, len)) ?_ fun b s _ => rfl) f.up (fun a ha => by simp only [va_up]; rw [if_neg ha]) (by simp only [va_up, if_pos])
  have : D.2.2.2 n = fun _ => none := funext (z n (Nat.le_refl n)).2.2.2
  simp only [s_c]; rw [this]
/-- what the class' constructor leaves -/
def cIni (X : Nat) (S : sS) (D : sD) : Prop := LayC X S ∧ L0 X S ∧ stR (X + 10) (fun _ => 1) D ∧ (∀ a k, D.1 a k = if a = X + 1 ∧ k = 8 then -1 else 0) ∧ (∀ a k, a ≠ X + 11 → D.2.1 a k = 0) ∧ (∀ a k, D.2.2.1 a k = 0) ∧ ∀ a k, D.2.2.2 a k = none
theorem c_puts {X : Nat} (s0 : S X = some (.inr (8, [some (some (X + 1)), some (some (X + 9)), some (some (X + 10)), none]))) (L : StL (X + 10) S) {D0 : sD} {Q : aH → Prop} (hq : ∀ h' D', HR n S D' h' → sOn (X + 11) D0 D' → stR (X + 10) (fun _ => 1) D' → Q h') : ∀ (j i : Nat) (D : sD) (h : aH), j + i = 12 → HR n S D h → sOn (X + 11) D0 D → stR (X + 10) (fun k => if k < i then 1 else 0) D → wbX10_init_37 (j + 1) X (nI i) h Q
  | 0, i, D, h, hi, R, o, s => by
    have e : i = 12 := by omega
    subst e
    refine ⟨fun _ => hq h D R o fun k hk => ?_, fun z => absurd (nI_le (Nat.le_refl 12) (by omega)) z⟩
    have := s k hk
    simp only [if_pos hk] at this; exact this
  | j + 1, i, D, h, hi, R, o, s => by
    refine ⟨fun z => absurd ((nI_leI (a := 12) (by omega) (by omega)).mp z) (by omega), fun _ => R_R R s0 rfl (R_O R L.1 (st_put R L s (c := i) (by omega) fun h1 D1 R1 o1 s1 => ?_))⟩
    show wbX10_init_37 (j + 1) X (nI i + 1) h1 Q
    rw [nI_1]
    refine c_puts s0 L hq j (i + 1) D1 h1 (by omega) R1 (o.tr o1) fun k hk => ?_
    have := s1 k hk
    rw [this]
    simp only [upd]
    by_cases e : k = i
    · rw [if_pos e, if_pos (by omega)]
    · rw [if_neg e]
      by_cases e2 : k < i
      · rw [if_pos e2, if_pos (by omega)]
      · rw [if_neg e2, if_neg (by omega)]
def D00 : sD := (fun _ _ => 0, fun _ _ => 0, fun _ _ => 0, fun _ _ => none)
theorem zD_00 {n : Nat} : zD n D00 := fun _ _ => ⟨fun _ => rfl, fun _ => rfl, fun _ => rfl, fun _ => rfl⟩
theorem cc_init {X : Nat} {Q : Nat → aH → Prop} (hq : ∀ h' S' D', HR (X + 12) S' D' h' → fr (X + 12) S' → cIni X S' D' → Q X h') : ∀ (q : Nat) (h1 : aH), q = ((X, fun _ => none) : aH).1 → h1 = a_nw ((X, fun _ => none) : aH) (.inr (8, [.null, .null, .null, .int 0])) → wX10_init h1 q (fun h2 => Q q h2) := by
  have R0 : HR X (fun _ => none) D00 (X, fun _ => none) := ⟨rfl, fun a s e => by cases e⟩
  refine A_o (ci := 8) (fl := [some none, some none, some none, none]) R0 (fun _ _ => rfl) zD_00 rfl fun h1 S1 R1 f1 o1 s1 => ?_
  refine A_o (ci := 4) (fl := [some none, some none, some none, none, none, none, none, none, none]) R1 f1 zD_00 rfl fun h2 S2 R2 f2 o2 s2 => ?_
  refine A_o (ci := 6) (fl := [some none, some none, some none, some none, none, none]) R2 f2 zD_00 rfl fun h3 S3 R3 f3 o3 s3 => ?_
  refine A_F R3 f3 zD_00 (Or.inl rfl) fun h4 S4 R4 f4 o4 s4 => ?_
  refine W_r (r0 := none) R4 (a := X + 2) (by simp (disch := omega) only [o4]; exact s3) rfl (some (X + 3)) fun h5 S5 R5 o5 s5 => ?_
  have f5 := f4.of (p := X + 2) (by omega) o5
  refine A_F R5 f5 zD_00 (Or.inl rfl) fun h6 S6 R6 f6 o6 s6 => ?_
  refine W_r (r0 := none) R6 (a := X + 2) (by simp (disch := omega) only [o6]; exact s5) rfl (some (X + 4)) fun h7 S7 R7 o7 s7 => ?_
  have f7 := f6.of (p := X + 2) (by omega) o7
  refine A_F R7 f7 zD_00 (Or.inl rfl) fun h8 S8 R8 f8 o8 s8 => ?_
  refine W_r (r0 := none) R8 (a := X + 2) (by simp (disch := omega) only [o8]; exact s7) rfl (some (X + 5)) fun h9 S9 R9 o9 s9 => ?_
  have f9 := f8.of (p := X + 2) (by omega) o9
  refine A_B R9 f9 zD_00 fun h10 S10 R10 f10 o10 s10 => ?_
  refine W_r (r0 := none) R10 (a := X + 2) (by simp (disch := omega) only [o10]; exact s9) rfl (some (X + 6)) fun h11 S11 R11 o11 s11 => ?_
  have f11 := f10.of (p := X + 2) (by omega) o11
  refine W_r (r0 := none) R11 (a := X + 1) (by simp (disch := omega) only [o11, o10, o9, o8, o7, o6, o5, o4, o3]; exact s2) rfl (some (X + 2)) fun h12 S12 R12 o12 s12 => ?_
  have f12 := f11.of (p := X + 1) (by omega) o12
  refine A_F R12 f12 zD_00 (Or.inl rfl) fun h13 S13 R13 f13 o13 s13 => ?_
  refine W_r (r0 := none) R13 (a := X + 1) (by simp (disch := omega) only [o13]; exact s12) rfl (some (X + 7)) fun h14 S14 R14 o14 s14 => ?_
  have f14 := f13.of (p := X + 1) (by omega) o14
  refine A_B R14 f14 zD_00 fun h15 S15 R15 f15 o15 s15 => ?_
  refine W_r (r0 := none) R15 (a := X + 1) (by simp (disch := omega) only [o15]; exact s14) rfl (some (X + 8)) fun h16 S16 R16 o16 s16 => ?_
  have f16 := f15.of (p := X + 1) (by omega) o16
  refine R_wF R16 s16 rfl fun h17 R17 => ?_
  have zz : zD (X + 2) (uO D00 (X + 1) 8 (-1)) := fun a ha => ⟨fun k => by simp [uO, va_up, show a ≠ X + 1 by omega, D00], fun _ => rfl, fun _ => rfl, fun _ => rfl⟩
  refine W_r (r0 := none) R17 (a := X) (by simp (disch := omega) only [o16, o15, o14, o13, o12, o11, o10, o9, o8, o7, o6, o5, o4, o3, o2]; exact s1) rfl (some (X + 1)) fun h18 S18 R18 o18 s18 => ?_
  have f18 := f16.of (p := X) (by omega) o18
  refine A_P R18 f18 (zz.mono (by omega)) fun h19 S19 R19 f19 o19 s19 => ?_
  refine W_r (r0 := none) R19 (a := X) (by simp (disch := omega) only [o19]; exact s18) rfl (some (X + 9)) fun h20 S20 R20 o20 s20 => ?_
  have f20 := f19.of (p := X) (by omega) o20
  refine A_o (ci := 5) (fl := [some none]) R20 f20 (zz.mono (by omega)) rfl fun h21 S21 R21 f21 o21 s21 => ?_
  refine A_F R21 f21 (zz.mono (by omega)) (Or.inl rfl) fun h22 S22 R22 f22 o22 s22 => ?_
  refine W_r (r0 := none) R22 (a := X + 10) (by simp (disch := omega) only [o22]; exact s21) rfl (some (X + 11)) fun h23 S23 R23 o23 s23 => ?_
  have f23 := f22.of (p := X + 10) (by omega) o23
  refine W_r (r0 := none) R23 (a := X) (by simp (disch := omega) only [o23, o22, o21]; exact s20) rfl (some (X + 10)) fun h24 S24 R24 o24 s24 => ?_
  have f24 := f23.of (p := X) (by omega) o24
  have L10 : StL (X + 10) S24 := ⟨by simp (disch := omega) only [o24]; exact s23, by simp (disch := omega) only [o24, o23]; exact s22⟩
  refine ⟨13, c_puts s24 L10 (fun h25 D25 R25 o25 s25 => hq h25 S24 D25 R25 f24 ⟨?_, ⟨s24, ?_, L10⟩, s25, fun a k => ?_, fun a k ha => ?_, fun a k => ?_, fun a k => ?_⟩) 12 0 _ h24 rfl R24 sOn.rf fun k hk => ?_⟩
  · refine ⟨?_, ?_, ?_, ?_, ?_, ?_, ?_, ?_⟩
    · simp (disch := omega) only [o24, o23, o22, o21, o20, o19, o18]; exact s16
    · simp (disch := omega) only [o24, o23, o22, o21, o20, o19, o18, o16, o15, o14, o13, o12]; exact s11
    · simp (disch := omega) only [o24, o23, o22, o21, o20, o19, o18, o16, o15, o14, o13, o12, o11, o10, o9, o8, o7, o6, o5]; exact s4
    · simp (disch := omega) only [o24, o23, o22, o21, o20, o19, o18, o16, o15, o14, o13, o12, o11, o10, o9, o8, o7]; exact s6
    · simp (disch := omega) only [o24, o23, o22, o21, o20, o19, o18, o16, o15, o14, o13, o12, o11, o10, o9]; exact s8
    · simp (disch := omega) only [o24, o23, o22, o21, o20, o19, o18, o16, o15, o14, o13, o12, o11]; exact s10
    · simp (disch := omega) only [o24, o23, o22, o21, o20, o19, o18, o16, o15, o14]; exact s13
    · simp (disch := omega) only [o24, o23, o22, o21, o20, o19, o18, o16]; exact s15
  · simp (disch := omega) only [o24, o23, o22, o21, o20]; exact s19
  · rw [o25.1]
    by_cases e : a = X + 1
    · subst e; rw [uO_at]
      by_cases e2 : k = 8
      · rw [if_pos e2, if_pos ⟨rfl, e2⟩]
      · rw [if_neg e2, if_neg (fun q => e2 q.2)]; rfl
    · rw [if_neg (fun q => e q.1)]; simp [uO, va_up, e, D00]
  · rw [o25.2.2 a ha]; rfl
  · rw [o25.2.1]; rfl
  · rw [o25.2.1]; rfl
  · show (0 : Int32) = if k < 0 then 1 else 0
    rw [if_neg (Nat.not_lt_zero k)]
/-- while the model is made -/
def MS (Y i : Nat) (S0 : sS) (fl : List (Option (Option Nat))) (S : sS) (D : sD) (h : aH) : Prop := HR (Y + 1 + i) S D h ∧ fr (Y + 1 + i) S ∧ S Y = some (.inr (9, fl)) ∧ (∀ j, 1 ≤ j → j ≤ i → S (Y + j) = some (.inl (mSh.getD j (0, 0)))) ∧ (∀ a, a < Y → S a = S0 a) ∧ zD (Y + 1) D
section MSS
variable {Y i k : Nat} {S0 : sS} {fl : List (Option (Option Nat))}
theorem MS.nx {S1 S2 : sS} {h2 : aH} {sh : Nat × Nat} (C : MS Y i S0 fl S D h) (R2 : HR (Y + 1 + i + 1) S2 D h2) (f1 : fr (Y + 1 + i + 1) S1) (o1 : ∀ a, a ≠ Y + 1 + i → S1 a = S a) (s1 : S1 (Y + 1 + i) = some (.inl sh)) (o2 : ∀ b, b ≠ Y → S2 b = S1 b) (s2 : S2 Y = some (.inr (9, fl.set k (some (some (Y + 1 + i)))))) (es : mSh.getD (i + 1) (0, 0) = sh) : MS Y (i + 1) S0 (fl.set k (some (some (Y + 1 + i)))) S2 D h2 := by
  refine ⟨R2, fun a ha => ?_, s2, fun j h1 h2 => ?_, fun a ha => ?_, C.2.2.2.2.2⟩
  · rw [o2 a (by omega)]; exact f1 a ha
  · rw [o2 _ (by omega)]
    by_cases e : j = i + 1
    · subst e
      rw [show Y + (i + 1) = Y + 1 + i by omega, s1, es]
    · rw [o1 _ (by omega)]; exact C.2.2.2.1 j h1 (by omega)
  · rw [o2 _ (by omega), o1 _ (by omega)]; exact C.2.2.2.2.1 a ha
theorem MS_F (C : MS Y i S0 fl S D h) {t len : Nat} (ht : t = 0 ∨ t = 2) (es : mSh.getD (i + 1) (0, 0) = (t, len)) (hk : fl[k]? = some (some none)) {Q : aH → Prop} (hq : ∀ h' S', MS Y (i + 1) S0 (fl.set k (some (some (Y + 1 + i)))) S' D h' → Q h') : ∀ (q : Nat) (h1 : aH), q = h.1 → h1 = a_nw h (.inl (t, len, .inl (fun _ => 0))) → wF h1 Y 9 k (.ref q) (fun h3 => Q h3) := by
  refine A_F C.1 C.2.1 (C.2.2.2.2.2.mono (by omega)) ht fun h1 S1 R1 f1 o1 s1 => ?_
  exact W_r (r0 := none) R1 ((o1 Y (by omega)).trans C.2.2.1) hk (some (Y + 1 + i)) fun h2 S2 R2 o2 s2 => hq h2 S2 (C.nx R2 f1 o1 s1 o2 s2 es)
theorem MS_B (C : MS Y i S0 fl S D h) {len : Nat} (es : mSh.getD (i + 1) (0, 0) = (1, len)) (hk : fl[k]? = some (some none)) {Q : aH → Prop} (hq : ∀ h' S', MS Y (i + 1) S0 (fl.set k (some (some (Y + 1 + i)))) S' D h' → Q h') : ∀ (q : Nat) (h1 : aH), q = h.1 → h1 = a_nw h (.inl (1, len, .inr (.inl (fun _ => 0)))) → wF h1 Y 9 k (.ref q) (fun h3 => Q h3) := by
  refine A_B C.1 C.2.1 (C.2.2.2.2.2.mono (by omega)) fun h1 S1 R1 f1 o1 s1 => ?_
  exact W_r (r0 := none) R1 ((o1 Y (by omega)).trans C.2.2.1) hk (some (Y + 1 + i)) fun h2 S2 R2 o2 s2 => hq h2 S2 (C.nx R2 f1 o1 s1 o2 s2 es)
end MSS
theorem mi_0 {Y : Nat} {S0 : sS} (C : MS Y 0 S0 [none, none, some none, some none, some none, some none, some none, some none, some none, none, some none, some none, some none, some none, some none, some none, some none, none, none, none, none, none, none, some none, some none, some none, some none, none, none, some none, some none, some none, some none, some none, some none, some none, some none, some none, some none, some none] S D h) {Q : aH → Prop} (hq : ∀ h' S', MS Y 5 S0 [none, none, some (some (Y + 1)), some (some (Y + 2)), some (some (Y + 3)), some (some (Y + 4)), some (some (Y + 5)), some none, some none, none, some none, some none, some none, some none, some none, some none, some none, none, none, none, none, none, none, some none, some none, some none, some none, none, none, some none, some none, some none, some none, some none, some none, some none, some none, some none, some none, some none] S' D h' → wbX11_init_49 Y h' Q) : wX11_init h Y Q := by
  refine MS_F (k := 2) (t := 0) (len := 201) C (Or.inl rfl) rfl rfl fun g0 T0 E0 => ?_
  have C0 : MS Y 1 S0 [none, none, some (some (Y + 1)), some none, some none, some none, some none, some none, some none, none, some none, some none, some none, some none, some none, some none, some none, none, none, none, none, none, none, some none, some none, some none, some none, none, none, some none, some none, some none, some none, some none, some none, some none, some none, some none, some none, some none] T0 D g0 := E0
  refine MS_F (k := 3) (t := 0) (len := 201) C0 (Or.inl rfl) rfl rfl fun g1 T1 E1 => ?_
  have C1 : MS Y 2 S0 [none, none, some (some (Y + 1)), some (some (Y + 2)), some none, some none, some none, some none, some none, none, some none, some none, some none, some none, some none, some none, some none, none, none, none, none, none, none, some none, some none, some none, some none, none, none, some none, some none, some none, some none, some none, some none, some none, some none, some none, some none, some none] T1 D g1 := E1
  refine MS_F (k := 4) (t := 0) (len := 201) C1 (Or.inl rfl) rfl rfl fun g2 T2 E2 => ?_
  have C2 : MS Y 3 S0 [none, none, some (some (Y + 1)), some (some (Y + 2)), some (some (Y + 3)), some none, some none, some none, some none, none, some none, some none, some none, some none, some none, some none, some none, none, none, none, none, none, none, some none, some none, some none, some none, none, none, some none, some none, some none, some none, some none, some none, some none, some none, some none, some none, some none] T2 D g2 := E2
  refine MS_F (k := 5) (t := 0) (len := 201) C2 (Or.inl rfl) rfl rfl fun g3 T3 E3 => ?_
  have C3 : MS Y 4 S0 [none, none, some (some (Y + 1)), some (some (Y + 2)), some (some (Y + 3)), some (some (Y + 4)), some none, some none, some none, none, some none, some none, some none, some none, some none, some none, some none, none, none, none, none, none, none, some none, some none, some none, some none, none, none, some none, some none, some none, some none, some none, some none, some none, some none, some none, some none, some none] T3 D g3 := E3
  refine MS_B (k := 6) (len := 3000) C3 rfl rfl fun g4 T4 E4 => ?_
  have C4 : MS Y 5 S0 [none, none, some (some (Y + 1)), some (some (Y + 2)), some (some (Y + 3)), some (some (Y + 4)), some (some (Y + 5)), some none, some none, none, some none, some none, some none, some none, some none, some none, some none, none, none, none, none, none, none, some none, some none, some none, some none, none, none, some none, some none, some none, some none, some none, some none, some none, some none, some none, some none, some none] T4 D g4 := E4
  exact hq g4 T4 C4
theorem mi_1 {Y : Nat} {S0 : sS} (C : MS Y 5 S0 [none, none, some (some (Y + 1)), some (some (Y + 2)), some (some (Y + 3)), some (some (Y + 4)), some (some (Y + 5)), some none, some none, none, some none, some none, some none, some none, some none, some none, some none, none, none, none, none, none, none, some none, some none, some none, some none, none, none, some none, some none, some none, some none, some none, some none, some none, some none, some none, some none, some none] S D h) {Q : aH → Prop} (hq : ∀ h' S', MS Y 10 S0 [none, none, some (some (Y + 1)), some (some (Y + 2)), some (some (Y + 3)), some (some (Y + 4)), some (some (Y + 5)), some (some (Y + 6)), some (some (Y + 7)), none, some (some (Y + 8)), some (some (Y + 9)), some (some (Y + 10)), some none, some none, some none, some none, none, none, none, none, none, none, some none, some none, some none, some none, none, none, some none, some none, some none, some none, some none, some none, some none, some none, some none, some none, some none] S' D h' → wbX11_init_89 Y h' Q) : wbX11_init_49 Y h Q := by
  refine MS_F (k := 7) (t := 0) (len := 12) C (Or.inl rfl) rfl rfl fun g0 T0 E0 => ?_
  have C0 : MS Y 6 S0 [none, none, some (some (Y + 1)), some (some (Y + 2)), some (some (Y + 3)), some (some (Y + 4)), some (some (Y + 5)), some (some (Y + 6)), some none, none, some none, some none, some none, some none, some none, some none, some none, none, none, none, none, none, none, some none, some none, some none, some none, none, none, some none, some none, some none, some none, some none, some none, some none, some none, some none, some none, some none] T0 D g0 := E0
  refine MS_B (k := 8) (len := 8) C0 rfl rfl fun g1 T1 E1 => ?_
  have C1 : MS Y 7 S0 [none, none, some (some (Y + 1)), some (some (Y + 2)), some (some (Y + 3)), some (some (Y + 4)), some (some (Y + 5)), some (some (Y + 6)), some (some (Y + 7)), none, some none, some none, some none, some none, some none, some none, some none, none, none, none, none, none, none, some none, some none, some none, some none, none, none, some none, some none, some none, some none, some none, some none, some none, some none, some none, some none, some none] T1 D g1 := E1
  refine MS_F (k := 10) (t := 0) (len := 80) C1 (Or.inl rfl) rfl rfl fun g2 T2 E2 => ?_
  have C2 : MS Y 8 S0 [none, none, some (some (Y + 1)), some (some (Y + 2)), some (some (Y + 3)), some (some (Y + 4)), some (some (Y + 5)), some (some (Y + 6)), some (some (Y + 7)), none, some (some (Y + 8)), some none, some none, some none, some none, some none, some none, none, none, none, none, none, none, some none, some none, some none, some none, none, none, some none, some none, some none, some none, some none, some none, some none, some none, some none, some none, some none] T2 D g2 := E2
  refine MS_F (k := 11) (t := 0) (len := 80) C2 (Or.inl rfl) rfl rfl fun g3 T3 E3 => ?_
  have C3 : MS Y 9 S0 [none, none, some (some (Y + 1)), some (some (Y + 2)), some (some (Y + 3)), some (some (Y + 4)), some (some (Y + 5)), some (some (Y + 6)), some (some (Y + 7)), none, some (some (Y + 8)), some (some (Y + 9)), some none, some none, some none, some none, some none, none, none, none, none, none, none, some none, some none, some none, some none, none, none, some none, some none, some none, some none, some none, some none, some none, some none, some none, some none, some none] T3 D g3 := E3
  refine MS_F (k := 12) (t := 0) (len := 80) C3 (Or.inl rfl) rfl rfl fun g4 T4 E4 => ?_
  have C4 : MS Y 10 S0 [none, none, some (some (Y + 1)), some (some (Y + 2)), some (some (Y + 3)), some (some (Y + 4)), some (some (Y + 5)), some (some (Y + 6)), some (some (Y + 7)), none, some (some (Y + 8)), some (some (Y + 9)), some (some (Y + 10)), some none, some none, some none, some none, none, none, none, none, none, none, some none, some none, some none, some none, none, none, some none, some none, some none, some none, some none, some none, some none, some none, some none, some none, some none] T4 D g4 := E4
  exact hq g4 T4 C4
theorem mi_2 {Y : Nat} {S0 : sS} (C : MS Y 10 S0 [none, none, some (some (Y + 1)), some (some (Y + 2)), some (some (Y + 3)), some (some (Y + 4)), some (some (Y + 5)), some (some (Y + 6)), some (some (Y + 7)), none, some (some (Y + 8)), some (some (Y + 9)), some (some (Y + 10)), some none, some none, some none, some none, none, none, none, none, none, none, some none, some none, some none, some none, none, none, some none, some none, some none, some none, some none, some none, some none, some none, some none, some none, some none] S D h) {Q : aH → Prop} (hq : ∀ h' S', MS Y 15 S0 [none, none, some (some (Y + 1)), some (some (Y + 2)), some (some (Y + 3)), some (some (Y + 4)), some (some (Y + 5)), some (some (Y + 6)), some (some (Y + 7)), none, some (some (Y + 8)), some (some (Y + 9)), some (some (Y + 10)), some (some (Y + 11)), some (some (Y + 12)), some (some (Y + 13)), some (some (Y + 14)), none, none, none, none, none, none, some (some (Y + 15)), some none, some none, some none, none, none, some none, some none, some none, some none, some none, some none, some none, some none, some none, some none, some none] S' (uO D Y 22 (-1)) h' → wbX11_init_135 Y h' Q) : wbX11_init_89 Y h Q := by
  refine MS_F (k := 13) (t := 0) (len := 80) C (Or.inl rfl) rfl rfl fun g0 T0 E0 => ?_
  have C0 : MS Y 11 S0 [none, none, some (some (Y + 1)), some (some (Y + 2)), some (some (Y + 3)), some (some (Y + 4)), some (some (Y + 5)), some (some (Y + 6)), some (some (Y + 7)), none, some (some (Y + 8)), some (some (Y + 9)), some (some (Y + 10)), some (some (Y + 11)), some none, some none, some none, none, none, none, none, none, none, some none, some none, some none, some none, none, none, some none, some none, some none, some none, some none, some none, some none, some none, some none, some none, some none] T0 D g0 := E0
  refine MS_F (k := 14) (t := 0) (len := 80) C0 (Or.inl rfl) rfl rfl fun g1 T1 E1 => ?_
  have C1 : MS Y 12 S0 [none, none, some (some (Y + 1)), some (some (Y + 2)), some (some (Y + 3)), some (some (Y + 4)), some (some (Y + 5)), some (some (Y + 6)), some (some (Y + 7)), none, some (some (Y + 8)), some (some (Y + 9)), some (some (Y + 10)), some (some (Y + 11)), some (some (Y + 12)), some none, some none, none, none, none, none, none, none, some none, some none, some none, some none, none, none, some none, some none, some none, some none, some none, some none, some none, some none, some none, some none, some none] T1 D g1 := E1
  refine MS_F (k := 15) (t := 0) (len := 80) C1 (Or.inl rfl) rfl rfl fun g2 T2 E2 => ?_
  have C2 : MS Y 13 S0 [none, none, some (some (Y + 1)), some (some (Y + 2)), some (some (Y + 3)), some (some (Y + 4)), some (some (Y + 5)), some (some (Y + 6)), some (some (Y + 7)), none, some (some (Y + 8)), some (some (Y + 9)), some (some (Y + 10)), some (some (Y + 11)), some (some (Y + 12)), some (some (Y + 13)), some none, none, none, none, none, none, none, some none, some none, some none, some none, none, none, some none, some none, some none, some none, some none, some none, some none, some none, some none, some none, some none] T2 D g2 := E2
  refine MS_F (k := 16) (t := 0) (len := 80) C2 (Or.inl rfl) rfl rfl fun g3 T3 E3 => ?_
  have C3 : MS Y 14 S0 [none, none, some (some (Y + 1)), some (some (Y + 2)), some (some (Y + 3)), some (some (Y + 4)), some (some (Y + 5)), some (some (Y + 6)), some (some (Y + 7)), none, some (some (Y + 8)), some (some (Y + 9)), some (some (Y + 10)), some (some (Y + 11)), some (some (Y + 12)), some (some (Y + 13)), some (some (Y + 14)), none, none, none, none, none, none, some none, some none, some none, some none, none, none, some none, some none, some none, some none, some none, some none, some none, some none, some none, some none, some none] T3 D g3 := E3
  refine R_wF C3.1 C3.2.2.1 rfl fun g4 Rw => ?_
  have C4w : MS Y 14 S0 [none, none, some (some (Y + 1)), some (some (Y + 2)), some (some (Y + 3)), some (some (Y + 4)), some (some (Y + 5)), some (some (Y + 6)), some (some (Y + 7)), none, some (some (Y + 8)), some (some (Y + 9)), some (some (Y + 10)), some (some (Y + 11)), some (some (Y + 12)), some (some (Y + 13)), some (some (Y + 14)), none, none, none, none, none, none, some none, some none, some none, some none, none, none, some none, some none, some none, some none, some none, some none, some none, some none, some none, some none, some none] T3 (uO D Y 22 (-1)) g4 := ⟨Rw, C3.2.1, C3.2.2.1, C3.2.2.2.1, C3.2.2.2.2.1, fun a ha => by
    obtain ⟨b1, b2, b3, b4⟩ := C3.2.2.2.2.2 a ha
    exact ⟨fun k => by simp only [uO, va_up]; rw [if_neg (by omega)]; exact b1 k, b2, b3, b4⟩⟩
  refine MS_B (k := 23) (len := 3000) C4w rfl rfl fun g5 T5 E5 => ?_
  have C5 : MS Y 15 S0 [none, none, some (some (Y + 1)), some (some (Y + 2)), some (some (Y + 3)), some (some (Y + 4)), some (some (Y + 5)), some (some (Y + 6)), some (some (Y + 7)), none, some (some (Y + 8)), some (some (Y + 9)), some (some (Y + 10)), some (some (Y + 11)), some (some (Y + 12)), some (some (Y + 13)), some (some (Y + 14)), none, none, none, none, none, none, some (some (Y + 15)), some none, some none, some none, none, none, some none, some none, some none, some none, some none, some none, some none, some none, some none, some none, some none] T5 (uO D Y 22 (-1)) g5 := E5
  exact hq g5 T5 C5
theorem mi_3 {Y : Nat} {S0 : sS} (C : MS Y 15 S0 [none, none, some (some (Y + 1)), some (some (Y + 2)), some (some (Y + 3)), some (some (Y + 4)), some (some (Y + 5)), some (some (Y + 6)), some (some (Y + 7)), none, some (some (Y + 8)), some (some (Y + 9)), some (some (Y + 10)), some (some (Y + 11)), some (some (Y + 12)), some (some (Y + 13)), some (some (Y + 14)), none, none, none, none, none, none, some (some (Y + 15)), some none, some none, some none, none, none, some none, some none, some none, some none, some none, some none, some none, some none, some none, some none, some none] S D h) {Q : aH → Prop} (hq : ∀ h' S', MS Y 20 S0 [none, none, some (some (Y + 1)), some (some (Y + 2)), some (some (Y + 3)), some (some (Y + 4)), some (some (Y + 5)), some (some (Y + 6)), some (some (Y + 7)), none, some (some (Y + 8)), some (some (Y + 9)), some (some (Y + 10)), some (some (Y + 11)), some (some (Y + 12)), some (some (Y + 13)), some (some (Y + 14)), none, none, none, none, none, none, some (some (Y + 15)), some (some (Y + 16)), some (some (Y + 17)), some (some (Y + 18)), none, none, some (some (Y + 19)), some (some (Y + 20)), some none, some none, some none, some none, some none, some none, some none, some none, some none] S' D h' → wbX11_init_175 Y h' Q) : wbX11_init_135 Y h Q := by
  refine MS_F (k := 24) (t := 0) (len := 82) C (Or.inl rfl) rfl rfl fun g0 T0 E0 => ?_
  have C0 : MS Y 16 S0 [none, none, some (some (Y + 1)), some (some (Y + 2)), some (some (Y + 3)), some (some (Y + 4)), some (some (Y + 5)), some (some (Y + 6)), some (some (Y + 7)), none, some (some (Y + 8)), some (some (Y + 9)), some (some (Y + 10)), some (some (Y + 11)), some (some (Y + 12)), some (some (Y + 13)), some (some (Y + 14)), none, none, none, none, none, none, some (some (Y + 15)), some (some (Y + 16)), some none, some none, none, none, some none, some none, some none, some none, some none, some none, some none, some none, some none, some none, some none] T0 D g0 := E0
  refine MS_F (k := 25) (t := 0) (len := 82) C0 (Or.inl rfl) rfl rfl fun g1 T1 E1 => ?_
  have C1 : MS Y 17 S0 [none, none, some (some (Y + 1)), some (some (Y + 2)), some (some (Y + 3)), some (some (Y + 4)), some (some (Y + 5)), some (some (Y + 6)), some (some (Y + 7)), none, some (some (Y + 8)), some (some (Y + 9)), some (some (Y + 10)), some (some (Y + 11)), some (some (Y + 12)), some (some (Y + 13)), some (some (Y + 14)), none, none, none, none, none, none, some (some (Y + 15)), some (some (Y + 16)), some (some (Y + 17)), some none, none, none, some none, some none, some none, some none, some none, some none, some none, some none, some none, some none, some none] T1 D g1 := E1
  refine MS_F (k := 26) (t := 0) (len := 82) C1 (Or.inl rfl) rfl rfl fun g2 T2 E2 => ?_
  have C2 : MS Y 18 S0 [none, none, some (some (Y + 1)), some (some (Y + 2)), some (some (Y + 3)), some (some (Y + 4)), some (some (Y + 5)), some (some (Y + 6)), some (some (Y + 7)), none, some (some (Y + 8)), some (some (Y + 9)), some (some (Y + 10)), some (some (Y + 11)), some (some (Y + 12)), some (some (Y + 13)), some (some (Y + 14)), none, none, none, none, none, none, some (some (Y + 15)), some (some (Y + 16)), some (some (Y + 17)), some (some (Y + 18)), none, none, some none, some none, some none, some none, some none, some none, some none, some none, some none, some none, some none] T2 D g2 := E2
  refine MS_F (k := 29) (t := 0) (len := 12) C2 (Or.inl rfl) rfl rfl fun g3 T3 E3 => ?_
  have C3 : MS Y 19 S0 [none, none, some (some (Y + 1)), some (some (Y + 2)), some (some (Y + 3)), some (some (Y + 4)), some (some (Y + 5)), some (some (Y + 6)), some (some (Y + 7)), none, some (some (Y + 8)), some (some (Y + 9)), some (some (Y + 10)), some (some (Y + 11)), some (some (Y + 12)), some (some (Y + 13)), some (some (Y + 14)), none, none, none, none, none, none, some (some (Y + 15)), some (some (Y + 16)), some (some (Y + 17)), some (some (Y + 18)), none, none, some (some (Y + 19)), some none, some none, some none, some none, some none, some none, some none, some none, some none, some none] T3 D g3 := E3
  refine MS_F (k := 30) (t := 2) (len := 12) C3 (Or.inr rfl) rfl rfl fun g4 T4 E4 => ?_
  have C4 : MS Y 20 S0 [none, none, some (some (Y + 1)), some (some (Y + 2)), some (some (Y + 3)), some (some (Y + 4)), some (some (Y + 5)), some (some (Y + 6)), some (some (Y + 7)), none, some (some (Y + 8)), some (some (Y + 9)), some (some (Y + 10)), some (some (Y + 11)), some (some (Y + 12)), some (some (Y + 13)), some (some (Y + 14)), none, none, none, none, none, none, some (some (Y + 15)), some (some (Y + 16)), some (some (Y + 17)), some (some (Y + 18)), none, none, some (some (Y + 19)), some (some (Y + 20)), some none, some none, some none, some none, some none, some none, some none, some none, some none] T4 D g4 := E4
  exact hq g4 T4 C4
theorem mi_4 {Y : Nat} {S0 : sS} (C : MS Y 20 S0 [none, none, some (some (Y + 1)), some (some (Y + 2)), some (some (Y + 3)), some (some (Y + 4)), some (some (Y + 5)), some (some (Y + 6)), some (some (Y + 7)), none, some (some (Y + 8)), some (some (Y + 9)), some (some (Y + 10)), some (some (Y + 11)), some (some (Y + 12)), some (some (Y + 13)), some (some (Y + 14)), none, none, none, none, none, none, some (some (Y + 15)), some (some (Y + 16)), some (some (Y + 17)), some (some (Y + 18)), none, none, some (some (Y + 19)), some (some (Y + 20)), some none, some none, some none, some none, some none, some none, some none, some none, some none] S D h) {Q : aH → Prop} (hq : ∀ h' S', MS Y 25 S0 [none, none, some (some (Y + 1)), some (some (Y + 2)), some (some (Y + 3)), some (some (Y + 4)), some (some (Y + 5)), some (some (Y + 6)), some (some (Y + 7)), none, some (some (Y + 8)), some (some (Y + 9)), some (some (Y + 10)), some (some (Y + 11)), some (some (Y + 12)), some (some (Y + 13)), some (some (Y + 14)), none, none, none, none, none, none, some (some (Y + 15)), some (some (Y + 16)), some (some (Y + 17)), some (some (Y + 18)), none, none, some (some (Y + 19)), some (some (Y + 20)), some (some (Y + 21)), some (some (Y + 22)), some (some (Y + 23)), some (some (Y + 24)), some (some (Y + 25)), some none, some none, some none, some none] S' D h' → wbX11_init_216 Y h' Q) : wbX11_init_175 Y h Q := by
  refine MS_F (k := 31) (t := 2) (len := 80) C (Or.inr rfl) rfl rfl fun g0 T0 E0 => ?_
  have C0 : MS Y 21 S0 [none, none, some (some (Y + 1)), some (some (Y + 2)), some (some (Y + 3)), some (some (Y + 4)), some (some (Y + 5)), some (some (Y + 6)), some (some (Y + 7)), none, some (some (Y + 8)), some (some (Y + 9)), some (some (Y + 10)), some (some (Y + 11)), some (some (Y + 12)), some (some (Y + 13)), some (some (Y + 14)), none, none, none, none, none, none, some (some (Y + 15)), some (some (Y + 16)), some (some (Y + 17)), some (some (Y + 18)), none, none, some (some (Y + 19)), some (some (Y + 20)), some (some (Y + 21)), some none, some none, some none, some none, some none, some none, some none, some none] T0 D g0 := E0
  refine MS_F (k := 32) (t := 0) (len := 80) C0 (Or.inl rfl) rfl rfl fun g1 T1 E1 => ?_
  have C1 : MS Y 22 S0 [none, none, some (some (Y + 1)), some (some (Y + 2)), some (some (Y + 3)), some (some (Y + 4)), some (some (Y + 5)), some (some (Y + 6)), some (some (Y + 7)), none, some (some (Y + 8)), some (some (Y + 9)), some (some (Y + 10)), some (some (Y + 11)), some (some (Y + 12)), some (some (Y + 13)), some (some (Y + 14)), none, none, none, none, none, none, some (some (Y + 15)), some (some (Y + 16)), some (some (Y + 17)), some (some (Y + 18)), none, none, some (some (Y + 19)), some (some (Y + 20)), some (some (Y + 21)), some (some (Y + 22)), some none, some none, some none, some none, some none, some none, some none] T1 D g1 := E1
  refine MS_F (k := 33) (t := 0) (len := 960) C1 (Or.inl rfl) rfl rfl fun g2 T2 E2 => ?_
  have C2 : MS Y 23 S0 [none, none, some (some (Y + 1)), some (some (Y + 2)), some (some (Y + 3)), some (some (Y + 4)), some (some (Y + 5)), some (some (Y + 6)), some (some (Y + 7)), none, some (some (Y + 8)), some (some (Y + 9)), some (some (Y + 10)), some (some (Y + 11)), some (some (Y + 12)), some (some (Y + 13)), some (some (Y + 14)), none, none, none, none, none, none, some (some (Y + 15)), some (some (Y + 16)), some (some (Y + 17)), some (some (Y + 18)), none, none, some (some (Y + 19)), some (some (Y + 20)), some (some (Y + 21)), some (some (Y + 22)), some (some (Y + 23)), some none, some none, some none, some none, some none, some none] T2 D g2 := E2
  refine MS_F (k := 34) (t := 0) (len := 80) C2 (Or.inl rfl) rfl rfl fun g3 T3 E3 => ?_
  have C3 : MS Y 24 S0 [none, none, some (some (Y + 1)), some (some (Y + 2)), some (some (Y + 3)), some (some (Y + 4)), some (some (Y + 5)), some (some (Y + 6)), some (some (Y + 7)), none, some (some (Y + 8)), some (some (Y + 9)), some (some (Y + 10)), some (some (Y + 11)), some (some (Y + 12)), some (some (Y + 13)), some (some (Y + 14)), none, none, none, none, none, none, some (some (Y + 15)), some (some (Y + 16)), some (some (Y + 17)), some (some (Y + 18)), none, none, some (some (Y + 19)), some (some (Y + 20)), some (some (Y + 21)), some (some (Y + 22)), some (some (Y + 23)), some (some (Y + 24)), some none, some none, some none, some none, some none] T3 D g3 := E3
  refine MS_F (k := 35) (t := 0) (len := 80) C3 (Or.inl rfl) rfl rfl fun g4 T4 E4 => ?_
  have C4 : MS Y 25 S0 [none, none, some (some (Y + 1)), some (some (Y + 2)), some (some (Y + 3)), some (some (Y + 4)), some (some (Y + 5)), some (some (Y + 6)), some (some (Y + 7)), none, some (some (Y + 8)), some (some (Y + 9)), some (some (Y + 10)), some (some (Y + 11)), some (some (Y + 12)), some (some (Y + 13)), some (some (Y + 14)), none, none, none, none, none, none, some (some (Y + 15)), some (some (Y + 16)), some (some (Y + 17)), some (some (Y + 18)), none, none, some (some (Y + 19)), some (some (Y + 20)), some (some (Y + 21)), some (some (Y + 22)), some (some (Y + 23)), some (some (Y + 24)), some (some (Y + 25)), some none, some none, some none, some none] T4 D g4 := E4
  exact hq g4 T4 C4
theorem mi_5 {Y : Nat} {S0 : sS} (C : MS Y 25 S0 [none, none, some (some (Y + 1)), some (some (Y + 2)), some (some (Y + 3)), some (some (Y + 4)), some (some (Y + 5)), some (some (Y + 6)), some (some (Y + 7)), none, some (some (Y + 8)), some (some (Y + 9)), some (some (Y + 10)), some (some (Y + 11)), some (some (Y + 12)), some (some (Y + 13)), some (some (Y + 14)), none, none, none, none, none, none, some (some (Y + 15)), some (some (Y + 16)), some (some (Y + 17)), some (some (Y + 18)), none, none, some (some (Y + 19)), some (some (Y + 20)), some (some (Y + 21)), some (some (Y + 22)), some (some (Y + 23)), some (some (Y + 24)), some (some (Y + 25)), some none, some none, some none, some none] S D h) {Q : aH → Prop} (hq : ∀ h' S', MS Y 29 S0 [none, none, some (some (Y + 1)), some (some (Y + 2)), some (some (Y + 3)), some (some (Y + 4)), some (some (Y + 5)), some (some (Y + 6)), some (some (Y + 7)), none, some (some (Y + 8)), some (some (Y + 9)), some (some (Y + 10)), some (some (Y + 11)), some (some (Y + 12)), some (some (Y + 13)), some (some (Y + 14)), none, none, none, none, none, none, some (some (Y + 15)), some (some (Y + 16)), some (some (Y + 17)), some (some (Y + 18)), none, none, some (some (Y + 19)), some (some (Y + 20)), some (some (Y + 21)), some (some (Y + 22)), some (some (Y + 23)), some (some (Y + 24)), some (some (Y + 25)), some (some (Y + 26)), some (some (Y + 27)), some (some (Y + 28)), some (some (Y + 29))] S' D h' → Q h') : wbX11_init_216 Y h Q := by
  refine MS_F (k := 36) (t := 0) (len := 8856) C (Or.inl rfl) rfl rfl fun g0 T0 E0 => ?_
  have C0 : MS Y 26 S0 [none, none, some (some (Y + 1)), some (some (Y + 2)), some (some (Y + 3)), some (some (Y + 4)), some (some (Y + 5)), some (some (Y + 6)), some (some (Y + 7)), none, some (some (Y + 8)), some (some (Y + 9)), some (some (Y + 10)), some (some (Y + 11)), some (some (Y + 12)), some (some (Y + 13)), some (some (Y + 14)), none, none, none, none, none, none, some (some (Y + 15)), some (some (Y + 16)), some (some (Y + 17)), some (some (Y + 18)), none, none, some (some (Y + 19)), some (some (Y + 20)), some (some (Y + 21)), some (some (Y + 22)), some (some (Y + 23)), some (some (Y + 24)), some (some (Y + 25)), some (some (Y + 26)), some none, some none, some none] T0 D g0 := E0
  refine MS_F (k := 37) (t := 0) (len := 8856) C0 (Or.inl rfl) rfl rfl fun g1 T1 E1 => ?_
  have C1 : MS Y 27 S0 [none, none, some (some (Y + 1)), some (some (Y + 2)), some (some (Y + 3)), some (some (Y + 4)), some (some (Y + 5)), some (some (Y + 6)), some (some (Y + 7)), none, some (some (Y + 8)), some (some (Y + 9)), some (some (Y + 10)), some (some (Y + 11)), some (some (Y + 12)), some (some (Y + 13)), some (some (Y + 14)), none, none, none, none, none, none, some (some (Y + 15)), some (some (Y + 16)), some (some (Y + 17)), some (some (Y + 18)), none, none, some (some (Y + 19)), some (some (Y + 20)), some (some (Y + 21)), some (some (Y + 22)), some (some (Y + 23)), some (some (Y + 24)), some (some (Y + 25)), some (some (Y + 26)), some (some (Y + 27)), some none, some none] T1 D g1 := E1
  refine MS_F (k := 38) (t := 0) (len := 984) C1 (Or.inl rfl) rfl rfl fun g2 T2 E2 => ?_
  have C2 : MS Y 28 S0 [none, none, some (some (Y + 1)), some (some (Y + 2)), some (some (Y + 3)), some (some (Y + 4)), some (some (Y + 5)), some (some (Y + 6)), some (some (Y + 7)), none, some (some (Y + 8)), some (some (Y + 9)), some (some (Y + 10)), some (some (Y + 11)), some (some (Y + 12)), some (some (Y + 13)), some (some (Y + 14)), none, none, none, none, none, none, some (some (Y + 15)), some (some (Y + 16)), some (some (Y + 17)), some (some (Y + 18)), none, none, some (some (Y + 19)), some (some (Y + 20)), some (some (Y + 21)), some (some (Y + 22)), some (some (Y + 23)), some (some (Y + 24)), some (some (Y + 25)), some (some (Y + 26)), some (some (Y + 27)), some (some (Y + 28)), some none] T2 D g2 := E2
  refine MS_F (k := 39) (t := 0) (len := 12) C2 (Or.inl rfl) rfl rfl fun g3 T3 E3 => ?_
  have C3 : MS Y 29 S0 [none, none, some (some (Y + 1)), some (some (Y + 2)), some (some (Y + 3)), some (some (Y + 4)), some (some (Y + 5)), some (some (Y + 6)), some (some (Y + 7)), none, some (some (Y + 8)), some (some (Y + 9)), some (some (Y + 10)), some (some (Y + 11)), some (some (Y + 12)), some (some (Y + 13)), some (some (Y + 14)), none, none, none, none, none, none, some (some (Y + 15)), some (some (Y + 16)), some (some (Y + 17)), some (some (Y + 18)), none, none, some (some (Y + 19)), some (some (Y + 20)), some (some (Y + 21)), some (some (Y + 22)), some (some (Y + 23)), some (some (Y + 24)), some (some (Y + 25)), some (some (Y + 26)), some (some (Y + 27)), some (some (Y + 28)), some (some (Y + 29))] T3 D g3 := E3
  exact hq g3 T3 C3
theorem mm_init {Y : Nat} {S0 : sS} (R0 : HR Y S0 D h) (f0 : fr Y S0) (z0 : zD Y D) {Q : Nat → aH → Prop} (hq : ∀ h' S', HR (Y + 30) S' (uO D Y 22 (-1)) h' → fr (Y + 30) S' → LayM Y S' → (∀ a, a < Y → S' a = S0 a) → Q Y h') : ∀ (q : Nat) (h1 : aH), q = h.1 → h1 = a_nw h (.inr (9, [.int 0, .int 0, .null, .null, .null, .null, .null, .null, .null, .int 0, .null, .null, .null, .null, .null, .null, .null, .int 0, .int 0, .int 0, .int 0, .int 0, .int 0, .null, .null, .null, .null, .int 0, .int 0, .null, .null, .null, .null, .null, .null, .null, .null, .null, .null, .null])) → wX11_init h1 q (fun h2 => Q q h2) := by
  refine A_o (ci := 9) (fl := [none, none, some none, some none, some none, some none, some none, some none, some none, none, some none, some none, some none, some none, some none, some none, some none, none, none, none, none, none, none, some none, some none, some none, some none, none, none, some none, some none, some none, some none, some none, some none, some none, some none, some none, some none, some none]) R0 f0 z0 rfl fun h1 S1 R1 f1 o1 s1 => ?_
  refine mi_0 (S0 := S0) (D := D) ⟨R1, f1, s1, fun j h1 h2 => absurd h2 (by omega), fun a ha => o1 a (by omega), z0.mono (by omega)⟩ fun h2 S2 C2 => mi_1 C2 fun h3 S3 C3 => mi_2 C3 fun h4 S4 C4 => mi_3 C4 fun h5 S5 C5 => mi_4 C5 fun h6 S6 C6 => mi_5 C6 fun h7 S7 C7 => ?_
  exact hq h7 S7 C7.1 C7.2.1 ⟨C7.2.2.1, fun k h1 h2 => C7.2.2.2.1 k h1 (by omega)⟩ C7.2.2.2.2.1
end CON
