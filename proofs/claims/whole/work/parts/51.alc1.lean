/-! new objects and rows -/
def fr (n : Nat) (S : sS) : Prop := ∀ a, n ≤ a → S a = none
/-- nothing below n is another, but p -/
def Ex (p n : Nat) (S : sS) (D : sD) (S' : sS) (D' : sD) : Prop := ∀ a, a < n → a ≠ p → S' a = S a ∧ D'.1 a = D.1 a ∧ D'.2.1 a = D.2.1 a ∧ D'.2.2.1 a = D.2.2.1 a ∧ D'.2.2.2 a = D.2.2.2 a
theorem Ex.rf {p n : Nat} {S : sS} {D : sD} : Ex p n S D S D := fun _ _ _ => ⟨rfl, rfl, rfl, rfl, rfl⟩
theorem Ex.tr {p n n' : Nat} {S S' S'' : sS} {D D' D'' : sD} (h : Ex p n S D S' D') (h' : Ex p n' S' D' S'' D'') (hn : n ≤ n') : Ex p n S D S'' D'' := fun a ha hp => by
  obtain ⟨a1, a2, a3, a4, a5⟩ := h a ha hp
  obtain ⟨b1, b2, b3, b4, b5⟩ := h' a (by omega) hp
  exact ⟨b1.trans a1, b2.trans a2, b3.trans a3, b4.trans a4, b5.trans a5⟩
theorem Ex.to {p q n : Nat} {S S' : sS} {D D' : sD} (h : Ex p n S D S' D') (hp : n ≤ p) : Ex q n S D S' D' := fun a ha _ => h a ha (by omega)
theorem HR.nw {n : Nat} {S : sS} {D D1 : sD} {h : aH} {sh : (Nat × Nat) ⊕ (Nat × List (Option (Option Nat)))} {c : aC} (R : HR n S D h) (hc : c = s_c D1 n sh) (hD : ∀ b s, b ≠ n → s_c D1 b s = s_c D b s) : HR (n + 1) (va_up S n (some sh)) D1 (a_nw h c) := by
  have e := R.1
  refine ⟨by show h.1 + 1 = n + 1; rw [e], fun b z hz => ?_⟩
  show (va_up h.2 h.1 (some c)) b = _
  rw [e]
  simp only [va_up] at hz ⊢
  by_cases eb : b = n
  · rw [if_pos eb] at hz ⊢
    cases hz
    rw [hc, eb]
  · rw [if_neg eb] at hz ⊢
    rw [hD b z eb]
    exact R.2 b z hz
section ALC
variable {n : Nat} {S : sS} {D : sD} {h : aH}
theorem fr.up (f : fr n S) {s : (Nat × Nat) ⊕ (Nat × List (Option (Option Nat)))} : fr (n + 1) (va_up S n (some s)) := fun a ha => by
  simp only [va_up]; rw [if_neg (by omega)]; exact f a (by omega)
theorem fr.of {S' : sS} {p : Nat} (f : fr n S) (hp : p < n) (o : ∀ b, b ≠ p → S' b = S b) : fr n S' := fun a ha => (o a (by omega)).trans (f a ha)
theorem s_c_o {D : sD} {a b : Nat} {f : Nat → Int32} {s : (Nat × Nat) ⊕ (Nat × List (Option (Option Nat)))} (hb : b ≠ a) : s_c (va_up D.1 a f, D.2) b s = s_c D b s := by
  rcases s with ⟨t, m⟩ | ⟨ci, l⟩
  · rfl
  · simp [s_c, va_up, hb]
theorem N_o (R : HR n S D h) (f : fr n S) {ci : Nat} {fl : List (Option (Option Nat))} {vals : List Value} (e : s_f (fun _ => 0) 0 fl = vals) {K : Nat → aH → Prop} (hK : ∀ h' S' D', HR (n + 1) S' D' h' → fr (n + 1) S' → Ex n n S D S' D' → S' n = some (.inr (ci, fl)) → (∀ k, D'.1 n k = 0) → K n h') : ∀ (q : Nat) (h1 : aH), q = h.1 → h1 = a_nw h (.inr (ci, vals)) → K q h1 := by
  intro q h1 eq eh
  rw [eq, eh, R.1]
  refine hK _ _ (va_up D.1 n (fun _ => 0), D.2) (R.nw (sh := .inr (ci, fl)) ?_ fun b s hb => s_c_o hb) f.up (fun a ha hp => ⟨?_, ?_, rfl, rfl, rfl⟩) ?_ fun k => ?_
  · simp only [s_c, va_up, if_pos]; rw [e]
  · simp only [va_up]; rw [if_neg hp]
  · simp only [va_up]; rw [if_neg hp]
  · simp only [va_up, if_pos]
  · simp only [va_up, if_pos]
theorem N_F (R : HR n S D h) (f : fr n S) {t len : Nat} (ht : t = 0 ∨ t = 2) {K : Nat → aH → Prop} (hK : ∀ h' S' D', HR (n + 1) S' D' h' → fr (n + 1) S' → Ex n n S D S' D' → S' n = some (.inl (t, len)) → (∀ k, D'.2.1 n k = 0) → K n h') : ∀ (q : Nat) (h1 : aH), q = h.1 → h1 = a_nw h (.inl (t, len, .inl (fun _ => 0))) → K q h1 := by
  intro q h1 eq eh
  rw [eq, eh, R.1]
  refine hK _ _ (uF D n (fun _ => 0)) (R.nw (sh := .inl (t, len)) ?_ fun b s hb => s_cF hb) f.up (fun a ha hp => ⟨?_, rfl, ?_, rfl, rfl⟩) ?_ fun k => ?_
  · rcases ht with rfl | rfl <;> simp [s_c, uF, va_up]
  · simp only [va_up]; rw [if_neg hp]
  · rw [uF_ne hp]
  · simp only [va_up, if_pos]
  · rw [uF_at]
theorem N_B (R : HR n S D h) (f : fr n S) {len : Nat} {K : Nat → aH → Prop} (hK : ∀ h' S' D', HR (n + 1) S' D' h' → fr (n + 1) S' → Ex n n S D S' D' → S' n = some (.inl (1, len)) → (∀ k, D'.2.2.1 n k = 0) → K n h') : ∀ (q : Nat) (h1 : aH), q = h.1 → h1 = a_nw h (.inl (1, len, .inr (.inl (fun _ => 0)))) → K q h1 := by
  intro q h1 eq eh
  rw [eq, eh, R.1]
  refine hK _ _ (uB D n (fun _ => 0)) (R.nw (sh := .inl (1, len)) ?_ fun b s hb => s_cB hb) f.up (fun a ha hp => ⟨?_, rfl, rfl, ?_, rfl⟩) ?_ fun k => ?_
  · simp [s_c, uB, va_up]
  · simp only [va_up]; rw [if_neg hp]
  · simp only [uB, va_up]; rw [if_neg hp]
  · simp only [va_up, if_pos]
  · simp only [uB, va_up, if_pos]
theorem N_P (R : HR n S D h) (f : fr n S) {t len : Nat} (ht : t = 3 ∨ t = 4) {K : Nat → aH → Prop} (hK : ∀ h' S' D', HR (n + 1) S' D' h' → fr (n + 1) S' → Ex n n S D S' D' → S' n = some (.inl (t, len)) → (∀ k, D'.2.2.2 n k = none) → K n h') : ∀ (q : Nat) (h1 : aH), q = h.1 → h1 = a_nw h (.inl (t, len, .inr (.inr (.inr (.inr (fun _ => none)))))) → K q h1 := by
  intro q h1 eq eh
  rw [eq, eh, R.1]
  refine hK _ _ (uP D n (fun _ => none)) (R.nw (sh := .inl (t, len)) ?_ fun b s hb => s_cP hb) f.up (fun a ha hp => ⟨?_, rfl, rfl, rfl, ?_⟩) ?_ fun k => ?_
  · rcases ht with rfl | rfl <;> simp [s_c, uP, va_up]
  · simp only [va_up]; rw [if_neg hp]
  · simp only [uP, va_up]; rw [if_neg hp]
  · simp only [va_up, if_pos]
  · simp only [uP, va_up, if_pos]
/-- a reference is written into a field -/
theorem s_f_setR (O : Nat → Int32) (r : Option Nat) : ∀ (l : List (Option (Option Nat))) (j k : Nat) (r0 : Option Nat), l[k]? = some (some r0) → (s_f O j l).set k (va_rf r) = s_f O j (l.set k (some r))
  | [], j, k, r0, h => by simp at h
  | none :: l, j, 0, r0, h => by simp at h
  | some x :: l, j, 0, r0, h => by simp [s_f]
  | none :: l, j, k + 1, r0, h => by
    simp only [s_f, List.set_cons_succ]
    rw [s_f_setR O r l (j + 1) k r0 (by simpa using h)]
  | some x :: l, j, k + 1, r0, h => by
    simp only [s_f, List.set_cons_succ]
    rw [s_f_setR O r l (j + 1) k r0 (by simpa using h)]
theorem HR.sh {a : Nat} {s : (Nat × Nat) ⊕ (Nat × List (Option (Option Nat)))} (R : HR n S D h) {c : aC} (hc : c = s_c D a s) : HR n (va_up S a (some s)) D (a_up h a c) := by
  refine ⟨R.1, fun b z hz => ?_⟩
  show (va_up h.2 a (some c)) b = _
  simp only [va_up] at hz ⊢
  by_cases e : b = a
  · rw [if_pos e] at hz ⊢
    cases hz
    rw [hc, e]
  · rw [if_neg e] at hz ⊢
    exact R.2 b z hz
theorem W_r {a ci k : Nat} {fl : List (Option (Option Nat))} {r0 : Option Nat} (R : HR n S D h) (hs : S a = some (.inr (ci, fl))) (hk : fl[k]? = some (some r0)) (r : Option Nat) {K : aH → Prop} (hK : ∀ h' S', HR n S' D h' → (∀ b, b ≠ a → S' b = S b) → S' a = some (.inr (ci, fl.set k (some r))) → K h') : wF h a ci k (va_rf r) K := by
  refine ⟨_, R.2 a _ hs, by rw [s_f_len]; exact (List.getElem?_eq_some_iff.mp hk).1, hK _ _ (R.sh (s := .inr (ci, fl.set k (some r))) ?_) (fun b hb => by simp only [va_up]; rw [if_neg hb]) (by simp only [va_up, if_pos])⟩
  simp only [s_c]
  rw [s_f_setR _ _ _ _ _ _ hk]
theorem W_rN {a ci k : Nat} {fl : List (Option (Option Nat))} {r0 : Option Nat} (R : HR n S D h) (hs : S a = some (.inr (ci, fl))) (hc : ci < 4) (hk : fl[k]? = some (some r0)) (r : Option Nat) {K : aH → Prop} (hK : ∀ h' S', HR n S' D h' → (∀ b, b ≠ a → S' b = S b) → S' a = some (.inr (ci, fl.set k (some r))) → K h') : wFN h a k (va_rf r) K := by
  refine ⟨ci, _, hc, R.2 a _ hs, by rw [s_f_len]; exact (List.getElem?_eq_some_iff.mp hk).1, hK _ _ (R.sh (s := .inr (ci, fl.set k (some r))) ?_) (fun b hb => by simp only [va_up]; rw [if_neg hb]) (by simp only [va_up, if_pos])⟩
  simp only [s_c]
  rw [s_f_setR _ _ _ _ _ _ hk]
theorem R_sR4 {a m b ci : Nat} {i : Int32} {fl : List (Option (Option Nat))} {K : aH → Prop} (R : HR n S D h) (hs : S a = some (.inl (4, m))) (hi : vp_in i m) (hb : S b = some (.inr (ci, fl))) (hc : ci = 5) (hK : ∀ h', HR n S (uP D a (va_up (D.2.2.2 a) i.toNatClampNeg (some b))) h' → K h') : sR h 4 a i b (fun ci => ci = 5) K :=
  ⟨_, _, _, _, R.2 a _ hs, hi, R.2 b _ hb, hc, hK _ (R.put hs (by simp [s_c, uP, va_up]) (fun b s hb => s_cP hb))⟩
/-- a new STATE -/
theorem N_st (R : HR n S D h) (f : fr n S) {K : Nat → aH → Prop} (hK : ∀ h' S' D', HR (n + 2) S' D' h' → fr (n + 2) S' → Ex n n S D S' D' → StL n S' → (∀ i, D'.2.1 (n + 1) i = 0) → K n h') : ∀ (q : Nat) (h1 : aH), q = h.1 → h1 = a_nw h (.inr (5, [.null])) → wX7_init h1 q (fun h3 => K q h3) := by
  refine N_o (fl := [some none]) R f rfl fun h1 S1 D1 R1 f1 x1 s1 z1 => ?_
  refine N_F R1 f1 (Or.inl rfl) fun h2 S2 D2 R2 f2 x2 s2 z2 => ?_
  refine W_r (r0 := none) R2 ((x2 n (by omega) (by omega)).1.trans s1) rfl (some (n + 1)) fun h3 S3 R3 o3 s3 => ?_
  refine hK h3 S3 D2 R3 (f2.of (by omega) o3) (fun a ha hp => ?_) ⟨s3, (o3 _ (by omega)).trans s2⟩ z2
  obtain ⟨a1, a2, a3, a4, a5⟩ := x1 a ha hp
  obtain ⟨b1, b2, b3, b4, b5⟩ := x2 a (by omega) (by omega)
  exact ⟨(o3 a hp).trans (b1.trans a1), b2.trans a2, b3.trans a3, b4.trans a4, b5.trans a5⟩
/-- new WAYS -/
def wyZ (q i : Nat) (S : sS) (D : sD) : Prop := ∀ t, t < i → StL (q + 2 + 2 * t) S ∧ (∀ k, D.2.1 (q + 2 + 2 * t + 1) k = 0) ∧ D.2.2.2 (q + 1) t = some (q + 2 + 2 * t)
theorem N_wy_loop {q : Nat} {K : aH → Prop} : ∀ (j i : Nat) (S : sS) (D : sD) (h : aH), j + i = 9 → HR (q + 2 + 2 * i) S D h → fr (q + 2 + 2 * i) S → S q = some (.inr (7, [some (some (q + 1))])) → S (q + 1) = some (.inl (4, 9)) → wyZ q i S D → (∀ h' S' D', HR (q + 20) S' D' h' → fr (q + 20) S' → Ex q q S D S' D' → WyL q S' → (∀ i, i < 9 → D'.2.2.2 (q + 1) i = some (q + 2 + 2 * i)) → (∀ i, i < 9 → ∀ k, D'.2.1 (q + 2 + 2 * i + 1) k = 0) → K h') → wbX9_init_15 j q (nI i) h K
  | 0, i, S, D, h, hi, R, f, s0, s1, z, hK => by
    have e : i = 9 := by omega
    subst e
    exact ⟨nI_lt (a := 8) (b := 9) (by omega) (by omega), hK h S D R f Ex.rf ⟨s0, s1, fun t ht => (z t ht).1⟩ (fun t ht => (z t ht).2.2) (fun t ht => (z t ht).2.1)⟩
  | j + 1, i, S, D, h, hi, R, f, s0, s1, z, hK => by
    refine ⟨nI_nlt (a := 8) (by omega) (by omega), R_R R s0 rfl ?_⟩
    refine N_st R f fun h1 S1 D1 R1 f1 x1 l1 z1 => ?_
    have s0' := (x1 q (by omega) (by omega)).1.trans s0
    have s1' := (x1 (q + 1) (by omega) (by omega)).1.trans s1
    refine R_sR4 R1 s1' (vp_in_nI (by omega) (by omega)) l1.1 rfl fun h2 R2 => ?_
    rw [nI_clamp (by omega)] at R2
    rw [nI_1]
    refine N_wy_loop j (i + 1) S1 _ h2 (by omega) R2 f1 s0' s1' (fun t ht => ?_) fun h3 S3 D3 R3 f3 x3 l3 p3 z3 => hK h3 S3 D3 R3 f3 (fun a ha hp => ?_) l3 p3 z3
    · by_cases e : t = i
      · subst e
        refine ⟨l1, z1, ?_⟩
        simp only [uP, va_up, if_pos]
      · obtain ⟨t1, t2, t3⟩ := z t (by omega)
        refine ⟨⟨(x1 _ (by omega) (by omega)).1.trans t1.1, (x1 _ (by omega) (by omega)).1.trans t1.2⟩, fun k => ?_, ?_⟩
        · show D1.2.1 _ k = 0
          rw [(x1 _ (by omega) (by omega)).2.2.1]; exact t2 k
        · simp only [uP, va_up, if_pos, if_neg e]
          rw [(x1 _ (by omega) (by omega)).2.2.2.2]; exact t3
    · obtain ⟨a1, a2, a3, a4, a5⟩ := x1 a (by omega) (by omega)
      obtain ⟨b1, b2, b3, b4, b5⟩ := x3 a ha hp
      refine ⟨b1.trans a1, b2.trans a2, b3.trans a3, b4.trans a4, b5.trans ?_⟩
      simp only [uP, va_up]; rw [if_neg (by omega)]; exact a5
theorem N_wy (R : HR n S D h) (f : fr n S) {K : Nat → aH → Prop} (hK : ∀ h' S' D', HR (n + 20) S' D' h' → fr (n + 20) S' → Ex n n S D S' D' → WyL n S' → (∀ i, i < 9 → D'.2.2.2 (n + 1) i = some (n + 2 + 2 * i)) → (∀ i, i < 9 → ∀ k, D'.2.1 (n + 2 + 2 * i + 1) k = 0) → K n h') : ∀ (q : Nat) (h1 : aH), q = h.1 → h1 = a_nw h (.inr (7, [.null])) → wX9_init h1 q (fun h3 => K q h3) := by
  refine N_o (fl := [some none]) R f rfl fun h1 S1 D1 R1 f1 x1 s1 z1 => ?_
  refine N_P R1 f1 (Or.inr rfl) fun h2 S2 D2 R2 f2 x2 s2 z2 => ?_
  refine W_r (r0 := none) R2 ((x2 n (by omega) (by omega)).1.trans s1) rfl (some (n + 1)) fun h3 S3 R3 o3 s3 => ?_
  refine N_wy_loop 9 0 S3 D2 h3 rfl R3 (f2.of (by omega) o3) s3 ((o3 _ (by omega)).trans s2) (fun t ht => absurd ht (Nat.not_lt_zero t)) fun h4 S4 D4 R4 f4 x4 l4 p4 z4 => hK h4 S4 D4 R4 f4 (fun a ha hp => ?_) l4 p4 z4
  obtain ⟨a1, a2, a3, a4, a5⟩ := x1 a ha hp
  obtain ⟨b1, b2, b3, b4, b5⟩ := x2 a (by omega) (by omega)
  obtain ⟨c1, c2, c3, c4, c5⟩ := x4 a ha hp
  exact ⟨c1.trans ((o3 a hp).trans (b1.trans a1)), c2.trans (b2.trans a2), c3.trans (b3.trans a3), c4.trans (b4.trans a4), c5.trans (b5.trans a5)⟩
end ALC
