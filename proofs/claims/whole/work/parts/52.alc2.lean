/-! new NODES -/
section ALN
variable {n : Nat} {S : sS} {D : sD} {h : aH}
theorem N_base (R : HR n S D h) (f : fr n S) {p ci : Nat} {fl : List (Option (Option Nat))} (hp : p < n) (hs : S p = some (.inr (ci, fl))) (hc : ci < 4) (k0 : fl[0]? = some none) (k1 : fl[1]? = some none) (k2 : fl[2]? = some (some none)) (k3 : fl[3]? = some (some none)) {v1 v2 : Int32} {Q : aH → Prop} (hq : ∀ h' S' D', HR (n + 22) S' D' h' → fr (n + 22) S' → Ex p n S D S' D' → S' p = some (.inr (ci, (fl.set 2 (some (some n))).set 3 (some (some (n + 2))))) → (∀ k, D'.1 p k = if k = 1 then v2 else if k = 0 then v1 else D.1 p k) → StL n S' → WyL (n + 2) S' → (∀ i, D'.2.1 (n + 1) i = 0) → (∀ i, i < 9 → D'.2.2.2 (n + 3) i = some (n + 4 + 2 * i)) → (∀ i, i < 9 → ∀ k, D'.2.1 (n + 4 + 2 * i + 1) k = 0) → Q h') : wX6_init h p v1 v2 Q := by
  refine N_st R f fun h1 S1 D1 R1 f1 x1 l1 z1 => ?_
  have g1 := x1 p hp (by omega)
  refine W_rN (r0 := none) R1 (g1.1.trans hs) hc k2 (some n) fun h2 S2 R2 o2 s2 => ?_
  have f2 := f1.of (by omega) o2
  refine N_wy R2 f2 fun h3 S3 D3 R3 f3 x3 l3 p3 z3 => ?_
  have g3 := x3 p (by omega) (by omega)
  refine W_rN (r0 := none) R3 (g3.1.trans s2) hc (by simpa using k3) (some (n + 2)) fun h4 S4 R4 o4 s4 => ?_
  have f4 := f3.of (by omega) o4
  have j0 : ((fl.set 2 (some (some n))).set 3 (some (some (n + 2))))[0]? = some none := by simpa using k0
  have j1 : ((fl.set 2 (some (some n))).set 3 (some (some (n + 2))))[1]? = some none := by simpa using k1
  refine R_wFN R4 s4 hc j0 fun h5 R5 => R_wFN R5 s4 hc j1 fun h6 R6 => ?_
  have keep : ∀ q, q ≠ p → StL q S3 → q + 1 ≠ p → StL q S4 := fun q h1 l h2 => ⟨(o4 q h1).trans l.1, (o4 _ h2).trans l.2⟩
  refine hq h6 S4 _ R6 f4 (fun a ha hap => ?_) s4 (fun k => ?_) ?_ ?_ ?_ p3 z3
  · obtain ⟨a1, a2, a3, a4, a5⟩ := x1 a ha (by omega)
    obtain ⟨b1, b2, b3, b4, b5⟩ := x3 a (by omega) (by omega)
    refine ⟨(o4 a hap).trans (b1.trans ((o2 a hap).trans a1)), ?_, b3.trans a3, b4.trans a4, b5.trans a5⟩
    simp only [uO, va_up]; rw [if_neg hap, if_neg hap]; exact b2.trans a2
  · rw [uO_at, uO_at, g3.2.1, g1.2.1]
  · refine keep n (by omega) ⟨(x3 _ (by omega) (by omega)).1.trans ((o2 _ (by omega)).trans l1.1), (x3 _ (by omega) (by omega)).1.trans ((o2 _ (by omega)).trans l1.2)⟩ (by omega)
  · refine ⟨(o4 _ (by omega)).trans l3.1, (o4 _ (by omega)).trans l3.2.1, fun i hi => keep _ (by omega) (l3.2.2 i hi) (by omega)⟩
  · intro i
    show D3.2.1 (n + 1) i = 0
    rw [(x3 _ (by omega) (by omega)).2.2.1]; exact z1 i
/-- what a new node's block is -/
def NN (p ci : Nat) (fl : List (Option (Option Nat))) (vals : Nat → Int32) (S' : sS) (D' : sD) : Prop :=
  S' p = some (.inr (ci, fl)) ∧ (∀ k, D'.1 p k = vals k) ∧ StL (p + 1) S' ∧ WyL (p + 3) S' ∧ StL (p + 23) S' ∧ (∀ i, D'.2.1 (p + 2) i = 0) ∧ (∀ i, i < 9 → D'.2.2.2 (p + 4) i = some (p + 5 + 2 * i)) ∧ (∀ i, i < 9 → ∀ k, D'.2.1 (p + 5 + 2 * i + 1) k = 0) ∧
  (ci = 3 → WyL (p + 25) S' ∧ (∀ i, i < 9 → D'.2.2.2 (p + 26) i = some (p + 27 + 2 * i)) ∧ ∀ i, i < 9 → ∀ k, D'.2.1 (p + 27 + 2 * i + 1) k = 0)
/-- the base and the first STATE of one's own -/
theorem N_own {p ci kk : Nat} {fl : List (Option (Option Nat))} (R : HR (p + 1) S D h) (f : fr (p + 1) S) (hs : S p = some (.inr (ci, fl))) (hc : ci < 4) (k0 : fl[0]? = some none) (k1 : fl[1]? = some none) (k2 : fl[2]? = some (some none)) (k3 : fl[3]? = some (some none)) (kk4 : 4 ≤ kk) (k4 : fl[kk]? = some (some none)) (hz : ∀ k, D.1 p k = 0) {v1 v2 : Int32} {Q : aH → Prop} (hq : ∀ h' S' D', HR (p + 25) S' D' h' → fr (p + 25) S' → Ex p (p + 1) S D S' D' → S' p = some (.inr (ci, ((fl.set 2 (some (some (p + 1)))).set 3 (some (some (p + 3)))).set kk (some (some (p + 23))))) → (∀ k, D'.1 p k = if k = 1 then v2 else if k = 0 then v1 else 0) → StL (p + 1) S' → WyL (p + 3) S' → StL (p + 23) S' → (∀ i, D'.2.1 (p + 2) i = 0) → (∀ i, i < 9 → D'.2.2.2 (p + 4) i = some (p + 5 + 2 * i)) → (∀ i, i < 9 → ∀ k, D'.2.1 (p + 5 + 2 * i + 1) k = 0) → Q h') : wX6_init h p v1 v2 (fun h1 => ∀ (q3 : Nat) (h2 : aH), q3 = h1.1 → h2 = a_nw h1 (.inr (5, [.null])) → wX7_init h2 q3 (fun h4 => wF h4 p ci kk (.ref q3) (fun h5 => Q h5))) := by
  refine N_base R f (by omega) hs hc k0 k1 k2 k3 fun h1 S1 D1 R1 f1 x1 s1 d1 l1 w1 z1 p1 y1 => ?_
  refine N_st R1 f1 fun h2 S2 D2 R2 f2 x2 l2 z2 => ?_
  have g2 := x2 p (by omega) (by omega)
  have j4 : ((fl.set 2 (some (some (p + 1)))).set 3 (some (some (p + 1 + 2))))[kk]? = some (some none) := by
    rw [List.getElem?_set_ne (by omega), List.getElem?_set_ne (by omega)]; exact k4
  refine W_r (r0 := none) R2 (g2.1.trans s1) j4 (some (p + 1 + 22)) fun h3 S3 R3 o3 s3 => ?_
  have f3 := f2.of (p := p) (by omega) o3
  have kS : ∀ q, q ≠ p → q < p + 1 + 22 → S3 q = S1 q := fun q h1 h2 => (o3 q h1).trans (x2 q h2 (by omega)).1
  refine hq h3 S3 D2 R3 f3 (fun a ha hap => ?_) s3 (fun k => ?_) ?_ ?_ ?_ (fun i => ?_) (fun i hi => ?_) (fun i hi k => ?_)
  · obtain ⟨a1, a2, a3, a4, a5⟩ := x1 a ha hap
    obtain ⟨b1, b2, b3, b4, b5⟩ := x2 a (by omega) (by omega)
    exact ⟨(o3 a hap).trans (b1.trans a1), b2.trans a2, b3.trans a3, b4.trans a4, b5.trans a5⟩
  · rw [g2.2.1, d1 k, hz k]
  · exact ⟨(kS _ (by omega) (by omega)).trans l1.1, (kS _ (by omega) (by omega)).trans l1.2⟩
  · exact ⟨(kS _ (by omega) (by omega)).trans w1.1, (kS _ (by omega) (by omega)).trans w1.2.1, fun i hi => ⟨(kS _ (by omega) (by omega)).trans (w1.2.2 i hi).1, (kS _ (by omega) (by omega)).trans (w1.2.2 i hi).2⟩⟩
  · exact ⟨(o3 _ (by omega)).trans l2.1, (o3 _ (by omega)).trans l2.2⟩
  · rw [(x2 _ (by omega) (by omega)).2.2.1]; exact z1 i
  · rw [(x2 _ (by omega) (by omega)).2.2.2.2]
    have := p1 i hi
    rw [show p + 4 = p + 1 + 3 by omega, show p + 5 + 2 * i = p + 1 + 4 + 2 * i by omega]; exact this
  · rw [(x2 _ (by omega) (by omega)).2.2.1]
    have := y1 i hi k
    rw [show p + 5 + 2 * i + 1 = p + 1 + 4 + 2 * i + 1 by omega]; exact this
theorem N_act0 {p : Nat} (R : HR (p + 1) S D h) (f : fr (p + 1) S) (hs : S p = some (.inr (0, [none, none, some none, some none, none, none, none, none, none, none, some none]))) (hz : ∀ k, D.1 p k = 0) {num op a b c d : Int32} {Q : aH → Prop} (hq : ∀ h' S' D', HR (p + 25) S' D' h' → fr (p + 25) S' → Ex p (p + 1) S D S' D' → NN p 0 [none, none, some (some (p + 1)), some (some (p + 3)), none, none, none, none, none, none, some (some (p + 23))] (fun k => if k = 9 then d else if k = 8 then c else if k = 7 then b else if k = 6 then a else if k = 5 then op else if k = 1 then 1 else if k = 0 then num else 0) S' D' → Q h') : wX0_init h p num op a b c d Q := by
  refine N_own (kk := 10) R f hs (by omega) rfl rfl rfl rfl (by omega) rfl hz fun h1 S1 D1 R1 f1 x1 s1 d1 l1 w1 m1 z1 p1 y1 => ?_
  refine R_wF R1 s1 rfl fun h2 R2 => R_wF R2 s1 rfl fun h3 R3 => R_wF R3 s1 rfl fun h4 R4 => R_wF R4 s1 rfl fun h5 R5 => R_wF R5 s1 rfl fun h6 R6 => ?_
  refine hq h6 S1 _ R6 f1 (fun e he hp => ?_) ⟨s1, fun k => ?_, l1, w1, m1, z1, p1, y1, fun e => absurd e (by decide)⟩
  · obtain ⟨a1, a2, a3, a4, a5⟩ := x1 e he hp
    refine ⟨a1, ?_, a3, a4, a5⟩
    simp only [uO, va_up, if_neg hp]; exact a2
  · rw [uO_at, uO_at, uO_at, uO_at, uO_at, d1 k]
theorem N_both0 {p : Nat} (R : HR (p + 1) S D h) (f : fr (p + 1) S) (hs : S p = some (.inr (1, [none, none, some none, some none, none, some none, some none, some none]))) (hz : ∀ k, D.1 p k = 0) {num co : Int32} {ra rb : Nat} {Q : aH → Prop} (hq : ∀ h' S' D', HR (p + 25) S' D' h' → fr (p + 25) S' → Ex p (p + 1) S D S' D' → NN p 1 [none, none, some (some (p + 1)), some (some (p + 3)), none, some (some ra), some (some rb), some (some (p + 23))] (fun k => if k = 1 then co else if k = 0 then num else 0) S' D' → Q h') : wX1_init h p num co ra rb Q := by
  refine N_own (kk := 7) R f hs (by omega) rfl rfl rfl rfl (by omega) rfl hz fun h1 S1 D1 R1 f1 x1 s1 d1 l1 w1 m1 z1 p1 y1 => ?_
  refine W_r (r0 := none) R1 s1 rfl (some ra) fun h2 S2 R2 o2 s2 => W_r (r0 := none) R2 s2 rfl (some rb) fun h3 S3 R3 o3 s3 => ?_
  have kS : ∀ q, q ≠ p → S3 q = S1 q := fun q h1 => (o3 q h1).trans (o2 q h1)
  have f3 : fr (p + 25) S3 := fun a ha => (kS a (by omega)).trans (f1 a ha)
  refine hq h3 S3 D1 R3 f3 (fun e he hp => ?_) ⟨s3, d1, ?_, ?_, ?_, z1, p1, y1, fun e => absurd e (by decide)⟩
  · obtain ⟨a1, a2, a3, a4, a5⟩ := x1 e he hp
    exact ⟨(kS e hp).trans a1, a2, a3, a4, a5⟩
  · exact ⟨(kS _ (by omega)).trans l1.1, (kS _ (by omega)).trans l1.2⟩
  · exact ⟨(kS _ (by omega)).trans w1.1, (kS _ (by omega)).trans w1.2.1, fun i hi => ⟨(kS _ (by omega)).trans (w1.2.2 i hi).1, (kS _ (by omega)).trans (w1.2.2 i hi).2⟩⟩
  · exact ⟨(kS _ (by omega)).trans m1.1, (kS _ (by omega)).trans m1.2⟩
theorem N_choice0 {p : Nat} (R : HR (p + 1) S D h) (f : fr (p + 1) S) (hs : S p = some (.inr (2, [none, none, some none, some none, none, none, none, some none, some none, some none]))) (hz : ∀ k, D.1 p k = 0) {num co x b : Int32} {ra rb : Nat} {Q : aH → Prop} (hq : ∀ h' S' D', HR (p + 25) S' D' h' → fr (p + 25) S' → Ex p (p + 1) S D S' D' → NN p 2 [none, none, some (some (p + 1)), some (some (p + 3)), none, none, none, some (some ra), some (some rb), some (some (p + 23))] (fun k => if k = 6 then b else if k = 5 then x else if k = 1 then co else if k = 0 then num else 0) S' D' → Q h') : wX2_init h p num co x b ra rb Q := by
  refine N_own (kk := 9) R f hs (by omega) rfl rfl rfl rfl (by omega) rfl hz fun h1 S1 D1 R1 f1 x1 s1 d1 l1 w1 m1 z1 p1 y1 => ?_
  refine R_wF R1 s1 rfl fun h2 R2 => R_wF R2 s1 rfl fun h3 R3 => W_r (r0 := none) R3 s1 rfl (some ra) fun h4 S4 R4 o4 s4 => W_r (r0 := none) R4 s4 rfl (some rb) fun h5 S5 R5 o5 s5 => ?_
  have kS : ∀ q, q ≠ p → S5 q = S1 q := fun q h1 => (o5 q h1).trans (o4 q h1)
  have f5 : fr (p + 25) S5 := fun a ha => (kS a (by omega)).trans (f1 a ha)
  refine hq h5 S5 _ R5 f5 (fun e he hp => ?_) ⟨s5, fun k => ?_, ?_, ?_, ?_, z1, p1, y1, fun e => absurd e (by decide)⟩
  · obtain ⟨a1, a2, a3, a4, a5⟩ := x1 e he hp
    refine ⟨(kS e hp).trans a1, ?_, a3, a4, a5⟩
    simp only [uO, va_up, if_neg hp]; exact a2
  · rw [uO_at, uO_at, d1 k]
  · exact ⟨(kS _ (by omega)).trans l1.1, (kS _ (by omega)).trans l1.2⟩
  · exact ⟨(kS _ (by omega)).trans w1.1, (kS _ (by omega)).trans w1.2.1, fun i hi => ⟨(kS _ (by omega)).trans (w1.2.2 i hi).1, (kS _ (by omega)).trans (w1.2.2 i hi).2⟩⟩
  · exact ⟨(kS _ (by omega)).trans m1.1, (kS _ (by omega)).trans m1.2⟩
theorem N_guard0 {p : Nat} (R : HR (p + 1) S D h) (f : fr (p + 1) S) (hs : S p = some (.inr (3, [none, none, some none, some none, none, some none, none, some none, some none, some none, some none, none, none]))) (hz : ∀ k, D.1 p k = 0) {num co b : Int32} {ra : Nat} {rc rd : Option Nat} {Q : aH → Prop} (hq : ∀ h' S' D', HR (p + 45) S' D' h' → fr (p + 45) S' → Ex p (p + 1) S D S' D' → NN p 3 [none, none, some (some (p + 1)), some (some (p + 3)), none, some (some ra), none, some rc, some rd, some (some (p + 23)), some (some (p + 25)), none, none] (fun k => if k = 6 then b else if k = 1 then co else if k = 0 then num else 0) S' D' → Q h') : wX3_init h p num co ra b rc rd Q := by
  refine N_own (kk := 9) R f hs (by omega) rfl rfl rfl rfl (by omega) rfl hz fun h1 S1 D1 R1 f1 x1 s1 d1 l1 w1 m1 z1 p1 y1 => ?_
  refine N_wy R1 f1 fun h2 S2 D2 R2 f2 x2 l2 p2 z2 => ?_
  have g2 := x2 p (by omega) (by omega)
  have s2 := g2.1.trans s1
  refine W_r (r0 := none) R2 s2 rfl (some (p + 25)) fun h3 S3 R3 o3 s3 => W_r (r0 := none) R3 s3 rfl (some ra) fun h4 S4 R4 o4 s4 => R_wF R4 s4 rfl fun h5 R5 => W_r (r0 := none) R5 s4 rfl rc fun h6 S6 R6 o6 s6 => W_r (r0 := none) R6 s6 rfl rd fun h7 S7 R7 o7 s7 => ?_
  have kS : ∀ q, q ≠ p → S7 q = S2 q := fun q h1 => (o7 q h1).trans ((o6 q h1).trans ((o4 q h1).trans (o3 q h1)))
  have kT : ∀ q, q ≠ p → q < p + 25 → S7 q = S1 q := fun q h1 h2 => (kS q h1).trans (x2 q h2 (by omega)).1
  have f7 : fr (p + 45) S7 := fun a ha => (kS a (by omega)).trans (f2 a ha)
  refine hq h7 S7 _ R7 f7 (fun e he hp => ?_) ⟨s7, fun k => ?_, ?_, ?_, ?_, fun i => ?_, fun i hi => ?_, fun i hi k => ?_, fun _ => ⟨?_, p2, z2⟩⟩
  · obtain ⟨a1, a2, a3, a4, a5⟩ := x1 e he hp
    obtain ⟨b1, b2, b3, b4, b5⟩ := x2 e (by omega) (by omega)
    refine ⟨(kS e hp).trans (b1.trans a1), ?_, b3.trans a3, b4.trans a4, b5.trans a5⟩
    simp only [uO, va_up, if_neg hp]; exact b2.trans a2
  · rw [uO_at, g2.2.1, d1 k]
  · exact ⟨(kT _ (by omega) (by omega)).trans l1.1, (kT _ (by omega) (by omega)).trans l1.2⟩
  · exact ⟨(kT _ (by omega) (by omega)).trans w1.1, (kT _ (by omega) (by omega)).trans w1.2.1, fun i hi => ⟨(kT _ (by omega) (by omega)).trans (w1.2.2 i hi).1, (kT _ (by omega) (by omega)).trans (w1.2.2 i hi).2⟩⟩
  · exact ⟨(kT _ (by omega) (by omega)).trans m1.1, (kT _ (by omega) (by omega)).trans m1.2⟩
  · show D2.2.1 _ i = 0
    rw [(x2 _ (by omega) (by omega)).2.2.1]; exact z1 i
  · show D2.2.2.2 _ i = _
    rw [(x2 _ (by omega) (by omega)).2.2.2.2]; exact p1 i hi
  · show D2.2.1 _ k = 0
    rw [(x2 _ (by omega) (by omega)).2.2.1]; exact y1 i hi k
  · exact ⟨(kS _ (by omega)).trans l2.1, (kS _ (by omega)).trans l2.2.1, fun i hi => ⟨(kS _ (by omega)).trans (l2.2.2 i hi).1, (kS _ (by omega)).trans (l2.2.2 i hi).2⟩⟩
end ALN
