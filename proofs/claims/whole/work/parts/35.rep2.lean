/-! the class' STATES and WAYS -/
def sOn (a : Nat) (D D' : sD) : Prop := D'.1 = D.1 ∧ D'.2.2 = D.2.2 ∧ ∀ b, b ≠ a → D'.2.1 b = D.2.1 b
theorem sOn.rf {a : Nat} {D : sD} : sOn a D D := ⟨rfl, rfl, fun _ _ => rfl⟩
theorem sOn.tr {a : Nat} {D D' D'' : sD} (h : sOn a D D') (h' : sOn a D' D'') : sOn a D D'' := ⟨h'.1.trans h.1, h'.2.1.trans h.2.1, fun b hb => (h'.2.2 b hb).trans (h.2.2 b hb)⟩
theorem sOn.F {a : Nat} {D : sD} {f : Nat → Int32} : sOn a D (uF D a f) := ⟨rfl, rfl, fun b hb => by simp [uF, va_up, hb]⟩
def stR (q : Nat) (s : rS) (D : sD) : Prop := ∀ i, i < 12 → D.2.1 (q + 1) i = s i
theorem stR.on {q a : Nat} {s : rS} {D D' : sD} (h : stR q s D) (o : sOn a D D') (hq : q + 1 ≠ a) : stR q s D' := fun i hi => by rw [o.2.2 _ hq]; exact h i hi
theorem stR.cg {q : Nat} {s : rS} {D D' : sD} (h : stR q s D) (e : D'.2.1 (q + 1) = D.2.1 (q + 1)) : stR q s D' := fun i hi => by rw [e]; exact h i hi
section STS
variable {n : Nat} {S : sS} {D : sD} {h : aH} {q r : Nat} {s t : rS}
theorem st_join_loop (Lq : StL q S) (Lr : StL r S) {Q : aH → Prop} {D0 : sD} (sq : stR q s D0) (sr : stR r t D0) : ∀ (j i : Nat) (D : sD) (h : aH), j + i = 12 → HR n S D h → sOn (q + 1) D0 D → (∀ k, k < 12 → D.2.1 (q + 1) k = if k < i then s k ||| t k else s k) → (∀ h' D', HR n S D' h' → sOn (q + 1) D0 D' → stR q (fun i => s i ||| t i) D' → Q h') → wbX7_join_2 (j + 1) q r (nI i) h Q
  | 0, i, D, h, hi, R, O, hk, hq => by
    have e : i = 12 := by omega
    subst e
    refine ⟨fun _ => hq h D R O fun k hk2 => ?_, fun z => absurd (nI_le (Nat.le_refl 12) (by omega)) z⟩
    rw [hk k hk2, if_pos hk2]
  | j + 1, i, D, h, hi, R, O, hk, hq => by
    have hr : D.2.1 (r + 1) i = t i := by
      by_cases e : r + 1 = q + 1
      · rw [e, hk i (by omega), if_neg (by omega)]
        have e1 : r = q := by omega
        subst e1
        rw [← sq i (by omega), ← sr i (by omega)]
      · rw [O.2.2 _ e]; exact sr i (by omega)
    refine ⟨fun z => absurd ((nI_leI (a := 12) (by omega) (by omega)).mp z) (by omega), fun _ => R_R R Lq.1 rfl (R_aI R Lq.2 (vp_in_nI (by omega) (by omega)) (R_R R Lr.1 rfl (R_aI R Lr.2 (vp_in_nI (by omega) (by omega)) (R_sI R Lq.2 (vp_in_nI (by omega) (by omega)) fun h' R' => ?_))))⟩
    rw [nI_clamp (by omega), hr, hk i (by omega), if_neg (by omega)] at R'
    show wbX7_join_2 (j + 1) q r (nI i + 1) h' Q
    rw [nI_1]
    refine st_join_loop Lq Lr sq sr j (i + 1) _ h' (by omega) R' (O.tr sOn.F) (fun k hk2 => ?_) hq
    rw [uF_at]
    simp only [upd]
    by_cases e : k = i
    · subst e; rw [if_pos rfl, if_pos (by omega)]
    · rw [if_neg e, hk k hk2]
      by_cases e2 : k < i
      · rw [if_pos e2, if_pos (by omega)]
      · rw [if_neg e2, if_neg (by omega)]
theorem st_join (R : HR n S D h) (Lq : StL q S) (Lr : StL r S) (sq : stR q s D) (sr : stR r t D) {Q : aH → Prop} (hq : ∀ h' D', HR n S D' h' → sOn (q + 1) D D' → stR q (fun i => s i ||| t i) D' → Q h') : wX7_join h q r Q :=
  ⟨13, st_join_loop Lq Lr sq sr 12 0 D h rfl R sOn.rf (fun k hk => by rw [if_neg (by omega)]; exact sq k hk) hq⟩
theorem st_joinWith_loop (Lq : StL q S) (Lr : StL r S) (hne : q ≠ r) {c : Nat} (hc : c < 12) {x : Int32} {Q : aH → Prop} {D0 : sD} (sr : stR r t D0) : ∀ (j i : Nat) (D : sD) (h : aH), j + i = 12 → HR n S D h → sOn (q + 1) D0 D → (∀ k, k < 12 → D.2.1 (q + 1) k = if k < i then s k ||| upd t c x k else s k) → (∀ h' D', HR n S D' h' → sOn (q + 1) D0 D' → stR q (fun i => s i ||| upd t c x i) D' → Q h') → wbX7_joinWith_3 (j + 1) q r (nI c) x (nI i) h Q
  | 0, i, D, h, hi, R, O, hk, hq => by
    have e : i = 12 := by omega
    subst e
    refine ⟨fun _ => hq h D R O fun k hk2 => ?_, fun z => absurd (nI_le (Nat.le_refl 12) (by omega)) z⟩
    rw [hk k hk2, if_pos hk2]
  | j + 1, i, D, h, hi, R, O, hk, hq => by
    have hr : D.2.1 (r + 1) i = t i := by rw [O.2.2 _ (by omega)]; exact sr i (by omega)
    have next : ∀ v, v = upd t c x i → wbX7_joinWith_35 (fun v0 v1 v2 v3 v4 h => wbX7_joinWith_3 (j + 1) v0 v1 v2 v3 v4 h Q) q r (nI c) x (nI i) v (D.2.1 (q + 1) i) (nI i) (q + 1) h Q := by
      intro v hv
      refine R_sI R Lq.2 (vp_in_nI (by omega) (by omega)) fun h' R' => ?_
      rw [nI_clamp (by omega), hk i (by omega), if_neg (by omega), hv] at R'
      show wbX7_joinWith_3 (j + 1) q r (nI c) x (nI i + 1) h' Q
      rw [nI_1]
      refine st_joinWith_loop Lq Lr hne hc sr j (i + 1) _ h' (by omega) R' (O.tr sOn.F) (fun k hk2 => ?_) hq
      rw [uF_at]
      generalize hg : upd t c x = g
      simp only [upd]
      by_cases e : k = i
      · subst e; rw [if_pos rfl, if_pos (by omega)]
      · rw [if_neg e, hk k hk2, hg]
        by_cases e2 : k < i
        · rw [if_pos e2, if_pos (by omega)]
        · rw [if_neg e2, if_neg (by omega)]
    refine ⟨fun z => absurd ((nI_leI (a := 12) (by omega) (by omega)).mp z) (by omega), fun _ => R_R R Lq.1 rfl (R_aI R Lq.2 (vp_in_nI (by omega) (by omega)) ?_)⟩
    rw [nI_clamp (by omega)]
    refine ⟨fun z => R_R R Lr.1 rfl (R_aI R Lr.2 (vp_in_nI (by omega) (by omega)) (next _ ?_)), fun z => next _ ?_⟩
    · rw [nI_clamp (by omega), hr]
      simp only [upd]; rw [if_neg (fun e => z (by rw [e]))]
    · have := (nI_eq (by omega) (by omega)).mp z
      simp only [upd]; rw [if_pos this]
theorem st_joinWith (R : HR n S D h) (Lq : StL q S) (Lr : StL r S) (hne : q ≠ r) {c : Nat} (hc : c < 12) {x : Int32} (sq : stR q s D) (sr : stR r t D) {Q : aH → Prop} (hq : ∀ h' D', HR n S D' h' → sOn (q + 1) D D' → stR q (fun i => s i ||| upd t c x i) D' → Q h') : wX7_joinWith h q r (nI c) x Q :=
  ⟨13, st_joinWith_loop Lq Lr hne hc sr 12 0 D h rfl R sOn.rf (fun k hk => by rw [if_neg (by omega)]; exact sq k hk) hq⟩
theorem st_of (R : HR n S D h) (Lq : StL q S) (sq : stR q s D) {c : Nat} (hc : c < 12) {Q : Int32 → aH → Prop} (hq : Q (s c) h) : wX7_of h q (nI c) Q := by
  refine R_R R Lq.1 rfl (R_aI R Lq.2 (vp_in_nI hc (by omega)) ?_)
  rw [nI_clamp (by omega), sq c hc]; exact hq
theorem st_has (R : HR n S D h) (Lq : StL q S) (sq : stR q s D) {c : Nat} (hc : c < 12) {k : Int32} {Q : Int32 → aH → Prop} (hq : Q (kHas (s c) k) h) : wX7_has h q (nI c) k Q := by
  refine R_R R Lq.1 rfl (R_aI R Lq.2 (vp_in_nI hc (by omega)) ?_)
  rw [nI_clamp (by omega), sq c hc]
  exact sp_has ⟨kHas_B _ _, hq⟩
theorem st_isThere (R : HR n S D h) (Lq : StL q S) (sq : stR q s D) {Q : Int32 → aH → Prop} (h0 : s 0 = 0 → Q 0 h) (h1 : ¬ s 0 = 0 → Q 1 h) : wX7_isThere h q Q := by
  refine R_R R Lq.1 rfl (R_aI (i := nI 0) R Lq.2 (vp_in_nI (by omega) (by omega)) ?_)
  rw [nI_clamp (by omega), sq 0 (by omega)]
  exact ⟨fun z => ⟨Or.inl rfl, h0 z⟩, fun z => ⟨Or.inr rfl, h1 z⟩⟩
theorem st_put (R : HR n S D h) (Lq : StL q S) (sq : stR q s D) {c : Nat} (hc : c < 12) {x : Int32} {Q : aH → Prop} (hq : ∀ h' D', HR n S D' h' → sOn (q + 1) D D' → stR q (upd s c x) D' → Q h') : wX7_put h q (nI c) x Q := by
  refine R_R R Lq.1 rfl (R_sI R Lq.2 (vp_in_nI hc (by omega)) fun h' R' => hq h' _ R' sOn.F fun i hi => ?_)
  rw [nI_clamp (by omega), uF_at]
  simp only [upd]
  split
  · rfl
  · exact sq i hi
theorem st_erase (R : HR n S D h) (Lq : StL q S) {Q : aH → Prop} (hq : ∀ h' D', HR n S D' h' → sOn (q + 1) D D' → stR q rZ D' → Q h') : wX7_erase h q Q := by
  refine R_R R Lq.1 rfl (sj_fillI (by omega) Lq.2 R fun h' R' => hq h' _ R' sOn.F fun i hi => ?_)
  rw [uF_at, if_pos hi]; rfl
theorem st_keep (R : HR n S D h) (Lq : StL q S) (sq : stR q s D) {c : Nat} (hc : c < 12) {x : Int32} {Q : aH → Prop} (hq : ∀ h' D', HR n S D' h' → sOn (q + 1) D D' → stR q (kp s c x) D' → Q h') : wX7_keep h q (nI c) x Q := by
  refine R_R R Lq.1 rfl (R_aI R Lq.2 (vp_in_nI hc (by omega)) (R_sI R Lq.2 (vp_in_nI hc (by omega)) fun h1 R1 => ?_))
  rw [nI_clamp (by omega), sq c hc] at R1
  refine R_R R1 Lq.1 rfl (R_aI R1 Lq.2 (vp_in_nI hc (by omega)) ?_)
  rw [nI_clamp (by omega), uF_at]
  have e : upd (D.2.1 (q + 1)) c (s c &&& x) c = s c &&& x := by simp [upd]
  rw [e]
  unfold kp at hq
  refine ⟨fun z => ?_, fun z => R_R R1 Lq.1 rfl (sj_fillI (by omega) Lq.2 R1 fun h2 R2 => ?_)⟩
  · rw [if_neg z] at hq
    refine hq h1 _ R1 sOn.F fun i hi => ?_
    rw [uF_at]
    simp only [upd]
    split
    · rfl
    · exact sq i hi
  · rw [if_pos z] at hq
    refine hq h2 _ R2 (sOn.F.tr sOn.F) fun i hi => ?_
    rw [uF_at, if_pos hi]; rfl
theorem st_become (R : HR n S D h) (Lq : StL q S) (Lr : StL r S) (sr : stR r t D) {Q : aH → Prop} (hq : ∀ h' D', HR n S D' h' → sOn (q + 1) D D' → stR q t D' → Q h') : wX7_become h q r Q := by
  refine R_R R Lr.1 rfl (R_R R Lq.1 rfl (R_cpI R Lr.2 Lq.2 (by decide) (by decide) (by decide) (by decide) (by decide) fun h' R' => hq h' _ R' sOn.F fun i hi => ?_))
  rw [uF_at]
  have e0 : (0 : Int32).toNatClampNeg = 0 := by decide
  have e1 : (12 : Int32).toNatClampNeg = 12 := by decide
  rw [e0, e1]
  simp only [va_cpy]
  rw [if_pos (by omega), Nat.zero_add, Nat.sub_zero]
  exact sr i hi
end STS
/-- WAYS -/
def wOn (q : Nat) (D D' : sD) : Prop := D'.1 = D.1 ∧ D'.2.2 = D.2.2 ∧ ∀ b, ¬ (q + 3 ≤ b ∧ b ≤ q + 19) → D'.2.1 b = D.2.1 b
theorem wOn.rf {q : Nat} {D : sD} : wOn q D D := ⟨rfl, rfl, fun _ _ => rfl⟩
theorem wOn.tr {q : Nat} {D D' D'' : sD} (h : wOn q D D') (h' : wOn q D' D'') : wOn q D D'' := ⟨h'.1.trans h.1, h'.2.1.trans h.2.1, fun b hb => (h'.2.2 b hb).trans (h.2.2 b hb)⟩
theorem sOn.w {q f : Nat} {D D' : sD} (h : sOn (q + 2 + 2 * f + 1) D D') (hf : f < 9) : wOn q D D' := ⟨h.1, h.2.1, fun b hb => h.2.2 b (by omega)⟩
def wyP (q : Nat) (D : sD) : Prop := ∀ f, f < 9 → D.2.2.2 (q + 1) f = some (q + 2 + 2 * f)
def wyR (q : Nat) (W : rW) (D : sD) : Prop := ∀ f, f < 9 → stR (q + 2 + 2 * f) (W f) D
theorem wyP.cg {q : Nat} {D D' : sD} (h : wyP q D) (e : D'.2.2 = D.2.2) : wyP q D' := fun f hf => by rw [e]; exact h f hf
theorem wyR.on {q a : Nat} {W : rW} {D D' : sD} (h : wyR q W D) (o : sOn a D D') (ha : ¬ (q + 3 ≤ a ∧ a ≤ q + 19)) : wyR q W D' := fun f hf => (h f hf).on o (by omega)
theorem wyR.won {q r : Nat} {W : rW} {D D' : sD} (h : wyR q W D) (o : wOn r D D') (ha : r + 20 ≤ q ∨ q + 20 ≤ r) : wyR q W D' := fun f hf => (h f hf).cg (o.2.2 _ (by omega))
theorem stR.won {q r : Nat} {s : rS} {D D' : sD} (h : stR q s D) (o : wOn r D D') (ha : ¬ (r + 3 ≤ q + 1 ∧ q + 1 ≤ r + 19)) : stR q s D' := h.cg (o.2.2 _ ha)
/-- one way changes -/
theorem wyR.set {q f : Nat} {W : rW} {s : rS} {D D' : sD} (h : wyR q W D) (hf : f < 9) (o : sOn (q + 2 + 2 * f + 1) D D') (hs : stR (q + 2 + 2 * f) s D') : wyR q (fun g => if g = f then s else W g) D' := by
  intro g hg
  by_cases e : g = f
  · subst e; simp only [if_true]; exact hs
  · simp only [if_neg e]; exact (h g hg).on o (by omega)
theorem wyR.eq {q : Nat} {W V : rW} {D : sD} (h : wyR q W D) (e : ∀ g i, W g i = V g i) : wyR q V D := fun f hf i hi => by rw [← e]; exact h f hf i hi
section WYS
variable {n : Nat} {S : sS} {D : sD} {h : aH} {q r : Nat} {W V : rW}
theorem wy_by (R : HR n S D h) (L : WyL q S) (P : wyP q D) {f : Nat} (hf : f < 9) {Q : Option Nat → aH → Prop} (hq : Q (some (q + 2 + 2 * f)) h) : wX9_by h q (nI f) Q :=
  R_R R L.1 rfl (R_aR4 R L.2.1 (vp_in_nI hf (by omega)) (by rw [nI_clamp (by omega)]; exact P f hf) hq)
theorem wy_at (R : HR n S D h) (L : WyL q S) (P : wyP q D) {f : Nat} (hf : f < 9) {K : Nat → Prop} (hq : K (q + 2 + 2 * f)) : rR h q 7 0 (fun a => aR h 4 a (nI f) K) :=
  R_R R L.1 rfl (R_aR4 R L.2.1 (vp_in_nI hf (by omega)) (by rw [nI_clamp (by omega)]; exact P f hf) hq)
/-- a way joined -/
theorem wy_jn (R : HR n S D h) (L : WyL q S) (wq : wyR q W D) {f : Nat} (hf : f < 9) (Lr : StL r S) {t : rS} (sr : stR r t D) {Q : aH → Prop} (hq : ∀ h' D', HR n S D' h' → wOn q D D' → wyR q (jn W f t) D' → Q h') : wX7_join h (q + 2 + 2 * f) r Q := by
  refine st_join R (L.2.2 f hf) Lr (wq f hf) sr fun h' D' R' O' s' => hq h' D' R' (O'.w hf) ((wq.set hf O' s').eq fun g i => ?_)
  unfold jn
  by_cases e : g = f
  · rw [if_pos e, if_pos e, e]
  · rw [if_neg e, if_neg e]
theorem n8lt {f : Nat} (h : f < 9) : ¬ (8 : Int32) < nI f := nI_nlt (a := 8) (by omega) (by omega)
theorem wy_erase_loop (L : WyL q S) (okw : okW W) {Q : aH → Prop} {D0 : sD} : ∀ (j i : Nat) (D : sD) (h : aH), j + i = 9 → HR n S D h → wOn q D0 D → wyP q D → wyR q (fun g => if g < i then rZ else W g) D → (∀ h' D', HR n S D' h' → wOn q D0 D' → wyR q rZW D' → Q h') → wbX9_erase_2 (j + 1) q (nI i) h Q
  | 0, i, D, h, hi, R, O, P, wq, hq => by
    have e : i = 9 := by omega
    subst e
    exact ⟨fun _ => hq h D R O (fun f hf => by have := wq f hf; simp only [if_pos hf] at this; exact this), fun z => absurd (nI_lt (a := 8) (b := 9) (by omega) (by omega)) z⟩
  | j + 1, i, D, h, hi, R, O, P, wq, hq => by
    have sI : stR (q + 2 + 2 * i) (W i) D := by have := wq i (by omega); simp only [if_neg (Nat.lt_irrefl i)] at this; exact this
    refine ⟨fun z => absurd z (n8lt (by omega)), fun _ => wy_at R L P (by omega) (R_O R (L.2.2 i (by omega)).1 (st_isThere R (L.2.2 i (by omega)) sI (fun z => ⟨fun _ => ?_, fun y => absurd rfl y⟩) (fun z => ⟨fun y => absurd y (by decide), fun _ => wy_at R L P (by omega) (R_O R (L.2.2 i (by omega)).1 (st_erase R (L.2.2 i (by omega)) fun h' D' R' O' s' => ?_))⟩)))⟩
    · show wbX9_erase_2 (j + 1) q (nI i + 1) h Q
      rw [nI_1]
      have eZ := (okw i).zero z
      refine wy_erase_loop L okw j (i + 1) D h (by omega) R O P (wq.eq fun g k => ?_) hq
      by_cases c : g < i
      · rw [if_pos c, if_pos (by omega)]
      · rw [if_neg c]
        by_cases e : g = i
        · rw [if_pos (by omega), e, eZ]
        · rw [if_neg (by omega)]
    · show wbX9_erase_2 (j + 1) q (nI i + 1) h' Q
      rw [nI_1]
      refine wy_erase_loop L okw j (i + 1) D' h' (by omega) R' (O.tr (O'.w (by omega))) (P.cg O'.2.1) ((wq.set (by omega) O' s').eq fun g k => ?_) hq
      by_cases e : g = i
      · rw [if_pos e, if_pos (by omega)]
      · rw [if_neg e]
        by_cases c : g < i
        · rw [if_pos c, if_pos (by omega)]
        · rw [if_neg c, if_neg (by omega)]
theorem wy_erase (R : HR n S D h) (L : WyL q S) (P : wyP q D) (wq : wyR q W D) (okw : okW W) {Q : aH → Prop} (hq : ∀ h' D', HR n S D' h' → wOn q D D' → wyR q rZW D' → Q h') : wX9_erase h q Q :=
  ⟨10, wy_erase_loop L okw 9 0 D h rfl R wOn.rf P (wq.eq fun g k => by rw [if_neg (by omega)]) hq⟩
theorem wy_joinF_loop (L : WyL q S) (L' : WyL r S) (okw : okW V) (hd : r + 20 ≤ q ∨ q + 20 ≤ r) {Q : aH → Prop} {D0 : sD} : ∀ (j i : Nat) (D : sD) (h : aH), j + i = 9 → 1 ≤ i → HR n S D h → wOn q D0 D → wyP q D → wyP r D → wyR r V D → wyR q (fun g => if 1 ≤ g ∧ g < i then (fun k => W g k ||| V g k) else W g) D → (∀ h' D', HR n S D' h' → wOn q D0 D' → wyR q (jnF W V) D' → Q h') → wbX9_joinFailures_2 (j + 1) q r (nI i) h Q
  | 0, i, D, h, hi, h1, R, O, P, P', wr, wq, hq => by
    have e : i = 9 := by omega
    subst e
    refine ⟨fun _ => hq h D R O (fun f hf k hk => ?_), fun z => absurd (nI_lt (a := 8) (b := 9) (by omega) (by omega)) z⟩
    rw [wq f hf k hk]
    show (if 1 ≤ f ∧ f < 9 then (fun k => W f k ||| V f k) else W f) k = jnF W V f k
    unfold jnF
    by_cases c : f = 0
    · rw [if_pos c, if_neg (by omega)]
    · rw [if_neg c, if_pos (by omega)]
  | j + 1, i, D, h, hi, h1, R, O, P, P', wr, wq, hq => by
    have sI : stR (q + 2 + 2 * i) (W i) D := by have := wq i (by omega); simp only [if_neg (show ¬ (1 ≤ i ∧ i < i) by omega)] at this; exact this
    refine ⟨fun z => absurd z (n8lt (by omega)), fun _ => wy_at R L' P' (by omega) (R_O R (L'.2.2 i (by omega)).1 (st_isThere R (L'.2.2 i (by omega)) (wr i (by omega)) (fun z => ⟨fun _ => ?_, fun y => absurd rfl y⟩) (fun z => ⟨fun y => absurd y (by decide), fun _ => wy_at R L P (by omega) (wy_at R L' P' (by omega) (R_O R (L.2.2 i (by omega)).1 (st_join R (L.2.2 i (by omega)) (L'.2.2 i (by omega)) sI (wr i (by omega)) fun h' D' R' O' s' => ?_)))⟩)))⟩
    · show wbX9_joinFailures_2 (j + 1) q r (nI i + 1) h Q
      rw [nI_1]
      have eZ := (okw i).zero z
      refine wy_joinF_loop L L' okw hd j (i + 1) D h (by omega) (by omega) R O P P' wr (wq.eq fun g k => ?_) hq
      by_cases c : 1 ≤ g ∧ g < i
      · rw [if_pos c, if_pos (by omega)]
      · rw [if_neg c]
        by_cases e : g = i
        · rw [if_pos (by omega), e, eZ]
          exact (or_0 _).symm
        · rw [if_neg (by omega)]
    · show wbX9_joinFailures_2 (j + 1) q r (nI i + 1) h' Q
      rw [nI_1]
      refine wy_joinF_loop L L' okw hd j (i + 1) D' h' (by omega) (by omega) R' (O.tr (O'.w (by omega))) (P.cg O'.2.1) (P'.cg O'.2.1) (wr.won (O'.w (q := q) (by omega)) (by omega)) ((wq.set (by omega) O' s').eq fun g k => ?_) hq
      by_cases e : g = i
      · rw [if_pos e, if_pos (by omega), e]
      · rw [if_neg e]
        by_cases c : 1 ≤ g ∧ g < i
        · rw [if_pos c, if_pos (by omega)]
        · rw [if_neg c, if_neg (by omega)]
theorem wy_joinF (R : HR n S D h) (L : WyL q S) (L' : WyL r S) (P : wyP q D) (P' : wyP r D) (wq : wyR q W D) (wr : wyR r V D) (okw : okW V) (hd : r + 20 ≤ q ∨ q + 20 ≤ r) {Q : aH → Prop} (hq : ∀ h' D', HR n S D' h' → wOn q D D' → wyR q (jnF W V) D' → Q h') : wX9_joinFailures h q r Q :=
  ⟨9, wy_joinF_loop L L' okw hd 8 1 D h rfl (Nat.le_refl 1) R wOn.rf P P' wr (wq.eq fun g k => by rw [if_neg (by omega)]) hq⟩
theorem wy_join (R : HR n S D h) (L : WyL q S) (L' : WyL r S) (P : wyP q D) (P' : wyP r D) (wq : wyR q W D) (wr : wyR r V D) (okw : okW V) (hd : r + 20 ≤ q ∨ q + 20 ≤ r) {Q : aH → Prop} (hq : ∀ h' D', HR n S D' h' → wOn q D D' → wyR q (jnA W V) D' → Q h') : wX9_join h q r Q := by
  refine wy_at (f := 0) R L P (by omega) (wy_at (f := 0) R L' P' (by omega) (R_O R (L.2.2 0 (by omega)).1 (wy_jn R L wq (f := 0) (by omega) (L'.2.2 0 (by omega)) (wr 0 (by omega)) fun h1 D1 R1 O1 w1 => R_O R1 L.1 (wy_joinF R1 L L' (P.cg O1.2.1) (P'.cg O1.2.1) w1 (wr.won O1 (by omega)) okw hd fun h2 D2 R2 O2 w2 => hq h2 D2 R2 (O1.tr O2) (w2.eq fun g k => ?_)))))
  unfold jnF jn jnA
  by_cases e : g = 0
  · rw [if_pos e, if_pos e, e]
  · rw [if_neg e, if_neg e]
theorem wy_bits_loop (R : HR n S D h) (L : WyL q S) (P : wyP q D) (wq : wyR q W D) {Q : Int32 → aH → Prop} : ∀ (j i : Nat) (b : Int32), j + i = 9 → Q (bitsN W j i b) h → wbX9_bits_4 (j + 1) q b (nI i) h Q
  | 0, i, b, hi, hq => by
    have e : i = 9 := by omega
    subst e
    exact ⟨fun _ => hq, fun z => absurd (nI_lt (a := 8) (b := 9) (by omega) (by omega)) z⟩
  | j + 1, i, b, hi, hq => by
    unfold bitsN at hq
    refine ⟨fun z => absurd z (n8lt (by omega)), fun _ => wy_at R L P (by omega) (R_O R (L.2.2 i (by omega)).1 (st_isThere R (L.2.2 i (by omega)) (wq i (by omega)) (fun z => ⟨fun _ => ?_, fun y => absurd rfl y⟩) (fun z => ⟨fun y => absurd y (by decide), fun _ => ?_⟩)))⟩
    · rw [if_pos z] at hq
      show wbX9_bits_4 (j + 1) q b (nI i + 1) h Q
      rw [nI_1]; exact wy_bits_loop R L P wq j (i + 1) b (by omega) hq
    · rw [if_neg z] at hq
      show wbX9_bits_4 (j + 1) q _ (nI i + 1) h Q
      rw [nI_1]; exact wy_bits_loop R L P wq j (i + 1) _ (by omega) hq
theorem wy_bits (R : HR n S D h) (L : WyL q S) (P : wyP q D) (wq : wyR q W D) {Q : Int32 → aH → Prop} (hq : Q (bits W) h) : wX9_bits h q Q := ⟨10, wy_bits_loop R L P wq 9 0 0 rfl hq⟩
end WYS
