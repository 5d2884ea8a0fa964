/-! Arrays.fill -/
theorem lg_pos {x y : Int64} : 0 < lg_cmp x y ↔ y < x := by
  unfold lg_cmp
  by_cases h : x > y
  · simp only [if_pos h]
    exact ⟨fun _ => h, fun _ => by decide⟩
  · simp only [if_neg h]
    by_cases h2 : x = y
    · simp only [if_pos h2]
      exact ⟨fun z => absurd z (by decide), fun z => absurd z h⟩
    · simp only [if_neg h2]
      exact ⟨fun z => absurd z (by decide), fun z => absurd z h⟩
theorem lg_le {x y : Int64} : lg_cmp x y ≤ 0 ↔ ¬ y < x := by
  unfold lg_cmp
  by_cases h : x > y
  · simp only [if_pos h]
    exact ⟨fun z => absurd z (by decide), fun z => absurd h z⟩
  · simp only [if_neg h]
    by_cases h2 : x = y
    · simp only [if_pos h2]
      exact ⟨fun _ => h, fun _ => by decide⟩
    · simp only [if_neg h2]
      exact ⟨fun _ => h, fun _ => by decide⟩
theorem lg_eq {x y : Int64} : lg_cmp x y = 0 ↔ x = y := by
  unfold lg_cmp
  by_cases h : x > y
  · simp only [if_pos h]
    exact ⟨fun z => absurd z (by decide), fun z => by rw [z] at h; exact absurd h (fun q => Int64.lt_irrefl q)⟩
  · simp only [if_neg h]
    by_cases h2 : x = y
    · simp [h2]
    · simp only [if_neg h2]
      exact ⟨fun z => absurd z (by decide), fun z => absurd z h2⟩
section FILL
variable {n : Nat} {S : sS} {D : sD} {h : aH} {a m : Nat}
theorem uF_uF {D : sD} {a : Nat} {f g : Nat → Int32} : uF (uF D a f) a g = uF D a g := by
  simp only [uF]; congr 2; funext b; simp only [va_up]; split <;> rfl
theorem uB_uB {D : sD} {a : Nat} {f g : Nat → Int64} : uB (uB D a f) a g = uB D a g := by
  simp only [uB]; congr 3; funext b; simp only [va_up]; split <;> rfl
theorem uF_at {D : sD} {a : Nat} {f : Nat → Int32} : (uF D a f).2.1 a = f := by simp [uF, va_up]
theorem uB_at {D : sD} {a : Nat} {f : Nat → Int64} : (uB D a f).2.2.1 a = f := by simp [uB, va_up]
theorem uF_self {D : sD} {a : Nat} : uF D a (D.2.1 a) = D := by
  obtain ⟨O, F, r⟩ := D
  simp only [uF]; congr 2; funext b; simp only [va_up]; split
  · rename_i e; rw [e]
  · rfl
theorem uB_self {D : sD} {a : Nat} : uB D a (D.2.2.1 a) = D := by
  obtain ⟨O, F, B, r⟩ := D
  simp only [uB]; congr 3; funext b; simp only [va_up]; split
  · rename_i e; rw [e]
  · rfl
/-- fill(int[], int) -/
theorem sj_fillI_loop {v : Int32} {Q : aH → Prop} (hm : m < 2 ^ 31) (hs : S a = some (.inl (0, m))) : ∀ (j i : Nat) (f : Nat → Int32) (h : aH), j + i = m → HR n S (uF D a f) h → (∀ h', HR n S (uF D a (fun k => if i ≤ k ∧ k < m then v else f k)) h' → Q h') → wbJ7_fill_53178_5 (j + 1) a v (nI i) (nI m) h Q
  | 0, i, f, h, hi, R, hq => by
    have e : i = m := by omega
    subst e
    refine ⟨fun _ => hq h ?_, fun z => absurd (nI_le (Nat.le_refl i) hm) z⟩
    have e : (fun k => if i ≤ k ∧ k < i then v else f k) = f := by funext k; rw [if_neg (by omega)]
    rw [e]; exact R
  | j + 1, i, f, h, hi, R, hq => by
    refine ⟨fun z => absurd ((nI_leI hm (by omega)).mp z) (by omega), fun _ => R_sI R hs (vp_in_nI (by omega) hm) fun h' R' => ?_⟩
    rw [nI_clamp (by omega), uF_at, uF_uF] at R'
    show wbJ7_fill_53178_5 (j + 1) a v (nI i + 1) (nI m) h' Q
    rw [nI_1]
    refine sj_fillI_loop hm hs j (i + 1) (upd f i v) h' (by omega) R' (fun h2 R2 => hq h2 ?_)
    have e : (fun k => if i + 1 ≤ k ∧ k < m then v else upd f i v k) = (fun k => if i ≤ k ∧ k < m then v else f k) := by
      funext k
      by_cases hk : k = i
      · subst hk; simp [upd]; omega
      · simp only [upd, if_neg hk]
        by_cases h1 : i + 1 ≤ k ∧ k < m
        · rw [if_pos h1, if_pos (by omega)]
        · rw [if_neg h1, if_neg (by omega)]
    rw [e] at R2
    exact R2
theorem sj_fillI {v : Int32} {Q : aH → Prop} (hm : m < 2 ^ 31) (hs : S a = some (.inl (0, m))) (R : HR n S D h) (hq : ∀ h', HR n S (uF D a (fun k => if k < m then v else D.2.1 a k)) h' → Q h') : wJ7_fill_53178 h a v Q := by
  refine R_len R hs (by decide) ⟨m + 1, ?_⟩
  refine sj_fillI_loop (D := D) hm hs m 0 (D.2.1 a) h (by omega) (by rw [uF_self]; exact R) (fun h' R' => hq h' ?_)
  simpa using R'
/-- fill(long[], long) -/
theorem sj_fillL_loop {v : Int64} {Q : aH → Prop} (hm : m < 2 ^ 31) (hs : S a = some (.inl (1, m))) : ∀ (j i : Nat) (f : Nat → Int64) (h : aH), j + i = m → HR n S (uB D a f) h → (∀ h', HR n S (uB D a (fun k => if i ≤ k ∧ k < m then v else f k)) h' → Q h') → wbJ7_fill_d0a16_6 (j + 1) a v (nI i) (nI m) h Q
  | 0, i, f, h, hi, R, hq => by
    have e : i = m := by omega
    subst e
    refine ⟨fun _ => hq h ?_, fun z => absurd (nI_le (Nat.le_refl i) hm) z⟩
    have e : (fun k => if i ≤ k ∧ k < i then v else f k) = f := by funext k; rw [if_neg (by omega)]
    rw [e]; exact R
  | j + 1, i, f, h, hi, R, hq => by
    refine ⟨fun z => absurd ((nI_leI hm (by omega)).mp z) (by omega), fun _ => R_sL R hs (vp_in_nI (by omega) hm) fun h' R' => ?_⟩
    rw [nI_clamp (by omega), uB_at, uB_uB] at R'
    show wbJ7_fill_d0a16_6 (j + 1) a v (nI i + 1) (nI m) h' Q
    rw [nI_1]
    refine sj_fillL_loop hm hs j (i + 1) (vp_updL f i v) h' (by omega) R' (fun h2 R2 => hq h2 ?_)
    have e : (fun k => if i + 1 ≤ k ∧ k < m then v else vp_updL f i v k) = (fun k => if i ≤ k ∧ k < m then v else f k) := by
      funext k
      by_cases hk : k = i
      · subst hk; simp [vp_updL]; omega
      · simp only [vp_updL, if_neg hk]
        by_cases h1 : i + 1 ≤ k ∧ k < m
        · rw [if_pos h1, if_pos (by omega)]
        · rw [if_neg h1, if_neg (by omega)]
    rw [e] at R2
    exact R2
theorem sj_fillL {v : Int64} {Q : aH → Prop} (hm : m < 2 ^ 31) (hs : S a = some (.inl (1, m))) (R : HR n S D h) (hq : ∀ h', HR n S (uB D a (fun k => if k < m then v else D.2.2.1 a k)) h' → Q h') : wJ7_fill_d0a16 h a v Q := by
  refine R_len R hs (by decide) ⟨m + 1, ?_⟩
  refine sj_fillL_loop (D := D) hm hs m 0 (D.2.2.1 a) h (by omega) (by rw [uB_self]; exact R) (fun h' R' => hq h' ?_)
  simpa using R'
/-- fill(long[], from, to, long) -/
theorem sj_fillR_loop {v : Int64} {Q : aH → Prop} (hm : m < 2 ^ 31) (hs : S a = some (.inl (1, m))) {t : Nat} (ht : t ≤ m) : ∀ (j i : Nat) (f : Nat → Int64) (h : aH), j + i = t → HR n S (uB D a f) h → (∀ h', HR n S (uB D a (fun k => if i ≤ k ∧ k < t then v else f k)) h' → Q h') → wbJ7_fill_bad5a_10 (j + 1) a (nI t) v (nI i) h Q
  | 0, i, f, h, hi, R, hq => by
    have e : i = t := by omega
    subst e
    refine ⟨fun _ => hq h ?_, fun z => absurd (nI_le (Nat.le_refl i) (by omega)) z⟩
    have e : (fun k => if i ≤ k ∧ k < i then v else f k) = f := by funext k; rw [if_neg (by omega)]
    rw [e]; exact R
  | j + 1, i, f, h, hi, R, hq => by
    refine ⟨fun z => absurd ((nI_leI (by omega) (by omega)).mp z) (by omega), fun _ => R_sL R hs (vp_in_nI (by omega) hm) fun h' R' => ?_⟩
    rw [nI_clamp (by omega), uB_at, uB_uB] at R'
    show wbJ7_fill_bad5a_10 (j + 1) a (nI t) v (nI i + 1) h' Q
    rw [nI_1]
    refine sj_fillR_loop hm hs ht j (i + 1) (vp_updL f i v) h' (by omega) R' (fun h2 R2 => hq h2 ?_)
    have e : (fun k => if i + 1 ≤ k ∧ k < t then v else vp_updL f i v k) = (fun k => if i ≤ k ∧ k < t then v else f k) := by
      funext k
      by_cases hk : k = i
      · subst hk; simp [vp_updL]; omega
      · simp only [vp_updL, if_neg hk]
        by_cases h1 : i + 1 ≤ k ∧ k < t
        · rw [if_pos h1, if_pos (by omega)]
        · rw [if_neg h1, if_neg (by omega)]
    rw [e] at R2
    exact R2
theorem sj_fillR {v : Int64} {Q : aH → Prop} (hm : m < 2 ^ 31) (hs : S a = some (.inl (1, m))) {f t : Nat} (hf : f ≤ t) (ht : t ≤ m) (R : HR n S D h) (hq : ∀ h', HR n S (uB D a (fun k => if f ≤ k ∧ k < t then v else D.2.2.1 a k)) h' → Q h') : wJ7_fill_bad5a h a (nI f) (nI t) v Q := by
  refine R_len R hs (by decide) ?_
  show wJ7_rangeCheck_23922 h (nI m) (nI f) (nI t) _
  refine ⟨fun _ => ⟨fun _ => ⟨fun _ => ⟨t - f + 1, ?_⟩, fun z => absurd (nI_le ht hm) z⟩, fun z => absurd (nI_pos' (by omega)) z⟩, fun z => absurd (nI_le hf (by omega)) z⟩
  refine sj_fillR_loop (D := D) hm hs ht (t - f) f (D.2.2.1 a) h (by omega) (by rw [uB_self]; exact R) hq
end FILL
