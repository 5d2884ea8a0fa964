/-! the model's rows in a report -/
section MJ
variable {n : Nat} {S : sS} {D : sD} {h : aH} {A B la lb fo to : Nat}
def jnG (f g : Nat → Int32) (fo to i : Nat) : Nat → Int32 := fun k => if to ≤ k ∧ k < to + i then g k ||| f (fo + (k - to)) else g k
def lyG (f g : Nat → Int32) (fo to i : Nat) : Nat → Int32 := fun k => if to ≤ k ∧ k < to + i then f (fo + (k - to)) else g k
theorem uF_ne {D : sD} {a b : Nat} {f : Nat → Int32} (hb : b ≠ a) : (uF D a f).2.1 b = D.2.1 b := by simp [uF, va_up, hb]
theorem mj_join_loop (hA : S A = some (.inl (0, la))) (hB : S B = some (.inl (0, lb))) (h1 : fo + 12 ≤ la) (h2 : to + 12 ≤ lb) (l1 : la < 2 ^ 31) (l2 : lb < 2 ^ 31) (hd : A ≠ B ∨ to + 12 ≤ fo ∨ fo + 12 ≤ to) {Q : aH → Prop} (hq : ∀ h', HR n S (uF D B (jnG (D.2.1 A) (D.2.1 B) fo to 12)) h' → Q h') : ∀ (j i : Nat) (h : aH), j + i = 12 → HR n S (uF D B (jnG (D.2.1 A) (D.2.1 B) fo to i)) h → wbX11_join_3 (j + 1) A (nI fo) B (nI to) (nI i) h Q
  | 0, i, h, hi, R => by
    have e : i = 12 := by omega
    subst e
    exact ⟨fun _ => hq h R, fun z => absurd (nI_le (Nat.le_refl 12) (by omega)) z⟩
  | j + 1, i, h, hi, R => by
    refine ⟨fun z => absurd ((nI_leI (a := 12) (by omega) (by omega)).mp z) (by omega), fun _ => ?_⟩
    rw [nI_add, nI_add]
    refine R_aI R hB (vp_in_nI (by omega) l2) (R_aI R hA (vp_in_nI (by omega) l1) (R_sI R hB (vp_in_nI (by omega) l2) fun h' R' => ?_))
    rw [nI_clamp (by omega), nI_clamp (by omega), uF_at] at R'
    have eB : jnG (D.2.1 A) (D.2.1 B) fo to i (to + i) = D.2.1 B (to + i) := by unfold jnG; rw [if_neg (by omega)]
    have eA : (uF D B (jnG (D.2.1 A) (D.2.1 B) fo to i)).2.1 A (fo + i) = D.2.1 A (fo + i) := by
      by_cases e : A = B
      · subst e; rw [uF_at]; unfold jnG; rw [if_neg (by omega)]
      · rw [uF_ne e]
    rw [eB, eA, uF_uF] at R'
    show wbX11_join_3 (j + 1) A (nI fo) B (nI to) (nI i + 1) h' Q
    rw [nI_1]
    refine mj_join_loop hA hB h1 h2 l1 l2 hd hq j (i + 1) h' (by omega) ?_
    have ef : upd (jnG (D.2.1 A) (D.2.1 B) fo to i) (to + i) (D.2.1 B (to + i) ||| D.2.1 A (fo + i)) = jnG (D.2.1 A) (D.2.1 B) fo to (i + 1) := by
      funext k
      unfold jnG
      simp only [upd]
      by_cases e : k = to + i
      · subst e; rw [if_pos rfl, if_pos (by omega)]
        rw [show fo + (to + i - to) = fo + i by omega]
      · rw [if_neg e]
        by_cases c : to ≤ k ∧ k < to + i
        · rw [if_pos c, if_pos (by omega)]
        · rw [if_neg c, if_neg (by omega)]
    rw [ef] at R'
    exact R'
theorem mj_join (R : HR n S D h) (hA : S A = some (.inl (0, la))) (hB : S B = some (.inl (0, lb))) (h1 : fo + 12 ≤ la) (h2 : to + 12 ≤ lb) (l1 : la < 2 ^ 31) (l2 : lb < 2 ^ 31) (hd : A ≠ B ∨ to + 12 ≤ fo ∨ fo + 12 ≤ to) {Q : aH → Prop} (hq : ∀ h', HR n S (uF D B (jnG (D.2.1 A) (D.2.1 B) fo to 12)) h' → Q h') : wX11_join h A (nI fo) B (nI to) Q := by
  refine ⟨13, mj_join_loop hA hB h1 h2 l1 l2 hd hq 12 0 h rfl ?_⟩
  have : jnG (D.2.1 A) (D.2.1 B) fo to 0 = D.2.1 B := by funext k; unfold jnG; rw [if_neg (by omega)]
  rw [this, uF_self]; exact R
theorem mj_lay_loop (hA : S A = some (.inl (0, la))) (hB : S B = some (.inl (0, lb))) (h1 : fo + 12 ≤ la) (h2 : to + 12 ≤ lb) (l1 : la < 2 ^ 31) (l2 : lb < 2 ^ 31) (hd : A ≠ B ∨ to + 12 ≤ fo ∨ fo + 12 ≤ to) {Q : aH → Prop} (hq : ∀ h', HR n S (uF D B (lyG (D.2.1 A) (D.2.1 B) fo to 12)) h' → Q h') : ∀ (j i : Nat) (h : aH), j + i = 12 → HR n S (uF D B (lyG (D.2.1 A) (D.2.1 B) fo to i)) h → wbX11_lay__3 (j + 1) A (nI fo) B (nI to) (nI i) h Q
  | 0, i, h, hi, R => by
    have e : i = 12 := by omega
    subst e
    exact ⟨fun _ => hq h R, fun z => absurd (nI_le (Nat.le_refl 12) (by omega)) z⟩
  | j + 1, i, h, hi, R => by
    refine ⟨fun z => absurd ((nI_leI (a := 12) (by omega) (by omega)).mp z) (by omega), fun _ => ?_⟩
    rw [nI_add, nI_add]
    refine R_aI R hA (vp_in_nI (by omega) l1) (R_sI R hB (vp_in_nI (by omega) l2) fun h' R' => ?_)
    rw [nI_clamp (by omega), nI_clamp (by omega), uF_at] at R'
    have eA : (uF D B (lyG (D.2.1 A) (D.2.1 B) fo to i)).2.1 A (fo + i) = D.2.1 A (fo + i) := by
      by_cases e : A = B
      · subst e; rw [uF_at]; unfold lyG; rw [if_neg (by omega)]
      · rw [uF_ne e]
    rw [eA, uF_uF] at R'
    show wbX11_lay__3 (j + 1) A (nI fo) B (nI to) (nI i + 1) h' Q
    rw [nI_1]
    refine mj_lay_loop hA hB h1 h2 l1 l2 hd hq j (i + 1) h' (by omega) ?_
    have ef : upd (lyG (D.2.1 A) (D.2.1 B) fo to i) (to + i) (D.2.1 A (fo + i)) = lyG (D.2.1 A) (D.2.1 B) fo to (i + 1) := by
      funext k
      unfold lyG
      simp only [upd]
      by_cases e : k = to + i
      · subst e; rw [if_pos rfl, if_pos (by omega)]
        rw [show fo + (to + i - to) = fo + i by omega]
      · rw [if_neg e]
        by_cases c : to ≤ k ∧ k < to + i
        · rw [if_pos c, if_pos (by omega)]
        · rw [if_neg c, if_neg (by omega)]
    rw [ef] at R'
    exact R'
theorem mj_lay (R : HR n S D h) (hA : S A = some (.inl (0, la))) (hB : S B = some (.inl (0, lb))) (h1 : fo + 12 ≤ la) (h2 : to + 12 ≤ lb) (l1 : la < 2 ^ 31) (l2 : lb < 2 ^ 31) (hd : A ≠ B ∨ to + 12 ≤ fo ∨ fo + 12 ≤ to) {Q : aH → Prop} (hq : ∀ h', HR n S (uF D B (lyG (D.2.1 A) (D.2.1 B) fo to 12)) h' → Q h') : wX11_lay_ h A (nI fo) B (nI to) Q := by
  refine ⟨13, mj_lay_loop hA hB h1 h2 l1 l2 hd hq 12 0 h rfl ?_⟩
  have : lyG (D.2.1 A) (D.2.1 B) fo to 0 = D.2.1 B := by funext k; unfold lyG; rw [if_neg (by omega)]
  rw [this, uF_self]; exact R
def wpG (g : Nat → Int32) (fo i : Nat) : Nat → Int32 := fun k => if fo ≤ k ∧ k < fo + i then 0 else g k
theorem mj_wipe_loop {c : Nat} (hB : S B = some (.inl (0, lb))) (h2 : fo + c ≤ lb) (l2 : lb < 2 ^ 31) {Q : aH → Prop} (hq : ∀ h', HR n S (uF D B (wpG (D.2.1 B) fo c)) h' → Q h') : ∀ (j i : Nat) (h : aH), j + i = c → HR n S (uF D B (wpG (D.2.1 B) fo i)) h → wbX11_wipe_2 (j + 1) B (nI fo) (nI c) (nI (fo + i)) h Q
  | 0, i, h, hi, R => by
    have e : i = c := by omega
    subst e
    refine ⟨fun _ => hq h R, fun z => absurd ?_ z⟩
    rw [nI_add]; exact nI_le (Nat.le_refl _) (by omega)
  | j + 1, i, h, hi, R => by
    refine ⟨fun z => ?_, fun _ => R_sI R hB (vp_in_nI (by omega) l2) fun h' R' => ?_⟩
    · rw [nI_add] at z
      exact absurd ((nI_leI (by omega) (by omega)).mp z) (by omega)
    · rw [nI_clamp (by omega), uF_at, uF_uF] at R'
      show wbX11_wipe_2 (j + 1) B (nI fo) (nI c) (nI (fo + i) + 1) h' Q
      rw [nI_1]
      refine mj_wipe_loop hB h2 l2 hq j (i + 1) h' (by omega) ?_
      have ef : upd (wpG (D.2.1 B) fo i) (fo + i) 0 = wpG (D.2.1 B) fo (i + 1) := by
        funext k
        unfold wpG
        simp only [upd]
        by_cases e : k = fo + i
        · subst e; rw [if_pos rfl, if_pos (by omega)]
        · rw [if_neg e]
          by_cases c : fo ≤ k ∧ k < fo + i
          · rw [if_pos c, if_pos (by omega)]
          · rw [if_neg c, if_neg (by omega)]
      rw [ef] at R'
      exact R'
theorem mj_wipe {c : Nat} (R : HR n S D h) (hB : S B = some (.inl (0, lb))) (h2 : fo + c ≤ lb) (l2 : lb < 2 ^ 31) {Q : aH → Prop} (hq : ∀ h', HR n S (uF D B (wpG (D.2.1 B) fo c)) h' → Q h') : wX11_wipe h B (nI fo) (nI c) Q := by
  refine ⟨c + 1, mj_wipe_loop hB h2 l2 hq c 0 h rfl ?_⟩
  have : wpG (D.2.1 B) fo 0 = D.2.1 B := by funext k; unfold wpG; rw [if_neg (by omega)]
  rw [this, uF_self]; exact R
end MJ
theorem nI_mul (a b : Nat) : nI a * nI b = nI (a * b) := (Int32.ofNat_mul a b).symm
theorem ix1 (d f : Nat) : (108 : Int32) * nI d + 12 * nI f = nI (108 * d + 12 * f) := by
  have e1 : (108 : Int32) = nI 108 := rfl
  have e2 : (12 : Int32) = nI 12 := rfl
  rw [e1, e2, nI_mul, nI_mul, nI_add]
theorem ix2 (d : Nat) : (108 : Int32) * nI d = nI (108 * d) := nI_mul 108 d
theorem ix3 (d : Nat) : (12 : Int32) * nI d = nI (12 * d) := nI_mul 12 d
theorem ix4 (d : Nat) : (12 : Int32) * nI d + 12 = nI (12 * d + 12) := by rw [ix3]; exact nI_add _ 12
theorem ix5 (d : Nat) : (108 : Int32) * nI d + 108 = nI (108 * d + 108) := by rw [ix2]; exact nI_add _ 108
theorem ix6 (d f : Nat) : (108 : Int32) * nI d + 108 + 12 * nI f = nI (108 * d + 108 + 12 * f) := by rw [ix5, ix3, nI_add]
/-! the model's acts in a report: now, and the ways at depth d -/
def outR (Y d : Nat) (W : rW) (D : sD) : Prop := ∀ f, f < 9 → ∀ i, i < 12 → D.2.1 (Y + 26) (108 * d + 12 * f + i) = W f i
def nowR (Y : Nat) (s : rS) (D : sD) : Prop := ∀ i, i < 12 → D.2.1 (Y + 29) i = s i
def yOn (Y d : Nat) (D D' : sD) : Prop := D'.1 = D.1 ∧ D'.2.2 = D.2.2 ∧ (∀ a, a ≠ Y + 26 → a ≠ Y + 29 → D'.2.1 a = D.2.1 a) ∧ ∀ i, ¬ (108 * d ≤ i ∧ i < 108 * d + 108) → D'.2.1 (Y + 26) i = D.2.1 (Y + 26) i
theorem yOn.rf {Y d : Nat} {D : sD} : yOn Y d D D := ⟨rfl, rfl, fun _ _ _ => rfl, fun _ _ => rfl⟩
theorem yOn.tr {Y d : Nat} {D D' D'' : sD} (h : yOn Y d D D') (h' : yOn Y d D' D'') : yOn Y d D D'' := ⟨h'.1.trans h.1, h'.2.1.trans h.2.1, fun a h1 h2 => (h'.2.2.1 a h1 h2).trans (h.2.2.1 a h1 h2), fun i hi => (h'.2.2.2 i hi).trans (h.2.2.2 i hi)⟩
theorem yOn.now {Y d : Nat} {D : sD} {f : Nat → Int32} : yOn Y d D (uF D (Y + 29) f) := ⟨rfl, rfl, fun a _ h2 => uF_ne h2, fun i _ => by rw [uF_ne (by omega)]⟩
theorem yOn.out {Y d : Nat} {D : sD} {f : Nat → Int32} (hf : ∀ i, ¬ (108 * d ≤ i ∧ i < 108 * d + 108) → f i = D.2.1 (Y + 26) i) : yOn Y d D (uF D (Y + 26) f) := ⟨rfl, rfl, fun a h1 _ => uF_ne h1, fun i hi => by rw [uF_at]; exact hf i hi⟩
/-- the act's cells: what is now, and the ways -/
def YX (Y d : Nat) (q : rP) (n : Nat) (S : sS) (D : sD) (h : aH) : Prop := HR n S D h ∧ LayM Y S ∧ nowR Y q.1 D ∧ outR Y d q.2 D ∧ d ≤ 80
section MY
variable {Y d n : Nat} {q : rP} {S : sS} {D : sD} {h : aH}
theorem my_now (C : YX Y d q n S D h) {s : Nat} (hs : s < 12) {K : Int32 → Prop} (hK : K (q.1 s)) : aI h (Y + 29) (nI s) K := by
  refine R_aI C.1 C.2.1.s29 (vp_in_nI hs (by omega)) ?_
  rw [nI_clamp (by omega), C.2.2.1 s hs]; exact hK
theorem my_setNow (C : YX Y d q n S D h) {s : Nat} (hs : s < 12) {x : Int32} {Q : aH → Prop} (hq : ∀ h' D', YX Y d (upd q.1 s x, q.2) n S D' h' → yOn Y d D D' → Q h') : sI h (Y + 29) (nI s) x Q := by
  refine R_sI C.1 C.2.1.s29 (vp_in_nI hs (by omega)) fun h' R' => ?_
  rw [nI_clamp (by omega)] at R'
  refine hq h' _ ⟨R', C.2.1, fun i hi => ?_, fun f hf i hi => ?_, C.2.2.2.2⟩ yOn.now
  · rw [uF_at]
    simp only [upd]
    split
    · rfl
    · exact C.2.2.1 i hi
  · rw [uF_ne (by omega)]; exact C.2.2.2.1 f hf i hi
/-- join now into a way -/
theorem my_join (C : YX Y d q n S D h) {f : Nat} (hf : f < 9) {Q : aH → Prop} (hq : ∀ h' D', YX Y d (q.1, jn q.2 f q.1) n S D' h' → yOn Y d D D' → Q h') : wX11_join h (Y + 29) 0 (Y + 26) (nI (108 * d + 12 * f)) Q := by
  obtain ⟨R, L, hn, ho, hd⟩ := id C
  refine mj_join (fo := 0) R L.s29 L.s26 (by omega) (by omega) (by omega) (by omega) (Or.inl (by omega)) fun h' R' => ?_
  refine hq h' _ ⟨R', L, fun i hi => ?_, fun g hg i hi => ?_, hd⟩ (yOn.out fun i hi => by unfold jnG; rw [if_neg (by omega)])
  · rw [uF_ne (by omega)]; exact hn i hi
  · rw [uF_at]
    show _ = jn q.2 f q.1 g i
    unfold jnG jn
    by_cases e : g = f
    · subst e
      rw [if_pos (by omega), if_pos rfl, ho g hg i hi, show 0 + (108 * d + 12 * g + i - (108 * d + 12 * g)) = i by omega, hn i hi]
    · rw [if_neg e, if_neg (by omega)]; exact ho g hg i hi
theorem my_mayFail (C : YX Y d q n S D h) {f : Nat} (hf : f < 9) {Q : aH → Prop} (hq : ∀ h' D', YX Y d (pMay f q) n S D' h' → yOn Y d D D' → Q h') : wX11_mayFail h Y (nI d) (nI f) (-1) 0 Q := by
  obtain ⟨R, L, -⟩ := id C
  refine ⟨fun z => absurd z (by decide), fun _ => ⟨fun _ => R_R R L.1 rfl (R_R R L.1 rfl ?_), fun z => absurd (by decide) z⟩⟩
  rw [ix1]
  exact my_join C hf fun h' D' C' O' => ⟨fun _ => hq h' D' C' O', fun z => absurd (by decide) z⟩
theorem my_mayFailS (C : YX Y d q n S D h) {f : Nat} (hf : f < 9) {s : Nat} (hs : s < 12) {x : Int32} {Q : aH → Prop} (hq : ∀ h' D', YX Y d (q.1, jn q.2 f (upd q.1 s x)) n S D' h' → yOn Y d D D' → Q h') : wX11_mayFail h Y (nI d) (nI f) (nI s) x Q := by
  obtain ⟨R, L, -⟩ := id C
  refine ⟨fun _ => R_R R L.1 rfl (my_now C hs ⟨fun z => absurd z (nI_pos (by omega)), fun _ => R_R R L.1 rfl (my_setNow C hs fun h1 D1 C1 O1 => R_R C1.1 C1.2.1.1 rfl (R_R C1.1 C1.2.1.1 rfl ?_))⟩), fun z => absurd (nI_pos' (by omega)) z⟩
  rw [ix1]
  refine my_join C1 hf fun h2 D2 C2 O2 => ⟨fun z => absurd z (nI_pos (by omega)), fun _ => R_R C2.1 C2.2.1.1 rfl (my_setNow C2 hs fun h3 D3 C3 O3 => hq h3 D3 ?_ ((O1.tr O2).tr O3))⟩
  have e : upd (upd q.1 s x) s (q.1 s) = q.1 := by
    funext k; simp only [upd]
    split
    · rename_i e; rw [e]
    · rfl
  simp only at C3
  rw [e] at C3
  exact C3
/-- what comes out of a question: go on with what is left, or nothing is left -/
def YO (Y d : Nat) (q : rP) (n : Nat) (S : sS) (D : sD) (h : aH) (r : Int32) : Prop := HR n S D h ∧ LayM Y S ∧ outR Y d q.2 D ∧ d ≤ 80 ∧ ((r = 1 ∧ okS q.1 ∧ nowR Y q.1 D) ∨ (r = 0 ∧ q.1 = rZ))
theorem YX.on (C : YX Y d q n S D h) (ok : okS q.1) : YO Y d q n S D h 1 := ⟨C.1, C.2.1, C.2.2.2.1, C.2.2.2.2, Or.inl ⟨rfl, ok, C.2.2.1⟩⟩
theorem YX.off (C : YX Y d q n S D h) {q' : rP} (e1 : q'.1 = rZ) (e2 : q'.2 = q.2) : YO Y d q' n S D h 0 := ⟨C.1, C.2.1, by rw [e2]; exact C.2.2.2.1, C.2.2.2.2, Or.inr ⟨rfl, e1⟩⟩
theorem YO.B {r : Int32} (C : YO Y d q n S D h r) : oB r := by rcases C.2.2.2.2 with ⟨e, -⟩ | ⟨e, -⟩ <;> rw [e]; exact Or.inr rfl; exact Or.inl rfl
theorem YO.yes {r : Int32} (C : YO Y d q n S D h r) (hr : ¬ r = 0) : YX Y d q n S D h ∧ okS q.1 := by
  rcases C.2.2.2.2 with ⟨-, ok, hn⟩ | ⟨e, -⟩
  · exact ⟨⟨C.1, C.2.1, hn, C.2.2.1, C.2.2.2.1⟩, ok⟩
  · exact absurd e hr
theorem YO.no {r : Int32} (C : YO Y d q n S D h r) (hr : r = 0) : q.1 = rZ := by
  rcases C.2.2.2.2 with ⟨e, -⟩ | ⟨-, e⟩
  · rw [e] at hr; exact absurd hr (by decide)
  · exact e
theorem YO.cg {r : Int32} {q' : rP} (C : YO Y d q n S D h r) (e : q' = q) : YO Y d q' n S D h r := by rw [e]; exact C
/-- what is empty stays so -/
theorem pFor_z {f s : Nat} {k : Int32} {q : rP} (h : q.1 = rZ) : pFor f s k q = q := by
  unfold pFor; rw [if_pos]; rw [h]; exact Int32.zero_and
theorem pMay_z {f : Nat} {q : rP} (h : q.1 = rZ) : pMay f q = q := by
  unfold pMay; rw [h, jn_z]; rw [← h]
theorem pNew_z {a : Nat} {x : Int32} {q : rP} (h : q.1 = rZ) : pNew a x q = q := by
  unfold pNew; rw [if_pos]; rw [h]; rfl
theorem pKeep_z {s : Nat} {k : Int32} {q : rP} (h : q.1 = rZ) : pKeep s k q = q := by
  unfold pKeep; rw [h, kp_z, ← h]
end MY
