section CA4
variable {X n : Nat} {M : mT} {S : sS} {D : sD} {h : aH}
def mPart (M : mT) (t : Nat) (f l : Int32) : Int32 := if kRow (mKd M t) = 0 then 0 else if f < 0 then 0 else if l < 0 then 0 else if (nI (mLn M t)).toInt64 < f.toInt64 + l.toInt64 then 0 else 1
theorem isRw_of {k : Int32} (z : ¬ kRow k = 0) : isRw k := by
  by_cases q : isRw k
  · exact q
  · exact absurd (kRow_0.mpr q) z
theorem sc_hasPart (C : CM X M n S D h) {t : Nat} (ht : t ≤ mMade M) {f l : Int32} {Q : Int32 → aH → Prop} (hq : Q (mPart M t f l) h) : wX8_hasPart h (X + 2) (nI t) f l Q := by
  have h2 := C.m200
  obtain ⟨R, L, -⟩ := id C
  unfold mPart at hq
  unfold wX8_hasPart wbX8_hasPart_39 wbX8_hasPart_40
  refine R_O R L.2.1 (sc_kindOf C ht (sp_isRow ⟨fun z => ⟨Or.inl rfl, ?_⟩, fun z => ⟨fun y => ⟨Or.inl rfl, ?_⟩, fun y => ⟨fun x => ⟨Or.inl rfl, ?_⟩, fun x => R_R R L.2.1 rfl (R_aI R L.2.2.2.2.1 (vp_in_nI (by omega) (by omega)) ⟨fun w => ⟨Or.inl rfl, ?_⟩, fun w => ⟨Or.inr rfl, ?_⟩⟩)⟩⟩⟩))
  · rw [if_pos z] at hq; exact hq
  · rw [if_neg z, if_pos y] at hq; exact hq
  · rw [if_neg z, if_neg y, if_pos x] at hq; exact hq
  · rw [nI_clamp (by omega), C.rLn ht (isRw_of z)] at w
    rw [if_neg z, if_neg y, if_neg x, if_pos (lg_pos.mp w)] at hq; exact hq
  · rw [nI_clamp (by omega), C.rLn ht (isRw_of z)] at w
    rw [if_neg z, if_neg y, if_neg x, if_neg (fun q => w (lg_pos.mpr q))] at hq; exact hq
theorem mPart_1 {M : mT} {t : Nat} {f l : Int32} (h0 : mKd M 0 = 0) (hl : mLn M t < 2 ^ 31) (h : ¬ mPart M t f l = 0) : 1 ≤ t ∧ isRw (mKd M t) ∧ ∃ p q : Nat, p < 2 ^ 31 ∧ q < 2 ^ 31 ∧ f = nI p ∧ l = nI q ∧ p + q ≤ mLn M t := by
  unfold mPart at h
  by_cases a : kRow (mKd M t) = 0
  · rw [if_pos a] at h; exact absurd rfl h
  rw [if_neg a] at h
  by_cases b : f < 0
  · rw [if_pos b] at h; exact absurd rfl h
  rw [if_neg b] at h
  by_cases c : l < 0
  · rw [if_pos c] at h; exact absurd rfl h
  rw [if_neg c] at h
  obtain ⟨p, hp, rfl⟩ := nI_of b
  obtain ⟨q, hq, rfl⟩ := nI_of c
  by_cases d : (nI (mLn M t)).toInt64 < (nI p).toInt64 + (nI q).toInt64
  · rw [if_pos d] at h; exact absurd rfl h
  rw [nI_l hl, nI_l hp, nI_l hq, lN_add, pk_lLT (by omega) (by omega)] at d
  refine ⟨Nat.pos_of_ne_zero fun e0 => ?_, isRw_of a, p, q, hp, hq, rfl, rfl, by omega⟩
  subst e0
  rw [h0] at a
  exact a rfl
/-- items come to another row, one by one -/
def mBringN (src tgt : Nat) (w : Int32) : Nat → Nat → mT → Nat × mT
  | 0, i, M => (i, M)
  | j + 1, i, M => if (mIt M (src + i)).toInt32 = 0 ∨ ¬ kIs (mKd M (mIt M (src + i)).toInt32.toNatClampNeg) w = 0 then mBringN src tgt w j (i + 1) (mSetIt M (vp_updL (mIt M) (tgt + i) (mIt M (src + i)).toInt32.toInt64)) else (i, M)
def mBring (M : mT) (x p y q len : Nat) : Nat × mT := if mKd M x = mKd M y then (len, mSetIt M (va_cpy (mIt M) (mIt M) (mBg M x + p) (mBg M y + q) len)) else mBringN (mBg M x + p) (mBg M y + q) (kTab 4 (mKd M y)) len 0 M
theorem mInv.ln (I : mInv M) {t : Nat} (h1 : 1 ≤ t) (ht : t ≤ mMade M) (hr : isRw (mKd M t)) : mLn M t ≤ 3000 := by
  have := I.2.2.2.2.1 t h1 ht hr
  have := I.2.1
  omega
theorem kFit_n : ∀ a, a < 10 → ∀ b, b < 10 → (kHas (kTab 1 (kTab 4 (nI a)) ||| 1) (nI b) = 0 ↔ (b ≠ 0 ∧ kIs (nI b) (kTab 4 (nI a)) = 0)) := by decide
/-- the set of those that fit a row: NOTHING, and what IS of its items' KIND -/
theorem CM.fit (C : CM X M n S D h) {u y : Nat} (hu : u ≤ mMade M) (hy : y ≤ mMade M) : kHas (kTab 1 (kTab 4 (mKd M y)) ||| 1) (mKd M u) = 0 ↔ ¬ (u = 0 ∨ ¬ kIs (mKd M u) (kTab 4 (mKd M y)) = 0) := by
  obtain ⟨a, ha, ea⟩ := C.kdn hy
  obtain ⟨b, hb, eb⟩ := C.kdn hu
  have e0 : b = 0 ↔ u = 0 := by
    constructor
    · intro e
      subst e
      rcases Nat.eq_zero_or_pos u with z | z
      · exact z
      · have := (C.kd z hu).1
        rw [eb] at this
        exact absurd this (by decide)
    · intro e
      subst e
      rw [C.kd0] at eb
      exact (nI_eq0 (by omega)).mp eb.symm
  rw [ea, eb, kFit_n a ha b hb]
  constructor
  · intro z q
    exact q.elim (fun q => z.1 (e0.mpr q)) (fun q => q z.2)
  · intro z
    exact ⟨fun e => z (Or.inl (e0.mp e)), Classical.byContradiction fun e => z (Or.inr e)⟩
theorem sc_bring_loop {x p y q len : Nat} (hx1 : 1 ≤ x) (hy1 : 1 ≤ y) {Q : Int32 → aH → Prop} : ∀ (j i : Nat) (M : mT) (D : sD) (h : aH), j + i = len → CM X M n S D h → x ≤ mMade M → y ≤ mMade M → x ≠ y → isRw (mKd M x) → isRw (mKd M y) → 5 ≤ mKd M x → p + len ≤ mLn M x → q + len ≤ mLn M y → (∀ h' D', CM X (mBringN (mBg M x + p) (mBg M y + q) (kTab 4 (mKd M y)) j i M).2 n S D' h' → cOut X D D' → Q (nI (mBringN (mBg M x + p) (mBg M y + q) (kTab 4 (mKd M y)) j i M).1) h') → wbX8_bringOneByOne_40 (j + 1) (X + 2) (nI len) (kTab 1 (kTab 4 (mKd M y)) ||| 1) (nI (mBg M x + p)) (nI (mBg M y + q)) (nI i) h Q
  | 0, i, M, D, h, hi, C, hx, hy, hxy, rx, ry, k5, hp, hq, hQ => by
    have e : i = len := by omega
    subst e
    have hl := C.2.2.2.ln hx1 hx rx
    exact ⟨fun _ => hQ h D C cOut.rf, fun z => absurd (nI_le (Nat.le_refl i) (by omega)) z⟩
  | j + 1, i, M, D, h, hi, C, hx, hy, hxy, rx, ry, k5, hp, hq, hQ => by
    obtain ⟨R, L, r, I⟩ := id C
    have hl := I.ln hx1 hx rx
    have bx := C.row hx1 hx rx
    have bY := C.row hy1 hy ry
    have h2 := C.m200
    have h3 := C.u3000
    refine ⟨fun z => absurd ((nI_leI (by omega) (by omega)).mp z) (by omega), fun _ => R_R R L.2.1 rfl ?_⟩
    rw [nI_add]
    refine R_aL R L.2.2.2.2.2.1 (vp_in_nI (by omega) (by omega)) ?_
    rw [nI_clamp (by omega), C.rIt (by omega)]
    obtain ⟨u, hu, eu, -⟩ := I.2.2.2.2.2.2.2 x hx1 hx k5 rx.2 (p + i) (by omega)
    rw [← Nat.add_assoc] at eu
    have eI : (mIt M (mBg M x + p + i)).toInt32 = nI u := by rw [eu, lN_i]
    unfold mBringN at hQ
    refine R_O R L.2.1 ?_
    show wX8_kindOf h (X + 2) (mIt M (mBg M x + p + i)).toInt32 _
    rw [eI]
    refine sc_kindOf C hu (sp_has ⟨fun w => ?_, fun w => ?_⟩)
    · have hok : u = 0 ∨ ¬ kIs (mKd M u) (kTab 4 (mKd M y)) = 0 := Classical.byContradiction fun e => w ((C.fit hu hy).mpr e)
      rw [if_pos (by rw [eI, nI_eq0 (by omega), nI_clamp (by omega)]; exact hok)] at hQ
      rw [eI, nI_l (by omega)] at hQ
      refine R_R R L.2.1 rfl ?_
      rw [nI_add, nI_l (by omega)]
      refine R_sL R L.2.2.2.2.2.1 (vp_in_nI (by omega) (by omega)) fun h' R' => ?_
      rw [nI_clamp (by omega)] at R'
      have I' : mInv (mSetIt M (vp_updL (mIt M) (mBg M y + q + i) (lN u))) := by
        refine I.setIt hy1 hy ry (fun z hz => ?_) (fun h5 k hk => ?_)
        · simp only [vp_updL]; rw [if_neg (by omega)]
        · simp only [vp_updL]
          by_cases e : mBg M y + k = mBg M y + q + i
          · rw [if_pos e]; exact ⟨u, hu, rfl, hok⟩
          · rw [if_neg e]; exact I.2.2.2.2.2.2.2 y hy1 hy h5 ry.2 k hk
      have C' : CM X (mSetIt M (vp_updL (mIt M) (mBg M y + q + i) (lN u))) n S _ h' := ⟨R', L, r.setIt (fun z hz => by simp only [vp_updL]; split; rfl; exact C.rIt hz), I'⟩
      show wbX8_bringOneByOne_40 (j + 1) (X + 2) (nI len) (kTab 1 (kTab 4 (mKd M y)) ||| 1) (nI (mBg M x + p)) (nI (mBg M y + q)) (nI i + 1) h' Q
      rw [nI_1]
      exact sc_bring_loop hx1 hy1 j (i + 1) (mSetIt M (vp_updL (mIt M) (mBg M y + q + i) (lN u))) _ h' (by omega) C' hx hy hxy rx ry k5 hp hq fun h4 D4 C4 O4 => hQ h4 D4 C4 (cOut.tr (cOut.B (X := X) (by omega)) O4)
    · rw [if_neg (by rw [eI, nI_eq0 (by omega), nI_clamp (by omega)]; exact (C.fit hu hy).mp w)] at hQ
      exact hQ h D C cOut.rf
theorem mBringN_fst (src tgt : Nat) (w : Int32) : ∀ j i M, (mBringN src tgt w j i M).1 ≤ i + j
  | 0, i, M => Nat.le_refl _
  | j + 1, i, M => by
    unfold mBringN
    split
    · have := mBringN_fst src tgt w j (i + 1) (mSetIt M (vp_updL (mIt M) (tgt + i) (mIt M (src + i)).toInt32.toInt64))
      omega
    · show i ≤ _; omega
theorem sc_bring (C : CM X M n S D h) {x p y q len : Nat} (hx : x ≤ mMade M) (hy : y ≤ mMade M) (px : ¬ mPart M x (nI p) (nI len) = 0) (py : ¬ mPart M y (nI q) (nI len) = 0) (hp : p < 2 ^ 31) (hq1 : q < 2 ^ 31) (hlen : len < 2 ^ 31) (hk : mKd M x ≠ mKd M y → 5 ≤ mKd M x) {Q : Int32 → aH → Prop} (hQ : ∀ h' D', CM X (mBring M x p y q len).2 n S D' h' → cOut X D D' → Q (nI (mBring M x p y q len).1) h') : wX8_bring h (X + 2) (nI x) (nI p) (nI y) (nI q) (nI len) Q := by
  obtain ⟨R, L, r, I⟩ := id C
  have h2 := C.m200
  have h3 := C.u3000
  refine R_O R L.2.1 (sc_hasPart C hx ⟨fun z => absurd z px, fun _ => R_O R L.2.1 (sc_hasPart C hy ⟨fun _ => ?_, fun z => absurd z py⟩)⟩)
  have lx : mLn M x < 2 ^ 31 := by
    unfold mPart at px
    by_cases a : kRow (mKd M x) = 0
    · rw [if_pos a] at px; exact absurd rfl px
    have hx1 : 1 ≤ x := Nat.pos_of_ne_zero fun e => by subst e; rw [C.kd0] at a; exact a rfl
    have := I.ln hx1 hx (isRw_of a); omega
  have ly : mLn M y < 2 ^ 31 := by
    unfold mPart at py
    by_cases a : kRow (mKd M y) = 0
    · rw [if_pos a] at py; exact absurd rfl py
    have hy1 : 1 ≤ y := Nat.pos_of_ne_zero fun e => by subst e; rw [C.kd0] at a; exact a rfl
    have := I.ln hy1 hy (isRw_of a); omega
  obtain ⟨hx1, rx, p', l', bp, bl, ep, el, sx⟩ := mPart_1 C.kd0 lx px
  obtain ⟨hy1, ry, q', m', bq, bm, eq, em, sy⟩ := mPart_1 C.kd0 ly py
  have e1 : p = p' := (nI_eq hp bp).mp ep
  have e2 : len = l' := (nI_eq hlen bl).mp el
  have e3 : q = q' := (nI_eq hq1 bq).mp eq
  have e4 : len = m' := (nI_eq hlen bm).mp em
  subst e1 e3
  rw [← e2] at sx
  rw [← e4] at sy
  have bx := C.row hx1 hx rx
  have bY := C.row hy1 hy ry
  have lx3 := I.ln hx1 hx rx
  have ly3 := I.ln hy1 hy ry
  unfold mBring at hQ
  refine R_R R L.2.1 rfl (R_aI R L.2.2.1 (vp_in_nI (by omega) (by omega)) (R_R R L.2.1 rfl (R_aI R L.2.2.1 (vp_in_nI (by omega) (by omega)) ?_)))
  rw [nI_clamp (by omega), nI_clamp (by omega), C.rKd hx, C.rKd hy]
  refine ⟨fun z => ?_, fun z => R_O R L.2.1 ?_⟩
  · rw [if_pos z] at hQ
    refine R_R R L.2.1 rfl (R_R R L.2.1 rfl (R_aI R L.2.2.2.1 (vp_in_nI (by omega) (by omega)) (R_R R L.2.1 rfl (R_R R L.2.1 rfl (R_aI R L.2.2.2.1 (vp_in_nI (by omega) (by omega)) ?_)))))
    rw [nI_clamp (by omega), nI_clamp (by omega), C.rBg hx rx, C.rBg hy ry, nI_add, nI_add]
    refine R_cpL R L.2.2.2.2.2.1 L.2.2.2.2.2.1 (nI_pos (by omega)) (nI_pos (by omega)) (nI_pos (by omega)) (by rw [nI_clamp (by omega), nI_clamp (by omega)]; omega) (by rw [nI_clamp (by omega), nI_clamp (by omega)]; omega) fun h' R' => ?_
    rw [nI_clamp (by omega), nI_clamp (by omega), nI_clamp (by omega)] at R'
    refine hQ h' _ ⟨R', L, r.setIt (fun j hj => ?_), I.setIt hy1 hy ry (fun j hj => ?_) (fun h5 i hi => ?_)⟩ (cOut.B (by omega))
    · simp only [va_cpy]
      split
      · exact C.rIt (by omega)
      · exact C.rIt hj
    · simp only [va_cpy]; rw [if_neg (by omega)]
    · simp only [va_cpy]
      by_cases c : mBg M y + q ≤ mBg M y + i ∧ mBg M y + i < mBg M y + q + len
      · rw [if_pos c]
        have ei : mBg M x + p + (mBg M y + i - (mBg M y + q)) = mBg M x + (p + (i - q)) := by omega
        rw [ei]
        have h5x : 5 ≤ mKd M x := by rw [z]; exact h5
        obtain ⟨u, hu, eu, ok⟩ := I.2.2.2.2.2.2.2 x hx1 hx h5x rx.2 (p + (i - q)) (by omega)
        exact ⟨u, hu, eu, by rw [← z]; exact ok⟩
      · rw [if_neg c]; exact I.2.2.2.2.2.2.2 y hy1 hy h5 ry.2 i hi
  · rw [if_neg z] at hQ
    refine R_R R L.2.1 rfl (R_aI R L.2.2.1 (vp_in_nI (by omega) (by omega)) ?_)
    rw [nI_clamp (by omega), C.rKd hy]
    refine sp_ofItems (sp_are (R_R R L.2.1 rfl (R_aI R L.2.2.2.1 (vp_in_nI (by omega) (by omega)) (R_R R L.2.1 rfl (R_aI R L.2.2.2.1 (vp_in_nI (by omega) (by omega)) ⟨len + 1, ?_⟩)))))
    rw [nI_clamp (by omega), nI_clamp (by omega), C.rBg hx rx, C.rBg hy ry, nI_add, nI_add]
    exact sc_bring_loop hx1 hy1 len 0 M D h (by omega) C hx hy (fun e => z (by rw [e])) rx ry (hk z) sx sy hQ
end CA4
