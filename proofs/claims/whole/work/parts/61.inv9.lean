/-! a report leaves what was not reached empty -/
def rI0 (ρ : rD) : Prop := ∀ g, ρ.1 g 0 = 0 → (∀ i, ρ.1 g i = 0) ∧ ρ.2.1 g = 0 ∧ ρ.2.2.1 g = 0 ∧ ρ.2.2.2 g = 0
def rG (m : Nat) (ρ : rD) : Prop := rI0 ρ ∧ ¬ ρ.1 m 0 = 0
theorem rG.bod {m : Nat} {W : rW} {ρ : rD} (h : rG m ρ) : rG m (bodR m W ρ) := by
  refine ⟨fun g hg => ?_, h.2⟩
  have ne : g ≠ m := fun e => h.2 (by rw [← e]; exact hg)
  obtain ⟨a, b, c, d⟩ := h.1 g hg
  exact ⟨a, b, by show upd _ _ _ _ = _; simp only [upd, if_neg ne]; exact c, d⟩
theorem rG.los {m f : Nat} {W : rW} {ρ : rD} (h : rG m ρ) : rG m (losR m f W ρ) := by
  unfold losR
  split
  · exact h
  · refine ⟨fun g hg => ?_, h.2⟩
    have ne : g ≠ m := fun e => h.2 (by rw [← e]; exact hg)
    obtain ⟨a, b, c, d⟩ := h.1 g hg
    exact ⟨a, b, c, by show upd _ _ _ _ = _; simp only [upd, if_neg ne]; exact d⟩
theorem rG.ent {m : Nat} {s : rS} {ρ : rD} (h : rI0 ρ) (ok : okS s) : rG m (enterR m s ρ) := by
  have em : ¬ (enterR m s ρ).1 m 0 = 0 := by
    have e : (enterR m s ρ).1 m = fun i => ρ.1 m i ||| s i := by show (if m = m then _ else _) = _; rw [if_pos rfl]
    rw [e]
    show ¬ ρ.1 m 0 ||| s 0 = 0
    rw [Int32.or_comm]; exact or_ne0 (ok 0).1
  refine ⟨fun g hg => ?_, em⟩
  have ne : g ≠ m := fun e => em (e ▸ hg)
  have e1 : (enterR m s ρ).1 g = ρ.1 g := by show (if g = m then _ else _) = _; rw [if_neg ne]
  rw [e1] at hg
  obtain ⟨a, b, c, d⟩ := h g hg
  exact ⟨fun i => by rw [e1]; exact a i, b, c, d⟩
theorem rG.leave {m : Nat} {p : rW × rD} (h : rG m p.2) : rI0 (leaveR m p).2 := fun g hg => by
  have ne : g ≠ m := fun e => h.2 (by rw [← e]; exact hg)
  obtain ⟨a, b, c, d⟩ := h.1 g hg
  exact ⟨a, by show upd _ _ _ _ = _; simp only [upd, if_neg ne]; exact b, c, d⟩
def tI (t : rT) : Prop := ∀ s ρ, okS s → rI0 ρ → rI0 (t s ρ).2
theorem rG.ch {m c : Nat} {t : rT} (hi : tI t) (hk : tOk (c + 1) t) (hc : c < m) {s : rS} {ρ : rD} (ok : okS s) (h : rG m ρ) : rG m (t s ρ).2 := ⟨hi s ρ ok h.1, by rw [((hk s ρ ok).2 m (by omega)).1]; exact h.2⟩
theorem lastN_G {m c : Nat} {td : rT} (hi : tI td) (hk : tOk (c + 1) td) (hc : c < m) {H : rW} (hH : okW H) : ∀ j f (p : rW × rD), rG m p.2 → rG m (lastN td H m j f p).2
  | 0, f, p, h => h
  | j + 1, f, p, h => by
    unfold lastN
    by_cases z : H f 0 = 0
    · rw [if_pos z]; exact lastN_G hi hk hc hH j (f + 1) p h
    · rw [if_neg z]
      exact lastN_G hi hk hc hH j (f + 1) _ (rG.los (rG.ch hi hk hc ((hH f).ok z) h))
theorem findR_G {N : nT} {t : Nat → rT} {m : Nat} (o : nOk N m) (hm : m ≤ 2 ^ 31) (hk : ∀ c, c < m → tOk (c + 1) (t c)) (hi : ∀ c, c < m → tI (t c)) {s : rS} {ρ : rD} (ok : okS s) (h : rG m ρ) : rG m (findR N t m s ρ).2 := by
  have ch : ∀ x, nS x m → ∀ {s : rS} {ρ : rD}, okS s → rG m ρ → rG m (t (tN x) s ρ).2 := fun x hx _ _ ok h => rG.ch (hi _ (tN_lt hx hm).1) (hk _ (tN_lt hx hm).1) (tN_lt hx hm).1 ok h
  have cw : ∀ x, nS x m → ∀ {s : rS} {ρ : rD}, okS s → okW (t (tN x) s ρ).1 := fun x hx _ _ ok => (hk _ (tN_lt hx hm).1 _ _ ok).1
  unfold findR
  rcases o with ⟨s0, o⟩ | ⟨s1, oa, ob⟩ | ⟨s2, oa, ob, oc, od⟩ | ⟨s3, oa, ob, oc, od⟩
  · rw [if_pos s0]; exact h
  · rw [if_neg (by omega), if_pos s1]
    unfold bothR
    split
    · exact ch _ oa ok h
    · rename_i z
      exact ch _ ob ((cw _ oa ok 0).ok z) (ch _ oa ok h)
  · rw [if_neg (by omega), if_neg (by omega), if_pos s2]
    have key : ∀ x, nS x m → ∀ (k : Int32) (p : rW × rD), rG m p.2 → rG m (chooseR (t (tN x)) s (tN (nA N m)) k p).2 := by
      intro x hx k p hp
      unfold chooseR
      split
      · exact hp
      · rename_i z
        exact ch _ hx (ok.up z (by rw [and_sw, (ok _).2])) hp
    exact key _ od _ _ (key _ oc _ _ h)
  · rw [if_neg (by omega), if_neg (by omega), if_neg (by omega)]
    have ha := ch _ oa ok h
    have wa := cw _ oa (ρ := ρ) ok
    have hh : rG m (handR (t (tN (nC N m))) (nB N m) (nC N m) (t (tN (nA N m)) s ρ).1 (bodR m (t (tN (nA N m)) s ρ).1 (t (tN (nA N m)) s ρ).2)).2 ∧ okW (handR (t (tN (nC N m))) (nB N m) (nC N m) (t (tN (nA N m)) s ρ).1 (bodR m (t (tN (nA N m)) s ρ).1 (t (tN (nA N m)) s ρ).2)).1 := by
      unfold handR
      by_cases z : tkN (nB N m) (t (tN (nA N m)) s ρ).1 9 0 = 0 ∨ ¬ 0 ≤ nC N m
      · rw [if_pos z]
        exact ⟨ha.bod, (hdW_ok wa).oj (tkN_wf wa 9)⟩
      · rw [if_neg z]
        have z1 : ¬ tkN (nB N m) (t (tN (nA N m)) s ρ).1 9 0 = 0 := fun e => z (Or.inl e)
        have c0 : 0 ≤ nC N m := by
          by_cases e : 0 ≤ nC N m
          · exact e
          · exact absurd (Or.inr e) z
        have okt := (tkN_wf (b := nB N m) wa 9).ok z1
        exact ⟨ch _ (ge0_nS oc c0) okt ha.bod, (hdW_ok wa).oA (cw _ (ge0_nS oc c0) okt)⟩
    unfold guardR
    by_cases d0 : 0 ≤ nD N m
    · rw [if_pos d0]
      have ld := tN_lt (ge0_nS od d0) hm
      exact lastN_G (hi _ ld.1) (hk _ ld.1) ld.1 hh.2 9 0 _ hh.1
    · rw [if_neg d0]; exact hh.1
theorem thrN_I {N : nT} {cnt : Nat} (hN : ∀ m, m < cnt → nOk N m) (hc : cnt ≤ 80) : ∀ k m, m < cnt → tI (thrN N k m)
  | 0, m, hm => fun s ρ _ h => h
  | k + 1, m, hm => fun s ρ ok h => by
    unfold thrN
    exact rG.leave (findR_G (hN m hm) (by omega) (fun c hc' => thrN_ok hN hc k c (by omega)) (fun c hc' => thrN_I hN hc k c (by omega)) ok (rG.ent h ok))
theorem rI0_0 : rI0 rD0 := fun _ _ => ⟨fun _ => rfl, rfl, rfl, rfl⟩
theorem thr_rOk {N : nT} {cnt : Nat} (hN : ∀ m, m < cnt → nOk N m) (hc : cnt ≤ 80) {k m : Nat} (hm : m < cnt) {s : rS} (ok : okS s) : rOk cnt (thrN N k m s rD0).2 :=
  ⟨thrN_I hN hc k m hm s rD0 ok rI0_0, fun g hg => by rw [((thrN_ok hN hc k m hm s rD0 ok).2 g (by omega)).1]; rfl⟩
/-! the class' report -/
def gIn (p e : Nat) (D D' : sD) : Prop := D'.2.2 = D.2.2 ∧ (∀ a k, k ≠ 4 → k ≠ 11 → k ≠ 12 → D'.1 a k = D.1 a k) ∧ ∀ a, ¬ (p ≤ a ∧ a < e) → D'.1 a = D.1 a ∧ D'.2.1 a = D.2.1 a
theorem gIn.g {X p e : Nat} {D D' : sD} (h : gIn p e D D') (hp : X + 42 ≤ p) : gOut X e D D' := ⟨h.1, h.2.1, fun a ha => h.2.2 a (by omega)⟩
section RPT
variable {X Y cnt n : Nat} {P : Nat → Nat} {N : nT} {M : mT} {ρ : rD} {gs : rS} {S : sS} {D : sD} {h : aH}
theorem CI.gg (C : CI X cnt P N M ρ gs n S D h) {ρ' : rD} {D' : sD} {h' : aH} {e : Nat} (R' : HR n S D' h') (o : gOut X e D D') (cr : ∀ g, g < cnt → CRm P N ρ' D' g) : CI X cnt P N M ρ' gs n S D' h' := by
  obtain ⟨c1, c2, c3, c4, c5, c6, c7, c8, c9, c10, c11, c12, c13⟩ := C
  refine ⟨⟨R', c1.2.1, c1.2.2.1.eq fun a g1 g2 => ⟨(o.2.2 a (by omega)).1, (o.2.2 a (by omega)).2, by rw [o.1]⟩, c1.2.2.2⟩, c2, c3, c4.g o, c5, c6, c7, by rw [(o.2.2 X (by omega)).1]; exact c8, by rw [o.1]; exact c9, c10.g o (by omega), c11, cr, c13⟩
/-- one node's report is forgotten -/
theorem cc_forget1 (C : CI X cnt P N M ρ gs n S D h) {g : Nat} (hg : g < cnt) {Q : aH → Prop} (hq : ∀ h' D', HR n S D' h' → gIn (P g) (nHi P N g) D D' → CRm P N rD0 D' g → Q h') : wforget (nSo N g) h (P g) Q := by
  obtain ⟨c1, c2, c3, c4, c5, c6, c7, c8, c9, c10, c11, c12, c13⟩ := C
  obtain ⟨o, hp, L, dd⟩ := c4 g hg
  have h25 := nHi_25 P N g
  obtain ⟨⟨m1, m2, m3⟩, ⟨W, m4, m5⟩, m6⟩ := c12 g hg
  have hk2 : (nFl P N g)[2]? = some (some (some (P g + 1))) := by unfold nFl; rfl
  have hk4 : (nFl P N g)[4]? = some none := by unfold nFl; rfl
  have base : ∀ K : aH → Prop, (∀ h' D', HR n S D' h' → gIn (P g) (nHi P N g) D D' → (∀ k, k ≠ 4 → D'.1 (P g) k = D.1 (P g) k) → D'.1 (P g) 4 = 0 → stR (P g + 1) rZ D' → (∀ a, a ≠ P g + 2 → D'.2.1 a = D.2.1 a) → K h') → wX6_forgetReport h (P g) K := by
    intro K hK
    refine R_RN c1.1 L.1 o.s4 hk2 (R_O c1.1 L.2.1.1 (st_erase c1.1 L.2.1 fun h1 D1 R1 o1 s1 => R_wFN R1 L.1 o.s4 hk4 fun h2 R2 => hK h2 _ R2 ⟨o1.2.1, fun a k e1 e2 e3 => ?_, fun a ha => ⟨?_, o1.2.2 a (by omega)⟩⟩ (fun k hk => by rw [uO_at, if_neg hk, o1.1]) (by rw [uO_at, if_pos rfl]) s1 (fun a ha => o1.2.2 a ha)))
    · simp only [uO, va_up]
      split
      · rename_i e; subst e; simp only [upd]; rw [if_neg e1, o1.1]
      · rw [o1.1]
    · simp only [uO, va_up]
      rw [if_neg (by omega), o1.1]
  by_cases s3 : nSo N g = 3
  · have h45 := nHi_45 P N g s3
    have sh : S (P g) = some (.inr (3, [none, none, some (some (P g + 1)), some (some (P g + 3)), none, some (some (P (tN (nA N g)))), none, some (nRef P (nC N g)), some (nRef P (nD N g)), some (some (P g + 23)), some (some (P g + 25)), none, none])) := by
      rw [L.1, s3]; unfold nFl; rw [if_neg (by omega), if_neg (by omega), if_neg (by omega)]; rfl
    rw [s3]
    refine R_O c1.1 sh (base _ fun h1 D1 R1 g1 f1 z1 s1 w1 => R_wF R1 sh rfl fun h2 R2 => R_wF R2 sh rfl fun h3 R3 => hq h3 _ R3 ⟨g1.1, fun a k e1 e2 e3 => ?_, fun a ha => ⟨?_, (g1.2.2 a ha).2⟩⟩ ⟨⟨s1, ?_, fun _ => ⟨?_, ?_⟩⟩, ⟨W, m4, fun f hf i hi => ?_⟩, fun _ => ?_⟩)
    · rw [← g1.2.1 a k e1 e2 e3]
      simp only [uO, va_up]
      by_cases e : a = P g
      · subst e; simp only [if_pos, upd]; rw [if_neg e3, if_neg e2]
      · rw [if_neg e, if_neg e]
    · rw [← (g1.2.2 a ha).1]
      simp only [uO, va_up]
      rw [if_neg (by omega), if_neg (by omega)]
    · rw [uO_at, if_neg (by omega), uO_at, if_neg (by omega), z1]; rfl
    · rw [uO_at, if_neg (by omega), uO_at, if_pos rfl]; rfl
    · rw [uO_at, if_pos rfl]; rfl
    · show D1.2.1 _ i = _
      rw [w1 _ (by omega)]; exact m5 f hf i hi
    · obtain ⟨V, v1, v2⟩ := m6 s3
      refine ⟨V, v1, fun f hf i hi => ?_⟩
      show D1.2.1 _ i = _
      rw [w1 _ (by omega)]; exact v2 f hf i hi
  · have ew : wforget (nSo N g) h (P g) Q = wX6_forgetReport h (P g) Q := by
      have := o.s4
      rcases (show nSo N g = 0 ∨ nSo N g = 1 ∨ nSo N g = 2 by omega) with e | e | e <;> rw [e] <;> rfl
    rw [ew]
    refine base _ fun h1 D1 R1 g1 f1 z1 s1 w1 => hq h1 D1 R1 g1 ⟨⟨s1, by rw [z1]; rfl, fun e => absurd e s3⟩, ⟨W, m4, fun f hf i hi => ?_⟩, fun e => absurd e s3⟩
    rw [w1 _ (by omega)]; exact m5 f hf i hi
/-- forgotten below i -/
def zr (i : Nat) (ρ : rD) : rD := (fun g => if g < i then fun _ => 0 else ρ.1 g, fun g => if g < i then 0 else ρ.2.1 g, fun g => if g < i then 0 else ρ.2.2.1 g, fun g => if g < i then 0 else ρ.2.2.2 g)
theorem zr_lt {i g : Nat} (h : g < i) : rAt g (zr i ρ) rD0 := by unfold zr; exact ⟨by simp only [if_pos h]; rfl, by simp only [if_pos h]; rfl, by simp only [if_pos h]; rfl, by simp only [if_pos h]; rfl⟩
theorem zr_ge {i g : Nat} (h : ¬ g < i) : rAt g (zr i ρ) ρ := by unfold zr; exact ⟨by simp only [if_neg h], by simp only [if_neg h], by simp only [if_neg h], by simp only [if_neg h]⟩
theorem CRm.ra {ρ' : rD} {m : Nat} (c : CRm P N ρ D m) (r : rAt m ρ' ρ) : CRm P N ρ' D m := c.cg (fun _ _ _ => ⟨rfl, rfl⟩) r
theorem rAt.sm {g : Nat} {a b : rD} (h : rAt g a b) : rAt g b a := ⟨h.1.symm, h.2.1.symm, h.2.2.1.symm, h.2.2.2.symm⟩
theorem cc_report_loop {m : Nat} (hm : m < cnt) {Q : Int32 → aH → Prop} : ∀ (j i : Nat) (D : sD) (h : aH), j + i = cnt → CI X cnt P N M (zr i ρ) gs n S D h → (∀ h' D', CI X cnt P N M (thrN N 85 m gs rD0).2 gs n S D' h' → inC (X + 12) S D S D' → Q ((thrN N 85 m gs rD0).2.2.1 m) h') → wbX10_report_12 (RfN 85) (j + 1) X (nI m) (nI i) h Q
  | 0, i, D, h, hi, C, hq => by
    have e : i = cnt := by omega
    subst e
    have c80 := C.c80
    refine R_I C.R C.s0 rfl ?_
    rw [C.cn]
    refine ⟨fun _ => cc_nodeRow C hm (R_R C.R C.s0 rfl ?_), fun z => absurd (nI_le (Nat.le_refl _) (by omega)) z⟩
    obtain ⟨c1, c2, c3, c4, c5, c6, c7, c8, c9, c10, c11, c12, c13⟩ := id C
    obtain ⟨o, hp, L, dd⟩ := c4 m hm
    have hN : ∀ m, m < i → nOk N m := fun m hm => (c4 m hm).1
    have cr : ∀ g, g < i → CRm P N rD0 D g := fun g hg => (c12 g hg).ra (zr_lt hg).sm
    refine R_N c1.1 L.1 o.s4 (sc_thr c80 c5 85 m gs rD0 D h (X + 10) _ (by omega) hm c1.1 c4 (fun g hg => cr g (by omega)) c2.2.2 c10 c11 (Or.inl (by omega)) fun h1 D1 R1 o1 cr1 w1 => ?_)
    have C1 : CI X i P N M (thrN N 85 m gs rD0).2 gs n S D1 h1 := by
      refine C.gg R1 o1 fun g hg => ?_
      rcases Nat.lt_or_ge m g with e | e
      · have od := c5 m g e hg
        refine (cr g hg).cg (fun a a1 a2 => o1.2.2 a (Or.inr (by omega))) ((thrN_ok hN c80 85 m hm gs rD0 c11).2 g (by omega))
      · exact cr1 g e
    refine cc_nodeRow C1 hm (R_IN R1 L.1 o.s4 ?_ ?_)
    · unfold nFl; rfl
    · rw [(cr1 m (Nat.le_refl m)).1.2.1]; exact hq h1 D1 C1 o1.i
  | j + 1, i, D, h, hi, C, hq => by
    have c80 := C.c80
    refine R_I C.R C.s0 rfl ?_
    rw [C.cn]
    refine ⟨fun z => absurd ((nI_leI (by omega) (by omega)).mp z) (by omega), fun _ => cc_nodeRow C (s := i) (by omega) ?_⟩
    obtain ⟨c1, c2, c3, c4, c5, c6, c7, c8, c9, c10, c11, c12, c13⟩ := id C
    obtain ⟨o, hp, L, dd⟩ := c4 i (by omega)
    refine R_N c1.1 L.1 o.s4 (cc_forget1 C (by omega) fun h1 D1 R1 g1 cr1 => ?_)
    rw [nI_1]
    have C1 : CI X cnt P N M (zr (i + 1) ρ) gs n S D1 h1 := by
      refine C.gg R1 (g1.g hp) fun g hg => ?_
      by_cases e : g = i
      · rw [e]; exact cr1.ra (zr_lt (by omega))
      · have hg2 := nHi_25 P N g
        have r1 : rAt g (zr (i + 1) ρ) (zr i ρ) := by
          by_cases e2 : g < i
          · exact (zr_lt e2).sm.tr (zr_lt (by omega))
          · exact (zr_ge e2).sm.tr (zr_ge (by omega))
        refine (c12 g hg).cg (fun a a1 a2 => g1.2.2 a ?_) r1
        rcases Nat.lt_or_ge g i with e2 | e2
        · have := c5 g i e2 (by omega); omega
        · have := c5 i g (by omega) hg; omega
    exact cc_report_loop hm j (i + 1) D1 h1 (by omega) C1 fun h' D' C' O' => hq h' D' C' ((g1.g hp).i.tr O')
theorem cc_report (C : CI X cnt P N M ρ gs n S D h) {v : Int32} {Q : Int32 → aH → Prop} (q0 : ¬ nS v cnt → Q (-1) h) (q1 : ∀ m, m < cnt → v = nI m → ∀ h' D', CI X cnt P N M (thrN N 85 m gs rD0).2 gs n S D' h' → inC (X + 12) S D S D' → Q ((thrN N 85 m gs rD0).2.2.1 m) h') : wX10_report (RfN 85) h X v Q := by
  refine cc_isNode C (fun nv => ⟨fun _ => ?_, fun w => absurd w (by decide)⟩) (fun nv => ⟨fun w => absurd rfl w, fun _ => q0 nv⟩)
  obtain ⟨m, hm, rfl⟩ := nv
  have C0 : CI X cnt P N M (zr 0 ρ) gs n S D h := by
    obtain ⟨c1, c2, c3, c4, c5, c6, c7, c8, c9, c10, c11, c12, c13⟩ := C
    exact ⟨c1, c2, c3, c4, c5, c6, c7, c8, c9, c10, c11, fun g hg => (c12 g hg).ra (zr_ge (Nat.not_lt_zero g)), c13⟩
  exact ⟨cnt + 1, cc_report_loop (ρ := ρ) hm cnt 0 D h rfl C0 (q1 m hm rfl)⟩
end RPT
