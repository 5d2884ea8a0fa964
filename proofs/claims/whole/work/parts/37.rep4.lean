/-! what a report finds, by nodes: (the STATES ahead, the ways, a guard's body's ways, its lost failures), each by the node's number -/
abbrev rD : Type := (Nat → Nat → Int32) × (Nat → Int32) × (Nat → Int32) × (Nat → Int32)
abbrev rT : Type := rS → rD → rW × rD
def enterR (m : Nat) (s : rS) (ρ : rD) : rD := (fun g => if g = m then (fun i => ρ.1 g i ||| s i) else ρ.1 g, ρ.2)
def leaveR (m : Nat) (p : rW × rD) : rW × rD := (p.1, (p.2.1, upd p.2.2.1 m (p.2.2.1 m ||| bits p.1), p.2.2.2))
def bodR (m : Nat) (W : rW) (ρ : rD) : rD := (ρ.1, ρ.2.1, upd ρ.2.2.1 m (ρ.2.2.1 m ||| bits W), ρ.2.2.2)
def losR (m f : Nat) (W : rW) (ρ : rD) : rD := if bits W &&& 510 = 0 then ρ else (ρ.1, ρ.2.1, ρ.2.2.1, upd ρ.2.2.2 m (ρ.2.2.2 m ||| ((1 <<< (nI f &&& 31)) &&& 510)))
def bothR (ta tb : rT) : rT := fun s ρ => if (ta s ρ).1 0 0 = 0 then (jnF rZW (ta s ρ).1, (ta s ρ).2) else (jnA (jnF rZW (ta s ρ).1) (tb ((ta s ρ).1 0) (ta s ρ).2).1, (tb ((ta s ρ).1 0) (ta s ρ).2).2)
def chooseR (t : rT) (s : rS) (x : Nat) (k : Int32) (p : rW × rD) : rW × rD := if s x &&& k = 0 then p else (jnA p.1 (t (upd s x (s x &&& k)) p.2).1, (t (upd s x (s x &&& k)) p.2).2)
def choiceR (tc td : rT) (x : Nat) (b : Int32) : rT := fun s ρ => chooseR td s x (kTab 1 b ^^^ (-1)) (chooseR tc s x (kTab 1 b) (rZW, ρ))
def tkN (b : Int32) (W : rW) : Nat → rS
  | 0 => rZ
  | f + 1 => if tkB b (nI f) = 0 then tkN b W f else fun i => tkN b W f i ||| W f i
def hdW (b : Int32) (W : rW) : rW := fun f => if tkB b (nI f) = 0 then W f else rZ
def handR (tc : rT) (b c : Int32) (W : rW) (ρ : rD) : rW × rD := if tkN b W 9 0 = 0 ∨ ¬ 0 ≤ c then (jn (hdW b W) 0 (tkN b W 9), ρ) else (jnA (hdW b W) (tc (tkN b W 9) ρ).1, (tc (tkN b W 9) ρ).2)
def lastN (td : rT) (H : rW) (m : Nat) : Nat → Nat → rW × rD → rW × rD
  | 0, _, p => p
  | j + 1, f, p => lastN td H m j (f + 1) (if H f 0 = 0 then p else (jnF (jn p.1 f ((td (H f) p.2).1 0)) (td (H f) p.2).1, losR m f (td (H f) p.2).1 (td (H f) p.2).2))
def guardR (ta tc td : rT) (m : Nat) (b c d : Int32) : rT := fun s ρ =>
  if 0 ≤ d then lastN td (handR tc b c (ta s ρ).1 (bodR m (ta s ρ).1 (ta s ρ).2)).1 m 9 0 (rZW, (handR tc b c (ta s ρ).1 (bodR m (ta s ρ).1 (ta s ρ).2)).2)
  else (jnA rZW (handR tc b c (ta s ρ).1 (bodR m (ta s ρ).1 (ta s ρ).2)).1, (handR tc b c (ta s ρ).1 (bodR m (ta s ρ).1 (ta s ρ).2)).2)
def findR (N : nT) (t : Nat → rT) (m : Nat) : rT :=
  if nSo N m = 0 then (fun s ρ => (fwS (nOp N m) (nA N m) (nB N m) (nC N m) (nD N m) s, ρ))
  else if nSo N m = 1 then bothR (t (tN (nA N m))) (t (tN (nB N m)))
  else if nSo N m = 2 then choiceR (t (tN (nC N m))) (t (tN (nD N m))) (tN (nA N m)) (nB N m)
  else guardR (t (tN (nA N m))) (t (tN (nC N m))) (t (tN (nD N m))) m (nB N m) (nC N m) (nD N m)
def thrN (N : nT) : Nat → Nat → rT
  | 0, _ => fun _ ρ => (rZW, ρ)
  | k + 1, m => fun s ρ => leaveR m (findR N (thrN N k) m s (enterR m s ρ))
/-- ways stay as they must; nothing of later nodes changes -/
def rAt (g : Nat) (ρ' ρ : rD) : Prop := ρ'.1 g = ρ.1 g ∧ ρ'.2.1 g = ρ.2.1 g ∧ ρ'.2.2.1 g = ρ.2.2.1 g ∧ ρ'.2.2.2 g = ρ.2.2.2 g
theorem rAt.rf {g : Nat} {ρ : rD} : rAt g ρ ρ := ⟨rfl, rfl, rfl, rfl⟩
theorem rAt.tr {g : Nat} {a b c : rD} (h : rAt g b a) (h' : rAt g c b) : rAt g c a := ⟨h'.1.trans h.1, h'.2.1.trans h.2.1, h'.2.2.1.trans h.2.2.1, h'.2.2.2.trans h.2.2.2⟩
def tOk (l : Nat) (t : rT) : Prop := ∀ s ρ, okS s → okW (t s ρ).1 ∧ ∀ g, l ≤ g → rAt g (t s ρ).2 ρ
theorem rAt.bod {m g : Nat} {W : rW} {ρ : rD} (h : g ≠ m) : rAt g (bodR m W ρ) ρ := ⟨rfl, rfl, by show upd _ _ _ _ = _; simp [upd, h], rfl⟩
theorem rAt.los {m f g : Nat} {W : rW} {ρ : rD} (h : g ≠ m) : rAt g (losR m f W ρ) ρ := by
  unfold losR
  split
  · exact rAt.rf
  · exact ⟨rfl, rfl, rfl, by show upd _ _ _ _ = _; simp [upd, h]⟩
theorem rAt.ent {m g : Nat} {s : rS} {ρ : rD} (h : g ≠ m) : rAt g (enterR m s ρ) ρ := ⟨by show (if g = m then _ else _) = _; rw [if_neg h], rfl, rfl, rfl⟩
theorem tkN_wf {b : Int32} {W : rW} (h : okW W) : ∀ f, wfS (tkN b W f)
  | 0 => wfS.z
  | f + 1 => by
    unfold tkN
    split
    · exact tkN_wf h f
    · exact (tkN_wf h f).or (h f)
theorem hdW_ok {b : Int32} {W : rW} (h : okW W) : okW (hdW b W) := by
  intro f
  unfold hdW
  split
  · exact h f
  · exact wfS.z
theorem lastN_ok {l m : Nat} {td : rT} (ht : tOk l td) (hl : l ≤ m) {H : rW} (hH : okW H) : ∀ j f (p : rW × rD), okW p.1 → okW (lastN td H m j f p).1 ∧ ∀ g, m + 1 ≤ g → rAt g (lastN td H m j f p).2 p.2
  | 0, f, p, hp => ⟨hp, fun _ _ => rAt.rf⟩
  | j + 1, f, p, hp => by
    unfold lastN
    by_cases c : H f 0 = 0
    · rw [if_pos c]; exact lastN_ok ht hl hH j (f + 1) p hp
    · rw [if_neg c]
      have := ht (H f) p.2 ((hH f).ok c)
      have r := lastN_ok ht hl hH j (f + 1) (jnF (jn p.1 f ((td (H f) p.2).1 0)) (td (H f) p.2).1, losR m f (td (H f) p.2).1 (td (H f) p.2).2) ((hp.oj (this.1 0)).oF this.1)
      exact ⟨r.1, fun g hg => ((this.2 g (by omega)).tr (rAt.los (by omega))).tr (r.2 g hg)⟩
theorem findR_ok {N : nT} {t : Nat → rT} {m : Nat} (o : nOk N m) (hm : m ≤ 2 ^ 31) (ht : ∀ c, c < m → tOk (c + 1) (t c)) : tOk (m + 1) (findR N t m) := by
  have ht' : ∀ x, nS x m → tOk m (t (tN x)) := fun x hx s ρ hs => ⟨(ht _ (tN_lt hx hm).1 s ρ hs).1, fun g hg => (ht _ (tN_lt hx hm).1 s ρ hs).2 g (by have := (tN_lt hx hm).1; omega)⟩
  unfold findR
  rcases o with ⟨s0, o⟩ | ⟨s1, oa, ob⟩ | ⟨s2, oa, ob, oc, od⟩ | ⟨s3, oa, ob, oc, od⟩
  · rw [if_pos s0]
    exact fun s ρ hs => ⟨fwS_ok o hs, fun _ _ => rAt.rf⟩
  · rw [if_neg (by omega), if_pos s1]
    intro s ρ hs
    have ha := ht' _ oa s ρ hs
    unfold bothR
    by_cases c : (t (tN (nA N m)) s ρ).1 0 0 = 0
    · rw [if_pos c]
      exact ⟨okW.z.oF ha.1, fun g hg => ha.2 g (by omega)⟩
    · rw [if_neg c]
      have hb := ht' _ ob _ (t (tN (nA N m)) s ρ).2 ((ha.1 0).ok c)
      exact ⟨(okW.z.oF ha.1).oA hb.1, fun g hg => (ha.2 g (by omega)).tr (hb.2 g (by omega))⟩
  · rw [if_neg (by omega), if_neg (by omega), if_pos s2]
    intro s ρ hs
    have key : ∀ x, nS x m → ∀ (k : Int32) (p : rW × rD), okW p.1 → okW (chooseR (t (tN x)) s (tN (nA N m)) k p).1 ∧ ∀ g, m + 1 ≤ g → rAt g (chooseR (t (tN x)) s (tN (nA N m)) k p).2 p.2 := by
      intro x hx k p hp
      unfold chooseR
      by_cases c : s (tN (nA N m)) &&& k = 0
      · rw [if_pos c]; exact ⟨hp, fun _ _ => rAt.rf⟩
      · rw [if_neg c]
        have := ht' _ hx (upd s (tN (nA N m)) (s (tN (nA N m)) &&& k)) p.2 (hs.up c (by rw [and_sw, (hs _).2]))
        exact ⟨hp.oA this.1, fun g hg => this.2 g (by omega)⟩
    unfold choiceR
    have k1 := key _ oc (kTab 1 (nB N m)) (rZW, ρ) okW.z
    have k2 := key _ od (kTab 1 (nB N m) ^^^ (-1)) _ k1.1
    exact ⟨k2.1, fun g hg => (k1.2 g hg).tr (k2.2 g hg)⟩
  · rw [if_neg (by omega), if_neg (by omega), if_neg (by omega)]
    intro s ρ hs
    have ha := ht' _ oa s ρ hs
    have hh : okW (handR (t (tN (nC N m))) (nB N m) (nC N m) (t (tN (nA N m)) s ρ).1 (bodR m (t (tN (nA N m)) s ρ).1 (t (tN (nA N m)) s ρ).2)).1 ∧ ∀ g, m + 1 ≤ g → rAt g (handR (t (tN (nC N m))) (nB N m) (nC N m) (t (tN (nA N m)) s ρ).1 (bodR m (t (tN (nA N m)) s ρ).1 (t (tN (nA N m)) s ρ).2)).2 ρ := by
      unfold handR
      by_cases c : tkN (nB N m) (t (tN (nA N m)) s ρ).1 9 0 = 0 ∨ ¬ 0 ≤ nC N m
      · rw [if_pos c]
        exact ⟨(hdW_ok ha.1).oj (tkN_wf ha.1 9), fun g hg => (ha.2 g (by omega)).tr (rAt.bod (by omega))⟩
      · rw [if_neg c]
        have c1 : ¬ tkN (nB N m) (t (tN (nA N m)) s ρ).1 9 0 = 0 := fun e => c (Or.inl e)
        have c2 : 0 ≤ nC N m := by
          by_cases e : 0 ≤ nC N m
          · exact e
          · exact absurd (Or.inr e) c
        have hc := ht' _ (ge0_nS oc c2) _ (bodR m (t (tN (nA N m)) s ρ).1 (t (tN (nA N m)) s ρ).2) ((tkN_wf (b := nB N m) ha.1 9).ok c1)
        exact ⟨(hdW_ok ha.1).oA hc.1, fun g hg => ((ha.2 g (by omega)).tr (rAt.bod (by omega))).tr (hc.2 g (by omega))⟩
    unfold guardR
    by_cases d0 : 0 ≤ nD N m
    · rw [if_pos d0]
      have := lastN_ok (ht' _ (ge0_nS od d0)) (Nat.le_refl m) hh.1 9 0 (rZW, (handR (t (tN (nC N m))) (nB N m) (nC N m) (t (tN (nA N m)) s ρ).1 (bodR m (t (tN (nA N m)) s ρ).1 (t (tN (nA N m)) s ρ).2)).2) okW.z
      exact ⟨this.1, fun g hg => (hh.2 g hg).tr (this.2 g hg)⟩
    · rw [if_neg d0]
      exact ⟨okW.z.oA hh.1, hh.2⟩
theorem thrN_ok {N : nT} {cnt : Nat} (hN : ∀ m, m < cnt → nOk N m) (hc : cnt ≤ 80) : ∀ k m, m < cnt → tOk (m + 1) (thrN N k m)
  | 0, m, hm => fun s ρ hs => ⟨okW.z, fun _ _ => rAt.rf⟩
  | k + 1, m, hm => by
    have := findR_ok (hN m hm) (by omega) (fun c hc' => thrN_ok hN hc k c (by omega))
    intro s ρ hs
    have r := this s (enterR m s ρ) hs
    refine ⟨r.1, fun g hg => ?_⟩
    have e := (rAt.ent (m := m) (g := g) (s := s) (ρ := ρ) (by omega)).tr (r.2 g hg)
    unfold thrN leaveR
    exact ⟨e.1, by show upd _ _ _ _ = _; simp only [upd]; rw [if_neg (by omega)]; exact e.2.1, e.2.2.1, e.2.2.2⟩
