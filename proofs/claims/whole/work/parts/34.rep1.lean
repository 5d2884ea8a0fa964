/-! bits of ints -/
theorem i32_ext {x y : Int32} (h : ∀ i, i < 32 → x.toBitVec.getLsbD i = y.toBitVec.getLsbD i) : x = y := Int32.toBitVec_inj.mp (BitVec.eq_of_getLsbD_eq (fun i hi => h i hi))
theorem bt_and (x y : Int32) (i : Nat) : (x &&& y).toBitVec.getLsbD i = (x.toBitVec.getLsbD i && y.toBitVec.getLsbD i) := by rw [Int32.toBitVec_and, BitVec.getLsbD_and]
theorem bt_or (x y : Int32) (i : Nat) : (x ||| y).toBitVec.getLsbD i = (x.toBitVec.getLsbD i || y.toBitVec.getLsbD i) := by rw [Int32.toBitVec_or, BitVec.getLsbD_or]
theorem bt_not (x : Int32) {i : Nat} (hi : i < 32) : (x ^^^ (-1)).toBitVec.getLsbD i = !x.toBitVec.getLsbD i := by
  rw [Int32.toBitVec_xor, BitVec.getLsbD_xor]
  have : (-1 : Int32).toBitVec = BitVec.allOnes 32 := by decide
  rw [this, BitVec.getLsbD_allOnes]
  simp [hi]
theorem or_abs (x y : Int32) : (x ||| y) &&& x = x := by
  apply i32_ext; intro i hi; simp only [bt_and, bt_or]; cases x.toBitVec.getLsbD i <;> cases y.toBitVec.getLsbD i <;> rfl
theorem or_ne0 {x y : Int32} (h : ¬ x = 0) : ¬ x ||| y = 0 := fun e => h (by rw [← or_abs x y, e, Int32.zero_and])
theorem or_0 (x : Int32) : x ||| 0 = x := Int32.or_zero
theorem z_or (x : Int32) : (0 : Int32) ||| x = x := Int32.zero_or
theorem or_and (x y m : Int32) : (x ||| y) &&& m = (x &&& m) ||| (y &&& m) := by
  apply i32_ext; intro i hi; simp only [bt_and, bt_or]; cases x.toBitVec.getLsbD i <;> cases y.toBitVec.getLsbD i <;> cases m.toBitVec.getLsbD i <;> rfl
theorem and_sw (x y m : Int32) : (x &&& y) &&& m = (x &&& m) &&& y := by
  apply i32_ext; intro i hi; simp only [bt_and]; cases x.toBitVec.getLsbD i <;> cases y.toBitVec.getLsbD i <;> cases m.toBitVec.getLsbD i <;> rfl
theorem keep_not (x n : Int32) : x &&& ((x &&& (n ^^^ (-1))) ^^^ (-1)) = x &&& n := by
  apply i32_ext; intro i hi; simp only [bt_and, bt_not _ hi]; cases x.toBitVec.getLsbD i <;> cases n.toBitVec.getLsbD i <;> rfl
theorem keep_all {x n : Int32} (h : x &&& (n ^^^ (-1)) = 0) : x &&& n = x := by
  have := keep_not x n
  rw [h] at this
  rw [← this]
  apply i32_ext; intro i hi; simp only [bt_and, bt_not _ hi]
  have z : (0 : Int32).toBitVec.getLsbD i = false := by
    have : (0 : Int32).toBitVec = 0#32 := rfl
    rw [this]; simp
  rw [z]; cases x.toBitVec.getLsbD i <;> rfl
/-! REPORTS: a STATE has a set for each slot, the WAYS a STATE for each way -/
abbrev rS : Type := Nat → Int32
abbrev rW : Type := Nat → Nat → Int32
def rZ : rS := fun _ => 0
def rZW : rW := fun _ _ => 0
def jn (W : rW) (f : Nat) (L : rS) : rW := fun g i => if g = f then W g i ||| L i else W g i
def kp (L : rS) (s : Nat) (k : Int32) : rS := if L s &&& k = 0 then rZ else upd L s (L s &&& k)
def jnA (W V : rW) : rW := fun g i => W g i ||| V g i
def jnF (W V : rW) : rW := fun g i => if g = 0 then W g i else W g i ||| V g i
def bitsN (W : rW) : Nat → Nat → Int32 → Int32
  | 0, _, b => b
  | j + 1, f, b => bitsN W j (f + 1) (if W f 0 = 0 then b else b ||| (1 <<< (nI f &&& 31)))
def bits (W : rW) : Int32 := bitsN W 9 0 0
theorem bitsN_or (W : rW) (c : Int32) : ∀ j f b, bitsN W j f (c ||| b) = c ||| bitsN W j f b
  | 0, f, b => rfl
  | j + 1, f, b => by
    unfold bitsN
    split
    · exact bitsN_or W c j (f + 1) b
    · rw [Int32.or_assoc]; exact bitsN_or W c j (f + 1) _
theorem bits_or (W : rW) (c : Int32) : bitsN W 9 0 c = c ||| bits W := by
  have := bitsN_or W c 9 0 0
  rw [or_0] at this
  exact this
def okS (s : rS) : Prop := ∀ i, ¬ s i = 0 ∧ s i &&& 1023 = s i
def wfS (s : rS) : Prop := okS s ∨ s = rZ
def okW (W : rW) : Prop := ∀ f, wfS (W f)
theorem okS.or {s t : rS} (h : okS s) (h' : wfS t) : okS (fun i => s i ||| t i) := by
  intro i
  refine ⟨or_ne0 (h i).1, ?_⟩
  rw [or_and, (h i).2]
  rcases h' with h' | rfl
  · rw [(h' i).2]
  · show _ ||| ((0 : Int32) &&& 1023) = _ ||| (0 : Int32)
    rw [Int32.zero_and]
theorem wfS.or {s t : rS} (h : wfS s) (h' : wfS t) : wfS (fun i => s i ||| t i) := by
  rcases h with h | rfl
  · exact Or.inl (h.or h')
  · have : (fun i => rZ i ||| t i) = t := by funext i; exact z_or _
    rw [this]; exact h'
theorem wfS.z : wfS rZ := Or.inr rfl
theorem wfS.ok {s : rS} (h : wfS s) {i : Nat} (h0 : ¬ s i = 0) : okS s := h.resolve_right fun e => h0 (by rw [e]; rfl)
theorem wfS.zero {s : rS} (h : wfS s) {i : Nat} (h0 : s i = 0) : s = rZ := h.resolve_left fun e => (e i).1 h0
theorem okW.z : okW rZW := fun _ => Or.inr rfl
theorem okW.oj {W : rW} {f : Nat} {L : rS} (h : okW W) (h' : wfS L) : okW (jn W f L) := by
  intro g
  by_cases e : g = f
  · have : jn W f L g = fun i => W g i ||| L i := by funext i; unfold jn; rw [if_pos e]
    rw [this]; exact (h g).or h'
  · have : jn W f L g = W g := by funext i; unfold jn; rw [if_neg e]
    rw [this]; exact h g
theorem okW.oA {W V : rW} (h : okW W) (h' : okW V) : okW (jnA W V) := fun g => (h g).or (h' g)
theorem okW.oF {W V : rW} (h : okW W) (h' : okW V) : okW (jnF W V) := by
  intro g
  by_cases e : g = 0
  · have : jnF W V g = W g := by funext i; unfold jnF; rw [if_pos e]
    rw [this]; exact h g
  · have : jnF W V g = fun i => W g i ||| V g i := by funext i; unfold jnF; rw [if_neg e]
    rw [this]; exact (h g).or (h' g)
theorem jn_z (W : rW) (f : Nat) : jn W f rZ = W := by
  funext g i; unfold jn; split
  · exact or_0 _
  · rfl
theorem okS.up {s : rS} (h : okS s) {k : Nat} {x : Int32} (h1 : ¬ x = 0) (h2 : x &&& 1023 = x) : okS (upd s k x) := by
  intro i
  unfold upd
  split
  · exact ⟨h1, h2⟩
  · exact h i
theorem wfS.wk {s : rS} (h : wfS s) {k : Nat} {x : Int32} : wfS (kp s k x) := by
  unfold kp
  split
  · exact Or.inr rfl
  · rename_i c
    rcases h with h | rfl
    · exact Or.inl (h.up c (by rw [and_sw, (h k).2]))
    · exact absurd (show (0 : Int32) &&& x = 0 from Int32.zero_and) c
theorem kp_z (k : Nat) (x : Int32) : kp rZ k x = rZ := by
  unfold kp; rw [if_pos]; exact Int32.zero_and
/-- the ACTS' questions: (what is left, the ways) -/
abbrev rP : Type := rS × rW
def pMay (f : Nat) (p : rP) : rP := (p.1, jn p.2 f p.1)
def pMust (f : Nat) (p : rP) : rP := (rZ, jn p.2 f p.1)
def pFor (f s : Nat) (k : Int32) (p : rP) : rP := if p.1 s &&& k = 0 then p else (kp p.1 s ((p.1 s &&& k) ^^^ (-1)), jn p.2 f (upd p.1 s (p.1 s &&& k)))
def pNew (a : Nat) (x : Int32) (p : rP) : rP := if p.1 0 = 0 then p else (upd p.1 a x, p.2)
def pKeep (s : Nat) (k : Int32) (p : rP) : rP := (kp p.1 s k, p.2)
def pAs (s : Nat) (k : Int32) (p : rP) : rP := pFor 2 s ((kTab 1 k ||| 1) ^^^ (-1)) p
def pSome (s : Nat) (k : Int32) (p : rP) : rP := pFor 1 s 1 (pAs s k p)
def pAsk (w : Int32) (a : Nat) (x : Int32) (p : rP) : rP := pNew a x (pMay 8 (if w = 0 then p else pMust 4 p))
def pLays (a d : Nat) (p : rP) : rP :=
  (fun q => if p.1 a = 128 then pKeep d (256 ^^^ (-1)) q else q) (if p.1 d = 256 then pKeep a (128 ^^^ (-1)) p else p)
def pLay0 (a : Nat) (b : Int32) (d : Nat) (p : rP) : rP := pMay 3 (pFor 1 a 1 (pAs d (kTab 4 b) (pAs a b p)))
def pLay (a : Nat) (b : Int32) (d : Nat) (p : rP) : rP :=
  if kHas ((pLay0 a b d p).1 a) 7 = 0 then pLay0 a b d p else if kHas ((pLay0 a b d p).1 d) 8 = 0 then pLay0 a b d p else pLays a d (pMay 5 (pLay0 a b d p))
def pCopy1 (a c : Nat) (p : rP) : rP := if kHas (p.1 a) 0 = 0 ∧ kHas (p.1 c) 0 = 0 then p else pKeep c (-2) (pKeep a (-2) (pMay 1 p))
def pCopy2 (a c : Nat) (p : rP) : rP := if kStore (p.1 a) (p.1 c) = 0 then p else pMay 5 p
def pCopy3 (a c : Nat) (x y : Int32) (p : rP) : rP := pMay 3 (pKeep c (kMeeting y x) (pKeep a (kMeeting x y) p))
def pCopy (a c : Nat) (p : rP) : rP := pCopy3 a c ((pCopy1 a c p).1 a) ((pCopy1 a c p).1 c) (pCopy2 a c (pCopy1 a c p))
def pMove (a b : Nat) (c : Int32) (p : rP) : rP := (fun q : rP => pNew a (q.1 b) q) (if c = 0 then p else pAs b c p)
def pTake (a b : Nat) (c : Int32) (p : rP) : rP := (fun q : rP => pNew a (if c = 5 then 3 else if kHas (q.1 b) 6 = 0 then 513 else 769) q) (pMay 3 (pSome b c p))
def pEnd (p : rP) : rW := jn p.2 0 p.1
def ngB (x : Int32) : Int32 := if 0 ≤ x then 0 else 1
def fwP (op : Nat) (a b c d : Int32) (p : rP) : rP := match op with
  | 0 => pAsk (ngB c) (tN a) (1 <<< (b &&& 31)) p
  | 1 => pAsk (if b < 0 then 1 else ngB c) (tN a) 32 p
  | 2 => pAsk (ngB b) (tN a) 32 p
  | 3 => pAsk 0 (tN a) (if b = 0 then 256 else 512) p
  | 4 => pMove (tN a) (tN b) c p
  | 5 => pMay 3 (pSome (tN b) c p)
  | 6 => pMay 3 (pSome (tN a) b p)
  | 7 => pTake (tN a) (tN b) c p
  | 8 => pLay (tN a) b (tN d) p
  | 9 => pSome (tN b) c p
  | 10 => pAsk 0 (tN a) 2 (pSome (tN b) 1 p)
  | 11 => pSome (tN b) 8 p
  | 12 => pCopy (tN a) (tN c) p
  | 15 => pMay 6 p
  | 16 => pMay 6 p
  | 17 => pMust 7 p
  | _ => p
def fwS (op : Nat) (a b c d : Int32) (s : rS) : rW := pEnd (fwP op a b c d (s, rZW))
def pOk (p : rP) : Prop := wfS p.1 ∧ okW p.2
theorem pOk.may {p : rP} (h : pOk p) {f : Nat} : pOk (pMay f p) := ⟨h.1, h.2.oj h.1⟩
theorem pOk.must {p : rP} (h : pOk p) {f : Nat} : pOk (pMust f p) := ⟨wfS.z, h.2.oj h.1⟩
theorem pOk.keep {p : rP} (h : pOk p) {s : Nat} {k : Int32} : pOk (pKeep s k p) := ⟨h.1.wk, h.2⟩
theorem pOk.for {p : rP} (h : pOk p) {f s : Nat} {k : Int32} : pOk (pFor f s k p) := by
  unfold pFor
  split
  · exact h
  · rename_i c
    refine ⟨h.1.wk, h.2.oj ?_⟩
    have : okS p.1 := h.1.ok (i := s) fun e => c (by rw [e, Int32.zero_and])
    exact Or.inl (this.up c (by rw [and_sw, (this s).2]))
theorem pOk.new {p : rP} (h : pOk p) {a : Nat} {x : Int32} (h1 : okS p.1 → ¬ x = 0 ∧ x &&& 1023 = x) : pOk (pNew a x p) := by
  unfold pNew
  split
  · exact h
  · rename_i c
    have := h.1.ok (i := 0) c
    exact ⟨Or.inl (this.up (h1 this).1 (h1 this).2), h.2⟩
theorem pOk.as {p : rP} (h : pOk p) {s : Nat} {k : Int32} : pOk (pAs s k p) := h.for
theorem pOk.some {p : rP} (h : pOk p) {s : Nat} {k : Int32} : pOk (pSome s k p) := h.as.for
theorem pOk.ask {p : rP} (h : pOk p) {w : Int32} {a : Nat} {x : Int32} (h1 : ¬ x = 0 ∧ x &&& 1023 = x) : pOk (pAsk w a x p) := by
  unfold pAsk
  refine pOk.new (pOk.may ?_) (fun _ => h1)
  split
  · exact h
  · exact h.must
theorem fwP_ok {op : Nat} {a b c d : Int32} (ok : actOk op a b c d) {p : rP} (h : pOk p) : pOk (fwP op a b c d p) := by
  unfold fwP
  split
  · obtain ⟨-, hb⟩ := ok
    refine h.ask ?_
    rcases hb with rfl | rfl | rfl | rfl | rfl | rfl <;> decide
  · exact h.ask (by decide)
  · exact h.ask (by decide)
  · refine h.ask ?_
    split <;> decide
  · unfold pMove
    have : pOk (if c = 0 then p else pAs (tN b) c p) := by
      split
      · exact h
      · exact h.as
    exact this.new (fun o => o _)
  · exact h.some.may
  · exact h.some.may
  · unfold pTake
    refine h.some.may.new (fun _ => ?_)
    split
    · decide
    · split <;> decide
  · unfold pLay
    have h0 : pOk (pLay0 (tN a) b (tN d) p) := h.as.as.for.may
    split
    · exact h0
    · split
      · exact h0
      · unfold pLays
        have h1 : pOk (pMay 5 (pLay0 (tN a) b (tN d) p)) := h0.may
        generalize pMay 5 (pLay0 (tN a) b (tN d) p) = q at h1 ⊢
        have h2 : pOk (if q.1 (tN d) = 256 then pKeep (tN a) (128 ^^^ (-1)) q else q) := by
          split
          · exact h1.keep
          · exact h1
        show pOk (if q.1 (tN a) = 128 then _ else _)
        split
        · exact h2.keep
        · exact h2
  · exact h.some
  · exact h.some.ask (by decide)
  · exact h.some
  · unfold pCopy pCopy3 pCopy2 pCopy1
    have h1 : pOk (if kHas (p.1 (tN a)) 0 = 0 ∧ kHas (p.1 (tN c)) 0 = 0 then p else pKeep (tN c) (-2) (pKeep (tN a) (-2) (pMay 1 p))) := by
      split
      · exact h
      · exact h.may.keep.keep
    generalize (if kHas (p.1 (tN a)) 0 = 0 ∧ kHas (p.1 (tN c)) 0 = 0 then p else pKeep (tN c) (-2) (pKeep (tN a) (-2) (pMay 1 p))) = q at h1 ⊢
    refine pOk.may (pOk.keep (pOk.keep ?_))
    split
    · exact h1
    · exact h1.may
  · exact h.may
  · exact h.may
  · exact h.must
  · exact h
theorem fwS_ok {op : Nat} {a b c d : Int32} (ok : actOk op a b c d) {s : rS} (h : okS s) : okW (fwS op a b c d s) := by
  have := fwP_ok ok (p := (s, rZW)) ⟨Or.inl h, okW.z⟩
  exact this.2.oj this.1
