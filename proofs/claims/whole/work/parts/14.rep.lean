/-! THE MEMORY, TYPED: a shape (what stands at an address: a row by its tag and length, an object by its class' number and fields, none: a number, some r: a reference), and what is in it: numbers of objects, rows of ints, of longs, of references. -/
abbrev sS : Type := Nat → Option ((Nat × Nat) ⊕ (Nat × List (Option (Option Nat))))
abbrev sD : Type := (Nat → Nat → Int32) × (Nat → Nat → Int32) × (Nat → Nat → Int64) × (Nat → Nat → Option Nat)
def s_f (O : Nat → Int32) : Nat → List (Option (Option Nat)) → List Value
  | _, [] => []
  | k, none :: l => .int (O k) :: s_f O (k + 1) l
  | k, some r :: l => va_rf r :: s_f O (k + 1) l
theorem s_f_get (O : Nat → Int32) : ∀ (l : List (Option (Option Nat))) (j k : Nat), (s_f O j l)[k]? = (l[k]?).map (fun f => match f with | none => Value.int (O (j + k)) | some r => va_rf r)
  | [], j, k => by simp [s_f]
  | none :: l, j, 0 => by simp [s_f]
  | some r :: l, j, 0 => by simp [s_f]
  | none :: l, j, k + 1 => by simp only [s_f, List.getElem?_cons_succ]; rw [s_f_get O l (j + 1) k]; congr 2; funext f; rw [show j + 1 + k = j + (k + 1) by omega]
  | some r :: l, j, k + 1 => by simp only [s_f, List.getElem?_cons_succ]; rw [s_f_get O l (j + 1) k]; congr 2; funext f; rw [show j + 1 + k = j + (k + 1) by omega]
theorem s_f_len (O : Nat → Int32) : ∀ (l : List (Option (Option Nat))) (j : Nat), (s_f O j l).length = l.length
  | [], j => rfl
  | none :: l, j => by simp [s_f, s_f_len O l (j + 1)]
  | some r :: l, j => by simp [s_f, s_f_len O l (j + 1)]
theorem s_f_set (O : Nat → Int32) (v : Int32) : ∀ (l : List (Option (Option Nat))) (j k : Nat), l[k]? = some none → (s_f O j l).set k (.int v) = s_f (upd O (j + k) v) j l
  | [], j, k, h => by simp at h
  | none :: l, j, 0, h => by
    have e : ∀ (m : List (Option (Option Nat))) (i : Nat), j < i → s_f (upd O j v) i m = s_f O i m := by
      intro m
      induction m with
      | nil => intro i _; rfl
      | cons f m ih =>
        intro i hi
        cases f with
        | none => simp only [s_f]; rw [ih (i + 1) (by omega)]; simp [upd, show i ≠ j by omega]
        | some r => simp only [s_f]; rw [ih (i + 1) (by omega)]
    simp only [s_f, List.set_cons_zero, Nat.add_zero]
    rw [e l (j + 1) (by omega)]
    simp [upd]
  | some r :: l, j, 0, h => by simp at h
  | none :: l, j, k + 1, h => by
    simp only [s_f, List.set_cons_succ]
    rw [s_f_set O v l (j + 1) k (by simpa using h)]
    rw [show j + 1 + k = j + (k + 1) by omega]
    simp [upd, show j ≠ j + (k + 1) by omega]
  | some r :: l, j, k + 1, h => by
    simp only [s_f, List.set_cons_succ]
    rw [s_f_set O v l (j + 1) k (by simpa using h)]
    rw [show j + 1 + k = j + (k + 1) by omega]
def s_c (D : sD) (a : Nat) (s : (Nat × Nat) ⊕ (Nat × List (Option (Option Nat)))) : aC := match s with
  | .inl (t, n) => .inl (t, n, match t with | 0 => .inl (D.2.1 a) | 1 => .inr (.inl (D.2.2.1 a)) | 2 => .inl (D.2.1 a) | _ => .inr (.inr (.inr (.inr (D.2.2.2 a)))))
  | .inr (ci, l) => .inr (ci, s_f (D.1 a) 0 l)
/-- the heap h has n for its next address, and holds D in the shape S -/
def HR (n : Nat) (S : sS) (D : sD) (h : aH) : Prop := h.1 = n ∧ ∀ a s, S a = some s → h.2 a = some (s_c D a s)
def uO (D : sD) (a k : Nat) (v : Int32) : sD := (va_up D.1 a (upd (D.1 a) k v), D.2)
def uF (D : sD) (a : Nat) (f : Nat → Int32) : sD := (D.1, va_up D.2.1 a f, D.2.2)
def uB (D : sD) (a : Nat) (f : Nat → Int64) : sD := (D.1, D.2.1, va_up D.2.2.1 a f, D.2.2.2)
def uP (D : sD) (a : Nat) (f : Nat → Option Nat) : sD := (D.1, D.2.1, D.2.2.1, va_up D.2.2.2 a f)
section HRS
variable {n : Nat} {S : sS} {D : sD} {h : aH} {a : Nat}
theorem R_I {ci k : Nat} {fl : List (Option (Option Nat))} {K : Int32 → Prop} (R : HR n S D h) (hs : S a = some (.inr (ci, fl))) (hk : fl[k]? = some none) (hK : K (D.1 a k)) : rI h a ci k K := ⟨_, _, R.2 a _ hs, by rw [s_f_get, hk]; simp only [Option.map_some, Nat.zero_add], hK⟩
theorem R_R {ci k b : Nat} {fl : List (Option (Option Nat))} {K : Nat → Prop} (R : HR n S D h) (hs : S a = some (.inr (ci, fl))) (hk : fl[k]? = some (some (some b))) (hK : K b) : rR h a ci k K := ⟨_, _, R.2 a _ hs, by rw [s_f_get, hk]; rfl, hK⟩
theorem R_Q {ci k : Nat} {r : Option Nat} {fl : List (Option (Option Nat))} {K : Option Nat → Prop} (R : HR n S D h) (hs : S a = some (.inr (ci, fl))) (hk : fl[k]? = some (some r)) (hK : K r) : rQ h a ci k K := ⟨_, _, R.2 a _ hs, by rw [s_f_get, hk]; rfl, hK⟩
theorem R_IN {ci k : Nat} {fl : List (Option (Option Nat))} {K : Int32 → Prop} (R : HR n S D h) (hs : S a = some (.inr (ci, fl))) (hc : ci < 4) (hk : fl[k]? = some none) (hK : K (D.1 a k)) : rIN h a k K := ⟨ci, _, _, hc, R.2 a _ hs, by rw [s_f_get, hk]; simp only [Option.map_some, Nat.zero_add], hK⟩
theorem R_RN {ci k b : Nat} {fl : List (Option (Option Nat))} {K : Nat → Prop} (R : HR n S D h) (hs : S a = some (.inr (ci, fl))) (hc : ci < 4) (hk : fl[k]? = some (some (some b))) (hK : K b) : rRN h a k K := ⟨ci, _, _, hc, R.2 a _ hs, by rw [s_f_get, hk]; rfl, hK⟩
theorem R_O {ci : Nat} {fl : List (Option (Option Nat))} {K : Prop} (R : HR n S D h) (hs : S a = some (.inr (ci, fl))) (hK : K) : isO h a ci K := ⟨_, R.2 a _ hs, hK⟩
theorem R_N {ci : Nat} {fl : List (Option (Option Nat))} {K : Nat → Prop} (R : HR n S D h) (hs : S a = some (.inr (ci, fl))) (hc : ci < 4) (hK : K ci) : isN h a K := ⟨ci, _, hc, R.2 a _ hs, hK⟩
theorem R_aI {m : Nat} {i : Int32} {K : Int32 → Prop} (R : HR n S D h) (hs : S a = some (.inl (0, m))) (hi : vp_in i m) (hK : K (D.2.1 a i.toNatClampNeg)) : aI h a i K := ⟨_, _, _, R.2 a _ hs, hi, rfl, hK⟩
theorem R_aZ {m : Nat} {i : Int32} {K : Int32 → Prop} (R : HR n S D h) (hs : S a = some (.inl (2, m))) (hi : vp_in i m) (hK : K (D.2.1 a i.toNatClampNeg)) : aZ h a i K := ⟨_, _, _, R.2 a _ hs, hi, rfl, hK⟩
theorem R_aL {m : Nat} {i : Int32} {K : Int64 → Prop} (R : HR n S D h) (hs : S a = some (.inl (1, m))) (hi : vp_in i m) (hK : K (D.2.2.1 a i.toNatClampNeg)) : aL h a i K := ⟨_, _, _, R.2 a _ hs, hi, rfl, hK⟩
theorem R_aR3 {m b : Nat} {i : Int32} {K : Nat → Prop} (R : HR n S D h) (hs : S a = some (.inl (3, m))) (hi : vp_in i m) (hb : D.2.2.2 a i.toNatClampNeg = some b) (hK : K b) : aR h 3 a i K := ⟨_, _, _, R.2 a _ hs, hi, hb, hK⟩
theorem R_aR4 {m b : Nat} {i : Int32} {K : Nat → Prop} (R : HR n S D h) (hs : S a = some (.inl (4, m))) (hi : vp_in i m) (hb : D.2.2.2 a i.toNatClampNeg = some b) (hK : K b) : aR h 4 a i K := ⟨_, _, _, R.2 a _ hs, hi, hb, hK⟩
theorem R_len {t m : Nat} {K : Int32 → Prop} (R : HR n S D h) (hs : S a = some (.inl (t, m))) (ht : t < 5) (hK : K (Int32.ofNat m)) : lnA h a K := ⟨t, _, ht, R.2 a _ hs, hK⟩
theorem HR.put {D1 : sD} {c : aC} (R : HR n S D h) {s : (Nat × Nat) ⊕ (Nat × List (Option (Option Nat)))} (hs : S a = some s) (hc : c = s_c D1 a s) (hD : ∀ b s, b ≠ a → s_c D1 b s = s_c D b s) : HR n S D1 (a_up h a c) := by
  refine ⟨R.1, fun b z hz => ?_⟩
  by_cases e : b = a
  · subst e
    cases hs.symm.trans hz
    simp [a_up, va_up, hc]
  · show (va_up h.2 a (some c)) b = _
    simp only [va_up, if_neg e]
    rw [hD b z e]
    exact R.2 b z hz
theorem s_cO {D : sD} {a b k : Nat} {v : Int32} {s : (Nat × Nat) ⊕ (Nat × List (Option (Option Nat)))} (hb : b ≠ a) : s_c (uO D a k v) b s = s_c D b s := by
  rcases s with ⟨t, m⟩ | ⟨ci, l⟩
  · rfl
  · simp [s_c, uO, va_up, hb]
theorem s_cF {D : sD} {a b : Nat} {f : Nat → Int32} {s : (Nat × Nat) ⊕ (Nat × List (Option (Option Nat)))} (hb : b ≠ a) : s_c (uF D a f) b s = s_c D b s := by
  rcases s with ⟨t, m⟩ | ⟨ci, l⟩
  · simp [s_c, uF, va_up, hb]
  · rfl
theorem s_cB {D : sD} {a b : Nat} {f : Nat → Int64} {s : (Nat × Nat) ⊕ (Nat × List (Option (Option Nat)))} (hb : b ≠ a) : s_c (uB D a f) b s = s_c D b s := by
  rcases s with ⟨t, m⟩ | ⟨ci, l⟩
  · simp [s_c, uB, va_up, hb]
  · rfl
theorem s_cP {D : sD} {a b : Nat} {f : Nat → Option Nat} {s : (Nat × Nat) ⊕ (Nat × List (Option (Option Nat)))} (hb : b ≠ a) : s_c (uP D a f) b s = s_c D b s := by
  rcases s with ⟨t, m⟩ | ⟨ci, l⟩
  · simp [s_c, uP, va_up, hb]
  · rfl
theorem R_wF {ci k : Nat} {v : Int32} {fl : List (Option (Option Nat))} {K : aH → Prop} (R : HR n S D h) (hs : S a = some (.inr (ci, fl))) (hk : fl[k]? = some none) (hK : ∀ h', HR n S (uO D a k v) h' → K h') : wF h a ci k (.int v) K := by
  refine ⟨_, R.2 a _ hs, by rw [s_f_len]; exact (List.getElem?_eq_some_iff.mp hk).1, hK _ (R.put hs ?_ (fun b s hb => s_cO hb))⟩
  simp only [s_c]
  rw [s_f_set _ _ _ _ _ hk, Nat.zero_add]
  simp [uO, va_up]
theorem R_wFN {ci k : Nat} {v : Int32} {fl : List (Option (Option Nat))} {K : aH → Prop} (R : HR n S D h) (hs : S a = some (.inr (ci, fl))) (hc : ci < 4) (hk : fl[k]? = some none) (hK : ∀ h', HR n S (uO D a k v) h' → K h') : wFN h a k (.int v) K := by
  refine ⟨ci, _, hc, R.2 a _ hs, by rw [s_f_len]; exact (List.getElem?_eq_some_iff.mp hk).1, hK _ (R.put hs ?_ (fun b s hb => s_cO hb))⟩
  simp only [s_c]
  rw [s_f_set _ _ _ _ _ hk, Nat.zero_add]
  simp [uO, va_up]
theorem R_sI {m : Nat} {i x : Int32} {K : aH → Prop} (R : HR n S D h) (hs : S a = some (.inl (0, m))) (hi : vp_in i m) (hK : ∀ h', HR n S (uF D a (upd (D.2.1 a) i.toNatClampNeg x)) h' → K h') : sI h a i x K :=
  ⟨_, _, R.2 a _ hs, hi, hK _ (R.put hs (by simp [s_c, uF, va_up]) (fun b s hb => s_cF hb))⟩
theorem R_sZ {m : Nat} {i x : Int32} {K : aH → Prop} (R : HR n S D h) (hs : S a = some (.inl (2, m))) (hi : vp_in i m) (hK : ∀ h', HR n S (uF D a (upd (D.2.1 a) i.toNatClampNeg (vp_nar .boolean x))) h' → K h') : sZ h a i x K :=
  ⟨_, _, R.2 a _ hs, hi, hK _ (R.put hs (by simp [s_c, uF, va_up]) (fun b s hb => s_cF hb))⟩
theorem R_sL {m : Nat} {i : Int32} {x : Int64} {K : aH → Prop} (R : HR n S D h) (hs : S a = some (.inl (1, m))) (hi : vp_in i m) (hK : ∀ h', HR n S (uB D a (vp_updL (D.2.2.1 a) i.toNatClampNeg x)) h' → K h') : sL h a i x K :=
  ⟨_, _, R.2 a _ hs, hi, hK _ (R.put hs (by simp [s_c, uB, va_up]) (fun b s hb => s_cB hb))⟩
theorem R_sN {m : Nat} {i : Int32} {K : aH → Prop} (R : HR n S D h) (hs : S a = some (.inl (3, m))) (hi : vp_in i m) (hK : ∀ h', HR n S (uP D a (va_up (D.2.2.2 a) i.toNatClampNeg none)) h' → K h') : sN h 3 a i K :=
  ⟨_, _, R.2 a _ hs, hi, hK _ (R.put hs (by simp [s_c, uP, va_up]) (fun b s hb => s_cP hb))⟩
theorem R_sR {m b ci : Nat} {i : Int32} {fl : List (Option (Option Nat))} {K : aH → Prop} (R : HR n S D h) (hs : S a = some (.inl (3, m))) (hi : vp_in i m) (hb : S b = some (.inr (ci, fl))) (hc : ci < 4) (hK : ∀ h', HR n S (uP D a (va_up (D.2.2.2 a) i.toNatClampNeg (some b))) h' → K h') : sR h 3 a i b (fun ci => ci < 4) K :=
  ⟨_, _, _, _, R.2 a _ hs, hi, R.2 b _ hb, hc, hK _ (R.put hs (by simp [s_c, uP, va_up]) (fun b s hb => s_cP hb))⟩
theorem R_cpI {a0 m0 m1 : Nat} {sp dp k : Int32} {K : aH → Prop} (R : HR n S D h) (h0 : S a0 = some (.inl (0, m0))) (h1 : S a = some (.inl (0, m1))) (g1 : ¬ sp < 0) (g2 : ¬ dp < 0) (g3 : ¬ k < 0) (g4 : sp.toNatClampNeg + k.toNatClampNeg ≤ m0) (g5 : dp.toNatClampNeg + k.toNatClampNeg ≤ m1) (hK : ∀ h', HR n S (uF D a (va_cpy (D.2.1 a0) (D.2.1 a) sp.toNatClampNeg dp.toNatClampNeg k.toNatClampNeg)) h' → K h') : cpI h a0 sp a dp k K :=
  ⟨_, _, _, _, R.2 a0 _ h0, R.2 a _ h1, g1, g2, g3, g4, g5, hK _ (R.put h1 (by simp [s_c, uF, va_up]) (fun b s hb => s_cF hb))⟩
theorem R_cpL {a0 m0 m1 : Nat} {sp dp k : Int32} {K : aH → Prop} (R : HR n S D h) (h0 : S a0 = some (.inl (1, m0))) (h1 : S a = some (.inl (1, m1))) (g1 : ¬ sp < 0) (g2 : ¬ dp < 0) (g3 : ¬ k < 0) (g4 : sp.toNatClampNeg + k.toNatClampNeg ≤ m0) (g5 : dp.toNatClampNeg + k.toNatClampNeg ≤ m1) (hK : ∀ h', HR n S (uB D a (va_cpy (D.2.2.1 a0) (D.2.2.1 a) sp.toNatClampNeg dp.toNatClampNeg k.toNatClampNeg)) h' → K h') : cpL h a0 sp a dp k K :=
  ⟨_, _, _, _, R.2 a0 _ h0, R.2 a _ h1, g1, g2, g3, g4, g5, hK _ (R.put h1 (by simp [s_c, uB, va_up]) (fun b s hb => s_cB hb))⟩
end HRS
