def FORMS_L : List Int32 := [4095, 222, (-1), (-1), 4095, (-1), (-1), (-1), 4095, (-1), (-1), (-1), 4095, (-1), (-1), (-1), 4095, 4095, 1023, (-1), 255, 4095, 30, (-1), 4095, 30, (-1), 255, 4095, 4095, 224, (-1), 4095, 224, (-1), 4095, 255, 4095, 254, (-1), 4095, 4095, (-1), (-1), 255, 4095, (-1), (-1), 4095, (-1), 4095, (-1), 255, (-1), (-1), (-1), 255, 255, 255, (-1), 255, 255, 255, (-1), 255, 255, 255, (-1), (-1), (-1), (-1), (-1)]
def ARE_L : List Int32 := [1, 2, 4, 8, 16, 32, 192, 128, 768, 512]
def MEET_L : List Int32 := [0, 2, 4, 8, 16, 224, 224, 224, 0, 0]
def TAKE_L : List Int32 := [0, 2, 4, 8, 16, 32, 64, 192, 0, 0]
def ITEMS_L : List Int32 := [0, 0, 0, 0, 0, 1, 8, 9, 0, 0]
/-! WHAT A METHOD'S BODY ASKS OF THE HEAP, in the order of its instructions: said with what goes on (K) -/
def rI (h : aH) (a ci k : Nat) (K : Int32 → Prop) : Prop := ∃ (fs : List Value) (x : Int32), h.2 a = some (.inr (ci, fs)) ∧ fs[k]? = some (.int x) ∧ K x
def rR (h : aH) (a ci k : Nat) (K : Nat → Prop) : Prop := ∃ (fs : List Value) (x : Nat), h.2 a = some (.inr (ci, fs)) ∧ fs[k]? = some (.ref x) ∧ K x
def rQ (h : aH) (a ci k : Nat) (K : Option Nat → Prop) : Prop := ∃ (fs : List Value) (x : Option Nat), h.2 a = some (.inr (ci, fs)) ∧ fs[k]? = some (va_rf x) ∧ K x
def rIN (h : aH) (a k : Nat) (K : Int32 → Prop) : Prop := ∃ (ci : Nat) (fs : List Value) (x : Int32), ci < 4 ∧ h.2 a = some (.inr (ci, fs)) ∧ fs[k]? = some (.int x) ∧ K x
def rRN (h : aH) (a k : Nat) (K : Nat → Prop) : Prop := ∃ (ci : Nat) (fs : List Value) (x : Nat), ci < 4 ∧ h.2 a = some (.inr (ci, fs)) ∧ fs[k]? = some (.ref x) ∧ K x
def wF (h : aH) (a ci k : Nat) (v : Value) (K : aH → Prop) : Prop := ∃ (fs : List Value), h.2 a = some (.inr (ci, fs)) ∧ k < fs.length ∧ K (a_up h a (.inr (ci, fs.set k v)))
def wFN (h : aH) (a k : Nat) (v : Value) (K : aH → Prop) : Prop := ∃ (ci : Nat) (fs : List Value), ci < 4 ∧ h.2 a = some (.inr (ci, fs)) ∧ k < fs.length ∧ K (a_up h a (.inr (ci, fs.set k v)))
def aI (h : aH) (a : Nat) (i : Int32) (K : Int32 → Prop) : Prop := ∃ (n : Nat) (u : Nat → Int32) (x : Int32), h.2 a = some (.inl (0, n, .inl u)) ∧ vp_in i n ∧ u i.toNatClampNeg = x ∧ K x
def aL (h : aH) (a : Nat) (i : Int32) (K : Int64 → Prop) : Prop := ∃ (n : Nat) (u : Nat → Int64) (x : Int64), h.2 a = some (.inl (1, n, .inr (.inl u))) ∧ vp_in i n ∧ u i.toNatClampNeg = x ∧ K x
def aZ (h : aH) (a : Nat) (i : Int32) (K : Int32 → Prop) : Prop := ∃ (n : Nat) (u : Nat → Int32) (x : Int32), h.2 a = some (.inl (2, n, .inl u)) ∧ vp_in i n ∧ u i.toNatClampNeg = x ∧ K x
def aR (h : aH) (t a : Nat) (i : Int32) (K : Nat → Prop) : Prop := ∃ (n : Nat) (u : Nat → Option Nat) (x : Nat), h.2 a = some (.inl (t, n, .inr (.inr (.inr (.inr u))))) ∧ vp_in i n ∧ u i.toNatClampNeg = some x ∧ K x
def sI (h : aH) (a : Nat) (i x : Int32) (K : aH → Prop) : Prop := ∃ (n : Nat) (u : Nat → Int32), h.2 a = some (.inl (0, n, .inl u)) ∧ vp_in i n ∧ K (a_up h a (.inl (0, n, .inl (upd u i.toNatClampNeg x))))
def sL (h : aH) (a : Nat) (i : Int32) (x : Int64) (K : aH → Prop) : Prop := ∃ (n : Nat) (u : Nat → Int64), h.2 a = some (.inl (1, n, .inr (.inl u))) ∧ vp_in i n ∧ K (a_up h a (.inl (1, n, .inr (.inl (vp_updL u i.toNatClampNeg x)))))
def sZ (h : aH) (a : Nat) (i x : Int32) (K : aH → Prop) : Prop := ∃ (n : Nat) (u : Nat → Int32), h.2 a = some (.inl (2, n, .inl u)) ∧ vp_in i n ∧ K (a_up h a (.inl (2, n, .inl (upd u i.toNatClampNeg (vp_nar .boolean x)))))
def sR (h : aH) (t a : Nat) (i : Int32) (v : Nat) (ok : Nat → Prop) (K : aH → Prop) : Prop := ∃ (n : Nat) (u : Nat → Option Nat) (ci : Nat) (fs : List Value), h.2 a = some (.inl (t, n, .inr (.inr (.inr (.inr u))))) ∧ vp_in i n ∧ h.2 v = some (.inr (ci, fs)) ∧ ok ci ∧ K (a_up h a (.inl (t, n, .inr (.inr (.inr (.inr (va_up u i.toNatClampNeg (some v))))))))
def sN (h : aH) (t a : Nat) (i : Int32) (K : aH → Prop) : Prop := ∃ (n : Nat) (u : Nat → Option Nat), h.2 a = some (.inl (t, n, .inr (.inr (.inr (.inr u))))) ∧ vp_in i n ∧ K (a_up h a (.inl (t, n, .inr (.inr (.inr (.inr (va_up u i.toNatClampNeg none)))))))
def lnA (h : aH) (a : Nat) (K : Int32 → Prop) : Prop := ∃ (t : Nat) (x : vp_A), t < 5 ∧ h.2 a = some (.inl (t, x)) ∧ K (Int32.ofNat x.1)
/-- a static row: its length, its contents, as the Statement gives them -/
def a_tc (i : Nat) : List Int32 := match i with
  | 0 => FORMS_L
  | 1 => ARE_L
  | 2 => MEET_L
  | 3 => TAKE_L
  | _ => ITEMS_L
def a_GT (G : aG) : Prop := ∀ i, i < 5 → (G.2.2.2 i).2 = ((a_tc i).length, fun j => (a_tc i).getD j 0)
def tB (i : Nat) (j : Int32) (K : Int32 → Prop) : Prop := ∃ x, vp_in j (a_tc i).length ∧ (a_tc i).getD j.toNatClampNeg 0 = x ∧ K x
def oB (x : Int32) : Prop := x = 0 ∨ x = 1
def qI (Q : Int32 → aH → Prop) : Option Value → aH → Prop := fun v h => ∃ x : Int32, v = some (.int x) ∧ Q x h
def qL (Q : Int64 → aH → Prop) : Option Value → aH → Prop := fun v h => ∃ x : Int64, v = some (.long x) ∧ Q x h
def qQ (Q : Option Nat → aH → Prop) : Option Value → aH → Prop := fun v h => ∃ x : Option Nat, v = some (va_rf x) ∧ Q x h
def qV (Q : aH → Prop) : Option Value → aH → Prop := fun v h => v = none ∧ Q h
def cpI (h : aH) (a0 : Nat) (sp : Int32) (a : Nat) (dp n : Int32) (K : aH → Prop) : Prop := ∃ (n0 n1 : Nat) (f g : Nat → Int32), h.2 a0 = some (.inl (0, n0, .inl f)) ∧ h.2 a = some (.inl (0, n1, .inl g)) ∧ ¬ sp < 0 ∧ ¬ dp < 0 ∧ ¬ n < 0 ∧ sp.toNatClampNeg + n.toNatClampNeg ≤ n0 ∧ dp.toNatClampNeg + n.toNatClampNeg ≤ n1 ∧ K (a_up h a (.inl (0, n1, .inl (va_cpy f g sp.toNatClampNeg dp.toNatClampNeg n.toNatClampNeg))))
def cpL (h : aH) (a0 : Nat) (sp : Int32) (a : Nat) (dp n : Int32) (K : aH → Prop) : Prop := ∃ (n0 n1 : Nat) (f g : Nat → Int64), h.2 a0 = some (.inl (1, n0, .inr (.inl f))) ∧ h.2 a = some (.inl (1, n1, .inr (.inl g))) ∧ ¬ sp < 0 ∧ ¬ dp < 0 ∧ ¬ n < 0 ∧ sp.toNatClampNeg + n.toNatClampNeg ≤ n0 ∧ dp.toNatClampNeg + n.toNatClampNeg ≤ n1 ∧ K (a_up h a (.inl (1, n1, .inr (.inl (va_cpy f g sp.toNatClampNeg dp.toNatClampNeg n.toNatClampNeg)))))

section AWP
variable {l : Launch} {G : aG} {d c w : Nat} {M : aM} {Q : Option Value → aH → Prop} {pc : Nat} {lv : List (Nat × Value)} {st : List Value} {h : aH}
theorem aw_sub {lv' : List (Nat × Value)} (ks : List Nat) (he : lv_pick lv ks = lv') (k : AW l G d c w M Q pc lv' st h) : AW l G d c w M Q pc lv st h :=
  fun p e R s m args below meth cd H locs cells slots mc ms ls F S hl => k p e R s m args below meth cd H locs cells slots mc ms ls F S (lv_sub hl ks he)
theorem aw_aI {a n : Nat} {u : Nat → Int32} {i x : Int32} (hdg : decode M.2.1 pc = .ok (.iaload, 1)) (hf : h.2 a = some (.inl (0, n, .inl u))) (hin : vp_in i n) (hx : u i.toNatClampNeg = x) (kk : AW l G d c w M Q (pc + 1) lv (.int x :: st) h) : AW l G d c w M Q pc lv (.int i :: .ref a :: st) h := by
  subst hx
  exact aw_iald hdg hf hin kk
theorem aw_aL {a n : Nat} {u : Nat → Int64} {i : Int32} {x : Int64} (hdg : decode M.2.1 pc = .ok (.laload, 1)) (hf : h.2 a = some (.inl (1, n, .inr (.inl u)))) (hin : vp_in i n) (hx : u i.toNatClampNeg = x) (kk : AW l G d c w M Q (pc + 1) lv (.long x :: st) h) : AW l G d c w M Q pc lv (.int i :: .ref a :: st) h := by
  subst hx
  exact aw_lald hdg hf hin kk
theorem aw_aZ {a n : Nat} {u : Nat → Int32} {i x : Int32} (hdg : decode M.2.1 pc = .ok (.baload, 1)) (hf : h.2 a = some (.inl (2, n, .inl u))) (hin : vp_in i n) (hx : u i.toNatClampNeg = x) (kk : AW l G d c w M Q (pc + 1) lv (.int x :: st) h) : AW l G d c w M Q pc lv (.int i :: .ref a :: st) h := by
  subst hx
  exact aw_zald hdg hf hin kk
theorem aw_aR {a n t : Nat} {u : Nat → Option Nat} {i : Int32} {x : Nat} (hdg : decode M.2.1 pc = .ok (.aaload, 1)) (ht : t = 3 ∨ t = 4) (hf : h.2 a = some (.inl (t, n, .inr (.inr (.inr (.inr u)))))) (hin : vp_in i n) (hx : u i.toNatClampNeg = some x) (kk : AW l G d c w M Q (pc + 1) lv (.ref x :: st) h) : AW l G d c w M Q pc lv (.int i :: .ref a :: st) h := by
  refine aw_aald hdg ht hf hin ?_
  rw [hx]
  exact kk
theorem aw_tB {j x : Int32} (i : Nat) (hi : i < 5) (hG : a_GT G) (hdg : decode M.2.1 pc = .ok (.iaload, 1)) (hin : vp_in j (a_tc i).length) (hx : (a_tc i).getD j.toNatClampNeg 0 = x) (kk : AW l G d c w M Q (pc + 1) lv (.int x :: st) h) : AW l G d c w M Q pc lv (.int j :: .ref (G.2.2.2 i).1 :: st) h := by
  have e := hG i hi
  refine aw_tab i (Nat.lt_succ_of_lt hi) hdg (by rw [e]; exact hin) ?_
  rw [e]
  subst hx
  exact kk
theorem aw_tL (i : Nat) (hi : i < 5) (hG : a_GT G) {v : Int32} (hdg : decode M.2.1 pc = .ok (.arraylength, 1)) (hv : Int32.ofNat (a_tc i).length = v) (kk : AW l G d c w M Q (pc + 1) lv (.int v :: st) h) : AW l G d c w M Q pc lv (.ref (G.2.2.2 i).1 :: st) h := by
  have e := hG i hi
  refine aw_tlen i (Nat.lt_succ_of_lt hi) hdg ?_
  rw [e]
  subst hv
  exact kk
theorem a_nB {x : Int32} (h : oB x) : narrow .boolean (.int x) = .int x := by
  rcases h with rfl | rfl <;> rfl

theorem aw_staticI {N : aM} {n d1 c1 w1 index : Nat} {As rest : List Value} {Q1 : Int32 → aH → Prop} (hdg : decode M.2.1 pc = .ok (.invokestatic index, 3)) (hC : AC l G d1 c1 w1 N As h (qI Q1)) (hm : a_mi N n) (hn : As.length = n) (hL : Cond.methodLink M.1.cls index N.1 ∈ a_wt) (hst : Cond.static N.1 ∈ a_wt) (hd : d1 + 1 ≤ d) (hc : c1 ≤ c) (hw : w1 ≤ w) (he : st = As.reverse ++ rest) (hr : (rest.map fun v => v.category).sum ≤ 8) (kk : ∀ (x1 : Int32) (h1 : aH), Q1 x1 h1 → AW l G d (c - c1) (w - w1) M Q (pc + 3) lv (.int x1 :: rest) h1) : AW l G d c w M Q pc lv st h :=
  aw_static hdg hC hm hn hL hst hd hc hw he hr (fun v h1 q => by obtain ⟨x1, rfl, q⟩ := q; exact kk x1 h1 q)
theorem aw_staticL {N : aM} {n d1 c1 w1 index : Nat} {As rest : List Value} {Q1 : Int64 → aH → Prop} (hdg : decode M.2.1 pc = .ok (.invokestatic index, 3)) (hC : AC l G d1 c1 w1 N As h (qL Q1)) (hm : a_mi N n) (hn : As.length = n) (hL : Cond.methodLink M.1.cls index N.1 ∈ a_wt) (hst : Cond.static N.1 ∈ a_wt) (hd : d1 + 1 ≤ d) (hc : c1 ≤ c) (hw : w1 ≤ w) (he : st = As.reverse ++ rest) (hr : (rest.map fun v => v.category).sum ≤ 8) (kk : ∀ (x1 : Int64) (h1 : aH), Q1 x1 h1 → AW l G d (c - c1) (w - w1) M Q (pc + 3) lv (.long x1 :: rest) h1) : AW l G d c w M Q pc lv st h :=
  aw_static hdg hC hm hn hL hst hd hc hw he hr (fun v h1 q => by obtain ⟨x1, rfl, q⟩ := q; exact kk x1 h1 q)
theorem aw_staticV {N : aM} {n d1 c1 w1 index : Nat} {As rest : List Value} {Q1 : aH → Prop} (hdg : decode M.2.1 pc = .ok (.invokestatic index, 3)) (hC : AC l G d1 c1 w1 N As h (qV Q1)) (hm : a_mi N n) (hn : As.length = n) (hL : Cond.methodLink M.1.cls index N.1 ∈ a_wt) (hst : Cond.static N.1 ∈ a_wt) (hd : d1 + 1 ≤ d) (hc : c1 ≤ c) (hw : w1 ≤ w) (he : st = As.reverse ++ rest) (hr : (rest.map fun v => v.category).sum ≤ 8) (kk : ∀ (h1 : aH), Q1 h1 → AW l G d (c - c1) (w - w1) M Q (pc + 3) lv rest h1) : AW l G d c w M Q pc lv st h :=
  aw_static hdg hC hm hn hL hst hd hc hw he hr (fun v h1 q => by obtain ⟨rfl, q⟩ := q; exact kk h1 q)
theorem aw_virtI {N : aM} {n d1 c1 w1 index a ci : Nat} {fs : List Value} {q : vw_C} {As rest : List Value} {Q1 : Int32 → aH → Prop} (hdg : decode M.2.1 pc = .ok (.invokevirtual index, 3)) (hC : AC l G d1 c1 w1 N (.ref a :: As) h (qI Q1)) (hm : a_mi N n) (hn : As.length = n) (hL : Cond.methodLink M.1.cls index N.1 ∈ a_wt) (hin : Cond.instanceMethod N.1 ∈ a_wt) (hsel : Cond.selects q.1 N.1 N.1 ∈ a_wt) (hq : vwCl[ci]? = some q) (hf : h.2 a = some (.inr (ci, fs))) (hd : d1 + 1 ≤ d) (hc : c1 ≤ c) (hw : w1 ≤ w) (he : st = As.reverse ++ .ref a :: rest) (hr : (rest.map fun v => v.category).sum ≤ 8) (kk : ∀ (x1 : Int32) (h1 : aH), Q1 x1 h1 → AW l G d (c - c1) (w - w1) M Q (pc + 3) lv (.int x1 :: rest) h1) : AW l G d c w M Q pc lv st h :=
  aw_virt hdg hC hm hn hL hin hsel hq hf hd hc hw he hr (fun v h1 q => by obtain ⟨x1, rfl, q⟩ := q; exact kk x1 h1 q)
theorem aw_virtL {N : aM} {n d1 c1 w1 index a ci : Nat} {fs : List Value} {q : vw_C} {As rest : List Value} {Q1 : Int64 → aH → Prop} (hdg : decode M.2.1 pc = .ok (.invokevirtual index, 3)) (hC : AC l G d1 c1 w1 N (.ref a :: As) h (qL Q1)) (hm : a_mi N n) (hn : As.length = n) (hL : Cond.methodLink M.1.cls index N.1 ∈ a_wt) (hin : Cond.instanceMethod N.1 ∈ a_wt) (hsel : Cond.selects q.1 N.1 N.1 ∈ a_wt) (hq : vwCl[ci]? = some q) (hf : h.2 a = some (.inr (ci, fs))) (hd : d1 + 1 ≤ d) (hc : c1 ≤ c) (hw : w1 ≤ w) (he : st = As.reverse ++ .ref a :: rest) (hr : (rest.map fun v => v.category).sum ≤ 8) (kk : ∀ (x1 : Int64) (h1 : aH), Q1 x1 h1 → AW l G d (c - c1) (w - w1) M Q (pc + 3) lv (.long x1 :: rest) h1) : AW l G d c w M Q pc lv st h :=
  aw_virt hdg hC hm hn hL hin hsel hq hf hd hc hw he hr (fun v h1 q => by obtain ⟨x1, rfl, q⟩ := q; exact kk x1 h1 q)
theorem aw_virtQ {N : aM} {n d1 c1 w1 index a ci : Nat} {fs : List Value} {q : vw_C} {As rest : List Value} {Q1 : Option Nat → aH → Prop} (hdg : decode M.2.1 pc = .ok (.invokevirtual index, 3)) (hC : AC l G d1 c1 w1 N (.ref a :: As) h (qQ Q1)) (hm : a_mi N n) (hn : As.length = n) (hL : Cond.methodLink M.1.cls index N.1 ∈ a_wt) (hin : Cond.instanceMethod N.1 ∈ a_wt) (hsel : Cond.selects q.1 N.1 N.1 ∈ a_wt) (hq : vwCl[ci]? = some q) (hf : h.2 a = some (.inr (ci, fs))) (hd : d1 + 1 ≤ d) (hc : c1 ≤ c) (hw : w1 ≤ w) (he : st = As.reverse ++ .ref a :: rest) (hr : (rest.map fun v => v.category).sum ≤ 8) (kk : ∀ (x1 : Option Nat) (h1 : aH), Q1 x1 h1 → AW l G d (c - c1) (w - w1) M Q (pc + 3) lv (va_rf x1 :: rest) h1) : AW l G d c w M Q pc lv st h :=
  aw_virt hdg hC hm hn hL hin hsel hq hf hd hc hw he hr (fun v h1 q => by obtain ⟨x1, rfl, q⟩ := q; exact kk x1 h1 q)
theorem aw_virtV {N : aM} {n d1 c1 w1 index a ci : Nat} {fs : List Value} {q : vw_C} {As rest : List Value} {Q1 : aH → Prop} (hdg : decode M.2.1 pc = .ok (.invokevirtual index, 3)) (hC : AC l G d1 c1 w1 N (.ref a :: As) h (qV Q1)) (hm : a_mi N n) (hn : As.length = n) (hL : Cond.methodLink M.1.cls index N.1 ∈ a_wt) (hin : Cond.instanceMethod N.1 ∈ a_wt) (hsel : Cond.selects q.1 N.1 N.1 ∈ a_wt) (hq : vwCl[ci]? = some q) (hf : h.2 a = some (.inr (ci, fs))) (hd : d1 + 1 ≤ d) (hc : c1 ≤ c) (hw : w1 ≤ w) (he : st = As.reverse ++ .ref a :: rest) (hr : (rest.map fun v => v.category).sum ≤ 8) (kk : ∀ (h1 : aH), Q1 h1 → AW l G d (c - c1) (w - w1) M Q (pc + 3) lv rest h1) : AW l G d c w M Q pc lv st h :=
  aw_virt hdg hC hm hn hL hin hsel hq hf hd hc hw he hr (fun v h1 q => by obtain ⟨rfl, q⟩ := q; exact kk h1 q)
theorem aw_virtUI {N : aM} {x : MethodName} {n d1 c1 w1 index a ci : Nat} {fs : List Value} {q : vw_C} {As rest : List Value} {Q1 : Int32 → aH → Prop} (hdg : decode M.2.1 pc = .ok (.invokevirtual index, 3)) (hC : AC l G d1 c1 w1 N (.ref a :: As) h (qI Q1)) (hm : a_mi N n) (hn : As.length = n) (hL : Cond.methodLink M.1.cls index x ∈ a_wt) (hsame : Cond.sameMethod x.cls x.cls x.name x.desc ∈ a_wt) (hx : x.cls ≠ "java/lang/invoke/MethodHandle" ∧ x.cls ≠ "java/lang/invoke/VarHandle") (hxd : x.desc = N.1.desc) (hdec : Cond.declares x ∈ a_nws ∨ (Cond.instanceMethod x ∈ a_wt ∧ ∃ b m r, Cond.code x b m r ∈ a_wt)) (hin : Cond.instanceMethod N.1 ∈ a_wt) (hsel : Cond.selects q.1 x N.1 ∈ a_wt) (hq : vwCl[ci]? = some q) (hf : h.2 a = some (.inr (ci, fs))) (hd : d1 + 1 ≤ d) (hc : c1 ≤ c) (hw : w1 ≤ w) (he : st = As.reverse ++ .ref a :: rest) (hr : (rest.map fun v => v.category).sum ≤ 8) (kk : ∀ (x1 : Int32) (h1 : aH), Q1 x1 h1 → AW l G d (c - c1) (w - w1) M Q (pc + 3) lv (.int x1 :: rest) h1) : AW l G d c w M Q pc lv st h :=
  aw_virtU hdg hC hm hn hL hsame hx hxd hdec hin hsel hq hf hd hc hw he hr (fun v h1 q => by obtain ⟨x1, rfl, q⟩ := q; exact kk x1 h1 q)
theorem aw_virtUV {N : aM} {x : MethodName} {n d1 c1 w1 index a ci : Nat} {fs : List Value} {q : vw_C} {As rest : List Value} {Q1 : aH → Prop} (hdg : decode M.2.1 pc = .ok (.invokevirtual index, 3)) (hC : AC l G d1 c1 w1 N (.ref a :: As) h (qV Q1)) (hm : a_mi N n) (hn : As.length = n) (hL : Cond.methodLink M.1.cls index x ∈ a_wt) (hsame : Cond.sameMethod x.cls x.cls x.name x.desc ∈ a_wt) (hx : x.cls ≠ "java/lang/invoke/MethodHandle" ∧ x.cls ≠ "java/lang/invoke/VarHandle") (hxd : x.desc = N.1.desc) (hdec : Cond.declares x ∈ a_nws ∨ (Cond.instanceMethod x ∈ a_wt ∧ ∃ b m r, Cond.code x b m r ∈ a_wt)) (hin : Cond.instanceMethod N.1 ∈ a_wt) (hsel : Cond.selects q.1 x N.1 ∈ a_wt) (hq : vwCl[ci]? = some q) (hf : h.2 a = some (.inr (ci, fs))) (hd : d1 + 1 ≤ d) (hc : c1 ≤ c) (hw : w1 ≤ w) (he : st = As.reverse ++ .ref a :: rest) (hr : (rest.map fun v => v.category).sum ≤ 8) (kk : ∀ (h1 : aH), Q1 h1 → AW l G d (c - c1) (w - w1) M Q (pc + 3) lv rest h1) : AW l G d c w M Q pc lv st h :=
  aw_virtU hdg hC hm hn hL hsame hx hxd hdec hin hsel hq hf hd hc hw he hr (fun v h1 q => by obtain ⟨rfl, q⟩ := q; exact kk h1 q)
theorem aw_initV {N : aM} {n d1 c1 w1 index a : Nat} {As rest : List Value} {Q1 : aH → Prop} (hdg : decode M.2.1 pc = .ok (.invokespecial index, 3)) (hC : AC l G d1 c1 w1 N (.ref a :: As) h (qV Q1)) (hm : a_mi N n) (hn : As.length = n) (hni : N.1.name = "<init>") (hnr : N.2.2.2 = none) (hL : Cond.methodLink M.1.cls index N.1 ∈ a_wt) (hin : Cond.instanceMethod N.1 ∈ a_wt) (hd : d1 + 1 ≤ d) (hc : c1 ≤ c) (hw : w1 ≤ w) (he : st = As.reverse ++ .ref a :: rest) (hr : (rest.map fun v => v.category).sum ≤ 8) (kk : ∀ (h1 : aH), Q1 h1 → AW l G d (c - c1) (w - w1) M Q (pc + 3) lv rest h1) : AW l G d c w M Q pc lv st h :=
  aw_init hdg hC hm hn hni hnr hL hin hd hc hw he hr (fun v h1 q => by obtain ⟨rfl, q⟩ := q; exact kk h1 q)
theorem aw_initNV {N : aM} {n d1 c1 w1 index a : Nat} {host : String} {As rest : List Value} {Q1 : aH → Prop} (hdg : decode M.2.1 pc = .ok (.invokespecial index, 3)) (hC : AC l G d1 c1 w1 N (.ref a :: As) h (qV Q1)) (hm : a_mi N n) (hn : As.length = n) (hni : N.1.name = "<init>") (hnr : N.2.2.2 = none) (hL : Cond.methodLinkNest M.1.cls index N.1 host ∈ a_nws) (hin : Cond.instanceMethod N.1 ∈ a_wt) (hd : d1 + 1 ≤ d) (hc : c1 ≤ c) (hw : w1 ≤ w) (he : st = As.reverse ++ .ref a :: rest) (hr : (rest.map fun v => v.category).sum ≤ 8) (kk : ∀ (h1 : aH), Q1 h1 → AW l G d (c - c1) (w - w1) M Q (pc + 3) lv rest h1) : AW l G d c w M Q pc lv st h :=
  aw_initN hdg hC hm hn hni hnr hL hin hd hc hw he hr (fun v h1 q => by obtain ⟨rfl, q⟩ := q; exact kk h1 q)
theorem aw_superV {N : aM} {n d1 c1 w1 index a ci : Nat} {fs : List Value} {q : vw_C} {As rest : List Value} {Q1 : aH → Prop} (hdg : decode M.2.1 pc = .ok (.invokespecial index, 3)) (hC : AC l G d1 c1 w1 N (.ref a :: As) h (qV Q1)) (hm : a_mi N n) (hn : As.length = n) (hni : N.1.name ≠ "<init>") (hL : Cond.methodLink M.1.cls index N.1 ∈ a_wt) (hsame : Cond.sameMethod N.1.cls N.1.cls N.1.name N.1.desc ∈ a_wt) (hsup : Cond.superclass M.1.cls N.1.cls ∈ a_wt) (hin : Cond.instanceMethod N.1 ∈ a_wt) (hq : vwCl[ci]? = some q) (hf : h.2 a = some (.inr (ci, fs))) (hd : d1 + 1 ≤ d) (hc : c1 ≤ c) (hw : w1 ≤ w) (he : st = As.reverse ++ .ref a :: rest) (hr : (rest.map fun v => v.category).sum ≤ 8) (kk : ∀ (h1 : aH), Q1 h1 → AW l G d (c - c1) (w - w1) M Q (pc + 3) lv rest h1) : AW l G d c w M Q pc lv st h :=
  aw_super hdg hC hm hn hni hL hsame hsup hin hq hf hd hc hw he hr (fun v h1 q => by obtain ⟨rfl, q⟩ := q; exact kk h1 q)
end AWP
