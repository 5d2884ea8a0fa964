/-- what every call of a method asks: n its parameters -/
def a_mi (M : aM) (n : Nat) : Prop := Cond.code M.1 M.2.1 M.2.2.1 M.2.2.2 ∈ a_wt ∧ Cond.initialized M.1.cls ∈ a_wt ∧ (M.1.cls ≠ "java/lang/invoke/MethodHandle" ∧ M.1.cls ≠ "java/lang/invoke/VarHandle") ∧ (parseMethodDescriptor M.1.desc).map (fun d => d.parameters.length) = some n ∧ M.2.2.1 + 19 ≤ a_k ∧ plainName M.1.cls = true
theorem a_ws_good {M : aM} {n : Nat} (hm : a_mi M n) : GoodIn a_wt (a_ws M) := by
  intro w hw
  rcases List.mem_cons.mp hw with h | h
  · subst h
    exact ⟨hm.1, (a_wt_good _ hm.1).2⟩
  · exact ⟨h, (a_wt_good _ h).2⟩
theorem a_blind {G : aG} {av : List Value} {h : aH} : FrameBlind (va_Pc av (fun U => a_KN G U ∧ a_HP G h U.heap)) := fun a U g mk q => ⟨q.1, q.2.1.same (U := U.calling g mk a) rfl rfl, q.2.2⟩
theorem a_params {n : Nat} {x : MethodName} (h : (parseMethodDescriptor x.desc).map (fun d => d.parameters.length) = some n) : ∀ sig, parseMethodDescriptor x.desc = some sig → n = sig.parameters.length := by
  intro sig hs
  rw [hs] at h
  exact (Option.some.inj h).symm
section AWC
variable {l : Launch} {G : aG} {d c w : Nat} {M : aM} {Q : Option Value → aH → Prop} {pc : Nat} {lv : List (Nat × Value)} {st : List Value} {h : aH}
/-- the entry -/
theorem ac_of {n : Nat} (hm : a_mi M n) {av : List Value} (hsz : (lg_sl av).length ≤ M.2.2.1) (k : AW l G d c w M Q 0 (lv_args 0 av) [] h) : AC l G d c w M av h Q := by
  refine Met.ofW (cc := M.2.1) (maxL := M.2.2.1) (ret := M.2.2.2) hm.2.2.2.2.2 rfl ?_
  intro p e s m args below meth cd s₁ B hml hv
  obtain ⟨ha, hKN, hP⟩ := hv
  subst ha
  have hl := lv_entry av (n := M.2.2.1) hsz
  have hts : ∀ w ∈ a_wt, w.before av.toArray s = true := fun w hw => atoms_spec (ws := a_ws M) B.pre w (List.mem_cons_of_mem _ hw)
  rw [lg_entry_eq]
  exact k p e _ s m _ below meth cd s.heap [] 0 0 c w _ ⟨B.exec, B.bytes, B.returns, hml, findClass_of_methodNamed B.named, fun hn => ((name_of_methodNamed B.named B.method).1).trans hn, hts, B.notSynchronized, hKN, Nat.le_refl _, Nat.le_refl _⟩ ⟨by omega, by omega, Nat.le_refl _, Nat.le_refl _, hP, va_S.rf, by rw [hP.1]; exact hP.2.1⟩ hl
/-- behind a call -/
theorem a_after {p : Program} {e : Env} {R : Room} {s : State} {m : MethodId} {args : Array Value} {below : List Frame} {meth : Method} {cd : Code} {H : Heap} {locs : List Loc} {cells slots mc ms c1 w1 : Nat} {ls : Array Slot} {rest st0 : List Value} {a : Array Value} {Q1 : Option Value → aH → Prop} (F : a_F G d M p R s m args meth cd) (S : a_S G c w h R s H locs cells slots mc ms) (hl : lv_has ls M.2.2.1 lv) (hc : c1 ≤ c) (hw : w1 ≤ w)
    (hr : va_Run p l e R s m args below meth cd H locs cells slots c1 w1 (F0 m pc ls st0) rest (a_Q G Q1 a) (a_A G)) (kk : ∀ (v : Option Value) (h1 : aH), Q1 v h1 → AW l G d (c - c1) (w - w1) M Q (pc + 3) lv (v.toList ++ rest) h1) : W p l e R s m args below meth cd H locs cells slots (MQ below (a_Q G Q) args s mc ms (a_A G)) (F0 m pc ls st0) := by
  intro T hT X
  obtain ⟨S1, S2, S3, S4, P, S6, S7⟩ := id S
  obtain ⟨v, st₀, t, T', L, h0, X', hL, e1, e2, ⟨⟨v', h1, hv, hq, hp⟩, hz, hk⟩, step⟩ := hr T hT X
  cases hv
  rw [h0] at hz hk
  have hS' : va_S (a_A G) s.heap T'.heap (locs ++ L) := ⟨Nat.le_trans S6.1 (by rw [e1]; exact hz), fun q g1 g2 => by rw [e1, hk q (Nat.lt_of_lt_of_le g1 S6.1) g2]; exact S6.2.1 q g1 g2, fun q hq => by
      rcases List.mem_append.mp hq with z | z
      · exact S6.2.2 q z
      · exact hL q z⟩
  obtain ⟨t2, a1, b1⟩ := kk v h1 hq p e R s m args below meth cd T'.heap (locs ++ L) (cells + c1) (slots + w1) mc ms ls F ⟨by omega, by omega, S3, S4, by rw [e1]; exact hp, hS', S7⟩ hl T' rfl X'
  exact ⟨t2, step t2 a1, b1⟩
theorem a_pre {R : Room} {s : State} {H : Heap} {locs : List Loc} {cells slots mc ms : Nat} (hKN : a_KN G s) (S : a_S G c w h R s H locs cells slots mc ms) {av : List Value} : ∀ U : State, U.heap = H → s.WarmedH U.vm → va_Pc av (fun U => a_KN G U ∧ a_HP G h U.heap) av.toArray U := fun U hU hW => ⟨rfl, hKN.mv hW (fun q g1 g2 => by rw [hU]; exact S.2.2.2.2.2.1.2.1 q g1 g2), by rw [hU]; exact S.2.2.2.2.1⟩
theorem a_back {R : Room} {s : State} {args : Array Value} {N : aM} {n d1 c1 w1 : Nat} (hts : ∀ w ∈ a_wt, w.before args s = true) (hm : a_mi N n) (hd : d1 + 1 ≤ d) (hf : d ≤ R.frames) (hlo : a_k * d ≤ R.locals) : ({ frames := d1, cells := c1, slots := w1, locals := a_k * d1 } : Room).cells = c1 ∧ ({ frames := d1, cells := c1, slots := w1, locals := a_k * d1 } : Room).slots = w1 ∧ ({ frames := d1, cells := c1, slots := w1, locals := a_k * d1 } : Room).frames + 1 ≤ R.frames ∧ 8 + (N.2.2.1 + 11) + ({ frames := d1, cells := c1, slots := w1, locals := a_k * d1 } : Room).locals ≤ R.locals ∧ (∀ w ∈ a_ws N, ∀ (a' : Array Value) (U : State), s.WarmedH U.vm → w.before a' U = true) ∧ Cond.code N.1 N.2.1 N.2.2.1 N.2.2.2 ∈ a_ws N := by
  refine ⟨rfl, rfl, Nat.le_trans hd hf, ?_, pay_in hts (a_ws_good hm), List.mem_cons_self⟩
  have h1 : a_k * (d1 + 1) ≤ a_k * d := Nat.mul_le_mul_left _ hd
  have h2 := hm.2.2.2.2.1
  have h3 : a_k * (d1 + 1) = a_k * d1 + a_k := Nat.mul_succ _ _
  show 8 + (N.2.2.1 + 11) + a_k * d1 ≤ R.locals
  omega
/-- invokestatic -/
theorem aw_static {N : aM} {n d1 c1 w1 index : Nat} {As rest : List Value} {Q1 : Option Value → aH → Prop} (hdg : decode M.2.1 pc = .ok (.invokestatic index, 3)) (hC : AC l G d1 c1 w1 N As h Q1) (hm : a_mi N n) (hn : As.length = n) (hL : Cond.methodLink M.1.cls index N.1 ∈ a_wt) (hst : Cond.static N.1 ∈ a_wt) (hd : d1 + 1 ≤ d) (hc : c1 ≤ c) (hw : w1 ≤ w) (he : st = As.reverse ++ rest) (hr : (rest.map fun v => v.category).sum ≤ 8) (kk : ∀ (v : Option Value) (h1 : aH), Q1 v h1 → AW l G d (c - c1) (w - w1) M Q (pc + 3) lv (v.toList ++ rest) h1) : AW l G d c w M Q pc lv st h := by
  intro p e R s m args below meth cd H locs cells slots mc ms ls F S hl
  obtain ⟨F1, F2, F3, F4, F5, F6, F7, F8, F9, F10, F11⟩ := id F
  subst he
  refine a_after F S hl hc hw (va_runS (As := As) (rest := rest) (ret := N.2.2.2) (bytes := N.2.1) (maxL := N.2.2.1) ⟨F1, F2, F4, F5, F7⟩ hC ⟨?_, F7 _ hst⟩ ⟨a_blind, a_pre F9 S⟩ rfl hn hl.1 rfl (lv_room hr) hdg ⟨by have := S.1; have := S.2.2.1; omega, by have := S.2.1; have := S.2.2.2.1; omega⟩) kk
  obtain ⟨b1, b2, b3, b4, b5, b6⟩ := a_back (c1 := c1) (w1 := w1) F7 hm hd F10 F11
  exact ⟨b1, b2, b3, b4, b5, b6, F7 _ hm.1, F7 _ hm.2.1, hm.2.2.1, a_params hm.2.2.2.1, F7 _ hL⟩
/-- the object that is called -/
theorem a_recv {s : State} {H : Heap} {a ci : Nat} {fs : List Value} {q : vw_C} (hKN : a_KN G s) (P : a_HP G h H) (hc : vwCl[ci]? = some q) (hf : h.2 a = some (.inr (ci, fs))) : ∃ cell : Cell, H[a]? = some cell ∧ cell.vm.isStatics = false ∧ s.vm.findClass q.1 = some cell.cls := va_recv hKN.1 (P.one hf) hc (q0 := 0) rfl
/-- invokevirtual of the object's own class's method -/
theorem aw_virt {N : aM} {n d1 c1 w1 index a ci : Nat} {fs : List Value} {q : vw_C} {As rest : List Value} {Q1 : Option Value → aH → Prop} (hdg : decode M.2.1 pc = .ok (.invokevirtual index, 3)) (hC : AC l G d1 c1 w1 N (.ref a :: As) h Q1) (hm : a_mi N n) (hn : As.length = n) (hL : Cond.methodLink M.1.cls index N.1 ∈ a_wt) (hin : Cond.instanceMethod N.1 ∈ a_wt) (hsel : Cond.selects q.1 N.1 N.1 ∈ a_wt) (hq : vwCl[ci]? = some q) (hf : h.2 a = some (.inr (ci, fs))) (hd : d1 + 1 ≤ d) (hc : c1 ≤ c) (hw : w1 ≤ w) (he : st = As.reverse ++ .ref a :: rest) (hr : (rest.map fun v => v.category).sum ≤ 8) (kk : ∀ (v : Option Value) (h1 : aH), Q1 v h1 → AW l G d (c - c1) (w - w1) M Q (pc + 3) lv (v.toList ++ rest) h1) : AW l G d c w M Q pc lv st h := by
  intro p e R s m args below meth cd H locs cells slots mc ms ls F S hl
  obtain ⟨F1, F2, F3, F4, F5, F6, F7, F8, F9, F10, F11⟩ := id F
  subst he
  refine a_after F S hl hc hw (va_runV (As := As) (rest := rest) (C := q.1) (ret := N.2.2.2) (bytes := N.2.1) (maxL := N.2.2.1) ⟨F1, F2, F4, F5, F7⟩ hC ⟨?_, F7 _ hin, F7 _ hsel⟩ ⟨a_blind, a_recv F9 S.2.2.2.2.1 hq hf, a_pre F9 S⟩ rfl hn hl.1 rfl (lv_room hr) hdg ⟨by have := S.1; have := S.2.2.1; omega, by have := S.2.1; have := S.2.2.2.1; omega⟩) kk
  obtain ⟨b1, b2, b3, b4, b5, b6⟩ := a_back (c1 := c1) (w1 := w1) F7 hm hd F10 F11
  exact ⟨b1, b2, b3, b4, b5, b6, F7 _ hm.1, F7 _ hm.2.1, hm.2.2.1, a_params hm.2.2.2.1, F7 _ hL⟩
/-- invokevirtual of an inherited, overriding or abstract method: x is named, N is what the object's class selects -/
theorem aw_virtU {N : aM} {x : MethodName} {n d1 c1 w1 index a ci : Nat} {fs : List Value} {q : vw_C} {As rest : List Value} {Q1 : Option Value → aH → Prop} (hdg : decode M.2.1 pc = .ok (.invokevirtual index, 3)) (hC : AC l G d1 c1 w1 N (.ref a :: As) h Q1) (hm : a_mi N n) (hn : As.length = n) (hL : Cond.methodLink M.1.cls index x ∈ a_wt) (hsame : Cond.sameMethod x.cls x.cls x.name x.desc ∈ a_wt) (hx : x.cls ≠ "java/lang/invoke/MethodHandle" ∧ x.cls ≠ "java/lang/invoke/VarHandle") (hxd : x.desc = N.1.desc) (hdec : Cond.declares x ∈ a_nws ∨ (Cond.instanceMethod x ∈ a_wt ∧ ∃ b m r, Cond.code x b m r ∈ a_wt)) (hin : Cond.instanceMethod N.1 ∈ a_wt) (hsel : Cond.selects q.1 x N.1 ∈ a_wt) (hq : vwCl[ci]? = some q) (hf : h.2 a = some (.inr (ci, fs))) (hd : d1 + 1 ≤ d) (hc : c1 ≤ c) (hw : w1 ≤ w) (he : st = As.reverse ++ .ref a :: rest) (hr : (rest.map fun v => v.category).sum ≤ 8) (kk : ∀ (v : Option Value) (h1 : aH), Q1 v h1 → AW l G d (c - c1) (w - w1) M Q (pc + 3) lv (v.toList ++ rest) h1) : AW l G d c w M Q pc lv st h := by
  intro p e R s m args below meth cd H locs cells slots mc ms ls F S hl
  obtain ⟨F1, F2, F3, F4, F5, F6, F7, F8, F9, F10, F11⟩ := id F
  subst he
  have hD : va_Decl s ⟨x.cls, x.name, x.desc⟩ := by
    rcases hdec with z | ⟨z1, b, m0, r0, z2⟩
    · exact va_Decl.abs (F9.2.1 _ z)
    · exact va_Decl.of (F7 _ z1) (F7 _ z2)
  refine a_after F S hl hc hw (va_runU (As := As) (rest := rest) (C := q.1) (owner := x.cls) (x := x) (ret := N.2.2.2) (bytes := N.2.1) (maxL := N.2.2.1) ⟨F1, F2, F4, F5, F7⟩ hC ?_ ⟨a_blind, a_recv F9 S.2.2.2.2.1 hq hf, a_pre F9 S⟩ rfl hn hl.1 rfl (lv_room hr) hdg ⟨by have := S.1; have := S.2.2.1; omega, by have := S.2.1; have := S.2.2.2.1; omega⟩) kk
  exact ⟨a_back (c1 := c1) (w1 := w1) F7 hm hd F10 F11, F7 _ hm.1, F7 _ hm.2.1, hx, a_params (by rw [hxd]; exact hm.2.2.2.1), F7 _ hL, F7 _ hsame, hD, F7 _ hsel, F7 _ hin⟩
/-- invokespecial of a constructor -/
theorem aw_init {N : aM} {n d1 c1 w1 index a : Nat} {As rest : List Value} {Q1 : Option Value → aH → Prop} (hdg : decode M.2.1 pc = .ok (.invokespecial index, 3)) (hC : AC l G d1 c1 w1 N (.ref a :: As) h Q1) (hm : a_mi N n) (hn : As.length = n) (hni : N.1.name = "<init>") (hnr : N.2.2.2 = none) (hL : Cond.methodLink M.1.cls index N.1 ∈ a_wt) (hin : Cond.instanceMethod N.1 ∈ a_wt) (hd : d1 + 1 ≤ d) (hc : c1 ≤ c) (hw : w1 ≤ w) (he : st = As.reverse ++ .ref a :: rest) (hr : (rest.map fun v => v.category).sum ≤ 8) (kk : ∀ (v : Option Value) (h1 : aH), Q1 v h1 → AW l G d (c - c1) (w - w1) M Q (pc + 3) lv (v.toList ++ rest) h1) : AW l G d c w M Q pc lv st h := by
  intro p e R s m args below meth cd H locs cells slots mc ms ls F S hl
  obtain ⟨F1, F2, F3, F4, F5, F6, F7, F8, F9, F10, F11⟩ := id F
  subst he
  refine a_after F S hl hc hw (va_runI (As := As) (rest := rest) (bytes := N.2.1) (maxL := N.2.2.1) ⟨F1, F2, F4, F5, F7⟩ hC ⟨?_, hni, F7 _ hin⟩ ⟨a_blind, a_pre F9 S⟩ rfl hn hl.1 rfl (lv_room hr) hdg ⟨by have := S.1; have := S.2.2.1; omega, by have := S.2.1; have := S.2.2.2.1; omega⟩) kk
  obtain ⟨b1, b2, b3, b4, b5, b6⟩ := a_back (c1 := c1) (w1 := w1) F7 hm hd F10 F11
  have h7 := hm.1
  rw [hnr] at b6 h7
  exact ⟨b1, b2, b3, b4, b5, b6, F7 _ h7, F7 _ hm.2.1, hm.2.2.1, a_params hm.2.2.2.1, F7 _ hL⟩
/-- the same, of a nest mate's private one -/
theorem aw_initN {N : aM} {n d1 c1 w1 index a : Nat} {host : String} {As rest : List Value} {Q1 : Option Value → aH → Prop} (hdg : decode M.2.1 pc = .ok (.invokespecial index, 3)) (hC : AC l G d1 c1 w1 N (.ref a :: As) h Q1) (hm : a_mi N n) (hn : As.length = n) (hni : N.1.name = "<init>") (hnr : N.2.2.2 = none) (hL : Cond.methodLinkNest M.1.cls index N.1 host ∈ a_nws) (hin : Cond.instanceMethod N.1 ∈ a_wt) (hd : d1 + 1 ≤ d) (hc : c1 ≤ c) (hw : w1 ≤ w) (he : st = As.reverse ++ .ref a :: rest) (hr : (rest.map fun v => v.category).sum ≤ 8) (kk : ∀ (v : Option Value) (h1 : aH), Q1 v h1 → AW l G d (c - c1) (w - w1) M Q (pc + 3) lv (v.toList ++ rest) h1) : AW l G d c w M Q pc lv st h := by
  intro p e R s m args below meth cd H locs cells slots mc ms ls F S hl
  obtain ⟨F1, F2, F3, F4, F5, F6, F7, F8, F9, F10, F11⟩ := id F
  subst he
  refine a_after F S hl hc hw (va_runIN (host := host) (As := As) (rest := rest) (bytes := N.2.1) (maxL := N.2.2.1) ⟨F1, F2, F4, F5, F7⟩ hC ⟨?_, hni, F7 _ hin⟩ ⟨a_blind, a_pre F9 S⟩ rfl hn hl.1 rfl (lv_room hr) hdg ⟨by have := S.1; have := S.2.2.1; omega, by have := S.2.1; have := S.2.2.2.1; omega⟩) kk
  obtain ⟨b1, b2, b3, b4, b5, b6⟩ := a_back (c1 := c1) (w1 := w1) F7 hm hd F10 F11
  have h7 := hm.1
  rw [hnr] at b6 h7
  exact ⟨⟨b1, b2, b3, b4, b5, b6⟩, F7 _ h7, F7 _ hm.2.1, hm.2.2.1, a_params hm.2.2.2.1, va_Nw.use rfl (F9.2.1 _ hL)⟩
/-- super.m(..) -/
theorem aw_super {N : aM} {n d1 c1 w1 index a ci : Nat} {fs : List Value} {q : vw_C} {As rest : List Value} {Q1 : Option Value → aH → Prop} (hdg : decode M.2.1 pc = .ok (.invokespecial index, 3)) (hC : AC l G d1 c1 w1 N (.ref a :: As) h Q1) (hm : a_mi N n) (hn : As.length = n) (hni : N.1.name ≠ "<init>") (hL : Cond.methodLink M.1.cls index N.1 ∈ a_wt) (hsame : Cond.sameMethod N.1.cls N.1.cls N.1.name N.1.desc ∈ a_wt) (hsup : Cond.superclass M.1.cls N.1.cls ∈ a_wt) (hin : Cond.instanceMethod N.1 ∈ a_wt) (hq : vwCl[ci]? = some q) (hf : h.2 a = some (.inr (ci, fs))) (hd : d1 + 1 ≤ d) (hc : c1 ≤ c) (hw : w1 ≤ w) (he : st = As.reverse ++ .ref a :: rest) (hr : (rest.map fun v => v.category).sum ≤ 8) (kk : ∀ (v : Option Value) (h1 : aH), Q1 v h1 → AW l G d (c - c1) (w - w1) M Q (pc + 3) lv (v.toList ++ rest) h1) : AW l G d c w M Q pc lv st h := by
  intro p e R s m args below meth cd H locs cells slots mc ms ls F S hl
  obtain ⟨F1, F2, F3, F4, F5, F6, F7, F8, F9, F10, F11⟩ := id F
  subst he
  refine a_after F S hl hc hw (va_runSU (As := As) (rest := rest) (C := q.1) (ret := N.2.2.2) (bytes := N.2.1) (maxL := N.2.2.1) (F9.1.1 ci q hq).2 ⟨F1, F2, F4, F5, F7⟩ hC ?_ ⟨a_blind, a_recv F9 S.2.2.2.2.1 hq hf, a_pre F9 S⟩ rfl hn hl.1 rfl (lv_room hr) hdg ⟨by have := S.1; have := S.2.2.1; omega, by have := S.2.1; have := S.2.2.2.1; omega⟩) kk
  exact ⟨a_back (c1 := c1) (w1 := w1) F7 hm hd F10 F11, F7 _ hL, F7 _ hsame, F7 _ hsup, F7 _ hin, F7 _ hm.2.1, F7 _ hm.1, hni, a_params hm.2.2.2.1⟩
/-- Object's constructor -/
theorem aw_obj {index a : Nat} {rest : List Value} (hdg : decode M.2.1 pc = .ok (.invokespecial index, 3)) (hL : Cond.methodLink M.1.cls index objectInit ∈ a_wt) (hin : Cond.instanceMethod objectInit ∈ a_wt) (hcd : Cond.code objectInit ⟨#[0xb1]⟩ 1 none ∈ a_wt) (hd : 1 ≤ d) (hr : (rest.map fun v => v.category).sum ≤ 8) (kk : AW l G d c w M Q (pc + 3) lv rest h) : AW l G d c w M Q pc lv (.ref a :: rest) h := by
  intro p e R s m args below meth cd H locs cells slots mc ms ls F S hl
  obtain ⟨F1, F2, F3, F4, F5, F6, F7, F8, F9, F10, F11⟩ := id F
  have h1 : a_k * 1 ≤ a_k * d := Nat.mul_le_mul_left _ hd
  have h2 := lv_room (m := m) (pc := pc) (ls := ls) (rest := .ref a :: rest) hr
  have h3 : a_k * 1 = 40 := rfl
  exact W.objInit F1 F2 F5 (F7 _ hL) (F7 _ hin) (F7 _ hcd) rfl (hl.1.trans F4.symm) rfl hdg (Nat.le_trans hd F10) (by omega) (kk p e R s m args below meth cd H locs cells slots mc ms ls F S hl)
/-- new -/
theorem aw_new {ci index N : Nat} {fs : List Value} {C : String} {T : u_T} {ty0 : Nat → FieldType} (hdg : decode M.2.1 pc = .ok (.new index, 3)) (hc : a_cl ci C T N ty0) (hL : Cond.classLink M.1.cls index C ∈ a_wt) (hi : Cond.instantiable C N ∈ a_wt) (hini : Cond.initialized C ∈ a_wt) (hfs : ∀ j, j < N → defaultValue (ty0 j) = vp_V fs j) (hcc : 1 ≤ c) (hww : N ≤ w) (kk : AW l G d (c - 1) (w - N) M Q (pc + 3) lv (.ref h.1 :: st) (a_nw h (.inr (ci, fs)))) : AW l G d c w M Q pc lv st h := by
  intro p e R s m args below meth cd H locs cells slots mc ms ls F S hl
  obtain ⟨F1, F2, F3, F4, F5, F6, F7, F8, F9, F10, F11⟩ := id F
  obtain ⟨S1, S2, S3, S4, P, S6, S7⟩ := id S
  obtain ⟨hc1, hin, hty, hnm⟩ := hc
  have hKn := F9.1.1 ci _ hc1
  refine W.newcK F1 F2 F5 (F7 _ hL) (F7 _ hi) (F7 _ hini) rfl hdg (by omega) (by omega) hKn.2.1 rfl fun H1 kC hkC e1 z1 o1 => ?_
  rw [P.1]
  refine kk p e R s m args below meth cd H1 locs (cells + 1) (slots + N) mc ms ls F ⟨by omega, by omega, S3, S4, P.push ⟨_, hc1, (u_born ty0 F7 hin hKn hkC e1 hty).to hfs⟩ z1 o1, ⟨Nat.le_trans S6.1 (by omega), fun x h1 h2 => (o1 x (Nat.lt_of_lt_of_le h1 S6.1)).trans (S6.2.1 x h1 h2), S6.2.2⟩, S7⟩ hl
end AWC
section AWD
variable {l : Launch} {G : aG} {d c w : Nat} {M : aM} {Q : Option Value → aH → Prop} {pc : Nat} {lv : List (Nat × Value)} {st : List Value} {h : aH}
/-- new rows of numbers -/
theorem aw_newa {atype : ArrayType} (t : Nat) (ht : t < 3) {n : Int32} {N : Nat} {a0 : vp_A} (hdg : decode M.2.1 pc = .ok (.newarray atype, 2)) (hty : newarray.typeOf atype = a_ty t) (hL : Cond.arrayClass (newarray.typeOf atype) ∈ a_wt) (ha : ∀ cA : ClassId, vp_cell cA a0 = arrV cA N (fun _ => defaultValue (a_ty t))) (hn : ¬ n < 0) (hN : n.toNatClampNeg = N) (hb : N ≤ 60000) (hcc : 1 ≤ c) (hww : N ≤ w) (kk : AW l G d (c - 1) (w - N) M Q (pc + 2) lv (.ref h.1 :: st) (a_nw h (.inl (t, a0)))) : AW l G d c w M Q pc lv (.int n :: st) h := by
  intro p e R s m args below meth cd H locs cells slots mc ms ls F S hl
  obtain ⟨F1, F2, F3, F4, F5, F6, F7, F8, F9, F10, F11⟩ := id F
  obtain ⟨S1, S2, S3, S4, P, S6, S7⟩ := id S
  have hby : N * componentBytes (newarray.typeOf atype) ≤ 536870912 := by
    have : componentBytes (newarray.typeOf atype) ≤ 8 := by cases atype <;> decide
    calc N * componentBytes (newarray.typeOf atype) ≤ 60000 * 8 := Nat.mul_le_mul hb this
      _ ≤ 536870912 := by decide
  refine va_newaK F1 F2 (F7 _ hL) rfl hdg rfl hn hN hby (by omega) (by omega) P.1 fun H1 cA e1 z1 o1 hAr hNm => ?_
  have hcA : cA = G.2.2.1 t := by
    have h2 := (F9.1.2 t (G.2.2.1 t, a_ty t) (by rcases (show t = 0 ∨ t = 1 ∨ t = 2 by omega) with rfl | rfl | rfl <;> rfl)).2
    rw [hty] at hNm
    have h3 : s.vm.findClass ("[" ++ (a_ty t).toString) = some (G.2.2.1 t) := by
      rcases (show t = 0 ∨ t = 1 ∨ t = 2 by omega) with rfl | rfl | rfl <;> exact h2
    exact Option.some.inj (hNm.symm.trans h3)
  subst hcA
  rw [← P.1] at e1 z1 o1
  refine kk p e R s m args below meth cd H1 locs (cells + 1) (slots + N) mc ms ls F ⟨by omega, by omega, S3, S4, P.push (show H1[H.size]? = some (vp_cell _ _) by rw [ha, e1, hty]) z1 o1, ⟨Nat.le_trans S6.1 (by omega), fun x h1 h2 => (o1 x (Nat.lt_of_lt_of_le h1 S6.1)).trans (S6.2.1 x h1 h2), S6.2.2⟩, S7⟩ hl
/-- new rows of references -/
theorem aw_newq (t : Nat) (ht : t = 3 ∨ t = 4) {index N : Nat} {n : Int32} {C : String} (hdg : decode M.2.1 pc = .ok (.anewarray index, 3)) (hty : a_ty t = .object C) (hL : Cond.classLink M.1.cls index C ∈ a_wt) (hn : ¬ n < 0) (hN : n.toNatClampNeg = N) (hb : N ≤ 60000) (hcc : 1 ≤ c) (hww : N ≤ w) (kk : AW l G d (c - 1) (w - N) M Q (pc + 3) lv (.ref h.1 :: st) (a_nw h (.inl (t, N, .inr (.inr (.inr (.inr (fun _ => none)))))))) : AW l G d c w M Q pc lv (.int n :: st) h := by
  intro p e R s m args below meth cd H locs cells slots mc ms ls F S hl
  obtain ⟨F1, F2, F3, F4, F5, F6, F7, F8, F9, F10, F11⟩ := id F
  obtain ⟨S1, S2, S3, S4, P, S6, S7⟩ := id S
  have hover : va_AO C s := by
    rcases ht with rfl | rfl
    · cases hty; exact F9.2.2.2.2.2.1
    · cases hty; exact F9.2.2.2.2.2.2
  subst hN
  refine W.anew F1 F2 F5 (F7 _ hL) (va_AO.use hover) rfl hdg rfl hn (by omega) (by omega) (by omega) fun cA kA comp f1 f2 f3 f4 => ?_
  have hcA : cA = G.2.2.1 t := by
    rcases ht with rfl | rfl
    · cases hty
      obtain ⟨_, _, _, _, _, g⟩ := (F9.1.2 3 (G.2.2.1 3, a_ty 3) rfl).2
      exact Option.some.inj (f1.symm.trans g)
    · cases hty
      obtain ⟨_, _, _, _, _, g⟩ := (F9.1.2 4 (G.2.2.1 4, a_ty 4) rfl).2
      exact Option.some.inj (f1.symm.trans g)
  subst hcA
  generalize hH1 : H.push ({ cls := G.2.2.1 t, slots := Array.replicate n.toNatClampNeg .null, vm := .none } : Cell) = H1
  have z1 : H1.size = H.size + 1 := by rw [← hH1, Array.size_push]
  have e1 : H1[H.size]? = some (arrV (G.2.2.1 t) n.toNatClampNeg (fun _ => .null)) := by rw [← hH1, Array.getElem?_push_size, ← arrV_new]
  have o1 : ∀ q : Nat, q < H.size → H1[q]? = H[q]? := fun q hq => by rw [← hH1, Array.getElem?_push, if_neg (Nat.ne_of_lt hq)]
  show W p l e R s m args below meth cd H1 locs (cells + 1) (slots + n.toNatClampNeg) _ (F0 m (pc + 3) ls (.ref H.size :: st))
  rw [P.1]
  refine kk p e R s m args below meth cd H1 locs (cells + 1) (slots + n.toNatClampNeg) mc ms ls F ⟨by omega, by omega, S3, S4, P.push (show H1[H.size]? = some (vp_cell _ _) by rw [vp_cell_q]; exact e1) z1 o1, ⟨Nat.le_trans S6.1 (by omega), fun x h1 h2 => (o1 x (Nat.lt_of_lt_of_le h1 S6.1)).trans (S6.2.1 x h1 h2), S6.2.2⟩, S7⟩ hl
theorem a_upq {cI : ClassId} {n k : Nat} {u : Nat → Option Nat} {r : Option Nat} : (vp_cell cI (n, .inr (.inr (.inr (.inr u))))).setSlot k (va_rf r) = vp_cell cI (n, .inr (.inr (.inr (.inr (va_up u k r))))) := by
  rw [vp_cell_q, vp_cell_q, arrV_store]
  congr 1
  funext q
  by_cases hq : q = k
  · subst hq
    simp [updV, va_up]
  · simp [updV, va_up, hq]
/-- an object into a row of references: its class is the row's, or castable to it -/
theorem aw_aast (t : Nat) (ht : t = 3 ∨ t = 4) {a n v ci : Nat} {u : Nat → Option Nat} {fs : List Value} {q : vw_C} {i : Int32} {E : String} (hdg : decode M.2.1 pc = .ok (.aastore, 1)) (hE : a_ty t = .object E) (hf : h.2 a = some (.inl (t, n, .inr (.inr (.inr (.inr u)))))) (hv : h.2 v = some (.inr (ci, fs))) (hq : vwCl[ci]? = some q) (hcast : q.1 = E ∨ Cond.castable q.1 E ∈ a_nws) (hin : vp_in i n) (kk : AW l G d c w M Q (pc + 1) lv st (a_up h a (.inl (t, n, .inr (.inr (.inr (.inr (va_up u i.toNatClampNeg (some v))))))))) : AW l G d c w M Q pc lv (.ref v :: .int i :: .ref a :: st) h := by
  intro p e R s m args below meth cd H locs cells slots mc ms ls F S hl
  obtain ⟨F1, F2, F3, F4, F5, F6, F7, F8, F9, F10, F11⟩ := id F
  obtain ⟨S1, S2, S3, S4, P, S6, S7⟩ := id S
  have hlt : i.toNatClampNeg < n := Nat.not_le.mp fun q => hin (Or.inr q)
  have h0 : ¬ i < 0 := fun q => hin (Or.inl q)
  obtain ⟨cellV, g1, g3, g4⟩ := a_recv F9 P hq hv
  obtain ⟨kC, hkC, -⟩ := Vm.findClass_spec g4
  have hKA : va_RA s (G.2.2.1 t) (.object E) := by
    rcases ht with rfl | rfl
    · cases hE; exact (F9.1.2 3 (G.2.2.1 3, a_ty 3) rfl).2
    · cases hE; exact (F9.1.2 4 (G.2.2.1 4, a_ty 4) rfl).2
  obtain ⟨kA, comp, k1, k2, k3, -⟩ := hKA
  obtain ⟨kE, hkE, -⟩ := Vm.findClass_spec k3
  have hasg : s.vm.assignable cellV.cls comp = true := by
    rcases hcast with z | z
    · have hcl := (F9.1.1 ci q hq).2
      have e1 : comp = cellV.cls := by rw [z] at g4; exact Option.some.inj (k3.symm.trans g4)
      have e2 : G.2.1.1 ci = cellV.cls := Option.some.inj (hcl.1.symm.trans g4)
      rw [e1, ← e2]
      exact va_assign hcl
    · obtain ⟨c0, t0, f1, f2, f3⟩ := Cond.castable_spec (va_Nw.use (A := args) rfl (F9.2.1 _ z))
      cases g4.symm.trans f1
      cases k3.symm.trans f2
      exact f3
  obtain ⟨hb, ha⟩ := P.2.2 a _ hf
  refine W.aast F1 F2 ha (fun q h => by cases h) (fun h => by cases h) k1 k2 rfl hkE ⟨h0, by show _ < (arrV _ _ _).slots.size; rw [arrV_size]; exact hlt⟩ g1 (fun q h => by rw [h] at g3; cases g3) hkC hasg rfl rfl hdg fun H1 e1 z oq => ?_
  refine kk p e R s m args below meth cd H1 _ cells slots mc ms ls F ⟨S1, S2, S3, S4, P.set hf ?_ z oq, S6.put z oq hb, S7⟩ hl
  show H1[a]? = some (vp_cell _ _)
  rw [e1]
  exact congrArg some (a_upq (r := some v))
/-- null into a row of references -/
theorem aw_aastN (t : Nat) (ht : t = 3 ∨ t = 4) {a n : Nat} {u : Nat → Option Nat} {i : Int32} {E : String} (hdg : decode M.2.1 pc = .ok (.aastore, 1)) (hE : a_ty t = .object E) (hf : h.2 a = some (.inl (t, n, .inr (.inr (.inr (.inr u)))))) (hin : vp_in i n) (kk : AW l G d c w M Q (pc + 1) lv st (a_up h a (.inl (t, n, .inr (.inr (.inr (.inr (va_up u i.toNatClampNeg none)))))))) : AW l G d c w M Q pc lv (.null :: .int i :: .ref a :: st) h := by
  intro p e R s m args below meth cd H locs cells slots mc ms ls F S hl
  obtain ⟨F1, F2, F3, F4, F5, F6, F7, F8, F9, F10, F11⟩ := id F
  obtain ⟨S1, S2, S3, S4, P, S6, S7⟩ := id S
  obtain ⟨hb, ha⟩ := P.2.2 a _ hf
  have hAr : ArrOfT s (G.2.2.1 t) (.object E) := by
    rcases ht with rfl | rfl
    · cases hE; exact (F9.1.2 3 (G.2.2.1 3, a_ty 3) rfl).1
    · cases hE; exact (F9.1.2 4 (G.2.2.1 4, a_ty 4) rfl).1
  refine va_WaastN (C := E) F1 F2 ha (hAr n (fun j => va_rf (u j))) (fun h => by cases h) (by show ¬ (i < 0 ∨ (arrV _ _ _).slots.size ≤ _); rw [arrV_size]; exact hin) rfl rfl hdg fun H1 e1 z oq => ?_
  refine kk p e R s m args below meth cd H1 _ cells slots mc ms ls F ⟨S1, S2, S3, S4, P.set hf ?_ z oq, S6.put z oq hb, S7⟩ hl
  show H1[a]? = some (vp_cell _ _)
  rw [e1]
  exact congrArg some (a_upq (r := none))
/-- instanceof, checkcast -/
theorem aw_instY {index a ci : Nat} {fs : List Value} {q : vw_C} {nm : String} (hdg : decode M.2.1 pc = .ok (.instanceof index, 3)) (hL : Cond.classLink M.1.cls index nm ∈ a_wt) (hcast : Cond.castable q.1 nm ∈ a_nws) (hq : vwCl[ci]? = some q) (hf : h.2 a = some (.inr (ci, fs))) (kk : AW l G d c w M Q (pc + 3) lv (.int 1 :: st) h) : AW l G d c w M Q pc lv (.ref a :: st) h := by
  intro p e R s m args below meth cd H locs cells slots mc ms ls F S hl
  obtain ⟨F1, F2, F3, F4, F5, F6, F7, F8, F9, F10, F11⟩ := id F
  exact va_instY F1 F2 F5 (F7 _ hL) (F9.2.1 _ hcast) (a_recv F9 S.2.2.2.2.1 hq hf) hdg (kk p e R s m args below meth cd H locs cells slots mc ms ls F S hl)
theorem aw_instN {index a ci : Nat} {fs : List Value} {q : vw_C} {nm : String} (hdg : decode M.2.1 pc = .ok (.instanceof index, 3)) (hL : Cond.classLink M.1.cls index nm ∈ a_wt) (hnc : (q.1, nm) ∈ a_nc) (hq : vwCl[ci]? = some q) (hf : h.2 a = some (.inr (ci, fs))) (kk : AW l G d c w M Q (pc + 3) lv (.int 0 :: st) h) : AW l G d c w M Q pc lv (.ref a :: st) h := by
  intro p e R s m args below meth cd H locs cells slots mc ms ls F S hl
  obtain ⟨F1, F2, F3, F4, F5, F6, F7, F8, F9, F10, F11⟩ := id F
  exact va_instNo F1 F2 F5 (F7 _ hL) (F9.2.2.2.2.1 _ hnc) (a_recv F9 S.2.2.2.2.1 hq hf) hdg (kk p e R s m args below meth cd H locs cells slots mc ms ls F S hl)
theorem aw_cast {index a ci : Nat} {fs : List Value} {q : vw_C} {nm : String} (hdg : decode M.2.1 pc = .ok (.checkcast index, 3)) (hL : Cond.classLink M.1.cls index nm ∈ a_wt) (hcast : Cond.castable q.1 nm ∈ a_nws) (hq : vwCl[ci]? = some q) (hf : h.2 a = some (.inr (ci, fs))) (kk : AW l G d c w M Q (pc + 3) lv (.ref a :: st) h) : AW l G d c w M Q pc lv (.ref a :: st) h := by
  intro p e R s m args below meth cd H locs cells slots mc ms ls F S hl
  obtain ⟨F1, F2, F3, F4, F5, F6, F7, F8, F9, F10, F11⟩ := id F
  exact va_castY F1 F2 F5 (F7 _ hL) (F9.2.1 _ hcast) (a_recv F9 S.2.2.2.2.1 hq hf) hdg (kk p e R s m args below meth cd H locs cells slots mc ms ls F S hl)
theorem a_nn (z : Int32) (hz : ¬ z < 0) : z.toInt = (z.toNatClampNeg : Int) := by
  have hz0 : (0 : Int) ≤ z.toInt := by
    have := Int32.not_lt.mp hz
    simpa using Int32.le_iff_toInt_le.mp this
  show z.toInt = ((z.toInt.toNat : Nat) : Int)
  omega
end AWD
section AWY
variable {l : Launch} {G : aG} {d c w : Nat} {M : aM} {Q : Option Value → aH → Prop} {pc : Nat} {lv : List (Nat × Value)} {st : List Value} {h : aH}
theorem aw_copyI {index a0 a n0 n1 : Nat} {f g : Nat → Int32} {sp dp n : Int32} (hdg : decode M.2.1 pc = .ok (.invokestatic index, 3)) (hL : Cond.methodLink M.1.cls index arraycopyName ∈ a_wt) (hnat : Cond.native arraycopyName ∈ a_wt) (hstat : Cond.static arraycopyName ∈ a_wt) (hini : Cond.initialized "java/lang/System" ∈ a_wt) (hf0 : h.2 a0 = some (.inl (0, n0, .inl f))) (hf1 : h.2 a = some (.inl (0, n1, .inl g))) (h1 : ¬ sp < 0) (h2 : ¬ dp < 0) (h3 : ¬ n < 0) (h4 : sp.toNatClampNeg + n.toNatClampNeg ≤ n0) (h5 : dp.toNatClampNeg + n.toNatClampNeg ≤ n1) (hd : 1 ≤ d) (hr : (st.map fun v => v.category).sum ≤ 8) (kk : AW l G d c w M Q (pc + 3) lv st (a_up h a (.inl (0, n1, .inl (va_cpy f g sp.toNatClampNeg dp.toNatClampNeg n.toNatClampNeg))))) : AW l G d c w M Q pc lv (.int n :: .int dp :: .ref a :: .int sp :: .ref a0 :: st) h := by
  intro p e R s m args below meth cd H locs cells slots mc ms ls F S hl
  obtain ⟨F1, F2, F3, F4, F5, F6, F7, F8, F9, F10, F11⟩ := id F
  obtain ⟨S1, S2, S3, S4, P, S6, S7⟩ := id S
  have hk1 : a_k * 1 ≤ a_k * d := Nat.mul_le_mul_left _ hd
  have hk2 : a_k * 1 = 40 := rfl
  have hwd : nativeFrameWords "java/lang/System" "arraycopy" 5 ≤ 20 := by decide +kernel
  intro T hT X
  have hc0 : H[a0]? = some (vp_cell (G.2.2.1 0) (n0, .inl f)) := (P.2.2 a0 _ hf0).2
  have hc1 : H[a]? = some (vp_cell (G.2.2.1 0) (n1, .inl g)) := (P.2.2 a _ hf1).2
  obtain ⟨-, k0, hk0, cm0, hkk0⟩ := (F9.1.2 0 _ rfl).1 n0 (fun j => .int (f j))
  obtain ⟨-, k1, hk1', cm1, hkk1⟩ := (F9.1.2 0 _ rfl).1 n1 (fun j => .int (g j))
  obtain ⟨vm', X', step⟩ := X.arraycopy F1 F5 (F7 _ hL) (F7 _ hnat) (F7 _ hstat) (F7 _ hini) (src := a0) (dst := a) (cs := vp_cell (G.2.2.1 0) (n0, .inl f)) (cd := vp_cell (G.2.2.1 0) (n1, .inl g)) (srcPos := sp) (destPos := dp) (n := n) (by rw [hT]; exact hc0) (by rw [hT]; exact hc1)
    (fun _ h => by cases h) (fun _ h => by cases h) (fun h => by cases h) (fun h => by cases h) hk0 hk1' hkk0 hkk1 (by simp [a_ty, refKind]) h1 h2 h3
    (by rw [a_nn sp h1, a_nn n h3]; show ¬ _ > ((arrV _ n0 (fun j => .int (f j))).slots.size : Int); rw [arrV_size]; omega)
    (by rw [a_nn dp h2, a_nn n h3]; show ¬ _ > ((arrV _ n1 (fun j => .int (g j))).slots.size : Int); rw [arrV_size]; omega)
    (fun vm₁ _ i hi => by
      have e : (vp_cell (G.2.2.1 0) (n0, .inl f)).slots.getD (sp.toNatClampNeg + i) .null = .int (f (sp.toNatClampNeg + i)) := by
        show (arrV _ n0 (fun j => .int (f j))).slots.getD _ _ = _
        rw [Array.getD_eq_getD_getElem?, arrV_read _ _ (by omega)]
        rfl
      refine ⟨?_, ?_⟩
      · rw [e]
        first | rfl | simp [a_ty, fits]
      · rw [e]
        exact trivial)
    (g := F0 m pc ls (.int n :: .int dp :: .ref a :: .int sp :: .ref a0 :: st)) rfl (by rw [F4]; exact hl.1) (rest := st) rfl (by rw [F2]; exact hdg) (Nat.le_trans hd F10) (by show 2 * 0 + _ + _ ≤ _; omega)
  have e1 : copied (vp_cell (G.2.2.1 0) (n0, .inl f)) (vp_cell (G.2.2.1 0) (n1, .inl g)) sp dp n = vp_cell (G.2.2.1 0) (n1, .inl (va_cpy f g sp.toNatClampNeg dp.toNatClampNeg n.toNatClampNeg)) := va_copied (fun z => .int z) _ _ f g h4
  rw [e1] at X' step
  have hlt : a < H.size := (Array.getElem?_eq_some_iff.mp hc1).1
  have hheap : ((T.setVm vm').setCell a (vp_cell (G.2.2.1 0) (n1, .inl (va_cpy f g sp.toNatClampNeg dp.toNatClampNeg n.toNatClampNeg)))).heap = H.setIfInBounds a (vp_cell (G.2.2.1 0) (n1, .inl (va_cpy f g sp.toNatClampNeg dp.toNatClampNeg n.toNatClampNeg))) := by rw [← hT]; rfl
  have oq : ∀ q : Nat, q ≠ a → (H.setIfInBounds a (vp_cell (G.2.2.1 0) (n1, .inl (va_cpy f g sp.toNatClampNeg dp.toNatClampNeg n.toNatClampNeg))))[q]? = H[q]? := fun q hq => by simp [Array.getElem?_setIfInBounds, Ne.symm hq]
  have hba := (P.2.2 a _ hf1).1
  obtain ⟨t, a1, b1⟩ := kk p e R s m args below meth cd _ _ cells slots mc ms ls F ⟨S1, S2, S3, S4, P.set hf1 (show (H.setIfInBounds a _)[a]? = some _ by simp [Array.getElem?_setIfInBounds, hlt]) (by simp) oq, ⟨by simp; exact S6.1, fun q g1 g2 => by
      rw [oq q (fun e => g2 (by rw [e]; exact hba))]
      exact S6.2.1 q g1 g2, fun q hq => by
      rcases List.mem_append.mp hq with z | z
      · exact S6.2.2 q z
      · obtain ⟨y, -, hy⟩ := List.mem_map.mp z
        rw [← hy]
        exact hba⟩, S7⟩ hl _ hheap X'
  exact ⟨t, step t a1, b1⟩
theorem aw_copyL {index a0 a n0 n1 : Nat} {f g : Nat → Int64} {sp dp n : Int32} (hdg : decode M.2.1 pc = .ok (.invokestatic index, 3)) (hL : Cond.methodLink M.1.cls index arraycopyName ∈ a_wt) (hnat : Cond.native arraycopyName ∈ a_wt) (hstat : Cond.static arraycopyName ∈ a_wt) (hini : Cond.initialized "java/lang/System" ∈ a_wt) (hf0 : h.2 a0 = some (.inl (1, n0, .inr (.inl f)))) (hf1 : h.2 a = some (.inl (1, n1, .inr (.inl g)))) (h1 : ¬ sp < 0) (h2 : ¬ dp < 0) (h3 : ¬ n < 0) (h4 : sp.toNatClampNeg + n.toNatClampNeg ≤ n0) (h5 : dp.toNatClampNeg + n.toNatClampNeg ≤ n1) (hd : 1 ≤ d) (hr : (st.map fun v => v.category).sum ≤ 8) (kk : AW l G d c w M Q (pc + 3) lv st (a_up h a (.inl (1, n1, .inr (.inl (va_cpy f g sp.toNatClampNeg dp.toNatClampNeg n.toNatClampNeg)))))) : AW l G d c w M Q pc lv (.int n :: .int dp :: .ref a :: .int sp :: .ref a0 :: st) h := by
  intro p e R s m args below meth cd H locs cells slots mc ms ls F S hl
  obtain ⟨F1, F2, F3, F4, F5, F6, F7, F8, F9, F10, F11⟩ := id F
  obtain ⟨S1, S2, S3, S4, P, S6, S7⟩ := id S
  have hk1 : a_k * 1 ≤ a_k * d := Nat.mul_le_mul_left _ hd
  have hk2 : a_k * 1 = 40 := rfl
  have hwd : nativeFrameWords "java/lang/System" "arraycopy" 5 ≤ 20 := by decide +kernel
  intro T hT X
  have hc0 : H[a0]? = some (vp_cell (G.2.2.1 1) (n0, .inr (.inl f))) := (P.2.2 a0 _ hf0).2
  have hc1 : H[a]? = some (vp_cell (G.2.2.1 1) (n1, .inr (.inl g))) := (P.2.2 a _ hf1).2
  obtain ⟨-, k0, hk0, cm0, hkk0⟩ := (F9.1.2 1 _ rfl).1 n0 (fun j => .long (f j))
  obtain ⟨-, k1, hk1', cm1, hkk1⟩ := (F9.1.2 1 _ rfl).1 n1 (fun j => .long (g j))
  obtain ⟨vm', X', step⟩ := X.arraycopy F1 F5 (F7 _ hL) (F7 _ hnat) (F7 _ hstat) (F7 _ hini) (src := a0) (dst := a) (cs := vp_cell (G.2.2.1 1) (n0, .inr (.inl f))) (cd := vp_cell (G.2.2.1 1) (n1, .inr (.inl g))) (srcPos := sp) (destPos := dp) (n := n) (by rw [hT]; exact hc0) (by rw [hT]; exact hc1)
    (fun _ h => by cases h) (fun _ h => by cases h) (fun h => by cases h) (fun h => by cases h) hk0 hk1' hkk0 hkk1 (by simp [a_ty, refKind]) h1 h2 h3
    (by rw [a_nn sp h1, a_nn n h3]; show ¬ _ > ((arrV _ n0 (fun j => .long (f j))).slots.size : Int); rw [arrV_size]; omega)
    (by rw [a_nn dp h2, a_nn n h3]; show ¬ _ > ((arrV _ n1 (fun j => .long (g j))).slots.size : Int); rw [arrV_size]; omega)
    (fun vm₁ _ i hi => by
      have e : (vp_cell (G.2.2.1 1) (n0, .inr (.inl f))).slots.getD (sp.toNatClampNeg + i) .null = .long (f (sp.toNatClampNeg + i)) := by
        show (arrV _ n0 (fun j => .long (f j))).slots.getD _ _ = _
        rw [Array.getD_eq_getD_getElem?, arrV_read _ _ (by omega)]
        rfl
      refine ⟨?_, ?_⟩
      · rw [e]
        first | rfl | simp [a_ty, fits]
      · rw [e]
        exact trivial)
    (g := F0 m pc ls (.int n :: .int dp :: .ref a :: .int sp :: .ref a0 :: st)) rfl (by rw [F4]; exact hl.1) (rest := st) rfl (by rw [F2]; exact hdg) (Nat.le_trans hd F10) (by show 2 * 0 + _ + _ ≤ _; omega)
  have e1 : copied (vp_cell (G.2.2.1 1) (n0, .inr (.inl f))) (vp_cell (G.2.2.1 1) (n1, .inr (.inl g))) sp dp n = vp_cell (G.2.2.1 1) (n1, .inr (.inl (va_cpy f g sp.toNatClampNeg dp.toNatClampNeg n.toNatClampNeg))) := va_copied (fun z => .long z) _ _ f g h4
  rw [e1] at X' step
  have hlt : a < H.size := (Array.getElem?_eq_some_iff.mp hc1).1
  have hheap : ((T.setVm vm').setCell a (vp_cell (G.2.2.1 1) (n1, .inr (.inl (va_cpy f g sp.toNatClampNeg dp.toNatClampNeg n.toNatClampNeg))))).heap = H.setIfInBounds a (vp_cell (G.2.2.1 1) (n1, .inr (.inl (va_cpy f g sp.toNatClampNeg dp.toNatClampNeg n.toNatClampNeg)))) := by rw [← hT]; rfl
  have oq : ∀ q : Nat, q ≠ a → (H.setIfInBounds a (vp_cell (G.2.2.1 1) (n1, .inr (.inl (va_cpy f g sp.toNatClampNeg dp.toNatClampNeg n.toNatClampNeg)))))[q]? = H[q]? := fun q hq => by simp [Array.getElem?_setIfInBounds, Ne.symm hq]
  have hba := (P.2.2 a _ hf1).1
  obtain ⟨t, a1, b1⟩ := kk p e R s m args below meth cd _ _ cells slots mc ms ls F ⟨S1, S2, S3, S4, P.set hf1 (show (H.setIfInBounds a _)[a]? = some _ by simp [Array.getElem?_setIfInBounds, hlt]) (by simp) oq, ⟨by simp; exact S6.1, fun q g1 g2 => by
      rw [oq q (fun e => g2 (by rw [e]; exact hba))]
      exact S6.2.1 q g1 g2, fun q hq => by
      rcases List.mem_append.mp hq with z | z
      · exact S6.2.2 q z
      · obtain ⟨y, -, hy⟩ := List.mem_map.mp z
        rw [← hy]
        exact hba⟩, S7⟩ hl _ hheap X'
  exact ⟨t, step t a1, b1⟩
end AWY
