theorem a_HP.one {G : aG} {h : aH} {H : Heap} (P : a_HP G h H) {a : Nat} {c : aC} (hc : h.2 a = some c) : va_P G.2.1 vwCl [(a, a_E G.2.2.1 c)] H := by
  intro k q hk
  have hz : k < 1 := (List.getElem?_eq_some_iff.mp hk).1
  rw [show k = 0 by omega] at hk
  cases hk
  exact (P.2.2 a c hc).2
theorem a_sm {s : State} {args : Array Value} {ref : String} {T : u_T} {k : Nat} (hts : ∀ w ∈ a_wt, w.before args s = true) (hsm : ref = (T k).1 ∨ Cond.sameField ref (T k).1 (T k).2.1 (T k).2.2.1 ∈ a_wt) : ∀ x, s.fieldFound? (T k).1 (T k).2.1 (T k).2.2.1 = some x → s.fieldFound? ref (T k).2.1 (T k).2.2.1 = some x := by
  rcases hsm with h | h
  · rw [h]; exact fun x q => q
  · exact fun x q => u_same (hts _ h) x q
/-- what is known of a class of objects: its row, its words, its types, its names -/
def a_cl (ci : Nat) (C : String) (T : u_T) (N : Nat) (ty0 : Nat → FieldType) : Prop := vwCl[ci]? = some (C, T, N) ∧ (∀ w ∈ u_ws C T N, w ∈ a_wt) ∧ (∀ k, k < N → parseFieldDescriptor (T k).2.2.1 = some (ty0 k)) ∧ (∀ a, a < N → ∀ b, b < N → a ≠ b → (T a).2.1 ≠ (T b).2.1)
section AWH
variable {l : Launch} {G : aG} {d c w : Nat} {M : aM} {Q : Option Value → aH → Prop} {pc : Nat} {lv : List (Nat × Value)} {st : List Value} {h : aH}
theorem aw_getf {a ci k index N : Nat} {fs : List Value} {v : Value} {C ref : String} {T : u_T} {ty0 : Nat → FieldType} (hdg : decode M.2.1 pc = .ok (.getfield index, 3)) (hc : a_cl ci C T N ty0) (hk : k < N) (hw : Cond.fieldLink M.1.cls index ref (T k).2.1 (T k).2.2.1 ∈ a_wt) (hsm : ref = (T k).1 ∨ Cond.sameField ref (T k).1 (T k).2.1 (T k).2.2.1 ∈ a_wt) (hf : h.2 a = some (.inr (ci, fs))) (hv : fs[k]? = some v) (kk : AW l G d c w M Q (pc + 3) lv (v :: st) h) : AW l G d c w M Q pc lv (.ref a :: st) h := by
  intro p e R s m args below meth cd H locs cells slots mc ms ls F S hl
  obtain ⟨F1, F2, F3, F4, F5, F6, F7, F8, F9, F10, F11⟩ := id F
  have P := S.2.2.2.2.1
  exact va_get F1 F2 F7 hc.2.1 F5 F9.1 (P.one hf) 0 rfl hc.1 k hk (F7 _ hw) (a_sm F7 hsm) hv hdg (kk p e R s m args below meth cd H locs cells slots mc ms ls F S hl)
theorem aw_getfN {a ci k index N : Nat} {fs : List Value} {v : Value} {C ref host : String} {T : u_T} {ty0 : Nat → FieldType} (hdg : decode M.2.1 pc = .ok (.getfield index, 3)) (hc : a_cl ci C T N ty0) (hk : k < N) (hw : Cond.fieldLinkNest M.1.cls index ref (T k).2.1 (T k).2.2.1 host ∈ a_nws) (hsm : ref = (T k).1 ∨ Cond.sameField ref (T k).1 (T k).2.1 (T k).2.2.1 ∈ a_wt) (hf : h.2 a = some (.inr (ci, fs))) (hv : fs[k]? = some v) (kk : AW l G d c w M Q (pc + 3) lv (v :: st) h) : AW l G d c w M Q pc lv (.ref a :: st) h := by
  intro p e R s m args below meth cd H locs cells slots mc ms ls F S hl
  obtain ⟨F1, F2, F3, F4, F5, F6, F7, F8, F9, F10, F11⟩ := id F
  have P := S.2.2.2.2.1
  exact va_getN F1 F2 F7 hc.2.1 F5 F9.1 (P.one hf) 0 rfl hc.1 k hk (va_Nw.use rfl (F9.2.1 _ hw)) (a_sm F7 hsm) hv hdg (kk p e R s m args below meth cd H locs cells slots mc ms ls F S hl)
theorem aw_putf {a ci k index N : Nat} {fs : List Value} {v : Value} {C ref : String} {T : u_T} {ty0 : Nat → FieldType} (hdg : decode M.2.1 pc = .ok (.putfield index, 3)) (hc : a_cl ci C T N ty0) (hk : k < N) (hw : Cond.fieldLink M.1.cls index ref (T k).2.1 (T k).2.2.1 ∈ a_wt) (hsm : ref = (T k).1 ∨ Cond.sameField ref (T k).1 (T k).2.1 (T k).2.2.1 ∈ a_wt) (hfin : (T k).2.2.2 = false) (hn : narrow (ty0 k) v = v) (hfit : fits (ty0 k) v = true) (hf : h.2 a = some (.inr (ci, fs))) (hlen : k < fs.length) (kk : AW l G d c w M Q (pc + 3) lv st (a_up h a (.inr (ci, fs.set k v)))) : AW l G d c w M Q pc lv (v :: .ref a :: st) h := by
  intro p e R s m args below meth cd H locs cells slots mc ms ls F S hl
  obtain ⟨F1, F2, F3, F4, F5, F6, F7, F8, F9, F10, F11⟩ := id F
  obtain ⟨S1, S2, S3, S4, P, S6, S7⟩ := id S
  obtain ⟨hc1, hin, hty, hnm⟩ := hc
  have hK := F9.1
  have hap := va_apart (own := M.1.cls) F7 hin ty0 hty hnm hK hc1
  obtain ⟨hb, r, h1, cell, q1, q2, q3, q4⟩ := P.2.2 a _ hf
  have hr : r = (C, T, N) := Option.some.inj (h1.symm.trans hc1)
  subst hr
  obtain ⟨hS, hfc, kC, hkC, hkind⟩ := hK.1 ci _ hc1
  obtain ⟨cf, kf, fi, f, hi, hsl⟩ := hS k hk
  have hlay := F7 _ (hin _ (u_in_lay hk))
  unfold u_lay at hlay
  rw [if_neg (by rw [hfin]; decide)] at hlay
  have hst := (u_facts hfc hkC (u_lays F7 hin hk) hi).1
  have h6 := u_store hfc hkC hkind hlay hi (hty k hk) hn hfit
  refine W.putK F1 F2 (f := f) ⟨F5, F7 _ hw, ⟨_, _, _, a_sm F7 hsm _ hi⟩, hst⟩ (by rw [q2]; exact h6) q1 q3 (by rw [hsl]; exact k2_hasslot (q4 k hk)) rfl rfl hdg fun H' e1 e2 e3 => ?_
  rw [hsl] at e1 ⊢
  exact kk p e R s m args below meth cd H' _ cells slots mc ms ls F ⟨S1, S2, S3, S4, P.set hf ⟨_, hc1, t_OB.to (V := updV (vp_V fs) k v) ⟨_, e1, q2, q3, t_set q4 hap hk v⟩ (fun j _ => vp_updV_set hlen v j)⟩ e2 e3, S6.put e2 e3 hb, S7⟩ hl
theorem aw_putF {a ci k index N : Nat} {fs : List Value} {v : Value} {C ref : String} {T : u_T} {ty0 : Nat → FieldType} (hdg : decode M.2.1 pc = .ok (.putfield index, 3)) (hc : a_cl ci C T N ty0) (hk : k < N) (hw : Cond.fieldLink M.1.cls index ref (T k).2.1 (T k).2.2.1 ∈ a_wt) (hsm : ref = (T k).1 ∨ Cond.sameField ref (T k).1 (T k).2.1 (T k).2.2.1 ∈ a_wt) (hfin : (T k).2.2.2 = true) (hi2 : M.1.name = "<init>") (hdecl : (T k).1 = M.1.cls) (hn : narrow (ty0 k) v = v) (hfit : fits (ty0 k) v = true) (hf : h.2 a = some (.inr (ci, fs))) (hlen : k < fs.length) (kk : AW l G d c w M Q (pc + 3) lv st (a_up h a (.inr (ci, fs.set k v)))) : AW l G d c w M Q pc lv (v :: .ref a :: st) h := by
  intro p e R s m args below meth cd H locs cells slots mc ms ls F S hl
  obtain ⟨F1, F2, F3, F4, F5, F6, F7, F8, F9, F10, F11⟩ := id F
  obtain ⟨S1, S2, S3, S4, P, S6, S7⟩ := id S
  obtain ⟨hc1, hin, hty, hnm⟩ := hc
  have hK := F9.1
  have hap := va_apart (own := M.1.cls) F7 hin ty0 hty hnm hK hc1
  obtain ⟨hb, r, h1, cell, q1, q2, q3, q4⟩ := P.2.2 a _ hf
  have hr : r = (C, T, N) := Option.some.inj (h1.symm.trans hc1)
  subst hr
  obtain ⟨hS, hfc, kC, hkC, hkind⟩ := hK.1 ci _ hc1
  obtain ⟨cf, kf, fi, f, hi, hsl⟩ := hS k hk
  have hlay := F7 _ (hin _ (u_in_lay hk))
  unfold u_lay at hlay
  rw [if_pos hfin] at hlay
  have hst := (u_facts hfc hkC (u_lays F7 hin hk) hi).1
  have hcf : m.cls = cf := by
    obtain ⟨_, _, c', _, _, _, -, -, hf', -, -, -, hown2, -⟩ := Cond.laysFinal_spec hlay
    have e1 : c' = cf := by have := hi.symm.trans hf'; simp at this; exact this.1.symm
    rw [hdecl] at hown2
    rw [← e1]; exact Option.some.inj (F5.symm.trans hown2)
  have h6 := u_fits hfc hkC hkind (Or.inr hlay) hi (hty k hk) hn hfit
  refine W.putFinK F1 F2 F5 (F7 _ hw) (a_sm F7 hsm _ hi) hst hcf (F6 hi2) (by rw [q2]; exact h6) q1 q3 (by rw [hsl]; exact k2_hasslot (q4 k hk)) rfl rfl hdg fun H' e1 e2 e3 => ?_
  rw [hsl] at e1 ⊢
  exact kk p e R s m args below meth cd H' _ cells slots mc ms ls F ⟨S1, S2, S3, S4, P.set hf ⟨_, hc1, t_OB.to (V := updV (vp_V fs) k v) ⟨_, e1, q2, q3, t_set q4 hap hk v⟩ (fun j _ => vp_updV_set hlen v j)⟩ e2 e3, S6.put e2 e3 hb, S7⟩ hl
/-! rows of numbers -/
theorem aw_iald {a n : Nat} {u : Nat → Int32} {i : Int32} (hdg : decode M.2.1 pc = .ok (.iaload, 1)) (hf : h.2 a = some (.inl (0, n, .inl u))) (hin : vp_in i n) (kk : AW l G d c w M Q (pc + 1) lv (.int (u i.toNatClampNeg) :: st) h) : AW l G d c w M Q pc lv (.int i :: .ref a :: st) h := by
  intro p e R s m args below meth cd H locs cells slots mc ms ls F S hl
  exact va_iald F.1 F.2.1 F.2.2.2.2.2.2.2.2.1.1 (S.2.2.2.2.1.one hf) 0 0 rfl rfl hin hdg (kk p e R s m args below meth cd H locs cells slots mc ms ls F S hl)
theorem aw_lald {a n : Nat} {u : Nat → Int64} {i : Int32} (hdg : decode M.2.1 pc = .ok (.laload, 1)) (hf : h.2 a = some (.inl (1, n, .inr (.inl u)))) (hin : vp_in i n) (kk : AW l G d c w M Q (pc + 1) lv (.long (u i.toNatClampNeg) :: st) h) : AW l G d c w M Q pc lv (.int i :: .ref a :: st) h := by
  intro p e R s m args below meth cd H locs cells slots mc ms ls F S hl
  exact va_lald F.1 F.2.1 F.2.2.2.2.2.2.2.2.1.1 (S.2.2.2.2.1.one hf) 0 1 rfl rfl hin hdg (kk p e R s m args below meth cd H locs cells slots mc ms ls F S hl)
theorem aw_zald {a n : Nat} {u : Nat → Int32} {i : Int32} (hdg : decode M.2.1 pc = .ok (.baload, 1)) (hf : h.2 a = some (.inl (2, n, .inl u))) (hin : vp_in i n) (kk : AW l G d c w M Q (pc + 1) lv (.int (u i.toNatClampNeg) :: st) h) : AW l G d c w M Q pc lv (.int i :: .ref a :: st) h := by
  intro p e R s m args below meth cd H locs cells slots mc ms ls F S hl
  exact va_zald F.1 F.2.1 F.2.2.2.2.2.2.2.2.1.1 (S.2.2.2.2.1.one hf) 0 2 rfl rfl hin hdg (kk p e R s m args below meth cd H locs cells slots mc ms ls F S hl)
theorem aw_alen {a t : Nat} {x : vp_A} (hdg : decode M.2.1 pc = .ok (.arraylength, 1)) (ht : t < 5) (hf : h.2 a = some (.inl (t, x))) (kk : AW l G d c w M Q (pc + 1) lv (.int (Int32.ofNat x.1) :: st) h) : AW l G d c w M Q pc lv (.ref a :: st) h := by
  intro p e R s m args below meth cd H locs cells slots mc ms ls F S hl
  rcases (show t = 0 ∨ t = 1 ∨ t = 2 ∨ t = 3 ∨ t = 4 by omega) with rfl | rfl | rfl | rfl | rfl
  · exact va_alen F.1 F.2.1 F.2.2.2.2.2.2.2.2.1.1 (S.2.2.2.2.1.one hf) 0 0 rfl rfl rfl hdg (kk p e R s m args below meth cd H locs cells slots mc ms ls F S hl)
  · exact va_alen F.1 F.2.1 F.2.2.2.2.2.2.2.2.1.1 (S.2.2.2.2.1.one hf) 0 1 rfl rfl rfl hdg (kk p e R s m args below meth cd H locs cells slots mc ms ls F S hl)
  · exact va_alen F.1 F.2.1 F.2.2.2.2.2.2.2.2.1.1 (S.2.2.2.2.1.one hf) 0 2 rfl rfl rfl hdg (kk p e R s m args below meth cd H locs cells slots mc ms ls F S hl)
  · exact va_alen F.1 F.2.1 F.2.2.2.2.2.2.2.2.1.1 (S.2.2.2.2.1.one hf) 0 3 rfl rfl rfl hdg (kk p e R s m args below meth cd H locs cells slots mc ms ls F S hl)
  · exact va_alen F.1 F.2.1 F.2.2.2.2.2.2.2.2.1.1 (S.2.2.2.2.1.one hf) 0 4 rfl rfl rfl hdg (kk p e R s m args below meth cd H locs cells slots mc ms ls F S hl)
theorem aw_aald {a n t : Nat} {u : Nat → Option Nat} {i : Int32} (hdg : decode M.2.1 pc = .ok (.aaload, 1)) (ht : t = 3 ∨ t = 4) (hf : h.2 a = some (.inl (t, n, .inr (.inr (.inr (.inr u)))))) (hin : vp_in i n) (kk : AW l G d c w M Q (pc + 1) lv (va_rf (u i.toNatClampNeg) :: st) h) : AW l G d c w M Q pc lv (.int i :: .ref a :: st) h := by
  intro p e R s m args below meth cd H locs cells slots mc ms ls F S hl
  rcases ht with rfl | rfl
  · exact va_aldq F.1 F.2.1 F.2.2.2.2.2.2.2.2.1.1 (S.2.2.2.2.1.one hf) 0 3 rfl rfl hin hdg (kk p e R s m args below meth cd H locs cells slots mc ms ls F S hl)
  · exact va_aldq F.1 F.2.1 F.2.2.2.2.2.2.2.2.1.1 (S.2.2.2.2.1.one hf) 0 4 rfl rfl hin hdg (kk p e R s m args below meth cd H locs cells slots mc ms ls F S hl)
theorem aw_iast {a n : Nat} {u : Nat → Int32} {i x : Int32} (hdg : decode M.2.1 pc = .ok (.iastore, 1)) (hf : h.2 a = some (.inl (0, n, .inl u))) (hin : vp_in i n) (kk : AW l G d c w M Q (pc + 1) lv st (a_up h a (.inl (0, n, .inl (upd u i.toNatClampNeg x))))) : AW l G d c w M Q pc lv (.int x :: .int i :: .ref a :: st) h := by
  intro p e R s m args below meth cd H locs cells slots mc ms ls F S hl
  obtain ⟨S1, S2, S3, S4, P, S6, S7⟩ := id S
  have hK := F.2.2.2.2.2.2.2.2.1.1
  obtain ⟨hb, ha⟩ := P.2.2 a _ hf
  refine W.iast F.1 F.2.1 ha ((hK.2 0 _ rfl).1 n (fun j => .int (u j))) (fun q => by cases q) (by show ¬ (i < 0 ∨ (arrV _ _ _).slots.size ≤ _); rw [arrV_size]; exact hin) rfl rfl hdg fun H1 e1 z oq => ?_
  refine kk p e R s m args below meth cd H1 _ cells slots mc ms ls F ⟨S1, S2, S3, S4, P.set hf ?_ z oq, S6.put z oq hb, S7⟩ hl
  show H1[a]? = some (vp_cell _ _)
  rw [e1]
  show some (Cell.setSlot (vp_cell _ _) _ _) = _
  rw [vp_cell_i, vp_cell_i, arrV_store]
  congr 2
  funext q
  by_cases hq : q = i.toNatClampNeg
  · subst hq
    simp [updV, upd]
  · simp [updV, upd, hq]
theorem aw_last {a n : Nat} {u : Nat → Int64} {i : Int32} {x : Int64} (hdg : decode M.2.1 pc = .ok (.lastore, 1)) (hf : h.2 a = some (.inl (1, n, .inr (.inl u)))) (hin : vp_in i n) (kk : AW l G d c w M Q (pc + 1) lv st (a_up h a (.inl (1, n, .inr (.inl (vp_updL u i.toNatClampNeg x)))))) : AW l G d c w M Q pc lv (.long x :: .int i :: .ref a :: st) h := by
  intro p e R s m args below meth cd H locs cells slots mc ms ls F S hl
  obtain ⟨S1, S2, S3, S4, P, S6, S7⟩ := id S
  have hK := F.2.2.2.2.2.2.2.2.1.1
  obtain ⟨hb, ha⟩ := P.2.2 a _ hf
  refine W.last F.1 F.2.1 ha ((hK.2 1 _ rfl).1 n (fun j => .long (u j))) (fun q => by cases q) (by show ¬ (i < 0 ∨ (arrV _ _ _).slots.size ≤ _); rw [arrV_size]; exact hin) rfl rfl hdg fun H1 e1 z oq => ?_
  refine kk p e R s m args below meth cd H1 _ cells slots mc ms ls F ⟨S1, S2, S3, S4, P.set hf ?_ z oq, S6.put z oq hb, S7⟩ hl
  show H1[a]? = some (vp_cell _ _)
  rw [e1]
  show some (Cell.setSlot (vp_cell _ _) _ _) = _
  rw [vp_cell_l, vp_cell_l, arrV_store]
  congr 2
  funext q
  by_cases hq : q = i.toNatClampNeg
  · subst hq
    simp [updV, vp_updL]
  · simp [updV, vp_updL, hq]
theorem aw_zast {a n : Nat} {u : Nat → Int32} {i x : Int32} (hdg : decode M.2.1 pc = .ok (.bastore, 1)) (hf : h.2 a = some (.inl (2, n, .inl u))) (hin : vp_in i n) (kk : AW l G d c w M Q (pc + 1) lv st (a_up h a (.inl (2, n, .inl (upd u i.toNatClampNeg (vp_nar .boolean x)))))) : AW l G d c w M Q pc lv (.int x :: .int i :: .ref a :: st) h := by
  intro p e R s m args below meth cd H locs cells slots mc ms ls F S hl
  obtain ⟨S1, S2, S3, S4, P, S6, S7⟩ := id S
  have hK := F.2.2.2.2.2.2.2.2.1.1
  obtain ⟨hb, ha⟩ := P.2.2 a _ hf
  refine W.zast F.1 F.2.1 ha ((hK.2 2 _ rfl).1 n (fun j => .int (u j))) (fun q => by cases q) (by show ¬ (i < 0 ∨ (arrV _ _ _).slots.size ≤ _); rw [arrV_size]; exact hin) rfl rfl hdg fun H1 e1 z oq => ?_
  refine kk p e R s m args below meth cd H1 _ cells slots mc ms ls F ⟨S1, S2, S3, S4, P.set hf ?_ z oq, S6.put z oq hb, S7⟩ hl
  show H1[a]? = some (vp_cell _ _)
  rw [e1]
  show some (Cell.setSlot (vp_cell _ _) _ _) = _
  rw [vp_cell_i, vp_cell_i, arrV_store]
  congr 2
  funext q
  by_cases hq : q = i.toNatClampNeg
  · subst hq
    simp [updV, upd, vp_nar]
    try rfl
  · simp [updV, upd, hq]
/-! the statics' rows and the script -/
theorem aw_gets {index : Nat} {ref : String} (i : Nat) (hi : i < 5) (hdg : decode M.2.1 pc = .ok (.getstatic index, 3)) (hr : ref = (a_sn i).1) (hw : Cond.fieldLink M.1.cls index ref (a_sn i).2 "[I" ∈ a_wt) (kk : AW l G d c w M Q (pc + 3) lv (.ref (G.2.2.2 i).1 :: st) h) : AW l G d c w M Q pc lv st h := by
  subst hr
  intro p e R s m args below meth cd H locs cells slots mc ms ls F S hl
  obtain ⟨F1, F2, F3, F4, F5, F6, F7, F8, F9, F10, F11⟩ := id F
  exact va_gets F1 F2 (F9.2.2.1 i hi) S.2.2.2.2.2.1 F5 (F7 _ hw) (fun x q => q) hdg (kk p e R s m args below meth cd H locs cells slots mc ms ls F S hl)
theorem aw_tab (i : Nat) (hi : i < 6) {j : Int32} (hdg : decode M.2.1 pc = .ok (.iaload, 1)) (hin : vp_in j (G.2.2.2 i).2.1) (kk : AW l G d c w M Q (pc + 1) lv (.int ((G.2.2.2 i).2.2 j.toNatClampNeg) :: st) h) : AW l G d c w M Q pc lv (.int j :: .ref (G.2.2.2 i).1 :: st) h := by
  intro p e R s m args below meth cd H locs cells slots mc ms ls F S hl
  obtain ⟨F1, F2, F3, F4, F5, F6, F7, F8, F9, F10, F11⟩ := id F
  exact va_ti F1 F2 (F9.2.2.2.1 i hi) S.2.2.2.2.2.1 hin rfl hdg (kk p e R s m args below meth cd H locs cells slots mc ms ls F S hl)
theorem aw_tlen (i : Nat) (hi : i < 6) (hdg : decode M.2.1 pc = .ok (.arraylength, 1)) (kk : AW l G d c w M Q (pc + 1) lv (.int (Int32.ofNat (G.2.2.2 i).2.1) :: st) h) : AW l G d c w M Q pc lv (.ref (G.2.2.2 i).1 :: st) h := by
  intro p e R s m args below meth cd H locs cells slots mc ms ls F S hl
  obtain ⟨F1, F2, F3, F4, F5, F6, F7, F8, F9, F10, F11⟩ := id F
  exact va_tlen F1 F2 (F9.2.2.2.1 i hi) S.2.2.2.2.2.1 rfl hdg (kk p e R s m args below meth cd H locs cells slots mc ms ls F S hl)
/-! ends -/
theorem a_fin {s t : State} {H : Heap} {locs : List Loc} {R : Room} {cells slots mc ms : Nat} {args : Array Value} {v : Option Value} (S : a_S G c w h R s H locs cells slots mc ms) (hq : Q v h) (ht : t.heap = H) : a_Q G Q args s (.returned v) t := ⟨⟨v, h, rfl, hq, by rw [ht]; exact S.2.2.2.2.1⟩, S.2.2.2.2.2.1.F ht⟩
theorem aw_iret {x : Int32} {ty : FieldType} (hdg : decode M.2.1 pc = .ok (.ireturn, 1)) (hr : M.2.2.2 = some ty) (hn : narrow ty (.int x) = .int x) (hq : Q (some (.int x)) h) : AW l G d c w M Q pc lv [.int x] h := by
  intro p e R s m args below meth cd H locs cells slots mc ms ls F S hl
  refine W.widen (k := mc) (n := ms) (Nat.le_trans (Nat.le_add_right _ _) S.1) (Nat.le_trans (Nat.le_add_right _ _) S.2.1) ?_
  exact W.zret F.1 F.2.1 (F.2.2.1.trans hr) hn (fun t ht _ => a_fin S hq ht) S.2.2.2.2.2.1.2.2 hdg F.2.2.2.2.2.2.2.1
theorem aw_lret {x : Int64} (hdg : decode M.2.1 pc = .ok (.lreturn, 1)) (hr : M.2.2.2 = some .long) (hq : Q (some (.long x)) h) : AW l G d c w M Q pc lv [.long x] h := by
  intro p e R s m args below meth cd H locs cells slots mc ms ls F S hl
  refine W.widen (k := mc) (n := ms) (Nat.le_trans (Nat.le_add_right _ _) S.1) (Nat.le_trans (Nat.le_add_right _ _) S.2.1) ?_
  exact W.lret F.1 F.2.1 (F.2.2.1.trans hr) (fun t ht _ => a_fin S hq ht) S.2.2.2.2.2.1.2.2 hdg F.2.2.2.2.2.2.2.1
theorem aw_vret (hdg : decode M.2.1 pc = .ok (.return_, 1)) (hr : M.2.2.2 = none) (hq : Q none h) : AW l G d c w M Q pc lv [] h := by
  intro p e R s m args below meth cd H locs cells slots mc ms ls F S hl
  refine W.widen (k := mc) (n := ms) (Nat.le_trans (Nat.le_add_right _ _) S.1) (Nat.le_trans (Nat.le_add_right _ _) S.2.1) ?_
  exact W.vret F.1 F.2.1 (F.2.2.1.trans hr) (fun t ht _ => a_fin S hq ht) S.2.2.2.2.2.1.2.2 hdg F.2.2.2.2.2.2.2.1
theorem aw_aret {r : Option Nat} {C : String} (hdg : decode M.2.1 pc = .ok (.areturn, 1)) (hr : M.2.2.2 = some (.object C)) (hq : Q (some (va_rf r)) h) : AW l G d c w M Q pc lv [va_rf r] h := by
  intro p e R s m args below meth cd H locs cells slots mc ms ls F S hl
  refine W.widen (k := mc) (n := ms) (Nat.le_trans (Nat.le_add_right _ _) S.1) (Nat.le_trans (Nat.le_add_right _ _) S.2.1) ?_
  exact W.aret F.1 F.2.1 (F.2.2.1.trans hr) (Or.inl ⟨C, rfl⟩) (by cases r with | none => exact Or.inl rfl | some a => exact Or.inr ⟨a, rfl⟩) (fun t ht _ => a_fin S hq ht) S.2.2.2.2.2.1.2.2 hdg F.2.2.2.2.2.2.2.1
end AWH
