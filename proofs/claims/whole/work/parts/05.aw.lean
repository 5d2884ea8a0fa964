/-! ONE WORLD FOR ALL METHODS. The abstract heap: the next address, and the cells that were made since the law began. -/
abbrev aC : Type := (Nat × vp_A) ⊕ (Nat × List Value)
abbrev aH : Type := Nat × (Nat → Option aC)
/-- where the new cells begin; the classes' numbers and slots; the rows' classes by tag; tables: address, length, contents (0 .. 4 the statics, 5 the script) -/
abbrev aG : Type := Nat × va_G × (Nat → ClassId) × (Nat → Nat × Nat × (Nat → Int32))
/-- a method: its name, bytes, locals, result -/
abbrev aM : Type := MethodName × ByteArray × Nat × Option FieldType
def a_ty (t : Nat) : FieldType := match t with
  | 0 => .int
  | 1 => .long
  | 2 => .boolean
  | 3 => .object "ThrowReports$Node"
  | _ => .object "ThrowReports$State"
def a_tys (dA : Nat → ClassId) : List (ClassId × FieldType) := [(dA 0, a_ty 0), (dA 1, a_ty 1), (dA 2, a_ty 2), (dA 3, a_ty 3), (dA 4, a_ty 4)]
def a_E (dA : Nat → ClassId) (c : aC) : va_E := match c with
  | .inl x => .inl (dA x.1, x.2)
  | .inr o => .inr o
def a_A (G : aG) : Nat → Prop := fun q => G.1 ≤ q
def a_HP (G : aG) (h : aH) (H : Heap) : Prop := H.size = h.1 ∧ G.1 ≤ h.1 ∧ ∀ (a : Nat) (c : aC), h.2 a = some c → G.1 ≤ a ∧ va_at G.2.1 vwCl (a, a_E G.2.2.1 c) H
def a_up (h : aH) (a : Nat) (c : aC) : aH := (h.1, va_up h.2 a (some c))
def a_nw (h : aH) (c : aC) : aH := (h.1 + 1, va_up h.2 h.1 (some c))
theorem a_HP.lt {G : aG} {h : aH} {H : Heap} (P : a_HP G h H) {a : Nat} {c : aC} (hc : h.2 a = some c) : a < h.1 := by
  rw [← P.1]
  exact (P.2.2 a c hc).2.lt
theorem a_HP.set {G : aG} {h : aH} {H H1 : Heap} {a : Nat} {c0 c : aC} (P : a_HP G h H) (hc : h.2 a = some c0) (he : va_at G.2.1 vwCl (a, a_E G.2.2.1 c) H1) (hz : H1.size = H.size) (oq : ∀ q : Nat, q ≠ a → H1[q]? = H[q]?) : a_HP G (a_up h a c) H1 := by
  refine ⟨hz.trans P.1, P.2.1, fun b x hb => ?_⟩
  by_cases e : b = a
  · subst e
    simp [a_up, va_up] at hb
    subst hb
    exact ⟨(P.2.2 b c0 hc).1, he⟩
  · simp [a_up, va_up, e] at hb
    exact ⟨(P.2.2 b x hb).1, (P.2.2 b x hb).2.kept (oq b e)⟩
theorem a_HP.push {G : aG} {h : aH} {H H1 : Heap} {c : aC} (P : a_HP G h H) (he : va_at G.2.1 vwCl (H.size, a_E G.2.2.1 c) H1) (hz : H1.size = H.size + 1) (oq : ∀ q : Nat, q < H.size → H1[q]? = H[q]?) : a_HP G (a_nw h c) H1 := by
  refine ⟨by rw [hz, P.1]; rfl, Nat.le_succ_of_le P.2.1, fun b x hb => ?_⟩
  by_cases e : b = h.1
  · subst e
    simp [a_nw, va_up] at hb
    subst hb
    rw [← P.1]
    exact ⟨by rw [P.1]; exact P.2.1, he⟩
  · simp [a_nw, va_up, e] at hb
    exact ⟨(P.2.2 b x hb).1, (P.2.2 b x hb).2.kept (oq b (by rw [P.1]; exact P.lt hb))⟩
/-! what stays true of the tables -/
def a_nwk (w : Cond) : Bool := match w with
  | .fieldLinkNest _ _ _ _ _ _ => true
  | .methodLinkNest _ _ _ _ => true
  | .declares _ => true
  | .castable _ _ => true
  | _ => false
theorem a_nw_on {w : Cond} (h : a_nwk w = true) : w.onTables = true := by
  cases w <;> first | rfl | (simp [a_nwk] at h)
theorem a_nw_warm {w : Cond} (h : a_nwk w = true) {s U : State} (hW : s.WarmedH U.vm) (hZ : va_Nw w s) : va_Nw w U := by
  cases w <;> first | exact va_Nw.warmF hW hZ | exact va_Nw.warmM hW hZ | exact va_Nw.warmD hW hZ | exact va_Nw.warmC hW hZ | (simp [a_nwk] at h)
theorem a_nws_ok : ∀ w ∈ a_nws, a_nwk w = true := by decide +kernel
/-- the statics: class, name -/
def a_sn (i : Nat) : String × String := match i with
  | 0 => ("ThrowReports$Act", "FORMS")
  | 1 => ("ThrowReports$Kinds", "ARE")
  | 2 => ("ThrowReports$Kinds", "MEET")
  | 3 => ("ThrowReports$Kinds", "TAKE_ALL")
  | _ => ("ThrowReports$Kinds", "ITEMS")
def a_nc : List (String × String) := [(RX0, RX3), (RX1, RX3), (RX2, RX3)]
def a_KN (G : aG) (U : State) : Prop :=
  va_K G.2.1 vwCl (a_tys G.2.2.1) U ∧ (∀ w ∈ a_nws, va_Nw w U) ∧ (∀ i, i < 5 → va_Z (a_sn i).1 (a_sn i).2 "[I" (.ref (G.2.2.2 i).1) (a_A G) U U.heap) ∧ (∀ i, i < 6 → va_T .int (G.2.2.2 i).1 (G.2.2.2 i).2.1 (fun j => .int ((G.2.2.2 i).2.2 j)) (a_A G) U U.heap) ∧ (∀ q ∈ a_nc, va_Nc q.1 q.2 U) ∧ va_AO RX6 U ∧ va_AO RX7 U
theorem a_KN.mv {G : aG} {s U : State} (h : a_KN G s) (hW : s.WarmedH U.vm) (hq : ∀ a : Nat, a < s.heap.size → ¬ a_A G a → U.heap[a]? = s.heap[a]?) : a_KN G U := by
  obtain ⟨h1, h2, h3, h4, h5, h6, h7⟩ := h
  exact ⟨va_K.moved hW.alike h1, fun w hw => a_nw_warm (a_nws_ok w hw) hW (h2 w hw), fun i hi => ((h3 i hi).kept hq).moved hW.alike, fun i hi => ((h4 i hi).kept hq).moved hW.alike, fun q hm => (h5 q hm).moved hW.alike, h6.moved hW.alike, h7.moved hW.alike⟩
theorem a_KN.same {G : aG} {s U : State} (h : a_KN G s) (hv : s.vm = U.vm) (hh : U.heap = s.heap) : a_KN G U := by
  obtain ⟨h1, h2, h3, h4, h5, h6, h7⟩ := h
  have hA : s.vm.Alike U.vm := by rw [hv]; exact Vm.Alike.refl _
  exact ⟨va_K.moved hA h1, fun w hw => va_Nw.same (a_nw_on (a_nws_ok w hw)) hv (h2 w hw), fun i hi => by rw [hh]; exact (h3 i hi).moved hA, fun i hi => by rw [hh]; exact (h4 i hi).moved hA, fun q hm => (h5 q hm).moved hA, h6.moved hA, h7.moved hA⟩
/-! THE JUDGEMENT: from here the method comes to its end, with an answer and a heap that Q takes. d: levels of calls left; c, w: cells and slots left -/
def a_k : Nat := 40
def a_F (G : aG) (d : Nat) (M : aM) (p : Program) (R : Room) (s : State) (m : MethodId) (args : Array Value) (meth : Method) (cd : Code) : Prop :=
  p.tables.exec = Jvm.exec ∧ cd.code = M.2.1 ∧ meth.sig.returnType = M.2.2.2 ∧ cd.maxLocals = M.2.2.1 ∧ s.vm.findClass M.1.cls = some m.cls ∧ (M.1.name = "<init>" → meth.name = "<init>") ∧ (∀ w ∈ a_wt, w.before args s = true) ∧ meth.locks = false ∧ a_KN G s ∧ d ≤ R.frames ∧ a_k * d ≤ R.locals
def a_S (G : aG) (c w : Nat) (h : aH) (R : Room) (s : State) (H : Heap) (locs : List Loc) (cells slots mc ms : Nat) : Prop :=
  cells + c ≤ mc ∧ slots + w ≤ ms ∧ mc ≤ R.cells ∧ ms ≤ R.slots ∧ a_HP G h H ∧ va_S (a_A G) s.heap H locs ∧ G.1 ≤ s.heap.size
def a_Q (G : aG) (Q : Option Value → aH → Prop) : Array Value → State → Outcome → State → Prop := fun _ st oc t => (∃ (v : Option Value) (h : aH), oc = .returned v ∧ Q v h ∧ a_HP G h t.heap) ∧ va_F (a_A G) st t
def AW (l : Launch) (G : aG) (d c w : Nat) (M : aM) (Q : Option Value → aH → Prop) (pc : Nat) (lv : List (Nat × Value)) (st : List Value) (h : aH) : Prop :=
  ∀ (p : Program) (e : Env) (R : Room) (s : State) (m : MethodId) (args : Array Value) (below : List Frame) (meth : Method) (cd : Code) (H : Heap) (locs : List Loc) (cells slots mc ms : Nat) (ls : Array Slot),
    a_F G d M p R s m args meth cd → a_S G c w h R s H locs cells slots mc ms → lv_has ls M.2.2.1 lv →
    W p l e R s m args below meth cd H locs cells slots (MQ below (a_Q G Q) args s mc ms (a_A G)) (F0 m pc ls st)
def a_ws (M : aM) : List Cond := .code M.1 M.2.1 M.2.2.1 M.2.2.2 :: a_wt
/-- a method's contract: called so, with this heap, it comes back with an answer and a heap that Q takes -/
def AC (l : Launch) (G : aG) (d c w : Nat) (M : aM) (av : List Value) (h : aH) (Q : Option Value → aH → Prop) : Prop :=
  Met l M.1 (a_ws M) ({ frames := d, cells := c, slots := w, locals := a_k * d }) (va_Pc av (fun U => a_KN G U ∧ a_HP G h U.heap)) (a_Q G Q) c w (a_A G)
theorem aw_iconst {l : Launch} {G : aG} {d c w : Nat} {M : aM} {Q : Option Value → aH → Prop} {pc : Nat} {lv : List (Nat × Value)} {st : List Value} {h : aH} {n : Int} {v : Int32} (hdg : decode M.2.1 pc = .ok (.iconst n, 1)) (hv : Int32.ofInt n = v) (k : AW l G d c w M Q (pc + 1) lv (.int v :: st) h) : AW l G d c w M Q pc lv (st) h :=
  fun p e R s m args below meth cd H locs cells slots mc ms ls F S hl => lv_iconst F.1 F.2.1 hdg hv (k p e R s m args below meth cd H locs cells slots mc ms ls F S hl)
theorem aw_bipush {l : Launch} {G : aG} {d c w : Nat} {M : aM} {Q : Option Value → aH → Prop} {pc : Nat} {lv : List (Nat × Value)} {st : List Value} {h : aH} {n : Int} {v : Int32} (hdg : decode M.2.1 pc = .ok (.bipush n, 2)) (hv : (Int8.ofInt n).toInt32 = v) (k : AW l G d c w M Q (pc + 2) lv (.int v :: st) h) : AW l G d c w M Q pc lv (st) h :=
  fun p e R s m args below meth cd H locs cells slots mc ms ls F S hl => lv_bipush F.1 F.2.1 hdg hv (k p e R s m args below meth cd H locs cells slots mc ms ls F S hl)
theorem aw_sipush {l : Launch} {G : aG} {d c w : Nat} {M : aM} {Q : Option Value → aH → Prop} {pc : Nat} {lv : List (Nat × Value)} {st : List Value} {h : aH} {n : Int} {v : Int32} (hdg : decode M.2.1 pc = .ok (.sipush n, 3)) (hv : (Int16.ofInt n).toInt32 = v) (k : AW l G d c w M Q (pc + 3) lv (.int v :: st) h) : AW l G d c w M Q pc lv (st) h :=
  fun p e R s m args below meth cd H locs cells slots mc ms ls F S hl => lv_sipush F.1 F.2.1 hdg hv (k p e R s m args below meth cd H locs cells slots mc ms ls F S hl)
theorem aw_lconst {l : Launch} {G : aG} {d c w : Nat} {M : aM} {Q : Option Value → aH → Prop} {pc : Nat} {lv : List (Nat × Value)} {st : List Value} {h : aH} {n : Fin 2} {v : Int64} (hdg : decode M.2.1 pc = .ok (.lconst n, 1)) (hv : Int64.ofNat (n : Nat) = v) (k : AW l G d c w M Q (pc + 1) lv (.long v :: st) h) : AW l G d c w M Q pc lv (st) h :=
  fun p e R s m args below meth cd H locs cells slots mc ms ls F S hl => lv_lconst F.1 F.2.1 hdg hv (k p e R s m args below meth cd H locs cells slots mc ms ls F S hl)
theorem aw_null {l : Launch} {G : aG} {d c w : Nat} {M : aM} {Q : Option Value → aH → Prop} {pc : Nat} {lv : List (Nat × Value)} {st : List Value} {h : aH}  (hdg : decode M.2.1 pc = .ok (.aconst_null, 1))  (k : AW l G d c w M Q (pc + 1) lv (.null :: st) h) : AW l G d c w M Q pc lv (st) h :=
  fun p e R s m args below meth cd H locs cells slots mc ms ls F S hl => lv_null F.1 F.2.1 hdg  (k p e R s m args below meth cd H locs cells slots mc ms ls F S hl)
theorem aw_iload_n {l : Launch} {G : aG} {d c w : Nat} {M : aM} {Q : Option Value → aH → Prop} {pc : Nat} {lv : List (Nat × Value)} {st : List Value} {h : aH} {n : Fin 4} {x : Int32} {i : Nat} (q : Nat) (hdg : decode M.2.1 pc = .ok (.iload_n n, 1)) (hi : (n : Nat) = i) (hq : lv[q]? = some (i, .int x)) (k : AW l G d c w M Q (pc + 1) lv (.int x :: st) h) : AW l G d c w M Q pc lv (st) h :=
  fun p e R s m args below meth cd H locs cells slots mc ms ls F S hl => lv_iload_n F.1 F.2.1 hdg hi (lv_at hl q hq) (k p e R s m args below meth cd H locs cells slots mc ms ls F S hl)
theorem aw_iload {l : Launch} {G : aG} {d c w : Nat} {M : aM} {Q : Option Value → aH → Prop} {pc : Nat} {lv : List (Nat × Value)} {st : List Value} {h : aH} {x : Int32} {i : Nat} (q : Nat) (hdg : decode M.2.1 pc = .ok (.iload i, 2)) (hq : lv[q]? = some (i, .int x)) (k : AW l G d c w M Q (pc + 2) lv (.int x :: st) h) : AW l G d c w M Q pc lv (st) h :=
  fun p e R s m args below meth cd H locs cells slots mc ms ls F S hl => lv_iload F.1 F.2.1 hdg (lv_at hl q hq) (k p e R s m args below meth cd H locs cells slots mc ms ls F S hl)
theorem aw_lload_n {l : Launch} {G : aG} {d c w : Nat} {M : aM} {Q : Option Value → aH → Prop} {pc : Nat} {lv : List (Nat × Value)} {st : List Value} {h : aH} {n : Fin 4} {x : Int64} {i : Nat} (q : Nat) (hdg : decode M.2.1 pc = .ok (.lload_n n, 1)) (hi : (n : Nat) = i) (hq : lv[q]? = some (i, .long x)) (k : AW l G d c w M Q (pc + 1) lv (.long x :: st) h) : AW l G d c w M Q pc lv (st) h :=
  fun p e R s m args below meth cd H locs cells slots mc ms ls F S hl => lv_lload_n F.1 F.2.1 hdg hi (lv_at hl q hq) (k p e R s m args below meth cd H locs cells slots mc ms ls F S hl)
theorem aw_lload {l : Launch} {G : aG} {d c w : Nat} {M : aM} {Q : Option Value → aH → Prop} {pc : Nat} {lv : List (Nat × Value)} {st : List Value} {h : aH} {x : Int64} {i : Nat} (q : Nat) (hdg : decode M.2.1 pc = .ok (.lload i, 2)) (hq : lv[q]? = some (i, .long x)) (k : AW l G d c w M Q (pc + 2) lv (.long x :: st) h) : AW l G d c w M Q pc lv (st) h :=
  fun p e R s m args below meth cd H locs cells slots mc ms ls F S hl => lv_lload F.1 F.2.1 hdg (lv_at hl q hq) (k p e R s m args below meth cd H locs cells slots mc ms ls F S hl)
theorem aw_aload_n {l : Launch} {G : aG} {d c w : Nat} {M : aM} {Q : Option Value → aH → Prop} {pc : Nat} {lv : List (Nat × Value)} {st : List Value} {h : aH} {n : Fin 4} {x : Nat} {i : Nat} (q : Nat) (hdg : decode M.2.1 pc = .ok (.aload_n n, 1)) (hi : (n : Nat) = i) (hq : lv[q]? = some (i, .ref x)) (k : AW l G d c w M Q (pc + 1) lv (.ref x :: st) h) : AW l G d c w M Q pc lv (st) h :=
  fun p e R s m args below meth cd H locs cells slots mc ms ls F S hl => lv_aload_n F.1 F.2.1 hdg hi (lv_at hl q hq) (k p e R s m args below meth cd H locs cells slots mc ms ls F S hl)
theorem aw_aload {l : Launch} {G : aG} {d c w : Nat} {M : aM} {Q : Option Value → aH → Prop} {pc : Nat} {lv : List (Nat × Value)} {st : List Value} {h : aH} {x : Nat} {i : Nat} (q : Nat) (hdg : decode M.2.1 pc = .ok (.aload i, 2)) (hq : lv[q]? = some (i, .ref x)) (k : AW l G d c w M Q (pc + 2) lv (.ref x :: st) h) : AW l G d c w M Q pc lv (st) h :=
  fun p e R s m args below meth cd H locs cells slots mc ms ls F S hl => lv_aload F.1 F.2.1 hdg (lv_at hl q hq) (k p e R s m args below meth cd H locs cells slots mc ms ls F S hl)
theorem aw_aload_nQ {l : Launch} {G : aG} {d c w : Nat} {M : aM} {Q : Option Value → aH → Prop} {pc : Nat} {lv : List (Nat × Value)} {st : List Value} {h : aH} {n : Fin 4} {r : Option Nat} {i : Nat} (q : Nat) (hdg : decode M.2.1 pc = .ok (.aload_n n, 1)) (hi : (n : Nat) = i) (hq : lv[q]? = some (i, va_rf r)) (k : AW l G d c w M Q (pc + 1) lv (va_rf r :: st) h) : AW l G d c w M Q pc lv st h := by
  cases r with
  | none => exact fun p e R s m args below meth cd H locs cells slots mc ms ls F S hl => lv_aload_nN F.1 F.2.1 hdg hi (lv_at hl q hq) (k p e R s m args below meth cd H locs cells slots mc ms ls F S hl)
  | some x => exact fun p e R s m args below meth cd H locs cells slots mc ms ls F S hl => lv_aload_n F.1 F.2.1 hdg hi (lv_at hl q hq) (k p e R s m args below meth cd H locs cells slots mc ms ls F S hl)
theorem aw_aloadQ {l : Launch} {G : aG} {d c w : Nat} {M : aM} {Q : Option Value → aH → Prop} {pc : Nat} {lv : List (Nat × Value)} {st : List Value} {h : aH} {r : Option Nat} {i : Nat} (q : Nat) (hdg : decode M.2.1 pc = .ok (.aload i, 2)) (hq : lv[q]? = some (i, va_rf r)) (k : AW l G d c w M Q (pc + 2) lv (va_rf r :: st) h) : AW l G d c w M Q pc lv st h := by
  cases r with
  | none => exact fun p e R s m args below meth cd H locs cells slots mc ms ls F S hl => lv_aloadN F.1 F.2.1 hdg (lv_at hl q hq) (k p e R s m args below meth cd H locs cells slots mc ms ls F S hl)
  | some x => exact fun p e R s m args below meth cd H locs cells slots mc ms ls F S hl => lv_aload F.1 F.2.1 hdg (lv_at hl q hq) (k p e R s m args below meth cd H locs cells slots mc ms ls F S hl)
theorem aw_istore_n {l : Launch} {G : aG} {d c w : Nat} {M : aM} {Q : Option Value → aH → Prop} {pc : Nat} {lv : List (Nat × Value)} {st : List Value} {h : aH} {n : Fin 4} {x : Int32} {i : Nat} {lv' : List (Nat × Value)} (hdg : decode M.2.1 pc = .ok (.istore_n n, 1)) (hi : (n : Nat) = i) (hn : i < M.2.2.1) (hv : (i, Value.int x) :: lv.filter (fun q => !(q.1 == i) && !(q.1 + 1 == i && q.2.category == 2)) = lv') (k : AW l G d c w M Q (pc + 1) lv' st h) : AW l G d c w M Q pc lv (.int x :: st) h :=
  fun p e R s m args below meth cd H locs cells slots mc ms ls F S hl => lv_istore_n F.1 F.2.1 hdg hi hl hn hv (fun ls hl => k p e R s m args below meth cd H locs cells slots mc ms ls F S hl)
theorem aw_istore {l : Launch} {G : aG} {d c w : Nat} {M : aM} {Q : Option Value → aH → Prop} {pc : Nat} {lv : List (Nat × Value)} {st : List Value} {h : aH} {x : Int32} {i : Nat} {lv' : List (Nat × Value)} (hdg : decode M.2.1 pc = .ok (.istore i, 2)) (hn : i < M.2.2.1) (hv : (i, Value.int x) :: lv.filter (fun q => !(q.1 == i) && !(q.1 + 1 == i && q.2.category == 2)) = lv') (k : AW l G d c w M Q (pc + 2) lv' st h) : AW l G d c w M Q pc lv (.int x :: st) h :=
  fun p e R s m args below meth cd H locs cells slots mc ms ls F S hl => lv_istore F.1 F.2.1 hdg hl hn hv (fun ls hl => k p e R s m args below meth cd H locs cells slots mc ms ls F S hl)
theorem aw_astore_n {l : Launch} {G : aG} {d c w : Nat} {M : aM} {Q : Option Value → aH → Prop} {pc : Nat} {lv : List (Nat × Value)} {st : List Value} {h : aH} {n : Fin 4} {x : Nat} {i : Nat} {lv' : List (Nat × Value)} (hdg : decode M.2.1 pc = .ok (.astore_n n, 1)) (hi : (n : Nat) = i) (hn : i < M.2.2.1) (hv : (i, Value.ref x) :: lv.filter (fun q => !(q.1 == i) && !(q.1 + 1 == i && q.2.category == 2)) = lv') (k : AW l G d c w M Q (pc + 1) lv' st h) : AW l G d c w M Q pc lv (.ref x :: st) h :=
  fun p e R s m args below meth cd H locs cells slots mc ms ls F S hl => lv_astore_n F.1 F.2.1 hdg hi hl hn hv (fun ls hl => k p e R s m args below meth cd H locs cells slots mc ms ls F S hl)
theorem aw_astore {l : Launch} {G : aG} {d c w : Nat} {M : aM} {Q : Option Value → aH → Prop} {pc : Nat} {lv : List (Nat × Value)} {st : List Value} {h : aH} {x : Nat} {i : Nat} {lv' : List (Nat × Value)} (hdg : decode M.2.1 pc = .ok (.astore i, 2)) (hn : i < M.2.2.1) (hv : (i, Value.ref x) :: lv.filter (fun q => !(q.1 == i) && !(q.1 + 1 == i && q.2.category == 2)) = lv') (k : AW l G d c w M Q (pc + 2) lv' st h) : AW l G d c w M Q pc lv (.ref x :: st) h :=
  fun p e R s m args below meth cd H locs cells slots mc ms ls F S hl => lv_astore F.1 F.2.1 hdg hl hn hv (fun ls hl => k p e R s m args below meth cd H locs cells slots mc ms ls F S hl)
theorem aw_lstore_n {l : Launch} {G : aG} {d c w : Nat} {M : aM} {Q : Option Value → aH → Prop} {pc : Nat} {lv : List (Nat × Value)} {st : List Value} {h : aH} {n : Fin 4} {x : Int64} {i : Nat} {lv' : List (Nat × Value)} (hdg : decode M.2.1 pc = .ok (.lstore_n n, 1)) (hi : (n : Nat) = i) (hn : i + 1 < M.2.2.1) (hv : (i, Value.long x) :: lv.filter (fun q => !(q.1 == i) && (!(q.1 == i + 1) && !(q.1 + 1 == i && q.2.category == 2))) = lv') (k : AW l G d c w M Q (pc + 1) lv' st h) : AW l G d c w M Q pc lv (.long x :: st) h :=
  fun p e R s m args below meth cd H locs cells slots mc ms ls F S hl => lv_lstore_n F.1 F.2.1 hdg hi hl hn hv (fun ls hl => k p e R s m args below meth cd H locs cells slots mc ms ls F S hl)
theorem aw_lstore {l : Launch} {G : aG} {d c w : Nat} {M : aM} {Q : Option Value → aH → Prop} {pc : Nat} {lv : List (Nat × Value)} {st : List Value} {h : aH} {x : Int64} {i : Nat} {lv' : List (Nat × Value)} (hdg : decode M.2.1 pc = .ok (.lstore i, 2)) (hn : i + 1 < M.2.2.1) (hv : (i, Value.long x) :: lv.filter (fun q => !(q.1 == i) && (!(q.1 == i + 1) && !(q.1 + 1 == i && q.2.category == 2))) = lv') (k : AW l G d c w M Q (pc + 2) lv' st h) : AW l G d c w M Q pc lv (.long x :: st) h :=
  fun p e R s m args below meth cd H locs cells slots mc ms ls F S hl => lv_lstore F.1 F.2.1 hdg hl hn hv (fun ls hl => k p e R s m args below meth cd H locs cells slots mc ms ls F S hl)
theorem aw_iinc {l : Launch} {G : aG} {d c w : Nat} {M : aM} {Q : Option Value → aH → Prop} {pc : Nat} {lv : List (Nat × Value)} {st : List Value} {h : aH} {x v : Int32} {n : Int} {i : Nat} {lv' : List (Nat × Value)} (q : Nat) (hdg : decode M.2.1 pc = .ok (.iinc i n, 3)) (hq : lv[q]? = some (i, .int x)) (hv : x + Int32.ofInt n = v) (hn : i < M.2.2.1) (he : (i, Value.int v) :: lv.filter (fun q => !(q.1 == i) && !(q.1 + 1 == i && q.2.category == 2)) = lv') (k : AW l G d c w M Q (pc + 3) lv' st h) : AW l G d c w M Q pc lv st h :=
  fun p e R s m args below meth cd H locs cells slots mc ms ls F S hl => lv_iinc F.1 F.2.1 hdg hl hq hv hn he (fun ls hl => k p e R s m args below meth cd H locs cells slots mc ms ls F S hl)
theorem aw_iadd {l : Launch} {G : aG} {d c w : Nat} {M : aM} {Q : Option Value → aH → Prop} {pc : Nat} {lv : List (Nat × Value)} {st : List Value} {h : aH} {x y : Int32} (hdg : decode M.2.1 pc = .ok (.iadd, 1))  (k : AW l G d c w M Q (pc + 1) lv (.int (x + y) :: st) h) : AW l G d c w M Q pc lv (.int y :: .int x :: st) h :=
  fun p e R s m args below meth cd H locs cells slots mc ms ls F S hl => lv_iadd F.1 F.2.1 hdg  (k p e R s m args below meth cd H locs cells slots mc ms ls F S hl)
theorem aw_isub {l : Launch} {G : aG} {d c w : Nat} {M : aM} {Q : Option Value → aH → Prop} {pc : Nat} {lv : List (Nat × Value)} {st : List Value} {h : aH} {x y : Int32} (hdg : decode M.2.1 pc = .ok (.isub, 1))  (k : AW l G d c w M Q (pc + 1) lv (.int (x - y) :: st) h) : AW l G d c w M Q pc lv (.int y :: .int x :: st) h :=
  fun p e R s m args below meth cd H locs cells slots mc ms ls F S hl => lv_isub F.1 F.2.1 hdg  (k p e R s m args below meth cd H locs cells slots mc ms ls F S hl)
theorem aw_imul {l : Launch} {G : aG} {d c w : Nat} {M : aM} {Q : Option Value → aH → Prop} {pc : Nat} {lv : List (Nat × Value)} {st : List Value} {h : aH} {x y : Int32} (hdg : decode M.2.1 pc = .ok (.imul, 1))  (k : AW l G d c w M Q (pc + 1) lv (.int (x * y) :: st) h) : AW l G d c w M Q pc lv (.int y :: .int x :: st) h :=
  fun p e R s m args below meth cd H locs cells slots mc ms ls F S hl => lv_imul F.1 F.2.1 hdg  (k p e R s m args below meth cd H locs cells slots mc ms ls F S hl)
theorem aw_iand {l : Launch} {G : aG} {d c w : Nat} {M : aM} {Q : Option Value → aH → Prop} {pc : Nat} {lv : List (Nat × Value)} {st : List Value} {h : aH} {x y : Int32} (hdg : decode M.2.1 pc = .ok (.iand, 1))  (k : AW l G d c w M Q (pc + 1) lv (.int (x &&& y) :: st) h) : AW l G d c w M Q pc lv (.int y :: .int x :: st) h :=
  fun p e R s m args below meth cd H locs cells slots mc ms ls F S hl => lv_iand F.1 F.2.1 hdg  (k p e R s m args below meth cd H locs cells slots mc ms ls F S hl)
theorem aw_ior {l : Launch} {G : aG} {d c w : Nat} {M : aM} {Q : Option Value → aH → Prop} {pc : Nat} {lv : List (Nat × Value)} {st : List Value} {h : aH} {x y : Int32} (hdg : decode M.2.1 pc = .ok (.ior, 1))  (k : AW l G d c w M Q (pc + 1) lv (.int (x ||| y) :: st) h) : AW l G d c w M Q pc lv (.int y :: .int x :: st) h :=
  fun p e R s m args below meth cd H locs cells slots mc ms ls F S hl => lv_ior F.1 F.2.1 hdg  (k p e R s m args below meth cd H locs cells slots mc ms ls F S hl)
theorem aw_ixor {l : Launch} {G : aG} {d c w : Nat} {M : aM} {Q : Option Value → aH → Prop} {pc : Nat} {lv : List (Nat × Value)} {st : List Value} {h : aH} {x y : Int32} (hdg : decode M.2.1 pc = .ok (.ixor, 1))  (k : AW l G d c w M Q (pc + 1) lv (.int (x ^^^ y) :: st) h) : AW l G d c w M Q pc lv (.int y :: .int x :: st) h :=
  fun p e R s m args below meth cd H locs cells slots mc ms ls F S hl => lv_ixor F.1 F.2.1 hdg  (k p e R s m args below meth cd H locs cells slots mc ms ls F S hl)
theorem aw_ladd {l : Launch} {G : aG} {d c w : Nat} {M : aM} {Q : Option Value → aH → Prop} {pc : Nat} {lv : List (Nat × Value)} {st : List Value} {h : aH} {x y : Int64} (hdg : decode M.2.1 pc = .ok (.ladd, 1))  (k : AW l G d c w M Q (pc + 1) lv (.long (x + y) :: st) h) : AW l G d c w M Q pc lv (.long y :: .long x :: st) h :=
  fun p e R s m args below meth cd H locs cells slots mc ms ls F S hl => lv_ladd F.1 F.2.1 hdg  (k p e R s m args below meth cd H locs cells slots mc ms ls F S hl)
theorem aw_lsub {l : Launch} {G : aG} {d c w : Nat} {M : aM} {Q : Option Value → aH → Prop} {pc : Nat} {lv : List (Nat × Value)} {st : List Value} {h : aH} {x y : Int64} (hdg : decode M.2.1 pc = .ok (.lsub, 1))  (k : AW l G d c w M Q (pc + 1) lv (.long (x - y) :: st) h) : AW l G d c w M Q pc lv (.long y :: .long x :: st) h :=
  fun p e R s m args below meth cd H locs cells slots mc ms ls F S hl => lv_lsub F.1 F.2.1 hdg  (k p e R s m args below meth cd H locs cells slots mc ms ls F S hl)
theorem aw_lmul {l : Launch} {G : aG} {d c w : Nat} {M : aM} {Q : Option Value → aH → Prop} {pc : Nat} {lv : List (Nat × Value)} {st : List Value} {h : aH} {x y : Int64} (hdg : decode M.2.1 pc = .ok (.lmul, 1))  (k : AW l G d c w M Q (pc + 1) lv (.long (x * y) :: st) h) : AW l G d c w M Q pc lv (.long y :: .long x :: st) h :=
  fun p e R s m args below meth cd H locs cells slots mc ms ls F S hl => lv_lmul F.1 F.2.1 hdg  (k p e R s m args below meth cd H locs cells slots mc ms ls F S hl)
theorem aw_land {l : Launch} {G : aG} {d c w : Nat} {M : aM} {Q : Option Value → aH → Prop} {pc : Nat} {lv : List (Nat × Value)} {st : List Value} {h : aH} {x y : Int64} (hdg : decode M.2.1 pc = .ok (.land, 1))  (k : AW l G d c w M Q (pc + 1) lv (.long (x &&& y) :: st) h) : AW l G d c w M Q pc lv (.long y :: .long x :: st) h :=
  fun p e R s m args below meth cd H locs cells slots mc ms ls F S hl => lv_land F.1 F.2.1 hdg  (k p e R s m args below meth cd H locs cells slots mc ms ls F S hl)
theorem aw_ldiv {l : Launch} {G : aG} {d c w : Nat} {M : aM} {Q : Option Value → aH → Prop} {pc : Nat} {lv : List (Nat × Value)} {st : List Value} {h : aH} {x y : Int64} (hdg : decode M.2.1 pc = .ok (.ldiv, 1)) (hne : ¬ y = 0) (k : AW l G d c w M Q (pc + 1) lv (.long (x / y) :: st) h) : AW l G d c w M Q pc lv (.long y :: .long x :: st) h :=
  fun p e R s m args below meth cd H locs cells slots mc ms ls F S hl => lv_ldiv F.1 F.2.1 hdg hne (k p e R s m args below meth cd H locs cells slots mc ms ls F S hl)
theorem aw_lrem {l : Launch} {G : aG} {d c w : Nat} {M : aM} {Q : Option Value → aH → Prop} {pc : Nat} {lv : List (Nat × Value)} {st : List Value} {h : aH} {x y : Int64} (hdg : decode M.2.1 pc = .ok (.lrem, 1)) (hne : ¬ y = 0) (k : AW l G d c w M Q (pc + 1) lv (.long (x - x / y * y) :: st) h) : AW l G d c w M Q pc lv (.long y :: .long x :: st) h :=
  fun p e R s m args below meth cd H locs cells slots mc ms ls F S hl => lv_lrem F.1 F.2.1 hdg hne (k p e R s m args below meth cd H locs cells slots mc ms ls F S hl)
theorem aw_lneg {l : Launch} {G : aG} {d c w : Nat} {M : aM} {Q : Option Value → aH → Prop} {pc : Nat} {lv : List (Nat × Value)} {st : List Value} {h : aH} {x : Int64} (hdg : decode M.2.1 pc = .ok (.lneg, 1))  (k : AW l G d c w M Q (pc + 1) lv (.long (-x) :: st) h) : AW l G d c w M Q pc lv (.long x :: st) h :=
  fun p e R s m args below meth cd H locs cells slots mc ms ls F S hl => lv_lneg F.1 F.2.1 hdg  (k p e R s m args below meth cd H locs cells slots mc ms ls F S hl)
theorem aw_ishl {l : Launch} {G : aG} {d c w : Nat} {M : aM} {Q : Option Value → aH → Prop} {pc : Nat} {lv : List (Nat × Value)} {st : List Value} {h : aH} {x y : Int32} (hdg : decode M.2.1 pc = .ok (.ishl, 1))  (k : AW l G d c w M Q (pc + 1) lv (.int (x <<< (y &&& 31)) :: st) h) : AW l G d c w M Q pc lv (.int y :: .int x :: st) h :=
  fun p e R s m args below meth cd H locs cells slots mc ms ls F S hl => lv_ishl F.1 F.2.1 hdg  (k p e R s m args below meth cd H locs cells slots mc ms ls F S hl)
theorem aw_ishr {l : Launch} {G : aG} {d c w : Nat} {M : aM} {Q : Option Value → aH → Prop} {pc : Nat} {lv : List (Nat × Value)} {st : List Value} {h : aH} {x y : Int32} (hdg : decode M.2.1 pc = .ok (.ishr, 1))  (k : AW l G d c w M Q (pc + 1) lv (.int (x >>> (y &&& 31)) :: st) h) : AW l G d c w M Q pc lv (.int y :: .int x :: st) h :=
  fun p e R s m args below meth cd H locs cells slots mc ms ls F S hl => lv_ishr F.1 F.2.1 hdg  (k p e R s m args below meth cd H locs cells slots mc ms ls F S hl)
theorem aw_lshr {l : Launch} {G : aG} {d c w : Nat} {M : aM} {Q : Option Value → aH → Prop} {pc : Nat} {lv : List (Nat × Value)} {st : List Value} {h : aH} {x : Int64} {y : Int32} (hdg : decode M.2.1 pc = .ok (.lshr, 1))  (k : AW l G d c w M Q (pc + 1) lv (.long (x >>> (y.toInt64 &&& 63)) :: st) h) : AW l G d c w M Q pc lv (.int y :: .long x :: st) h :=
  fun p e R s m args below meth cd H locs cells slots mc ms ls F S hl => lv_lshr F.1 F.2.1 hdg rfl (k p e R s m args below meth cd H locs cells slots mc ms ls F S hl)
theorem aw_i2l {l : Launch} {G : aG} {d c w : Nat} {M : aM} {Q : Option Value → aH → Prop} {pc : Nat} {lv : List (Nat × Value)} {st : List Value} {h : aH} {x : Int32} (hdg : decode M.2.1 pc = .ok (.i2l, 1))  (k : AW l G d c w M Q (pc + 1) lv (.long x.toInt64 :: st) h) : AW l G d c w M Q pc lv (.int x :: st) h :=
  fun p e R s m args below meth cd H locs cells slots mc ms ls F S hl => lv_i2l F.1 F.2.1 hdg rfl (k p e R s m args below meth cd H locs cells slots mc ms ls F S hl)
theorem aw_l2i {l : Launch} {G : aG} {d c w : Nat} {M : aM} {Q : Option Value → aH → Prop} {pc : Nat} {lv : List (Nat × Value)} {st : List Value} {h : aH} {x : Int64} (hdg : decode M.2.1 pc = .ok (.l2i, 1))  (k : AW l G d c w M Q (pc + 1) lv (.int x.toInt32 :: st) h) : AW l G d c w M Q pc lv (.long x :: st) h :=
  fun p e R s m args below meth cd H locs cells slots mc ms ls F S hl => lv_l2i F.1 F.2.1 hdg rfl (k p e R s m args below meth cd H locs cells slots mc ms ls F S hl)
theorem aw_i2b {l : Launch} {G : aG} {d c w : Nat} {M : aM} {Q : Option Value → aH → Prop} {pc : Nat} {lv : List (Nat × Value)} {st : List Value} {h : aH} {x : Int32} (hdg : decode M.2.1 pc = .ok (.i2b, 1))  (k : AW l G d c w M Q (pc + 1) lv (.int x.toInt8.toInt32 :: st) h) : AW l G d c w M Q pc lv (.int x :: st) h :=
  fun p e R s m args below meth cd H locs cells slots mc ms ls F S hl => lv_i2b F.1 F.2.1 hdg rfl (k p e R s m args below meth cd H locs cells slots mc ms ls F S hl)
theorem aw_lcmp {l : Launch} {G : aG} {d c w : Nat} {M : aM} {Q : Option Value → aH → Prop} {pc : Nat} {lv : List (Nat × Value)} {st : List Value} {h : aH} {x y : Int64} (hdg : decode M.2.1 pc = .ok (.lcmp, 1))  (k : AW l G d c w M Q (pc + 1) lv (.int (lg_cmp x y) :: st) h) : AW l G d c w M Q pc lv (.long y :: .long x :: st) h :=
  fun p e R s m args below meth cd H locs cells slots mc ms ls F S hl => W.lcmp F.1 F.2.1 hdg  (k p e R s m args below meth cd H locs cells slots mc ms ls F S hl)
theorem aw_dup {l : Launch} {G : aG} {d c w : Nat} {M : aM} {Q : Option Value → aH → Prop} {pc : Nat} {lv : List (Nat × Value)} {st : List Value} {h : aH} {v : Value} (hdg : decode M.2.1 pc = .ok (.dup, 1)) (hv : v.category = 1) (k : AW l G d c w M Q (pc + 1) lv (v :: v :: st) h) : AW l G d c w M Q pc lv (v :: st) h :=
  fun p e R s m args below meth cd H locs cells slots mc ms ls F S hl => lv_dup F.1 F.2.1 hdg hv (k p e R s m args below meth cd H locs cells slots mc ms ls F S hl)
theorem aw_pop {l : Launch} {G : aG} {d c w : Nat} {M : aM} {Q : Option Value → aH → Prop} {pc : Nat} {lv : List (Nat × Value)} {st : List Value} {h : aH} {v : Value} (hdg : decode M.2.1 pc = .ok (.pop, 1)) (hv : v.category = 1) (k : AW l G d c w M Q (pc + 1) lv (st) h) : AW l G d c w M Q pc lv (v :: st) h :=
  fun p e R s m args below meth cd H locs cells slots mc ms ls F S hl => lv_pop F.1 F.2.1 hdg hv (k p e R s m args below meth cd H locs cells slots mc ms ls F S hl)
theorem aw_dup2 {l : Launch} {G : aG} {d c w : Nat} {M : aM} {Q : Option Value → aH → Prop} {pc : Nat} {lv : List (Nat × Value)} {st : List Value} {h : aH} {v u : Value} (hdg : decode M.2.1 pc = .ok (.dup2, 1)) (hv : v.category = 1) (hu : u.category = 1) (k : AW l G d c w M Q (pc + 1) lv (v :: u :: v :: u :: st) h) : AW l G d c w M Q pc lv (v :: u :: st) h :=
  fun p e R s m args below meth cd H locs cells slots mc ms ls F S hl => lv_dup2_11 F.1 F.2.1 hdg hv hu (k p e R s m args below meth cd H locs cells slots mc ms ls F S hl)
theorem aw_if_eq {l : Launch} {G : aG} {d c w : Nat} {M : aM} {Q : Option Value → aH → Prop} {pc : Nat} {lv : List (Nat × Value)} {st : List Value} {h : aH} {x : Int32} {off : Int} {tgt : Nat} (hdg : decode M.2.1 pc = .ok (.ifCond .eq off, 3)) (ht : (pc : Int) + off = (tgt : Int)) (kt : x = 0 → AW l G d c w M Q tgt lv st h) (kf : ¬ x = 0 → AW l G d c w M Q (pc + 3) lv st h) : AW l G d c w M Q pc lv (.int x :: st) h :=
  fun p e R s m args below meth cd H locs cells slots mc ms ls F S hl => lv_if_eq F.1 F.2.1 hdg ht (fun z => kt z p e R s m args below meth cd H locs cells slots mc ms ls F S hl) (fun z => kf z p e R s m args below meth cd H locs cells slots mc ms ls F S hl)
theorem aw_icmp_eq {l : Launch} {G : aG} {d c w : Nat} {M : aM} {Q : Option Value → aH → Prop} {pc : Nat} {lv : List (Nat × Value)} {st : List Value} {h : aH} {x y : Int32} {off : Int} {tgt : Nat} (hdg : decode M.2.1 pc = .ok (.if_icmp .eq off, 3)) (ht : (pc : Int) + off = (tgt : Int)) (kt : x = y → AW l G d c w M Q tgt lv st h) (kf : ¬ x = y → AW l G d c w M Q (pc + 3) lv st h) : AW l G d c w M Q pc lv (.int y :: .int x :: st) h :=
  fun p e R s m args below meth cd H locs cells slots mc ms ls F S hl => lv_icmp_eq F.1 F.2.1 hdg ht (fun z => kt z p e R s m args below meth cd H locs cells slots mc ms ls F S hl) (fun z => kf z p e R s m args below meth cd H locs cells slots mc ms ls F S hl)
theorem aw_if_ne {l : Launch} {G : aG} {d c w : Nat} {M : aM} {Q : Option Value → aH → Prop} {pc : Nat} {lv : List (Nat × Value)} {st : List Value} {h : aH} {x : Int32} {off : Int} {tgt : Nat} (hdg : decode M.2.1 pc = .ok (.ifCond .ne off, 3)) (ht : (pc : Int) + off = (tgt : Int)) (kt : ¬ x = 0 → AW l G d c w M Q tgt lv st h) (kf : x = 0 → AW l G d c w M Q (pc + 3) lv st h) : AW l G d c w M Q pc lv (.int x :: st) h :=
  fun p e R s m args below meth cd H locs cells slots mc ms ls F S hl => lv_if_ne F.1 F.2.1 hdg ht (fun z => kt z p e R s m args below meth cd H locs cells slots mc ms ls F S hl) (fun z => kf z p e R s m args below meth cd H locs cells slots mc ms ls F S hl)
theorem aw_icmp_ne {l : Launch} {G : aG} {d c w : Nat} {M : aM} {Q : Option Value → aH → Prop} {pc : Nat} {lv : List (Nat × Value)} {st : List Value} {h : aH} {x y : Int32} {off : Int} {tgt : Nat} (hdg : decode M.2.1 pc = .ok (.if_icmp .ne off, 3)) (ht : (pc : Int) + off = (tgt : Int)) (kt : ¬ x = y → AW l G d c w M Q tgt lv st h) (kf : x = y → AW l G d c w M Q (pc + 3) lv st h) : AW l G d c w M Q pc lv (.int y :: .int x :: st) h :=
  fun p e R s m args below meth cd H locs cells slots mc ms ls F S hl => lv_icmp_ne F.1 F.2.1 hdg ht (fun z => kt z p e R s m args below meth cd H locs cells slots mc ms ls F S hl) (fun z => kf z p e R s m args below meth cd H locs cells slots mc ms ls F S hl)
theorem aw_if_lt {l : Launch} {G : aG} {d c w : Nat} {M : aM} {Q : Option Value → aH → Prop} {pc : Nat} {lv : List (Nat × Value)} {st : List Value} {h : aH} {x : Int32} {off : Int} {tgt : Nat} (hdg : decode M.2.1 pc = .ok (.ifCond .lt off, 3)) (ht : (pc : Int) + off = (tgt : Int)) (kt : x < 0 → AW l G d c w M Q tgt lv st h) (kf : ¬ x < 0 → AW l G d c w M Q (pc + 3) lv st h) : AW l G d c w M Q pc lv (.int x :: st) h :=
  fun p e R s m args below meth cd H locs cells slots mc ms ls F S hl => lv_if_lt F.1 F.2.1 hdg ht (fun z => kt z p e R s m args below meth cd H locs cells slots mc ms ls F S hl) (fun z => kf z p e R s m args below meth cd H locs cells slots mc ms ls F S hl)
theorem aw_icmp_lt {l : Launch} {G : aG} {d c w : Nat} {M : aM} {Q : Option Value → aH → Prop} {pc : Nat} {lv : List (Nat × Value)} {st : List Value} {h : aH} {x y : Int32} {off : Int} {tgt : Nat} (hdg : decode M.2.1 pc = .ok (.if_icmp .lt off, 3)) (ht : (pc : Int) + off = (tgt : Int)) (kt : x < y → AW l G d c w M Q tgt lv st h) (kf : ¬ x < y → AW l G d c w M Q (pc + 3) lv st h) : AW l G d c w M Q pc lv (.int y :: .int x :: st) h :=
  fun p e R s m args below meth cd H locs cells slots mc ms ls F S hl => lv_icmp_lt F.1 F.2.1 hdg ht (fun z => kt z p e R s m args below meth cd H locs cells slots mc ms ls F S hl) (fun z => kf z p e R s m args below meth cd H locs cells slots mc ms ls F S hl)
theorem aw_if_ge {l : Launch} {G : aG} {d c w : Nat} {M : aM} {Q : Option Value → aH → Prop} {pc : Nat} {lv : List (Nat × Value)} {st : List Value} {h : aH} {x : Int32} {off : Int} {tgt : Nat} (hdg : decode M.2.1 pc = .ok (.ifCond .ge off, 3)) (ht : (pc : Int) + off = (tgt : Int)) (kt : 0 ≤ x → AW l G d c w M Q tgt lv st h) (kf : ¬ 0 ≤ x → AW l G d c w M Q (pc + 3) lv st h) : AW l G d c w M Q pc lv (.int x :: st) h :=
  fun p e R s m args below meth cd H locs cells slots mc ms ls F S hl => lv_if_ge F.1 F.2.1 hdg ht (fun z => kt z p e R s m args below meth cd H locs cells slots mc ms ls F S hl) (fun z => kf z p e R s m args below meth cd H locs cells slots mc ms ls F S hl)
theorem aw_icmp_ge {l : Launch} {G : aG} {d c w : Nat} {M : aM} {Q : Option Value → aH → Prop} {pc : Nat} {lv : List (Nat × Value)} {st : List Value} {h : aH} {x y : Int32} {off : Int} {tgt : Nat} (hdg : decode M.2.1 pc = .ok (.if_icmp .ge off, 3)) (ht : (pc : Int) + off = (tgt : Int)) (kt : y ≤ x → AW l G d c w M Q tgt lv st h) (kf : ¬ y ≤ x → AW l G d c w M Q (pc + 3) lv st h) : AW l G d c w M Q pc lv (.int y :: .int x :: st) h :=
  fun p e R s m args below meth cd H locs cells slots mc ms ls F S hl => lv_icmp_ge F.1 F.2.1 hdg ht (fun z => kt z p e R s m args below meth cd H locs cells slots mc ms ls F S hl) (fun z => kf z p e R s m args below meth cd H locs cells slots mc ms ls F S hl)
theorem aw_if_gt {l : Launch} {G : aG} {d c w : Nat} {M : aM} {Q : Option Value → aH → Prop} {pc : Nat} {lv : List (Nat × Value)} {st : List Value} {h : aH} {x : Int32} {off : Int} {tgt : Nat} (hdg : decode M.2.1 pc = .ok (.ifCond .gt off, 3)) (ht : (pc : Int) + off = (tgt : Int)) (kt : 0 < x → AW l G d c w M Q tgt lv st h) (kf : ¬ 0 < x → AW l G d c w M Q (pc + 3) lv st h) : AW l G d c w M Q pc lv (.int x :: st) h :=
  fun p e R s m args below meth cd H locs cells slots mc ms ls F S hl => lv_if_gt F.1 F.2.1 hdg ht (fun z => kt z p e R s m args below meth cd H locs cells slots mc ms ls F S hl) (fun z => kf z p e R s m args below meth cd H locs cells slots mc ms ls F S hl)
theorem aw_icmp_gt {l : Launch} {G : aG} {d c w : Nat} {M : aM} {Q : Option Value → aH → Prop} {pc : Nat} {lv : List (Nat × Value)} {st : List Value} {h : aH} {x y : Int32} {off : Int} {tgt : Nat} (hdg : decode M.2.1 pc = .ok (.if_icmp .gt off, 3)) (ht : (pc : Int) + off = (tgt : Int)) (kt : y < x → AW l G d c w M Q tgt lv st h) (kf : ¬ y < x → AW l G d c w M Q (pc + 3) lv st h) : AW l G d c w M Q pc lv (.int y :: .int x :: st) h :=
  fun p e R s m args below meth cd H locs cells slots mc ms ls F S hl => lv_icmp_gt F.1 F.2.1 hdg ht (fun z => kt z p e R s m args below meth cd H locs cells slots mc ms ls F S hl) (fun z => kf z p e R s m args below meth cd H locs cells slots mc ms ls F S hl)
theorem aw_if_le {l : Launch} {G : aG} {d c w : Nat} {M : aM} {Q : Option Value → aH → Prop} {pc : Nat} {lv : List (Nat × Value)} {st : List Value} {h : aH} {x : Int32} {off : Int} {tgt : Nat} (hdg : decode M.2.1 pc = .ok (.ifCond .le off, 3)) (ht : (pc : Int) + off = (tgt : Int)) (kt : x ≤ 0 → AW l G d c w M Q tgt lv st h) (kf : ¬ x ≤ 0 → AW l G d c w M Q (pc + 3) lv st h) : AW l G d c w M Q pc lv (.int x :: st) h :=
  fun p e R s m args below meth cd H locs cells slots mc ms ls F S hl => lv_if_le F.1 F.2.1 hdg ht (fun z => kt z p e R s m args below meth cd H locs cells slots mc ms ls F S hl) (fun z => kf z p e R s m args below meth cd H locs cells slots mc ms ls F S hl)
theorem aw_icmp_le {l : Launch} {G : aG} {d c w : Nat} {M : aM} {Q : Option Value → aH → Prop} {pc : Nat} {lv : List (Nat × Value)} {st : List Value} {h : aH} {x y : Int32} {off : Int} {tgt : Nat} (hdg : decode M.2.1 pc = .ok (.if_icmp .le off, 3)) (ht : (pc : Int) + off = (tgt : Int)) (kt : x ≤ y → AW l G d c w M Q tgt lv st h) (kf : ¬ x ≤ y → AW l G d c w M Q (pc + 3) lv st h) : AW l G d c w M Q pc lv (.int y :: .int x :: st) h :=
  fun p e R s m args below meth cd H locs cells slots mc ms ls F S hl => lv_icmp_le F.1 F.2.1 hdg ht (fun z => kt z p e R s m args below meth cd H locs cells slots mc ms ls F S hl) (fun z => kf z p e R s m args below meth cd H locs cells slots mc ms ls F S hl)
theorem aw_goto {l : Launch} {G : aG} {d c w : Nat} {M : aM} {Q : Option Value → aH → Prop} {pc : Nat} {lv : List (Nat × Value)} {st : List Value} {h : aH} {off : Int} {tgt : Nat} (hdg : decode M.2.1 pc = .ok (.goto off, 3)) (ht : (pc : Int) + off = (tgt : Int)) (k : AW l G d c w M Q tgt lv st h) : AW l G d c w M Q pc lv st h :=
  fun p e R s m args below meth cd H locs cells slots mc ms ls F S hl => lv_goto F.1 F.2.1 hdg ht (k p e R s m args below meth cd H locs cells slots mc ms ls F S hl)
theorem aw_ifnull {l : Launch} {G : aG} {d c w : Nat} {M : aM} {Q : Option Value → aH → Prop} {pc : Nat} {lv : List (Nat × Value)} {st : List Value} {h : aH} {r : Option Nat} {off : Int} {tgt : Nat} (hdg : decode M.2.1 pc = .ok (.ifnull off, 3)) (ht : (pc : Int) + off = (tgt : Int)) (kt : r = none → AW l G d c w M Q tgt lv st h) (kf : ∀ x, r = some x → AW l G d c w M Q (pc + 3) lv st h) : AW l G d c w M Q pc lv (va_rf r :: st) h := by
  cases r with
  | none => exact fun p e R s m args below meth cd H locs cells slots mc ms ls F S hl => lv_ifnullN F.1 F.2.1 hdg ht (kt rfl p e R s m args below meth cd H locs cells slots mc ms ls F S hl)
  | some x => exact fun p e R s m args below meth cd H locs cells slots mc ms ls F S hl => lv_ifnull F.1 F.2.1 hdg (kf x rfl p e R s m args below meth cd H locs cells slots mc ms ls F S hl)
theorem aw_ifnonnull {l : Launch} {G : aG} {d c w : Nat} {M : aM} {Q : Option Value → aH → Prop} {pc : Nat} {lv : List (Nat × Value)} {st : List Value} {h : aH} {r : Option Nat} {off : Int} {tgt : Nat} (hdg : decode M.2.1 pc = .ok (.ifnonnull off, 3)) (ht : (pc : Int) + off = (tgt : Int)) (kt : ∀ x, r = some x → AW l G d c w M Q tgt lv st h) (kf : r = none → AW l G d c w M Q (pc + 3) lv st h) : AW l G d c w M Q pc lv (va_rf r :: st) h := by
  cases r with
  | none => exact fun p e R s m args below meth cd H locs cells slots mc ms ls F S hl => lv_ifnonnullN F.1 F.2.1 hdg (kf rfl p e R s m args below meth cd H locs cells slots mc ms ls F S hl)
  | some x => exact fun p e R s m args below meth cd H locs cells slots mc ms ls F S hl => lv_ifnonnull F.1 F.2.1 hdg ht (kt x rfl p e R s m args below meth cd H locs cells slots mc ms ls F S hl)
theorem aw_tableOut {l : Launch} {G : aG} {d c w : Nat} {M : aM} {Q : Option Value → aH → Prop} {pc : Nat} {lv : List (Nat × Value)} {st : List Value} {h : aH} {dflt lo hi : Int} {offs : Array Int} {len : Nat} {x : Int32} {tgt : Nat} (hdg : decode M.2.1 pc = .ok (.tableswitch dflt lo hi offs, len)) (hx : x.toInt < lo ∨ hi < x.toInt) (ht : (pc : Int) + dflt = (tgt : Int)) (k : AW l G d c w M Q tgt lv st h) : AW l G d c w M Q pc lv (.int x :: st) h :=
  fun p e R s m args below meth cd H locs cells slots mc ms ls F S hl => lv_tableOut F.1 F.2.1 hdg hx ht (k p e R s m args below meth cd H locs cells slots mc ms ls F S hl)
theorem aw_tableIn {l : Launch} {G : aG} {d c w : Nat} {M : aM} {Q : Option Value → aH → Prop} {pc : Nat} {lv : List (Nat × Value)} {st : List Value} {h : aH} {dflt lo hi : Int} {offs : Array Int} {len : Nat} {x : Int32} {off : Int} {tgt : Nat} (hdg : decode M.2.1 pc = .ok (.tableswitch dflt lo hi offs, len)) (h1 : ¬ x.toInt < lo) (h2 : ¬ hi < x.toInt) (ho : offs[(x.toInt - lo).toNat]? = some off) (ht : (pc : Int) + off = (tgt : Int)) (k : AW l G d c w M Q tgt lv st h) : AW l G d c w M Q pc lv (.int x :: st) h :=
  fun p e R s m args below meth cd H locs cells slots mc ms ls F S hl => lv_tableIn F.1 F.2.1 hdg h1 h2 ho ht (k p e R s m args below meth cd H locs cells slots mc ms ls F S hl)
theorem aw_ldc {l : Launch} {G : aG} {d c w : Nat} {M : aM} {Q : Option Value → aH → Prop} {pc : Nat} {lv : List (Nat × Value)} {st : List Value} {h : aH} {index : Nat} {v : Int32} (hdg : decode M.2.1 pc = .ok (.ldc index, 2)) (hw : Cond.constant M.1.cls index v ∈ a_wt) (k : AW l G d c w M Q (pc + 2) lv (.int v :: st) h) : AW l G d c w M Q pc lv st h :=
  fun p e R s m args below meth cd H locs cells slots mc ms ls F S hl => lv_ldc F.1 F.2.1 F.2.2.2.2.1 (F.2.2.2.2.2.2.1 _ hw) hdg (k p e R s m args below meth cd H locs cells slots mc ms ls F S hl)
theorem aw_ldc2 {l : Launch} {G : aG} {d c w : Nat} {M : aM} {Q : Option Value → aH → Prop} {pc : Nat} {lv : List (Nat × Value)} {st : List Value} {h : aH} {index : Nat} {v : Int64} (hdg : decode M.2.1 pc = .ok (.ldc2_w index, 3)) (hw : Cond.constantLong M.1.cls index v ∈ a_wt) (k : AW l G d c w M Q (pc + 3) lv (.long v :: st) h) : AW l G d c w M Q pc lv st h :=
  fun p e R s m args below meth cd H locs cells slots mc ms ls F S hl => lv_ldc2 F.1 F.2.1 F.2.2.2.2.1 (F.2.2.2.2.2.2.1 _ hw) hdg (k p e R s m args below meth cd H locs cells slots mc ms ls F S hl)
