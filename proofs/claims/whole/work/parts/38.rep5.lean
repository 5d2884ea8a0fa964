/-! the class goes through its nodes -/
def nHi (P : Nat → Nat) (N : nT) (m : Nat) : Nat := P m + (if nSo N m = 3 then 45 else 25)
def nOrd (cnt : Nat) (P : Nat → Nat) (N : nT) : Prop := ∀ i j, i < j → j < cnt → nHi P N i ≤ P j
theorem nHi_25 (P : Nat → Nat) (N : nT) (m : Nat) : P m + 25 ≤ nHi P N m := by unfold nHi; split <;> omega
theorem nHi_45 (P : Nat → Nat) (N : nT) (m : Nat) (s : nSo N m = 3) : nHi P N m = P m + 45 := by unfold nHi; rw [if_pos s]
theorem nHi_u (P : Nat → Nat) (N : nT) (m : Nat) : nHi P N m ≤ P m + 45 := by unfold nHi; split <;> omega
def gOut (X e : Nat) (D D' : sD) : Prop := D'.2.2 = D.2.2 ∧ (∀ a k, k ≠ 4 → k ≠ 11 → k ≠ 12 → D'.1 a k = D.1 a k) ∧ ∀ a, (a < X + 42 ∨ e ≤ a) → D'.1 a = D.1 a ∧ D'.2.1 a = D.2.1 a
theorem gOut.rf {X e : Nat} {D : sD} : gOut X e D D := ⟨rfl, fun _ _ _ _ _ => rfl, fun _ _ => ⟨rfl, rfl⟩⟩
theorem gOut.tr {X e : Nat} {D D' D'' : sD} (h : gOut X e D D') (h' : gOut X e D' D'') : gOut X e D D'' := ⟨h'.1.trans h.1, fun a k h1 h2 h3 => (h'.2.1 a k h1 h2 h3).trans (h.2.1 a k h1 h2 h3), fun a ha => ⟨(h'.2.2 a ha).1.trans (h.2.2 a ha).1, (h'.2.2 a ha).2.trans (h.2.2 a ha).2⟩⟩
theorem gOut.mono {X e e' : Nat} {D D' : sD} (h : gOut X e D D') (he : e ≤ e') : gOut X e' D D' := ⟨h.1, h.2.1, fun a ha => h.2.2 a (by omega)⟩
theorem NdC.g {X cnt e : Nat} {P : Nat → Nat} {N : nT} {S : sS} {D D' : sD} (W : NdC X cnt P N S D) (o : gOut X e D D') : NdC X cnt P N S D' := by
  intro m hm
  obtain ⟨h1, h2, h3, h4⟩ := W m hm
  refine ⟨h1, h2, h3, ?_⟩
  unfold NdD at h4 ⊢
  rw [o.1, o.2.1 _ 0 (by omega) (by omega) (by omega), o.2.1 _ 1 (by omega) (by omega) (by omega), o.2.1 _ 5 (by omega) (by omega) (by omega), o.2.1 _ 6 (by omega) (by omega) (by omega), o.2.1 _ 7 (by omega) (by omega) (by omega), o.2.1 _ 8 (by omega) (by omega) (by omega), o.2.1 _ 9 (by omega) (by omega) (by omega)]
  exact h4
def CRo (P : Nat → Nat) (N : nT) (ρ : rD) (D : sD) (m : Nat) : Prop := stR (P m + 1) (ρ.1 m) D ∧ D.1 (P m) 4 = ρ.2.1 m ∧ (nSo N m = 3 → D.1 (P m) 11 = ρ.2.2.1 m ∧ D.1 (P m) 12 = ρ.2.2.2 m)
def CRm (P : Nat → Nat) (N : nT) (ρ : rD) (D : sD) (m : Nat) : Prop := CRo P N ρ D m ∧ (∃ W, okW W ∧ wyR (P m + 3) W D) ∧ (nSo N m = 3 → ∃ W, okW W ∧ wyR (P m + 25) W D)
theorem CRm.cg {P : Nat → Nat} {N : nT} {ρ ρ' : rD} {D D' : sD} {m : Nat} (h : CRm P N ρ D m) (e : ∀ a, P m ≤ a → a < nHi P N m → D'.1 a = D.1 a ∧ D'.2.1 a = D.2.1 a) (r : rAt m ρ' ρ) : CRm P N ρ' D' m := by
  obtain ⟨⟨h1, h2, h3⟩, ⟨W, h4, h5⟩, h6⟩ := h
  have h25 := nHi_25 P N m
  refine ⟨⟨?_, ?_, fun s => ?_⟩, ⟨W, h4, fun f hf => (h5 f hf).cg (e _ (by omega) (by omega)).2⟩, fun s => ?_⟩
  · rw [r.1]; exact h1.cg (e _ (by omega) (by omega)).2
  · rw [r.2.1, (e (P m) (by omega) (by omega)).1]; exact h2
  · rw [r.2.2.1, r.2.2.2, (e (P m) (by omega) (by omega)).1]; exact h3 s
  · obtain ⟨V, h7, h8⟩ := h6 s
    have h45 := nHi_45 P N m s
    exact ⟨V, h7, fun f hf => (h8 f hf).cg (e _ (by omega) (by omega)).2⟩
def GS (X cnt : Nat) (P : Nat → Nat) (N : nT) (S : sS) (ρ : rD) (D : sD) (m : Nat) : Prop := NdC X cnt P N S D ∧ (∀ g, g < m → CRm P N ρ D g) ∧ CRo P N ρ D m
/-- a node's own cells: of its ways on -/
def oOn (p e : Nat) (D D' : sD) : Prop := D'.1 = D.1 ∧ D'.2.2 = D.2.2 ∧ ∀ b, ¬ (p + 3 ≤ b ∧ b < e) → D'.2.1 b = D.2.1 b
theorem sOn.o {p e a : Nat} {D D' : sD} (h : sOn a D D') (h1 : p + 3 ≤ a) (h2 : a < e) : oOn p e D D' := ⟨h.1, h.2.1, fun b hb => h.2.2 b (by omega)⟩
theorem wOn.o {p e q : Nat} {D D' : sD} (h : wOn q D D') (h1 : p + 3 ≤ q) (h2 : q + 20 ≤ e) : oOn p e D D' := ⟨h.1, h.2.1, fun b hb => h.2.2 b (by omega)⟩
theorem oOn.g {X p e : Nat} {D D' : sD} (h : oOn p e D D') (hp : X + 42 ≤ p) : gOut X e D D' := ⟨h.2.1, fun a k _ _ _ => by rw [h.1], fun a ha => ⟨by rw [h.1], h.2.2 a (by omega)⟩⟩
theorem stR.g {X e q : Nat} {s : rS} {D D' : sD} (h : stR q s D) (o : gOut X e D D') (hq : q + 1 < X + 42 ∨ e ≤ q + 1) : stR q s D' := h.cg (o.2.2 _ hq).2
theorem wyR.g {X e q : Nat} {W : rW} {D D' : sD} (h : wyR q W D) (o : gOut X e D D') (hq : e ≤ q + 3) : wyR q W D' := fun f hf => (h f hf).g o (by omega)
section CTR
variable {X n cnt : Nat} {P : Nat → Nat} {N : nT} {S : sS} {ρ : rD} {D : sD} {h : aH} {m : Nat}
theorem GS.own {D' : sD} (G : GS X cnt P N S ρ D m) (hm : m < cnt) (ord : nOrd cnt P N) (o : oOn (P m) (nHi P N m) D D') : GS X cnt P N S ρ D' m := by
  obtain ⟨g1, g2, g3, g4, g5⟩ := G
  have hp := (g1 m hm).2.1
  refine ⟨g1.g (o.g hp), fun g hg => (g2 g hg).cg (fun a h1 h2 => ⟨by rw [o.1], o.2.2 a ?_⟩) rAt.rf, g3.cg (o.2.2 _ (by omega)), by rw [o.1]; exact g4, fun s => by rw [o.1]; exact g5 s⟩
  have := ord g m hg hm
  omega
/-- a field of the node's own (4, 11, 12) -/
theorem GS.ownO {ρ' : rD} {k : Nat} {v : Int32} (G : GS X cnt P N S ρ D m) (hm : m < cnt) (ord : nOrd cnt P N) (hk : k = 4 ∨ k = 11 ∨ k = 12) (hr : ∀ g, g ≠ m → rAt g ρ' ρ) (hc : CRo P N ρ' (uO D (P m) k v) m) : GS X cnt P N S ρ' (uO D (P m) k v) m ∧ gOut X (nHi P N m) D (uO D (P m) k v) := by
  obtain ⟨g1, g2, g3⟩ := G
  have hp := (g1 m hm).2.1
  have h25 := nHi_25 P N m
  have o : gOut X (nHi P N m) D (uO D (P m) k v) := ⟨rfl, fun a j h1 h2 h3 => by
    simp only [uO, va_up, upd]
    split
    · rename_i e; subst e; simp only [upd]; rw [if_neg (by omega)]
    · rfl, fun a ha => ⟨by simp [uO, va_up, show a ≠ P m by omega], rfl⟩⟩
  refine ⟨⟨g1.g o, fun g hg => (g2 g hg).cg (fun a h1 h2 => ⟨?_, rfl⟩) (hr g (by omega)), hc⟩, o⟩
  have := ord g m hg hm
  simp [uO, va_up, show a ≠ P m by omega]
/-- what a call on a part gives -/
def chSpec (X n cnt : Nat) (P : Nat → Nat) (N : nT) (S : sS) (k m : Nat) : Prop := ∀ (c : Nat) (s : rS) (ρ : rD) (D : sD) (h : aH) (fr : Nat) (Q : aH → Prop), c < m → HR n S D h → GS X cnt P N S ρ D m → StL fr S → stR fr s D → okS s → (fr + 1 < X + 42 ∨ P m ≤ fr + 1) → (∀ h' D', HR n S D' h' → gOut X (P m) D D' → GS X cnt P N S (thrN N k c s ρ).2 D' m → wyR (P c + 3) (thrN N k c s ρ).1 D' → Q h') → wX6_goThrough (RfN k) h (P c) fr Q
theorem nd_ways (W : NdC X cnt P N S D) (R : HR n S D h) {c : Nat} (hc : c < cnt) {K : Nat → Prop} (hK : K (P c + 3)) : rRN h (P c) 3 K := R_RN R (W c hc).2.2.1.1 (W c hc).1.s4 rfl hK
theorem NdC.wl (W : NdC X cnt P N S D) {c : Nat} (hc : c < cnt) : WyL (P c + 3) S := (W c hc).2.2.1.2.2.1
theorem NdC.wp (W : NdC X cnt P N S D) {c : Nat} (hc : c < cnt) : wyP (P c + 3) D := (W c hc).2.2.2.2.2.2.2.2.1
theorem NdC.hl (W : NdC X cnt P N S D) {c : Nat} (hc : c < cnt) (s : nSo N c = 3) : WyL (P c + 25) S := (W c hc).2.2.1.2.2.2.2 s
theorem NdC.hp (W : NdC X cnt P N S D) {c : Nat} (hc : c < cnt) (s : nSo N c = 3) : wyP (P c + 25) D := (W c hc).2.2.2.2.2.2.2.2.2 s
theorem NdC.sl (W : NdC X cnt P N S D) {c : Nat} (hc : c < cnt) : StL (P c + 23) S := (W c hc).2.2.1.2.2.2.1
theorem NdC.isN (W : NdC X cnt P N S D) (R : HR n S D h) {c : Nat} (hc : c < cnt) {K : Nat → Prop} (hK : ∀ ci, K ci) : isN h (P c) K := R_N R (W c hc).2.2.1.1 (W c hc).1.s4 (hK _)
theorem NdC.s1 (W : NdC X cnt P N S D) (hm : m < cnt) (s1 : nSo N m = 1) : S (P m) = some (.inr (1, [none, none, some (some (P m + 1)), some (some (P m + 3)), none, some (some (P (tN (nA N m)))), some (some (P (tN (nB N m)))), some (some (P m + 23))])) := by
  rw [(W m hm).2.2.1.1, s1]; unfold nFl; rw [if_neg (by omega), if_pos s1]; rfl
theorem NdC.s2 (W : NdC X cnt P N S D) (hm : m < cnt) (s2 : nSo N m = 2) : S (P m) = some (.inr (2, [none, none, some (some (P m + 1)), some (some (P m + 3)), none, none, none, some (some (P (tN (nC N m)))), some (some (P (tN (nD N m)))), some (some (P m + 23))])) := by
  rw [(W m hm).2.2.1.1, s2]; unfold nFl; rw [if_neg (by omega), if_neg (by omega), if_pos s2]; rfl
theorem NdC.s3 (W : NdC X cnt P N S D) (hm : m < cnt) (s3 : nSo N m = 3) : S (P m) = some (.inr (3, [none, none, some (some (P m + 1)), some (some (P m + 3)), none, some (some (P (tN (nA N m)))), none, some (nRef P (nC N m)), some (nRef P (nD N m)), some (some (P m + 23)), some (some (P m + 25)), none, none])) := by
  rw [(W m hm).2.2.1.1, s3]; unfold nFl; rw [if_neg (by omega), if_neg (by omega), if_neg (by omega)]; rfl
theorem sc_find1 {k fr : Nat} {s : rS} (hcnt : cnt ≤ 80) (ord : nOrd cnt P N) (hm : m < cnt) (s1 : nSo N m = 1) (oa : nS (nA N m) m) (ob : nS (nB N m) m) (ch : chSpec X n cnt P N S k m) (R : HR n S D h) (G : GS X cnt P N S ρ D m) (wy : wyR (P m + 3) rZW D) (Lf : StL fr S) (sf : stR fr s D) (okf : okS s) (hf : fr + 1 < X + 42 ∨ nHi P N m ≤ fr + 1) (tok : ∀ c, c < m → tOk (c + 1) (thrN N k c)) {Q : aH → Prop} (hq : ∀ h' D', HR n S D' h' → gOut X (nHi P N m) D D' → GS X cnt P N S (bothR (thrN N k (tN (nA N m))) (thrN N k (tN (nB N m))) s ρ).2 D' m → wyR (P m + 3) (bothR (thrN N k (tN (nA N m))) (thrN N k (tN (nB N m))) s ρ).1 D' → Q h') : wX1_findWays (RfN k) h (P m) fr Q := by
  have la := tN_lt oa (by omega)
  have lb := tN_lt ob (by omega)
  have ha := ord _ _ la.1 hm
  have hb := ord _ _ lb.1 hm
  have hi25 := nHi_25 P N m
  have a25 := nHi_25 P N (tN (nA N m))
  have b25 := nHi_25 P N (tN (nB N m))
  have sh := G.1.s1 hm s1
  have hp := (G.1 m hm).2.1
  unfold bothR at hq
  refine R_R R sh rfl (G.1.isN R (by omega) fun _ => ch _ s ρ D h fr _ la.1 R G Lf sf okf (by omega) fun h1 D1 R1 O1 G1 w1 => ?_)
  generalize er : thrN N k (tN (nA N m)) s ρ = r at G1 w1 hq
  have okr : okW r.1 := by rw [← er]; exact (tok _ la.1 s ρ okf).1
  have wy1 := wy.g O1 (by omega)
  refine R_R R1 sh rfl (R_R R1 sh rfl (nd_ways G1.1 R1 (by omega) (R_O R1 (G1.1.wl hm).1 (wy_joinF R1 (G1.1.wl hm) (G1.1.wl (by omega)) (G1.1.wp hm) (G1.1.wp (by omega)) wy1 w1 okr (by omega) fun h2 D2 R2 O2 w2 => ?_))))
  have O2o := O2.o (p := P m) (e := nHi P N m) (by omega) (by omega)
  have G2 := G1.own hm ord O2o
  have w1' := w1.won O2 (by omega)
  refine R_R R2 sh rfl (R_R R2 sh rfl (nd_ways G2.1 R2 (by omega) (R_O R2 (G2.1.wl (show tN (nA N m) < cnt by omega)).1 (wy_by (f := 0) R2 (G2.1.wl (by omega)) (G2.1.wp (by omega)) (by omega) ⟨_, rfl, R_O R2 (G2.1.sl hm).1 (st_become R2 (G2.1.sl hm) ((G2.1.wl (show tN (nA N m) < cnt by omega)).2.2 0 (by omega)) (w1' 0 (by omega)) fun h3 D3 R3 O3 s3 => ?_)⟩))))
  have O3o := O3.o (p := P m) (e := nHi P N m) (by omega) (by omega)
  have G3 := G2.own hm ord O3o
  have O03 : gOut X (nHi P N m) D D3 := ((O1.mono (by omega)).tr (O2o.g hp)).tr (O3o.g hp)
  have w3 := w2.on O3 (by omega)
  refine R_R R3 sh rfl (R_O R3 (G3.1.sl hm).1 (st_isThere R3 (G3.1.sl hm) s3 (fun z => ⟨fun _ => ?_, fun y => absurd rfl y⟩) (fun z => ⟨fun y => absurd y (by decide), fun _ => R_R R3 sh rfl (R_R R3 sh rfl (G3.1.isN R3 (by omega) fun _ => ch _ _ _ D3 h3 _ _ lb.1 R3 G3 (G3.1.sl hm) s3 ((okr 0).ok z) (by omega) fun h4 D4 R4 O4 G4 w4 => ?_))⟩)))
  · rw [if_pos z] at hq
    exact hq h3 D3 R3 O03 G3 w3
  · rw [if_neg z] at hq
    have okb := (tok _ lb.1 _ r.2 ((okr 0).ok z)).1
    refine R_R R4 sh rfl (R_R R4 sh rfl (nd_ways G4.1 R4 (by omega) (R_O R4 (G4.1.wl hm).1 (wy_join R4 (G4.1.wl hm) (G4.1.wl (by omega)) (G4.1.wp hm) (G4.1.wp (by omega)) (w3.g O4 (by omega)) w4 okb (by omega) fun h5 D5 R5 O5 w5 => ?_))))
    have O5o := O5.o (p := P m) (e := nHi P N m) (by omega) (by omega)
    exact hq h5 D5 R5 ((O03.tr (O4.mono (by omega))).tr (O5o.g hp)) (G4.own hm ord O5o) w5
theorem kp_upd {s : rS} {x : Nat} {k : Int32} (hs : okS s) : (kp s x k) 0 = 0 ↔ s x &&& k = 0 := by
  unfold kp
  by_cases c : s x &&& k = 0
  · rw [if_pos c]; exact ⟨fun _ => c, fun _ => rfl⟩
  · rw [if_neg c]
    refine ⟨fun e => ?_, fun e => absurd e c⟩
    simp only [upd] at e
    split at e
    · exact e
    · exact absurd e (hs 0).1
theorem sc_choose {k fr c x : Nat} {s : rS} {kk : Int32} {W : rW} (hcnt : cnt ≤ 80) (ord : nOrd cnt P N) (hm : m < cnt) (s2 : nSo N m = 2) (hc : c < m) (hx : x < 12) (ex : nA N m = nI x) (ch : chSpec X n cnt P N S k m) (R : HR n S D h) (G : GS X cnt P N S ρ D m) (wy : wyR (P m + 3) W D) (Lf : StL fr S) (sf : stR fr s D) (okf : okS s) (hf : fr + 1 < X + 42 ∨ nHi P N m ≤ fr + 1) (tok : ∀ c, c < m → tOk (c + 1) (thrN N k c)) {Q : aH → Prop} (hq : ∀ h' D', HR n S D' h' → gOut X (nHi P N m) D D' → GS X cnt P N S (chooseR (thrN N k c) s x kk (W, ρ)).2 D' m → wyR (P m + 3) (chooseR (thrN N k c) s x kk (W, ρ)).1 D' → Q h') : wX2_choose (RfN k) h (P m) (P c) fr kk Q := by
  have hcp := ord _ _ hc hm
  have hi25 := nHi_25 P N m
  have c25 := nHi_25 P N c
  have sh := G.1.s2 hm s2
  have hp := (G.1 m hm).2.1
  unfold chooseR at hq
  refine R_R R sh rfl (R_O R (G.1.sl hm).1 (st_become R (G.1.sl hm) Lf sf fun h1 D1 R1 O1 s1 => ?_))
  have O1o := O1.o (p := P m) (e := nHi P N m) (by omega) (by omega)
  have G1 := G.own hm ord O1o
  refine R_R R1 sh rfl (R_I R1 sh rfl (R_O R1 (G1.1.sl hm).1 ?_))
  rw [((G1.1 m hm).2.2.2.2.2.2.1 s2).1, ex]
  refine st_keep R1 (G1.1.sl hm) s1 hx fun h2 D2 R2 O2 s2' => ?_
  have O2o := O2.o (p := P m) (e := nHi P N m) (by omega) (by omega)
  have G2 := G1.own hm ord O2o
  have w2 := (wy.on O1 (by omega)).on O2 (by omega)
  refine R_R R2 sh rfl (R_O R2 (G2.1.sl hm).1 (st_isThere R2 (G2.1.sl hm) s2' (fun z => ⟨fun _ => ?_, fun y => absurd rfl y⟩) (fun z => ⟨fun y => absurd y (by decide), fun _ => R_R R2 sh rfl (G2.1.isN R2 (by omega) fun _ => ?_)⟩)))
  · rw [if_pos ((kp_upd okf).mp z)] at hq
    exact hq h2 D2 R2 ((O1o.g hp).tr (O2o.g hp)) G2 w2
  · have z' : ¬ s x &&& kk = 0 := fun e => z ((kp_upd okf).mpr e)
    rw [if_neg z'] at hq
    have ek : kp s x kk = upd s x (s x &&& kk) := by unfold kp; rw [if_neg z']
    rw [ek] at s2'
    have okc : okS (upd s x (s x &&& kk)) := okf.up z' (by rw [and_sw, (okf _).2])
    refine ch _ _ ρ D2 h2 _ _ hc R2 G2 (G2.1.sl hm) s2' okc (by omega) fun h3 D3 R3 O3 G3 w3 => ?_
    have okb := (tok _ hc _ ρ okc).1
    refine R_R R3 sh rfl (nd_ways G3.1 R3 (by omega) (R_O R3 (G3.1.wl hm).1 (wy_join R3 (G3.1.wl hm) (G3.1.wl (by omega)) (G3.1.wp hm) (G3.1.wp (by omega)) (w2.g O3 (by omega)) w3 okb (by omega) fun h4 D4 R4 O4 w4 => ?_)))
    have O4o := O4.o (p := P m) (e := nHi P N m) (by omega) (by omega)
    exact hq h4 D4 R4 ((((O1o.g hp).tr (O2o.g hp)).tr (O3.mono (by omega))).tr (O4o.g hp)) (G3.own hm ord O4o) w4
theorem sc_find2 {k fr : Nat} {s : rS} (hcnt : cnt ≤ 80) (ord : nOrd cnt P N) (hm : m < cnt) (s2 : nSo N m = 2) (oa : nS (nA N m) 12) (oc : nS (nC N m) m) (od : nS (nD N m) m) (ch : chSpec X n cnt P N S k m) (R : HR n S D h) (G : GS X cnt P N S ρ D m) (wy : wyR (P m + 3) rZW D) (Lf : StL fr S) (sf : stR fr s D) (okf : okS s) (hf : fr + 1 < X + 42 ∨ nHi P N m ≤ fr + 1) (tok : ∀ c, c < m → tOk (c + 1) (thrN N k c)) {Q : aH → Prop} (hq : ∀ h' D', HR n S D' h' → gOut X (nHi P N m) D D' → GS X cnt P N S (choiceR (thrN N k (tN (nC N m))) (thrN N k (tN (nD N m))) (tN (nA N m)) (nB N m) s ρ).2 D' m → wyR (P m + 3) (choiceR (thrN N k (tN (nC N m))) (thrN N k (tN (nD N m))) (tN (nA N m)) (nB N m) s ρ).1 D' → Q h') : wX2_findWays (RfN k) h (P m) fr Q := by
  have la := tN_lt oa (by omega)
  have lc := tN_lt oc (by omega)
  have ld := tN_lt od (by omega)
  have hi25 := nHi_25 P N m
  have sh := G.1.s2 hm s2
  have hp := (G.1 m hm).2.1
  unfold choiceR at hq
  refine R_R R sh rfl (R_I R sh rfl ?_)
  rw [((G.1 m hm).2.2.2.2.2.2.1 s2).2]
  refine sp_are (R_O R sh (sc_choose hcnt ord hm s2 lc.1 la.1 la.2 ch R G wy Lf sf okf hf tok fun h1 D1 R1 O1 G1 w1 => ?_))
  refine R_R R1 sh rfl (R_I R1 sh rfl ?_)
  rw [((G1.1 m hm).2.2.2.2.2.2.1 s2).2]
  exact sp_are (R_O R1 sh (sc_choose hcnt ord hm s2 ld.1 la.1 la.2 ch R1 G1 w1 Lf (sf.g O1 (by omega)) okf hf tok fun h2 D2 R2 O2 G2 w2 => hq h2 D2 R2 (O1.tr O2) G2 w2))
end CTR
