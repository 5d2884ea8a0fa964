section CT3
variable {X n cnt : Nat} {P : Nat → Nat} {N : nT} {S : sS} {ρ : rD} {D : sD} {h : aH} {m : Nat}
theorem oOn.rf {p e : Nat} {D : sD} : oOn p e D D := ⟨rfl, rfl, fun _ _ => rfl⟩
theorem oOn.tr {p e : Nat} {D D' D'' : sD} (h : oOn p e D D') (h' : oOn p e D' D'') : oOn p e D D'' := ⟨h'.1.trans h.1, h'.2.1.trans h.2.1, fun b hb => (h'.2.2 b hb).trans (h.2.2 b hb)⟩
theorem sc_takes (W : NdC X cnt P N S D) (R : HR n S D h) (hm : m < cnt) (s3 : nSo N m = 3) {x : Int32} {Q : Int32 → aH → Prop} (h0 : tkB (nB N m) x = 0 → Q 0 h) (h1 : ¬ tkB (nB N m) x = 0 → Q 1 h) : wX3_takes h (P m) x Q := by
  refine R_I R (W.s3 hm s3) rfl ?_
  rw [(W m hm).2.2.2.2.2.2.2.1 s3]
  refine ⟨fun z => ⟨Or.inl rfl, h0 ?_⟩, fun z => ⟨Or.inr rfl, h1 ?_⟩⟩
  · unfold tkB; rw [if_neg (fun e => by rw [z] at e; exact absurd e (by decide))]
  · unfold tkB; rw [if_pos (and1_ne.mp z)]; decide
theorem sc_sort_loop {a : Nat} {V W : rW} (hcnt : cnt ≤ 80) (ord : nOrd cnt P N) (hm : m < cnt) (s3 : nSo N m = 3) (ha : a < m) (ea : tN (nA N m) = a) {D0 : sD} (G0 : GS X cnt P N S ρ D0 m) (wa : wyR (P a + 3) V D0) {Q : aH → Prop} (hq : ∀ h' D', HR n S D' h' → oOn (P m) (nHi P N m) D0 D' → stR (P m + 23) (tkN (nB N m) V 9) D' → wyR (P m + 25) (hdW (nB N m) V) D' → wyR (P m + 3) W D' → Q h') : ∀ (j i : Nat) (D : sD) (h : aH), j + i = 9 → HR n S D h → oOn (P m) (nHi P N m) D0 D → stR (P m + 23) (tkN (nB N m) V i) D → wyR (P m + 25) (fun g => if g < i then hdW (nB N m) V g else rZ) D → wyR (P m + 3) W D → wbX3_sortBodysWays_16 (j + 1) (P m) (nI i) h Q
  | 0, i, D, h, hi, R, O, st, wh, ww => by
    have e : i = 9 := by omega
    subst e
    exact ⟨fun _ => hq h D R O st (fun f hf => by have := wh f hf; simp only [if_pos hf] at this; exact this) ww, fun z => absurd (nI_lt (a := 8) (b := 9) (by omega) (by omega)) z⟩
  | j + 1, i, D, h, hi, R, O, st, wh, ww => by
    have h45 := nHi_45 P N m s3
    have hap := ord a m ha hm
    have a25 := nHi_25 P N a
    have G := G0.own hm ord O
    have sh := G.1.s3 hm s3
    rw [ea] at sh
    have wa' : wyR (P a + 3) V D := fun f hf => (wa f hf).cg (O.2.2 _ (by omega))
    have k45 : ∀ (q : Nat) (s : rS), StL q S → stR q s D → (∀ h' D', HR n S D' h' → sOn (q + 1) D D' → stR q (fun k => s k ||| V i k) D' → wbX3_sortBodysWays_16 (j + 1) (P m) (nI i + 1) h' Q) → wbX3_sortBodysWays_45 (fun v0 v1 h => wbX3_sortBodysWays_16 (j + 1) v0 v1 h Q) (P m) (nI i) q h Q := by
      intro q s Lq sq hq
      exact R_R R sh rfl (nd_ways G.1 R (by omega) (R_O R (G.1.wl (show a < cnt by omega)).1 (wy_by R (G.1.wl (by omega)) (G.1.wp (by omega)) (by omega) ⟨_, rfl, R_O R Lq.1 (st_join R Lq ((G.1.wl (show a < cnt by omega)).2.2 i (by omega)) sq (wa' i (by omega)) hq)⟩)))
    refine ⟨fun z => absurd z (n8lt (by omega)), fun _ => R_O R sh (sc_takes G.1 R hm s3 (fun tb => ⟨fun _ => R_R R sh rfl (R_O R (G.1.hl hm s3).1 (wy_by R (G.1.hl hm s3) (G.1.hp hm s3) (by omega) ⟨_, rfl, k45 _ rZ ((G.1.hl hm s3).2.2 i (by omega)) ?_ fun h' D' R' O' s' => ?_⟩)), fun y => absurd rfl y⟩) (fun tb => ⟨fun y => absurd y (by decide), fun _ => R_R R sh rfl (k45 _ _ (G.1.sl hm) st fun h' D' R' O' s' => ?_)⟩))⟩
    · have := wh i (by omega); simp only [if_neg (Nat.lt_irrefl i)] at this; exact this
    · rw [nI_1]
      have O'o := O'.o (p := P m) (e := nHi P N m) (by omega) (by omega)
      refine sc_sort_loop hcnt ord hm s3 ha ea G0 wa hq j (i + 1) D' h' (by omega) R' (O.tr O'o) ?_ ((wh.set (by omega) O' s').eq fun g k => ?_) (ww.on O' (by omega))
      · show stR _ (tkN (nB N m) V (i + 1)) D'
        unfold tkN; rw [if_pos tb]; exact st.on O' (by omega)
      · by_cases e : g = i
        · rw [if_pos e, if_pos (by omega)]
          unfold hdW; rw [e, if_pos tb]; exact z_or _
        · rw [if_neg e]
          by_cases c : g < i
          · rw [if_pos c, if_pos (by omega)]
          · rw [if_neg c, if_neg (by omega)]
    · rw [nI_1]
      have O'o := O'.o (p := P m) (e := nHi P N m) (by omega) (by omega)
      refine sc_sort_loop hcnt ord hm s3 ha ea G0 wa hq j (i + 1) D' h' (by omega) R' (O.tr O'o) ?_ ((wh.on O' (by omega)).eq fun g k => ?_) (ww.on O' (by omega))
      · show stR _ (tkN (nB N m) V (i + 1)) D'
        unfold tkN; rw [if_neg tb]; exact s'
      · by_cases e : g = i
        · rw [if_neg (by omega), if_pos (by omega)]
          unfold hdW; rw [e, if_neg tb]
        · by_cases c : g < i
          · rw [if_pos c, if_pos (by omega)]
          · rw [if_neg c, if_neg (by omega)]
theorem sc_last_loop {k d : Nat} {H : rW} (hcnt : cnt ≤ 80) (ord : nOrd cnt P N) (hm : m < cnt) (s3 : nSo N m = 3) (hd : d < m) (okh : okW H) (ch : chSpec X n cnt P N S k m) (tok : ∀ c, c < m → tOk (c + 1) (thrN N k c)) {D0 : sD} {Q : aH → Prop} : ∀ (j i : Nat) (p : rW × rD) (D : sD) (h : aH), j + i = 9 → HR n S D h → GS X cnt P N S p.2 D m → wyR (P m + 25) H D → wyR (P m + 3) p.1 D → gOut X (nHi P N m) D0 D → (∀ h' D', HR n S D' h' → gOut X (nHi P N m) D0 D' → GS X cnt P N S (lastN (thrN N k d) H m j i p).2 D' m → wyR (P m + 3) (lastN (thrN N k d) H m j i p).1 D' → wyR (P m + 25) H D' → Q h') → wbX3_goOnThroughLast_2 (RfN k) (j + 1) (P m) (P d) (nI i) h Q
  | 0, i, p, D, h, hi, R, G, wh, ww, O, hq => by
    have e : i = 9 := by omega
    subst e
    exact ⟨fun _ => hq h D R O G ww wh, fun z => absurd (nI_lt (a := 8) (b := 9) (by omega) (by omega)) z⟩
  | j + 1, i, p, D, h, hi, R, G, wh, ww, O, hq => by
    have h45 := nHi_45 P N m s3
    have hdp := ord d m hd hm
    have d25 := nHi_25 P N d
    have sh := G.1.s3 hm s3
    have hp := (G.1 m hm).2.1
    have Lh := G.1.hl hm s3
    unfold lastN at hq
    refine ⟨fun z => absurd z (n8lt (by omega)), fun _ => R_R R sh rfl (R_O R Lh.1 (wy_by R Lh (G.1.hp hm s3) (by omega) ⟨_, rfl, R_O R (Lh.2.2 i (by omega)).1 (st_isThere R (Lh.2.2 i (by omega)) (wh i (by omega)) (fun z => ⟨fun _ => ?_, fun y => absurd rfl y⟩) (fun z => ⟨fun y => absurd y (by decide), fun _ => R_R R sh rfl (R_O R Lh.1 (wy_by R Lh (G.1.hp hm s3) (by omega) ⟨_, rfl, G.1.isN R (by omega) fun _ => ch _ _ p.2 D h _ _ hd R G (Lh.2.2 i (by omega)) (wh i (by omega)) ((okh i).ok z) (by omega) fun h1 D1 R1 O1 G1 w1 => ?_⟩))⟩))⟩))⟩
    · rw [if_pos z] at hq
      show wbX3_goOnThroughLast_2 (RfN k) (j + 1) (P m) (P d) (nI i + 1) h Q
      rw [nI_1]
      exact sc_last_loop hcnt ord hm s3 hd okh ch tok j (i + 1) p D h (by omega) R G wh ww O hq
    · rw [if_neg z] at hq
      generalize er : thrN N k d (H i) p.2 = r at G1 w1 hq
      have okr : okW r.1 := by rw [← er]; exact (tok _ hd _ p.2 ((okh i).ok z)).1
      have ww1 := ww.g O1 (by omega)
      have wh1 := wh.g O1 (by omega)
      refine R_R R1 sh rfl (R_O R1 (G1.1.wl hm).1 (wy_by R1 (G1.1.wl hm) (G1.1.wp hm) (by omega) ⟨_, rfl, nd_ways G1.1 R1 (by omega) (R_O R1 (G1.1.wl (show d < cnt by omega)).1 (wy_by (f := 0) R1 (G1.1.wl (by omega)) (G1.1.wp (by omega)) (by omega) ⟨_, rfl, R_O R1 ((G1.1.wl hm).2.2 i (by omega)).1 (wy_jn R1 (G1.1.wl hm) ww1 (by omega) ((G1.1.wl (show d < cnt by omega)).2.2 0 (by omega)) (w1 0 (by omega)) fun h2 D2 R2 O2 w2 => ?_)⟩))⟩))
      have O2o := O2.o (p := P m) (e := nHi P N m) (by omega) (by omega)
      have G2 := G1.own hm ord O2o
      have w1' := w1.won O2 (by omega)
      refine R_R R2 sh rfl (nd_ways G2.1 R2 (by omega) (R_O R2 (G2.1.wl hm).1 (wy_joinF R2 (G2.1.wl hm) (G2.1.wl (by omega)) (G2.1.wp hm) (G2.1.wp (by omega)) w2 w1' okr (by omega) fun h3 D3 R3 O3 w3 => ?_)))
      have O3o := O3.o (p := P m) (e := nHi P N m) (by omega) (by omega)
      have G3 := G2.own hm ord O3o
      have w1'' := w1'.won O3 (by omega)
      have wh3 := (wh1.won O2 (by omega)).won O3 (by omega)
      have O03 : gOut X (nHi P N m) D0 D3 := ((O.tr (O1.mono (by omega))).tr (O2o.g hp)).tr (O3o.g hp)
      refine nd_ways G3.1 R3 (by omega) (R_O R3 (G3.1.wl (show d < cnt by omega)).1 (wy_bits R3 (G3.1.wl (by omega)) (G3.1.wp (by omega)) w1'' ⟨fun y => ?_, fun y => R_I R3 sh rfl (R_wF R3 sh rfl fun h4 R4 => ?_)⟩))
      · have el : losR m i r.1 r.2 = r.2 := by unfold losR; rw [if_pos y]
        rw [el] at hq
        show wbX3_goOnThroughLast_2 (RfN k) (j + 1) (P m) (P d) (nI i + 1) h3 Q
        rw [nI_1]
        exact sc_last_loop hcnt ord hm s3 hd okh ch tok j (i + 1) (jnF (jn p.1 i (r.1 0)) r.1, r.2) D3 h3 (by omega) R3 G3 wh3 w3 O03 hq
      · rw [(G3.2.2.2.2 s3).2] at R4
        have el : losR m i r.1 r.2 = (r.2.1, r.2.2.1, r.2.2.2.1, upd r.2.2.2.2 m (r.2.2.2.2 m ||| ((1 <<< (nI i &&& 31)) &&& 510))) := by unfold losR; rw [if_neg y]
        have G4 := G3.ownO (ρ' := losR m i r.1 r.2) (k := 12) (v := r.2.2.2.2 m ||| ((1 <<< (nI i &&& 31)) &&& 510)) hm ord (Or.inr (Or.inr rfl)) (fun g hg => rAt.los hg) (by
          rw [el]
          obtain ⟨c1, c2, c3⟩ := G3.2.2
          refine ⟨c1, by rw [uO_at, if_neg (by omega)]; exact c2, fun s => ⟨by rw [uO_at, if_neg (by omega)]; exact (c3 s).1, ?_⟩⟩
          rw [uO_at, if_pos rfl]
          show _ = upd _ _ _ _
          simp [upd])
        show wbX3_goOnThroughLast_2 (RfN k) (j + 1) (P m) (P d) (nI i + 1) h4 Q
        rw [nI_1]
        exact sc_last_loop hcnt ord hm s3 hd okh ch tok j (i + 1) _ _ h4 (by omega) R4 G4.1 wh3 w3 (O03.tr G4.2) hq
theorem sc_find3 {k fr : Nat} {s : rS} (hcnt : cnt ≤ 80) (ord : nOrd cnt P N) (hm : m < cnt) (s3 : nSo N m = 3) (oa : nS (nA N m) m) (oc : nC N m = -1 ∨ nS (nC N m) m) (od : nD N m = -1 ∨ nS (nD N m) m) (ch : chSpec X n cnt P N S k m) (R : HR n S D h) (G : GS X cnt P N S ρ D m) (wy : wyR (P m + 3) rZW D) (hH : ∃ W, okW W ∧ wyR (P m + 25) W D) (Lf : StL fr S) (sf : stR fr s D) (okf : okS s) (hf : fr + 1 < X + 42 ∨ nHi P N m ≤ fr + 1) (tok : ∀ c, c < m → tOk (c + 1) (thrN N k c)) {Q : aH → Prop} (hq : ∀ h' D', HR n S D' h' → gOut X (nHi P N m) D D' → GS X cnt P N S (guardR (thrN N k (tN (nA N m))) (thrN N k (tN (nC N m))) (thrN N k (tN (nD N m))) m (nB N m) (nC N m) (nD N m) s ρ).2 D' m → wyR (P m + 3) (guardR (thrN N k (tN (nA N m))) (thrN N k (tN (nC N m))) (thrN N k (tN (nD N m))) m (nB N m) (nC N m) (nD N m) s ρ).1 D' → (∃ W, okW W ∧ wyR (P m + 25) W D') → Q h') : wX3_findWays (RfN k) h (P m) fr Q := by
  have la := tN_lt oa (by omega)
  have ha := ord _ _ la.1 hm
  have h45 := nHi_45 P N m s3
  have a25 := nHi_25 P N (tN (nA N m))
  have sh := G.1.s3 hm s3
  have hp := (G.1 m hm).2.1
  unfold guardR at hq
  refine R_R R sh rfl (G.1.isN R (by omega) fun _ => ch _ s ρ D h fr _ la.1 R G Lf sf okf (by omega) fun h1 D1 R1 O1 G1 w1 => ?_)
  generalize er : thrN N k (tN (nA N m)) s ρ = r at G1 w1 hq
  have okr : okW r.1 := by rw [← er]; exact (tok _ la.1 s ρ okf).1
  have wy1 := wy.g O1 (by omega)
  obtain ⟨H0, okH0, wH0⟩ := hH
  have wh1 := wH0.g O1 (by omega)
  refine R_I R1 sh rfl (R_R R1 sh rfl (nd_ways G1.1 R1 (by omega) (R_O R1 (G1.1.wl (show tN (nA N m) < cnt by omega)).1 (wy_bits R1 (G1.1.wl (by omega)) (G1.1.wp (by omega)) w1 (R_wF R1 sh rfl fun h2 R2 => ?_)))))
  rw [(G1.2.2.2.2 s3).1] at R2
  have G2 := G1.ownO (ρ' := bodR m r.1 r.2) (k := 11) (v := r.2.2.2.1 m ||| bits r.1) hm ord (Or.inr (Or.inl rfl)) (fun g hg => rAt.bod hg) (by
    obtain ⟨c1, c2, c3⟩ := G1.2.2
    refine ⟨c1, by rw [uO_at, if_neg (by omega)]; exact c2, fun s => ⟨?_, by rw [uO_at, if_neg (by omega)]; exact (c3 s).2⟩⟩
    rw [uO_at, if_pos rfl]
    show _ = upd _ _ _ _
    simp [upd])
  generalize eD2 : uO D1 (P m) 11 (r.2.2.2.1 m ||| bits r.1) = D2 at R2 G2
  have e2 : D2.2 = D1.2 := by rw [← eD2]; rfl
  have w2 : wyR (P (tN (nA N m)) + 3) r.1 D2 := fun f hf => (w1 f hf).cg (by rw [e2])
  have wy2 : wyR (P m + 3) rZW D2 := fun f hf => (wy1 f hf).cg (by rw [e2])
  have wh2 : wyR (P m + 25) H0 D2 := fun f hf => (wh1 f hf).cg (by rw [e2])
  obtain ⟨G2, O2⟩ := G2
  have O02 : gOut X (nHi P N m) D D2 := (O1.mono (by omega)).tr O2
  refine R_O R2 sh (R_R R2 sh rfl (R_O R2 (G2.1.hl hm s3).1 (wy_erase R2 (G2.1.hl hm s3) (G2.1.hp hm s3) wh2 okH0 fun h3 D3 R3 O3 w3 => R_R R3 sh rfl (R_O R3 (G2.1.sl hm).1 (st_erase R3 (G2.1.sl hm) fun h4 D4 R4 O4 s4 => ⟨10, ?_⟩)))))
  have O3o := O3.o (p := P m) (e := nHi P N m) (by omega) (by omega)
  have O4o := O4.o (p := P m) (e := nHi P N m) (by omega) (by omega)
  refine sc_sort_loop (W := rZW) hcnt ord hm s3 la.1 rfl G2 w2 (fun h5 D5 R5 O5 s5 wh5 ww5 => ?_) 9 0 D4 h4 rfl R4 (O3o.tr O4o) s4 ((w3.on O4 (by omega)).eq fun g k => by rw [if_neg (by omega)]; rfl) ((wy2.won O3 (by omega)).on O4 (by omega))
  have G5 := G2.own hm ord O5
  have O05 : gOut X (nHi P N m) D D5 := O02.tr (O5.g hp)
  generalize eb : bodR m r.1 r.2 = rb at G5 hq G2
  -- the last part
  have k91 : ∀ (p : rW × rD) (D6 : sD) (h6 : aH), p = handR (thrN N k (tN (nC N m))) (nB N m) (nC N m) r.1 rb → okW p.1 → HR n S D6 h6 → gOut X (nHi P N m) D D6 → GS X cnt P N S p.2 D6 m → wyR (P m + 25) p.1 D6 → wyR (P m + 3) rZW D6 → wbX3_findWays_91 (RfN k) (P m) h6 Q := by
    intro p D6 h6 ep okp R6 O6 G6 wh6 ww6
    rw [← ep] at hq
    refine R_Q R6 sh rfl ⟨fun x0 ex => ?_, fun ex => ?_⟩
    · have d0 : 0 ≤ nD N m := by
        by_cases c : 0 ≤ nD N m
        · exact c
        · unfold nRef at ex; rw [if_neg c] at ex; cases ex
      rw [if_pos d0] at hq
      have ld := tN_lt (ge0_nS od d0) (by omega)
      refine R_Q R6 sh rfl ⟨P (tN (nD N m)), by unfold nRef; rw [if_pos d0], R_O R6 sh ⟨10, ?_⟩⟩
      exact sc_last_loop hcnt ord hm s3 ld.1 okp ch tok 9 0 (rZW, p.2) D6 h6 rfl R6 G6 wh6 ww6 O6 fun h7 D7 R7 O7 G7 w7 wh7 => hq h7 D7 R7 O7 G7 w7 ⟨_, okp, wh7⟩
    · have d0 : ¬ 0 ≤ nD N m := fun c => by unfold nRef at ex; rw [if_pos c] at ex; cases ex
      rw [if_neg d0] at hq
      refine R_R R6 sh rfl (R_R R6 sh rfl (R_O R6 (G6.1.wl hm).1 (wy_join R6 (G6.1.wl hm) (G6.1.hl hm s3) (G6.1.wp hm) (G6.1.hp hm s3) ww6 wh6 okp (by omega) fun h7 D7 R7 O7 w7 => ?_)))
      have O7o := O7.o (p := P m) (e := nHi P N m) (by omega) (by omega)
      exact hq h7 D7 R7 (O6.tr (O7o.g hp)) (G6.own hm ord O7o) w7 ⟨_, okp, wh6.won O7 (by omega)⟩
  have okh := hdW_ok (b := nB N m) okr
  have okt := tkN_wf (b := nB N m) okr 9
  have k76 : (tkN (nB N m) r.1 9 0 = 0 ∨ ¬ 0 ≤ nC N m) → wbX3_findWays_76 (RfN k) (P m) h5 Q := by
    intro c
    refine R_R R5 sh rfl (R_O R5 (G5.1.hl hm s3).1 (wy_by (f := 0) R5 (G5.1.hl hm s3) (G5.1.hp hm s3) (by omega) ⟨_, rfl, R_R R5 sh rfl (R_O R5 ((G5.1.hl hm s3).2.2 0 (by omega)).1 (wy_jn (f := 0) R5 (G5.1.hl hm s3) wh5 (by omega) (G5.1.sl hm) s5 fun h6 D6 R6 O6 w6 => ?_))⟩))
    have O6o := O6.o (p := P m) (e := nHi P N m) (by omega) (by omega)
    refine k91 (jn (hdW (nB N m) r.1) 0 (tkN (nB N m) r.1 9), rb) D6 h6 ?_ (okh.oj okt) R6 (O05.tr (O6o.g hp)) (G5.own hm ord O6o) w6 (ww5.won O6 (by omega))
    unfold handR; rw [if_pos c]
  refine R_R R5 sh rfl (R_O R5 (G5.1.sl hm).1 (st_isThere R5 (G5.1.sl hm) s5 (fun z => ⟨fun _ => k76 (Or.inl z), fun y => absurd rfl y⟩) (fun z => ⟨fun y => absurd y (by decide), fun _ => R_Q R5 sh rfl ⟨fun ex => k76 (Or.inr fun c => by unfold nRef at ex; rw [if_pos c] at ex; cases ex), fun x0 ex => ?_⟩⟩)))
  have c0 : 0 ≤ nC N m := by
    by_cases c : 0 ≤ nC N m
    · exact c
    · unfold nRef at ex; rw [if_neg c] at ex; cases ex
  have lc := tN_lt (ge0_nS oc c0) (by omega)
  have hc := ord _ _ lc.1 hm
  have c25 := nHi_25 P N (tN (nC N m))
  refine R_Q R5 sh rfl (R_R R5 sh rfl ⟨P (tN (nC N m)), by unfold nRef; rw [if_pos c0], G5.1.isN R5 (by omega) fun _ => ch _ _ _ D5 h5 _ _ lc.1 R5 G5 (G5.1.sl hm) s5 (okt.ok z) (by omega) fun h6 D6 R6 O6 G6 w6 => ?_⟩)
  have okc := (tok _ lc.1 _ rb (okt.ok z)).1
  refine R_R R6 sh rfl (R_Q R6 sh rfl ⟨P (tN (nC N m)), by unfold nRef; rw [if_pos c0], nd_ways G6.1 R6 (by omega) (R_O R6 (G6.1.hl hm s3).1 (wy_join R6 (G6.1.hl hm s3) (G6.1.wl (by omega)) (G6.1.hp hm s3) (G6.1.wp (by omega)) (wh5.g O6 (by omega)) w6 okc (by omega) fun h7 D7 R7 O7 w7 => ?_))⟩)
  have O7o := O7.o (p := P m) (e := nHi P N m) (by omega) (by omega)
  refine k91 (jnA (hdW (nB N m) r.1) (thrN N k (tN (nC N m)) (tkN (nB N m) r.1 9) rb).1, (thrN N k (tN (nC N m)) (tkN (nB N m) r.1 9) rb).2) D7 h7 ?_ (okh.oA okc) R7 ((O05.tr (O6.mono (by omega))).tr (O7o.g hp)) (G6.own hm ord O7o) w7 ((ww5.g O6 (by omega)).won O7 (by omega))
  unfold handR; rw [if_neg (fun e => e.elim z (fun e => e c0))]
theorem sc_thr (hcnt : cnt ≤ 80) (ord : nOrd cnt P N) : ∀ (k m : Nat) (s : rS) (ρ : rD) (D : sD) (h : aH) (fr : Nat) (Q : aH → Prop), m < k → m < cnt → HR n S D h → NdC X cnt P N S D → (∀ g, g ≤ m → CRm P N ρ D g) → StL fr S → stR fr s D → okS s → (fr + 1 < X + 42 ∨ nHi P N m ≤ fr + 1) → (∀ h' D', HR n S D' h' → gOut X (nHi P N m) D D' → (∀ g, g ≤ m → CRm P N (thrN N k m s ρ).2 D' g) → wyR (P m + 3) (thrN N k m s ρ).1 D' → Q h') → wX6_goThrough (RfN k) h (P m) fr Q
  | 0, m, s, ρ, D, h, fr, Q, hk, hm, R, W, CR, Lf, sf, okf, hf, hq => absurd hk (Nat.not_lt_zero _)
  | k + 1, m, s, ρ, D, h, fr, Q, hk, hm, R, W, CR, Lf, sf, okf, hf, hq => by
    have ih := sc_thr hcnt ord k
    have hN : ∀ m, m < cnt → nOk N m := fun m hm => (W m hm).1
    have tok : ∀ c, c < m → tOk (c + 1) (thrN N k c) := fun c hc => thrN_ok hN hcnt k c (by omega)
    have ch : chSpec X n cnt P N S k m := by
      intro c s ρ D h fr Q hc R G Lf sf okf hf hq
      have hcp := ord c m hc hm
      refine ih c s ρ D h fr Q (by omega) (by omega) R G.1 (fun g hg => G.2.1 g (by omega)) Lf sf okf (by omega) fun h' D' R' O' C' w' => hq h' D' R' (O'.mono hcp) ⟨G.1.g O', fun g hg => ?_, ?_⟩ w'
      · by_cases e : g ≤ c
        · exact C' g e
        · have hcg := ord c g (by omega) (by omega)
          exact (G.2.1 g hg).cg (fun a h1 h2 => O'.2.2 a (by omega)) ((tok c hc s ρ okf).2 g (by omega))
      · obtain ⟨c1, c2, c3⟩ := G.2.2
        have r := (tok c hc s ρ okf).2 m (by omega)
        have e := O'.2.2 (P m) (by omega)
        refine ⟨by rw [r.1]; exact c1.g O' (by omega), by rw [r.2.1, e.1]; exact c2, fun s => by rw [r.2.2.1, r.2.2.2, e.1]; exact c3 s⟩
    obtain ⟨o, hp, L, dd⟩ := W m hm
    have h25 := nHi_25 P N m
    obtain ⟨⟨c1, c2, c3⟩, ⟨W0, okW0, wW0⟩, c6⟩ := CR m (Nat.le_refl m)
    refine R_RN R L.1 o.s4 rfl (R_O R L.2.1.1 (st_join R L.2.1 Lf c1 sf fun h1 D1 R1 O1 s1 => R_RN R1 L.1 o.s4 rfl (R_O R1 L.2.2.1.1 (wy_erase R1 L.2.2.1 ((W.wp hm).cg O1.2.1) (wW0.on O1 (by omega)) okW0 fun h2 D2 R2 O2 w2 => R_N R2 L.1 o.s4 ?_))))
    have eD1 : D2.1 = D.1 := O2.1.trans O1.1
    have eD2 : D2.2.2 = D.2.2 := O2.2.1.trans O1.2.1
    have eF : ∀ b, b ≠ P m + 2 → ¬ (P m + 6 ≤ b ∧ b ≤ P m + 22) → D2.2.1 b = D.2.1 b := fun b h1 h2 => (O2.2.2 b (by omega)).trans (O1.2.2 b (by omega))
    have O02 : gOut X (nHi P N m) D D2 := ⟨eD2, fun a j _ _ _ => by rw [eD1], fun a ha => ⟨by rw [eD1], eF a (by omega) (by omega)⟩⟩
    have G2 : GS X cnt P N S (enterR m s ρ) D2 m := by
      refine ⟨W.g O02, fun g hg => (CR g (by omega)).cg (fun a h1 h2 => ⟨by rw [eD1], eF a ?_ ?_⟩) (rAt.ent (by omega)), ?_, by rw [eD1]; exact c2, fun s => by rw [eD1]; exact c3 s⟩
      · have := ord g m hg hm; omega
      · have := ord g m hg hm; omega
      · have e : (enterR m s ρ).1 m = fun i => ρ.1 m i ||| s i := by show (if m = m then _ else _) = _; rw [if_pos rfl]
        rw [e]; exact s1.won O2 (by omega)
    have sf2 : stR fr s D2 := sf.g O02 (by omega)
    have c6' : nSo N m = 3 → ∃ W, okW W ∧ wyR (P m + 25) W D2 := fun s => by
      obtain ⟨V, h7, h8⟩ := c6 s
      have h45 := nHi_45 P N m s
      exact ⟨V, h7, fun f hf => (h8 f hf).cg (eF _ (by omega) (by omega))⟩
    -- behind the ways
    have fin : ∀ h3 D3, HR n S D3 h3 → gOut X (nHi P N m) D2 D3 → GS X cnt P N S (findR N (thrN N k) m s (enterR m s ρ)).2 D3 m → wyR (P m + 3) (findR N (thrN N k) m s (enterR m s ρ)).1 D3 → (nSo N m = 3 → ∃ W, okW W ∧ wyR (P m + 25) W D3) → rIN h3 (P m) 4 (fun r8 => rRN h3 (P m) 3 (fun r10 => isO h3 r10 7 (wX9_bits h3 r10 (fun r13 h12 => wFN h12 (P m) 4 (.int (r8 ||| r13)) (fun h14 => Q h14))))) := by
      intro h3 D3 R3 O3 G3 w3 hH3
      have okF := (findR_ok (N := N) (t := thrN N k) o (by omega) tok s (enterR m s ρ) okf).1
      unfold thrN leaveR at hq
      generalize findR N (thrN N k) m s (enterR m s ρ) = F at G3 w3 hq okF
      refine R_IN R3 L.1 o.s4 rfl (nd_ways G3.1 R3 hm (R_O R3 L.2.2.1.1 (wy_bits R3 L.2.2.1 (G3.1.wp hm) w3 (R_wFN R3 L.1 o.s4 rfl fun h4 R4 => ?_))))
      rw [G3.2.2.2.1] at R4
      have G4 := G3.ownO (ρ' := (F.2.1, upd F.2.2.1 m (F.2.2.1 m ||| bits F.1), F.2.2.2)) (k := 4) (v := F.2.2.1 m ||| bits F.1) hm ord (Or.inl rfl) (fun g hg => ⟨rfl, by show upd _ _ _ _ = _; simp [upd, hg], rfl, rfl⟩) (by
        obtain ⟨c1, c2, c3⟩ := G3.2.2
        refine ⟨c1, ?_, fun s => ⟨by rw [uO_at, if_neg (by omega)]; exact (c3 s).1, by rw [uO_at, if_neg (by omega)]; exact (c3 s).2⟩⟩
        rw [uO_at, if_pos rfl]
        show _ = upd _ _ _ _
        simp [upd])
      refine hq h4 _ R4 ((O02.tr O3).tr G4.2) (fun g hg => ?_) w3
      by_cases e : g = m
      · subst e
        exact ⟨G4.1.2.2, ⟨_, okF, w3⟩, fun s => hH3 s⟩
      · exact G4.1.2.1 g (by omega)
    unfold findR at fin
    show (match nSo N m with | 0 => _ | 1 => _ | 2 => _ | _ => _)
    rcases id o with o | o | o | o
    · rw [o.1]
      rw [if_pos o.1] at fin
      have sh : S (P m) = some (.inr (0, [none, none, some (some (P m + 1)), some (some (P m + 3)), none, none, none, none, none, none, some (some (P m + 23))])) := by
        rw [L.1, o.1]; unfold nFl; rw [if_pos o.1]; rfl
      obtain ⟨-, -, -, dd2⟩ := G2.1 m hm
      refine ca_findWays (op := nOp N m) (a := nA N m) (b := nB N m) (c := nC N m) (d := nD N m) R2 ⟨sh, W.wl hm, W.sl hm, G2.1.wp hm, dd2.2.2.1 o.1⟩ w2 Lf sf2 o.2 fun h3 D3 R3 O3 w3 => ?_
      have O3o : oOn (P m) (nHi P N m) D2 D3 := ⟨O3.1, O3.2.1, fun b hb => O3.2.2 b (by omega)⟩
      exact fin h3 D3 R3 (O3o.g hp) (G2.own hm ord O3o) w3 (fun s => by omega)
    · obtain ⟨s1, oa, ob⟩ := o
      rw [s1]
      rw [if_neg (by omega), if_pos s1] at fin
      exact sc_find1 hcnt ord hm s1 oa ob ch R2 G2 w2 Lf sf2 okf hf tok fun h3 D3 R3 O3 G3 w3 => fin h3 D3 R3 O3 G3 w3 (fun s => by omega)
    · obtain ⟨s2, oa, ob, oc, od⟩ := o
      rw [s2]
      rw [if_neg (by omega), if_neg (by omega), if_pos s2] at fin
      exact sc_find2 hcnt ord hm s2 oa oc od ch R2 G2 w2 Lf sf2 okf hf tok fun h3 D3 R3 O3 G3 w3 => fin h3 D3 R3 O3 G3 w3 (fun s => by omega)
    · obtain ⟨s3, oa, ob, oc, od⟩ := o
      rw [s3]
      rw [if_neg (by omega), if_neg (by omega), if_neg (by omega)] at fin
      exact sc_find3 hcnt ord hm s3 oa oc od ch R2 G2 w2 (c6' s3) Lf sf2 okf hf tok fun h3 D3 R3 O3 G3 w3 hH => fin h3 D3 R3 O3 G3 w3 (fun _ => hH)
end CT3
