/-! the law's loop -/
section LOOP
variable {X L : Nat} {xs : Nat → Int32}
theorem tS_at {i c : Nat} (hL : L ≤ 3072) (hi : i + c < L) {K : Int32 → Prop} (hK : K (xs (i + c))) : tS L xs (nI i + nI c) K := by
  refine ⟨xs (i + c), ?_, ?_, hK⟩
  · rw [nI_add]; exact vp_in_nI hi (by omega)
  · rw [nI_add, nI_clamp (by omega)]
theorem tS_0 {i : Nat} (hL : L ≤ 3072) (hi : i < L) {K : Int32 → Prop} (hK : K (xs i)) : tS L xs (nI i) K := by
  refine ⟨xs i, vp_in_nI hi (by omega), ?_, hK⟩
  rw [nI_clamp (by omega)]
theorem L6 {i : Nat} (hL : L ≤ 3072) (hi : i ≤ 4000) : (Int32.ofNat L - 6 < nI i) ↔ L < i + 6 := by
  rw [Int32.lt_iff_toInt_lt, nI_toInt (by omega)]
  have e : (Int32.ofNat L - 6).toInt = (L : Int) - 6 := by
    rw [Int32.toInt_sub]
    have e1 : (Int32.ofNat L).toInt = (L : Int) := nI_toInt (n := L) (by omega)
    have e2 : (6 : Int32).toInt = 6 := rfl
    rw [e1, e2]
    exact Int.bmod_eq_of_le (by omega) (by omega)
  rw [e]; omega
set_option maxRecDepth 100000 in
set_option maxHeartbeats 4000000 in
theorem law_loop (hL : L ≤ 3072) : ∀ (m i : Nat) (h : aH), L ≤ i + 6 * m + 5 → i ≤ L → IVs X h → wLoop 85 L xs (m + 1) X (X + 12) (nI i) h
  | 0, i, h, hm, hi, I => by
    exact ⟨fun _ => ⟨Or.inr rfl, rfl⟩, fun z => absurd ((L6 hL (by omega)).mpr (by omega)) z⟩
  | m + 1, i, h, hm, hi, I => by
    refine ⟨fun _ => ⟨Or.inr rfl, rfl⟩, fun z => ?_⟩
    have il : i + 6 ≤ L := by
      have : ¬ L < i + 6 := fun e => z ((L6 hL (by omega)).mpr e)
      omega
    have nx : ∀ h, IVs X h → wbL_law_713 (RdN 85) (RfN 85) L xs (wLoop 85 L xs (m + 1)) X (X + 12) (nI i) h (fun r _ => r = 1) := by
      intro h' I'
      have := law_loop hL m (i + 6) h' (by omega) (by omega) I'
      have e : nI i + 6 = nI (i + 6) := nI_add i 6
      show wLoop 85 L xs (m + 1) X (X + 12) (nI i + 6) h'
      rw [e]; exact this
    have t1 : ∀ K : Int32 → Prop, K (xs (i + 1)) → tS L xs (nI i + 1) K := fun K hK => tS_at (c := 1) hL (by omega) hK
    have t2 : ∀ K : Int32 → Prop, K (xs (i + 2)) → tS L xs (nI i + 2) K := fun K hK => tS_at (c := 2) hL (by omega) hK
    have t3 : ∀ K : Int32 → Prop, K (xs (i + 3)) → tS L xs (nI i + 3) K := fun K hK => tS_at (c := 3) hL (by omega) hK
    have t4 : ∀ K : Int32 → Prop, K (xs (i + 4)) → tS L xs (nI i + 4) K := fun K hK => tS_at (c := 4) hL (by omega) hK
    have t5 : ∀ K : Int32 → Prop, K (xs (i + 5)) → tS L xs (nI i + 5) K := fun K hK => tS_at (c := 5) hL (by omega) hK
    refine tS_0 hL (by omega) ⟨fun _ => nx h I, fun _ => ?_, fun _ => ?_, fun _ => ?_, fun _ => ?_, fun _ => ?_, fun _ => ?_, fun _ => ?_, fun _ => ?_, fun _ => ?_, fun _ => ?_, fun _ => ?_, fun _ => ?_, fun _ => ?_, fun _ => ?_, fun _ => ?_, fun _ => ?_, fun _ => ?_, fun _ => ?_, fun _ => ?_⟩
    · exact t1 _ (t2 _ (t3 _ (t4 _ (t5 _ (lw_act I nx (G := fun F => tS L xs (nI i + 1) (fun r9 => tS L xs (nI i + 2) (fun r10 => tS L xs (nI i + 3) (fun r11 => tS L xs (nI i + 4) (fun r12 => tS L xs (nI i + 5) (fun r13 => F r9 r10 r11 r12 r13)))))) (fun F hF => t1 _ (t2 _ (t3 _ (t4 _ (t5 _ hF))))))))))
    · exact t1 _ (t2 _ (lw_both I nx (G := fun F => tS L xs (nI i + 1) (fun r9 => tS L xs (nI i + 2) (fun r10 => F r9 r10))) (fun F hF => t1 _ (t2 _ hF))))
    · exact t1 _ (t2 _ (t3 _ (t4 _ (lw_choice I nx (G := fun F => tS L xs (nI i + 1) (fun r9 => tS L xs (nI i + 2) (fun r10 => tS L xs (nI i + 3) (fun r11 => tS L xs (nI i + 4) (fun r12 => F r9 r10 r11 r12))))) (fun F hF => t1 _ (t2 _ (t3 _ (t4 _ hF))))))))
    · exact t1 _ (t2 _ (t3 _ (t4 _ (lw_guard I nx (G := fun F => tS L xs (nI i + 1) (fun r9 => tS L xs (nI i + 2) (fun r10 => tS L xs (nI i + 3) (fun r11 => tS L xs (nI i + 4) (fun r12 => F r9 r10 r11 r12))))) (fun F hF => t1 _ (t2 _ (t3 _ (t4 _ hF))))))))
    · exact lw_forget I nx
    · exact t1 _ (lw_run I nx (G := fun F => tS L xs (nI i + 1) (fun r9 => F r9)) (fun F hF => t1 _ hF))
    · exact t1 _ (lw_ran I nx (G := fun F => tS L xs (nI i + 1) (fun r9 => F r9)) (fun F hF => t1 _ hF))
    · exact lw_clear I nx
    · exact t1 _ (lw_count I nx (G := fun F => tS L xs (nI i + 1) (fun r9 => F r9)) (fun F hF => t1 _ hF))
    · exact t1 _ (t2 _ (lw_slot I nx (G := fun F => tS L xs (nI i + 1) (fun r9 => tS L xs (nI i + 2) (fun r10 => F r9 r10))) (fun F hF => t1 _ (t2 _ hF))))
    · exact t1 _ (t2 _ (lw_item I nx (G := fun F => tS L xs (nI i + 1) (fun r9 => tS L xs (nI i + 2) (fun r10 => F r9 r10))) (fun F hF => t1 _ (t2 _ hF))))
    · exact t1 _ (lw_register I nx (G := fun F => tS L xs (nI i + 1) (fun r9 => F r9)) (fun F hF => t1 _ hF))
    · exact t1 _ (t2 _ (lw_alike I nx (G := fun F => tS L xs (nI i + 1) (fun r9 => tS L xs (nI i + 2) (fun r10 => F r9 r10))) (fun F hF => t1 _ (t2 _ hF))))
    · exact t1 _ (t2 _ (lw_given I nx (G := fun F => tS L xs (nI i + 1) (fun r9 => tS L xs (nI i + 2) (fun r10 => F r9 r10))) (fun F hF => t1 _ (t2 _ hF))))
    · exact t1 _ (lw_report I nx (G := fun F => tS L xs (nI i + 1) (fun r9 => F r9)) (fun F hF => t1 _ hF))
    · exact t1 _ (lw_reached I nx (G := fun F => tS L xs (nI i + 1) (fun r9 => F r9)) (fun F hF => t1 _ hF))
    · exact t1 _ (lw_may I nx (G := fun F => tS L xs (nI i + 1) (fun r9 => F r9)) (fun F hF => t1 _ hF))
    · exact t1 _ (t2 _ (lw_ahead I nx (G := fun F => tS L xs (nI i + 1) (fun r9 => tS L xs (nI i + 2) (fun r10 => F r9 r10))) (fun F hF => t1 _ (t2 _ hF))))
    · exact t1 _ (t2 _ (lw_guarded I nx (G := fun F => tS L xs (nI i + 1) (fun r9 => tS L xs (nI i + 2) (fun r10 => F r9 r10))) (fun F hF => t1 _ (t2 _ hF))))
end LOOP
theorem pure_thm : a_pure := by
  intro base L xs hL
  refine ⟨513, 85, by omega, by omega, ?_⟩
  refine cc_init (X := base) fun h1 S1 D1 R1 f1 c1 => ?_
  have z1 : zD (base + 12) D1 := fun a ha => ⟨fun k => by rw [c1.2.2.2.1, if_neg (fun q => by omega)], fun k => c1.2.2.2.2.1 a k (by omega), fun k => c1.2.2.2.2.2.1 a k, fun k => c1.2.2.2.2.2.2 a k⟩
  refine mm_init R1 f1 z1 fun h2 S2 R2 f2 L2 o2 => ?_
  exact law_loop hL 512 0 h2 (by omega) (by omega) (IV_0 c1 R2 f2 L2 o2)
