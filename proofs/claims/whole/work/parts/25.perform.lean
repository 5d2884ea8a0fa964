/-! an ACT is done: the class' machine -/
def nS (x : Int32) (k : Nat) : Prop := ∃ s : Nat, s < k ∧ x = nI s
/-- the numbers of an ACT are as told -/
def actOk (op : Nat) (a b c d : Int32) : Prop := match op with
  | 0 => nS a 12 ∧ (b = 1 ∨ b = 2 ∨ b = 3 ∨ b = 4 ∨ b = 6 ∨ b = 7)
  | 1 => nS a 12
  | 2 => nS a 12
  | 3 => nS a 12
  | 4 => nS a 12 ∧ nS b 12 ∧ nS c 10
  | 5 => nS a 8 ∧ nS b 12 ∧ ∃ k : Nat, 1 ≤ k ∧ k ≤ 4 ∧ c = nI k
  | 6 => nS a 12 ∧ (∃ k : Nat, 1 ≤ k ∧ k ≤ 4 ∧ b = nI k) ∧ nS d 8
  | 7 => nS a 12 ∧ nS b 12 ∧ ∃ k : Nat, 5 ≤ k ∧ k ≤ 7 ∧ c = nI k
  | 8 => nS a 12 ∧ (∃ k : Nat, 5 ≤ k ∧ k ≤ 7 ∧ b = nI k) ∧ nS d 12
  | 9 => nS a 8 ∧ nS b 12 ∧ ∃ k : Nat, 1 ≤ k ∧ k ≤ 7 ∧ c = nI k
  | 10 => nS a 12 ∧ nS b 12
  | 11 => nS a 8 ∧ nS b 12
  | 12 => nS a 12 ∧ nS c 12
  | 13 => nS a 8
  | 14 => nS a 8 ∧ nS b 8 ∧ nS c 8
  | 15 => nS a 8 ∧ nS b 8 ∧ nS c 8
  | 16 => nS a 8 ∧ nS b 8 ∧ nS c 8
  | 17 => True
  | _ => False
abbrev tN (x : Int32) : Nat := x.toNatClampNeg
/-- what an ACT does -/
def mAct (M : mT) (op : Nat) (a b c d : Int32) : Int32 × mT := match op with
  | 0 => mMake M (tN a) b c
  | 1 => mDeep M (tN a) b c
  | 2 => mMake M (tN a) 5 b
  | 3 => mFigure M (tN a) (if b = 0 then 8 else 9) c
  | 4 => mMove M (tN a) (tN b) c
  | 5 => mGet M (tN a) (tN b) c d
  | 6 => mSet M (tN a) b c (tN d)
  | 7 => mTake M (tN a) (tN b) c d
  | 8 => mLay M (tN a) b c (tN d)
  | 9 => mLength M (tN a) (tN b) c
  | 10 => mClone M (tN a) (tN b)
  | 11 => mTell M (tN a) (tN b)
  | 12 => mCopy M (tN a) b (tN c) d
  | 13 => (0, mSetRg M (tN a) b.toInt64)
  | 14 => (0, mSetRg M (tN a) (mRg M (tN b) + mRg M (tN c)))
  | 15 => mDiv M (tN a) (tN b) (tN c)
  | 16 => mRest M (tN a) (tN b) (tN c)
  | _ => (7, M)
theorem tN_nI {s : Nat} (h : s < 2 ^ 31) : tN (nI s) = s := nI_clamp h
section CPF
variable {X n : Nat} {M : mT} {S : sS} {D : sD} {h : aH}
theorem nI_int {a : Nat} (h : a < 2 ^ 31) : (nI a).toInt = (a : Int) := nI_toInt h
theorem isRw_make {b : Int32} (h : b = 1 ∨ b = 2 ∨ b = 3 ∨ b = 4 ∨ b = 6 ∨ b = 7) : isRw b := by
  rcases h with rfl | rfl | rfl | rfl | rfl | rfl <;> exact ⟨by decide, by decide⟩
theorem sc_perform (C : CM X M n S D h) {op : Nat} {a b c d : Int32} (ok : actOk op a b c d) {Q : Int32 → aH → Prop} (hq : ∀ h' D', CM X (mAct M op a b c d).2 n S D' h' → cOut X D D' → Q (mAct M op a b c d).1 h') : wX5_perform h (X + 1) (nI op) a b c d Q := by
  obtain ⟨R, L, r, I⟩ := id C
  have hop : op < 18 := by
    rcases Nat.lt_or_ge op 18 with z | z
    · exact z
    · obtain ⟨e, rfl⟩ : ∃ e, op = e + 18 := ⟨op - 18, by omega⟩
      exact ok.elim
  have eo : (nI op).toInt = (op : Int) := nI_int (by omega)
  unfold wX5_perform
  rw [eo]
  refine ⟨fun z => ?_, fun z => ?_, fun z => ?_, fun z => ?_, fun z => ?_, fun z => ?_, fun z => ?_, fun z => ?_, fun z => ?_, fun z => ?_, fun z => ?_, fun z => ?_, fun z => ?_, fun z => ?_, fun z => ?_, fun z => ?_, fun z => ?_, fun z => ?_⟩
  · have e : op = 17 := by omega
    subst e; exact hq h D C cOut.rf
  · have e : op = 0 := by omega
    subst e
    obtain ⟨⟨s, hs, rfl⟩, hk⟩ := ok
    refine R_O R L.1 (sc_make C hs (isRw_make hk) ?_)
    simp only [mAct, tN_nI (show s < 2 ^ 31 by omega)] at hq; exact hq
  · have e : op = 1 := by omega
    subst e
    obtain ⟨s, hs, rfl⟩ := ok
    refine R_O R L.1 (sc_makeDeep C hs ?_)
    simp only [mAct, tN_nI (show s < 2 ^ 31 by omega)] at hq; exact hq
  · have e : op = 2 := by omega
    subst e
    obtain ⟨s, hs, rfl⟩ := ok
    refine R_O R L.1 (sc_make C hs isRw_5 ?_)
    simp only [mAct, tN_nI (show s < 2 ^ 31 by omega)] at hq; exact hq
  · have e : op = 3 := by omega
    subst e
    obtain ⟨s, hs, rfl⟩ := ok
    simp only [mAct, tN_nI (show s < 2 ^ 31 by omega)] at hq
    refine ⟨fun y => R_O R L.1 (sc_makeFigure C hs (Or.inr rfl) ?_), fun y => R_O R L.1 (sc_makeFigure C hs (Or.inl rfl) ?_)⟩
    · rw [if_neg y] at hq; exact hq
    · rw [if_pos y] at hq; exact hq
  · have e : op = 4 := by omega
    subst e
    obtain ⟨⟨s, hs, rfl⟩, ⟨f, hf, rfl⟩, -⟩ := ok
    refine R_O R L.1 (sc_move C hs hf ?_)
    simp only [mAct, tN_nI (show s < 2 ^ 31 by omega), tN_nI (show f < 2 ^ 31 by omega)] at hq; exact hq
  · have e : op = 5 := by omega
    subst e
    obtain ⟨⟨s, hs, rfl⟩, ⟨f, hf, rfl⟩, -⟩ := ok
    refine R_O R L.1 (sc_get C hs hf ?_)
    simp only [mAct, tN_nI (show s < 2 ^ 31 by omega), tN_nI (show f < 2 ^ 31 by omega)] at hq; exact hq
  · have e : op = 6 := by omega
    subst e
    obtain ⟨⟨s, hs, rfl⟩, ⟨k, hk1, hk4, rfl⟩, ⟨f, hf, rfl⟩⟩ := ok
    refine R_O R L.1 (sc_set C hs hf hk1 hk4 ?_)
    simp only [mAct, tN_nI (show s < 2 ^ 31 by omega), tN_nI (show f < 2 ^ 31 by omega)] at hq; exact hq
  · have e : op = 7 := by omega
    subst e
    obtain ⟨⟨s, hs, rfl⟩, ⟨f, hf, rfl⟩, ⟨k, hk1, hk4, rfl⟩⟩ := ok
    refine R_O R L.1 (sc_take C hs hf hk1 hk4 ?_)
    simp only [mAct, tN_nI (show s < 2 ^ 31 by omega), tN_nI (show f < 2 ^ 31 by omega)] at hq; exact hq
  · have e : op = 8 := by omega
    subst e
    obtain ⟨⟨s, hs, rfl⟩, ⟨k, hk1, hk4, rfl⟩, ⟨f, hf, rfl⟩⟩ := ok
    refine R_O R L.1 (sc_lay C hs hf hk1 hk4 ?_)
    simp only [mAct, tN_nI (show s < 2 ^ 31 by omega), tN_nI (show f < 2 ^ 31 by omega)] at hq; exact hq
  · have e : op = 9 := by omega
    subst e
    obtain ⟨⟨s, hs, rfl⟩, ⟨f, hf, rfl⟩, -⟩ := ok
    refine R_O R L.1 (sc_length C hs hf ?_)
    simp only [mAct, tN_nI (show s < 2 ^ 31 by omega), tN_nI (show f < 2 ^ 31 by omega)] at hq; exact hq
  · have e : op = 10 := by omega
    subst e
    obtain ⟨⟨s, hs, rfl⟩, ⟨f, hf, rfl⟩⟩ := ok
    refine R_O R L.1 (sc_cloneRow C hs hf ?_)
    simp only [mAct, tN_nI (show s < 2 ^ 31 by omega), tN_nI (show f < 2 ^ 31 by omega)] at hq; exact hq
  · have e : op = 11 := by omega
    subst e
    obtain ⟨⟨s, hs, rfl⟩, ⟨f, hf, rfl⟩⟩ := ok
    refine R_O R L.1 (sc_tell C hs hf ?_)
    simp only [mAct, tN_nI (show s < 2 ^ 31 by omega), tN_nI (show f < 2 ^ 31 by omega)] at hq; exact hq
  · have e : op = 12 := by omega
    subst e
    obtain ⟨⟨s, hs, rfl⟩, ⟨f, hf, rfl⟩⟩ := ok
    refine R_O R L.1 (sc_copy C hs hf ?_)
    simp only [mAct, tN_nI (show s < 2 ^ 31 by omega), tN_nI (show f < 2 ^ 31 by omega)] at hq; exact hq
  · have e : op = 13 := by omega
    subst e
    obtain ⟨s, hs, rfl⟩ := ok
    refine R_R R L.1 rfl (sc_setRg' C hs ?_)
    simp only [mAct, tN_nI (show s < 2 ^ 31 by omega)] at hq; exact hq
  · have e : op = 14 := by omega
    subst e
    obtain ⟨⟨s, hs, rfl⟩, ⟨f, hf, rfl⟩, ⟨g, hg, rfl⟩⟩ := ok
    refine R_R R L.1 rfl (R_R R L.1 rfl (sc_reg C hf (R_R R L.1 rfl (sc_reg C hg (sc_setRg' C hs ?_)))))
    simp only [mAct, tN_nI (show s < 2 ^ 31 by omega), tN_nI (show f < 2 ^ 31 by omega), tN_nI (show g < 2 ^ 31 by omega)] at hq; exact hq
  · have e : op = 15 := by omega
    subst e
    obtain ⟨⟨s, hs, rfl⟩, ⟨f, hf, rfl⟩, ⟨g, hg, rfl⟩⟩ := ok
    refine R_O R L.1 (sc_divide C hs hf hg ?_)
    simp only [mAct, tN_nI (show s < 2 ^ 31 by omega), tN_nI (show f < 2 ^ 31 by omega), tN_nI (show g < 2 ^ 31 by omega)] at hq; exact hq
  · have e : op = 16 := by omega
    subst e
    obtain ⟨⟨s, hs, rfl⟩, ⟨f, hf, rfl⟩, ⟨g, hg, rfl⟩⟩ := ok
    refine R_O R L.1 (sc_rest C hs hf hg ?_)
    simp only [mAct, tN_nI (show s < 2 ^ 31 by omega), tN_nI (show f < 2 ^ 31 by omega), tN_nI (show g < 2 ^ 31 by omega)] at hq; exact hq
end CPF
