/-! the reference lays its states -/
def SM (r j : Int) (M : Mem) : Mem := fun c i => if c = 0 ∧ i = 20 then j else if c = 15 ∧ 0 ≤ i ∧ i < j then stL r i else if c = 16 ∧ 0 ≤ i ∧ i < 3 * j then stR r (i / 3) (i % 3) else M c i
theorem SM_20 (r j : Int) (M : Mem) : SM r j M 0 20 = j := by unfold SM; rw [if_pos ⟨rfl, rfl⟩]
theorem SM_15 {r j i : Int} {M : Mem} (h : 0 ≤ i ∧ i < j) : SM r j M 15 i = stL r i := by unfold SM; rw [if_neg (fun q => absurd q.1 (by decide)), if_pos ⟨rfl, h⟩]
theorem SM_16 {r j i : Int} {M : Mem} (h : 0 ≤ i ∧ i < 3 * j) : SM r j M 16 i = stR r (i / 3) (i % 3) := by unfold SM; rw [if_neg (fun q => absurd q.1 (by decide)), if_neg (fun q => absurd q.1 (by decide)), if_pos ⟨rfl, h⟩]
theorem SM_15o {r j i : Int} {M : Mem} (h : ¬ (0 ≤ i ∧ i < j)) : SM r j M 15 i = M 15 i := by unfold SM; rw [if_neg (fun q => absurd q.1 (by decide)), if_neg (fun q => h q.2), if_neg (fun q => absurd q.1 (by decide))]
theorem SM_16o {r j i : Int} {M : Mem} (h : ¬ (0 ≤ i ∧ i < 3 * j)) : SM r j M 16 i = M 16 i := by unfold SM; rw [if_neg (fun q => absurd q.1 (by decide)), if_neg (fun q => absurd q.1 (by decide)), if_neg (fun q => h q.2)]
theorem SM_off {r j i : Int} {c : Nat} {M : Mem} (h0 : ¬ (c = 0 ∧ i = 20)) (h1 : c ≠ 15) (h2 : c ≠ 16) : SM r j M c i = M c i := by unfold SM; rw [if_neg h0, if_neg (fun q => h1 q.1), if_neg (fun q => h2 q.1)]
theorem SM_cell {r j i : Int} {c : Nat} {M : Mem} (h : c ≠ 0 ∧ c ≠ 15 ∧ c ≠ 16) : SM r j M c i = M c i := SM_off (fun q => h.1 q.1) h.2.1 h.2.2
theorem SM_fun {r j : Int} {c : Nat} {M : Mem} (h : c ≠ 0 ∧ c ≠ 15 ∧ c ≠ 16) : SM r j M c = M c := by funext i; exact SM_cell h
theorem SM_fld {r j i : Int} {M : Mem} (h : i ≠ 20) : SM r j M 0 i = M 0 i := SM_off (fun q => h q.2) (by decide) (by decide)
theorem s_adds {r j n a b d : Int} {M : Mem} {R : Int → Mem → Prop} (hj : 0 ≤ j ∧ j < 16) (hn : stL r j = n ∧ stR r j 0 = a ∧ stR r j 1 = b ∧ stR r j 2 = d) (h : R 0 (SM r (j + 1) M)) : fMd_adds n a b d (SM r j M) R := by
  obtain ⟨hn, ha, hb, hd⟩ := hn
  unfold fMd_adds
  rw [SM_20, wrapI (z := 3 * j) (by omega) (by omega), wrapI (z := 3 * j + 1) (by omega) (by omega), wrapI (z := 3 * j + 2) (by omega) (by omega), wrapI (z := j + 1) (by omega) (by omega)]
  refine ⟨⟨by omega, by omega⟩, ⟨by omega, by omega⟩, ⟨by omega, by omega⟩, ⟨by omega, by omega⟩, ?_⟩
  have e : mu (mu (mu (mu (mu (SM r j M) 15 j n) 16 (3 * j) a) 16 (3 * j + 1) b) 16 (3 * j + 2) d) 0 20 (j + 1) = SM r (j + 1) M := by
    funext c i
    by_cases c0 : c = 0
    · subst c0
      by_cases hi : i = 20
      · subst hi; rw [mu_same, SM_20]
      · rw [mu_place hi, mu_cell (by decide), mu_cell (by decide), mu_cell (by decide), mu_cell (by decide), SM_fld hi, SM_fld hi]
    rw [mu_cell c0]
    by_cases c15 : c = 15
    · subst c15
      rw [mu_cell (by decide), mu_cell (by decide), mu_cell (by decide)]
      by_cases hi : i = j
      · subst hi; rw [mu_same, SM_15 (by omega), hn]
      · rw [mu_place hi]
        by_cases h1 : 0 ≤ i ∧ i < j
        · rw [SM_15 h1, SM_15 (by omega)]
        · rw [SM_15o h1, SM_15o (by omega)]
    by_cases c16 : c = 16
    · subst c16
      by_cases i2 : i = 3 * j + 2
      · subst i2; rw [mu_same, SM_16 (by omega), show (3 * j + 2) / 3 = j by omega, show (3 * j + 2) % 3 = 2 by omega, hd]
      rw [mu_place i2]
      by_cases i1 : i = 3 * j + 1
      · subst i1; rw [mu_same, SM_16 (by omega), show (3 * j + 1) / 3 = j by omega, show (3 * j + 1) % 3 = 1 by omega, hb]
      rw [mu_place i1]
      by_cases i0 : i = 3 * j
      · subst i0; rw [mu_same, SM_16 (by omega), show 3 * j / 3 = j by omega, show 3 * j % 3 = 0 by omega, ha]
      rw [mu_place i0, mu_cell (by decide)]
      by_cases h1 : 0 ≤ i ∧ i < 3 * j
      · rw [SM_16 h1, SM_16 (by omega)]
      · rw [SM_16o h1, SM_16o (by omega)]
    rw [mu_cell c16, mu_cell c16, mu_cell c16, mu_cell c15, SM_off (fun q => c0 q.1) c15 c16, SM_off (fun q => c0 q.1) c15 c16]
  rw [e]; exact h
theorem SM_0 (r : Int) (M : Mem) : mu M 0 20 0 = SM r 0 M := by
  funext c i
  simp only [mu, SM]
  by_cases h0 : c = 0 ∧ i = 20
  · rw [if_pos h0, if_pos h0]
  · rw [if_neg h0, if_neg h0, if_neg (by omega), if_neg (by omega)]

set_option maxRecDepth 10000 in
theorem s_laysStates1 {M : Mem} {R : Int → Mem → Prop} (hr : M 1 0 = 1) (h : R 0 (SM 1 2 M)) : fMd_laysStates M R := by
  unfold fMd_laysStates
  rw [hr]
  rw [SM_0 1]
  refine s_adds (r := 1) (j := 0) (by decide) (by decide) ?_
  refine ⟨2, ?_⟩
  refine And.intro (fun h => absurd h (by decide)) (fun _ => ?_)
  refine s_adds (r := 1) (j := 1) (by decide) (by decide) ?_
  refine And.intro (fun _ => ?_) (fun h => absurd (by decide) h)
  refine ⟨2, ?_⟩
  refine And.intro (fun h => absurd h (by decide)) (fun _ => ?_)
  refine ⟨2, ?_⟩
  refine And.intro (fun h => absurd h (by decide)) (fun _ => ?_)
  refine And.intro (fun _ => ?_) (fun h => absurd (by decide) h)
  refine And.intro (fun _ => ?_) (fun h => absurd (by decide) h)
  refine And.intro (fun _ => ?_) (fun h => absurd (by decide) h)
  refine ⟨2, ?_⟩
  refine And.intro (fun h => absurd h (by decide)) (fun _ => ?_)
  refine ⟨2, ?_⟩
  refine And.intro (fun h => absurd h (by decide)) (fun _ => ?_)
  refine ⟨2, ?_⟩
  refine And.intro (fun h => absurd h (by decide)) (fun _ => ?_)
  refine And.intro (fun _ => ?_) (fun h => absurd (by decide) h)
  refine And.intro (fun _ => ?_) (fun h => absurd (by decide) h)
  refine And.intro (fun _ => ?_) (fun h => absurd (by decide) h)
  refine And.intro (fun _ => ?_) (fun h => absurd (by decide) h)
  exact h
set_option maxRecDepth 10000 in
theorem s_laysStates2 {M : Mem} {R : Int → Mem → Prop} (hr : M 1 0 = 2) (h : R 0 (SM 2 5 M)) : fMd_laysStates M R := by
  unfold fMd_laysStates
  rw [hr]
  rw [SM_0 2]
  refine s_adds (r := 2) (j := 0) (by decide) (by decide) ?_
  refine ⟨3, ?_⟩
  refine And.intro (fun h => absurd h (by decide)) (fun _ => ?_)
  refine s_adds (r := 2) (j := 1) (by decide) (by decide) ?_
  refine And.intro (fun h => absurd h (by decide)) (fun _ => ?_)
  refine s_adds (r := 2) (j := 2) (by decide) (by decide) ?_
  refine And.intro (fun _ => ?_) (fun h => absurd (by decide) h)
  refine ⟨3, ?_⟩
  refine And.intro (fun h => absurd h (by decide)) (fun _ => ?_)
  refine ⟨3, ?_⟩
  refine And.intro (fun h => absurd h (by decide)) (fun _ => ?_)
  refine And.intro (fun _ => ?_) (fun h => absurd (by decide) h)
  refine And.intro (fun h => absurd h (by decide)) (fun _ => ?_)
  refine And.intro (fun h => absurd h (by decide)) (fun _ => ?_)
  refine s_adds (r := 2) (j := 3) (by decide) (by decide) ?_
  refine And.intro (fun _ => ?_) (fun h => absurd (by decide) h)
  refine And.intro (fun h => absurd h (by decide)) (fun _ => ?_)
  refine ⟨3, ?_⟩
  refine And.intro (fun h => absurd h (by decide)) (fun _ => ?_)
  refine And.intro (fun h => absurd h (by decide)) (fun _ => ?_)
  refine s_adds (r := 2) (j := 4) (by decide) (by decide) ?_
  refine And.intro (fun h => absurd h (by decide)) (fun _ => ?_)
  refine And.intro (fun _ => ?_) (fun h => absurd (by decide) h)
  refine And.intro (fun _ => ?_) (fun h => absurd (by decide) h)
  refine And.intro (fun _ => ?_) (fun h => absurd (by decide) h)
  refine ⟨3, ?_⟩
  refine And.intro (fun h => absurd h (by decide)) (fun _ => ?_)
  refine ⟨3, ?_⟩
  refine And.intro (fun h => absurd h (by decide)) (fun _ => ?_)
  refine ⟨3, ?_⟩
  refine And.intro (fun h => absurd h (by decide)) (fun _ => ?_)
  refine And.intro (fun _ => ?_) (fun h => absurd (by decide) h)
  refine And.intro (fun h => absurd h (by decide)) (fun _ => ?_)
  refine And.intro (fun _ => ?_) (fun h => absurd (by decide) h)
  refine And.intro (fun _ => ?_) (fun h => absurd (by decide) h)
  refine And.intro (fun h => absurd h (by decide)) (fun _ => ?_)
  refine ⟨3, ?_⟩
  refine And.intro (fun h => absurd h (by decide)) (fun _ => ?_)
  refine And.intro (fun h => absurd h (by decide)) (fun _ => ?_)
  refine And.intro (fun _ => ?_) (fun h => absurd (by decide) h)
  refine And.intro (fun h => absurd h (by decide)) (fun _ => ?_)
  refine And.intro (fun h => absurd h (by decide)) (fun _ => ?_)
  refine And.intro (fun h => absurd h (by decide)) (fun _ => ?_)
  refine And.intro (fun _ => ?_) (fun h => absurd (by decide) h)
  refine And.intro (fun _ => ?_) (fun h => absurd (by decide) h)
  refine And.intro (fun _ => ?_) (fun h => absurd (by decide) h)
  refine And.intro (fun h => absurd h (by decide)) (fun _ => ?_)
  refine ⟨3, ?_⟩
  refine And.intro (fun h => absurd h (by decide)) (fun _ => ?_)
  refine ⟨3, ?_⟩
  refine And.intro (fun h => absurd h (by decide)) (fun _ => ?_)
  refine And.intro (fun h => absurd h (by decide)) (fun _ => ?_)
  refine And.intro (fun h => absurd h (by decide)) (fun _ => ?_)
  refine And.intro (fun _ => ?_) (fun h => absurd (by decide) h)
  refine And.intro (fun h => absurd h (by decide)) (fun _ => ?_)
  refine And.intro (fun h => absurd h (by decide)) (fun _ => ?_)
  refine And.intro (fun _ => ?_) (fun h => absurd (by decide) h)
  refine And.intro (fun _ => ?_) (fun h => absurd (by decide) h)
  refine And.intro (fun h => absurd h (by decide)) (fun _ => ?_)
  refine ⟨3, ?_⟩
  refine And.intro (fun h => absurd h (by decide)) (fun _ => ?_)
  refine And.intro (fun _ => ?_) (fun h => absurd (by decide) h)
  refine And.intro (fun h => absurd h (by decide)) (fun _ => ?_)
  refine And.intro (fun _ => ?_) (fun h => absurd (by decide) h)
  refine And.intro (fun _ => ?_) (fun h => absurd (by decide) h)
  refine And.intro (fun _ => ?_) (fun h => absurd (by decide) h)
  refine And.intro (fun _ => ?_) (fun h => absurd (by decide) h)
  exact h
set_option maxRecDepth 10000 in
theorem s_laysStates3 {M : Mem} {R : Int → Mem → Prop} (hr : M 1 0 = 3) (h : R 0 (SM 3 16 M)) : fMd_laysStates M R := by
  unfold fMd_laysStates
  rw [hr]
  rw [SM_0 3]
  refine s_adds (r := 3) (j := 0) (by decide) (by decide) ?_
  refine ⟨4, ?_⟩
  refine And.intro (fun h => absurd h (by decide)) (fun _ => ?_)
  refine s_adds (r := 3) (j := 1) (by decide) (by decide) ?_
  refine And.intro (fun h => absurd h (by decide)) (fun _ => ?_)
  refine s_adds (r := 3) (j := 2) (by decide) (by decide) ?_
  refine And.intro (fun h => absurd h (by decide)) (fun _ => ?_)
  refine s_adds (r := 3) (j := 3) (by decide) (by decide) ?_
  refine And.intro (fun _ => ?_) (fun h => absurd (by decide) h)
  refine ⟨4, ?_⟩
  refine And.intro (fun h => absurd h (by decide)) (fun _ => ?_)
  refine ⟨4, ?_⟩
  refine And.intro (fun h => absurd h (by decide)) (fun _ => ?_)
  refine And.intro (fun _ => ?_) (fun h => absurd (by decide) h)
  refine And.intro (fun h => absurd h (by decide)) (fun _ => ?_)
  refine And.intro (fun h => absurd h (by decide)) (fun _ => ?_)
  refine s_adds (r := 3) (j := 4) (by decide) (by decide) ?_
  refine And.intro (fun h => absurd h (by decide)) (fun _ => ?_)
  refine And.intro (fun h => absurd h (by decide)) (fun _ => ?_)
  refine s_adds (r := 3) (j := 5) (by decide) (by decide) ?_
  refine And.intro (fun _ => ?_) (fun h => absurd (by decide) h)
  refine And.intro (fun h => absurd h (by decide)) (fun _ => ?_)
  refine ⟨4, ?_⟩
  refine And.intro (fun h => absurd h (by decide)) (fun _ => ?_)
  refine And.intro (fun h => absurd h (by decide)) (fun _ => ?_)
  refine s_adds (r := 3) (j := 6) (by decide) (by decide) ?_
  refine And.intro (fun h => absurd h (by decide)) (fun _ => ?_)
  refine And.intro (fun _ => ?_) (fun h => absurd (by decide) h)
  refine And.intro (fun h => absurd h (by decide)) (fun _ => ?_)
  refine And.intro (fun h => absurd h (by decide)) (fun _ => ?_)
  refine s_adds (r := 3) (j := 7) (by decide) (by decide) ?_
  refine And.intro (fun _ => ?_) (fun h => absurd (by decide) h)
  refine And.intro (fun h => absurd h (by decide)) (fun _ => ?_)
  refine ⟨4, ?_⟩
  refine And.intro (fun h => absurd h (by decide)) (fun _ => ?_)
  refine And.intro (fun h => absurd h (by decide)) (fun _ => ?_)
  refine s_adds (r := 3) (j := 8) (by decide) (by decide) ?_
  refine And.intro (fun h => absurd h (by decide)) (fun _ => ?_)
  refine And.intro (fun h => absurd h (by decide)) (fun _ => ?_)
  refine s_adds (r := 3) (j := 9) (by decide) (by decide) ?_
  refine And.intro (fun h => absurd h (by decide)) (fun _ => ?_)
  refine And.intro (fun _ => ?_) (fun h => absurd (by decide) h)
  refine And.intro (fun _ => ?_) (fun h => absurd (by decide) h)
  refine And.intro (fun _ => ?_) (fun h => absurd (by decide) h)
  refine ⟨4, ?_⟩
  refine And.intro (fun h => absurd h (by decide)) (fun _ => ?_)
  refine ⟨4, ?_⟩
  refine And.intro (fun h => absurd h (by decide)) (fun _ => ?_)
  refine ⟨4, ?_⟩
  refine And.intro (fun h => absurd h (by decide)) (fun _ => ?_)
  refine And.intro (fun _ => ?_) (fun h => absurd (by decide) h)
  refine And.intro (fun h => absurd h (by decide)) (fun _ => ?_)
  refine And.intro (fun _ => ?_) (fun h => absurd (by decide) h)
  refine And.intro (fun h => absurd h (by decide)) (fun _ => ?_)
  refine And.intro (fun _ => ?_) (fun h => absurd (by decide) h)
  refine And.intro (fun _ => ?_) (fun h => absurd (by decide) h)
  refine And.intro (fun h => absurd h (by decide)) (fun _ => ?_)
  refine ⟨4, ?_⟩
  refine And.intro (fun h => absurd h (by decide)) (fun _ => ?_)
  refine And.intro (fun h => absurd h (by decide)) (fun _ => ?_)
  refine And.intro (fun _ => ?_) (fun h => absurd (by decide) h)
  refine And.intro (fun h => absurd h (by decide)) (fun _ => ?_)
  refine And.intro (fun h => absurd h (by decide)) (fun _ => ?_)
  refine And.intro (fun h => absurd h (by decide)) (fun _ => ?_)
  refine And.intro (fun _ => ?_) (fun h => absurd (by decide) h)
  refine And.intro (fun h => absurd h (by decide)) (fun _ => ?_)
  refine And.intro (fun h => absurd h (by decide)) (fun _ => ?_)
  refine And.intro (fun h => absurd h (by decide)) (fun _ => ?_)
  refine And.intro (fun h => absurd h (by decide)) (fun _ => ?_)
  refine s_adds (r := 3) (j := 10) (by decide) (by decide) ?_
  refine And.intro (fun _ => ?_) (fun h => absurd (by decide) h)
  refine And.intro (fun h => absurd h (by decide)) (fun _ => ?_)
  refine ⟨4, ?_⟩
  refine And.intro (fun h => absurd h (by decide)) (fun _ => ?_)
  refine And.intro (fun h => absurd h (by decide)) (fun _ => ?_)
  refine And.intro (fun _ => ?_) (fun h => absurd (by decide) h)
  refine And.intro (fun h => absurd h (by decide)) (fun _ => ?_)
  refine And.intro (fun h => absurd h (by decide)) (fun _ => ?_)
  refine And.intro (fun h => absurd h (by decide)) (fun _ => ?_)
  refine And.intro (fun h => absurd h (by decide)) (fun _ => ?_)
  refine s_adds (r := 3) (j := 11) (by decide) (by decide) ?_
  refine And.intro (fun h => absurd h (by decide)) (fun _ => ?_)
  refine And.intro (fun h => absurd h (by decide)) (fun _ => ?_)
  refine And.intro (fun h => absurd h (by decide)) (fun _ => ?_)
  refine And.intro (fun _ => ?_) (fun h => absurd (by decide) h)
  refine And.intro (fun _ => ?_) (fun h => absurd (by decide) h)
  refine And.intro (fun _ => ?_) (fun h => absurd (by decide) h)
  refine And.intro (fun h => absurd h (by decide)) (fun _ => ?_)
  refine ⟨4, ?_⟩
  refine And.intro (fun h => absurd h (by decide)) (fun _ => ?_)
  refine ⟨4, ?_⟩
  refine And.intro (fun h => absurd h (by decide)) (fun _ => ?_)
  refine And.intro (fun h => absurd h (by decide)) (fun _ => ?_)
  refine And.intro (fun h => absurd h (by decide)) (fun _ => ?_)
  refine And.intro (fun _ => ?_) (fun h => absurd (by decide) h)
  refine And.intro (fun h => absurd h (by decide)) (fun _ => ?_)
  refine And.intro (fun h => absurd h (by decide)) (fun _ => ?_)
  refine And.intro (fun _ => ?_) (fun h => absurd (by decide) h)
  refine And.intro (fun h => absurd h (by decide)) (fun _ => ?_)
  refine And.intro (fun h => absurd h (by decide)) (fun _ => ?_)
  refine And.intro (fun h => absurd h (by decide)) (fun _ => ?_)
  refine And.intro (fun h => absurd h (by decide)) (fun _ => ?_)
  refine s_adds (r := 3) (j := 12) (by decide) (by decide) ?_
  refine And.intro (fun _ => ?_) (fun h => absurd (by decide) h)
  refine And.intro (fun h => absurd h (by decide)) (fun _ => ?_)
  refine ⟨4, ?_⟩
  refine And.intro (fun h => absurd h (by decide)) (fun _ => ?_)
  refine And.intro (fun _ => ?_) (fun h => absurd (by decide) h)
  refine And.intro (fun h => absurd h (by decide)) (fun _ => ?_)
  refine And.intro (fun _ => ?_) (fun h => absurd (by decide) h)
  refine And.intro (fun h => absurd h (by decide)) (fun _ => ?_)
  refine And.intro (fun _ => ?_) (fun h => absurd (by decide) h)
  refine And.intro (fun _ => ?_) (fun h => absurd (by decide) h)
  refine And.intro (fun h => absurd h (by decide)) (fun _ => ?_)
  refine ⟨4, ?_⟩
  refine And.intro (fun h => absurd h (by decide)) (fun _ => ?_)
  refine And.intro (fun h => absurd h (by decide)) (fun _ => ?_)
  refine And.intro (fun h => absurd h (by decide)) (fun _ => ?_)
  refine And.intro (fun h => absurd h (by decide)) (fun _ => ?_)
  refine s_adds (r := 3) (j := 13) (by decide) (by decide) ?_
  refine And.intro (fun h => absurd h (by decide)) (fun _ => ?_)
  refine And.intro (fun h => absurd h (by decide)) (fun _ => ?_)
  refine And.intro (fun _ => ?_) (fun h => absurd (by decide) h)
  refine And.intro (fun h => absurd h (by decide)) (fun _ => ?_)
  refine And.intro (fun h => absurd h (by decide)) (fun _ => ?_)
  refine And.intro (fun h => absurd h (by decide)) (fun _ => ?_)
  refine And.intro (fun _ => ?_) (fun h => absurd (by decide) h)
  refine And.intro (fun _ => ?_) (fun h => absurd (by decide) h)
  refine And.intro (fun _ => ?_) (fun h => absurd (by decide) h)
  refine And.intro (fun h => absurd h (by decide)) (fun _ => ?_)
  refine ⟨4, ?_⟩
  refine And.intro (fun h => absurd h (by decide)) (fun _ => ?_)
  refine ⟨4, ?_⟩
  refine And.intro (fun h => absurd h (by decide)) (fun _ => ?_)
  refine And.intro (fun h => absurd h (by decide)) (fun _ => ?_)
  refine And.intro (fun h => absurd h (by decide)) (fun _ => ?_)
  refine And.intro (fun _ => ?_) (fun h => absurd (by decide) h)
  refine And.intro (fun h => absurd h (by decide)) (fun _ => ?_)
  refine And.intro (fun h => absurd h (by decide)) (fun _ => ?_)
  refine And.intro (fun h => absurd h (by decide)) (fun _ => ?_)
  refine And.intro (fun h => absurd h (by decide)) (fun _ => ?_)
  refine s_adds (r := 3) (j := 14) (by decide) (by decide) ?_
  refine And.intro (fun h => absurd h (by decide)) (fun _ => ?_)
  refine And.intro (fun h => absurd h (by decide)) (fun _ => ?_)
  refine And.intro (fun _ => ?_) (fun h => absurd (by decide) h)
  refine And.intro (fun _ => ?_) (fun h => absurd (by decide) h)
  refine And.intro (fun h => absurd h (by decide)) (fun _ => ?_)
  refine ⟨4, ?_⟩
  refine And.intro (fun h => absurd h (by decide)) (fun _ => ?_)
  refine And.intro (fun h => absurd h (by decide)) (fun _ => ?_)
  refine And.intro (fun h => absurd h (by decide)) (fun _ => ?_)
  refine And.intro (fun h => absurd h (by decide)) (fun _ => ?_)
  refine s_adds (r := 3) (j := 15) (by decide) (by decide) ?_
  refine And.intro (fun h => absurd h (by decide)) (fun _ => ?_)
  refine And.intro (fun h => absurd h (by decide)) (fun _ => ?_)
  refine And.intro (fun h => absurd h (by decide)) (fun _ => ?_)
  refine And.intro (fun _ => ?_) (fun h => absurd (by decide) h)
  refine And.intro (fun h => absurd h (by decide)) (fun _ => ?_)
  refine And.intro (fun h => absurd h (by decide)) (fun _ => ?_)
  refine And.intro (fun _ => ?_) (fun h => absurd (by decide) h)
  refine And.intro (fun _ => ?_) (fun h => absurd (by decide) h)
  refine And.intro (fun h => absurd h (by decide)) (fun _ => ?_)
  refine ⟨4, ?_⟩
  refine And.intro (fun h => absurd h (by decide)) (fun _ => ?_)
  refine And.intro (fun _ => ?_) (fun h => absurd (by decide) h)
  refine And.intro (fun h => absurd h (by decide)) (fun _ => ?_)
  refine And.intro (fun _ => ?_) (fun h => absurd (by decide) h)
  refine And.intro (fun h => absurd h (by decide)) (fun _ => ?_)
  refine And.intro (fun _ => ?_) (fun h => absurd (by decide) h)
  refine And.intro (fun _ => ?_) (fun h => absurd (by decide) h)
  refine And.intro (fun _ => ?_) (fun h => absurd (by decide) h)
  refine And.intro (fun _ => ?_) (fun h => absurd (by decide) h)
  exact h
theorem s_laysStates {M : Mem} {R : Int → Mem → Prop} (hr : 1 ≤ M 1 0 ∧ M 1 0 ≤ 3) (h : R 0 (SM (M 1 0) (nS (M 1 0)) M)) : fMd_laysStates M R := by
  have h3 : M 1 0 = 1 ∨ M 1 0 = 2 ∨ M 1 0 = 3 := by omega
  rcases h3 with h3 | h3 | h3
  · rw [h3] at h; exact s_laysStates1 h3 h
  · rw [h3] at h; exact s_laysStates2 h3 h
  · rw [h3] at h; exact s_laysStates3 h3 h
