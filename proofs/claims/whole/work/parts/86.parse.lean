/-! reading a text: one instruction -/
theorem i2c_i2b : ∀ a : Fin 127, b_i2c ((a.val : Nat) : Int) = ((a.val : Nat) : Int) ∧ b_i2b ((a.val : Nat) : Int) = ((a.val : Nat) : Int) := by decide +kernel
def isD (T : Int → Int) (L q : Int) : Prop := q < L ∧ 48 ≤ T q ∧ T q ≤ 57
def dOK (T : Int → Int) (L p k : Int) : Prop := (1 ≤ dg k → isD T L (p + 1)) ∧ (2 ≤ dg k → isD T L (p + 2))
def pVal (T : Int → Int) (p k : Int) : Int := if dg k = 0 then 0 else if dg k = 1 then T (p + 1) - 48 else 10 * (T (p + 1) - 48) + T (p + 2) - 48
theorem dgTab15 : ∀ k : Fin 15, (dg ((k.val : Nat) : Int) = 0 ∨ dg ((k.val : Nat) : Int) = 1 ∨ dg ((k.val : Nat) : Int) = 2) ∧ (dg ((k.val : Nat) : Int) = 1 ↔ (k.val = 9 ∨ k.val = 10)) ∧ (leadsK ((k.val : Nat) : Int) = true → dg ((k.val : Nat) : Int) = 2) := by decide +kernel
theorem dg_in {k : Int} (hk : 0 ≤ k ∧ k < 15) : (dg k = 0 ∨ dg k = 1 ∨ dg k = 2) ∧ (dg k = 1 ↔ (k = 9 ∨ k = 10)) ∧ (leadsK k = true → dg k = 2) := by
  obtain ⟨a, ha⟩ := i_fin (n := 15) (x := k) ⟨by omega, by omega⟩
  have := dgTab15 a
  rw [← ha] at this
  refine ⟨this.1, this.2.1.trans ?_, this.2.2⟩
  omega
section P
variable {X Y : Mem} {T : Int → Int} {L p q k s : Int} {R : Int → Mem → Prop}
/-- the text in x -/
def XTx (L : Int) (T : Int → Int) (X : Mem) : Prop := X 1 1 = L ∧ (0 ≤ L ∧ L ≤ 200) ∧ ∀ i, 0 ≤ i → i < L → X 2 i = T i ∧ 32 ≤ T i ∧ T i ≤ 126
def YTx (L : Int) (T : Int → Int) (Y : Mem) : Prop := Y 0 9 = L ∧ ∀ i, 0 ≤ i → i < L → Y 7 i = T i
theorem s_indexOf (ha : 32 ≤ q ∧ q ≤ 126) (h1 : ∀ k, 0 ≤ k → k < 15 → sg k = q → R k X) (h2 : (∀ k, 0 ≤ k → k < 15 → sg k ≠ q) → R (-1) X) : fStr_indexOf_111 (b_i2c q) X R := by
  obtain ⟨a, e⟩ := i_fin (n := 127) (x := q) ⟨by omega, by omega⟩
  have hc := i2c_i2b a
  rw [← e] at hc
  rw [hc.1]
  have e15 : b_ishr 15 0 = 15 := by decide +kernel
  refine ⟨fun z => absurd z (by decide), fun _ => ⟨fun z => absurd rfl z, fun _ => ⟨fun z => absurd z (by decide), fun _ => ⟨fun z => absurd z (by decide), fun _ => ?_⟩⟩⟩⟩
  show fLat_indexOf_121 q 0 (b_ishr 15 0) X _
  rw [e15]
  refine ⟨fun z => by omega, fun _ => ⟨fun z => by omega, fun _ => ⟨fun _ => s_max (s_min ?_), fun z => absurd z (by decide)⟩⟩⟩
  refine ⟨fun _ => ?_, fun z => absurd (by decide) z⟩
  unfold fLat_indexOfChar_121
  rw [hc.2]
  have key : ∀ (d : Nat) (x : Int), 0 ≤ x → x + d = 15 → (∀ k, 0 ≤ k → k < x → sg k ≠ q) → fLat_indexOfChar_121_7 R (d + 1) 15 q x X := by
    intro d
    induction d with
    | zero =>
      intro x x0 xd hn
      exact ⟨fun _ => h2 (fun k k0 k1 => hn k k0 (by omega)), fun z => by omega⟩
    | succ d ih =>
      intro x x0 xd hn
      refine ⟨fun z => by omega, fun _ => ⟨⟨by omega, by omega⟩, fun z => ?_, fun z => h1 x x0 (by omega) z⟩⟩
      rw [wrapI (z := x + 1) (by omega) (by omega)]
      refine ih (x + 1) (by omega) (by omega) (fun k k0 k1 => ?_)
      by_cases y : k = x
      · rw [y]; exact z
      · exact hn k k0 (by omega)
  exact ⟨15 + 1, key 15 0 (by decide) (by decide) (fun k k0 k1 => by omega)⟩
theorem s_letterAt (hX : XTx L T X) (hq : 0 ≤ q ∧ q < L) (h : R (T q) X) : fTe_letterAt q X R := by
  obtain ⟨x1, x2, x3⟩ := hX
  unfold fTe_letterAt
  rw [x1]
  refine ⟨fun z => by omega, fun _ => ⟨fun z => by omega, fun _ => ⟨⟨by omega, by omega⟩, ?_⟩⟩⟩
  rw [(x3 q hq.1 hq.2).1]; exact h
theorem s_hasDigit (hX : XTx L T X) (hq : 0 ≤ q) (h1 : isD T L q → R 1 X) (h0 : ¬ isD T L q → R 0 X) : fTe_hasDigitAt q X R := by
  by_cases z : q < L
  · refine s_letterAt hX ⟨hq, z⟩ ⟨fun y => h0 (fun w => by have := w.2.1; omega), fun y => s_letterAt hX ⟨hq, z⟩ ⟨fun y2 => h0 (fun w => by have := w.2.2; omega), fun y2 => h1 ⟨z, by omega, by omega⟩⟩⟩
  · obtain ⟨x1, x2, x3⟩ := hX
    unfold fTe_hasDigitAt fTe_letterAt
    rw [x1]
    exact ⟨fun y => by omega, fun _ => ⟨fun _ => ⟨fun _ => h0 (fun w => z w.1), fun y => absurd (by decide) y⟩, fun y => absurd (by omega) y⟩⟩
theorem s_isFigure (hY : YTx L T Y) (hL : L ≤ 200) (hq : 0 ≤ q) (h1 : isD T L q → R 1 Y) (h0 : ¬ isD T L q → R 0 Y) : fMd_isFigure q Y R := by
  unfold fMd_isFigure fMd_isFigure_28
  rw [hY.1]
  refine ⟨fun z => h0 (fun w => by have := w.1; omega), fun z => ⟨⟨by omega, by omega⟩, ?_⟩⟩
  rw [hY.2 q hq (by omega)]
  exact s_in ⟨fun w => ⟨fun y => absurd y (by decide), fun _ => h1 ⟨by omega, w.1, w.2⟩⟩, fun w => ⟨fun _ => h0 (fun u => w ⟨u.2.1, u.2.2⟩), fun y => absurd rfl y⟩⟩
theorem s_isName (h1 : ∀ k, 0 ≤ k → k < 15 → sg k = q → R 1 Y) (h2 : (∀ k, 0 ≤ k → k < 15 → sg k ≠ q) → R 0 Y) : fMd_isName q Y R := by
  obtain ⟨g0, g1, g2, g3, g4, g5, g6, g7, g8, g9, g10, g11, g12, g13, g14⟩ := sg_tab
  refine ⟨fun z => ?_, fun z => h2 (fun k k0 k1 e => ?_)⟩
  · rcases z with z | z | z | z | z | z | z | z | z | z | z | z | z | z | z
    · exact h1 3 (by decide) (by decide) (by rw [g3, z])
    · exact h1 1 (by decide) (by decide) (by rw [g1, z])
    · exact h1 2 (by decide) (by decide) (by rw [g2, z])
    · exact h1 12 (by decide) (by decide) (by rw [g12, z])
    · exact h1 4 (by decide) (by decide) (by rw [g4, z])
    · exact h1 9 (by decide) (by decide) (by rw [g9, z])
    · exact h1 14 (by decide) (by decide) (by rw [g14, z])
    · exact h1 11 (by decide) (by decide) (by rw [g11, z])
    · exact h1 0 (by decide) (by decide) (by rw [g0, z])
    · exact h1 7 (by decide) (by decide) (by rw [g7, z])
    · exact h1 6 (by decide) (by decide) (by rw [g6, z])
    · exact h1 8 (by decide) (by decide) (by rw [g8, z])
    · exact h1 10 (by decide) (by decide) (by rw [g10, z])
    · exact h1 13 (by decide) (by decide) (by rw [g13, z])
    · exact h1 5 (by decide) (by decide) (by rw [g5, z])
  · have hk : k = 0 ∨ k = 1 ∨ k = 2 ∨ k = 3 ∨ k = 4 ∨ k = 5 ∨ k = 6 ∨ k = 7 ∨ k = 8 ∨ k = 9 ∨ k = 10 ∨ k = 11 ∨ k = 12 ∨ k = 13 ∨ k = 14 := by omega
    rcases hk with y | y | y | y | y | y | y | y | y | y | y | y | y | y | y <;> rw [y] at e <;> omega
theorem fig_tab : ∀ k : Fin 15, (if sg ((k.val : Nat) : Int) = 110 ∨ sg ((k.val : Nat) : Int) = 106 ∨ sg ((k.val : Nat) : Int) = 98 then 2 else if sg ((k.val : Nat) : Int) = 103 ∨ sg ((k.val : Nat) : Int) = 115 then 1 else 0) = dg ((k.val : Nat) : Int) := by decide +kernel
theorem s_figures (hk : 0 ≤ k ∧ k < 15) (h : R (dg k) Y) : fMd_figuresOf (sg k) Y R := by
  obtain ⟨a, e⟩ := i_fin (n := 15) (x := k) ⟨by omega, by omega⟩
  have ht := fig_tab a
  rw [← e] at ht
  rw [← ht] at h
  unfold fMd_figuresOf fMd_figuresOf_18 fMd_figuresOf_34
  refine ⟨fun z => ?_, fun z1 => ⟨fun z => ?_, fun z2 => ⟨fun z3 => ⟨fun z => ?_, fun z4 => ⟨fun z => ?_, fun z => ?_⟩⟩, fun z => ?_⟩⟩⟩
  · rw [if_pos (Or.inl z)] at h; exact h
  · rw [if_pos (Or.inr (Or.inl z))] at h; exact h
  · rw [if_neg (by omega), if_pos (Or.inl z)] at h; exact h
  · rw [if_neg (by omega), if_neg (by omega)] at h; exact h
  · rw [if_neg (by omega), if_pos (Or.inr z)] at h; exact h
  · rw [if_pos (Or.inr (Or.inr z))] at h; exact h
/-- the reference reads an instruction -/
def mRd (k p v s : Int) (Y : Mem) : Mem := mu (mu (mu (mu (mu Y 8 s (sg k)) 9 s (if dg k = 0 then -4 else v)) 10 s p) 0 10 (s + 1)) 0 14 (p + (dg k + 1))
theorem s_reads (hY : YTx L T Y) (hL : 0 ≤ L ∧ L ≤ 200) (hp : 0 ≤ p ∧ p < L) (e14 : Y 0 14 = p) (e10 : Y 0 10 = s) (hs : 0 ≤ s ∧ s ≤ 24) (g13 : s = 24 → R 13 Y) (g10 : s < 24 → (∀ k, 0 ≤ k → k < 15 → sg k ≠ T p) → R 10 Y)
    (gk : s < 24 → ∀ k, 0 ≤ k → k < 15 → sg k = T p → (¬ dOK T L p k → R 11 Y) ∧ (dOK T L p k → (dg k = 1 ∧ 4 ≤ pVal T p k → R 12 Y) ∧ (¬ (dg k = 1 ∧ 4 ≤ pVal T p k) → R 0 (mRd k p (pVal T p k) s Y)))) : fMd_reads Y R := by
  unfold fMd_reads
  rw [e10, e14, hY.2 p hp.1 hp.2]
  refine ⟨fun z => ⟨⟨by omega, by omega⟩, s_isName (fun k k0 k1 ek => ⟨fun _ => ?_, fun y => absurd y (by decide)⟩) (fun hn => ⟨fun y => absurd rfl y, fun _ => g10 (by omega) hn⟩)⟩, fun z => g13 z⟩
  have hk : 0 ≤ k ∧ k < 15 := ⟨k0, k1⟩
  obtain ⟨gk1, gk2⟩ := gk (by omega) k k0 k1 ek
  rw [← ek]
  refine s_figures hk ⟨3, ?_⟩
  have fin : ∀ v, v = pVal T p k → dOK T L p k → ∀ (n : Nat) (j : Int), dg k < j → fMd_reads_42 R (n + 1) (sg k) (dg k) v j Y := by
    intro v ev hd n j hj
    obtain ⟨g1, g2⟩ := gk2 hd
    have st : ¬ (dg k = 1 ∧ 4 ≤ pVal T p k) → fMd_reads_105 R (sg k) (dg k) v Y := by
      intro hn
      have g2 := g2 hn
      unfold mRd at g2
      rw [ev]
      unfold fMd_reads_105 fMd_reads_133
      simp only [mu_cell (show (0 : Nat) ≠ 8 by decide), mu_cell (show (0 : Nat) ≠ 9 by decide), mu_cell (show (0 : Nat) ≠ 10 by decide), mu_place (show (14 : Int) ≠ 10 by decide), e10, e14]
      have hd3 := (dg_in hk).1
      refine ⟨⟨by omega, by omega⟩, fun z => ⟨⟨by omega, by omega⟩, ⟨by omega, by omega⟩, ?_⟩, fun z => ⟨⟨by omega, by omega⟩, ⟨by omega, by omega⟩, ?_⟩⟩
      all_goals
        rw [wrapI (z := s + 1) (by omega) (by omega), wrapI (z := dg k + 1) (by omega) (by omega), wrapI (z := p + (dg k + 1)) (by omega) (by omega)]
      · rw [if_neg z] at g2; exact g2
      · rw [if_pos z] at g2; exact g2
    refine ⟨fun _ => ⟨fun z => st (fun w => z w.1), fun z => ⟨fun y => st (fun w => by have := w.2; omega), fun y => g1 ⟨z, by omega⟩⟩⟩, fun z => absurd hj z⟩
  rcases (dg_in hk).1 with z0 | z1 | z2
  · have e : (0 : Int) = pVal T p k := by unfold pVal; rw [if_pos z0]
    exact fin 0 e ⟨fun y => by omega, fun y => by omega⟩ 2 1 (by omega)
  · refine ⟨fun y => by omega, fun _ => ?_⟩
    rw [e14, wrapI (z := p + 1) (by omega) (by omega)]
    refine s_isFigure hY hL.2 (by omega) (fun hd => ⟨fun _ => ?_, fun y => absurd y (by decide)⟩) (fun hd => ⟨fun y => absurd rfl y, fun _ => gk1 (fun w => hd (w.1 (by omega)))⟩)
    rw [e14, wrapI (z := p + 1) (by omega) (by omega), hY.2 (p + 1) (by omega) hd.1]
    have hv := hd
    unfold isD at hv
    have ev : wrap (wrap (wrap (10 * 0) + T (p + 1)) - 48) = pVal T p k := by
      unfold pVal
      rw [if_neg (by omega), if_pos z1, wrapI (z := 10 * 0) (by omega) (by omega), wrapI (z := 10 * 0 + T (p + 1)) (by omega) (by omega), wrapI (by omega) (by omega)]; omega
    refine ⟨⟨by omega, by omega⟩, ?_⟩
    rw [wrapI (z := 1 + 1) (by omega) (by omega)]
    exact fin _ ev ⟨fun _ => hd, fun y => by omega⟩ 1 _ (by omega)
  · refine ⟨fun y => by omega, fun _ => ?_⟩
    rw [e14, wrapI (z := p + 1) (by omega) (by omega)]
    refine s_isFigure hY hL.2 (by omega) (fun hd => ⟨fun _ => ?_, fun y => absurd y (by decide)⟩) (fun hd => ⟨fun y => absurd rfl y, fun _ => gk1 (fun w => hd (w.1 (by omega)))⟩)
    rw [e14, wrapI (z := p + 1) (by omega) (by omega), hY.2 (p + 1) (by omega) hd.1]
    have hv := hd
    unfold isD at hv
    refine ⟨⟨by omega, by omega⟩, ?_⟩
    rw [wrapI (z := 1 + 1) (by omega) (by omega), wrapI (z := 10 * 0) (by omega) (by omega), wrapI (z := 10 * 0 + T (p + 1)) (by omega) (by omega), wrapI (z := 10 * 0 + T (p + 1) - 48) (by omega) (by omega)]
    refine ⟨fun y => by omega, fun _ => ?_⟩
    rw [e14, wrapI (z := p + (1 + 1)) (by omega) (by omega), show p + (1 + 1) = p + 2 by omega]
    refine s_isFigure hY hL.2 (by omega) (fun hd2 => ⟨fun _ => ?_, fun y => absurd y (by decide)⟩) (fun hd2 => ⟨fun y => absurd rfl y, fun _ => gk1 (fun w => hd2 (w.2 (by omega)))⟩)
    rw [e14, wrapI (z := p + (1 + 1)) (by omega) (by omega), show p + (1 + 1) = p + 2 by omega, hY.2 (p + 2) (by omega) hd2.1]
    have hv2 := hd2
    unfold isD at hv2
    have ev : wrap (wrap (wrap (10 * (10 * 0 + T (p + 1) - 48)) + T (p + 2)) - 48) = pVal T p k := by
      unfold pVal
      rw [if_neg (by omega), if_neg (by omega), wrapI (z := 10 * (10 * 0 + T (p + 1) - 48)) (by omega) (by omega), wrapI (z := 10 * (10 * 0 + T (p + 1) - 48) + T (p + 2)) (by omega) (by omega), wrapI (by omega) (by omega)]; omega
    refine ⟨⟨by omega, by omega⟩, ?_⟩
    rw [wrapI (z := 1 + 1 + 1) (by omega) (by omega)]
    exact fin _ ev ⟨fun _ => hd, fun _ => hd2⟩ 0 _ (by omega)
end P
