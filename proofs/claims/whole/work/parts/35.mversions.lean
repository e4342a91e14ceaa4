/-! the reference's versions -/
/-- the reference's tables stand for r registers -/
def TM (r : Int) (M : Mem) : Prop := M 1 0 = r ∧ (∀ s, 0 ≤ s → s < nS r → M 15 s = stL r s) ∧ ∀ s i, 0 ≤ s → s < nS r → 0 ≤ i → i < 3 → M 16 (3 * s + i) = stR r s i
theorem TM_SM {r : Int} {M : Mem} (h : M 1 0 = r) : TM r (SM r (nS r) M) := by
  refine ⟨by rw [SM_cell (by decide)]; exact h, fun s h0 h1 => SM_15 ⟨h0, h1⟩, fun s i h0 h1 h2 h3 => ?_⟩
  rw [SM_16 (by omega), show (3 * s + i) / 3 = s by omega, show (3 * s + i) % 3 = i by omega]
def mtB (r s n a b c : Int) : Bool := decide (stL r s = n) && (decide (n ≤ 0) || decide (stR r s 0 = a)) && (decide (n ≤ 1) || decide (stR r s 1 = b)) && (decide (n ≤ 2) || decide (stR r s 2 = c))
section M
variable {r k s : Int} {M : Mem} {R : Int → Mem → Prop}
theorem s_stateOf {n a b c t : Int} (hT : TM r M) (ht : 0 ≤ t ∧ t < nS r) (hm : mtB r t n a b c = true) (hf : ∀ s, 0 ≤ s → s < t → mtB r s n a b c = false) (h : R t M) : fMd_stateOf n a b c M R := by
  have h16 := nS_le r
  have key : ∀ (m : Nat) (s : Int), 0 ≤ s → s + m = t → fMd_stateOf_3 R (m + 1) n a b c s M := by
    intro m
    induction m with
    | zero =>
      intro s hs he
      have e : s = t := by omega
      subst e
      unfold mtB at hm
      simp only [Bool.and_eq_true, Bool.or_eq_true, decide_eq_true_eq] at hm
      obtain ⟨⟨⟨g0, g1⟩, g2⟩, g3⟩ := hm
      have e15 := hT.2.1 s ht.1 ht.2
      have e160 := hT.2.2 s 0 ht.1 ht.2 (by omega) (by omega)
      have e161 := hT.2.2 s 1 ht.1 ht.2 (by omega) (by omega)
      have e162 := hT.2.2 s 2 ht.1 ht.2 (by omega) (by omega)
      rw [Int.add_zero] at e160
      have last : fMd_stateOf_51 (fMd_stateOf_3 R 0) R n a b c s M := by
        unfold fMd_stateOf_51
        rw [wrapI (z := 3 * s) (by omega) (by omega), wrapI (z := 3 * s + 2) (by omega) (by omega), e162]
        refine ⟨fun _ => h, fun q => ⟨⟨by omega, by omega⟩, fun _ => h, fun q2 => absurd (g3.resolve_left (by omega)) q2⟩⟩
      have mid : fMd_stateOf_31 (fMd_stateOf_3 R 0) R n a b c s M := by
        unfold fMd_stateOf_31
        rw [wrapI (z := 3 * s) (by omega) (by omega), wrapI (z := 3 * s + 1) (by omega) (by omega), e161]
        refine ⟨fun _ => last, fun q => ⟨⟨by omega, by omega⟩, fun q2 => absurd (g2.resolve_left (by omega)) q2, fun _ => last⟩⟩
      refine ⟨⟨by omega, by omega⟩, fun q => absurd (e15.trans g0) q, fun _ => ⟨fun _ => mid, fun q => ?_⟩⟩
      rw [wrapI (z := 3 * s) (by omega) (by omega), e160]
      exact ⟨⟨by omega, by omega⟩, fun q2 => absurd (g1.resolve_left (by omega)) q2, fun _ => mid⟩
    | succ m ih =>
      intro s hs he
      have hlt : s < t := by omega
      have hno := hf s hs hlt
      have next : fMd_stateOf_72 (fMd_stateOf_3 R (m + 1)) R n a b c s M := by
        unfold fMd_stateOf_72
        rw [wrapI (by omega) (by omega)]
        exact ih (s + 1) (by omega) (by omega)
      unfold mtB at hno
      have e15 := hT.2.1 s hs (by omega)
      have e160 := hT.2.2 s 0 hs (by omega) (by omega) (by omega)
      have e161 := hT.2.2 s 1 hs (by omega) (by omega) (by omega)
      have e162 := hT.2.2 s 2 hs (by omega) (by omega) (by omega)
      rw [Int.add_zero] at e160
      refine ⟨⟨by omega, by omega⟩, fun _ => next, fun g0 => ?_⟩
      rw [e15] at g0
      have last : (n ≤ 0 ∨ stR r s 0 = a) → (n ≤ 1 ∨ stR r s 1 = b) → fMd_stateOf_51 (fMd_stateOf_3 R (m + 1)) R n a b c s M := by
        intro g1 g2
        unfold fMd_stateOf_51
        rw [wrapI (z := 3 * s) (by omega) (by omega), wrapI (z := 3 * s + 2) (by omega) (by omega), e162]
        refine ⟨fun q => ?_, fun q => ⟨⟨by omega, by omega⟩, fun q2 => ?_, fun _ => next⟩⟩
        · exfalso
          rcases g1 with g1 | g1 <;> rcases g2 with g2 | g2 <;> simp [g0, g1, g2, q] at hno
        · exfalso
          rcases g1 with g1 | g1 <;> rcases g2 with g2 | g2 <;> simp [g0, g1, g2, q2] at hno
      have mid : (n ≤ 0 ∨ stR r s 0 = a) → fMd_stateOf_31 (fMd_stateOf_3 R (m + 1)) R n a b c s M := by
        intro g1
        unfold fMd_stateOf_31
        rw [wrapI (z := 3 * s) (by omega) (by omega), wrapI (z := 3 * s + 1) (by omega) (by omega), e161]
        exact ⟨fun q => last g1 (Or.inl q), fun q => ⟨⟨by omega, by omega⟩, fun _ => next, fun q2 => last g1 (Or.inr q2)⟩⟩
      refine ⟨fun q => mid (Or.inl q), fun q => ?_⟩
      rw [wrapI (z := 3 * s) (by omega) (by omega), e160]
      exact ⟨⟨by omega, by omega⟩, fun _ => next, fun q2 => mid (Or.inr q2)⟩
  exact ⟨t.toNat + 1, key t.toNat 0 (by omega) (by omega)⟩
def frN (n a b : Int) : Int := if n = 0 then 0 else if n = 1 then (if a = 0 then 1 else 0) else freeR [a, b]
theorem fi_step {k4 : Int → Int → Int → Mem → Prop} {m : Nat} {n f kk i : Int} (hi : 0 ≤ i ∧ i < n ∧ i < 3) (hf : 0 ≤ f ∧ f < 9) (h : fMd_freeIn_12 k4 R m n (if M 17 i = f then f + 1 else f) kk (i + 1) M) : fMd_freeIn_12 k4 R (m + 1) n f kk i M := by
  refine And.intro (fun q => absurd q (by omega)) (fun _ => ⟨⟨hi.1, by omega⟩, fun q => ?_, fun q => ?_⟩)
  · unfold fMd_freeIn_35
    rw [if_neg q] at h
    rw [wrapI (z := f + 0) (by omega) (by omega), wrapI (by omega) (by omega), Int.add_zero]; exact h
  · unfold fMd_freeIn_35
    rw [if_pos q] at h
    rw [wrapI (z := f + 1) (by omega) (by omega), wrapI (by omega) (by omega)]; exact h
theorem s_freeIn {n : Int} (hn : 0 ≤ n ∧ n ≤ 2) (ha : 1 ≤ n → 0 ≤ M 17 0 ∧ M 17 0 < 3) (hb : 2 ≤ n → 0 ≤ M 17 1 ∧ M 17 1 < 3 ∧ M 17 1 ≠ M 17 0) (h : R (frN n (M 17 0) (M 17 1)) M) : fMd_freeIn n M R := by
  have h3 : n = 0 ∨ n = 1 ∨ n = 2 := by omega
  rcases h3 with rfl | rfl | rfl
  · exact ⟨1, And.intro (fun _ => h) (fun q => absurd (by decide) q)⟩
  · refine ⟨2, And.intro (fun q => absurd q (by decide)) (fun _ => ⟨2, fi_step (by decide) (by decide) ?_⟩)⟩
    refine And.intro (fun _ => ?_) (fun q => absurd (by decide) q)
    refine And.intro (fun _ => ?_) (fun q => absurd (by decide) q)
    have : frN 1 (M 17 0) (M 17 1) = (if M 17 0 = 0 then 0 + 1 else 0) := by simp [frN]
    rw [this] at h; exact h
  · obtain ⟨a0, a1⟩ := ha (by omega)
    obtain ⟨b0, b1, b2⟩ := hb (by omega)
    refine ⟨3, And.intro (fun q => absurd q (by decide)) (fun _ => ⟨3, fi_step (by decide) (by decide) (fi_step (by decide) ⟨by split <;> decide, by split <;> decide⟩ ?_)⟩)⟩
    refine And.intro (fun _ => ?_) (fun q => absurd (by decide) q)
    refine And.intro (fun q => absurd q (by decide)) (fun _ => ⟨3, fi_step (by decide) ⟨?_, ?_⟩ (fi_step (by decide) ⟨?_, ?_⟩ ?_)⟩)
    · repeat' split
      all_goals decide
    · repeat' split
      all_goals decide
    · repeat' split
      all_goals decide
    · repeat' split
      all_goals decide
    refine And.intro (fun _ => ?_) (fun q => absurd (by decide) q)
    refine And.intro (fun _ => ?_) (fun q => absurd (by decide) q)
    have hab : (M 17 0 = 0 ∧ M 17 1 = 1) ∨ (M 17 0 = 0 ∧ M 17 1 = 2) ∨ (M 17 0 = 1 ∧ M 17 1 = 0) ∨ (M 17 0 = 1 ∧ M 17 1 = 2) ∨ (M 17 0 = 2 ∧ M 17 1 = 0) ∨ (M 17 0 = 2 ∧ M 17 1 = 1) := by omega
    rcases hab with ⟨e0, e1⟩ | ⟨e0, e1⟩ | ⟨e0, e1⟩ | ⟨e0, e1⟩ | ⟨e0, e1⟩ | ⟨e0, e1⟩ <;> simp only [e0, e1, Int.zero_add] at h ⊢ <;> exact h
end M
