/-! the reference: the least by segments, and the whole -/
def isArg (ok : Int → Bool) (g : Int → Int) (N m a : Int) : Prop := (m = FAR ∧ a = -4) ∨ (m < FAR ∧ 0 ≤ a ∧ a < N ∧ ok a = true ∧ g a = m ∧ ∀ s, 0 ≤ s → s < a → ok s = true → m < g s)
section T
variable {c : Cf} {M : Mem} {R : Int → Mem → Prop}
theorem sg106 {k : Int} (hk : 0 ≤ k ∧ k < 15) : sg k = 106 ↔ k = 11 := by rw [show (106 : Int) = sg 11 from sg_tab.2.2.2.2.2.2.2.2.2.2.2.1.symm]; exact sg_iff hk (by decide)
theorem sg98 {k : Int} (hk : 0 ≤ k ∧ k < 15) : sg k = 98 ↔ k = 12 := by rw [show (98 : Int) = sg 12 from sg_tab.2.2.2.2.2.2.2.2.2.2.2.2.1.symm]; exact sg_iff hk (by decide)
theorem sg104 {k : Int} (hk : 0 ≤ k ∧ k < 15) : sg k = 104 ↔ k = 14 := by rw [show (104 : Int) = sg 14 from sg_tab.2.2.2.2.2.2.2.2.2.2.2.2.2.2.symm]; exact sg_iff hk (by decide)
theorem s_isJump {k : Int} (hk : 0 ≤ k ∧ k < 15) (h : R (if leadsK k then 1 else 0) M) : fMd_isJump (sg k) M R := by
  unfold leadsK at h
  refine ⟨fun q => ?_, fun q => ⟨fun q2 => ?_, fun q2 => ?_⟩⟩
  · rw [if_pos (by simp [(sg106 hk).mp q])] at h; exact h
  · have n1 : k ≠ 11 := fun z => q ((sg106 hk).mpr z)
    have n2 : k ≠ 12 := fun z => q2 ((sg98 hk).mpr z)
    rw [if_neg (by simp [n1, n2])] at h; exact h
  · rw [if_pos (by simp [(sg98 hk).mp q2])] at h; exact h
theorem s_goesOn0 {i : Int} (hV : VP c) (hC : MC c M) (hi : 0 ≤ i ∧ i < cN c) (h : R (if fal c i then i + 1 else -4) M) : fMd_goesOn_l i 0 (cN c) M R := by
  have hN := hV.2.2.2.2.1
  have hk := hV.2.2.2.2.2.1 i hi.1 hi.2
  have i24 : inb i 24 := ⟨by omega, by omega⟩
  refine ⟨fun _ => ⟨i24, ?_⟩, fun q => absurd q (by decide)⟩
  rw [(hC.2.2 i hi.1 hi.2).1, wrapI (by omega) (by omega)]
  unfold fal fallsK at h
  refine ⟨fun q => ?_, fun q => ⟨i24, fun q2 => ?_, fun q2 => ⟨fun q3 => ?_, fun q3 => ?_⟩⟩⟩
  · rw [if_neg (by simp [(sg106 hk).mp q])] at h; exact h
  · rw [if_neg (by simp [(sg104 hk).mp q2])] at h; exact h
  · have n1 : cK c i ≠ 11 := fun z => q ((sg106 hk).mpr z)
    have n2 : cK c i ≠ 14 := fun z => q2 ((sg104 hk).mpr z)
    rw [if_pos (by simp [n1, n2]; omega)] at h; exact h
  · rw [if_neg (by simp; omega)] at h; exact h
/-- the least over the states of an instruction that comes next, and the first state that gives it -/
theorem s_onTo {ok : Int → Int → Bool} {nx fr_ w : Int} (hV : VP c) (h20 : M 0 20 = nS (cR c)) (hP : PassOK (cR c) c.1.2.1 c.1.2.2.1 c.1.2.2.2 M) (hn : 0 ≤ nx ∧ nx < cN c) (hf : 0 ≤ fr_ ∧ fr_ < nS (cR c)) (hw : 1 ≤ w ∧ w ≤ 999)
    (hT : ∀ s, 0 ≤ s → s < nS (cR c) → VT c ok M nx s) (hL : ∀ s, 0 ≤ s → s < nS (cR c) → 0 ≤ M 24 (16 * nx + s) ∧ M 24 (16 * nx + s) ≤ FAR)
    (h : ∀ b a, isMin (fun t => ok nx t && decide (M 24 (16 * nx + t) < FAR)) (fun t => w * cPs c fr_ t + M 24 (16 * nx + t)) (nS (cR c)) b → isArg (fun t => ok nx t && decide (M 24 (16 * nx + t) < FAR)) (fun t => w * cPs c fr_ t + M 24 (16 * nx + t)) (nS (cR c)) b a → R b (mu M 0 42 a)) : fMd_onTo nx fr_ w M R := by
  have h16 := nS_le (cR c)
  have hN := hV.2.2.2.2.1
  have hFAR : FAR = 1000000000 := rfl
  obtain ⟨v1, v2, v3, v4, -⟩ := id hV
  have key : ∀ (m : Nat) (s b a : Int) (Mk : Mem), 0 ≤ s → s + m = nS (cR c) → Mk = mu M 0 42 a → isMin (fun t => ok nx t && decide (M 24 (16 * nx + t) < FAR)) (fun t => w * cPs c fr_ t + M 24 (16 * nx + t)) s b → isArg (fun t => ok nx t && decide (M 24 (16 * nx + t) < FAR)) (fun t => w * cPs c fr_ t + M 24 (16 * nx + t)) s b a → fMd_onTo_13 R (m + 1) nx fr_ w b s Mk := by
    intro m
    induction m with
    | zero =>
      intro s b a Mk hs0 hm hMk hb ha
      subst hMk
      have e : s = nS (cR c) := by omega
      subst e
      exact And.intro (fun _ => h b a hb ha) (fun q => absurd (by rw [mu_place (by decide), h20]; exact Int.le_refl _) q)
    | succ m ih =>
      intro s b a Mk hs0 hm hMk hb ha
      have hs : 0 ≤ s ∧ s < nS (cR c) := ⟨hs0, by omega⟩
      have wI : wrap (wrap (16 * nx) + s) = 16 * nx + s := by rw [wrapI (z := 16 * nx) (by omega) (by omega), wrapI (by omega) (by omega)]
      have wJ : wrap (wrap (16 * fr_) + s) = 16 * fr_ + s := by rw [wrapI (z := 16 * fr_) (by omega) (by omega), wrapI (by omega) (by omega)]
      have i384 : inb (16 * nx + s) 384 := ⟨by omega, by omega⟩
      have w1 : wrap (s + 1) = s + 1 := wrapI (by omega) (by omega)
      have e22 : ∀ j, Mk 22 j = M 22 j := fun j => by rw [hMk, mu_cell (by decide)]
      have e24 : ∀ j, Mk 24 j = M 24 j := fun j => by rw [hMk, mu_cell (by decide)]
      have e18 : ∀ j, Mk 18 j = M 18 j := fun j => by rw [hMk, mu_cell (by decide)]
      have e42 : Mk 0 42 = a := by rw [hMk, mu_same]
      obtain ⟨vt, -⟩ := hT s hs.1 hs.2
      have hl := hL s hs.1 hs.2
      -- this state is passed over
      have skip : ((ok nx s && decide (M 24 (16 * nx + s) < FAR)) = true → b ≤ w * cPs c fr_ s + M 24 (16 * nx + s)) → fMd_onTo_121 (fMd_onTo_13 R (m + 1)) R nx fr_ w b s Mk := by
        intro hsk
        unfold fMd_onTo_121
        rw [w1]
        refine ih (s + 1) b a Mk (by omega) (by omega) hMk ⟨hb.1, fun t t0 t1 t2 => ?_, ?_⟩ ?_
        · by_cases e : t = s
          · subst e; exact hsk t2
          · exact hb.2.1 t t0 (by omega) t2
        · rcases hb.2.2 with q | ⟨t, t0, t1, t2, t3⟩
          · exact Or.inl q
          · exact Or.inr ⟨t, t0, by omega, t2, t3⟩
        · rcases ha with q | ⟨q1, q2, q3, q4⟩
          · exact Or.inl q
          · exact Or.inr ⟨q1, q2, by omega, q4⟩
      have nextp : 0 ≤ w * cPs c fr_ s ∧ w * cPs c fr_ s ≤ 99900 := by
        have hpp := pP_b (r := cR c) v1 v2 v3 v4 (s := fr_) (t := s) hf hs
        have m3 : 0 ≤ w * cPs c fr_ s := Int.mul_nonneg (by omega) hpp.1
        have m4 : w * cPs c fr_ s ≤ 999 * 100 := Int.mul_le_mul hw.2 hpp.2 hpp.1 (by decide)
        omega
      have haft : ok nx s = true → M 22 (16 * nx + s) ≠ -4 := by
        intro ho
        rw [vt, if_pos ho]
        have := aft_in (r := cR c) (k := cK c nx) (s := s) v1 (hV.2.2.2.2.2.1 nx hn.1 hn.2) hs
        unfold cAf; omega
      refine And.intro (fun q => absurd q (by rw [hMk, mu_place (by decide), h20]; omega)) (fun _ => ?_)
      rw [wI, wJ, e22, e24, e18]
      refine ⟨i384, fun q => skip (fun z => ?_), fun q => ⟨i384, fun q2 => skip (fun z => ?_), fun q2 => ?_⟩⟩
      · simp only [Bool.and_eq_true] at z
        exact absurd q (haft z.1)
      · simp only [Bool.and_eq_true, decide_eq_true_eq] at z
        omega
      · have ho : ok nx s = true := by
          cases ho : ok nx s with
          | true => rfl
          | false => rw [vt, ho] at q; exact absurd rfl q
        have hokk : (ok nx s && decide (M 24 (16 * nx + s) < FAR)) = true := by
          simp only [Bool.and_eq_true, decide_eq_true_eq]; exact ⟨ho, by omega⟩
        rw [hP fr_ s hf.1 hf.2 hs.1 hs.2, show pP (cR c) c.1.2.1 c.1.2.2.1 c.1.2.2.2 fr_ s = cPs c fr_ s from rfl, wrapI (z := w * cPs c fr_ s) (by omega) (by omega), wrapI (z := w * cPs c fr_ s + M 24 (16 * nx + s)) (by omega) (by omega)]
        refine ⟨⟨by omega, by omega⟩, i384, fun q3 => ?_, fun q3 => ?_⟩
        · rw [e42]
          refine ⟨fun _ => ?_, fun z => absurd q3 z⟩
          unfold fMd_onTo_119
          have : mu Mk 0 42 a = Mk := by
            rw [hMk]; funext d j; unfold mu; split <;> rfl
          rw [this]
          exact skip (fun _ => q3)
        · refine ⟨fun z => absurd z q3, fun _ => ?_⟩
          unfold fMd_onTo_119 fMd_onTo_121
          rw [w1]
          refine ih (s + 1) _ s _ (by omega) (by omega) ?_ ⟨by have := hb.1; omega, fun t t0 t1 t2 => ?_, Or.inr ⟨s, hs.1, by omega, hokk, rfl⟩⟩ (Or.inr ⟨by have := hb.1; omega, hs.1, by omega, hokk, rfl, fun t t0 t1 t2 => ?_⟩)
          · rw [hMk]; funext d j; unfold mu; split <;> rfl
          · by_cases e : t = s
            · subst e; exact Int.le_refl _
            · have : b ≤ w * cPs c fr_ t + M 24 (16 * nx + t) := hb.2.1 t t0 (by omega) t2
              show w * cPs c fr_ s + M 24 (16 * nx + s) ≤ w * cPs c fr_ t + M 24 (16 * nx + t)
              omega
          · have : b ≤ w * cPs c fr_ t + M 24 (16 * nx + t) := hb.2.1 t t0 (by omega) t2
            show w * cPs c fr_ s + M 24 (16 * nx + s) < w * cPs c fr_ t + M 24 (16 * nx + t)
            omega
  exact ⟨(nS (cR c)).toNat + 1, key _ 0 FAR (-4) _ (by omega) (by omega) rfl ⟨Int.le_refl _, fun t t0 t1 => absurd t1 (by omega), Or.inl rfl⟩ (Or.inl ⟨rfl, rfl⟩)⟩
end T
