def offQ (M M' : Mem) : Prop := ∀ c i, c ≠ 15 → c ≠ 16 → c ≠ 18 → c ≠ 19 → c ≠ 20 → ¬ (c = 0 ∧ (i = 20 ∨ i = 27)) → M' c i = M c i
theorem s_laysPassages {r mv ld st : Int} {M : Mem} {R : Int → Mem → Prop} (hr : 1 ≤ r ∧ r ≤ 3) (hM : M 1 0 = r ∧ M 1 1 = mv ∧ M 1 2 = ld ∧ M 1 3 = st) (hmv : 0 ≤ mv ∧ mv ≤ 9) (hld : 0 ≤ ld ∧ ld ≤ 9) (hst : 0 ≤ st ∧ st ≤ 9) (h27 : M 0 27 = 0 ∨ (M 0 27 = 1 ∧ PassOK r mv ld st M))
    (h : ∀ M', offQ M M' → TM r M' → M' 0 20 = nS r → M' 0 27 = 1 → PassOK r mv ld st M' → R 0 M') : fMd_laysPassages M R := by
  have h16 := nS_le r
  refine s_laysStates (by rw [hM.1]; exact hr) ?_
  rw [hM.1]
  have hT := TM_SM (r := r) (M := M) hM.1
  have h20 : SM r (nS r) M 0 20 = nS r := SM_20 _ _ _
  have hoff : ∀ c i, c ≠ 15 → c ≠ 16 → ¬ (c = 0 ∧ i = 20) → SM r (nS r) M c i = M c i := fun c i a b z => SM_off z a b
  have e27 : SM r (nS r) M 0 27 = M 0 27 := SM_fld (by decide)
  have e18 : ∀ i, SM r (nS r) M 18 i = M 18 i := fun i => SM_cell (by decide)
  have eC : ∀ i, SM r (nS r) M 1 i = M 1 i := fun i => SM_cell (by decide)
  generalize SM r (nS r) M = N at hT h20 hoff e27 e18 eC ⊢
  rw [e27]
  refine ⟨fun q => ?_, fun q => ?_⟩
  · obtain ⟨a, rfl⟩ := Int.eq_ofNat_of_zero_le (show 0 ≤ r by omega)
    have loop : ∀ (m s : Nat) (Mk : Mem), ((s + m : Nat) : Int) = nS a → offP (mu N 0 27 1) Mk → (∀ s' t : Int, 0 ≤ s' → s' < s → 0 ≤ t → t < nS a → Mk 18 (16 * s' + t) = pP a mv ld st s' t) → fMd_laysPassages_19 R (m + 1) s Mk := by
      intro m
      induction m with
      | zero =>
        intro s Mk hm ho hd
        refine And.intro (fun _ => ?_) (fun z => absurd (by rw [ho 0 20 (by decide) (by decide) (by decide), mu_place (by decide), h20]; omega) z)
        have hTk : TM a Mk := by
          refine (TM.offP (M := mu N 0 27 1) ?_ ho)
          exact ⟨by rw [mu_cell (by decide)]; exact hT.1, fun s a b => by rw [mu_cell (by decide)]; exact hT.2.1 s a b, fun s i a b c d => by rw [mu_cell (by decide)]; exact hT.2.2 s i a b c d⟩
        refine h Mk (fun c i c15 c16 c18 c19 c20 c0 => ?_) hTk ?_ ?_ (fun s' t z0 z1 z2 z3 => hd s' t z0 (by omega) z2 z3)
        · rw [ho c i c18 c19 c20]
          by_cases e : c = 0 ∧ i = 27
          · exact absurd ⟨e.1, Or.inr e.2⟩ c0
          · rw [show mu N 0 27 1 c i = N c i from by unfold mu; rw [if_neg e]]
            exact hoff c i c15 c16 (fun z => c0 ⟨z.1, Or.inl z.2⟩)
        · rw [ho 0 20 (by decide) (by decide) (by decide), mu_place (by decide)]; exact h20
        · rw [ho 0 27 (by decide) (by decide) (by decide), mu_same]
      | succ m ih =>
        intro s Mk hm ho hd
        have hTk : TM a Mk := by
          refine (TM.offP (M := mu N 0 27 1) ?_ ho)
          exact ⟨by rw [mu_cell (by decide)]; exact hT.1, fun s a b => by rw [mu_cell (by decide)]; exact hT.2.1 s a b, fun s i a b c d => by rw [mu_cell (by decide)]; exact hT.2.2 s i a b c d⟩
        have eK : ∀ i, Mk 1 i = M 1 i := fun i => by rw [ho 1 i (by decide) (by decide) (by decide), mu_cell (by decide)]; exact eC i
        refine And.intro (fun z => absurd z (by rw [ho 0 20 (by decide) (by decide) (by decide), mu_place (by decide), h20]; omega)) (fun _ => ?_)
        refine s_laysFrom (mv := mv) (ld := ld) (st := st) (by omega) hTk ⟨by rw [eK]; exact hM.2.1, by rw [eK]; exact hM.2.2.1, by rw [eK]; exact hM.2.2.2⟩ hmv hld hst (s := s) (by omega) (fun M1 ho1 hC h0 hP => ?_)
        have ho1' : offP Mk M1 := fun c i c18 c19 c20 => ho1 c i c19 c20
        have hT1 := hTk.offP ho1'
        refine s_row (r := a) (s := s) (by omega) hT1 ?_ hmv hld hst (by omega) hC h0 hP (fun M2 ho2 h18 hrow => ?_)
        · rw [ho1 0 20 (by decide) (by decide), ho 0 20 (by decide) (by decide) (by decide), mu_place (by decide)]; exact h20
        · refine ih (s + 1) M2 (by omega) (fun c i c18 c19 c20 => by rw [ho2 c i c18 c19 c20, ho1' c i c18 c19 c20]; exact ho c i c18 c19 c20) (fun s' t z0 z1 z2 z3 => ?_)
          by_cases e : s' = s
          · subst e; exact hrow t z2 z3
          · rw [h18 _ (by omega), ho1 18 _ (by decide) (by decide)]
            exact hd s' t z0 (by omega) z2 z3
    exact ⟨(nS a).toNat + 1, loop (nS a).toNat 0 _ (by omega) (fun _ _ _ _ _ => rfl) (fun s' t z0 z1 => absurd z1 (by omega))⟩
  · have hq := h27.resolve_left q
    refine h N (fun c i c15 c16 c18 c19 c20 c0 => hoff c i c15 c16 (fun z => c0 ⟨z.1, Or.inl z.2⟩)) hT h20 (by rw [e27]; exact hq.1) (fun s t z0 z1 z2 z3 => ?_)
    rw [e18]; exact hq.2 s t z0 z1 z2 z3
