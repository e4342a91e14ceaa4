/-! versions: the class's and the reference's -/
theorem st_facts : ∀ r : Fin 4, ∀ s : Fin 16, 1 ≤ r.val → ((s.val : Nat) : Int) < nS ((r.val : Nat) : Int) → (0 ≤ stL r.val s.val ∧ stL r.val s.val ≤ r.val ∧ (stL r.val s.val = 0 ↔ s.val = 0) ∧ 0 ≤ stP r.val s.val ∧ stP r.val s.val < 64 ∧ (∀ i : Fin 3, ((i.val : Nat) : Int) < stL r.val s.val → 0 ≤ stR r.val s.val i.val ∧ stR r.val s.val i.val < r.val) ∧ (∀ i : Fin 3, stL r.val s.val ≤ i.val → stR r.val s.val i.val = -4)
    ∧ (∀ i : Fin 3, ((i.val : Nat) : Int) < stL r.val s.val → stP r.val s.val / 4 ^ i.val % 4 - 1 = stR r.val s.val i.val)) := by decide +kernel
theorem nS_le (r : Int) : 1 ≤ nS r ∧ nS r ≤ 16 := by
  unfold nS stT
  split
  · exact ⟨by decide, by decide⟩
  split
  · exact ⟨by decide, by decide⟩
  · exact ⟨by decide, by decide⟩
theorem st_f {r s : Int} (hr : 1 ≤ r ∧ r ≤ 3) (hs : 0 ≤ s ∧ s < nS r) : 0 ≤ stL r s ∧ stL r s ≤ r ∧ (stL r s = 0 ↔ s = 0) ∧ 0 ≤ stP r s ∧ stP r s < 64 ∧ (∀ i, 0 ≤ i → i < 3 → i < stL r s → 0 ≤ stR r s i ∧ stR r s i < r ∧ stP r s / 4 ^ i.toNat % 4 - 1 = stR r s i) ∧ (∀ i, 0 ≤ i → i < 3 → stL r s ≤ i → stR r s i = -4) := by
  have h16 := nS_le r
  obtain ⟨a, ha⟩ := i_fin (n := 4) (x := r) ⟨by omega, by omega⟩
  obtain ⟨b, hb⟩ := i_fin (n := 16) (x := s) ⟨by omega, by omega⟩
  subst ha; subst hb
  obtain ⟨h1, h2, h3, h4, h5, h6, h7, h8⟩ := st_facts a b (by omega) hs.2
  refine ⟨h1, h2, ?_, h4, h5, fun i i0 i3 il => ?_, fun i i0 i3 il => ?_⟩
  · rw [h3]; omega
  · obtain ⟨d, hd⟩ := i_fin (n := 3) (x := i) ⟨by omega, by omega⟩
    subst hd
    exact ⟨(h6 d il).1, (h6 d il).2, h8 d il⟩
  · obtain ⟨d, hd⟩ := i_fin (n := 3) (x := i) ⟨by omega, by omega⟩
    subst hd
    exact h7 d il
theorem kinds15 {k : Int} (h : 0 ≤ k ∧ k < 15) : k = 0 ∨ k = 1 ∨ k = 2 ∨ k = 3 ∨ k = 4 ∨ k = 5 ∨ k = 6 ∨ k = 7 ∨ k = 8 ∨ k = 9 ∨ k = 10 ∨ k = 11 ∨ k = 12 ∨ k = 13 ∨ k = 14 := by omega
theorem sg_tab : sg 0 = 110 ∧ sg 1 = 43 ∧ sg 2 = 45 ∧ sg 3 = 42 ∧ sg 4 = 100 ∧ sg 5 = 120 ∧ sg 6 = 112 ∧ sg 7 = 111 ∧ sg 8 = 114 ∧ sg 9 = 103 ∧ sg 10 = 115 ∧ sg 11 = 106 ∧ sg 12 = 98 ∧ sg 13 = 119 ∧ sg 14 = 104 := by decide +kernel
theorem tk_tab : tk 0 = 0 ∧ tk 1 = 2 ∧ tk 2 = 2 ∧ tk 3 = 2 ∧ tk 4 = 1 ∧ tk 5 = 2 ∧ tk 6 = 1 ∧ tk 7 = 2 ∧ tk 8 = 3 ∧ tk 9 = 0 ∧ tk 10 = 1 ∧ tk 11 = 0 ∧ tk 12 = 1 ∧ tk 13 = 1 ∧ tk 14 = 0 := by decide +kernel
theorem cm_tab : cm 0 = 1 ∧ cm 1 = 1 ∧ cm 2 = 1 ∧ cm 3 = 1 ∧ cm 4 = 2 ∧ cm 5 = 2 ∧ cm 6 = 0 ∧ cm 7 = 3 ∧ cm 8 = 3 ∧ cm 9 = 1 ∧ cm 10 = 0 ∧ cm 11 = 0 ∧ cm 12 = 0 ∧ cm 13 = 0 ∧ cm 14 = 0 := by decide +kernel
theorem dg_tab : dg 0 = 2 ∧ dg 1 = 0 ∧ dg 2 = 0 ∧ dg 3 = 0 ∧ dg 4 = 0 ∧ dg 5 = 0 ∧ dg 6 = 0 ∧ dg 7 = 0 ∧ dg 8 = 0 ∧ dg 9 = 1 ∧ dg 10 = 1 ∧ dg 11 = 2 ∧ dg 12 = 2 ∧ dg 13 = 0 ∧ dg 14 = 0 := by decide +kernel
theorem tk_le {k : Int} (h : 0 ≤ k ∧ k < 15) : 0 ≤ tk k ∧ tk k ≤ 3 ∧ 0 ≤ cm k ∧ cm k ≤ 3 ∧ 0 ≤ dg k ∧ dg k ≤ 2 := by
  rcases kinds15 h with h | h | h | h | h | h | h | h | h | h | h | h | h | h | h <;> subst h <;> decide +kernel
theorem s_takes {k : Int} {M : Mem} {R : Int → Mem → Prop} (hk : 0 ≤ k ∧ k < 15) (h : R (tk k) M) : fMd_takes (sg k) M R := by
  unfold fMd_takes
  rcases kinds15 hk with e | e | e | e | e | e | e | e | e | e | e | e | e | e | e <;> subst e <;> simp only [sg_tab, tk_tab] at h ⊢ <;> simp <;> exact h
theorem s_comes {k : Int} {M : Mem} {R : Int → Mem → Prop} (hk : 0 ≤ k ∧ k < 15) (h : R (cm k) M) : fMd_comes (sg k) M R := by
  unfold fMd_comes
  rcases kinds15 hk with e | e | e | e | e | e | e | e | e | e | e | e | e | e | e <;> subst e <;> simp only [sg_tab, cm_tab] at h ⊢ <;> simp <;> exact h
/-- a letter is that of a kind -/
theorem sg_inj {k j : Int} (hk : 0 ≤ k ∧ k < 15) (hj : 0 ≤ j ∧ j < 15) (h : sg k = sg j) : k = j := by
  have key : ∀ a b : Fin 15, sg a.val = sg b.val → a.val = b.val := by decide +kernel
  obtain ⟨a, rfl⟩ := i_fin (n := 15) (x := k) ⟨by omega, by omega⟩
  obtain ⟨b, rfl⟩ := i_fin (n := 15) (x := j) ⟨by omega, by omega⟩
  have := key a b h
  omega
/-! the class -/
/-- the class's tables stand for r registers -/
def TX (r : Int) (M : Mem) : Prop := M 8 0 = r ∧ TabX r (nS r) M
section X
variable {r k s : Int} {M : Mem} {R : Int → Mem → Prop}
theorem s_lengthOf (hT : TX r M) (hs : 0 ≤ s ∧ s < nS r) (h : R (stL r s) M) : fMa_lengthOf s M R := by
  have h16 := nS_le r
  refine ⟨⟨by omega, by omega⟩, ?_⟩
  rw [(hT.2.2 s hs.1 hs.2).2.1]; exact h
theorem s_works (hr : 1 ≤ r ∧ r ≤ 3) (hT : TX r M) (hk : 0 ≤ k ∧ k < 15) (hs : 0 ≤ s ∧ s < nS r) (h : R (if wk r k s then 1 else 0) M) : fMa_worksInRegisters k s M R := by
  have h16 := nS_le r
  have ht := tk_le hk
  have hl := st_f hr hs
  have e : M 10 s = stL r s := (hT.2.2 s hs.1 hs.2).2.1
  have hk15 : inb k 15 := ⟨by omega, by omega⟩
  have hs16 : inb s 16 := ⟨by omega, by omega⟩
  simp only [fMa_worksInRegisters, fMa_worksInRegisters_43, e, hT.1, hk15, hs16, true_and, show roV 100 k = tk k from rfl, show roV 101 k = cm k from rfl]
  rw [wrapI (z := stL r s - tk k) (by omega) (by omega), wrapI (by omega) (by omega)]
  unfold wk at h
  refine ⟨fun q => ?_, fun q => ⟨fun q2 => ?_, fun q2 => ?_⟩⟩
  · rw [if_neg (by simp; omega)] at h; exact h
  · rw [if_neg (by simp; omega)] at h; exact h
  · rw [if_pos (by simp; omega)] at h; exact h
theorem s_registerOf {i : Int} (hr : 1 ≤ r ∧ r ≤ 3) (hT : TX r M) (hs : 0 ≤ s ∧ s < nS r) (hi : 0 ≤ i ∧ i < stL r s) (h : R (stR r s i) M) : fMa_registerOf s i M R := by
  have h16 := nS_le r
  have hl := st_f hr hs
  have e : M 9 s = stP r s := (hT.2.2 s hs.1 hs.2).1
  refine ⟨⟨by omega, by omega⟩, ?_⟩
  obtain ⟨g1, g2, g3⟩ := hl.2.2.2.2.2.1 i hi.1 (by omega) hi.2
  obtain ⟨a, ha⟩ := i_fin (n := 64) (x := stP r s) ⟨hl.2.2.2.1, by omega⟩
  obtain ⟨q1, q2, q3, q4, q5, q6, q7, q8⟩ := k_and3 a
  rw [e]
  have key : b_iand (b_ishr (stP r s) (wrap (2 * i))) 3 = stR r s i + 1 := by
    have hi3 : i = 0 ∨ i = 1 ∨ i = 2 := by omega
    rcases hi3 with rfl | rfl | rfl
    · rw [show wrap (2 * 0) = 0 by decide, ha, q5, q1]
      have : stP r s / 4 ^ (0 : Int).toNat % 4 - 1 = stR r s 0 := g3
      rw [ha] at this
      simp at this
      omega
    · rw [show wrap (2 * 1) = 2 by decide, ha, q2]
      have : stP r s / 4 ^ (1 : Int).toNat % 4 - 1 = stR r s 1 := g3
      rw [ha] at this
      simp at this
      omega
    · rw [show wrap (2 * 2) = 4 by decide, ha, q3]
      have : stP r s / 4 ^ (2 : Int).toNat % 4 - 1 = stR r s 2 := g3
      rw [ha] at this
      simp at this
      omega
  rw [key, wrapI (by omega) (by omega), show stR r s i + 1 - 1 = stR r s i by omega]
  exact h
theorem s_hasVersion (hr : 1 ≤ r ∧ r ≤ 3) (hT : TX r M) (hk : 0 ≤ k ∧ k < 15) (hs : 0 ≤ s ∧ s < nS r) (h : R (if hasV r k s then 1 else 0) M) : fMa_hasVersion k s M R := by
  unfold hasV at h
  refine ⟨fun q => ?_, fun q => s_works hr hT hk hs ?_⟩
  · rw [if_pos (by simp [q])] at h; exact h
  · by_cases hw : wk r k s = true
    · rw [if_pos hw]; rw [if_pos (by simp [hw])] at h
      exact ⟨fun z => absurd z (by decide), fun _ => h⟩
    · rw [if_neg hw]; rw [if_neg (by simp [hw, q])] at h
      exact ⟨fun _ => h, fun z => absurd rfl z⟩
theorem s_isPlain (hr : 1 ≤ r ∧ r ≤ 3) (hT : TX r M) (hk : 0 ≤ k ∧ k < 15) (hs : 0 ≤ s ∧ s < nS r) (h : R (if plainV r k s then 1 else 0) M) : fMa_isPlain k s M R := by
  unfold plainV at h
  refine ⟨fun q => ?_, fun q => ⟨fun q2 => ?_, fun q2 => s_works hr hT hk hs ?_⟩⟩
  · rw [if_neg (by simp [q])] at h; exact h
  · rw [if_neg (by simp [q2])] at h; exact h
  · by_cases hw : wk r k s = true
    · rw [if_pos hw]; rw [if_neg (by simp [hw])] at h
      exact ⟨fun _ => h, fun z => absurd z (by decide)⟩
    · have hw' : wk r k s = false := by simpa using hw
      rw [if_neg hw]
      rw [hw', if_pos (by simp [q, q2])] at h
      exact ⟨fun z => absurd rfl z, fun _ => h⟩
theorem s_versionCost {mv ld st : Int} (hr : 1 ≤ r ∧ r ≤ 3) (hT : TX r M) (hc : M 8 1 = mv ∧ M 8 2 = ld ∧ M 8 3 = st) (hld : 0 ≤ ld ∧ ld ≤ 9) (hst : 0 ≤ st ∧ st ≤ 9) (hk : 0 ≤ k ∧ k < 15) (hs : 0 ≤ s ∧ s < nS r) (h : R (vc r mv ld st k s) M) : fMa_versionCost k s M R := by
  refine s_isPlain hr hT hk hs ?_
  unfold vc at h
  have ht := tk_le hk
  by_cases hp : plainV r k s = true
  · rw [if_pos hp] at h ⊢
    refine ⟨fun z => absurd z (by decide), fun _ => ⟨⟨by omega, by omega⟩, ⟨by omega, by omega⟩, ?_⟩⟩
    rw [show roV 100 k = tk k from rfl, show roV 101 k = cm k from rfl, hc.2.1, hc.2.2]
    have a1 : tk k * ld ≤ 3 * 9 := Int.mul_le_mul ht.2.1 hld.2 hld.1 (by decide)
    have a2 : 0 ≤ tk k * ld := Int.mul_nonneg ht.1 hld.1
    have a3 : cm k * st ≤ 3 * 9 := Int.mul_le_mul ht.2.2.2.1 hst.2 hst.1 (by decide)
    have a4 : 0 ≤ cm k * st := Int.mul_nonneg ht.2.2.1 hst.1
    rw [wrapI (z := tk k * ld) (by omega) (by omega), wrapI (z := cm k * st) (by omega) (by omega), wrapI (by omega) (by omega)]
    exact h
  · rw [if_neg hp] at h ⊢
    refine ⟨fun _ => ⟨fun q => ?_, fun q => ⟨fun q2 => ?_, fun q2 => ?_⟩⟩, fun z => absurd rfl z⟩
    · rw [if_pos (Or.inl q)] at h
      exact ⟨fun z => absurd z (by decide), fun _ => by rw [hc.1]; exact h⟩
    · rw [if_neg (by omega)] at h
      exact ⟨fun _ => h, fun z => absurd rfl z⟩
    · rw [if_pos (Or.inr q2)] at h
      exact ⟨fun z => absurd z (by decide), fun _ => by rw [hc.1]; exact h⟩
def freeRow (row : Int) : Int := if holdsR row 0 then (if holdsR row 1 then 2 else 1) else 0
theorem freeRow_in (row : Int) : 0 ≤ freeRow row ∧ freeRow row < 3 := by unfold freeRow; split <;> (try split) <;> omega
theorem s_smallestFree {row : Int} (hrow : 0 ≤ row ∧ row < 64) (h : R (freeRow row) M) : fMa_smallestFree row M R := by
  unfold freeRow at h
  refine ⟨3, ?_⟩
  refine And.intro (fun q => absurd q (by decide)) (fun _ => s_holds hrow (by omega) ?_)
  by_cases h0 : holdsR row 0 = true
  · rw [if_pos h0] at h ⊢
    refine And.intro (fun _ => ?_) (fun z => absurd z (by decide))
    refine And.intro (fun q => absurd q (by decide)) (fun _ => s_holds hrow (by decide) ?_)
    rw [show wrap (0 + 1) = 1 by decide]
    by_cases h1 : holdsR row 1 = true
    · rw [if_pos h1] at h ⊢
      refine And.intro (fun _ => ?_) (fun z => absurd z (by decide))
      exact And.intro (fun _ => h) (fun q => absurd (by decide) q)
    · rw [if_neg h1] at h ⊢
      exact And.intro (fun z => absurd rfl z) (fun _ => h)
  · rw [if_neg h0] at h ⊢
    exact And.intro (fun z => absurd rfl z) (fun _ => h)
/-- the row of the state that a version leaves -/
def rowA (k row : Int) : Int :=
  if k = 5 then 4 * (4 * (row / 16) + (row % 4 - 1) + 1) + (row / 4 % 4 - 1) + 1
  else if k = 8 then 4 * (row % 16) + (row / 16 % 4 - 1) + 1
  else if k = 4 ∨ k = 7 then 4 * row + freeRow row + 1
  else if cm k = 0 then row / 4 ^ (tk k).toNat
  else 4 * (row / 4 ^ (tk k).toNat) + freeRow (row / 4 ^ (tk k).toNat) + 1
def verXb (r k s : Int) : Bool := !(wk r k s) || (decide (0 ≤ aft r k s) && decide (aft r k s < nS r) && decide (rowA k (stP r s) = stP r (aft r k s)) && (decide (k ≠ 5) || decide (2 ≤ stL r s)) && (decide (k ≠ 8) || decide (3 ≤ stL r s)) && (decide (¬ (k = 4 ∨ k = 7)) || decide (stP r s < 16)) && (decide (cm k = 0 ∨ k = 4 ∨ k = 5 ∨ k = 7 ∨ k = 8) || decide (stP r s / 4 ^ (tk k).toNat < 16)))
theorem verXd : ∀ r : Fin 4, ∀ k : Fin 15, ∀ s : Fin 16, (decide (r.val = 0) || decide (nS ((r.val : Nat) : Int) ≤ s.val) || verXb r.val k.val s.val) = true := by decide +kernel
theorem verX {r k s : Int} (hr : 1 ≤ r ∧ r ≤ 3) (hk : 0 ≤ k ∧ k < 15) (hs : 0 ≤ s ∧ s < nS r) (hw : wk r k s = true) : 0 ≤ aft r k s ∧ aft r k s < nS r ∧ rowA k (stP r s) = stP r (aft r k s) ∧ (k = 5 → 2 ≤ stL r s) ∧ (k = 8 → 3 ≤ stL r s) ∧ (k = 4 ∨ k = 7 → stP r s < 16) ∧ (cm k ≠ 0 → k ≠ 4 → k ≠ 5 → k ≠ 7 → k ≠ 8 → stP r s / 4 ^ (tk k).toNat < 16) := by
  have h16 := nS_le r
  obtain ⟨a, ha⟩ := i_fin (n := 4) (x := r) ⟨by omega, by omega⟩
  obtain ⟨b, hb⟩ := i_fin (n := 15) (x := k) ⟨by omega, by omega⟩
  obtain ⟨d, hd⟩ := i_fin (n := 16) (x := s) ⟨by omega, by omega⟩
  have h := verXd a b d
  rw [← ha, ← hb, ← hd] at h
  unfold verXb at h
  rw [hw] at h
  simp only [Bool.or_eq_true, Bool.and_eq_true, decide_eq_true_eq, Bool.not_true, Bool.false_eq_true, false_or] at h
  rcases h with (h | h) | ⟨⟨⟨⟨⟨⟨h1, h2⟩, h3⟩, h4⟩, h5⟩, h6⟩, h7⟩
  · omega
  · omega
  · refine ⟨h1, h2, h3, fun q => h4.resolve_left (fun z => z q), fun q => h5.resolve_left (fun z => z q), fun q => h6.resolve_left (fun z => z q), fun q q1 q2 q3 q4 => h7.resolve_left (fun z => ?_)⟩
    rcases z with z | z | z | z | z
    · exact q z
    · exact q1 z
    · exact q2 z
    · exact q3 z
    · exact q4 z
theorem aft_in (hr : 1 ≤ r ∧ r ≤ 3) (hk : 0 ≤ k ∧ k < 15) (hs : 0 ≤ s ∧ s < nS r) : 0 ≤ aft r k s ∧ aft r k s < nS r := by
  have h16 := nS_le r
  by_cases hw : wk r k s = true
  · have := verX hr hk hs hw
    exact ⟨this.1, this.2.1⟩
  · unfold aft; rw [if_neg hw]; omega
theorem s_stateAfter (hr : 1 ≤ r ∧ r ≤ 3) (hT : TX r M) (hk : 0 ≤ k ∧ k < 15) (hs : 0 ≤ s ∧ s < nS r) (h : R (aft r k s) M) : fMa_stateAfter k s M R := by
  have h16 := nS_le r
  have hl := st_f hr hs
  have ht := tk_le hk
  refine s_works hr hT hk hs ?_
  by_cases hw : wk r k s = true
  · rw [if_pos hw]
    refine ⟨fun _ => ?_, fun z => absurd z (by decide)⟩
    obtain ⟨v1, v2, v3, v4, v5, v6, v7⟩ := verX hr hk hs hw
    have eR : M 9 s = stP r s := (hT.2.2 s hs.1 hs.2).1
    have eN : M 11 (stP r (aft r k s)) = aft r k s := (hT.2.2 _ v1 v2).2.2
    have hP := st_f hr ⟨v1, v2⟩
    have fin : ∀ row, row = stP r (aft r k s) → inb row 64 ∧ R (M 11 row) M := fun row e => by
      subst e
      exact ⟨⟨hP.2.2.2.1, by omega⟩, by rw [eN]; exact h⟩
    obtain ⟨a, ha⟩ := i_fin (n := 64) (x := stP r s) ⟨hl.2.2.2.1, by omega⟩
    obtain ⟨q1, q2, q3, q4, q5, q6, q7, q8⟩ := k_and3 a
    rw [eR]
    refine ⟨⟨by omega, by omega⟩, fun hkk => ?_, fun hkk => ?_, fun hkk => ?_, fun hkk => ?_⟩
    · refine s_smallestFree ⟨hl.2.2.2.1, by omega⟩ ?_
      refine s_push ⟨hl.2.2.2.1, v6 hkk⟩ (freeRow_in _) ?_
      refine fin _ ?_
      rw [← v3]; unfold rowA
      rw [if_neg (by omega), if_neg (by omega), if_pos hkk]
    · have hlen := v4 hkk
      have g0 := hl.2.2.2.2.2.1 0 (by omega) (by omega) (by omega)
      have g1 := hl.2.2.2.2.2.1 1 (by omega) (by omega) (by omega)
      simp at g0 g1
      refine s_registerOf hr hT hs (by omega) ?_
      have e4 : b_ishr (stP r s) 4 = stP r s / 16 := by rw [ha, q7]; omega
      rw [e4]
      refine s_push ⟨by omega, by omega⟩ ⟨by omega, by omega⟩ ?_
      refine s_registerOf hr hT hs (by omega) ?_
      refine s_push ⟨by omega, by omega⟩ ⟨by omega, by omega⟩ ?_
      refine fin _ ?_
      rw [← v3]; unfold rowA
      rw [if_pos hkk]; omega
    · have hlen := v5 hkk
      have g2 := hl.2.2.2.2.2.1 2 (by omega) (by omega) (by omega)
      simp at g2
      refine s_registerOf hr hT hs (by omega) ?_
      have e4 : b_iand (stP r s) 15 = stP r s % 16 := by rw [ha, q4]; omega
      rw [e4]
      refine s_push ⟨by omega, by omega⟩ ⟨by omega, by omega⟩ ?_
      refine fin _ ?_
      rw [← v3]; unfold rowA
      rw [if_neg (by omega), if_pos hkk]; omega
    · refine ⟨⟨by omega, by omega⟩, ⟨by omega, by omega⟩, ?_⟩
      rw [show roV 100 k = tk k from rfl, show roV 101 k = cm k from rfl]
      have eS : b_ishr (stP r s) (wrap (2 * tk k)) = stP r s / 4 ^ (tk k).toNat := by
        have h4 : tk k = 0 ∨ tk k = 1 ∨ tk k = 2 ∨ tk k = 3 := by omega
        rcases h4 with e | e | e | e <;> rw [e]
        · rw [show wrap (2 * 0) = 0 by decide, ha, q5]; simp
        · rw [show wrap (2 * 1) = 2 by decide, ha, q6]; simp
        · rw [show wrap (2 * 2) = 4 by decide, ha, q7]; simp
        · rw [show wrap (2 * 3) = 6 by decide, ha, q8]; simp
      have hnn : 0 ≤ stP r s / 4 ^ (tk k).toNat := Int.ediv_nonneg hl.2.2.2.1 (Int.pow_nonneg (by decide))
      have hle : stP r s / 4 ^ (tk k).toNat ≤ stP r s := Int.ediv_le_self _ hl.2.2.2.1
      rw [eS]
      refine ⟨fun hc => ?_, fun hc => ?_⟩
      · refine s_smallestFree ⟨hnn, by omega⟩ ?_
        refine s_push ⟨hnn, v7 hc (by omega) (by omega) (by omega) (by omega)⟩ (freeRow_in _) ?_
        refine fin _ ?_
        rw [← v3]; unfold rowA
        rw [if_neg (by omega), if_neg (by omega), if_neg (by omega), if_neg hc]
      · refine fin _ ?_
        rw [← v3]; unfold rowA
        rw [if_neg (by omega), if_neg (by omega), if_neg (by omega), if_pos hc]
  · rw [if_neg hw]
    refine ⟨fun z => absurd rfl z, fun _ => ?_⟩
    unfold aft at h; rw [if_neg hw] at h; exact h
end X
