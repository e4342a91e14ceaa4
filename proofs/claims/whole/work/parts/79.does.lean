/-! one instruction is done: the reference -/
def goB (k v : Int) : Int := if k = 11 then 1 else if k = 12 then (if v = 0 then 1 else 0) else 0
section E
variable {Y : Mem} {h num i : Int} {R : Int → Mem → Prop}
theorem s_mPops {h' : Int} (e : Y 0 48 = h' + 1) (hh : 0 ≤ h' ∧ h' < 12) (k : R (Y 27 h') (mu Y 0 48 h')) : fMd_pops Y R := by
  unfold fMd_pops
  rw [e, wrapI (z := h' + 1 - 1) (by omega) (by omega), show h' + 1 - 1 = h' by omega]
  exact ⟨⟨by omega, by omega⟩, k⟩
theorem s_mPushes {v h' h'' : Int} (e : Y 0 48 = h') (hh : 0 ≤ h' ∧ h' < 12) (e2 : h'' = h' + 1) (k : R 0 (mu (mu Y 27 h' v) 0 48 h'')) : fMd_pushes v Y R := by
  unfold fMd_pushes
  rw [e, wrapI (z := h' + 1) (by omega) (by omega), ← e2]
  exact ⟨⟨by omega, by omega⟩, k⟩
theorem s_rolls2 (e : Y 0 48 = h) (hh : 2 ≤ h ∧ h ≤ 12) (k : R 0 (mu (mu Y 27 (h - 2) (Y 27 (h - 1))) 27 (h - 1) (Y 27 (h - 2)))) : fMd_rolls 2 Y R := by
  unfold fMd_rolls
  have w2 : wrap (h - 2) = h - 2 := wrapI (by omega) (by omega)
  have w1 : wrap (h - 1) = h - 1 := wrapI (by omega) (by omega)
  have w3 : wrap (h - 2 + 1) = h - 1 := by rw [wrapI (by omega) (by omega)]; omega
  have w4 : wrap (h - 1 + 1) = h := by rw [wrapI (by omega) (by omega)]; omega
  rw [e, w2]
  refine ⟨⟨by omega, by omega⟩, 2, ?_⟩
  unfold fMd_rolls_17
  rw [w3, e]
  refine ⟨fun z => by omega, fun _ => ⟨⟨by omega, by omega⟩, ⟨by omega, by omega⟩, ?_⟩⟩
  unfold fMd_rolls_17
  rw [w4, mu_cell (by decide), e, w1]
  exact ⟨fun _ => ⟨⟨by omega, by omega⟩, k⟩, fun z => by omega⟩
theorem s_rolls3 (e : Y 0 48 = h) (hh : 3 ≤ h ∧ h ≤ 12) (k : R 0 (mu (mu (mu Y 27 (h - 3) (Y 27 (h - 2))) 27 (h - 2) (Y 27 (h - 1))) 27 (h - 1) (Y 27 (h - 3)))) : fMd_rolls 3 Y R := by
  unfold fMd_rolls
  have w2 : wrap (h - 3) = h - 3 := wrapI (by omega) (by omega)
  have w1 : wrap (h - 1) = h - 1 := wrapI (by omega) (by omega)
  have w5 : wrap (h - 3 + 1) = h - 2 := by rw [wrapI (by omega) (by omega)]; omega
  have w3 : wrap (h - 2 + 1) = h - 1 := by rw [wrapI (by omega) (by omega)]; omega
  have w4 : wrap (h - 1 + 1) = h := by rw [wrapI (by omega) (by omega)]; omega
  rw [e, w2]
  refine ⟨⟨by omega, by omega⟩, 3, ?_⟩
  unfold fMd_rolls_17
  rw [w5, e]
  refine ⟨fun z => by omega, fun _ => ⟨⟨by omega, by omega⟩, ⟨by omega, by omega⟩, ?_⟩⟩
  unfold fMd_rolls_17
  rw [w3, mu_cell (d := 0) (by decide), e, mu_place (j := h - 1) (by omega)]
  refine ⟨fun z => by omega, fun _ => ⟨⟨by omega, by omega⟩, ⟨by omega, by omega⟩, ?_⟩⟩
  unfold fMd_rolls_17
  rw [w4, mu_cell (d := 0) (by decide), mu_cell (d := 0) (by decide), e, w1]
  exact ⟨fun _ => ⟨⟨by omega, by omega⟩, k⟩, fun z => by omega⟩
/-- what the reference's memory is after it -/
def ExY (k h num : Int) (Y Y1 : Mem) : Prop := Off [27, 28, 29] [48, 52] Y Y1 ∧ Y1 0 48 = h - tk k + cm k ∧ Y1 0 52 = nwN k (Y 0 52) ∧ (∀ j, 0 ≤ j → j < h - tk k + cm k → Y1 27 j = nwC k h num (Y 27) (Y 29) j) ∧ (∀ j, Y1 29 j = nwV k num (Y 27 (h - 1)) (Y 29) j) ∧ (∀ j, Y1 28 j = nwO k (Y 0 52) (Y 27 (h - 1)) (Y 28) j)
theorem s_does {k : Int} (hk : 0 ≤ k ∧ k < 15) (hi : inb i 24) (e3 : Y 3 i = sg k) (e4 : Y 4 i = num) (e : Y 0 48 = h) (h0 : 0 ≤ h ∧ h ≤ 12) (ht : tk k ≤ h) (hc : h - tk k + cm k ≤ 12) (hn : k = 9 ∨ k = 10 → 0 ≤ num ∧ num < 4) (ho : k = 13 → 0 ≤ Y 0 52 ∧ Y 0 52 < 16)
    (g : ∀ Y1, ExY k h num Y Y1 → R (goB k (Y 27 (h - 1))) Y1) : fMd_does i Y R := by
  obtain ⟨q0, q1, q2, q3, q4, q5, q6, q7, q8, q9, q10, q11, q12, q13, q14⟩ := tc_tab
  obtain ⟨g0, g1, g2, g3, g4, g5, g6, g7, g8, g9, g10, g11, g12, g13, g14⟩ := sg_tab
  have c0 : cm 0 = 1 := by decide +kernel
  have c1 : cm 1 = 1 := by decide +kernel
  have c2 : cm 2 = 1 := by decide +kernel
  have c3 : cm 3 = 1 := by decide +kernel
  have c4 : cm 4 = 2 := by decide +kernel
  have c5 : cm 5 = 2 := by decide +kernel
  have c6 : cm 6 = 0 := by decide +kernel
  have c7 : cm 7 = 3 := by decide +kernel
  have c8 : cm 8 = 3 := by decide +kernel
  have c9 : cm 9 = 1 := by decide +kernel
  have c10 : cm 10 = 0 := by decide +kernel
  have c11 : cm 11 = 0 := by decide +kernel
  have c12 : cm 12 = 0 := by decide +kernel
  have c13 : cm 13 = 0 := by decide +kernel
  have c14 : cm 14 = 0 := by decide +kernel
  have hk' : k = 0 ∨ k = 1 ∨ k = 2 ∨ k = 3 ∨ k = 4 ∨ k = 5 ∨ k = 6 ∨ k = 7 ∨ k = 8 ∨ k = 9 ∨ k = 10 ∨ k = 11 ∨ k = 12 ∨ k = 13 ∨ k = 14 := by omega
  unfold fMd_does
  rw [e3, e4, e]
  rcases hk' with z | z | z | z | z | z | z | z | z | z | z | z | z | z | z <;> subst z
  · rw [q0] at ht hc; rw [c0] at hc; rw [g0]
    refine ⟨hi, fun z => by omega, fun z => by omega, fun z => by omega, fun z => by omega, fun _ => ?_, fun z => by omega, fun z => by omega, fun z => by omega, fun z => by omega, fun z => by omega, fun z => by omega, fun z => by omega⟩
    refine ⟨hi, ?_⟩
    refine s_mPushes (h' := h) (h'' := h + 1) (by first | omega | (simp [mu]; try omega)) ⟨by omega, by omega⟩ (by omega) ?_
    refine g _ ⟨?_, ?_, ?_, ?_, ?_, ?_⟩
    · repeat (first | exact Off.rf _ _ _ | refine Off.mu ?_ (Or.inl (by decide)) | refine Off.mu ?_ (Or.inr (by decide)))
    · rw [q0, c0]; simp [mu]; try omega
    · simp [mu, nwN]
    · intro j j0 j1
      rw [q0, c0] at j1
      simp [mu, nwC]
      try (repeat' split) <;> first | rfl | omega | (congr 1 <;> omega)
    · intro j; simp [mu, nwV]
    · intro j; simp [mu, nwO]
  · rw [q1] at ht hc; rw [c1] at hc; rw [g1]
    refine ⟨hi, fun _ => ?_, fun z => by omega, fun z => by omega, fun z => by omega, fun z => by omega, fun z => by omega, fun z => by omega, fun z => by omega, fun z => by omega, fun z => by omega, fun z => by omega, fun z => by omega⟩
    unfold fMd_does_137 fMd_reckons
    refine s_mPops (h' := h - 1) (by first | omega | (simp [mu]; try omega)) ⟨by omega, by omega⟩ ?_
    refine s_mPops (h' := h - 2) (by first | omega | (simp [mu]; try omega)) ⟨by omega, by omega⟩ ?_
    refine ⟨fun z => absurd rfl z, fun _ => ?_⟩
    unfold fMd_reckons_38
    refine s_mPushes (h' := h - 2) (h'' := h - 1) (by first | omega | (simp [mu]; try omega)) ⟨by omega, by omega⟩ (by omega) ?_
    refine g _ ⟨?_, ?_, ?_, ?_, ?_, ?_⟩
    · repeat (first | exact Off.rf _ _ _ | refine Off.mu ?_ (Or.inl (by decide)) | refine Off.mu ?_ (Or.inr (by decide)))
    · rw [q1, c1]; simp [mu]; try omega
    · simp [mu, nwN]
    · intro j j0 j1
      rw [q1, c1] at j1
      simp [mu, nwC]
      try (repeat' split) <;> first | rfl | omega | (congr 1 <;> omega)
    · intro j; simp [mu, nwV]
    · intro j; simp [mu, nwO]
  · rw [q2] at ht hc; rw [c2] at hc; rw [g2]
    refine ⟨hi, fun _ => ?_, fun z => by omega, fun z => by omega, fun z => by omega, fun z => by omega, fun z => by omega, fun z => by omega, fun z => by omega, fun z => by omega, fun z => by omega, fun z => by omega, fun z => by omega⟩
    unfold fMd_does_137 fMd_reckons
    refine s_mPops (h' := h - 1) (by first | omega | (simp [mu]; try omega)) ⟨by omega, by omega⟩ ?_
    refine s_mPops (h' := h - 2) (by first | omega | (simp [mu]; try omega)) ⟨by omega, by omega⟩ ?_
    refine ⟨fun _ => ?_, fun z => by omega⟩
    refine ⟨fun z => absurd rfl z, fun _ => ?_⟩
    unfold fMd_reckons_38
    refine s_mPushes (h' := h - 2) (h'' := h - 1) (by first | omega | (simp [mu]; try omega)) ⟨by omega, by omega⟩ (by omega) ?_
    refine g _ ⟨?_, ?_, ?_, ?_, ?_, ?_⟩
    · repeat (first | exact Off.rf _ _ _ | refine Off.mu ?_ (Or.inl (by decide)) | refine Off.mu ?_ (Or.inr (by decide)))
    · rw [q2, c2]; simp [mu]; try omega
    · simp [mu, nwN]
    · intro j j0 j1
      rw [q2, c2] at j1
      simp [mu, nwC]
      try (repeat' split) <;> first | rfl | omega | (congr 1 <;> omega)
    · intro j; simp [mu, nwV]
    · intro j; simp [mu, nwO]
  · rw [q3] at ht hc; rw [c3] at hc; rw [g3]
    refine ⟨hi, fun _ => ?_, fun z => by omega, fun z => by omega, fun z => by omega, fun z => by omega, fun z => by omega, fun z => by omega, fun z => by omega, fun z => by omega, fun z => by omega, fun z => by omega, fun z => by omega⟩
    unfold fMd_does_137 fMd_reckons
    refine s_mPops (h' := h - 1) (by first | omega | (simp [mu]; try omega)) ⟨by omega, by omega⟩ ?_
    refine s_mPops (h' := h - 2) (by first | omega | (simp [mu]; try omega)) ⟨by omega, by omega⟩ ?_
    refine ⟨fun _ => ?_, fun z => by omega⟩
    refine ⟨fun _ => ?_, fun z => by omega⟩
    unfold fMd_reckons_38
    refine s_mPushes (h' := h - 2) (h'' := h - 1) (by first | omega | (simp [mu]; try omega)) ⟨by omega, by omega⟩ (by omega) ?_
    refine g _ ⟨?_, ?_, ?_, ?_, ?_, ?_⟩
    · repeat (first | exact Off.rf _ _ _ | refine Off.mu ?_ (Or.inl (by decide)) | refine Off.mu ?_ (Or.inr (by decide)))
    · rw [q3, c3]; simp [mu]; try omega
    · simp [mu, nwN]
    · intro j j0 j1
      rw [q3, c3] at j1
      simp [mu, nwC]
      try (repeat' split) <;> first | rfl | omega | (congr 1 <;> omega)
    · intro j; simp [mu, nwV]
    · intro j; simp [mu, nwO]
  · rw [q4] at ht hc; rw [c4] at hc; rw [g4]
    refine ⟨hi, fun z => by omega, fun z => by omega, fun _ => ?_, fun z => by omega, fun z => by omega, fun z => by omega, fun z => by omega, fun z => by omega, fun z => by omega, fun z => by omega, fun z => by omega, fun z => by omega⟩
    rw [wrapI (z := h - 1) (by omega) (by omega)]
    refine ⟨⟨by omega, by omega⟩, ?_⟩
    refine s_mPushes (h' := h) (h'' := h + 1) (by first | omega | (simp [mu]; try omega)) ⟨by omega, by omega⟩ (by omega) ?_
    refine g _ ⟨?_, ?_, ?_, ?_, ?_, ?_⟩
    · repeat (first | exact Off.rf _ _ _ | refine Off.mu ?_ (Or.inl (by decide)) | refine Off.mu ?_ (Or.inr (by decide)))
    · rw [q4, c4]; simp [mu]; try omega
    · simp [mu, nwN]
    · intro j j0 j1
      rw [q4, c4] at j1
      simp [mu, nwC]
      try (repeat' split) <;> first | rfl | omega | (congr 1 <;> omega)
    · intro j; simp [mu, nwV]
    · intro j; simp [mu, nwO]
  · rw [q5] at ht hc; rw [c5] at hc; rw [g5]
    refine ⟨hi, fun z => by omega, fun z => by omega, fun z => by omega, fun z => by omega, fun z => by omega, fun z => by omega, fun z => by omega, fun z => by omega, fun z => by omega, fun z => by omega, fun _ => ?_, fun z => by omega⟩
    refine s_rolls2 e ⟨by omega, by omega⟩ ?_
    refine g _ ⟨?_, ?_, ?_, ?_, ?_, ?_⟩
    · repeat (first | exact Off.rf _ _ _ | refine Off.mu ?_ (Or.inl (by decide)) | refine Off.mu ?_ (Or.inr (by decide)))
    · rw [q5, c5]; simp [mu]; try omega
    · simp [mu, nwN]
    · intro j j0 j1
      rw [q5, c5] at j1
      simp [mu, nwC]
      try (repeat' split) <;> first | rfl | omega | (congr 1 <;> omega)
    · intro j; simp [mu, nwV]
    · intro j; simp [mu, nwO]
  · rw [q6] at ht hc; rw [c6] at hc; rw [g6]
    refine ⟨hi, fun z => by omega, fun z => by omega, fun z => by omega, fun z => by omega, fun z => by omega, fun z => by omega, fun _ => ?_, fun z => by omega, fun z => by omega, fun z => by omega, fun z => by omega, fun z => by omega⟩
    refine s_mPops (h' := h - 1) (by first | omega | (simp [mu]; try omega)) ⟨by omega, by omega⟩ ?_
    refine g _ ⟨?_, ?_, ?_, ?_, ?_, ?_⟩
    · repeat (first | exact Off.rf _ _ _ | refine Off.mu ?_ (Or.inl (by decide)) | refine Off.mu ?_ (Or.inr (by decide)))
    · rw [q6, c6]; simp [mu]; try omega
    · simp [mu, nwN]
    · intro j j0 j1
      rw [q6, c6] at j1
      simp [mu, nwC]
      try (repeat' split) <;> first | rfl | omega | (congr 1 <;> omega)
    · intro j; simp [mu, nwV]
    · intro j; simp [mu, nwO]
  · rw [q7] at ht hc; rw [c7] at hc; rw [g7]
    refine ⟨hi, fun z => by omega, fun z => by omega, fun z => by omega, fun z => by omega, fun z => by omega, fun _ => ?_, fun z => by omega, fun z => by omega, fun z => by omega, fun z => by omega, fun z => by omega, fun z => by omega⟩
    rw [wrapI (z := h - 2) (by omega) (by omega)]
    refine ⟨⟨by omega, by omega⟩, ?_⟩
    refine s_mPushes (h' := h) (h'' := h + 1) (by first | omega | (simp [mu]; try omega)) ⟨by omega, by omega⟩ (by omega) ?_
    refine g _ ⟨?_, ?_, ?_, ?_, ?_, ?_⟩
    · repeat (first | exact Off.rf _ _ _ | refine Off.mu ?_ (Or.inl (by decide)) | refine Off.mu ?_ (Or.inr (by decide)))
    · rw [q7, c7]; simp [mu]; try omega
    · simp [mu, nwN]
    · intro j j0 j1
      rw [q7, c7] at j1
      simp [mu, nwC]
      try (repeat' split) <;> first | rfl | omega | (congr 1 <;> omega)
    · intro j; simp [mu, nwV]
    · intro j; simp [mu, nwO]
  · rw [q8] at ht hc; rw [c8] at hc; rw [g8]
    refine ⟨hi, fun z => by omega, fun z => by omega, fun z => by omega, fun z => by omega, fun z => by omega, fun z => by omega, fun z => by omega, fun _ => ?_, fun z => by omega, fun z => by omega, fun z => by omega, fun z => by omega⟩
    refine s_rolls3 e ⟨by omega, by omega⟩ ?_
    refine g _ ⟨?_, ?_, ?_, ?_, ?_, ?_⟩
    · repeat (first | exact Off.rf _ _ _ | refine Off.mu ?_ (Or.inl (by decide)) | refine Off.mu ?_ (Or.inr (by decide)))
    · rw [q8, c8]; simp [mu]; try omega
    · simp [mu, nwN]
    · intro j j0 j1
      rw [q8, c8] at j1
      simp [mu, nwC]
      try (repeat' split) <;> first | rfl | omega | (congr 1 <;> omega)
    · intro j; simp [mu, nwV]
    · intro j; simp [mu, nwO]
  · rw [q9] at ht hc; rw [c9] at hc; rw [g9]
    have hn := hn (by omega)
    refine ⟨hi, fun z => by omega, fun z => by omega, fun z => by omega, fun _ => ?_, fun z => by omega, fun z => by omega, fun z => by omega, fun z => by omega, fun z => by omega, fun z => by omega, fun z => by omega, fun z => by omega⟩
    refine ⟨hi, ?_⟩
    refine ⟨⟨by omega, by omega⟩, ?_⟩
    refine s_mPushes (h' := h) (h'' := h + 1) (by first | omega | (simp [mu]; try omega)) ⟨by omega, by omega⟩ (by omega) ?_
    refine g _ ⟨?_, ?_, ?_, ?_, ?_, ?_⟩
    · repeat (first | exact Off.rf _ _ _ | refine Off.mu ?_ (Or.inl (by decide)) | refine Off.mu ?_ (Or.inr (by decide)))
    · rw [q9, c9]; simp [mu]; try omega
    · simp [mu, nwN]
    · intro j j0 j1
      rw [q9, c9] at j1
      simp [mu, nwC]
      try (repeat' split) <;> first | rfl | omega | (congr 1 <;> omega)
    · intro j; simp [mu, nwV]
    · intro j; simp [mu, nwO]
  · rw [q10] at ht hc; rw [c10] at hc; rw [g10]
    have hn := hn (by omega)
    refine ⟨hi, fun z => by omega, fun z => by omega, fun z => by omega, fun z => by omega, fun z => by omega, fun z => by omega, fun z => by omega, fun z => by omega, fun _ => ?_, fun z => by omega, fun z => by omega, fun z => by omega⟩
    refine ⟨hi, ?_⟩
    refine s_mPops (h' := h - 1) (by first | omega | (simp [mu]; try omega)) ⟨by omega, by omega⟩ ?_
    refine ⟨⟨by omega, by omega⟩, ?_⟩
    refine g _ ⟨?_, ?_, ?_, ?_, ?_, ?_⟩
    · repeat (first | exact Off.rf _ _ _ | refine Off.mu ?_ (Or.inl (by decide)) | refine Off.mu ?_ (Or.inr (by decide)))
    · rw [q10, c10]; simp [mu]; try omega
    · simp [mu, nwN]
    · intro j j0 j1
      rw [q10, c10] at j1
      simp [mu, nwC]
      try (repeat' split) <;> first | rfl | omega | (congr 1 <;> omega)
    · intro j; simp [mu, nwV]
    · intro j; simp [mu, nwO]
  · rw [q11] at ht hc; rw [c11] at hc; rw [g11]
    refine ⟨hi, fun z => by omega, fun z => by omega, fun z => by omega, fun z => by omega, fun z => by omega, fun z => by omega, fun z => by omega, fun z => by omega, fun z => by omega, fun z => by omega, fun z => by omega, fun _ => ?_⟩
    refine ⟨fun z => absurd rfl z, fun _ => ?_⟩
    refine g _ ⟨?_, ?_, ?_, ?_, ?_, ?_⟩
    · repeat (first | exact Off.rf _ _ _ | refine Off.mu ?_ (Or.inl (by decide)) | refine Off.mu ?_ (Or.inr (by decide)))
    · rw [q11, c11]; simp [mu]; try omega
    · simp [mu, nwN]
    · intro j j0 j1
      rw [q11, c11] at j1
      simp [mu, nwC]
      try (repeat' split) <;> first | rfl | omega | (congr 1 <;> omega)
    · intro j; simp [mu, nwV]
    · intro j; simp [mu, nwO]
  · rw [q12] at ht hc; rw [c12] at hc; rw [g12]
    have hY : ExY 12 h num Y (mu Y 0 48 (h - 1)) := by
      refine ⟨?_, ?_, ?_, ?_, ?_, ?_⟩
      · repeat (first | exact Off.rf _ _ _ | refine Off.mu ?_ (Or.inl (by decide)) | refine Off.mu ?_ (Or.inr (by decide)))
      · rw [q12, c12]; simp [mu]; try omega
      · simp [mu, nwN]
      · intro j j0 j1
        rw [q12, c12] at j1
        simp [mu, nwC]
        try (repeat' split) <;> first | rfl | omega | (congr 1 <;> omega)
      · intro j; simp [mu, nwV]
      · intro j; simp [mu, nwO]
    refine ⟨hi, fun z => by omega, fun _ => ?_, fun z => by omega, fun z => by omega, fun z => by omega, fun z => by omega, fun z => by omega, fun z => by omega, fun z => by omega, fun z => by omega, fun z => by omega, fun z => by omega⟩
    have g1 := g _ hY
    refine s_mPops (h' := h - 1) (by first | omega | (simp [mu]; try omega)) ⟨by omega, by omega⟩ ?_
    refine ⟨fun z => ?_, fun z => ?_⟩
    · rw [show goB 12 (Y 27 (h - 1)) = 0 by simp [goB, z]] at g1; exact g1
    · rw [show goB 12 (Y 27 (h - 1)) = 1 by simp [goB, z]] at g1; exact g1
  · rw [q13] at ht hc; rw [c13] at hc; rw [g13]
    have ho := ho rfl
    have w13 : wrap (Y 0 52 + 1) = Y 0 52 + 1 := wrapI (by omega) (by omega)
    refine ⟨hi, fun z => by omega, fun z => by omega, fun z => by omega, fun z => by omega, fun z => by omega, fun z => by omega, fun z => by omega, fun z => by omega, fun z => by omega, fun _ => ?_, fun z => by omega, fun z => by omega⟩
    refine s_mPops (h' := h - 1) (by first | omega | (simp [mu]; try omega)) ⟨by omega, by omega⟩ ?_
    refine ⟨⟨by omega, by omega⟩, ?_⟩
    rw [mu_place (d := 0) (i := 48) (j := 52) (by decide), w13]
    refine g _ ⟨?_, ?_, ?_, ?_, ?_, ?_⟩
    · repeat (first | exact Off.rf _ _ _ | refine Off.mu ?_ (Or.inl (by decide)) | refine Off.mu ?_ (Or.inr (by decide)))
    · rw [q13, c13]; simp [mu]; try omega
    · simp [mu, nwN]
    · intro j j0 j1
      rw [q13, c13] at j1
      simp [mu, nwC]
      try (repeat' split) <;> first | rfl | omega | (congr 1 <;> omega)
    · intro j; simp [mu, nwV]
    · intro j; simp [mu, nwO]
  · rw [q14] at ht hc; rw [c14] at hc; rw [g14]
    refine ⟨hi, fun z => by omega, fun z => by omega, fun z => by omega, fun z => by omega, fun z => by omega, fun z => by omega, fun z => by omega, fun z => by omega, fun z => by omega, fun z => by omega, fun z => by omega, fun _ => ?_⟩
    refine ⟨fun _ => ?_, fun z => by omega⟩
    refine g _ ⟨?_, ?_, ?_, ?_, ?_, ?_⟩
    · repeat (first | exact Off.rf _ _ _ | refine Off.mu ?_ (Or.inl (by decide)) | refine Off.mu ?_ (Or.inr (by decide)))
    · rw [q14, c14]; simp [mu]; try omega
    · simp [mu, nwN]
    · intro j j0 j1
      rw [q14, c14] at j1
      simp [mu, nwC]
      try (repeat' split) <;> first | rfl | omega | (congr 1 <;> omega)
    · intro j; simp [mu, nwV]
    · intro j; simp [mu, nwO]
end E
