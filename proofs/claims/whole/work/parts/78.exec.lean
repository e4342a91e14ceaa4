/-! one instruction is done: x -/
/-- the cells after an instruction -/
def nwC (k h num : Int) (C V : Int → Int) (j : Int) : Int :=
  if k = 0 then (if j = h then num else C j)
  else if k = 1 then (if j = h - 2 then wrap (C (h - 2) + C (h - 1)) else C j)
  else if k = 2 then (if j = h - 2 then wrap (C (h - 2) - C (h - 1)) else C j)
  else if k = 3 then (if j = h - 2 then wrap (C (h - 2) * C (h - 1)) else C j)
  else if k = 4 then (if j = h then C (h - 1) else C j)
  else if k = 5 then (if j = h - 2 then C (h - 1) else if j = h - 1 then C (h - 2) else C j)
  else if k = 7 then (if j = h then C (h - 2) else C j)
  else if k = 8 then (if j = h - 3 then C (h - 2) else if j = h - 2 then C (h - 1) else if j = h - 1 then C (h - 3) else C j)
  else if k = 9 then (if j = h then V num else C j)
  else C j
def nwO (k w v : Int) (O : Int → Int) (j : Int) : Int := if k = 13 then (if j = w then v else O j) else O j
def nwV (k num v : Int) (V : Int → Int) (j : Int) : Int := if k = 10 then (if j = num then v else V j) else V j
def nwN (k w : Int) : Int := if k = 13 then w + 1 else w
def nxt (k nu fl v : Int) : Int := if k = 11 then nu else if k = 12 then (if v = 0 then nu else fl) else fl
theorem tc_tab : tk 0 = 0 ∧ tk 1 = 2 ∧ tk 2 = 2 ∧ tk 3 = 2 ∧ tk 4 = 1 ∧ tk 5 = 2 ∧ tk 6 = 1 ∧ tk 7 = 2 ∧ tk 8 = 3 ∧ tk 9 = 0 ∧ tk 10 = 1 ∧ tk 11 = 0 ∧ tk 12 = 1 ∧ tk 13 = 1 ∧ tk 14 = 0 := by decide +kernel
section E
variable {X : Mem} {h num fl : Int} {R : Int → Mem → Prop}
theorem s_ruPop {h' : Int} (e : X 40 11 = h' + 1) (hh : 0 ≤ h' ∧ h' < 12) (k : R (X 41 h') (mu X 40 11 h')) : fRu_pop X R := by
  unfold fRu_pop
  rw [e, wrapI (z := h' + 1 - 1) (by omega) (by omega), show h' + 1 - 1 = h' by omega]
  exact ⟨fun z => by omega, fun _ => ⟨⟨by omega, by omega⟩, k⟩⟩
theorem s_ruPush {v h' h'' : Int} (e : X 40 11 = h') (hh : 0 ≤ h' ∧ h' < 12) (e2 : h'' = h' + 1) (k : R 0 (mu (mu X 40 11 h'') 41 h' v)) : fRu_push v X R := by
  unfold fRu_push
  rw [e, wrapI (z := h' + 1) (by omega) (by omega), ← e2]
  exact ⟨fun z => by omega, fun _ => ⟨⟨by omega, by omega⟩, k⟩⟩
/-- what x's memory is after it -/
def ExX (k h num : Int) (X X1 : Mem) : Prop := Off [40, 41, 42, 43] [] X X1 ∧ (∀ f, f ≠ 11 → f ≠ 12 → X1 40 f = X 40 f) ∧ X1 40 11 = h - tk k + cm k ∧ X1 40 12 = nwN k (X 40 12) ∧ (∀ j, 0 ≤ j → j < h - tk k + cm k → X1 41 j = nwC k h num (X 41) (X 42) j) ∧ (∀ j, X1 42 j = nwV k num (X 41 (h - 1)) (X 42) j) ∧ (∀ j, X1 43 j = nwO k (X 40 12) (X 41 (h - 1)) (X 43) j)
theorem s_ex29 {k : Int} (hk : 0 ≤ k ∧ k < 15) (e : X 40 11 = h) (h0 : 0 ≤ h ∧ h ≤ 12) (ht : tk k ≤ h) (hc : h - tk k + cm k ≤ 12) (hn : k = 9 ∨ k = 10 → 0 ≤ num ∧ num < 4) (ho : k = 13 → 0 ≤ X 40 12 ∧ X 40 12 < 16)
    (g : ∀ X1, ExX k h num X X1 → R (nxt k num fl (X 41 (h - 1))) X1) : fRu_execute_29 R k num fl X := by
  obtain ⟨q0, q1, q2, q3, q4, q5, q6, q7, q8, q9, q10, q11, q12, q13, q14⟩ := tc_tab
  have c0 : cm 0 = 1 := by decide +kernel
  have c1 : cm 1 = 1 := by decide +kernel
  have c2 : cm 2 = 1 := by decide +kernel
  have c3 : cm 3 = 1 := by decide +kernel
  have c4 : cm 4 = 2 := by decide +kernel
  have c5 : cm 5 = 2 := by decide +kernel
  have c6 : cm 6 = 0 := by decide +kernel
  have c7 : cm 7 = 3 := by decide +kernel
  have c8 : cm 8 = 3 := by decide +kernel
  have c9 : cm 9 = 1 := by decide +kernel
  have c10 : cm 10 = 0 := by decide +kernel
  have c11 : cm 11 = 0 := by decide +kernel
  have c12 : cm 12 = 0 := by decide +kernel
  have c13 : cm 13 = 0 := by decide +kernel
  have c14 : cm 14 = 0 := by decide +kernel
  have hk' : k = 0 ∨ k = 1 ∨ k = 2 ∨ k = 3 ∨ k = 4 ∨ k = 5 ∨ k = 6 ∨ k = 7 ∨ k = 8 ∨ k = 9 ∨ k = 10 ∨ k = 11 ∨ k = 12 ∨ k = 13 ∨ k = 14 := by omega
  rcases hk' with z | z | z | z | z | z | z | z | z | z | z | z | z | z | z <;> subst z
  · rw [q0] at ht hc; rw [c0] at hc
    refine ⟨fun _ => ?_, fun z => by omega, fun z => by omega, fun z => by omega, fun z => by omega, fun z => by omega, fun z => by omega, fun z => by omega, fun z => by omega⟩
    refine s_ruPush (h' := h) (h'' := h + 1) (by first | omega | (simp [mu]; try omega)) ⟨by omega, by omega⟩ (by omega) ?_
    refine g _ ⟨?_, ?_, ?_, ?_, ?_, ?_, ?_⟩
    · repeat (first | exact Off.rf _ _ _ | refine Off.mu ?_ (Or.inl (by decide)))
    · intro f f1 f2; simp [mu, f1, f2]
    · rw [q0, c0]; simp [mu]; try omega
    · simp [mu, nwN]; try exact wrapI (by omega) (by omega)
    · intro j j0 j1
      rw [q0, c0] at j1
      simp [mu, nwC]
      try (repeat' split) <;> first | rfl | omega | (congr 1 <;> omega)
    · intro j; simp [mu, nwV]
    · intro j; simp [mu, nwO]
  · rw [q1] at ht hc; rw [c1] at hc
    refine ⟨fun z => by omega, fun _ => ?_, fun z => by omega, fun z => by omega, fun z => by omega, fun z => by omega, fun z => by omega, fun z => by omega, fun z => by omega⟩
    unfold fRu_execute_184 fRu_calculate
    refine s_ruPop (h' := h - 1) (by first | omega | (simp [mu]; try omega)) ⟨by omega, by omega⟩ ?_
    refine s_ruPop (h' := h - 2) (by first | omega | (simp [mu]; try omega)) ⟨by omega, by omega⟩ ?_
    refine ⟨fun z => absurd rfl z, fun _ => ?_⟩
    refine s_ruPush (h' := h - 2) (h'' := h - 1) (by first | omega | (simp [mu]; try omega)) ⟨by omega, by omega⟩ (by omega) ?_
    refine g _ ⟨?_, ?_, ?_, ?_, ?_, ?_, ?_⟩
    · repeat (first | exact Off.rf _ _ _ | refine Off.mu ?_ (Or.inl (by decide)))
    · intro f f1 f2; simp [mu, f1, f2]
    · rw [q1, c1]; simp [mu]; try omega
    · simp [mu, nwN]; try exact wrapI (by omega) (by omega)
    · intro j j0 j1
      rw [q1, c1] at j1
      simp [mu, nwC]
      try (repeat' split) <;> first | rfl | omega | (congr 1 <;> omega)
    · intro j; simp [mu, nwV]
    · intro j; simp [mu, nwO]
  · rw [q2] at ht hc; rw [c2] at hc
    refine ⟨fun z => by omega, fun _ => ?_, fun z => by omega, fun z => by omega, fun z => by omega, fun z => by omega, fun z => by omega, fun z => by omega, fun z => by omega⟩
    unfold fRu_execute_184 fRu_calculate
    refine s_ruPop (h' := h - 1) (by first | omega | (simp [mu]; try omega)) ⟨by omega, by omega⟩ ?_
    refine s_ruPop (h' := h - 2) (by first | omega | (simp [mu]; try omega)) ⟨by omega, by omega⟩ ?_
    refine ⟨fun _ => ?_, fun z => by omega⟩
    refine ⟨fun z => absurd rfl z, fun _ => ?_⟩
    refine s_ruPush (h' := h - 2) (h'' := h - 1) (by first | omega | (simp [mu]; try omega)) ⟨by omega, by omega⟩ (by omega) ?_
    refine g _ ⟨?_, ?_, ?_, ?_, ?_, ?_, ?_⟩
    · repeat (first | exact Off.rf _ _ _ | refine Off.mu ?_ (Or.inl (by decide)))
    · intro f f1 f2; simp [mu, f1, f2]
    · rw [q2, c2]; simp [mu]; try omega
    · simp [mu, nwN]; try exact wrapI (by omega) (by omega)
    · intro j j0 j1
      rw [q2, c2] at j1
      simp [mu, nwC]
      try (repeat' split) <;> first | rfl | omega | (congr 1 <;> omega)
    · intro j; simp [mu, nwV]
    · intro j; simp [mu, nwO]
  · rw [q3] at ht hc; rw [c3] at hc
    refine ⟨fun z => by omega, fun _ => ?_, fun z => by omega, fun z => by omega, fun z => by omega, fun z => by omega, fun z => by omega, fun z => by omega, fun z => by omega⟩
    unfold fRu_execute_184 fRu_calculate
    refine s_ruPop (h' := h - 1) (by first | omega | (simp [mu]; try omega)) ⟨by omega, by omega⟩ ?_
    refine s_ruPop (h' := h - 2) (by first | omega | (simp [mu]; try omega)) ⟨by omega, by omega⟩ ?_
    refine ⟨fun _ => ?_, fun z => by omega⟩
    refine ⟨fun _ => ?_, fun z => by omega⟩
    refine s_ruPush (h' := h - 2) (h'' := h - 1) (by first | omega | (simp [mu]; try omega)) ⟨by omega, by omega⟩ (by omega) ?_
    refine g _ ⟨?_, ?_, ?_, ?_, ?_, ?_, ?_⟩
    · repeat (first | exact Off.rf _ _ _ | refine Off.mu ?_ (Or.inl (by decide)))
    · intro f f1 f2; simp [mu, f1, f2]
    · rw [q3, c3]; simp [mu]; try omega
    · simp [mu, nwN]; try exact wrapI (by omega) (by omega)
    · intro j j0 j1
      rw [q3, c3] at j1
      simp [mu, nwC]
      try (repeat' split) <;> first | rfl | omega | (congr 1 <;> omega)
    · intro j; simp [mu, nwV]
    · intro j; simp [mu, nwO]
  · rw [q4] at ht hc; rw [c4] at hc
    refine ⟨fun z => by omega, fun z => by omega, fun z => by omega, fun z => by omega, fun z => by omega, fun z => by omega, fun z => by omega, fun z => by omega, fun _ => ?_⟩
    unfold fRu_execute_192 fRu_rearrange
    refine s_ruPop (h' := h - 1) (by first | omega | (simp [mu]; try omega)) ⟨by omega, by omega⟩ ?_
    refine ⟨fun _ => ?_, fun z => by omega⟩
    refine ⟨fun z => absurd rfl z, fun _ => ?_⟩
    refine s_ruPush (h' := h - 1) (h'' := h) (by first | omega | (simp [mu]; try omega)) ⟨by omega, by omega⟩ (by omega) ?_
    refine s_ruPush (h' := h) (h'' := h + 1) (by first | omega | (simp [mu]; try omega)) ⟨by omega, by omega⟩ (by omega) ?_
    refine g _ ⟨?_, ?_, ?_, ?_, ?_, ?_, ?_⟩
    · repeat (first | exact Off.rf _ _ _ | refine Off.mu ?_ (Or.inl (by decide)))
    · intro f f1 f2; simp [mu, f1, f2]
    · rw [q4, c4]; simp [mu]; try omega
    · simp [mu, nwN]; try exact wrapI (by omega) (by omega)
    · intro j j0 j1
      rw [q4, c4] at j1
      simp [mu, nwC]
      try (repeat' split) <;> first | rfl | omega | (congr 1 <;> omega)
    · intro j; simp [mu, nwV]
    · intro j; simp [mu, nwO]
  · rw [q5] at ht hc; rw [c5] at hc
    refine ⟨fun z => by omega, fun z => by omega, fun z => by omega, fun z => by omega, fun z => by omega, fun z => by omega, fun z => by omega, fun z => by omega, fun _ => ?_⟩
    unfold fRu_execute_192 fRu_rearrange
    refine s_ruPop (h' := h - 1) (by first | omega | (simp [mu]; try omega)) ⟨by omega, by omega⟩ ?_
    refine ⟨fun _ => ?_, fun z => by omega⟩
    refine ⟨fun _ => ?_, fun z => by omega⟩
    refine s_ruPop (h' := h - 2) (by first | omega | (simp [mu]; try omega)) ⟨by omega, by omega⟩ ?_
    refine ⟨fun _ => ?_, fun z => by omega⟩
    refine ⟨fun _ => ?_, fun z => by omega⟩
    unfold fRu_rearrange_73
    refine s_ruPush (h' := h - 2) (h'' := h - 1) (by first | omega | (simp [mu]; try omega)) ⟨by omega, by omega⟩ (by omega) ?_
    refine s_ruPush (h' := h - 1) (h'' := h) (by first | omega | (simp [mu]; try omega)) ⟨by omega, by omega⟩ (by omega) ?_
    refine g _ ⟨?_, ?_, ?_, ?_, ?_, ?_, ?_⟩
    · repeat (first | exact Off.rf _ _ _ | refine Off.mu ?_ (Or.inl (by decide)))
    · intro f f1 f2; simp [mu, f1, f2]
    · rw [q5, c5]; simp [mu]; try omega
    · simp [mu, nwN]; try exact wrapI (by omega) (by omega)
    · intro j j0 j1
      rw [q5, c5] at j1
      simp [mu, nwC]
      try (repeat' split) <;> first | rfl | omega | (congr 1 <;> omega)
    · intro j; simp [mu, nwV]
    · intro j; simp [mu, nwO]
  · rw [q6] at ht hc; rw [c6] at hc
    refine ⟨fun z => by omega, fun z => by omega, fun z => by omega, fun z => by omega, fun z => by omega, fun z => by omega, fun z => by omega, fun z => by omega, fun _ => ?_⟩
    unfold fRu_execute_192 fRu_rearrange
    refine s_ruPop (h' := h - 1) (by first | omega | (simp [mu]; try omega)) ⟨by omega, by omega⟩ ?_
    refine ⟨fun z => absurd rfl z, fun _ => ?_⟩
    refine g _ ⟨?_, ?_, ?_, ?_, ?_, ?_, ?_⟩
    · repeat (first | exact Off.rf _ _ _ | refine Off.mu ?_ (Or.inl (by decide)))
    · intro f f1 f2; simp [mu, f1, f2]
    · rw [q6, c6]; simp [mu]; try omega
    · simp [mu, nwN]; try exact wrapI (by omega) (by omega)
    · intro j j0 j1
      rw [q6, c6] at j1
      simp [mu, nwC]
      try (repeat' split) <;> first | rfl | omega | (congr 1 <;> omega)
    · intro j; simp [mu, nwV]
    · intro j; simp [mu, nwO]
  · rw [q7] at ht hc; rw [c7] at hc
    refine ⟨fun z => by omega, fun z => by omega, fun z => by omega, fun z => by omega, fun z => by omega, fun z => by omega, fun z => by omega, fun z => by omega, fun _ => ?_⟩
    unfold fRu_execute_192 fRu_rearrange
    refine s_ruPop (h' := h - 1) (by first | omega | (simp [mu]; try omega)) ⟨by omega, by omega⟩ ?_
    refine ⟨fun _ => ?_, fun z => by omega⟩
    refine ⟨fun _ => ?_, fun z => by omega⟩
    refine s_ruPop (h' := h - 2) (by first | omega | (simp [mu]; try omega)) ⟨by omega, by omega⟩ ?_
    refine ⟨fun _ => ?_, fun z => by omega⟩
    refine ⟨fun z => absurd rfl z, fun _ => ?_⟩
    refine s_ruPush (h' := h - 2) (h'' := h - 1) (by first | omega | (simp [mu]; try omega)) ⟨by omega, by omega⟩ (by omega) ?_
    unfold fRu_rearrange_73
    refine s_ruPush (h' := h - 1) (h'' := h) (by first | omega | (simp [mu]; try omega)) ⟨by omega, by omega⟩ (by omega) ?_
    refine s_ruPush (h' := h) (h'' := h + 1) (by first | omega | (simp [mu]; try omega)) ⟨by omega, by omega⟩ (by omega) ?_
    refine g _ ⟨?_, ?_, ?_, ?_, ?_, ?_, ?_⟩
    · repeat (first | exact Off.rf _ _ _ | refine Off.mu ?_ (Or.inl (by decide)))
    · intro f f1 f2; simp [mu, f1, f2]
    · rw [q7, c7]; simp [mu]; try omega
    · simp [mu, nwN]; try exact wrapI (by omega) (by omega)
    · intro j j0 j1
      rw [q7, c7] at j1
      simp [mu, nwC]
      try (repeat' split) <;> first | rfl | omega | (congr 1 <;> omega)
    · intro j; simp [mu, nwV]
    · intro j; simp [mu, nwO]
  · rw [q8] at ht hc; rw [c8] at hc
    refine ⟨fun z => by omega, fun z => by omega, fun z => by omega, fun z => by omega, fun z => by omega, fun z => by omega, fun z => by omega, fun z => by omega, fun _ => ?_⟩
    unfold fRu_execute_192 fRu_rearrange
    refine s_ruPop (h' := h - 1) (by first | omega | (simp [mu]; try omega)) ⟨by omega, by omega⟩ ?_
    refine ⟨fun _ => ?_, fun z => by omega⟩
    refine ⟨fun _ => ?_, fun z => by omega⟩
    refine s_ruPop (h' := h - 2) (by first | omega | (simp [mu]; try omega)) ⟨by omega, by omega⟩ ?_
    refine ⟨fun z => absurd rfl z, fun _ => ?_⟩
    refine s_ruPop (h' := h - 3) (by first | omega | (simp [mu]; try omega)) ⟨by omega, by omega⟩ ?_
    refine s_ruPush (h' := h - 3) (h'' := h - 2) (by first | omega | (simp [mu]; try omega)) ⟨by omega, by omega⟩ (by omega) ?_
    refine s_ruPush (h' := h - 2) (h'' := h - 1) (by first | omega | (simp [mu]; try omega)) ⟨by omega, by omega⟩ (by omega) ?_
    refine s_ruPush (h' := h - 1) (h'' := h) (by first | omega | (simp [mu]; try omega)) ⟨by omega, by omega⟩ (by omega) ?_
    refine g _ ⟨?_, ?_, ?_, ?_, ?_, ?_, ?_⟩
    · repeat (first | exact Off.rf _ _ _ | refine Off.mu ?_ (Or.inl (by decide)))
    · intro f f1 f2; simp [mu, f1, f2]
    · rw [q8, c8]; simp [mu]; try omega
    · simp [mu, nwN]; try exact wrapI (by omega) (by omega)
    · intro j j0 j1
      rw [q8, c8] at j1
      simp [mu, nwC]
      try (repeat' split) <;> first | rfl | omega | (congr 1 <;> omega)
    · intro j; simp [mu, nwV]
    · intro j; simp [mu, nwO]
  · rw [q9] at ht hc; rw [c9] at hc
    have hn := hn (by omega)
    refine ⟨fun z => by omega, fun z => by omega, fun _ => ?_, fun z => by omega, fun z => by omega, fun z => by omega, fun z => by omega, fun z => by omega, fun z => by omega⟩
    refine ⟨⟨by omega, by omega⟩, ?_⟩
    refine s_ruPush (h' := h) (h'' := h + 1) (by first | omega | (simp [mu]; try omega)) ⟨by omega, by omega⟩ (by omega) ?_
    refine g _ ⟨?_, ?_, ?_, ?_, ?_, ?_, ?_⟩
    · repeat (first | exact Off.rf _ _ _ | refine Off.mu ?_ (Or.inl (by decide)))
    · intro f f1 f2; simp [mu, f1, f2]
    · rw [q9, c9]; simp [mu]; try omega
    · simp [mu, nwN]; try exact wrapI (by omega) (by omega)
    · intro j j0 j1
      rw [q9, c9] at j1
      simp [mu, nwC]
      try (repeat' split) <;> first | rfl | omega | (congr 1 <;> omega)
    · intro j; simp [mu, nwV]
    · intro j; simp [mu, nwO]
  · rw [q10] at ht hc; rw [c10] at hc
    have hn := hn (by omega)
    refine ⟨fun z => by omega, fun z => by omega, fun z => by omega, fun _ => ?_, fun z => by omega, fun z => by omega, fun z => by omega, fun z => by omega, fun z => by omega⟩
    refine s_ruPop (h' := h - 1) (by first | omega | (simp [mu]; try omega)) ⟨by omega, by omega⟩ ?_
    refine ⟨⟨by omega, by omega⟩, ?_⟩
    refine g _ ⟨?_, ?_, ?_, ?_, ?_, ?_, ?_⟩
    · repeat (first | exact Off.rf _ _ _ | refine Off.mu ?_ (Or.inl (by decide)))
    · intro f f1 f2; simp [mu, f1, f2]
    · rw [q10, c10]; simp [mu]; try omega
    · simp [mu, nwN]; try exact wrapI (by omega) (by omega)
    · intro j j0 j1
      rw [q10, c10] at j1
      simp [mu, nwC]
      try (repeat' split) <;> first | rfl | omega | (congr 1 <;> omega)
    · intro j; simp [mu, nwV]
    · intro j; simp [mu, nwO]
  · rw [q11] at ht hc; rw [c11] at hc
    refine ⟨fun z => by omega, fun z => by omega, fun z => by omega, fun z => by omega, fun _ => ?_, fun z => by omega, fun z => by omega, fun z => by omega, fun z => by omega⟩
    refine g _ ⟨?_, ?_, ?_, ?_, ?_, ?_, ?_⟩
    · repeat (first | exact Off.rf _ _ _ | refine Off.mu ?_ (Or.inl (by decide)))
    · intro f f1 f2; simp [mu, f1, f2]
    · rw [q11, c11]; simp [mu]; try omega
    · simp [mu, nwN]; try exact wrapI (by omega) (by omega)
    · intro j j0 j1
      rw [q11, c11] at j1
      simp [mu, nwC]
      try (repeat' split) <;> first | rfl | omega | (congr 1 <;> omega)
    · intro j; simp [mu, nwV]
    · intro j; simp [mu, nwO]
  · rw [q12] at ht hc; rw [c12] at hc
    have hX : ExX 12 h num X (mu X 40 11 (h - 1)) := by
      refine ⟨?_, ?_, ?_, ?_, ?_, ?_, ?_⟩
      · repeat (first | exact Off.rf _ _ _ | refine Off.mu ?_ (Or.inl (by decide)))
      · intro f f1 f2; simp [mu, f1, f2]
      · rw [q12, c12]; simp [mu]; try omega
      · simp [mu, nwN]; try exact wrapI (by omega) (by omega)
      · intro j j0 j1
        rw [q12, c12] at j1
        simp [mu, nwC]
        try (repeat' split) <;> first | rfl | omega | (congr 1 <;> omega)
      · intro j; simp [mu, nwV]
      · intro j; simp [mu, nwO]
    refine ⟨fun z => by omega, fun z => by omega, fun z => by omega, fun z => by omega, fun z => by omega, fun _ => ?_, fun z => by omega, fun z => by omega, fun z => by omega⟩
    have g1 := g _ hX
    refine s_ruPop (h' := h - 1) (by first | omega | (simp [mu]; try omega)) ⟨by omega, by omega⟩ ?_
    refine ⟨fun z => ?_, fun z => ?_⟩
    · rw [show nxt 12 num fl (X 41 (h - 1)) = fl by simp [nxt, z]] at g1; exact g1
    · rw [show nxt 12 num fl (X 41 (h - 1)) = num by simp [nxt, z]] at g1; exact g1
  · rw [q13] at ht hc; rw [c13] at hc
    have ho := ho rfl
    have w13 : wrap (X 40 12 + 1) = X 40 12 + 1 := wrapI (by omega) (by omega)
    refine ⟨fun z => by omega, fun z => by omega, fun z => by omega, fun z => by omega, fun z => by omega, fun z => by omega, fun _ => ?_, fun z => by omega, fun z => by omega⟩
    refine s_ruPop (h' := h - 1) (by first | omega | (simp [mu]; try omega)) ⟨by omega, by omega⟩ ?_
    refine ⟨⟨by omega, by omega⟩, ?_⟩
    rw [w13]
    refine g _ ⟨?_, ?_, ?_, ?_, ?_, ?_, ?_⟩
    · repeat (first | exact Off.rf _ _ _ | refine Off.mu ?_ (Or.inl (by decide)))
    · intro f f1 f2; simp [mu, f1, f2]
    · rw [q13, c13]; simp [mu]; try omega
    · simp [mu, nwN]; try exact wrapI (by omega) (by omega)
    · intro j j0 j1
      rw [q13, c13] at j1
      simp [mu, nwC]
      try (repeat' split) <;> first | rfl | omega | (congr 1 <;> omega)
    · intro j; simp [mu, nwV]
    · intro j; simp [mu, nwO]
  · rw [q14] at ht hc; rw [c14] at hc
    refine ⟨fun z => by omega, fun z => by omega, fun z => by omega, fun z => by omega, fun z => by omega, fun z => by omega, fun z => by omega, fun _ => ?_, fun z => by omega⟩
    refine g _ ⟨?_, ?_, ?_, ?_, ?_, ?_, ?_⟩
    · repeat (first | exact Off.rf _ _ _ | refine Off.mu ?_ (Or.inl (by decide)))
    · intro f f1 f2; simp [mu, f1, f2]
    · rw [q14, c14]; simp [mu]; try omega
    · simp [mu, nwN]; try exact wrapI (by omega) (by omega)
    · intro j j0 j1
      rw [q14, c14] at j1
      simp [mu, nwC]
      try (repeat' split) <;> first | rfl | omega | (congr 1 <;> omega)
    · intro j; simp [mu, nwV]
    · intro j; simp [mu, nwO]
end E
