/-! start -/
theorem s_fill42 {v : Int} {M : Mem} {R : Int → Mem → Prop} (h : ∀ M', Off [42] [] M M' → (∀ j, 0 ≤ j → j < 4 → M' 42 j = v) → R 0 M') : fArr_fill_42 v M R := by
  have key : ∀ (d : Nat) (x : Int) (Mi : Mem), 0 ≤ x → x + d = 4 → Off [42] [] M Mi → (∀ j, 0 ≤ j → j < x → Mi 42 j = v) → fArr_fill_42_5 R (d + 1) v x 4 Mi := by
    intro d
    induction d with
    | zero =>
      intro x Mi x0 xd ho hj
      exact ⟨fun _ => h Mi ho (fun j a b => hj j a (by omega)), fun q => by omega⟩
    | succ d ih =>
      intro x Mi x0 xd ho hj
      refine ⟨fun q => by omega, fun _ => ⟨⟨by omega, by omega⟩, ?_⟩⟩
      rw [wrapI (z := x + 1) (by omega) (by omega)]
      refine ih (x + 1) _ (by omega) (by omega) (ho.mu (Or.inl (by decide))) (fun j a b => ?_)
      by_cases e : j = x
      · rw [e]; exact mu_same _ _ _ _
      · rw [mu_place e]; exact hj j a (by omega)
  exact ⟨4 + 1, key 4 0 M (by omega) (by omega) (Off.rf _ _ _) (fun j a b => by omega)⟩
theorem s_fill44 {v : Int} {M : Mem} {R : Int → Mem → Prop} (h : ∀ M', Off [44] [] M M' → (∀ j, 0 ≤ j → j < 24 → M' 44 j = v) → R 0 M') : fArr_fill_44 v M R := by
  have key : ∀ (d : Nat) (x : Int) (Mi : Mem), 0 ≤ x → x + d = 24 → Off [44] [] M Mi → (∀ j, 0 ≤ j → j < x → Mi 44 j = v) → fArr_fill_44_5 R (d + 1) v x 24 Mi := by
    intro d
    induction d with
    | zero =>
      intro x Mi x0 xd ho hj
      exact ⟨fun _ => h Mi ho (fun j a b => hj j a (by omega)), fun q => by omega⟩
    | succ d ih =>
      intro x Mi x0 xd ho hj
      refine ⟨fun q => by omega, fun _ => ⟨⟨by omega, by omega⟩, ?_⟩⟩
      rw [wrapI (z := x + 1) (by omega) (by omega)]
      refine ih (x + 1) _ (by omega) (by omega) (ho.mu (Or.inl (by decide))) (fun j a b => ?_)
      by_cases e : j = x
      · rw [e]; exact mu_same _ _ _ _
      · rw [mu_place e]; exact hj j a (by omega)
  exact ⟨24 + 1, key 24 0 M (by omega) (by omega) (Off.rf _ _ _) (fun j a b => by omega)⟩
section O
variable {m : Int} {X Y X' Y' : Mem} {c : Cf} {nt t1 t2 : Int} {R : Int → Mem → Prop}
theorem s_start66 {N : Mem} (h : ∀ M', Off [30] [] N M' → (∀ j, 0 ≤ j → j < 24 → M' 30 j = 0) → R (M' 0 46) M') : ∃ n, fMd_start_66 R n 0 N := by
  have key : ∀ (d : Nat) (x : Int) (Mi : Mem), 0 ≤ x → x + d = 24 → Off [30] [] N Mi → (∀ j, 0 ≤ j → j < x → Mi 30 j = 0) → fMd_start_66 R (d + 1) x Mi := by
    intro d
    induction d with
    | zero =>
      intro x Mi x0 xd ho hj
      exact ⟨fun _ => h Mi ho (fun j a b => hj j a (by omega)), fun q => by omega⟩
    | succ d ih =>
      intro x Mi x0 xd ho hj
      refine ⟨fun q => by omega, fun _ => ⟨⟨by omega, by omega⟩, ?_⟩⟩
      rw [wrapI (z := x + 1) (by omega) (by omega)]
      refine ih (x + 1) _ (by omega) (by omega) (ho.mu (Or.inl (by decide))) (fun j a b => ?_)
      by_cases e : j = x
      · rw [e]; exact mu_same _ _ _ _
      · rw [mu_place e]; exact hj j a (by omega)
  exact ⟨24 + 1, key 24 0 N (by omega) (by omega) (Off.rf _ _ _) (fun j a b => by omega)⟩
theorem s_start46 {N : Mem} (h : ∀ M', Off [29, 30] [] N M' → (∀ j, 0 ≤ j → j < 4 → M' 29 j = 0) → (∀ j, 0 ≤ j → j < 24 → M' 30 j = 0) → R (M' 0 46) M') : ∃ n, fMd_start_46 R n 0 N := by
  have key : ∀ (d : Nat) (x : Int) (Mi : Mem), 0 ≤ x → x + d = 4 → Off [29] [] N Mi → (∀ j, 0 ≤ j → j < x → Mi 29 j = 0) → fMd_start_46 R (d + 1) x Mi := by
    intro d
    induction d with
    | zero =>
      intro x Mi x0 xd ho hj
      refine ⟨fun _ => s_start66 (fun M' o' hz => h M' ((ho.mono (by decide) (by decide)).tr (o'.mono (by decide) (by decide))) (fun j a b => ?_) hz), fun q => by omega⟩
      rw [o'.cell (by decide)]; exact hj j a (by omega)
    | succ d ih =>
      intro x Mi x0 xd ho hj
      refine ⟨fun q => by omega, fun _ => ⟨⟨by omega, by omega⟩, ?_⟩⟩
      rw [wrapI (z := x + 1) (by omega) (by omega)]
      refine ih (x + 1) _ (by omega) (by omega) (ho.mu (Or.inl (by decide))) (fun j a b => ?_)
      by_cases e : j = x
      · rw [e]; exact mu_same _ _ _ _
      · rw [mu_place e]; exact hj j a (by omega)
  exact ⟨4 + 1, key 4 0 N (by omega) (by omega) (Off.rf _ _ _) (fun j a b => by omega)⟩
abbrev ruX : List Nat := [40, 41, 42, 43, 44]
abbrev ruY : List Nat := [17, 27, 28, 29, 30]
abbrev ruT : List Int := [23, 24, 25, 43, 44, 45, 46, 48, 49, 50, 52]
/-- only the run has changed -/
theorem Rel.run (h4 : RT X Y ∧ RCa X Y ∧ RS X Y ∧ RU X Y) (hp : RP c nt t1 t2 X Y) (hb : RB c nt t1 t2 X Y) (ox : Off ruX [] X X') (oy : Off ruY ruT Y Y') (hr : RR m c X' Y') : Rel m X' Y' := by
  obtain ⟨p1, p2, p3, p4, p5, p6, p7, p8⟩ := hp
  obtain ⟨b1, b2, b3, b4, b5⟩ := hb
  have f : ∀ {i : Int}, i ∉ ruT → Y' 0 i = Y 0 i := fun hi => oy.fld ⟨by decide, hi⟩
  refine ⟨h4.1.off ox oy (by decide) (by decide), h4.2.1.off ox oy (by decide) (by decide), h4.2.2.1.off ox oy (by decide) (by decide), h4.2.2.2.off ox oy (by decide) (by decide), c, nt, t1, t2, ⟨p1, p2, p3.off ox (by decide), p4.off oy (by decide), p5, ?_, by rw [ox.fn (c := 13) (by decide)]; exact p7, by rw [ox.fn (c := 13) (by decide)]; exact p8⟩, ⟨?_, ?_, ?_, by rw [f (by decide)]; exact b4, by rw [oy.fn (c := 25) (by decide)]; exact b5⟩, hr⟩
  · unfold NR at p6 ⊢; rw [oy.fn (c := 4) (by decide), ox.fn (c := 15) (by decide)]; exact p6
  · unfold KX BestX LeastX at b1 ⊢
    rw [ox.fn (c := 27) (by decide), ox.fn (c := 36) (by decide), ox.fn (c := 39) (by decide)]; exact b1
  · rw [f (by decide)]
    rcases b2 with z | ⟨z1, z2, z3⟩
    · exact Or.inl z
    · exact Or.inr ⟨z1, z2.off oy (by decide), by rw [f (by decide)]; exact z3⟩
  · rw [f (by decide)]
    unfold PassOK at b3 ⊢
    rw [oy.fn (c := 18) (by decide)]; exact b3
theorem Rel.pieces (h : Rel m X Y) : ∃ c nt t1 t2, (RT X Y ∧ RCa X Y ∧ RS X Y ∧ RU X Y) ∧ RP c nt t1 t2 X Y ∧ RB c nt t1 t2 X Y ∧ RR m c X Y := by
  obtain ⟨a, b, d, e, c, nt, t1, t2, p, q, r⟩ := h
  exact ⟨c, nt, t1, t2, ⟨a, b, d, e⟩, p, q, r⟩
theorem o_start (hm0 : 0 ≤ m) (h : Rel m X Y) : fSt_start X (Post m (fMd_start Y)) := by
  have hm := h.mono (m' := m + 1) (by omega)
  obtain ⟨a, b, d, e, c, nt, t1, t2, p, q, r⟩ := id hm
  have hV := p.1
  have hN := hV.2.2.2.2.1
  refine s_choose p.1 p.2.1 p.2.2.1 q.1 (fun X1 ox kx k17 hB => ?_)
  have hd0 : cDep c 0 = 0 := hV.2.2.2.2.2.2.2.2.1
  have hr0 : cDep c 0 ≠ -4 := by rw [hd0]; decide
  have h39 := bestX_ok hV p.2.1 hB (j := 0) ⟨by omega, by omega⟩ hr0
  have e39 : X1 39 0 = 0 := by
    have := h39.2.2
    unfold okL at this
    simp only [Bool.and_eq_true, Bool.or_eq_true, decide_eq_true_eq] at this
    omega
  have hL0 : stL (cR c) 0 = 0 := (st_f hV.1 (s := 0) ⟨by omega, by have := nS_le (cR c); omega⟩).2.2.1.mpr rfl
  refine s_fill42 (fun X2 o2 z2 => s_fill44 (fun X3 o3 z3 => ?_))
  have o13 : Off ruX [] X1 X3 := (o2.mono (by decide) (by decide)).tr (o3.mono (by decide) (by decide))
  rw [o13.cell (c := 39) (by decide), e39]
  refine s_refBest ⟨a, b, d, e⟩ p q r ox kx (fun _ => k17) (fun Y1 oy hr hM hT e31 hBM h27 h25 => ?_)
  refine s_start46 (fun Y2 q2 y29 y30 => ?_)
  have ox4 : Off ruX [] X1 (mu (mu (mu (mu (mu (mu (mu (mu X3 40 7 1) 40 8 0) 40 9 0) 40 10 0) 40 11 0) 40 12 0) 40 13 0) 40 14 0) := by
    repeat (first | exact o13 | refine Off.mu ?_ (Or.inl (by decide)))
  have oy4 : Off ruY ruT Y1 Y2 := by
    refine Off.tr (M' := (mu (mu (mu (mu (mu (mu (mu (mu Y1 0 43 1) 0 44 0) 0 45 0) 0 46 0) 0 48 0) 0 49 0) 0 50 0) 0 52 0)) ?_ (q2.mono (by decide) (by decide))
    repeat (first | exact Off.rf _ _ _ | refine Off.mu ?_ (Or.inr (by decide)))
  have ey : ∀ i, Y2 0 i = (mu (mu (mu (mu (mu (mu (mu (mu Y1 0 43 1) 0 44 0) 0 45 0) 0 46 0) 0 48 0) 0 49 0) 0 50 0) 0 52 0) 0 i := fun i => q2.fld ⟨by decide, by simp⟩
  have e46 : Y2 0 46 = 0 := by rw [ey]; simp [mu]
  obtain ⟨a', b', d', e', c', nt', t1', t2', p', q', r'⟩ := id hr
  refine ⟨by rw [e46]; simp [mu], ?_⟩
  have hp1 : RP c nt t1 t2 X1 Y1 := by
    obtain ⟨p1, p2, p3, p4, p5, p6, p7, p8⟩ := p
    refine ⟨p1, p2, p3.off ox (by decide), hM, p5, ?_, by rw [ox.fn (c := 13) (by decide)]; exact p7, by rw [ox.fn (c := 13) (by decide)]; exact p8⟩
    unfold NR at p6 ⊢; rw [oy.fn (c := 4) (by decide), ox.fn (c := 15) (by decide)]; exact p6
  have hb1 : RB c nt t1 t2 X1 Y1 := ⟨kx, Or.inr ⟨e31, hBM, h27.1⟩, Or.inr h27, by rw [oy.fld (by decide)]; exact q.2.2.2.1, h25⟩
  refine Rel.run ⟨a', b', d', e'⟩ hp1 hb1 ox4 oy4 ?_
  unfold RR
  rw [ox4.fn (c := 27) (by decide), ox4.fn (c := 39) (by decide), oy4.fld (i := 31) (by decide), oy4.fld (i := 27) (by decide)]
  refine ⟨by rw [ey]; simp [mu], Or.inr ⟨by simp [mu], ⟨k17, e31, h27.1⟩, by rw [ey]; simp [mu], by rw [ey]; simp [mu], by rw [ey]; simp [mu], by rw [ey]; simp [mu], by rw [ey]; simp [mu], by rw [ey]; simp [mu], Or.inl ⟨by simp [mu], by rw [ey]; simp [mu], by simp [mu], ?_, ?_, ?_, ?_⟩, ⟨?_, ?_, ?_⟩, ⟨by simp [mu], by simp [mu]⟩, ⟨by simp [mu], by simp [mu]⟩, ⟨by simp [mu], ?_⟩, ?_, ?_, ?_, ?_⟩⟩
  · simp [mu]; omega
  · simpa [mu] using hr0
  · simp [mu, hd0]
  · simp [mu, e39]
  · simp [mu]
  · have := nS_le (cR c); simp [mu]; omega
  · simp [mu, hL0]
  · simp [mu]; omega
  · intro i i0 i1
    simp [mu] at i1
    omega
  · intro i i0 i1
    rw [y29 i i0 i1]
    have : X3 42 i = 0 := by rw [o3.cell (by decide)]; exact z2 i i0 i1
    simpa [mu] using this
  · intro i i0 i1
    simp [mu] at i1
    omega
  · intro i i0 i1
    have : X3 44 i = 0 := z3 i i0 i1
    rw [y30 i i0 i1]
    simp [mu, this]
end O
