/-! one step of both -/
def flw (c : Cf) (i : Int) : Int := if fal c i then i + 1 else -4
def nxC (c : Cf) (i v : Int) : Int := nxt (cK c i) (cNu c i) (flw c i) v
section E
variable {X Y : Mem} {c : Cf} {nt t1 t2 h i : Int} {R : Int → Mem → Prop}
theorem lea_iff {c : Cf} {i : Int} : lea c i = true ↔ cK c i = 11 ∨ cK c i = 12 := by
  unfold lea leadsK
  simp only [Bool.or_eq_true, decide_eq_true_eq]
theorem nxC_in (hV : VP c) (hD : DR c) (hi : 0 ≤ i ∧ i < cN c) (hd : cDep c i ≠ -4) {v : Int} (hn : nxC c i v ≠ -4) : 0 ≤ nxC c i v ∧ nxC c i v < cN c ∧ cDep c (nxC c i v) ≠ -4 ∧ cDep c (nxC c i v) = cDep c i - tk (cK c i) + cm (cK c i) := by
  have v10 := hV.2.2.2.2.2.2.2.2.2.1 i hi.1 hi.2 hd
  have v11 := hV.2.2.2.2.2.2.2.2.2.2.1 i hi.1 hi.2 hd
  have v12 := hV.2.2.2.2.2.2.2.2.2.2.2.1
  obtain ⟨d1, d2, d3, d4⟩ := hD i hi.1 hi.2 hd
  have kl : lea c i = true → nxC c i v = cNu c i → 0 ≤ nxC c i v ∧ nxC c i v < cN c ∧ cDep c (nxC c i v) ≠ -4 ∧ cDep c (nxC c i v) = cDep c i - tk (cK c i) + cm (cK c i) := fun hl e => by
    have := v10 hl
    rw [e]
    exact ⟨this.1, this.2.1, v12 _ this.1 this.2.1 this.2.2, d4 hl⟩
  have kf : nxC c i v = flw c i → 0 ≤ nxC c i v ∧ nxC c i v < cN c ∧ cDep c (nxC c i v) ≠ -4 ∧ cDep c (nxC c i v) = cDep c i - tk (cK c i) + cm (cK c i) := fun e => by
    rw [e] at hn ⊢
    unfold flw at hn ⊢
    by_cases f : fal c i = true
    · rw [if_pos f]
      have := fal_lt f
      exact ⟨by omega, by omega, v11 f, d3 f⟩
    · rw [if_neg f] at hn; exact absurd rfl hn
  by_cases k11 : cK c i = 11
  · exact kl (lea_iff.mpr (Or.inl k11)) (by unfold nxC nxt; rw [if_pos k11])
  · by_cases k12 : cK c i = 12
    · by_cases v0 : v = 0
      · exact kl (lea_iff.mpr (Or.inr k12)) (by unfold nxC nxt; rw [if_neg k11, if_pos k12, if_pos v0])
      · exact kf (by unfold nxC nxt; rw [if_neg k11, if_pos k12, if_neg v0])
    · exact kf (by unfold nxC nxt; rw [if_neg k11, if_neg k12])
/-- x after a step -/
def PXs (c : Cf) (i : Int) (X X' : Mem) : Prop :=
  Off ruX [] X X' ∧ X' 40 7 = X 40 7 ∧ X' 40 8 = (if nxC c i (X 41 (cDep c i - 1)) = -4 then 1 else 0) ∧
  (nxC c i (X 41 (cDep c i - 1)) ≠ -4 → X' 40 9 = nxC c i (X 41 (cDep c i - 1)) ∧ X' 40 10 = X 39 (nxC c i (X 41 (cDep c i - 1))) ∧ X' 40 13 = wrap (wrap (X 40 13 + cVc c i (X 39 i)) + cPs c (cAf c i (X 39 i)) (X 39 (nxC c i (X 41 (cDep c i - 1)))))) ∧
  (nxC c i (X 41 (cDep c i - 1)) = -4 → X' 40 10 = cAf c i (X 39 i) ∧ X' 40 13 = wrap (X 40 13 + cVc c i (X 39 i))) ∧
  X' 40 11 = cDep c i - tk (cK c i) + cm (cK c i) ∧ X' 40 12 = nwN (cK c i) (X 40 12) ∧ X' 40 14 = wrap (X 40 14 + 1) ∧ (∀ j, X' 44 j = if j = i then wrap (X 44 i + 1) else X 44 j) ∧
  (∀ j, 0 ≤ j → j < cDep c i - tk (cK c i) + cm (cK c i) → X' 41 j = nwC (cK c i) (cDep c i) (X 15 i) (X 41) (X 42) j) ∧ (∀ j, X' 42 j = nwV (cK c i) (X 15 i) (X 41 (cDep c i - 1)) (X 42) j) ∧ (∀ j, X' 43 j = nwO (cK c i) (X 40 12) (X 41 (cDep c i - 1)) (X 43) j)
/-- the reference after a step -/
def PYs (c : Cf) (i : Int) (Y Y' : Mem) : Prop :=
  Off ruY ruT Y Y' ∧ Y' 0 43 = Y 0 43 ∧ Y' 0 44 = (if nxC c i (Y 27 (cDep c i - 1)) = -4 then 1 else 0) ∧ Y' 0 45 = nxC c i (Y 27 (cDep c i - 1)) ∧
  (nxC c i (Y 27 (cDep c i - 1)) ≠ -4 → Y' 0 46 = Y 21 (nxC c i (Y 27 (cDep c i - 1))) ∧ Y' 0 49 = wrap (wrap (Y 0 49 + cVc c i (Y 21 i)) + cPs c (cAf c i (Y 21 i)) (Y 21 (nxC c i (Y 27 (cDep c i - 1)))))) ∧
  (nxC c i (Y 27 (cDep c i - 1)) = -4 → Y' 0 46 = cAf c i (Y 21 i) ∧ Y' 0 49 = wrap (Y 0 49 + cVc c i (Y 21 i))) ∧
  Y' 0 48 = cDep c i - tk (cK c i) + cm (cK c i) ∧ Y' 0 52 = nwN (cK c i) (Y 0 52) ∧ Y' 0 50 = wrap (Y 0 50 + 1) ∧ (∀ j, Y' 30 j = if j = i then wrap (Y 30 i + 1) else Y 30 j) ∧
  (∀ j, 0 ≤ j → j < cDep c i - tk (cK c i) + cm (cK c i) → Y' 27 j = nwC (cK c i) (cDep c i) (Y 4 i) (Y 27) (Y 29) j) ∧ (∀ j, Y' 29 j = nwV (cK c i) (Y 4 i) (Y 27 (cDep c i - 1)) (Y 29) j) ∧ (∀ j, Y' 28 j = nwO (cK c i) (Y 0 52) (Y 27 (cDep c i - 1)) (Y 28) j)
theorem s_advance (hV : VP c) (hG : TG c nt t1 t2) (hC : XC c X) (hD : DR c) (hB : BestX c nt t1 t2 X) (hi : 0 ≤ i ∧ i < cN c) (hd : cDep c i ≠ -4) (e9 : X 40 9 = i) (e10 : X 40 10 = X 39 i) (e11 : X 40 11 = cDep c i)
    (hn : cK c i = 9 ∨ cK c i = 10 → 0 ≤ X 15 i ∧ X 15 i < 4) (hw : 0 ≤ X 40 12 ∧ X 40 12 ≤ 16)
    (gA : cK c i = 13 → X 40 12 = 16 → R 0 (mu X 40 8 1)) (gB : ¬ (cK c i = 13 ∧ X 40 12 = 16) → ∀ X', PXs c i X X' → R 0 X') : fRu_advance X R := by
  have hN := hV.2.2.2.2.1
  have h16 := nS_le (cR c)
  have hk := hV.2.2.2.2.2.1 i hi.1 hi.2
  have hdep := hV.2.2.2.2.2.2.2.1 i hi.1 hi.2 hd
  have i24 : inb i 24 := ⟨by omega, by omega⟩
  have e14 := (hC.2.1 i hi.1 hi.2).1
  have e15 := (hC.2.1 i hi.1 hi.2).2.2.2.2.2
  obtain ⟨d1, d2, d3, d4⟩ := hD i hi.1 hi.2 hd
  have h39 := bestX_ok hV hG hB hi hd
  have go : ¬ (cK c i = 13 ∧ X 40 12 = 16) → fRu_advance_36 R i (cK c i) X := by
    intro hno
    have gB := gB hno
    have main : ∀ fl, fl = flw c i → fRu_execute_29 (fun r1 M1 => (inb i 24 ∧ (inb i 24 ∧ fMa_versionCost (cK c i) (M1 40 10) (mu (mu M1 44 i (wrap ((M1 44 i) + 1))) 40 14 (wrap ((M1 40 14) + 1))) (fun r2 M2 => fMa_stateAfter (cK c i) (M2 40 10) (mu M2 40 13 (wrap ((M1 40 13) + r2))) (fun r3 M3 => ((r1 ≠ (-4) → fRu_advance_110 R r1 r3 0 M3) ∧ (r1 = (-4) → fRu_advance_110 R r1 r3 1 M3))))))) (cK c i) (X 15 i) fl X := by
      intro fl efl
      refine s_ex29 hk e11 hdep d1 d2 hn (fun z => ⟨hw.1, by omega⟩) (fun X1 hE => ?_)
      obtain ⟨o1, f1, f11, f12, fc, fv, fo⟩ := hE
      have en : nxt (cK c i) (X 15 i) fl (X 41 (cDep c i - 1)) = nxC c i (X 41 (cDep c i - 1)) := by
        unfold nxC
        rw [efl]
        by_cases hl : lea c i = true
        · rw [e15 hl]
        · have := mt lea_iff.mpr hl
          unfold nxt
          rw [if_neg (fun z => this (Or.inl z)), if_neg (fun z => this (Or.inr z)), if_neg (fun z => this (Or.inl z)), if_neg (fun z => this (Or.inr z))]
      rw [en]
      have hC1 : XC c X1 := hC.off o1 (by decide)
      have g10 : X1 40 10 = X 39 i := by rw [f1 10 (by decide) (by decide)]; exact e10
      refine ⟨i24, i24, ?_⟩
      rw [g10]
      have oa : Off ruX [] X1 (mu (mu X1 44 i (wrap ((X1 44 i) + 1))) 40 14 (wrap ((X1 40 14) + 1))) := ((Off.rf _ _ _).mu (Or.inl (by decide))).mu (Or.inl (by decide))
      have hCa := hC1.off oa (by decide)
      refine s_versionCost hV.1 hCa.2.2.1 hCa.2.2.2.1 hV.2.2.1 hV.2.2.2.1 hk ⟨h39.1, h39.2.1⟩ ?_
      have ob : Off ruX [] X1 (mu (mu (mu X1 44 i (wrap ((X1 44 i) + 1))) 40 14 (wrap ((X1 40 14) + 1))) 40 13 (wrap (X1 40 13 + vc (cR c) c.1.2.1 c.1.2.2.1 c.1.2.2.2 (cK c i) (X 39 i)))) := oa.mu (Or.inl (by decide))
      have hCb := hC1.off ob (by decide)
      rw [show (mu (mu X1 44 i (wrap ((X1 44 i) + 1))) 40 14 (wrap ((X1 40 14) + 1))) 40 10 = X 39 i by rw [mu_place (by decide), mu_cell (by decide)]; exact g10]
      refine s_stateAfter hV.1 hCb.2.2.1 hk ⟨h39.1, h39.2.1⟩ ?_
      have ha := aft_in hV.1 hk (s := X 39 i) ⟨h39.1, h39.2.1⟩
      have o44 : X1 44 = X 44 := o1.fn (by decide)
      have o39 : X1 39 = X 39 := o1.fn (by decide)
      have g13 : X1 40 13 = X 40 13 := f1 13 (by decide) (by decide)
      have g14 : X1 40 14 = X 40 14 := f1 14 (by decide) (by decide)
      have g7 : X1 40 7 = X 40 7 := f1 7 (by decide) (by decide)
      have oX : Off ruX [] X (mu (mu (mu X1 44 i (wrap ((X1 44 i) + 1))) 40 14 (wrap ((X1 40 14) + 1))) 40 13 (wrap (X1 40 13 + vc (cR c) c.1.2.1 c.1.2.2.1 c.1.2.2.2 (cK c i) (X 39 i)))) := (o1.mono (by decide) (by decide)).tr ob
      refine ⟨fun hne => ⟨Or.inl rfl, fun _ => ?_, fun z => absurd rfl z⟩, fun he => ⟨Or.inr rfl, fun z => absurd z (by decide), fun _ => ?_⟩⟩
      · obtain ⟨n0, n1, n2, n3⟩ := nxC_in hV hD hi hd hne
        have h39' := bestX_ok hV hG hB ⟨n0, n1⟩ n2
        refine ⟨⟨by omega, by omega⟩, ?_⟩
        unfold fMa_passageCost
        rw [oX.cell (c := 39) (by decide)]
        have w1 : wrap (wrap (aft (cR c) (cK c i) (X 39 i) * 16) + X 39 (nxC c i (X 41 (cDep c i - 1)))) = 16 * aft (cR c) (cK c i) (X 39 i) + X 39 (nxC c i (X 41 (cDep c i - 1))) := by rw [wrapI (z := aft (cR c) (cK c i) (X 39 i) * 16) (by omega) (by omega), wrapI (by omega) (by omega)]; omega
        rw [w1]
        refine ⟨⟨by omega, by omega⟩, gB _ ⟨?_, ?_, ?_, fun _ => ⟨?_, ?_, ?_⟩, fun z => absurd z hne, ?_, ?_, ?_, ?_, ?_, ?_, ?_⟩⟩
        · exact (((oX.mu (Or.inl (by decide))).mu (Or.inl (by decide))).mu (Or.inl (by decide))).mu (Or.inl (by decide))
        · simp [mu, g7]
        · rw [if_neg hne]; simp [mu]
        · simp [mu]
        · simp [mu]
        · have := hC1.2.2.2.2.2 _ _ ha.1 ha.2 h39'.1 h39'.2.1
          simp [mu, g13]
          rw [this]; rfl
        · simp [mu, f11]
        · simp [mu, f12]
        · simp [mu, g14]
        · intro j; simp [mu, o44]
        · intro j j0 j1; simpa [mu] using fc j j0 j1
        · intro j; simpa [mu] using fv j
        · intro j; simpa [mu] using fo j
      · refine gB _ ⟨?_, ?_, ?_, fun z => absurd he z, fun _ => ⟨?_, ?_⟩, ?_, ?_, ?_, ?_, ?_, ?_, ?_⟩
        · exact (oX.mu (Or.inl (by decide))).mu (Or.inl (by decide))
        · simp [mu, g7]
        · rw [if_pos he]; simp [mu]
        · simp [mu]; rfl
        · simp [mu, g13]; rfl
        · simp [mu, f11]
        · simp [mu, f12]
        · simp [mu, g14]
        · intro j; simp [mu, o44]
        · intro j j0 j1; simpa [mu] using fc j j0 j1
        · intro j; simpa [mu] using fv j
        · intro j; simpa [mu] using fo j
    unfold fRu_advance_36 fRu_execute
    refine ⟨i24, s_falls hV hC hi ⟨fun f => ⟨fun z => absurd z (by decide), fun _ => ?_⟩, fun f => ⟨fun _ => ?_, fun z => absurd rfl z⟩⟩⟩
    · rw [wrapI (z := i + 1) (by omega) (by omega)]
      exact main _ (by unfold flw; rw [if_pos f])
    · exact main _ (by unfold flw; rw [if_neg (by rw [f]; decide)])
  unfold fRu_advance
  rw [e9, e14]
  exact ⟨i24, fun z => go (fun q => z q.1), fun z => ⟨fun y => go (fun q => y q.2), fun y => gA z y⟩⟩
theorem s_goesOn {go v : Int} (hV : VP c) (hM : MC c Y) (hi : 0 ≤ i ∧ i < cN c) (ego : go = goB (cK c i) v) (h : R (nxC c i v) Y) : fMd_goesOn_l i go (cN c) Y R := by
  have hN := hV.2.2.2.2.1
  have hk := hV.2.2.2.2.2.1 i hi.1 hi.2
  have i24 : inb i 24 := ⟨by omega, by omega⟩
  obtain ⟨g0, g1, g2, g3, g4, g5, g6, g7, g8, g9, g10, g11, g12, g13, g14⟩ := sg_tab
  have e3 := (hM.2.2 i hi.1 hi.2).1
  have e4 := (hM.2.2 i hi.1 hi.2).2.2.2.2.2
  have k106 : sg (cK c i) = 106 ↔ cK c i = 11 := by rw [← g11]; exact sg_iff hk (by decide)
  have k104 : sg (cK c i) = 104 ↔ cK c i = 14 := by rw [← g14]; exact sg_iff hk (by decide)
  have k98 : sg (cK c i) = 98 ↔ cK c i = 12 := by rw [← g12]; exact sg_iff hk (by decide)
  unfold fMd_goesOn_l
  rw [e3]
  refine ⟨fun z => ?_, fun z => ?_⟩
  · -- the next one
    have en : nxC c i v = flw c i := by
      unfold nxC nxt
      unfold goB at ego
      by_cases a : cK c i = 11
      · rw [if_pos a] at ego; exact absurd ego z
      · rw [if_neg a] at ego ⊢
        by_cases b : cK c i = 12
        · rw [if_pos b] at ego ⊢
          by_cases y : v = 0
          · rw [if_pos y] at ego; exact absurd ego z
          · rw [if_neg y]
        · rw [if_neg b]
    rw [en] at h
    unfold flw at h
    have fe : fal c i = true ↔ (cK c i ≠ 11 ∧ cK c i ≠ 14 ∧ i + 1 < cN c) := by
      unfold fal fallsK
      simp only [Bool.and_eq_true, decide_eq_true_eq, and_assoc]
    have w : wrap (i + 1) = i + 1 := wrapI (by omega) (by omega)
    rw [w]
    have hf : ¬ (cK c i ≠ 11 ∧ cK c i ≠ 14 ∧ i + 1 < cN c) → R (-4) Y := fun q => by rw [if_neg (fun y => q (fe.mp y))] at h; exact h
    refine ⟨i24, fun y => hf (fun q => q.1 (k106.mp y)), fun y1 => ⟨i24, fun y => hf (fun q => q.2.1 (k104.mp y)), fun y2 => ⟨fun y3 => ?_, fun y3 => hf (fun q => by omega)⟩⟩⟩
    rw [if_pos (fe.mpr ⟨fun q => y1 (k106.mpr q), fun q => y2 (k104.mpr q), by omega⟩)] at h
    exact h
  · have hl : lea c i = true ∧ nxC c i v = cNu c i := by
      unfold nxC nxt
      rw [z] at ego
      unfold goB at ego
      by_cases a : cK c i = 11
      · rw [if_pos a]; exact ⟨lea_iff.mpr (Or.inl a), rfl⟩
      · rw [if_neg a] at ego ⊢
        by_cases b : cK c i = 12
        · rw [if_pos b] at ego ⊢
          by_cases y : v = 0
          · rw [if_pos y]; exact ⟨lea_iff.mpr (Or.inr b), rfl⟩
          · rw [if_neg y] at ego; exact absurd ego (by decide)
        · rw [if_neg b] at ego; exact absurd ego (by decide)
    rw [hl.2, ← e4 hl.1] at h
    have fin : (((1 : Int) = 0 → R (-4) Y) ∧ (¬ (1 : Int) = 0 → (inb i 24 ∧ R (Y 4 i) Y))) := ⟨fun q => absurd q (by decide), fun _ => ⟨i24, h⟩⟩
    refine ⟨i24, fun y => fin, fun y => ⟨fun y2 => ?_, fun _ => fin⟩⟩
    rcases lea_iff.mp hl.1 with q | q
    · exact absurd (k106.mpr q) y
    · exact absurd (k98.mpr q) y2
theorem s_stepsOnce (hV : VP c) (hM : MC c Y) (hT : TM (cR c) Y) (hP : PassOK (cR c) c.1.2.1 c.1.2.2.1 c.1.2.2.2 Y) (hD : DR c) (hB : ∀ j, 0 ≤ j → j < cN c → cDep c j ≠ -4 → 0 ≤ Y 21 j ∧ Y 21 j < nS (cR c) ∧ okL c j (Y 21 j) = true) (hi : 0 ≤ i ∧ i < cN c) (hd : cDep c i ≠ -4) (e45 : Y 0 45 = i) (e46 : Y 0 46 = Y 21 i) (e48 : Y 0 48 = cDep c i)
    (hn : cK c i = 9 ∨ cK c i = 10 → 0 ≤ Y 4 i ∧ Y 4 i < 4) (hw : cK c i = 13 → 0 ≤ Y 0 52 ∧ Y 0 52 < 16)
    (gB : ∀ Y', PYs c i Y Y' → R 0 Y') : fMd_stepsOnce Y R := by
  have hN := hV.2.2.2.2.1
  have h16 := nS_le (cR c)
  have hk := hV.2.2.2.2.2.1 i hi.1 hi.2
  have hdep := hV.2.2.2.2.2.2.2.1 i hi.1 hi.2 hd
  have i24 : inb i 24 := ⟨by omega, by omega⟩
  have e3 := (hM.2.2 i hi.1 hi.2).1
  obtain ⟨d1, d2, d3, d4⟩ := hD i hi.1 hi.2 hd
  have h21 := hB i hi.1 hi.2 hd
  have hv : hasV (cR c) (cK c i) (Y 21 i) = true := by
    have := h21.2.2
    unfold okL at this
    simp only [Bool.and_eq_true] at this
    exact this.1.2
  unfold fMd_stepsOnce
  rw [e45, e46, e3]
  refine ⟨i24, s_mhas hV.1 hT ⟨hM.1.2.1, hM.1.2.2.1, hM.1.2.2.2⟩ hV.2.2.1 hV.2.2.2.1 hk ⟨h21.1, h21.2.1⟩ (fun Y1 o1 e23 e24 e25 => ?_)⟩
  rw [e23, e24 hv]
  have o1 := o1.to
  have c30 : Y1 30 = Y 30 := o1.fn (by decide)
  have c49 : Y1 0 49 = Y 0 49 := o1.fld (by decide)
  have c50 : Y1 0 50 = Y 0 50 := o1.fld (by decide)
  rw [c30, c49, c50]
  have o2 : Off ruY ruT Y1 (mu (mu (mu Y1 0 49 (wrap (Y 0 49 + vc (cR c) c.1.2.1 c.1.2.2.1 c.1.2.2.2 (cK c i) (Y 21 i)))) 0 50 (wrap (Y 0 50 + 1))) 30 i (wrap (Y 30 i + 1))) := (((Off.rf _ _ _).mu (Or.inr (by decide))).mu (Or.inr (by decide))).mu (Or.inl (by decide))
  have o12 := (o1.mono (S' := ruY) (T' := ruT) (by decide) (by decide)).tr o2
  have z48 : (mu (mu (mu Y1 0 49 (wrap (Y 0 49 + vc (cR c) c.1.2.1 c.1.2.2.1 c.1.2.2.2 (cK c i) (Y 21 i)))) 0 50 (wrap (Y 0 50 + 1))) 30 i (wrap (Y 30 i + 1))) 0 48 = cDep c i := by
    have : Y1 0 48 = cDep c i := by rw [o1.fld (by decide)]; exact e48
    simpa [mu] using this
  have z52 : (mu (mu (mu Y1 0 49 (wrap (Y 0 49 + vc (cR c) c.1.2.1 c.1.2.2.1 c.1.2.2.2 (cK c i) (Y 21 i)))) 0 50 (wrap (Y 0 50 + 1))) 30 i (wrap (Y 30 i + 1))) 0 52 = Y 0 52 := by
    have : Y1 0 52 = Y 0 52 := o1.fld (by decide)
    simpa [mu] using this
  have z3 : (mu (mu (mu Y1 0 49 (wrap (Y 0 49 + vc (cR c) c.1.2.1 c.1.2.2.1 c.1.2.2.2 (cK c i) (Y 21 i)))) 0 50 (wrap (Y 0 50 + 1))) 30 i (wrap (Y 30 i + 1))) 3 i = sg (cK c i) := by rw [o12.cell (by decide)]; exact e3
  have z4 : (mu (mu (mu Y1 0 49 (wrap (Y 0 49 + vc (cR c) c.1.2.1 c.1.2.2.1 c.1.2.2.2 (cK c i) (Y 21 i)))) 0 50 (wrap (Y 0 50 + 1))) 30 i (wrap (Y 30 i + 1))) 4 i = Y 4 i := o12.cell (by decide) _
  have z27 : (mu (mu (mu Y1 0 49 (wrap (Y 0 49 + vc (cR c) c.1.2.1 c.1.2.2.1 c.1.2.2.2 (cK c i) (Y 21 i)))) 0 50 (wrap (Y 0 50 + 1))) 30 i (wrap (Y 30 i + 1))) 27 = Y 27 := by rw [mu_fun (by decide), mu_fun (by decide), mu_fun (by decide)]; exact o1.fn (by decide)
  have z28 : (mu (mu (mu Y1 0 49 (wrap (Y 0 49 + vc (cR c) c.1.2.1 c.1.2.2.1 c.1.2.2.2 (cK c i) (Y 21 i)))) 0 50 (wrap (Y 0 50 + 1))) 30 i (wrap (Y 30 i + 1))) 28 = Y 28 := by rw [mu_fun (by decide), mu_fun (by decide), mu_fun (by decide)]; exact o1.fn (by decide)
  have z29 : (mu (mu (mu Y1 0 49 (wrap (Y 0 49 + vc (cR c) c.1.2.1 c.1.2.2.1 c.1.2.2.2 (cK c i) (Y 21 i)))) 0 50 (wrap (Y 0 50 + 1))) 30 i (wrap (Y 30 i + 1))) 29 = Y 29 := by rw [mu_fun (by decide), mu_fun (by decide), mu_fun (by decide)]; exact o1.fn (by decide)
  have z49 : (mu (mu (mu Y1 0 49 (wrap (Y 0 49 + vc (cR c) c.1.2.1 c.1.2.2.1 c.1.2.2.2 (cK c i) (Y 21 i)))) 0 50 (wrap (Y 0 50 + 1))) 30 i (wrap (Y 30 i + 1))) 0 49 = wrap (Y 0 49 + cVc c i (Y 21 i)) := by simp [mu]; rfl
  have z50 : (mu (mu (mu Y1 0 49 (wrap (Y 0 49 + vc (cR c) c.1.2.1 c.1.2.2.1 c.1.2.2.2 (cK c i) (Y 21 i)))) 0 50 (wrap (Y 0 50 + 1))) 30 i (wrap (Y 30 i + 1))) 0 50 = wrap (Y 0 50 + 1) := by simp [mu]
  have z43 : (mu (mu (mu Y1 0 49 (wrap (Y 0 49 + vc (cR c) c.1.2.1 c.1.2.2.1 c.1.2.2.2 (cK c i) (Y 21 i)))) 0 50 (wrap (Y 0 50 + 1))) 30 i (wrap (Y 30 i + 1))) 0 43 = Y 0 43 := by
    have : Y1 0 43 = Y 0 43 := o1.fld (by decide)
    simpa [mu] using this
  have z30 : ∀ j, (mu (mu (mu Y1 0 49 (wrap (Y 0 49 + vc (cR c) c.1.2.1 c.1.2.2.1 c.1.2.2.2 (cK c i) (Y 21 i)))) 0 50 (wrap (Y 0 50 + 1))) 30 i (wrap (Y 30 i + 1))) 30 j = if j = i then wrap (Y 30 i + 1) else Y 30 j := by intro j; simp [mu, c30]
  revert o12 z48 z52 z3 z4 z27 z28 z29 z49 z50 z43 z30
  generalize (mu (mu (mu Y1 0 49 (wrap (Y 0 49 + vc (cR c) c.1.2.1 c.1.2.2.1 c.1.2.2.2 (cK c i) (Y 21 i)))) 0 50 (wrap (Y 0 50 + 1))) 30 i (wrap (Y 30 i + 1))) = Z at *
  intro o12 z48 z52 z3 z4 z27 z28 z29 z49 z50 z43 z30
  refine ⟨i24, i24, s_does (num := Y 4 i) hk i24 z3 z4 z48 hdep d1 d2 hn (fun z => by rw [z52]; exact hw z) (fun W hE => ?_)⟩
  obtain ⟨oE, w48, w52, wc, wv, wo⟩ := hE
  rw [z27] at wc wv wo ⊢
  rw [z29] at wc wv
  rw [z28, z52] at wo
  rw [z52] at w52
  have oW : Off ruY ruT Y W := o12.tr (oE.mono (by decide) (by decide))
  have hMW : MC c W := hM.off oW (by decide)
  have w49 : W 0 49 = wrap (Y 0 49 + cVc c i (Y 21 i)) := by rw [oE.fld (by decide)]; exact z49
  have w50 : W 0 50 = wrap (Y 0 50 + 1) := by rw [oE.fld (by decide)]; exact z50
  have w43 : W 0 43 = Y 0 43 := by rw [oE.fld (by decide)]; exact z43
  have w30 : ∀ j, W 30 j = if j = i then wrap (Y 30 i + 1) else Y 30 j := by intro j; rw [oE.cell (by decide)]; exact z30 j
  have w21 : W 21 = Y 21 := oW.fn (by decide)
  have w18 : W 18 = Y 18 := oW.fn (by decide)
  have ha := aft_in hV.1 hk (s := Y 21 i) ⟨h21.1, h21.2.1⟩
  have goes : ∀ go, go = goB (cK c i) (Y 27 (cDep c i - 1)) → fMd_stepsOnce_83 R (aft (cR c) (cK c i) (Y 21 i)) go i W := by
    intro go ego
    unfold fMd_stepsOnce_83
    rw [hMW.2.1]
    refine s_goesOn hV hMW hi ego ⟨fun hne => ⟨Or.inl rfl, fun z => absurd rfl z, fun _ => ?_⟩, fun he => ⟨Or.inr rfl, fun _ => ?_, fun z => absurd z (by decide)⟩⟩
    · obtain ⟨n0, n1, n2, n3⟩ := nxC_in hV hD hi hd hne
      have h21' := hB _ n0 n1 n2
      have w1 : wrap (wrap (16 * aft (cR c) (cK c i) (Y 21 i)) + Y 21 (nxC c i (Y 27 (cDep c i - 1)))) = 16 * aft (cR c) (cK c i) (Y 21 i) + Y 21 (nxC c i (Y 27 (cDep c i - 1))) := by rw [wrapI (z := 16 * aft (cR c) (cK c i) (Y 21 i)) (by omega) (by omega), wrapI (by omega) (by omega)]
      have hp := hP _ _ ha.1 ha.2 h21'.1 h21'.2.1
      rw [mu_same, mu_cell (d := 21) (by decide), mu_cell (d := 18) (by decide), w21, w18, w1, hp]
      refine ⟨⟨by omega, by omega⟩, ⟨by omega, by omega⟩, ⟨fun _ => ?_, fun z => by simp [mu] at z⟩⟩
      have e45' : (mu (mu (mu W 0 45 (nxC c i (Y 27 (cDep c i - 1)))) 0 44 0) 0 49 (wrap ((mu W 0 45 (nxC c i (Y 27 (cDep c i - 1)))) 0 49 + pP (cR c) c.1.2.1 c.1.2.2.1 c.1.2.2.2 (aft (cR c) (cK c i) (Y 21 i)) (Y 21 (nxC c i (Y 27 (cDep c i - 1))))))) 0 45 = nxC c i (Y 27 (cDep c i - 1)) := by simp [mu]
      rw [e45']
      refine ⟨⟨by omega, by omega⟩, gB _ ⟨?_, ?_, ?_, ?_, fun _ => ⟨?_, ?_⟩, fun z => absurd z hne, ?_, ?_, ?_, ?_, ?_, ?_, ?_⟩⟩
      · exact (((oW.mu (Or.inr (by decide))).mu (Or.inr (by decide))).mu (Or.inr (by decide))).mu (Or.inr (by decide))
      · simp [mu, w43]
      · rw [if_neg hne]; simp [mu]
      · simp [mu]
      · simp [mu, w21]
      · simp [mu, w49]; rfl
      · simp [mu, w48]
      · simp [mu, w52]
      · simp [mu, w50]
      · intro j; simpa [mu] using w30 j
      · intro j j0 j1; simpa [mu] using wc j j0 j1
      · intro j; simpa [mu] using wv j
      · intro j; simpa [mu] using wo j
    · refine ⟨fun z => by simp [mu] at z, fun _ => gB _ ⟨?_, ?_, ?_, ?_, fun z => absurd he z, fun _ => ⟨?_, ?_⟩, ?_, ?_, ?_, ?_, ?_, ?_, ?_⟩⟩
      · exact ((oW.mu (Or.inr (by decide))).mu (Or.inr (by decide))).mu (Or.inr (by decide))
      · simp [mu, w43]
      · rw [if_pos he]; simp [mu]
      · simp [mu]
      · simp [mu]; rfl
      · simp [mu, w49]
      · simp [mu, w48]
      · simp [mu, w52]
      · simp [mu, w50]
      · intro j; simpa [mu] using w30 j
      · intro j j0 j1; simpa [mu] using wc j j0 j1
      · intro j; simpa [mu] using wv j
      · intro j; simpa [mu] using wo j
  refine ⟨fun z => goes 0 z.symm, fun z => goes 1 ?_⟩
  unfold goB at z ⊢
  by_cases a : cK c i = 11
  · rw [if_pos a]
  · rw [if_neg a] at z ⊢
    by_cases b : cK c i = 12
    · rw [if_pos b] at z ⊢
      by_cases y : Y 27 (cDep c i - 1) = 0
      · rw [if_pos y]
      · rw [if_neg y] at z; exact absurd rfl z
    · rw [if_neg b] at z; exact absurd rfl z
end E
