/-! lay -/
theorem s_fill6 {v : Int} {M : Mem} {R : Int → Mem → Prop} (h : ∀ M', Off [6] [] M M' → (∀ j, 0 ≤ j → j < 24 → M' 6 j = v) → R 0 M') : fArr_fill_6 v M R := by
  have key : ∀ (d : Nat) (x : Int) (Mi : Mem), 0 ≤ x → x + d = 24 → Off [6] [] M Mi → (∀ j, 0 ≤ j → j < x → Mi 6 j = v) → fArr_fill_6_5 R (d + 1) v x 24 Mi := by
    intro d
    induction d with
    | zero =>
      intro x Mi x0 xd ho hj
      exact ⟨fun _ => h Mi ho (fun j a b => hj j a (by omega)), fun q => by omega⟩
    | succ d ih =>
      intro x Mi x0 xd ho hj
      refine ⟨fun q => by omega, fun _ => ⟨⟨by omega, by omega⟩, ?_⟩⟩
      rw [wrapI (z := x + 1) (by omega) (by omega)]
      refine ih (x + 1) _ (by omega) (by omega) (ho.mu (Or.inl (by decide))) (fun j a b => ?_)
      by_cases e : j = x
      · rw [e]; exact mu_same _ _ _ _
      · rw [mu_place e]; exact hj j a (by omega)
  exact ⟨24 + 1, key 24 0 M (by omega) (by omega) (Off.rf _ _ _) (fun j a b => by omega)⟩
section L
variable {m n : Int} {X Y : Mem} {R : Int → Mem → Prop}
theorem s_become (h01 : ∀ j, 0 ≤ j → j < 24 → X 26 j = 0 ∨ X 26 j = 1) (h : ∀ X', Off [13, 14, 15, 17, 19] [] X X' → X' 13 6 = X 20 6 → X' 13 7 = X 20 7 → X' 13 8 = X 20 8 → (∀ j, 0 ≤ j → j < 24 → X' 14 j = X 21 j ∧ X' 15 j = X 22 j ∧ X' 17 j = X 24 j ∧ X' 19 j = X 26 j) → R 0 X') : fPr_become X R := by
  have key : ∀ (d : Nat) (x : Int) (M : Mem), 0 ≤ x → x + d = 24 → Off [14, 15, 17, 19] [] X M → (∀ j, 0 ≤ j → j < x → M 14 j = X 21 j ∧ M 15 j = X 22 j ∧ M 17 j = X 24 j ∧ M 19 j = X 26 j) → fPr_become_2 R (d + 1) x M := by
    intro d
    induction d with
    | zero =>
      intro x M x0 xd ho hj
      have e20 : M 20 = X 20 := ho.fn (by decide)
      unfold fPr_become_2
      rw [e20]
      refine ⟨fun _ => h _ ((((ho.mono (by decide) (by decide)).mu (Or.inl (by decide))).mu (Or.inl (by decide))).mu (Or.inl (by decide))) (by simp [mu]) (by simp [mu]) (by simp [mu]) (fun j j0 j1 => ?_), fun z => by omega⟩
      have := hj j j0 (by omega)
      simpa [mu] using this
    | succ d ih =>
      intro x M x0 xd ho hj
      have x24 : inb x 24 := ⟨by omega, by omega⟩
      refine ⟨fun z => by omega, fun _ => ⟨x24, x24, x24, x24, x24, x24, x24, ?_, x24, ?_⟩⟩
      · rw [ho.cell (by decide)]; exact h01 x x0 (by omega)
      · rw [wrapI (z := x + 1) (by omega) (by omega), ho.cell (c := 21) (by decide), ho.cell (c := 22) (by decide), ho.cell (c := 24) (by decide), ho.cell (c := 26) (by decide)]
        refine ih (x + 1) _ (by omega) (by omega) ((((ho.mu (Or.inl (by decide))).mu (Or.inl (by decide))).mu (Or.inl (by decide))).mu (Or.inl (by decide))) (fun j j0 j1 => ?_)
        by_cases z : j = x
        · simp [mu, z]
        · have := hj j j0 (by omega)
          simpa [mu, z] using this
  exact ⟨24 + 1, key 24 0 X (by omega) (by omega) (Off.rf _ _ _) (fun j j0 j1 => by omega)⟩
theorem s_tp79 {N : Mem} (h : ∀ Y', Off [1] [2, 31, 43] N Y' → Y' 0 2 = 0 → Y' 0 43 = 0 → Y' 0 31 = 0 → (∀ j, j < 4 → Y' 1 j = N 1 j) → (∀ j, 0 ≤ j → j < 24 → Y' 1 (4 + j) = 1) → R 0 Y') : ∃ f, fMd_takesProgram_79 R f 0 N := by
  have key : ∀ (d : Nat) (x : Int) (M : Mem), 0 ≤ x → x + d = 24 → Off [1] [] N M → (∀ j, j < 4 → M 1 j = N 1 j) → (∀ j, 0 ≤ j → j < x → M 1 (4 + j) = 1) → fMd_takesProgram_79 R (d + 1) x M := by
    intro d
    induction d with
    | zero =>
      intro x M x0 xd ho h4 hj
      refine ⟨fun _ => h _ ((((ho.mono (by decide) (by decide)).mu (Or.inr (by decide))).mu (Or.inr (by decide))).mu (Or.inr (by decide))) (by simp [mu]) (by simp [mu]) (by simp [mu]) (fun j j1 => ?_) (fun j j0 j1 => ?_), fun z => by omega⟩
      · simpa [mu] using h4 j j1
      · simpa [mu] using hj j j0 (by omega)
    | succ d ih =>
      intro x M x0 xd ho h4 hj
      refine ⟨fun z => by omega, fun _ => ?_⟩
      rw [wrapI (z := x + 1) (by omega) (by omega), wrapI (z := 4 + x) (by omega) (by omega)]
      refine ⟨⟨by omega, by omega⟩, ih (x + 1) _ (by omega) (by omega) (ho.mu (Or.inl (by decide))) (fun j j1 => by rw [mu_place (by omega)]; exact h4 j j1) (fun j j0 j1 => ?_)⟩
      by_cases z : j = x
      · rw [z, mu_same]
      · rw [mu_place (by omega)]; exact hj j j0 (by omega)
  exact ⟨24 + 1, key 24 0 N (by omega) (by omega) (Off.rf _ _ _) (fun _ _ => rfl) (fun j j0 j1 => by omega)⟩
theorem s_tp15 {N : Mem} (hn : 0 ≤ n ∧ n ≤ 24) (h : ∀ Y', Off [1, 3, 4, 5, 6] [2, 3, 31, 43] N Y' → Y' 0 3 = n → Y' 0 2 = 0 → Y' 0 43 = 0 → Y' 0 31 = 0 → (∀ j, j < 4 → Y' 1 j = N 1 j) → (∀ j, 0 ≤ j → j < 24 → Y' 1 (4 + j) = 1) → (∀ j, 0 ≤ j → j < n → Y' 3 j = N 8 j ∧ Y' 4 j = N 9 j ∧ Y' 5 j = N 12 j ∧ Y' 6 j = N 14 j) → R 0 Y') : ∃ f, fMd_takesProgram_15 R f 0 (mu N 0 3 n) := by
  have key : ∀ (d : Nat) (x : Int) (M : Mem), 0 ≤ x → x + d = n → Off [3, 4, 5, 6] [3] N M → M 0 3 = n → (∀ j, 0 ≤ j → j < x → M 3 j = N 8 j ∧ M 4 j = N 9 j ∧ M 5 j = N 12 j ∧ M 6 j = N 14 j) → fMd_takesProgram_15 R (d + 1) x M := by
    intro d
    induction d with
    | zero =>
      intro x M x0 xd ho e3 hj
      unfold fMd_takesProgram_15
      rw [e3]
      refine ⟨fun _ => s_tp79 (fun Y' o1 y2 y43 y31 y4 yw => h Y' ((ho.mono (by decide) (by decide)).tr (o1.mono (by decide) (by decide))) ?_ y2 y43 y31 (fun j j1 => ?_) yw (fun j j0 j1 => ?_)), fun z => by omega⟩
      · rw [o1.fld (by decide)]; exact e3
      · rw [y4 j j1, ho.cell (by decide)]
      · rw [o1.cell (c := 3) (by decide), o1.cell (c := 4) (by decide), o1.cell (c := 5) (by decide), o1.cell (c := 6) (by decide)]; exact hj j j0 (by omega)
    | succ d ih =>
      intro x M x0 xd ho e3 hj
      have x24 : inb x 24 := ⟨by omega, by omega⟩
      unfold fMd_takesProgram_15
      rw [e3]
      refine ⟨fun z => by omega, fun _ => ⟨x24, x24, x24, x24, x24, x24, x24, x24, ?_⟩⟩
      rw [wrapI (z := x + 1) (by omega) (by omega), ho.cell (c := 8) (by decide), ho.cell (c := 9) (by decide), ho.cell (c := 12) (by decide), ho.cell (c := 14) (by decide)]
      refine ih (x + 1) _ (by omega) (by omega) ((((ho.mu (Or.inl (by decide))).mu (Or.inl (by decide))).mu (Or.inl (by decide))).mu (Or.inl (by decide))) (by simpa [mu] using e3) (fun j j0 j1 => ?_)
      by_cases z : j = x
      · simp [mu, z]
      · have := hj j j0 (by omega)
        simpa [mu, z] using this
  exact ⟨n.toNat + 1, key n.toNat 0 _ (by omega) (by omega) ((Off.rf _ _ _).mu (Or.inr (by decide))) (mu_same _ _ _ _) (fun j j0 j1 => by omega)⟩
theorem o_lay (h : Rel m X Y) : fSt_lay X (Post m (fMd_lay Y)) := by
  obtain ⟨c0, nt0, u1, u2, ⟨a, b, d, e⟩, p, q, r⟩ := (h.mono (m' := m + 1) (by omega)).pieces
  have hX : XTx (X 1 1) (X 2) X := ⟨rfl, a.2.1, fun i i0 i1 => ⟨rfl, (a.2.2 i i0 i1).2⟩⟩
  have hYT : YTx (X 1 1) (X 2) Y := ⟨a.1.symm, fun i i0 i1 => (a.2.2 i i0 i1).1.symm⟩
  have keepQ : ∀ {X1 Y1 : Mem}, Off [3, 4, 20, 21, 22, 23, 24, 25, 26] [] X X1 → Off [8, 9, 10, 11, 12, 13, 14] [10, 14, 16] Y Y1 → RCa X1 Y1 → Rel (m + 1) X1 Y1 := fun {X1 Y1} ox oy hc => ⟨a.off ox oy (by decide) (by decide), hc, d.off ox oy (by decide) (by decide), e.off ox oy (by decide) (by decide), RQ.off ⟨c0, nt0, u1, u2, p, q, r⟩ ox oy (by decide) (by decide) (by decide)⟩
  unfold fSt_lay
  refine s_parse hX (fun r1 X1 hX1 hY => ⟨fun z => ⟨fun z6 => ?_, fun z6 => ?_⟩, fun z => ?_⟩)
  · obtain ⟨o1, -, x1⟩ := hX1
    obtain ⟨e31, n24, rows⟩ := x1 z
    have hn : 1 ≤ X1 20 6 ∧ X1 20 6 ≤ 24 := by omega
    have hk : HK_d (X1 20 6) X1 := fun i i0 i1 => ⟨(rows i i0 i1).1.1, (rows i i0 i1).2⟩
    refine s_depths_d hn rfl hk e31 (fun r2 X2 hX2 hY2 => ⟨fun z2 => ?_, fun z2 => ?_⟩)
    · -- laid
      obtain ⟨o2, hr⟩ := hX2
      have hr' := hr.resolve_left z2
      obtain ⟨er, e32, hVI, hlow, h82⟩ := hr'
      obtain ⟨ov, v6, v7, hVF⟩ := hVI
      have hVF3 := hVF.2.2.1
      refine s_become (fun j j0 j1 => (hVF3 j j0 j1).2) (fun X3 o3 b6 b7 b8 bj => ?_)
      unfold fSe_forgetChanges fSe_resetWeights
      refine s_fill6 (fun X5 o5 w5 => ?_)
      have o35 : Off [5, 6] [] X3 X5 := ((Off.rf _ _ _).mu (Or.inl (by decide))).tr (o5.mono (by decide) (by decide))
      have oX : Off [3, 4, 5, 6, 13, 14, 15, 17, 19, 20, 21, 22, 23, 24, 25, 26] [] X X5 := ((((o1.mono (by decide) (by decide)).tr (o2.mono (by decide) (by decide))).tr (o3.mono (by decide) (by decide))).tr (o35.mono (by decide) (by decide)))
      have e5 : ∀ f, f ≠ 5 → X5 5 f = X 5 f := fun f hf => by
        rw [o5.cell (by decide), mu_place hf, o3.cell (by decide), o2.cell (by decide), o1.cell (by decide)]
      have e55 : X5 5 5 = 0 := by rw [o5.cell (by decide), mu_same]
      obtain ⟨r1', r2', r3', r4', r5'⟩ := d.2.2.2.2.2
      obtain ⟨x1', x2', x3', x4', x5', x6'⟩ := p.2.2.1
      have e8 : X5 8 = X 8 := oX.fn (by decide)
      refine s_refresh (r := Y 1 0) (mv := Y 1 1) (ld := Y 1 2) (st := Y 1 3) r1' r2' r3' r4' ⟨by rw [e5 0 (by decide)]; exact d.1, by rw [e5 1 (by decide)]; exact d.2.1, by rw [e5 2 (by decide)]; exact d.2.2.1, by rw [e5 3 (by decide)]; exact d.2.2.2.1⟩ (fun _ => ?_) (fun _ _ _ _ => ?_) (fun X6 o6 hMX k17 k18 k7 => ?_)
      · have eR : cR c0 = Y 1 0 := p.2.2.2.1.1.1.symm
        rw [← eR]; exact x3'.off oX (by decide)
      · rw [p.2.2.2.1.1.1, p.2.2.2.1.1.2.1, p.2.2.2.1.1.2.2.1, p.2.2.2.1.1.2.2.2]
        have hm : MX (cR c0) c0.1.2.1 c0.1.2.2.1 c0.1.2.2.2 X := ⟨x3', x4', x6'⟩
        exact hm.off oX (by decide) (by decide)
      · -- the reference
        obtain ⟨fV, fD, ⟨nt, t1, t2, fG⟩, fS⟩ := hVF.fin (r := Y 1 0) (mv := Y 1 1) (ld := Y 1 2) (st := Y 1 3) (w := fun _ => 1) r1' r2' r3' r4' (fun _ _ _ => by decide) hn hk hlow h82
        have e66 : X6 13 6 = X1 20 6 := by rw [o6.cell (by decide), o35.cell (by decide), b6, v6]
        rw [e66]
        refine hY Y _ hYT (fun Y1 p1 c1 j1 => ⟨fun _ => ⟨fun _ => ?_, fun w => ?_⟩, fun w => absurd z w⟩)
        · obtain ⟨jq, jr⟩ := j1 z
          have hJA : JA_d (X1 20 6) X1 Y1 := ⟨jq, fun i i0 i1 => ⟨(jr i i0 i1).1, fun l => ((jr i i0 i1).2.2.1 (by have := (dg_in (rows i i0 i1).1.1).2.2 l; omega)).symm⟩⟩
          have y16 : Y1 0 16 = 0 := by rw [← c1.1]; exact e31
          refine hY2 Y1 _ hJA y16 (fun Y2 p2 c2 j2 => ⟨fun _ => ?_, fun w => absurd w z2⟩)
          unfold fMd_takesProgram
          have hJA2 : JA_d (X1 20 6) X1 Y2 := JA_off_d hJA p2 (by decide)
          have y162 : Y2 0 16 = 0 := by rw [← c2.1]; exact e32
          refine hY2 Y2 _ hJA2 y162 (fun Y3 p3 c3 j3 => ?_)
          have hJA3 : JA_d (X1 20 6) X1 Y3 := JA_off_d hJA2 p3 (by decide)
          rw [hJA3.1]
          refine s_tp15 ⟨by omega, hn.2⟩ (fun Y4 p4 g3 g2 g43 g31 g4 gw gr => ⟨g3.symm, ?_⟩)
          have p13 : Off [8, 9, 10, 11, 12, 13, 14] [10, 14, 16] Y Y3 := ((p1.mono (by decide) (by decide)).tr (p2.mono (by decide) (by decide))).tr (p3.mono (by decide) (by decide))
          have p14 : Off [1, 3, 4, 5, 6, 8, 9, 10, 11, 12, 13, 14] [2, 3, 10, 14, 16, 31, 43] Y Y4 := (p13.mono (by decide) (by decide)).tr (p4.mono (by decide) (by decide))
          have g1 : ∀ j, j < 4 → Y4 1 j = Y 1 j := fun j hj => by rw [g4 j hj, p13.cell (by decide)]
          have jb3 := j3 er
          have y9 : ∀ i, 0 ≤ i → i < X1 20 6 → Y3 9 i = Y1 9 i := fun i _ _ => by rw [p3.cell (by decide), p2.cell (by decide)]
          have k15 : ∀ i, 0 ≤ i → i < X1 20 6 → X5 15 i = X1 22 i := fun i i0 i1 => by rw [o35.cell (by decide), (bj i i0 (by omega)).2.1, o2.cell (by decide)]
          refine Rel.renew (c := ((Y 1 0, Y 1 1, Y 1 2, Y 1 3), X1 20 6, X1 21, X1 22, X2 24, X2 26, fun _ => 1)) (nt := nt) (t1 := t1) (t2 := t2) (a.off oX p14 (by decide) (by decide)) ?_ ?_ ?_ fV fG ?_ ?_ fD ?_ ?_ ?_ o6 hMX k17 k18 k7 g31 ?_ ?_ ?_ g43
          · -- causes
            have cx : X5 3 1 = 0 := by rw [o35.cell (by decide), o3.cell (by decide)]; exact e32
            have cy : Y4 0 16 = 0 := by rw [p4.fld (by decide), ← c3.1]; exact e32
            exact ⟨by rw [cx, cy], by rw [cx]; decide, fun i i0 i1 => by rw [cx] at i1; omega⟩
          · refine ⟨by rw [e5 0 (by decide), g1 0 (by decide)]; exact d.1, by rw [e5 1 (by decide), g1 1 (by decide)]; exact d.2.1, by rw [e5 2 (by decide), g1 2 (by decide)]; exact d.2.2.1, by rw [e5 3 (by decide), g1 3 (by decide)]; exact d.2.2.2.1, fun i i0 i1 => by rw [w5 i i0 i1, gw i i0 i1], by rw [g1 0 (by decide)]; exact r1', by rw [g1 1 (by decide)]; exact r2', by rw [g1 2 (by decide)]; exact r3', by rw [g1 3 (by decide)]; exact r4', fun i i0 i1 => by rw [gw i i0 i1]; decide⟩
          · refine ⟨by rw [e55, g2], by rw [e55]; decide, by rw [e5 7 (by decide)]; exact e.2.2.1, fun j j0 j1 => by rw [e55] at j1; omega⟩
          · refine ⟨⟨g1 0 (by decide), g1 1 (by decide), g1 2 (by decide), g1 3 (by decide)⟩, g3, fun i i0 i1 => ?_⟩
            have i1' : i < X1 20 6 := i1
            obtain ⟨q3, q4, q5, q6⟩ := gr i i0 i1'
            obtain ⟨b12, b13, b14⟩ := jb3 i i0 (by omega)
            obtain ⟨a8, a9⟩ := hJA3.2 i i0 i1'
            refine ⟨by rw [q3]; exact a8, by rw [q5]; exact b12, by rw [q6]; exact b14, (hVF3 i i0 (by omega)).2, gw i i0 (by omega), fun l => by rw [q4]; exact a9 l⟩
          · refine ⟨by rw [o35.cell (by decide), b6]; exact v6, fun i i0 i1 => ?_⟩
            have i1' : i < X1 20 6 := i1
            obtain ⟨q14, q15, q17, q19⟩ := bj i i0 (by omega)
            refine ⟨?_, ?_, ?_, (hVF3 i i0 (by omega)).2, w5 i i0 (by omega), fun l => k15 i i0 i1'⟩
            · rw [o35.cell (by decide), q14, o2.cell (by decide)]; rfl
            · rw [o35.cell (by decide), q17]; rfl
            · rw [o35.cell (by decide), q19]; rfl
          · intro i i0 i1
            have i1' : i < X1 20 6 := i1
            obtain ⟨q3, q4, q5, q6⟩ := gr i i0 i1'
            obtain ⟨hr1, hr2, hr3, hr4⟩ := (rows i i0 i1').1
            obtain ⟨s1, s2, s3, s4⟩ := jr i i0 i1'
            rw [k15 i i0 i1', q4, y9 i i0 i1']
            exact ⟨fun w => ⟨s3 w, hr2 w⟩, s4, hr3⟩
          · rw [o35.cell (by decide), b7]; exact fS
          · rw [o35.cell (by decide), b8]; exact hVF.2.1
          · rw [p14.fld (i := 27) (by decide)]
            rcases q.2.2.1 with w | w
            · exact Or.inl w
            · refine Or.inr ⟨w.1, ?_⟩
              have := w.2
              rw [← p.2.2.2.1.1.1, ← p.2.2.2.1.1.2.1, ← p.2.2.2.1.1.2.2.1, ← p.2.2.2.1.1.2.2.2] at this
              unfold PassOK at this ⊢
              rw [p14.fn (c := 18) (by decide)]
              exact this
          · rw [p14.fld (by decide)]; exact q.2.2.2.1
          · rw [p14.cell (by decide)]; exact q.2.2.2.2
        · exact absurd ((j1 z).1.symm.trans w) z6
    · -- a flaw
      refine hY Y _ hYT (fun Y1 p1 c1 j1 => ⟨fun _ => ⟨fun _ => ?_, fun w => absurd ((j1 z).1.symm.trans w) z6⟩, fun w => absurd z w⟩)
      obtain ⟨jq, jr⟩ := j1 z
      have hJA : JA_d (X1 20 6) X1 Y1 := ⟨jq, fun i i0 i1 => ⟨(jr i i0 i1).1, fun l => ((jr i i0 i1).2.2.1 (by have := (dg_in (rows i i0 i1).1.1).2.2 l; omega)).symm⟩⟩
      have y16 : Y1 0 16 = 0 := by rw [← c1.1]; exact e31
      refine hY2 Y1 _ hJA y16 (fun Y2 p2 c2 j2 => ⟨fun w => absurd z2 w, fun _ => ⟨rfl, ?_⟩⟩)
      exact keepQ ((o1.mono (by decide) (by decide)).tr (hX2.1.mono (by decide) (by decide))) ((p1.mono (by decide) (by decide)).tr (p2.mono (by decide) (by decide))) c2
  · -- empty
    obtain ⟨o1, -, x1⟩ := hX1
    obtain ⟨e31, n24, rows⟩ := x1 z
    refine s_append e31 (by decide) (l' := 1) (by decide) (hY Y _ hYT (fun Y1 p1 c1 j1 => ⟨fun _ => ⟨fun w => absurd ((j1 z).1.trans z6) w, fun _ => s_refuses1 ⟨rfl, ?_⟩⟩, fun w => absurd z w⟩))
    refine keepQ (((o1.mono (by decide) (by decide)).mu (Or.inl (by decide))).mu (Or.inl (by decide))) ((p1.mono (by decide) (by decide)).tr (off_rf.mono (by decide) (by decide))) ⟨by simp [mRf, mu], by simp [mu], fun i i0 i1 => ?_⟩
    have : i = 0 := by simp [mu] at i1; omega
    rw [this]; simp [mRf, mu]
  · -- a fault
    refine hY Y _ hYT (fun Y1 p1 c1 j1 => ⟨fun w => absurd w z, fun _ => ⟨rfl, keepQ (hX1.1.mono (by decide) (by decide)) (p1.mono (by decide) (by decide)) c1⟩⟩)
end L
