/-! best, meets, ifMeets -/
abbrev nbT : List Int := [20, 23, 24, 25, 27, 31, 32, 37, 40, 41, 42]
section O
variable {m : Int} {X Y X' Y' : Mem} {c : Cf} {nt t1 t2 : Int} {R : Int → Mem → Prop}
theorem Rel.new (h4 : RT X Y ∧ RCa X Y ∧ RS X Y ∧ RU X Y) (hp : RP c nt t1 t2 X Y) (hb : RB c nt t1 t2 X Y) (hr : RR m c X Y) (ox : Off chS [] X X') (kx : KX c nt t1 t2 X') (k17 : X 27 17 = 1 → X' 27 17 = 1)
    (oy : Off lbS nbT Y Y') (n31 : Y' 0 31 = 0 ∨ (Y' 0 31 = 1 ∧ BestM c nt t1 t2 Y' ∧ Y' 0 27 = 1)) (n27 : Y' 0 27 = 0 ∨ (Y' 0 27 = 1 ∧ PassOK (cR c) c.1.2.1 c.1.2.2.1 c.1.2.2.2 Y')) (n40 : Y' 0 40 = -4) (n25 : 0 ≤ Y' 25 0 ∧ Y' 25 0 < 24) (k31 : Y 0 31 = 1 → Y' 0 31 = 1) (k27 : Y 0 27 = 1 → Y' 0 27 = 1) : Rel m X' Y' := by
  obtain ⟨p1, p2, p3, p4, p5, p6, p7, p8⟩ := hp
  obtain ⟨b1, b2, b3, b4, b5⟩ := hb
  have f : ∀ {i : Int}, i ∉ nbT → Y' 0 i = Y 0 i := fun hi => oy.fld ⟨by decide, hi⟩
  refine ⟨h4.1.off ox oy (by decide) (by decide), h4.2.1.off ox oy (by decide) (by decide), h4.2.2.1.off ox oy (by decide) (by decide), h4.2.2.2.off ox oy (by decide) (by decide), c, nt, t1, t2, ⟨p1, p2, p3.off ox (by decide), p4.off oy (by decide), p5, ?_, by rw [ox.fn (c := 13) (by decide)]; exact p7, by rw [ox.fn (c := 13) (by decide)]; exact p8⟩, ⟨kx, n31, n27, n40, n25⟩, ?_⟩
  · unfold NR at p6 ⊢; rw [oy.fn (c := 4) (by decide), ox.fn (c := 15) (by decide)]; exact p6
  · unfold RR at hr ⊢
    rw [f (i := 43) (by decide), f (i := 44) (by decide), f (i := 46) (by decide), f (i := 48) (by decide), f (i := 52) (by decide), f (i := 49) (by decide), f (i := 50) (by decide), f (i := 45) (by decide), oy.fn (c := 27) (by decide), oy.fn (c := 28) (by decide), oy.fn (c := 29) (by decide), oy.fn (c := 30) (by decide), ox.fn (c := 40) (by decide), ox.fn (c := 41) (by decide), ox.fn (c := 42) (by decide), ox.fn (c := 43) (by decide), ox.fn (c := 44) (by decide)]
    refine ⟨hr.1, ?_⟩
    rcases hr.2 with z | ⟨z0, z1, z2, z3, z4, z5, z6, z7, z8, z9⟩
    · exact Or.inl z
    · refine Or.inr ⟨z0, ⟨k17 z1.1, k31 z1.2.1, k27 z1.2.2⟩, z2, z3, z4, z5, z6, z7, ?_, z9⟩
      rcases z8 with ⟨y1, y2, y3, y4, y5, y6, y7⟩ | y
      · have hB : BestX c nt t1 t2 X := by
          rcases b1.1 with q | q
          · rw [z1.1] at q; exact absurd q (by decide)
          · exact q.2
        have hB' : BestX c nt t1 t2 X' := by
          have := k17 z1.1
          rcases kx.1 with q | q
          · rw [this] at q; exact absurd q (by decide)
          · exact q.2
        have hM : BestM c nt t1 t2 Y := by
          rcases b2 with q | q
          · rw [z1.2.1] at q; exact absurd q (by decide)
          · exact q.2.1
        refine Or.inl ⟨y1, y2, y3, y4, y5, y6, ?_⟩
        rw [y7, (best_same p1 hB hM).2 _ y3 y4 y5, (best_same p1 hB' hM).2 _ y3 y4 y5]
      · exact Or.inr y
/-- the reference lays its best -/
theorem s_refBest (h4 : RT X Y ∧ RCa X Y ∧ RS X Y ∧ RU X Y) (hp : RP c nt t1 t2 X Y) (hb : RB c nt t1 t2 X Y) (hr : RR m c X Y) (ox : Off chS [] X X') (kx : KX c nt t1 t2 X') (k17 : X 27 17 = 1 → X' 27 17 = 1)
    (h : ∀ Y', Off lbS lbT Y Y' → Rel m X' Y' → MC c Y' → TM (cR c) Y' → Y' 0 31 = 1 → BestM c nt t1 t2 Y' → (Y' 0 27 = 1 ∧ PassOK (cR c) c.1.2.1 c.1.2.2.1 c.1.2.2.2 Y') → (0 ≤ Y' 25 0 ∧ Y' 25 0 < 24) → R 0 Y') : fMd_laysBest Y R := by
  refine s_laysBest hp.1 hp.2.2.2.1 hp.2.1 hb.2.2.1 hb.2.2.2.1 hb.2.2.2.2 hb.2.1 (fun Y' oy hT h20 e31 hBM h27 h25 => h Y' oy ?_ (hp.2.2.2.1.off oy (by decide)) hT e31 hBM h27 h25)
  exact Rel.new h4 hp hb hr ox kx k17 (oy.mono (by decide) (by decide)) (Or.inr ⟨e31, hBM, h27.1⟩) (Or.inr h27) (by rw [oy.fld (by decide)]; exact hb.2.2.2.1) h25 (fun _ => e31) (fun _ => h27.1)
theorem o_best (h : Rel m X Y) : fSt_best X (Post m (fMd_best Y)) := by
  have hm := h.mono (m' := m + 1) (by omega)
  obtain ⟨a, b, d, e, c, nt, t1, t2, p, q, r⟩ := id hm
  refine s_choose p.1 p.2.1 p.2.2.1 q.1 (fun X' ox kx k17 hB => ?_)
  exact s_refBest ⟨a, b, d, e⟩ p q r ox kx (fun _ => k17) (fun Y' oy hr hM hT e31 hBM h27 h25 => ⟨(best_same p.1 hB hBM).1, hr⟩)
theorem o_meets {i w : Int} (h : Rel m X Y) : fSt_meets i w X (Post m (fMd_meets i w Y)) := by
  have hm := h.mono (m' := m + 1) (by omega)
  obtain ⟨a, b, d, e, c, nt, t1, t2, p, q, r⟩ := id hm
  have hV := p.1
  have hC := p.2.2.1
  have hM := p.2.2.2.1
  have hN := hV.2.2.2.2.1
  refine s_xisIns hC ⟨fun hi => ⟨fun z => absurd z (by decide), fun _ => ?_⟩, fun hi => ⟨fun _ => s_misCode hV hM ⟨fun z => absurd z hi, fun _ => ⟨fun _ => ⟨rfl, hm⟩, fun z => absurd rfl z⟩⟩, fun z => absurd rfl z⟩⟩
  have i24 : inb i 24 := ⟨by omega, by omega⟩
  have bad : ¬ (0 ≤ w ∧ w ≤ 1) → Post m (fMd_meets i w Y) (-1) X := fun hw => s_misCode hV hM ⟨fun _ => ⟨fun z => absurd z (by decide), fun _ => s_in ⟨fun z => absurd z hw, fun _ => ⟨fun z => absurd rfl z, fun _ => ⟨rfl, hm⟩⟩⟩⟩, fun z => absurd hi z⟩
  refine ⟨fun q => bad (by omega), fun q1 => ⟨fun q2 => ?_, fun q2 => bad (by omega)⟩⟩
  have hw : 0 ≤ w ∧ w ≤ 1 := ⟨by omega, q2⟩
  refine s_isReached hV hC hi ⟨fun hd => ⟨fun _ => ?_, fun z => absurd z (by decide)⟩, fun hd => ⟨fun z => absurd rfl z, fun _ => ?_⟩⟩
  · refine s_choose hV p.2.1 hC q.1 (fun X' ox kx k17 hB => ?_)
    have hk := hV.2.2.2.2.2.1 i hi.1 hi.2
    have h39 := bestX_ok hV p.2.1 hB hi hd
    have hC' : XC c X' := hC.off ox (by decide)
    have ref : ∀ v, ((w = 0 → v = X' 39 i) ∧ (w ≠ 0 → v = aft (cR c) (cK c i) (X' 39 i))) → Post m (fMd_meets i w Y) v X' := by
      intro v hv
      refine s_misCode hV hM ⟨fun _ => ⟨fun z => absurd z (by decide), fun _ => s_in ⟨fun _ => ⟨fun _ => s_refBest ⟨a, b, d, e⟩ p q r ox kx (fun _ => k17) (fun Y' oy hr hmc hT e31 hBM h27 h25 => ?_), fun z => absurd z (by decide)⟩, fun z => absurd hw z⟩⟩, fun z => absurd hi z⟩
      have e39 := (best_same hV hB hBM).2 i hi.1 hi.2 hd
      refine ⟨i24, fun _ => ⟨i24, i24, ?_⟩, fun z => absurd (by rw [← (hmc.2.2 i hi.1 hi.2).2.1]; exact z) hd⟩
      rw [(hmc.2.2 i hi.1 hi.2).1, ← e39]
      refine s_mhas hV.1 hT ⟨hmc.1.2.1, hmc.1.2.2.1, hmc.1.2.2.2⟩ hV.2.2.1 hV.2.2.2.1 hk ⟨h39.1, h39.2.1⟩ (fun Y2 o2 e23 e24 e25 => ?_)
      have hr2 : Rel (m + 1) X' Y2 := hr.offY (o2.to.mono (by decide) (by decide))
      refine ⟨fun w0 => ⟨by rw [e23]; exact hv.2 w0, hr2⟩, fun w0 => ⟨i24, ?_, hr2⟩⟩
      rw [hv.1 w0, e39]
      exact (o2.to.cell (c := 21) (by decide) i).symm
    refine ⟨i24, fun w0 => ⟨i24, ?_⟩, fun w0 => ref _ ⟨fun _ => rfl, fun z => absurd w0 z⟩⟩
    rw [(hC'.2.1 i hi.1 hi.2).1]
    exact s_stateAfter hV.1 hC'.2.2.1 hk ⟨h39.1, h39.2.1⟩ (ref _ ⟨fun z => absurd z w0, fun _ => rfl⟩)
  · refine s_misCode hV hM ⟨fun _ => ⟨fun z => absurd z (by decide), fun _ => s_in ⟨fun _ => ⟨fun _ => s_refBest ⟨a, b, d, e⟩ p q r (Off.rf _ _ _) q.1 id (fun Y' oy hr hmc hT e31 hBM h27 h25 => ?_), fun z => absurd z (by decide)⟩, fun z => absurd hw z⟩⟩, fun z => absurd hi z⟩
    exact ⟨i24, fun z => absurd ((hmc.2.2 i hi.1 hi.2).2.1.trans hd) z, fun _ => ⟨rfl, hr⟩⟩
theorem o_ifMeets {i s : Int} (h : Rel m X Y) : fSt_ifMeets i s X (Post m (fMd_ifMeets i s Y)) := by
  have hm := h.mono (m' := m + 1) (by omega)
  obtain ⟨a, b, d, e, c, nt, t1, t2, p, q, r⟩ := id hm
  have hV := p.1
  have hC := p.2.2.1
  have hM := p.2.2.2.1
  have hN := hV.2.2.2.2.1
  have h16 := nS_le (cR c)
  refine s_xisIns hC ⟨fun hi => ⟨fun z => absurd z (by decide), fun _ => ?_⟩, fun hi => ⟨fun _ => s_misCode hV hM ⟨fun z => absurd z hi, fun _ => ⟨fun _ => ⟨rfl, hm⟩, fun z => absurd rfl z⟩⟩, fun z => absurd rfl z⟩⟩
  have i24 : inb i 24 := ⟨by omega, by omega⟩
  have ref : ∀ {v : Int} {Z : Mem}, (∀ Y1, Off [15, 16] [20] Y Y1 → TM (cR c) Y1 → ((0 ≤ s ∧ s < nS (cR c)) → (inb i 24 ∧ (((Y1 5 i) ≠ (-4) → fMd_search (mu (mu Y1 0 40 i) 0 41 s) (fun r3 M3 => ((r3 ≠ 1000000000 → (v = r3 ∧ Rel (m + 1) Z (mu M3 0 40 (-4)))) ∧ (r3 = 1000000000 → (v = -4 ∧ Rel (m + 1) Z (mu M3 0 40 (-4))))))) ∧ ((Y1 5 i) = (-4) → (v = -4 ∧ Rel (m + 1) Z Y1))))) ∧ (¬ (0 ≤ s ∧ s < nS (cR c)) → (v = -1 ∧ Rel (m + 1) Z Y1))) → Post m (fMd_ifMeets i s Y) v Z := by
    intro v Z hh
    refine s_misCode hV hM ⟨fun _ => ⟨fun z => absurd z (by decide), fun _ => s_misState hV hM (fun Y1 o1 hT1 _ => ⟨fun hs => ⟨fun _ => (hh Y1 o1 hT1).1 hs, fun z => absurd z (by decide)⟩, fun hs => ⟨fun z => absurd rfl z, fun _ => (hh Y1 o1 hT1).2 hs⟩⟩)⟩, fun z => absurd hi z⟩
  refine s_xisState hC ⟨fun hs => ⟨fun _ => ?_, fun z => absurd z (by decide)⟩, fun hs => ⟨fun z => absurd rfl z, fun _ => ref (fun Y1 o1 _ => ⟨fun z => absurd z hs, fun _ => ⟨rfl, hm.offY (o1.mono (by decide) (by decide))⟩⟩)⟩⟩
  refine s_isReached hV hC hi ⟨fun hd => ⟨fun _ => ?_, fun z => absurd z (by decide)⟩, fun hd => ⟨fun z => absurd rfl z, fun _ => ref (fun Y1 o1 _ => ⟨fun _ => ⟨i24, fun z => absurd (((hM.off o1 (by decide)).2.2 i hi.1 hi.2).2.1.trans hd) z, fun _ => ⟨rfl, hm.offY (o1.mono (by decide) (by decide))⟩⟩, fun z => absurd hs z⟩)⟩⟩
  refine s_findLeast hV p.2.1 hC q.1 (fun X' ox kx hL e17 => ?_)
  have w1 : wrap (wrap (i * 16) + s) = 16 * i + s := by rw [wrapI (z := i * 16) (by omega) (by omega), wrapI (by omega) (by omega)]; omega
  unfold fCh_leastWith
  rw [w1]
  have k17 : X 27 17 = 1 → X' 27 17 = 1 := fun _ => e17
  have fin : ∀ v, ((X' 36 (16 * i + s) ≠ 1000000000 → v = X' 36 (16 * i + s)) ∧ (X' 36 (16 * i + s) = 1000000000 → v = -4)) → Post m (fMd_ifMeets i s Y) v X' := by
    intro v hv
    refine ref (fun Y1 o1 hT1 => ⟨fun _ => ⟨i24, fun _ => ?_, fun z => absurd (((hM.off o1 (by decide)).2.2 i hi.1 hi.2).2.1.symm.trans z) hd⟩, fun z => absurd hs z⟩)
    have o2 : Off [15, 16] [20, 40, 41] Y (mu (mu Y1 0 40 i) 0 41 s) := (((o1.mono (by decide) (by decide)).mu (Or.inr (by decide))).mu (Or.inr (by decide)))
    have h27 : (mu (mu Y1 0 40 i) 0 41 s) 0 27 = 0 ∨ ((mu (mu Y1 0 40 i) 0 41 s) 0 27 = 1 ∧ PassOK (cR c) c.1.2.1 c.1.2.2.1 c.1.2.2.2 (mu (mu Y1 0 40 i) 0 41 s)) := by
      rw [o2.fld (by decide)]
      unfold PassOK
      rw [o2.fn (c := 18) (by decide)]
      exact q.2.2.1
    refine s_search (i0 := i) (s0 := s) hV (hM.off o2 (by decide)) p.2.1 h27 ⟨by rw [mu_place (by decide), mu_same], mu_same _ _ _ _⟩ (by rw [o2.fn (c := 25) (by decide)]; exact q.2.2.2.2) (fun N v' a' b' oN hE hTN n27 hbest _ => ?_)
    have ev := least_same hV p.2.1 hL hi hd hs hbest
    have oY : Off srS nbT Y (mu N 0 40 (-4)) := (((o2.mono (by decide) (by decide)).tr (oN.mono (by decide) (by decide)))).mu (Or.inr (by decide))
    have oN' : Off [] [40] N (mu N 0 40 (-4)) := (Off.rf _ _ _).mu (Or.inr (by decide))
    have oY31 : (mu N 0 40 (-4)) 0 31 = Y 0 31 := by rw [oN'.fld (by decide), oN.fld (by decide), o2.fld (by decide)]
    have eN27 : (mu N 0 40 (-4)) 0 27 = 1 := by rw [oN'.fld (by decide)]; exact n27
    have hrel : Rel (m + 1) X' (mu N 0 40 (-4)) := by
      refine Rel.new ⟨a, b, d, e⟩ p q r ox kx k17 (oY.mono (by decide) (by decide)) ?_ (Or.inr ⟨eN27, ?_⟩) (mu_same _ _ _ _) ?_ (fun z => by rw [oY31]; exact z) (fun _ => eN27)
      · rw [oY31]
        rcases q.2.1 with z | ⟨z1, z2, z3⟩
        · exact Or.inl z
        · refine Or.inr ⟨z1, ?_, eN27⟩
          obtain ⟨a1, b1, h1, h2⟩ := z2
          refine ⟨a1, b1, ?_, ?_⟩
          · rw [oN'.fld (by decide), oN.fld (by decide), o2.fld (by decide)]; exact h1
          · rw [oN'.fn (c := 21) (by decide), oN.fn (c := 21) (by decide), o2.fn (c := 21) (by decide)]; exact h2
      · have := hE.1.2.2.1
        unfold PassOK at this ⊢
        rw [oN'.fn (c := 18) (by decide)]; exact this
      · rw [oN'.fn (c := 25) (by decide)]; exact hE.2.2.2.2.1
    rw [ev] at hv
    exact ⟨fun z => ⟨hv.1 z, hrel⟩, fun z => ⟨hv.2 z, hrel⟩⟩
  exact ⟨⟨by omega, by omega⟩, fun z => fin _ ⟨fun _ => rfl, fun y => absurd y z⟩, fun z => fin _ ⟨fun y => absurd z y, fun _ => rfl⟩⟩
end O
