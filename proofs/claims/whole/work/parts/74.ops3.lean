/-! passage, version -/
section O
variable {m : Int} {X Y : Mem} {c : Cf} {R : Int → Mem → Prop}
/-- the reference has laid its passages -/
theorem Rel.pass {Y' : Mem} {nt t1 t2 : Int} (h : Rel m X Y) (ho : Off [15, 16, 18, 19, 20] [20, 27] Y Y') (hM : MC c Y) (h27 : Y' 0 27 = 1) (hP : PassOK (cR c) c.1.2.1 c.1.2.2.1 c.1.2.2.2 Y') : Rel m X Y' := by
  obtain ⟨a, b, d, e, c', nt', ta, tb, ⟨p1, p2, p3, p4, p5, p6, p7, p8⟩, ⟨b1, b2, b3, b4, b5⟩, ⟨r1, r2⟩⟩ := h
  have hx : Off [] [] X X := Off.rf _ _ _
  have f : ∀ {i : Int}, i ∉ ([20, 27] : List Int) → Y' 0 i = Y 0 i := fun hi => ho.fld ⟨by decide, hi⟩
  have eR : cR c' = cR c ∧ c'.1.2.1 = c.1.2.1 ∧ c'.1.2.2.1 = c.1.2.2.1 ∧ c'.1.2.2.2 = c.1.2.2.2 := ⟨by rw [← p4.1.1, ← hM.1.1], by rw [← p4.1.2.1, ← hM.1.2.1], by rw [← p4.1.2.2.1, ← hM.1.2.2.1], by rw [← p4.1.2.2.2, ← hM.1.2.2.2]⟩
  refine ⟨a.off hx ho (by decide) (by decide), b.off hx ho (by decide) (by decide), d.off hx ho (by decide) (by decide), e.off hx ho (by decide) (by decide), c', nt', ta, tb, ⟨p1, p2, p3, p4.off ho (by decide), p5, ?_, p7, p8⟩, ⟨b1, ?_, Or.inr ⟨h27, ?_⟩, by rw [f (by decide)]; exact b4, by rw [ho.fn (c := 25) (by decide)]; exact b5⟩, ?_⟩
  · unfold NR at p6 ⊢; rw [ho.fn (c := 4) (by decide)]; exact p6
  · rw [f (by decide)]
    rcases b2 with z | ⟨z1, z2, z3⟩
    · exact Or.inl z
    · exact Or.inr ⟨z1, z2.off ho (by decide), h27⟩
  · rw [eR.1, eR.2.1, eR.2.2.1, eR.2.2.2]; exact hP
  · unfold RR
    rw [f (i := 43) (by decide), f (i := 31) (by decide), h27, f (i := 44) (by decide), f (i := 46) (by decide), f (i := 48) (by decide), f (i := 52) (by decide), f (i := 49) (by decide), f (i := 50) (by decide), f (i := 45) (by decide), ho.fn (c := 27) (by decide), ho.fn (c := 28) (by decide), ho.fn (c := 29) (by decide), ho.fn (c := 30) (by decide)]
    refine ⟨r1, ?_⟩
    rcases r2 with z | ⟨z0, z1, z2⟩
    · exact Or.inl z
    · exact Or.inr ⟨z0, ⟨z1.1, z1.2.1, rfl⟩, z2⟩
theorem o_passage {x y : Int} (h : Rel m X Y) : fSt_passage x y X (Post m (fMd_passage x y Y)) := by
  have hm := h.mono (m' := m + 1) (by omega)
  obtain ⟨-, -, -, -, c, nt, t1, t2, p, b, -⟩ := id hm
  have hV := p.1
  have hC := p.2.2.1
  have hM := p.2.2.2.1
  have h16 := nS_le (cR c)
  refine s_xisState hC ⟨fun hs => ⟨fun z => absurd z (by decide), fun _ => s_xisState hC ⟨fun ht => ⟨fun _ => ?_, fun z => absurd z (by decide)⟩, fun ht => ⟨fun z => absurd rfl z, fun _ => ?_⟩⟩⟩, fun hs => ⟨fun _ => ?_, fun z => absurd rfl z⟩⟩
  · have w1 : wrap (wrap (x * 16) + y) = 16 * x + y := by rw [wrapI (z := x * 16) (by omega) (by omega), wrapI (by omega) (by omega)]; omega
    have w2 : wrap (wrap (16 * x) + y) = 16 * x + y := by rw [wrapI (z := 16 * x) (by omega) (by omega), wrapI (by omega) (by omega)]
    unfold fMa_passageCost
    rw [w1, hC.2.2.2.2.2 x y hs.1 hs.2 ht.1 ht.2]
    refine ⟨⟨by omega, by omega⟩, s_misState hV hM (fun Y1 o1 _ _ => ⟨fun _ => ⟨fun z => absurd z (by decide), fun _ => s_misState hV (hM.off o1 (by decide)) (fun Y2 o2 _ _ => ⟨fun _ => ⟨fun _ => ?_, fun z => absurd z (by decide)⟩, fun z => absurd ht z⟩)⟩, fun z => absurd hs z⟩)⟩
    have o12 : Off [15, 16] [20] Y Y2 := o1.tr o2
    have hm2 := hm.offY (o12.mono (by decide) (by decide))
    have hM2 := hM.off o12 (by decide)
    have h27 : Y2 0 27 = 0 ∨ (Y2 0 27 = 1 ∧ PassOK (cR c) c.1.2.1 c.1.2.2.1 c.1.2.2.2 Y2) := by
      rw [o12.fld (by decide)]
      unfold PassOK
      rw [o12.fn (c := 18) (by decide)]
      exact b.2.2.1
    refine s_laysPassages hV.1 hM2.1 hV.2.1 hV.2.2.1 hV.2.2.2.1 h27 (fun Y3 o3 hT3 h20 h27' hP3 => ?_)
    rw [w2, hP3 x y hs.1 hs.2 ht.1 ht.2]
    exact ⟨⟨by omega, by omega⟩, rfl, hm2.pass (nt := nt) (t1 := t1) (t2 := t2) o3.to hM2 h27' hP3⟩
  · exact s_misState hV hM (fun Y1 o1 _ _ => ⟨fun _ => ⟨fun z => absurd z (by decide), fun _ => s_misState hV (hM.off o1 (by decide)) (fun Y2 o2 _ _ => ⟨fun z => absurd z ht, fun _ => ⟨fun z => absurd rfl z, fun _ => ⟨rfl, hm.offY ((o1.tr o2).mono (by decide) (by decide))⟩⟩⟩)⟩, fun z => absurd hs z⟩)
  · exact s_misState hV hM (fun Y1 o1 _ _ => ⟨fun z => absurd z hs, fun _ => ⟨fun _ => ⟨rfl, hm.offY (o1.mono (by decide) (by decide))⟩, fun z => absurd rfl z⟩⟩)
theorem o_version {i s w : Int} (h : Rel m X Y) : fSt_version i s w X (Post m (fMd_version i s w Y)) := by
  have hm := h.mono (m' := m + 1) (by omega)
  obtain ⟨-, -, -, -, c, nt, t1, t2, p, b, -⟩ := id hm
  have hV := p.1
  have hC := p.2.2.1
  have hM := p.2.2.2.1
  have h16 := nS_le (cR c)
  have hN := hV.2.2.2.2.1
  refine s_xisIns hC ⟨fun hi => ⟨fun z => absurd z (by decide), fun _ => s_xisState hC ⟨fun hs => ⟨fun z => absurd z (by decide), fun _ => ?_⟩, fun hs => ⟨fun _ => ?_, fun z => absurd rfl z⟩⟩⟩, fun hi => ⟨fun _ => ?_, fun z => absurd rfl z⟩⟩
  · have i24 : inb i 24 := ⟨by omega, by omega⟩
    have hk := hV.2.2.2.2.2.1 i hi.1 hi.2
    have bad : ¬ (0 ≤ w ∧ w ≤ 2) → Post m (fMd_version i s w Y) (-1) X := fun hw => s_misCode hV hM ⟨fun _ => ⟨fun z => absurd z (by decide), fun _ => s_misState hV hM (fun Y1 o1 _ _ => ⟨fun _ => ⟨fun z => absurd z (by decide), fun _ => s_in ⟨fun z => absurd z hw, fun _ => ⟨fun z => absurd rfl z, fun _ => ⟨rfl, hm.offY (o1.mono (by decide) (by decide))⟩⟩⟩⟩, fun z => absurd hs z⟩)⟩, fun z => absurd hi z⟩
    refine ⟨fun q => bad (by omega), fun q1 => ⟨fun q2 => ⟨i24, ?_⟩, fun q2 => bad (by omega)⟩⟩
    have hw : 0 ≤ w ∧ w ≤ 2 := ⟨by omega, q2⟩
    rw [(hC.2.1 i hi.1 hi.2).1]
    -- what the reference says
    have ref : ∀ r, (hasV (cR c) (cK c i) s = true → (w = 0 → r = aft (cR c) (cK c i) s) ∧ (w = 1 → r = vc (cR c) c.1.2.1 c.1.2.2.1 c.1.2.2.2 (cK c i) s) ∧ (w = 2 → r = if plainV (cR c) (cK c i) s then 1 else 0)) → (hasV (cR c) (cK c i) s = false → r = -4) → Post m (fMd_version i s w Y) r X := by
      intro r h1 h2
      refine s_misCode hV hM ⟨fun _ => ⟨fun z => absurd z (by decide), fun _ => s_misState hV hM (fun Y1 o1 hT1 _ => ⟨fun _ => ⟨fun z => absurd z (by decide), fun _ => s_in ⟨fun _ => ⟨fun _ => ⟨i24, ?_⟩, fun z => absurd z (by decide)⟩, fun z => absurd hw z⟩⟩, fun z => absurd hs z⟩)⟩, fun z => absurd hi z⟩
      have hM1 := hM.off o1 (by decide)
      rw [(hM1.2.2 i hi.1 hi.2).1]
      refine s_mhas hV.1 hT1 ⟨hM1.1.2.1, hM1.1.2.2.1, hM1.1.2.2.2⟩ hV.2.2.1 hV.2.2.2.1 hk hs (fun Y2 o2 e23 e24 e25 => ?_)
      have hr : Rel (m + 1) X Y2 := (hm.offY (o1.mono (by decide) (by decide))).offY (o2.to.mono (by decide) (by decide))
      cases hv : hasV (cR c) (cK c i) s with
      | false =>
        rw [if_neg (by decide)]
        exact ⟨fun z => absurd rfl z, fun _ => ⟨h2 hv, hr⟩⟩
      | true =>
        rw [if_pos rfl]
        obtain ⟨g1, g2, g3⟩ := h1 hv
        refine ⟨fun _ => ⟨fun w0 => ⟨fun w1 => ?_, fun w1 => ⟨by rw [e24 hv]; exact g2 w1, hr⟩⟩, fun w0 => ⟨by rw [e23]; exact g1 w0, hr⟩⟩, fun z => absurd z (by decide)⟩
        rw [e25]
        have g3' := g3 (by omega)
        cases hp : plainV (cR c) (cK c i) s with
        | true => rw [hp, if_pos rfl] at g3'; rw [if_pos rfl]; exact ⟨fun z => absurd z (by decide), fun _ => ⟨g3', hr⟩⟩
        | false => rw [hp, if_neg (by decide)] at g3'; rw [if_neg (by decide)]; exact ⟨fun _ => ⟨g3', hr⟩, fun z => absurd rfl z⟩
    refine s_hasVersion hV.1 hC.2.2.1 hk hs ?_
    cases hv : hasV (cR c) (cK c i) s with
    | false =>
      rw [if_neg (by decide)]
      exact ⟨fun z => absurd rfl z, fun _ => ref (-4) (fun z => by rw [hv] at z; exact absurd z (by decide)) (fun _ => rfl)⟩
    | true =>
      rw [if_pos rfl]
      refine ⟨fun _ => ⟨fun w0 => s_stateAfter hV.1 hC.2.2.1 hk hs (ref _ (fun _ => ⟨fun _ => rfl, fun z => by omega, fun z => by omega⟩) (fun z => by rw [hv] at z; exact absurd z (by decide))), fun w1 => s_versionCost hV.1 hC.2.2.1 hC.2.2.2.1 hV.2.2.1 hV.2.2.2.1 hk hs (ref _ (fun _ => ⟨fun z => by omega, fun _ => rfl, fun z => by omega⟩) (fun z => by rw [hv] at z; exact absurd z (by decide))), fun w2 => s_isPlain hV.1 hC.2.2.1 hk hs ?_⟩, fun z => absurd z (by decide)⟩
      cases hp : plainV (cR c) (cK c i) s with
      | true => rw [if_pos rfl]; exact ⟨fun z => absurd z (by decide), fun _ => ref 1 (fun _ => ⟨fun z => by omega, fun z => by omega, fun _ => by rw [hp]; rfl⟩) (fun z => by rw [hv] at z; exact absurd z (by decide))⟩
      | false => rw [if_neg (by decide)]; exact ⟨fun _ => ref 0 (fun _ => ⟨fun z => by omega, fun z => by omega, fun _ => by rw [hp]; rfl⟩) (fun z => by rw [hv] at z; exact absurd z (by decide)), fun z => absurd rfl z⟩
  · exact s_misCode hV hM ⟨fun _ => ⟨fun z => absurd z (by decide), fun _ => s_misState hV hM (fun Y1 o1 _ _ => ⟨fun z => absurd z hs, fun _ => ⟨fun _ => ⟨rfl, hm.offY (o1.mono (by decide) (by decide))⟩, fun z => absurd rfl z⟩⟩)⟩, fun z => absurd hi z⟩
  · exact s_misCode hV hM ⟨fun z => absurd z hi, fun _ => ⟨fun _ => ⟨rfl, hm⟩, fun z => absurd rfl z⟩⟩
end O
