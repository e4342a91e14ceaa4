/-! passage, version -/
section O
variable {m : Int} {X Y : Mem} {c : Cf} {R : Int → Mem → Prop}
/-- the reference has laid its passages -/
theorem Rel.pass {Y' : Mem} {nt t1 t2 : Int} (h : Rel m X Y) (ho : Off [15, 16, 18, 19, 20] [20, 27] Y Y') (hM : MC c Y) (h27 : Y' 0 27 = 1) (hP : PassOK (cR c) c.1.2.1 c.1.2.2.1 c.1.2.2.2 Y') : Rel m X Y' := by
  obtain ⟨a, b, d, e, c', nt', ta, tb, ⟨p1, p2, p3, p4, p5, p6, p7, p8⟩, ⟨b1, b2, b3, b4, b5⟩, ⟨r1, r2⟩⟩ := h
  have hx : Off [] [] X X := Off.rf _ _ _
  have f : ∀ {i : Int}, i ∉ ([20, 27] : List Int) → Y' 0 i = Y 0 i := fun hi => ho.fld ⟨by decide, hi⟩
  have eR : cR c' = cR c ∧ c'.1.2.1 = c.1.2.1 ∧ c'.1.2.2.1 = c.1.2.2.1 ∧ c'.1.2.2.2 = c.1.2.2.2 := ⟨by rw [← p4.1.1, ← hM.1.1], by rw [← p4.1.2.1, ← hM.1.2.1], by rw [← p4.1.2.2.1, ← hM.1.2.2.1], by rw [← p4.1.2.2.2, ← hM.1.2.2.2]⟩
  refine ⟨a.off hx ho (by decide) (by decide), b.off hx ho (by decide) (by decide), d.off hx ho (by decide) (by decide), e.off hx ho (by decide) (by decide), c', nt', ta, tb, ⟨p1, p2, p3, p4.off ho (by decide), p5, ?_, p7, p8⟩, ⟨b1, ?_, Or.inr ⟨h27, ?_⟩, by rw [f (by decide)]; exact b4, by rw [ho.fn (c := 25) (by decide)]; exact b5⟩, ?_⟩
  · unfold NR at p6 ⊢; rw [ho.fn (c := 4) (by decide)]; exact p6
  · rw [f (by decide)]
    rcases b2 with z | ⟨z1, z2⟩
    · exact Or.inl z
    · exact Or.inr ⟨z1, z2.off ho (by decide)⟩
  · rw [eR.1, eR.2.1, eR.2.2.1, eR.2.2.2]; exact hP
  · unfold RR
    rw [f (i := 43) (by decide), f (i := 31) (by decide), h27, f (i := 44) (by decide), f (i := 46) (by decide), f (i := 48) (by decide), f (i := 52) (by decide), f (i := 49) (by decide), f (i := 50) (by decide), f (i := 45) (by decide), ho.fn (c := 27) (by decide), ho.fn (c := 28) (by decide), ho.fn (c := 29) (by decide), ho.fn (c := 30) (by decide)]
    refine ⟨r1, ?_⟩
    rcases r2 with z | ⟨z0, z1, z2⟩
    · exact Or.inl z
    · exact Or.inr ⟨z0, ⟨z1.1, z1.2.1, rfl⟩, z2⟩
theorem o_passage {x y : Int} (h : Rel m X Y) : fSt_passage x y X (Post m (fMd_passage x y Y)) := by
  have hm := h.mono (m' := m + 1) (by omega)
  obtain ⟨-, -, -, -, c, nt, t1, t2, p, b, -⟩ := id hm
  have hV := p.1
  have hC := p.2.2.1
  have hM := p.2.2.2.1
  have h16 := nS_le (cR c)
  refine s_xisState hC ⟨fun hs => ⟨fun z => absurd z (by decide), fun _ => s_xisState hC ⟨fun ht => ⟨fun _ => ?_, fun z => absurd z (by decide)⟩, fun ht => ⟨fun z => absurd rfl z, fun _ => ?_⟩⟩⟩, fun hs => ⟨fun _ => ?_, fun z => absurd rfl z⟩⟩
  · have w1 : wrap (wrap (x * 16) + y) = 16 * x + y := by rw [wrapI (z := x * 16) (by omega) (by omega), wrapI (by omega) (by omega)]; omega
    have w2 : wrap (wrap (16 * x) + y) = 16 * x + y := by rw [wrapI (z := 16 * x) (by omega) (by omega), wrapI (by omega) (by omega)]
    unfold fMa_passageCost
    rw [w1, hC.2.2.2.2.2 x y hs.1 hs.2 ht.1 ht.2]
    refine ⟨⟨by omega, by omega⟩, s_misState hV hM (fun Y1 o1 _ _ => ⟨fun _ => ⟨fun z => absurd z (by decide), fun _ => s_misState hV (hM.off o1 (by decide)) (fun Y2 o2 _ _ => ⟨fun _ => ⟨fun _ => ?_, fun z => absurd z (by decide)⟩, fun z => absurd ht z⟩)⟩, fun z => absurd hs z⟩)⟩
    have o12 : Off [15, 16] [20] Y Y2 := o1.tr o2
    have hm2 := hm.offY (o12.mono (by decide) (by decide))
    have hM2 := hM.off o12 (by decide)
    have h27 : Y2 0 27 = 0 ∨ (Y2 0 27 = 1 ∧ PassOK (cR c) c.1.2.1 c.1.2.2.1 c.1.2.2.2 Y2) := by
      rw [o12.fld (by decide)]
      unfold PassOK
      rw [o12.fn (c := 18) (by decide)]
      exact b.2.2.1
    refine s_laysPassages hV.1 hM2.1 hV.2.1 hV.2.2.1 hV.2.2.2.1 h27 (fun Y3 o3 hT3 h20 h27' hP3 => ?_)
    rw [w2, hP3 x y hs.1 hs.2 ht.1 ht.2]
    exact ⟨⟨by omega, by omega⟩, rfl, hm2.pass (nt := nt) (t1 := t1) (t2 := t2) o3.to hM2 h27' hP3⟩
  · exact s_misState hV hM (fun Y1 o1 _ _ => ⟨fun _ => ⟨fun z => absurd z (by decide), fun _ => s_misState hV (hM.off o1 (by decide)) (fun Y2 o2 _ _ => ⟨fun z => absurd z ht, fun _ => ⟨fun z => absurd rfl z, fun _ => ⟨rfl, hm.offY ((o1.tr o2).mono (by decide) (by decide))⟩⟩⟩)⟩, fun z => absurd hs z⟩)
  · exact s_misState hV hM (fun Y1 o1 _ _ => ⟨fun z => absurd z hs, fun _ => ⟨fun _ => ⟨rfl, hm.offY (o1.mono (by decide) (by decide))⟩, fun z => absurd rfl z⟩⟩)
end O
