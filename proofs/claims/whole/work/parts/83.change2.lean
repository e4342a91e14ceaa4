/-! registers, costs, weigh, undo -/
section C
variable {m : Int} {X Y X1 Y1 X2 Y2 X3 : Mem} {R : Int → Mem → Prop}
/-- x refreshes after its settings have changed -/
theorem s_refreshS (h : Rel m X Y) (ox : Off [5, 6, 7] [] X X2) (b0 : 1 ≤ X2 5 0 ∧ X2 5 0 ≤ 3) (b1 : 0 ≤ X2 5 1 ∧ X2 5 1 ≤ 9) (b2 : 0 ≤ X2 5 2 ∧ X2 5 2 ≤ 9) (b3 : 0 ≤ X2 5 3 ∧ X2 5 3 ≤ 9)
    (g : ∀ X3, Off rfS [] X2 X3 → MX (X2 5 0) (X2 5 1) (X2 5 2) (X2 5 3) X3 → X3 27 17 = 0 → X3 27 18 = 0 → X3 40 7 = 0 → R 0 X3) : fSt_refresh X2 R := by
  obtain ⟨-, -, -, -, c, nt, t1, t2, p, -⟩ := h
  have hC : XC c X2 → True := fun _ => trivial
  obtain ⟨x1, x2, x3, x4, x5, x6⟩ := p.2.2.1
  have e8 : X2 8 = X 8 := ox.fn (by decide)
  refine s_refresh b0 b1 b2 b3 ⟨rfl, rfl, rfl, rfl⟩ (fun z => ?_) (fun z z1 z2 z3 => ?_) g
  · rw [e8, x3.1] at z
    rw [← z]; exact x3.off ox (by decide)
  · rw [e8] at z z1 z2 z3
    rw [x3.1] at z
    rw [x4.1] at z1
    rw [x4.2.1] at z2
    rw [x4.2.2] at z3
    rw [← z, ← z1, ← z2, ← z3]
    have hm : MX (cR c) c.1.2.1 c.1.2.2.1 c.1.2.2.2 X := ⟨x3, x4, x6⟩
    exact hm.off ox (by decide) (by decide)
theorem Rel.set (h : Rel m X Y) (ox : Off [5, 6, 7] [] X X2) (oy : Off [1, 2] [2, 27, 31, 43] Y Y2) (d : RS X2 Y2) (e : RU X2 Y2) (y43 : Y2 0 43 = 0) (y31 : Y2 0 31 = 0) (y27 : Y2 0 27 = 0) (o3 : Off rfS [] X2 X3) (hMX : MX (X2 5 0) (X2 5 1) (X2 5 2) (X2 5 3) X3) (k17 : X3 27 17 = 0) (k18 : X3 27 18 = 0) (k7 : X3 40 7 = 0) : Rel m X3 Y2 := by
  obtain ⟨a, b, -, -, c, nt, t1, t2, ⟨p1, p2, p3, p4, p5, p6, p7, p8⟩, ⟨q1, q2, q3, q4, q5⟩, -⟩ := h
  obtain ⟨r1, r2, r3, r4, r5⟩ := d.2.2.2.2.2
  obtain ⟨v1, v2, v3, v4, v5, v6, v7, v8⟩ := p1
  refine Rel.renew (c := ((Y2 1 0, Y2 1 1, Y2 1 2, Y2 1 3), c.2.1, c.2.2.1, c.2.2.2.1, c.2.2.2.2.1, c.2.2.2.2.2.1, fun i => Y2 1 (4 + i))) (nt := nt) (t1 := t1) (t2 := t2) (a.off ox oy (by decide) (by decide)) (b.off ox oy (by decide) (by decide)) d e ?_ p2 ?_ ?_ p5 ?_ ?_ ?_ o3 ?_ k17 k18 k7 y31 (Or.inl y27) ?_ ?_ y43
  · exact ⟨r1, r2, r3, r4, v5, v6, fun i i0 i1 => r5 i i0 (by have : i < cN c := i1; omega), v8⟩
  · refine ⟨⟨rfl, rfl, rfl, rfl⟩, ?_, fun i i0 i1 => ?_⟩
    · rw [oy.fld (by decide)]; exact p4.2.1
    · obtain ⟨z1, z2, z3, z4, z5, z6⟩ := p4.2.2 i i0 i1
      rw [oy.cell (c := 3) (by decide), oy.cell (c := 5) (by decide), oy.cell (c := 6) (by decide), oy.cell (c := 4) (by decide)]
      exact ⟨z1, z2, z3, z4, rfl, z6⟩
  · refine ⟨by rw [ox.cell (by decide)]; exact p3.1, fun i i0 i1 => ?_⟩
    obtain ⟨z1, z2, z3, z4, z5, z6⟩ := p3.2.1 i i0 i1
    rw [ox.cell (c := 14) (by decide), ox.cell (c := 17) (by decide), ox.cell (c := 19) (by decide), ox.cell (c := 15) (by decide)]
    exact ⟨z1, z2, z3, z4, d.2.2.2.2.1 i i0 (by have : i < cN c := i1; omega), z6⟩
  · unfold NR at p6 ⊢; rw [oy.fn (c := 4) (by decide), ox.fn (c := 15) (by decide)]; exact p6
  · rw [ox.cell (by decide)]; exact p7
  · rw [ox.cell (by decide)]; exact p8
  · rw [d.1, d.2.1, d.2.2.1, d.2.2.2.1] at hMX; exact hMX
  · rw [oy.fld (by decide)]; exact q4
  · rw [oy.cell (by decide)]; exact q5
/-- the settings are kept for undo -/
theorem RU.note {p q : Int} (e : RU X Y) (d : RS X Y) (hp : X 5 7 = p) (hq : X 5 5 = q)
    (x5 : X1 5 5 = min (q + 1) 6) (x7 : X1 5 7 = (p + 1) % 6) (xr : ∀ k, 0 ≤ k → k < 28 → X1 7 (28 * p + k) = rwX X k) (xo : ∀ r k, 0 ≤ r → r < 6 → r ≠ p → 0 ≤ k → k < 28 → X1 7 (28 * r + k) = X 7 (28 * r + k))
    (y2 : Y1 0 2 = min (q + 1) 6) (yr : ∀ k, 0 ≤ k → k < 28 → Y1 2 (28 * (min (q + 1) 6 - 1) + k) = Y 1 k) (yo : ∀ j k, 0 ≤ j → j < min (q + 1) 6 - 1 → 0 ≤ k → k < 28 → Y1 2 (28 * j + k) = Y 2 (28 * (if q = 6 then j + 1 else j) + k)) : RU X1 Y1 := by
  obtain ⟨e1, e2, e3, e4⟩ := e
  rw [hq] at e1 e2 e4
  rw [hp] at e3 e4
  have rw1 : ∀ k, 0 ≤ k → k < 28 → rwX X k = Y 1 k := fun k k0 k1 => by
    unfold rwX
    obtain ⟨d0, d1, d2, d3, d4, -⟩ := d
    by_cases z0 : k = 0
    · rw [if_pos z0, z0]; exact d0
    · rw [if_neg z0]
      by_cases z1 : k = 1
      · rw [if_pos z1, z1]; exact d1
      · rw [if_neg z1]
        by_cases z2 : k = 2
        · rw [if_pos z2, z2]; exact d2
        · rw [if_neg z2]
          by_cases z3 : k = 3
          · rw [if_pos z3, z3]; exact d3
          · rw [if_neg z3, d4 (k - 4) (by omega) (by omega)]; congr 1; omega
  unfold RU
  rw [x5, x7, y2]
  refine ⟨rfl, by omega, by omega, fun j j0 j1 => ?_⟩
  by_cases zj : j = min (q + 1) 6 - 1
  · have er : ((p + 1) % 6 + 6 - min (q + 1) 6 + j) % 6 = p := by omega
    rw [er, zj]
    refine ⟨fun k k0 k1 => by rw [xr k k0 k1, yr k k0 k1, rw1 k k0 k1], ?_⟩
    obtain ⟨r1, r2, r3, r4, r5⟩ := d.2.2.2.2.2
    refine ⟨?_, ?_, ?_, ?_, fun i i0 i1 => ?_⟩
    · show 1 ≤ Y1 2 (28 * (min (q + 1) 6 - 1) + 0) ∧ Y1 2 (28 * (min (q + 1) 6 - 1) + 0) ≤ 3
      rw [yr 0 (by omega) (by omega)]; exact r1
    · show 0 ≤ Y1 2 (28 * (min (q + 1) 6 - 1) + 1) ∧ Y1 2 (28 * (min (q + 1) 6 - 1) + 1) ≤ 9
      rw [yr 1 (by omega) (by omega)]; exact r2
    · show 0 ≤ Y1 2 (28 * (min (q + 1) 6 - 1) + 2) ∧ Y1 2 (28 * (min (q + 1) 6 - 1) + 2) ≤ 9
      rw [yr 2 (by omega) (by omega)]; exact r3
    · show 0 ≤ Y1 2 (28 * (min (q + 1) 6 - 1) + 3) ∧ Y1 2 (28 * (min (q + 1) 6 - 1) + 3) ≤ 9
      rw [yr 3 (by omega) (by omega)]; exact r4
    · show 1 ≤ Y1 2 (28 * (min (q + 1) 6 - 1) + (4 + i)) ∧ Y1 2 (28 * (min (q + 1) 6 - 1) + (4 + i)) ≤ 999
      rw [yr (4 + i) (by omega) (by omega)]; exact r5 i i0 i1
  · have hj' : ∃ j', j' = (if q = 6 then j + 1 else j) ∧ 0 ≤ j' ∧ j' < q ∧ (p + 6 - q + j') % 6 = ((p + 1) % 6 + 6 - min (q + 1) 6 + j) % 6 ∧ (p + 6 - q + j') % 6 ≠ p := by
      by_cases z : q = 6
      · exact ⟨j + 1, by rw [if_pos z], by omega, by omega, by omega, by omega⟩
      · exact ⟨j, by rw [if_neg z], by omega, by omega, by omega, by omega⟩
    obtain ⟨j', ej, j'0, j'1, er, hne⟩ := hj'
    have ej4 := e4 j' j'0 j'1
    rw [er] at ej4 hne
    have yy : ∀ k, 0 ≤ k → k < 28 → Y1 2 (28 * j + k) = Y 2 (28 * j' + k) := fun k k0 k1 => by rw [yo j k j0 (by omega) k0 k1, ← ej]
    refine ⟨fun k k0 k1 => ?_, ?_⟩
    · rw [xo _ k (by omega) (by omega) hne k0 k1, ej4.1 k k0 k1, yy k k0 k1]
    · obtain ⟨r1, r2, r3, r4, r5⟩ := ej4.2
      refine ⟨?_, ?_, ?_, ?_, fun i i0 i1 => ?_⟩
      · show 1 ≤ Y1 2 (28 * j + 0) ∧ Y1 2 (28 * j + 0) ≤ 3
        rw [yy 0 (by omega) (by omega)]; exact r1
      · show 0 ≤ Y1 2 (28 * j + 1) ∧ Y1 2 (28 * j + 1) ≤ 9
        rw [yy 1 (by omega) (by omega)]; exact r2
      · show 0 ≤ Y1 2 (28 * j + 2) ∧ Y1 2 (28 * j + 2) ≤ 9
        rw [yy 2 (by omega) (by omega)]; exact r3
      · show 0 ≤ Y1 2 (28 * j + 3) ∧ Y1 2 (28 * j + 3) ≤ 9
        rw [yy 3 (by omega) (by omega)]; exact r4
      · show 1 ≤ Y1 2 (28 * j + (4 + i)) ∧ Y1 2 (28 * j + (4 + i)) ≤ 999
        rw [yy (4 + i) (by omega) (by omega)]; exact r5 i i0 i1
theorem RU.eq (e : RU X1 Y1) (h5 : X2 5 5 = X1 5 5) (h7 : X2 5 7 = X1 5 7) (hr : X2 7 = X1 7) (y2 : Y2 0 2 = Y1 0 2) (yr : Y2 2 = Y1 2) : RU X2 Y2 := by
  unfold RU at e ⊢
  rw [h5, h7, hr, y2, yr]; exact e
/-- x remembers; then the reference notes -/
def NtX (X X1 : Mem) : Prop := Off [5, 7] [] X X1 ∧ (∀ f, f ≠ 5 → f ≠ 7 → X1 5 f = X 5 f) ∧ ∀ Y (R : Int → Mem → Prop), RS X Y → RU X Y → (∀ Y1, Off [2] [2, 27, 31, 43] Y Y1 → Y1 0 43 = 0 → Y1 0 31 = 0 → Y1 0 27 = 0 → RU X1 Y1 → R 0 Y1) → fMd_notes Y R
theorem s_rememberN (e : RU X Y) (h : ∀ X1, NtX X X1 → R 0 X1) : fSe_remember X R := by
  obtain ⟨e1, e2, e3, e4⟩ := e
  refine s_remember ⟨rfl, e3⟩ ⟨rfl, e2⟩ (fun X1 o1 f1 x5 x7 xr xo => h X1 ⟨o1, f1, fun Y' R' d' e' h' => ?_⟩)
  exact s_notes (q := X 5 5) ⟨e'.1.symm, e'.2.1⟩ (fun Y1 oy y2 y43 y31 y27 yr yo => h' Y1 oy y43 y31 y27 (RU.note e' d' rfl rfl x5 x7 xr xo y2 yr yo))
theorem o_registers {x : Int} (h : Rel m X Y) : fSt_registers x X (Post m (fMd_registers x Y)) := by
  have hm := h.mono (m' := m + 1) (by omega)
  obtain ⟨-, -, d, e, -⟩ := id hm
  have bad : ¬ (1 ≤ x ∧ x ≤ 3) → Post m (fMd_registers x Y) (-1) X := fun z => s_in ⟨fun y => absurd y z, fun _ => ⟨fun y => absurd rfl y, fun _ => ⟨rfl, hm⟩⟩⟩
  refine ⟨fun z => bad (by omega), fun z1 => ⟨fun z2 => ⟨fun z => ?_, fun z => ?_⟩, fun z2 => bad (by omega)⟩⟩
  · refine s_rememberN e (fun X1 hN => ?_)
    obtain ⟨o1, f1, hN⟩ := hN
    obtain ⟨r1, r2, r3, r4, r5⟩ := d.2.2.2.2.2
    have g1 : (mu X1 5 0 x) 5 1 = Y 1 1 := by rw [mu_place (by decide), f1 1 (by decide) (by decide)]; exact d.2.1
    have g2 : (mu X1 5 0 x) 5 2 = Y 1 2 := by rw [mu_place (by decide), f1 2 (by decide) (by decide)]; exact d.2.2.1
    have g3 : (mu X1 5 0 x) 5 3 = Y 1 3 := by rw [mu_place (by decide), f1 3 (by decide) (by decide)]; exact d.2.2.2.1
    have ox : Off [5, 6, 7] [] X (mu X1 5 0 x) := (o1.mono (by decide) (by decide)).mu (Or.inl (by decide))
    refine s_refreshS hm ox (by rw [mu_same]; omega) (by rw [g1]; exact r2) (by rw [g2]; exact r3) (by rw [g3]; exact r4) (fun X3 o3 hMX k17 k18 k7 => ?_)
    refine s_in ⟨fun _ => ⟨fun _ => ⟨fun _ => hN Y _ d e (fun Y1 oy y43 y31 y27 hU => ?_), fun y => absurd (d.1.trans y) z⟩, fun y => absurd y (by decide)⟩, fun y => absurd ⟨by omega, by omega⟩ y⟩
    have oy' : Off [1, 2] [2, 27, 31, 43] Y (mu Y1 1 0 x) := (oy.mono (by decide) (by decide)).mu (Or.inl (by decide))
    have e1 : ∀ i, Y1 1 i = Y 1 i := oy.cell (by decide)
    have y1 : ∀ i, i ≠ 0 → (mu Y1 1 0 x) 1 i = Y 1 i := fun i hi => by rw [mu_place hi]; exact e1 i
    refine ⟨d.1, Rel.set hm ox oy' ⟨by rw [mu_same, mu_same], by rw [g1, y1 1 (by decide)], by rw [g2, y1 2 (by decide)], by rw [g3, y1 3 (by decide)], fun i i0 i1 => ?_, ?_⟩ (hU.eq (mu_place (by decide)) (mu_place (by decide)) (mu_fun (by decide)) (mu_cell (by decide)) (mu_fun (by decide))) (by rw [mu_cell (by decide)]; exact y43) (by rw [mu_cell (by decide)]; exact y31) (by rw [mu_cell (by decide)]; exact y27) o3 hMX k17 k18 k7⟩
    · rw [y1 _ (by omega), mu_cell (by decide), o1.cell (by decide)]; exact d.2.2.2.2.1 i i0 i1
    · refine ⟨by rw [mu_same]; omega, by rw [y1 1 (by decide)]; exact r2, by rw [y1 2 (by decide)]; exact r3, by rw [y1 3 (by decide)]; exact r4, fun i i0 i1 => by rw [y1 _ (by omega)]; exact r5 i i0 i1⟩
  · exact s_in ⟨fun _ => ⟨fun _ => ⟨fun y => absurd (d.1.symm.trans z) y, fun _ => ⟨rfl, hm⟩⟩, fun y => absurd y (by decide)⟩, fun y => absurd ⟨by omega, by omega⟩ y⟩
end C
