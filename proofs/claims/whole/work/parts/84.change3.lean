/-! costs, weigh, undo -/
section C
variable {m : Int} {X Y X1 Y1 X2 Y2 X3 : Mem} {R : Int → Mem → Prop}
theorem s_isCost {x : Int} (h : ((0 ≤ x ∧ x ≤ 9) → R 1 X) ∧ (¬ (0 ≤ x ∧ x ≤ 9) → R 0 X)) : fSt_isCost x X R := by
  unfold fSt_isCost fSt_isCost_14
  exact ⟨fun q => h.2 (fun z => by omega), fun q1 => ⟨fun q2 => h.2 (fun z => by omega), fun q2 => h.1 ⟨by omega, by omega⟩⟩⟩
theorem o_costs {x y z : Int} (h : Rel m X Y) : fSt_costs x y z X (Post m (fMd_costs x y z Y)) := by
  have hm := h.mono (m' := m + 1) (by omega)
  obtain ⟨-, -, d, e, -⟩ := id hm
  obtain ⟨r1, r2, r3, r4, r5⟩ := d.2.2.2.2.2
  have d1 := d.2.1
  have d2 := d.2.2.1
  have d3 := d.2.2.2.1
  refine s_isCost ⟨fun hx => ⟨fun q => absurd q (by decide), fun _ => s_isCost ⟨fun hy => ⟨fun q => absurd q (by decide), fun _ => s_isCost ⟨fun hz => ⟨fun _ => ?_, fun q => absurd q (by decide)⟩, fun hz => ⟨fun q => absurd rfl q, fun _ => ?_⟩⟩⟩, fun hy => ⟨fun _ => ?_, fun q => absurd rfl q⟩⟩⟩, fun hx => ⟨fun _ => ?_, fun q => absurd rfl q⟩⟩
  · have w0 : wrap (wrap (wrap (100 * Y 1 1) + wrap (10 * Y 1 2)) + Y 1 3) = 100 * Y 1 1 + 10 * Y 1 2 + Y 1 3 := by rw [wrapI (z := 100 * Y 1 1) (by omega) (by omega), wrapI (z := 10 * Y 1 2) (by omega) (by omega), wrapI (z := 100 * Y 1 1 + 10 * Y 1 2) (by omega) (by omega), wrapI (by omega) (by omega)]
    have w1 : wrap (wrap (wrap (100 * x) + wrap (10 * y)) + z) = 100 * x + 10 * y + z := by rw [wrapI (z := 100 * x) (by omega) (by omega), wrapI (z := 10 * y) (by omega) (by omega), wrapI (z := 100 * x + 10 * y) (by omega) (by omega), wrapI (by omega) (by omega)]
    have ref : ∀ {v : Int} {Z : Mem}, (100 * Y 1 1 + 10 * Y 1 2 + Y 1 3 ≠ 100 * x + 10 * y + z → fMd_notes Y (fun r4 M4 => v = 100 * Y 1 1 + 10 * Y 1 2 + Y 1 3 ∧ Rel (m + 1) Z (mu (mu (mu M4 1 1 x) 1 2 y) 1 3 z))) → (100 * Y 1 1 + 10 * Y 1 2 + Y 1 3 = 100 * x + 10 * y + z → v = -2 ∧ Rel (m + 1) Z Y) → Post m (fMd_costs x y z Y) v Z := by
      intro v Z h1 h2
      refine s_in ⟨fun _ => ⟨fun q => absurd q (by decide), fun _ => s_in ⟨fun _ => ⟨fun q => absurd q (by decide), fun _ => s_in ⟨fun _ => ⟨fun _ => ?_, fun q => absurd q (by decide)⟩, fun q => absurd hz q⟩⟩, fun q => absurd hy q⟩⟩, fun q => absurd hx q⟩
      rw [w0, w1]
      exact ⟨h1, h2⟩
    have main : ¬ (X 5 1 = x ∧ X 5 2 = y ∧ X 5 3 = z) → fSt_costs_59 (Post m (fMd_costs x y z Y)) x y z X := by
      intro hne
      unfold fSt_costs_59
      rw [d1, d2, d3, w0]
      refine s_rememberN e (fun X1 hN => ?_)
      obtain ⟨o1, f1, hN⟩ := hN
      have g0 : (mu (mu (mu X1 5 1 x) 5 2 y) 5 3 z) 5 0 = Y 1 0 := by rw [mu_place (by decide), mu_place (by decide), mu_place (by decide), f1 0 (by decide) (by decide)]; exact d.1
      have g1 : (mu (mu (mu X1 5 1 x) 5 2 y) 5 3 z) 5 1 = x := by simp [mu]
      have g2 : (mu (mu (mu X1 5 1 x) 5 2 y) 5 3 z) 5 2 = y := by simp [mu]
      have g3 : (mu (mu (mu X1 5 1 x) 5 2 y) 5 3 z) 5 3 = z := by simp [mu]
      have ox : Off [5, 6, 7] [] X (mu (mu (mu X1 5 1 x) 5 2 y) 5 3 z) := (((o1.mono (by decide) (by decide)).mu (Or.inl (by decide))).mu (Or.inl (by decide))).mu (Or.inl (by decide))
      refine s_refreshS hm ox (by rw [g0]; exact r1) (by rw [g1]; exact hx) (by rw [g2]; exact hy) (by rw [g3]; exact hz) (fun X3 o3 hMX k17 k18 k7 => ref (fun _ => hN Y _ d e (fun Y1 oy y43 y31 y27 hU => ⟨rfl, ?_⟩)) (fun q => absurd ⟨by omega, by omega, by omega⟩ hne))
      have oy' : Off [1, 2] [2, 27, 31, 43] Y (mu (mu (mu Y1 1 1 x) 1 2 y) 1 3 z) := (((oy.mono (by decide) (by decide)).mu (Or.inl (by decide))).mu (Or.inl (by decide))).mu (Or.inl (by decide))
      have e1 : ∀ i, Y1 1 i = Y 1 i := oy.cell (by decide)
      have y1 : ∀ i, i ≠ 1 → i ≠ 2 → i ≠ 3 → (mu (mu (mu Y1 1 1 x) 1 2 y) 1 3 z) 1 i = Y 1 i := fun i i1 i2 i3 => by rw [mu_place i3, mu_place i2, mu_place i1]; exact e1 i
      have k1 : (mu (mu (mu Y1 1 1 x) 1 2 y) 1 3 z) 1 1 = x := by simp [mu]
      have k2 : (mu (mu (mu Y1 1 1 x) 1 2 y) 1 3 z) 1 2 = y := by simp [mu]
      have k3 : (mu (mu (mu Y1 1 1 x) 1 2 y) 1 3 z) 1 3 = z := by simp [mu]
      have c0 : ∀ i, (mu (mu (mu Y1 1 1 x) 1 2 y) 1 3 z) 0 i = Y1 0 i := fun i => by rw [mu_cell (by decide), mu_cell (by decide), mu_cell (by decide)]
      refine Rel.set hm ox oy' ⟨by rw [g0, y1 0 (by decide) (by decide) (by decide)], by rw [g1, k1], by rw [g2, k2], by rw [g3, k3], fun i i0 i1 => ?_, ?_⟩ (hU.eq (by simp [mu]) (by simp [mu]) (by rw [mu_fun (by decide), mu_fun (by decide), mu_fun (by decide)]) (c0 2) (by rw [mu_fun (by decide), mu_fun (by decide), mu_fun (by decide)])) (by rw [c0]; exact y43) (by rw [c0]; exact y31) (by rw [c0]; exact y27) o3 hMX k17 k18 k7
      · rw [y1 _ (by omega) (by omega) (by omega), mu_cell (by decide), mu_cell (by decide), mu_cell (by decide), o1.cell (by decide)]; exact d.2.2.2.2.1 i i0 i1
      · exact ⟨by rw [y1 0 (by decide) (by decide) (by decide)]; exact r1, by rw [k1]; exact hx, by rw [k2]; exact hy, by rw [k3]; exact hz, fun i i0 i1 => by rw [y1 _ (by omega) (by omega) (by omega)]; exact r5 i i0 i1⟩
    refine ⟨fun q => main (fun w => q w.1), fun q1 => ⟨fun q => main (fun w => q w.2.1), fun q2 => ⟨fun q => main (fun w => q w.2.2), fun q3 => ref (fun q => absurd (by omega) q) (fun _ => ⟨rfl, hm⟩)⟩⟩⟩
  · exact s_in ⟨fun _ => ⟨fun q => absurd q (by decide), fun _ => s_in ⟨fun _ => ⟨fun q => absurd q (by decide), fun _ => s_in ⟨fun q => absurd q hz, fun _ => ⟨fun q => absurd rfl q, fun _ => ⟨rfl, hm⟩⟩⟩⟩, fun q => absurd hy q⟩⟩, fun q => absurd hx q⟩
  · exact s_in ⟨fun _ => ⟨fun q => absurd q (by decide), fun _ => s_in ⟨fun q => absurd q hy, fun _ => ⟨fun _ => ⟨rfl, hm⟩, fun q => absurd rfl q⟩⟩⟩, fun q => absurd hx q⟩
  · exact s_in ⟨fun q => absurd q hx, fun _ => ⟨fun _ => ⟨rfl, hm⟩, fun q => absurd rfl q⟩⟩
theorem o_weigh {i w : Int} (h : Rel m X Y) : fSt_weigh i w X (Post m (fMd_weigh i w Y)) := by
  have hm := h.mono (m' := m + 1) (by omega)
  obtain ⟨-, -, d, e, c, nt, t1, t2, p, -⟩ := id hm
  have hV := p.1
  have hC := p.2.2.1
  have hM := p.2.2.2.1
  have hN := hV.2.2.2.2.1
  obtain ⟨r1, r2, r3, r4, r5⟩ := d.2.2.2.2.2
  refine s_xisIns hC ⟨fun hi => ⟨fun z => absurd z (by decide), fun _ => ?_⟩, fun hi => ⟨fun _ => s_misCode hV hM ⟨fun z => absurd z hi, fun _ => ⟨fun _ => ⟨rfl, hm⟩, fun z => absurd rfl z⟩⟩, fun z => absurd rfl z⟩⟩
  have i24 : inb i 24 := ⟨by omega, by omega⟩
  have w4 : wrap (4 + i) = 4 + i := wrapI (by omega) (by omega)
  have bad : ¬ (1 ≤ w ∧ w ≤ 999) → Post m (fMd_weigh i w Y) (-1) X := fun hw => s_misCode hV hM ⟨fun _ => ⟨fun z => absurd z (by decide), fun _ => s_in ⟨fun z => absurd z hw, fun _ => ⟨fun z => absurd rfl z, fun _ => ⟨rfl, hm⟩⟩⟩⟩, fun z => absurd hi z⟩
  refine ⟨fun q => bad (by omega), fun q1 => ⟨fun q2 => ⟨i24, ?_⟩, fun q2 => bad (by omega)⟩⟩
  have hw : 1 ≤ w ∧ w ≤ 999 := ⟨by omega, q2⟩
  have d6 : X 6 i = Y 1 (4 + i) := d.2.2.2.2.1 i hi.1 (by omega)
  have ref : ∀ {v : Int} {Z : Mem}, (Y 1 (4 + i) ≠ w → fMd_notes Y (fun r3 M3 => v = Y 1 (4 + i) ∧ Rel (m + 1) Z (mu M3 1 (4 + i) w))) → (Y 1 (4 + i) = w → v = -2 ∧ Rel (m + 1) Z Y) → Post m (fMd_weigh i w Y) v Z := by
    intro v Z h1 h2
    unfold Post fMd_weigh
    rw [w4]
    refine s_misCode hV hM ⟨fun _ => ⟨fun z => absurd z (by decide), fun _ => s_in ⟨fun _ => ⟨fun _ => ⟨⟨by omega, by omega⟩, fun z => ?_, h2⟩, fun z => absurd z (by decide)⟩, fun z => absurd hw z⟩⟩, fun z => absurd hi z⟩
    have i28 : inb (4 + i) 28 := ⟨by omega, by omega⟩
    have := h1 z
    simpa [i28] using this
  refine ⟨fun z => s_rememberN e (fun X1 hN => ⟨i24, ?_⟩), fun z => ref (fun q => absurd (d6.symm.trans z) q) (fun _ => ⟨rfl, hm⟩)⟩
  obtain ⟨o1, f1, hN'⟩ := hN
  have g0 : ∀ f, f ≠ 5 → f ≠ 7 → (mu X1 6 i w) 5 f = X 5 f := fun f f5 f7 => by rw [mu_cell (by decide)]; exact f1 f f5 f7
  have ox : Off [5, 6, 7] [] X (mu X1 6 i w) := (o1.mono (by decide) (by decide)).mu (Or.inl (by decide))
  refine s_refreshS hm ox (by rw [g0 0 (by decide) (by decide), d.1]; exact r1) (by rw [g0 1 (by decide) (by decide), d.2.1]; exact r2) (by rw [g0 2 (by decide) (by decide), d.2.2.1]; exact r3) (by rw [g0 3 (by decide) (by decide), d.2.2.2.1]; exact r4) (fun X3 o3 hMX k17 k18 k7 => ref (fun _ => hN' Y _ d e (fun Y1 oy y43 y31 y27 hU => ⟨d6, ?_⟩)) (fun q => absurd (d6.trans q) z))
  have oy' : Off [1, 2] [2, 27, 31, 43] Y (mu Y1 1 (4 + i) w) := (oy.mono (by decide) (by decide)).mu (Or.inl (by decide))
  have e1 : ∀ i, Y1 1 i = Y 1 i := oy.cell (by decide)
  have y1 : ∀ j, j ≠ 4 + i → (mu Y1 1 (4 + i) w) 1 j = Y 1 j := fun j hj => by rw [mu_place hj]; exact e1 j
  have y1s : (mu Y1 1 (4 + i) w) 1 (4 + i) = w := mu_same _ _ _ _
  refine Rel.set hm ox oy' ⟨by rw [g0 0 (by decide) (by decide), y1 0 (by omega)]; exact d.1, by rw [g0 1 (by decide) (by decide), y1 1 (by omega)]; exact d.2.1, by rw [g0 2 (by decide) (by decide), y1 2 (by omega)]; exact d.2.2.1, by rw [g0 3 (by decide) (by decide), y1 3 (by omega)]; exact d.2.2.2.1, fun j j0 j1 => ?_, ?_⟩ (hU.eq (mu_cell (by decide)) (mu_cell (by decide)) (mu_fun (by decide)) (mu_cell (by decide)) (mu_fun (by decide))) (by rw [mu_cell (by decide)]; exact y43) (by rw [mu_cell (by decide)]; exact y31) (by rw [mu_cell (by decide)]; exact y27) o3 hMX k17 k18 k7
  · by_cases y : j = i
    · rw [y, mu_same, mu_same]
    · rw [mu_place y, y1 _ (by omega), o1.cell (by decide)]; exact d.2.2.2.2.1 j j0 j1
  · refine ⟨by rw [y1 0 (by omega)]; exact r1, by rw [y1 1 (by omega)]; exact r2, by rw [y1 2 (by omega)]; exact r3, by rw [y1 3 (by omega)]; exact r4, fun j j0 j1 => ?_⟩
    by_cases y : j = i
    · rw [y, y1s]; exact hw
    · rw [y1 _ (by omega)]; exact r5 j j0 j1
theorem s_undo22 {q : Int} {N : Mem} (hq : N 0 2 = q ∧ 0 ≤ q ∧ q ≤ 5) (h : ∀ Y1, Off [1] [27, 31, 43] N Y1 → Y1 0 43 = 0 → Y1 0 31 = 0 → Y1 0 27 = 0 → (∀ k, 0 ≤ k → k < 28 → Y1 1 k = N 2 (28 * q + k)) → R q Y1) : ∃ n, fMd_undo_22 R n 0 N := by
  have key : ∀ (d : Nat) (x : Int) (M : Mem), 0 ≤ x → x + d = 28 → Off [1] [] N M → (∀ k, 0 ≤ k → k < x → M 1 k = N 2 (28 * q + k)) → fMd_undo_22 R (d + 1) x M := by
    intro d
    induction d with
    | zero =>
      intro x M x0 xd ho h1
      refine ⟨fun _ => ?_, fun z => by omega⟩
      have e2 : M 0 2 = q := by rw [ho.fld (by decide)]; exact hq.1
      unfold fMd_forgets
      have e2' : (mu (mu (mu M 0 43 0) 0 31 0) 0 27 0) 0 2 = q := by simp [mu, e2]
      show R ((mu (mu (mu M 0 43 0) 0 31 0) 0 27 0) 0 2) _
      rw [e2']
      refine h _ ((((ho.mono (by decide) (by decide)).mu (Or.inr (by decide))).mu (Or.inr (by decide))).mu (Or.inr (by decide))) (by simp [mu]) (by simp [mu]) (by simp [mu]) (fun k k0 k1 => ?_)
      simpa [mu] using h1 k k0 (by omega)
    | succ d ih =>
      intro x M x0 xd ho h1
      have e2 : M 0 2 = q := by rw [ho.fld (by decide)]; exact hq.1
      refine ⟨fun z => by omega, fun _ => ?_⟩
      rw [e2, wrapI (z := 28 * q) (by omega) (by omega), wrapI (z := 28 * q + x) (by omega) (by omega), wrapI (z := x + 1) (by omega) (by omega), ho.cell (c := 2) (by decide)]
      refine ⟨⟨by omega, by omega⟩, ⟨by omega, by omega⟩, ih (x + 1) _ (by omega) (by omega) (ho.mu (Or.inl (by decide))) (fun k k0 k1 => ?_)⟩
      by_cases z : k = x
      · rw [z]; exact mu_same _ _ _ _
      · rw [mu_place (by omega)]; exact h1 k k0 (by omega)
  exact ⟨28 + 1, key 28 0 N (by omega) (by omega) (Off.rf _ _ _) (fun k k0 k1 => by omega)⟩
theorem s_recall {p q : Int} (hp : X 5 7 = p ∧ 0 ≤ p ∧ p < 6) (hq : X 5 5 = q ∧ 1 ≤ q ∧ q ≤ 6)
    (h : ∀ X1, Off [5, 6] [] X X1 → X1 5 5 = q - 1 → X1 5 7 = (p + 5) % 6 → (∀ k, 0 ≤ k → k < 28 → rwX X1 k = X 7 (28 * ((p + 5) % 6) + k)) → R 0 X1) : fSe_recall X R := by
  have key : ∀ t, t = (p + 5) % 6 → fSe_recall_18 R t X := by
    intro t et
    unfold fSe_recall_18
    rw [hq.1, wrapI (z := t * 28) (by omega) (by omega), wrapI (z := t * 28 + 1) (by omega) (by omega), wrapI (z := t * 28 + 2) (by omega) (by omega), wrapI (z := t * 28 + 3) (by omega) (by omega), wrapI (z := t * 28 + 4) (by omega) (by omega), wrapI (z := q - 1) (by omega) (by omega)]
    refine ⟨⟨by omega, by omega⟩, ⟨by omega, by omega⟩, ⟨by omega, by omega⟩, ⟨by omega, by omega⟩, ⟨by omega, by omega, by omega, by omega, by omega⟩, h _ ?_ ?_ ?_ ?_⟩
    · intro d i h1 h2
      have h5 : d ≠ 5 := fun z => h1 (by rw [z]; decide)
      have h6 : d ≠ 6 := fun z => h1 (by rw [z]; decide)
      simp [mu, mcopy, h5, h6]
    · simp [mu, mcopy]
    · simp [mu, mcopy, et]
    · intro k k0 k1
      rw [← et]
      unfold rwX
      by_cases z4 : 4 ≤ k
      · rw [if_neg (by omega), if_neg (by omega), if_neg (by omega), if_neg (by omega)]
        have : (0 ≤ k - 4 ∧ k - 4 < 0 + 24) := by omega
        simp only [mcopy]
        rw [if_pos ⟨trivial, this⟩]
        simp only [mu]
        simp
        congr 1; omega
      · have hk : k = 0 ∨ k = 1 ∨ k = 2 ∨ k = 3 := by omega
        rcases hk with z | z | z | z <;> subst z <;> simp [mu, mcopy] <;> (congr 1; omega)
  unfold fSe_recall
  rw [hp.1]
  refine ⟨fun z => key 5 (by omega), fun z => ?_⟩
  rw [wrapI (z := p - 1) (by omega) (by omega)]
  exact key _ (by omega)
theorem o_undo (h : Rel m X Y) : fSt_undo X (Post m (fMd_undo Y)) := by
  have hm := h.mono (m' := m + 1) (by omega)
  obtain ⟨-, -, d, e, -⟩ := id hm
  obtain ⟨e1, e2, e3, e4⟩ := id e
  refine ⟨fun z => ?_, fun z => ⟨fun y => absurd (e1.symm.trans z) y, fun _ => ⟨rfl, hm⟩⟩⟩
  obtain ⟨er, ek⟩ := e4 (X 5 5 - 1) (by omega) (by omega)
  have e6 : (X 5 7 + 6 - X 5 5 + (X 5 5 - 1)) % 6 = (X 5 7 + 5) % 6 := by omega
  rw [e6] at er
  refine s_recall ⟨rfl, e3⟩ ⟨rfl, by omega, by omega⟩ (fun X1 o1 x5 x7 xr => ?_)
  have xy : ∀ k, 0 ≤ k → k < 28 → rwX X1 k = Y 2 (28 * (X 5 5 - 1) + k) := fun k k0 k1 => (xr k k0 k1).trans (er k k0 k1)
  obtain ⟨r1, r2, r3, r4, r5⟩ := ek
  have g0 : X1 5 0 = Y 2 (28 * (X 5 5 - 1) + 0) := xy 0 (by decide) (by decide)
  have g1 : X1 5 1 = Y 2 (28 * (X 5 5 - 1) + 1) := xy 1 (by decide) (by decide)
  have g2 : X1 5 2 = Y 2 (28 * (X 5 5 - 1) + 2) := xy 2 (by decide) (by decide)
  have g3 : X1 5 3 = Y 2 (28 * (X 5 5 - 1) + 3) := xy 3 (by decide) (by decide)
  have g4 : ∀ i, 0 ≤ i → i < 24 → X1 6 i = Y 2 (28 * (X 5 5 - 1) + (4 + i)) := fun i i0 i1 => by
    have := xy (4 + i) (by omega) (by omega)
    unfold rwX at this
    rw [if_neg (by omega), if_neg (by omega), if_neg (by omega), if_neg (by omega), show 4 + i - 4 = i by omega] at this
    exact this
  have ox : Off [5, 6, 7] [] X X1 := o1.mono (by decide) (by decide)
  refine s_refreshS hm ox (by rw [g0]; exact r1) (by rw [g1]; exact r2) (by rw [g2]; exact r3) (by rw [g3]; exact r4) (fun X3 o3 hMX k17 k18 k7 => ?_)
  have e35 : X3 5 5 = X 5 5 - 1 := by rw [o3.cell (by decide)]; exact x5
  rw [e35]
  refine ⟨fun _ => ?_, fun y => absurd (e1.trans y) z⟩
  rw [← e1, wrapI (z := X 5 5 - 1) (by omega) (by omega)]
  refine s_undo22 (q := X 5 5 - 1) ⟨mu_same _ _ _ _, by omega, by omega⟩ (fun Y1 oy y43 y31 y27 yr => ⟨rfl, ?_⟩)
  have oy0 : Off [1, 2] [2, 27, 31, 43] Y Y1 := ((Off.rf _ _ _).mu (Or.inr (by decide))).tr (oy.mono (by decide) (by decide))
  have yr' : ∀ k, 0 ≤ k → k < 28 → Y1 1 k = Y 2 (28 * (X 5 5 - 1) + k) := fun k k0 k1 => by rw [yr k k0 k1, mu_cell (by decide)]
  refine Rel.set hm ox oy0 ⟨by rw [g0, yr' 0 (by decide) (by decide)], by rw [g1, yr' 1 (by decide) (by decide)], by rw [g2, yr' 2 (by decide) (by decide)], by rw [g3, yr' 3 (by decide) (by decide)], fun i i0 i1 => by rw [g4 i i0 i1, yr' _ (by omega) (by omega)], ?_⟩ ?_ y43 y31 y27 o3 hMX k17 k18 k7
  · exact ⟨by rw [yr' 0 (by decide) (by decide)]; exact r1, by rw [yr' 1 (by decide) (by decide)]; exact r2, by rw [yr' 2 (by decide) (by decide)]; exact r3, by rw [yr' 3 (by decide) (by decide)]; exact r4, fun i i0 i1 => by rw [yr' _ (by omega) (by omega)]; exact r5 i i0 i1⟩
  · have y2 : Y1 0 2 = X 5 5 - 1 := by rw [oy.fld (by decide)]; exact mu_same _ _ _ _
    have c7 : X1 7 = X 7 := o1.fn (by decide)
    have c2 : Y1 2 = Y 2 := by rw [oy.fn (c := 2) (by decide)]; exact mu_fun (by decide)
    unfold RU
    rw [x5, x7, y2, c7, c2]
    refine ⟨rfl, by omega, by omega, fun j j0 j1 => ?_⟩
    have e7 : ((X 5 7 + 5) % 6 + 6 - (X 5 5 - 1) + j) % 6 = (X 5 7 + 6 - X 5 5 + j) % 6 := by omega
    rw [e7]
    exact e4 j j0 (by omega)
end C
