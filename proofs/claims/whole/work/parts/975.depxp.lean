/-! depths: x passes on (p) -/
section P
variable {X Y : Mem} {n i k t : Int} {R K : Int → Mem → Prop}
theorem s_falls_p (e6 : X 13 6 = n) (hi : 0 ≤ i ∧ i < n) (hn : n ≤ 24) (h1 : fallsK n i (X 14 i) = true → R 1 X) (h0 : fallsK n i (X 14 i) = false → R 0 X) : fPr_falls_p i X R := by
  have h0' : ¬ (X 14 i ≠ 11 ∧ X 14 i ≠ 14 ∧ i + 1 < n) → R 0 X := fun z => h0 (by
    cases e : fallsK n i (X 14 i) with
    | false => rfl
    | true => exact absurd (fallsK_iff.mp e) z)
  unfold fPr_falls_p fPr_falls_p_36
  rw [e6, wrapI (z := i + 1) (by omega) (by omega)]
  exact ⟨⟨by omega, by omega⟩, fun z => h0' (fun q => q.1 z), fun z1 => ⟨⟨by omega, by omega⟩, fun z => h0' (fun q => q.2.1 z), fun z2 => ⟨fun z => h0' (fun q => by omega), fun z => h1 (fallsK_iff.mpr ⟨z1, z2, by omega⟩)⟩⟩⟩
theorem s_accepts_p {a : Int} (hi : 0 ≤ i ∧ i < 24) (ha : a ≠ -4) (h0 : X 17 i ≠ -4 → X 17 i ≠ a → R 0 X) (h1 : (X 17 i = -4 ∨ X 17 i = a) → R 1 (mu X 17 i a)) : fPr_accepts_p i a X R := by
  have i24 : inb i 24 := ⟨by omega, by omega⟩
  refine ⟨i24, fun z => ⟨fun y => absurd rfl y, fun _ => ⟨i24, ⟨i24, fun y => ?_, fun _ => h1 (Or.inl z)⟩⟩⟩, fun z => ⟨fun _ => ⟨i24, fun y => h0 z y, fun y => ?_⟩, fun y => absurd y (by decide)⟩⟩
  · rw [mu_same] at y; exact absurd rfl y
  · have := h1 (Or.inr y)
    rw [mu_id y] at this; exact this
def FX_p (a b : Int) (X X' : Mem) : Prop := Off [3, 4, 13, 17, 19] [] X X' ∧ X' 13 6 = X 13 6 ∧ X' 3 1 = 3 ∧ X' 4 0 = 3 ∧ X' 4 1 = a ∧ X' 4 2 = 30 + b
theorem FX_of_p {a b : Int} {X1 : Mem} (o : Off [13, 17, 19] [] X X1) (e6 : X1 13 6 = X 13 6) : FX_p a b X (xFl a b X1) := ⟨(o.mono (by decide) (by decide)).tr (off_fl.mono (by decide) (by decide)), by rw [off_fl.cell (by decide)]; exact e6, by simp [xFl, mu], by simp [xFl, mu], by simp [xFl, mu], by simp [xFl, mu]⟩
def SX_p (n i k t : Int) (X X' : Mem) : Prop := Off [13, 17, 19] [] X X' ∧ (∀ f, f ≠ 8 → X' 13 f = X 13 f) ∧ (∀ j, X' 17 j = dpN n i k t (X 17) j) ∧ (∀ j, X' 19 j = tgN k t (X 19) j) ∧ X' 13 8 = X 13 8 + (if leadsK k = true ∧ X 19 t = 0 then 1 else 0)
theorem s_passOn_p (e6 : X 13 6 = n) (hi : 0 ≤ i ∧ i < n) (hn : n ≤ 24) (hk : 0 ≤ X 14 i ∧ X 14 i < 15) (hN : leadsK (X 14 i) = true → 0 ≤ X 15 i ∧ X 15 i < n) (hd : 0 ≤ X 17 i ∧ X 17 i ≤ 12) (e3 : X 3 1 = 0) (h8 : 0 ≤ X 13 8 ∧ X 13 8 ≤ 24)
    (gF : ∀ a b X', FLw n i (X 14 i) (X 15 i) (X 17) a b → FX_p a b X X' → R 0 X') (gS : FN n i (X 14 i) (X 15 i) (X 17) → ∀ X', SX_p n i (X 14 i) (X 15 i) X X' → R 1 X') : fPr_passOn_p i X R := by
  have i24 : inb i 24 := ⟨by omega, by omega⟩
  have k15 : inb (X 14 i) 15 := ⟨hk.1, hk.2⟩
  have tc := tk_cm hk
  have oX : Off [13, 17, 19] [] X X := Off.rf _ _ _
  unfold fPr_passOn_p
  rw [show roV 100 (X 14 i) = tk (X 14 i) from rfl, show roV 101 (X 14 i) = cm (X 14 i) from rfl, wrapI (z := X 17 i - tk (X 14 i)) (by omega) (by omega), wrapI (z := X 17 i - tk (X 14 i) + cm (X 14 i)) (by omega) (by omega)]
  have badA : FA (X 14 i) (X 17) i → fPr_passOn_p_54 R i X := fun hA => by
    unfold fPr_passOn_p_54
    exact s_flawed e3 ⟨by omega, by omega⟩ ⟨Or.inl rfl, gF 22 i _ (Or.inl ⟨hA, rfl, rfl⟩) (FX_of_p oX rfl)⟩
  refine ⟨i24, i24, k15, i24, k15, i24, i24, k15, fun z => badA (Or.inl z), fun z1 => ⟨fun z2 => ?_, fun z2 => badA (Or.inr (by omega))⟩⟩
  have hA : ¬ FA (X 14 i) (X 17) i := fun q => by rcases q with q | q <;> omega
  have a4 : X 17 i - tk (X 14 i) + cm (X 14 i) ≠ -4 := by omega
  have way1 : ∀ X1, Off [17] [] X X1 → ¬ FB n i (X 14 i) (X 17) → (∀ j, X1 17 j = if fallsK n i (X 14 i) = true ∧ j = i + 1 then X 17 i - tk (X 14 i) + cm (X 14 i) else X 17 j) → fPr_passOn_p_91 R i (X 17 i - tk (X 14 i) + cm (X 14 i)) X1 := by
    intro X1 o1 hB hD
    have eK : X1 14 i = X 14 i := o1.cell (by decide) _
    have eN : X1 15 i = X 15 i := o1.cell (by decide) _
    have eT : X1 19 = X 19 := o1.fn (by decide)
    have eQ : X1 13 = X 13 := o1.fn (by decide)
    have e31 : X1 3 1 = 0 := by rw [o1.cell (by decide)]; exact e3
    unfold fPr_passOn_p_91
    refine s_leads_p ⟨hi.1, by omega⟩ (fun l => ?_) (fun l => ⟨fun z => absurd rfl z, fun _ => ?_⟩)
    · rw [eK] at l
      obtain ⟨t0, t1⟩ := hN l
      rw [eN, eT, eQ, wrapI (z := X 13 8 + 1) (by omega) (by omega)]
      have go : ∀ X2, Off [13] [] X1 X2 → (∀ f, f ≠ 8 → X2 13 f = X1 13 f) → X2 13 8 = X 13 8 + (if leadsK (X 14 i) = true ∧ X 19 (X 15 i) = 0 then 1 else 0) → fPr_passOn_p_129 R (X 17 i - tk (X 14 i) + cm (X 14 i)) (X 15 i) X2 := by
        intro X2 o2 f2 e28
        have o3 : Off [13, 17, 19] [] X (mu X2 19 (X 15 i) 1) := ((o1.mono (by decide) (by decide)).tr (o2.mono (by decide) (by decide))).mu (Or.inl (by decide))
        have eD : ∀ j, (mu X2 19 (X 15 i) 1) 17 j = X1 17 j := fun j => by rw [mu_cell (by decide)]; exact o2.cell (by decide) _
        have e36 : (mu X2 19 (X 15 i) 1) 13 6 = X 13 6 := by rw [mu_cell (by decide), f2 6 (by decide), eQ]
        refine ⟨⟨by omega, by omega⟩, s_accepts_p ⟨t0, by omega⟩ a4 (fun y1 y2 => ⟨fun z => absurd rfl z, fun _ => ?_⟩) (fun y => ⟨fun _ => ?_, fun z => absurd z (by decide)⟩)⟩
        · rw [eD, hD] at y1 y2
          have hC : FC n i (X 14 i) (X 15 i) (X 17) := by
            by_cases q : fallsK n i (X 14 i) = true ∧ X 15 i = i + 1
            · rw [if_pos q] at y2; exact absurd rfl y2
            · rw [if_neg q] at y1 y2; exact ⟨l, q, y1, y2⟩
          refine s_flawed (by rw [mu_cell (by decide), o2.cell (by decide)]; exact e31) ⟨by omega, by omega⟩ ⟨fun _ => gF 21 (X 15 i) _ (Or.inr (Or.inr ⟨hA, hB, hC, rfl, rfl⟩)) (FX_of_p o3 e36), fun z => absurd rfl z⟩
        · rw [eD, hD] at y
          have hC : ¬ FC n i (X 14 i) (X 15 i) (X 17) := fun q => by
            rw [if_neg q.2.1] at y
            rcases y with y | y
            · exact q.2.2.1 y
            · exact q.2.2.2 y
          refine gS ⟨hA, hB, hC⟩ _ ⟨o3.mu (Or.inl (by decide)), fun f f8 => ?_, fun j => ?_, fun j => ?_, ?_⟩
          · rw [mu_cell (by decide), mu_cell (by decide), f2 f f8, eQ]
          · unfold dpN
            by_cases q : j = X 15 i
            · rw [q, mu_same, if_pos (Or.inr ⟨l, rfl⟩)]
            · rw [mu_place q, eD, hD]
              by_cases w : fallsK n i (X 14 i) = true ∧ j = i + 1
              · rw [if_pos w, if_pos (Or.inl w)]
              · rw [if_neg w, if_neg (fun u => by rcases u with u | u; exact w u; exact q u.2)]
          · unfold tgN
            rw [mu_cell (by decide)]
            by_cases q : j = X 15 i
            · rw [q, mu_same, if_pos ⟨l, rfl⟩]
            · rw [mu_place q, o2.cell (by decide), eT, if_neg (fun u => q u.2)]
          · rw [mu_cell (by decide), mu_cell (by decide)]; exact e28
      refine ⟨fun _ => ⟨i24, ⟨by omega, by omega⟩, fun z => go X1 (Off.rf _ _ _) (fun _ _ => rfl) ?_, fun z => go _ ((Off.rf _ _ _).mu (Or.inl (by decide))) (fun f f8 => mu_place f8) ?_⟩, fun z => absurd z (by decide)⟩
      · rw [eQ, if_neg (fun w => z w.2)]; omega
      · rw [mu_same, if_pos ⟨l, z⟩]
    · rw [eK] at l
      refine gS ⟨hA, hB, fun q => by have := q.1; rw [l] at this; exact absurd this (by decide)⟩ X1 ⟨o1.mono (by decide) (by decide), fun f _ => by rw [eQ], fun j => ?_, fun j => ?_, ?_⟩
      · rw [hD j]; unfold dpN
        rw [l]
        by_cases q : fallsK n i (X 14 i) = true ∧ j = i + 1
        · rw [if_pos q, if_pos (Or.inl q)]
        · rw [if_neg q, if_neg (fun w => by rcases w with w | w; exact q w; exact absurd w.1 (by decide))]
      · rw [eT]; unfold tgN; rw [l, if_neg (fun w => absurd w.1 (by decide))]
      · rw [eQ, l, if_neg (fun w => absurd w.1 (by decide))]; omega
  refine s_falls_p e6 hi hn (fun f => ⟨fun z => absurd z (by decide), fun _ => ?_⟩) (fun f => ⟨fun _ => ?_, fun z => absurd rfl z⟩)
  · have hi1 := (fallsK_iff.mp f).2.2
    rw [wrapI (z := i + 1) (by omega) (by omega)]
    refine s_accepts_p ⟨by omega, by omega⟩ a4 (fun y1 y2 => ⟨fun z => absurd rfl z, fun _ => ?_⟩) (fun y => ⟨fun _ => ?_, fun z => absurd z (by decide)⟩)
    · exact s_flawed e3 ⟨by omega, by omega⟩ ⟨Or.inl rfl, gF 21 (i + 1) _ (Or.inr (Or.inl ⟨hA, ⟨f, y1, y2⟩, rfl, rfl⟩)) (FX_of_p oX rfl)⟩
    · refine way1 _ ((Off.rf _ _ _).mu (Or.inl (by decide))) (fun q => ?_) (fun j => ?_)
      · rcases y with y | y
        · exact q.2.1 y
        · exact q.2.2 y
      · by_cases q : j = i + 1
        · rw [q, mu_same, if_pos ⟨f, rfl⟩]
        · rw [mu_place q, if_neg (fun w => q w.2)]
  · refine way1 X (Off.rf _ _ _) (fun q => by have := q.1; rw [f] at this; exact absurd this (by decide)) (fun j => ?_)
    rw [f, if_neg (fun w => absurd w.1 (by decide))]
end P
