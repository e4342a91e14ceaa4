/-! depths: x passes on (d) -/
section P
variable {X Y : Mem} {n i k t : Int} {R K : Int → Mem → Prop}
theorem s_falls_d (e6 : X 20 6 = n) (hi : 0 ≤ i ∧ i < n) (hn : n ≤ 24) (h1 : fallsK n i (X 21 i) = true → R 1 X) (h0 : fallsK n i (X 21 i) = false → R 0 X) : fPr_falls_d i X R := by
  have h0' : ¬ (X 21 i ≠ 11 ∧ X 21 i ≠ 14 ∧ i + 1 < n) → R 0 X := fun z => h0 (by
    cases e : fallsK n i (X 21 i) with
    | false => rfl
    | true => exact absurd (fallsK_iff.mp e) z)
  unfold fPr_falls_d fPr_falls_d_36
  rw [e6, wrapI (z := i + 1) (by omega) (by omega)]
  exact ⟨⟨by omega, by omega⟩, fun z => h0' (fun q => q.1 z), fun z1 => ⟨⟨by omega, by omega⟩, fun z => h0' (fun q => q.2.1 z), fun z2 => ⟨fun z => h0' (fun q => by omega), fun z => h1 (fallsK_iff.mpr ⟨z1, z2, by omega⟩)⟩⟩⟩
theorem s_accepts_d {a : Int} (hi : 0 ≤ i ∧ i < 24) (ha : a ≠ -4) (h0 : X 24 i ≠ -4 → X 24 i ≠ a → R 0 X) (h1 : (X 24 i = -4 ∨ X 24 i = a) → R 1 (mu X 24 i a)) : fPr_accepts_d i a X R := by
  have i24 : inb i 24 := ⟨by omega, by omega⟩
  refine ⟨i24, fun z => ⟨fun y => absurd rfl y, fun _ => ⟨i24, ⟨i24, fun y => ?_, fun _ => h1 (Or.inl z)⟩⟩⟩, fun z => ⟨fun _ => ⟨i24, fun y => h0 z y, fun y => ?_⟩, fun y => absurd y (by decide)⟩⟩
  · rw [mu_same] at y; exact absurd rfl y
  · have := h1 (Or.inr y)
    rw [mu_id y] at this; exact this
def FX_d (a b : Int) (X X' : Mem) : Prop := Off [3, 4, 20, 24, 26] [] X X' ∧ X' 20 6 = X 20 6 ∧ X' 3 1 = 3 ∧ X' 4 0 = 3 ∧ X' 4 1 = a ∧ X' 4 2 = 30 + b
theorem FX_of_d {a b : Int} {X1 : Mem} (o : Off [20, 24, 26] [] X X1) (e6 : X1 20 6 = X 20 6) : FX_d a b X (xFl a b X1) := ⟨(o.mono (by decide) (by decide)).tr (off_fl.mono (by decide) (by decide)), by rw [off_fl.cell (by decide)]; exact e6, by simp [xFl, mu], by simp [xFl, mu], by simp [xFl, mu], by simp [xFl, mu]⟩
def SX_d (n i k t : Int) (X X' : Mem) : Prop := Off [20, 24, 26] [] X X' ∧ (∀ f, f ≠ 8 → X' 20 f = X 20 f) ∧ (∀ j, X' 24 j = dpN n i k t (X 24) j) ∧ (∀ j, X' 26 j = tgN k t (X 26) j) ∧ X' 20 8 = X 20 8 + (if leadsK k = true ∧ X 26 t = 0 then 1 else 0)
theorem s_passOn_d (e6 : X 20 6 = n) (hi : 0 ≤ i ∧ i < n) (hn : n ≤ 24) (hk : 0 ≤ X 21 i ∧ X 21 i < 15) (hN : leadsK (X 21 i) = true → 0 ≤ X 22 i ∧ X 22 i < n) (hd : 0 ≤ X 24 i ∧ X 24 i ≤ 12) (e3 : X 3 1 = 0) (h8 : 0 ≤ X 20 8 ∧ X 20 8 ≤ 24)
    (gF : ∀ a b X', FLw n i (X 21 i) (X 22 i) (X 24) a b → FX_d a b X X' → R 0 X') (gS : FN n i (X 21 i) (X 22 i) (X 24) → ∀ X', SX_d n i (X 21 i) (X 22 i) X X' → R 1 X') : fPr_passOn_d i X R := by
  have i24 : inb i 24 := ⟨by omega, by omega⟩
  have k15 : inb (X 21 i) 15 := ⟨hk.1, hk.2⟩
  have tc := tk_cm hk
  have oX : Off [20, 24, 26] [] X X := Off.rf _ _ _
  unfold fPr_passOn_d
  rw [show roV 100 (X 21 i) = tk (X 21 i) from rfl, show roV 101 (X 21 i) = cm (X 21 i) from rfl, wrapI (z := X 24 i - tk (X 21 i)) (by omega) (by omega), wrapI (z := X 24 i - tk (X 21 i) + cm (X 21 i)) (by omega) (by omega)]
  have badA : FA (X 21 i) (X 24) i → fPr_passOn_d_54 R i X := fun hA => by
    unfold fPr_passOn_d_54
    exact s_flawed e3 ⟨by omega, by omega⟩ ⟨Or.inl rfl, gF 22 i _ (Or.inl ⟨hA, rfl, rfl⟩) (FX_of_d oX rfl)⟩
  refine ⟨i24, i24, k15, i24, k15, i24, i24, k15, fun z => badA (Or.inl z), fun z1 => ⟨fun z2 => ?_, fun z2 => badA (Or.inr (by omega))⟩⟩
  have hA : ¬ FA (X 21 i) (X 24) i := fun q => by rcases q with q | q <;> omega
  have a4 : X 24 i - tk (X 21 i) + cm (X 21 i) ≠ -4 := by omega
  have way1 : ∀ X1, Off [24] [] X X1 → ¬ FB n i (X 21 i) (X 24) → (∀ j, X1 24 j = if fallsK n i (X 21 i) = true ∧ j = i + 1 then X 24 i - tk (X 21 i) + cm (X 21 i) else X 24 j) → fPr_passOn_d_91 R i (X 24 i - tk (X 21 i) + cm (X 21 i)) X1 := by
    intro X1 o1 hB hD
    have eK : X1 21 i = X 21 i := o1.cell (by decide) _
    have eN : X1 22 i = X 22 i := o1.cell (by decide) _
    have eT : X1 26 = X 26 := o1.fn (by decide)
    have eQ : X1 20 = X 20 := o1.fn (by decide)
    have e31 : X1 3 1 = 0 := by rw [o1.cell (by decide)]; exact e3
    unfold fPr_passOn_d_91
    refine s_leads_d ⟨hi.1, by omega⟩ (fun l => ?_) (fun l => ⟨fun z => absurd rfl z, fun _ => ?_⟩)
    · rw [eK] at l
      obtain ⟨t0, t1⟩ := hN l
      rw [eN, eT, eQ, wrapI (z := X 20 8 + 1) (by omega) (by omega)]
      have go : ∀ X2, Off [20] [] X1 X2 → (∀ f, f ≠ 8 → X2 20 f = X1 20 f) → X2 20 8 = X 20 8 + (if leadsK (X 21 i) = true ∧ X 26 (X 22 i) = 0 then 1 else 0) → fPr_passOn_d_129 R (X 24 i - tk (X 21 i) + cm (X 21 i)) (X 22 i) X2 := by
        intro X2 o2 f2 e28
        have o3 : Off [20, 24, 26] [] X (mu X2 26 (X 22 i) 1) := ((o1.mono (by decide) (by decide)).tr (o2.mono (by decide) (by decide))).mu (Or.inl (by decide))
        have eD : ∀ j, (mu X2 26 (X 22 i) 1) 24 j = X1 24 j := fun j => by rw [mu_cell (by decide)]; exact o2.cell (by decide) _
        have e36 : (mu X2 26 (X 22 i) 1) 20 6 = X 20 6 := by rw [mu_cell (by decide), f2 6 (by decide), eQ]
        refine ⟨⟨by omega, by omega⟩, s_accepts_d ⟨t0, by omega⟩ a4 (fun y1 y2 => ⟨fun z => absurd rfl z, fun _ => ?_⟩) (fun y => ⟨fun _ => ?_, fun z => absurd z (by decide)⟩)⟩
        · rw [eD, hD] at y1 y2
          have hC : FC n i (X 21 i) (X 22 i) (X 24) := by
            by_cases q : fallsK n i (X 21 i) = true ∧ X 22 i = i + 1
            · rw [if_pos q] at y2; exact absurd rfl y2
            · rw [if_neg q] at y1 y2; exact ⟨l, q, y1, y2⟩
          refine s_flawed (by rw [mu_cell (by decide), o2.cell (by decide)]; exact e31) ⟨by omega, by omega⟩ ⟨fun _ => gF 21 (X 22 i) _ (Or.inr (Or.inr ⟨hA, hB, hC, rfl, rfl⟩)) (FX_of_d o3 e36), fun z => absurd rfl z⟩
        · rw [eD, hD] at y
          have hC : ¬ FC n i (X 21 i) (X 22 i) (X 24) := fun q => by
            rw [if_neg q.2.1] at y
            rcases y with y | y
            · exact q.2.2.1 y
            · exact q.2.2.2 y
          refine gS ⟨hA, hB, hC⟩ _ ⟨o3.mu (Or.inl (by decide)), fun f f8 => ?_, fun j => ?_, fun j => ?_, ?_⟩
          · rw [mu_cell (by decide), mu_cell (by decide), f2 f f8, eQ]
          · unfold dpN
            by_cases q : j = X 22 i
            · rw [q, mu_same, if_pos (Or.inr ⟨l, rfl⟩)]
            · rw [mu_place q, eD, hD]
              by_cases w : fallsK n i (X 21 i) = true ∧ j = i + 1
              · rw [if_pos w, if_pos (Or.inl w)]
              · rw [if_neg w, if_neg (fun u => by rcases u with u | u; exact w u; exact q u.2)]
          · unfold tgN
            rw [mu_cell (by decide)]
            by_cases q : j = X 22 i
            · rw [q, mu_same, if_pos ⟨l, rfl⟩]
            · rw [mu_place q, o2.cell (by decide), eT, if_neg (fun u => q u.2)]
          · rw [mu_cell (by decide), mu_cell (by decide)]; exact e28
      refine ⟨fun _ => ⟨i24, ⟨by omega, by omega⟩, fun z => go X1 (Off.rf _ _ _) (fun _ _ => rfl) ?_, fun z => go _ ((Off.rf _ _ _).mu (Or.inl (by decide))) (fun f f8 => mu_place f8) ?_⟩, fun z => absurd z (by decide)⟩
      · rw [eQ, if_neg (fun w => z w.2)]; omega
      · rw [mu_same, if_pos ⟨l, z⟩]
    · rw [eK] at l
      refine gS ⟨hA, hB, fun q => by have := q.1; rw [l] at this; exact absurd this (by decide)⟩ X1 ⟨o1.mono (by decide) (by decide), fun f _ => by rw [eQ], fun j => ?_, fun j => ?_, ?_⟩
      · rw [hD j]; unfold dpN
        rw [l]
        by_cases q : fallsK n i (X 21 i) = true ∧ j = i + 1
        · rw [if_pos q, if_pos (Or.inl q)]
        · rw [if_neg q, if_neg (fun w => by rcases w with w | w; exact q w; exact absurd w.1 (by decide))]
      · rw [eT]; unfold tgN; rw [l, if_neg (fun w => absurd w.1 (by decide))]
      · rw [eQ, l, if_neg (fun w => absurd w.1 (by decide))]; omega
  refine s_falls_d e6 hi hn (fun f => ⟨fun z => absurd z (by decide), fun _ => ?_⟩) (fun f => ⟨fun _ => ?_, fun z => absurd rfl z⟩)
  · have hi1 := (fallsK_iff.mp f).2.2
    rw [wrapI (z := i + 1) (by omega) (by omega)]
    refine s_accepts_d ⟨by omega, by omega⟩ a4 (fun y1 y2 => ⟨fun z => absurd rfl z, fun _ => ?_⟩) (fun y => ⟨fun _ => ?_, fun z => absurd z (by decide)⟩)
    · exact s_flawed e3 ⟨by omega, by omega⟩ ⟨Or.inl rfl, gF 21 (i + 1) _ (Or.inr (Or.inl ⟨hA, ⟨f, y1, y2⟩, rfl, rfl⟩)) (FX_of_d oX rfl)⟩
    · refine way1 _ ((Off.rf _ _ _).mu (Or.inl (by decide))) (fun q => ?_) (fun j => ?_)
      · rcases y with y | y
        · exact q.2.1 y
        · exact q.2.2 y
      · by_cases q : j = i + 1
        · rw [q, mu_same, if_pos ⟨f, rfl⟩]
        · rw [mu_place q, if_neg (fun w => q w.2)]
  · refine way1 X (Off.rf _ _ _) (fun q => by have := q.1; rw [f] at this; exact absurd this (by decide)) (fun j => ?_)
    rw [f, if_neg (fun w => absurd w.1 (by decide))]
end P
