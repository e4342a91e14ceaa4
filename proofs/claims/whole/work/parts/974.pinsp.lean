/-! x reads an instruction (p) -/
section P
variable {X Y : Mem} {T : Int → Int} {L p q k s : Int} {R : Int → Mem → Prop}
def xRd_p (k p v s : Int) (X : Mem) : Mem := mu (mu (mu (mu X 14 s k) 15 s v) 16 s p) 13 6 (s + 1)
theorem s_pIns_p (hX : XTx L T X) (hp : 0 ≤ p ∧ p < L) (e6 : X 13 6 = s) (hs : 0 ≤ s ∧ s ≤ 24) (g13 : s = 24 → R 13 X) (g10 : s < 24 → (∀ k, 0 ≤ k → k < 15 → sg k ≠ T p) → R 10 X)
    (gk : s < 24 → ∀ k, 0 ≤ k → k < 15 → sg k = T p → (¬ dOK T L p k → R 11 X) ∧ (dOK T L p k → (dg k = 1 ∧ 4 ≤ pVal T p k → R 12 X) ∧ (¬ (dg k = 1 ∧ 4 ≤ pVal T p k) → R (-4) (xRd_p k p (pVal T p k) s X)))) : fPr_parseInstruction_p p X R := by
  have hL := hX.2.1
  have hTp := (hX.2.2 p hp.1 hp.2).2
  unfold fPr_parseInstruction_p
  rw [e6]
  refine ⟨fun z => s_letterAt hX hp (s_indexOf hTp (fun k k0 k1 ek => ⟨fun _ => ⟨3, ?_⟩, fun y => absurd k0 y⟩) (fun hn => ⟨fun y => absurd y (by decide), fun _ => g10 (by omega) hn⟩)), fun z => g13 z⟩
  have hk : 0 ≤ k ∧ k < 15 := ⟨k0, k1⟩
  obtain ⟨gk1, gk2⟩ := gk (by omega) k k0 k1 ek
  have d9 := (dg_in hk).2.1
  have k15 : inb k 15 := ⟨k0, k1⟩
  have fin : ∀ v, v = pVal T p k → dOK T L p k → ∀ (n : Nat) (j : Int), dg k < j → fPr_parseInstruction_p_37 R (n + 1) p k v j X := by
    intro v ev hd n j hj
    obtain ⟨g1, g2⟩ := gk2 hd
    have st : ¬ (dg k = 1 ∧ 4 ≤ pVal T p k) → fPr_parseInstruction_p_107 R p k v X := by
      intro hn
      have g2 := g2 hn
      unfold xRd_p at g2
      rw [ev]
      unfold fPr_parseInstruction_p_107
      rw [e6, wrapI (z := s + 1) (by omega) (by omega)]
      exact ⟨⟨by omega, by omega⟩, ⟨by omega, by omega⟩, ⟨by omega, by omega⟩, g2⟩
    have st8 : dg k = 1 → fPr_parseInstruction_p_98 R p k v X := fun h1 => ⟨fun y => st (fun w => by have := w.2; omega), fun y => g1 ⟨h1, by omega⟩⟩
    refine ⟨k15, fun _ => ⟨fun z => st8 (d9.mpr (Or.inl z)), fun z => ⟨fun y => st (fun w => by have := d9.mp w.1; omega), fun y => st8 (d9.mpr (Or.inr y))⟩⟩, fun z => absurd hj z⟩
  have e102 : roV 102 k = dg k := rfl
  rcases (dg_in hk).1 with z0 | z1 | z2
  · have e : (0 : Int) = pVal T p k := by unfold pVal; rw [if_pos z0]
    exact fin 0 e ⟨fun y => by omega, fun y => by omega⟩ 2 1 (by omega)
  · refine ⟨k15, fun y => by omega, fun _ => ?_⟩
    rw [wrapI (z := p + 1) (by omega) (by omega)]
    refine s_hasDigit hX (by omega) (fun hd => ⟨fun _ => ?_, fun y => absurd y (by decide)⟩) (fun hd => ⟨fun y => absurd rfl y, fun _ => gk1 (fun w => hd (w.1 (by omega)))⟩)
    refine s_letterAt hX ⟨by omega, hd.1⟩ ?_
    have hv := hd
    unfold isD at hv
    have ev : wrap (wrap (wrap (10 * 0) + T (p + 1)) - 48) = pVal T p k := by
      unfold pVal
      rw [if_neg (by omega), if_pos z1, wrapI (z := 10 * 0) (by omega) (by omega), wrapI (z := 10 * 0 + T (p + 1)) (by omega) (by omega), wrapI (by omega) (by omega)]; omega
    rw [wrapI (z := 1 + 1) (by omega) (by omega)]
    exact fin _ ev ⟨fun _ => hd, fun y => by omega⟩ 1 _ (by omega)
  · refine ⟨k15, fun y => by omega, fun _ => ?_⟩
    rw [wrapI (z := p + 1) (by omega) (by omega)]
    refine s_hasDigit hX (by omega) (fun hd => ⟨fun _ => ?_, fun y => absurd y (by decide)⟩) (fun hd => ⟨fun y => absurd rfl y, fun _ => gk1 (fun w => hd (w.1 (by omega)))⟩)
    refine s_letterAt hX ⟨by omega, hd.1⟩ ?_
    have hv := hd
    unfold isD at hv
    rw [wrapI (z := 1 + 1) (by omega) (by omega), wrapI (z := 10 * 0) (by omega) (by omega), wrapI (z := 10 * 0 + T (p + 1)) (by omega) (by omega), wrapI (z := 10 * 0 + T (p + 1) - 48) (by omega) (by omega)]
    refine ⟨k15, fun y => by omega, fun _ => ?_⟩
    rw [wrapI (z := p + (1 + 1)) (by omega) (by omega), show p + (1 + 1) = p + 2 by omega]
    refine s_hasDigit hX (by omega) (fun hd2 => ⟨fun _ => ?_, fun y => absurd y (by decide)⟩) (fun hd2 => ⟨fun y => absurd rfl y, fun _ => gk1 (fun w => hd2 (w.2 (by omega)))⟩)
    refine s_letterAt hX ⟨by omega, hd2.1⟩ ?_
    have hv2 := hd2
    unfold isD at hv2
    have ev : wrap (wrap (wrap (10 * (10 * 0 + T (p + 1) - 48)) + T (p + 2)) - 48) = pVal T p k := by
      unfold pVal
      rw [if_neg (by omega), if_neg (by omega), wrapI (z := 10 * (10 * 0 + T (p + 1) - 48)) (by omega) (by omega), wrapI (z := 10 * (10 * 0 + T (p + 1) - 48) + T (p + 2)) (by omega) (by omega), wrapI (by omega) (by omega)]; omega
    rw [wrapI (z := 1 + 1 + 1) (by omega) (by omega)]
    exact fin _ ev ⟨fun _ => hd, fun _ => hd2⟩ 0 _ (by omega)
theorem s_leads_p {i : Int} (hi : 0 ≤ i ∧ i < 24) (h1 : leadsK (X 14 i) = true → R 1 X) (h0 : leadsK (X 14 i) = false → R 0 X) : fPr_leads_p i X R := by
  have a : ∀ x : Int, leadsK x = true ↔ (x = 11 ∨ x = 12) := fun x => by unfold leadsK; simp only [Bool.or_eq_true, decide_eq_true_eq]
  have h0' : ¬ (X 14 i = 11 ∨ X 14 i = 12) → R 0 X := fun z => h0 (by cases e : leadsK (X 14 i) with
    | false => rfl
    | true => exact absurd ((a _).mp e) z)
  exact ⟨⟨by omega, by omega⟩, fun z => h1 ((a _).mpr (Or.inl z)), fun z => ⟨⟨by omega, by omega⟩, fun z2 => h0' (by omega), fun z2 => h1 ((a _).mpr (Or.inr z2))⟩⟩
end P
