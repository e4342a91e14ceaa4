/-! x: the program and the machine as the chooser sees them -/
def XC (c : Cf) (M : Mem) : Prop := M 13 6 = cN c ∧ (∀ i, 0 ≤ i → i < cN c → M 14 i = cK c i ∧ M 17 i = cDep c i ∧ M 19 i = cTg c i ∧ (cTg c i = 0 ∨ cTg c i = 1) ∧ M 6 i = cW c i ∧ (lea c i = true → M 15 i = cNu c i)) ∧ TX (cR c) M ∧ (M 8 1 = c.1.2.1 ∧ M 8 2 = c.1.2.2.1 ∧ M 8 3 = c.1.2.2.2) ∧ M 8 4 = nS (cR c) ∧ ∀ s t, 0 ≤ s → s < nS (cR c) → 0 ≤ t → t < nS (cR c) → M 12 (16 * s + t) = cPs c s t
theorem XC.off {c : Cf} {S : List Nat} {T : List Int} {M M' : Mem} (h : XC c M) (ho : Off S T M M') (hS : 6 ∉ S ∧ 8 ∉ S ∧ 9 ∉ S ∧ 10 ∉ S ∧ 11 ∉ S ∧ 12 ∉ S ∧ 13 ∉ S ∧ 14 ∉ S ∧ 15 ∉ S ∧ 17 ∉ S ∧ 19 ∉ S) : XC c M' := by
  obtain ⟨s6, s8, s9, s10, s11, s12, s13, s14, s15, s17, s19⟩ := hS
  obtain ⟨a1, a2, a3, a4, a5, a6⟩ := h
  have e6 := ho.fn ⟨s6, by decide⟩
  have e8 := ho.fn ⟨s8, by decide⟩
  have e9 := ho.fn ⟨s9, by decide⟩
  have e10 := ho.fn ⟨s10, by decide⟩
  have e11 := ho.fn ⟨s11, by decide⟩
  have e12 := ho.fn ⟨s12, by decide⟩
  have e13 := ho.fn ⟨s13, by decide⟩
  have e14 := ho.fn ⟨s14, by decide⟩
  have e15 := ho.fn ⟨s15, by decide⟩
  have e17 := ho.fn ⟨s17, by decide⟩
  have e19 := ho.fn ⟨s19, by decide⟩
  refine ⟨by rw [e13]; exact a1, fun i i0 i1 => by rw [e14, e17, e19, e6, e15]; exact a2 i i0 i1, ?_, by rw [e8]; exact a4, by rw [e8]; exact a5, fun s t q1 q2 q3 q4 => by rw [e12]; exact a6 s t q1 q2 q3 q4⟩
  unfold TX TabX at a3 ⊢
  rw [e8, e9, e10, e11]; exact a3
section X
variable {c : Cf} {M : Mem} {R : Int → Mem → Prop} {i : Int}
theorem s_isReached (hV : VP c) (hC : XC c M) (hi : 0 ≤ i ∧ i < cN c) (h : (cDep c i ≠ -4 → R 1 M) ∧ (cDep c i = -4 → R 0 M)) : fPr_isReached_p i M R := by
  have hN := hV.2.2.2.2.1
  refine ⟨⟨by omega, by omega⟩, ?_⟩
  rw [(hC.2.1 i hi.1 hi.2).2.1]
  exact ⟨fun q => h.2 q, fun q => h.1 q⟩
theorem s_falls (hV : VP c) (hC : XC c M) (hi : 0 ≤ i ∧ i < cN c) (h : (fal c i = true → R 1 M) ∧ (fal c i = false → R 0 M)) : fPr_falls_p i M R := by
  have hN := hV.2.2.2.2.1
  have e14 := (hC.2.1 i hi.1 hi.2).1
  have i24 : inb i 24 := ⟨by omega, by omega⟩
  unfold fPr_falls_p fPr_falls_p_36
  rw [e14, hC.1, wrapI (z := i + 1) (by omega) (by omega)]
  have n : ∀ (P : Prop), (P → fal c i = false) → P → R 0 M := fun P f p => h.2 (f p)
  refine ⟨i24, fun q => h.2 (by unfold fal fallsK; rw [q]; rfl), fun q1 => ⟨i24, fun q => h.2 (by unfold fal fallsK; rw [q]; rfl), fun q2 => ⟨fun q => h.2 ?_, fun q => h.1 ?_⟩⟩⟩
  · unfold fal fallsK
    rw [show decide (i + 1 < cN c) = false from decide_eq_false (by omega)]
    simp
  · unfold fal fallsK
    simp only [Bool.and_eq_true, decide_eq_true_eq]
    exact ⟨⟨q1, q2⟩, by omega⟩
theorem s_leads (hV : VP c) (hC : XC c M) (hi : 0 ≤ i ∧ i < cN c) (h : (lea c i = true → R 1 M) ∧ (lea c i = false → R 0 M)) : fPr_leads_p i M R := by
  have hN := hV.2.2.2.2.1
  have e14 := (hC.2.1 i hi.1 hi.2).1
  have i24 : inb i 24 := ⟨by omega, by omega⟩
  unfold fPr_leads_p fPr_leads_p_22
  rw [e14]
  refine ⟨i24, fun q => h.1 (by unfold lea leadsK; rw [q]; rfl), fun q1 => ⟨i24, fun q => h.2 ?_, fun q => h.1 (by unfold lea leadsK; rw [q]; rfl)⟩⟩
  unfold lea leadsK
  simp [q1, q]
theorem s_isHead (hV : VP c) (hC : XC c M) (hi : 0 ≤ i ∧ i < cN c) (h : (hdI c i → R 1 M) ∧ (¬ hdI c i → R 0 M)) : fPr_isHead_p i M R := by
  have hN := hV.2.2.2.2.1
  unfold fPr_isHead_p fPr_isHead_p_24
  refine ⟨fun q => h.1 (Or.inl q), fun q => ?_⟩
  rw [wrapI (z := i - 1) (by omega) (by omega)]
  refine s_isReached hV hC ⟨by omega, by omega⟩ ⟨fun r => ⟨fun z => absurd z (by decide), fun _ => ?_⟩, fun r => ⟨fun _ => h.1 (Or.inr (Or.inl r)), fun z => absurd rfl z⟩⟩
  refine s_falls hV hC ⟨by omega, by omega⟩ ⟨fun f => ⟨fun _ => h.2 ?_, fun z => absurd z (by decide)⟩, fun f => ⟨fun z => absurd rfl z, fun _ => h.1 (Or.inr (Or.inr f))⟩⟩
  rintro (z | z | z)
  · exact q z
  · exact r z
  · rw [f] at z; exact absurd z (by decide)
theorem s_targetFrom (hV : VP c) (hC : XC c M) {a : Int} (ha : 0 ≤ a ∧ a ≤ cN c) (h1 : (∀ j, a ≤ j → j < cN c → cTg c j ≠ 1) → R (-4) M) (h2 : ∀ j, a ≤ j → j < cN c → cTg c j = 1 → (∀ k, a ≤ k → k < j → cTg c k ≠ 1) → R j M) : fPr_targetFrom_p a M R := by
  have hN := hV.2.2.2.2.1
  have key : ∀ (d : Nat) (x : Int), a ≤ x → x + d = cN c → (∀ k, a ≤ k → k < x → cTg c k ≠ 1) → fPr_targetFrom_p_2 R (d + 1) x M := by
    intro d
    induction d with
    | zero =>
      intro x x0 xd hk
      refine ⟨fun _ => h1 (fun j a b => hk j a (by omega)), fun q => ?_⟩
      rw [hC.1] at q; omega
    | succ d ih =>
      intro x x0 xd hk
      unfold fPr_targetFrom_p_2
      rw [hC.1, (hC.2.1 x (by omega) (by omega)).2.2.1, wrapI (z := x + 1) (by omega) (by omega)]
      have t01 := (hC.2.1 x (by omega) (by omega)).2.2.2.1
      refine ⟨fun q => by omega, fun _ => ⟨⟨by omega, by omega⟩, fun q => ih (x + 1) (by omega) (by omega) (fun k a b => ?_), fun q => h2 x x0 (by omega) (by omega) hk⟩⟩
      by_cases e : k = x
      · rw [e]; omega
      · exact hk k a (by omega)
  exact ⟨(cN c - a).toNat + 1, key _ a (by omega) (by omega) (fun k a b => by omega)⟩
end X
