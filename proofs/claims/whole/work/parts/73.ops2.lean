/-! operations that read states -/
section O
variable {m : Int} {X Y : Mem} {c : Cf} {R : Int → Mem → Prop}
theorem s_xisState {s : Int} (hC : XC c X) (h : (0 ≤ s ∧ s < nS (cR c) → R 1 X) ∧ (¬ (0 ≤ s ∧ s < nS (cR c)) → R 0 X)) : fSt_isState s X R := by
  unfold fSt_isState fSt_isState_19
  rw [hC.2.2.2.2.1]
  exact ⟨fun q => h.2 (fun z => by omega), fun q1 => ⟨fun q2 => h.2 (fun z => by omega), fun q2 => h.1 ⟨by omega, by omega⟩⟩⟩
theorem s_lays (hV : VP c) (hM : MC c Y) (h : ∀ Y', Off [15, 16] [20] Y Y' → TM (cR c) Y' → Y' 0 20 = nS (cR c) → R 0 Y') : fMd_laysStates Y R := by
  have e10 : Y 1 0 = cR c := hM.1.1
  refine s_laysStates (by rw [e10]; exact hV.1) ?_
  rw [e10]
  exact h _ (fun d i q1 q2 => SM_off (fun y => q2 y.1 (by rw [y.2]; decide)) (fun y => q1 (by rw [y]; decide)) (fun y => q1 (by rw [y]; decide))) (TM_SM e10) (SM_20 _ _ _)
theorem s_misState {s : Int} (hV : VP c) (hM : MC c Y) (h : ∀ Y', Off [15, 16] [20] Y Y' → TM (cR c) Y' → Y' 0 20 = nS (cR c) → (0 ≤ s ∧ s < nS (cR c) → R 1 Y') ∧ (¬ (0 ≤ s ∧ s < nS (cR c)) → R 0 Y')) : fMd_isState s Y R := by
  have h16 := nS_le (cR c)
  refine s_lays hV hM (fun Y' ho hT h20 => ?_)
  obtain ⟨h1, h2⟩ := h Y' ho hT h20
  rw [h20, wrapI (z := nS (cR c) - 1) (by omega) (by omega)]
  exact s_in ⟨fun q => ⟨Or.inr rfl, h1 ⟨q.1, by omega⟩⟩, fun q => ⟨Or.inl rfl, h2 (fun z => q ⟨z.1, by omega⟩)⟩⟩
theorem s_xisIns {i : Int} (hC : XC c X) (h : (0 ≤ i ∧ i < cN c → R 1 X) ∧ (¬ (0 ≤ i ∧ i < cN c) → R 0 X)) : fSt_isInstruction i X R := by
  unfold fSt_isInstruction fSt_isInstruction_19
  rw [hC.1]
  exact ⟨fun q => h.2 (fun z => by omega), fun q1 => ⟨fun q2 => h.2 (fun z => by omega), fun q2 => h.1 ⟨by omega, by omega⟩⟩⟩
theorem s_misCode {i : Int} (hV : VP c) (hM : MC c Y) (h : (0 ≤ i ∧ i < cN c → R 1 Y) ∧ (¬ (0 ≤ i ∧ i < cN c) → R 0 Y)) : fMd_isCode i Y R := by
  have hN := hV.2.2.2.2.1
  unfold fMd_isCode
  rw [hM.2.1, wrapI (z := cN c - 1) (by omega) (by omega)]
  exact s_in ⟨fun q => ⟨Or.inr rfl, h.1 ⟨q.1, by omega⟩⟩, fun q => ⟨Or.inl rfl, h.2 (fun z => q ⟨z.1, by omega⟩)⟩⟩
theorem o_wipe (h : Rel m X Y) : fSt_wipe X (Post m (fMd_wipe Y)) := by
  obtain ⟨⟨t1, t2, t3⟩, b, d, e, q⟩ := h.mono (m' := m + 1) (by omega)
  have hx : Off [1] [] X (mu X 1 1 0) := (Off.rf _ _ _).mu (Or.inl (by decide))
  have hy : Off [] [9] Y (mu Y 0 9 0) := (Off.rf _ _ _).mu (Or.inr (by decide))
  refine ⟨t1, ⟨by rw [mu_same, mu_same], by rw [mu_same]; omega, fun i i0 i1 => by rw [mu_same] at i1; omega⟩, b.off hx hy (by decide) (by decide), d.off hx hy (by decide) (by decide), e.off hx hy (by decide) (by decide), RQ.off q hx hy (by decide) (by decide) (by decide)⟩
theorem o_cause {x : Int} (h : Rel m X Y) : fSt_cause x X (Post m (fMd_cause x Y)) := by
  have hm := h.mono (m' := m + 1) (by omega)
  obtain ⟨-, ⟨c1, c2, c3⟩, -⟩ := id hm
  unfold fSt_cause Post fMd_cause
  rw [← c1]
  refine ⟨fun q => ⟨fun q2 => ⟨fun _ => ⟨fun _ => ⟨rfl, hm⟩, fun z => absurd q2 z⟩, fun z => absurd q z⟩, fun q2 => ⟨⟨by omega, by omega⟩, ⟨fun _ => ⟨fun z => absurd z q2, fun _ => ⟨⟨by omega, by omega⟩, c3 x q (by omega), hm⟩⟩, fun z => absurd q z⟩⟩⟩, fun q => ⟨fun z => absurd z q, fun _ => ⟨rfl, hm⟩⟩⟩
theorem o_states (h : Rel m X Y) : fSt_states X (Post m (fMd_states Y)) := by
  have hm := h.mono (m' := m + 1) (by omega)
  obtain ⟨-, -, -, -, c, nt, t1, t2, p, -⟩ := id hm
  refine s_lays p.1 p.2.2.2.1 (fun Y' ho hT h20 => ⟨?_, hm.offY (ho.mono (by decide) (by decide))⟩)
  rw [h20]; exact p.2.2.1.2.2.2.2.1
theorem o_state {x y : Int} (h : Rel m X Y) : fSt_state x y X (Post m (fMd_state x y Y)) := by
  have hm := h.mono (m' := m + 1) (by omega)
  obtain ⟨-, -, -, -, c, nt, t1, t2, p, -⟩ := id hm
  have hV := p.1
  have hC := p.2.2.1
  have h16 := nS_le (cR c)
  refine s_xisState hC ⟨fun hs => ⟨fun z => absurd z (by decide), fun _ => ⟨fun hy => ?_, fun hy => ?_⟩⟩, fun hs => ⟨fun _ => ?_, fun z => absurd rfl z⟩⟩
  · refine s_lengthOf hC.2.2.1 hs ⟨fun y1 => ⟨fun y2 => ?_, fun y2 => ?_⟩, fun y1 => ?_⟩
    · refine s_misState hV p.2.2.2.1 (fun Y' ho hT h20 => ⟨fun _ => ⟨fun z => absurd z (by decide), fun _ => ⟨fun _ => ⟨fun _ => ⟨⟨by omega, by omega⟩, ?_⟩, fun z => absurd z y1⟩, fun z => absurd hy z⟩⟩, fun z => absurd hs z⟩)
      rw [hT.2.1 x hs.1 hs.2]
      exact ⟨fun _ => ⟨rfl, hm.offY (ho.mono (by decide) (by decide))⟩, fun z => absurd y2 z⟩
    · have hl := st_f hV.1 hs
      refine s_registerOf hV.1 hC.2.2.1 hs ⟨by omega, by omega⟩ (s_misState hV p.2.2.2.1 (fun Y' ho hT h20 => ⟨fun _ => ⟨fun z => absurd z (by decide), fun _ => ⟨fun _ => ⟨fun _ => ⟨⟨by omega, by omega⟩, ?_⟩, fun z => absurd z y1⟩, fun z => absurd hy z⟩⟩, fun z => absurd hs z⟩))
      rw [hT.2.1 x hs.1 hs.2]
      refine ⟨fun z => absurd z y2, fun _ => ?_⟩
      have hl3 : stL (cR c) x ≤ 3 := by have := hl.2.1; have := hV.1; omega
      rw [wrapI (z := 3 * x) (by omega) (by omega), wrapI (z := 3 * x + y) (by omega) (by omega), hT.2.2 x y hs.1 hs.2 (by omega) (by omega)]
      exact ⟨⟨by omega, by omega⟩, rfl, hm.offY (ho.mono (by decide) (by decide))⟩
    · refine s_misState hV p.2.2.2.1 (fun Y' ho hT h20 => ⟨fun _ => ⟨fun z => absurd z (by decide), fun _ => ⟨fun _ => ⟨fun z => absurd y1 z, fun _ => ⟨⟨by omega, by omega⟩, ?_⟩⟩, fun z => absurd hy z⟩⟩, fun z => absurd hs z⟩)
      rw [hT.2.1 x hs.1 hs.2]
      exact ⟨rfl, hm.offY (ho.mono (by decide) (by decide))⟩
  · exact s_misState hV p.2.2.2.1 (fun Y' ho hT h20 => ⟨fun _ => ⟨fun z => absurd z (by decide), fun _ => ⟨fun z => absurd z hy, fun _ => ⟨rfl, hm.offY (ho.mono (by decide) (by decide))⟩⟩⟩, fun z => absurd hs z⟩)
  · exact s_misState hV p.2.2.2.1 (fun Y' ho hT h20 => ⟨fun z => absurd z hs, fun _ => ⟨fun _ => ⟨rfl, hm.offY (ho.mono (by decide) (by decide))⟩, fun z => absurd rfl z⟩⟩)
end O
