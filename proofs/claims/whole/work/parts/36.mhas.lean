/-! the reference's hasVersion -/
def gone (k : Int) : Int := if k = 4 ∨ k = 7 then 0 else tk k
def restV (r s g i : Int) : Int := if i + g < stL r s then stR r s (i + g) else -4
def argM (r k s : Int) : Int × Int × Int × Int :=
  if k = 5 then (stL r s, stR r s 1, stR r s 0, stR r s 2)
  else if k = 8 then (3, stR r s 2, stR r s 0, stR r s 1)
  else if cm k ≤ 0 then (stL r s - gone k, restV r s (gone k) 0, restV r s (gone k) 1, restV r s (gone k) 2)
  else (stL r s - gone k + 1, frN (stL r s - gone k) (restV r s (gone k) 0) (restV r s (gone k) 1), restV r s (gone k) 0, restV r s (gone k) 1)
def mtA (r s : Int) (q : Int × Int × Int × Int) : Bool := mtB r s q.1 q.2.1 q.2.2.1 q.2.2.2
def verMb (r k s : Int) : Bool := !(wk r k s) || (mtA r (aft r k s) (argM r k s) && (List.range (aft r k s).toNat).all (fun t => !(mtA r t (argM r k s))) && (decide (k = 5 ∨ k = 8 ∨ cm k ≤ 0) || (decide (0 ≤ stL r s - gone k) && decide (stL r s - gone k ≤ 2) && (decide (stL r s - gone k < 1) || (decide (0 ≤ restV r s (gone k) 0) && decide (restV r s (gone k) 0 < 3))) && (decide (stL r s - gone k < 2) || (decide (0 ≤ restV r s (gone k) 1) && decide (restV r s (gone k) 1 < 3) && decide (restV r s (gone k) 1 ≠ restV r s (gone k) 0))))))
theorem verMd : ∀ r : Fin 4, ∀ k : Fin 15, ∀ s : Fin 16, (decide (r.val = 0) || decide (nS ((r.val : Nat) : Int) ≤ s.val) || verMb r.val k.val s.val) = true := by decide +kernel
theorem verM {r k s : Int} (hr : 1 ≤ r ∧ r ≤ 3) (hk : 0 ≤ k ∧ k < 15) (hs : 0 ≤ s ∧ s < nS r) (hw : wk r k s = true) : mtA r (aft r k s) (argM r k s) = true ∧ (∀ t, 0 ≤ t → t < aft r k s → mtA r t (argM r k s) = false) ∧ (¬ (k = 5 ∨ k = 8 ∨ cm k ≤ 0) → 0 ≤ stL r s - gone k ∧ stL r s - gone k ≤ 2 ∧ (1 ≤ stL r s - gone k → 0 ≤ restV r s (gone k) 0 ∧ restV r s (gone k) 0 < 3) ∧ (2 ≤ stL r s - gone k → 0 ≤ restV r s (gone k) 1 ∧ restV r s (gone k) 1 < 3 ∧ restV r s (gone k) 1 ≠ restV r s (gone k) 0)) := by
  have h16 := nS_le r
  obtain ⟨a, ha⟩ := i_fin (n := 4) (x := r) ⟨by omega, by omega⟩
  obtain ⟨b, hb⟩ := i_fin (n := 15) (x := k) ⟨by omega, by omega⟩
  obtain ⟨d, hd⟩ := i_fin (n := 16) (x := s) ⟨by omega, by omega⟩
  have h := verMd a b d
  rw [← ha, ← hb, ← hd] at h
  unfold verMb at h
  rw [hw] at h
  simp only [Bool.or_eq_true, Bool.and_eq_true, decide_eq_true_eq, Bool.not_true, Bool.false_eq_true, false_or, List.all_eq_true, List.mem_range, Bool.not_eq_true'] at h
  rcases h with (h | h) | ⟨⟨h1, h2⟩, h3⟩
  · omega
  · omega
  · refine ⟨h1, fun t t0 t1 => ?_, fun q => ?_⟩
    · have := h2 t.toNat (by omega)
      rwa [show ((t.toNat : Nat) : Int) = t by omega] at this
    · obtain ⟨⟨⟨g1, g2⟩, g3⟩, g4⟩ := h3.resolve_left q
      exact ⟨g1, g2, fun z => g3.resolve_left (by omega), fun z => by
        obtain ⟨⟨y1, y2⟩, y3⟩ := g4.resolve_left (by omega)
        exact ⟨y1, y2, y3⟩⟩
def offV (M M' : Mem) : Prop := ∀ c i, c ≠ 17 → ¬ (c = 0 ∧ (i = 23 ∨ i = 24 ∨ i = 25)) → M' c i = M c i
theorem TM.offV {r : Int} {M M' : Mem} (h : TM r M) (ho : offV M M') : TM r M' := by
  refine ⟨by rw [ho 1 0 (by decide) (by simp)]; exact h.1, fun s a b => by rw [ho 15 s (by decide) (by simp)]; exact h.2.1 s a b, fun s i a b c d => by rw [ho 16 _ (by decide) (by simp)]; exact h.2.2 s i a b c d⟩
section M
variable {r k s : Int} {M : Mem} {R : Int → Mem → Prop}
theorem sg_iff {j : Int} (hk : 0 ≤ k ∧ k < 15) (hj : 0 ≤ j ∧ j < 15) : sg k = sg j ↔ k = j := ⟨fun h => sg_inj hk hj h, fun h => by rw [h]⟩
theorem sg100 (hk : 0 ≤ k ∧ k < 15) : sg k = 100 ↔ k = 4 := by rw [show (100 : Int) = sg 4 from sg_tab.2.2.2.2.1.symm]; exact sg_iff hk (by decide)
theorem sg111 (hk : 0 ≤ k ∧ k < 15) : sg k = 111 ↔ k = 7 := by rw [show (111 : Int) = sg 7 from sg_tab.2.2.2.2.2.2.2.1.symm]; exact sg_iff hk (by decide)
theorem sg120 (hk : 0 ≤ k ∧ k < 15) : sg k = 120 ↔ k = 5 := by rw [show (120 : Int) = sg 5 from sg_tab.2.2.2.2.2.1.symm]; exact sg_iff hk (by decide)
theorem sg114 (hk : 0 ≤ k ∧ k < 15) : sg k = 114 ↔ k = 8 := by rw [show (114 : Int) = sg 8 from sg_tab.2.2.2.2.2.2.2.2.1.symm]; exact sg_iff hk (by decide)
theorem sg112 (hk : 0 ≤ k ∧ k < 15) : sg k = 112 ↔ k = 6 := by rw [show (112 : Int) = sg 6 from sg_tab.2.2.2.2.2.2.1.symm]; exact sg_iff hk (by decide)
/-- x and r -/
theorem s_turns (hr : 1 ≤ r ∧ r ≤ 3) (hT : TM r M) (hk : 0 ≤ k ∧ k < 15) (hs : 0 ≤ s ∧ s < nS r) (hw : wk r k s = true) (h58 : k = 5 ∨ k = 8) (h : R 0 (mu M 0 23 (aft r k s))) : fMd_turnsRegisters (sg k) s M R := by
  have h16 := nS_le r
  obtain ⟨v1, v2, -⟩ := verM hr hk hs hw
  have ha := aft_in hr hk hs
  have e0 := hT.2.2 s 0 hs.1 hs.2 (by omega) (by omega)
  have e1 := hT.2.2 s 1 hs.1 hs.2 (by omega) (by omega)
  have e2 := hT.2.2 s 2 hs.1 hs.2 (by omega) (by omega)
  rw [Int.add_zero] at e0
  unfold fMd_turnsRegisters
  rw [wrapI (z := 3 * s) (by omega) (by omega), wrapI (z := 3 * s + 1) (by omega) (by omega), wrapI (z := 3 * s + 2) (by omega) (by omega), e0, e1, e2, hT.2.1 s hs.1 hs.2]
  refine ⟨⟨by omega, by omega⟩, ⟨by omega, by omega⟩, ⟨by omega, by omega⟩, fun q => ?_, fun q => ⟨⟨by omega, by omega⟩, ?_⟩⟩
  · have k8 : k = 8 := h58.resolve_left (fun z => q ((sg120 hk).mpr z))
    subst k8
    exact s_stateOf hT ha v1 v2 h
  · have k5 := (sg120 hk).mp q
    subst k5
    exact s_stateOf hT ha v1 v2 h
theorem s_hv94 (hr : 1 ≤ r ∧ r ≤ 3) (hT : TM r M) (hk : 0 ≤ k ∧ k < 15) (hs : 0 ≤ s ∧ s < nS r) (hw : wk r k s = true) (h : ∀ M', offV M M' → M' 0 23 = aft r k s → M' 0 24 = M 0 24 → M' 0 25 = M 0 25 → R 1 M') : fMd_hasVersion_89 R (sg k) s (cm k) (stL r s) (gone k) M := by
  have h16 := nS_le r
  have ht := tk_le hk
  have hl := st_f hr hs
  have hg : 0 ≤ gone k ∧ gone k ≤ 3 := by unfold gone; split <;> omega
  obtain ⟨v1, v2, v3⟩ := verM hr hk hs hw
  have ha := aft_in hr hk hs
  have step : ∀ (m : Nat) (i : Int) (M1 : Mem), 0 ≤ i → i < 3 → TM r M1 → fMd_hasVersion_94 R m (sg k) s (cm k) (stL r s) (gone k) (i + 1) (mu M1 17 i (restV r s (gone k) i)) → fMd_hasVersion_94 R (m + 1) (sg k) s (cm k) (stL r s) (gone k) i M1 := by
    intro m i M1 i0 i3 hT1 hn
    refine And.intro (fun q => absurd q (by omega)) (fun _ => ?_)
    rw [wrapI (z := i + gone k) (by omega) (by omega)]
    unfold restV at hn
    refine ⟨fun q => ?_, fun q => ?_⟩
    · rw [if_neg (by omega)] at hn
      refine ⟨⟨by omega, by omega⟩, ?_⟩
      rw [wrapI (by omega) (by omega)]; exact hn
    · rw [if_pos (by omega)] at hn
      have e := hT1.2.2 s (i + gone k) hs.1 hs.2 (by omega) (by omega)
      rw [wrapI (z := 3 * s) (by omega) (by omega), wrapI (z := 3 * s + i) (by omega) (by omega), wrapI (z := 3 * s + i + gone k) (by omega) (by omega), show 3 * s + i + gone k = 3 * s + (i + gone k) by omega, e]
      refine ⟨⟨by omega, by omega⟩, ⟨by omega, by omega⟩, ?_⟩
      rw [wrapI (by omega) (by omega)]; exact hn
  have offR : ∀ (M1 : Mem) (i v : Int), offV M M1 → offV M (mu M1 17 i v) := fun M1 i v ho c j hc hn => by rw [mu_cell hc]; exact ho c j hc hn
  have rf : offV M M := fun _ _ _ _ => rfl
  have o1 := offR M 0 (restV r s (gone k) 0) rf
  have o2 := offR _ 1 (restV r s (gone k) 1) o1
  have o3 := offR _ 2 (restV r s (gone k) 2) o2
  refine ⟨4, step 3 0 M (by omega) (by omega) hT (step 2 1 _ (by omega) (by omega) (hT.offV o1) (step 1 2 _ (by omega) (by omega) (hT.offV o2) ?_))⟩
  have f0 : mu (mu (mu M 17 0 (restV r s (gone k) 0)) 17 1 (restV r s (gone k) 1)) 17 2 (restV r s (gone k) 2) 17 0 = restV r s (gone k) 0 := by rw [mu_place (by decide), mu_place (by decide), mu_same]
  have f1 : mu (mu (mu M 17 0 (restV r s (gone k) 0)) 17 1 (restV r s (gone k) 1)) 17 2 (restV r s (gone k) 2) 17 1 = restV r s (gone k) 1 := by rw [mu_place (by decide), mu_same]
  have f2 : mu (mu (mu M 17 0 (restV r s (gone k) 0)) 17 1 (restV r s (gone k) 1)) 17 2 (restV r s (gone k) 2) 17 2 = restV r s (gone k) 2 := mu_same _ _ _ _
  have g24 : mu (mu (mu M 17 0 (restV r s (gone k) 0)) 17 1 (restV r s (gone k) 1)) 17 2 (restV r s (gone k) 2) 0 24 = M 0 24 := by rw [mu_cell (by decide), mu_cell (by decide), mu_cell (by decide)]
  have g25 : mu (mu (mu M 17 0 (restV r s (gone k) 0)) 17 1 (restV r s (gone k) 1)) 17 2 (restV r s (gone k) 2) 0 25 = M 0 25 := by rw [mu_cell (by decide), mu_cell (by decide), mu_cell (by decide)]
  generalize mu (mu (mu M 17 0 (restV r s (gone k) 0)) 17 1 (restV r s (gone k) 1)) 17 2 (restV r s (gone k) 2) = N at o3 f0 f1 f2 g24 g25 ⊢
  have hTN : TM r N := hT.offV o3
  have fin : R 1 (mu N 0 23 (aft r k s)) := h _ (fun c i hc hn => by rw [show mu N 0 23 (aft r k s) c i = N c i from by unfold mu; rw [if_neg (fun q => hn ⟨q.1, Or.inl q.2⟩)]]; exact o3 c i hc hn) (mu_same _ _ _ _) (by rw [mu_place (by decide)]; exact g24) (by rw [mu_place (by decide)]; exact g25)
  refine And.intro (fun _ => ?_) (fun q => absurd (by omega) q)
  have m0 : wrap (stL r s - gone k) = stL r s - gone k := wrapI (by omega) (by omega)
  refine ⟨fun q => s_turns hr hTN hk hs hw (Or.inl ((sg120 hk).mp q)) fin, fun q => ⟨fun q2 => ?_, fun q2 => s_turns hr hTN hk hs hw (Or.inr ((sg114 hk).mp q2)) fin⟩⟩
  have k5 : k ≠ 5 := fun z => q ((sg120 hk).mpr z)
  have k8 : k ≠ 8 := fun z => q2 ((sg114 hk).mpr z)
  unfold argM mtA at v1 v2
  rw [if_neg k5, if_neg k8] at v1 v2
  refine ⟨fun hc => ?_, fun hc => ?_⟩
  · rw [if_pos hc] at v1 v2
    refine ⟨fun z => absurd rfl z, fun _ => ?_⟩
    rw [m0, f0, f1, f2]
    exact s_stateOf hTN ha v1 v2 fin
  · rw [if_neg hc] at v1 v2
    obtain ⟨y1, y2, y3, y4⟩ := v3 (by omega)
    refine ⟨fun _ => ?_, fun z => absurd z (by decide)⟩
    rw [m0]
    refine s_freeIn ⟨y1, y2⟩ (by rw [f0]; exact y3) (by rw [f0, f1]; exact y4) ?_
    rw [wrapI (by omega) (by omega), f0, f1]
    exact s_stateOf hTN ha v1 v2 fin
theorem s_mhas {mv ld st : Int} (hr : 1 ≤ r ∧ r ≤ 3) (hT : TM r M) (hc : M 1 1 = mv ∧ M 1 2 = ld ∧ M 1 3 = st) (hld : 0 ≤ ld ∧ ld ≤ 9) (hst : 0 ≤ st ∧ st ≤ 9) (hk : 0 ≤ k ∧ k < 15) (hs : 0 ≤ s ∧ s < nS r)
    (h : ∀ M', offV M M' → M' 0 23 = aft r k s → (hasV r k s = true → M' 0 24 = vc r mv ld st k s) → M' 0 25 = (if plainV r k s then 1 else 0) → R (if hasV r k s then 1 else 0) M') : fMd_hasVersion (sg k) s M R := by
  have h16 := nS_le r
  have ht := tk_le hk
  have hl := st_f hr hs
  have e15 := hT.2.1 s hs.1 hs.2
  refine s_takes hk (s_comes hk ⟨⟨by omega, by omega⟩, ?_⟩)
  have key : ∀ t0, t0 = (if k = 4 ∨ k = 7 then mv else 0) → fMd_hasVersion_47 R (sg k) s (tk k) (cm k) (M 15 s) t0 (mu M 0 25 0) := by
    intro t0 et0
    have oM : offV M (mu (mu M 0 25 0) 0 24 t0) := fun c i hc2 hn => by unfold mu; rw [if_neg (fun q => hn ⟨q.1, Or.inr (Or.inl q.2)⟩), if_neg (fun q => hn ⟨q.1, Or.inr (Or.inr q.2)⟩)]
    rw [e15]
    by_cases hw : wk r k s = true
    · have hwk := hw
      unfold wk at hwk
      simp only [Bool.and_eq_true, decide_eq_true_eq] at hwk
      have hhas : hasV r k s = true := by unfold hasV; rw [hw]; simp
      have hpl : plainV r k s = false := by unfold plainV; rw [hw]; simp
      have hvc : vc r mv ld st k s = t0 := by unfold vc; rw [hpl, et0]; rfl
      rw [hhas] at h
      have fin : fMd_hasVersion_89 R (sg k) s (cm k) (stL r s) (gone k) (mu (mu M 0 25 0) 0 24 t0) := by
        refine s_hv94 hr (hT.offV oM) hk hs hw (fun M' ho a1 a2 a3 => ?_)
        refine h M' (fun c i hc2 hn => by rw [ho c i hc2 hn]; exact oM c i hc2 hn) a1 (fun _ => ?_) ?_
        · rw [a2, mu_same, hvc]
        · rw [a3, hpl, mu_place (by decide), mu_same]; rfl
      refine ⟨fun q => absurd q (by omega), fun _ => ⟨fun q => ?_, fun _ => ⟨fun q => ?_, fun q => ⟨fun q2 => ?_, fun q2 => ?_⟩⟩⟩⟩
      · rw [mu_cell (by decide), hT.1, wrapI (z := stL r s - tk k) (by omega) (by omega), wrapI (by omega) (by omega)] at q
        omega
      · have e4 := (sg100 hk).mp q
        have eg : gone k = 0 := by unfold gone; rw [if_pos (Or.inl e4)]
        rw [eg] at fin; exact fin
      · have eg : gone k = tk k := by
          unfold gone; rw [if_neg]
          rintro (z | z)
          · exact q ((sg100 hk).mpr z)
          · exact q2 ((sg111 hk).mpr z)
        rw [eg] at fin; exact fin
      · have e7 := (sg111 hk).mp q2
        have eg : gone k = 0 := by unfold gone; rw [if_pos (Or.inr e7)]
        rw [eg] at fin; exact fin
    · have hw' : wk r k s = false := by simpa using hw
      have haft : aft r k s = 0 := by unfold aft; rw [if_neg hw]
      rw [haft] at h
      have fin : fMd_hasVersion_184 R (sg k) (tk k) (cm k) (stL r s) (mu (mu M 0 25 0) 0 24 t0) := by
        have end2 : ∀ (pl : Int) (py : Int), (pl = if plainV r k s then 1 else 0) → (hasV r k s = true → py = vc r mv ld st k s) → fMd_hasVersion_234 R (stL r s) py (mu (mu (mu M 0 25 0) 0 24 t0) 0 25 pl) := by
          intro pl py h1 h2
          have hres : ∀ v, v = (if hasV r k s then 1 else 0) → R v (mu (mu (mu (mu (mu M 0 25 0) 0 24 t0) 0 25 pl) 0 24 py) 0 23 0) := by
            intro v hv
            subst hv
            refine h _ (fun c i hc2 hn => ?_) (mu_same _ _ _ _) (fun q => ?_) ?_
            · unfold mu
              rw [if_neg (fun q => hn ⟨q.1, Or.inl q.2⟩), if_neg (fun q => hn ⟨q.1, Or.inr (Or.inl q.2)⟩), if_neg (fun q => hn ⟨q.1, Or.inr (Or.inr q.2)⟩), if_neg (fun q => hn ⟨q.1, Or.inr (Or.inl q.2)⟩), if_neg (fun q => hn ⟨q.1, Or.inr (Or.inr q.2)⟩)]
            · rw [mu_place (by decide), mu_same]; exact h2 q
            · rw [mu_place (by decide), mu_place (by decide), mu_same]; exact h1
          refine ⟨fun q => hres 0 ?_, fun q => hres 1 ?_⟩
          · have : hasV r k s = false := by
              unfold hasV; rw [hw']
              have : s ≠ 0 := fun z => q (hl.2.2.1.mpr z)
              simp [this]
            rw [this]; rfl
          · have : hasV r k s = true := by unfold hasV; simp [hl.2.2.1.mp q]
            rw [this]; rfl
        have a1 : 0 ≤ ld * tk k := Int.mul_nonneg hld.1 ht.1
        have a2 : ld * tk k ≤ 9 * 3 := Int.mul_le_mul hld.2 ht.2.1 ht.1 (by decide)
        have a3 : 0 ≤ st * cm k := Int.mul_nonneg hst.1 ht.2.2.1
        have a4 : st * cm k ≤ 9 * 3 := Int.mul_le_mul hst.2 ht.2.2.2.1 ht.2.2.1 (by decide)
        refine ⟨fun q => ?_, fun q => ⟨fun q2 => ?_, fun q2 => ?_⟩⟩
        · have hs0 : s ≠ 0 := fun z => q (hl.2.2.1.mpr z)
          refine ⟨Or.inl rfl, fun _ => end2 0 0 ?_ (fun z => ?_), fun z => absurd rfl z⟩
          · have : plainV r k s = false := by unfold plainV; simp [hs0]
            rw [this]; rfl
          · unfold hasV at z; rw [hw'] at z; simp [hs0] at z
        · have k6 := (sg112 hk).mp q2
          have hs0 := hl.2.2.1.mp q
          refine ⟨Or.inl rfl, fun _ => end2 0 0 ?_ (fun z => ?_), fun z => absurd rfl z⟩
          · have : plainV r k s = false := by unfold plainV; simp [k6]
            rw [this]; rfl
          · unfold vc plainV; simp [k6]
        · have k6 : k ≠ 6 := fun z => q2 ((sg112 hk).mpr z)
          have hs0 := hl.2.2.1.mp q
          have hpl : plainV r k s = true := by unfold plainV; rw [hw']; simp [k6, hs0]
          refine ⟨Or.inr rfl, fun z => absurd z (by decide), fun _ => end2 1 _ (by rw [hpl]; rfl) (fun z => ?_)⟩
          have n2 : mu (mu M 0 25 0) 0 24 t0 1 2 = ld := by rw [mu_cell (by decide), mu_cell (by decide)]; exact hc.2.1
          have n3 : mu (mu M 0 25 0) 0 24 t0 1 3 = st := by rw [mu_cell (by decide), mu_cell (by decide)]; exact hc.2.2
          rw [n2, n3, wrapI (z := ld * tk k) (by omega) (by omega), wrapI (z := st * cm k) (by omega) (by omega), wrapI (by omega) (by omega)]
          unfold vc; rw [if_pos hpl, Int.mul_comm, Int.mul_comm st]
      unfold wk at hw'
      refine ⟨fun _ => fin, fun q => ⟨fun _ => fin, fun q2 => ?_⟩⟩
      rw [mu_cell (by decide), hT.1, wrapI (z := stL r s - tk k) (by omega) (by omega), wrapI (by omega) (by omega)] at q2
      simp only [Bool.and_eq_false_iff, decide_eq_false_iff_not] at hw'
      omega
  refine ⟨fun q => ?_, fun q => ⟨fun q2 => ?_, fun q2 => ?_⟩⟩
  · have e4 := (sg100 hk).mp q
    refine key _ ?_
    rw [if_pos (Or.inl e4), mu_cell (by decide)]; exact hc.1
  · refine key 0 ?_
    rw [if_neg]
    rintro (z | z)
    · exact q ((sg100 hk).mpr z)
    · exact q2 ((sg111 hk).mpr z)
  · have e7 := (sg111 hk).mp q2
    refine key _ ?_
    rw [if_pos (Or.inr e7), mu_cell (by decide)]; exact hc.1
end M
