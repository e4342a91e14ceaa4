/-! profile -/
def prW (X : Mem) (i : Int) : Int := min (X 44 i + 1) 999
def prD (X : Mem) (i : Int) : Int := if X 6 i = prW X i then 0 else 1
section C
variable {m : Int} {X Y X1 Y1 X2 Y2 X3 : Mem} {R : Int → Mem → Prop} {N : Int}
theorem prD_in (X : Mem) (i : Int) : 0 ≤ prD X i ∧ prD X i ≤ 1 := by unfold prD; split <;> decide
theorem sum_pr (X : Mem) (n : Nat) : 0 ≤ sumT (prD X) n ∧ sumT (prD X) n ≤ n := by
  have a := sumT_nonneg (f := prD X) (n := n) (fun j _ => (prD_in X j).1)
  have b := sumT_le (f := prD X) (b := 1) (n := n) (fun j _ => (prD_in X j).2)
  exact ⟨a, by omega⟩
theorem sumT_next {f : Int → Int} {i : Int} (h : 0 ≤ i) : sumT f (i + 1).toNat = sumT f i.toNat + f i := by
  rw [show (i + 1).toNat = i.toNat + 1 by omega]
  show _ + f ((i.toNat : Nat) : Int) = _
  rw [show ((i.toNat : Nat) : Int) = i by omega]
theorem s_weightOf {i : Int} (hi : 0 ≤ i ∧ i < 24) (hx : 0 ≤ X 44 i ∧ X 44 i < 2147483646) (h : R (prW X i) X) : fRu_weightOf i X R := by
  refine ⟨⟨by omega, by omega⟩, s_min ?_⟩
  rw [wrapI (z := X 44 i + 1) (by omega) (by omega)]
  exact h
theorem s_mweightOf {v : Int} (hx : 0 ≤ v ∧ v < 2147483646) (h : R (min (v + 1) 999) Y) : fMd_weightOf v Y R := by
  refine ⟨fun z => ?_, fun z => ?_⟩
  · rw [wrapI (z := v + 1) (by omega) (by omega), show v + 1 = min (v + 1) 999 by omega]; exact h
  · rw [show (999 : Int) = min (v + 1) 999 by omega]; exact h
theorem s_prof17 (hN : 0 ≤ N ∧ N ≤ 24) (h13 : X 13 6 = N) (hx : ∀ i, 0 ≤ i → i < 24 → 0 ≤ X 44 i ∧ X 44 i < 2147483646) (h : (sumT (prD X) N.toNat ≠ 0 → fSe_remember X (fun r1 M1 => ∃ n4, fSt_profile_73 R n4 (sumT (prD X) N.toNat) 0 M1)) ∧ (sumT (prD X) N.toNat = 0 → R (-2) X)) : ∃ n, fSt_profile_17 R n 0 0 X := by
  have key : ∀ (d : Nat) (s i : Int), 0 ≤ i → i + d = N → s = sumT (prD X) i.toNat → fSt_profile_17 R (d + 1) s i X := by
    intro d
    induction d with
    | zero =>
      intro s i i0 hd hs
      unfold fSt_profile_17
      rw [h13]
      have e : i = N := by omega
      rw [hs, e]
      exact ⟨fun _ => h, fun z => by omega⟩
    | succ d ih =>
      intro s i i0 hd hs
      unfold fSt_profile_17 fSt_profile_51
      rw [h13]
      have b := sum_pr X i.toNat
      refine ⟨fun z => by omega, fun _ => ⟨⟨by omega, by omega⟩, s_weightOf ⟨i0, by omega⟩ (hx i i0 (by omega)) ⟨fun z => ?_, fun z => ?_⟩⟩⟩
      · rw [wrapI (z := i + 1) (by omega) (by omega)]
        refine ih _ _ (by omega) (by omega) ?_
        rw [sumT_next i0, hs]
        unfold prD
        rw [if_pos z]; omega
      · rw [wrapI (z := i + 1) (by omega) (by omega), wrapI (z := s + 1) (by omega) (by omega)]
        refine ih _ _ (by omega) (by omega) ?_
        rw [sumT_next i0, hs]
        unfold prD
        rw [if_neg z]
  exact ⟨N.toNat + 1, key N.toNat 0 0 (by omega) (by omega) rfl⟩
theorem s_prof73 {v : Int} (hN : 0 ≤ N ∧ N ≤ 24) (h13 : X1 13 6 = N) (hx : ∀ i, 0 ≤ i → i < 24 → 0 ≤ X1 44 i ∧ X1 44 i < 2147483646) (h : ∀ X2, Off [6] [] X1 X2 → (∀ i, 0 ≤ i → X2 6 i = if i < N then prW X1 i else X1 6 i) → fSt_refresh X2 (fun _ M => R v M)) : ∃ n, fSt_profile_73 R n v 0 X1 := by
  have key : ∀ (d : Nat) (i : Int) (M : Mem), 0 ≤ i → i + d = N → Off [6] [] X1 M → (∀ j, 0 ≤ j → M 6 j = if j < i then prW X1 j else X1 6 j) → fSt_profile_73 R (d + 1) v i M := by
    intro d
    induction d with
    | zero =>
      intro i M i0 hd ho hj
      unfold fSt_profile_73
      rw [ho.cell (c := 13) (by decide), h13]
      have e : i = N := by omega
      rw [e] at hj
      exact ⟨fun _ => h M ho hj, fun z => by omega⟩
    | succ d ih =>
      intro i M i0 hd ho hj
      unfold fSt_profile_73
      rw [ho.cell (c := 13) (by decide), h13]
      have e44 : M 44 i = X1 44 i := ho.cell (by decide) _
      refine ⟨fun z => by omega, fun _ => s_weightOf ⟨i0, by omega⟩ (by rw [e44]; exact hx i i0 (by omega)) ⟨⟨by omega, by omega⟩, ?_⟩⟩
      rw [wrapI (z := i + 1) (by omega) (by omega)]
      refine ih (i + 1) _ (by omega) (by omega) (ho.mu (Or.inl (by decide))) (fun j j0 => ?_)
      by_cases y : j = i
      · rw [y, mu_same, if_pos (by omega)]
        unfold prW; rw [e44]
      · rw [mu_place y, hj j j0]
        by_cases z : j < i
        · rw [if_pos z, if_pos (by omega)]
        · rw [if_neg z, if_neg (by omega)]
  exact ⟨N.toNat + 1, key N.toNat 0 X1 (by omega) (by omega) (Off.rf _ _ _) (fun j j0 => by rw [if_neg (by omega)])⟩
theorem s_mprof4 (hN : 0 ≤ N ∧ N ≤ 24) (h3 : Y 0 3 = N) (h43 : Y 0 43 = 1) (hx : ∀ i, 0 ≤ i → i < 24 → 0 ≤ X 44 i ∧ X 44 i < 2147483646) (e30 : ∀ i, 0 ≤ i → i < 24 → Y 30 i = X 44 i) (e1 : ∀ i, 0 ≤ i → i < 24 → Y 1 (4 + i) = X 6 i)
    (h : (sumT (prD X) N.toNat ≠ 0 → fMd_notes Y (fun r1 M1 => ∃ n4, fMd_profile_66 R n4 (sumT (prD X) N.toNat) 0 M1)) ∧ (sumT (prD X) N.toNat = 0 → R (-2) Y)) : fMd_profile Y R := by
  have key : ∀ (d : Nat) (s i : Int), 0 ≤ i → i + d = N → s = sumT (prD X) i.toNat → fMd_profile_4 R (d + 1) s i Y := by
    intro d
    induction d with
    | zero =>
      intro s i i0 hd hs
      unfold fMd_profile_4
      rw [h3]
      have e : i = N := by omega
      rw [hs, e]
      exact ⟨fun _ => h, fun z => by omega⟩
    | succ d ih =>
      intro s i i0 hd hs
      unfold fMd_profile_4 fMd_profile_44 fMd_profile_45
      have b := sum_pr X i.toNat
      rw [h3, h43, e30 i i0 (by omega), wrapI (z := 4 + i) (by omega) (by omega), wrapI (z := i + 1) (by omega) (by omega), wrapI (z := s + 0) (by omega) (by omega), wrapI (z := s + 1) (by omega) (by omega)]
      refine ⟨fun z => by omega, fun _ => ⟨fun z => absurd z (by decide), fun _ => ⟨⟨by omega, by omega⟩, s_mweightOf (hx i i0 (by omega)) ?_⟩⟩⟩
      rw [e1 i i0 (by omega)]
      refine ⟨⟨by omega, by omega⟩, fun z => ?_, fun z => ?_⟩
      · refine ih _ _ (by omega) (by omega) ?_
        rw [sumT_next i0, hs]
        unfold prD prW
        rw [if_pos z.symm]
      · refine ih _ _ (by omega) (by omega) ?_
        rw [sumT_next i0, hs]
        unfold prD prW
        rw [if_neg (fun q => z q.symm)]
  exact ⟨N.toNat + 1, key N.toNat 0 0 (by omega) (by omega) rfl⟩
theorem s_mprof0 (hN : 0 ≤ N ∧ N ≤ 24) (h3 : Y 0 3 = N) (h43 : Y 0 43 = 0) (h : R (-2) Y) : fMd_profile Y R := by
  have key : ∀ (d : Nat) (i : Int), 0 ≤ i → i + d = N → fMd_profile_4 R (d + 1) 0 i Y := by
    intro d
    induction d with
    | zero =>
      intro i i0 hd
      unfold fMd_profile_4
      rw [h3]
      exact ⟨fun _ => ⟨fun z => absurd rfl z, fun _ => h⟩, fun z => by omega⟩
    | succ d ih =>
      intro i i0 hd
      unfold fMd_profile_4 fMd_profile_44 fMd_profile_45
      rw [h3, h43, wrapI (z := i + 1) (by omega) (by omega)]
      exact ⟨fun z => by omega, fun _ => ⟨fun _ => ih _ (by omega) (by omega), fun z => absurd rfl z⟩⟩
  exact ⟨N.toNat + 1, key N.toNat 0 (by omega) (by omega)⟩
theorem s_mprof66 {v : Int} (hN : 0 ≤ N ∧ N ≤ 24) (h3 : Y1 0 3 = N) (hx : ∀ i, 0 ≤ i → i < 24 → 0 ≤ Y1 30 i ∧ Y1 30 i < 2147483646) (h : ∀ Y2, Off [1] [] Y1 Y2 → (∀ i, i < 4 → Y2 1 i = Y1 1 i) → (∀ i, 0 ≤ i → Y2 1 (4 + i) = if i < N then min (Y1 30 i + 1) 999 else Y1 1 (4 + i)) → R v Y2) : ∃ n, fMd_profile_66 R n v 0 Y1 := by
  have key : ∀ (d : Nat) (i : Int) (M : Mem), 0 ≤ i → i + d = N → Off [1] [] Y1 M → (∀ i, i < 4 → M 1 i = Y1 1 i) → (∀ j, 0 ≤ j → M 1 (4 + j) = if j < i then min (Y1 30 j + 1) 999 else Y1 1 (4 + j)) → fMd_profile_66 R (d + 1) v i M := by
    intro d
    induction d with
    | zero =>
      intro i M i0 hd ho h4 hj
      unfold fMd_profile_66
      rw [ho.fld (i := 3) (by decide), h3]
      have e : i = N := by omega
      rw [e] at hj
      exact ⟨fun _ => h M ho h4 hj, fun z => by omega⟩
    | succ d ih =>
      intro i M i0 hd ho h4 hj
      unfold fMd_profile_66
      have e30 : M 30 i = Y1 30 i := ho.cell (by decide) _
      rw [ho.fld (i := 3) (by decide), h3, e30, wrapI (z := i + 1) (by omega) (by omega), wrapI (z := 4 + i) (by omega) (by omega)]
      refine ⟨fun z => by omega, fun _ => ⟨⟨by omega, by omega⟩, s_mweightOf (hx i i0 (by omega)) ⟨⟨by omega, by omega⟩, ?_⟩⟩⟩
      refine ih (i + 1) _ (by omega) (by omega) (ho.mu (Or.inl (by decide))) (fun j hj' => by rw [mu_place (by omega)]; exact h4 j hj') (fun j j0 => ?_)
      by_cases y : j = i
      · rw [y, mu_same, if_pos (by omega)]
      · rw [mu_place (by omega), hj j j0]
        by_cases z : j < i
        · rw [if_pos z, if_pos (by omega)]
        · rw [if_neg z, if_neg (by omega)]
  exact ⟨N.toNat + 1, key N.toNat 0 Y1 (by omega) (by omega) (Off.rf _ _ _) (fun _ _ => rfl) (fun j j0 => by rw [if_neg (by omega)])⟩
theorem o_profile (hm0 : 0 ≤ m ∧ m < 4000000) (h : Rel m X Y) : fSt_profile X (Post m (fMd_profile Y)) := by
  have hm := h.mono (m' := m + 1) (by omega)
  obtain ⟨-, -, d, e, c, nt, t1, t2, p, q, ⟨r1, r2⟩⟩ := id h
  have hN := p.1.2.2.2.2.1
  have h3 : Y 0 3 = cN c := p.2.2.2.1.2.1
  have h13 : X 13 6 = cN c := p.2.2.1.1
  refine ⟨fun z => ?_, fun z => s_mprof0 ⟨by omega, hN.2⟩ h3 (r1.symm.trans z) ⟨rfl, hm⟩⟩
  have r2' := r2.resolve_left z
  obtain ⟨a0, a1, a2, a3, a4, a5, a6, a7, a8, a9, a10, a11, a12, a13, a14, a15, a16⟩ := r2'
  have h43 : Y 0 43 = 1 := r1.symm.trans a0
  have hx : ∀ i, 0 ≤ i → i < 24 → 0 ≤ X 44 i ∧ X 44 i < 2147483646 := fun i i0 i1 => by have := a16 i i0 i1; omega
  have e30 : ∀ i, 0 ≤ i → i < 24 → Y 30 i = X 44 i := fun i i0 i1 => (a16 i i0 i1).1.symm
  have e1 : ∀ i, 0 ≤ i → i < 24 → Y 1 (4 + i) = X 6 i := fun i i0 i1 => (d.2.2.2.2.1 i i0 i1).symm
  refine s_prof17 ⟨by omega, hN.2⟩ h13 hx ⟨fun zc => s_rememberN e (fun X1 hN' => ?_), fun zc => s_mprof4 ⟨by omega, hN.2⟩ h3 h43 hx e30 e1 ⟨fun y => absurd zc y, fun _ => ⟨rfl, hm⟩⟩⟩
  obtain ⟨o1, f1, hnote⟩ := hN'
  have c44 : X1 44 = X 44 := o1.fn (by decide)
  have c6 : X1 6 = X 6 := o1.fn (by decide)
  have pW : prW X1 = prW X := by funext i; unfold prW; rw [c44]
  refine s_prof73 ⟨by omega, hN.2⟩ (by rw [o1.cell (by decide)]; exact h13) (by rw [c44]; exact hx) (fun X2 o2 x6 => ?_)
  rw [pW, c6] at x6
  have ox : Off [5, 6, 7] [] X X2 := (o1.mono (by decide) (by decide)).tr (o2.mono (by decide) (by decide))
  obtain ⟨k1, k2, k3, k4, k5⟩ := d.2.2.2.2.2
  have g0 : ∀ f, f ≠ 5 → f ≠ 7 → X2 5 f = X 5 f := fun f f5 f7 => by rw [o2.cell (by decide)]; exact f1 f f5 f7
  refine s_refreshS hm ox (by rw [g0 0 (by decide) (by decide), d.1]; exact k1) (by rw [g0 1 (by decide) (by decide), d.2.1]; exact k2) (by rw [g0 2 (by decide) (by decide), d.2.2.1]; exact k3) (by rw [g0 3 (by decide) (by decide), d.2.2.2.1]; exact k4) (fun X3 o3 hMX k17 k18 k7 => ?_)
  refine s_mprof4 ⟨by omega, hN.2⟩ h3 h43 hx e30 e1 ⟨fun _ => hnote Y _ d e (fun Y1 oy y43 y31 y27 hU => ?_), fun y => absurd y zc⟩
  have y30 : Y1 30 = Y 30 := oy.fn (by decide)
  have y1 : Y1 1 = Y 1 := oy.fn (by decide)
  refine s_mprof66 ⟨by omega, hN.2⟩ (by rw [oy.fld (by decide)]; exact h3) (fun i i0 i1 => by rw [y30, e30 i i0 i1]; exact hx i i0 i1) (fun Y2 o2' z4 zr => ⟨rfl, ?_⟩)
  rw [y30, y1] at zr
  rw [y1] at z4
  have oy' : Off [1, 2] [2, 27, 31, 43] Y Y2 := (oy.mono (by decide) (by decide)).tr (o2'.mono (by decide) (by decide))
  have c0 : ∀ i, Y2 0 i = Y1 0 i := fun i => o2'.fld ⟨by decide, by simp⟩
  refine Rel.set hm ox oy' ⟨by rw [g0 0 (by decide) (by decide), z4 0 (by decide)]; exact d.1, by rw [g0 1 (by decide) (by decide), z4 1 (by decide)]; exact d.2.1, by rw [g0 2 (by decide) (by decide), z4 2 (by decide)]; exact d.2.2.1, by rw [g0 3 (by decide) (by decide), z4 3 (by decide)]; exact d.2.2.2.1, fun i i0 i1 => ?_, ?_⟩ (hU.eq (o2.cell (by decide) _) (o2.cell (by decide) _) (o2.fn (by decide)) (c0 2) (o2'.fn (by decide))) (by rw [c0]; exact y43) (by rw [c0]; exact y31) (by rw [c0]; exact y27) o3 hMX k17 k18 k7
  · rw [x6 i i0, zr i i0, e30 i i0 i1, e1 i i0 i1]; rfl
  · refine ⟨by rw [z4 0 (by decide)]; exact k1, by rw [z4 1 (by decide)]; exact k2, by rw [z4 2 (by decide)]; exact k3, by rw [z4 3 (by decide)]; exact k4, fun i i0 i1 => ?_⟩
    rw [zr i i0]
    by_cases z : i < cN c
    · rw [if_pos z, e30 i i0 i1]
      have := hx i i0 i1
      omega
    · rw [if_neg z]; exact k5 i i0 i1
end C
