theorem LF_any {c : Cf} {ok : Int → Int → Bool} {pi : Int → Int} (hV : VP c) (hok : ∀ i s, ok i s = true → okL c i s = true) (hp : Pin c pi) : ∀ (m : Nat) (i s : Int), 0 ≤ i → i + m = cN c → 0 ≤ s → s < nS (cR c) → LF c ok pi i s = FAR ∨ (0 ≤ LF c ok pi i s ∧ LF c ok pi i s ≤ 260000 * m) := by
  have h16 := nS_le (cR c)
  have hFAR : FAR = 1000000000 := rfl
  intro m
  induction m with
  | zero =>
    intro i s h0 hm hs0 hs1
    unfold LF
    have : (cN c - i).toNat = 0 := by omega
    rw [this]; exact Or.inl rfl
  | succ m ih =>
    intro i s h0 hm hs0 hs1
    cases ho : ok i s with
    | false => exact Or.inl (LF_no ho)
    | true =>
      have hd := okL_dep (hok i s ho)
      have hb := bs_in (pi := pi) hV ⟨h0, by omega⟩ hd ⟨hs0, hs1⟩ hp
      rw [LF_eq ⟨h0, by omega⟩ ho]
      by_cases hf : fal c i = true
      · rw [if_pos hf]
        have hlt := fal_lt hf
        by_cases ht : cTg c (i + 1) = 1
        · rw [if_pos ht]
          have := wP_in hV ⟨h0, by omega⟩ ⟨hs0, hs1⟩ (hp (i + 1) (by omega) hlt ht)
          right; omega
        · rw [if_neg ht]
          by_cases hne : moreF c ok pi i s = FAR
          · rw [if_pos hne]; exact Or.inl rfl
          · rw [if_neg hne]
            have hmin := mnF_isMin (fun t => ok (i + 1) t && decide (LF c ok pi (i + 1) t < FAR)) (fun t => cW c i * cPs c (cAf c i s) t + LF c ok pi (i + 1) t) (nS (cR c)).toNat
            rw [show (((nS (cR c)).toNat : Nat) : Int) = nS (cR c) by omega] at hmin
            change isMin _ _ _ (moreF c ok pi i s) at hmin
            obtain ⟨t', t0', t1', t2', t3'⟩ := hmin.2.2.resolve_left hne
            simp only [Bool.and_eq_true, decide_eq_true_eq] at t2'
            have hLt' := ih (i + 1) t' (by omega) (by omega) t0' t1'
            have hwt' := wP_in hV ⟨h0, by omega⟩ ⟨hs0, hs1⟩ ⟨t0', t1'⟩
            have e : moreF c ok pi i s = cW c i * cPs c (cAf c i s) t' + LF c ok pi (i + 1) t' := t3'.symm
            right
            rcases hLt' with z | z
            · omega
            · omega
      · rw [if_neg hf]; right; omega
theorem LF_b {c : Cf} {ok : Int → Int → Bool} {pi : Int → Int} {i s : Int} (hV : VP c) (hok : ∀ i s, ok i s = true → okL c i s = true) (hp : Pin c pi) (hi : 0 ≤ i ∧ i < cN c) (hs : 0 ≤ s ∧ s < nS (cR c)) : 0 ≤ LF c ok pi i s ∧ (LF c ok pi i s = FAR ∨ LF c ok pi i s ≤ 6240000) ∧ LF c ok pi i s ≤ FAR := by
  have hFAR : FAR = 1000000000 := rfl
  have hN := hV.2.2.2.2.1
  rcases LF_any hV hok hp (cN c - i).toNat i s hi.1 (by omega) hs.1 hs.2 with z | z
  · rw [z]; exact ⟨by decide, Or.inl rfl, Int.le_refl _⟩
  · refine ⟨z.1, Or.inr (by omega), by omega⟩
/-- the reference in the midst of a search -/
def SB (c : Cf) (ok : Int → Int → Bool) (pi : Int → Int) (M : Mem) : Prop := MC c M ∧ M 0 20 = nS (cR c) ∧ PassOK (cR c) c.1.2.1 c.1.2.2.1 c.1.2.2.2 M ∧ (∀ i s, 0 ≤ i → i < cN c → 0 ≤ s → s < nS (cR c) → VT c ok M i s) ∧ (∀ t, 0 ≤ t → t < cN c → cTg c t = 1 → M 26 t = pi t)
theorem SB.off {c : Cf} {ok : Int → Int → Bool} {pi : Int → Int} {S : List Nat} {T : List Int} {M M' : Mem} (h : SB c ok pi M) (ho : Off S T M M') (hS : 0 ∉ S ∧ 1 ∉ S ∧ 3 ∉ S ∧ 4 ∉ S ∧ 5 ∉ S ∧ 6 ∉ S ∧ (3 : Int) ∉ T) (hS2 : 18 ∉ S ∧ 22 ∉ S ∧ 23 ∉ S ∧ 26 ∉ S ∧ (20 : Int) ∉ T) : SB c ok pi M' :=
  ⟨h.1.off ho hS, by rw [ho.fld ⟨hS.1, hS2.2.2.2.2⟩]; exact h.2.1, fun s t a b d e => by rw [ho.cell ⟨hS2.1, by decide⟩]; exact h.2.2.1 s t a b d e, fun i s a b d e => ⟨by rw [ho.cell ⟨hS2.2.1, by decide⟩]; exact (h.2.2.2.1 i s a b d e).1, fun z => by rw [ho.cell ⟨hS2.2.2.1, by decide⟩]; exact (h.2.2.2.1 i s a b d e).2 z⟩, fun t a b d => by rw [ho.cell ⟨hS2.2.2.2.1, by decide⟩]; exact h.2.2.2.2 t a b d⟩
section T
variable {c : Cf} {ok : Int → Int → Bool} {pi : Int → Int} {M : Mem} {R : Int → Mem → Prop}
theorem s_leastOf {i s : Int} (hV : VP c) (hok : ∀ i s, ok i s = true → okL c i s = true) (hp : Pin c pi) (hS : SB c ok pi M) (hi : 0 ≤ i ∧ i < cN c) (hs : 0 ≤ s ∧ s < nS (cR c)) (ho : ok i s = true) (hnx : i + 1 < cN c → ∀ t, 0 ≤ t → t < nS (cR c) → M 24 (16 * (i + 1) + t) = LF c ok pi (i + 1) t) (h : ∀ M', Off [] [42] M M' → R (LF c ok pi i s) M') : fMd_leastOf i s M R := by
  have h16 := nS_le (cR c)
  have hFAR : FAR = 1000000000 := rfl
  obtain ⟨hC, h20, hP, hT, h26⟩ := id hS
  obtain ⟨v1, v2, v3, v4, v5, v6, v7, v8, v9, v10, v11, v12, v13⟩ := id hV
  have hd := okL_dep (hok i s ho)
  have hk := v6 i hi.1 hi.2
  have hw := v7 i hi.1 hi.2
  obtain ⟨c1, c2, c3, c4, c5, c6⟩ := hC.2.2 i hi.1 hi.2
  obtain ⟨t1, t2⟩ := hT i s hi.1 hi.2 hs.1 hs.2
  have t2 := t2 ho
  rw [if_pos ho] at t1
  have haf : 0 ≤ cAf c i s ∧ cAf c i s < nS (cR c) := aft_in v1 hk hs
  have wI : wrap (wrap (16 * i) + s) = 16 * i + s := by rw [wrapI (z := 16 * i) (by omega) (by omega), wrapI (by omega) (by omega)]
  have w4 : wrap (4 + i) = 4 + i := wrapI (by omega) (by omega)
  have i24 : inb i 24 := ⟨by omega, by omega⟩
  have i384 : inb (16 * i + s) 384 := ⟨by omega, by omega⟩
  have hbs := bs_in (pi := pi) hV hi hd hs hp
  have hb0 := bs_in (pi := pi) (i := i) (s := s) hV hi hd hs hp
  have hv0 : 0 ≤ cW c i * cVc c i s ∧ cW c i * cVc c i s ≤ 160000 := by
    have ht := tk_le hk
    have hvc : 0 ≤ cVc c i s ∧ cVc c i s ≤ 54 := by
      unfold cVc vc
      have a1 : tk (cK c i) * c.1.2.2.1 ≤ 3 * 9 := Int.mul_le_mul ht.2.1 v3.2 v3.1 (by decide)
      have a2 : 0 ≤ tk (cK c i) * c.1.2.2.1 := Int.mul_nonneg ht.1 v3.1
      have a3 : cm (cK c i) * c.1.2.2.2 ≤ 3 * 9 := Int.mul_le_mul ht.2.2.2.1 v4.2 v4.1 (by decide)
      have a4 : 0 ≤ cm (cK c i) * c.1.2.2.2 := Int.mul_nonneg ht.2.2.1 v4.1
      split
      · omega
      · split <;> omega
    have m1 : 0 ≤ cW c i * cVc c i s := Int.mul_nonneg (by omega) hvc.1
    have m2 : cW c i * cVc c i s ≤ 999 * 54 := Int.mul_le_mul hw.2 hvc.2 hvc.1 (by decide)
    omega
  have fin : fMd_leastOf_78 R i (cW c i) (cAf c i s) (bs c pi i s) M := by
    unfold fMd_leastOf_78
    rw [hC.2.1]
    refine s_goesOn0 hV hC hi ?_
    rw [LF_eq hi ho] at h
    by_cases hf : fal c i = true
    · rw [if_pos hf] at h ⊢
      have hlt := fal_lt hf
      refine ⟨fun _ => ⟨⟨by omega, by omega⟩, ?_⟩, fun z => absurd z (by omega)⟩
      rw [(hC.2.2 (i + 1) (by omega) hlt).2.2.1]
      refine ⟨fun q => ?_, fun q => ?_⟩
      · rw [if_neg q] at h
        refine s_onTo (ok := ok) hV h20 hP ⟨by omega, hlt⟩ haf hw (fun t a b => hT (i + 1) t (by omega) hlt a b) (fun t a b => ?_) (fun b a hb ha => ?_)
        · rw [hnx hlt t a b]
          have := LF_b (i := i + 1) hV hok hp ⟨by omega, hlt⟩ ⟨a, b⟩
          exact ⟨this.1, this.2.2⟩
        · have hb' : isMin (fun t => ok (i + 1) t && decide (LF c ok pi (i + 1) t < FAR)) (fun t => cW c i * cPs c (cAf c i s) t + LF c ok pi (i + 1) t) (nS (cR c)) b := by
            refine isMin_congr hb (fun t a b => ?_) (fun t a b _ => ?_)
            · rw [hnx hlt t a b]
            · show _ + M 24 _ = _
              rw [hnx hlt t a b]
          have hm := mnF_isMin (fun t => ok (i + 1) t && decide (LF c ok pi (i + 1) t < FAR)) (fun t => cW c i * cPs c (cAf c i s) t + LF c ok pi (i + 1) t) (nS (cR c)).toNat
          rw [show (((nS (cR c)).toNat : Nat) : Int) = nS (cR c) by omega] at hm
          have e : b = moreF c ok pi i s := isMin_unique hb' hm
          have oo : Off [] [42] M (mu M 0 42 a) := (Off.rf _ _ _).mu (Or.inr (by decide))
          rw [← e] at h
          refine ⟨fun z => ?_, fun z => ?_⟩
          · rw [if_neg (show ¬ b = FAR from z)] at h
            have hbb : b ≤ FAR ∧ 0 ≤ b := by
              refine ⟨hb'.1, ?_⟩
              obtain ⟨t, t0, t1, t2, t3⟩ := hb'.2.2.resolve_left z
              have h1 := LF_b (i := i + 1) (s := t) hV hok hp ⟨by omega, hlt⟩ ⟨t0, t1⟩
              have h2 := wP_in hV hi hs ⟨t0, t1⟩
              have t3 : cW c i * cPs c (cAf c i s) t + LF c ok pi (i + 1) t = b := t3
              omega
            rw [wrapI (by omega) (by omega)]
            exact h _ oo
          · rw [if_pos (show b = FAR from z)] at h; exact h _ oo
      · rw [if_pos q] at h
        have hpt := hp (i + 1) (by omega) hlt q
        have hwp := wP_in hV hi hs hpt
        rw [h26 (i + 1) (by omega) hlt q]
        have wJ : wrap (wrap (16 * cAf c i s) + pi (i + 1)) = 16 * cAf c i s + pi (i + 1) := by rw [wrapI (z := 16 * cAf c i s) (by omega) (by omega), wrapI (by omega) (by omega)]
        rw [wJ, hP _ _ haf.1 haf.2 hpt.1 hpt.2, show pP (cR c) c.1.2.1 c.1.2.2.1 c.1.2.2.2 (cAf c i s) (pi (i + 1)) = cPs c (cAf c i s) (pi (i + 1)) from rfl, wrapI (z := cW c i * cPs c (cAf c i s) (pi (i + 1))) (by omega) (by omega), wrapI (by omega) (by omega)]
        exact ⟨⟨by omega, by omega⟩, ⟨by omega, by omega⟩, h _ (Off.rf _ _ _)⟩
    · rw [if_neg hf] at h ⊢
      exact ⟨fun z => absurd rfl z, fun _ => h _ (Off.rf _ _ _)⟩
  unfold fMd_leastOf
  rw [w4, wI, c1, c5, t1, t2]
  refine ⟨⟨by omega, by omega⟩, i384, i384, i24, s_isJump hk ?_⟩
  rw [wrapI (z := cW c i * cVc c i s) (by omega) (by omega)]
  by_cases hl : lea c i = true
  · rw [show leadsK (cK c i) = true from hl]
    obtain ⟨n1, n2, n3⟩ := v10 i hi.1 hi.2 hd hl
    have hpt := hp _ n1 n2 n3
    have hwp := wP_in hV hi hs hpt
    refine ⟨fun z => absurd z (by decide), fun _ => ⟨i24, ?_⟩⟩
    rw [c6 hl, h26 _ n1 n2 n3]
    have wJ : wrap (wrap (16 * cAf c i s) + pi (cNu c i)) = 16 * cAf c i s + pi (cNu c i) := by rw [wrapI (z := 16 * cAf c i s) (by omega) (by omega), wrapI (by omega) (by omega)]
    rw [wJ, hP _ _ haf.1 haf.2 hpt.1 hpt.2, show pP (cR c) c.1.2.1 c.1.2.2.1 c.1.2.2.2 (cAf c i s) (pi (cNu c i)) = cPs c (cAf c i s) (pi (cNu c i)) from rfl, wrapI (z := cW c i * cPs c (cAf c i s) (pi (cNu c i))) (by omega) (by omega), wrapI (by omega) (by omega)]
    refine ⟨⟨by omega, by omega⟩, ⟨by omega, by omega⟩, ?_⟩
    have : bs c pi i s = cW c i * cVc c i s + cW c i * cPs c (cAf c i s) (pi (cNu c i)) := by unfold bs; rw [if_pos hl]
    rw [← this]; exact fin
  · rw [show leadsK (cK c i) = false from (by simpa using hl : lea c i = false)]
    refine ⟨fun _ => ?_, fun z => absurd rfl z⟩
    have : bs c pi i s = cW c i * cVc c i s := by unfold bs; rw [if_neg hl, Int.add_zero]
    rw [← this]; exact fin
/-- the sum as the reference forms it -/
def addT (c : Cf) (ok : Int → Int → Bool) (pi : Int → Int) (s t : Int) : Int := if s = FAR ∨ LF c ok pi t (pi t) = FAR then FAR else if t = 0 then s else s + LF c ok pi t (pi t)
def totM (c : Cf) (ok : Int → Int → Bool) (pi : Int → Int) (nt t1 t2 : Int) : Int := if nt = 0 then LF c ok pi 0 0 else if nt = 1 then addT c ok pi (LF c ok pi 0 0) t1 else addT c ok pi (addT c ok pi (LF c ok pi 0 0) t1) t2
theorem s_total {nt t1 t2 : Int} (hV : VP c) (hok : ∀ i s, ok i s = true → okL c i s = true) (hp : Pin c pi) (hS : SB c ok pi M) (hG : TG c nt t1 t2) (h37 : M 0 37 = nt ∧ (1 ≤ nt → M 25 0 = t1) ∧ (nt = 2 → M 25 1 = t2))
    (h : ∀ M', Off [24] [42] M M' → (∀ i s, 0 ≤ i → i < cN c → 0 ≤ s → s < nS (cR c) → M' 24 (16 * i + s) = LF c ok pi i s) → R (totM c ok pi nt t1 t2) M') : fMd_total M R := by
  have h16 := nS_le (cR c)
  have hFAR : FAR = 1000000000 := rfl
  have hN := hV.2.2.2.2.1
  obtain ⟨n0, n1, n2, n3⟩ := hG
  -- the sum over the targets
  have tail : ∀ Mk, Off [24] [42] M Mk → (∀ i s, 0 ≤ i → i < cN c → 0 ≤ s → s < nS (cR c) → Mk 24 (16 * i + s) = LF c ok pi i s) → ∃ n, fMd_total_80 R n (Mk 24 0) 0 Mk := by
    intro Mk ho hd
    have e0 : Mk 24 0 = LF c ok pi 0 0 := by have := hd 0 0 (by omega) (by omega) (by omega) (by omega); simpa using this
    have q37 : Mk 0 37 = nt := by rw [ho.fld (by decide)]; exact h37.1
    have q25 : ∀ j, Mk 25 j = M 25 j := fun j => ho.cell (by decide) j
    have q26 : ∀ t, 0 ≤ t → t < cN c → cTg c t = 1 → Mk 26 t = pi t := fun t a b d => by rw [ho.cell (by decide)]; exact hS.2.2.2.2 t a b d
    have hb0 := LF_b (i := 0) (s := 0) (ok := ok) hV hok hp ⟨by omega, by omega⟩ ⟨by omega, by omega⟩
    have step : ∀ (m : Nat) (k s t : Int), 0 ≤ k → k < nt → k < 2 → M 25 k = t → 0 ≤ t → t < cN c → cTg c t = 1 → 0 ≤ s → (s = FAR ∨ s ≤ 6240000 * (k + 1)) → fMd_total_80 R m (addT c ok pi s t) (k + 1) Mk → fMd_total_80 R (m + 1) s k Mk := by
      intro m k s t k0 k1 k2 e25 t0 t1 t2 s0 s1 hn
      have hpt := hp t t0 t1 t2
      have hb := LF_b (i := t) (s := pi t) (ok := ok) hV hok hp ⟨t0, t1⟩ hpt
      have kk2 : k = 0 ∨ k = 1 := by omega
      have i2 : inb k 2 := ⟨k0, by omega⟩
      refine And.intro (fun q => absurd q (by rw [q37]; omega)) (fun _ => ?_)
      rw [q25, e25, q26 t t0 t1 t2]
      have wI : wrap (wrap (16 * t) + pi t) = 16 * t + pi t := by rw [wrapI (z := 16 * t) (by omega) (by omega), wrapI (by omega) (by omega)]
      have w1 : wrap (k + 1) = k + 1 := wrapI (by omega) (by omega)
      rw [wI, hd t (pi t) t0 t1 hpt.1 hpt.2]
      unfold addT at hn
      refine ⟨i2, i2, ⟨by omega, by omega⟩, ⟨by omega, by omega⟩, fun q => ?_, fun q => ⟨fun q2 => ⟨i2, fun q3 => ?_, fun q3 => ?_⟩, fun q2 => ?_⟩⟩
      · rw [if_pos (show s = FAR ∨ LF c ok pi t (pi t) = FAR from Or.inl q)] at hn
        unfold fMd_total_127 fMd_total_148; rw [w1]; exact hn
      · rw [if_neg (by rintro (z | z); exact q z; exact q2 z), if_neg q3] at hn
        unfold fMd_total_148; rw [w1, wrapI (by omega) (by omega)]; exact hn
      · rw [if_neg (by rintro (z | z); exact q z; exact q2 z), if_pos q3] at hn
        unfold fMd_total_148; rw [w1]; exact hn
      · rw [if_pos (show s = FAR ∨ LF c ok pi t (pi t) = FAR from Or.inr q2)] at hn
        unfold fMd_total_127 fMd_total_148; rw [w1]; exact hn
    have addB : ∀ s t, 0 ≤ t → t < cN c → cTg c t = 1 → 0 ≤ s → (s = FAR ∨ s ≤ 6240000) → 0 ≤ addT c ok pi s t ∧ (addT c ok pi s t = FAR ∨ addT c ok pi s t ≤ 6240000 * 2) := by
      intro s t t0 t1 t2 s0 s1
      have hb := LF_b (i := t) (s := pi t) (ok := ok) hV hok hp ⟨t0, t1⟩ (hp t t0 t1 t2)
      unfold addT
      split
      · exact ⟨by decide, Or.inl rfl⟩
      · rename_i hh
        have g1 : s ≠ FAR := fun z => hh (Or.inl z)
        have g2 : LF c ok pi t (pi t) ≠ FAR := fun z => hh (Or.inr z)
        split
        · exact ⟨s0, Or.inr (by omega)⟩
        · exact ⟨by omega, Or.inr (by omega)⟩
    rw [e0]
    unfold totM at h
    rcases n0 with z | z | z
    · rw [if_pos z] at h
      exact ⟨1, And.intro (fun _ => h Mk ho hd) (fun q => absurd (by rw [q37]; omega) q)⟩
    · rw [if_neg (by omega), if_pos z] at h
      obtain ⟨a1, a2, a3⟩ := n1 (by omega)
      refine ⟨2, step 1 0 _ t1 (by omega) (by omega) (by omega) (h37.2.1 (by omega)) a1 a2 a3 hb0.1 (by omega) ?_⟩
      exact And.intro (fun _ => h Mk ho hd) (fun q => absurd (by rw [q37]; omega) q)
    · rw [if_neg (by omega), if_neg (by omega)] at h
      obtain ⟨a1, a2, a3⟩ := n1 (by omega)
      obtain ⟨b1, b2, b3⟩ := n2 z
      have hA := addB (LF c ok pi 0 0) t1 a1 a2 a3 hb0.1 (by omega)
      refine ⟨3, step 2 0 _ t1 (by omega) (by omega) (by omega) (h37.2.1 (by omega)) a1 a2 a3 hb0.1 (by omega) (step 1 1 _ t2 (by omega) (by omega) (by omega) (h37.2.2 z) (by omega) b2 b3 hA.1 (by omega) ?_)⟩
      exact And.intro (fun _ => h Mk ho hd) (fun q => absurd (by rw [q37]; omega) q)
  -- one row
  have row : ∀ (i : Int), 0 ≤ i → i < cN c → ∀ (k7 : Int → Mem → Prop) (Mi : Mem), Off [24] [42] M Mi → (∀ i' s, i < i' → i' < cN c → 0 ≤ s → s < nS (cR c) → Mi 24 (16 * i' + s) = LF c ok pi i' s) → (∀ M', Off [24] [42] M M' → (∀ i' s, i ≤ i' → i' < cN c → 0 ≤ s → s < nS (cR c) → M' 24 (16 * i' + s) = LF c ok pi i' s) → k7 (i - 1) M') → ∃ n, fMd_total_13 k7 R n i 0 Mi := by
    intro i i0 i1 k7 Mi hoi hdi kk
    have key : ∀ (m : Nat) (s : Int) (Mk : Mem), 0 ≤ s → s + m = nS (cR c) → Off [24] [42] M Mk → (∀ i' s, i < i' → i' < cN c → 0 ≤ s → s < nS (cR c) → Mk 24 (16 * i' + s) = LF c ok pi i' s) → (∀ s', 0 ≤ s' → s' < s → Mk 24 (16 * i + s') = LF c ok pi i s') → fMd_total_13 k7 R (m + 1) i s Mk := by
      intro m
      induction m with
      | zero =>
        intro s Mk s0 hm ho hd hd2
        have hSk := hS.off ho (by decide) (by decide)
        refine And.intro (fun _ => ?_) (fun q => absurd (by rw [hSk.2.1]; omega) q)
        rw [wrapI (by omega) (by omega), show i + -1 = i - 1 by omega]
        refine kk Mk ho (fun i' s' a b d e => ?_)
        by_cases z : i' = i
        · subst z; exact hd2 s' d (by omega)
        · exact hd i' s' (by omega) b d e
      | succ m ih =>
        intro s Mk s0 hm ho hd hd2
        have hSk := hS.off ho (by decide) (by decide)
        have hs : 0 ≤ s ∧ s < nS (cR c) := ⟨s0, by omega⟩
        have wI : wrap (wrap (16 * i) + s) = 16 * i + s := by rw [wrapI (z := 16 * i) (by omega) (by omega), wrapI (by omega) (by omega)]
        have i384 : inb (16 * i + s) 384 := ⟨by omega, by omega⟩
        obtain ⟨vt, -⟩ := hSk.2.2.2.1 i s i0 i1 hs.1 hs.2
        have haf := aft_in (r := cR c) (k := cK c i) (s := s) hV.1 (hV.2.2.2.2.2.1 i i0 i1) hs
        have put : ∀ M1, Off [24] [42] Mk M1 → (∀ j, M1 24 j = Mk 24 j) → fMd_total_58 (fMd_total_13 k7 R (m + 1)) R i s (LF c ok pi i s) (16 * i + s) M1 := by
          intro M1 ho1 h1
          refine ⟨i384, ?_⟩
          rw [wrapI (by omega) (by omega)]
          refine ih (s + 1) _ (by omega) (by omega) ((ho.tr ho1).mu (Or.inl (by decide))) (fun i' s' a b d e => ?_) (fun s' a b => ?_)
          · rw [mu_place (by omega), h1]; exact hd i' s' a b d e
          · by_cases z : s' = s
            · subst z; rw [mu_same]
            · rw [mu_place (by omega), h1]; exact hd2 s' a (by omega)
        refine And.intro (fun q => absurd q (by rw [hSk.2.1]; omega)) (fun _ => ?_)
        rw [wI]
        refine ⟨i384, fun q => ?_, fun q => ?_⟩
        · have hok1 : ok i s = true := by
            cases z : ok i s with
            | true => rfl
            | false => rw [vt, z] at q; exact absurd rfl q
          refine s_leastOf hV hok hp hSk ⟨i0, i1⟩ hs hok1 (fun z t a b => hd (i + 1) t (by omega) z a b) (fun M1 ho1 => ?_)
          exact put M1 (ho1.mono (by decide) (by decide)) (fun j => ho1.cell (by decide) j)
        · have hno : ok i s = false := by
            cases z : ok i s with
            | false => rfl
            | true => rw [vt, z] at q; exact absurd q (by show cAf c i s ≠ -4; unfold cAf; omega)
          have := put Mk (Off.rf _ _ _) (fun _ => rfl)
          rw [LF_no hno] at this; exact this
    exact ⟨(nS (cR c)).toNat + 1, key _ 0 Mi (by omega) (by omega) hoi hdi (fun s' a b => absurd b (by omega))⟩
  have outer : ∀ (m : Nat) (i : Int) (Mk : Mem), i + 1 = m → i < cN c → Off [24] [42] M Mk → (∀ i' s, i < i' → i' < cN c → 0 ≤ s → s < nS (cR c) → Mk 24 (16 * i' + s) = LF c ok pi i' s) → fMd_total_7 R (m + 1) i Mk := by
    intro m
    induction m with
    | zero =>
      intro i Mk hm hi ho hd
      exact And.intro (fun _ => tail Mk ho (fun i' s a b d e => hd i' s (by omega) b d e)) (fun q => absurd (by omega) q)
    | succ m ih =>
      intro i Mk hm hi ho hd
      exact And.intro (fun q => absurd q (by omega)) (fun _ => row i (by omega) hi _ Mk ho hd (fun M' ho' hd' => ih (i - 1) M' (by omega) (by omega) ho' (fun i' s a b d e => hd' i' s (by omega) b d e)))
  refine ⟨(cN c).toNat + 1, ?_⟩
  rw [hS.1.2.1, wrapI (by omega) (by omega)]
  exact outer _ (cN c - 1) M (by omega) (by omega) (Off.rf _ _ _) (fun i' s a b => absurd b (by omega))
end T
