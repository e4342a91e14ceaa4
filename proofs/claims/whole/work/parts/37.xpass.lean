/-! the class's transitions -/
section X
variable {r s t : Int} {M : Mem} {R : Int → Mem → Prop}
theorem s_keeps {kept x : Int} (hr : 1 ≤ r ∧ r ≤ 3) (hT : TX r M) (hs : 0 ≤ s ∧ s < nS r) (hk : 0 ≤ kept ∧ kept ≤ stL r s) (h : R (keepsFrom r s x kept.toNat 0) M) : fMa_keeps s kept x M R := by
  have hl := st_f hr hs
  have key : ∀ (m : Nat) (i : Int), 0 ≤ i → i + m = kept → R (keepsFrom r s x m i) M → fMa_keeps_3 R (m + 1) s kept x i M := by
    intro m
    induction m with
    | zero =>
      intro i h0 he hq
      exact And.intro (fun _ => hq) (fun q => absurd (by omega) q)
    | succ m ih =>
      intro i h0 he hq
      refine And.intro (fun q => absurd q (by omega)) (fun _ => s_registerOf hr hT hs ⟨h0, by omega⟩ ?_)
      unfold keepsFrom at hq
      refine ⟨fun q => ?_, fun q => ?_⟩
      · rw [if_neg q] at hq
        rw [wrapI (by omega) (by omega)]
        exact ih _ (by omega) (by omega) hq
      · rw [if_pos q] at hq; exact hq
  exact ⟨kept.toNat + 1, key _ 0 (by omega) (by omega) h⟩
theorem keepsFrom_01 (r s x : Int) : ∀ (m : Nat) (i : Int), keepsFrom r s x m i = 0 ∨ keepsFrom r s x m i = 1 := by
  intro m
  induction m with
  | zero => intro i; exact Or.inl rfl
  | succ m ih => intro i; unfold keepsFrom; split
                 · exact Or.inr rfl
                 · exact ih _
theorem s_goesRound {kept : Int} (hr : 1 ≤ r ∧ r ≤ 3) (hT : TX r M) (hs : 0 ≤ s ∧ s < nS r) (ht : 0 ≤ t ∧ t < nS r) (hk : 0 ≤ kept ∧ kept ≤ stL r s ∧ kept ≤ stL r t) (h : R (roundFrom r s t kept kept.toNat 0 0) M) : fMa_goesRound s t kept M R := by
  have hl := st_f hr hs
  have key : ∀ (m : Nat) (i f : Int), 0 ≤ i → i + m = kept → (f = 0 ∨ f = 1) → R (roundFrom r s t kept m i f) M → fMa_goesRound_6 R (m + 1) s t kept f i M := by
    intro m
    induction m with
    | zero =>
      intro i f h0 he hf hq
      exact And.intro (fun _ => ⟨hf, hq⟩) (fun q => absurd (by omega) q)
    | succ m ih =>
      intro i f h0 he hf hq
      refine And.intro (fun q => absurd q (by omega)) (fun _ => s_registerOf hr hT hs ⟨h0, by omega⟩ (s_registerOf hr hT ht ⟨h0, by omega⟩ ?_))
      unfold roundFrom at hq
      refine ⟨fun q => s_registerOf hr hT ht ⟨h0, by omega⟩ (s_keeps hr hT hs ⟨hk.1, hk.2.1⟩ ⟨fun q2 => ?_, fun q2 => ?_⟩), fun q => ?_⟩
      · rw [if_neg q, if_neg q2] at hq
        unfold fMa_goesRound_53
        rw [wrapI (by omega) (by omega)]
        exact ih _ _ (by omega) (by omega) (Or.inr rfl) hq
      · rw [if_neg q, if_pos q2] at hq; exact hq
      · rw [if_pos q] at hq
        unfold fMa_goesRound_53
        rw [wrapI (by omega) (by omega)]
        exact ih _ _ (by omega) (by omega) hf hq
  exact ⟨kept.toNat + 1, key _ 0 0 (by omega) (by omega) (Or.inl rfl) h⟩
theorem cnt_le (r s t : Int) : ∀ (m : Nat) (i : Int), 0 ≤ cntFrom r s t m i ∧ cntFrom r s t m i ≤ m := by
  intro m
  induction m with
  | zero => intro i; exact ⟨Int.le_refl _, Int.le_refl _⟩
  | succ m ih =>
    intro i
    have := ih (i + 1)
    unfold cntFrom df
    split <;> omega
theorem s_cheapest {mv ld st : Int} (hr : 1 ≤ r ∧ r ≤ 3) (hT : TX r M) (hc : M 8 1 = mv ∧ M 8 2 = ld ∧ M 8 3 = st) (hmv : 0 ≤ mv ∧ mv ≤ 9) (hld : 0 ≤ ld ∧ ld ≤ 9) (hst : 0 ≤ st ∧ st ≤ 9) (hs : 0 ≤ s ∧ s < nS r) (ht : 0 ≤ t ∧ t < nS r) (h : R (pP r mv ld st s t) M) : fMa_cheapestPassage s t M R := by
  have h16 := nS_le r
  have hl := st_f hr hs
  have hl2 := st_f hr ht
  have i1 : inb s 16 := ⟨by omega, by omega⟩
  have i2 : inb t 16 := ⟨by omega, by omega⟩
  refine ⟨i1, i2, s_min ⟨i1, i2, ?_⟩⟩
  rw [(hT.2.2 s hs.1 hs.2).2.1, (hT.2.2 t ht.1 ht.2).2.1, hc.2.1, hc.2.2, show min (stL r s) (stL r t) = keptN r s t from rfl]
  have hk : 0 ≤ keptN r s t ∧ keptN r s t ≤ stL r s ∧ keptN r s t ≤ stL r t := by unfold keptN; omega
  have a1 : 0 ≤ st * (stL r s - keptN r s t) := Int.mul_nonneg hst.1 (by omega)
  have a2 : st * (stL r s - keptN r s t) ≤ 9 * 3 := Int.mul_le_mul hst.2 (by omega) (by omega) (by decide)
  have a3 : 0 ≤ ld * (stL r t - keptN r s t) := Int.mul_nonneg hld.1 (by omega)
  have a4 : ld * (stL r t - keptN r s t) ≤ 9 * 3 := Int.mul_le_mul hld.2 (by omega) (by omega) (by decide)
  rw [wrapI (z := stL r s - keptN r s t) (by omega) (by omega), wrapI (z := stL r t - keptN r s t) (by omega) (by omega), wrapI (z := st * (stL r s - keptN r s t)) (by omega) (by omega), wrapI (z := ld * (stL r t - keptN r s t)) (by omega) (by omega), wrapI (z := st * (stL r s - keptN r s t) + ld * (stL r t - keptN r s t)) (by omega) (by omega)]
  rw [show st * (stL r s - keptN r s t) + ld * (stL r t - keptN r s t) = unP r ld st s t from rfl]
  have hun : 0 ≤ unP r ld st s t ∧ unP r ld st s t ≤ 54 := by unfold unP; omega
  have key : ∀ (m : Nat) (i x5 : Int), 0 ≤ i → i + m = keptN r s t → 0 ≤ x5 → x5 ≤ i → x5 + cntFrom r s t m i = ndP r s t → fMa_cheapestPassage_51 R (m + 1) s t (keptN r s t) (unP r ld st s t) x5 i M := by
    intro m
    induction m with
    | zero =>
      intro i x5 h0 he hx0 hx1 hx
      have ex : x5 = ndP r s t := by unfold cntFrom at hx; omega
      subst ex
      refine And.intro (fun _ => s_min ?_) (fun q => absurd (by omega) q)
      rw [hc.1, hc.2.1, hc.2.2, wrapI (z := st + ld) (by omega) (by omega)]
      refine s_goesRound hr hT hs ht hk ?_
      rw [show roundFrom r s t (keptN r s t) (keptN r s t).toNat 0 0 = rdP r s t from rfl]
      have hch : 0 ≤ min mv (st + ld) ∧ min mv (st + ld) ≤ 9 := by omega
      have hnd : 0 ≤ ndP r s t ∧ ndP r s t ≤ 3 := by omega
      have c1 : 0 ≤ ndP r s t * min mv (st + ld) := Int.mul_nonneg hnd.1 hch.1
      have c2 : ndP r s t * min mv (st + ld) ≤ 3 * 9 := Int.mul_le_mul hnd.2 hch.2 hch.1 (by decide)
      have c3 : (ndP r s t - 1) * min mv (st + ld) = ndP r s t * min mv (st + ld) - min mv (st + ld) := by rw [Int.sub_mul, Int.one_mul]
      have c5 : 0 ≤ ndP r s t * mv := Int.mul_nonneg hnd.1 hmv.1
      have c6 : ndP r s t * mv ≤ 3 * 9 := Int.mul_le_mul hnd.2 hmv.2 hmv.1 (by decide)
      have c4 : (ndP r s t + 1) * mv = ndP r s t * mv + mv := by rw [Int.add_mul, Int.one_mul]
      unfold pP at h
      have w1 : wrap (ndP r s t - 1) = ndP r s t - 1 := wrapI (by omega) (by omega)
      have w2 : wrap ((ndP r s t - 1) * min mv (st + ld)) = (ndP r s t - 1) * min mv (st + ld) := wrapI (by omega) (by omega)
      have w3 : wrap (st + ld + (ndP r s t - 1) * min mv (st + ld)) = st + ld + (ndP r s t - 1) * min mv (st + ld) := wrapI (by omega) (by omega)
      have w4 : wrap (ndP r s t + 1) = ndP r s t + 1 := wrapI (by omega) (by omega)
      have w5 : wrap ((ndP r s t + 1) * mv) = (ndP r s t + 1) * mv := wrapI (by omega) (by omega)
      have w6 : wrap (ndP r s t * min mv (st + ld)) = ndP r s t * min mv (st + ld) := wrapI (by omega) (by omega)
      refine ⟨fun q => ?_, fun q => ?_⟩
      · rw [if_pos q] at h
        rw [w1, w2, w3]
        refine ⟨fun q2 => ?_, fun q2 => s_min ?_⟩
        · rw [hT.1] at q2
          rw [if_pos q2] at h
          unfold fMa_cheapestPassage_160
          rw [wrapI (by omega) (by omega)]; exact h
        · rw [hT.1] at q2
          rw [if_neg q2] at h
          rw [hc.1, w4, w5]
          unfold fMa_cheapestPassage_160
          rw [wrapI (by omega) (by omega)]; exact h
      · rw [if_neg (by omega)] at h
        rw [w6, wrapI (by omega) (by omega)]; exact h
    | succ m ih =>
      intro i x5 h0 he hx0 hx1 hx
      unfold cntFrom df at hx
      refine And.intro (fun q => absurd q (by omega)) (fun _ => s_registerOf hr hT hs ⟨h0, by omega⟩ (s_registerOf hr hT ht ⟨h0, by omega⟩ ⟨fun q => ?_, fun q => ?_⟩))
      · rw [if_pos q] at hx
        unfold fMa_cheapestPassage_77
        rw [wrapI (by omega) (by omega)]
        exact ih _ _ (by omega) (by omega) hx0 (by omega) (by omega)
      · rw [if_neg q] at hx
        unfold fMa_cheapestPassage_77
        rw [wrapI (z := x5 + 1) (by omega) (by omega), wrapI (by omega) (by omega)]
        exact ih _ _ (by omega) (by omega) (by omega) (by omega) (by omega)
  exact ⟨(keptN r s t).toNat + 1, key _ 0 0 (by omega) (by omega) (by omega) (by omega) (by rw [Int.zero_add]; rfl)⟩
theorem pP_in {mv ld st : Int} (hr : 1 ≤ r ∧ r ≤ 3) (hmv : 0 ≤ mv ∧ mv ≤ 9) (hld : 0 ≤ ld ∧ ld ≤ 9) (hst : 0 ≤ st ∧ st ≤ 9) (hs : 0 ≤ s ∧ s < nS r) (ht : 0 ≤ t ∧ t < nS r) (hd : rdP r s t ≠ 0 → 1 ≤ ndP r s t) : 0 ≤ pP r mv ld st s t ∧ pP r mv ld st s t ≤ 100 := by
  have hl := st_f hr hs
  have hl2 := st_f hr ht
  have hk : 0 ≤ keptN r s t ∧ keptN r s t ≤ stL r s ∧ keptN r s t ≤ stL r t := by unfold keptN; omega
  have a1 : 0 ≤ st * (stL r s - keptN r s t) := Int.mul_nonneg hst.1 (by omega)
  have a2 : st * (stL r s - keptN r s t) ≤ 9 * 3 := Int.mul_le_mul hst.2 (by omega) (by omega) (by decide)
  have a3 : 0 ≤ ld * (stL r t - keptN r s t) := Int.mul_nonneg hld.1 (by omega)
  have a4 : ld * (stL r t - keptN r s t) ≤ 9 * 3 := Int.mul_le_mul hld.2 (by omega) (by omega) (by decide)
  have hun : 0 ≤ unP r ld st s t ∧ unP r ld st s t ≤ 54 := by unfold unP; omega
  have hch : 0 ≤ min mv (st + ld) ∧ min mv (st + ld) ≤ 9 := by omega
  have hn := cnt_le r s t (keptN r s t).toNat 0
  have hnd : 0 ≤ ndP r s t ∧ ndP r s t ≤ 3 := by unfold ndP; omega
  have c1 : 0 ≤ ndP r s t * min mv (st + ld) := Int.mul_nonneg hnd.1 hch.1
  have c2 : ndP r s t * min mv (st + ld) ≤ 3 * 9 := Int.mul_le_mul hnd.2 hch.2 hch.1 (by decide)
  have c3 : (ndP r s t - 1) * min mv (st + ld) = ndP r s t * min mv (st + ld) - min mv (st + ld) := by rw [Int.sub_mul, Int.one_mul]
  have c5 : 0 ≤ ndP r s t * mv := Int.mul_nonneg hnd.1 hmv.1
  have c6 : ndP r s t * mv ≤ 3 * 9 := Int.mul_le_mul hnd.2 hmv.2 hmv.1 (by decide)
  have c4 : (ndP r s t + 1) * mv = ndP r s t * mv + mv := by rw [Int.add_mul, Int.one_mul]
  unfold pP
  split
  · have := hd (by assumption)
    have c7 : 1 * min mv (st + ld) ≤ ndP r s t * min mv (st + ld) := Int.mul_le_mul_of_nonneg_right this hch.1
    split <;> omega
  · omega
end X
