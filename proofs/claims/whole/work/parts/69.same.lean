/-! the choices of both are the same -/
section X
variable {c : Cf} {X Y : Mem} {nt t1 t2 : Int}
theorem best_same (hV : VP c) (hx : BestX c nt t1 t2 X) (hy : BestM c nt t1 t2 Y) : X 27 16 = Y 0 32 ∧ (∀ j, 0 ≤ j → j < cN c → cDep c j ≠ -4 → X 39 j = Y 21 j) := by
  obtain ⟨a, b, q1, q2⟩ := hx
  obtain ⟨a', b', r1, r2⟩ := hy
  obtain ⟨e1, e2, e3⟩ := isBest_unique q1 r1
  refine ⟨e1, ?_⟩
  rw [← e2, ← e3] at r2
  have v13 := hV.2.2.2.2.2.2.2.2.2.2.2.2
  have key : ∀ (n : Nat) (i : Int), i = n → i < cN c → cDep c i ≠ -4 → X 39 i = Y 21 i := by
    intro n
    induction n with
    | zero =>
      intro i e hi hd
      have e0 : i = 0 := by omega
      rw [(q2 i (by omega) hi hd).1 (Or.inl e0), ((r2 i (by omega) hi).2 hd).1 (Or.inl e0)]
    | succ n ih =>
      intro i e hi hd
      by_cases y : cTg c i = 1
      · rw [(q2 i (by omega) hi hd).1 (Or.inr y), ((r2 i (by omega) hi).2 hd).1 (Or.inr y)]
      · have := v13 i (by omega) hi hd y
        exact stepA_unique ((q2 i (by omega) hi hd).2 (by omega) y) (((r2 i (by omega) hi).2 hd).2 (by omega) y) (ih (i - 1) (by omega) (by omega) this.1)
  intro j j0 j1 hd
  exact key j.toNat j (by omega) j1 hd
theorem bestX_ok (hV : VP c) (hG : TG c nt t1 t2) (hx : BestX c nt t1 t2 X) {j : Int} (hj : 0 ≤ j ∧ j < cN c) (hd : cDep c j ≠ -4) : 0 ≤ X 39 j ∧ X 39 j < nS (cR c) ∧ okL c j (X 39 j) = true := by
  have hN := hV.2.2.2.2.1
  have h00 : okL c 0 0 = true := okL0 hV ⟨by omega, by omega⟩ (by rw [hV.2.2.2.2.2.2.2.2.1]; decide)
  obtain ⟨a, b, q1, q2⟩ := hx
  obtain ⟨hc, -⟩ := best_fin hV (Fe_okL hV) h00 hG q1
  exact metX_ok hV (cnd_pin hG hc) hj hd (q2 j hj.1 hj.2)
/-- the reference's least with a state fixed, as x holds it -/
theorem least_same {v a b j s : Int} (hV : VP c) (hG : TG c nt t1 t2) (hx : LeastX c nt t1 t2 X) (hj : 0 ≤ j ∧ j < cN c) (hd : cDep c j ≠ -4) (hs : 0 ≤ s ∧ s < nS (cR c)) (hb : isBest c (ok1 c j s) nt t1 t2 v a b) : X 36 (16 * j + s) = v := by
  obtain ⟨q1, q2⟩ := hx j s hj.1 hj.2 hd hs.1 hs.2
  have hm := isMinP_of hb
  cases ho : okL c j s with
  | true => exact isMinP_unique (q1 ho) hm
  | false =>
    rw [q2 ho]
    refine isMinP_unique ⟨Int.le_refl _, fun a' b' _ _ => ?_, Or.inl rfl⟩ hm
    rw [bad_tot hV hG hj hd (fun t => ?_)]
    · exact Int.le_refl _
    · cases hk : ok1 c j s j t with
      | false => rfl
      | true =>
        have e := ok1_only hk
        rw [e, ok1_eq, ho] at hk
        exact absurd hk (by decide)
end X
