/-! x: listLegal and prepare -/
section X
variable {c : Cf} {M : Mem} {R : Int → Mem → Prop} {i : Int}
theorem vc_in {s : Int} (hV : VP c) (hi : 0 ≤ i ∧ i < cN c) : 0 ≤ cW c i * cVc c i s ∧ cW c i * cVc c i s ≤ 53946 := by
  obtain ⟨v1, v2, v3, v4, v5, v6, v7, -⟩ := hV
  have hk := v6 i hi.1 hi.2
  have hw := v7 i hi.1 hi.2
  have ht := tk_le hk
  have hvc : 0 ≤ cVc c i s ∧ cVc c i s ≤ 54 := by
    unfold cVc vc
    have a1 : tk (cK c i) * c.1.2.2.1 ≤ 3 * 9 := Int.mul_le_mul ht.2.1 v3.2 v3.1 (by decide)
    have a2 : 0 ≤ tk (cK c i) * c.1.2.2.1 := Int.mul_nonneg ht.1 v3.1
    have a3 : cm (cK c i) * c.1.2.2.2 ≤ 3 * 9 := Int.mul_le_mul ht.2.2.2.1 v4.2 v4.1 (by decide)
    have a4 : 0 ≤ cm (cK c i) * c.1.2.2.2 := Int.mul_nonneg ht.2.2.1 v4.1
    split
    · omega
    · split <;> omega
  have m1 : 0 ≤ cW c i * cVc c i s := Int.mul_nonneg (by omega) hvc.1
  have m2 : cW c i * cVc c i s ≤ 999 * 54 := Int.mul_le_mul hw.2 hvc.2 hvc.1 (by decide)
  omega
theorem LXp.add {M' : Mem} {b : Int} (h : LXp c M i b) (hb : 0 ≤ b ∧ b < 16) (hok : okL c i b = true) (e29 : M' 29 i = M 29 i + 1) (e28 : M' 28 (16 * i + M 29 i) = b) (o28 : ∀ k, k ≠ M 29 i → M' 28 (16 * i + k) = M 28 (16 * i + k)) (e32 : M' 32 (16 * i + b) = cAf c i b) (o32 : ∀ k, k ≠ b → M' 32 (16 * i + k) = M 32 (16 * i + k)) (e33 : M' 33 (16 * i + b) = cW c i * cVc c i b) (o33 : ∀ k, k ≠ b → M' 33 (16 * i + k) = M 33 (16 * i + k))
    (hex : (M' 31 i = M 31 i ∧ (∀ k, M' 30 (16 * i + k) = M 30 (16 * i + k)) ∧ ∃ k, 0 ≤ k ∧ k < M 31 i ∧ M 30 (16 * i + k) = cAf c i b) ∨ (M' 31 i = M 31 i + 1 ∧ M' 30 (16 * i + M 31 i) = cAf c i b ∧ ∀ k, k ≠ M 31 i → M' 30 (16 * i + k) = M 30 (16 * i + k))) : LXp c M' i (b + 1) := by
  obtain ⟨a1, a2, a3, a4, a5, a6⟩ := h
  have ex : (0 ≤ M' 31 i ∧ M' 31 i ≤ b + 1) ∧ (∃ k, 0 ≤ k ∧ k < M' 31 i ∧ M' 30 (16 * i + k) = cAf c i b) ∧ (∀ s, (∃ k, 0 ≤ k ∧ k < M 31 i ∧ M 30 (16 * i + k) = cAf c i s) → ∃ k, 0 ≤ k ∧ k < M' 31 i ∧ M' 30 (16 * i + k) = cAf c i s) ∧ (∀ k, 0 ≤ k → k < M' 31 i → ∃ s, 0 ≤ s ∧ s < b + 1 ∧ okL c i s = true ∧ M' 30 (16 * i + k) = cAf c i s) := by
    rcases hex with ⟨x1, x2, k, x3, x4, x5⟩ | ⟨x1, x2, x3⟩
    · refine ⟨by omega, ⟨k, x3, by omega, by rw [x2]; exact x5⟩, fun s ⟨k, y1, y2, y3⟩ => ⟨k, y1, by omega, by rw [x2]; exact y3⟩, fun k k0 k1 => ?_⟩
      obtain ⟨s, q1, q2, q3, q4⟩ := a6 k k0 (by omega)
      exact ⟨s, q1, by omega, q3, by rw [x2]; exact q4⟩
    · refine ⟨by omega, ⟨M 31 i, a5.1, by omega, x2⟩, fun s ⟨k, y1, y2, y3⟩ => ⟨k, y1, by omega, by rw [x3 k (by omega)]; exact y3⟩, fun k k0 k1 => ?_⟩
      by_cases e : k = M 31 i
      · exact ⟨b, hb.1, by omega, hok, by rw [e]; exact x2⟩
      · obtain ⟨s, q1, q2, q3, q4⟩ := a6 k k0 (by omega)
        exact ⟨s, q1, by omega, q3, by rw [x3 k e]; exact q4⟩
  obtain ⟨z1, z2, z3, z4⟩ := ex
  refine ⟨by omega, fun k k0 k1 => ?_, fun k k' k0 k1 k2 => ?_, fun s s0 s1 s2 => ?_, z1, z4⟩
  · by_cases e : k = M 29 i
    · rw [e, e28]; exact ⟨hb.1, by omega, hok⟩
    · rw [o28 k e]
      obtain ⟨q1, q2, q3⟩ := a2 k k0 (by omega)
      exact ⟨q1, by omega, q3⟩
  · by_cases e : k' = M 29 i
    · rw [e, e28, o28 k (by omega)]
      exact (a2 k k0 (by omega)).2.1
    · rw [o28 k (by omega), o28 k' e]
      exact a3 k k' k0 k1 (by omega)
  · by_cases e : s = b
    · rw [e]
      exact ⟨⟨M 29 i, a1.1, by omega, e28⟩, e32, e33, z2⟩
    · obtain ⟨⟨k, b1, b2, b3⟩, b4, b5, b6⟩ := a4 s s0 (by omega) s2
      exact ⟨⟨k, b1, by omega, by rw [o28 k (by omega)]; exact b3⟩, by rw [o32 s e]; exact b4, by rw [o33 s e]; exact b5, z3 s b6⟩
theorem okL_step {b : Int} (hd : cDep c i ≠ -4) (h0 : i ≠ 0 ∨ b = 0) : okL c i b = (decide (stL (cR c) b ≤ cDep c i) && hasV (cR c) (cK c i) b) := by
  unfold okL
  rw [show decide (cDep c i ≠ -4) = true from decide_eq_true hd]
  have : (decide (i ≠ 0) || decide (b = 0)) = true := by
    rcases h0 with z | z <;> simp [z]
  rw [this]
  simp
theorem s_listLegal55 {n : Int} (hV : VP c) (hi : 0 ≤ i ∧ i < cN c) (hd : cDep c i ≠ -4) (hn : (i ≠ 0 ∧ n = nS (cR c)) ∨ (i = 0 ∧ n = 1)) {M0 : Mem} (h : ∀ M', rowO i M0 M' → LXp c M' i n → R 0 M') : ∀ (d : Nat) (b : Int) (M : Mem), XC c M → rowO i M0 M → 0 ≤ b → b + d = n → LXp c M i b → fCh_listLegal_55 R (d + 1) i (cK c i) n b M := by
  have hN := hV.2.2.2.2.1
  have h16 := nS_le (cR c)
  have hk := hV.2.2.2.2.2.1 i hi.1 hi.2
  intro d
  induction d with
  | zero =>
    intro b M hC hr b0 bd hL
    exact ⟨fun _ => h M hr (by rw [show n = b from by omega]; exact hL), fun q => by omega⟩
  | succ d ih =>
    intro b M hC hr b0 bd hL
    have w1 : wrap (b + 1) = b + 1 := wrapI (by omega) (by omega)
    have w0 : wrap (i * 16) = 16 * i := by rw [wrapI (by omega) (by omega)]; omega
    have hbs : 0 ≤ b ∧ b < nS (cR c) := by omega
    have i24 : inb i 24 := ⟨by omega, by omega⟩
    have hok := okL_step (c := c) (i := i) (b := b) hd (by omega)
    refine ⟨fun q => by omega, fun _ => s_lengthOf hC.2.2.1 hbs ⟨i24, ?_⟩⟩
    rw [(hC.2.1 i hi.1 hi.2).2.1]
    refine ⟨fun q => ?_, fun q => s_hasVersion hV.1 hC.2.2.1 hk hbs ?_⟩
    · unfold fCh_listLegal_183
      rw [w1]
      refine ih (b + 1) M hC hr (by omega) (by omega) (hL.skip ?_)
      rw [hok, show decide (stL (cR c) b ≤ cDep c i) = false from decide_eq_false (by omega)]; rfl
    · have hle : decide (stL (cR c) b ≤ cDep c i) = true := decide_eq_true (by omega)
      cases hv : hasV (cR c) (cK c i) b with
      | false =>
        rw [if_neg (by decide)]
        refine ⟨fun z => absurd rfl z, fun _ => ?_⟩
        unfold fCh_listLegal_183
        rw [w1]
        refine ih (b + 1) M hC hr (by omega) (by omega) (hL.skip ?_)
        rw [hok, hv, hle]; rfl
      | true =>
        rw [if_pos rfl]
        have hokb : okL c i b = true := by rw [hok, hv, hle]; rfl
        have n29 := hL.1
        have n31 := hL.2.2.2.2.1
        refine ⟨fun _ => ⟨i24, i24, ?_⟩, fun z => absurd z (by decide)⟩
        rw [w0, wrapI (z := 16 * i + M 29 i) (by omega) (by omega), wrapI (z := M 29 i + 1) (by omega) (by omega), wrapI (z := 16 * i + b) (by omega) (by omega)]
        have r1 : rowO i M (mu (mu M 29 i (M 29 i + 1)) 28 (16 * i + M 29 i) b) := ((rowO.rf i M).mu (Or.inl ⟨Or.inl rfl, rfl⟩)).mu (Or.inr ⟨Or.inl rfl, by omega, by omega⟩)
        have hC1 := hC.off r1.1 (by decide)
        refine ⟨⟨by omega, by omega⟩, s_stateAfter hV.1 hC1.2.2.1 hk hbs ⟨⟨by omega, by omega⟩, i24, ?_⟩⟩
        have r2 := r1.mu (d := 32) (x := 16 * i + b) (v := aft (cR c) (cK c i) b) (Or.inr ⟨Or.inr (Or.inr (Or.inl rfl)), by omega, by omega⟩)
        have hC2 := hC.off r2.1 (by decide)
        refine s_versionCost hV.1 hC2.2.2.1 hC2.2.2.2.1 hV.2.2.1 hV.2.2.2.1 hk hbs ⟨⟨by omega, by omega⟩, ⟨by omega, by omega⟩, ?_⟩
        have e6 : (mu (mu M 29 i (M 29 i + 1)) 28 (16 * i + M 29 i) b) 6 i = cW c i := (hC1.2.1 i hi.1 hi.2).2.2.2.2.1
        have hvc := vc_in (s := b) hV hi
        have evc : vc (cR c) c.1.2.1 c.1.2.2.1 c.1.2.2.2 (cK c i) b = cVc c i b := rfl
        rw [e6, evc, wrapI (z := cW c i * cVc c i b) (by omega) (by omega), mu_same]
        have r3 := r2.mu (d := 33) (x := 16 * i + b) (v := cW c i * cVc c i b) (Or.inr ⟨Or.inr (Or.inr (Or.inr rfl)), by omega, by omega⟩)
        generalize hM3 : mu (mu (mu (mu M 29 i (M 29 i + 1)) 28 (16 * i + M 29 i) b) 32 (16 * i + b) (aft (cR c) (cK c i) b)) 33 (16 * i + b) (cW c i * cVc c i b) = M3 at *
        have f29 : M3 29 i = M 29 i + 1 := by rw [← hM3, mu_cell (by decide), mu_cell (by decide), mu_cell (by decide), mu_same]
        have f31 : M3 31 i = M 31 i := by rw [← hM3, mu_cell (by decide), mu_cell (by decide), mu_cell (by decide), mu_cell (by decide)]
        have f28 : M3 28 (16 * i + M 29 i) = b := by rw [← hM3, mu_cell (by decide), mu_cell (by decide), mu_same]
        have g28 : ∀ k, k ≠ M 29 i → M3 28 (16 * i + k) = M 28 (16 * i + k) := fun k hk => by rw [← hM3, mu_cell (by decide), mu_cell (by decide), mu_place (by omega), mu_cell (by decide)]
        have f32 : M3 32 (16 * i + b) = cAf c i b := by rw [← hM3, mu_cell (by decide), mu_same]; rfl
        have g32 : ∀ k, k ≠ b → M3 32 (16 * i + k) = M 32 (16 * i + k) := fun k hk => by rw [← hM3, mu_cell (by decide), mu_place (by omega), mu_cell (by decide), mu_cell (by decide)]
        have f33 : M3 33 (16 * i + b) = cW c i * cVc c i b := by rw [← hM3, mu_same]
        have g33 : ∀ k, k ≠ b → M3 33 (16 * i + k) = M 33 (16 * i + k) := fun k hk => by rw [← hM3, mu_place (by omega), mu_cell (by decide), mu_cell (by decide), mu_cell (by decide)]
        have g30 : ∀ k, M3 30 (16 * i + k) = M 30 (16 * i + k) := fun k => by rw [← hM3, mu_cell (by decide), mu_cell (by decide), mu_cell (by decide), mu_cell (by decide)]
        refine s_listExit ⟨by omega, by omega⟩ (by omega) (fun hex => ?_) ?_
        · unfold fCh_listLegal_183
          rw [w1]
          obtain ⟨k, y1, y2, y3⟩ := hex
          refine ih (b + 1) M3 (hC.off r3.1 (by decide)) (hr.tr r3) (by omega) (by omega) (hL.add ⟨by omega, by omega⟩ hokb f29 f28 g28 f32 g32 f33 g33 (Or.inl ⟨f31, g30, k, y1, by omega, ?_⟩))
          rw [← g30 k]; exact y3
        · unfold fCh_listLegal_183
          rw [w1]
          have r4 : rowO i M (mu (mu M3 31 i (M3 31 i + 1)) 30 (16 * i + M3 31 i) (aft (cR c) (cK c i) b)) := (r3.mu (Or.inl ⟨Or.inr rfl, rfl⟩)).mu (Or.inr ⟨Or.inr (Or.inl rfl), by omega, by omega⟩)
          refine ih (b + 1) _ (hC.off r4.1 (by decide)) (hr.tr r4) (by omega) (by omega) (hL.add ⟨by omega, by omega⟩ hokb ?_ ?_ (fun k hk => ?_) ?_ (fun k hk => ?_) ?_ (fun k hk => ?_) (Or.inr ⟨?_, ?_, fun k hk => ?_⟩))
          · rw [mu_cell (by decide), mu_cell (by decide)]; exact f29
          · rw [mu_cell (by decide), mu_cell (by decide)]; exact f28
          · rw [mu_cell (by decide), mu_cell (by decide)]; exact g28 k hk
          · rw [mu_cell (by decide), mu_cell (by decide)]; exact f32
          · rw [mu_cell (by decide), mu_cell (by decide)]; exact g32 k hk
          · rw [mu_cell (by decide), mu_cell (by decide)]; exact f33
          · rw [mu_cell (by decide), mu_cell (by decide)]; exact g33 k hk
          · rw [mu_cell (by decide), mu_same, f31]
          · rw [f31, mu_same]; rfl
          · rw [mu_place (by omega), mu_cell (by decide)]; exact g30 k
theorem LXp.grow (h : LXp c M 0 1) (hV : VP c) : LX c M 0 := by
  have h16 := nS_le (cR c)
  obtain ⟨a1, a2, a3, a4, a5, a6⟩ := h
  refine ⟨by omega, fun k k0 k1 => ?_, a3, fun s s0 s1 s2 => ?_, by omega, fun k k0 k1 => ?_⟩
  · obtain ⟨q1, q2, q3⟩ := a2 k k0 k1
    exact ⟨q1, by omega, q3⟩
  · have := okL_00 s2
    exact a4 s s0 (by omega) s2
  · obtain ⟨s, q1, q2, q3⟩ := a6 k k0 k1
    exact ⟨s, q1, by omega, q3⟩
theorem s_listLegal (hV : VP c) (hC : XC c M) (hi : 0 ≤ i ∧ i < cN c) (h : ∀ M', rowO i M M' → (cDep c i ≠ -4 → LX c M' i) → R 0 M') : fCh_listLegal i M R := by
  have hN := hV.2.2.2.2.1
  have h16 := nS_le (cR c)
  have i24 : inb i 24 := ⟨by omega, by omega⟩
  have r1 : rowO i M (mu (mu M 29 i 0) 31 i 0) := ((rowO.rf i M).mu (Or.inl ⟨Or.inl rfl, rfl⟩)).mu (Or.inl ⟨Or.inr rfl, rfl⟩)
  have hC1 := hC.off r1.1 (by decide)
  have hz : LXp c (mu (mu M 29 i 0) 31 i 0) i 0 := by
    have f29 : (mu (mu M 29 i 0) 31 i 0) 29 i = 0 := by rw [mu_cell (by decide), mu_same]
    have f31 : (mu (mu M 29 i 0) 31 i 0) 31 i = 0 := mu_same _ _ _ _
    unfold LXp
    rw [f29, f31]
    exact ⟨by omega, fun k k0 k1 => by omega, fun k k' k0 k1 k2 => by omega, fun s s0 s1 => by omega, by omega, fun k k0 k1 => by omega⟩
  refine ⟨i24, i24, s_isReached hV hC1 hi ⟨fun hd => ⟨fun _ => ⟨i24, ?_⟩, fun z => absurd z (by decide)⟩, fun hd => ⟨fun z => absurd rfl z, fun _ => h _ r1 (fun z => absurd hd z)⟩⟩⟩
  rw [(hC1.2.1 i hi.1 hi.2).1, hC1.2.2.2.2.1]
  refine ⟨fun z => ⟨(nS (cR c)).toNat + 1, s_listLegal55 hV hi hd (Or.inl ⟨z, rfl⟩) (fun M' q1 q2 => h M' q1 (fun _ => q2)) _ 0 _ hC1 r1 (by omega) (by omega) hz⟩, fun z => ⟨2, s_listLegal55 hV hi hd (Or.inr ⟨z, rfl⟩) (fun M' q1 q2 => h M' q1 (fun _ => ?_)) 1 0 _ hC1 r1 (by omega) (by omega) hz⟩⟩
  rw [z] at q2 ⊢
  exact q2.grow hV
end X
