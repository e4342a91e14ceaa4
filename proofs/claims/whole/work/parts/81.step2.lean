/-! step -/
def RN (b : Int) (c : Cf) (X Y : Mem) : Prop := X 40 7 = 1 ∧ (X 27 17 = 1 ∧ Y 0 31 = 1 ∧ Y 0 27 = 1) ∧ X 40 8 = Y 0 44 ∧ X 40 10 = Y 0 46 ∧ X 40 11 = Y 0 48 ∧ X 40 12 = Y 0 52 ∧ X 40 13 = Y 0 49 ∧ X 40 14 = Y 0 50 ∧
  ((X 40 8 = 0 ∧ X 40 9 = Y 0 45 ∧ 0 ≤ X 40 9 ∧ X 40 9 < cN c ∧ cDep c (X 40 9) ≠ -4 ∧ X 40 11 = cDep c (X 40 9) ∧ X 40 10 = X 39 (X 40 9)) ∨ (X 40 8 = 1 ∧ Y 0 45 = -4)) ∧ (0 ≤ X 40 10 ∧ X 40 10 < nS (cR c) ∧ stL (cR c) (X 40 10) ≤ X 40 11) ∧ (0 ≤ X 40 11 ∧ X 40 11 ≤ 12) ∧ (0 ≤ X 40 12 ∧ X 40 12 ≤ 16) ∧ (0 ≤ X 40 14 ∧ X 40 14 ≤ b) ∧
  (∀ i, 0 ≤ i → i < X 40 11 → X 41 i = Y 27 i) ∧ (∀ i, 0 ≤ i → i < 4 → X 42 i = Y 29 i) ∧ (∀ i, 0 ≤ i → i < X 40 12 → X 43 i = Y 28 i) ∧ (∀ i, 0 ≤ i → i < 24 → X 44 i = Y 30 i ∧ 0 ≤ X 44 i ∧ X 44 i ≤ X 40 14)
theorem RN.toRR {b m : Int} {c : Cf} {X Y : Mem} (h : RN b c X Y) (h43 : Y 0 43 = 1) (hb : b ≤ 500 * m) : RR m c X Y := by
  obtain ⟨a0, a1, a2, a3, a4, a5, a6, a7, a8, a9, a10, a11, a12, a13⟩ := h
  exact ⟨by rw [a0, h43], Or.inr ⟨a0, a1, a2, a3, a4, a5, a6, a7, a8, a9, a10, a11, ⟨a12.1, by omega⟩, a13⟩⟩
theorem RN.mono {b b' : Int} {c : Cf} {X Y : Mem} (h : RN b c X Y) (hb : b ≤ b') : RN b' c X Y := by
  obtain ⟨a0, a1, a2, a3, a4, a5, a6, a7, a8, a9, a10, a11, a12, a13⟩ := h
  exact ⟨a0, a1, a2, a3, a4, a5, a6, a7, a8, a9, a10, a11, ⟨a12.1, by omega⟩, a13⟩
theorem nwC_congr {k h num num' : Int} {C C' V V' : Int → Int} (hk : 0 ≤ k ∧ k < 15) (ht : tk k ≤ h) (hC : ∀ j, 0 ≤ j → j < h → C j = C' j) (h0 : k = 0 → num = num') (h9 : k = 9 → V num = V' num') {j : Int} (j0 : 0 ≤ j) (j1 : j < h - tk k + cm k) : nwC k h num C V j = nwC k h num' C' V' j := by
  obtain ⟨q0, q1, q2, q3, q4, q5, q6, q7, q8, q9, q10, q11, q12, q13, q14⟩ := tc_tab
  have c0 : cm 0 = 1 := by decide +kernel
  have c1 : cm 1 = 1 := by decide +kernel
  have c2 : cm 2 = 1 := by decide +kernel
  have c3 : cm 3 = 1 := by decide +kernel
  have c4 : cm 4 = 2 := by decide +kernel
  have c5 : cm 5 = 2 := by decide +kernel
  have c6 : cm 6 = 0 := by decide +kernel
  have c7 : cm 7 = 3 := by decide +kernel
  have c8 : cm 8 = 3 := by decide +kernel
  have c9 : cm 9 = 1 := by decide +kernel
  have c10 : cm 10 = 0 := by decide +kernel
  have c11 : cm 11 = 0 := by decide +kernel
  have c12 : cm 12 = 0 := by decide +kernel
  have c13 : cm 13 = 0 := by decide +kernel
  have c14 : cm 14 = 0 := by decide +kernel
  have hk' : k = 0 ∨ k = 1 ∨ k = 2 ∨ k = 3 ∨ k = 4 ∨ k = 5 ∨ k = 6 ∨ k = 7 ∨ k = 8 ∨ k = 9 ∨ k = 10 ∨ k = 11 ∨ k = 12 ∨ k = 13 ∨ k = 14 := by omega
  rcases hk' with z | z | z | z | z | z | z | z | z | z | z | z | z | z | z <;> subst z
  · rw [q0] at ht j1; rw [c0] at j1
    simp only [nwC]
    by_cases y : j = h
    · simp [y, h0 rfl]
    · simp [y, hC j j0 (by omega)]
  · rw [q1] at ht j1; rw [c1] at j1
    by_cases y : j = h - 2
    · simp [nwC, y, hC (h - 2) (by omega) (by omega), hC (h - 1) (by omega) (by omega)]
    · simp [nwC, y, hC j j0 (by omega)]
  · rw [q2] at ht j1; rw [c2] at j1
    by_cases y : j = h - 2
    · simp [nwC, y, hC (h - 2) (by omega) (by omega), hC (h - 1) (by omega) (by omega)]
    · simp [nwC, y, hC j j0 (by omega)]
  · rw [q3] at ht j1; rw [c3] at j1
    by_cases y : j = h - 2
    · simp [nwC, y, hC (h - 2) (by omega) (by omega), hC (h - 1) (by omega) (by omega)]
    · simp [nwC, y, hC j j0 (by omega)]
  · rw [q4] at ht j1; rw [c4] at j1
    by_cases y : j = h
    · simp [nwC, y, hC (h - 1) (by omega) (by omega)]
    · simp [nwC, y, hC j j0 (by omega)]
  · rw [q5] at ht j1; rw [c5] at j1
    simp [nwC, hC (h - 2) (by omega) (by omega), hC (h - 1) (by omega) (by omega), hC j j0 (by omega)]
  · rw [q6] at ht j1; rw [c6] at j1
    simp [nwC, hC j j0 (by omega)]
  · rw [q7] at ht j1; rw [c7] at j1
    by_cases y : j = h
    · simp [nwC, y, hC (h - 2) (by omega) (by omega)]
    · simp [nwC, y, hC j j0 (by omega)]
  · rw [q8] at ht j1; rw [c8] at j1
    simp [nwC, hC (h - 2) (by omega) (by omega), hC (h - 1) (by omega) (by omega), hC (h - 3) (by omega) (by omega), hC j j0 (by omega)]
  · rw [q9] at ht j1; rw [c9] at j1
    by_cases y : j = h
    · simp [nwC, y, h9 rfl]
    · simp [nwC, y, hC j j0 (by omega)]
  · rw [q10] at ht j1; rw [c10] at j1
    simp [nwC, hC j j0 (by omega)]
  · rw [q11] at ht j1; rw [c11] at j1
    simp [nwC, hC j j0 (by omega)]
  · rw [q12] at ht j1; rw [c12] at j1
    simp [nwC, hC j j0 (by omega)]
  · rw [q13] at ht j1; rw [c13] at j1
    simp [nwC, hC j j0 (by omega)]
  · rw [q14] at ht j1; rw [c14] at j1
    simp [nwC, hC j j0 (by omega)]
theorem aft_len : ∀ r : Fin 4, ∀ k : Fin 15, ∀ s : Fin 16, 1 ≤ r.val → ((s.val : Nat) : Int) < nS ((r.val : Nat) : Int) → hasV ((r.val : Nat) : Int) ((k.val : Nat) : Int) ((s.val : Nat) : Int) = true → stL ((r.val : Nat) : Int) (aft ((r.val : Nat) : Int) ((k.val : Nat) : Int) ((s.val : Nat) : Int)) ≤ max (stL ((r.val : Nat) : Int) ((s.val : Nat) : Int)) (tk ((k.val : Nat) : Int)) - tk ((k.val : Nat) : Int) + cm ((k.val : Nat) : Int) := by decide +kernel
theorem aft_le {r k s : Int} (hr : 1 ≤ r ∧ r ≤ 3) (hk : 0 ≤ k ∧ k < 15) (hs : 0 ≤ s ∧ s < nS r) (hv : hasV r k s = true) : stL r (aft r k s) ≤ max (stL r s) (tk k) - tk k + cm k := by
  have h16 := nS_le r
  obtain ⟨a, ha⟩ := i_fin (n := 4) (x := r) ⟨by omega, by omega⟩
  obtain ⟨b, hb⟩ := i_fin (n := 15) (x := k) ⟨by omega, by omega⟩
  obtain ⟨d, hd⟩ := i_fin (n := 16) (x := s) ⟨by omega, by omega⟩
  rw [ha, hb, hd] at hv ⊢
  rw [ha, hd] at hs
  exact aft_len a b d (by omega) hs.2 hv
section E
variable {X Y X' Y' : Mem} {c : Cf} {nt t1 t2 b m : Int}
theorem dg_k : (∀ k : Fin 15, (k.val = 9 ∨ k.val = 10) → dg ((k.val : Nat) : Int) = 1) ∧ dg 0 = 2 := by decide +kernel
theorem num_in {i : Int} (hV : VP c) (hR : NR c X Y) (hi : 0 ≤ i ∧ i < cN c) (hk : cK c i = 9 ∨ cK c i = 10) : X 15 i = Y 4 i ∧ 0 ≤ X 15 i ∧ X 15 i < 4 := by
  have hk15 := hV.2.2.2.2.2.1 i hi.1 hi.2
  obtain ⟨a, ha⟩ := i_fin (n := 15) (x := cK c i) ⟨by omega, by omega⟩
  have e : dg (cK c i) = 1 := by rw [ha]; exact dg_k.1 a (by omega)
  obtain ⟨n1, n2, n3⟩ := hR i hi.1 hi.2
  have := n1 (by omega)
  have := n3 e
  omega
theorem RN.step (hV : VP c) (hD : DR c) (hG : TG c nt t1 t2) (hR : NR c X Y) (hB : BestX c nt t1 t2 X) (hE : ∀ j, 0 ≤ j → j < cN c → cDep c j ≠ -4 → X 39 j = Y 21 j) (hb : b < 2147483646) (h : RN b c X Y) (h8 : X 40 8 = 0) (hno : ¬ (cK c (X 40 9) = 13 ∧ X 40 12 = 16)) (hx : PXs c (X 40 9) X X') (hy : PYs c (X 40 9) Y Y') : RN (b + 1) c X' Y' ∧ X' 40 14 = X 40 14 + 1 := by
  obtain ⟨a0, a1, a2, a3, a4, a5, a6, a7, a8, a9, a10, a11, a12, a13, a14, a15, a16⟩ := h
  have a8' : X 40 8 = 0 ∧ X 40 9 = Y 0 45 ∧ 0 ≤ X 40 9 ∧ X 40 9 < cN c ∧ cDep c (X 40 9) ≠ -4 ∧ X 40 11 = cDep c (X 40 9) ∧ X 40 10 = X 39 (X 40 9) := by
    rcases a8 with z | z
    · exact z
    · rw [h8] at z; exact absurd z.1 (by decide)
  obtain ⟨b1, b2, b3, b4, b5, b6, b7⟩ := a8'
  obtain ⟨x1, x2, x3, x4, x5, x6, x7, x8, x9, x10, x11, x12⟩ := hx
  obtain ⟨y1, y2, y3, y4, y5, y6, y7, y8, y9, y10, y11, y12, y13⟩ := hy
  have hi : 0 ≤ X 40 9 ∧ X 40 9 < cN c := ⟨b3, b4⟩
  have hN := hV.2.2.2.2.1
  have hk := hV.2.2.2.2.2.1 _ hi.1 hi.2
  obtain ⟨d1, d2, d3, d4⟩ := hD _ hi.1 hi.2 b5
  have h39 := bestX_ok hV hG hB hi b5
  have tkk : ∀ k, k = 10 ∨ k = 12 ∨ k = 13 → tk k = 1 := by
    intro k hk; rcases hk with z | z | z <;> rw [z] <;> decide +kernel
  have vE : cK c (X 40 9) = 10 ∨ cK c (X 40 9) = 12 ∨ cK c (X 40 9) = 13 → X 41 (cDep c (X 40 9) - 1) = Y 27 (cDep c (X 40 9) - 1) := fun z => by
    have := tkk _ z
    exact a13 _ (by omega) (by omega)
  have nE : nxC c (X 40 9) (X 41 (cDep c (X 40 9) - 1)) = nxC c (X 40 9) (Y 27 (cDep c (X 40 9) - 1)) := by
    by_cases z : cK c (X 40 9) = 12
    · rw [vE (Or.inr (Or.inl z))]
    · unfold nxC nxt
      rw [if_neg z, if_neg z]
  have s0 : ∀ {v : Int}, nxC c (X 40 9) v ≠ -4 → _ := fun {v} => nxC_in (v := v) hV hD hi b5
  rw [nE] at x3 x4 x5
  have w14 : X' 40 14 = X 40 14 + 1 := by rw [x8]; exact wrapI (by omega) (by omega)
  have hX27 : X' 27 = X 27 := x1.fn (by decide)
  have hX39 : X' 39 = X 39 := x1.fn (by decide)
  have e39 : X 39 (X 40 9) = Y 21 (X 40 9) := hE _ hi.1 hi.2 b5
  have hstate : X' 40 10 = Y' 0 46 ∧ X' 40 13 = Y' 0 49 ∧ ((X' 40 8 = 0 ∧ X' 40 9 = Y' 0 45 ∧ 0 ≤ X' 40 9 ∧ X' 40 9 < cN c ∧ cDep c (X' 40 9) ≠ -4 ∧ X' 40 11 = cDep c (X' 40 9) ∧ X' 40 10 = X' 39 (X' 40 9)) ∨ (X' 40 8 = 1 ∧ Y' 0 45 = -4)) ∧ (0 ≤ X' 40 10 ∧ X' 40 10 < nS (cR c) ∧ stL (cR c) (X' 40 10) ≤ X' 40 11) := by
    by_cases hne : nxC c (X 40 9) (Y 27 (cDep c (X 40 9) - 1)) = -4
    · obtain ⟨p1, p2⟩ := x5 hne
      obtain ⟨r1, r2⟩ := y6 hne
      rw [if_pos hne] at x3
      have ha := aft_in hV.1 hk (s := X 39 (X 40 9)) ⟨h39.1, h39.2.1⟩
      have hv : hasV (cR c) (cK c (X 40 9)) (X 39 (X 40 9)) = true ∧ stL (cR c) (X 39 (X 40 9)) ≤ cDep c (X 40 9) := by
        have := h39.2.2
        unfold okL at this
        simp only [Bool.and_eq_true, decide_eq_true_eq] at this
        exact ⟨this.1.2, this.1.1.2⟩
      have hl := aft_le hV.1 hk (s := X 39 (X 40 9)) ⟨h39.1, h39.2.1⟩ hv.1
      refine ⟨by rw [p1, r1, e39], by rw [p2, r2, e39, a6], Or.inr ⟨x3, by rw [y4]; exact hne⟩, ?_⟩
      rw [p1, x6]
      refine ⟨ha.1, ha.2, ?_⟩
      show stL (cR c) (aft (cR c) (cK c (X 40 9)) (X 39 (X 40 9))) ≤ _
      have := hv.2
      omega
    · obtain ⟨p0, p1, p2⟩ := x4 hne
      obtain ⟨r1, r2⟩ := y5 hne
      rw [if_neg hne] at x3
      obtain ⟨n0, n1, n2, n3⟩ := nxC_in hV hD hi b5 hne
      have h39' := bestX_ok hV hG hB ⟨n0, n1⟩ n2
      have e39' := hE _ n0 n1 n2
      refine ⟨by rw [p1, r1, e39'], by rw [p2, r2, e39, e39', a6], Or.inl ⟨x3, by rw [p0, y4], by rw [p0]; exact n0, by rw [p0]; exact n1, by rw [p0]; exact n2, by rw [p0, x6, n3], by rw [p0, p1, hX39]⟩, ?_⟩
      rw [p1, x6, ← n3]
      refine ⟨h39'.1, h39'.2.1, ?_⟩
      have := h39'.2.2
      unfold okL at this
      simp only [Bool.and_eq_true, decide_eq_true_eq] at this
      exact this.1.1.2
  have numE : cK c (X 40 9) = 0 ∨ cK c (X 40 9) = 9 ∨ cK c (X 40 9) = 10 → X 15 (X 40 9) = Y 4 (X 40 9) := fun z => by
    rcases z with z | z
    · refine ((hR _ hi.1 hi.2).1 ?_).1
      rw [z, dg_k.2]; decide
    · exact (num_in hV hR hi z).1
  refine ⟨⟨by rw [x2]; exact a0, ⟨by rw [hX27]; exact a1.1, by rw [y1.fld (by decide)]; exact a1.2.1, by rw [y1.fld (by decide)]; exact a1.2.2⟩, by rw [x3, y3], hstate.1, by rw [x6, y7], by rw [x7, y8, a5], hstate.2.1, by rw [x8, y9, a7], hstate.2.2.1, hstate.2.2.2, ?_, ?_, ⟨by omega, by omega⟩, ?_, ?_, ?_, ?_⟩, w14⟩
  · have hcm : 0 ≤ cm (cK c (X 40 9)) := by
      obtain ⟨k, hk'⟩ := i_fin (n := 15) (x := cK c (X 40 9)) ⟨by omega, by omega⟩
      rw [hk']
      exact (show ∀ k : Fin 15, 0 ≤ cm ((k.val : Nat) : Int) by decide +kernel) k
    rw [x6]; omega
  · rw [x7]
    unfold nwN
    by_cases z : cK c (X 40 9) = 13
    · rw [if_pos z]; omega
    · rw [if_neg z]; exact a11
  · intro j j0 j1
    rw [x6] at j1
    rw [x10 j j0 j1, y11 j j0 j1]
    refine nwC_congr hk d1 (fun q q0 q1 => a13 q q0 (by omega)) (fun z => numE (Or.inl z)) (fun z => ?_) j0 j1
    have nn := num_in hV hR hi (Or.inl z)
    rw [← nn.1]
    exact a14 _ nn.2.1 nn.2.2
  · intro j j0 j1
    rw [x11, y12]
    unfold nwV
    by_cases z : cK c (X 40 9) = 10
    · rw [if_pos z, if_pos z, numE (Or.inr (Or.inr z)), vE (Or.inl z), a14 j j0 j1]
    · rw [if_neg z, if_neg z, a14 j j0 j1]
  · intro j j0 j1
    rw [x7] at j1
    rw [x12, y13]
    unfold nwO
    unfold nwN at j1
    by_cases z : cK c (X 40 9) = 13
    · rw [if_pos z] at j1
      rw [if_pos z, if_pos z, ← a5, vE (Or.inr (Or.inr z))]
      by_cases y : j = X 40 12
      · rw [if_pos y, if_pos y]
      · rw [if_neg y, if_neg y]; exact a15 j j0 (by omega)
    · rw [if_neg z] at j1
      rw [if_neg z, if_neg z]; exact a15 j j0 j1
  · intro j j0 j1
    rw [x9, y10]
    have q := a16 j j0 j1
    by_cases y : j = X 40 9
    · rw [if_pos y, if_pos y, w14, ← y, ← q.1, wrapI (z := X 44 j + 1) (by omega) (by omega)]
      exact ⟨rfl, by omega, by omega⟩
    · rw [if_neg y, if_neg y, w14]; exact ⟨q.1, q.2.1, by omega⟩
/-- what the loop of step keeps -/
def SI (b : Int) (c : Cf) (X0 Y0 X Y : Mem) : Prop := Off ruX [] X0 X ∧ Off ruY ruT Y0 Y ∧ Y 0 43 = 1 ∧ RN b c X Y
/-- what it keeps of x alone -/
def XI (b : Int) (c : Cf) (X0 X : Mem) : Prop := Off ruX [] X0 X ∧ ((X 40 8 = 0 ∧ 0 ≤ X 40 9 ∧ X 40 9 < cN c ∧ cDep c (X 40 9) ≠ -4 ∧ X 40 11 = cDep c (X 40 9) ∧ X 40 10 = X 39 (X 40 9)) ∨ X 40 8 = 1) ∧ (0 ≤ X 40 12 ∧ X 40 12 ≤ 16) ∧ (0 ≤ X 40 14 ∧ X 40 14 ≤ b)
theorem SI.xi {X0 Y0 : Mem} (h : SI b c X0 Y0 X Y) : XI b c X0 X := by
  obtain ⟨ox, oy, h43, hN⟩ := h
  obtain ⟨a0, a1, a2, a3, a4, a5, a6, a7, a8, a9, a10, a11, a12, a13, a14, a15, a16⟩ := hN
  refine ⟨ox, ?_, a11, a12⟩
  rcases a8 with ⟨b1, b2, b3, b4, b5, b6, b7⟩ | z
  · exact Or.inl ⟨b1, b3, b4, b5, b6, b7⟩
  · exact Or.inr z.1
theorem XI.step {X0 : Mem} (hV : VP c) (hD : DR c) (hb : b < 2147483646) (h : XI b c X0 X) (h8 : X 40 8 = 0) (hno : ¬ (cK c (X 40 9) = 13 ∧ X 40 12 = 16)) (hx : PXs c (X 40 9) X X') : XI (b + 1) c X0 X' ∧ X' 40 14 = X 40 14 + 1 := by
  obtain ⟨ox, a8, a11, a12⟩ := h
  have a8' : X 40 8 = 0 ∧ 0 ≤ X 40 9 ∧ X 40 9 < cN c ∧ cDep c (X 40 9) ≠ -4 ∧ X 40 11 = cDep c (X 40 9) ∧ X 40 10 = X 39 (X 40 9) := by
    rcases a8 with z | z
    · exact z
    · rw [h8] at z; exact absurd z (by decide)
  obtain ⟨b1, b3, b4, b5, b6, b7⟩ := a8'
  obtain ⟨x1, x2, x3, x4, x5, x6, x7, x8, x9, x10, x11, x12⟩ := hx
  have w14 : X' 40 14 = X 40 14 + 1 := by rw [x8]; exact wrapI (by omega) (by omega)
  refine ⟨⟨ox.tr x1, ?_, ?_, by omega, by omega⟩, w14⟩
  · by_cases hne : nxC c (X 40 9) (X 41 (cDep c (X 40 9) - 1)) = -4
    · rw [if_pos hne] at x3; exact Or.inr x3
    · rw [if_neg hne] at x3
      obtain ⟨p0, p1, p2⟩ := x4 hne
      obtain ⟨n0, n1, n2, n3⟩ := nxC_in hV hD ⟨b3, b4⟩ b5 hne
      exact Or.inl ⟨x3, by rw [p0]; exact n0, by rw [p0]; exact n1, by rw [p0]; exact n2, by rw [p0, x6, n3], by rw [p0, p1, x1.cell (by decide)]⟩
  · rw [x7]
    unfold nwN
    by_cases z : cK c (X 40 9) = 13
    · rw [if_pos z]; omega
    · rw [if_neg z]; exact a11
theorem s_step47 {n b4 b0 : Int} {X0 Y0 : Mem} {G : Int → Mem → Prop} (hV : VP c) (hD : DR c) (hG : TG c nt t1 t2) (hR : NR c X0 Y0) (hC : XC c X0) (hM : MC c Y0) (hT : TM (cR c) Y0) (hP : PassOK (cR c) c.1.2.1 c.1.2.2.1 c.1.2.2.2 Y0) (hB : BestX c nt t1 t2 X0) (hBM : BestM c nt t1 t2 Y0) (hn : 1 ≤ n ∧ n ≤ 500) (hb : 0 ≤ b0 ∧ b0 < 2147480000) :
    ∀ (d : Nat) (k : Int) (X : Mem) (P : Mem → Prop), XI (b0 + k) c X0 X → (∀ Y, P Y → SI (b0 + k) c X0 Y0 X Y) → X 40 14 = b4 + k → 0 ≤ k → k ≤ n → n - k = d →
    (∀ r X', (∀ S : Int → Mem → Prop, (∀ Y', SI (b0 + n) c X0 Y0 X' Y' → S r Y') → ∀ Y, P Y → fMd_step_36 S (d + 2) n k Y) → G r X') → fSt_step_47 G (d + 2) n b4 k X := by
  intro d
  have hE0 := (best_same hV hB hBM).2
  induction d with
  | zero =>
    intro k X P hXI hPI h14 k0 k1 hd hG'
    refine ⟨fun z => ?_, fun z => by omega⟩
    unfold fSt_step_75
    rw [h14, show b4 + k - b4 = k by omega, wrapI (z := k) (by omega) (by omega)]
    refine hG' _ _ (fun S hS Y hY => ⟨fun _ => hS Y (let hI := hPI Y hY; ⟨hI.1, hI.2.1, hI.2.2.1, hI.2.2.2.mono (by omega)⟩), fun y => by omega⟩)
  | succ d ih =>
    intro k X P hXI hPI h14 k0 k1 hd hG'
    have ret : ∀ {Z : Mem}, Z 40 14 = b4 + k → (∀ S : Int → Mem → Prop, (∀ Y', SI (b0 + n) c X0 Y0 Z Y' → S k Y') → ∀ Y, P Y → fMd_step_36 S (d + 1 + 2) n k Y) → fSt_step_75 G b4 Z := by
      intro Z hZ hh
      unfold fSt_step_75
      rw [hZ, show b4 + k - b4 = k by omega, wrapI (z := k) (by omega) (by omega)]
      exact hG' _ _ hh
    refine ⟨fun z => by omega, fun z => ⟨fun z8 => ret h14 (fun S hS Y hY => ?_), fun z8 => ?_⟩⟩
    · obtain ⟨ox, oy, h43, hN⟩ := hPI Y hY
      exact ⟨fun y => by omega, fun _ => ⟨fun y => hS Y ⟨ox, oy, h43, hN.mono (by omega)⟩, fun y => absurd (hN.2.2.1.trans y) z8⟩⟩
    obtain ⟨ox, a8, a11, a12⟩ := id hXI
    have a8' : X 40 8 = 0 ∧ 0 ≤ X 40 9 ∧ X 40 9 < cN c ∧ cDep c (X 40 9) ≠ -4 ∧ X 40 11 = cDep c (X 40 9) ∧ X 40 10 = X 39 (X 40 9) := by
      rcases a8 with z | z
      · exact z
      · rw [z8] at z; exact absurd z (by decide)
    obtain ⟨b1, b3, b4', b5, b6, b7⟩ := a8'
    have hi : 0 ≤ X 40 9 ∧ X 40 9 < cN c := ⟨b3, b4'⟩
    have hN24 := hV.2.2.2.2.1
    have i24 : inb (X 40 9) 24 := ⟨by omega, by omega⟩
    have hk := hV.2.2.2.2.2.1 _ hi.1 hi.2
    have hCX : XC c X := hC.off ox (by decide)
    have hBX : BestX c nt t1 t2 X := by unfold BestX at hB ⊢; rw [ox.fn (c := 27) (by decide), ox.fn (c := 39) (by decide)]; exact hB
    have k119 : sg (cK c (X 40 9)) = 119 ↔ cK c (X 40 9) = 13 := by rw [← sg_tab.2.2.2.2.2.2.2.2.2.2.2.2.2.1]; exact sg_iff hk (by decide)
    have w1 : wrap (k + 1) = k + 1 := wrapI (by omega) (by omega)
    have e15 : X 15 = X0 15 := ox.fn (by decide)
    have hn15 : cK c (X 40 9) = 9 ∨ cK c (X 40 9) = 10 → 0 ≤ X 15 (X 40 9) ∧ X 15 (X 40 9) < 4 := fun q => by rw [e15]; exact (num_in hV hR hi q).2
    refine s_advance hV hG hCX hD hBX hi b5 rfl b7 b6 hn15 a11 (fun k13 z16 => ?_) (fun hno X' hx => ?_)
    · -- the seventeenth output
      rw [w1]
      have hh : ∀ S : Int → Mem → Prop, (∀ Y', SI (b0 + n) c X0 Y0 (mu X 40 8 1) Y' → S k Y') → ∀ Y, P Y → fMd_step_36 S (d + 1 + 2) n k Y := fun S hS Y hY => by
        obtain ⟨ox, oy, h43, hN⟩ := hPI Y hY
        have hMY : MC c Y := hM.off oy (by decide)
        have e3 := (hMY.2.2 _ hi.1 hi.2).1
        obtain ⟨a0, a1, a2, a3, a4, a5, a6, a7, a8, a9, a10, a11, a12, a13, a14, a15, a16⟩ := id hN
        have b2 : X 40 9 = Y 0 45 := by
          rcases a8 with z | z
          · exact z.2.1
          · rw [z8] at z; exact absurd z.1 (by decide)
        have hI' : SI (b0 + n) c X0 Y0 (mu X 40 8 1) (mu (mu Y 0 44 1) 0 45 (-4)) := by
          refine ⟨ox.mu (Or.inl (by decide)), (oy.mu (Or.inr (by decide))).mu (Or.inr (by decide)), by simpa [mu] using h43, ?_⟩
          refine ⟨by simpa [mu] using a0, by simpa [mu] using a1, by simp [mu], by simpa [mu] using a3, by simpa [mu] using a4, by simpa [mu] using a5, by simpa [mu] using a6, by simpa [mu] using a7, Or.inr ⟨by simp [mu], by simp [mu]⟩, by simpa [mu] using a9, by simpa [mu] using a10, by simpa [mu] using a11, ?_, by simpa [mu] using a13, by simpa [mu] using a14, by simpa [mu] using a15, by simpa [mu] using a16⟩
          have : (mu X 40 8 1) 40 14 = X 40 14 := by simp [mu]
          rw [this]; exact ⟨a12.1, by omega⟩
        refine ⟨fun y => by omega, fun _ => ⟨fun y => absurd (a2.symm.trans z8) y, fun _ => ?_⟩⟩
        rw [← b2, e3]
        refine ⟨i24, fun y => absurd (k119.mpr k13) y, fun _ => ⟨fun y => absurd (a5.symm.trans z16) y, fun _ => ⟨fun y => by omega, fun _ => ⟨fun _ => hS _ hI', fun y => by simp [mu] at y⟩⟩⟩⟩
      have e14 : (mu X 40 8 1) 40 14 = b4 + k := by rw [mu_place (by decide)]; exact h14
      exact ⟨fun _ => ret e14 hh, fun _ => ⟨fun _ => ret e14 hh, fun y => by simp [mu] at y⟩⟩
    · rw [w1]
      obtain ⟨hXI', h14'⟩ := hXI.step hV hD (by omega) z8 hno hx
      refine ih (k + 1) X' (fun Y' => ∃ Y, P Y ∧ PYs c (X 40 9) Y Y') (by rw [← Int.add_assoc]; exact hXI') (fun Y' hY' => ?_) (by omega) (by omega) (by omega) (by omega) (fun r X'' hh => hG' r X'' (fun S hS Y hY => ?_))
      · obtain ⟨Y, hY, hy⟩ := hY'
        obtain ⟨ox, oy, h43, hN⟩ := hPI Y hY
        have hRX : NR c X Y := by unfold NR at hR ⊢; rw [oy.fn (c := 4) (by decide), ox.fn (c := 15) (by decide)]; exact hR
        have hE : ∀ j, 0 ≤ j → j < cN c → cDep c j ≠ -4 → X 39 j = Y 21 j := fun j j0 j1 j2 => by rw [ox.cell (by decide), oy.cell (by decide)]; exact hE0 j j0 j1 j2
        have := RN.step hV hD hG hRX hBX hE (by omega) hN z8 hno hx hy
        rw [← Int.add_assoc]
        exact ⟨ox.tr hx.1, oy.tr hy.1, by rw [hy.2.1]; exact h43, this.1⟩
      · obtain ⟨ox, oy, h43, hN⟩ := hPI Y hY
        have hMY : MC c Y := hM.off oy (by decide)
        have hRX : NR c X Y := by unfold NR at hR ⊢; rw [oy.fn (c := 4) (by decide), ox.fn (c := 15) (by decide)]; exact hR
        have hTY : TM (cR c) Y := by unfold TM at hT ⊢; rw [oy.fn (c := 1) (by decide), oy.fn (c := 15) (by decide), oy.fn (c := 16) (by decide)]; exact hT
        have hPY : PassOK (cR c) c.1.2.1 c.1.2.2.1 c.1.2.2.2 Y := by unfold PassOK at hP ⊢; rw [oy.fn (c := 18) (by decide)]; exact hP
        have hE : ∀ j, 0 ≤ j → j < cN c → cDep c j ≠ -4 → X 39 j = Y 21 j := fun j j0 j1 j2 => by rw [ox.cell (by decide), oy.cell (by decide)]; exact hE0 j j0 j1 j2
        have hB21 : ∀ j, 0 ≤ j → j < cN c → cDep c j ≠ -4 → 0 ≤ Y 21 j ∧ Y 21 j < nS (cR c) ∧ okL c j (Y 21 j) = true := fun j j0 j1 j2 => by
          have := bestX_ok hV hG hBX ⟨j0, j1⟩ j2
          rw [hE j j0 j1 j2] at this; exact this
        have e3 := (hMY.2.2 _ hi.1 hi.2).1
        obtain ⟨a0, a1, a2, a3, a4, a5, a6, a7, a8, a9, a10, a11, a12, a13, a14, a15, a16⟩ := id hN
        have b2 : X 40 9 = Y 0 45 := by
          rcases a8 with z | z
          · exact z.2.1
          · rw [z8] at z; exact absurd z.1 (by decide)
        have go : fMd_step_85 (fMd_step_36 S (d + 2)) S n k Y := by
          unfold fMd_step_85
          rw [w1]
          refine s_stepsOnce hV hMY hTY hPY hD hB21 hi b5 b2.symm (by rw [← a3, b7]; exact hE _ hi.1 hi.2 b5) (by rw [← a4]; exact b6) (fun q => by have := num_in hV hRX hi q; rw [← this.1]; exact this.2) (fun q => by rw [← a5]; omega) (fun Y' hy => hh S hS Y' ⟨Y, hY, hy⟩)
        refine ⟨fun y => by omega, fun _ => ⟨fun y => absurd (a2.symm.trans z8) y, fun _ => ?_⟩⟩
        rw [← b2, e3]
        exact ⟨i24, fun _ => go, fun y => ⟨fun _ => go, fun y2 => absurd ⟨k119.mp y, a5.trans y2⟩ hno⟩⟩
theorem o_step {n : Int} (hm0 : 0 ≤ m ∧ m < 4000000) (h : Rel m X Y) : fSt_step n X (Post m (fMd_step n Y)) := by
  have hm := h.mono (m' := m + 1) (by omega)
  have bad : ¬ (1 ≤ n ∧ n ≤ 500) → Post m (fMd_step n Y) (-1) X := fun hn => s_in ⟨fun z => absurd z hn, fun _ => ⟨fun z => absurd rfl z, fun _ => ⟨rfl, hm⟩⟩⟩
  refine ⟨fun z => bad (by omega), fun z1 => ⟨fun z2 => ?_, fun z2 => bad (by omega)⟩⟩
  have hn : 1 ≤ n ∧ n ≤ 500 := ⟨by omega, z2⟩
  have hr0 : X 40 7 = Y 0 43 := by obtain ⟨-, -, -, -, c, nt, t1, t2, p, q, r⟩ := id h; exact r.1
  have hr8 : X 40 7 ≠ 0 → X 40 8 = Y 0 44 := by
    obtain ⟨-, -, -, -, c, nt, t1, t2, p, q, r⟩ := id h
    intro z
    rcases r.2 with y | y
    · exact absurd y z
    · exact y.2.2.1
  have no : (Y 0 43 = 0 ∨ (¬ Y 0 43 = 0 ∧ ¬ Y 0 44 = 0)) → Post m (fMd_step n Y) (-2) X := fun q => s_in ⟨fun _ => ⟨fun _ => ⟨fun _ => ⟨rfl, hm⟩, fun z => ⟨fun y => by omega, fun _ => ⟨rfl, hm⟩⟩⟩, fun z => absurd z (by decide)⟩, fun z => absurd hn z⟩
  refine ⟨fun z7 => no (Or.inl (hr0.symm.trans z7)), fun z7 => ⟨fun z8 => ?_, fun z8 => no (Or.inr ⟨fun q => z7 (hr0.trans q), fun q => z8 ((hr8 z7).trans q)⟩)⟩⟩
  -- the states are laid
  obtain ⟨-, -, -, -, c0, nt0, t10, t20, p0, q0, r0⟩ := id h
  have e10 : Y 1 0 = cR c0 := p0.2.2.2.1.1.1
  have oL : Off [15, 16] [20] Y (SM (cR c0) (nS (cR c0)) Y) := fun d i q1 q2 => SM_off (fun y => q2 y.1 (by rw [y.2]; decide)) (fun y => q1 (by rw [y]; decide)) (fun y => q1 (by rw [y]; decide))
  have hTL : TM (cR c0) (SM (cR c0) (nS (cR c0)) Y) := TM_SM e10
  have lays : ∀ R : Int → Mem → Prop, R 0 (SM (cR c0) (nS (cR c0)) Y) → fMd_laysStates Y R := fun R hR => by
    refine s_laysStates (by rw [e10]; exact p0.1.1) ?_
    rw [e10]; exact hR
  have h1 : Rel m X (SM (cR c0) (nS (cR c0)) Y) := h.offY (oL.mono (by decide) (by decide))
  generalize hY1 : SM (cR c0) (nS (cR c0)) Y = Y1 at *
  obtain ⟨c, nt, t1, t2, h4, p, q, r⟩ := h1.pieces
  have eR : cR c0 = cR c := by rw [← p.2.2.2.1.1.1, ← e10]; exact (oL.cell (c := 1) (by decide) 0).symm
  rw [eR] at hTL
  obtain ⟨r1, r2⟩ := r
  have r2' := r2.resolve_left z7
  have hRN : RN (500 * m) c X Y1 := r2'
  have h43 : Y1 0 43 = 1 := by rw [← r1]; exact r2'.1
  have hBX : BestX c nt t1 t2 X := by
    rcases q.1.1 with y | y
    · rw [r2'.2.1.1] at y; exact absurd y (by decide)
    · exact y.2
  have hBM : BestM c nt t1 t2 Y1 := by
    rcases q.2.1 with y | y
    · rw [r2'.2.1.2.1] at y; exact absurd y (by decide)
    · exact y.2.1
  have hPO : PassOK (cR c) c.1.2.1 c.1.2.2.1 c.1.2.2.2 Y1 := by
    rcases q.2.2.1 with y | y
    · rw [r2'.2.1.2.2] at y; exact absurd y (by decide)
    · exact y.2
  have hSI : SI (500 * m + 0) c X Y1 X Y1 := ⟨Off.rf _ _ _, Off.rf _ _ _, h43, by rw [Int.add_zero]; exact hRN⟩
  refine ⟨n.toNat + 2, s_step47 (b0 := 500 * m) (b4 := X 40 14) p.1 p.2.2.2.2.1 p.2.1 p.2.2.2.2.2.1 p.2.2.1 p.2.2.2.1 hTL hPO hBX hBM hn ⟨by omega, by omega⟩ n.toNat 0 X (fun Z => Z = Y1) hSI.xi (fun Z hZ => by rw [hZ]; exact hSI) (by omega) (by omega) (by omega) (by omega) (fun r' X' hh => ?_)⟩
  refine s_in ⟨fun _ => ⟨fun _ => ⟨fun z => absurd (hr0.trans z) z7, fun _ => ⟨fun _ => lays _ ⟨n.toNat + 2, hh _ (fun Y' hI => ⟨rfl, ?_⟩) Y1 rfl⟩, fun z => absurd ((hr8 z7).symm.trans z8) z⟩⟩, fun z => absurd z (by decide)⟩, fun z => absurd hn z⟩
  obtain ⟨ox, oy, h43', hN'⟩ := hI
  exact Rel.run h4 p q ox oy (hN'.toRR h43' (by omega))
end E
