/-! the class lists its states -/
theorem k_and3 : ∀ n : Fin 64, b_iand ((n.val : Nat) : Int) 3 = ((n.val % 4 : Nat) : Int) ∧ b_iand (b_ishr ((n.val : Nat) : Int) 2) 3 = ((n.val / 4 % 4 : Nat) : Int) ∧ b_iand (b_ishr ((n.val : Nat) : Int) 4) 3 = ((n.val / 16 % 4 : Nat) : Int) ∧ b_iand ((n.val : Nat) : Int) 15 = ((n.val % 16 : Nat) : Int) ∧ b_ishr ((n.val : Nat) : Int) 0 = ((n.val : Nat) : Int) ∧ b_ishr ((n.val : Nat) : Int) 2 = ((n.val / 4 : Nat) : Int) ∧ b_ishr ((n.val : Nat) : Int) 4 = ((n.val / 16 : Nat) : Int) ∧ b_ishr ((n.val : Nat) : Int) 6 = ((n.val / 64 : Nat) : Int) := by decide +kernel
theorem k_or : ∀ n : Fin 16, ∀ r : Fin 4, b_ior (b_ishl ((n.val : Nat) : Int) 2) ((r.val : Nat) : Int) = ((4 * n.val + r.val : Nat) : Int) := by decide +kernel
theorem k_xor : ∀ x : Fin 32, ∀ y : Fin 4, 0 ≤ b_ixor ((x.val : Nat) : Int) ((y.val : Nat) : Int) := by decide +kernel
theorem i_fin {x : Int} {n : Nat} (h : 0 ≤ x ∧ x < n) : ∃ k : Fin n, x = ((k.val : Nat) : Int) := ⟨⟨x.toNat, by omega⟩, by show x = ((x.toNat : Nat) : Int); omega⟩
theorem s_fmS {x y : Int} {M : Mem} {R : Int → Mem → Prop} (hx : 0 ≤ x ∧ x < 32) (hy : 1 ≤ y ∧ y ≤ 3) (h : R (x % y) M) : fMath_floorMod x y M R := by
  refine s_floorMod (by unfold inR; omega) (by unfold inR; omega) (by omega) ?_ h
  obtain ⟨a, ha⟩ := i_fin (n := 32) ⟨hx.1, by omega⟩
  obtain ⟨b, hb⟩ := i_fin (n := 4) (x := y) ⟨by omega, by omega⟩
  have := k_xor a b
  rw [← ha, ← hb] at this
  exact ⟨fun _ => hx.1, fun _ => this⟩
theorem s_fdS {x y : Int} {M : Mem} {R : Int → Mem → Prop} (hx : 0 ≤ x ∧ x < 32) (hy : 1 ≤ y ∧ y ≤ 3) (h : R (x / y) M) : fMath_floorDiv x y M R := by
  have e := b_idiv_eq (x := x) (y := y) (by unfold inR; omega) (by unfold inR; omega) (by omega)
  rw [Int.tdiv_eq_ediv_of_nonneg hx.1] at e
  obtain ⟨a, ha⟩ := i_fin (n := 32) ⟨hx.1, by omega⟩
  obtain ⟨b, hb⟩ := i_fin (n := 4) (x := y) ⟨by omega, by omega⟩
  have hq := k_xor a b
  rw [← ha, ← hb] at hq
  unfold fMath_floorDiv
  refine ⟨by omega, fun _ => ?_, fun q => absurd hq q⟩
  rw [e]; exact h
def holdsR (row r : Int) : Bool := decide (row % 4 = r + 1) || decide (row / 4 % 4 = r + 1) || decide (row / 16 % 4 = r + 1)
theorem s_holds {row r : Int} {M : Mem} {R : Int → Mem → Prop} (hr : 0 ≤ row ∧ row < 64) (h2 : 0 ≤ r ∧ r < 3) (h : R (if holdsR row r then 1 else 0) M) : fMa_holds row r M R := by
  obtain ⟨a, ha⟩ := i_fin (n := 64) ⟨hr.1, by omega⟩
  obtain ⟨e1, e2, e3, -⟩ := k_and3 a
  rw [← ha] at e1 e2 e3
  have f1 : ((a.val % 4 : Nat) : Int) = row % 4 := by omega
  have f2 : ((a.val / 4 % 4 : Nat) : Int) = row / 4 % 4 := by omega
  have f3 : ((a.val / 16 % 4 : Nat) : Int) = row / 16 % 4 := by omega
  unfold fMa_holds fMa_holds_31
  rw [e1, e2, e3, f1, f2, f3, wrapI (by omega) (by omega)]
  unfold holdsR at h
  refine ⟨fun q => ?_, fun q => ⟨fun q2 => ?_, fun q2 => ⟨fun q3 => ?_, fun q3 => ?_⟩⟩⟩
  · simpa [q] using h
  · simpa [q, q2] using h
  · simpa [q, q2, q3] using h
  · simpa [q, q2, q3] using h
theorem s_push {row r : Int} {M : Mem} {R : Int → Mem → Prop} (hr : 0 ≤ row ∧ row < 16) (h2 : 0 ≤ r ∧ r < 3) (h : R (4 * row + r + 1) M) : fMa_push row r M R := by
  obtain ⟨a, ha⟩ := i_fin (n := 16) ⟨hr.1, by omega⟩
  obtain ⟨b, hb⟩ := i_fin (n := 4) (x := r + 1) ⟨by omega, by omega⟩
  unfold fMa_push
  rw [wrapI (by omega) (by omega), ha, hb, k_or a b]
  have : ((4 * a.val + b.val : Nat) : Int) = 4 * row + r + 1 := by omega
  rw [this]; exact h
/-- the row of a state, by the digits of its number -/
def rowF (r : Int) : Nat → Int → Int → Option Int
  | 0, row, _ => some row
  | m + 1, row, d => if holdsR row (d % r) then none else rowF r m (4 * row + d % r + 1) (d / r)
/-- behind j states -/
def TabX (r j : Int) (M : Mem) : Prop := M 8 4 = j ∧ ∀ s, 0 ≤ s → s < j → M 9 s = stP r s ∧ M 10 s = stL r s ∧ M 11 (stP r s) = s
def offX (M M' : Mem) : Prop := ∀ c i, c ≠ 9 → c ≠ 10 → c ≠ 11 → ¬ (c = 8 ∧ i = 4) → M' c i = M c i
theorem offX.rf (M : Mem) : offX M M := fun _ _ _ _ _ _ => rfl
theorem s_ls8 {r len : Int} {R : Int → Mem → Prop} (hr : 1 ≤ r ∧ r ≤ 3) (hl : len ≤ 3) {M : Mem} (hM : M 8 0 = r) : ∀ (m : Nat) (row d i : Int), 0 ≤ row → 0 ≤ i → i + m = len → row < 4 ^ i.toNat → 0 ≤ d ∧ d < 32 →
    (rowF r m row d = none → R 0 M) → (∀ row', rowF r m row d = some row' → 0 ≤ row' → row' < 4 ^ len.toNat → fMa_listState_8 R 1 len row' 0 len M) → fMa_listState_8 R (m + 1) len row d i M := by
  intro m
  induction m with
  | zero =>
    intro row d i h0 hi him hrow hd h1 h2
    have hil : i = len := by omega
    subst hil
    have := h2 row rfl h0 hrow
    obtain ⟨a, b⟩ := this
    exact ⟨fun q => a q, fun q => absurd (Int.le_refl _) q⟩
  | succ m ih =>
    intro row d i h0 hi him hrow hd h1 h2
    refine And.intro (fun q => absurd q (by omega)) (fun _ => ?_)
    refine s_max ?_
    rw [hM, Int.max_eq_left (by omega)]
    refine s_fmS hd ⟨by omega, by omega⟩ ?_
    have hi2 : i = 0 ∨ i = 1 ∨ i = 2 := by omega
    have hrow16 : row < 16 := by
      rcases hi2 with q | q | q <;> subst q
      · have : row < 1 := hrow
        omega
      · have : row < 4 := hrow
        omega
      · have : row < 16 := hrow
        omega
    have hm0 : 0 ≤ d % r := Int.emod_nonneg _ (by omega)
    have hm1 : d % r < r := Int.emod_lt_of_pos _ (by omega)
    refine s_holds ⟨h0, by omega⟩ ⟨hm0, by omega⟩ ?_
    by_cases hh : holdsR row (d % r) = true
    · rw [if_pos hh]
      refine And.intro (fun q => absurd q (by decide)) (fun _ => ?_)
      exact h1 (by rw [rowF, if_pos hh])
    · rw [if_neg hh]
      refine And.intro (fun _ => ?_) (fun q => absurd rfl q)
      refine s_push ⟨h0, hrow16⟩ ⟨hm0, by omega⟩ ?_
      refine s_max ?_
      rw [hM, Int.max_eq_left (by omega)]
      have hq0 : 0 ≤ d / r := Int.ediv_nonneg hd.1 (by omega)
      have hq1 : d / r ≤ d := Int.ediv_le_self _ hd.1
      refine s_fdS hd ⟨by omega, by omega⟩ ?_
      rw [wrapI (by omega) (by omega)]
      refine ih _ _ _ (by omega) (by omega) (by omega) ?_ ⟨hq0, by omega⟩ (fun z => h1 (by rw [rowF, if_neg hh]; exact z)) (fun row' z => h2 row' (by rw [rowF, if_neg hh]; exact z))
      rcases hi2 with q | q | q <;> subst q
      · have : row < 1 := hrow
        show _ < (4 : Int)
        omega
      · have : row < 4 := hrow
        show _ < (16 : Int)
        omega
      · have : row < 16 := hrow
        show _ < (64 : Int)
        omega
/-- one number: a state comes, or none -/
def lsOk (r j len k j' : Int) : Bool := match rowF r len.toNat 0 k with
  | none => decide (j' = j)
  | some row => decide (j' = j + 1) && decide (0 ≤ j) && decide (j < 16) && decide (stP r j = row) && decide (stL r j = len) && (List.range j.toNat).all (fun s => decide (stP r s ≠ row))
theorem s_ls {r j len k : Int} {M0 M : Mem} {R : Int → Mem → Prop} (j' : Int) (hr : decide (1 ≤ r) && decide (r ≤ 3) && decide (0 ≤ len) && decide (len ≤ 3) && decide (0 ≤ k) && decide (k < 32) = true) (hM : M 8 0 = r) (hT : TabX r j M) (hO : offX M0 M) (hc : lsOk r j len k j' = true)
    (h : ∀ M' : Mem, M' 8 0 = r → TabX r j' M' → offX M0 M' → R 0 M') : fMa_listState len k M R := by
  simp only [Bool.and_eq_true, decide_eq_true_eq] at hr
  obtain ⟨⟨⟨⟨⟨h1, h2⟩, h3⟩, h4⟩, h5⟩, h6⟩ := hr
  refine ⟨len.toNat + 1, s_ls8 ⟨h1, h2⟩ h4 hM len.toNat 0 k 0 (by omega) (by omega) (by omega) (by decide) ⟨h5, h6⟩ (fun z => ?_) (fun row z hz0 hz1 => ?_)⟩
  · unfold lsOk at hc; rw [z] at hc
    simp only [decide_eq_true_eq] at hc
    subst hc
    exact h M hM hT hO
  · unfold lsOk at hc; rw [z] at hc
    simp only [Bool.and_eq_true, decide_eq_true_eq, List.all_eq_true, List.mem_range] at hc
    obtain ⟨⟨⟨⟨⟨g1, g0⟩, g2⟩, g3⟩, g4⟩, g5⟩ := hc
    have hrow : row < 64 := by
      have h9 : len = 0 ∨ len = 1 ∨ len = 2 ∨ len = 3 := by omega
      rcases h9 with q | q | q | q <;> subst q
      · have : row < 1 := hz1
        omega
      · have : row < 4 := hz1
        omega
      · have : row < 16 := hz1
        omega
      · exact hz1
    refine And.intro (fun _ => ?_) (fun q => absurd (Int.le_refl _) q)
    rw [hT.1]
    refine And.intro (fun _ => ?_) (fun q => absurd q (by omega))
    refine ⟨⟨by omega, by omega⟩, ⟨by omega, by omega⟩, ⟨by omega, by omega⟩, ?_⟩
    rw [wrapI (z := j + 1) (by omega) (by omega)]
    refine h _ ?_ ?_ ?_
    · rw [mu_place (by decide), mu_cell (by decide), mu_cell (by decide), mu_cell (by decide)]; exact hM
    · refine ⟨by rw [mu_same, g1], fun s hs0 hs1 => ?_⟩
      by_cases hsj : s = j
      · subst hsj
        refine ⟨?_, ?_, ?_⟩
        · rw [mu_cell (by decide), mu_cell (by decide), mu_cell (by decide), mu_same, g3]
        · rw [mu_cell (by decide), mu_cell (by decide), mu_same, g4]
        · rw [mu_cell (by decide), g3, mu_same]
      · have hlt : s < j := by omega
        obtain ⟨t1, t2, t3⟩ := hT.2 s hs0 hlt
        have hne : stP r s ≠ row := by
          have := g5 s.toNat (by omega)
          rwa [show ((s.toNat : Nat) : Int) = s by omega] at this
        refine ⟨?_, ?_, ?_⟩
        · rw [mu_cell (by decide), mu_cell (by decide), mu_cell (by decide), mu_place hsj, t1]
        · rw [mu_cell (by decide), mu_cell (by decide), mu_place hsj, mu_cell (by decide), t2]
        · rw [mu_cell (by decide), mu_place hne, mu_cell (by decide), mu_cell (by decide), t3]
    · intro c i c9 c10 c11 c8
      by_cases h8 : c = 8
      · subst h8
        rw [mu_place (fun q => c8 ⟨rfl, q⟩), mu_cell c11, mu_cell c10, mu_cell c9]
        exact hO 8 i c9 c10 c11 c8
      · rw [mu_cell h8, mu_cell c11, mu_cell c10, mu_cell c9]
        exact hO c i c9 c10 c11 c8

set_option maxRecDepth 10000 in
theorem s_listStates1 {M : Mem} {R : Int → Mem → Prop} (hr : M 8 0 = 1) (h : ∀ M', TabX 1 2 M' → offX M M' → R 0 M') : fMa_listStates M R := by
  refine ⟨3, ?_⟩
  have hT : TabX 1 0 (mu M 8 4 0) := ⟨mu_same _ _ _ _, fun s h0 h1 => absurd h1 (by omega)⟩
  have hO : offX M (mu M 8 4 0) := fun c i _ _ _ h8 => by unfold mu; rw [if_neg h8]
  have hM : mu M 8 4 0 8 0 = 1 := by rw [mu_place (by decide)]; exact hr
  generalize mu M 8 4 0 = M1 at hT hO hM ⊢
  refine And.intro (fun h => absurd h (by rw [hM]; decide)) (fun _ => ?_)
  refine ⟨2, ?_⟩
  refine And.intro (fun h => absurd h (by decide)) (fun _ => ?_)
  refine s_ls (r := 1) 1 (by decide) hM hT hO (by decide) ?_
  clear hM hT hO
  intro M1 hM hT hO
  refine And.intro (fun _ => ?_) (fun h => absurd (by decide) h)
  rw [hM]
  refine And.intro (fun h => absurd h (by rw [hM]; decide)) (fun _ => ?_)
  refine ⟨2, ?_⟩
  refine And.intro (fun h => absurd h (by decide)) (fun _ => ?_)
  refine s_ls (r := 1) 2 (by decide) hM hT hO (by decide) ?_
  clear hM hT hO
  intro M1 hM hT hO
  refine And.intro (fun _ => ?_) (fun h => absurd (by decide) h)
  rw [hM]
  refine And.intro (fun _ => ?_) (fun h => absurd (by rw [hM]; decide) h)
  exact h M1 hT hO
set_option maxRecDepth 10000 in
theorem s_listStates2 {M : Mem} {R : Int → Mem → Prop} (hr : M 8 0 = 2) (h : ∀ M', TabX 2 5 M' → offX M M' → R 0 M') : fMa_listStates M R := by
  refine ⟨4, ?_⟩
  have hT : TabX 2 0 (mu M 8 4 0) := ⟨mu_same _ _ _ _, fun s h0 h1 => absurd h1 (by omega)⟩
  have hO : offX M (mu M 8 4 0) := fun c i _ _ _ h8 => by unfold mu; rw [if_neg h8]
  have hM : mu M 8 4 0 8 0 = 2 := by rw [mu_place (by decide)]; exact hr
  generalize mu M 8 4 0 = M1 at hT hO hM ⊢
  refine And.intro (fun h => absurd h (by rw [hM]; decide)) (fun _ => ?_)
  refine ⟨2, ?_⟩
  refine And.intro (fun h => absurd h (by decide)) (fun _ => ?_)
  refine s_ls (r := 2) 1 (by decide) hM hT hO (by decide) ?_
  clear hM hT hO
  intro M1 hM hT hO
  refine And.intro (fun _ => ?_) (fun h => absurd (by decide) h)
  rw [hM]
  refine And.intro (fun h => absurd h (by rw [hM]; decide)) (fun _ => ?_)
  refine ⟨3, ?_⟩
  refine And.intro (fun h => absurd h (by decide)) (fun _ => ?_)
  refine s_ls (r := 2) 2 (by decide) hM hT hO (by decide) ?_
  clear hM hT hO
  intro M1 hM hT hO
  refine And.intro (fun h => absurd h (by decide)) (fun _ => ?_)
  refine s_ls (r := 2) 3 (by decide) hM hT hO (by decide) ?_
  clear hM hT hO
  intro M1 hM hT hO
  refine And.intro (fun _ => ?_) (fun h => absurd (by decide) h)
  rw [hM]
  refine And.intro (fun h => absurd h (by rw [hM]; decide)) (fun _ => ?_)
  refine ⟨5, ?_⟩
  refine And.intro (fun h => absurd h (by decide)) (fun _ => ?_)
  refine s_ls (r := 2) 3 (by decide) hM hT hO (by decide) ?_
  clear hM hT hO
  intro M1 hM hT hO
  refine And.intro (fun h => absurd h (by decide)) (fun _ => ?_)
  refine s_ls (r := 2) 4 (by decide) hM hT hO (by decide) ?_
  clear hM hT hO
  intro M1 hM hT hO
  refine And.intro (fun h => absurd h (by decide)) (fun _ => ?_)
  refine s_ls (r := 2) 5 (by decide) hM hT hO (by decide) ?_
  clear hM hT hO
  intro M1 hM hT hO
  refine And.intro (fun h => absurd h (by decide)) (fun _ => ?_)
  refine s_ls (r := 2) 5 (by decide) hM hT hO (by decide) ?_
  clear hM hT hO
  intro M1 hM hT hO
  refine And.intro (fun _ => ?_) (fun h => absurd (by decide) h)
  rw [hM]
  refine And.intro (fun _ => ?_) (fun h => absurd (by rw [hM]; decide) h)
  exact h M1 hT hO
set_option maxRecDepth 10000 in
theorem s_listStates3 {M : Mem} {R : Int → Mem → Prop} (hr : M 8 0 = 3) (h : ∀ M', TabX 3 16 M' → offX M M' → R 0 M') : fMa_listStates M R := by
  refine ⟨5, ?_⟩
  have hT : TabX 3 0 (mu M 8 4 0) := ⟨mu_same _ _ _ _, fun s h0 h1 => absurd h1 (by omega)⟩
  have hO : offX M (mu M 8 4 0) := fun c i _ _ _ h8 => by unfold mu; rw [if_neg h8]
  have hM : mu M 8 4 0 8 0 = 3 := by rw [mu_place (by decide)]; exact hr
  generalize mu M 8 4 0 = M1 at hT hO hM ⊢
  refine And.intro (fun h => absurd h (by rw [hM]; decide)) (fun _ => ?_)
  refine ⟨2, ?_⟩
  refine And.intro (fun h => absurd h (by decide)) (fun _ => ?_)
  refine s_ls (r := 3) 1 (by decide) hM hT hO (by decide) ?_
  clear hM hT hO
  intro M1 hM hT hO
  refine And.intro (fun _ => ?_) (fun h => absurd (by decide) h)
  rw [hM]
  refine And.intro (fun h => absurd h (by rw [hM]; decide)) (fun _ => ?_)
  refine ⟨4, ?_⟩
  refine And.intro (fun h => absurd h (by decide)) (fun _ => ?_)
  refine s_ls (r := 3) 2 (by decide) hM hT hO (by decide) ?_
  clear hM hT hO
  intro M1 hM hT hO
  refine And.intro (fun h => absurd h (by decide)) (fun _ => ?_)
  refine s_ls (r := 3) 3 (by decide) hM hT hO (by decide) ?_
  clear hM hT hO
  intro M1 hM hT hO
  refine And.intro (fun h => absurd h (by decide)) (fun _ => ?_)
  refine s_ls (r := 3) 4 (by decide) hM hT hO (by decide) ?_
  clear hM hT hO
  intro M1 hM hT hO
  refine And.intro (fun _ => ?_) (fun h => absurd (by decide) h)
  rw [hM]
  refine And.intro (fun h => absurd h (by rw [hM]; decide)) (fun _ => ?_)
  refine ⟨10, ?_⟩
  refine And.intro (fun h => absurd h (by decide)) (fun _ => ?_)
  refine s_ls (r := 3) 4 (by decide) hM hT hO (by decide) ?_
  clear hM hT hO
  intro M1 hM hT hO
  refine And.intro (fun h => absurd h (by decide)) (fun _ => ?_)
  refine s_ls (r := 3) 5 (by decide) hM hT hO (by decide) ?_
  clear hM hT hO
  intro M1 hM hT hO
  refine And.intro (fun h => absurd h (by decide)) (fun _ => ?_)
  refine s_ls (r := 3) 6 (by decide) hM hT hO (by decide) ?_
  clear hM hT hO
  intro M1 hM hT hO
  refine And.intro (fun h => absurd h (by decide)) (fun _ => ?_)
  refine s_ls (r := 3) 7 (by decide) hM hT hO (by decide) ?_
  clear hM hT hO
  intro M1 hM hT hO
  refine And.intro (fun h => absurd h (by decide)) (fun _ => ?_)
  refine s_ls (r := 3) 7 (by decide) hM hT hO (by decide) ?_
  clear hM hT hO
  intro M1 hM hT hO
  refine And.intro (fun h => absurd h (by decide)) (fun _ => ?_)
  refine s_ls (r := 3) 8 (by decide) hM hT hO (by decide) ?_
  clear hM hT hO
  intro M1 hM hT hO
  refine And.intro (fun h => absurd h (by decide)) (fun _ => ?_)
  refine s_ls (r := 3) 9 (by decide) hM hT hO (by decide) ?_
  clear hM hT hO
  intro M1 hM hT hO
  refine And.intro (fun h => absurd h (by decide)) (fun _ => ?_)
  refine s_ls (r := 3) 10 (by decide) hM hT hO (by decide) ?_
  clear hM hT hO
  intro M1 hM hT hO
  refine And.intro (fun h => absurd h (by decide)) (fun _ => ?_)
  refine s_ls (r := 3) 10 (by decide) hM hT hO (by decide) ?_
  clear hM hT hO
  intro M1 hM hT hO
  refine And.intro (fun _ => ?_) (fun h => absurd (by decide) h)
  rw [hM]
  refine And.intro (fun h => absurd h (by rw [hM]; decide)) (fun _ => ?_)
  refine ⟨28, ?_⟩
  refine And.intro (fun h => absurd h (by decide)) (fun _ => ?_)
  refine s_ls (r := 3) 10 (by decide) hM hT hO (by decide) ?_
  clear hM hT hO
  intro M1 hM hT hO
  refine And.intro (fun h => absurd h (by decide)) (fun _ => ?_)
  refine s_ls (r := 3) 10 (by decide) hM hT hO (by decide) ?_
  clear hM hT hO
  intro M1 hM hT hO
  refine And.intro (fun h => absurd h (by decide)) (fun _ => ?_)
  refine s_ls (r := 3) 10 (by decide) hM hT hO (by decide) ?_
  clear hM hT hO
  intro M1 hM hT hO
  refine And.intro (fun h => absurd h (by decide)) (fun _ => ?_)
  refine s_ls (r := 3) 10 (by decide) hM hT hO (by decide) ?_
  clear hM hT hO
  intro M1 hM hT hO
  refine And.intro (fun h => absurd h (by decide)) (fun _ => ?_)
  refine s_ls (r := 3) 10 (by decide) hM hT hO (by decide) ?_
  clear hM hT hO
  intro M1 hM hT hO
  refine And.intro (fun h => absurd h (by decide)) (fun _ => ?_)
  refine s_ls (r := 3) 11 (by decide) hM hT hO (by decide) ?_
  clear hM hT hO
  intro M1 hM hT hO
  refine And.intro (fun h => absurd h (by decide)) (fun _ => ?_)
  refine s_ls (r := 3) 11 (by decide) hM hT hO (by decide) ?_
  clear hM hT hO
  intro M1 hM hT hO
  refine And.intro (fun h => absurd h (by decide)) (fun _ => ?_)
  refine s_ls (r := 3) 12 (by decide) hM hT hO (by decide) ?_
  clear hM hT hO
  intro M1 hM hT hO
  refine And.intro (fun h => absurd h (by decide)) (fun _ => ?_)
  refine s_ls (r := 3) 12 (by decide) hM hT hO (by decide) ?_
  clear hM hT hO
  intro M1 hM hT hO
  refine And.intro (fun h => absurd h (by decide)) (fun _ => ?_)
  refine s_ls (r := 3) 12 (by decide) hM hT hO (by decide) ?_
  clear hM hT hO
  intro M1 hM hT hO
  refine And.intro (fun h => absurd h (by decide)) (fun _ => ?_)
  refine s_ls (r := 3) 12 (by decide) hM hT hO (by decide) ?_
  clear hM hT hO
  intro M1 hM hT hO
  refine And.intro (fun h => absurd h (by decide)) (fun _ => ?_)
  refine s_ls (r := 3) 13 (by decide) hM hT hO (by decide) ?_
  clear hM hT hO
  intro M1 hM hT hO
  refine And.intro (fun h => absurd h (by decide)) (fun _ => ?_)
  refine s_ls (r := 3) 13 (by decide) hM hT hO (by decide) ?_
  clear hM hT hO
  intro M1 hM hT hO
  refine And.intro (fun h => absurd h (by decide)) (fun _ => ?_)
  refine s_ls (r := 3) 13 (by decide) hM hT hO (by decide) ?_
  clear hM hT hO
  intro M1 hM hT hO
  refine And.intro (fun h => absurd h (by decide)) (fun _ => ?_)
  refine s_ls (r := 3) 13 (by decide) hM hT hO (by decide) ?_
  clear hM hT hO
  intro M1 hM hT hO
  refine And.intro (fun h => absurd h (by decide)) (fun _ => ?_)
  refine s_ls (r := 3) 14 (by decide) hM hT hO (by decide) ?_
  clear hM hT hO
  intro M1 hM hT hO
  refine And.intro (fun h => absurd h (by decide)) (fun _ => ?_)
  refine s_ls (r := 3) 14 (by decide) hM hT hO (by decide) ?_
  clear hM hT hO
  intro M1 hM hT hO
  refine And.intro (fun h => absurd h (by decide)) (fun _ => ?_)
  refine s_ls (r := 3) 14 (by decide) hM hT hO (by decide) ?_
  clear hM hT hO
  intro M1 hM hT hO
  refine And.intro (fun h => absurd h (by decide)) (fun _ => ?_)
  refine s_ls (r := 3) 14 (by decide) hM hT hO (by decide) ?_
  clear hM hT hO
  intro M1 hM hT hO
  refine And.intro (fun h => absurd h (by decide)) (fun _ => ?_)
  refine s_ls (r := 3) 15 (by decide) hM hT hO (by decide) ?_
  clear hM hT hO
  intro M1 hM hT hO
  refine And.intro (fun h => absurd h (by decide)) (fun _ => ?_)
  refine s_ls (r := 3) 15 (by decide) hM hT hO (by decide) ?_
  clear hM hT hO
  intro M1 hM hT hO
  refine And.intro (fun h => absurd h (by decide)) (fun _ => ?_)
  refine s_ls (r := 3) 16 (by decide) hM hT hO (by decide) ?_
  clear hM hT hO
  intro M1 hM hT hO
  refine And.intro (fun h => absurd h (by decide)) (fun _ => ?_)
  refine s_ls (r := 3) 16 (by decide) hM hT hO (by decide) ?_
  clear hM hT hO
  intro M1 hM hT hO
  refine And.intro (fun h => absurd h (by decide)) (fun _ => ?_)
  refine s_ls (r := 3) 16 (by decide) hM hT hO (by decide) ?_
  clear hM hT hO
  intro M1 hM hT hO
  refine And.intro (fun h => absurd h (by decide)) (fun _ => ?_)
  refine s_ls (r := 3) 16 (by decide) hM hT hO (by decide) ?_
  clear hM hT hO
  intro M1 hM hT hO
  refine And.intro (fun h => absurd h (by decide)) (fun _ => ?_)
  refine s_ls (r := 3) 16 (by decide) hM hT hO (by decide) ?_
  clear hM hT hO
  intro M1 hM hT hO
  refine And.intro (fun h => absurd h (by decide)) (fun _ => ?_)
  refine s_ls (r := 3) 16 (by decide) hM hT hO (by decide) ?_
  clear hM hT hO
  intro M1 hM hT hO
  refine And.intro (fun _ => ?_) (fun h => absurd (by decide) h)
  rw [hM]
  refine And.intro (fun _ => ?_) (fun h => absurd (by rw [hM]; decide) h)
  exact h M1 hT hO
theorem s_listStates {M : Mem} {R : Int → Mem → Prop} (hr : 1 ≤ M 8 0 ∧ M 8 0 ≤ 3) (h : ∀ M', TabX (M 8 0) (nS (M 8 0)) M' → offX M M' → R 0 M') : fMa_listStates M R := by
  have h3 : M 8 0 = 1 ∨ M 8 0 = 2 ∨ M 8 0 = 3 := by omega
  rcases h3 with h3 | h3 | h3
  · rw [h3] at h; exact s_listStates1 h3 h
  · rw [h3] at h; exact s_listStates2 h3 h
  · rw [h3] at h; exact s_listStates3 h3 h
