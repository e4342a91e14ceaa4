/-! numbers: division, remainders, bits of small numbers -/
theorem b_idiv_eq {x y : Int} (hx : inR x) (hy : inR y) (h1 : y ≠ -1) : b_idiv x y = x.tdiv y := by
  unfold b_idiv
  rw [Int32.toInt_div, tio hx, tio hy]
  have hr : inR (x.tdiv y) := by
    unfold inR at *
    by_cases h0 : y = 0
    · subst h0; rw [Int.tdiv_zero]; omega
    · have := Int.natAbs_tdiv x y
      have h2 : (x.tdiv y).natAbs ≤ x.natAbs := by rw [this]; exact Nat.div_le_self _ _
      by_cases h3 : x = -2147483648
      · have h4 : (x.tdiv y).natAbs ≤ 2147483648 / y.natAbs := by rw [this, h3]; exact Nat.le_refl _
        by_cases h5 : y = 1
        · subst h5; rw [Int.tdiv_one]; omega
        · have h6 : 2 ≤ y.natAbs := by omega
          have h7 : 2147483648 / y.natAbs ≤ 2147483648 / 2 := Nat.div_le_div_left h6 (by omega)
          omega
      · omega
  have h9 := wrap_id hr
  unfold wrap at h9
  rw [Int32.toInt_ofInt] at h9
  exact h9
theorem b_irem_eq {x y : Int} (hx : inR x) (hy : inR y) (h1 : y ≠ -1) (h0 : y ≠ 0) : b_irem x y = x.tmod y := by
  have hd := b_idiv_eq hx hy h1
  unfold b_idiv at hd
  have e : Int32.ofInt x / Int32.ofInt y = Int32.ofInt (x.tdiv y) := by rw [← hd, Int32.ofInt_toInt]
  unfold b_irem
  rw [e, ← Int32.ofInt_mul, ← Int32.ofInt_sub]
  have e2 : x - x.tdiv y * y = x.tmod y := by have := Int.tmod_add_tdiv_mul x y; omega
  rw [e2]
  refine tio ?_
  unfold inR at *
  have h5 : (x.tmod y).natAbs < y.natAbs := by rw [Int.natAbs_tmod]; exact Nat.mod_lt _ (by omega)
  omega
/-- floorMod by a positive number -/
theorem s_floorMod {x y : Int} {M : Mem} {R : Int → Mem → Prop} (hx : inR x) (hy : inR y) (hy0 : 0 < y) (hs : 0 ≤ b_ixor x y ↔ 0 ≤ x) (h : R (x % y) M) : fMath_floorMod x y M R := by
  have he := b_irem_eq hx hy (by omega) (by omega)
  unfold inR at hx hy
  have h1 := Int.tmod_add_tdiv_mul x y
  have h2 : (x.tmod y).natAbs < y.natAbs := by rw [Int.natAbs_tmod]; exact Nat.mod_lt _ (by omega)
  refine ⟨by omega, fun q => ?_, fun q => ⟨fun z => ?_, fun z => ?_⟩⟩
  · rw [he, Int.tmod_eq_emod_of_nonneg (hs.mp q)]; exact h
  · rw [he] at z ⊢
    have hm : x % y = 0 := by
      have : y ∣ x := Int.dvd_of_tmod_eq_zero z
      exact Int.emod_eq_zero_of_dvd this
    rw [z, ← hm]; exact h
  · rw [he] at z ⊢
    have hx0 : x < 0 := by
      by_cases hh : 0 ≤ x
      · exact absurd (hs.mpr hh) q
      · omega
    have hneg : x.tmod y < 0 := by
      have h3 : 0 ≤ (-x).tmod y := Int.tmod_nonneg y (by omega)
      rw [Int.neg_tmod] at h3
      omega
    have e : x % y = x.tmod y + y := by
      have h4 : x = (x.tmod y + y) + y * (x.tdiv y - 1) := by
        rw [Int.mul_sub, Int.mul_comm y (x.tdiv y)]; omega
      rw [h4, Int.add_mul_emod_self_left]
      rw [Int.emod_eq_of_lt (by omega) (by omega), ← h4]
    rw [wrapI (by omega) (by omega), ← e]; exact h
theorem s_min {x y : Int} {M : Mem} {R : Int → Mem → Prop} (h : R (min x y) M) : fMath_min x y M R := by
  refine ⟨fun q => ?_, fun q => ?_⟩
  · rwa [Int.min_eq_right (by omega)] at h
  · rwa [Int.min_eq_left (by omega)] at h
theorem s_max {x y : Int} {M : Mem} {R : Int → Mem → Prop} (h : R (max x y) M) : fMath_max x y M R := by
  refine ⟨fun q => ?_, fun q => ?_⟩
  · rwa [Int.max_eq_right (by omega)] at h
  · rwa [Int.max_eq_left (by omega)] at h
