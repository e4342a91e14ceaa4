/-! chains: the least through an instruction in a state -/
section K
variable {c : Cf} {ok ok' : Int → Int → Bool} {pi : Int → Int} {i s : Int}
def CnF (c : Cf) (ok : Int → Int → Bool) (pi : Int → Int) : Nat → Int → Int
  | 0, _ => 0
  | f + 1, i => if fal c i = true then (if cTg c (i + 1) = 1 then LF c ok pi (i + 1) (pi (i + 1)) else 0) + CnF c ok pi f (i + 1) else 0
def Cn (c : Cf) (ok : Int → Int → Bool) (pi : Int → Int) (i : Int) : Int := CnF c ok pi (cN c - i).toNat i
theorem Cn_eq (hi : 0 ≤ i ∧ i < cN c) : Cn c ok pi i = if fal c i = true then (if cTg c (i + 1) = 1 then LF c ok pi (i + 1) (pi (i + 1)) else 0) + Cn c ok pi (i + 1) else 0 := by
  have e : (cN c - i).toNat = (cN c - (i + 1)).toNat + 1 := by omega
  unfold Cn
  rw [e]
  rfl
def On (c : Cf) (ok : Int → Int → Bool) (pi : Int → Int) (i s : Int) : Int := LF c ok pi i s + Cn c ok pi i
def cp (c : Cf) (ok : Int → Int → Bool) (pi : Int → Int) (i s : Int) : Bool := ok i s && (decide (cTg c i ≠ 1) || decide (s = pi i))
theorem cp_ok (h : cp c ok pi i s = true) : ok i s = true := by unfold cp at h; rw [Bool.and_eq_true] at h; exact h.1
theorem cp_pin (h : cp c ok pi i s = true) (ht : cTg c i = 1) : s = pi i := by
  unfold cp at h
  simp only [Bool.and_eq_true, Bool.or_eq_true, decide_eq_true_eq] at h
  rcases h.2 with z | z
  · exact absurd ht z
  · exact z
theorem cp_of (h : ok i s = true) (h2 : cTg c i = 1 → s = pi i) : cp c ok pi i s = true := by
  unfold cp
  rw [h]
  by_cases z : cTg c i = 1
  · simp [h2 z]
  · simp [z]
/-- some state may be -/
theorem cp_ex (hF : Fe c ok) (hP : PinOK c ok pi) (hi : 0 ≤ i ∧ i < cN c) (hd : cDep c i ≠ -4) : ∃ s, 0 ≤ s ∧ s < nS (cR c) ∧ cp c ok pi i s = true := by
  by_cases z : cTg c i = 1
  · obtain ⟨a, b, d⟩ := hP i hi.1 hi.2 z
    exact ⟨pi i, a, b, cp_of d (fun _ => rfl)⟩
  · obtain ⟨s, a, b, d⟩ := hF.2 i hi.1 hi.2 hd
    exact ⟨s, a, b, cp_of d (fun q => absurd q z)⟩
theorem Cn_in (hV : VP c) (hF : Fe c ok) (hP : PinOK c ok pi) : ∀ (m : Nat) (i : Int), 0 ≤ i → i + m = cN c → 0 ≤ Cn c ok pi i ∧ Cn c ok pi i ≤ 6240000 * m := by
  intro m
  induction m with
  | zero =>
    intro i h0 hm
    unfold Cn
    have : (cN c - i).toNat = 0 := by omega
    rw [this]
    exact ⟨Int.le_refl _, Int.le_refl 0⟩
  | succ m ih =>
    intro i h0 hm
    rw [Cn_eq ⟨h0, by omega⟩]
    by_cases hf : fal c i = true
    · rw [if_pos hf]
      have hlt := fal_lt hf
      have := ih (i + 1) (by omega) (by omega)
      by_cases ht : cTg c (i + 1) = 1
      · rw [if_pos ht]
        obtain ⟨a, b, d⟩ := hP (i + 1) (by omega) hlt ht
        have := LF_lt hV hF hP.pin (i := i + 1) ⟨by omega, hlt⟩ ⟨a, b⟩ d
        omega
      · rw [if_neg ht]; omega
    · rw [if_neg hf]; omega
theorem On_in (hV : VP c) (hF : Fe c ok) (hP : PinOK c ok pi) (hi : 0 ≤ i ∧ i < cN c) (hs : 0 ≤ s ∧ s < nS (cR c)) (ho : ok i s = true) : 0 ≤ On c ok pi i s ∧ On c ok pi i s ≤ 156000000 := by
  have hN := hV.2.2.2.2.1
  have h1 := LF_lt hV hF hP.pin hi hs ho
  have h2 := Cn_in hV hF hP (cN c - i).toNat i hi.1 (by omega)
  unfold On
  omega
theorem On_go (hV : VP c) (hF : Fe c ok) (hP : PinOK c ok pi) (hi : 0 ≤ i ∧ i < cN c) (hs : 0 ≤ s ∧ s < nS (cR c)) (ho : ok i s = true) (hf : fal c i = true) : isMin (cp c ok pi (i + 1)) (fun t => cW c i * cPs c (cAf c i s) t + On c ok pi (i + 1) t) (nS (cR c)) (On c ok pi i s - bs c pi i s) := by
  have hFAR : FAR = 1000000000 := rfl
  have hlt := fal_lt hf
  have hd := okL_dep (hF.1 i s ho)
  have hon := On_in hV hF hP hi hs ho
  have hb := bs_in hV hi hd hs hP.pin
  have e : On c ok pi i s = LF c ok pi i s + Cn c ok pi i := rfl
  by_cases ht : cTg c (i + 1) = 1
  · obtain ⟨a, b, d⟩ := hP (i + 1) (by omega) hlt ht
    have e2 : On c ok pi i s - bs c pi i s = cW c i * cPs c (cAf c i s) (pi (i + 1)) + On c ok pi (i + 1) (pi (i + 1)) := by
      rw [e, LF_eq hi ho, Cn_eq hi, if_pos hf, if_pos hf, if_pos ht, if_pos ht]
      unfold On
      omega
    refine ⟨by omega, fun t t0 t1 t2 => ?_, Or.inr ⟨pi (i + 1), a, b, cp_of d (fun _ => rfl), e2.symm⟩⟩
    rw [cp_pin t2 ht]
    exact Int.le_of_eq e2
  · obtain ⟨h1, h2⟩ := more_fin hV hF hP.pin hi hs ho hf
    have e2 : On c ok pi i s - bs c pi i s = moreF c ok pi i s + Cn c ok pi (i + 1) := by
      rw [e, LF_eq hi ho, Cn_eq hi, if_pos hf, if_pos hf, if_neg ht, if_neg ht, if_neg (by omega)]
      omega
    rw [e2]
    refine ⟨by omega, fun t t0 t1 t2 => ?_, ?_⟩
    · have := h1.2.1 t t0 t1 (cp_ok t2)
      unfold On
      simp only at this ⊢
      omega
    · rcases h1.2.2 with z | ⟨t, t0, t1, t2, t3⟩
      · omega
      · refine Or.inr ⟨t, t0, t1, cp_of t2 (fun q => absurd q ht), ?_⟩
        unfold On
        simp only at t3 ⊢
        omega
theorem On_end (hi : 0 ≤ i ∧ i < cN c) (ho : ok i s = true) (hf : fal c i ≠ true) : On c ok pi i s = bs c pi i s := by
  unfold On
  rw [LF_eq hi ho, Cn_eq hi, if_neg hf, if_neg hf]
  omega
/-- nothing leads on to it but jumps and branches, or the beginning -/
def hdI (c : Cf) (i : Int) : Prop := i = 0 ∨ cDep c (i - 1) = -4 ∨ fal c (i - 1) = false
theorem hdI_pin (hV : VP c) (hi : 0 ≤ i ∧ i < cN c) (hd : cDep c i ≠ -4) (h : hdI c i) : i = 0 ∨ cTg c i = 1 := by
  have hv := hV.2.2.2.2.2.2.2.2.2.2.2.2
  by_cases z : i = 0
  · exact Or.inl z
  · by_cases y : cTg c i = 1
    · exact Or.inr y
    · have := hv i (by omega) hi.2 hd y
      rcases h with h | h | h
      · exact absurd h z
      · exact absurd h this.1
      · rw [this.2] at h; exact absurd h (by decide)
theorem hdP_ok (hV : VP c) (hF : Fe c ok) (hP : PinOK c ok pi) (h00 : ok 0 0 = true) (hi : 0 ≤ i ∧ i < cN c) (h : i = 0 ∨ cTg c i = 1) : 0 ≤ hdP c pi i ∧ hdP c pi i < nS (cR c) ∧ cp c ok pi i (hdP c pi i) = true ∧ ∀ s, cp c ok pi i s = true → s = hdP c pi i := by
  have h16 := nS_le (cR c)
  unfold hdP
  by_cases z : cTg c i = 1
  · rw [if_pos z]
    obtain ⟨a, b, d⟩ := hP i hi.1 hi.2 z
    exact ⟨a, b, cp_of d (fun _ => rfl), fun s q => cp_pin q z⟩
  · rw [if_neg z]
    have e : i = 0 := by
      rcases h with h | h
      · exact h
      · exact absurd h z
    subst e
    exact ⟨by omega, by omega, cp_of h00 (fun q => absurd q z), fun s q => okL_00 (hF.1 _ _ (cp_ok q))⟩
/-- the least of what lies before, up to j -/
def isBk (c : Cf) (ok : Int → Int → Bool) (pi : Int → Int) (B : Int → Int → Int) (i : Int) : Prop := (hdI c i → B i (hdP c pi i) = 0) ∧ (¬ hdI c i → ∀ t, 0 ≤ t → t < nS (cR c) → cp c ok pi i t = true → isMin (cp c ok pi (i - 1)) (fun s => B (i - 1) s + bs c pi (i - 1) s + cW c (i - 1) * cPs c (cAf c (i - 1) s) t) (nS (cR c)) (B i t))
theorem hdI_not (h : ¬ hdI c i) : i ≠ 0 ∧ cDep c (i - 1) ≠ -4 ∧ fal c (i - 1) = true := by
  unfold hdI at h
  refine ⟨fun q => h (Or.inl q), fun q => h (Or.inr (Or.inl q)), ?_⟩
  cases z : fal c (i - 1) with
  | true => rfl
  | false => exact absurd (Or.inr (Or.inr z)) h
theorem B_in {B : Int → Int → Int} (hV : VP c) (hF : Fe c ok) (hP : PinOK c ok pi) (h00 : ok 0 0 = true) : ∀ (n : Nat) (i s : Int), i = n → i < cN c → cDep c i ≠ -4 → (∀ j, 0 ≤ j → j ≤ i → cDep c j ≠ -4 → isBk c ok pi B j) → 0 ≤ s → s < nS (cR c) → cp c ok pi i s = true → 0 ≤ B i s ∧ B i s ≤ 260000 * i := by
  have hN := hV.2.2.2.2.1
  have hFAR : FAR = 1000000000 := rfl
  intro n
  induction n with
  | zero =>
    intro i s e hi hd hB s0 s1 hc
    have e0 : i = 0 := by omega
    have h1 := hdP_ok hV hF hP h00 ⟨by omega, hi⟩ (Or.inl e0)
    have h2 := (hB i (by omega) (by omega) hd).1 (Or.inl e0)
    rw [h1.2.2.2 s hc, h2]; omega
  | succ n ih =>
    intro i s e hi hd hB s0 s1 hc
    have hb := hB i (by omega) (by omega) hd
    by_cases hh : hdI c i
    · have h1 := hdP_ok hV hF hP h00 ⟨by omega, hi⟩ (hdI_pin hV ⟨by omega, hi⟩ hd hh)
      rw [h1.2.2.2 s hc, hb.1 hh]; omega
    · obtain ⟨q0, q1, q2⟩ := hdI_not hh
      have hm := hb.2 hh s s0 s1 hc
      obtain ⟨u, u0, u1, u2⟩ := cp_ex hF hP (i := i - 1) ⟨by omega, by omega⟩ q1
      have bu := ih (i - 1) u (by omega) (by omega) q1 (fun j z1 z2 z3 => hB j z1 (by omega) z3) u0 u1 u2
      have bb := bs_in hV (i := i - 1) (s := u) ⟨by omega, by omega⟩ q1 ⟨u0, u1⟩ hP.pin
      have bw := wP_in hV (i := i - 1) (s := u) ⟨by omega, by omega⟩ ⟨u0, u1⟩ (t := s) ⟨s0, s1⟩
      have up := hm.2.1 u u0 u1 u2
      simp only at up
      rcases hm.2.2 with z | ⟨y, y0, y1, y2, y3⟩
      · omega
      · have by' := ih (i - 1) y (by omega) (by omega) q1 (fun j z1 z2 z3 => hB j z1 (by omega) z3) y0 y1 y2
        have bb' := bs_in hV (i := i - 1) (s := y) ⟨by omega, by omega⟩ q1 ⟨y0, y1⟩ hP.pin
        have bw' := wP_in hV (i := i - 1) (s := y) ⟨by omega, by omega⟩ ⟨y0, y1⟩ (t := s) ⟨s0, s1⟩
        simp only at y3
        omega
end K
