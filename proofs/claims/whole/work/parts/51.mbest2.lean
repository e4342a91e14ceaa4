/-! the reference: the best choice, laid -/
section B
variable {c : Cf} {ok : Int → Int → Bool} {pi : Int → Int} {M : Mem} {R : Int → Mem → Prop} {nt t1 t2 : Int}
theorem stL0 {r : Int} (hr : 1 ≤ r ∧ r ≤ 3) : stL r 0 = 0 := by
  rcases (by omega : r = 1 ∨ r = 2 ∨ r = 3) with h | h | h <;> subst h <;> decide
theorem okL0 {i : Int} (hV : VP c) (hi : 0 ≤ i ∧ i < cN c) (hd : cDep c i ≠ -4) : okL c i 0 = true := by
  have h8 := hV.2.2.2.2.2.2.2.1 i hi.1 hi.2 hd
  unfold okL hasV
  rw [stL0 hV.1]
  simp [hd, h8.1]
theorem Fe_okL (hV : VP c) : Fe c (okL c) := ⟨fun _ _ h => h, fun i a b d => ⟨0, by omega, by have := nS_le (cR c); omega, okL0 hV ⟨a, b⟩ d⟩⟩
theorem okL_00 {s : Int} (h : okL c 0 s = true) : s = 0 := by
  unfold okL at h
  simp only [Bool.and_eq_true, Bool.or_eq_true, decide_eq_true_eq] at h
  rcases h.2 with z | z
  · exact absurd rfl z
  · exact z
def hdP (c : Cf) (pi : Int → Int) (i : Int) : Int := if cTg c i = 1 then pi i else 0
def isMet (c : Cf) (ok : Int → Int → Bool) (pi F : Int → Int) : Prop := ∀ i, 0 ≤ i → i < cN c → (cDep c i = -4 → F i = -4) ∧ (cDep c i ≠ -4 → (i = 0 ∨ cTg c i = 1 → F i = hdP c pi i) ∧ (0 < i → cTg c i ≠ 1 → stepA c ok pi F i))
theorem isMet_unique {F F' : Int → Int} (h : isMet c ok pi F) (h' : isMet c ok pi F') : ∀ i, 0 ≤ i → i < cN c → F i = F' i := by
  have key : ∀ (n : Nat) (i : Int), i = n → i < cN c → F i = F' i := by
    intro n
    induction n with
    | zero =>
      intro i e hi
      have e0 : i = 0 := by omega
      subst e0
      by_cases z : cDep c 0 = -4
      · rw [(h 0 (by omega) hi).1 z, (h' 0 (by omega) hi).1 z]
      · rw [((h 0 (by omega) hi).2 z).1 (Or.inl rfl), ((h' 0 (by omega) hi).2 z).1 (Or.inl rfl)]
    | succ n ih =>
      intro i e hi
      by_cases z : cDep c i = -4
      · rw [(h i (by omega) hi).1 z, (h' i (by omega) hi).1 z]
      · by_cases y : cTg c i = 1
        · rw [((h i (by omega) hi).2 z).1 (Or.inr y), ((h' i (by omega) hi).2 z).1 (Or.inr y)]
        · exact stepA_unique (((h i (by omega) hi).2 z).2 (by omega) y) (((h' i (by omega) hi).2 z).2 (by omega) y) (ih (i - 1) (by omega) (by omega))
  intro i a b
  exact key i.toNat i (by omega) b
/-- pins that may be -/
def PinOK (c : Cf) (ok : Int → Int → Bool) (pi : Int → Int) : Prop := ∀ t, 0 ≤ t → t < cN c → cTg c t = 1 → 0 ≤ pi t ∧ pi t < nS (cR c) ∧ ok t (pi t) = true
theorem PinOK.pin (h : PinOK c ok pi) : Pin c pi := fun t a b d => ⟨(h t a b d).1, (h t a b d).2.1⟩
theorem cnd_pin {a b : Int} (hG : TG c nt t1 t2) (h : cnd c ok nt t1 t2 a b) : PinOK c ok (pinF nt t1 t2 a b) := by
  obtain ⟨n0, n1, n2, n3⟩ := hG
  intro t x0 x1 x2
  unfold pinF
  unfold cnd at h
  rcases n3 t x0 x1 x2 with ⟨z1, z2⟩ | ⟨z1, z2⟩
  · rw [if_pos ⟨z1, z2⟩]
    rw [if_pos z1] at h; rw [z2]; exact h.1
  · have := n2 z1
    rw [if_neg (by omega), if_pos ⟨z1, z2⟩]
    rw [if_pos z1] at h; rw [z2]; exact h.2
theorem isMet_ok {F : Int → Int} (hV : VP c) (hF : Fe c ok) (hP : PinOK c ok pi) (h00 : ok 0 0 = true) (h : isMet c ok pi F) {i : Int} (hi : 0 ≤ i ∧ i < cN c) (hd : cDep c i ≠ -4) : 0 ≤ F i ∧ F i < nS (cR c) ∧ ok i (F i) = true := by
  have h16 := nS_le (cR c)
  have hh := (h i hi.1 hi.2).2 hd
  by_cases y : cTg c i = 1
  · rw [hh.1 (Or.inr y)]; unfold hdP; rw [if_pos y]; exact hP i hi.1 hi.2 y
  · by_cases z : i = 0
    · rw [hh.1 (Or.inl z)]; unfold hdP; rw [if_neg y, z]; exact ⟨by omega, by omega, h00⟩
    · exact stepA_ok (hh.2 (by omega) y)
theorem addT_fin {s t : Int} (hV : VP c) (hF : Fe c ok) (hP : PinOK c ok pi) (ht : 0 ≤ t ∧ t < cN c ∧ cTg c t = 1) {B : Int} (hs : 0 ≤ s ∧ s ≤ B) (hB : B ≤ 20000000) : 0 ≤ addT c ok pi s t ∧ addT c ok pi s t ≤ B + 6240000 ∧ addT c ok pi s t = (if t = 0 then s else s + LF c ok pi t (pi t)) := by
  have hFAR : FAR = 1000000000 := rfl
  obtain ⟨p1, p2, p3⟩ := hP t ht.1 ht.2.1 ht.2.2
  have hl := LF_lt hV hF hP.pin ⟨ht.1, ht.2.1⟩ ⟨p1, p2⟩ p3
  unfold addT
  rw [if_neg (by omega)]
  split <;> omega
theorem totM_fin (hV : VP c) (hF : Fe c ok) (hP : PinOK c ok pi) (h00 : ok 0 0 = true) (hG : TG c nt t1 t2) : 0 ≤ totM c ok pi nt t1 t2 ∧ totM c ok pi nt t1 t2 ≤ 18720000 := by
  have hN := hV.2.2.2.2.1
  have h16 := nS_le (cR c)
  obtain ⟨n0, n1, n2, n3⟩ := hG
  have h0 := LF_lt hV hF hP.pin (i := 0) (s := 0) ⟨by omega, by omega⟩ ⟨by omega, by omega⟩ h00
  unfold totM
  rcases n0 with z | z | z
  · rw [if_pos z]; omega
  · rw [if_neg (by omega), if_pos z]
    have := addT_fin hV hF hP (n1 (by omega)) h0 (by decide)
    omega
  · rw [if_neg (by omega), if_neg (by omega)]
    have h1 := addT_fin hV hF hP (n1 (by omega)) h0 (by decide)
    have b := n2 z
    have a := n1 (by omega)
    have := addT_fin hV hF hP (t := t2) ⟨by omega, b.2.1, b.2.2⟩ ⟨h1.1, h1.2.1⟩ (by decide)
    omega
theorem best_fin {v a b : Int} (hV : VP c) (hF : Fe c ok) (h00 : ok 0 0 = true) (hG : TG c nt t1 t2) (h : isBest c ok nt t1 t2 v a b) : cnd c ok nt t1 t2 a b ∧ v = pval c ok nt t1 t2 a b ∧ 0 ≤ v ∧ v ≤ 18720000 := by
  have hFAR : FAR = 1000000000 := rfl
  rcases h with ⟨h1, h2, h3, h4⟩ | ⟨h1, h2, h3, h4, h5⟩
  · -- some pins may be
    obtain ⟨n0, n1, n2, n3⟩ := id hG
    have hd := hV.2.2.2.2.2.2.2.2.2.2.2.1
    have e1 : ∃ a', if 1 ≤ nt then 0 ≤ a' ∧ a' < nS (cR c) ∧ ok t1 a' = true else a' = 0 := by
      by_cases z : 1 ≤ nt
      · obtain ⟨y1, y2, y3⟩ := n1 z
        obtain ⟨s, s0⟩ := hF.2 t1 y1 y2 (hd t1 y1 y2 y3)
        exact ⟨s, by rw [if_pos z]; exact s0⟩
      · exact ⟨0, by rw [if_neg z]⟩
    have e2 : ∃ a', if nt = 2 then 0 ≤ a' ∧ a' < nS (cR c) ∧ ok t2 a' = true else a' = 0 := by
      by_cases z : nt = 2
      · obtain ⟨y1, y2, y3⟩ := n2 z
        have := n1 (by omega)
        obtain ⟨s, s0⟩ := hF.2 t2 (by omega) y2 (hd t2 (by omega) y2 y3)
        exact ⟨s, by rw [if_pos z]; exact s0⟩
      · exact ⟨0, by rw [if_neg z]⟩
    obtain ⟨a', ha⟩ := e1
    obtain ⟨b', hb⟩ := e2
    have hc : cnd c ok nt t1 t2 a' b' := ⟨ha, hb⟩
    have := h4 a' b' hc trivial
    have := totM_fin hV hF (cnd_pin hG hc) h00 hG
    unfold pval at *
    omega
  · have := totM_fin hV hF (cnd_pin hG h2) h00 hG
    unfold pval at *
    exact ⟨h2, h4.symm, by omega, by omega⟩
/-- the best choice is laid -/
def BestM (c : Cf) (nt t1 t2 : Int) (M : Mem) : Prop := ∃ a b, isBest c (okL c) nt t1 t2 (M 0 32) a b ∧ isMet c (okL c) (pinF nt t1 t2 a b) (M 21)
abbrev lbS : List Nat := [15, 16, 17, 18, 19, 20, 21, 22, 23, 24, 25, 26]
abbrev lbT : List Int := [20, 23, 24, 25, 27, 31, 32, 37, 42]
end B
