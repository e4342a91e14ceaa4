/-! x: all pins -/
section X
variable {c : Cf} {ok : Int → Int → Bool} {M : Mem} {R : Int → Mem → Prop} {i : Int} {pi : Int → Int} {nt t1 t2 : Int}
theorem isBP_add {Pr : Int → Int → Prop} {v fa fb p q : Int} (h : isBP c ok nt t1 t2 Pr v fa fb) (hc : cnd c ok nt t1 t2 p q) (hlex : ∀ a' b', Pr a' b' → lexB p q a' b') :
    isBP c ok nt t1 t2 (fun a' b' => Pr a' b' ∨ (a' = p ∧ b' = q)) (if pval c ok nt t1 t2 p q < v then pval c ok nt t1 t2 p q else v) (if pval c ok nt t1 t2 p q < v then p else fa) (if pval c ok nt t1 t2 p q < v then q else fb) := by
  by_cases hlt : pval c ok nt t1 t2 p q < v
  · rw [if_pos hlt, if_pos hlt, if_pos hlt]
    refine Or.inr ⟨?_, hc, Or.inr ⟨rfl, rfl⟩, rfl, fun a' b' q1 q2 => ?_⟩
    · rcases h with ⟨h1, -⟩ | ⟨h1, -⟩ <;> omega
    · rcases q2 with z | ⟨z, z'⟩
      · have : v ≤ pval c ok nt t1 t2 a' b' := by
          rcases h with ⟨h1, h2, h3, h4⟩ | ⟨h1, h2, h3, h4, h5⟩
          · have := h4 a' b' q1 z; omega
          · exact (h5 a' b' q1 z).1
        exact ⟨by omega, fun _ => by omega⟩
      · rw [z, z']; exact ⟨by omega, fun q => by omega⟩
  · rw [if_neg hlt, if_neg hlt, if_neg hlt]
    rcases h with ⟨h1, h2, h3, h4⟩ | ⟨h1, h2, h3, h4, h5⟩
    · refine Or.inl ⟨h1, h2, h3, fun a' b' q1 q2 => ?_⟩
      rcases q2 with z | ⟨z, z'⟩
      · exact h4 a' b' q1 z
      · rw [z, z']; omega
    · refine Or.inr ⟨h1, h2, Or.inl h3, h4, fun a' b' q1 q2 => ?_⟩
      rcases q2 with z | ⟨z, z'⟩
      · exact h5 a' b' q1 z
      · have := hlex _ _ h3
        rw [z, z']; refine ⟨by omega, fun q => ?_⟩
        unfold lexB at this; omega
theorem isMinP_add {Pr : Int → Int → Prop} {v w p q : Int} (h : isMinP c ok nt t1 t2 Pr v) (h' : isMinP c ok nt t1 t2 (fun a' b' => a' = p ∧ b' = q) w) : isMinP c ok nt t1 t2 (fun a' b' => Pr a' b' ∨ (a' = p ∧ b' = q)) (if w < v then w else v) := by
  obtain ⟨a1, a2, a3⟩ := h
  obtain ⟨b1, b2, b3⟩ := h'
  have low : ∀ a' b', cnd c ok nt t1 t2 a' b' → (Pr a' b' ∨ (a' = p ∧ b' = q)) → (if w < v then w else v) ≤ pval c ok nt t1 t2 a' b' := by
    intro a' b' q z
    rcases z with y | y
    · have := a2 a' b' q y
      split <;> omega
    · have := b2 a' b' q y
      split <;> omega
  by_cases hl : w < v
  · rw [if_pos hl] at low ⊢
    refine ⟨b1, low, ?_⟩
    rcases b3 with z | ⟨a', b', q1, q2, q3⟩
    · exact Or.inl z
    · exact Or.inr ⟨a', b', q1, Or.inr q2, q3⟩
  · rw [if_neg hl] at low ⊢
    refine ⟨a1, low, ?_⟩
    rcases a3 with z | ⟨a', b', q1, q2, q3⟩
    · exact Or.inl z
    · exact Or.inr ⟨a', b', q1, Or.inl q2, q3⟩
theorem isMinP_mono {Pr Pr' : Int → Int → Prop} {v : Int} (h : isMinP c ok nt t1 t2 Pr v) (h1 : ∀ a b, cnd c ok nt t1 t2 a b → Pr' a b → Pr a b) (h2 : ∀ a b, cnd c ok nt t1 t2 a b → Pr a b → Pr' a b) : isMinP c ok nt t1 t2 Pr' v := by
  obtain ⟨a1, a2, a3⟩ := h
  refine ⟨a1, fun a b q1 q2 => a2 a b q1 (h1 a b q1 q2), ?_⟩
  rcases a3 with z | ⟨a, b, q1, q2, q3⟩
  · exact Or.inl z
  · exact Or.inr ⟨a, b, q1, h2 a b q1 q2, q3⟩
/-- the states of the pins, by their index in the lists -/
def nAx (nt t1 : Int) (M : Mem) : Int := if 1 ≤ nt then M 29 t1 else 1
def sAx (nt t1 : Int) (M : Mem) (a : Int) : Int := if 1 ≤ nt then M 28 (16 * t1 + a) else 0
def nBx (nt t2 : Int) (M : Mem) : Int := if nt = 2 then M 29 t2 else 1
def sBx (nt t2 : Int) (M : Mem) (b : Int) : Int := if nt = 2 then M 28 (16 * t2 + b) else 0
def prX (nt t1 t2 : Int) (M : Mem) (a b : Int) : Int → Int → Prop := fun p q => ∃ a' b', 0 ≤ a' ∧ a' < nAx nt t1 M ∧ 0 ≤ b' ∧ b' < nBx nt t2 M ∧ sAx nt t1 M a' = p ∧ sBx nt t2 M b' = q ∧ (a' < a ∨ (a' = a ∧ b' < b))
theorem en_cnd (hV : VP c) (hG : TG c nt t1 t2) (hA : LA c M) {a b : Int} (ha : 0 ≤ a ∧ a < nAx nt t1 M) (hb : 0 ≤ b ∧ b < nBx nt t2 M) : cnd c (okL c) nt t1 t2 (sAx nt t1 M a) (sBx nt t2 M b) := by
  obtain ⟨n0, n1, n2, n3⟩ := hG
  have v12 := hV.2.2.2.2.2.2.2.2.2.2.2.1
  unfold nAx at ha; unfold nBx at hb
  constructor
  · unfold sAx
    by_cases z : 1 ≤ nt
    · rw [if_pos z] at ha ⊢
      rw [if_pos z]
      obtain ⟨p1, p2, p3⟩ := n1 z
      exact (hA t1 p1 p2 (v12 t1 p1 p2 p3)).2.1 a ha.1 ha.2
    · rw [if_neg z, if_neg z]
  · unfold sBx
    by_cases z : nt = 2
    · rw [if_pos z] at hb ⊢
      rw [if_pos z]
      obtain ⟨p1, p2, p3⟩ := n2 z
      have p0 := n1 (by omega)
      exact (hA t2 (by omega) p2 (v12 t2 (by omega) p2 p3)).2.1 b hb.1 hb.2
    · rw [if_neg z, if_neg z]
theorem en_all (hV : VP c) (hG : TG c nt t1 t2) (hA : LA c M) {p q : Int} (h : cnd c (okL c) nt t1 t2 p q) : ∃ a b, 0 ≤ a ∧ a < nAx nt t1 M ∧ 0 ≤ b ∧ b < nBx nt t2 M ∧ sAx nt t1 M a = p ∧ sBx nt t2 M b = q := by
  obtain ⟨n0, n1, n2, n3⟩ := hG
  have v12 := hV.2.2.2.2.2.2.2.2.2.2.2.1
  unfold cnd at h
  have e1 : ∃ a, 0 ≤ a ∧ a < nAx nt t1 M ∧ sAx nt t1 M a = p := by
    have := h.1
    unfold nAx sAx
    by_cases z : 1 ≤ nt
    · rw [if_pos z] at this ⊢
      obtain ⟨p1, p2, p3⟩ := n1 z
      obtain ⟨⟨k, k0, k1, k2⟩, -⟩ := (hA t1 p1 p2 (v12 t1 p1 p2 p3)).2.2.2.1 p this.1 this.2.1 this.2.2
      exact ⟨k, k0, k1, by rw [if_pos z]; exact k2⟩
    · rw [if_neg z] at this ⊢
      exact ⟨0, by omega, by omega, by rw [if_neg z, this]⟩
  have e2 : ∃ b, 0 ≤ b ∧ b < nBx nt t2 M ∧ sBx nt t2 M b = q := by
    have := h.2
    unfold nBx sBx
    by_cases z : nt = 2
    · rw [if_pos z] at this ⊢
      obtain ⟨p1, p2, p3⟩ := n2 z
      have p0 := n1 (by omega)
      obtain ⟨⟨k, k0, k1, k2⟩, -⟩ := (hA t2 (by omega) p2 (v12 t2 (by omega) p2 p3)).2.2.2.1 q this.1 this.2.1 this.2.2
      exact ⟨k, k0, k1, by rw [if_pos z]; exact k2⟩
    · rw [if_neg z] at this ⊢
      exact ⟨0, by omega, by omega, by rw [if_neg z, this]⟩
  obtain ⟨a, a1, a2, a3⟩ := e1
  obtain ⟨b, b1, b2, b3⟩ := e2
  exact ⟨a, b, a1, a2, b1, b2, a3, b3⟩
theorem en_lt (hV : VP c) (hG : TG c nt t1 t2) (hA : LA c M) : (∀ a a', 0 ≤ a → a < a' → a' < nAx nt t1 M → sAx nt t1 M a < sAx nt t1 M a') ∧ (∀ b b', 0 ≤ b → b < b' → b' < nBx nt t2 M → sBx nt t2 M b < sBx nt t2 M b') ∧ nAx nt t1 M ≤ 16 ∧ nBx nt t2 M ≤ 16 := by
  have h16 := nS_le (cR c)
  obtain ⟨n0, n1, n2, n3⟩ := hG
  have v12 := hV.2.2.2.2.2.2.2.2.2.2.2.1
  unfold nAx sAx nBx sBx
  refine ⟨fun a a' q1 q2 q3 => ?_, fun b b' q1 q2 q3 => ?_, ?_, ?_⟩
  · by_cases z : 1 ≤ nt
    · rw [if_pos z] at q3 ⊢
      rw [if_pos z]
      obtain ⟨p1, p2, p3⟩ := n1 z
      exact (hA t1 p1 p2 (v12 t1 p1 p2 p3)).2.2.1 a a' q1 q2 q3
    · rw [if_neg z] at q3; omega
  · by_cases z : nt = 2
    · rw [if_pos z] at q3 ⊢
      rw [if_pos z]
      obtain ⟨p1, p2, p3⟩ := n2 z
      have p0 := n1 (by omega)
      exact (hA t2 (by omega) p2 (v12 t2 (by omega) p2 p3)).2.2.1 b b' q1 q2 q3
    · rw [if_neg z] at q3; omega
  · by_cases z : 1 ≤ nt
    · rw [if_pos z]
      obtain ⟨p1, p2, p3⟩ := n1 z
      have := (hA t1 p1 p2 (v12 t1 p1 p2 p3)).1
      omega
    · rw [if_neg z]; omega
  · by_cases z : nt = 2
    · rw [if_pos z]
      obtain ⟨p1, p2, p3⟩ := n2 z
      have p0 := n1 (by omega)
      have := (hA t2 (by omega) p2 (v12 t2 (by omega) p2 p3)).1
      omega
    · rw [if_neg z]; omega
/-- what is before a pair by index is before it by states -/
theorem prX_lex (hV : VP c) (hG : TG c nt t1 t2) (hA : LA c M) {a b : Int} (ha : 0 ≤ a ∧ a < nAx nt t1 M) (hb : 0 ≤ b ∧ b < nBx nt t2 M) : ∀ p q, prX nt t1 t2 M a b p q → lexB (sAx nt t1 M a) (sBx nt t2 M b) p q := by
  obtain ⟨l1, l2, -⟩ := en_lt hV hG hA
  rintro p q ⟨a', b', y1, y2, y3, y4, y5, y6, y7⟩
  unfold lexB
  rcases y7 with z | ⟨z, z'⟩
  · have := l1 a' a y1 z ha.2; omega
  · have := l2 b' b y3 z' hb.2
    rw [z] at y5; omega
theorem prX_next {a b : Int} (ha : 0 ≤ a ∧ a < nAx nt t1 M) (hb : 0 ≤ b ∧ b < nBx nt t2 M) (p q : Int) : prX nt t1 t2 M a (b + 1) p q ↔ (prX nt t1 t2 M a b p q ∨ (p = sAx nt t1 M a ∧ q = sBx nt t2 M b)) := by
  constructor
  · rintro ⟨a', b', y1, y2, y3, y4, y5, y6, y7⟩
    by_cases z : a' = a ∧ b' = b
    · rw [z.1] at y5; rw [z.2] at y6; exact Or.inr ⟨y5.symm, y6.symm⟩
    · exact Or.inl ⟨a', b', y1, y2, y3, y4, y5, y6, by omega⟩
  · rintro (⟨a', b', y1, y2, y3, y4, y5, y6, y7⟩ | ⟨z1, z2⟩)
    · exact ⟨a', b', y1, y2, y3, y4, y5, y6, by omega⟩
    · exact ⟨a, b, ha.1, ha.2, hb.1, hb.2, z1.symm, z2.symm, by omega⟩
theorem prX_row {a b : Int} (hb : b = nBx nt t2 M) (p q : Int) : prX nt t1 t2 M (a + 1) 0 p q ↔ prX nt t1 t2 M a b p q := by
  constructor
  · rintro ⟨a', b', y1, y2, y3, y4, y5, y6, y7⟩
    exact ⟨a', b', y1, y2, y3, y4, y5, y6, by omega⟩
  · rintro ⟨a', b', y1, y2, y3, y4, y5, y6, y7⟩
    exact ⟨a', b', y1, y2, y3, y4, y5, y6, by omega⟩
theorem prX_end (hV : VP c) (hG : TG c nt t1 t2) (hA : LA c M) {a : Int} (ha : a = nAx nt t1 M) {p q : Int} (h : cnd c (okL c) nt t1 t2 p q) : prX nt t1 t2 M a 0 p q := by
  obtain ⟨a', b', y1, y2, y3, y4, y5, y6⟩ := en_all hV hG hA h
  exact ⟨a', b', y1, y2, y3, y4, y5, y6, by omega⟩
end X
