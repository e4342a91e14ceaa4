/-! the least over all pins -/
section K
variable {c : Cf} {ok : Int → Int → Bool} {pi : Int → Int} {i s : Int} {nt t1 t2 : Int}
theorem LF_bad {h i0 : Int} (hV : VP c) (h0 : 0 ≤ h ∧ i0 < cN c) (hs : sgm c h i0) (hb : ∀ s, ok i0 s = false) : ∀ (n : Nat) (i s : Int), i + n = i0 → h ≤ i → LF c ok pi i s = FAR := by
  intro n
  induction n with
  | zero => intro i s e _; rw [show i = i0 from by omega]; exact LF_no (hb s)
  | succ n ih =>
    intro i s e hi
    obtain ⟨f1, f2⟩ := hs.2 i hi (by omega)
    cases ho : ok i s with
    | false => exact LF_no ho
    | true =>
      rw [LF_eq ⟨by omega, by omega⟩ ho, if_pos f1, if_neg f2]
      have hm := mnF_isMin (fun t => ok (i + 1) t && decide (LF c ok pi (i + 1) t < FAR)) (fun t => cW c i * cPs c (cAf c i s) t + LF c ok pi (i + 1) t) (nS (cR c)).toNat
      rw [if_pos]
      rcases hm.2.2 with z | ⟨t, t0, t1, t2, t3⟩
      · exact z
      · have t2' : (ok (i + 1) t && decide (LF c ok pi (i + 1) t < FAR)) = true := t2
        rw [ih (i + 1) t (by omega) (by omega)] at t2'
        simp at t2'
theorem bad_tot {i0 a b : Int} (hV : VP c) (hG : TG c nt t1 t2) (hi : 0 ≤ i0 ∧ i0 < cN c) (hd : cDep c i0 ≠ -4) (hb : ∀ s, ok i0 s = false) : pval c ok nt t1 t2 a b = FAR := by
  obtain ⟨h, y0, y1, y2, y3⟩ := seg_of hV i0.toNat i0 (by omega) hi.2 hd
  have hl : ∀ s, LF c ok (pinF nt t1 t2 a b) h s = FAR := fun s => LF_bad hV ⟨y0, hi.2⟩ y3 hb (i0 - h).toNat h s (by omega) (by omega)
  obtain ⟨n0, n1, n2, n3⟩ := hG
  show totM c ok (pinF nt t1 t2 a b) nt t1 t2 = FAR
  generalize pinF nt t1 t2 a b = pi at hl
  have aF : ∀ t, addT c ok pi FAR t = FAR := fun t => by unfold addT; rw [if_pos (Or.inl rfl)]
  have aL : ∀ s, addT c ok pi s h = FAR := fun s => by unfold addT; rw [if_pos (Or.inr (hl _))]
  unfold totM
  by_cases z : h = 0
  · have h0 : LF c ok pi 0 0 = FAR := by have := hl 0; rwa [z] at this
    rw [h0, aF, aF]
    simp
  · have ht : cTg c h = 1 := by
      rcases y2 with q | q
      · exact absurd q z
      · exact q
    rcases n3 h y0 (by omega) ht with ⟨w1, w2⟩ | ⟨w1, w2⟩
    · rw [← w2, aL, aF, if_neg (by omega)]
      simp
    · rw [← w2, aL, if_neg (by omega), if_neg (by omega)]
/-- the least over all pins that may be -/
def isMinP (c : Cf) (ok : Int → Int → Bool) (nt t1 t2 : Int) (Pr : Int → Int → Prop) (v : Int) : Prop := v ≤ FAR ∧ (∀ a b, cnd c ok nt t1 t2 a b → Pr a b → v ≤ pval c ok nt t1 t2 a b) ∧ (v = FAR ∨ ∃ a b, cnd c ok nt t1 t2 a b ∧ Pr a b ∧ pval c ok nt t1 t2 a b = v)
theorem isMinP_of {v a b : Int} (h : isBest c ok nt t1 t2 v a b) : isMinP c ok nt t1 t2 (fun _ _ => True) v := by
  rcases h with ⟨h1, h2, h3, h4⟩ | ⟨h1, h2, h3, h4, h5⟩
  · exact ⟨by omega, fun a' b' q _ => by rw [h1]; exact h4 a' b' q trivial, Or.inl h1⟩
  · exact ⟨by omega, fun a' b' q _ => (h5 a' b' q trivial).1, Or.inr ⟨a, b, h2, trivial, h4⟩⟩
theorem isMinP_unique {Pr : Int → Int → Prop} {v v' : Int} (h : isMinP c ok nt t1 t2 Pr v) (h' : isMinP c ok nt t1 t2 Pr v') : v = v' := by
  obtain ⟨a1, a2, a3⟩ := h
  obtain ⟨b1, b2, b3⟩ := h'
  have k1 : v ≤ v' := by
    rcases b3 with z | ⟨a, b, q1, q2, q3⟩
    · omega
    · rw [← q3]; exact a2 a b q1 q2
  have k2 : v' ≤ v := by
    rcases a3 with z | ⟨a, b, q1, q2, q3⟩
    · omega
    · rw [← q3]; exact b2 a b q1 q2
  omega
theorem isMinP_step {v w a b : Int} (h : isMinP c ok nt t1 t2 (lexB a b) v) (h' : isMinP c ok nt t1 t2 (fun a' b' => a' = a ∧ b' = b) w) : isMinP c ok nt t1 t2 (lexB a (b + 1)) (if v ≤ w then v else w) := by
  obtain ⟨a1, a2, a3⟩ := h
  obtain ⟨b1, b2, b3⟩ := h'
  have cas : ∀ a' b', lexB a (b + 1) a' b' → lexB a b a' b' ∨ (a' = a ∧ b' = b) := fun a' b' z => by unfold lexB at z ⊢; omega
  have low : ∀ a' b', cnd c ok nt t1 t2 a' b' → lexB a (b + 1) a' b' → (if v ≤ w then v else w) ≤ pval c ok nt t1 t2 a' b' := by
    intro a' b' q z
    rcases cas a' b' z with y | y
    · have := a2 a' b' q y
      split <;> omega
    · have := b2 a' b' q y
      split <;> omega
  by_cases hl : v ≤ w
  · rw [if_pos hl] at low ⊢
    refine ⟨a1, low, ?_⟩
    rcases a3 with z | ⟨a', b', q1, q2, q3⟩
    · exact Or.inl z
    · exact Or.inr ⟨a', b', q1, by unfold lexB at q2 ⊢; omega, q3⟩
  · rw [if_neg hl] at low ⊢
    refine ⟨b1, low, ?_⟩
    rcases b3 with z | ⟨a', b', q1, q2, q3⟩
    · exact Or.inl z
    · exact Or.inr ⟨a', b', q1, by unfold lexB; omega, q3⟩
theorem cnd_ok1 {i0 s0 a b : Int} (hG : TG c nt t1 t2) (h1 : cnd c (okL c) nt t1 t2 a b) (h2 : cp c (okL c) (pinF nt t1 t2 a b) i0 s0 = true) : cnd c (ok1 c i0 s0) nt t1 t2 a b := by
  have hP := PinOK_ok1 (cnd_pin hG h1) h2
  obtain ⟨n0, n1, n2, n3⟩ := hG
  unfold cnd at h1 ⊢
  constructor
  · have := h1.1
    by_cases z : 1 ≤ nt
    · obtain ⟨p1, p2, p3⟩ := n1 z
      have q := hP t1 p1 p2 p3
      rw [show pinF nt t1 t2 a b t1 = a from by unfold pinF; rw [if_pos ⟨z, rfl⟩]] at q
      rw [if_pos z]; exact q
    · rw [if_neg z] at this ⊢; exact this
  · have := h1.2
    by_cases z : nt = 2
    · obtain ⟨p1, p2, p3⟩ := n2 z
      have p0 := n1 (by omega)
      have q := hP t2 (by omega) p2 p3
      rw [show pinF nt t1 t2 a b t2 = b from by unfold pinF; rw [if_neg (by omega), if_pos ⟨z, rfl⟩]] at q
      rw [if_pos z]; exact q
    · rw [if_neg z] at this ⊢; exact this
theorem cnd_okL {i0 s0 a b : Int} (hG : TG c nt t1 t2) (hi : 0 ≤ i0 ∧ i0 < cN c) (hs : okL c i0 s0 = true) (h : cnd c (ok1 c i0 s0) nt t1 t2 a b) : cnd c (okL c) nt t1 t2 a b ∧ cp c (okL c) (pinF nt t1 t2 a b) i0 s0 = true := by
  refine ⟨?_, ?_⟩
  · unfold cnd at h ⊢
    constructor
    · have := h.1
      by_cases z : 1 ≤ nt
      · rw [if_pos z] at this ⊢; exact ⟨this.1, this.2.1, ok1_okL this.2.2⟩
      · rw [if_neg z] at this ⊢; exact this
    · have := h.2
      by_cases z : nt = 2
      · rw [if_pos z] at this ⊢; exact ⟨this.1, this.2.1, ok1_okL this.2.2⟩
      · rw [if_neg z] at this ⊢; exact this
  · have hP := cnd_pin hG h
    refine cp_of hs (fun q => ?_)
    exact (ok1_only (hP i0 hi.1 hi.2 q).2.2).symm
/-- nothing noted at a pair: what the reference says of it -/
theorem minP_none {i0 s0 a b : Int} (hG : TG c nt t1 t2) (hi : 0 ≤ i0 ∧ i0 < cN c) (hs : okL c i0 s0 = true) (h : ¬ (cnd c (okL c) nt t1 t2 a b ∧ cp c (okL c) (pinF nt t1 t2 a b) i0 s0 = true)) : isMinP c (ok1 c i0 s0) nt t1 t2 (fun a' b' => a' = a ∧ b' = b) FAR := by
  refine ⟨Int.le_refl _, fun a' b' q1 q2 => ?_, Or.inl rfl⟩
  rw [q2.1, q2.2] at q1
  exact absurd (cnd_okL hG hi hs q1) h
theorem minP_one {i0 s0 a b : Int} (hV : VP c) (hG : TG c nt t1 t2) (hsr : 0 ≤ s0 ∧ s0 < nS (cR c)) (hi : 0 ≤ i0 ∧ i0 < cN c) (h1 : cnd c (okL c) nt t1 t2 a b) (h2 : cp c (okL c) (pinF nt t1 t2 a b) i0 s0 = true) : isMinP c (ok1 c i0 s0) nt t1 t2 (fun a' b' => a' = a ∧ b' = b) (pval c (ok1 c i0 s0) nt t1 t2 a b) ∧ pval c (ok1 c i0 s0) nt t1 t2 a b = totS c (ok1 c i0 s0) (pinF nt t1 t2 a b) := by
  have hN := hV.2.2.2.2.1
  have hFAR : FAR = 1000000000 := rfl
  have hc := cnd_ok1 hG h1 h2
  have hF1 := Fe_ok1 hV hsr (cp_ok h2)
  have h001 : ok1 c i0 s0 0 0 = true := by
    have h00 : okL c 0 0 = true := okL0 hV ⟨by omega, by omega⟩ (by rw [hV.2.2.2.2.2.2.2.2.1]; decide)
    by_cases e : (0 : Int) = i0
    · have : s0 = 0 := okL_00 (by rw [← e] at h2; exact cp_ok h2)
      rw [← e, this, ok1_eq]; exact h00
    · rw [ok1_ne e]; exact h00
  have hfin := totM_fin hV hF1 (cnd_pin hG hc) h001 hG
  refine ⟨⟨by unfold pval; omega, fun a' b' q1 q2 => by rw [q2.1, q2.2]; exact Int.le_refl _, Or.inr ⟨a, b, hc, ⟨rfl, rfl⟩, rfl⟩⟩, ?_⟩
  rw [totS_eq hV hF1 (cnd_pin hG hc) h001 hG]
  rfl
end K
