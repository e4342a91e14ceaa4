/-! the reference: all pins -/
def pinF (nt t1 t2 a b : Int) : Int → Int := fun i => if 1 ≤ nt ∧ i = t1 then a else if nt = 2 ∧ i = t2 then b else 0
def cnd (c : Cf) (ok : Int → Int → Bool) (nt t1 t2 a b : Int) : Prop := (if 1 ≤ nt then 0 ≤ a ∧ a < nS (cR c) ∧ ok t1 a = true else a = 0) ∧ (if nt = 2 then 0 ≤ b ∧ b < nS (cR c) ∧ ok t2 b = true else b = 0)
def pval (c : Cf) (ok : Int → Int → Bool) (nt t1 t2 a b : Int) : Int := totM c ok (pinF nt t1 t2 a b) nt t1 t2
/-- v is the least of all pins in Pr, and a, b the first ones that give it -/
def isBP (c : Cf) (ok : Int → Int → Bool) (nt t1 t2 : Int) (Pr : Int → Int → Prop) (v a b : Int) : Prop :=
  (v = FAR ∧ a = 0 ∧ b = 0 ∧ ∀ a' b', cnd c ok nt t1 t2 a' b' → Pr a' b' → FAR ≤ pval c ok nt t1 t2 a' b') ∨
  (v < FAR ∧ cnd c ok nt t1 t2 a b ∧ Pr a b ∧ pval c ok nt t1 t2 a b = v ∧ ∀ a' b', cnd c ok nt t1 t2 a' b' → Pr a' b' → v ≤ pval c ok nt t1 t2 a' b' ∧ (a' < a ∨ (a' = a ∧ b' < b) → v < pval c ok nt t1 t2 a' b'))
abbrev isBest (c : Cf) (ok : Int → Int → Bool) (nt t1 t2 v a b : Int) : Prop := isBP c ok nt t1 t2 (fun _ _ => True) v a b
theorem isBest_unique {c : Cf} {ok : Int → Int → Bool} {nt t1 t2 v a b v' a' b' : Int} (h : isBest c ok nt t1 t2 v a b) (h' : isBest c ok nt t1 t2 v' a' b') : v = v' ∧ a = a' ∧ b = b' := by
  rcases h with ⟨h1, h2, h3, h4⟩ | ⟨h1, h2, -, h4, h5⟩ <;> rcases h' with ⟨g1, g2, g3, g4⟩ | ⟨g1, g2, -, g4, g5⟩
  · exact ⟨by omega, by omega, by omega⟩
  · have := h4 a' b' g2 trivial
    omega
  · have := g4 a b h2 trivial
    omega
  · have q1 := h5 a' b' g2 trivial
    have q2 := g5 a b h2 trivial
    have ev : v = v' := by omega
    refine ⟨ev, ?_⟩
    have l1 : ¬ (a' < a ∨ (a' = a ∧ b' < b)) := fun z => by have := q1.2 z; omega
    have l2 : ¬ (a < a' ∨ (a = a' ∧ b < b')) := fun z => by have := q2.2 z; omega
    exact ⟨by omega, by omega⟩
section S
variable {c : Cf} {ok : Int → Int → Bool} {M : Mem} {R : Int → Mem → Prop}
theorem totM_congr {pi pi' : Int → Int} {nt t1 t2 : Int} (hV : VP c) (hok : ∀ i s, ok i s = true → okL c i s = true) (hG : TG c nt t1 t2) (hp : ∀ t, 0 ≤ t → t < cN c → cTg c t = 1 → pi t = pi' t) : totM c ok pi nt t1 t2 = totM c ok pi' nt t1 t2 := by
  have hN := hV.2.2.2.2.1
  have e : ∀ i s, 0 ≤ i → i < cN c → LF c ok pi i s = LF c ok pi' i s := fun i s a b => LF_congr hV hok hp (cN c - i).toNat i s a (by omega)
  obtain ⟨n0, n1, n2, -⟩ := hG
  have ea : ∀ s t, 0 ≤ t → t < cN c → cTg c t = 1 → addT c ok pi s t = addT c ok pi' s t := fun s t a b d => by unfold addT; rw [hp t a b d, e t _ a b]
  unfold totM
  rw [e 0 0 (by omega) (by omega)]
  rcases n0 with z | z | z
  · rw [if_pos z, if_pos z]
  · rw [if_neg (by omega), if_pos z, if_neg (by omega), if_pos z]
    obtain ⟨a1, a2, a3⟩ := n1 (by omega)
    exact ea _ _ a1 a2 a3
  · rw [if_neg (by omega), if_neg (by omega), if_neg (by omega), if_neg (by omega)]
    obtain ⟨a1, a2, a3⟩ := n1 (by omega)
    obtain ⟨b1, b2, b3⟩ := n2 z
    rw [ea _ t1 a1 a2 a3]
    exact ea _ _ (by omega) b2 b3
abbrev seS : List Nat := [24, 26]
abbrev seT : List Int := [42]
/-- what stays through the search -/
def SE (c : Cf) (ok : Int → Int → Bool) (nt t1 t2 : Int) (M : Mem) : Prop := SB c ok (M 26) M ∧ M 0 37 = nt ∧ (1 ≤ nt → M 25 0 = t1) ∧ (nt = 2 → M 25 1 = t2) ∧ (0 ≤ M 25 0 ∧ M 25 0 < 24) ∧ (M 26 = M 26)
theorem SE.off {nt t1 t2 : Int} {M' : Mem} (h : SE c ok nt t1 t2 M) (ho : Off seS seT M M') : SE c ok nt t1 t2 M' := by
  obtain ⟨⟨a1, a2, a3, a4, a5⟩, b1, b2, b3, b4, -⟩ := h
  refine ⟨⟨a1.off ho (by decide), by rw [ho.fld (by decide)]; exact a2, fun s t a b d e => by rw [ho.cell (by decide)]; exact a3 s t a b d e, fun i s a b d e => ⟨by rw [ho.cell (by decide)]; exact (a4 i s a b d e).1, fun z => by rw [ho.cell (by decide)]; exact (a4 i s a b d e).2 z⟩, fun _ _ _ _ => rfl⟩, by rw [ho.fld (by decide)]; exact b1, fun z => by rw [ho.cell (by decide)]; exact b2 z, fun z => by rw [ho.cell (by decide)]; exact b3 z, by rw [ho.cell (by decide)]; exact b4, rfl⟩
/-- one pair of pins -/
theorem s_pair {k37 : Int → Int → Int → Int → Int → Mem → Prop} {nt t1 t2 v fa fb a b : Int} (hV : VP c) (hok : ∀ i s, ok i s = true → okL c i s = true) (hG : TG c nt t1 t2) (hE : SE c ok nt t1 t2 M) (hc : cnd c ok nt t1 t2 a b) (hb24 : 0 ≤ b ∧ b < 16)
    (h : ∀ M', Off seS seT M M' → k37 (if pval c ok nt t1 t2 a b < v then pval c ok nt t1 t2 a b else v) (if pval c ok nt t1 t2 a b < v then a else fa) (if pval c ok nt t1 t2 a b < v then b else fb) a (b + 1) M') : fMd_search_118 k37 R v fa fb a b M := by
  have h16 := nS_le (cR c)
  have hN := hV.2.2.2.2.1
  obtain ⟨hS, e37, e1, e2, e25, -⟩ := id hE
  obtain ⟨n0, n1, n2, n3⟩ := id hG
  unfold fMd_search_118
  -- behind the pins
  have run : ∀ M1, Off seS seT M M1 → (∀ t, 0 ≤ t → t < cN c → cTg c t = 1 → M1 26 t = pinF nt t1 t2 a b t) → fMd_search_175 k37 R v fa fb a b M1 := by
    intro M1 ho hp
    have hE1 := hE.off ho
    have hPin : Pin c (M1 26) := by
      intro t t0 t1' t2'
      rw [hp t t0 t1' t2']
      unfold pinF
      unfold cnd at hc
      rcases n3 t t0 t1' t2' with ⟨z1, z2⟩ | ⟨z1, z2⟩
      · rw [if_pos ⟨z1, z2⟩]
        rw [if_pos z1] at hc; exact ⟨hc.1.1, hc.1.2.1⟩
      · have := n2 z1
        rw [if_neg (by omega), if_pos ⟨z1, z2⟩]
        rw [if_pos z1] at hc
        exact ⟨hc.2.1, hc.2.2.1⟩
    refine s_total hV hok hPin hE1.1 hG ⟨hE1.2.1, hE1.2.2.1, hE1.2.2.2.1⟩ (fun M2 ho2 _ => ?_)
    rw [totM_congr hV hok hG hp, show totM c ok (pinF nt t1 t2 a b) nt t1 t2 = pval c ok nt t1 t2 a b from rfl]
    have hfin := h M2 (ho.tr (ho2.mono (by decide) (by decide)))
    have w1 : wrap (b + 1) = b + 1 := wrapI (by omega) (by omega)
    by_cases hlt : pval c ok nt t1 t2 a b < v
    · rw [if_pos hlt, if_pos hlt, if_pos hlt] at hfin
      refine ⟨fun q => absurd hlt (by omega), fun _ => ⟨fun q => absurd hlt (by omega), fun _ => ⟨fun q => absurd hlt (by omega), fun _ => ?_⟩⟩⟩
      unfold fMd_search_219 fMd_search_220; rw [w1]; exact hfin
    · rw [if_neg hlt, if_neg hlt, if_neg hlt] at hfin
      refine ⟨fun _ => ⟨fun _ => ⟨fun _ => ?_, fun q => absurd (by omega) q⟩, fun q => absurd (by omega) q⟩, fun q => absurd (by omega) q⟩
      unfold fMd_search_219 fMd_search_220; rw [w1]; exact hfin
  refine ⟨fun z => absurd z (by decide), fun _ => ?_⟩
  rw [e37]
  have pin2 : ∀ t0, (t0 = if 1 ≤ nt then a else 0) → fMd_search_153 k37 R v fa fb a b t0 (M 25 0) M := by
    intro t0 ht0
    refine ⟨⟨e25.1, e25.2⟩, ?_⟩
    rw [e37]
    refine ⟨fun q => run _ ((Off.rf _ _ _).mu (Or.inl (by decide))) (fun t q0 q1 q2 => ?_), fun q => ?_⟩
    · rcases n3 t q0 q1 q2 with ⟨z1, z2⟩ | ⟨z1, z2⟩
      · unfold pinF
        rw [if_pos ⟨z1, z2⟩, e1 z1, z2, mu_same, ht0, if_pos z1]
      · omega
    · have z : nt = 2 := by omega
      obtain ⟨b1, b2, b3⟩ := n2 z
      have a0 := n1 (by omega)
      rw [e2 z]
      refine ⟨⟨by omega, by omega⟩, run _ (((Off.rf _ _ _).mu (Or.inl (by decide))).mu (Or.inl (by decide))) (fun t q0 q1 q2 => ?_)⟩
      rcases n3 t q0 q1 q2 with ⟨z1, z2⟩ | ⟨z1, z2⟩
      · unfold pinF
        rw [if_pos ⟨z1, z2⟩, e1 z1, z2, mu_place (by omega), mu_same, ht0, if_pos z1]
      · unfold pinF
        rw [if_neg (by omega), if_pos ⟨z1, z2⟩, z2, mu_same]
  refine ⟨fun q => pin2 0 (by rw [if_neg (by omega)]), fun q => pin2 a (by rw [if_pos (by omega)])⟩
end S
