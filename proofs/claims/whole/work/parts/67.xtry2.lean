/-! x: tryAllPins -/
section X
variable {c : Cf} {M : Mem} {R : Int → Mem → Prop} {i : Int} {pi : Int → Int} {nt t1 t2 : Int}
def PnB (c : Cf) (M : Mem) : Prop := ∀ i, 0 ≤ i → i < 24 → ¬ (i < cN c ∧ cTg c i = 1) → M 37 i = if i = 0 then 0 else -4
def smX (nt t1 : Int) : Int := if 1 ≤ nt then t1 else -4
def grX (nt t2 : Int) : Int := if nt = 2 then t2 else -4
theorem s_pins {K : Mem → Prop} {L : Mem} {a b : Int} (hV : VP c) (hG : TG c nt t1 t2) (hA : LA c L) (hp : PnB c M) (e28 : ∀ y, M 28 y = L 28 y) (ha : 0 ≤ a ∧ a < nAx nt t1 L) (hb : 0 ≤ b ∧ b < nBx nt t2 L)
    (h : ∀ M', Off [37] [] M M' → PnB c M' → PnX c (pinF nt t1 t2 (sAx nt t1 L a) (sBx nt t2 L b)) M' → K M') : fCh_pin (smX nt t1) a M (fun _ M9 => fCh_pin (grX nt t2) b M9 (fun _ M10 => K M10)) := by
  have hN := hV.2.2.2.2.1
  obtain ⟨-, -, l3, l4⟩ := en_lt hV hG hA
  obtain ⟨n0, n1, n2, n3⟩ := id hG
  by_cases z1 : 1 ≤ nt
  · obtain ⟨p1, p2, p3⟩ := n1 z1
    have eA : sAx nt t1 L a = L 28 (16 * t1 + a) := by unfold sAx; rw [if_pos z1]
    have w1 : wrap (wrap (t1 * 16) + a) = 16 * t1 + a := by rw [wrapI (z := t1 * 16) (by omega) (by omega), wrapI (by omega) (by omega)]; omega
    unfold smX
    rw [if_pos z1]
    refine ⟨fun q => by omega, fun _ => ⟨fun q => by omega, fun _ => ?_⟩⟩
    rw [w1, e28]
    refine ⟨⟨by omega, by omega⟩, ⟨by omega, by omega⟩, ?_⟩
    have o1 : Off [37] [] M (mu M 37 t1 (L 28 (16 * t1 + a))) := (Off.rf _ _ _).mu (Or.inl (by decide))
    have pb1 : PnB c (mu M 37 t1 (L 28 (16 * t1 + a))) := fun i i0 i1 hn => by
      rw [mu_place (fun q => hn ⟨by omega, by rw [q]; exact p3⟩)]; exact hp i i0 i1 hn
    by_cases z2 : nt = 2
    · obtain ⟨r1, r2, r3⟩ := n2 z2
      have eB : sBx nt t2 L b = L 28 (16 * t2 + b) := by unfold sBx; rw [if_pos z2]
      have w2 : wrap (wrap (t2 * 16) + b) = 16 * t2 + b := by rw [wrapI (z := t2 * 16) (by omega) (by omega), wrapI (by omega) (by omega)]; omega
      unfold grX
      rw [if_pos z2]
      refine ⟨fun q => by omega, fun _ => ⟨fun q => by omega, fun _ => ?_⟩⟩
      rw [w2, mu_cell (by decide), e28]
      refine ⟨⟨by omega, by omega⟩, ⟨by omega, by omega⟩, h _ (o1.mu (Or.inl (by decide))) (fun i i0 i1 hn => ?_) (fun i i0 i1 => ?_)⟩
      · rw [mu_place (fun q => hn ⟨by omega, by rw [q]; exact r3⟩)]; exact pb1 i i0 i1 hn
      · by_cases t : i < cN c ∧ cTg c i = 1
        · rw [if_pos t]
          unfold pinF
          rcases n3 i i0 t.1 t.2 with ⟨y1, y2⟩ | ⟨y1, y2⟩
          · rw [if_pos ⟨y1, y2⟩, eA, mu_place (by omega), y2, mu_same]
          · rw [if_neg (by omega), if_pos ⟨y1, y2⟩, eB, y2, mu_same]
        · rw [if_neg t, mu_place (fun q => t ⟨by omega, by rw [q]; exact r3⟩)]; exact pb1 i i0 i1 t
    · unfold grX
      rw [if_neg z2]
      refine ⟨fun _ => h _ o1 pb1 (fun i i0 i1 => ?_), fun q => absurd rfl q⟩
      by_cases t : i < cN c ∧ cTg c i = 1
      · rw [if_pos t]
        unfold pinF
        rcases n3 i i0 t.1 t.2 with ⟨y1, y2⟩ | ⟨y1, y2⟩
        · rw [if_pos ⟨y1, y2⟩, eA, y2, mu_same]
        · exact absurd y1 z2
      · rw [if_neg t]; exact pb1 i i0 i1 t
  · unfold smX grX
    rw [if_neg z1, if_neg (by omega)]
    refine ⟨fun _ => ⟨fun _ => h _ (Off.rf _ _ _) hp (fun i i0 i1 => ?_), fun q => absurd rfl q⟩, fun q => absurd rfl q⟩
    by_cases t : i < cN c ∧ cTg c i = 1
    · have := n3 i i0 t.1 t.2; omega
    · rw [if_neg t]; exact hp i i0 i1 t
theorem s_pinCountA {K : Int → Mem → Prop} (hV : VP c) (hG : TG c nt t1 t2) (h : K (nAx nt t1 M) M) : fCh_pinCount (smX nt t1) M K := by
  have hN := hV.2.2.2.2.1
  unfold nAx at h
  unfold smX
  by_cases z : 1 ≤ nt
  · rw [if_pos z] at h ⊢
    have := hG.2.1 z
    exact ⟨fun _ => ⟨⟨by omega, by omega⟩, h⟩, fun q => by omega⟩
  · rw [if_neg z] at h ⊢
    exact ⟨fun q => absurd rfl q, fun _ => h⟩
theorem s_pinCountB {K : Int → Mem → Prop} (hV : VP c) (hG : TG c nt t1 t2) (h : K (nBx nt t2 M) M) : fCh_pinCount (grX nt t2) M K := by
  have hN := hV.2.2.2.2.1
  unfold nBx at h
  unfold grX
  by_cases z : nt = 2
  · rw [if_pos z] at h ⊢
    have := hG.2.1 (by omega)
    have := hG.2.2.1 z
    exact ⟨fun _ => ⟨⟨by omega, by omega⟩, h⟩, fun q => by omega⟩
  · rw [if_neg z] at h ⊢
    exact ⟨fun q => absurd rfl q, fun _ => h⟩
abbrev taS : List Nat := [27, 34, 35, 36, 37, 38, 39]
/-- what holds between two pairs -/
def TI (c : Cf) (nt t1 t2 w : Int) (L : Mem) (a b x4 x5 : Int) (Mi : Mem) : Prop :=
  Off taS [] L Mi ∧ (∀ y, y ≠ 16 → Mi 27 y = L 27 y) ∧ PnB c Mi ∧ (∃ fa fb, isBP c (okL c) nt t1 t2 (prX nt t1 t2 L a b) (Mi 27 16) fa fb ∧ (Mi 27 16 < FAR → 0 ≤ x4 ∧ x4 < nAx nt t1 L ∧ 0 ≤ x5 ∧ x5 < nBx nt t2 L ∧ sAx nt t1 L x4 = fa ∧ sBx nt t2 L x5 = fb)) ∧
  (w = 1 → ∀ j s, 0 ≤ j → j < cN c → cDep c j ≠ -4 → 0 ≤ s → s < nS (cR c) → (okL c j s = true → isMinP c (ok1 c j s) nt t1 t2 (prX nt t1 t2 L a b) (Mi 36 (16 * j + s))) ∧ (okL c j s = false → Mi 36 (16 * j + s) = FAR)) ∧ (w = 0 → ∀ y, Mi 36 y = L 36 y)
theorem TI.eqv {w a b a' b' x4 x5 : Int} {L Mi : Mem} (h : TI c nt t1 t2 w L a b x4 x5 Mi) (e : ∀ p q, prX nt t1 t2 L a' b' p q ↔ prX nt t1 t2 L a b p q) : TI c nt t1 t2 w L a' b' x4 x5 Mi := by
  obtain ⟨h1, h2, h3, ⟨fa, fb, h4, h5⟩, h6, h7⟩ := h
  refine ⟨h1, h2, h3, ⟨fa, fb, isBP_mono h4 (fun p q _ z => (e p q).mp z) (fun p q _ z => (e p q).mpr z), h5⟩, fun z j s j0 j1 hd s0 s1 => ⟨fun q => ?_, ((h6 z) j s j0 j1 hd s0 s1).2⟩, h7⟩
  exact isMinP_mono (((h6 z) j s j0 j1 hd s0 s1).1 q) (fun p q _ z => (e p q).mp z) (fun p q _ z => (e p q).mpr z)
theorem s_try61 {k48 : Int → Int → Int → Int → Int → Int → Mem → Prop} {w a : Int} {L : Mem} (hV : VP c) (hG : TG c nt t1 t2) (hC : XC c L) (hA : LA c L) (hw : w = 0 ∨ w = 1) (ha : 0 ≤ a ∧ a < nAx nt t1 L)
    (h : ∀ x4 x5 M', TI c nt t1 t2 w L (a + 1) 0 x4 x5 M' → k48 w (smX nt t1) (grX nt t2) x4 x5 (a + 1) M') : ∀ (d : Nat) (b x4 x5 : Int) (Mi : Mem), 0 ≤ b → b + d = nBx nt t2 L → TI c nt t1 t2 w L a b x4 x5 Mi → fCh_tryAllPins_61 k48 R (d + 1) w (smX nt t1) (grX nt t2) x4 x5 a b Mi := by
  have hN := hV.2.2.2.2.1
  have h16 := nS_le (cR c)
  have hFAR : FAR = 1000000000 := rfl
  have hF := Fe_okL hV
  have h00 : okL c 0 0 = true := okL0 hV ⟨by omega, by omega⟩ (by rw [hV.2.2.2.2.2.2.2.2.1]; decide)
  obtain ⟨-, -, l3, l4⟩ := en_lt hV hG hA
  intro d
  induction d with
  | zero =>
    intro b x4 x5 Mi b0 bd hT
    have e29 : nBx nt t2 Mi = nBx nt t2 L := by unfold nBx; rw [hT.1.cell (by decide)]
    unfold fCh_tryAllPins_61
    refine s_pinCountB hV hG ?_
    refine ⟨fun _ => ?_, fun q => by omega⟩
    rw [wrapI (z := a + 1) (by omega) (by omega)]
    exact h x4 x5 Mi (hT.eqv (fun p q => prX_row (by omega) p q))
  | succ d ih =>
    intro b x4 x5 Mi b0 bd hT
    have e29 : nBx nt t2 Mi = nBx nt t2 L := by unfold nBx; rw [hT.1.cell (by decide)]
    obtain ⟨h1, h2, h3, ⟨fa, fb, h4, h5⟩, h6, h7⟩ := id hT
    have hb : 0 ≤ b ∧ b < nBx nt t2 L := ⟨b0, by omega⟩
    have hcnd := en_cnd hV hG hA ha hb
    have hPin := cnd_pin hG hcnd
    unfold fCh_tryAllPins_61
    refine s_pinCountB hV hG ?_
    refine ⟨fun q => by omega, fun _ => s_pins (L := L) hV hG hA h3 (h1.cell (by decide)) ha hb (fun M10 o10 pb10 px10 => ?_)⟩
    have oA : Off taS [] L M10 := h1.tr (o10.mono (by decide) (by decide))
    refine s_walkBack hV (hC.off oA (by decide)) (hA.off oA (by decide)) px10 hPin (fun M11 o11 hO11 => ?_)
    have oB : Off taS [] L M11 := oA.tr (o11.mono (by decide) (by decide))
    have px11 := px10.off o11 (by decide)
    refine s_xtotal hV hG (hC.off oB (by decide)) px11 hPin hO11 ?_
    have etot : totS c (okL c) (pinF nt t1 t2 (sAx nt t1 L a) (sBx nt t2 L b)) = pval c (okL c) nt t1 t2 (sAx nt t1 L a) (sBx nt t2 L b) := totS_eq hV hF hPin h00 hG
    have wb : wrap (b + 1) = b + 1 := wrapI (by omega) (by omega)
    have pre : ∀ p q, prX nt t1 t2 L a (b + 1) p q ↔ (prX nt t1 t2 L a b p q ∨ (p = sAx nt t1 L a ∧ q = sBx nt t2 L b)) := fun p q => prX_next ha hb p q
    -- behind the least ones
    have fin : ∀ M', Off taS [] L M' → (∀ y, M' 27 y = Mi 27 y) → PnB c M' → (w = 1 → ∀ j s, 0 ≤ j → j < cN c → cDep c j ≠ -4 → 0 ≤ s → s < nS (cR c) → (okL c j s = true → isMinP c (ok1 c j s) nt t1 t2 (prX nt t1 t2 L a (b + 1)) (M' 36 (16 * j + s))) ∧ (okL c j s = false → M' 36 (16 * j + s) = FAR)) → (w = 0 → ∀ y, M' 36 y = L 36 y) → fCh_tryAllPins_105 (fCh_tryAllPins_61 k48 R (d + 1)) R w (smX nt t1) (grX nt t2) x4 x5 a b (totS c (okL c) (pinF nt t1 t2 (sAx nt t1 L a) (sBx nt t2 L b))) M' := by
      intro M' ho' e27 pb' hl' hl0
      have hbp := isBP_add h4 hcnd (prX_lex hV hG hA ha hb)
      unfold fCh_tryAllPins_105 fCh_tryAllPins_131
      rw [wb, e27, etot]
      refine ⟨fun q => ?_, fun q => ?_⟩
      · rw [if_pos q, if_pos q, if_pos q] at hbp
        refine ih (b + 1) a b _ (by omega) (by omega) ⟨ho'.mu (Or.inl (by decide)), fun y z => by rw [mu_place z, e27]; exact h2 y z, fun i i0 i1 hn => by rw [mu_cell (by decide)]; exact pb' i i0 i1 hn, ⟨sAx nt t1 L a, sBx nt t2 L b, ?_, fun _ => ⟨ha.1, ha.2, hb.1, hb.2, rfl, rfl⟩⟩, fun z j s j0 j1 hd s0 s1 => by rw [mu_cell (by decide)]; exact hl' z j s j0 j1 hd s0 s1, fun z y => by rw [mu_cell (by decide)]; exact hl0 z y⟩
        rw [mu_same]
        exact isBP_mono hbp (fun p q _ z => (pre p q).mp z) (fun p q _ z => (pre p q).mpr z)
      · rw [if_neg q, if_neg q, if_neg q] at hbp
        refine ih (b + 1) x4 x5 M' (by omega) (by omega) ⟨ho', fun y z => by rw [e27]; exact h2 y z, pb', ⟨fa, fb, ?_, fun z => h5 (by rw [e27] at z; exact z)⟩, hl', hl0⟩
        rw [e27]
        exact isBP_mono hbp (fun p q _ z => (pre p q).mp z) (fun p q _ z => (pre p q).mpr z)
    have e1127 : ∀ y, M11 27 y = Mi 27 y := fun y => by rw [o11.cell (by decide), o10.cell (by decide)]
    have e1136 : ∀ y, M11 36 y = Mi 36 y := fun y => by rw [o11.cell (by decide), o10.cell (by decide)]
    have pb11 : PnB c M11 := fun i i0 i1 hn => by rw [o11.cell (by decide)]; exact pb10 i i0 i1 hn
    refine ⟨fun z => fin M11 oB e1127 pb11 (fun q => by omega) (fun _ y => by rw [e1136]; exact h7 z y), fun z => ?_⟩
    refine s_walkForth hV hG (hC.off oB (by decide)) (hA.off oB (by decide)) px11 hPin hO11 (fun M13 o13 h13 => ?_)
    refine fin M13 (oB.tr (o13.mono (by decide) (by decide))) (fun y => by rw [o13.cell (by decide)]; exact e1127 y) (fun i i0 i1 hn => by rw [o13.cell (by decide)]; exact pb11 i i0 i1 hn) (fun z1 j s j0 j1 hd s0 s1 => ?_) (fun q => absurd q z)
    obtain ⟨g1, g2⟩ := h6 z1 j s j0 j1 hd s0 s1
    rw [h13 j s j0 j1 s0 s1, e1136]
    unfold noteV
    cases hc : cp c (okL c) (pinF nt t1 t2 (sAx nt t1 L a) (sBx nt t2 L b)) j s with
    | false =>
      rw [if_neg (fun q => absurd q.2 (by decide))]
      refine ⟨fun q => ?_, g2⟩
      have hm := isMinP_add (g1 q) (minP_none (a := sAx nt t1 L a) (b := sBx nt t2 L b) hG ⟨j0, j1⟩ q (fun y => by rw [hc] at y; exact absurd y.2 (by decide)))
      rw [if_neg (by have := (g1 q).1; omega)] at hm
      exact isMinP_mono hm (fun p q _ z => (pre p q).mp z) (fun p q _ z => (pre p q).mpr z)
    | true =>
      rw [if_pos (show cDep c j ≠ -4 ∧ true = true from ⟨hd, rfl⟩)]
      have hok := cp_ok hc
      refine ⟨fun q => ?_, fun q => by rw [hok] at q; exact absurd q (by decide)⟩
      obtain ⟨m1, m2⟩ := minP_one hV hG ⟨s0, s1⟩ ⟨j0, j1⟩ hcnd hc
      have hm := isMinP_add (g1 q) m1
      rw [m2] at hm
      exact isMinP_mono hm (fun p q _ z => (pre p q).mp z) (fun p q _ z => (pre p q).mpr z)
end X
