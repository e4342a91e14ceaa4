/-! x: choose, findLeast -/
section X
variable {c : Cf} {M : Mem} {R : Int → Mem → Prop} {i : Int} {pi : Int → Int} {nt t1 t2 : Int}
def BestX (c : Cf) (nt t1 t2 : Int) (M : Mem) : Prop := ∃ a b, isBest c (okL c) nt t1 t2 (M 27 16) a b ∧ ∀ j, 0 ≤ j → j < cN c → metX c (pinF nt t1 t2 a b) (M 39) j
def LeastX (c : Cf) (nt t1 t2 : Int) (M : Mem) : Prop := ∀ j s, 0 ≤ j → j < cN c → cDep c j ≠ -4 → 0 ≤ s → s < nS (cR c) → (okL c j s = true → isMinP c (ok1 c j s) nt t1 t2 (fun _ _ => True) (M 36 (16 * j + s))) ∧ (okL c j s = false → M 36 (16 * j + s) = FAR)
theorem s_try48 {w : Int} {L : Mem} (hV : VP c) (hG : TG c nt t1 t2) (hC : XC c L) (hA : LA c L) (hw : w = 0 ∨ w = 1)
    (h : ∀ M', Off taS [] L M' → (∀ y, y ≠ 16 → M' 27 y = L 27 y) → BestX c nt t1 t2 M' → (w = 1 → LeastX c nt t1 t2 M') → (w = 0 → ∀ y, M' 36 y = L 36 y) → R 0 M') : ∀ (d : Nat) (a x4 x5 : Int) (Mi : Mem), 0 ≤ a → a + d = nAx nt t1 L → TI c nt t1 t2 w L a 0 x4 x5 Mi → fCh_tryAllPins_48 R (d + 1) w (smX nt t1) (grX nt t2) x4 x5 a Mi := by
  have hN := hV.2.2.2.2.1
  have h16 := nS_le (cR c)
  have hFAR : FAR = 1000000000 := rfl
  have hF := Fe_okL hV
  have h00 : okL c 0 0 = true := okL0 hV ⟨by omega, by omega⟩ (by rw [hV.2.2.2.2.2.2.2.2.1]; decide)
  obtain ⟨-, -, l3, l4⟩ := en_lt hV hG hA
  intro d
  induction d with
  | zero =>
    intro a x4 x5 Mi a0 ad hT
    have e29 : nAx nt t1 Mi = nAx nt t1 L := by unfold nAx; rw [hT.1.cell (by decide)]
    obtain ⟨h1, h2, h3, ⟨fa, fb, h4, h5⟩, h6, h7⟩ := id hT
    have allP : ∀ p q, cnd c (okL c) nt t1 t2 p q → prX nt t1 t2 L a 0 p q := fun p q z => prX_end hV hG hA (by omega) z
    have hbest : isBest c (okL c) nt t1 t2 (Mi 27 16) fa fb := isBP_mono h4 (fun p q z _ => allP p q z) (fun _ _ _ _ => trivial)
    obtain ⟨hcnd, ev, v0, v1⟩ := best_fin hV hF h00 hG hbest
    obtain ⟨g1, g2, g3, g4, g5, g6⟩ := h5 (by omega)
    have hPin := cnd_pin hG hcnd
    unfold fCh_tryAllPins_48
    refine s_pinCountA hV hG ?_
    refine ⟨fun _ => s_pins (L := L) hV hG hA h3 (h1.cell (by decide)) ⟨g1, g2⟩ ⟨g3, g4⟩ (fun M5 o5 pb5 px5 => ?_), fun q => by omega⟩
    rw [g5, g6] at px5
    have oA : Off taS [] L M5 := h1.tr (o5.mono (by decide) (by decide))
    refine s_walkBack hV (hC.off oA (by decide)) (hA.off oA (by decide)) px5 hPin (fun M6 o6 hO6 => ?_)
    have oB : Off taS [] L M6 := oA.tr (o6.mono (by decide) (by decide))
    refine s_pick hV (hC.off oB (by decide)) (hA.off oB (by decide)) (px5.off o6 (by decide)) hPin hO6 (fun M7 o7 hm => ?_)
    have e27 : ∀ y, M7 27 y = Mi 27 y := fun y => by rw [o7.cell (by decide), o6.cell (by decide), o5.cell (by decide)]
    have e36 : ∀ y, M7 36 y = Mi 36 y := fun y => by rw [o7.cell (by decide), o6.cell (by decide), o5.cell (by decide)]
    refine h M7 (oB.tr (o7.mono (by decide) (by decide))) (fun y z => by rw [e27]; exact h2 y z) ⟨fa, fb, by rw [e27]; exact hbest, hm⟩ (fun z j s j0 j1 hd s0 s1 => ?_) (fun z y => by rw [e36]; exact h7 z y)
    obtain ⟨q1, q2⟩ := h6 z j s j0 j1 hd s0 s1
    rw [e36]
    refine ⟨fun q => isMinP_mono (q1 q) (fun p p' y _ => allP p p' (cnd_okL hG ⟨j0, j1⟩ q y).1) (fun _ _ _ _ => trivial), q2⟩
  | succ d ih =>
    intro a x4 x5 Mi a0 ad hT
    have e29 : nAx nt t1 Mi = nAx nt t1 L := by unfold nAx; rw [hT.1.cell (by decide)]
    have hb0 : 0 ≤ nBx nt t2 L := by
      unfold nBx
      by_cases z : nt = 2
      · rw [if_pos z]
        obtain ⟨p1, p2, p3⟩ := hG.2.2.1 z
        have p0 := hG.2.1 (by omega)
        exact (hA t2 (by omega) p2 (hV.2.2.2.2.2.2.2.2.2.2.2.1 t2 (by omega) p2 p3)).1.1
      · rw [if_neg z]; omega
    unfold fCh_tryAllPins_48
    refine s_pinCountA hV hG ?_
    exact ⟨fun q => by omega, fun _ => ⟨(nBx nt t2 L).toNat + 1, s_try61 hV hG hC hA hw ⟨a0, by omega⟩ (fun y4 y5 M' hT' => ih (a + 1) y4 y5 M' (by omega) (by omega) hT') _ 0 x4 x5 Mi (by omega) (by omega) hT⟩⟩
theorem s_tryAllPins {w : Int} (hV : VP c) (hG : TG c nt t1 t2) (hC : XC c M) (hA : LA c M) (hw : w = 0 ∨ w = 1) (hp : PnB c M) (hl : w = 1 → ∀ y, 0 ≤ y → y < 384 → M 36 y = FAR)
    (h : ∀ M', Off taS [] M M' → (∀ y, y ≠ 16 → M' 27 y = M 27 y) → BestX c nt t1 t2 M' → (w = 1 → LeastX c nt t1 t2 M') → (w = 0 → ∀ y, M' 36 y = M 36 y) → R 0 M') : fCh_tryAllPins w M R := by
  have hN := hV.2.2.2.2.1
  have h16 := nS_le (cR c)
  obtain ⟨n0, n1, n2, n3⟩ := id hG
  have o27 : Off [27] [] M (mu M 27 16 1000000000) := (Off.rf _ _ _).mu (Or.inl (by decide))
  have hC' := hC.off o27 (by decide)
  have hA' := hA.off o27 (by decide)
  obtain ⟨-, -, l3, l4⟩ := en_lt hV hG hA'
  have go : fCh_tryAllPins_30 R w (smX nt t1) (grX nt t2) M := by
    have hna : 0 ≤ nAx nt t1 (mu M 27 16 1000000000) := by
      unfold nAx
      by_cases z : 1 ≤ nt
      · rw [if_pos z]
        obtain ⟨p1, p2, p3⟩ := n1 z
        exact (hA' t1 p1 p2 (hV.2.2.2.2.2.2.2.2.2.2.2.1 t1 p1 p2 p3)).1.1
      · rw [if_neg z]; omega
    refine ⟨(nAx nt t1 (mu M 27 16 1000000000)).toNat + 1, s_try48 hV hG hC' hA' hw (fun M' q1 q2 q3 q4 q5 => h M' ((o27.mono (by decide) (by decide)).tr q1) (fun y z => by rw [q2 y z, mu_place z]) q3 q4 (fun z y => by rw [q5 z y, mu_cell (by decide)])) _ 0 (-4) (-4) _ (by omega) (by omega) ⟨Off.rf _ _ _, fun _ _ => rfl, fun i i0 i1 hn => by rw [mu_cell (by decide)]; exact hp i i0 i1 hn, ⟨0, 0, Or.inl ⟨mu_same _ _ _ _, rfl, rfl, fun a' b' _ q => ?_⟩, fun q => ?_⟩, fun z j s j0 j1 hd s0 s1 => ?_, fun _ _ => rfl⟩⟩
    · obtain ⟨x, y, y1, y2, y3, y4, y5, y6, y7⟩ := q; omega
    · rw [mu_same] at q; exact absurd q (by decide)
    · rw [mu_cell (by decide), hl z _ (by omega) (by omega)]
      refine ⟨fun _ => ⟨Int.le_refl _, fun a' b' _ q => ?_, Or.inl rfl⟩, fun _ => rfl⟩
      obtain ⟨x, y, y1, y2, y3, y4, y5, y6, y7⟩ := q; omega
  unfold fCh_tryAllPins
  refine s_targetFrom hV hC ⟨by omega, by omega⟩ (fun hno => ?_) (fun j j0 j1 jt jk => ?_)
  · have z : nt = 0 := by
      rcases n0 with z | z | z
      · exact z
      · exact absurd (n1 (by omega)).2.2 (hno t1 (n1 (by omega)).1 (n1 (by omega)).2.1)
      · exact absurd (n1 (by omega)).2.2 (hno t1 (n1 (by omega)).1 (n1 (by omega)).2.1)
    refine ⟨fun q => absurd rfl q, fun _ => ?_⟩
    have e1 : smX nt t1 = -4 := by unfold smX; rw [if_neg (by omega)]
    have e2 : grX nt t2 = -4 := by unfold grX; rw [if_neg (by omega)]
    rw [e1, e2] at go; exact go
  · have hn1 : 1 ≤ nt := by
      rcases n3 j j0 j1 jt with ⟨z, -⟩ | ⟨z, -⟩ <;> omega
    obtain ⟨p1, p2, p3⟩ := n1 hn1
    have ej : j = t1 := by
      rcases n3 j j0 j1 jt with ⟨-, z⟩ | ⟨z, z'⟩
      · exact z
      · have := n2 z
        exact absurd p3 (jk t1 p1 (by omega))
    have e1 : smX nt t1 = t1 := by unfold smX; rw [if_pos hn1]
    refine ⟨fun _ => ?_, fun q => by omega⟩
    rw [wrapI (z := j + 1) (by omega) (by omega), ej]
    refine s_targetFrom hV hC ⟨by omega, by omega⟩ (fun hno => ?_) (fun k k0 k1 kt kk => ?_)
    · have z : nt ≠ 2 := fun q => by
        obtain ⟨r1, r2, r3⟩ := n2 q
        exact hno t2 (by omega) r2 r3
      have e2 : grX nt t2 = -4 := by unfold grX; rw [if_neg z]
      rw [e1, e2] at go; exact go
    · have hk : nt = 2 ∧ k = t2 := by
        rcases n3 k (by omega) k1 kt with ⟨-, z⟩ | z
        · omega
        · exact z
      have e2 : grX nt t2 = t2 := by unfold grX; rw [if_pos hk.1]
      rw [e1, e2] at go; rw [hk.2]; exact go
abbrev chS : List Nat := [27, 28, 29, 30, 31, 32, 33, 34, 35, 36, 37, 38, 39]
theorem PnB_prep (hz : M 37 0 = 0) (hj : ∀ j, 0 < j → j < 24 → M 37 j = -4) : PnB c M := by
  intro i i0 i1 _
  by_cases e : i = 0
  · rw [e, if_pos rfl]; exact hz
  · rw [if_neg e]; exact hj i (by omega) i1
/-- what x knows of its choices -/
def KX (c : Cf) (nt t1 t2 : Int) (M : Mem) : Prop := (M 27 17 = 0 ∨ (M 27 17 = 1 ∧ BestX c nt t1 t2 M)) ∧ (M 27 18 = 0 ∨ (M 27 18 = 1 ∧ M 27 17 = 1 ∧ LeastX c nt t1 t2 M))
theorem s_choose (hV : VP c) (hG : TG c nt t1 t2) (hC : XC c M) (hK : KX c nt t1 t2 M) (h : ∀ M', Off chS [] M M' → KX c nt t1 t2 M' → M' 27 17 = 1 → BestX c nt t1 t2 M' → R 0 M') : fCh_choose M R := by
  refine ⟨fun z => ?_, fun z => ?_⟩
  · refine s_prepare hV hC (fun M1 o1 la z0 zj => s_tryAllPins hV hG (hC.off o1 (by decide)) la (Or.inl rfl) (PnB_prep z0 zj) (fun q => absurd q (by decide)) (fun M2 o2 e27 hB _ _ => ?_))
    have e18 : M2 27 18 = M 27 18 := by rw [e27 18 (by decide), o1.cell (by decide)]
    have hk18 : M 27 18 = 0 := by
      rcases hK.2 with q | ⟨_, q, _⟩
      · exact q
      · rw [z] at q; exact absurd q (by decide)
    have hB' : BestX c nt t1 t2 (mu M2 27 17 1) := by
      obtain ⟨a, b, q1, q2⟩ := hB
      exact ⟨a, b, by rw [mu_place (by decide)]; exact q1, by rw [mu_fun (by decide)]; exact q2⟩
    refine h _ (((o1.mono (by decide) (by decide)).tr (o2.mono (by decide) (by decide))).mu (Or.inl (by decide))) ⟨Or.inr ⟨mu_same _ _ _ _, hB'⟩, Or.inl (by rw [mu_place (by decide), e18]; exact hk18)⟩ (mu_same _ _ _ _) hB'
  · rcases hK.1 with q | ⟨q1, q2⟩
    · exact absurd q z
    · exact h M (Off.rf _ _ _) hK q1 q2
theorem s_findLeast (hV : VP c) (hG : TG c nt t1 t2) (hC : XC c M) (hK : KX c nt t1 t2 M) (h : ∀ M', Off chS [] M M' → KX c nt t1 t2 M' → LeastX c nt t1 t2 M' → M' 27 17 = 1 → R 0 M') : fCh_findLeast M R := by
  refine ⟨fun z => ?_, fun z => ?_⟩
  · refine s_prepare hV hC (fun M1 o1 la z0 zj => s_fill36 (fun M2 o2 hz => ?_))
    have o12 : Off chS [] M M2 := (o1.mono (by decide) (by decide)).tr (o2.mono (by decide) (by decide))
    have pb : PnB c M2 := PnB_prep (by rw [o2.cell (by decide)]; exact z0) (fun j a b => by rw [o2.cell (by decide)]; exact zj j a b)
    refine s_tryAllPins hV hG (hC.off o12 (by decide)) (la.off o2 (by decide)) (Or.inr rfl) pb (fun _ => hz) (fun M3 o3 e27 hB hL _ => ?_)
    have hL' : LeastX c nt t1 t2 (mu (mu M3 27 17 1) 27 18 1) := fun j s j0 j1 hd s0 s1 => by
      rw [mu_cell (by decide), mu_cell (by decide)]; exact hL rfl j s j0 j1 hd s0 s1
    have hB' : BestX c nt t1 t2 (mu (mu M3 27 17 1) 27 18 1) := by
      obtain ⟨a, b, q1, q2⟩ := hB
      exact ⟨a, b, by rw [mu_place (by decide), mu_place (by decide)]; exact q1, by rw [mu_fun (by decide), mu_fun (by decide)]; exact q2⟩
    have e17 : (mu (mu M3 27 17 1) 27 18 1) 27 17 = 1 := by rw [mu_place (by decide), mu_same]
    exact h _ (((o12.tr (o3.mono (by decide) (by decide))).mu (Or.inl (by decide))).mu (Or.inl (by decide))) ⟨Or.inr ⟨e17, hB'⟩, Or.inr ⟨mu_same _ _ _ _, e17, hL'⟩⟩ hL' e17
  · rcases hK.2 with q | ⟨q1, q2, q3⟩
    · exact absurd q z
    · exact h M (Off.rf _ _ _) hK q3 q2
end X
