/-! x: walkForth -/
section X
variable {c : Cf} {M : Mem} {R : Int → Mem → Prop} {i : Int} {pi : Int → Int} {nt t1 t2 : Int}
def BX (M : Mem) : Int → Int → Int := fun i s => M 35 (16 * i + s)
theorem isBk_congr {ok : Int → Int → Bool} {B B' : Int → Int → Int} {j : Int} (h : isBk c ok pi B j) (hr : hdI c j → 0 ≤ hdP c pi j ∧ hdP c pi j < nS (cR c)) (e1 : ∀ s, 0 ≤ s → s < nS (cR c) → B' j s = B j s) (e2 : ¬ hdI c j → ∀ s, 0 ≤ s → s < nS (cR c) → B' (j - 1) s = B (j - 1) s) : isBk c ok pi B' j := by
  refine ⟨fun q => by rw [e1 _ (hr q).1 (hr q).2]; exact h.1 q, fun q t t0 t1 t2 => ?_⟩
  rw [e1 t t0 t1]
  exact isMin_congr (h.2 q t t0 t1 t2) (fun _ _ _ => rfl) (fun s s0 s1 _ => by rw [e2 q s s0 s1])
def noteV (c : Cf) (pi : Int → Int) (m : Int) (j s : Int) : Int := if cDep c j ≠ -4 ∧ cp c (okL c) pi j s = true then (if totS c (ok1 c j s) pi < m then totS c (ok1 c j s) pi else m) else m
abbrev wfS : List Nat := [35, 36, 38]
theorem s_walkForth (hV : VP c) (hG : TG c nt t1 t2) (hC : XC c M) (hA : LA c M) (hX : PnX c pi M) (hP : PinOK c (okL c) pi) (hO : ∀ j, 0 ≤ j → j < cN c → OnX c pi M j)
    (h : ∀ M', Off wfS [] M M' → (∀ j s, 0 ≤ j → j < cN c → 0 ≤ s → s < nS (cR c) → M' 36 (16 * j + s) = noteV c pi (M 36 (16 * j + s)) j s) → R 0 M') : fCh_walkForth (totS c (okL c) pi) M R := by
  have hN := hV.2.2.2.2.1
  have h16 := nS_le (cR c)
  have hFAR : FAR = 1000000000 := rfl
  have hF := Fe_okL hV
  have h00 : okL c 0 0 = true := okL0 hV ⟨by omega, by omega⟩ (by rw [hV.2.2.2.2.2.2.2.2.1]; decide)
  have htot := totM_fin hV hF hP h00 hG
  rw [← totS_eq hV hF hP h00 hG] at htot
  have hrd : ∀ j, 0 ≤ j → j < cN c → cDep c j ≠ -4 → hdI c j → 0 ≤ hdP c pi j ∧ hdP c pi j < nS (cR c) ∧ cp c (okL c) pi j (hdP c pi j) = true := fun j a b d q => by
    obtain ⟨p1, p2, p3, p4⟩ := hdP_ok hV hF hP h00 ⟨a, b⟩ (hdI_pin hV ⟨a, b⟩ d q)
    exact ⟨p1, p2, p3⟩
  have key : ∀ (d : Nat) (x o : Int) (Mi : Mem), 0 ≤ x → x + d = cN c → Off wfS [] M Mi → (∀ j, 0 ≤ j → j < x → cDep c j ≠ -4 → isBk c (okL c) pi (BX Mi) j) → (x < cN c → ¬ hdI c x → (∀ t, 0 ≤ t → t < nS (cR c) → cp c (okL c) pi x t = true → isMin (cp c (okL c) pi (x - 1)) (fun s => BX Mi (x - 1) s + bs c pi (x - 1) s + cW c (x - 1) * cPs c (cAf c (x - 1) s) t) (nS (cR c)) (BX Mi x t)) ∧ ∃ g, 0 ≤ g ∧ g < x ∧ hdI c g ∧ (∀ j, g < j → j < x → ¬ hdI c j) ∧ o = totS c (okL c) pi - On c (okL c) pi g (hdP c pi g)) → (∀ j s, 0 ≤ j → j < x → 0 ≤ s → s < nS (cR c) → Mi 36 (16 * j + s) = noteV c pi (M 36 (16 * j + s)) j s) → (∀ y, 16 * x ≤ y → Mi 36 y = M 36 y) → fCh_walkForth_4 R (d + 1) (totS c (okL c) pi) o x Mi := by
    intro d
    induction d with
    | zero =>
      intro x o Mi x0 xd ho i1 i2 i3 i4
      have e13 : Mi 13 6 = cN c := (hC.off ho (by decide)).1
      exact ⟨fun _ => h Mi ho (fun j s a b => i3 j s a (by omega)), fun q => by rw [e13] at q; omega⟩
    | succ d ih =>
      intro x o Mi x0 xd ho i1 i2 i3 i4
      have xN : x < cN c := by omega
      have x24 : inb x 24 := ⟨by omega, by omega⟩
      have hCi := hC.off ho (by decide)
      have w1 : wrap (x + 1) = x + 1 := wrapI (by omega) (by omega)
      have e13 : Mi 13 6 = cN c := hCi.1
      -- behind the head
      have body : ∀ (M2 : Mem) (o2 g : Int), cDep c x ≠ -4 → Off wfS [] M M2 → (∀ y, M2 36 y = Mi 36 y) → (∀ j, 0 ≤ j → j ≤ x → cDep c j ≠ -4 → isBk c (okL c) pi (BX M2) j) → 0 ≤ g → g ≤ x → hdI c g → (∀ j, g < j → j ≤ x → ¬ hdI c j) → o2 = totS c (okL c) pi - On c (okL c) pi g (hdP c pi g) → fCh_walkForth_71 (fCh_walkForth_4 R (d + 1)) R (totS c (okL c) pi) o2 x M2 := by
        intro M2 o2 g hd ho2 e36 hbk g0 g1 hg hbt eo
        have hC2 := hC.off ho2 (by decide)
        have hA2 := hA.off ho2 (by decide)
        have hX2 := hX.off ho2 (by decide)
        have hgr : cDep c g ≠ -4 := by
          by_cases z : g = x
          · rw [z]; exact hd
          · have := (hdI_not (hbt (g + 1) (by omega) (by omega))).2.1
            rwa [show g + 1 - 1 = g from by omega] at this
        obtain ⟨p1, p2, p3⟩ := hrd g g0 (by omega) hgr hg
        have hong := On_in hV hF hP (i := g) ⟨g0, by omega⟩ ⟨p1, p2⟩ (cp_ok p3)
        have hB : ∀ s, 0 ≤ s → s < nS (cR c) → cp c (okL c) pi x s = true → 0 ≤ M2 35 (16 * x + s) ∧ M2 35 (16 * x + s) ≤ 10000000 := fun s s0 s1 s2 => by
          have := B_in (B := BX M2) hV hF hP h00 x.toNat x s (by omega) xN hd (fun j a b e => hbk j a b e) s0 s1 s2
          unfold BX at this
          omega
        refine s_noteLeast hV hC2 hA2 hX2 hP ⟨x0, xN⟩ hd (fun q s s0 s1 s2 => by rw [ho2.cell (by decide)]; exact hO x x0 xN q s s0 s1 s2) hB ⟨by omega, by omega⟩ (fun M3 ho3 hy3 h3 => ?_)
        have ho3' : Off wfS [] M M3 := ho2.tr (ho3.mono (by decide) (by decide))
        have j3 : ∀ j s, 0 ≤ j → j < x + 1 → 0 ≤ s → s < nS (cR c) → M3 36 (16 * j + s) = noteV c pi (M 36 (16 * j + s)) j s := by
          intro j s j0 j1 s0 s1
          by_cases z : j = x
          · rw [z, h3 s s0 s1, e36, i4 _ (by omega)]
            unfold noteV
            cases hc : cp c (okL c) pi x s with
            | false => rw [if_neg (by decide), if_neg (fun q => absurd q.2 (by decide))]
            | true =>
              rw [if_pos (show true = true from rfl), if_pos (show cDep c x ≠ -4 ∧ true = true from ⟨hd, rfl⟩)]
              have le := least_eq (B := BX M2) hV hP ⟨x0, xN⟩ hd ⟨s0, s1⟩ hc hbk ⟨g0, g1⟩ hg hbt
              rw [← eo] at le
              rw [le]
              rfl
          · rw [hy3 _ (by omega), e36]
            exact i3 j s j0 (by omega) s0 s1
        have j4 : ∀ y, 16 * (x + 1) ≤ y → M3 36 y = M 36 y := fun y q => by rw [hy3 y (by omega), e36, i4 y (by omega)]
        have bx3 : ∀ i s, BX M3 i s = BX M2 i s := fun i s => by unfold BX; exact ho3.cell (by decide) _
        refine s_falls hV (hC.off ho3' (by decide)) ⟨x0, xN⟩ ⟨fun hf => ⟨fun z => absurd z (by decide), fun _ => ?_⟩, fun hf => ⟨fun _ => ?_, fun z => absurd rfl z⟩⟩
        · have hlt := fal_lt hf
          have hB3 : ∀ s, 0 ≤ s → s < nS (cR c) → cp c (okL c) pi x s = true → 0 ≤ M3 35 (16 * x + s) ∧ M3 35 (16 * x + s) ≤ 10000000 := fun s s0 s1 s2 => by
            have : M3 35 (16 * x + s) = M2 35 (16 * x + s) := ho3.cell (by decide) _
            rw [this]; exact hB s s0 s1 s2
          refine s_carryForth hV (hC.off ho3' (by decide)) (hA.off ho3' (by decide)) (hX.off ho3' (by decide)) hP ⟨x0, xN⟩ hd hf hB3 (fun M4 ho4 hy4 h4 => ?_)
          have ho4' : Off wfS [] M M4 := ho3'.tr (ho4.mono (by decide) (by decide))
          have e436 : ∀ y, M4 36 y = M3 36 y := ho4.cell (by decide)
          unfold fCh_walkForth_93
          rw [w1]
          refine ih (x + 1) o2 M4 (by omega) (by omega) ho4' (fun j a b e => ?_) (fun _ _ => ⟨fun t q0 q1 q2 => ?_, g, g0, by omega, hg, fun j a b => hbt j a (by omega), eo⟩) (fun j s a b s0 s1 => by rw [e436]; exact j3 j s a b s0 s1) (fun y q => by rw [e436]; exact j4 y q)
          · refine isBk_congr (hbk j a (by omega) e) (fun q => ⟨(hrd j a (by omega) e q).1, (hrd j a (by omega) e q).2.1⟩) (fun s s0 s1 => ?_) (fun q s s0 s1 => ?_)
            · show M4 35 (16 * j + s) = _
              rw [hy4 _ (by omega)]; exact bx3 j s
            · show M4 35 (16 * (j - 1) + s) = _
              rw [hy4 _ (by omega)]; exact bx3 (j - 1) s
          · rw [show x + 1 - 1 = x from by omega]
            refine isMin_congr (h4 t q0 q1 q2) (fun _ _ _ => rfl) (fun s s0 s1 _ => ?_)
            have : M4 35 (16 * x + s) = M3 35 (16 * x + s) := hy4 _ (by omega)
            simp only [BX]
            rw [this]
        · unfold fCh_walkForth_93
          rw [w1]
          refine ih (x + 1) o2 M3 (by omega) (by omega) ho3' (fun j a b e => ?_) (fun _ q => absurd (Or.inr (Or.inr (by rw [show x + 1 - 1 = x from by omega]; exact hf))) q) j3 j4
          exact isBk_congr (hbk j a (by omega) e) (fun q => ⟨(hrd j a (by omega) e q).1, (hrd j a (by omega) e q).2.1⟩) (fun s s0 s1 => bx3 j s) (fun q s s0 s1 => bx3 (j - 1) s)
      unfold fCh_walkForth_4
      rw [e13]
      refine ⟨fun q => by omega, fun _ => s_isReached hV hCi ⟨x0, xN⟩ ⟨fun hd => ⟨fun _ => ?_, fun z => absurd z (by decide)⟩, fun hd => ⟨fun z => absurd rfl z, fun _ => ?_⟩⟩⟩
      · refine s_isHead hV hCi ⟨x0, xN⟩ ⟨fun hh => ⟨fun z => absurd z (by decide), fun _ => ?_⟩, fun hh => ⟨fun _ => ?_, fun z => absurd rfl z⟩⟩
        · -- a head
          have hpin := hdI_pin hV (i := x) ⟨x0, xN⟩ hd hh
          obtain ⟨p1, p2, p3⟩ := hrd x x0 xN hd hh
          have hon := On_in hV hF hP (i := x) ⟨x0, xN⟩ ⟨p1, p2⟩ (cp_ok p3)
          have wx : wrap (wrap (x * 16) + hdP c pi x) = 16 * x + hdP c pi x := by rw [wrapI (z := x * 16) (by omega) (by omega), wrapI (by omega) (by omega)]; omega
          have e37 : Mi 37 x = hdP c pi x := (hX.off ho (by decide)).at ⟨x0, xN, hN.2⟩ hpin
          have e34 : Mi 34 (16 * x + hdP c pi x) = On c (okL c) pi x (hdP c pi x) := by rw [ho.cell (by decide)]; exact hO x x0 xN hd _ p1 p2 p3
          rw [e37, wx, e34, wrapI (z := totS c (okL c) pi - On c (okL c) pi x (hdP c pi x)) (by omega) (by omega)]
          refine ⟨x24, ⟨by omega, by omega⟩, ⟨by omega, by omega⟩, body _ _ x hd (ho.mu (Or.inl (by decide))) (fun y => mu_cell (by decide)) (fun j a b e => ?_) x0 (by omega) hh (fun j a b => by omega) rfl⟩
          by_cases z : j = x
          · rw [z]
            exact ⟨fun _ => mu_same _ _ _ _, fun q => absurd hh q⟩
          · refine isBk_congr (i1 j a (by omega) e) (fun q => ⟨(hrd j a (by omega) e q).1, (hrd j a (by omega) e q).2.1⟩) (fun s s0 s1 => ?_) (fun q s s0 s1 => ?_)
            · show (mu Mi 35 _ 0) 35 (16 * j + s) = _
              rw [mu_place (by omega)]; rfl
            · show (mu Mi 35 _ 0) 35 (16 * (j - 1) + s) = _
              rw [mu_place (by omega)]; rfl
        · -- none
          obtain ⟨q1, g, g0, g1, hg, hbt, eo⟩ := i2 xN hh
          refine body Mi o g hd ho (fun _ => rfl) (fun j a b e => ?_) g0 (by omega) hg (fun j a b => ?_) eo
          · by_cases z : j = x
            · rw [z]; exact ⟨fun q => absurd q hh, fun _ => q1⟩
            · exact i1 j a (by omega) e
          · by_cases z : j = x
            · rw [z]; exact hh
            · exact hbt j a (by omega)
      · unfold fCh_walkForth_93
        rw [w1]
        refine ih (x + 1) o Mi (by omega) (by omega) ho (fun j a b e => ?_) (fun _ q => absurd (Or.inr (Or.inl (by rw [show x + 1 - 1 = x from by omega]; exact hd))) q) (fun j s a b s0 s1 => ?_) (fun y q => i4 y (by omega))
        · have : j ≠ x := fun z => by rw [z] at e; exact e hd
          exact i1 j a (by omega) e
        · by_cases z : j = x
          · rw [z, i4 _ (by omega)]
            unfold noteV
            rw [if_neg (fun q => q.1 hd)]
          · exact i3 j s a (by omega) s0 s1
  exact ⟨(cN c).toNat + 1, key _ 0 0 M (by omega) (by omega) (Off.rf _ _ _) (fun j a b => by omega) (fun _ q => absurd (Or.inl rfl) q) (fun j s a b => by omega) (fun _ _ => rfl)⟩
end X
