/-! x: walkBack, total, pick -/
section X
variable {c : Cf} {M : Mem} {R : Int → Mem → Prop} {i : Int} {pi : Int → Int}
/-- what is known of an instruction behind -/
def OnX (c : Cf) (pi : Int → Int) (M : Mem) (j : Int) : Prop := cDep c j ≠ -4 → ∀ s, 0 ≤ s → s < nS (cR c) → cp c (okL c) pi j s = true → M 34 (16 * j + s) = On c (okL c) pi j s
abbrev wbS : List Nat := [34, 38]
theorem s_walkBack (hV : VP c) (hC : XC c M) (hA : LA c M) (hX : PnX c pi M) (hP : PinOK c (okL c) pi) (h : ∀ M', Off wbS [] M M' → (∀ j, 0 ≤ j → j < cN c → OnX c pi M' j) → R 0 M') : fCh_walkBack M R := by
  have hN := hV.2.2.2.2.1
  have h16 := nS_le (cR c)
  have hF := Fe_okL hV
  have h00 : okL c 0 0 = true := okL0 hV ⟨by omega, by omega⟩ (by rw [hV.2.2.2.2.2.2.2.2.1]; decide)
  unfold fCh_walkBack
  rw [hC.1, wrapI (z := cN c - 1) (by omega) (by omega)]
  have key : ∀ (d : Nat) (x : Int) (Mi : Mem), x + 1 = d → x < cN c → Off wbS [] M Mi → (∀ j, x < j → j < cN c → OnX c pi Mi j) → fCh_walkBack_10 R (d + 1) x Mi := by
    intro d
    induction d with
    | zero =>
      intro x Mi xd xN ho hO
      exact ⟨fun _ => h Mi ho (fun j a b => hO j (by omega) b), fun q => by omega⟩
    | succ d ih =>
      intro x Mi xd xN ho hO
      have hCi := hC.off ho (by decide)
      have hAi := hA.off ho (by decide)
      have hXi := hX.off ho (by decide)
      have x24 : inb x 24 := ⟨by omega, by omega⟩
      have wx : wrap (x * 16) = 16 * x := by rw [wrapI (by omega) (by omega)]; omega
      have next : ∀ M', Off wbS [] Mi M' → OnX c pi M' x → (∀ y, 16 * x + 16 ≤ y → M' 34 y = Mi 34 y) → fCh_walkBack_181 (fCh_walkBack_10 R (d + 1)) R x M' := by
        intro M' ho' hx hy
        unfold fCh_walkBack_181
        rw [wrapI (z := x + -1) (by omega) (by omega), show x + -1 = x - 1 from by omega]
        refine ih (x - 1) M' (by omega) (by omega) (ho.tr ho') (fun j a b => ?_)
        by_cases z : j = x
        · rw [z]; exact hx
        · intro q1 s q2 q3 q4
          rw [hy _ (by omega)]
          exact hO j (by omega) b q1 s q2 q3 q4
      unfold fCh_walkBack_10
      refine ⟨fun q => by omega, fun _ => s_isReached hV hCi ⟨by omega, xN⟩ ⟨fun hd => ⟨fun _ => ⟨x24, ?_⟩, fun z => absurd z (by decide)⟩, fun hd => ⟨fun z => absurd rfl z, fun _ => next Mi (Off.rf _ _ _) (fun q => absurd hd q) (fun _ _ => rfl)⟩⟩⟩
      rw [wx]
      obtain ⟨a1, a2, a3, a4, a5, a6⟩ := hAi x (by omega) xN hd
      have hOn : fal c x = true → ∀ t, 0 ≤ t → t < nS (cR c) → cp c (okL c) pi (x + 1) t = true → Mi 34 (16 * (x + 1) + t) = On c (okL c) pi (x + 1) t := fun hf t t0 t1 t2 => hO (x + 1) (by omega) (fal_lt hf) (hV.2.2.2.2.2.2.2.2.2.2.1 x (by omega) xN hd hf) t t0 t1 t2
      by_cases hp : x = 0 ∨ cTg c x = 1
      · -- it is pinned
        rw [hXi.at ⟨by omega, xN, hN.2⟩ hp]
        obtain ⟨p1, p2, p3, p4⟩ := hdP_ok hV hF hP h00 (i := x) ⟨by omega, xN⟩ hp
        obtain ⟨-, e32, e33, -⟩ := a4 _ p1 p2 (cp_ok p3)
        refine ⟨fun q => by omega, fun _ => ?_⟩
        rw [wrapI (z := 16 * x + hdP c pi x) (by omega) (by omega), e32, e33]
        refine ⟨x24, ⟨by omega, by omega⟩, ⟨by omega, by omega⟩, s_leaving hV hCi hAi hXi hP ⟨by omega, xN⟩ hd (afP hV ⟨by omega, xN⟩ ⟨p1, p2⟩) hOn (fun v v0 v1 hv => ⟨⟨by omega, by omega⟩, ?_⟩)⟩
        have hvc := vc_in (s := hdP c pi x) hV (i := x) ⟨by omega, xN⟩
        rw [wrapI (z := cW c x * cVc c x (hdP c pi x) + v) (by omega) (by omega), isLv_on hV hP ⟨by omega, xN⟩ ⟨p1, p2⟩ (cp_ok p3) hv]
        refine next _ ((Off.rf _ _ _).mu (Or.inl (by decide))) (fun _ s q2 q3 q4 => ?_) (fun y hy => mu_place (by omega))
        rw [p4 s q4]; exact mu_same _ _ _ _
      · -- it is not
        have hp0 : x ≠ 0 ∧ cTg c x ≠ 1 := ⟨fun q => hp (Or.inl q), fun q => hp (Or.inr q)⟩
        rw [hXi.free ⟨by omega, xN, hN.2⟩ hp0.2]
        refine ⟨fun _ => ⟨(Mi 31 x).toNat + 1, ?_⟩, fun q => absurd rfl q⟩
        -- the states
        have lst : ∀ Mz, Off [38] [] Mi Mz → (∀ k, 0 ≤ k → k < Mi 31 x → isLv c pi x (Mi 30 (16 * x + k)) (Mz 38 (Mi 30 (16 * x + k))) ∧ 0 ≤ Mz 38 (Mi 30 (16 * x + k)) ∧ Mz 38 (Mi 30 (16 * x + k)) ≤ 158000000) → ∀ (e : Nat) (k : Int) (Mk : Mem), 0 ≤ k → k + e = Mi 29 x → Off [34] [] Mz Mk → (∀ y, 16 * x + 16 ≤ y → Mk 34 y = Mi 34 y) → (∀ k', 0 ≤ k' → k' < k → Mk 34 (16 * x + Mi 28 (16 * x + k')) = On c (okL c) pi x (Mi 28 (16 * x + k'))) → fCh_walkBack_126 (fCh_walkBack_10 R (d + 1)) R (e + 1) x (16 * x) k Mk := by
          intro Mz hoz hz e
          induction e with
          | zero =>
            intro k Mk k0 ke hok hy hk
            have hoA : Off wbS [] Mi Mk := (hoz.mono (by decide) (by decide)).tr (hok.mono (by decide) (by decide))
            have e29 : Mk 29 x = Mi 29 x := hoA.cell (by decide) _
            refine ⟨x24, fun _ => next Mk hoA (fun _ s q2 q3 q4 => ?_) hy, fun q => by omega⟩
            obtain ⟨⟨k', b1, b2, b3⟩, -⟩ := a4 s q2 q3 (cp_ok q4)
            have := hk k' b1 (by omega)
            rw [b3] at this; exact this
          | succ e ihe =>
            intro k Mk k0 ke hok hy hk
            have hoA : Off wbS [] Mi Mk := (hoz.mono (by decide) (by decide)).tr (hok.mono (by decide) (by decide))
            have e29 : Mk 29 x = Mi 29 x := hoA.cell (by decide) _
            have e28 : ∀ y, Mk 28 y = Mi 28 y := hoA.cell (by decide)
            have e32 : ∀ y, Mk 32 y = Mi 32 y := hoA.cell (by decide)
            have e33 : ∀ y, Mk 33 y = Mi 33 y := hoA.cell (by decide)
            have e38 : ∀ y, Mk 38 y = Mz 38 y := hok.cell (by decide)
            obtain ⟨q1, q2, q3⟩ := a2 k k0 (by omega)
            obtain ⟨-, f32, f33, k2, g1, g2, g3⟩ := a4 _ q1 q2 q3
            have haf := afP hV (i := x) ⟨by omega, xN⟩ ⟨q1, q2⟩
            refine ⟨x24, fun q => by omega, fun _ => ?_⟩
            rw [wrapI (z := 16 * x + k) (by omega) (by omega), e28, wrapI (z := 16 * x + Mi 28 (16 * x + k)) (by omega) (by omega), e32, f32, e33, f33, e38, wrapI (z := k + 1) (by omega) (by omega)]
            obtain ⟨l1, l2, l3⟩ := hz k2 g1 g2
            rw [g3] at l1 l2 l3
            have hvc := vc_in (s := Mi 28 (16 * x + k)) hV (i := x) ⟨by omega, xN⟩
            rw [wrapI (z := cW c x * cVc c x (Mi 28 (16 * x + k)) + Mz 38 (cAf c x (Mi 28 (16 * x + k)))) (by omega) (by omega), isLv_on hV hP ⟨by omega, xN⟩ ⟨q1, q2⟩ q3 l1]
            refine ⟨⟨by omega, by omega⟩, ⟨by omega, by omega⟩, ⟨by omega, by omega⟩, ⟨by omega, by omega⟩, ⟨by omega, by omega⟩, ihe (k + 1) _ (by omega) (by omega) (hok.mu (Or.inl (by decide))) (fun y z => by rw [mu_place (by omega)]; exact hy y z) (fun k' z1 z2 => ?_)⟩
            by_cases z : k' = k
            · rw [z]; exact mu_same _ _ _ _
            · have := a3 k' k z1 (by omega) (by omega)
              rw [mu_place (by omega)]; exact hk k' z1 (by omega)
        -- the exits
        have exs : ∀ (e : Nat) (k : Int) (Mk : Mem), 0 ≤ k → k + e = Mi 31 x → Off [38] [] Mi Mk → (∀ k', 0 ≤ k' → k' < k → isLv c pi x (Mi 30 (16 * x + k')) (Mk 38 (Mi 30 (16 * x + k'))) ∧ 0 ≤ Mk 38 (Mi 30 (16 * x + k')) ∧ Mk 38 (Mi 30 (16 * x + k')) ≤ 158000000) → fCh_walkBack_82 (fCh_walkBack_10 R (d + 1)) R (e + 1) x (16 * x) k Mk := by
          intro e
          induction e with
          | zero =>
            intro k Mk k0 ke hok hk
            have e31 : Mk 31 x = Mi 31 x := hok.cell (by decide) _
            refine ⟨x24, fun _ => ⟨(Mi 29 x).toNat + 1, lst Mk hok (fun k' z1 z2 => hk k' z1 (by omega)) _ 0 Mk (by omega) (by omega) (Off.rf _ _ _) (fun y _ => hok.cell (by decide) y) (fun k' z1 z2 => by omega)⟩, fun q => by omega⟩
          | succ e ihe =>
            intro k Mk k0 ke hok hk
            have e31 : Mk 31 x = Mi 31 x := hok.cell (by decide) _
            have e30 : ∀ y, Mk 30 y = Mi 30 y := hok.cell (by decide)
            obtain ⟨s, q1, q2, q3, q4⟩ := a6 k k0 (by omega)
            have haf := afP hV (i := x) ⟨by omega, xN⟩ ⟨q1, q2⟩
            refine ⟨x24, fun q => by omega, fun _ => ?_⟩
            rw [wrapI (z := 16 * x + k) (by omega) (by omega), e30, wrapI (z := k + 1) (by omega) (by omega)]
            refine ⟨⟨by omega, by omega⟩, ⟨by omega, by omega⟩, s_leaving hV (hCi.off hok (by decide)) (hAi.off hok (by decide)) (hXi.off hok (by decide)) hP ⟨by omega, xN⟩ hd (by rw [q4]; exact haf) (fun hf t t0 t1 t2 => by rw [hok.cell (by decide)]; exact hOn hf t t0 t1 t2) (fun v v0 v1 hv => ⟨⟨by omega, by omega⟩, ihe (k + 1) _ (by omega) (by omega) (hok.mu (Or.inl (by decide))) (fun k' z1 z2 => ?_)⟩)⟩
            by_cases z : Mi 30 (16 * x + k') = Mi 30 (16 * x + k)
            · rw [z, mu_same]; exact ⟨hv, v0, v1⟩
            · have zz : k' ≠ k := fun y => z (by rw [y])
              rw [mu_place z]; exact hk k' z1 (by omega)
        exact exs _ 0 Mi (by omega) (by omega) (Off.rf _ _ _) (fun k' z1 z2 => by omega)
  exact ⟨(cN c).toNat + 1, key _ (cN c - 1) M (by omega) (by omega) (Off.rf _ _ _) (fun j a b => by omega)⟩
end X
