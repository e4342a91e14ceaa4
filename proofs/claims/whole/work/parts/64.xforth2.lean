/-! x: carryForth -/
section X
variable {c : Cf} {M : Mem} {R : Int → Mem → Prop} {i : Int} {pi : Int → Int} {nt t1 t2 : Int}
theorem s_carryForth (hV : VP c) (hC : XC c M) (hA : LA c M) (hX : PnX c pi M) (hP : PinOK c (okL c) pi) (hi : 0 ≤ i ∧ i < cN c) (hd : cDep c i ≠ -4) (hf : fal c i = true) (hB : ∀ s, 0 ≤ s → s < nS (cR c) → cp c (okL c) pi i s = true → 0 ≤ M 35 (16 * i + s) ∧ M 35 (16 * i + s) ≤ 10000000)
    (h : ∀ M', Off [35, 38] [] M M' → (∀ y, (y < 16 * (i + 1) ∨ 16 * (i + 1) + 16 ≤ y) → M' 35 y = M 35 y) → (∀ t, 0 ≤ t → t < nS (cR c) → cp c (okL c) pi (i + 1) t = true → isMin (cp c (okL c) pi i) (fun s => M 35 (16 * i + s) + bs c pi i s + cW c i * cPs c (cAf c i s) t) (nS (cR c)) (M' 35 (16 * (i + 1) + t))) → R 0 M') : fCh_carryForth i M R := by
  have hN := hV.2.2.2.2.1
  have h16 := nS_le (cR c)
  have hFAR : FAR = 1000000000 := rfl
  have hF := Fe_okL hV
  have hlt := fal_lt hf
  have hd1 := hV.2.2.2.2.2.2.2.2.2.2.1 i hi.1 hi.2 hd hf
  have i24 : inb i 24 := ⟨by omega, by omega⟩
  have j24 : inb (i + 1) 24 := ⟨by omega, by omega⟩
  have w0 : wrap (i * 16) = 16 * i := by rw [wrapI (by omega) (by omega)]; omega
  have w1 : wrap (i + 1) = i + 1 := wrapI (by omega) (by omega)
  obtain ⟨a1, a2, a3, a4, a5, a6⟩ := hA i hi.1 hi.2 hd
  obtain ⟨b1, b2, b3, b4, -⟩ := hA (i + 1) (by omega) hlt hd1
  refine s_fill38 (fun N hoN hz => ?_)
  rw [w0]
  -- the second loop
  have snd : ∀ Mz, Off [38] [] M Mz → byE c pi i (fun s => M 35 (16 * i + s)) Mz → ∀ (e : Nat) (k : Int) (Mk : Mem), 0 ≤ k → k + e = M 29 (i + 1) → Off [35] [] Mz Mk → (∀ y, (y < 16 * (i + 1) ∨ 16 * (i + 1) + 16 ≤ y) → Mk 35 y = M 35 y) → (∀ k', 0 ≤ k' → k' < k → cp c (okL c) pi (i + 1) (M 28 (16 * (i + 1) + k')) = true → isMin (cp c (okL c) pi i) (fun s => M 35 (16 * i + s) + bs c pi i s + cW c i * cPs c (cAf c i s) (M 28 (16 * (i + 1) + k'))) (nS (cR c)) (Mk 35 (16 * (i + 1) + M 28 (16 * (i + 1) + k')))) → fCh_carryForth_134 R (e + 1) i (16 * (i + 1)) k Mk := by
    intro Mz hoz hE e
    induction e with
    | zero =>
      intro k Mk k0 ke hok hy hk
      have hoA : Off [35, 38] [] M Mk := (hoz.mono (by decide) (by decide)).tr (hok.mono (by decide) (by decide))
      have e29 : Mk 29 (i + 1) = M 29 (i + 1) := hoA.cell (by decide) _
      unfold fCh_carryForth_134
      rw [w1]
      refine ⟨j24, fun _ => h Mk hoA hy (fun t q0 q1 q2 => ?_), fun q => by omega⟩
      obtain ⟨⟨k', y1, y2, y3⟩, -⟩ := b4 t q0 q1 (cp_ok q2)
      have := hk k' y1 (by omega) (by rw [y3]; exact q2)
      rw [y3] at this; exact this
    | succ e ihe =>
      intro k Mk k0 ke hok hy hk
      have hoA : Off [35, 38] [] M Mk := (hoz.mono (by decide) (by decide)).tr (hok.mono (by decide) (by decide))
      have e29 : Mk 29 (i + 1) = M 29 (i + 1) := hoA.cell (by decide) _
      have e28 : ∀ y, Mk 28 y = M 28 y := hoA.cell (by decide)
      have e37 : ∀ y, Mk 37 y = M 37 y := hoA.cell (by decide)
      obtain ⟨q1, q2, q3⟩ := b2 k k0 (by omega)
      unfold fCh_carryForth_134
      rw [w1, e29, wrapI (z := 16 * (i + 1) + k) (by omega) (by omega), e28, e37]
      have nxt : ∀ M', Off [35] [] Mz M' → (∀ y, y ≠ 16 * (i + 1) + M 28 (16 * (i + 1) + k) → M' 35 y = Mk 35 y) → (cp c (okL c) pi (i + 1) (M 28 (16 * (i + 1) + k)) = true → isMin (cp c (okL c) pi i) (fun s => M 35 (16 * i + s) + bs c pi i s + cW c i * cPs c (cAf c i s) (M 28 (16 * (i + 1) + k))) (nS (cR c)) (M' 35 (16 * (i + 1) + M 28 (16 * (i + 1) + k)))) → fCh_carryForth_200 (fCh_carryForth_134 R (e + 1)) R i (16 * (i + 1)) k M' := by
        intro M' ho' hne heq
        unfold fCh_carryForth_200
        rw [wrapI (z := k + 1) (by omega) (by omega)]
        refine ihe (k + 1) M' (by omega) (by omega) ho' (fun y z => by rw [hne y (by omega)]; exact hy y z) (fun k' y1 y2 y3 => ?_)
        by_cases z : k' = k
        · rw [z]; rw [z] at y3; exact heq y3
        · have := b3 k' k y1 (by omega) (by omega)
          rw [hne _ (by omega)]
          exact hk k' y1 (by omega) y3
      have go : cp c (okL c) pi (i + 1) (M 28 (16 * (i + 1) + k)) = true → fCh_carryForth_184 (fCh_carryForth_134 R (e + 1)) R i (16 * (i + 1)) k (M 28 (16 * (i + 1) + k)) Mk := by
        intro hc
        have e38 : ∀ y, Mk 38 y = Mz 38 y := hok.cell (by decide)
        have hE' : byE c pi i (fun s => M 35 (16 * i + s)) Mk := ⟨fun s s0 s1 s2 => by rw [e38]; exact hE.1 s s0 s1 s2, fun e e0 e1 => by rw [e38]; exact hE.2 e e0 e1⟩
        refine s_cheapestEntry hV (hC.off hoA (by decide)) (hA.off hoA (by decide)) hP hi hd ⟨q1, q2⟩ hE' hB (fun v hv => ?_)
        rw [wrapI (z := 16 * (i + 1) + M 28 (16 * (i + 1) + k)) (by omega) (by omega)]
        exact ⟨⟨by omega, by omega⟩, nxt _ (hok.mu (Or.inl (by decide))) (fun y z => mu_place z) (fun _ => by rw [mu_same]; exact hv)⟩
      refine ⟨j24, fun q => by omega, fun _ => ⟨⟨by omega, by omega⟩, j24, ?_⟩⟩
      rcases pin_test hV hX hP ⟨by omega, hlt⟩ q3 with ⟨c1, c2⟩ | ⟨c1, c2, c3⟩
      · refine ⟨fun _ => go c1, fun q => ⟨j24, fun q' => ?_, fun _ => go c1⟩⟩
        rcases c2 with z | z
        · exact absurd z q
        · exact absurd z q'
      · exact ⟨fun q => absurd q c2, fun _ => ⟨j24, fun _ => nxt Mk hok (fun _ _ => rfl) (fun q => by rw [c1] at q; exact absurd q (by decide)), fun q => absurd q c3⟩⟩
  -- the first loop
  have fst : ∀ (e : Nat) (k : Int) (Mk : Mem), 0 ≤ k → k + e = M 29 i → Off [38] [] M Mk → (∀ k', 0 ≤ k' → k' < k → cp c (okL c) pi i (M 28 (16 * i + k')) = true → Mk 38 (cAf c i (M 28 (16 * i + k'))) ≤ M 35 (16 * i + M 28 (16 * i + k')) + bs c pi i (M 28 (16 * i + k'))) → (∀ e, 0 ≤ e → e < 16 → Mk 38 e = FAR ∨ ∃ s, 0 ≤ s ∧ s < nS (cR c) ∧ cp c (okL c) pi i s = true ∧ cAf c i s = e ∧ Mk 38 e = M 35 (16 * i + s) + bs c pi i s) → fCh_carryForth_16 R (e + 1) i (16 * i) k Mk := by
    intro e
    induction e with
    | zero =>
      intro k Mk k0 ke hok h1 h2
      have e29 : Mk 29 i = M 29 i := hok.cell (by decide) _
      refine ⟨i24, fun _ => ⟨(M 29 (i + 1)).toNat + 1, ?_⟩, fun q => by omega⟩
      rw [wrapI (z := 16 * i + 16) (by omega) (by omega), show 16 * i + 16 = 16 * (i + 1) from by omega]
      refine snd Mk hok ⟨fun s s0 s1 s2 => ?_, h2⟩ _ 0 Mk (by omega) (by omega) (Off.rf _ _ _) (fun y _ => hok.cell (by decide) y) (fun k' y1 y2 => by omega)
      obtain ⟨⟨k', y1, y2, y3⟩, -⟩ := a4 s s0 s1 (cp_ok s2)
      have := h1 k' y1 (by omega) (by rw [y3]; exact s2)
      rw [y3] at this; exact this
    | succ e ihe =>
      intro k Mk k0 ke hok h1 h2
      have e29 : Mk 29 i = M 29 i := hok.cell (by decide) _
      have e28 : ∀ y, Mk 28 y = M 28 y := hok.cell (by decide)
      have e32 : ∀ y, Mk 32 y = M 32 y := hok.cell (by decide)
      have e33 : ∀ y, Mk 33 y = M 33 y := hok.cell (by decide)
      have e35 : ∀ y, Mk 35 y = M 35 y := hok.cell (by decide)
      have e37 : ∀ y, Mk 37 y = M 37 y := hok.cell (by decide)
      obtain ⟨q1, q2, q3⟩ := a2 k k0 (by omega)
      obtain ⟨-, f32, f33, -⟩ := a4 _ q1 q2 q3
      have haf := afP hV hi ⟨q1, q2⟩
      unfold fCh_carryForth_16
      rw [e29, wrapI (z := 16 * i + k) (by omega) (by omega), e28, e37]
      have go : cp c (okL c) pi i (M 28 (16 * i + k)) = true → fCh_carryForth_61 (fCh_carryForth_16 R (e + 1)) R i (16 * i) k (M 28 (16 * i + k)) Mk := by
        intro hc
        have hb := hB _ q1 q2 hc
        have hbs := bs_in hV hi hd ⟨q1, q2⟩ hP.pin
        have hvc := vc_in (s := M 28 (16 * i + k)) hV hi
        have ib : inb (16 * i + M 28 (16 * i + k)) 384 := ⟨by omega, by omega⟩
        have ia : inb (cAf c i (M 28 (16 * i + k))) 16 := ⟨by omega, by omega⟩
        unfold fCh_carryForth_61
        rw [wrapI (z := 16 * i + M 28 (16 * i + k)) (by omega) (by omega), e32, f32, e33, f33, e35]
        refine ⟨ib, ib, ib, s_leading hV (hC.off hok (by decide)) (hX.off hok (by decide)) hP hi hd haf ⟨ia, ?_⟩⟩
        have ebs : M 35 (16 * i + M 28 (16 * i + k)) + cW c i * cVc c i (M 28 (16 * i + k)) + (if lea c i = true then cW c i * cPs c (cAf c i (M 28 (16 * i + k))) (pi (cNu c i)) else 0) = M 35 (16 * i + M 28 (16 * i + k)) + bs c pi i (M 28 (16 * i + k)) := by unfold bs; omega
        rw [wrapI (z := M 35 (16 * i + M 28 (16 * i + k)) + cW c i * cVc c i (M 28 (16 * i + k))) (by omega) (by omega), ebs, wrapI (by omega) (by omega)]
        unfold fCh_carryForth_120
        rw [wrapI (z := k + 1) (by omega) (by omega)]
        refine ⟨fun q => ⟨ia, ihe (k + 1) _ (by omega) (by omega) (hok.mu (Or.inl (by decide))) (fun k' y1 y2 y3 => ?_) (fun e' z1 z2 => ?_)⟩, fun q => ⟨ia, ihe (k + 1) _ (by omega) (by omega) (hok.mu (Or.inl (by decide))) (fun k' y1 y2 y3 => ?_) (fun e' z1 z2 => ?_)⟩⟩
        · by_cases z : cAf c i (M 28 (16 * i + k')) = cAf c i (M 28 (16 * i + k))
          · rw [z, mu_same]
            by_cases z' : k' = k
            · rw [z']; exact Int.le_refl _
            · have := h1 k' y1 (by omega) y3
              rw [z] at this; omega
          · have z' : k' ≠ k := fun y => z (by rw [y])
            rw [mu_place z]; exact h1 k' y1 (by omega) y3
        · by_cases z : e' = cAf c i (M 28 (16 * i + k))
          · rw [z, mu_same]; exact Or.inr ⟨_, q1, q2, hc, rfl, rfl⟩
          · rw [mu_place z]; exact h2 e' z1 z2
        · by_cases z : cAf c i (M 28 (16 * i + k')) = cAf c i (M 28 (16 * i + k))
          · rw [z, mu_same]
            by_cases z' : k' = k
            · rw [z']; omega
            · have := h1 k' y1 (by omega) y3
              rw [z] at this; omega
          · have z' : k' ≠ k := fun y => z (by rw [y])
            rw [mu_place z]; exact h1 k' y1 (by omega) y3
        · by_cases z : e' = cAf c i (M 28 (16 * i + k))
          · rw [z, mu_same]; exact h2 _ (by omega) (by omega)
          · rw [mu_place z]; exact h2 e' z1 z2
      refine ⟨i24, fun q => by omega, fun _ => ⟨⟨by omega, by omega⟩, i24, ?_⟩⟩
      rcases pin_test hV hX hP hi q3 with ⟨c1, c2⟩ | ⟨c1, c2, c3⟩
      · refine ⟨fun _ => go c1, fun q => ⟨i24, fun _ => go c1, fun q' => ?_⟩⟩
        rcases c2 with z | z
        · exact absurd z q
        · exact absurd z q'
      · refine ⟨fun q => absurd q c2, fun _ => ⟨i24, fun q => absurd q c3, fun _ => ?_⟩⟩
        unfold fCh_carryForth_120
        rw [wrapI (z := k + 1) (by omega) (by omega)]
        refine ihe (k + 1) Mk (by omega) (by omega) hok (fun k' y1 y2 y3 => ?_) h2
        by_cases z : k' = k
        · rw [z, c1] at y3; exact absurd y3 (by decide)
        · exact h1 k' y1 (by omega) y3
  exact ⟨(M 29 i).toNat + 1, fst _ 0 N (by omega) (by omega) hoN (fun k' y1 y2 => by omega) (fun e e0 e1 => Or.inl (hz e e0 e1))⟩
end X
