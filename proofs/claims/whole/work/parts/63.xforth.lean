/-! x: noteLeast, cheapestEntry, carryForth -/
section X
variable {c : Cf} {M : Mem} {R : Int → Mem → Prop} {i : Int} {pi : Int → Int} {nt t1 t2 : Int}
/-- the test of x for a state that may be -/
theorem pin_test (hV : VP c) (hX : PnX c pi M) (hP : PinOK c (okL c) pi) (hi : 0 ≤ i ∧ i < cN c) {s : Int} (hs : okL c i s = true) : (cp c (okL c) pi i s = true ∧ (M 37 i = -4 ∨ M 37 i = s)) ∨ (cp c (okL c) pi i s = false ∧ M 37 i ≠ -4 ∧ M 37 i ≠ s) := by
  have hN := hV.2.2.2.2.1
  have h00 : okL c 0 0 = true := okL0 hV ⟨by omega, by omega⟩ (by rw [hV.2.2.2.2.2.2.2.2.1]; decide)
  by_cases hp : i = 0 ∨ cTg c i = 1
  · obtain ⟨p1, p2, p3, p4⟩ := hdP_ok hV (Fe_okL hV) hP h00 hi hp
    rw [hX.at ⟨hi.1, hi.2, hN.2⟩ hp]
    by_cases e : s = hdP c pi i
    · exact Or.inl ⟨by rw [e]; exact p3, Or.inr e.symm⟩
    · refine Or.inr ⟨?_, by omega, fun q => e q.symm⟩
      cases hc : cp c (okL c) pi i s with
      | false => rfl
      | true => exact absurd (p4 s hc) e
  · have ht : cTg c i ≠ 1 := fun q => hp (Or.inr q)
    have h0 : i ≠ 0 := fun q => hp (Or.inl q)
    exact Or.inl ⟨cp_of hs (fun q => absurd q ht), Or.inl (hX.free ⟨by omega, hi.2, hN.2⟩ ht)⟩
theorem s_noteLeast {o : Int} (hV : VP c) (hC : XC c M) (hA : LA c M) (hX : PnX c pi M) (hP : PinOK c (okL c) pi) (hi : 0 ≤ i ∧ i < cN c) (hd : cDep c i ≠ -4) (hO : OnX c pi M i) (hB : ∀ s, 0 ≤ s → s < nS (cR c) → cp c (okL c) pi i s = true → 0 ≤ M 35 (16 * i + s) ∧ M 35 (16 * i + s) ≤ 10000000) (ho : -200000000 ≤ o ∧ o ≤ 200000000)
    (h : ∀ M', Off [36] [] M M' → (∀ y, (y < 16 * i ∨ 16 * i + 16 ≤ y) → M' 36 y = M 36 y) → (∀ s, 0 ≤ s → s < nS (cR c) → M' 36 (16 * i + s) = if cp c (okL c) pi i s = true then (if o + M 35 (16 * i + s) + On c (okL c) pi i s < M 36 (16 * i + s) then o + M 35 (16 * i + s) + On c (okL c) pi i s else M 36 (16 * i + s)) else M 36 (16 * i + s)) → R 0 M') : fCh_noteLeast i o M R := by
  have hN := hV.2.2.2.2.1
  have h16 := nS_le (cR c)
  have hF := Fe_okL hV
  have i24 : inb i 24 := ⟨by omega, by omega⟩
  obtain ⟨a1, a2, a3, a4, -⟩ := hA i hi.1 hi.2 hd
  have key : ∀ (e : Nat) (k : Int) (Mk : Mem), 0 ≤ k → k + e = M 29 i → Off [36] [] M Mk → (∀ y, (y < 16 * i ∨ 16 * i + 16 ≤ y) → Mk 36 y = M 36 y) → (∀ s, 0 ≤ s → s < nS (cR c) → (∃ k', 0 ≤ k' ∧ k' < k ∧ M 28 (16 * i + k') = s) → Mk 36 (16 * i + s) = if cp c (okL c) pi i s = true then (if o + M 35 (16 * i + s) + On c (okL c) pi i s < M 36 (16 * i + s) then o + M 35 (16 * i + s) + On c (okL c) pi i s else M 36 (16 * i + s)) else M 36 (16 * i + s)) → (∀ s, 0 ≤ s → s < nS (cR c) → (¬ ∃ k', 0 ≤ k' ∧ k' < k ∧ M 28 (16 * i + k') = s) → Mk 36 (16 * i + s) = M 36 (16 * i + s)) → fCh_noteLeast_2 R (e + 1) i o k Mk := by
    intro e
    induction e with
    | zero =>
      intro k Mk k0 ke hok hy h1 h2
      have e29 : Mk 29 i = M 29 i := hok.cell (by decide) _
      refine ⟨i24, fun _ => h Mk hok hy (fun s s0 s1 => ?_), fun q => by omega⟩
      by_cases z : ∃ k', 0 ≤ k' ∧ k' < k ∧ M 28 (16 * i + k') = s
      · exact h1 s s0 s1 z
      · rw [h2 s s0 s1 z]
        have : cp c (okL c) pi i s ≠ true := fun q => by
          obtain ⟨⟨k', y1, y2, y3⟩, -⟩ := a4 s s0 s1 (cp_ok q)
          exact z ⟨k', y1, by omega, y3⟩
        rw [if_neg this]
    | succ e ihe =>
      intro k Mk k0 ke hok hy h1 h2
      have e29 : Mk 29 i = M 29 i := hok.cell (by decide) _
      have e28 : ∀ y, Mk 28 y = M 28 y := hok.cell (by decide)
      have e34 : ∀ y, Mk 34 y = M 34 y := hok.cell (by decide)
      have e35 : ∀ y, Mk 35 y = M 35 y := hok.cell (by decide)
      have e37 : ∀ y, Mk 37 y = M 37 y := hok.cell (by decide)
      obtain ⟨q1, q2, q3⟩ := a2 k k0 (by omega)
      have w0 : wrap (i * 16) = 16 * i := by rw [wrapI (by omega) (by omega)]; omega
      -- it is not among those before
      have fresh : ¬ ∃ k', 0 ≤ k' ∧ k' < k ∧ M 28 (16 * i + k') = M 28 (16 * i + k) := fun ⟨k', y1, y2, y3⟩ => by
        have := a3 k' k y1 y2 (by omega); omega
      have nxt : ∀ M', Off [36] [] M M' → (∀ y, y ≠ 16 * i + M 28 (16 * i + k) → M' 36 y = Mk 36 y) → (M' 36 (16 * i + M 28 (16 * i + k)) = if cp c (okL c) pi i (M 28 (16 * i + k)) = true then (if o + M 35 (16 * i + M 28 (16 * i + k)) + On c (okL c) pi i (M 28 (16 * i + k)) < M 36 (16 * i + M 28 (16 * i + k)) then o + M 35 (16 * i + M 28 (16 * i + k)) + On c (okL c) pi i (M 28 (16 * i + k)) else M 36 (16 * i + M 28 (16 * i + k))) else M 36 (16 * i + M 28 (16 * i + k))) → fCh_noteLeast_93 (fCh_noteLeast_2 R (e + 1)) R i o k M' := by
        intro M' ho' hne heq
        unfold fCh_noteLeast_93
        rw [wrapI (z := k + 1) (by omega) (by omega)]
        refine ihe (k + 1) M' (by omega) (by omega) ho' (fun y z => by rw [hne y (by omega)]; exact hy y z) (fun s s0 s1 hex => ?_) (fun s s0 s1 hex => ?_)
        · by_cases z : s = M 28 (16 * i + k)
          · rw [z]; exact heq
          · rw [hne _ (by omega)]
            obtain ⟨k', y1, y2, y3⟩ := hex
            have : k' ≠ k := fun q => z (by rw [← y3, q])
            exact h1 s s0 s1 ⟨k', y1, by omega, y3⟩
        · have z : s ≠ M 28 (16 * i + k) := fun q => hex ⟨k, k0, by omega, q.symm⟩
          rw [hne _ (by omega)]
          exact h2 s s0 s1 (fun ⟨k', y1, y2, y3⟩ => hex ⟨k', y1, by omega, y3⟩)
      unfold fCh_noteLeast_2
      rw [w0, e29, wrapI (z := 16 * i + k) (by omega) (by omega), e28, e37]
      have eold := h2 _ q1 q2 fresh
      have note : cp c (okL c) pi i (M 28 (16 * i + k)) = true → fCh_noteLeast_50 (fCh_noteLeast_2 R (e + 1)) R i o k (M 28 (16 * i + k)) Mk := by
        intro hc
        unfold fCh_noteLeast_50
        have hb := hB _ q1 q2 hc
        have hon := On_in hV hF hP hi ⟨q1, q2⟩ q3
        rw [w0, wrapI (z := 16 * i + M 28 (16 * i + k)) (by omega) (by omega), e34, e35, hO hd _ q1 q2 hc, wrapI (z := o + M 35 (16 * i + M 28 (16 * i + k))) (by omega) (by omega), wrapI (z := o + M 35 (16 * i + M 28 (16 * i + k)) + On c (okL c) pi i (M 28 (16 * i + k))) (by omega) (by omega), eold]
        have ib : inb (16 * i + M 28 (16 * i + k)) 384 := ⟨by omega, by omega⟩
        rw [if_pos hc] at nxt
        refine ⟨ib, ib, ib, fun q => ⟨ib, nxt _ (hok.mu (Or.inl (by decide))) (fun y z => mu_place z) (by rw [mu_same, if_pos q])⟩, fun q => ⟨ib, nxt _ (hok.mu (Or.inl (by decide))) (fun y z => mu_place z) (by rw [mu_same, if_neg q])⟩⟩
      refine ⟨i24, fun q => by omega, fun _ => ⟨⟨by omega, by omega⟩, i24, ?_⟩⟩
      rcases pin_test hV hX hP hi q3 with ⟨c1, c2⟩ | ⟨c1, c2, c3⟩
      · refine ⟨fun _ => note c1, fun q => ⟨i24, fun _ => note c1, fun q' => ?_⟩⟩
        rcases c2 with z | z
        · exact absurd z q
        · exact absurd z q'
      · refine ⟨fun q => absurd q c2, fun _ => ⟨i24, fun q => absurd q c3, fun _ => nxt Mk hok (fun _ _ => rfl) ?_⟩⟩
        rw [if_neg (by rw [c1]; decide)]; exact eold
  exact ⟨(M 29 i).toNat + 1, key _ 0 M (by omega) (by omega) (Off.rf _ _ _) (fun _ _ => rfl) (fun s s0 s1 ⟨k', y1, y2, _⟩ => by omega) (fun _ _ _ _ => rfl)⟩
/-- what lies by an exit -/
def byE (c : Cf) (pi : Int → Int) (i : Int) (B : Int → Int) (M : Mem) : Prop := (∀ s, 0 ≤ s → s < nS (cR c) → cp c (okL c) pi i s = true → M 38 (cAf c i s) ≤ B s + bs c pi i s) ∧ ∀ e, 0 ≤ e → e < 16 → M 38 e = FAR ∨ ∃ s, 0 ≤ s ∧ s < nS (cR c) ∧ cp c (okL c) pi i s = true ∧ cAf c i s = e ∧ M 38 e = B s + bs c pi i s
theorem s_cheapestEntry {t : Int} {B : Int → Int} (hV : VP c) (hC : XC c M) (hA : LA c M) (hP : PinOK c (okL c) pi) (hi : 0 ≤ i ∧ i < cN c) (hd : cDep c i ≠ -4) (ht : 0 ≤ t ∧ t < nS (cR c)) (hE : byE c pi i B M) (hB : ∀ s, 0 ≤ s → s < nS (cR c) → cp c (okL c) pi i s = true → 0 ≤ B s ∧ B s ≤ 10000000)
    (h : ∀ v, isMin (cp c (okL c) pi i) (fun s => B s + bs c pi i s + cW c i * cPs c (cAf c i s) t) (nS (cR c)) v → R v M) : fCh_cheapestEntry i t M R := by
  have hN := hV.2.2.2.2.1
  have h16 := nS_le (cR c)
  have hFAR : FAR = 1000000000 := rfl
  obtain ⟨a1, a2, a3, a4, a5, a6⟩ := hA i hi.1 hi.2 hd
  have w0 : wrap (i * 16) = 16 * i := by rw [wrapI (by omega) (by omega)]; omega
  have e6 : M 6 i = cW c i := (hC.2.1 i hi.1 hi.2).2.2.2.2.1
  have b38 : ∀ e, 0 ≤ e → e < 16 → 0 ≤ M 38 e ∧ M 38 e ≤ FAR := fun e e0 e1 => by
    rcases hE.2 e e0 e1 with z | ⟨s, s0, s1, s2, s3, s4⟩
    · omega
    · have := hB s s0 s1 s2
      have := bs_in hV hi hd ⟨s0, s1⟩ hP.pin
      omega
  unfold fCh_cheapestEntry
  rw [w0, e6, wrapI (z := 16 * i + M 31 i) (by omega) (by omega)]
  have key : ∀ (d : Nat) (x v : Int), 0 ≤ x → x + d = M 31 i → v ≤ FAR → (∀ k, 0 ≤ k → k < x → v ≤ M 38 (M 30 (16 * i + k)) + cW c i * cPs c (M 30 (16 * i + k)) t) → (v = FAR ∨ ∃ k, 0 ≤ k ∧ k < x ∧ M 38 (M 30 (16 * i + k)) + cW c i * cPs c (M 30 (16 * i + k)) t = v) → fCh_cheapestEntry_32 R (d + 1) t (cW c i) (16 * i + M 31 i) v (16 * i + x) M := by
    intro d
    induction d with
    | zero =>
      intro x v x0 xd hv hl hx
      refine ⟨fun _ => h v ⟨hv, fun s s0 s1 s2 => ?_, ?_⟩, fun q => by omega⟩
      · obtain ⟨-, -, -, k, k0, k1, k2⟩ := a4 s s0 s1 (cp_ok s2)
        have u := hl k k0 (by omega)
        rw [k2] at u
        have := hE.1 s s0 s1 s2
        simp only
        omega
      · rcases hx with z | ⟨k, k0, k1, k2⟩
        · exact Or.inl z
        · obtain ⟨s, q1, q2, q3, q4⟩ := a6 k k0 (by omega)
          have haf := afP hV hi ⟨q1, q2⟩
          rw [q4] at k2
          have wp := wPe (e := cAf c i s) (t := t) hV hi haf ht
          rcases hE.2 (cAf c i s) (by omega) (by omega) with z | ⟨s', z0, z1, z2, z3, z4⟩
          · exact Or.inl (by omega)
          · refine Or.inr ⟨s', z0, z1, z2, ?_⟩
            simp only
            rw [z3, ← z4]; exact k2
    | succ d ih =>
      intro x v x0 xd hv hl hx
      obtain ⟨s, q1, q2, q3, q4⟩ := a6 x x0 (by omega)
      have haf := afP hV hi ⟨q1, q2⟩
      have wp := wPe (e := M 30 (16 * i + x)) (t := t) hV hi (by rw [q4]; exact haf) ht
      have b1 := b38 (M 30 (16 * i + x)) (by omega) (by omega)
      refine ⟨fun q => by omega, fun _ => ⟨⟨by omega, by omega⟩, ⟨by omega, by omega⟩, ?_⟩⟩
      have we : wrap (wrap (M 30 (16 * i + x) * 16) + t) = 16 * M 30 (16 * i + x) + t := by rw [wrapI (z := M 30 (16 * i + x) * 16) (by omega) (by omega), wrapI (by omega) (by omega)]; omega
      rw [we, hC.2.2.2.2.2 _ t (by omega) (by omega) ht.1 ht.2, wrapI (z := cW c i * cPs c (M 30 (16 * i + x)) t) (by omega) (by omega), wrapI (z := M 38 (M 30 (16 * i + x)) + cW c i * cPs c (M 30 (16 * i + x)) t) (by omega) (by omega)]
      unfold fCh_cheapestEntry_83
      rw [wrapI (z := 16 * i + x + 1) (by omega) (by omega), show 16 * i + x + 1 = 16 * i + (x + 1) from by omega]
      refine ⟨⟨by omega, by omega⟩, fun q => ih (x + 1) v (by omega) (by omega) hv (fun k k0 k1 => ?_) ?_, fun q => ih (x + 1) _ (by omega) (by omega) (by omega) (fun k k0 k1 => ?_) (Or.inr ⟨x, x0, by omega, rfl⟩)⟩
      · by_cases z : k = x
        · rw [z]; exact q
        · exact hl k k0 (by omega)
      · rcases hx with z | ⟨k, k0, k1, k2⟩
        · exact Or.inl z
        · exact Or.inr ⟨k, k0, by omega, k2⟩
      · by_cases z : k = x
        · rw [z]; exact Int.le_refl _
        · have := hl k k0 (by omega)
          omega
  have := key (M 31 i).toNat 0 1000000000 (by omega) (by omega) (by omega) (fun k k0 k1 => by omega) (Or.inl rfl)
  rw [show 16 * i + 0 = 16 * i from by omega] at this
  exact ⟨⟨by omega, by omega⟩, ⟨by omega, by omega⟩, _, this⟩
end X
