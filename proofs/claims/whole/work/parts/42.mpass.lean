/-! the reference's transitions -/
section S
variable {r : Nat} {mv ld st : Int} {M : Mem} {R : Int → Mem → Prop}
def atK (r t u k : Nat) : Bool := if ((k : Nat) : Int) < stL r t then hN u (stR r t k).toNat == k + 1 else gN u k == 1
theorem atB_eq (r t u : Nat) : atB r t u = (atK r t u 0 && (atK r t u 1 && atK r t u 2)) := by
  unfold atB atK
  simp only [List.range, List.range.loop, List.all_cons, List.all_nil, Bool.and_true]
theorem s_isAt5 {t u k : Nat} {f : Int} (hr : 1 ≤ r ∧ r ≤ 3) (hT : TM r M) (ht : ((t : Nat) : Int) < nS r) (hu : u < 512) (hk : k < 3) (hf : f = 0 ∨ f = 1) {m : Nat} (h : fMd_isAt_5 R m u t (if f = 0 then 0 else if atK r t u k then 1 else 0) ((k + 1 : Nat) : Int) M) : fMd_isAt_5 R (m + 1) u t f k M := by
  have h16 := nS_le r
  have w1 : wrap ((k : Int) + 1) = ((k + 1 : Nat) : Int) := by rw [wrapI (by omega) (by omega)]; omega
  have hl := st_f (r := r) (s := t) (by omega) ⟨by omega, ht⟩
  refine And.intro (fun q => absurd q (by omega)) (fun _ => ⟨fun q => ?_, fun q => ⟨⟨by omega, by omega⟩, fun q2 => ?_, fun q2 => ?_⟩⟩)
  · rw [if_pos q] at h
    unfold fMd_isAt_68 fMd_isAt_69; rw [w1]; exact h
  · rw [if_neg q] at h
    rw [hT.2.1 t (by omega) ht] at q2
    rw [kk_good hu hk]
    unfold atK at h
    rw [if_neg (show ¬ ((k : Nat) : Int) < stL r t by omega)] at h
    refine ⟨fun q3 => ?_, fun q3 => ?_⟩
    · rw [if_neg (by simp; omega)] at h
      unfold fMd_isAt_68 fMd_isAt_69; rw [w1]; exact h
    · rw [if_pos (by simp; omega)] at h
      unfold fMd_isAt_64 fMd_isAt_69; rw [w1]; exact h
  · rw [if_neg q] at h
    rw [hT.2.1 t (by omega) ht] at q2
    have hkl : ((k : Nat) : Int) < stL r t := by omega
    obtain ⟨g1, g2, -⟩ := hl.2.2.2.2.2.1 k (by omega) (by omega) hkl
    have e16 := hT.2.2 t k (by omega) ht (by omega) (by omega)
    rw [wrapI (z := 3 * (t : Int)) (by omega) (by omega), wrapI (z := 3 * (t : Int) + k) (by omega) (by omega), e16]
    refine ⟨⟨by omega, by omega⟩, ?_⟩
    unfold fMd_hasOf
    have kh := kk_has (u := u) (x := (stR r t k).toNat) hu (by omega)
    rw [show (((stR r t k).toNat : Nat) : Int) = stR r t k by omega] at kh
    rw [kh, w1]
    unfold atK at h
    rw [if_pos hkl] at h
    refine ⟨fun q3 => ?_, fun q3 => ?_⟩
    · rw [if_neg (by simp; omega)] at h
      unfold fMd_isAt_68 fMd_isAt_69; rw [w1]; exact h
    · rw [if_pos (by simp; omega)] at h
      unfold fMd_isAt_64 fMd_isAt_69; rw [w1]; exact h
theorem f01 (x : Int) (b : Bool) : (if x = 0 then (0 : Int) else if b then 1 else 0) = 0 ∨ (if x = 0 then (0 : Int) else if b then 1 else 0) = 1 := by
  by_cases h : x = 0
  · rw [if_pos h]; exact Or.inl rfl
  · rw [if_neg h]; cases b <;> decide
theorem s_isAt {t u : Nat} (hr : 1 ≤ r ∧ r ≤ 3) (hT : TM r M) (ht : ((t : Nat) : Int) < nS r) (hu : u < 512) (h : R (if atB r t u then 1 else 0) M) : fMd_isAt u t M R := by
  refine ⟨4, s_isAt5 (k := 0) hr hT ht hu (by decide) (Or.inr rfl) (s_isAt5 (k := 1) hr hT ht hu (by decide) ?_ (s_isAt5 (k := 2) hr hT ht hu (by decide) ?_ ?_))⟩
  · exact f01 _ _
  · exact f01 _ _
  · refine And.intro (fun _ => ⟨f01 _ _, ?_⟩) (fun q => absurd (by decide) q)
    · rw [atB_eq] at h
      cases e0 : atK r t u 0 <;> cases e1 : atK r t u 1 <;> cases e2 : atK r t u 2 <;> simp [e0, e1, e2] at h ⊢ <;> exact h
/-- the code of a state -/
theorem s_code {s : Nat} (hr : 1 ≤ r ∧ r ≤ 3) (hT : TM r M) (hs : ((s : Nat) : Int) < nS r) (h : ∃ n, fMd_laysFrom_51 R n (c0N r s) 0 M) : fMd_laysFrom s M R := by
  have h16 := nS_le r
  have hl := st_f (r := r) (s := s) (by omega) ⟨by omega, hs⟩
  have key : ∀ (m k : Nat), k + m = (stL r s).toNat → ∀ u : Nat, u < 512 → u = (List.range k).foldl (fun (u k : Nat) => clN (wN u (stR r s k).toNat (k + 1)) k) 448 → fMd_laysFrom_6 R (m + 1) s u k M := by
    intro m
    induction m with
    | zero =>
      intro k hk u hu5 hu
      refine ⟨⟨by omega, by omega⟩, fun _ => ?_, fun q => absurd (by rw [hT.2.1 s (by omega) hs]; omega) q⟩
      have : u = c0N r s := by unfold c0N; rw [← hk, Nat.add_zero]; exact hu
      rw [this]; exact h
    | succ m ih =>
      intro k hk u hu5 hu
      have hkl : ((k : Nat) : Int) < stL r s := by omega
      obtain ⟨g1, g2, -⟩ := hl.2.2.2.2.2.1 k (by omega) (by omega) hkl
      have e16 := hT.2.2 s k (by omega) hs (by omega) (by omega)
      refine ⟨⟨by omega, by omega⟩, fun q => absurd q (by rw [hT.2.1 s (by omega) hs]; omega), fun _ => ?_⟩
      rw [wrapI (z := 3 * (s : Int)) (by omega) (by omega), wrapI (z := 3 * (s : Int) + k) (by omega) (by omega), e16]
      refine ⟨⟨by omega, by omega⟩, ?_⟩
      have w1 : wrap ((k : Int) + 1) = ((k + 1 : Nat) : Int) := by rw [wrapI (by omega) (by omega)]; omega
      have kw := kk_with (u := u) (x := (stR r s k).toNat) (c := k + 1) hu5 (by omega) (by omega)
      rw [show (((stR r s k).toNat : Nat) : Int) = stR r s k by omega] at kw
      unfold fMd_with
      rw [w1]
      dsimp only
      rw [kw.1]
      have kc := k_clr ⟨wN u (stR r s k).toNat (k + 1), kw.2⟩ ⟨k, by omega⟩
      dsimp only at kc
      rw [kc.1]
      refine ih (k + 1) (by omega) _ kc.2 ?_
      rw [List.range_succ, List.foldl_append, ← hu]; rfl
  exact ⟨(stL r s).toNat + 1, key _ 0 (by omega) 448 (by decide) rfl⟩
/-- from a state: the search -/
theorem s_laysFrom {s : Nat} (hr : 1 ≤ r ∧ r ≤ 3) (hT : TM r M) (hc : M 1 1 = mv ∧ M 1 2 = ld ∧ M 1 3 = st) (hmv : 0 ≤ mv ∧ mv ≤ 9) (hld : 0 ≤ ld ∧ ld ≤ 9) (hst : 0 ≤ st ∧ st ≤ 9) (hs : ((s : Nat) : Int) < nS r)
    (h : ∀ M', off1920 M M' → Closed r mv ld st (M' 19) → M' 19 (c0N r s) ≤ 0 → (∀ φ : Nat → Int, Pot r (c0N r s) mv ld st φ → ∀ x : Nat, x < 512 → φ x ≤ M' 19 x) → R 0 M') : fMd_laysFrom s M R := by
  have h16 := nS_le r
  have hF : FAR = 1000000000 := rfl
  have hp := pP_b (mv := mv) (ld := ld) (st := st) (r := r) (s := s) (t := s) (by omega) hmv hld hst (by omega) (by omega)
  obtain ⟨-, hok, hc5⟩ := psi_c0 hmv hld hst hr hs hs (by omega)
  refine s_code hr hT hs ?_
  generalize c0N r s = c0 at h hok hc5 ⊢
  have key : ∀ (m k : Nat) (Mk : Mem), k + m = 512 → off1920 M Mk → (∀ x : Nat, x < k → Mk 19 x = (if x = c0 then 0 else FAR) ∧ Mk 20 x = 0) → fMd_laysFrom_51 R (m + 1) c0 k Mk := by
    intro m
    induction m with
    | zero =>
      intro k Mk hk ho hx
      have e : k = 512 := by omega
      subst e
      refine And.intro (fun _ => ?_) (fun q => absurd (by decide) q)
      have hD : DI r c0 mv ld st M Mk := by
        refine ⟨ho, fun x h5 => ?_, fun x h5 => Or.inl (hx x h5).2, by rw [(hx c0 hc5).1, if_pos rfl]; exact Int.le_refl _, fun φ hφ x h5 => ?_, fun u h5 hd => ?_⟩
        · rw [(hx x h5).1]; split <;> decide
        · rw [(hx x h5).1]
          split
          · rename_i e; subst e; exact hφ.1
          · exact hφ.2.1 x
        · rw [(hx u h5).2] at hd; omega
      refine ⟨514, s_main hr hmv hld hst ⟨hT.1, hc.1, hc.2.1, hc.2.2⟩ hok (fun M' hD' hend => ?_) 514 c0 Mk hD ?_ ?_⟩
      · refine h M' hD'.1 (fun u e v hu hoku hFu he => ?_) hD'.2.2.2.1 hD'.2.2.2.2.1
        have hdone : M' 20 u = 1 := by
          rcases hD'.2.2.1 u hu with z | z
          · have := hend u hu z
            omega
          · exact z
        exact (hD'.2.2.2.2.2 u hu hdone).2.1 e v he
      · refine Or.inr ⟨c0, rfl, hc5, (hx c0 hc5).2, by rw [(hx c0 hc5).1, if_pos rfl]; decide, fun y hy _ => ?_⟩
        rw [(hx c0 hc5).1, if_pos rfl, (hx y hy).1]; split <;> decide
      · have := sumT_le (f := fun i => 1 - Mk 20 i) (b := 1) (n := 512) (fun i hi => by
          show 1 - Mk 20 i ≤ 1
          rw [(hx i hi).2]; decide)
        omega
    | succ m ih =>
      intro k Mk hk ho hx
      have hi : inb (k : Int) 512 := ⟨by omega, by omega⟩
      have w1 : wrap ((k : Int) + 1) = ((k + 1 : Nat) : Int) := by rw [wrapI (by omega) (by omega)]; omega
      have nxt : ∀ v, v = (if k = c0 then 0 else FAR) → fMd_laysFrom_51 R (m + 1) c0 ((k + 1 : Nat) : Int) (mu (mu Mk 19 k v) 20 k 0) := by
        intro v hv
        refine ih (k + 1) _ (by omega) (fun c i c19 c20 => by rw [mu_cell c20, mu_cell c19]; exact ho c i c19 c20) (fun x hxk => ?_)
        by_cases e : x = k
        · subst e
          refine ⟨?_, mu_same _ _ _ _⟩
          rw [mu_cell (by decide), mu_same]; exact hv
        · obtain ⟨a1, a2⟩ := hx x (by omega)
          refine ⟨?_, ?_⟩
          · rw [mu_cell (by decide), mu_place (by omega)]; exact a1
          · rw [mu_place (by omega), mu_cell (by decide)]; exact a2
      refine And.intro (fun q => absurd q (by omega)) (fun _ => ⟨fun q => ⟨hi, hi, ?_⟩, fun q => ⟨hi, hi, ?_⟩⟩)
      · rw [w1]; exact nxt _ (by rw [if_neg (by omega)]; rfl)
      · rw [w1]; exact nxt _ (by rw [if_pos (by omega)])
  exact ⟨513, key 512 0 M (by omega) (fun _ _ _ _ => rfl) (fun x hx => absurd hx (by omega))⟩
def PassOK (r mv ld st : Int) (M : Mem) : Prop := ∀ s t, 0 ≤ s → s < nS r → 0 ≤ t → t < nS r → M 18 (16 * s + t) = pP r mv ld st s t
def offP (M M' : Mem) : Prop := ∀ c i, c ≠ 18 → c ≠ 19 → c ≠ 20 → M' c i = M c i
theorem TM.offP {r : Int} {M M' : Mem} (h : TM r M) (ho : offP M M') : TM r M' := by
  refine ⟨by rw [ho 1 0 (by decide) (by decide) (by decide)]; exact h.1, fun s a b => by rw [ho 15 s (by decide) (by decide) (by decide)]; exact h.2.1 s a b, fun s i a b c d => by rw [ho 16 _ (by decide) (by decide) (by decide)]; exact h.2.2 s i a b c d⟩
/-- one row of the table -/
theorem s_row {s : Nat} {k19 : Int → Mem → Prop} (hr : 1 ≤ r ∧ r ≤ 3) (hT : TM r M) (h20 : M 0 20 = nS r) (hmv : 0 ≤ mv ∧ mv ≤ 9) (hld : 0 ≤ ld ∧ ld ≤ 9) (hst : 0 ≤ st ∧ st ≤ 9) (hs : ((s : Nat) : Int) < nS r) (hC : Closed r mv ld st (M 19)) (h0 : M 19 (c0N r s) ≤ 0) (hP : ∀ φ : Nat → Int, Pot r (c0N r s) mv ld st φ → ∀ x : Nat, x < 512 → φ x ≤ M 19 x)
    (kk : ∀ M', offP M M' → (∀ i, ¬ (16 * (s : Int) ≤ i ∧ i < 16 * (s : Int) + nS r) → M' 18 i = M 18 i) → (∀ t, 0 ≤ t → t < nS r → M' 18 (16 * (s : Int) + t) = pP r mv ld st s t) → k19 ((s + 1 : Nat) : Int) M') : ∃ n, fMd_laysPassages_34 k19 R n s 0 M := by
  have h16 := nS_le r
  have hF : FAR = 1000000000 := rfl
  have code : ∀ (t : Nat) (ht : ((t : Nat) : Int) < nS r) (k34 : Int → Int → Mem → Prop) (Mk : Mem), off19 Mk Mk → offP M Mk → (∀ x, Mk 19 x = M 19 x) → (k34 s ((t + 1 : Nat) : Int) (mu Mk 18 (16 * (s : Int) + t) (pP r mv ld st s t))) → ∃ n, fMd_laysPassages_48 k34 R n s t 1000000000 0 Mk := by
    intro t ht k34 Mk _ ho h19 hkk
    have hTk := hT.offP ho
    have hp := pP_b (mv := mv) (ld := ld) (st := st) (r := r) (s := s) (t := t) (by omega) hmv hld hst (by omega) (by omega)
    obtain ⟨hpsi, hok, hc5⟩ := psi_c0 hmv hld hst hr hs ht (by omega)
    obtain ⟨x0, a1, a2, a3, a4⟩ := reach_le hmv hld hst hr hs ht hC h0 hok hc5
    -- no code of t is nearer
    have low : ∀ x : Nat, x < 512 → atB r t x = true → pP r mv ld st s t ≤ M 19 x := by
      intro x hx hat
      by_cases hF1 : FAR ≤ M 19 x
      · omega
      · have hokx : okC r x = true := by
          cases ho2 : okC r x with
          | true => rfl
          | false =>
            have := hP (fun y => if okC r y then 0 else FAR) ⟨by simp [hok], fun y => by simp only; split <;> decide, fun u e v hu hok2 he => by
              have h1 := (he.to hr hu hok2).2.1
              simp [hok2, h1]
              unfold cE; split <;> (try split) <;> omega⟩ x hx
            simp [ho2] at this; omega
        have hb := hP (fun y => if okC r y then psi mv ld st r t (c0N r s) - psi mv ld st r t y else psi mv ld st r t (c0N r s) - 2000) ⟨by simp [hok], fun y => by
            have q1 := mnP_1000 (mv := mv) (ld := ld) (st := st) (pf (psI r t (c0N r s)))
            have q2 : 0 ≤ psi mv ld st r t y := by
              unfold psi
              rcases mnP_at (mv := mv) (ld := ld) (st := st) (pf (psI r t y)) with z | ⟨f, -, z⟩
              · rw [z]; decide
              · rw [z]; unfold fv
                have i1 : 0 ≤ (f.1 : Int) * mv := Int.mul_nonneg (by omega) hmv.1
                have i2 : 0 ≤ (f.2.1 : Int) * ld := Int.mul_nonneg (by omega) hld.1
                have i3 : 0 ≤ (f.2.2 : Int) * st := Int.mul_nonneg (by omega) hst.1
                omega
            have q3 : psi mv ld st r t (c0N r s) ≤ 1000 := q1
            simp only; split <;> omega, fun u e v hu hok2 he => by
            have h1 := (he.to hr hu hok2).2.1
            have := psi_ed (mv := mv) (ld := ld) (st := st) hmv.1 hld.1 hst.1 hr ht hu hok2 he
            simp [hok2, h1]; omega⟩ x hx
        have hz := psi_at (mv := mv) (ld := ld) (st := st) hr ht hx hokx hat
        simp only [hokx, if_true] at hb
        omega
    have loop : ∀ (m k : Nat) (b : Int), k + m = 512 → pP r mv ld st s t ≤ b → b ≤ FAR → (∀ x : Nat, x < k → atB r t x = true → b ≤ M 19 x) → fMd_laysPassages_48 k34 R (m + 1) s t b k Mk := by
      intro m
      induction m with
      | zero =>
        intro k b hk hb hbF hx
        have e : k = 512 := by omega
        subst e
        refine And.intro (fun _ => ?_) (fun q => absurd (by decide) q)
        have hbe : b = pP r mv ld st s t := by
          have := hx x0 a1 a3
          omega
        subst hbe
        rw [wrapI (z := 16 * (s : Int)) (by omega) (by omega), wrapI (z := 16 * (s : Int) + t) (by omega) (by omega), wrapI (by omega) (by omega)]
        refine ⟨⟨by omega, by omega⟩, ?_⟩
        rw [Int.natCast_add] at hkk
        exact hkk
      | succ m ih =>
        intro k b hkm hb hbF hx
        have hi : inb (k : Int) 512 := ⟨by omega, by omega⟩
        have w1 : wrap ((k : Int) + 1) = ((k + 1 : Nat) : Int) := by rw [wrapI (by omega) (by omega)]; omega
        have keep : (atB r t k = true → b ≤ M 19 k) → fMd_laysPassages_87 (fMd_laysPassages_48 k34 R (m + 1)) R s t b k Mk := fun hq => by
          unfold fMd_laysPassages_87 fMd_laysPassages_88; rw [w1]
          exact ih (k + 1) b (by omega) hb hbF (fun x hx2 hat => by
            by_cases e : x = k
            · subst e; exact hq hat
            · exact hx x (by omega) hat)
        refine And.intro (fun q => absurd q (by omega)) (fun _ => ⟨hi, fun q => keep (fun _ => by rw [h19] at q; exact q), fun q => s_isAt hr hTk ht (by omega) ?_⟩)
        rw [h19] at q
        by_cases hat : atB r t k = true
        · rw [if_pos hat]
          refine ⟨fun z => absurd z (by decide), fun _ => ⟨hi, ?_⟩⟩
          unfold fMd_laysPassages_88; rw [w1, h19]
          exact ih (k + 1) _ (by omega) (low k (by omega) hat) (by omega) (fun x hx2 hat2 => by
            by_cases e : x = k
            · subst e; exact Int.le_refl _
            · have := hx x (by omega) hat2
              omega)
        · rw [if_neg hat]
          exact ⟨fun _ => keep (fun z => absurd z hat), fun z => absurd rfl z⟩
    exact ⟨513, loop 512 0 1000000000 (by omega) (by omega) (by decide) (fun x hx => absurd hx (by omega))⟩
  have rows : ∀ (m t : Nat) (Mk : Mem), ((t + m : Nat) : Int) = nS r → offP M Mk → (∀ x, Mk 19 x = M 19 x) → (∀ i, ¬ (16 * (s : Int) ≤ i ∧ i < 16 * (s : Int) + nS r) → Mk 18 i = M 18 i) → (∀ t' : Int, 0 ≤ t' → t' < t → Mk 18 (16 * (s : Int) + t') = pP r mv ld st s t') → fMd_laysPassages_34 k19 R (m + 1) s t Mk := by
    intro m
    induction m with
    | zero =>
      intro t Mk hm ho h19 h18 hd
      refine And.intro (fun _ => ?_) (fun q => absurd (by rw [ho 0 20 (by decide) (by decide) (by decide), h20]; omega) q)
      have w1 : wrap ((s : Int) + 1) = ((s + 1 : Nat) : Int) := by rw [wrapI (by omega) (by omega)]; omega
      rw [w1]
      exact kk Mk ho h18 (fun t' z0 z1 => hd t' z0 (by omega))
    | succ m ih =>
      intro t Mk hm ho h19 h18 hd
      refine And.intro (fun q => absurd q (by rw [ho 0 20 (by decide) (by decide) (by decide), h20]; omega)) (fun _ => ?_)
      refine code t (by omega) _ Mk (fun _ _ _ => rfl) ho h19 ?_
      refine ih (t + 1) _ (by omega) (fun c i c18 c19 c20 => by rw [mu_cell c18]; exact ho c i c18 c19 c20) (fun x => by rw [mu_cell (by decide)]; exact h19 x) (fun i hi => by rw [mu_place (by omega)]; exact h18 i hi) (fun t' z0 z1 => ?_)
      by_cases e : t' = t
      · subst e; rw [mu_same]
      · rw [mu_place (by omega)]; exact hd t' z0 (by omega)
  exact ⟨(nS r).toNat + 1, rows (nS r).toNat 0 M (by omega) (fun _ _ _ _ _ => rfl) (fun _ => rfl) (fun _ _ => rfl) (fun t' z0 z1 => absurd z1 (by omega))⟩
end S
