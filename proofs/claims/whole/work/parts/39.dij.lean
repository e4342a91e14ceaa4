/-! the reference's search: one code's steps -/
def cE (mv ld st : Int) (e : Nat) : Int := if e = 0 then mv else if e = 1 then ld else st
def Ed (r u e v : Nat) : Prop := ∃ x, x < r ∧ ((e = 0 ∧ ∃ q, q < r ∧ v = wN u x (hN u q)) ∨ (e = 1 ∧ ∃ c, c < 3 ∧ gN u c = 1 ∧ v = wN u x (c + 1)) ∨ (e = 2 ∧ hN u x ≠ 0 ∧ v = sN u (hN u x - 1)))
theorem hN_lt (u x : Nat) : hN u x < 4 := Nat.mod_lt _ (by decide)
theorem kk_has {u x : Nat} (hu : u < 512) (hx : x < 3) : b_iand (b_ishr (u : Int) (wrap (2 * (x : Int)))) 3 = ((hN u x : Nat) : Int) := k_has ⟨u, hu⟩ ⟨x, hx⟩
theorem kk_with {u x c : Nat} (hu : u < 512) (hx : x < 3) (hc : c < 4) : b_ior (b_iand (u : Int) (b_ixor (b_ishl 3 (wrap (2 * (x : Int)))) (-1))) (b_ishl (c : Int) (wrap (2 * (x : Int)))) = ((wN u x c : Nat) : Int) ∧ wN u x c < 512 := k_with ⟨u, hu⟩ ⟨x, hx⟩ ⟨c, hc⟩
theorem kk_good {u c : Nat} (hu : u < 512) (hc : c < 3) : b_iand (b_ishr (u : Int) (wrap (6 + (c : Int)))) 1 = ((gN u c : Nat) : Int) := k_good ⟨u, hu⟩ ⟨c, hc⟩
theorem kk_set {u c : Nat} (hu : u < 512) (hc : c < 3) : b_ior (u : Int) (b_ishl 1 (wrap (5 + ((c + 1 : Nat) : Int)))) = ((sN u c : Nat) : Int) ∧ sN u c < 512 := k_set ⟨u, hu⟩ ⟨c, hc⟩
theorem Ed.to {r u e v : Nat} (hr : 1 ≤ r ∧ r ≤ 3) (hu : u < 512) (hok : okC r u = true) (h : Ed r u e v) : v < 512 ∧ okC r v = true ∧ e < 3 := by
  have hk := k_okC ⟨r, by omega⟩ ⟨u, hu⟩
  dsimp only at hk
  rw [hok] at hk
  simp only [Bool.or_eq_true, Bool.and_eq_true, decide_eq_true_eq, Bool.not_true, Bool.false_eq_true, or_false, List.all_eq_true, List.mem_range] at hk
  have hk := hk.resolve_left (by omega)
  obtain ⟨x, hx, (⟨rfl, q, hq, rfl⟩ | ⟨rfl, c, hc, -, rfl⟩ | ⟨rfl, h0, rfl⟩)⟩ := h
  · exact ⟨(kk_with hu (by omega) (hN_lt u q)).2, (hk x hx).1 _ (hN_lt u q), by decide⟩
  · exact ⟨(kk_with hu (by omega) (by omega)).2, (hk x hx).1 _ (by omega), by decide⟩
  · have := hN_lt u x
    exact ⟨(kk_set hu (by omega)).2, (hk x hx).2 _ (by omega), by decide⟩
def off19 (M M' : Mem) : Prop := ∀ c i, c ≠ 19 → M' c i = M c i
/-- while steps are laid: nothing grows, nothing falls below what bounds all steps -/
def NI (r u : Nat) (mv ld st : Int) (M M' : Mem) : Prop := off19 M M' ∧ (∀ x, M' 19 x ≤ M 19 x) ∧ ∀ φ : Int → Int, (∀ x, φ x ≤ M 19 x) → (∀ e v, Ed r u e v → φ v ≤ M 19 u + cE mv ld st e) → ∀ x, φ x ≤ M' 19 x
theorem NI.rf (r u : Nat) (mv ld st : Int) (M : Mem) : NI r u mv ld st M M := ⟨fun _ _ _ => rfl, fun _ => Int.le_refl _, fun _ h _ => h⟩
def laid (u x r : Nat) (mv ld st d : Int) (M : Mem) : Prop := (∀ q, q < r → M 19 (wN u x (hN u q)) ≤ d + mv) ∧ (∀ c, c < 3 → gN u c = 1 → M 19 (wN u x (c + 1)) ≤ d + ld) ∧ (hN u x ≠ 0 → M 19 (sN u (hN u x - 1)) ≤ d + st)
theorem laid.mono {u x r : Nat} {mv ld st d : Int} {M M' : Mem} (h : laid u x r mv ld st d M) (hm : ∀ y, M' 19 y ≤ M 19 y) : laid u x r mv ld st d M' :=
  ⟨fun q hq => Int.le_trans (hm _) (h.1 q hq), fun c hc hg => Int.le_trans (hm _) (h.2.1 c hc hg), fun h0 => Int.le_trans (hm _) (h.2.2 h0)⟩
theorem s_nearer {v : Nat} {val : Int} {M : Mem} {R : Int → Mem → Prop} (hv : v < 512) (h : R 0 (mu M 19 v (min (M 19 v) val))) : fMd_nearer v val M R := by
  have hi : inb (v : Int) 512 := ⟨by omega, by omega⟩
  refine ⟨hi, fun q => ⟨hi, hi, ?_⟩, fun q => ⟨hi, ?_⟩⟩
  · rwa [Int.min_eq_left q] at h
  · rwa [Int.min_eq_right (by omega)] at h
theorem NI.step {r u : Nat} {mv ld st : Int} {M M' : Mem} {e v : Nat} (h : NI r u mv ld st M M') (he : Ed r u e v) : NI r u mv ld st M (mu M' 19 v (min (M' 19 v) (M 19 u + cE mv ld st e))) ∧ (∀ y, mu M' 19 v (min (M' 19 v) (M 19 u + cE mv ld st e)) 19 y ≤ M' 19 y) ∧ mu M' 19 v (min (M' 19 v) (M 19 u + cE mv ld st e)) 19 v ≤ M 19 u + cE mv ld st e := by
  have dec : ∀ y, mu M' 19 v (min (M' 19 v) (M 19 u + cE mv ld st e)) 19 y ≤ M' 19 y := by
    intro y
    by_cases hy : y = (v : Int)
    · subst hy; rw [mu_same]; exact Int.min_le_left _ _
    · rw [mu_place hy]; exact Int.le_refl _
  refine ⟨⟨fun c i hc => by rw [mu_cell hc]; exact h.1 c i hc, fun y => Int.le_trans (dec y) (h.2.1 y), fun φ h1 h2 y => ?_⟩, dec, by rw [mu_same]; exact Int.min_le_right _ _⟩
  by_cases hy : y = (v : Int)
  · subst hy; rw [mu_same]
    exact Int.le_min.mpr ⟨h.2.2 φ h1 h2 _, h2 e v he⟩
  · rw [mu_place hy]; exact h.2.2 φ h1 h2 y
section G
variable {r u : Nat} {mv ld st : Int} {M : Mem} {R : Int → Mem → Prop}
theorem s_gb65 {k9 : Int → Int → Int → Mem → Prop} (hr : 1 ≤ r ∧ r ≤ 3) (hc : M 1 0 = r ∧ M 1 1 = mv ∧ M 1 2 = ld ∧ M 1 3 = st) (hmv : 0 ≤ mv ∧ mv ≤ 9) (hld : 0 ≤ ld ∧ ld ≤ 9) (hst : 0 ≤ st ∧ st ≤ 9) (hu : u < 512) (hd : 0 ≤ M 19 u ∧ M 19 u < FAR) {x : Nat} (hx : x < r)
    (kk : ∀ M', NI r u mv ld st M M' → (∀ x', x' < x + 1 → laid u x' r mv ld st (M 19 u) M') → k9 u (M 19 u) ((x + 1 : Nat) : Int) M') :
    ∀ (m c : Nat) (Mk : Mem), c + m = 3 → NI r u mv ld st M Mk → (∀ x', x' < x → laid u x' r mv ld st (M 19 u) Mk) → (∀ q, q < r → Mk 19 (wN u x (hN u q)) ≤ M 19 u + mv) → (∀ c', c' < c → gN u c' = 1 → Mk 19 (wN u x (c' + 1)) ≤ M 19 u + ld) → fMd_goesBehind_65 k9 R (m + 1) u (M 19 u) x c Mk := by
  have hF : FAR = 1000000000 := rfl
  intro m
  induction m with
  | zero =>
    intro c Mk hm hI hA h1 h2
    have c3 : c = 3 := by omega
    subst c3
    refine And.intro (fun _ => ?_) (fun q => absurd (by decide) q)
    unfold fMd_hasOf
    dsimp only
    rw [kk_has hu (by omega)]
    have hlt := hN_lt u x
    refine ⟨fun q => ?_, fun q => ?_⟩
    · unfold fMd_goesBehind_142
      rw [wrapI (by omega) (by omega)]
      have := kk Mk hI (fun x' hx' => by
        by_cases hxx : x' = x
        · subst hxx; exact ⟨h1, h2, fun z => absurd z (by omega)⟩
        · exact hA x' (by omega))
      rwa [Int.natCast_add] at this
    · have h0 : hN u x ≠ 0 := by omega
      have ks := kk_set (u := u) (c := hN u x - 1) hu (by omega)
      rw [show hN u x - 1 + 1 = hN u x by omega] at ks
      rw [ks.1, hI.1 1 3 (by decide), hc.2.2.2, wrapI (by omega) (by omega)]
      have he : Ed r u 2 (sN u (hN u x - 1)) := ⟨x, hx, Or.inr (Or.inr ⟨rfl, h0, rfl⟩)⟩
      obtain ⟨n1, n2, n3⟩ := hI.step he
      refine s_nearer ks.2 ?_
      unfold fMd_goesBehind_142
      rw [wrapI (by omega) (by omega)]
      have := kk _ n1 (fun x' hx' => by
        by_cases hxx : x' = x
        · subst hxx; exact ⟨fun q hq => Int.le_trans (n2 _) (h1 q hq), fun c hc hg => Int.le_trans (n2 _) (h2 c hc hg), fun _ => n3⟩
        · exact (hA x' (by omega)).mono n2)
      rwa [Int.natCast_add] at this
  | succ m ih =>
    intro c Mk hm hI hA h1 h2
    refine And.intro (fun q => absurd q (by omega)) (fun _ => ?_)
    rw [kk_good hu (by omega)]
    refine ⟨fun q => ?_, fun q => ?_⟩
    · unfold fMd_goesBehind_105
      rw [wrapI (by omega) (by omega)]
      exact ih (c + 1) Mk (by omega) hI hA h1 (fun c' hc' hg => by
        by_cases hcc : c' = c
        · subst hcc; exact absurd (by rw [hg]; rfl) q
        · exact h2 c' (by omega) hg)
    · have hg : gN u c = 1 := by omega
      have kw := kk_with (u := u) (x := x) (c := c + 1) hu (by omega) (by omega)
      unfold fMd_with
      dsimp only
      rw [wrapI (z := (c : Int) + 1) (by omega) (by omega), show (c : Int) + 1 = ((c + 1 : Nat) : Int) by omega, kw.1, hI.1 1 2 (by decide), hc.2.2.1, wrapI (by omega) (by omega)]
      have he : Ed r u 1 (wN u x (c + 1)) := ⟨x, hx, Or.inr (Or.inl ⟨rfl, c, by omega, hg, rfl⟩)⟩
      obtain ⟨n1, n2, n3⟩ := hI.step he
      refine s_nearer kw.2 ?_
      unfold fMd_goesBehind_105
      rw [wrapI (by omega) (by omega)]
      exact ih (c + 1) _ (by omega) n1 (fun x' hx' => (hA x' hx').mono n2) (fun q hq => Int.le_trans (n2 _) (h1 q hq)) (fun c' hc' hg' => by
        by_cases hcc : c' = c
        · subst hcc; exact n3
        · exact Int.le_trans (n2 _) (h2 c' (by omega) hg'))
theorem s_gb22 {k9 : Int → Int → Int → Mem → Prop} (hr : 1 ≤ r ∧ r ≤ 3) (hc : M 1 0 = r ∧ M 1 1 = mv ∧ M 1 2 = ld ∧ M 1 3 = st) (hmv : 0 ≤ mv ∧ mv ≤ 9) (hld : 0 ≤ ld ∧ ld ≤ 9) (hst : 0 ≤ st ∧ st ≤ 9) (hu : u < 512) (hd : 0 ≤ M 19 u ∧ M 19 u < FAR) {x : Nat} (hx : x < r)
    (kk : ∀ M', NI r u mv ld st M M' → (∀ x', x' < x + 1 → laid u x' r mv ld st (M 19 u) M') → k9 u (M 19 u) ((x + 1 : Nat) : Int) M') :
    ∀ (m q : Nat) (Mk : Mem), q + m = r → NI r u mv ld st M Mk → (∀ x', x' < x → laid u x' r mv ld st (M 19 u) Mk) → (∀ q', q' < q → Mk 19 (wN u x (hN u q')) ≤ M 19 u + mv) → fMd_goesBehind_22 k9 R (m + 1) u (M 19 u) x q Mk := by
  have hF : FAR = 1000000000 := rfl
  intro m
  induction m with
  | zero =>
    intro q Mk hm hI hA h1
    have e : q = r := by omega
    subst e
    refine And.intro (fun _ => ⟨4, s_gb65 hr hc hmv hld hst hu hd hx kk 3 0 Mk rfl hI hA h1 (fun c' hc' => absurd hc' (by omega))⟩) (fun z => absurd (by rw [hI.1 1 0 (by decide), hc.1]; exact Int.le_refl _) z)
  | succ m ih =>
    intro q Mk hm hI hA h1
    refine And.intro (fun z => absurd z (by rw [hI.1 1 0 (by decide), hc.1]; omega)) (fun _ => ?_)
    unfold fMd_hasOf fMd_with
    dsimp only
    have kw := kk_with (u := u) (x := x) (c := hN u q) hu (by omega) (hN_lt u q)
    rw [kk_has hu (by omega), kw.1, hI.1 1 1 (by decide), hc.2.1, wrapI (by omega) (by omega)]
    have he : Ed r u 0 (wN u x (hN u q)) := ⟨x, hx, Or.inl ⟨rfl, q, by omega, rfl⟩⟩
    obtain ⟨n1, n2, n3⟩ := hI.step he
    refine s_nearer kw.2 ?_
    rw [wrapI (by omega) (by omega)]
    exact ih (q + 1) _ (by omega) n1 (fun x' hx' => (hA x' hx').mono n2) (fun q' hq' => by
      by_cases hqq : q' = q
      · subst hqq; exact n3
      · exact Int.le_trans (n2 _) (h1 q' (by omega)))
theorem s_goesBehind (hr : 1 ≤ r ∧ r ≤ 3) (hc : M 1 0 = r ∧ M 1 1 = mv ∧ M 1 2 = ld ∧ M 1 3 = st) (hmv : 0 ≤ mv ∧ mv ≤ 9) (hld : 0 ≤ ld ∧ ld ≤ 9) (hst : 0 ≤ st ∧ st ≤ 9) (hu : u < 512) (hd : 0 ≤ M 19 u ∧ M 19 u < FAR)
    (h : ∀ M', NI r u mv ld st M M' → (∀ e v, Ed r u e v → M' 19 v ≤ M 19 u + cE mv ld st e) → R 0 M') : fMd_goesBehind u M R := by
  refine ⟨⟨by omega, by omega⟩, ?_⟩
  have key : ∀ (m x : Nat) (Mk : Mem), x + m = r → NI r u mv ld st M Mk → (∀ x', x' < x → laid u x' r mv ld st (M 19 u) Mk) → fMd_goesBehind_9 R (m + 1) u (M 19 u) x Mk := by
    intro m
    induction m with
    | zero =>
      intro x Mk hm hI hA
      have e : x = r := by omega
      subst e
      refine And.intro (fun _ => h Mk hI (fun e v he => ?_)) (fun z => absurd (by rw [hI.1 1 0 (by decide), hc.1]; exact Int.le_refl _) z)
      obtain ⟨y, hy, (⟨rfl, q, hq, rfl⟩ | ⟨rfl, c, hc', hg, rfl⟩ | ⟨rfl, h0, rfl⟩)⟩ := he
      · exact (hA y hy).1 q hq
      · exact (hA y hy).2.1 c hc' hg
      · exact (hA y hy).2.2 h0
    | succ m ih =>
      intro x Mk hm hI hA
      refine And.intro (fun z => absurd z (by rw [hI.1 1 0 (by decide), hc.1]; omega)) (fun _ => ⟨r + 1, ?_⟩)
      exact s_gb22 hr hc hmv hld hst hu hd (x := x) (by omega) (fun M' hN' hA' => ih (x + 1) M' (by omega) hN' hA') r 0 Mk (by omega) hI hA (fun q' hq' => absurd hq' (by omega))
  exact ⟨r + 1, key r 0 M (by omega) (NI.rf _ _ _ _ _ _) (fun x' hx' => absurd hx' (by omega))⟩
end G
