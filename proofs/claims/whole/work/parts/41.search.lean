/-! the reference's search, run -/
theorem sumT_congr {f g : Int → Int} : ∀ {n : Nat}, (∀ i : Nat, i < n → f i = g i) → sumT f n = sumT g n := by
  intro n
  induction n with
  | zero => intro _; rfl
  | succ n ih => intro h; unfold sumT; rw [ih (fun i hi => h i (by omega)), h n (by omega)]
theorem sumT_one {f g : Int → Int} {j : Nat} : ∀ {n : Nat}, j < n → (∀ i : Nat, i < n → i ≠ j → f i = g i) → sumT f n = sumT g n - g j + f j := by
  intro n
  induction n with
  | zero => intro h; omega
  | succ n ih =>
    intro hj h
    unfold sumT
    by_cases hjn : j = n
    · subst hjn
      rw [sumT_congr (f := f) (g := g) (fun i hi => h i (by omega) (by omega))]; omega
    · rw [ih (by omega) (fun i hi hne => h i (by omega) hne), h n (by omega) (fun z => hjn z.symm)]; omega
theorem sumT_nonneg {f : Int → Int} : ∀ {n : Nat}, (∀ i : Nat, i < n → 0 ≤ f i) → 0 ≤ sumT f n := by
  intro n
  induction n with
  | zero => intro _; exact Int.le_refl _
  | succ n ih => intro h; unfold sumT; have := ih (fun i hi => h i (by omega)); have := h n (by omega); omega
theorem sumT_le {f : Int → Int} {b : Int} : ∀ {n : Nat}, (∀ i : Nat, i < n → f i ≤ b) → sumT f n ≤ b * n := by
  intro n
  induction n with
  | zero => intro _; simp [sumT]
  | succ n ih =>
    intro h; unfold sumT
    have h1 := ih (fun i hi => h i (by omega))
    have h2 := h n (by omega)
    rw [show ((n + 1 : Nat) : Int) = (n : Int) + 1 by omega, Int.mul_add, Int.mul_one]; omega
/-- a potential that no step undercuts -/
def Pot (r c0 : Nat) (mv ld st : Int) (φ : Nat → Int) : Prop := φ c0 ≤ 0 ∧ (∀ x, φ x ≤ FAR) ∧ ∀ u e v, u < 512 → okC r u = true → Ed r u e v → φ v ≤ φ u + cE mv ld st e
def off1920 (M0 M : Mem) : Prop := ∀ c i, c ≠ 19 → c ≠ 20 → M c i = M0 c i
/-- at the head of the search -/
def DI (r c0 : Nat) (mv ld st : Int) (M0 M : Mem) : Prop :=
  off1920 M0 M ∧ (∀ x : Nat, x < 512 → M 19 x ≤ FAR) ∧ (∀ x : Nat, x < 512 → M 20 x = 0 ∨ M 20 x = 1) ∧ M 19 c0 ≤ 0 ∧
  (∀ φ : Nat → Int, Pot r c0 mv ld st φ → ∀ x : Nat, x < 512 → φ x ≤ M 19 x) ∧
  (∀ u : Nat, u < 512 → M 20 u = 1 → M 19 u < FAR ∧ (∀ e v, Ed r u e v → M 19 v ≤ M 19 u + cE mv ld st e) ∧ ∀ x : Nat, x < 512 → M 20 x = 0 → M 19 u ≤ M 19 x)
theorem DI.nonneg {r c0 : Nat} {mv ld st : Int} {M0 M : Mem} (h : DI r c0 mv ld st M0 M) (hmv : 0 ≤ mv) (hld : 0 ≤ ld) (hst : 0 ≤ st) {x : Nat} (hx : x < 512) : 0 ≤ M 19 x := by
  refine h.2.2.2.2.1 (fun _ => 0) ⟨Int.le_refl _, fun _ => (by decide : (0 : Int) ≤ FAR), fun u e v _ _ _ => ?_⟩ x hx
  have : 0 ≤ cE mv ld st e := by unfold cE; split <;> (try split) <;> assumption
  show (0 : Int) ≤ 0 + cE mv ld st e
  omega
theorem DI.okC {r c0 : Nat} {mv ld st : Int} {M0 M : Mem} (h : DI r c0 mv ld st M0 M) (hr : 1 ≤ r ∧ r ≤ 3) (hmv : 0 ≤ mv) (hld : 0 ≤ ld) (hst : 0 ≤ st) (hc : okC r c0 = true) {x : Nat} (hx : x < 512) (hF : M 19 x < FAR) : okC r x = true := by
  cases ho : CStackStatesLaw_law_r5958_b2a606.okC r x with
  | true => rfl
  | false =>
    have := h.2.2.2.2.1 (fun y => if CStackStatesLaw_law_r5958_b2a606.okC r y then 0 else FAR) ⟨by simp [hc], fun y => by simp only; split <;> decide, fun u e v hu hok he => ?_⟩ x hx
    · simp [ho] at this; omega
    · have h1 := (he.to hr hu hok).2.1
      simp [hok, h1]
      unfold cE; split <;> (try split) <;> assumption
/-- one code is done -/
theorem DI.step {r c0 u : Nat} {mv ld st : Int} {M0 M M' : Mem} (h : DI r c0 mv ld st M0 M) (hr : 1 ≤ r ∧ r ≤ 3) (hmv : 0 ≤ mv ∧ mv ≤ 9) (hld : 0 ≤ ld ∧ ld ≤ 9) (hst : 0 ≤ st ∧ st ≤ 9) (hc : CStackStatesLaw_law_r5958_b2a606.okC r c0 = true) (hu : u < 512) (h0 : M 20 u = 0) (hF : M 19 u < FAR) (hmin : ∀ x : Nat, x < 512 → M 20 x = 0 → M 19 u ≤ M 19 x)
    (hN : NI r u mv ld st (mu M 20 u 1) M') (hE : ∀ e v, Ed r u e v → M' 19 v ≤ mu M 20 u 1 19 u + cE mv ld st e) : DI r c0 mv ld st M0 M' ∧ (∀ x : Nat, x < 512 → M' 20 x = if x = u then 1 else M 20 x) := by
  have e19 : ∀ y, mu M 20 u 1 19 y = M 19 y := fun y => mu_cell (by decide)
  have hce : ∀ e, 0 ≤ cE mv ld st e := fun e => by unfold cE; split <;> (try split) <;> omega
  have e20 : ∀ x : Nat, x < 512 → M' 20 x = if x = u then 1 else M 20 x := by
    intro x hx
    rw [hN.1 20 x (by decide)]
    by_cases hxu : x = u
    · subst hxu; rw [mu_same, if_pos rfl]
    · rw [mu_place (by omega), if_neg hxu]
  have le1 : ∀ y, M' 19 y ≤ M 19 y := fun y => by rw [← e19 y]; exact hN.2.1 y
  have ge1 : ∀ y, min (M 19 y) (M 19 u) ≤ M' 19 y := by
    refine hN.2.2 (fun y => min (M 19 y) (M 19 u)) (fun y => by rw [e19]; exact Int.min_le_left _ _) (fun e v _ => ?_)
    rw [e19]
    have := hce e
    have := Int.min_le_right (M 19 v) (M 19 u)
    omega
  have hok := h.okC hr hmv.1 hld.1 hst.1 hc hu hF
  have same : ∀ w : Nat, w < 512 → (M 20 w = 1 ∨ w = u) → M' 19 w = M 19 w := by
    intro w hw hd
    have h1 := le1 w
    have h2 := ge1 w
    have h3 : M 19 w ≤ M 19 u := by
      rcases hd with hd | hd
      · exact (h.2.2.2.2.2 w hw hd).2.2 u hu h0
      · subst hd; exact Int.le_refl _
    rw [Int.min_eq_left h3] at h2
    omega
  refine ⟨⟨?_, fun x hx => Int.le_trans (le1 x) (h.2.1 x hx), fun x hx => ?_, Int.le_trans (le1 c0) h.2.2.2.1, fun φ hφ x hx => ?_, fun w hw hd => ?_⟩, e20⟩
  · intro c i c19 c20
    rw [hN.1 c i c19, mu_cell c20]; exact h.1 c i c19 c20
  · rw [e20 x hx]; split
    · exact Or.inr rfl
    · exact h.2.2.1 x hx
  · have hP := h.2.2.2.2.1 φ hφ
    have := hN.2.2 (fun y => if 0 ≤ y ∧ y < 512 then φ y.toNat else M 19 y) (fun y => by
        rw [e19]
        split
        · rename_i hy
          have := hP y.toNat (by omega)
          rwa [show ((y.toNat : Nat) : Int) = y by omega] at this
        · exact Int.le_refl _) (fun e v he => by
        rw [e19]
        have hv := (he.to hr hu hok).1
        rw [if_pos ⟨by omega, by omega⟩, Int.toNat_natCast]
        have h1 := hφ.2.2 u e v hu hok he
        have h2 := hP u hu
        omega) x
    rw [if_pos ⟨by omega, by omega⟩, Int.toNat_natCast] at this
    exact this
  · rw [e20 w hw] at hd
    have hd' : M 20 w = 1 ∨ w = u := by
      by_cases hwu : w = u
      · exact Or.inr hwu
      · rw [if_neg hwu] at hd; exact Or.inl hd
    rw [same w hw hd']
    refine ⟨?_, fun e v he => ?_, fun x hx hx0 => ?_⟩
    · rcases hd' with q | q
      · exact (h.2.2.2.2.2 w hw q).1
      · subst q; exact hF
    · rcases hd' with q | q
      · exact Int.le_trans (le1 v) ((h.2.2.2.2.2 w hw q).2.1 e v he)
      · subst q
        have := hE e v he
        rwa [e19] at this
    · rw [e20 x hx] at hx0
      have hxu : x ≠ u := fun z => by rw [if_pos z] at hx0; omega
      rw [if_neg hxu] at hx0
      have h1 := ge1 x
      rw [Int.min_eq_right (hmin x hx hx0)] at h1
      have h3 : M 19 w ≤ M 19 u := by
        rcases hd' with q | q
        · exact (h.2.2.2.2.2 w hw q).2.2 u hu h0
        · subst q; exact Int.le_refl _
      omega
section S
variable {r c0 : Nat} {mv ld st : Int} {M0 M : Mem} {R : Int → Mem → Prop}
/-- the next code: the nearest that isn't done -/
def isNext (M : Mem) (k : Nat) (x : Int) : Prop := (x = -1 ∧ ∀ y : Nat, y < k → M 20 y = 0 → FAR ≤ M 19 y) ∨ ∃ u : Nat, x = u ∧ u < k ∧ M 20 u = 0 ∧ M 19 u < FAR ∧ ∀ y : Nat, y < k → M 20 y = 0 → M 19 u ≤ M 19 y
theorem s_next {k90 : Int → Mem → Prop} (h01 : ∀ x : Nat, x < 512 → M 20 x = 0 ∨ M 20 x = 1) (kk : ∀ x, isNext M 512 x → k90 x M) : ∀ (m k : Nat) (x : Int), k + m = 512 → isNext M k x → fMd_laysFrom_111 k90 R (m + 1) x k M := by
  have hF : FAR = 1000000000 := rfl
  intro m
  induction m with
  | zero =>
    intro k x hk hx
    have e : k = 512 := by omega
    subst e
    exact And.intro (fun _ => kk x hx) (fun q => absurd (by decide) q)
  | succ m ih =>
    intro k x hk hx
    have hi : inb (k : Int) 512 := ⟨by omega, by omega⟩
    have w1 : wrap ((k : Int) + 1) = ((k + 1 : Nat) : Int) := by rw [wrapI (by omega) (by omega)]; omega
    have keep : isNext M (k + 1) x → fMd_laysFrom_166 (fMd_laysFrom_111 k90 R (m + 1)) R x k M := fun h => by
      unfold fMd_laysFrom_166 fMd_laysFrom_167; rw [w1]; exact ih (k + 1) x (by omega) h
    have take : isNext M (k + 1) k → fMd_laysFrom_161 (fMd_laysFrom_111 k90 R (m + 1)) R k M := fun h => by
      unfold fMd_laysFrom_161 fMd_laysFrom_167; rw [w1]; exact ih (k + 1) k (by omega) h
    have grow : (M 20 k = 0 → FAR ≤ M 19 k ∨ ∃ u : Nat, x = u ∧ M 19 u ≤ M 19 k) → isNext M (k + 1) x := by
      intro hk0
      rcases hx with ⟨rfl, h1⟩ | ⟨u, rfl, h1, h2, h3, h4⟩
      · refine Or.inl ⟨rfl, fun y hy hy0 => ?_⟩
        by_cases hyk : y = k
        · subst hyk
          rcases hk0 hy0 with z | ⟨u, z, -⟩
          · exact z
          · omega
        · exact h1 y (by omega) hy0
      · refine Or.inr ⟨u, rfl, by omega, h2, h3, fun y hy hy0 => ?_⟩
        by_cases hyk : y = k
        · subst hyk
          rcases hk0 hy0 with z | ⟨u', z, z2⟩
          · omega
          · have : u = u' := by omega
            subst this; exact z2
        · exact h4 y (by omega) hy0
    refine And.intro (fun q => absurd q (by omega)) (fun _ => ⟨hi, fun q => keep (grow (fun z => absurd z q)), fun q => ⟨hi, fun q2 => keep (grow (fun _ => Or.inl (by omega))), fun q2 => ⟨fun q3 => take ?_, fun q3 => ?_⟩⟩⟩)
    · rcases hx with ⟨rfl, h1⟩ | ⟨u, rfl, -⟩
      · refine Or.inr ⟨k, rfl, by omega, q, by omega, fun y hy hy0 => ?_⟩
        by_cases hyk : y = k
        · subst hyk; exact Int.le_refl _
        · have := h1 y (by omega) hy0
          omega
      · omega
    · rcases hx with ⟨rfl, h1⟩ | ⟨u, rfl, h1, h2, h3, h4⟩
      · omega
      · refine ⟨hi, ⟨by omega, by omega⟩, fun q4 => keep (grow (fun _ => Or.inr ⟨u, rfl, q4⟩)), fun q4 => take ?_⟩
        refine Or.inr ⟨k, rfl, by omega, q, by omega, fun y hy hy0 => ?_⟩
        by_cases hyk : y = k
        · subst hyk; exact Int.le_refl _
        · have := h4 y (by omega) hy0
          omega
/-- the search to its end -/
theorem s_main (hr : 1 ≤ r ∧ r ≤ 3) (hmv : 0 ≤ mv ∧ mv ≤ 9) (hld : 0 ≤ ld ∧ ld ≤ 9) (hst : 0 ≤ st ∧ st ≤ 9) (hs : M0 1 0 = r ∧ M0 1 1 = mv ∧ M0 1 2 = ld ∧ M0 1 3 = st) (hc : okC r c0 = true)
    (h : ∀ M', DI r c0 mv ld st M0 M' → (∀ x : Nat, x < 512 → M' 20 x = 0 → FAR ≤ M' 19 x) → R 0 M') : ∀ (n : Nat) (x : Int) (M : Mem), DI r c0 mv ld st M0 M → isNext M 512 x → sumT (fun i => 1 - M 20 i) 512 < n → fMd_laysFrom_90 R n x M := by
  intro n
  induction n with
  | zero =>
    intro x M hD _ hs0
    have := sumT_nonneg (f := fun i => 1 - M 20 i) (n := 512) (fun i hi => by rcases hD.2.2.1 i hi with z | z <;> rw [z] <;> decide)
    omega
  | succ n ih =>
    intro x M hD hx hsn
    rcases hx with ⟨rfl, h1⟩ | ⟨u, rfl, hu, h0, hF, hmin⟩
    · exact And.intro (fun _ => h M hD h1) (fun q => absurd (by decide) q)
    · refine And.intro (fun q => absurd q (by omega)) (fun _ => ⟨⟨by omega, by omega⟩, ?_⟩)
      have hn0 := hD.nonneg hmv.1 hld.1 hst.1 hu
      have e1 : ∀ i, mu M 20 u 1 1 i = M0 1 i := fun i => by rw [mu_cell (by decide)]; exact hD.1 1 i (by decide) (by decide)
      refine s_goesBehind (r := r) (mv := mv) (ld := ld) (st := st) hr ⟨by rw [e1]; exact hs.1, by rw [e1]; exact hs.2.1, by rw [e1]; exact hs.2.2.1, by rw [e1]; exact hs.2.2.2⟩ hmv hld hst hu (by rw [mu_cell (by decide)]; exact ⟨hn0, hF⟩) (fun M' hN hE => ?_)
      obtain ⟨hD', e20⟩ := hD.step hr hmv hld hst hc hu h0 hF hmin hN hE
      refine ⟨513, s_next hD'.2.2.1 (fun x hx => ih x M' hD' hx ?_) 512 0 (-1) rfl (Or.inl ⟨rfl, fun y hy => absurd hy (by omega)⟩)⟩
      have := sumT_one (f := fun i => 1 - M' 20 i) (g := fun i => 1 - M 20 i) (j := u) (n := 512) hu (fun i hi hne => by
        show 1 - M' 20 i = 1 - M 20 i
        rw [e20 i hi, if_neg hne])
      rw [this]
      rw [e20 u hu, if_pos rfl, h0]
      omega
end S
