/-! changes -/
/-- the program in x -/
def PC (c : Cf) (M : Mem) : Prop := M 13 6 = cN c ∧ ∀ i, 0 ≤ i → i < cN c → M 14 i = cK c i ∧ M 17 i = cDep c i ∧ M 19 i = cTg c i ∧ (cTg c i = 0 ∨ cTg c i = 1) ∧ M 6 i = cW c i ∧ (lea c i = true → M 15 i = cNu c i)
section C
variable {m : Int} {X Y X1 Y1 : Mem} {c : Cf} {nt t1 t2 : Int} {R : Int → Mem → Prop}
abbrev rfS : List Nat := [8, 9, 10, 11, 12, 27, 40]
theorem s_refresh {r mv ld st : Int} (hr : 1 ≤ r ∧ r ≤ 3) (hmv : 0 ≤ mv ∧ mv ≤ 9) (hld : 0 ≤ ld ∧ ld ≤ 9) (hst : 0 ≤ st ∧ st ≤ 9) (h5 : X1 5 0 = r ∧ X1 5 1 = mv ∧ X1 5 2 = ld ∧ X1 5 3 = st) (hT : X1 8 0 = r → TX r X1) (hP : X1 8 0 = r → X1 8 1 = mv → X1 8 2 = ld → X1 8 3 = st → MX r mv ld st X1)
    (h : ∀ X2, Off rfS [] X1 X2 → MX r mv ld st X2 → X2 27 17 = 0 → X2 27 18 = 0 → X2 40 7 = 0 → R 0 X2) : fSt_refresh X1 R := by
  unfold fSt_refresh fCh_forget
  refine s_equip hr hmv hld hst h5 hT hP (fun X2 o2 hMX => ?_)
  have o3 : Off rfS [] X1 (mu (mu (mu X2 27 17 0) 27 18 0) 40 7 0) := (((o2.mono (by decide) (by decide)).mu (Or.inl (by decide))).mu (Or.inl (by decide))).mu (Or.inl (by decide))
  have o23 : Off [27, 40] [] X2 (mu (mu (mu X2 27 17 0) 27 18 0) 40 7 0) := (((Off.rf _ _ _).mu (Or.inl (by decide))).mu (Or.inl (by decide))).mu (Or.inl (by decide))
  exact h _ o3 (hMX.off o23 (by decide) (by decide)) (by simp [mu]) (by simp [mu]) (by simp [mu])
theorem Rel.renew {X3 : Mem} (a : RT X1 Y1) (b : RCa X1 Y1) (d : RS X1 Y1) (e : RU X1 Y1) (hV : VP c) (hG : TG c nt t1 t2) (hM : MC c Y1) (hx : PC c X1) (hD : DR c) (hN : NR c X1 Y1)
    (h7 : X1 13 7 = sumT (fun i => if cDep c i ≠ -4 then 1 else 0) (cN c).toNat) (h8 : X1 13 8 = sumT (cTg c) (cN c).toNat) (o3 : Off rfS [] X1 X3) (hMX3 : MX (cR c) c.1.2.1 c.1.2.2.1 c.1.2.2.2 X3) (k17 : X3 27 17 = 0) (k18 : X3 27 18 = 0) (k7 : X3 40 7 = 0)
    (y31 : Y1 0 31 = 0) (y27 : Y1 0 27 = 0 ∨ (Y1 0 27 = 1 ∧ PassOK (cR c) c.1.2.1 c.1.2.2.1 c.1.2.2.2 Y1)) (y40 : Y1 0 40 = -4) (y25 : 0 ≤ Y1 25 0 ∧ Y1 25 0 < 24) (y43 : Y1 0 43 = 0) : Rel m X3 Y1 := by
  have oy : Off [] [] Y1 Y1 := Off.rf _ _ _
  have hX3 : XC c X3 := by
    refine ⟨by rw [o3.cell (by decide)]; exact hx.1, fun i i0 i1 => ?_, hMX3.1, hMX3.2.1, hMX3.1.2.1, hMX3.2.2⟩
    rw [o3.cell (c := 14) (by decide), o3.cell (c := 17) (by decide), o3.cell (c := 19) (by decide), o3.cell (c := 6) (by decide), o3.cell (c := 15) (by decide)]
    exact hx.2 i i0 i1
  refine ⟨a.off o3 oy (by decide) (by decide), b.off o3 oy (by decide) (by decide), d.off o3 oy (by decide) (by decide), e.off o3 oy (by decide) (by decide), c, nt, t1, t2, ⟨hV, hG, hX3, hM, hD, ?_, by rw [o3.cell (by decide)]; exact h7, by rw [o3.cell (by decide)]; exact h8⟩, ⟨⟨Or.inl k17, Or.inl k18⟩, Or.inl y31, y27, y40, y25⟩, ?_⟩
  · unfold NR at hN ⊢; rw [o3.fn (c := 15) (by decide)]; exact hN
  · exact ⟨by rw [y43, k7], Or.inl k7⟩
/-- the settings of x as a row -/
def rwX (X : Mem) (k : Int) : Int := if k = 0 then X 5 0 else if k = 1 then X 5 1 else if k = 2 then X 5 2 else if k = 3 then X 5 3 else X 6 (k - 4)
theorem s_remember {p q : Int} (hp : X 5 7 = p ∧ 0 ≤ p ∧ p < 6) (hq : X 5 5 = q ∧ 0 ≤ q ∧ q ≤ 6)
    (h : ∀ X1, Off [5, 7] [] X X1 → (∀ f, f ≠ 5 → f ≠ 7 → X1 5 f = X 5 f) → X1 5 5 = min (q + 1) 6 → X1 5 7 = (p + 1) % 6 → (∀ k, 0 ≤ k → k < 28 → X1 7 (28 * p + k) = rwX X k) → (∀ r k, 0 ≤ r → r < 6 → r ≠ p → 0 ≤ k → k < 28 → X1 7 (28 * r + k) = X 7 (28 * r + k)) → R 0 X1) : fSe_remember X R := by
  unfold fSe_remember
  rw [hp.1, wrapI (z := p * 28) (by omega) (by omega), wrapI (z := p * 28 + 1) (by omega) (by omega), wrapI (z := p * 28 + 2) (by omega) (by omega), wrapI (z := p * 28 + 3) (by omega) (by omega), wrapI (z := p * 28 + 4) (by omega) (by omega), wrapI (z := p + 1) (by omega) (by omega)]
  have key : ∀ t, t = (p + 1) % 6 → fSe_remember_93 R t (mcopy (mu (mu (mu (mu X 7 (p * 28) (X 5 0)) 7 (p * 28 + 1) (X 5 1)) 7 (p * 28 + 2) (X 5 2)) 7 (p * 28 + 3) (X 5 3)) 6 0 7 (p * 28 + 4) 24) := by
    intro t et
    unfold fSe_remember_93
    refine s_min ?_
    have e55 : (mcopy (mu (mu (mu (mu X 7 (p * 28) (X 5 0)) 7 (p * 28 + 1) (X 5 1)) 7 (p * 28 + 2) (X 5 2)) 7 (p * 28 + 3) (X 5 3)) 6 0 7 (p * 28 + 4) 24) 5 5 = q := by simp [mcopy, mu, hq.1]
    rw [e55, wrapI (z := q + 1) (by omega) (by omega)]
    refine h _ ?_ ?_ ?_ ?_ ?_ ?_
    · intro d i h1 h2
      have h5 : d ≠ 5 := fun z => h1 (by rw [z]; decide)
      have h7 : d ≠ 7 := fun z => h1 (by rw [z]; decide)
      simp [mu, mcopy, h5, h7]
    · intro f f5 f7
      simp [mu, mcopy, f5, f7]
    · simp [mu]
    · simp [mu, et]
    · intro k k0 k1
      unfold rwX
      by_cases z4 : 4 ≤ k
      · have : (p * 28 + 4 ≤ 28 * p + k ∧ 28 * p + k < p * 28 + 4 + 24) := by omega
        simp [mu, mcopy, this]
        rw [if_neg (by omega), if_neg (by omega), if_neg (by omega), if_neg (by omega)]
        congr 1; omega
      · have n1 : ¬ (p * 28 + 4 ≤ 28 * p + k ∧ 28 * p + k < p * 28 + 4 + 24) := by omega
        have hk : k = 0 ∨ k = 1 ∨ k = 2 ∨ k = 3 := by omega
        simp only [mu, mcopy]
        rcases hk with z | z | z | z <;> subst z <;> simp <;> (repeat' (first | rfl | omega | split))
    · intro r k r0 r1 hr k0 k1
      have n1 : ¬ (p * 28 + 4 ≤ 28 * r + k ∧ 28 * r + k < p * 28 + 4 + 24) := by omega
      have n2 : ¬ (28 * r + k = p * 28) := by omega
      have n3 : ¬ (28 * r + k = p * 28 + 1) := by omega
      have n4 : ¬ (28 * r + k = p * 28 + 2) := by omega
      have n5 : ¬ (28 * r + k = p * 28 + 3) := by omega
      simp only [mu, mcopy]
      simp [n1, n2, n3, n4, n5]
  refine ⟨⟨by omega, by omega⟩, ⟨by omega, by omega⟩, ⟨by omega, by omega⟩, ⟨by omega, by omega⟩, ⟨by omega, by omega, by omega, by omega, by omega⟩, fun z => key 0 (by omega), fun z => key _ (by omega)⟩
theorem s_notes52 {q : Int} {N : Mem} (hq : N 0 2 = q ∧ 0 ≤ q ∧ q ≤ 5) (h : ∀ Y1, Off [2] [2, 27, 31, 43] N Y1 → Y1 0 2 = q + 1 → Y1 0 43 = 0 → Y1 0 31 = 0 → Y1 0 27 = 0 → (∀ k, 0 ≤ k → k < 28 → Y1 2 (28 * q + k) = N 1 k) → (∀ j, j < 28 * q → Y1 2 j = N 2 j) → R 0 Y1) : fMd_notes_50 R N := by
  have key : ∀ (d : Nat) (x : Int) (M : Mem), 0 ≤ x → x + d = 28 → Off [2] [] N M → (∀ k, 0 ≤ k → k < x → M 2 (28 * q + k) = N 1 k) → (∀ j, j < 28 * q → M 2 j = N 2 j) → fMd_notes_52 R (d + 1) x M := by
    intro d
    induction d with
    | zero =>
      intro x M x0 xd ho h1 h2
      refine ⟨fun _ => ?_, fun z => by omega⟩
      have e2 : M 0 2 = q := by rw [ho.fld (by decide)]; exact hq.1
      unfold fMd_forgets
      rw [e2, wrapI (z := q + 1) (by omega) (by omega)]
      refine h _ ((((ho.mono (by decide) (by decide)).mu (Or.inr (by decide))).mu (Or.inr (by decide)) |>.mu (Or.inr (by decide))).mu (Or.inr (by decide))) (by simp [mu]) (by simp [mu]) (by simp [mu]) (by simp [mu]) (fun k k0 k1 => ?_) (fun j hj => ?_)
      · simpa [mu] using h1 k k0 (by omega)
      · simpa [mu] using h2 j hj
    | succ d ih =>
      intro x M x0 xd ho h1 h2
      have e2 : M 0 2 = q := by rw [ho.fld (by decide)]; exact hq.1
      refine ⟨fun z => by omega, fun _ => ?_⟩
      rw [e2, wrapI (z := 28 * q) (by omega) (by omega), wrapI (z := 28 * q + x) (by omega) (by omega), wrapI (z := x + 1) (by omega) (by omega), ho.cell (c := 1) (by decide)]
      refine ⟨⟨by omega, by omega⟩, ⟨by omega, by omega⟩, ih (x + 1) _ (by omega) (by omega) (ho.mu (Or.inl (by decide))) (fun k k0 k1 => ?_) (fun j hj => ?_)⟩
      · by_cases z : k = x
        · rw [z]; exact mu_same _ _ _ _
        · rw [mu_place (by omega)]; exact h1 k k0 (by omega)
      · rw [mu_place (by omega)]; exact h2 j hj
  exact ⟨28 + 1, key 28 0 N (by omega) (by omega) (Off.rf _ _ _) (fun k k0 k1 => by omega) (fun j _ => rfl)⟩
theorem s_notes {q : Int} (hq : Y 0 2 = q ∧ 0 ≤ q ∧ q ≤ 6) (h : ∀ Y1, Off [2] [2, 27, 31, 43] Y Y1 → Y1 0 2 = min (q + 1) 6 → Y1 0 43 = 0 → Y1 0 31 = 0 → Y1 0 27 = 0 → (∀ k, 0 ≤ k → k < 28 → Y1 2 (28 * (min (q + 1) 6 - 1) + k) = Y 1 k) → (∀ j k, 0 ≤ j → j < min (q + 1) 6 - 1 → 0 ≤ k → k < 28 → Y1 2 (28 * j + k) = Y 2 (28 * (if q = 6 then j + 1 else j) + k)) → R 0 Y1) : fMd_notes Y R := by
  unfold fMd_notes
  refine ⟨fun z => ?_, fun z => ?_⟩
  · have e : min (q + 1) 6 = q + 1 := by omega
    rw [e] at h
    refine s_notes52 (q := q) ⟨hq.1, hq.2.1, by omega⟩ (fun Y1 o1 e2 f1 f2 f3 r1 r2 => h Y1 o1 e2 f1 f2 f3 (fun k k0 k1 => ?_) (fun j k j0 j1 k0 k1 => ?_))
    · rw [show q + 1 - 1 = q by omega]; exact r1 k k0 k1
    · rw [if_neg (by omega)]; exact r2 _ (by omega)
  · have q6 : q = 6 := by omega
    have e : min (q + 1) 6 = 6 := by omega
    rw [e] at h
    have key : ∀ (d : Nat) (x : Int) (M : Mem), 28 ≤ x → x + d = 168 → Off [2] [] Y M → (∀ j, 0 ≤ j → j < x - 28 → M 2 j = Y 2 (j + 28)) → (∀ j, x - 28 ≤ j → M 2 j = Y 2 j) → fMd_notes_12 R (d + 1) x M := by
      intro d
      induction d with
      | zero =>
        intro x M x0 xd ho h1 h2
        refine ⟨fun _ => ?_, fun z => by omega⟩
        have e2 : M 0 2 = 6 := by rw [ho.fld (by decide)]; exact z
        rw [e2]
        have ow : Off [2] [2, 27, 31, 43] Y (mu M 0 2 (wrap (6 - 1))) := (ho.mono (by decide) (by decide)).mu (Or.inr (by decide))
        refine s_notes52 (q := 5) ⟨by rw [mu_same]; decide, by decide, by decide⟩ (fun Y1 o1 e2 f1 f2 f3 r1 r2 => h Y1 (ow.tr o1) e2 f1 f2 f3 (fun k k0 k1 => ?_) (fun j k j0 j1 k0 k1 => ?_))
        · show Y1 2 (28 * 5 + k) = _
          rw [r1 k k0 k1, mu_cell (by decide)]; exact ho.cell (by decide) _
        · rw [if_pos q6, r2 _ (by omega), mu_cell (by decide), h1 _ (by omega) (by omega)]
          congr 1; omega
      | succ d ih =>
        intro x M x0 xd ho h1 h2
        refine ⟨fun z => by omega, fun _ => ?_⟩
        rw [wrapI (z := x - 28) (by omega) (by omega), wrapI (z := x + 1) (by omega) (by omega)]
        refine ⟨⟨by omega, by omega⟩, ⟨by omega, by omega⟩, ih (x + 1) _ (by omega) (by omega) (ho.mu (Or.inl (by decide))) (fun j j0 j1 => ?_) (fun j hj => ?_)⟩
        · by_cases y : j = x - 28
          · rw [y, mu_same, h2 x (by omega)]; congr 1; omega
          · rw [mu_place y]; exact h1 j j0 (by omega)
        · rw [mu_place (by omega)]; exact h2 j (by omega)
    exact ⟨140 + 1, key 140 28 Y (by omega) (by omega) (Off.rf _ _ _) (fun j j0 j1 => by omega) (fun j _ => rfl)⟩
end C
