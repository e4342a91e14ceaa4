/-! x: prepare, leaving, walkBack -/
theorem s_fill36 {v : Int} {M : Mem} {R : Int → Mem → Prop} (h : ∀ M', Off [36] [] M M' → (∀ j, 0 ≤ j → j < 384 → M' 36 j = v) → R 0 M') : fArr_fill_36 v M R := by
  have key : ∀ (d : Nat) (x : Int) (Mi : Mem), 0 ≤ x → x + d = 384 → Off [36] [] M Mi → (∀ j, 0 ≤ j → j < x → Mi 36 j = v) → fArr_fill_36_5 R (d + 1) v x 384 Mi := by
    intro d
    induction d with
    | zero =>
      intro x Mi x0 xd ho hj
      exact ⟨fun _ => h Mi ho (fun j a b => hj j a (by omega)), fun q => by omega⟩
    | succ d ih =>
      intro x Mi x0 xd ho hj
      refine ⟨fun q => by omega, fun _ => ⟨⟨by omega, by omega⟩, ?_⟩⟩
      rw [wrapI (z := x + 1) (by omega) (by omega)]
      refine ih (x + 1) _ (by omega) (by omega) (ho.mu (Or.inl (by decide))) (fun j a b => ?_)
      by_cases e : j = x
      · rw [e]; exact mu_same _ _ _ _
      · rw [mu_place e]; exact hj j a (by omega)
  exact ⟨384 + 1, key 384 0 M (by omega) (by omega) (Off.rf _ _ _) (fun j a b => by omega)⟩
theorem s_fill37 {v : Int} {M : Mem} {R : Int → Mem → Prop} (h : ∀ M', Off [37] [] M M' → (∀ j, 0 ≤ j → j < 24 → M' 37 j = v) → R 0 M') : fArr_fill_37 v M R := by
  have key : ∀ (d : Nat) (x : Int) (Mi : Mem), 0 ≤ x → x + d = 24 → Off [37] [] M Mi → (∀ j, 0 ≤ j → j < x → Mi 37 j = v) → fArr_fill_37_5 R (d + 1) v x 24 Mi := by
    intro d
    induction d with
    | zero =>
      intro x Mi x0 xd ho hj
      exact ⟨fun _ => h Mi ho (fun j a b => hj j a (by omega)), fun q => by omega⟩
    | succ d ih =>
      intro x Mi x0 xd ho hj
      refine ⟨fun q => by omega, fun _ => ⟨⟨by omega, by omega⟩, ?_⟩⟩
      rw [wrapI (z := x + 1) (by omega) (by omega)]
      refine ih (x + 1) _ (by omega) (by omega) (ho.mu (Or.inl (by decide))) (fun j a b => ?_)
      by_cases e : j = x
      · rw [e]; exact mu_same _ _ _ _
      · rw [mu_place e]; exact hj j a (by omega)
  exact ⟨24 + 1, key 24 0 M (by omega) (by omega) (Off.rf _ _ _) (fun j a b => by omega)⟩
theorem s_fill38 {v : Int} {M : Mem} {R : Int → Mem → Prop} (h : ∀ M', Off [38] [] M M' → (∀ j, 0 ≤ j → j < 16 → M' 38 j = v) → R 0 M') : fArr_fill_38 v M R := by
  have key : ∀ (d : Nat) (x : Int) (Mi : Mem), 0 ≤ x → x + d = 16 → Off [38] [] M Mi → (∀ j, 0 ≤ j → j < x → Mi 38 j = v) → fArr_fill_38_5 R (d + 1) v x 16 Mi := by
    intro d
    induction d with
    | zero =>
      intro x Mi x0 xd ho hj
      exact ⟨fun _ => h Mi ho (fun j a b => hj j a (by omega)), fun q => by omega⟩
    | succ d ih =>
      intro x Mi x0 xd ho hj
      refine ⟨fun q => by omega, fun _ => ⟨⟨by omega, by omega⟩, ?_⟩⟩
      rw [wrapI (z := x + 1) (by omega) (by omega)]
      refine ih (x + 1) _ (by omega) (by omega) (ho.mu (Or.inl (by decide))) (fun j a b => ?_)
      by_cases e : j = x
      · rw [e]; exact mu_same _ _ _ _
      · rw [mu_place e]; exact hj j a (by omega)
  exact ⟨16 + 1, key 16 0 M (by omega) (by omega) (Off.rf _ _ _) (fun j a b => by omega)⟩
section X
variable {c : Cf} {M : Mem} {R : Int → Mem → Prop} {i : Int} {pi : Int → Int}
/-- all lists -/
def LA (c : Cf) (M : Mem) : Prop := ∀ i, 0 ≤ i → i < cN c → cDep c i ≠ -4 → LX c M i
theorem LA.off {S : List Nat} {T : List Int} {M' : Mem} (h : LA c M) (ho : Off S T M M') (hS : 28 ∉ S ∧ 29 ∉ S ∧ 30 ∉ S ∧ 31 ∉ S ∧ 32 ∉ S ∧ 33 ∉ S) : LA c M' := by
  obtain ⟨s1, s2, s3, s4, s5, s6⟩ := hS
  have h16 := nS_le (cR c)
  intro i a b d
  refine (h i a b d).row h16.2 ?_ ?_ (fun k _ _ => ?_) (fun k _ _ => ?_) (fun k _ _ => ?_) (fun k _ _ => ?_)
  · exact ho.cell ⟨s2, by decide⟩ _
  · exact ho.cell ⟨s4, by decide⟩ _
  · exact ho.cell ⟨s1, by decide⟩ _
  · exact ho.cell ⟨s3, by decide⟩ _
  · exact ho.cell ⟨s5, by decide⟩ _
  · exact ho.cell ⟨s6, by decide⟩ _
abbrev prS : List Nat := [28, 29, 30, 31, 32, 33, 37]
theorem s_prepare (hV : VP c) (hC : XC c M) (h : ∀ M', Off prS [] M M' → LA c M' → M' 37 0 = 0 → (∀ j, 0 < j → j < 24 → M' 37 j = -4) → R 0 M') : fCh_prepare M R := by
  have hN := hV.2.2.2.2.1
  have h16 := nS_le (cR c)
  refine s_fill37 (fun N hoN hz => ?_)
  have key : ∀ (d : Nat) (x : Int) (Mi : Mem), 0 ≤ x → x + d = cN c → Off prS [] M Mi → (∀ j, 0 ≤ j → j < 24 → Mi 37 j = -4) → (∀ j, 0 ≤ j → j < x → cDep c j ≠ -4 → LX c Mi j) → fCh_prepare_11 R (d + 1) x Mi := by
    intro d
    induction d with
    | zero =>
      intro x Mi x0 xd ho hj hl
      have hCi := hC.off ho (by decide)
      refine ⟨fun _ => ?_, fun q => by rw [hCi.1] at q; omega⟩
      have o1 : Off [37] [] Mi (mu Mi 37 0 0) := (Off.rf _ _ _).mu (Or.inl (by decide))
      have la : LA c Mi := fun i a b d => hl i a (by omega) d
      exact h _ (ho.mu (Or.inl (by decide))) (la.off o1 (by decide)) (mu_same _ _ _ _) (fun j a b => by rw [mu_place (by omega)]; exact hj j (by omega) b)
    | succ d ih =>
      intro x Mi x0 xd ho hj hl
      have hCi := hC.off ho (by decide)
      refine ⟨fun q => by rw [hCi.1] at q; omega, fun _ => s_listLegal hV hCi ⟨x0, by omega⟩ (fun M' hr hx => ?_)⟩
      rw [wrapI (z := x + 1) (by omega) (by omega)]
      refine ih (x + 1) M' (by omega) (by omega) (ho.tr (hr.1.mono (by decide) (by decide))) (fun j a b => by rw [hr.1.cell (by decide)]; exact hj j a b) (fun j a b e => ?_)
      by_cases z : j = x
      · rw [z]; rw [z] at e; exact hx e
      · exact hr.keep z h16.2 (hl j a (by omega) e)
  exact ⟨(cN c).toNat + 1, key _ 0 N (by omega) (by omega) (hoN.mono (by decide) (by decide)) hz (fun j a b => by omega)⟩
/-- the pins as x holds them -/
def PnX (c : Cf) (pi : Int → Int) (M : Mem) : Prop := ∀ i, 0 ≤ i → i < 24 → M 37 i = if i < cN c ∧ cTg c i = 1 then pi i else if i = 0 then 0 else -4
theorem PnX.off {S : List Nat} {T : List Int} {M' : Mem} (h : PnX c pi M) (ho : Off S T M M') (hS : 37 ∉ S) : PnX c pi M' := fun i a b => by rw [ho.cell ⟨hS, by decide⟩]; exact h i a b
theorem PnX.free (h : PnX c pi M) (hi : 0 < i ∧ i < cN c ∧ cN c ≤ 24) (ht : cTg c i ≠ 1) : M 37 i = -4 := by
  rw [h i (by omega) (by omega), if_neg (fun q => ht q.2), if_neg (by omega)]
theorem PnX.at (h : PnX c pi M) (hi : 0 ≤ i ∧ i < cN c ∧ cN c ≤ 24) (ht : i = 0 ∨ cTg c i = 1) : M 37 i = hdP c pi i := by
  rw [h i (by omega) (by omega)]
  unfold hdP
  by_cases z : cTg c i = 1
  · rw [if_pos ⟨hi.2.1, z⟩, if_pos z]
  · rw [if_neg (fun q => z q.2), if_neg z]
    rcases ht with q | q
    · rw [if_pos q]
    · exact absurd q z
/-- what leaving an instruction by an exit costs -/
def isLv (c : Cf) (pi : Int → Int) (i e v : Int) : Prop := ∃ f, v = (if lea c i = true then cW c i * cPs c e (pi (cNu c i)) else 0) + f ∧ (fal c i = true → isMin (cp c (okL c) pi (i + 1)) (fun t => cW c i * cPs c e t + On c (okL c) pi (i + 1) t) (nS (cR c)) f) ∧ (fal c i ≠ true → f = 0)
theorem isLv_on {s v : Int} (hV : VP c) (hP : PinOK c (okL c) pi) (hi : 0 ≤ i ∧ i < cN c) (hs : 0 ≤ s ∧ s < nS (cR c)) (ho : okL c i s = true) (h : isLv c pi i (cAf c i s) v) : cW c i * cVc c i s + v = On c (okL c) pi i s := by
  obtain ⟨f, h1, h2, h3⟩ := h
  by_cases hf : fal c i = true
  · have := isMin_unique (h2 hf) (On_go hV (Fe_okL hV) hP hi hs ho hf)
    rw [h1, this]
    unfold bs
    omega
  · rw [h1, h3 hf, On_end hi ho hf]
    unfold bs
    omega
theorem s_leading {e : Int} (hV : VP c) (hC : XC c M) (hX : PnX c pi M) (hP : PinOK c (okL c) pi) (hi : 0 ≤ i ∧ i < cN c) (hd : cDep c i ≠ -4) (he : 0 ≤ e ∧ e < nS (cR c)) (h : R (if lea c i = true then cW c i * cPs c e (pi (cNu c i)) else 0) M ) : fCh_leading i e M R := by
  have hN := hV.2.2.2.2.1
  have h16 := nS_le (cR c)
  refine s_leads hV hC hi ⟨fun hl => ⟨fun _ => ?_, fun z => absurd z (by decide)⟩, fun hl => ⟨fun z => absurd rfl z, fun _ => by rw [if_neg (by rw [hl]; decide)] at h; exact h⟩⟩
  rw [if_pos hl] at h
  obtain ⟨v1, v2, v3, v4, -⟩ := id hV
  obtain ⟨n1, n2, n3⟩ := hV.2.2.2.2.2.2.2.2.2.1 i hi.1 hi.2 hd hl
  have e15 : M 15 i = cNu c i := (hC.2.1 i hi.1 hi.2).2.2.2.2.2 hl
  have e6 : M 6 i = cW c i := (hC.2.1 i hi.1 hi.2).2.2.2.2.1
  have e37 : M 37 (cNu c i) = pi (cNu c i) := by rw [hX.at ⟨n1, n2, hN.2⟩ (Or.inr n3)]; unfold hdP; rw [if_pos n3]
  obtain ⟨p1, p2, p3⟩ := hP _ n1 n2 n3
  have wi : wrap (wrap (e * 16) + pi (cNu c i)) = 16 * e + pi (cNu c i) := by rw [wrapI (z := e * 16) (by omega) (by omega), wrapI (by omega) (by omega)]; omega
  rw [e15, e37, wi, e6, hC.2.2.2.2.2 e _ he.1 he.2 p1 p2]
  have hpp := pP_b (r := cR c) v1 v2 v3 v4 he ⟨p1, p2⟩
  have hw := hV.2.2.2.2.2.2.1 i hi.1 hi.2
  have m3 : 0 ≤ cW c i * cPs c e (pi (cNu c i)) := Int.mul_nonneg (by omega) hpp.1
  have m4 : cW c i * cPs c e (pi (cNu c i)) ≤ 999 * 100 := Int.mul_le_mul hw.2 hpp.2 hpp.1 (by decide)
  rw [wrapI (z := cW c i * cPs c e (pi (cNu c i))) (by omega) (by omega)]
  exact ⟨⟨by omega, by omega⟩, ⟨by omega, by omega⟩, ⟨by omega, by omega⟩, ⟨by omega, by omega⟩, h⟩
theorem wPe {e t : Int} (hV : VP c) (hi : 0 ≤ i ∧ i < cN c) (he : 0 ≤ e ∧ e < nS (cR c)) (ht : 0 ≤ t ∧ t < nS (cR c)) : 0 ≤ cW c i * cPs c e t ∧ cW c i * cPs c e t ≤ 99900 := by
  obtain ⟨v1, v2, v3, v4, -⟩ := id hV
  have hpp := pP_b (r := cR c) v1 v2 v3 v4 he ht
  have hw := hV.2.2.2.2.2.2.1 i hi.1 hi.2
  have m3 : 0 ≤ cW c i * cPs c e t := Int.mul_nonneg (by omega) hpp.1
  have m4 : cW c i * cPs c e t ≤ 999 * 100 := Int.mul_le_mul hw.2 hpp.2 hpp.1 (by decide)
  exact ⟨m3, by omega⟩
theorem s_fallingTo {e t : Int} (hV : VP c) (hC : XC c M) (hP : PinOK c (okL c) pi) (hi : 0 ≤ i ∧ i + 1 < cN c) (he : 0 ≤ e ∧ e < nS (cR c)) (ht : 0 ≤ t ∧ t < nS (cR c)) (hk : okL c (i + 1) t = true) (hO : M 34 (16 * (i + 1) + t) = On c (okL c) pi (i + 1) t) (h : R (cW c i * cPs c e t + On c (okL c) pi (i + 1) t) M) : fCh_fallingTo i e t M R := by
  have hN := hV.2.2.2.2.1
  have h16 := nS_le (cR c)
  have w0 : wrap (wrap (e * 16) + t) = 16 * e + t := by rw [wrapI (z := e * 16) (by omega) (by omega), wrapI (by omega) (by omega)]; omega
  have w1 : wrap (wrap (wrap (i + 1) * 16) + t) = 16 * (i + 1) + t := by rw [wrapI (z := i + 1) (by omega) (by omega), wrapI (z := (i + 1) * 16) (by omega) (by omega), wrapI (by omega) (by omega)]; omega
  have e6 : M 6 i = cW c i := (hC.2.1 i hi.1 (by omega)).2.2.2.2.1
  have wp := wPe (e := e) (t := t) hV (i := i) ⟨hi.1, by omega⟩ he ht
  have hon := On_in hV (Fe_okL hV) hP (i := i + 1) ⟨by omega, hi.2⟩ ht hk
  unfold fCh_fallingTo
  rw [w0, w1, e6, hC.2.2.2.2.2 e t he.1 he.2 ht.1 ht.2, hO, wrapI (z := cW c i * cPs c e t) (by omega) (by omega), wrapI (z := cW c i * cPs c e t + On c (okL c) pi (i + 1) t) (by omega) (by omega)]
  exact ⟨⟨by omega, by omega⟩, ⟨by omega, by omega⟩, ⟨by omega, by omega⟩, h⟩
theorem s_falling {e : Int} (hV : VP c) (hC : XC c M) (hA : LA c M) (hX : PnX c pi M) (hP : PinOK c (okL c) pi) (hi : 0 ≤ i ∧ i < cN c) (hd : cDep c i ≠ -4) (hf : fal c i = true) (he : 0 ≤ e ∧ e < nS (cR c)) (hO : ∀ t, 0 ≤ t → t < nS (cR c) → cp c (okL c) pi (i + 1) t = true → M 34 (16 * (i + 1) + t) = On c (okL c) pi (i + 1) t)
    (h : ∀ f, 0 ≤ f → f ≤ 157000000 → isMin (cp c (okL c) pi (i + 1)) (fun t => cW c i * cPs c e t + On c (okL c) pi (i + 1) t) (nS (cR c)) f → R f M) : fCh_falling i e M R := by
  have hN := hV.2.2.2.2.1
  have h16 := nS_le (cR c)
  have hFAR : FAR = 1000000000 := rfl
  have hlt := fal_lt hf
  have hd1 := hV.2.2.2.2.2.2.2.2.2.2.1 i hi.1 hi.2 hd hf
  have w1 : wrap (i + 1) = i + 1 := wrapI (by omega) (by omega)
  have w2 : wrap ((i + 1) * 16) = 16 * (i + 1) := by rw [wrapI (by omega) (by omega)]; omega
  have i24 : inb (i + 1) 24 := ⟨by omega, by omega⟩
  unfold fCh_falling
  rw [w1, w2]
  by_cases ht : cTg c (i + 1) = 1
  · have e37 : M 37 (i + 1) = pi (i + 1) := by rw [hX.at ⟨by omega, hlt, hN.2⟩ (Or.inr ht)]; unfold hdP; rw [if_pos ht]
    obtain ⟨p1, p2, p3⟩ := hP (i + 1) (by omega) hlt ht
    have hc := cp_of (c := c) (pi := pi) p3 (fun _ => rfl)
    rw [e37]
    have wp := wPe (e := e) (t := pi (i + 1)) hV hi he ⟨p1, p2⟩
    have hon := On_in hV (Fe_okL hV) hP (i := i + 1) ⟨by omega, hlt⟩ ⟨p1, p2⟩ p3
    refine ⟨i24, fun q => by omega, fun _ => ⟨i24, s_fallingTo hV hC hP ⟨hi.1, hlt⟩ he ⟨p1, p2⟩ p3 (hO _ p1 p2 hc) (h _ (by omega) (by omega) ⟨by omega, fun t t0 t1 t2 => ?_, Or.inr ⟨_, p1, p2, hc, rfl⟩⟩)⟩⟩
    rw [cp_pin t2 ht]
    exact Int.le_refl _
  · have hcp : ∀ t, okL c (i + 1) t = true → cp c (okL c) pi (i + 1) t = true := fun t z => cp_of z (fun q => absurd q ht)
    rw [hX.free ⟨by omega, hlt, hN.2⟩ ht]
    obtain ⟨a1, a2, a3, a4, -⟩ := hA (i + 1) (by omega) hlt hd1
    rw [wrapI (z := e * 16) (by omega) (by omega), wrapI (z := 16 * (i + 1) + M 29 (i + 1)) (by omega) (by omega)]
    have e6 : M 6 i = cW c i := (hC.2.1 i hi.1 hi.2).2.2.2.2.1
    rw [e6]
    have gb : ∀ t, 0 ≤ t → t < nS (cR c) → okL c (i + 1) t = true → 0 ≤ cW c i * cPs c e t + On c (okL c) pi (i + 1) t ∧ cW c i * cPs c e t + On c (okL c) pi (i + 1) t ≤ 157000000 := fun t t0 t1 t2 => by
      have := wPe (e := e) (t := t) hV hi he ⟨t0, t1⟩
      have := On_in hV (Fe_okL hV) hP (i := i + 1) ⟨by omega, hlt⟩ ⟨t0, t1⟩ t2
      omega
    have key : ∀ (d : Nat) (x v : Int), 0 ≤ x → x + d = M 29 (i + 1) → v ≤ FAR → (∀ k, 0 ≤ k → k < x → v ≤ cW c i * cPs c e (M 28 (16 * (i + 1) + k)) + On c (okL c) pi (i + 1) (M 28 (16 * (i + 1) + k))) → (v = FAR ∨ ∃ k, 0 ≤ k ∧ k < x ∧ cW c i * cPs c e (M 28 (16 * (i + 1) + k)) + On c (okL c) pi (i + 1) (M 28 (16 * (i + 1) + k)) = v) → fCh_falling_70 R (d + 1) (cW c i) (e * 16) (16 * (i + 1)) (16 * (i + 1) + M 29 (i + 1)) v (16 * (i + 1) + x) M := by
      intro d
      induction d with
      | zero =>
        intro x v x0 xd hv hl hx
        refine ⟨fun _ => ?_, fun q => by omega⟩
        obtain ⟨s, s0, s1, s2⟩ := (Fe_okL hV).2 (i + 1) (by omega) hlt hd1
        obtain ⟨⟨k, k0, k1, k2⟩, -⟩ := a4 s s0 s1 s2
        have u := hl k k0 (by omega)
        rw [k2] at u
        have b1 := gb s s0 s1 s2
        have hmin : isMin (cp c (okL c) pi (i + 1)) (fun t => cW c i * cPs c e t + On c (okL c) pi (i + 1) t) (nS (cR c)) v := by
          refine ⟨hv, fun t t0 t1 t2 => ?_, ?_⟩
          · obtain ⟨⟨k, k0, k1, k2⟩, -⟩ := a4 t t0 t1 (cp_ok t2)
            have := hl k k0 (by omega)
            rw [k2] at this; exact this
          · rcases hx with z | ⟨k, k0, k1, k2⟩
            · exact Or.inl z
            · obtain ⟨q1, q2, q3⟩ := a2 k k0 (by omega)
              exact Or.inr ⟨_, q1, q2, hcp _ q3, k2⟩
        rcases hx with z | ⟨k, k0, k1, k2⟩
        · omega
        · obtain ⟨q1, q2, q3⟩ := a2 k k0 (by omega)
          have b2 := gb _ q1 q2 q3
          exact h v (by omega) (by omega) hmin
      | succ d ih =>
        intro x v x0 xd hv hl hx
        obtain ⟨q1, q2, q3⟩ := a2 x x0 (by omega)
        have b2 := gb _ q1 q2 q3
        have wp := wPe (e := e) (t := M 28 (16 * (i + 1) + x)) hV hi he ⟨q1, q2⟩
        refine ⟨fun q => by omega, fun _ => ⟨⟨by omega, by omega⟩, ?_⟩⟩
        rw [wrapI (z := e * 16 + M 28 (16 * (i + 1) + x)) (by omega) (by omega), wrapI (z := 16 * (i + 1) + M 28 (16 * (i + 1) + x)) (by omega) (by omega), show e * 16 + M 28 (16 * (i + 1) + x) = 16 * e + M 28 (16 * (i + 1) + x) from by omega, hC.2.2.2.2.2 e _ he.1 he.2 q1 q2, hO _ q1 q2 (hcp _ q3), wrapI (z := cW c i * cPs c e (M 28 (16 * (i + 1) + x))) (by omega) (by omega), wrapI (z := cW c i * cPs c e (M 28 (16 * (i + 1) + x)) + On c (okL c) pi (i + 1) (M 28 (16 * (i + 1) + x))) (by omega) (by omega)]
        unfold fCh_falling_122
        rw [wrapI (z := 16 * (i + 1) + x + 1) (by omega) (by omega), show 16 * (i + 1) + x + 1 = 16 * (i + 1) + (x + 1) from by omega]
        refine ⟨⟨by omega, by omega⟩, ⟨by omega, by omega⟩, fun q => ih (x + 1) v (by omega) (by omega) hv (fun k k0 k1 => ?_) ?_, fun q => ih (x + 1) _ (by omega) (by omega) (by omega) (fun k k0 k1 => ?_) (Or.inr ⟨x, x0, by omega, rfl⟩)⟩
        · by_cases z : k = x
          · rw [z]; exact q
          · exact hl k k0 (by omega)
        · rcases hx with z | ⟨k, k0, k1, k2⟩
          · exact Or.inl z
          · exact Or.inr ⟨k, k0, by omega, k2⟩
        · by_cases z : k = x
          · rw [z]; exact Int.le_refl _
          · have := hl k k0 (by omega)
            omega
    refine ⟨i24, fun _ => ⟨⟨by omega, by omega⟩, i24, (M 29 (i + 1)).toNat + 1, ?_⟩, fun q => absurd rfl q⟩
    have := key (M 29 (i + 1)).toNat 0 1000000000 (by omega) (by omega) (by omega) (fun k k0 k1 => by omega) (Or.inl rfl)
    rw [show 16 * (i + 1) + 0 = 16 * (i + 1) from by omega] at this
    exact this
theorem s_leaving {e : Int} (hV : VP c) (hC : XC c M) (hA : LA c M) (hX : PnX c pi M) (hP : PinOK c (okL c) pi) (hi : 0 ≤ i ∧ i < cN c) (hd : cDep c i ≠ -4) (he : 0 ≤ e ∧ e < nS (cR c)) (hO : fal c i = true → ∀ t, 0 ≤ t → t < nS (cR c) → cp c (okL c) pi (i + 1) t = true → M 34 (16 * (i + 1) + t) = On c (okL c) pi (i + 1) t)
    (h : ∀ v, 0 ≤ v → v ≤ 158000000 → isLv c pi i e v → R v M) : fCh_leaving i e M R := by
  have hN := hV.2.2.2.2.1
  have hl0 : 0 ≤ (if lea c i = true then cW c i * cPs c e (pi (cNu c i)) else 0) ∧ (if lea c i = true then cW c i * cPs c e (pi (cNu c i)) else 0) ≤ 99900 := by
    by_cases hl : lea c i = true
    · rw [if_pos hl]
      obtain ⟨n1, n2, n3⟩ := hV.2.2.2.2.2.2.2.2.2.1 i hi.1 hi.2 hd hl
      obtain ⟨p1, p2, p3⟩ := hP _ n1 n2 n3
      exact wPe hV hi he ⟨p1, p2⟩
    · rw [if_neg hl]; omega
  refine s_falls hV hC hi ⟨fun hf => ⟨fun z => absurd z (by decide), fun _ => s_leading hV hC hX hP hi hd he (s_falling hV hC hA hX hP hi hd hf he (hO hf) (fun f f0 f1 f2 => ?_))⟩, fun hf => ⟨fun _ => s_leading hV hC hX hP hi hd he (h _ hl0.1 (by omega) ⟨0, by omega, fun q => by rw [hf] at q; exact absurd q (by decide), fun _ => rfl⟩), fun z => absurd rfl z⟩⟩
  rw [wrapI (by omega) (by omega)]
  exact h _ (by omega) (by omega) ⟨f, rfl, fun _ => f2, fun q => absurd hf q⟩
end X
