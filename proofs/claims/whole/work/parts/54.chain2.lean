/-! chains: the sums, and what changes when one state is fixed -/
section K
variable {c : Cf} {ok ok' : Int → Int → Bool} {pi : Int → Int} {i s : Int} {nt t1 t2 : Int}
def hv (c : Cf) (ok : Int → Int → Bool) (pi : Int → Int) (i : Int) : Int := if cDep c i ≠ -4 ∧ (i = 0 ∨ cDep c (i - 1) = -4 ∨ fal c (i - 1) = false) then On c ok pi i (hdP c pi i) else 0
def totS (c : Cf) (ok : Int → Int → Bool) (pi : Int → Int) : Int := sumT (hv c ok pi) (cN c).toNat
def tv (c : Cf) (ok : Int → Int → Bool) (pi : Int → Int) (i : Int) : Int := if i = 0 then LF c ok pi 0 0 else if cTg c i = 1 then LF c ok pi i (pi i) else 0
theorem sum_chain (hV : VP c) (h00 : hdP c pi 0 = 0) : ∀ (n : Nat), (n : Int) < cN c → sumT (hv c ok pi) (n + 1) = sumT (tv c ok pi) (n + 1) + (if cDep c n ≠ -4 then Cn c ok pi n else 0) := by
  obtain ⟨v1, v2, v3, v4, v5, v6, v7, v8, v9, v10, v11, v12, v13⟩ := hV
  intro n
  induction n with
  | zero =>
    intro hn
    show sumT (hv c ok pi) 0 + hv c ok pi ((0 : Nat) : Int) = sumT (tv c ok pi) 0 + tv c ok pi ((0 : Nat) : Int) + _
    have a : hv c ok pi ((0 : Nat) : Int) = On c ok pi 0 (hdP c pi 0) := by
      unfold hv; rw [if_pos ⟨by rw [show ((0 : Nat) : Int) = 0 from rfl, v9]; decide, Or.inl rfl⟩]; rfl
    have b : tv c ok pi ((0 : Nat) : Int) = LF c ok pi 0 0 := by unfold tv; rw [if_pos (show ((0 : Nat) : Int) = 0 from rfl)]
    rw [a, b, h00, if_pos (by rw [show ((0 : Nat) : Int) = 0 from rfl, v9]; decide)]
    unfold On
    show 0 + _ = 0 + _ + Cn c ok pi 0
    omega
  | succ n ih =>
    intro hn
    have ih := ih (by omega)
    show sumT (hv c ok pi) (n + 1) + hv c ok pi ((n + 1 : Nat) : Int) = sumT (tv c ok pi) (n + 1) + tv c ok pi ((n + 1 : Nat) : Int) + _
    rw [ih]
    have e : ((n + 1 : Nat) : Int) = (n : Int) + 1 := by omega
    rw [e]
    have ee : (n : Int) + 1 - 1 = n := by omega
    have cn := Cn_eq (c := c) (ok := ok) (pi := pi) (i := n) ⟨by omega, by omega⟩
    have t : tv c ok pi ((n : Int) + 1) = if cTg c ((n : Int) + 1) = 1 then LF c ok pi ((n : Int) + 1) (pi ((n : Int) + 1)) else 0 := by unfold tv; rw [if_neg (by omega)]
    unfold hv
    rw [ee, t]
    by_cases hr : cDep c n ≠ -4
    · rw [if_pos hr]
      by_cases hf : fal c n = true
      · have hr1 := v11 n (by omega) (by omega) hr hf
        have hno : ¬ (cDep c ((n : Int) + 1) ≠ -4 ∧ ((n : Int) + 1 = 0 ∨ cDep c n = -4 ∨ fal c n = false)) := by
          rintro ⟨-, q | q | q⟩
          · omega
          · exact hr q
          · rw [hf] at q; exact absurd q (by decide)
        rw [if_neg hno, if_pos hr1, cn, if_pos hf]
        omega
      · have hff : fal c n = false := by
          cases z : fal c n with
          | true => exact absurd z hf
          | false => rfl
        rw [cn, if_neg hf]
        by_cases hr1 : cDep c ((n : Int) + 1) ≠ -4
        · have ht : cTg c ((n : Int) + 1) = 1 := by
            apply Classical.byContradiction
            intro q
            have := v13 ((n : Int) + 1) (by omega) (by omega) hr1 q
            rw [ee] at this
            exact hf this.2
          rw [if_pos ⟨hr1, Or.inr (Or.inr hff)⟩, if_pos ht, if_pos hr1]
          unfold On hdP
          rw [if_pos ht]
          omega
        · rw [if_neg (fun q => hr1 q.1), if_neg hr1]
          have ht : cTg c ((n : Int) + 1) ≠ 1 := fun q => hr1 (v12 _ (by omega) (by omega) q)
          rw [if_neg ht]
    · rw [if_neg hr]
      by_cases hr1 : cDep c ((n : Int) + 1) ≠ -4
      · have hd : cDep c n = -4 := Decidable.byContradiction hr
        have ht : cTg c ((n : Int) + 1) = 1 := by
          apply Classical.byContradiction
          intro q
          have := v13 ((n : Int) + 1) (by omega) (by omega) hr1 q
          rw [ee] at this
          exact hr this.1
        rw [if_pos ⟨hr1, Or.inr (Or.inl hd)⟩, if_pos ht, if_pos hr1]
        unfold On hdP
        rw [if_pos ht]
        omega
      · rw [if_neg (fun q => hr1 q.1), if_neg hr1]
        have ht : cTg c ((n : Int) + 1) ≠ 1 := fun q => hr1 (v12 _ (by omega) (by omega) q)
        rw [if_neg ht]
/-- sums that differ at one place -/
theorem sumT_at {f g : Int → Int} {h : Int} (hh : 0 ≤ h) : ∀ (n : Nat), (∀ j : Int, 0 ≤ j → j < n → j ≠ h → f j = g j) → sumT f n = sumT g n + (if h < n then f h - g h else 0) := by
  intro n
  induction n with
  | zero => intro _; rw [if_neg (by omega)]; rfl
  | succ n ih =>
    intro e
    have ih := ih (fun j a b d => e j a (by omega) d)
    show sumT f n + f n = sumT g n + g n + _
    rw [ih]
    by_cases z : h = n
    · rw [if_neg (by omega), if_pos (by omega), z]; omega
    · rw [e n (by omega) (by omega) (by omega)]
      by_cases y : h < n
      · rw [if_pos y, if_pos (by omega)]; omega
      · rw [if_neg y, if_neg (by omega)]; omega
theorem sumT_zero {f : Int → Int} : ∀ (n : Nat), (∀ j : Int, 0 ≤ j → j < n → f j = 0) → sumT f n = 0 := by
  intro n
  induction n with
  | zero => intro _; rfl
  | succ n ih =>
    intro e
    show sumT f n + f n = 0
    rw [ih (fun j a b => e j a (by omega)), e n (by omega) (by omega)]
    rfl
theorem totS_eq (hV : VP c) (hF : Fe c ok) (hP : PinOK c ok pi) (h00 : ok 0 0 = true) (hG : TG c nt t1 t2) : totS c ok pi = totM c ok pi nt t1 t2 := by
  have hN := hV.2.2.2.2.1
  have h16 := nS_le (cR c)
  have hd0 : hdP c pi 0 = 0 := by
    have := hdP_ok hV hF hP h00 (i := 0) ⟨by omega, by omega⟩ (Or.inl rfl)
    exact (this.2.2.2 0 (cp_of h00 (fun q => (okL_00 (hF.1 _ _ (hP 0 (by omega) (by omega) q).2.2)).symm))).symm
  have e1 : totS c ok pi = sumT (tv c ok pi) (cN c).toNat := by
    unfold totS
    have e : (cN c).toNat = (cN c - 1).toNat + 1 := by omega
    have hs := sum_chain (ok := ok) hV hd0 (cN c - 1).toNat (by omega)
    rw [e, hs]
    have e3 : (((cN c - 1).toNat : Nat) : Int) = cN c - 1 := by omega
    rw [e3, Cn_eq ⟨by omega, by omega⟩]
    have hf : fal c (cN c - 1) ≠ true := fun q => by have := fal_lt q; omega
    rw [if_neg hf]
    split <;> omega
  rw [e1]
  obtain ⟨n0, n1, n2, n3⟩ := id hG
  have l0 := LF_lt hV hF hP.pin (i := 0) (s := 0) ⟨by omega, by omega⟩ ⟨by omega, by omega⟩ h00
  -- the sum, by its one to three places
  have g0 : sumT (fun _ => (0 : Int)) (cN c).toNat = 0 := sumT_zero _ (fun _ _ _ => rfl)
  have s1 := sumT_at (f := fun j => if j = 0 then LF c ok pi 0 0 else 0) (g := fun _ => 0) (h := 0) (by omega) (cN c).toNat (fun j a b d => by (try simp only); rw [if_neg d])
  rw [g0, if_pos (by omega)] at s1
  simp only [if_true] at s1
  unfold totM
  rcases n0 with z | z | z
  · rw [if_pos z]
    have : sumT (tv c ok pi) (cN c).toNat = sumT (fun j => if j = 0 then LF c ok pi 0 0 else 0) (cN c).toNat := by
      have := sumT_at (f := tv c ok pi) (g := fun j => if j = 0 then LF c ok pi 0 0 else 0) (h := 0) (by omega) (cN c).toNat (fun j a b d => by
        unfold tv; (try simp only); rw [if_neg d, if_neg d]
        rw [if_neg (fun q => by have := n3 j a (by omega) q; omega)])
      rw [this, if_pos (by omega)]
      unfold tv
      simp
    rw [this, s1]; omega
  · rw [if_neg (by omega), if_pos z]
    obtain ⟨p1, p2, p3⟩ := n1 (by omega)
    have ha := addT_fin hV hF hP (n1 (by omega)) l0 (by decide)
    rw [ha.2.2]
    have := sumT_at (f := tv c ok pi) (g := fun j => if j = 0 then LF c ok pi 0 0 else 0) (h := t1) (by omega) (cN c).toNat (fun j a b d => by
        unfold tv; try simp only
        by_cases y : j = 0
        · rw [if_pos y, if_pos y]
        · rw [if_neg y, if_neg y]
          rw [if_neg (fun q => by have := n3 j a (by omega) q; omega)])
    rw [this, s1, if_pos (by omega)]
    unfold tv
    try simp only
    by_cases y : t1 = 0
    · rw [if_pos y, if_pos y, if_pos y]; omega
    · rw [if_neg y, if_neg y, if_neg y, if_pos p3]; omega
  · rw [if_neg (by omega), if_neg (by omega)]
    obtain ⟨p1, p2, p3⟩ := n1 (by omega)
    obtain ⟨r1, r2, r3⟩ := n2 z
    have ha := addT_fin hV hF hP (n1 (by omega)) l0 (by decide)
    have hb := addT_fin hV hF hP (t := t2) ⟨by omega, r2, r3⟩ ⟨ha.1, ha.2.1⟩ (by decide)
    rw [hb.2.2, ha.2.2, if_neg (show ¬ t2 = 0 by omega)]
    have a2 := sumT_at (f := tv c ok pi) (g := fun j => if j = 0 then LF c ok pi 0 0 else if j = t1 then LF c ok pi t1 (pi t1) else 0) (h := t2) (by omega) (cN c).toNat (fun j a b d => by
        unfold tv; try simp only
        by_cases y : j = 0
        · rw [if_pos y, if_pos y]
        · rw [if_neg y, if_neg y]
          by_cases w : j = t1
          · rw [if_pos w, w, if_pos p3]
          · rw [if_neg w, if_neg (fun q => by have := n3 j a (by omega) q; omega)])
    have a1 := sumT_at (f := fun j => if j = 0 then LF c ok pi 0 0 else if j = t1 then LF c ok pi t1 (pi t1) else 0) (g := fun j => if j = 0 then LF c ok pi 0 0 else 0) (h := t1) (by omega) (cN c).toNat (fun j a b d => by
        try simp only
        by_cases y : j = 0
        · rw [if_pos y, if_pos y]
        · rw [if_neg y, if_neg y, if_neg d])
    have c1 : t1 < ((cN c).toNat : Int) := by omega
    have c2 : t2 < ((cN c).toNat : Int) := by omega
    have vt2 : tv c ok pi t2 = LF c ok pi t2 (pi t2) := by unfold tv; rw [if_neg (show ¬ t2 = 0 by omega), if_pos r3]
    rw [if_pos c2, vt2, if_neg (show ¬ t2 = 0 by omega), if_neg (show ¬ t2 = t1 by omega)] at a2
    rw [if_pos c1] at a1
    by_cases y : t1 = 0
    · rw [if_pos y, if_pos y] at a1; rw [if_pos y]; omega
    · rw [if_neg y, if_neg y, if_pos rfl] at a1; rw [if_neg y]; omega
end K
