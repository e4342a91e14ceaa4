/-! choices: the least by segments -/
abbrev Cf : Type := (Int × Int × Int × Int) × Int × (Int → Int) × (Int → Int) × (Int → Int) × (Int → Int) × (Int → Int)
def cR (c : Cf) : Int := c.1.1
def cN (c : Cf) : Int := c.2.1
def cK (c : Cf) : Int → Int := c.2.2.1
def cNu (c : Cf) : Int → Int := c.2.2.2.1
def cDep (c : Cf) : Int → Int := c.2.2.2.2.1
def cTg (c : Cf) : Int → Int := c.2.2.2.2.2.1
def cW (c : Cf) : Int → Int := c.2.2.2.2.2.2
def cPs (c : Cf) (s t : Int) : Int := pP c.1.1 c.1.2.1 c.1.2.2.1 c.1.2.2.2 s t
def cVc (c : Cf) (i s : Int) : Int := vc c.1.1 c.1.2.1 c.1.2.2.1 c.1.2.2.2 (cK c i) s
def cAf (c : Cf) (i s : Int) : Int := aft (cR c) (cK c i) s
def fal (c : Cf) (i : Int) : Bool := fallsK (cN c) i (cK c i)
def lea (c : Cf) (i : Int) : Bool := leadsK (cK c i)
def okL (c : Cf) (i s : Int) : Bool := decide (cDep c i ≠ -4) && decide (stL (cR c) s ≤ cDep c i) && hasV (cR c) (cK c i) s && (decide (i ≠ 0) || decide (s = 0))
def ok1 (c : Cf) (i0 s0 i s : Int) : Bool := okL c i s && (decide (i ≠ i0) || decide (s = s0))
/-- the program is as it must be -/
def VP (c : Cf) : Prop :=
  (1 ≤ cR c ∧ cR c ≤ 3) ∧ (0 ≤ c.1.2.1 ∧ c.1.2.1 ≤ 9) ∧ (0 ≤ c.1.2.2.1 ∧ c.1.2.2.1 ≤ 9) ∧ (0 ≤ c.1.2.2.2 ∧ c.1.2.2.2 ≤ 9) ∧ (1 ≤ cN c ∧ cN c ≤ 24) ∧
  (∀ i, 0 ≤ i → i < cN c → 0 ≤ cK c i ∧ cK c i < 15) ∧ (∀ i, 0 ≤ i → i < cN c → 1 ≤ cW c i ∧ cW c i ≤ 999) ∧
  (∀ i, 0 ≤ i → i < cN c → cDep c i ≠ -4 → 0 ≤ cDep c i ∧ cDep c i ≤ 12) ∧ cDep c 0 = 0 ∧
  (∀ i, 0 ≤ i → i < cN c → cDep c i ≠ -4 → lea c i = true → 0 ≤ cNu c i ∧ cNu c i < cN c ∧ cTg c (cNu c i) = 1) ∧
  (∀ i, 0 ≤ i → i < cN c → cDep c i ≠ -4 → fal c i = true → cDep c (i + 1) ≠ -4) ∧
  (∀ i, 0 ≤ i → i < cN c → cTg c i = 1 → cDep c i ≠ -4) ∧
  (∀ i, 0 < i → i < cN c → cDep c i ≠ -4 → cTg c i ≠ 1 → cDep c (i - 1) ≠ -4 ∧ fal c (i - 1) = true)
theorem fal_lt {c : Cf} {i : Int} (h : fal c i = true) : i + 1 < cN c := by
  unfold fal fallsK at h
  simp only [Bool.and_eq_true, decide_eq_true_eq] at h
  exact h.2
def isMin (ok : Int → Bool) (g : Int → Int) (N m : Int) : Prop := m ≤ FAR ∧ (∀ s, 0 ≤ s → s < N → ok s = true → m ≤ g s) ∧ (m = FAR ∨ ∃ s, 0 ≤ s ∧ s < N ∧ ok s = true ∧ g s = m)
theorem isMin_unique {ok : Int → Bool} {g : Int → Int} {N m m' : Int} (h : isMin ok g N m) (h' : isMin ok g N m') : m = m' := by
  have key : ∀ {a b}, isMin ok g N a → isMin ok g N b → a ≤ b := by
    intro a b ha hb
    rcases hb.2.2 with q | ⟨s, s0, s1, s2, s3⟩
    · rw [q]; exact ha.1
    · rw [← s3]; exact ha.2.1 s s0 s1 s2
  have h1 := key h h'
  have h2 := key h' h
  omega
theorem mnF_isMin (ok : Int → Bool) (g : Int → Int) : ∀ n : Nat, isMin ok g n (mnF ok g n) := by
  intro n
  induction n with
  | zero => exact ⟨Int.le_refl _, fun s h0 h1 => absurd h1 (by omega), Or.inl rfl⟩
  | succ n ih =>
    unfold mnF
    by_cases h : (ok n && decide (g n < mnF ok g n)) = true
    · rw [if_pos h]
      simp only [Bool.and_eq_true, decide_eq_true_eq] at h
      refine ⟨by have := ih.1; omega, fun s h0 h1 h2 => ?_, Or.inr ⟨n, by omega, by omega, h.1, rfl⟩⟩
      by_cases e : s = n
      · subst e; exact Int.le_refl _
      · have := ih.2.1 s h0 (by omega) h2
        omega
    · rw [if_neg h]
      refine ⟨ih.1, fun s h0 h1 h2 => ?_, ?_⟩
      · by_cases e : s = n
        · subst e
          simp only [Bool.and_eq_true, decide_eq_true_eq, not_and] at h
          have := h h2
          omega
        · exact ih.2.1 s h0 (by omega) h2
      · rcases ih.2.2 with q | ⟨s, s0, s1, s2, s3⟩
        · exact Or.inl q
        · exact Or.inr ⟨s, s0, by omega, s2, s3⟩
theorem isMin_congr {ok ok' : Int → Bool} {g g' : Int → Int} {N m : Int} (h : isMin ok g N m) (ho : ∀ s, 0 ≤ s → s < N → ok s = ok' s) (hg : ∀ s, 0 ≤ s → s < N → ok s = true → g s = g' s) : isMin ok' g' N m := by
  refine ⟨h.1, fun s h0 h1 h2 => ?_, ?_⟩
  · rw [← ho s h0 h1] at h2
    rw [← hg s h0 h1 h2]; exact h.2.1 s h0 h1 h2
  · rcases h.2.2 with q | ⟨s, s0, s1, s2, s3⟩
    · exact Or.inl q
    · exact Or.inr ⟨s, s0, s1, by rw [← ho s s0 s1]; exact s2, by rw [← hg s s0 s1 s2]; exact s3⟩
/-- what an instruction costs in a state, but for going on to the next one -/
def bs (c : Cf) (pi : Int → Int) (i s : Int) : Int := cW c i * cVc c i s + (if lea c i then cW c i * cPs c (cAf c i s) (pi (cNu c i)) else 0)
/-- from an instruction in a state on, up to the next target -/
def Lm (c : Cf) (ok : Int → Int → Bool) (pi : Int → Int) : Nat → Int → Int → Int
  | 0, _, _ => FAR
  | f + 1, i, s =>
    if ok i s = false then FAR
    else if fal c i = true then
      (if cTg c (i + 1) = 1 then bs c pi i s + cW c i * cPs c (cAf c i s) (pi (i + 1))
       else if mnF (fun t => ok (i + 1) t && decide (Lm c ok pi f (i + 1) t < FAR)) (fun t => cW c i * cPs c (cAf c i s) t + Lm c ok pi f (i + 1) t) (nS (cR c)).toNat = FAR then FAR
       else bs c pi i s + mnF (fun t => ok (i + 1) t && decide (Lm c ok pi f (i + 1) t < FAR)) (fun t => cW c i * cPs c (cAf c i s) t + Lm c ok pi f (i + 1) t) (nS (cR c)).toNat)
    else bs c pi i s
def LF (c : Cf) (ok : Int → Int → Bool) (pi : Int → Int) (i s : Int) : Int := Lm c ok pi (cN c - i).toNat i s
/-- the least of going on -/
def moreF (c : Cf) (ok : Int → Int → Bool) (pi : Int → Int) (i s : Int) : Int := mnF (fun t => ok (i + 1) t && decide (LF c ok pi (i + 1) t < FAR)) (fun t => cW c i * cPs c (cAf c i s) t + LF c ok pi (i + 1) t) (nS (cR c)).toNat
section C
variable {c : Cf} {ok : Int → Int → Bool} {pi : Int → Int} {i s : Int}
theorem LF_no (h : ok i s = false) : LF c ok pi i s = FAR := by
  unfold LF
  cases (cN c - i).toNat with
  | zero => rfl
  | succ f => unfold Lm; rw [if_pos h]
theorem LF_eq (hi : 0 ≤ i ∧ i < cN c) (h : ok i s = true) : LF c ok pi i s = (if fal c i = true then (if cTg c (i + 1) = 1 then bs c pi i s + cW c i * cPs c (cAf c i s) (pi (i + 1)) else if moreF c ok pi i s = FAR then FAR else bs c pi i s + moreF c ok pi i s) else bs c pi i s) := by
  have e : (cN c - i).toNat = (cN c - (i + 1)).toNat + 1 := by omega
  unfold LF
  rw [e]
  unfold Lm
  rw [if_neg (by rw [h]; decide)]
  rfl
theorem bs_in (hV : VP c) (hi : 0 ≤ i ∧ i < cN c) (hd : cDep c i ≠ -4) (hs : 0 ≤ s ∧ s < nS (cR c)) (hp : ∀ t, 0 ≤ t → t < cN c → cTg c t = 1 → 0 ≤ pi t ∧ pi t < nS (cR c)) : 0 ≤ bs c pi i s ∧ bs c pi i s ≤ 160000 := by
  obtain ⟨v1, v2, v3, v4, v5, v6, v7, v8, v9, v10, v11, v12, v13⟩ := hV
  have hk := v6 i hi.1 hi.2
  have hw := v7 i hi.1 hi.2
  have ht := tk_le hk
  have hvc : 0 ≤ cVc c i s ∧ cVc c i s ≤ 54 := by
    unfold cVc vc
    have a1 : tk (cK c i) * c.1.2.2.1 ≤ 3 * 9 := Int.mul_le_mul ht.2.1 v3.2 v3.1 (by decide)
    have a2 : 0 ≤ tk (cK c i) * c.1.2.2.1 := Int.mul_nonneg ht.1 v3.1
    have a3 : cm (cK c i) * c.1.2.2.2 ≤ 3 * 9 := Int.mul_le_mul ht.2.2.2.1 v4.2 v4.1 (by decide)
    have a4 : 0 ≤ cm (cK c i) * c.1.2.2.2 := Int.mul_nonneg ht.2.2.1 v4.1
    split
    · omega
    · split <;> omega
  have m1 : 0 ≤ cW c i * cVc c i s := Int.mul_nonneg (by omega) hvc.1
  have m2 : cW c i * cVc c i s ≤ 999 * 54 := Int.mul_le_mul hw.2 hvc.2 hvc.1 (by decide)
  unfold bs
  by_cases hl : lea c i = true
  · rw [if_pos hl]
    obtain ⟨n1, n2, n3⟩ := v10 i hi.1 hi.2 hd hl
    have hpp := pP_b (r := cR c) v1 v2 v3 v4 (s := cAf c i s) (t := pi (cNu c i)) (aft_in v1 hk hs) (hp _ n1 n2 n3)
    have m3 : 0 ≤ cW c i * cPs c (cAf c i s) (pi (cNu c i)) := Int.mul_nonneg (by omega) hpp.1
    have m4 : cW c i * cPs c (cAf c i s) (pi (cNu c i)) ≤ 999 * 100 := Int.mul_le_mul hw.2 hpp.2 hpp.1 (by decide)
    omega
  · rw [if_neg hl]; omega
/-- every reached instruction may be given some state -/
def Fe (c : Cf) (ok : Int → Int → Bool) : Prop := (∀ i s, ok i s = true → okL c i s = true) ∧ ∀ i, 0 ≤ i → i < cN c → cDep c i ≠ -4 → ∃ s, 0 ≤ s ∧ s < nS (cR c) ∧ ok i s = true
def Pin (c : Cf) (pi : Int → Int) : Prop := ∀ t, 0 ≤ t → t < cN c → cTg c t = 1 → 0 ≤ pi t ∧ pi t < nS (cR c)
theorem okL_dep {c : Cf} {i s : Int} (h : okL c i s = true) : cDep c i ≠ -4 := by
  unfold okL at h
  simp only [Bool.and_eq_true, decide_eq_true_eq] at h
  exact h.1.1.1
theorem wP_in (hV : VP c) (hi : 0 ≤ i ∧ i < cN c) (hs : 0 ≤ s ∧ s < nS (cR c)) {t : Int} (ht : 0 ≤ t ∧ t < nS (cR c)) : 0 ≤ cW c i * cPs c (cAf c i s) t ∧ cW c i * cPs c (cAf c i s) t ≤ 99900 := by
  obtain ⟨v1, v2, v3, v4, v5, v6, v7, -⟩ := hV
  have hk := v6 i hi.1 hi.2
  have hw := v7 i hi.1 hi.2
  have hpp := pP_b (r := cR c) v1 v2 v3 v4 (s := cAf c i s) (t := t) (aft_in v1 hk hs) ht
  have m3 : 0 ≤ cW c i * cPs c (cAf c i s) t := Int.mul_nonneg (by omega) hpp.1
  have m4 : cW c i * cPs c (cAf c i s) t ≤ 999 * 100 := Int.mul_le_mul hw.2 hpp.2 hpp.1 (by decide)
  omega
/-- all is finite -/
theorem LF_fin (hV : VP c) (hF : Fe c ok) (hp : Pin c pi) : ∀ (m : Nat) (i s : Int), 0 ≤ i → i < cN c → i + m = cN c → 0 ≤ s → s < nS (cR c) → ok i s = true → 0 ≤ LF c ok pi i s ∧ LF c ok pi i s ≤ 260000 * m := by
  have h16 := nS_le (cR c)
  intro m
  induction m with
  | zero => intro i s h0 hl hm hs0 hs1 ho; omega
  | succ m ih =>
    intro i s h0 hl hm hs0 hs1 ho
    have hd := okL_dep (hF.1 i s ho)
    have hb := bs_in (pi := pi) hV ⟨h0, by omega⟩ hd ⟨hs0, hs1⟩ hp
    rw [LF_eq ⟨h0, by omega⟩ ho]
    by_cases hf : fal c i = true
    · rw [if_pos hf]
      have hlt := fal_lt hf
      have hd1 := hV.2.2.2.2.2.2.2.2.2.2.1 i h0 (by omega) hd hf
      by_cases ht : cTg c (i + 1) = 1
      · rw [if_pos ht]
        have := wP_in hV ⟨h0, by omega⟩ ⟨hs0, hs1⟩ (hp (i + 1) (by omega) hlt ht)
        omega
      · rw [if_neg ht]
        have hmin := mnF_isMin (fun t => ok (i + 1) t && decide (LF c ok pi (i + 1) t < FAR)) (fun t => cW c i * cPs c (cAf c i s) t + LF c ok pi (i + 1) t) (nS (cR c)).toNat
        rw [show (((nS (cR c)).toNat : Nat) : Int) = nS (cR c) by omega] at hmin
        change isMin _ _ _ (moreF c ok pi i s) at hmin
        obtain ⟨t, t0, t1, t2⟩ := hF.2 (i + 1) (by omega) hlt hd1
        have hLt := ih (i + 1) t (by omega) hlt (by omega) t0 t1 t2
        have hm24 : (m : Int) ≤ 24 := by have := hV.2.2.2.2.1; omega
        have hFAR : FAR = 1000000000 := rfl
        have hwt := wP_in hV ⟨h0, by omega⟩ ⟨hs0, hs1⟩ ⟨t0, t1⟩
        have hup : moreF c ok pi i s ≤ cW c i * cPs c (cAf c i s) t + LF c ok pi (i + 1) t := hmin.2.1 t t0 t1 (by simp only [Bool.and_eq_true, decide_eq_true_eq]; exact ⟨t2, by omega⟩)
        have hne : moreF c ok pi i s ≠ FAR := by omega
        rw [if_neg hne]
        obtain ⟨t', t0', t1', t2', t3'⟩ := hmin.2.2.resolve_left hne
        simp only [Bool.and_eq_true, decide_eq_true_eq] at t2'
        have hLt' := ih (i + 1) t' (by omega) hlt (by omega) t0' t1' t2'.1
        have hwt' := wP_in hV ⟨h0, by omega⟩ ⟨hs0, hs1⟩ ⟨t0', t1'⟩
        have e : moreF c ok pi i s = cW c i * cPs c (cAf c i s) t' + LF c ok pi (i + 1) t' := t3'.symm
        omega
    · rw [if_neg hf]; omega
theorem LF_lt (hV : VP c) (hF : Fe c ok) (hp : Pin c pi) (hi : 0 ≤ i ∧ i < cN c) (hs : 0 ≤ s ∧ s < nS (cR c)) (ho : ok i s = true) : 0 ≤ LF c ok pi i s ∧ LF c ok pi i s ≤ 6240000 := by
  have := LF_fin hV hF hp (cN c - i).toNat i s hi.1 hi.2 (by omega) hs.1 hs.2 ho
  have := hV.2.2.2.2.1
  omega
/-- when all is finite, going on is the plain least -/
theorem more_fin (hV : VP c) (hF : Fe c ok) (hp : Pin c pi) (hi : 0 ≤ i ∧ i < cN c) (hs : 0 ≤ s ∧ s < nS (cR c)) (ho : ok i s = true) (hf : fal c i = true) : isMin (ok (i + 1)) (fun t => cW c i * cPs c (cAf c i s) t + LF c ok pi (i + 1) t) (nS (cR c)) (moreF c ok pi i s) ∧ moreF c ok pi i s ≠ FAR := by
  have h16 := nS_le (cR c)
  have hFAR : FAR = 1000000000 := rfl
  have hlt := fal_lt hf
  have hmin := mnF_isMin (fun t => ok (i + 1) t && decide (LF c ok pi (i + 1) t < FAR)) (fun t => cW c i * cPs c (cAf c i s) t + LF c ok pi (i + 1) t) (nS (cR c)).toNat
  rw [show (((nS (cR c)).toNat : Nat) : Int) = nS (cR c) by omega] at hmin
  change isMin _ _ _ (moreF c ok pi i s) at hmin
  have hmin2 : isMin (ok (i + 1)) (fun t => cW c i * cPs c (cAf c i s) t + LF c ok pi (i + 1) t) (nS (cR c)) (moreF c ok pi i s) := by
    refine isMin_congr hmin (fun t t0 t1 => ?_) (fun t t0 t1 _ => rfl)
    cases h : ok (i + 1) t with
    | false => rfl
    | true =>
      have := LF_lt hV hF hp ⟨by omega, hlt⟩ ⟨t0, t1⟩ h
      simp only [Bool.true_and, decide_eq_true_eq]
      omega
  refine ⟨hmin2, ?_⟩
  have hd := okL_dep (hF.1 i s ho)
  obtain ⟨t, t0, t1, t2⟩ := hF.2 (i + 1) (by omega) hlt (hV.2.2.2.2.2.2.2.2.2.2.1 i hi.1 hi.2 hd hf)
  have h1 : moreF c ok pi i s ≤ cW c i * cPs c (cAf c i s) t + LF c ok pi (i + 1) t := hmin2.2.1 t t0 t1 t2
  have h2 := LF_lt hV hF hp ⟨by omega, hlt⟩ ⟨t0, t1⟩ t2
  have h3 := wP_in hV hi hs ⟨t0, t1⟩
  omega
/-- only the targets' pins matter -/
theorem bs_congr {pi' : Int → Int} (hV : VP c) (hi : 0 ≤ i ∧ i < cN c) (hd : cDep c i ≠ -4) (hp : ∀ t, 0 ≤ t → t < cN c → cTg c t = 1 → pi t = pi' t) : bs c pi i s = bs c pi' i s := by
  unfold bs
  by_cases hl : lea c i = true
  · obtain ⟨n1, n2, n3⟩ := hV.2.2.2.2.2.2.2.2.2.1 i hi.1 hi.2 hd hl
    rw [if_pos hl, if_pos hl, hp _ n1 n2 n3]
  · rw [if_neg hl, if_neg hl]
theorem mnF_congr {ok ok' : Int → Bool} {g g' : Int → Int} : ∀ n : Nat, (∀ s : Nat, s < n → ok s = ok' s) → (∀ s : Nat, s < n → ok s = true → g s = g' s) → mnF ok g n = mnF ok' g' n := by
  intro n ho hg
  have h1 := mnF_isMin ok g n
  have h2 := mnF_isMin ok' g' n
  refine isMin_unique (isMin_congr h1 (fun s s0 s1 => ?_) (fun s s0 s1 so => ?_)) h2
  · have := ho s.toNat (by omega)
    rwa [show ((s.toNat : Nat) : Int) = s by omega] at this
  · have := hg s.toNat (by omega)
    rw [show ((s.toNat : Nat) : Int) = s by omega] at this
    exact this so
theorem LF_congr {pi' : Int → Int} (hV : VP c) (hok : ∀ i s, ok i s = true → okL c i s = true) (hp : ∀ t, 0 ≤ t → t < cN c → cTg c t = 1 → pi t = pi' t) : ∀ (m : Nat) (i s : Int), 0 ≤ i → i + m = cN c → LF c ok pi i s = LF c ok pi' i s := by
  intro m
  induction m with
  | zero =>
    intro i s h0 hm
    unfold LF
    have : (cN c - i).toNat = 0 := by omega
    rw [this]; rfl
  | succ m ih =>
    intro i s h0 hm
    cases ho : ok i s with
    | false => rw [LF_no ho, LF_no ho]
    | true =>
      have hd := okL_dep (hok i s ho)
      rw [LF_eq ⟨h0, by omega⟩ ho, LF_eq ⟨h0, by omega⟩ ho, bs_congr hV ⟨h0, by omega⟩ hd hp]
      by_cases hf : fal c i = true
      · rw [if_pos hf, if_pos hf]
        have hlt := fal_lt hf
        have em : moreF c ok pi i s = moreF c ok pi' i s := by
          unfold moreF
          refine mnF_congr _ (fun t ht => ?_) (fun t ht _ => ?_)
          · rw [ih (i + 1) t (by omega) (by omega)]
          · rw [ih (i + 1) t (by omega) (by omega)]
        by_cases ht : cTg c (i + 1) = 1
        · rw [if_pos ht, if_pos ht, hp (i + 1) (by omega) hlt ht]
        · rw [if_neg ht, if_neg ht, em]
      · rw [if_neg hf, if_neg hf]
end C
