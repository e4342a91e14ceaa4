/-! chains: the least with one state fixed -/
section K
variable {c : Cf} {ok ok' : Int → Int → Bool} {pi : Int → Int} {i s : Int} {nt t1 t2 : Int}
theorem LF_from {b : Int} (h : ∀ i s, b ≤ i → ok i s = ok' i s) : ∀ (i s : Int), b ≤ i → LF c ok pi i s = LF c ok' pi i s := by
  have key : ∀ (f : Nat) (i s : Int), b ≤ i → Lm c ok pi f i s = Lm c ok' pi f i s := by
    intro f
    induction f with
    | zero => intro i s _; rfl
    | succ f ih =>
      intro i s h0
      have e1 : (fun t => ok (i + 1) t && decide (Lm c ok pi f (i + 1) t < FAR)) = (fun t => ok' (i + 1) t && decide (Lm c ok' pi f (i + 1) t < FAR)) := by
        funext t; rw [h (i + 1) t (by omega), ih (i + 1) t (by omega)]
      have e2 : (fun t => cW c i * cPs c (cAf c i s) t + Lm c ok pi f (i + 1) t) = (fun t => cW c i * cPs c (cAf c i s) t + Lm c ok' pi f (i + 1) t) := by
        funext t; rw [ih (i + 1) t (by omega)]
      unfold Lm
      rw [h i s h0, e1, e2]
  intro i s h0
  exact key _ i s h0
/-- what lies behind is the same -/
theorem LF_step (hi : 0 ≤ i ∧ i < cN c) (h : ok i s = ok' i s) (hn : fal c i = true → ∀ t, ok (i + 1) t = ok' (i + 1) t ∧ LF c ok pi (i + 1) t = LF c ok' pi (i + 1) t) : LF c ok pi i s = LF c ok' pi i s := by
  cases ho : ok i s with
  | false => rw [LF_no ho, LF_no (h ▸ ho)]
  | true =>
    rw [LF_eq hi ho, LF_eq hi (h ▸ ho)]
    by_cases hf : fal c i = true
    · rw [if_pos hf, if_pos hf]
      have em : moreF c ok pi i s = moreF c ok' pi i s := by
        unfold moreF
        have e1 : (fun t => ok (i + 1) t && decide (LF c ok pi (i + 1) t < FAR)) = (fun t => ok' (i + 1) t && decide (LF c ok' pi (i + 1) t < FAR)) := by
          funext t; rw [(hn hf t).1, (hn hf t).2]
        have e2 : (fun t => cW c i * cPs c (cAf c i s) t + LF c ok pi (i + 1) t) = (fun t => cW c i * cPs c (cAf c i s) t + LF c ok' pi (i + 1) t) := by
          funext t; rw [(hn hf t).2]
        rw [e1, e2]
      rw [em]
    · rw [if_neg hf, if_neg hf]
theorem Cn_from {b : Int} (h : ∀ i s, b ≤ i → ok i s = ok' i s) : ∀ (i : Int), b ≤ i + 1 → Cn c ok pi i = Cn c ok' pi i := by
  have key : ∀ (f : Nat) (i : Int), b ≤ i + 1 → CnF c ok pi f i = CnF c ok' pi f i := by
    intro f
    induction f with
    | zero => intro i _; rfl
    | succ f ih =>
      intro i h0
      unfold CnF
      rw [LF_from h (i + 1) _ h0, ih (i + 1) (by omega)]
  intro i h0
  exact key _ i h0
/-- before a head nothing of it is seen -/
theorem On_before {h : Int} (hV : VP c) (hh : hdI c h) (hn : h ≤ cN c) (he : ∀ i s, i < h → ok i s = ok' i s) : ∀ (n : Nat) (i : Int), 0 ≤ i → i + n + 1 = h → cDep c i ≠ -4 → (∀ s, LF c ok pi i s = LF c ok' pi i s) ∧ Cn c ok pi i = Cn c ok' pi i := by
  have hv := hV.2.2.2.2.2.2.2.2.2.2.1
  intro n
  induction n with
  | zero =>
    intro i i0 e hd
    have hf : fal c i = false := by
      rcases hh with q | q | q
      · omega
      · rw [show h - 1 = i from by omega] at q; exact absurd q hd
      · rwa [show h - 1 = i from by omega] at q
    refine ⟨fun s => LF_step ⟨i0, by omega⟩ (he i s (by omega)) (fun q => by rw [hf] at q; exact absurd q (by decide)), ?_⟩
    rw [Cn_eq ⟨i0, by omega⟩, Cn_eq ⟨i0, by omega⟩, if_neg (by rw [hf]; decide), if_neg (by rw [hf]; decide)]
  | succ n ih =>
    intro i i0 e hd
    refine ⟨fun s => LF_step ⟨i0, by omega⟩ (he i s (by omega)) (fun q t => ⟨he (i + 1) t (by omega), (ih (i + 1) (by omega) (by omega) (hv i i0 (by omega) hd q)).1 t⟩), ?_⟩
    rw [Cn_eq ⟨i0, by omega⟩, Cn_eq ⟨i0, by omega⟩]
    by_cases hf : fal c i = true
    · have q := ih (i + 1) (by omega) (by omega) (hv i i0 (by omega) hd hf)
      rw [if_pos hf, if_pos hf, q.1, q.2]
    · rw [if_neg hf, if_neg hf]
/-- one step along a chain -/
theorem swap_step {B : Int → Int → Int} {m : Int} (hV : VP c) (hF : Fe c ok) (hP : PinOK c ok pi) (hi : 0 ≤ i ∧ i < cN c) (hf : fal c i = true) (hm : isMin (cp c ok pi i) (fun s => B i s + On c ok pi i s) (nS (cR c)) m) (hm2 : m < FAR)
    (hB : ∀ t, 0 ≤ t → t < nS (cR c) → cp c ok pi (i + 1) t = true → B (i + 1) t < FAR ∧ isMin (cp c ok pi i) (fun s => B i s + bs c pi i s + cW c i * cPs c (cAf c i s) t) (nS (cR c)) (B (i + 1) t)) :
    isMin (cp c ok pi (i + 1)) (fun t => B (i + 1) t + On c ok pi (i + 1) t) (nS (cR c)) m := by
  have low : ∀ t, 0 ≤ t → t < nS (cR c) → cp c ok pi (i + 1) t = true → m ≤ B (i + 1) t + On c ok pi (i + 1) t := by
    intro t t0 t1 t2
    obtain ⟨b1, b2⟩ := hB t t0 t1 t2
    rcases b2.2.2 with z | ⟨s, s0, s1, s2, s3⟩
    · omega
    · have g := (On_go hV hF hP hi ⟨s0, s1⟩ (cp_ok s2) hf).2.1 t t0 t1 t2
      have l := hm.2.1 s s0 s1 s2
      simp only at g l s3
      omega
  refine ⟨by omega, low, ?_⟩
  rcases hm.2.2 with z | ⟨s, s0, s1, s2, s3⟩
  · omega
  · have g := On_go hV hF hP hi ⟨s0, s1⟩ (cp_ok s2) hf
    rcases g.2.2 with z | ⟨t, t0, t1, t2, t3⟩
    · have := On_in hV hF hP hi ⟨s0, s1⟩ (cp_ok s2)
      have := bs_in hV hi (okL_dep (hF.1 i s (cp_ok s2))) ⟨s0, s1⟩ hP.pin
      have hFAR : FAR = 1000000000 := rfl
      omega
    · refine Or.inr ⟨t, t0, t1, t2, ?_⟩
      have l := low t t0 t1 t2
      obtain ⟨b1, b2⟩ := hB t t0 t1 t2
      have u := b2.2.1 s s0 s1 s2
      simp only at s3 t3 u ⊢
      omega
theorem ok1_ne {i0 s0 : Int} (h : i ≠ i0) : ok1 c i0 s0 i s = okL c i s := by
  unfold ok1
  rw [show decide (i ≠ i0) = true from decide_eq_true h]
  simp
theorem ok1_eq {i0 s0 : Int} : ok1 c i0 s0 i0 s0 = okL c i0 s0 := by
  unfold ok1
  simp
theorem ok1_only {i0 s0 : Int} (h : ok1 c i0 s0 i0 s = true) : s = s0 := by
  unfold ok1 at h
  simp at h
  exact h.2
theorem Fe_ok1 {i0 s0 : Int} (hV : VP c) (hs : 0 ≤ s0 ∧ s0 < nS (cR c)) (ho : okL c i0 s0 = true) : Fe c (ok1 c i0 s0) := by
  refine ⟨fun i s z => ok1_okL z, fun i a b d => ?_⟩
  by_cases e : i = i0
  · exact ⟨s0, hs.1, hs.2, by rw [e, ok1_eq]; exact ho⟩
  · obtain ⟨s, y⟩ := (Fe_okL hV).2 i a b d
    exact ⟨s, y.1, y.2.1, by rw [ok1_ne e]; exact y.2.2⟩
theorem PinOK_ok1 {i0 s0 : Int} (hP : PinOK c (okL c) pi) (hc : cp c (okL c) pi i0 s0 = true) : PinOK c (ok1 c i0 s0) pi := by
  intro t a b d
  obtain ⟨q1, q2, q3⟩ := hP t a b d
  refine ⟨q1, q2, ?_⟩
  by_cases e : t = i0
  · rw [e]; rw [e] at d q3
    rw [← cp_pin hc d, ok1_eq]; exact cp_ok hc
  · rw [ok1_ne e]; exact q3
/-- with a state fixed: the other chains, what lies before it, what lies behind it -/
theorem least_eq {i0 s0 h : Int} {B : Int → Int → Int} (hV : VP c) (hP : PinOK c (okL c) pi) (hi : 0 ≤ i0 ∧ i0 < cN c) (hd : cDep c i0 ≠ -4) (hs : 0 ≤ s0 ∧ s0 < nS (cR c)) (hc : cp c (okL c) pi i0 s0 = true)
    (hB : ∀ j, 0 ≤ j → j ≤ i0 → cDep c j ≠ -4 → isBk c (okL c) pi B j) (hh0 : 0 ≤ h ∧ h ≤ i0) (hh : hdI c h) (hbt : ∀ j, h < j → j ≤ i0 → ¬ hdI c j) :
    totS c (ok1 c i0 s0) pi = totS c (okL c) pi - On c (okL c) pi h (hdP c pi h) + B i0 s0 + On c (okL c) pi i0 s0 := by
  have hN := hV.2.2.2.2.1
  have hFAR : FAR = 1000000000 := rfl
  have hF := Fe_okL hV
  have hF1 := Fe_ok1 hV hs (cp_ok hc)
  have hP1 := PinOK_ok1 hP hc
  have h00 : okL c 0 0 = true := okL0 hV ⟨by omega, by omega⟩ (by rw [hV.2.2.2.2.2.2.2.2.1]; decide)
  have h001 : ok1 c i0 s0 0 0 = true := by
    by_cases e : (0 : Int) = i0
    · have : s0 = 0 := okL_00 (by rw [← e] at hc; exact cp_ok hc)
      rw [← e, this, ok1_eq]; exact h00
    · rw [ok1_ne e]; exact h00
  have hcp : ∀ i s, i ≠ i0 → cp c (ok1 c i0 s0) pi i s = cp c (okL c) pi i s := fun i s e => by unfold cp; rw [ok1_ne e]
  -- all of the chain is reached
  have hr : ∀ j, h ≤ j → j ≤ i0 → cDep c j ≠ -4 := fun j a b => by
    by_cases e : j = i0
    · rw [e]; exact hd
    · have := (hdI_not (hbt (j + 1) (by omega) (by omega))).2.1
      rwa [show j + 1 - 1 = j from by omega] at this
  have hhr := hr h (by omega) (by omega)
  have hpin := hdI_pin hV (i := h) ⟨by omega, by omega⟩ hhr hh
  have q1 := hdP_ok hV hF1 hP1 h001 (i := h) ⟨by omega, by omega⟩ hpin
  -- along the chain
  have chain : ∀ (n : Nat) (j : Int), j = h + n → j ≤ i0 → isMin (cp c (ok1 c i0 s0) pi j) (fun s => B j s + On c (ok1 c i0 s0) pi j s) (nS (cR c)) (On c (ok1 c i0 s0) pi h (hdP c pi h)) := by
    have onb := On_in hV hF1 hP1 (i := h) ⟨by omega, by omega⟩ ⟨q1.1, q1.2.1⟩ (cp_ok q1.2.2.1)
    intro n
    induction n with
    | zero =>
      intro j e hj
      have e' : j = h := by omega
      rw [e']
      have b0 := (hB h hh0.1 hh0.2 hhr).1 hh
      refine ⟨by omega, fun s z0 z1 z2 => ?_, Or.inr ⟨hdP c pi h, q1.1, q1.2.1, q1.2.2.1, by (try simp only); omega⟩⟩
      rw [q1.2.2.2 s z2]
      try simp only
      omega
    | succ n ih =>
      intro j e hj
      have ih := ih (j - 1) (by omega) (by omega)
      have hnh := hbt j (by omega) hj
      obtain ⟨a0, a1, a2⟩ := hdI_not hnh
      have := swap_step (B := B) hV hF1 hP1 (i := j - 1) ⟨by omega, by omega⟩ a2 ih (by omega) (fun t t0 t1 t2 => ?_)
      · rwa [show j - 1 + 1 = j from by omega] at this
      · rw [show j - 1 + 1 = j from by omega] at t2 ⊢
        have t2' : cp c (okL c) pi j t = true := by
          by_cases y : j = i0
          · rw [y] at t2
            have := ok1_only (s := t) (cp_ok t2)
            rw [y, this]; exact hc
          · rw [← hcp j t y]; exact t2
        have bin := B_in hV hF hP h00 j.toNat j t (by omega) (by omega) (hr j (by omega) hj) (fun k z1 z2 z3 => hB k z1 (by omega) z3) t0 t1 t2'
        have bm := (hB j (by omega) hj (hr j (by omega) hj)).2 hnh t t0 t1 t2'
        refine ⟨by omega, isMin_congr bm (fun s _ _ => (hcp (j - 1) s (by omega)).symm) (fun _ _ _ _ => rfl)⟩
  have last := chain (i0 - h).toNat i0 (by omega) (by omega)
  -- at its place
  have on0 : On c (ok1 c i0 s0) pi i0 s0 = On c (okL c) pi i0 s0 := by
    have hb : ∀ i s, i0 + 1 ≤ i → ok1 c i0 s0 i s = okL c i s := fun i s z => ok1_ne (by omega)
    unfold On
    rw [LF_step (ok' := okL c) hi ok1_eq (fun _ t => ⟨hb _ t (by omega), LF_from hb _ t (by omega)⟩), Cn_from hb i0 (by omega)]
  have cp0 : cp c (ok1 c i0 s0) pi i0 s0 = true := cp_of (by rw [ok1_eq]; exact cp_ok hc) (fun q => cp_pin hc q)
  have hval : On c (ok1 c i0 s0) pi h (hdP c pi h) = B i0 s0 + On c (okL c) pi i0 s0 := by
    rw [← on0]
    have u := last.2.1 s0 hs.1 hs.2 cp0
    simp only at u
    rcases last.2.2 with z | ⟨s, z0, z1, z2, z3⟩
    · have := On_in hV hF1 hP1 (i := h) ⟨by omega, by omega⟩ ⟨q1.1, q1.2.1⟩ (cp_ok q1.2.2.1)
      omega
    · rw [ok1_only (cp_ok z2)] at z3
      exact z3.symm
  -- the other chains
  have same : ∀ j : Int, 0 ≤ j → j < (cN c).toNat → j ≠ h → hv c (ok1 c i0 s0) pi j = hv c (okL c) pi j := by
    intro j j0 j1 jh
    unfold hv
    by_cases hcd : cDep c j ≠ -4 ∧ (j = 0 ∨ cDep c (j - 1) = -4 ∨ fal c (j - 1) = false)
    · rw [if_pos hcd, if_pos hcd]
      by_cases lt : j < h
      · have := On_before (ok := ok1 c i0 s0) (ok' := okL c) (pi := pi) hV hh (by omega) (fun i s z => ok1_ne (by omega)) (h - 1 - j).toNat j j0 (by omega) hcd.1
        unfold On
        rw [this.1, this.2]
      · have gt : i0 < j := by
          apply Classical.byContradiction
          intro q
          exact hbt j (by omega) (by omega) hcd.2
        have hb : ∀ i s, i0 + 1 ≤ i → ok1 c i0 s0 i s = okL c i s := fun i s z => ok1_ne (by omega)
        unfold On
        rw [LF_from hb j _ (by omega), Cn_from hb j (by omega)]
    · rw [if_neg hcd, if_neg hcd]
  have ssum := sumT_at (f := hv c (ok1 c i0 s0) pi) (g := hv c (okL c) pi) (h := h) hh0.1 (cN c).toNat same
  have e1 : hv c (ok1 c i0 s0) pi h = On c (ok1 c i0 s0) pi h (hdP c pi h) := by unfold hv; rw [if_pos ⟨hhr, hh⟩]
  have e2 : hv c (okL c) pi h = On c (okL c) pi h (hdP c pi h) := by unfold hv; rw [if_pos ⟨hhr, hh⟩]
  rw [if_pos (by omega), e1, e2, hval] at ssum
  show sumT (hv c (ok1 c i0 s0) pi) (cN c).toNat = sumT (hv c (okL c) pi) (cN c).toNat - _ + _ + _
  omega
end K
