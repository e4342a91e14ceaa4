/-! x: total, pick -/
theorem sumT_mono {f : Int → Int} {n : Nat} : ∀ {m : Nat}, n ≤ m → (∀ i : Int, 0 ≤ i → i < m → 0 ≤ f i) → sumT f n ≤ sumT f m := by
  intro m
  induction m with
  | zero => intro h _; rw [show n = 0 from by omega]; exact Int.le_refl _
  | succ m ih =>
    intro h hf
    by_cases e : n = m + 1
    · rw [e]; exact Int.le_refl _
    · have := ih (by omega) (fun i a b => hf i a (by omega))
      have := hf m (by omega) (by omega)
      show sumT f n ≤ sumT f m + f m
      omega
section X
variable {c : Cf} {M : Mem} {R : Int → Mem → Prop} {i : Int} {pi : Int → Int} {nt t1 t2 : Int}
theorem hv_in {ok : Int → Int → Bool} (hV : VP c) (hF : Fe c ok) (hP : PinOK c ok pi) (h00 : ok 0 0 = true) (hi : 0 ≤ i ∧ i < cN c) : 0 ≤ hv c ok pi i := by
  unfold hv
  by_cases q : cDep c i ≠ -4 ∧ (i = 0 ∨ cDep c (i - 1) = -4 ∨ fal c (i - 1) = false)
  · rw [if_pos q]
    obtain ⟨p1, p2, p3, p4⟩ := hdP_ok hV hF hP h00 hi (hdI_pin hV hi q.1 q.2)
    exact (On_in hV hF hP hi ⟨p1, p2⟩ (cp_ok p3)).1
  · rw [if_neg q]; omega
theorem s_xtotal (hV : VP c) (hG : TG c nt t1 t2) (hC : XC c M) (hX : PnX c pi M) (hP : PinOK c (okL c) pi) (hO : ∀ j, 0 ≤ j → j < cN c → OnX c pi M j) (h : R (totS c (okL c) pi) M) : fCh_total M R := by
  have hN := hV.2.2.2.2.1
  have h16 := nS_le (cR c)
  have hF := Fe_okL hV
  have h00 : okL c 0 0 = true := okL0 hV ⟨by omega, by omega⟩ (by rw [hV.2.2.2.2.2.2.2.2.1]; decide)
  have hb := totM_fin hV hF hP h00 hG
  rw [← totS_eq hV hF hP h00 hG] at hb
  have part : ∀ n : Nat, (n : Int) ≤ cN c → 0 ≤ sumT (hv c (okL c) pi) n ∧ sumT (hv c (okL c) pi) n ≤ 18720000 := fun n hn => by
    have a := sumT_mono (f := hv c (okL c) pi) (n := n) (m := (cN c).toNat) (by omega) (fun i a b => hv_in hV hF hP h00 ⟨a, by omega⟩)
    have b := sumT_mono (f := hv c (okL c) pi) (n := 0) (m := n) (by omega) (fun i a b => hv_in hV hF hP h00 ⟨a, by omega⟩)
    have b' : (0 : Int) ≤ sumT (hv c (okL c) pi) n := b
    unfold totS at hb
    omega
  have key : ∀ (d : Nat) (x : Nat), (x : Int) + d = cN c → fCh_total_4 R (d + 1) (sumT (hv c (okL c) pi) x) x M := by
    intro d
    induction d with
    | zero =>
      intro x xd
      refine ⟨fun _ => ?_, fun q => by rw [hC.1] at q; omega⟩
      have : x = (cN c).toNat := by omega
      rw [this]; exact h
    | succ d ih =>
      intro x xd
      have ih' := ih (x + 1) (by omega)
      have w1 : wrap ((x : Int) + 1) = ((x + 1 : Nat) : Int) := by rw [wrapI (by omega) (by omega)]; omega
      have hs : sumT (hv c (okL c) pi) (x + 1) = sumT (hv c (okL c) pi) x + hv c (okL c) pi x := rfl
      have same : hv c (okL c) pi x = 0 → fCh_total_56 (fCh_total_4 R (d + 1)) R (sumT (hv c (okL c) pi) x) x M := fun e => by
        unfold fCh_total_56
        rw [w1, show sumT (hv c (okL c) pi) x = sumT (hv c (okL c) pi) (x + 1) from by rw [hs, e]; omega]
        exact ih'
      refine ⟨fun q => by rw [hC.1] at q; omega, fun _ => s_isReached hV hC ⟨by omega, by omega⟩ ⟨fun hd => ⟨fun z => absurd z (by decide), fun _ => ?_⟩, fun hd => ⟨fun _ => same (by unfold hv; rw [if_neg (fun q => q.1 hd)]), fun z => absurd rfl z⟩⟩⟩
      refine s_isHead hV hC ⟨by omega, by omega⟩ ⟨fun hh => ⟨fun z => absurd z (by decide), fun _ => ?_⟩, fun hh => ⟨fun _ => same (by unfold hv; rw [if_neg (fun q => hh q.2)]), fun z => absurd rfl z⟩⟩
      have hpin := hdI_pin hV (i := x) ⟨by omega, by omega⟩ hd hh
      obtain ⟨p1, p2, p3, p4⟩ := hdP_ok hV hF hP h00 (i := x) ⟨by omega, by omega⟩ hpin
      have hon := On_in hV hF hP (i := x) ⟨by omega, by omega⟩ ⟨p1, p2⟩ (cp_ok p3)
      have ehv : hv c (okL c) pi x = On c (okL c) pi x (hdP c pi x) := by unfold hv; rw [if_pos ⟨hd, hh⟩]
      have wx : wrap (wrap ((x : Int) * 16) + hdP c pi x) = 16 * (x : Int) + hdP c pi x := by rw [wrapI (z := (x : Int) * 16) (by omega) (by omega), wrapI (by omega) (by omega)]; omega
      have hp := part x (by omega)
      rw [hX.at ⟨by omega, by omega, hN.2⟩ hpin, wx, hO x (by omega) (by omega) hd _ p1 p2 p3, wrapI (z := sumT (hv c (okL c) pi) x + On c (okL c) pi x (hdP c pi x)) (by omega) (by omega)]
      refine ⟨⟨by omega, by omega⟩, ⟨by omega, by omega⟩, ?_⟩
      unfold fCh_total_56
      rw [w1, ← ehv, ← hs]
      exact ih'
  exact ⟨(cN c).toNat + 1, key _ 0 (by omega)⟩
/-- what x picks -/
def metX (c : Cf) (pi F : Int → Int) (i : Int) : Prop := cDep c i ≠ -4 → (i = 0 ∨ cTg c i = 1 → F i = hdP c pi i) ∧ (0 < i → cTg c i ≠ 1 → stepA c (okL c) pi F i)
theorem metX_ok {F : Int → Int} (hV : VP c) (hP : PinOK c (okL c) pi) (hi : 0 ≤ i ∧ i < cN c) (hd : cDep c i ≠ -4) (h : metX c pi F i) : 0 ≤ F i ∧ F i < nS (cR c) ∧ okL c i (F i) = true := by
  have hN := hV.2.2.2.2.1
  have h16 := nS_le (cR c)
  have h00 : okL c 0 0 = true := okL0 hV ⟨by omega, by omega⟩ (by rw [hV.2.2.2.2.2.2.2.2.1]; decide)
  by_cases z : i = 0 ∨ cTg c i = 1
  · rw [(h hd).1 z]
    obtain ⟨p1, p2, p3, p4⟩ := hdP_ok hV (Fe_okL hV) hP h00 hi z
    exact ⟨p1, p2, cp_ok p3⟩
  · exact stepA_ok ((h hd).2 (by have : i ≠ 0 := fun q => z (Or.inl q); omega) (fun q => z (Or.inr q)))
theorem s_pick (hV : VP c) (hC : XC c M) (hA : LA c M) (hX : PnX c pi M) (hP : PinOK c (okL c) pi) (hO : ∀ j, 0 ≤ j → j < cN c → OnX c pi M j) (h : ∀ M', Off [39] [] M M' → (∀ j, 0 ≤ j → j < cN c → metX c pi (M' 39) j) → R 0 M') : fCh_pick M R := by
  have hN := hV.2.2.2.2.1
  have h16 := nS_le (cR c)
  have hFAR : FAR = 1000000000 := rfl
  have hF := Fe_okL hV
  have v13 := hV.2.2.2.2.2.2.2.2.2.2.2.2
  have h00 : okL c 0 0 = true := okL0 hV ⟨by omega, by omega⟩ (by rw [hV.2.2.2.2.2.2.2.2.1]; decide)
  have key : ∀ (d : Nat) (x : Int) (Mi : Mem), 0 ≤ x → x + d = cN c → Off [39] [] M Mi → (∀ j, 0 ≤ j → j < x → metX c pi (Mi 39) j) → fCh_pick_2 R (d + 1) x Mi := by
    intro d
    induction d with
    | zero =>
      intro x Mi x0 xd ho hm
      have e13 : Mi 13 6 = cN c := (hC.off ho (by decide)).1
      exact ⟨fun _ => h Mi ho (fun j a b => hm j a (by omega)), fun q => by rw [e13] at q; omega⟩
    | succ d ih =>
      intro x Mi x0 xd ho hm
      have x24 : inb x 24 := ⟨by omega, by omega⟩
      have hoz : Off [39] [] M (mu Mi 39 x 0) := ho.mu (Or.inl (by decide))
      have hCi := hC.off hoz (by decide)
      have hXi := hX.off hoz (by decide)
      have e13 : Mi 13 6 = cN c := (hC.off ho (by decide)).1
      have next : ∀ M', Off [39] [] M M' → (∀ j, j ≠ x → M' 39 j = Mi 39 j) → metX c pi (M' 39) x → fCh_pick_150 (fCh_pick_2 R (d + 1)) R x M' := by
        intro M' ho' hj hx
        unfold fCh_pick_150
        rw [wrapI (z := x + 1) (by omega) (by omega)]
        refine ih (x + 1) M' (by omega) (by omega) ho' (fun j a b => ?_)
        by_cases z : j = x
        · rw [z]; exact hx
        · intro hd
          have := hm j a (by omega) hd
          refine ⟨fun q => by rw [hj j z]; exact this.1 q, fun q1 q2 => stepA_congr (this.2 q1 q2) (hj (j - 1) (by omega)).symm (hj j z).symm⟩
      unfold fCh_pick_2
      rw [e13]
      refine ⟨fun q => by omega, fun _ => ⟨x24, s_isReached hV hCi ⟨x0, by omega⟩ ⟨fun hd => ⟨fun _ => ⟨x24, ?_⟩, fun z => absurd z (by decide)⟩, fun hd => ⟨fun z => absurd rfl z, fun _ => next _ hoz (fun j z => mu_place z) (fun q => absurd hd q)⟩⟩⟩⟩
      by_cases hp : x = 0 ∨ cTg c x = 1
      · rw [hXi.at ⟨by omega, by omega, hN.2⟩ hp]
        obtain ⟨p1, p2, p3, p4⟩ := hdP_ok hV hF hP h00 (i := x) ⟨by omega, by omega⟩ hp
        refine ⟨fun q => by omega, fun _ => ⟨x24, x24, next _ (hoz.mu (Or.inl (by decide))) (fun j z => by rw [mu_place z, mu_place z]) (fun _ => ⟨fun _ => mu_same _ _ _ _, fun q1 q2 => ?_⟩)⟩⟩
        rcases hp with q | q
        · omega
        · exact absurd q q2
      · have hp0 : x ≠ 0 ∧ cTg c x ≠ 1 := ⟨fun q => hp (Or.inl q), fun q => hp (Or.inr q)⟩
        obtain ⟨hd1, hf1⟩ := v13 x (by omega) (by omega) hd hp0.2
        have hpr := metX_ok hV hP (i := x - 1) ⟨by omega, by omega⟩ hd1 (hm (x - 1) (by omega) (by omega))
        obtain ⟨-, -, -, b4, -⟩ := hA (x - 1) (by omega) (by omega) hd1
        obtain ⟨-, e32, -⟩ := b4 _ hpr.1 hpr.2.1 hpr.2.2
        obtain ⟨a1, a2, a3, a4, -⟩ := hA x x0 (by omega) hd
        have haf := afP hV (i := x - 1) ⟨by omega, by omega⟩ ⟨hpr.1, hpr.2.1⟩
        have f39 : (mu Mi 39 x 0) 39 (x - 1) = Mi 39 (x - 1) := mu_place (by omega)
        have f32 : ∀ y, (mu Mi 39 x 0) 32 y = M 32 y := hoz.cell (by decide)
        rw [hXi.free ⟨by omega, by omega, hN.2⟩ hp0.2, wrapI (z := x - 1) (by omega) (by omega), f39, wrapI (z := (x - 1) * 16) (by omega) (by omega), wrapI (z := (x - 1) * 16 + Mi 39 (x - 1)) (by omega) (by omega), show (x - 1) * 16 + Mi 39 (x - 1) = 16 * (x - 1) + Mi 39 (x - 1) from by omega, f32, e32]
        refine ⟨fun _ => ⟨⟨by omega, by omega⟩, ⟨by omega, by omega⟩, (M 29 x).toNat + 1, ?_⟩, fun q => absurd rfl q⟩
        -- the states
        have ex : x - 1 + 1 = x := by omega
        have hcp : ∀ t, okL c x t = true → cp c (okL c) pi x t = true := fun t z => cp_of z (fun q => absurd q hp0.2)
        have gb : ∀ t, 0 ≤ t → t < nS (cR c) → okL c x t = true → 0 ≤ cW c (x - 1) * cPs c (cAf c (x - 1) (Mi 39 (x - 1))) t + On c (okL c) pi x t ∧ cW c (x - 1) * cPs c (cAf c (x - 1) (Mi 39 (x - 1))) t + On c (okL c) pi x t ≤ 157000000 := fun t q0 q1 q2 => by
          have := wPe (e := cAf c (x - 1) (Mi 39 (x - 1))) (t := t) hV (i := x - 1) ⟨by omega, by omega⟩ haf ⟨q0, q1⟩
          have := On_in hV hF hP (i := x) ⟨by omega, by omega⟩ ⟨q0, q1⟩ q2
          omega
        have lst : ∀ (e : Nat) (k v : Int) (Mk : Mem), 0 ≤ k → k + e = M 29 x → Off [39] [] M Mk → (∀ j, j ≠ x → Mk 39 j = Mi 39 j) → v ≤ FAR → (∀ k', 0 ≤ k' → k' < k → v ≤ cW c (x - 1) * cPs c (cAf c (x - 1) (Mi 39 (x - 1))) (M 28 (16 * x + k')) + On c (okL c) pi x (M 28 (16 * x + k'))) → ((v = FAR ∧ k = 0) ∨ ∃ k', 0 ≤ k' ∧ k' < k ∧ Mk 39 x = M 28 (16 * x + k') ∧ cW c (x - 1) * cPs c (cAf c (x - 1) (Mi 39 (x - 1))) (M 28 (16 * x + k')) + On c (okL c) pi x (M 28 (16 * x + k')) = v ∧ ∀ k2, 0 ≤ k2 → k2 < k' → v < cW c (x - 1) * cPs c (cAf c (x - 1) (Mi 39 (x - 1))) (M 28 (16 * x + k2)) + On c (okL c) pi x (M 28 (16 * x + k2))) → fCh_pick_87 (fCh_pick_2 R (d + 1)) R (e + 1) x (cAf c (x - 1) (Mi 39 (x - 1))) v k Mk := by
          intro e
          induction e with
          | zero =>
            intro k v Mk k0 ke hok hj hv hl hx
            have e29 : Mk 29 x = M 29 x := hok.cell (by decide) _
            refine ⟨x24, fun _ => next Mk hok hj (fun _ => ⟨fun q => absurd q hp, fun _ _ => ?_⟩), fun q => by omega⟩
            obtain ⟨s, s0, s1, s2⟩ := hF.2 x x0 (by omega) hd
            obtain ⟨⟨k1, y1, y2, y3⟩, -⟩ := a4 s s0 s1 s2
            rcases hx with ⟨z, z'⟩ | ⟨k', z1, z2, z3, z4, z5⟩
            · omega
            · obtain ⟨q1, q2, q3⟩ := a2 k' z1 (by omega)
              have hb := gb _ q1 q2 q3
              have eg : ∀ t, goM c (okL c) pi x (Mk 39 (x - 1)) t = cW c (x - 1) * cPs c (cAf c (x - 1) (Mi 39 (x - 1))) t + On c (okL c) pi x t - Cn c (okL c) pi x := fun t => by
                unfold goM On; rw [hj (x - 1) (by omega)]; omega
              have eo : ∀ t, 0 ≤ t → t < nS (cR c) → okM c (okL c) pi x t = okL c x t := fun t q0 q1 => by
                unfold okM
                cases ho : okL c x t with
                | false => rfl
                | true =>
                  have := LF_lt hV hF hP.pin (i := x) ⟨by omega, by omega⟩ ⟨q0, q1⟩ ho
                  rw [show decide (LF c (okL c) pi x t < FAR) = true from decide_eq_true (by omega)]; rfl
              have hcn := Cn_in hV hF hP (cN c - x).toNat x x0 (by omega)
              have lowk : ∀ t, 0 ≤ t → t < nS (cR c) → okL c x t = true → v ≤ cW c (x - 1) * cPs c (cAf c (x - 1) (Mi 39 (x - 1))) t + On c (okL c) pi x t := fun t t0 t1 t2 => by
                obtain ⟨⟨k3, w1, w2, w3⟩, -⟩ := a4 t t0 t1 t2
                have := hl k3 w1 (by omega)
                rw [w3] at this; exact this
              refine ⟨v - Cn c (okL c) pi x, by omega, ⟨by omega, fun t t0 t1 t2 => ?_, Or.inr ⟨_, q1, q2, by rw [eo _ q1 q2]; exact q3, by rw [eg]; omega⟩⟩, Or.inr ⟨by omega, by rw [z3]; exact q1, by rw [z3]; exact q2, by rw [z3, eo _ q1 q2]; exact q3, by rw [z3, eg]; omega, fun t t0 t1 t2 => ?_⟩⟩
              · rw [eo t t0 t1] at t2
                have := lowk t t0 t1 t2
                rw [eg]; omega
              · rw [z3] at t1
                rw [eo t t0 (by omega)] at t2
                obtain ⟨⟨k3, w1, w2, w3⟩, -⟩ := a4 t t0 (by omega) t2
                have lt : k3 < k' := by
                  apply Classical.byContradiction
                  intro q
                  by_cases e : k3 = k'
                  · rw [e] at w3; omega
                  · have := a3 k' k3 z1 (by omega) w2
                    omega
                have := z5 k3 w1 lt
                rw [w3] at this
                rw [eg]; omega
          | succ e ihe =>
            intro k v Mk k0 ke hok hj hv hl hx
            have e29 : Mk 29 x = M 29 x := hok.cell (by decide) _
            have e28 : ∀ y, Mk 28 y = M 28 y := hok.cell (by decide)
            obtain ⟨q1, q2, q3⟩ := a2 k k0 (by omega)
            have hb := gb _ q1 q2 q3
            have wk : wrap (wrap (x * 16) + k) = 16 * x + k := by rw [wrapI (z := x * 16) (by omega) (by omega), wrapI (by omega) (by omega)]; omega
            refine ⟨x24, fun q => by omega, fun _ => ?_⟩
            rw [wk, e28, wrapI (z := x - 1) (by omega) (by omega)]
            refine ⟨⟨by omega, by omega⟩, s_fallingTo (pi := pi) hV (hC.off hok (by decide)) hP ⟨by omega, by omega⟩ haf ⟨q1, q2⟩ (by rw [ex]; exact q3) (by rw [ex, hok.cell (by decide)]; exact hO x x0 (by omega) hd _ q1 q2 (hcp _ q3)) ?_⟩
            rw [ex]
            unfold fCh_pick_144
            rw [wrapI (z := k + 1) (by omega) (by omega)]
            refine ⟨fun q => ⟨x24, ihe (k + 1) _ _ (by omega) (by omega) (hok.mu (Or.inl (by decide))) (fun j z => by rw [mu_place z]; exact hj j z) (by omega) (fun k' z1 z2 => ?_) (Or.inr ⟨k, k0, by omega, mu_same _ _ _ _, rfl, fun k2 w1 w2 => ?_⟩)⟩, fun q => ihe (k + 1) v Mk (by omega) (by omega) hok hj hv (fun k' z1 z2 => ?_) ?_⟩
            · by_cases z : k' = k
              · rw [z]; exact Int.le_refl _
              · have := hl k' z1 (by omega); omega
            · have := hl k2 w1 w2; omega
            · by_cases z : k' = k
              · rw [z]; omega
              · exact hl k' z1 (by omega)
            · rcases hx with ⟨z, z'⟩ | ⟨k', z1, z2, z3⟩
              · omega
              · exact Or.inr ⟨k', z1, by omega, z3⟩
        exact lst _ 0 1000000000 _ (by omega) (by omega) hoz (fun j z => mu_place z) (by omega) (fun k' z1 z2 => by omega) (Or.inl ⟨rfl, rfl⟩)
  exact ⟨(cN c).toNat + 1, key _ 0 M (by omega) (by omega) (Off.rf _ _ _) (fun j a b => by omega)⟩
end X
