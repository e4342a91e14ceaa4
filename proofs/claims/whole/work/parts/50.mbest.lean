/-! the reference: the best choice -/
section B
variable {c : Cf} {ok : Int → Int → Bool} {pi : Int → Int} {M : Mem} {R : Int → Mem → Prop} {nt t1 t2 : Int}
def okM (c : Cf) (ok : Int → Int → Bool) (pi : Int → Int) (i t : Int) : Bool := ok i t && decide (LF c ok pi i t < FAR)
def goM (c : Cf) (ok : Int → Int → Bool) (pi : Int → Int) (i s t : Int) : Int := cW c (i - 1) * cPs c (cAf c (i - 1) s) t + LF c ok pi i t
def stepA (c : Cf) (ok : Int → Int → Bool) (pi F : Int → Int) (i : Int) : Prop := ∃ m, m < FAR ∧ isMin (okM c ok pi i) (goM c ok pi i (F (i - 1))) (nS (cR c)) m ∧ isArg (okM c ok pi i) (goM c ok pi i (F (i - 1))) (nS (cR c)) m (F i)
def sgm (c : Cf) (h i : Int) : Prop := h ≤ i ∧ ∀ j, h ≤ j → j < i → fal c j = true ∧ cTg c (j + 1) ≠ 1
theorem stepA_ok {F : Int → Int} {i : Int} (h : stepA c ok pi F i) : 0 ≤ F i ∧ F i < nS (cR c) ∧ ok i (F i) = true := by
  obtain ⟨m, h1, -, h2 | h2⟩ := h
  · omega
  · refine ⟨h2.2.1, h2.2.2.1, ?_⟩
    have := h2.2.2.2.1
    unfold okM at this
    rw [Bool.and_eq_true] at this
    exact this.1
theorem isArg_unique {ok : Int → Bool} {g : Int → Int} {N m a b : Int} (h : isArg ok g N m a) (h' : isArg ok g N m b) : a = b := by
  rcases h with h | h <;> rcases h' with h' | h'
  · omega
  · omega
  · omega
  · obtain ⟨-, a1, a2, a3, a4, a5⟩ := h
    obtain ⟨-, b1, b2, b3, b4, b5⟩ := h'
    by_cases z : a < b
    · have := b5 a a1 z a3; omega
    · by_cases z' : b < a
      · have := a5 b b1 z' b3; omega
      · omega
theorem stepA_unique {F F' : Int → Int} {i : Int} (h : stepA c ok pi F i) (h' : stepA c ok pi F' i) (e : F (i - 1) = F' (i - 1)) : F i = F' i := by
  obtain ⟨m, h1, h2, h3⟩ := h
  obtain ⟨m', g1, g2, g3⟩ := h'
  rw [← e] at g2 g3
  have := isMin_unique h2 g2
  subst this
  exact isArg_unique h3 g3
theorem stepA_congr {F F' : Int → Int} {i : Int} (h : stepA c ok pi F i) (e : F (i - 1) = F' (i - 1)) (e' : F i = F' i) : stepA c ok pi F' i := by
  obtain ⟨m, h1, h2, h3⟩ := h
  rw [e] at h2 h3
  rw [e'] at h3
  exact ⟨m, h1, h2, h3⟩
/-- along a segment -/
theorem s_follows28 {h s : Int} (hV : VP c) (hF : Fe c ok) (hp : Pin c pi) (hS : SB c ok pi M) (hL : ∀ i s, 0 ≤ i → i < cN c → 0 ≤ s → s < nS (cR c) → M 24 (16 * i + s) = LF c ok pi i s) (hh : 0 ≤ h)
    (hk : ∀ M', Off [21] [42] M M' → M' 21 h = s → (∀ i, h < i → sgm c h i → stepA c ok pi (M' 21) i) → (∀ i, ¬ sgm c h i → M' 21 i = M 21 i) → R 0 M') : ∀ (d : Nat) (x : Int) (M1 : Mem), Off [21] [42] M M1 → h ≤ x → x < cN c → (cN c - x).toNat = d → sgm c h x → M1 21 h = s → (∀ i, h < i → i ≤ x → stepA c ok pi (M1 21) i) → (∀ i, i < h ∨ x < i → M1 21 i = M 21 i) → (0 ≤ M1 21 x ∧ M1 21 x < nS (cR c) ∧ ok x (M1 21 x) = true) → cDep c x ≠ -4 → fMd_follows_28 R (d + 1) x (if fal c x then x + 1 else -4) M1 := by
  have h16 := nS_le (cR c)
  have hN := hV.2.2.2.2.1
  have hFAR : FAR = 1000000000 := rfl
  have hw := hV.2.2.2.2.2.2.1
  have hre := hV.2.2.2.2.2.2.2.2.2.2.1
  intro d
  induction d with
  | zero => intro x M1 _ a b e; omega
  | succ d ih =>
    intro x M1 ho a1 a2 hd hsg hs hA hU hx hr
    have hS1 : SB c ok pi M1 := by
      obtain ⟨q1, q2, q3, q4, q5⟩ := hS
      exact ⟨q1.off ho (by decide), by rw [ho.fld (by decide)]; exact q2, fun s t a b d e => by rw [ho.cell (by decide)]; exact q3 s t a b d e, fun i s a b d e => ⟨by rw [ho.cell (by decide)]; exact (q4 i s a b d e).1, fun z => by rw [ho.cell (by decide)]; exact (q4 i s a b d e).2 z⟩, fun t a b d => by rw [ho.cell (by decide)]; exact q5 t a b d⟩
    have fin : (fal c x = true → cTg c (x + 1) = 1) → R 0 M1 := by
      intro hend
      have out : ∀ i, x < i → ¬ sgm c h i := fun i q1 q2 => by
        have := q2.2 x a1 q1
        exact this.2 (hend this.1)
      refine hk M1 ho hs (fun i q1 q2 => ?_) (fun i q => ?_)
      · by_cases z : i ≤ x
        · exact hA i q1 z
        · exact absurd q2 (out i (by omega))
      · by_cases z : i < h ∨ x < i
        · exact hU i z
        · exact absurd ⟨by omega, fun j z1 z2 => hsg.2 j z1 (by omega)⟩ q
    unfold fMd_follows_28
    by_cases hf : fal c x = true
    · rw [if_pos hf]
      have hlt := fal_lt hf
      refine ⟨fun q => by omega, fun _ => ⟨⟨by omega, by omega⟩, ?_⟩⟩
      have e6 : M1 6 (x + 1) = cTg c (x + 1) := (hS1.1.2.2 (x + 1) (by omega) hlt).2.2.1
      have t01 := (hS1.1.2.2 (x + 1) (by omega) hlt).2.2.2.1
      rw [e6]
      refine ⟨fun q => fin (fun _ => by omega), fun q => ⟨⟨by omega, by omega⟩, ?_⟩⟩
      have hv := (hS1.2.2.2.1 x (M1 21 x) (by omega) a2 hx.1 hx.2.1).1
      rw [if_pos hx.2.2] at hv
      rw [wrapI (z := 16 * x) (by omega) (by omega), wrapI (z := 16 * x + M1 21 x) (by omega) (by omega), wrapI (z := 4 + x) (by omega) (by omega), hv, (hS1.1.2.2 x (by omega) a2).2.2.2.2.1]
      refine ⟨⟨by omega, by omega⟩, ⟨by omega, by omega⟩, ?_⟩
      have hr1 := hre x (by omega) a2 hr hf
      have eL : ∀ s, 0 ≤ s → s < nS (cR c) → M1 24 (16 * (x + 1) + s) = LF c ok pi (x + 1) s := fun s z1 z2 => by rw [ho.cell (by decide)]; exact hL (x + 1) s (by omega) hlt z1 z2
      refine s_onTo (ok := ok) hV hS1.2.1 hS1.2.2.1 ⟨by omega, hlt⟩ (afP hV ⟨by omega, a2⟩ ⟨hx.1, hx.2.1⟩) (hw x (by omega) a2) (fun s z1 z2 => hS1.2.2.2.1 (x + 1) s (by omega) hlt z1 z2) (fun s z1 z2 => by rw [eL s z1 z2]; have := LF_b hV hF.1 hp (i := x + 1) ⟨by omega, hlt⟩ ⟨z1, z2⟩; exact ⟨this.1, this.2.2⟩) (fun b a hmin harg => ⟨⟨by omega, by omega⟩, ?_⟩)
      -- the least is finite
      have ee : x + 1 - 1 = x := by omega
      have eok : ∀ t, 0 ≤ t → t < nS (cR c) → (ok (x + 1) t && decide (M1 24 (16 * (x + 1) + t) < FAR)) = okM c ok pi (x + 1) t := fun t z1 z2 => by rw [eL t z1 z2]; rfl
      have ego : ∀ t, 0 ≤ t → t < nS (cR c) → cW c x * cPs c (cAf c x (M1 21 x)) t + M1 24 (16 * (x + 1) + t) = goM c ok pi (x + 1) (M1 21 x) t := fun t z1 z2 => by rw [eL t z1 z2]; unfold goM; rw [ee]
      have hmin' : isMin (okM c ok pi (x + 1)) (goM c ok pi (x + 1) (M1 21 x)) (nS (cR c)) b := isMin_congr hmin eok (fun t z1 z2 _ => ego t z1 z2)
      have harg' : isArg (okM c ok pi (x + 1)) (goM c ok pi (x + 1) (M1 21 x)) (nS (cR c)) b a := by
        rcases harg with z | ⟨z0, z1, z2, z3, z4, z5⟩
        · exact Or.inl z
        · refine Or.inr ⟨z0, z1, z2, by rw [← eok a z1 z2]; exact z3, by rw [← ego a z1 z2]; exact z4, fun s y1 y2 y3 => ?_⟩
          rw [← ego s y1 (by omega)]
          exact z5 s y1 y2 (by rw [← eok s y1 (by omega)] at y3; exact y3)
      obtain ⟨s', y0, y1, y2⟩ := hF.2 (x + 1) (by omega) hlt hr1
      have hlf := LF_lt hV hF hp ⟨by omega, hlt⟩ ⟨y0, y1⟩ y2
      have hwp := wP_in hV (i := x) ⟨by omega, a2⟩ ⟨hx.1, hx.2.1⟩ (t := s') ⟨y0, y1⟩
      have hb : b ≤ goM c ok pi (x + 1) (M1 21 x) s' := hmin'.2.1 s' y0 y1 (by unfold okM; rw [y2]; simp only [Bool.true_and, decide_eq_true_eq]; omega)
      have hbF : b < FAR := by
        unfold goM at hb; rw [ee] at hb; omega
      have e42 : (mu M1 0 42 a) 0 42 = a := mu_same _ _ _ _
      rw [e42]
      have ho2 : Off [21] [42] M (mu (mu M1 0 42 a) 21 (x + 1) a) := ((ho.mu (Or.inr (by decide))).mu (Or.inl (by decide)))
      have e3 : (mu M1 0 42 a) 0 3 = cN c := by rw [show (mu M1 0 42 a) 0 3 = M1 0 3 from mu_place (by decide)]; exact hS1.1.2.1
      rw [e3]
      have v21 : ∀ i, i ≠ x + 1 → (mu (mu M1 0 42 a) 21 (x + 1) a) 21 i = M1 21 i := fun i z => by rw [mu_place z, mu_cell (by decide)]
      have v21' : (mu (mu M1 0 42 a) 21 (x + 1) a) 21 (x + 1) = a := mu_same _ _ _ _
      have hst : stepA c ok pi ((mu (mu M1 0 42 a) 21 (x + 1) a) 21) (x + 1) := by
        refine ⟨b, hbF, ?_, ?_⟩
        · rw [ee, v21 x (by omega)]; exact hmin'
        · rw [ee, v21 x (by omega), v21']; exact harg'
      have hok := stepA_ok hst
      refine s_goesOn0 hV (hS.1.off ho2 (by decide)) ⟨by omega, hlt⟩ (ih (x + 1) _ ho2 (by omega) hlt (by omega) ⟨by omega, fun j z1 z2 => ?_⟩ (by rw [v21 h (by omega)]; exact hs) (fun i z1 z2 => ?_) (fun i z => ?_) hok hr1)
      · by_cases z : j = x
        · rw [z]; exact ⟨hf, by omega⟩
        · exact hsg.2 j z1 (by omega)
      · by_cases z : i = x + 1
        · rw [z]; exact hst
        · exact stepA_congr (hA i z1 (by omega)) (v21 _ (by omega)).symm (v21 _ (by omega)).symm
      · rw [v21 i (by omega)]; exact hU i (by omega)
    · rw [if_neg hf]
      exact ⟨fun _ => fin (fun z => absurd z hf), fun q => absurd rfl q⟩
theorem s_follows {h s : Int} (hV : VP c) (hF : Fe c ok) (hp : Pin c pi) (hS : SB c ok pi M) (hL : ∀ i s, 0 ≤ i → i < cN c → 0 ≤ s → s < nS (cR c) → M 24 (16 * i + s) = LF c ok pi i s) (hh : 0 ≤ h ∧ h < cN c) (hs : 0 ≤ s ∧ s < nS (cR c) ∧ ok h s = true) (hr : cDep c h ≠ -4)
    (hk : ∀ M', Off [21] [42] M M' → M' 21 h = s → (∀ i, h < i → sgm c h i → stepA c ok pi (M' 21) i) → (∀ i, ¬ sgm c h i → M' 21 i = M 21 i) → R 0 M') : fMd_follows h s M R := by
  have h16 := nS_le (cR c)
  have hN := hV.2.2.2.2.1
  refine ⟨⟨by omega, by omega⟩, ?_⟩
  have ho : Off [21] [42] M (mu M 21 h s) := (Off.rf _ _ _).mu (Or.inl (by decide))
  rw [hS.1.2.1]
  refine s_goesOn0 hV (hS.1.off ho (by decide)) hh ⟨(cN c - h).toNat + 1, s_follows28 hV hF hp hS hL hh.1 hk _ h _ ho (by omega) hh.2 rfl ⟨by omega, fun j z1 z2 => by omega⟩ (mu_same _ _ _ _) (fun i z1 z2 => by omega) (fun i z => mu_place (by omega)) (by rw [mu_same]; exact hs) hr⟩
end B
