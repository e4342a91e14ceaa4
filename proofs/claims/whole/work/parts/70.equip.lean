/-! x: equip -/
/-- the machine of x is made for these settings -/
def MX (r mv ld st : Int) (M : Mem) : Prop := TX r M ∧ (M 8 1 = mv ∧ M 8 2 = ld ∧ M 8 3 = st) ∧ ∀ s t, 0 ≤ s → s < nS r → 0 ≤ t → t < nS r → M 12 (16 * s + t) = pP r mv ld st s t
theorem TX.off {r : Int} {S : List Nat} {T : List Int} {M M' : Mem} (h : TX r M) (ho : Off S T M M') (hS : 8 ∉ S ∧ 9 ∉ S ∧ 10 ∉ S ∧ 11 ∉ S) : TX r M' := by
  obtain ⟨s8, s9, s10, s11⟩ := hS
  unfold TX TabX at h ⊢
  rw [ho.fn ⟨s8, by decide⟩, ho.fn ⟨s9, by decide⟩, ho.fn ⟨s10, by decide⟩, ho.fn ⟨s11, by decide⟩]
  exact h
theorem MX.off {r mv ld st : Int} {S : List Nat} {T : List Int} {M M' : Mem} (h : MX r mv ld st M) (ho : Off S T M M') (hS : 8 ∉ S ∧ 9 ∉ S ∧ 10 ∉ S ∧ 11 ∉ S) (h12 : 12 ∉ S) : MX r mv ld st M' := by
  refine ⟨h.1.off ho hS, ?_, ?_⟩
  · rw [ho.fn ⟨hS.1, by decide⟩]; exact h.2.1
  · rw [ho.fn ⟨h12, by decide⟩]; exact h.2.2
abbrev eqS : List Nat := [8, 9, 10, 11, 12]
section X
variable {M : Mem} {R : Int → Mem → Prop} {r mv ld st : Int}
theorem s_equip105 (hr : 1 ≤ r ∧ r ≤ 3) (hmv : 0 ≤ mv ∧ mv ≤ 9) (hld : 0 ≤ ld ∧ ld ≤ 9) (hst : 0 ≤ st ∧ st ≤ 9) (hT : TX r M) (hc : M 8 1 = mv ∧ M 8 2 = ld ∧ M 8 3 = st) (h : ∀ M', Off [12] [] M M' → MX r mv ld st M' → R 0 M') : fMa_equip_105 R M := by
  have h16 := nS_le r
  have e84 : M 8 4 = nS r := hT.2.1
  have row : ∀ (k108 : Int → Mem → Prop) (x : Int), 0 ≤ x → x < nS r → ∀ (e : Nat) (y : Int) (Mi : Mem), 0 ≤ y → y + e = nS r → Off [12] [] M Mi → (∀ s t, 0 ≤ s → s < x → 0 ≤ t → t < nS r → Mi 12 (16 * s + t) = pP r mv ld st s t) → (∀ t, 0 ≤ t → t < y → Mi 12 (16 * x + t) = pP r mv ld st x t) → (∀ M', Off [12] [] M M' → (∀ s t, 0 ≤ s → s < x + 1 → 0 ≤ t → t < nS r → M' 12 (16 * s + t) = pP r mv ld st s t) → k108 (x + 1) M') → fMa_equip_120 k108 R (e + 1) x y Mi := by
    intro k108 x x0 x1 e
    induction e with
    | zero =>
      intro y Mi y0 ye ho h1 h2 hk
      have f84 : Mi 8 4 = nS r := by rw [ho.cell (by decide)]; exact e84
      refine ⟨fun _ => ?_, fun q => by omega⟩
      rw [wrapI (z := x + 1) (by omega) (by omega)]
      refine hk Mi ho (fun s t s0 s1 t0 t1 => ?_)
      by_cases z : s = x
      · rw [z]; exact h2 t t0 (by omega)
      · exact h1 s t s0 (by omega) t0 t1
    | succ e ih =>
      intro y Mi y0 ye ho h1 h2 hk
      have f84 : Mi 8 4 = nS r := by rw [ho.cell (by decide)]; exact e84
      have fc : Mi 8 1 = mv ∧ Mi 8 2 = ld ∧ Mi 8 3 = st := by rw [ho.fn (by decide)]; exact hc
      refine ⟨fun q => by omega, fun _ => s_cheapest hr (hT.off ho (by decide)) fc hmv hld hst ⟨x0, x1⟩ ⟨y0, by omega⟩ ?_⟩
      have wi : wrap (wrap (x * 16) + y) = 16 * x + y := by rw [wrapI (z := x * 16) (by omega) (by omega), wrapI (by omega) (by omega)]; omega
      rw [wi, wrapI (z := y + 1) (by omega) (by omega)]
      refine ⟨⟨by omega, by omega⟩, ih (y + 1) _ (by omega) (by omega) (ho.mu (Or.inl (by decide))) (fun s t s0 s1 t0 t1 => by rw [mu_place (by omega)]; exact h1 s t s0 s1 t0 t1) (fun t t0 t1 => ?_) hk⟩
      by_cases z : t = y
      · rw [z]; exact mu_same _ _ _ _
      · rw [mu_place (by omega)]; exact h2 t t0 (by omega)
  have key : ∀ (d : Nat) (x : Int) (Mi : Mem), 0 ≤ x → x + d = nS r → Off [12] [] M Mi → (∀ s t, 0 ≤ s → s < x → 0 ≤ t → t < nS r → Mi 12 (16 * s + t) = pP r mv ld st s t) → fMa_equip_108 R (d + 1) x Mi := by
    intro d
    induction d with
    | zero =>
      intro x Mi x0 xd ho h1
      have f84 : Mi 8 4 = nS r := by rw [ho.cell (by decide)]; exact e84
      have fc : Mi 8 1 = mv ∧ Mi 8 2 = ld ∧ Mi 8 3 = st := by rw [ho.fn (by decide)]; exact hc
      exact ⟨fun _ => h Mi ho ⟨hT.off ho (by decide), fc, fun s t s0 s1 t0 t1 => h1 s t s0 (by omega) t0 t1⟩, fun q => by omega⟩
    | succ d ih =>
      intro x Mi x0 xd ho h1
      have f84 : Mi 8 4 = nS r := by rw [ho.cell (by decide)]; exact e84
      exact ⟨fun q => by omega, fun _ => ⟨(nS r).toNat + 1, row _ x x0 (by omega) _ 0 Mi (by omega) (by omega) ho h1 (fun t t0 t1 => by omega) (fun M' ho' h' => ih (x + 1) M' (by omega) (by omega) ho' h')⟩⟩
  exact ⟨(nS r).toNat + 1, key _ 0 M (by omega) (by omega) (Off.rf _ _ _) (fun s t s0 s1 => by omega)⟩
theorem s_equip (hr : 1 ≤ r ∧ r ≤ 3) (hmv : 0 ≤ mv ∧ mv ≤ 9) (hld : 0 ≤ ld ∧ ld ≤ 9) (hst : 0 ≤ st ∧ st ≤ 9) (h5 : M 5 0 = r ∧ M 5 1 = mv ∧ M 5 2 = ld ∧ M 5 3 = st) (hT : M 8 0 = r → TX r M) (hP : M 8 0 = r → M 8 1 = mv → M 8 2 = ld → M 8 3 = st → MX r mv ld st M) (h : ∀ M', Off eqS [] M M' → MX r mv ld st M' → R 0 M') : fMa_equip M R := by
  obtain ⟨e0, e1, e2, e3⟩ := h5
  have oM : Off [8] [] M (mu (mu (mu (mu M 8 0 r) 8 1 mv) 8 2 ld) 8 3 st) := ((((Off.rf _ _ _).mu (Or.inl (by decide))).mu (Or.inl (by decide))).mu (Or.inl (by decide))).mu (Or.inl (by decide))
  have c8 : (mu (mu (mu (mu M 8 0 r) 8 1 mv) 8 2 ld) 8 3 st) 8 1 = mv ∧ (mu (mu (mu (mu M 8 0 r) 8 1 mv) 8 2 ld) 8 3 st) 8 2 = ld ∧ (mu (mu (mu (mu M 8 0 r) 8 1 mv) 8 2 ld) 8 3 st) 8 3 = st := by
    refine ⟨?_, ?_, mu_same _ _ _ _⟩
    · rw [mu_place (by decide), mu_place (by decide), mu_same]
    · rw [mu_place (by decide), mu_same]
  have c80 : (mu (mu (mu (mu M 8 0 r) 8 1 mv) 8 2 ld) 8 3 st) 8 0 = r := by rw [mu_place (by decide), mu_place (by decide), mu_place (by decide), mu_same]
  have c84 : (mu (mu (mu (mu M 8 0 r) 8 1 mv) 8 2 ld) 8 3 st) 8 4 = M 8 4 := by rw [mu_place (by decide), mu_place (by decide), mu_place (by decide), mu_place (by decide)]
  generalize hM1 : mu (mu (mu (mu M 8 0 r) 8 1 mv) 8 2 ld) 8 3 st = M1 at oM c8 c80 c84
  have fin : ∀ x2 : Int, (x2 ≠ 0 → M 8 0 = r) → fMa_equip_65 R x2 M := by
    intro x2 hx
    unfold fMa_equip_65
    rw [e0, e1, e2, e3, hM1]
    refine ⟨fun q => ?_, fun q => ?_⟩
    · have t0 := hT (hx q)
      have t1 : TX r M1 := by
        refine ⟨c80, ?_, fun s s0 s1 => ?_⟩
        · rw [c84]; exact t0.2.1
        · rw [oM.cell (by decide), oM.cell (by decide), oM.cell (by decide)]; exact t0.2.2 s s0 s1
      exact s_equip105 hr hmv hld hst t1 c8 (fun M' ho hm => h M' ((oM.mono (by decide) (by decide)).tr (ho.mono (by decide) (by decide))) hm)
    · refine s_listStates (by rw [c80]; exact hr) (fun M2 tab ho2 => ?_)
      rw [c80] at tab
      have o2 : Off [8, 9, 10, 11] [] M1 M2 := fun d i q1 q2 => ho2 d i (fun z => q1 (by rw [z]; decide)) (fun z => q1 (by rw [z]; decide)) (fun z => q1 (by rw [z]; decide)) (fun z => q1 (by rw [z.1]; decide))
      have k : ∀ i, i ≠ 4 → M2 8 i = M1 8 i := fun i z => ho2 8 i (by decide) (by decide) (by decide) (fun q => z q.2)
      refine s_equip105 hr hmv hld hst ⟨by rw [k 0 (by decide)]; exact c80, tab⟩ ⟨by rw [k 1 (by decide)]; exact c8.1, by rw [k 2 (by decide)]; exact c8.2.1, by rw [k 3 (by decide)]; exact c8.2.2⟩ (fun M' ho hm => h M' (((oM.mono (by decide) (by decide)).tr (o2.mono (by decide) (by decide))).tr (ho.mono (by decide) (by decide))) hm)
  have mid : ∀ x2 : Int, (x2 ≠ 0 → M 8 0 = r) → fMa_equip_16 R x2 M := by
    intro x2 hx
    unfold fMa_equip_16 fMa_equip_54 fMa_equip_55
    have f0 := fin x2 hx
    refine ⟨fun _ => ⟨fun _ => f0, fun _ => ⟨fun _ => f0, fun q => absurd rfl q⟩⟩, fun q1 => ⟨fun _ => ⟨fun _ => f0, fun _ => ⟨fun _ => f0, fun q => absurd rfl q⟩⟩, fun q2 => ⟨fun _ => ⟨fun _ => f0, fun _ => ⟨fun _ => f0, fun q => absurd rfl q⟩⟩, fun q3 => ⟨fun _ => f0, fun qx => ⟨fun _ => f0, fun _ => ?_⟩⟩⟩⟩⟩
    exact h M (Off.rf _ _ _) (hP (hx qx) (by omega) (by omega) (by omega))
  exact ⟨fun _ => mid 0 (fun q => absurd rfl q), fun q => mid 1 (fun _ => by omega)⟩
end X
