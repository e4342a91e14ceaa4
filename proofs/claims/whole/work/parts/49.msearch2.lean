/-! the reference: the search over all pins -/
section S
variable {c : Cf} {ok : Int → Int → Bool} {M : Mem} {R : Int → Mem → Prop} {nt t1 t2 : Int}
theorem afP {i s : Int} (hV : VP c) (hi : 0 ≤ i ∧ i < cN c) (hs : 0 ≤ s ∧ s < nS (cR c)) : 0 ≤ cAf c i s ∧ cAf c i s < nS (cR c) := aft_in hV.1 (let q := hV.2.2.2.2.2.1 i hi.1 hi.2; ⟨q.1, q.2⟩) hs
theorem ok1_okL {i0 s0 i s : Int} (h : ok1 c i0 s0 i s = true) : okL c i s = true := by
  unfold ok1 at h; rw [Bool.and_eq_true] at h; exact h.1
def lexB (a b : Int) : Int → Int → Prop := fun a' b' => a' < a ∨ (a' = a ∧ b' < b)
theorem isBP_step {v fa fb a b : Int} (h : isBP c ok nt t1 t2 (lexB a b) v fa fb) (hc : cnd c ok nt t1 t2 a b) :
    isBP c ok nt t1 t2 (lexB a (b + 1)) (if pval c ok nt t1 t2 a b < v then pval c ok nt t1 t2 a b else v) (if pval c ok nt t1 t2 a b < v then a else fa) (if pval c ok nt t1 t2 a b < v then b else fb) := by
  have cas : ∀ a' b', lexB a (b + 1) a' b' → lexB a b a' b' ∨ (a' = a ∧ b' = b) := fun a' b' z => by
    unfold lexB at z ⊢; omega
  have up : ∀ a' b', lexB a b a' b' → lexB a (b + 1) a' b' := fun a' b' z => by
    unfold lexB at z ⊢; omega
  have self : lexB a (b + 1) a b := by unfold lexB; omega
  by_cases hlt : pval c ok nt t1 t2 a b < v
  · rw [if_pos hlt, if_pos hlt, if_pos hlt]
    refine Or.inr ⟨?_, hc, self, rfl, fun a' b' q1 q2 => ?_⟩
    · rcases h with ⟨h1, -⟩ | ⟨h1, -⟩ <;> omega
    · rcases cas a' b' q2 with z | ⟨z, z'⟩
      · have : v ≤ pval c ok nt t1 t2 a' b' := by
          rcases h with ⟨h1, h2, h3, h4⟩ | ⟨h1, h2, h3, h4, h5⟩
          · have := h4 a' b' q1 z; omega
          · exact (h5 a' b' q1 z).1
        exact ⟨by omega, fun _ => by omega⟩
      · rw [z, z']; exact ⟨by omega, fun q => by omega⟩
  · rw [if_neg hlt, if_neg hlt, if_neg hlt]
    rcases h with ⟨h1, h2, h3, h4⟩ | ⟨h1, h2, h3, h4, h5⟩
    · refine Or.inl ⟨h1, h2, h3, fun a' b' q1 q2 => ?_⟩
      rcases cas a' b' q2 with z | ⟨z, z'⟩
      · exact h4 a' b' q1 z
      · rw [z, z']; omega
    · refine Or.inr ⟨h1, h2, up _ _ h3, h4, fun a' b' q1 q2 => ?_⟩
      rcases cas a' b' q2 with z | ⟨z, z'⟩
      · exact h5 a' b' q1 z
      · rw [z, z']; refine ⟨by omega, fun q => ?_⟩
        unfold lexB at h3; omega
theorem isBP_mono {Pr Pr' : Int → Int → Prop} {v fa fb : Int} (h : isBP c ok nt t1 t2 Pr v fa fb) (h1 : ∀ a b, cnd c ok nt t1 t2 a b → Pr' a b → Pr a b) (h2 : ∀ a b, cnd c ok nt t1 t2 a b → Pr a b → Pr' a b) : isBP c ok nt t1 t2 Pr' v fa fb := by
  rcases h with ⟨a1, a2, a3, a4⟩ | ⟨a1, a2, a3, a4, a5⟩
  · exact Or.inl ⟨a1, a2, a3, fun a' b' q1 q2 => a4 a' b' q1 (h1 _ _ q1 q2)⟩
  · exact Or.inr ⟨a1, a2, h2 _ _ a2 a3, a4, fun a' b' q1 q2 => a5 a' b' q1 (h1 _ _ q1 q2)⟩
def nB (c : Cf) (nt : Int) : Int := if nt ≤ 1 then 1 else nS (cR c)
def nA (c : Cf) (nt : Int) : Int := if nt ≤ 0 then 1 else nS (cR c)
/-- the inner loop -/
theorem s_search37 {k14 : Int → Int → Int → Int → Mem → Prop} {a : Int} (hV : VP c) (hok : ∀ i s, ok i s = true → okL c i s = true) (hG : TG c nt t1 t2) (ha : 0 ≤ a ∧ a < nA c nt) : ∀ (d : Nat) (v fa fb b : Int) (M : Mem), SE c ok nt t1 t2 M → 0 ≤ b → (nB c nt - b).toNat = d → b ≤ nB c nt → isBP c ok nt t1 t2 (lexB a b) v fa fb →
    (∀ M' v fa fb, Off seS seT M M' → isBP c ok nt t1 t2 (lexB (a + 1) 0) v fa fb → k14 v fa fb (a + 1) M') → fMd_search_37 k14 R (d + 1) v fa fb a b M := by
  have h16 := nS_le (cR c)
  have hnB : nB c nt ≤ 16 := by unfold nB; split <;> omega
  have hnA : nA c nt ≤ 16 := by unfold nA; split <;> omega
  have w1 : wrap (a + 1) = a + 1 := wrapI (by omega) (by omega)
  intro d
  induction d with
  | zero =>
    intro v fa fb b M hE hb hd hle hB h
    have e : b = nB c nt := by omega
    obtain ⟨hS, e37, -⟩ := id hE
    have fin : ∀ t0, t0 = nB c nt → fMd_search_55 k14 (fMd_search_37 k14 R 0) R v fa fb a b t0 b M := by
      intro t0 ht
      refine ⟨fun _ => ?_, fun q => absurd (by omega) q⟩
      rw [w1]
      refine h M v fa fb (Off.rf _ _ _) (isBP_mono hB (fun a' b' q1 q2 => ?_) (fun a' b' q1 q2 => ?_))
      · unfold lexB at q2 ⊢
        unfold cnd at q1
        rw [e]; unfold nB
        by_cases z : nt = 2
        · rw [if_neg (by omega)]; rw [if_pos z] at q1; have := q1.2
          rcases q2 with q2 | q2
          · omega
          · omega
        · have hn := hG.1
          rw [if_pos (by omega)]; rw [if_neg z] at q1; have := q1.2
          omega
      · unfold lexB at q2 ⊢; omega
    unfold fMd_search_37
    rw [e37]
    refine ⟨fun q => fin 1 (by unfold nB; rw [if_pos q]), fun q => fin _ (by unfold nB; rw [if_neg q]; exact hS.2.1)⟩
  | succ d ih =>
    intro v fa fb b M hE hb hd hle hB h
    obtain ⟨hS, e37, e1, e2, e25, -⟩ := id hE
    have hVT := hS.2.2.2.1
    obtain ⟨n0, n1, n2, n3⟩ := id hG
    have wb : wrap (b + 1) = b + 1 := wrapI (by omega) (by omega)
    have hN := hV.2.2.2.2.1
    by_cases hc : cnd c ok nt t1 t2 a b
    · -- a pair that counts
      have hstep := isBP_step hB hc
      have go : fMd_search_118 (fMd_search_37 k14 R (d + 1)) R v fa fb a b M :=
        s_pair hV hok hG hE hc ⟨hb, by omega⟩ (fun M' ho => ih _ _ _ _ M' (hE.off ho) (by omega) (by omega) (by omega) hstep (fun M'' v' fa' fb' ho' hb' => h M'' v' fa' fb' (ho.tr ho') hb'))
      have mid : fMd_search_88 (fMd_search_37 k14 R (d + 1)) R v fa fb a b M := by
        unfold fMd_search_88
        rw [e37]
        refine ⟨fun _ => go, fun q => ?_⟩
        have z : nt = 2 := by omega
        obtain ⟨b1, b2, b3⟩ := n2 z
        have a0 := n1 (by omega)
        unfold cnd at hc
        have hc2 := hc.2
        rw [if_pos z] at hc2
        rw [e2 z, wrapI (z := 16 * t2) (by omega) (by omega), wrapI (by omega) (by omega)]
        have hv := (hVT t2 b (by omega) (by omega) hc2.1 hc2.2.1).1
        rw [if_pos hc2.2.2] at hv
        have haf := (afP (i := t2) hV ⟨by omega, by omega⟩ ⟨hc2.1, hc2.2.1⟩).1
        exact ⟨⟨by omega, by omega⟩, fun q => by omega, fun _ => go⟩
      have fin : ∀ t0, b < t0 → fMd_search_55 k14 (fMd_search_37 k14 R (d + 1)) R v fa fb a b t0 b M := by
        intro t0 ht
        refine ⟨fun q => by omega, fun _ => ?_⟩
        rw [e37]
        refine ⟨fun _ => mid, fun q => ?_⟩
        have a0 := n1 (by omega)
        unfold cnd at hc
        have hc2 := hc.1
        rw [if_pos (by omega)] at hc2
        rw [e1 (by omega), wrapI (z := 16 * t1) (by omega) (by omega), wrapI (by omega) (by omega)]
        have hv := (hVT t1 a (by omega) (by omega) hc2.1 hc2.2.1).1
        rw [if_pos hc2.2.2] at hv
        have haf := (afP (i := t1) hV ⟨by omega, by omega⟩ ⟨hc2.1, hc2.2.1⟩).1
        exact ⟨⟨by omega, by omega⟩, fun q => by omega, fun _ => mid⟩
      unfold fMd_search_37
      rw [e37]
      refine ⟨fun q => fin 1 (by unfold nB at hd; rw [if_pos q] at hd; omega), fun q => fin _ (by unfold nB at hd; rw [if_neg q] at hd; rw [hS.2.1]; omega)⟩
    · -- a pair that does not
      have go : fMd_search_122 (fMd_search_37 k14 R (d + 1)) R v fa fb a b M := by
        unfold fMd_search_122 fMd_search_123
        refine ⟨fun _ => ?_, fun q => absurd rfl q⟩
        unfold fMd_search_220
        rw [wb]
        refine ih _ _ _ _ M hE (by omega) (by omega) (by omega) (isBP_mono hB (fun a' b' q1 q2 => ?_) (fun a' b' q1 q2 => by unfold lexB at q2 ⊢; omega)) h
        unfold lexB at q2 ⊢
        rcases q2 with q2 | q2
        · exact Or.inl q2
        · by_cases z : b' = b
          · rw [z, q2.1] at q1; exact absurd q1 hc
          · exact Or.inr ⟨q2.1, by omega⟩
      -- what fails
      by_cases f1 : 1 ≤ nt ∧ ok t1 a = false
      · have a0 := n1 f1.1
        have fin : ∀ t0, b < t0 → fMd_search_55 k14 (fMd_search_37 k14 R (d + 1)) R v fa fb a b t0 b M := by
          intro t0 ht
          refine ⟨fun q => by omega, fun _ => ?_⟩
          rw [e37]
          refine ⟨fun q => by omega, fun q => ?_⟩
          have ha2 : a < nS (cR c) := by have := ha.2; unfold nA at this; rw [if_neg (by omega)] at this; exact this
          rw [e1 (by omega), wrapI (z := 16 * t1) (by omega) (by omega), wrapI (by omega) (by omega)]
          have hv := (hVT t1 a (by omega) (by omega) ha.1 ha2).1
          rw [f1.2, if_neg (by decide)] at hv
          exact ⟨⟨by omega, by omega⟩, fun _ => go, fun q => absurd hv q⟩
        unfold fMd_search_37
        rw [e37]
        refine ⟨fun q => fin 1 (by unfold nB at hd; rw [if_pos q] at hd; omega), fun q => fin _ (by unfold nB at hd; rw [if_neg q] at hd; rw [hS.2.1]; omega)⟩
      · -- the second one fails
        have f2 : nt = 2 ∧ ok t2 b = false := by
          apply Classical.byContradiction
          intro hf
          apply hc
          unfold cnd
          have ha1 := ha.2
          unfold nA at ha1
          have hb1 : b < nB c nt := by omega
          unfold nB at hb1
          constructor
          · by_cases z : 1 ≤ nt
            · rw [if_pos z]
              rw [if_neg (by omega)] at ha1
              refine ⟨ha.1, ha1, ?_⟩
              cases hk : ok t1 a with
              | true => rfl
              | false => exact absurd ⟨z, hk⟩ f1
            · rw [if_neg z]; rw [if_pos (by omega)] at ha1; omega
          · by_cases z : nt = 2
            · rw [if_pos z]
              rw [if_neg (by omega)] at hb1
              refine ⟨hb, hb1, ?_⟩
              cases hk : ok t2 b with
              | true => rfl
              | false => exact absurd ⟨z, hk⟩ hf
            · rw [if_neg z]; rw [if_pos (by omega)] at hb1; omega
        have a0 := n1 (by omega)
        have b0 := n2 f2.1
        have hb2 : b < nS (cR c) := by unfold nB at hd; rw [if_neg (by omega)] at hd; omega
        have ha2 : a < nS (cR c) := by have := ha.2; unfold nA at this; rw [if_neg (by omega)] at this; exact this
        have hk1 : ok t1 a = true := by
          cases hk : ok t1 a with
          | true => rfl
          | false => exact absurd ⟨by omega, hk⟩ f1
        have mid : fMd_search_88 (fMd_search_37 k14 R (d + 1)) R v fa fb a b M := by
          unfold fMd_search_88
          rw [e37]
          refine ⟨fun q => by omega, fun q => ?_⟩
          rw [e2 f2.1, wrapI (z := 16 * t2) (by omega) (by omega), wrapI (by omega) (by omega)]
          have hv := (hVT t2 b (by omega) (by omega) hb hb2).1
          rw [f2.2, if_neg (by decide)] at hv
          exact ⟨⟨by omega, by omega⟩, fun _ => go, fun q => absurd hv q⟩
        have fin : ∀ t0, b < t0 → fMd_search_55 k14 (fMd_search_37 k14 R (d + 1)) R v fa fb a b t0 b M := by
          intro t0 ht
          refine ⟨fun q => by omega, fun _ => ?_⟩
          rw [e37]
          refine ⟨fun q => by omega, fun q => ?_⟩
          rw [e1 (by omega), wrapI (z := 16 * t1) (by omega) (by omega), wrapI (by omega) (by omega)]
          have hv := (hVT t1 a (by omega) (by omega) ha.1 ha2).1
          rw [if_pos hk1] at hv
          have haf := (afP (i := t1) hV ⟨by omega, by omega⟩ ⟨ha.1, ha2⟩).1
          exact ⟨⟨by omega, by omega⟩, fun q => by omega, fun _ => mid⟩
        unfold fMd_search_37
        rw [e37]
        refine ⟨fun q => by omega, fun q => fin _ (by rw [hS.2.1]; omega)⟩
/-- the outer loop -/
theorem s_search14 (hV : VP c) (hok : ∀ i s, ok i s = true → okL c i s = true) (hG : TG c nt t1 t2) : ∀ (d : Nat) (v fa fb a : Int) (M : Mem), SE c ok nt t1 t2 M → 0 ≤ a → (nA c nt - a).toNat = d → a ≤ nA c nt → isBP c ok nt t1 t2 (lexB a 0) v fa fb →
    (∀ M' v fa fb, Off seS seT M M' → isBest c ok nt t1 t2 v fa fb → (∀ t, 0 ≤ t → t < cN c → cTg c t = 1 → M' 26 t = pinF nt t1 t2 fa fb t) → R v M') → fMd_search_14 R (d + 1) v fa fb a M := by
  have h16 := nS_le (cR c)
  have hnA : nA c nt ≤ 16 := by unfold nA; split <;> omega
  have hN := hV.2.2.2.2.1
  intro d
  induction d with
  | zero =>
    intro v fa fb a M hE ha hd hle hB h
    have e : a = nA c nt := by omega
    obtain ⟨hS, e37, e1, e2, e25, -⟩ := id hE
    obtain ⟨n0, n1, n2, n3⟩ := id hG
    have best : isBest c ok nt t1 t2 v fa fb := by
      refine isBP_mono hB (fun a' b' q1 _ => ?_) (fun _ _ _ _ => trivial)
      unfold lexB
      unfold cnd at q1
      have q2 := q1.1
      unfold nA at e
      by_cases z : 1 ≤ nt
      · rw [if_pos z] at q2; rw [if_neg (by omega)] at e; omega
      · rw [if_neg z] at q2; rw [if_pos (by omega)] at e; omega
    have fin : ∀ t0, t0 = nA c nt → fMd_search_31 (fMd_search_14 R 0) R v fa fb a t0 a M := by
      intro t0 ht
      refine ⟨fun _ => ?_, fun q => absurd (by omega) q⟩
      rw [e37]
      refine ⟨fun q => ?_, fun q => ⟨e25, ?_⟩⟩
      · unfold fMd_search_251
        rw [e37]
        refine ⟨fun _ => h M v fa fb (Off.rf _ _ _) best (fun t q0 q1 q2 => ?_), fun q => by omega⟩
        have := n3 t q0 q1 q2
        omega
      · unfold fMd_search_251
        have a0 := n1 (by omega)
        rw [e1 (by omega)]
        have hc37 : (mu M 26 t1 fa) 0 37 = nt := by rw [mu_cell (by decide)]; exact e37
        have hc25 : nt = 2 → (mu M 26 t1 fa) 25 1 = t2 := by rw [mu_cell (by decide)]; exact e2
        rw [hc37]
        refine ⟨fun q' => ?_, fun q' => ?_⟩
        · refine h _ v fa fb ((Off.rf _ _ _).mu (Or.inl (by decide))) best (fun t q0 q1 q2 => ?_)
          unfold pinF
          rcases n3 t q0 q1 q2 with ⟨z1, z2⟩ | ⟨z1, z2⟩
          · rw [if_pos ⟨z1, z2⟩, z2, mu_same]
          · omega
        · have z : nt = 2 := by omega
          obtain ⟨b1, b2, b3⟩ := n2 z
          rw [hc25 z]
          refine ⟨⟨by omega, by omega⟩, h _ v fa fb (((Off.rf _ _ _).mu (Or.inl (by decide))).mu (Or.inl (by decide))) best (fun t q0 q1 q2 => ?_)⟩
          unfold pinF
          rcases n3 t q0 q1 q2 with ⟨z1, z2⟩ | ⟨z1, z2⟩
          · rw [if_pos ⟨z1, z2⟩, z2, mu_place (by omega), mu_same]
          · rw [if_neg (by omega), if_pos ⟨z1, z2⟩, z2, mu_same]
    unfold fMd_search_14
    rw [e37]
    refine ⟨fun q => fin 1 (by unfold nA; rw [if_pos q]), fun q => fin _ (by unfold nA; rw [if_neg q]; exact hS.2.1)⟩
  | succ d ih =>
    intro v fa fb a M hE ha hd hle hB h
    obtain ⟨hS, e37, -⟩ := id hE
    have hnB : 0 ≤ nB c nt := by unfold nB; split <;> omega
    have fin : ∀ t0, a < t0 → fMd_search_31 (fMd_search_14 R (d + 1)) R v fa fb a t0 a M := by
      intro t0 ht
      refine ⟨fun q => by omega, fun _ => ⟨_, s_search37 hV hok hG ⟨ha, by omega⟩ _ v fa fb 0 M hE (by omega) rfl hnB hB (fun M' v' fa' fb' ho hB' => ?_)⟩⟩
      exact ih v' fa' fb' (a + 1) M' (hE.off ho) (by omega) (by omega) (by omega) hB' (fun M'' v'' fa'' fb'' ho' => h M'' v'' fa'' fb'' (ho.tr ho'))
    unfold fMd_search_14
    rw [e37]
    refine ⟨fun q => fin 1 (by unfold nA at hd; rw [if_pos q] at hd; omega), fun q => fin _ (by unfold nA at hd; rw [if_neg q] at hd; rw [hS.2.1]; omega)⟩
abbrev srS : List Nat := [15, 16, 17, 18, 19, 20, 22, 23, 24, 25, 26]
abbrev srT : List Int := [20, 23, 24, 25, 27, 37, 42]
/-- the search -/
theorem s_search {i0 s0 : Int} (hV : VP c) (hC : MC c M) (hG : TG c nt t1 t2) (h27 : M 0 27 = 0 ∨ (M 0 27 = 1 ∧ PassOK (cR c) c.1.2.1 c.1.2.2.1 c.1.2.2.2 M)) (h40 : M 0 40 = i0 ∧ M 0 41 = s0) (h25 : 0 ≤ M 25 0 ∧ M 25 0 < 24)
    (h : ∀ M' v a b, Off srS srT M M' → SE c (ok1 c i0 s0) nt t1 t2 M' → TM (cR c) M' → M' 0 27 = 1 → isBest c (ok1 c i0 s0) nt t1 t2 v a b → (∀ t, 0 ≤ t → t < cN c → cTg c t = 1 → M' 26 t = pinF nt t1 t2 a b t) → R v M') : fMd_search M R := by
  have h16 := nS_le (cR c)
  have hN := hV.2.2.2.2.1
  have hok : ∀ i s, ok1 c i0 s0 i s = true → okL c i s = true := fun i s z => ok1_okL z
  unfold fMd_search
  refine s_laysVersions hV hC hG h27 h40 (fun N hoN hTN h20 h27' hPN h37 hA hB hZ hVT => ⟨(nA c nt - 0).toNat + 1, ?_⟩)
  have hE : SE c (ok1 c i0 s0) nt t1 t2 N := by
    refine ⟨⟨hC.off hoN (by decide), h20, hPN, hVT, fun _ _ _ _ => rfl⟩, h37, hA, hB, ?_, rfl⟩
    by_cases z : nt = 0
    · rw [hZ z]; exact h25
    · have := hG.1
      have a0 := hG.2.1 (by omega)
      rw [hA (by omega)]; omega
  refine s_search14 hV hok hG _ FAR 0 0 0 N hE (by omega) rfl (by unfold nA; split <;> omega) (Or.inl ⟨rfl, rfl, rfl, fun a' b' q1 q2 => ?_⟩) (fun M' v a b ho hb hp => ?_)
  · unfold lexB at q2; unfold cnd at q1
    have := q1.1; have := q1.2
    split at this <;> split at * <;> omega
  · exact h M' v a b ((hoN.mono (by decide) (by decide)).tr (ho.mono (by decide) (by decide))) (hE.off ho) (hTN.off ho (by decide)) (by rw [ho.fld (by decide)]; exact h27') hb hp
end S
