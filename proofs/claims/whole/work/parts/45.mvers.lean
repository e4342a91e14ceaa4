/-! what is changed, by cells and fields of cell 0 -/
def Off (S : List Nat) (T : List Int) (M M' : Mem) : Prop := ∀ c i, c ∉ S → (c = 0 → i ∉ T) → M' c i = M c i
theorem Off.rf (S : List Nat) (T : List Int) (M : Mem) : Off S T M M := fun _ _ _ _ => rfl
theorem Off.tr {S : List Nat} {T : List Int} {M M' M'' : Mem} (h : Off S T M M') (h' : Off S T M' M'') : Off S T M M'' := fun c i a b => (h' c i a b).trans (h c i a b)
theorem Off.mono {S S' : List Nat} {T T' : List Int} {M M' : Mem} (h : Off S T M M') (hs : ∀ x ∈ S, x ∈ S') (ht : ∀ x ∈ T, x ∈ T') : Off S' T' M M' := fun c i a b => h c i (fun q => a (hs c q)) (fun q z => b q (ht i z))
theorem Off.mu {S : List Nat} {T : List Int} {M M' : Mem} {c : Nat} {i v : Int} (h : Off S T M M') (hc : c ∈ S ∨ (c = 0 ∧ i ∈ T)) : Off S T M (mu M' c i v) := by
  intro d j a b
  rw [show CStackStatesLaw_law_r5958_b2a606.mu M' c i v d j = M' d j from ?_]
  · exact h d j a b
  · unfold CStackStatesLaw_law_r5958_b2a606.mu
    rw [if_neg]
    rintro ⟨rfl, rfl⟩
    rcases hc with q | ⟨q, q2⟩
    · exact a q
    · exact b q q2
theorem Off.cell {S : List Nat} {T : List Int} {M M' : Mem} (h : Off S T M M') {c : Nat} (hc : c ∉ S ∧ c ≠ 0) (i : Int) : M' c i = M c i := h c i hc.1 (fun q => absurd q hc.2)
theorem Off.fn {S : List Nat} {T : List Int} {M M' : Mem} (h : Off S T M M') {c : Nat} (hc : c ∉ S ∧ c ≠ 0) : M' c = M c := funext (h.cell hc)
theorem Off.fld {S : List Nat} {T : List Int} {M M' : Mem} (h : Off S T M M') {i : Int} (hc : 0 ∉ S ∧ i ∉ T) : M' 0 i = M 0 i := h 0 i hc.1 (fun _ => hc.2)
theorem offV.to {M M' : Mem} (h : offV M M') : Off [17] [23, 24, 25] M M' := fun c i a b => h c i (by simpa using a) (fun q => by have := b q.1; simp at this; omega)
theorem offQ.to {M M' : Mem} (h : offQ M M') : Off [15, 16, 18, 19, 20] [20, 27] M M' := fun c i a b => by
  simp at a
  exact h c i a.1 a.2.1 a.2.2.1 a.2.2.2.1 a.2.2.2.2 (fun q => by have := b q.1; simp at this; omega)
/-- the program and the settings as the reference holds them -/
def MC (c : Cf) (M : Mem) : Prop := (M 1 0 = cR c ∧ M 1 1 = c.1.2.1 ∧ M 1 2 = c.1.2.2.1 ∧ M 1 3 = c.1.2.2.2) ∧ M 0 3 = cN c ∧ ∀ i, 0 ≤ i → i < cN c → M 3 i = sg (cK c i) ∧ M 5 i = cDep c i ∧ M 6 i = cTg c i ∧ (cTg c i = 0 ∨ cTg c i = 1) ∧ M 1 (4 + i) = cW c i ∧ (lea c i = true → M 4 i = cNu c i)
theorem MC.off {c : Cf} {S : List Nat} {T : List Int} {M M' : Mem} (h : MC c M) (ho : Off S T M M') (hS : 0 ∉ S ∧ 1 ∉ S ∧ 3 ∉ S ∧ 4 ∉ S ∧ 5 ∉ S ∧ 6 ∉ S ∧ (3 : Int) ∉ T) : MC c M' := by
  obtain ⟨s0, s1, s3, s4, s5, s6, t3⟩ := hS
  have e1 : ∀ i, M' 1 i = M 1 i := ho.cell ⟨s1, by decide⟩
  obtain ⟨⟨a1, a2, a3, a4⟩, a5, a6⟩ := h
  refine ⟨⟨by rw [e1]; exact a1, by rw [e1]; exact a2, by rw [e1]; exact a3, by rw [e1]; exact a4⟩, by rw [ho.fld ⟨s0, t3⟩]; exact a5, fun i i0 i1 => ?_⟩
  obtain ⟨b1, b2, b3, b4, b5, b6⟩ := a6 i i0 i1
  exact ⟨by rw [ho.cell ⟨s3, by decide⟩]; exact b1, by rw [ho.cell ⟨s5, by decide⟩]; exact b2, by rw [ho.cell ⟨s6, by decide⟩]; exact b3, b4, by rw [e1]; exact b5, fun z => by rw [ho.cell ⟨s4, by decide⟩]; exact b6 z⟩
theorem TM.off {r : Int} {S : List Nat} {T : List Int} {M M' : Mem} (h : TM r M) (ho : Off S T M M') (hS : 1 ∉ S ∧ 15 ∉ S ∧ 16 ∉ S) : TM r M' :=
  ⟨by rw [ho.cell ⟨hS.1, by decide⟩]; exact h.1, fun s a b => by rw [ho.cell ⟨hS.2.1, by decide⟩]; exact h.2.1 s a b, fun s i a b c d => by rw [ho.cell ⟨hS.2.2, by decide⟩]; exact h.2.2 s i a b c d⟩
/-- the targets: nt of them, the first t1, the second t2 -/
def TG (c : Cf) (nt t1 t2 : Int) : Prop := (nt = 0 ∨ nt = 1 ∨ nt = 2) ∧ (1 ≤ nt → 0 ≤ t1 ∧ t1 < cN c ∧ cTg c t1 = 1) ∧ (nt = 2 → t1 < t2 ∧ t2 < cN c ∧ cTg c t2 = 1) ∧ ∀ i, 0 ≤ i → i < cN c → cTg c i = 1 → (1 ≤ nt ∧ i = t1) ∨ (nt = 2 ∧ i = t2)
/-- the table of versions -/
def VT (c : Cf) (ok : Int → Int → Bool) (M : Mem) (i s : Int) : Prop := M 22 (16 * i + s) = (if ok i s then cAf c i s else -4) ∧ (ok i s = true → M 23 (16 * i + s) = cVc c i s)
abbrev lvS : List Nat := [17, 22, 23, 25]
abbrev lvT : List Int := [23, 24, 25, 37]
section V
variable {c : Cf} {M : Mem} {R : Int → Mem → Prop}
theorem ok1_false {i0 s0 i s : Int} (h : okL c i s = false) : ok1 c i0 s0 i s = false := by unfold ok1; rw [h]; rfl
/-- one instruction's row -/
theorem s_lv51 {i i0 s0 : Int} {k11 : Int → Mem → Prop} (hV : VP c) (hC : MC c M) (hT : TM (cR c) M) (h20 : M 0 20 = nS (cR c)) (hi : 0 ≤ i ∧ i < cN c) (h40 : M 0 40 = i0 ∧ M 0 41 = s0)
    (kk : ∀ M', Off lvS lvT M M' → M' 0 37 = M 0 37 → (∀ j, M' 25 j = M 25 j) → (∀ j, ¬ (16 * i ≤ j ∧ j < 16 * i + nS (cR c)) → M' 22 j = M 22 j ∧ M' 23 j = M 23 j) → (∀ s, 0 ≤ s → s < nS (cR c) → VT c (ok1 c i0 s0) M' i s) → k11 (i + 1) M') : fMd_laysVersions_49 k11 R i M := by
  have h16 := nS_le (cR c)
  obtain ⟨v1, v2, v3, v4, v5, v6, v7, v8, v9, -⟩ := hV
  have hk := v6 i hi.1 hi.2
  have hi24 : inb i 24 := ⟨by omega, by omega⟩
  have key : ∀ (m : Nat) (s : Int) (Mk : Mem), 0 ≤ s → s + m = nS (cR c) → Off lvS lvT M Mk → Mk 0 37 = M 0 37 → (∀ j, Mk 25 j = M 25 j) → (∀ j, ¬ (16 * i ≤ j ∧ j < 16 * i + nS (cR c)) → Mk 22 j = M 22 j ∧ Mk 23 j = M 23 j) → (∀ s', 0 ≤ s' → s' < s → VT c (ok1 c i0 s0) Mk i s') → fMd_laysVersions_51 k11 R (m + 1) i s Mk := by
    intro m
    induction m with
    | zero =>
      intro s Mk hs0 hm ho h37 h25 hout hd
      refine And.intro (fun _ => ?_) (fun q => absurd (by rw [ho.fld (by decide), h20]; omega) q)
      rw [wrapI (by omega) (by omega)]
      exact kk Mk ho h37 h25 hout (fun s' z0 z1 => hd s' z0 (by omega))
    | succ m ih =>
      intro s Mk hs0 hm ho h37 h25 hout hd
      have hs : 0 ≤ s ∧ s < nS (cR c) := ⟨hs0, by omega⟩
      have hCk := hC.off ho (by decide)
      have hTk := hT.off ho (by decide)
      obtain ⟨c1, c2, c3, c4, c5, c6⟩ := hCk.2.2 i hi.1 hi.2
      have e40 : Mk 0 40 = i0 := by rw [ho.fld (by decide)]; exact h40.1
      have e41 : Mk 0 41 = s0 := by rw [ho.fld (by decide)]; exact h40.2
      have e15 := hTk.2.1 s hs.1 hs.2
      have wI : wrap (wrap (16 * i) + s) = 16 * i + s := by rw [wrapI (z := 16 * i) (by omega) (by omega), wrapI (by omega) (by omega)]
      -- behind hasVersion
      have end1 : ∀ (t0 : Int), (t0 = 0 → ok1 c i0 s0 i s = false) → (t0 ≠ 0 → ok1 c i0 s0 i s = hasV (cR c) (cK c i) s) → fMd_laysVersions_114 (fMd_laysVersions_51 k11 R (m + 1)) R i s t0 Mk := by
        intro t0 q0 q1
        refine ⟨hi24, ?_⟩
        rw [c1]
        refine s_mhas v1 hTk ⟨hCk.1.2.1, hCk.1.2.2.1, hCk.1.2.2.2⟩ v3 v4 hk hs (fun M1 ho1 a1 a2 a3 => ?_)
        have ho1' := ho1.to
        rw [wI]
        have fin : ∀ v, v = (if ok1 c i0 s0 i s then cAf c i s else -4) → (ok1 c i0 s0 i s = true → hasV (cR c) (cK c i) s = true) → fMd_laysVersions_156 (fMd_laysVersions_51 k11 R (m + 1)) R i s v (16 * i + s) M1 := by
          intro v hv hh
          refine ⟨⟨by omega, by omega⟩, ⟨by rw [wI]; omega, by rw [wI]; omega⟩, ?_⟩
          rw [wI, wrapI (by omega) (by omega)]
          have hoN : Off lvS lvT M (mu (mu M1 22 (16 * i + s) v) 23 (16 * i + s) (M1 0 24)) := ((ho.tr (ho1'.mono (by decide) (by decide))).mu (Or.inl (by decide))).mu (Or.inl (by decide))
          refine ih (s + 1) _ (by omega) (by omega) hoN ?_ (fun j => ?_) (fun j hj => ?_) (fun s' z0 z1 => ?_)
          · rw [mu_cell (by decide), mu_cell (by decide), ho1'.fld (by decide)]; exact h37
          · rw [mu_cell (by decide), mu_cell (by decide), ho1'.cell (by decide)]; exact h25 j
          · rw [mu_cell (by decide), mu_place (by omega), mu_place (by omega), mu_cell (by decide), ho1'.cell (by decide), ho1'.cell (by decide)]
            exact hout j hj
          · by_cases e : s' = s
            · subst e
              refine ⟨?_, fun hok => ?_⟩
              · rw [mu_cell (by decide), mu_same]; exact hv
              · rw [mu_same]; exact a2 (hh hok)
            · obtain ⟨d1, d2⟩ := hd s' z0 (by omega)
              refine ⟨?_, fun hok => ?_⟩
              · rw [mu_cell (by decide), mu_place (by omega), ho1'.cell (by decide)]; exact d1
              · rw [mu_place (by omega), mu_cell (by decide), ho1'.cell (by decide)]; exact d2 hok
        refine ⟨fun z => fin (-4) (by rw [q0 z]; rfl) (fun y => by rw [q0 z] at y; cases y), fun z => ⟨fun y => ?_, fun y => ?_⟩⟩
        · have hno : hasV (cR c) (cK c i) s = false := by
            cases h : hasV (cR c) (cK c i) s with
            | false => rfl
            | true => rw [h] at y; exact absurd y (by decide)
          exact fin (-4) (by rw [q1 z, hno]; rfl) (fun x => by rw [q1 z] at x; exact x)
        · have hyes : hasV (cR c) (cK c i) s = true := by
            cases h : hasV (cR c) (cK c i) s with
            | false => rw [h] at y; exact absurd rfl y
            | true => rfl
          refine fin _ ?_ (fun _ => hyes)
          rw [q1 z, hyes, if_pos rfl]; exact a1
      have no : ok1 c i0 s0 i s = false → fMd_laysVersions_113 (fMd_laysVersions_51 k11 R (m + 1)) R i s Mk := fun h => end1 0 (fun _ => h) (fun z => absurd rfl z)
      have yes : cDep c i ≠ -4 → stL (cR c) s ≤ cDep c i → (i ≠ 0 ∨ s = 0) → fMd_laysVersions_93 (fMd_laysVersions_51 k11 R (m + 1)) R i s Mk := by
        intro y1 y2 y3
        have e : okL c i s = hasV (cR c) (cK c i) s := by
          unfold okL
          rw [show decide (cDep c i ≠ -4) = true by simpa using y1, show decide (stL (cR c) s ≤ cDep c i) = true by simpa using y2, show (decide (i ≠ 0) || decide (s = 0)) = true by simpa using y3]
          simp
        refine ⟨fun q => end1 1 (fun z => absurd z (by decide)) (fun _ => ?_), fun q => ⟨fun q2 => no ?_, fun q2 => end1 1 (fun z => absurd z (by decide)) (fun _ => ?_)⟩⟩
        · unfold ok1; rw [e40] at q; rw [e]; simp [Ne.symm q]
        · unfold ok1; rw [e40] at q; rw [e41] at q2; simp [q.symm, q2]
        · unfold ok1; rw [e41] at q2; rw [e]; simp [q2]
      refine And.intro (fun q => absurd q (by rw [ho.fld (by decide), h20]; omega)) (fun _ => ⟨hi24, ?_⟩)
      rw [c2, e15]
      refine ⟨fun q => no (ok1_false (by unfold okL; simp [q])), fun q => ⟨⟨by omega, by omega⟩, hi24, fun q2 => no (ok1_false ?_), fun q2 => ⟨fun q3 => yes q (by omega) (Or.inl (by omega)), fun q3 => ⟨fun q4 => no (ok1_false ?_), fun q4 => yes q (by omega) (Or.inr q4)⟩⟩⟩⟩
      · unfold okL; simp [show ¬ stL (cR c) s ≤ cDep c i by omega]
      · unfold okL; simp [show i = 0 by omega, q4]
  exact ⟨(nS (cR c)).toNat + 1, key _ 0 M (by omega) (by omega) (Off.rf _ _ _) rfl (fun _ => rfl) (fun _ _ => ⟨rfl, rfl⟩) (fun s' z0 z1 => absurd z1 (by omega))⟩
theorem s_laysVersions {i0 s0 nt t1 t2 : Int} (hV : VP c) (hC : MC c M) (hG : TG c nt t1 t2) (h27 : M 0 27 = 0 ∨ (M 0 27 = 1 ∧ PassOK (cR c) c.1.2.1 c.1.2.2.1 c.1.2.2.2 M)) (h40 : M 0 40 = i0 ∧ M 0 41 = s0)
    (h : ∀ M', Off [15, 16, 17, 18, 19, 20, 22, 23, 25] [20, 23, 24, 25, 27, 37] M M' → TM (cR c) M' → M' 0 20 = nS (cR c) → M' 0 27 = 1 → PassOK (cR c) c.1.2.1 c.1.2.2.1 c.1.2.2.2 M' → M' 0 37 = nt → (1 ≤ nt → M' 25 0 = t1) → (nt = 2 → M' 25 1 = t2) → (nt = 0 → M' 25 0 = M 25 0) → (∀ i s, 0 ≤ i → i < cN c → 0 ≤ s → s < nS (cR c) → VT c (ok1 c i0 s0) M' i s) → R 0 M') : fMd_laysVersions M R := by
  have h16 := nS_le (cR c)
  obtain ⟨v1, v2, v3, v4, v5, v6, v7, v8, v9, -⟩ := id hV
  refine s_laysPassages v1 hC.1 v2 v3 v4 h27 (fun N hoN hTN h20 h27' hPN => ?_)
  have hoN' := hoN.to
  have hN0 : Off [15, 16, 17, 18, 19, 20, 22, 23, 25] [20, 23, 24, 25, 27, 37] M (mu N 0 37 0) := (hoN'.mono (by decide) (by decide)).mu (Or.inr (by decide))
  have oN : Off [] [37] N (mu N 0 37 0) := (Off.rf _ _ _).mu (Or.inr (by decide))
  have hC1 : MC c (mu N 0 37 0) := hC.off hN0 (by decide)
  have hT1 : TM (cR c) (mu N 0 37 0) := hTN.off oN (by decide)
  have g20 : mu N 0 37 0 0 20 = nS (cR c) := by rw [mu_place (by decide)]; exact h20
  have g27 : mu N 0 37 0 0 27 = 1 := by rw [mu_place (by decide)]; exact h27'
  have g40 : mu N 0 37 0 0 40 = i0 := by rw [mu_place (by decide), hoN'.fld (by decide)]; exact h40.1
  have g41 : mu N 0 37 0 0 41 = s0 := by rw [mu_place (by decide), hoN'.fld (by decide)]; exact h40.2
  have gP : PassOK (cR c) c.1.2.1 c.1.2.2.1 c.1.2.2.2 (mu N 0 37 0) := fun s t a b d e => by rw [mu_cell (by decide)]; exact hPN s t a b d e
  have g25 : ∀ j, mu N 0 37 0 25 j = M 25 j := fun j => by rw [mu_cell (by decide), hoN'.cell (by decide)]
  have g37 : mu N 0 37 0 0 37 = 0 := mu_same _ _ _ _
  generalize mu N 0 37 0 = N0 at hN0 hC1 hT1 g20 g27 g40 g41 gP g25 g37 ⊢
  obtain ⟨n0, n1, n2, n3⟩ := hG
  -- how many targets lie below i
  have key : ∀ (m : Nat) (i : Int) (Mk : Mem), 0 ≤ i → i + m = cN c → Off lvS lvT N0 Mk → Mk 0 37 = (if 1 ≤ nt ∧ t1 < i then 1 else 0) + (if nt = 2 ∧ t2 < i then 1 else 0) → (1 ≤ nt → t1 < i → Mk 25 0 = t1) → (nt = 2 → t2 < i → Mk 25 1 = t2) → (nt = 0 → Mk 25 0 = M 25 0) → (∀ i' s, 0 ≤ i' → i' < i → 0 ≤ s → s < nS (cR c) → VT c (ok1 c i0 s0) Mk i' s) → fMd_laysVersions_11 R (m + 1) i Mk := by
    intro m
    induction m with
    | zero =>
      intro i Mk hi0 hm ho q37 q1 q2 q0 hd
      have hCk := hC1.off ho (by decide)
      refine And.intro (fun _ => ?_) (fun q => absurd (by rw [hCk.2.1]; omega) q)
      refine h Mk (hN0.tr (ho.mono (by decide) (by decide))) (hT1.off ho (by decide)) (by rw [ho.fld (by decide)]; exact g20) (by rw [ho.fld (by decide)]; exact g27) (fun s t a b d e => by rw [ho.cell (by decide)]; exact gP s t a b d e) ?_ (fun z => q1 z (by have := n1 z; omega)) (fun z => q2 z (by have := n2 z; omega)) q0 (fun i' s a b d e => hd i' s a (by omega) d e)
      rw [q37]
      rcases n0 with z | z | z
      · rw [if_neg (by omega), if_neg (by omega)]; omega
      · have := n1 (by omega)
        rw [if_pos (by omega), if_neg (by omega)]; omega
      · have := n1 (by omega)
        have := n2 z
        rw [if_pos (by omega), if_pos (by omega)]; omega
    | succ m ih =>
      intro i Mk hi0 hm ho q37 q1 q2 q0 hd
      have hCk := hC1.off ho (by decide)
      have hTk := hT1.off ho (by decide)
      obtain ⟨c1, c2, c3, c4, c5, c6⟩ := hCk.2.2 i hi0 (by omega)
      refine And.intro (fun q => absurd q (by rw [hCk.2.1]; omega)) (fun _ => ⟨⟨by omega, by omega⟩, fun q => ?_, fun q => ?_⟩)
      · rw [c3] at q
        have ni1 : ¬ (1 ≤ nt ∧ i = t1) := fun z => q (by rw [z.2]; exact (n1 z.1).2.2)
        have ni2 : ¬ (nt = 2 ∧ i = t2) := fun z => q (by rw [z.2]; exact (n2 z.1).2.2)
        refine s_lv51 (i0 := i0) (s0 := s0) hV hCk hTk (by rw [ho.fld (by decide)]; exact g20) ⟨hi0, by omega⟩ ⟨by rw [ho.fld (by decide)]; exact g40, by rw [ho.fld (by decide)]; exact g41⟩ (fun M1 ho1 a37 a25 aout ad => ?_)
        refine ih (i + 1) M1 (by omega) (by omega) (ho.tr ho1) ?_ (fun z z2 => by rw [a25]; exact q1 z (by omega)) (fun z z2 => by rw [a25]; exact q2 z (by omega)) (fun z => by rw [a25]; exact q0 z) (fun i' s a b d e => ?_)
        · rw [a37, q37]
          congr 1
          · by_cases z : 1 ≤ nt ∧ t1 < i
            · rw [if_pos z, if_pos (by omega)]
            · rw [if_neg z, if_neg (by omega)]
          · by_cases z : nt = 2 ∧ t2 < i
            · rw [if_pos z, if_pos (by omega)]
            · rw [if_neg z, if_neg (by omega)]
        · by_cases e2 : i' = i
          · subst e2; exact ad s d e
          · obtain ⟨y1, y2⟩ := hd i' s a (by omega) d e
            obtain ⟨z1, z2⟩ := aout (16 * i' + s) (by omega)
            exact ⟨by rw [z1]; exact y1, fun hok => by rw [z2]; exact y2 hok⟩
      · rw [c3] at q
        have hw := n3 i hi0 (by omega) q
        have h01 : Mk 0 37 = 0 ∨ Mk 0 37 = 1 := by
          rw [q37]
          rcases hw with ⟨z1, z2⟩ | ⟨z1, z2⟩
          · have := n2
            by_cases z3 : nt = 2
            · have := n2 z3
              rw [if_neg (by omega), if_neg (by omega)]; exact Or.inl rfl
            · rw [if_neg (by omega), if_neg (by omega)]; exact Or.inl rfl
          · have := n2 z1
            rw [if_pos (by omega), if_neg (by omega)]; exact Or.inr rfl
        refine ⟨⟨by omega, by omega⟩, ?_⟩
        rw [wrapI (by omega) (by omega)]
        have hoN1 : Off lvS lvT N0 (mu (mu Mk 25 (Mk 0 37) i) 0 37 (Mk 0 37 + 1)) := (ho.mu (Or.inl (by decide))).mu (Or.inr (by decide))
        have f37 : mu (mu Mk 25 (Mk 0 37) i) 0 37 (Mk 0 37 + 1) 0 37 = Mk 0 37 + 1 := mu_same _ _ _ _
        have f25 : mu (mu Mk 25 (Mk 0 37) i) 0 37 (Mk 0 37 + 1) 25 (Mk 0 37) = i := by rw [mu_cell (by decide), mu_same]
        have f25' : ∀ j, j ≠ Mk 0 37 → mu (mu Mk 25 (Mk 0 37) i) 0 37 (Mk 0 37 + 1) 25 j = Mk 25 j := fun j hj => by rw [mu_cell (by decide), mu_place hj]
        have f22 : ∀ j, mu (mu Mk 25 (Mk 0 37) i) 0 37 (Mk 0 37 + 1) 22 j = Mk 22 j ∧ mu (mu Mk 25 (Mk 0 37) i) 0 37 (Mk 0 37 + 1) 23 j = Mk 23 j := fun j => ⟨by rw [mu_cell (by decide), mu_cell (by decide)], by rw [mu_cell (by decide), mu_cell (by decide)]⟩
        generalize mu (mu Mk 25 (Mk 0 37) i) 0 37 (Mk 0 37 + 1) = N1 at hoN1 f37 f25 f25' f22 ⊢
        refine s_lv51 (i0 := i0) (s0 := s0) hV (hC1.off hoN1 (by decide)) (hT1.off hoN1 (by decide)) (by rw [hoN1.fld (by decide)]; exact g20) ⟨hi0, by omega⟩ ⟨by rw [hoN1.fld (by decide)]; exact g40, by rw [hoN1.fld (by decide)]; exact g41⟩ (fun M1 ho1 a37 a25 aout ad => ?_)
        have cases2 : (1 ≤ nt ∧ i = t1 ∧ Mk 0 37 = 0) ∨ (nt = 2 ∧ i = t2 ∧ Mk 0 37 = 1) := by
          rcases hw with ⟨z1, z2⟩ | ⟨z1, z2⟩
          · refine Or.inl ⟨z1, z2, ?_⟩
            rw [q37]
            by_cases z3 : nt = 2
            · have := n2 z3
              rw [if_neg (by omega), if_neg (by omega)]; rfl
            · rw [if_neg (by omega), if_neg (by omega)]; rfl
          · refine Or.inr ⟨z1, z2, ?_⟩
            have := n2 z1
            rw [q37, if_pos (by omega), if_neg (by omega)]; rfl
        refine ih (i + 1) M1 (by omega) (by omega) (hoN1.tr ho1) ?_ (fun z z2 => ?_) (fun z z2 => ?_) (fun z => ?_) (fun i' s a b d e => ?_)
        · rw [a37, f37]
          rcases cases2 with ⟨z1, z2, z3⟩ | ⟨z1, z2, z3⟩
          · rw [z3, if_pos (by omega)]
            by_cases z4 : nt = 2
            · have := n2 z4
              rw [if_neg (by omega)]; rfl
            · rw [if_neg (by omega)]; rfl
          · have := n2 z1
            rw [z3, if_pos (by omega), if_pos (by omega)]
        · rw [a25]
          rcases cases2 with ⟨y1, y2, y3⟩ | ⟨y1, y2, y3⟩
          · rw [← y3, f25]; exact y2
          · have := n2 y1
            rw [f25' 0 (by omega)]; exact q1 z (by omega)
        · rw [a25]
          rcases cases2 with ⟨y1, y2, y3⟩ | ⟨y1, y2, y3⟩
          · have := n2 z
            rw [f25' 1 (by omega)]; exact q2 z (by omega)
          · rw [← y3, f25]; exact y2
        · rcases cases2 with ⟨y1, -, -⟩ | ⟨y1, -, -⟩ <;> omega
        · by_cases e2 : i' = i
          · subst e2; exact ad s d e
          · obtain ⟨y1, y2⟩ := hd i' s a (by omega) d e
            obtain ⟨z1, z2⟩ := aout (16 * i' + s) (by omega)
            exact ⟨by rw [z1, (f22 _).1]; exact y1, fun hok => by rw [z2, (f22 _).2]; exact y2 hok⟩
  refine ⟨(cN c).toNat + 1, key _ 0 N0 (by omega) (by omega) (Off.rf _ _ _) ?_ (fun z z2 => absurd z2 (by have := n1 z; omega)) (fun z z2 => absurd z2 (by have := n1 (by omega); have := n2 z; omega)) (fun _ => g25 0) (fun i' s a b => absurd b (by omega))⟩
  rw [g37]
  by_cases z : 1 ≤ nt
  · have := n1 z
    rw [if_neg (by omega)]
    by_cases z2 : nt = 2
    · have := n2 z2
      rw [if_neg (by omega)]; rfl
    · rw [if_neg (by omega)]; rfl
  · rw [if_neg (by omega), if_neg (by omega)]; rfl
end V
