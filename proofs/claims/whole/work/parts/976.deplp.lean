/-! depths: the loops of both (p) -/
section P
variable {X Y X0 : Mem} {n : Int} {R K : Int → Mem → Prop}
theorem s_next_p (hn : 0 ≤ n ∧ n ≤ 24) (e6 : X 13 6 = n) (h : ∀ v, isLow n (X 17) (X 18) v → R v X) : fPr_nextToConsider_p X R := by
  have key : ∀ (d : Nat) (x : Int), 0 ≤ x → x + d = n → (∀ j, 0 ≤ j → j < x → X 17 j = -4 ∨ X 18 j ≠ 0) → fPr_nextToConsider_p_2 R (d + 1) x X := by
    intro d
    induction d with
    | zero =>
      intro x x0 xd hj
      unfold fPr_nextToConsider_p_2
      rw [e6]
      exact ⟨fun _ => h _ (Or.inl ⟨rfl, fun j j0 j1 => hj j j0 (by omega)⟩), fun z => by omega⟩
    | succ d ih =>
      intro x x0 xd hj
      have nx : (X 17 x = -4 ∨ X 18 x ≠ 0) → fPr_nextToConsider_p_29 (fPr_nextToConsider_p_2 R (d + 1)) R x X := by
        intro q
        unfold fPr_nextToConsider_p_29
        rw [wrapI (z := x + 1) (by omega) (by omega)]
        refine ih (x + 1) (by omega) (by omega) (fun j j0 j1 => ?_)
        by_cases y : j = x
        · rw [y]; exact q
        · exact hj j j0 (by omega)
      unfold fPr_nextToConsider_p_2
      rw [e6]
      exact ⟨fun z => by omega, fun _ => ⟨⟨by omega, by omega⟩, fun z => ⟨fun _ => nx (Or.inl z), fun y => absurd rfl y⟩, fun z => ⟨fun y => absurd y (by decide), fun _ => ⟨⟨by omega, by omega⟩, fun y => nx (Or.inr y), fun y => h x (Or.inr ⟨x0, by omega, z, y, hj⟩)⟩⟩⟩⟩
  exact ⟨n.toNat + 1, key n.toNat 0 (by omega) (by omega) (fun j j0 j1 => by omega)⟩
def VI_p (n kk : Int) (X0 X : Mem) : Prop := Off [13, 17, 18, 19] [] X0 X ∧ X 13 6 = n ∧ X 13 7 = kk ∧ VF n kk (X0 14) (X0 15) (X 17) (X 18) (X 19) (X 13 8)
def PX_p (n r : Int) (X0 X1 : Mem) : Prop := Off [3, 4, 13, 17, 18, 19] [] X0 X1 ∧ (r = 1 ∧ X1 3 1 = 0 ∧ VI_p n (X1 13 7) X0 X1 ∧ isLow n (X1 17) (X1 18) (-4) ∧ X1 13 8 ≤ 2)
/-- what no flaw rests on -/
def IVs (n : Int) (k nu : Int → Int) (IV : (Int → Int) → (Int → Int) → Prop) : Prop := (∀ (v : Int) (dep tg : Int → Int), IV dep tg → 0 ≤ v → v < n → dep v ≠ -4 → FN n v (k v) (nu v) dep ∧ IV (dpN n v (k v) (nu v) dep) (tgN (k v) (nu v) tg)) ∧ (∀ (dep tg : Int → Int), IV dep tg → (∀ j, 0 ≤ j → j < 24 → tg j = 0 ∨ tg j = 1) → sumT tg n.toNat ≤ 2) ∧ ∀ (dep tg : Int → Int), (∀ j, 0 ≤ j → j < 24 → dep j = if j = 0 then 0 else -4) → (∀ j, 0 ≤ j → j < 24 → tg j = 0) → IV dep tg
def JA_p (n : Int) (X0 Y : Mem) : Prop := Y 0 10 = n ∧ ∀ i, 0 ≤ i → i < n → Y 8 i = sg (X0 14 i) ∧ (leadsK (X0 14 i) = true → Y 9 i = X0 15 i)
def JB_p (X Y : Mem) : Prop := ∀ j, 0 ≤ j → j < 24 → Y 12 j = X 17 j ∧ Y 13 j = X 18 j ∧ Y 14 j = X 19 j
def HK_p (n : Int) (X0 : Mem) : Prop := ∀ i, 0 ≤ i → i < n → (0 ≤ X0 14 i ∧ X0 14 i < 15) ∧ (leadsK (X0 14 i) = true → 0 ≤ X0 15 i ∧ X0 15 i < n)
theorem JA_off_p {S : List Nat} {T : List Int} {Y' : Mem} (h : JA_p n X0 Y) (ho : Off S T Y Y') (hS : 0 ∉ S ∧ 8 ∉ S ∧ 9 ∉ S ∧ (10 : Int) ∉ T) : JA_p n X0 Y' := by
  refine ⟨by rw [ho.fld ⟨hS.1, hS.2.2.2⟩]; exact h.1, fun i i0 i1 => ?_⟩
  rw [ho.cell ⟨hS.2.1, by decide⟩, ho.cell ⟨hS.2.2.1, by decide⟩]
  exact h.2 i i0 i1
/-- nothing is left to consider -/
theorem s_fd111_p {kk : Int} (hn : 1 ≤ n ∧ n ≤ 24) (e30 : X0 3 1 = 0) (hI : VI_p n kk X0 X) (hl : isLow n (X 17) (X 18) (-4)) (h82 : X 13 8 ≤ 2)
    (hK : ∀ r X1, PX_p n r X0 X1 → (∀ Y (S : Int → Mem → Prop), JA_p n X0 Y → JB_p X Y → Y 0 16 = 0 → (∀ Y1, Off [11, 12, 13, 14] [16] Y Y1 → RCa X1 Y1 → (r = 1 → JB_p X1 Y1) → S r Y1) → fMd_findsDepths_74 S 1 Y) → K r X1) : fPr_findDepths_p_111 K X := by
  obtain ⟨o1, e6, e7, hF⟩ := hI
  obtain ⟨h1, h2, h3, -⟩ := id hF
  have e3 : X 3 1 = 0 := by rw [o1.cell (by decide)]; exact e30
  have b8 := sumT_le1 (f := X 19) (m := n.toNat) (fun j hj => (h3 j (by omega) (by omega)).2)
  have sumE : ∀ Y, JB_p X Y → X 13 8 = sumT (Y 14) n.toNat := fun Y hJ => by
    rw [h2]; exact sumT_congr (fun j hj => (hJ j (by omega) (by omega)).2.2.symm)
  have y01 : ∀ Y, JB_p X Y → ∀ j, 0 ≤ j → j < n → Y 14 j = 0 ∨ Y 14 j = 1 := fun Y hJ j j0 j1 => by rw [(hJ j j0 (by omega)).2.2]; exact (h3 j j0 (by omega)).2
  refine ⟨fun z => hK 1 X ⟨o1.mono (by decide) (by decide), ⟨rfl, e3, ⟨o1, e6, rfl, by rw [e7]; exact hF⟩, hl, z⟩⟩ (fun Y S hJA hJB h16 hS => ?_), fun z => absurd h82 z⟩
  · refine s_fd74 ⟨by omega, hn.2⟩ hJA.1 (y01 Y hJB) (sumE Y hJB) (fun q => absurd q (by decide)) (fun _ => ⟨fun _ => hS Y (Off.rf _ _ _) ?_ (fun _ => hJB), fun q => absurd z q⟩)
    exact ⟨by rw [e3, h16], by rw [e3]; decide, fun i i0 i1 => by rw [e3] at i1; omega⟩
theorem s_fd55_p {IV : (Int → Int) → (Int → Int) → Prop} (hn : 1 ≤ n ∧ n ≤ 24) (hk : HK_p n X0) (e30 : X0 3 1 = 0) (hV : IVs n (X0 14) (X0 15) IV) : ∀ (d : Nat) (kk : Int) (X : Mem), VI_p n kk X0 X → IV (X 17) (X 19) → 0 ≤ kk → kk + d = n →
    (∀ r X1, PX_p n r X0 X1 → (∀ Y (S : Int → Mem → Prop) v, JA_p n X0 Y → JB_p X Y → Y 0 16 = 0 → isLow n (X 17) (X 18) v → (∀ Y1, Off [11, 12, 13, 14] [16] Y Y1 → RCa X1 Y1 → (r = 1 → JB_p X1 Y1) → S r Y1) → fMd_findsDepths_50 S (d + 1) 1 v Y) → K r X1) → fPr_findDepths_p_55 K (d + 1) kk X := by
  intro d
  induction d with
  | zero =>
    intro kk X hI hIV k0 kd hK
    unfold fPr_findDepths_p_55
    rw [hI.2.1]
    have e : kk = n := by omega
    obtain ⟨h1, h2, h3, -⟩ := hI.2.2.2
    -- all are considered
    have all : ∀ j, 0 ≤ j → j < n → X 18 j = 1 := fun j j0 j1 => by
      rcases (h3 j j0 (by omega)).1 with z | z
      · have s1 := sumT_one (f := fun q => if q = j then 1 else X 18 q) (g := X 18) (j := j.toNat) (n := n.toNat) (by omega) (fun q hq hne => by show (if (q : Int) = j then 1 else X 18 q) = X 18 q; rw [if_neg (by omega)])
        have s2 := sumT_le1 (f := fun q => if q = j then 1 else X 18 q) (m := n.toNat) (fun q hq => by
          show (if (q : Int) = j then 1 else X 18 q) = 0 ∨ (if (q : Int) = j then 1 else X 18 q) = 1
          by_cases w : (q : Int) = j
          · rw [if_pos w]; exact Or.inr rfl
          · rw [if_neg w]; exact (h3 q (by omega) (by omega)).1)
        rw [s1, show ((j.toNat : Nat) : Int) = j by omega, if_pos rfl, z] at s2
        omega
      · exact z
    have hl : isLow n (X 17) (X 18) (-4) := Or.inl ⟨rfl, fun j j0 j1 => Or.inr (by rw [all j j0 j1]; decide)⟩
    have h82 : X 13 8 ≤ 2 := by rw [h2]; exact hV.2.1 _ _ hIV (fun j j0 j1 => (h3 j j0 j1).2)
    refine ⟨fun _ => s_fd111_p hn e30 hI hl h82 (fun r X1 hX1 hY => hK r X1 hX1 (fun Y S v hJA hJB h16 hv hS => ?_)), fun z => by omega⟩
    rw [isLow_unique hv hl]
    exact ⟨fun _ => hY Y S hJA hJB h16 hS, fun z => absurd rfl z⟩
  | succ d ih =>
    intro kk X hI hIV k0 kd hK
    unfold fPr_findDepths_p_55
    obtain ⟨o1, e6, e7, hF⟩ := id hI
    rw [e6]
    refine ⟨fun z => by omega, fun _ => s_next_p ⟨by omega, hn.2⟩ e6 (fun v hv => ⟨fun zv => ?_, fun zv => ?_⟩)⟩
    · -- an instruction
      have hv' := hv
      rcases hv' with q | ⟨v0, v1, vd, vc, -⟩
      · exact absurd q.1 zv
      obtain ⟨h1, h2, h3, h4, h5, -⟩ := id hF
      have v24 : inb v 24 := ⟨by omega, by omega⟩
      refine ⟨v24, ?_⟩
      rw [e7, wrapI (z := kk + 1) (by omega) (by omega)]
      have o2 : Off [13, 18] [] X (mu (mu X 18 v 1) 13 7 (kk + 1)) := ((Off.rf _ _ _).mu (Or.inl (by decide))).mu (Or.inl (by decide))
      have f6 : (mu (mu X 18 v 1) 13 7 (kk + 1)) 13 6 = n := by rw [mu_place (by decide), mu_cell (by decide)]; exact e6
      have f8 : (mu (mu X 18 v 1) 13 7 (kk + 1)) 13 8 = X 13 8 := by rw [mu_place (by decide), mu_cell (by decide)]
      have f7 : (mu (mu X 18 v 1) 13 7 (kk + 1)) 13 7 = kk + 1 := mu_same _ _ _ _
      have fC : ∀ j, (mu (mu X 18 v 1) 13 7 (kk + 1)) 18 j = if j = v then 1 else X 18 j := fun j => by
        rw [mu_cell (by decide)]
        by_cases y : j = v
        · rw [y, mu_same, if_pos rfl]
        · rw [mu_place y, if_neg y]
      have fK : (mu (mu X 18 v 1) 13 7 (kk + 1)) 14 = X0 14 := (o2.fn (by decide)).trans (o1.fn (by decide))
      have fN : (mu (mu X 18 v 1) 13 7 (kk + 1)) 15 = X0 15 := (o2.fn (by decide)).trans (o1.fn (by decide))
      have fD : (mu (mu X 18 v 1) 13 7 (kk + 1)) 17 = X 17 := o2.fn (by decide)
      have fT : (mu (mu X 18 v 1) 13 7 (kk + 1)) 19 = X 19 := o2.fn (by decide)
      have f3 : (mu (mu X 18 v 1) 13 7 (kk + 1)) 3 1 = 0 := by rw [o2.cell (by decide), o1.cell (by decide)]; exact e30
      have hkv := hk v v0 v1
      have b8 := sumT_le1 (f := X 19) (m := n.toNat) (fun j hj => (h3 j (by omega) (by omega)).2)
      refine s_passOn_p (n := n) f6 ⟨v0, v1⟩ hn.2 (by rw [fK]; exact hkv.1) (by rw [fK, fN]; exact hkv.2) (by rw [fD]; exact h5 v v0 v1 vd) f3 (by rw [f8]; omega) (fun a b X' hFL hFX => by rw [fK, fN, fD] at hFL; exact absurd (hV.1 v _ _ hIV v0 v1 vd).1 (FLw_not (k := X0 14) (nu := X0 15) hFL)) (fun hFN X' hSX => ⟨fun _ => ?_, fun z => absurd z (by decide)⟩)
      · -- it passes on
        rw [fK, fN, fD] at hFN
        rw [fK, fN] at hSX
        obtain ⟨s1, s2, s3, s4, s5⟩ := hSX
        rw [fD] at s3
        rw [fT] at s4 s5
        rw [f8] at s5
        have hstep := hF.step hn hk ⟨v0, v1⟩ vd vc hFN
        have eD : X' 17 = dpN n v (X0 14 v) (X0 15 v) (X 17) := funext s3
        have eC : X' 18 = fun j => if j = v then 1 else X 18 j := funext (fun j => by rw [s1.cell (by decide)]; exact fC j)
        have eT : X' 19 = tgN (X0 14 v) (X0 15 v) (X 19) := funext s4
        have hI' : VI_p n (kk + 1) X0 X' := by
          refine ⟨(o1.tr (o2.mono (by decide) (by decide))).tr (s1.mono (by decide) (by decide)), by rw [s2 6 (by decide)]; exact f6, by rw [s2 7 (by decide)]; exact f7, ?_⟩
          rw [eD, eC, eT, s5]; exact hstep
        have hIV' : IV (X' 17) (X' 19) := by rw [eD, eT]; exact (hV.1 v _ _ hIV v0 v1 vd).2
        refine ih (kk + 1) X' hI' hIV' (by omega) (by omega) (fun r X1 hX1 hY => hK r X1 hX1 (fun Y S w hJA hJB h16 hw hS => ?_))
        rw [isLow_unique hw hv]
        have heq : ∀ j, 0 ≤ j → j < 24 → Y 12 j = X 17 j := fun j j0 j1 => (hJB j j0 j1).1
        obtain ⟨a8, a9⟩ := hJA.2 v v0 v1
        refine ⟨fun z => by omega, fun _ => ⟨fun z => absurd z (by decide), fun _ => s_takesOne (n := n) (k := X0 14 v) (t := X0 15 v) hkv.1 ⟨v0, v1⟩ hn.2 a8 hJA.1 (fun l => ⟨a9 l, hkv.2 l⟩) (by rw [heq v v0 (by omega)]; exact h5 v v0 v1 vd) (fun a' b' Y' hFL' hFY => ?_) (fun hFN' Y' hSY => ?_)⟩⟩
        · exact absurd hFN (FLw_not (k := X0 14) (nu := X0 15) (FLw_congr hn.2 ⟨v0, v1⟩ hkv.2 heq hFL'))
        · obtain ⟨g1, g2, g3, g4⟩ := hSY
          have hJB' : JB_p X' Y' := fun j j0 j1 => by
            refine ⟨?_, ?_, ?_⟩
            · rw [g2 j, s3 j]; unfold dpN; rw [heq v v0 (by omega), heq j j0 j1]
            · rw [g3 j, s1.cell (by decide), fC j, (hJB j j0 j1).2.1]
            · rw [g4 j, s4 j]; unfold tgN; rw [(hJB j j0 j1).2.2]
          have hJA' : JA_p n X0 Y' := JA_off_p hJA g1 (by decide)
          have w13 : ∀ j, 0 ≤ j → j < n → Y' 13 j = 0 ∨ Y' 13 j = 1 := fun j j0 j1 => by rw [(hJB' j j0 (by omega)).2.1]; exact (hI'.2.2.2.2.2.1 j j0 (by omega)).1
          refine s_lowest ⟨by omega, hn.2⟩ hJA'.1 w13 (fun r5 h5' => hY Y' S r5 hJA' hJB' (by rw [g1.fld (by decide)]; exact h16) (isLow_congr hn.2 (fun j j0 j1 => (hJB' j j0 j1).1) (fun j j0 j1 => (hJB' j j0 j1).2.1) h5') (fun Y1 q1 q2 q3 => hS Y1 ((g1.mono (by decide) (by decide)).tr q1) q2 q3))
    · -- none is left
      rw [zv] at hv
      obtain ⟨h1, h2, h3, -⟩ := id hF
      have h82 : X 13 8 ≤ 2 := by rw [h2]; exact hV.2.1 _ _ hIV (fun j j0 j1 => (h3 j j0 j1).2)
      refine s_fd111_p hn e30 hI hv h82 (fun r X1 hX1 hY => hK r X1 hX1 (fun Y S w hJA hJB h16 hw hS => ?_))
      rw [isLow_unique hw hv]
      exact ⟨fun _ => hY Y S hJA hJB h16 hS, fun z => absurd rfl z⟩
theorem s_depths_p {IV : (Int → Int) → (Int → Int) → Prop} (hn : 1 ≤ n ∧ n ≤ 24) (e6 : X0 13 6 = n) (hk : HK_p n X0) (e30 : X0 3 1 = 0) (hV : IVs n (X0 14) (X0 15) IV)
    (hK : ∀ r X1, PX_p n r X0 X1 → (∀ Y (S : Int → Mem → Prop), JA_p n X0 Y → Y 0 16 = 0 → (∀ Y1, Off [11, 12, 13, 14] [16] Y Y1 → RCa X1 Y1 → (r = 1 → JB_p X1 Y1) → S r Y1) → fMd_findsDepths Y S) → K r X1) : fPr_findDepths_p X0 K := by
  have key : ∀ (d : Nat) (x : Int) (M : Mem), 0 ≤ x → x + d = 24 → Off [17, 18, 19] [] X0 M → (∀ j, 0 ≤ j → j < x → M 17 j = -4 ∧ M 18 j = 0 ∧ M 19 j = 0) → fPr_findDepths_p_2 K (d + 1) x M := by
    intro d
    induction d with
    | zero =>
      intro x M x0 xd ho hj
      have o4 : Off [13, 17, 18, 19] [] X0 (mu (mu (mu M 13 7 0) 13 8 0) 17 0 0) := (((ho.mono (by decide) (by decide)).mu (Or.inl (by decide))).mu (Or.inl (by decide))).mu (Or.inl (by decide))
      have gD : ∀ j, 0 ≤ j → j < 24 → (mu (mu (mu M 13 7 0) 13 8 0) 17 0 0) 17 j = if j = 0 then 0 else -4 := fun j j0 j1 => by
        by_cases z : j = 0
        · rw [z, mu_same, if_pos rfl]
        · rw [mu_place z, mu_cell (by decide), mu_cell (by decide), if_neg z]; exact (hj j j0 (by omega)).1
      have gC : ∀ j, 0 ≤ j → j < 24 → (mu (mu (mu M 13 7 0) 13 8 0) 17 0 0) 18 j = 0 := fun j j0 j1 => by rw [mu_cell (by decide), mu_cell (by decide), mu_cell (by decide)]; exact (hj j j0 (by omega)).2.1
      have gT : ∀ j, 0 ≤ j → j < 24 → (mu (mu (mu M 13 7 0) 13 8 0) 17 0 0) 19 j = 0 := fun j j0 j1 => by rw [mu_cell (by decide), mu_cell (by decide), mu_cell (by decide)]; exact (hj j j0 (by omega)).2.2
      have sum0 : ∀ f : Int → Int, (∀ j, 0 ≤ j → j < 24 → f j = 0) → (0 : Int) = sumT f n.toNat := fun f hf => by
        have a := sumT_nonneg (f := f) (n := n.toNat) (fun j hj => by have := hf j (by omega) (by omega); omega)
        have b := sumT_le (f := f) (b := 0) (n := n.toNat) (fun j hj => by have := hf j (by omega) (by omega); omega)
        omega
      have hI : VI_p n 0 X0 (mu (mu (mu M 13 7 0) 13 8 0) 17 0 0) := by
        refine ⟨o4, ?_, by simp [mu], sum0 _ gC, ?_, fun i i0 i1 => ⟨Or.inl (gC i i0 i1), Or.inl (gT i i0 i1)⟩, by rw [gD 0 (by decide) (by decide)]; rfl, fun i i0 i1 hi => ?_, fun i i0 i1 hi => ?_, fun i i0 i1 hi => ?_, fun i i0 i1 hi => ?_⟩
        · rw [mu_cell (by decide), mu_place (by decide), mu_place (by decide), ho.cell (by decide)]; exact e6
        · have e8 : (mu (mu (mu M 13 7 0) 13 8 0) 17 0 0) 13 8 = 0 := by simp [mu]
          rw [e8]; exact sum0 _ gT
        · rw [gD i i0 (by omega)] at hi ⊢
          by_cases z : i = 0
          · rw [if_pos z]; decide
          · rw [if_neg z] at hi; exact absurd rfl hi
        · rw [gC i i0 (by omega)] at hi; exact absurd hi (by decide)
        · rw [gT i i0 (by omega)] at hi; exact absurd hi (by decide)
        · rw [gD i (by omega) (by omega), if_neg (by omega)] at hi; exact absurd rfl hi
      refine ⟨fun _ => ⟨n.toNat + 1, s_fd55_p hn hk e30 hV n.toNat 0 _ hI (hV.2.2 _ _ gD gT) (by decide) (by omega) (fun r X1 hX1 hY => hK r X1 hX1 (fun Y S hJA h16 hS => s_fd2 (fun Y1 q1 q2 => ?_)))⟩, fun z => by omega⟩
      have hJA1 : JA_p n X0 Y1 := JA_off_p hJA q1 (by decide)
      have hJB1 : JB_p (mu (mu (mu M 13 7 0) 13 8 0) 17 0 0) Y1 := fun j j0 j1 => by
        rw [gD j j0 j1, gC j j0 j1, gT j j0 j1]; exact q2 j j0 j1
      refine s_lowest ⟨by omega, hn.2⟩ hJA1.1 (fun j j0 j1 => Or.inl (q2 j j0 (by omega)).2.1) (fun v hv => ⟨n.toNat + 1, hY Y1 S v hJA1 hJB1 (by rw [q1.fld (by decide)]; exact h16) (isLow_congr hn.2 (fun j j0 j1 => (hJB1 j j0 j1).1) (fun j j0 j1 => (hJB1 j j0 j1).2.1) hv) (fun Y2 p1 p2 p3 => hS Y2 ((q1.mono (by decide) (by decide)).tr p1) p2 p3)⟩)
    | succ d ih =>
      intro x M x0 xd ho hj
      refine ⟨fun z => by omega, fun _ => ⟨⟨by omega, by omega⟩, ⟨by omega, by omega⟩, ⟨by omega, by omega⟩, ?_⟩⟩
      rw [wrapI (z := x + 1) (by omega) (by omega)]
      refine ih (x + 1) _ (by omega) (by omega) (((ho.mu (Or.inl (by decide))).mu (Or.inl (by decide))).mu (Or.inl (by decide))) (fun j j0 j1 => ?_)
      by_cases z : j = x
      · simp [mu, z]
      · have := hj j j0 (by omega)
        simpa [mu, z] using this
  exact ⟨24 + 1, key 24 0 X0 (by omega) (by omega) (Off.rf _ _ _) (fun j j0 j1 => by omega)⟩
end P
