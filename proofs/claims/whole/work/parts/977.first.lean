/-! the first program: x reads it and finds its depths; the reference's way on -/
def zqk (i : Int) : Int := ([0, 10, 9, 12, 9, 0, 3, 4, 13, 6, 9, 0, 2, 10, 11, 14] : List Int).getD i.toNat 0
def zqv (i : Int) : Int := ([5, 0, 0, 15, 0, 3, 0, 0, 0, 0, 0, 1, 0, 0, 2, 0] : List Int).getD i.toNat 0
def zqp (i : Int) : Int := ([0, 3, 5, 7, 10, 12, 15, 16, 17, 18, 19, 21, 24, 25, 27, 30, 31] : List Int).getD i.toNat 0
def zqd (i : Int) : Int := ([0, 1, 0, 1, 0, 1, 2, 1, 2, 1, 0, 1, 2, 1, 0, 0] : List Int).getD i.toNat 0
abbrev zqP (i : Int) : Prop := (0 ≤ zqk i ∧ zqk i < 15) ∧ sg (zqk i) = roV 110 (zqp i) ∧ ((1 ≤ dg (zqk i) → zqp i + 1 < 31 ∧ 48 ≤ roV 110 (zqp i + 1) ∧ roV 110 (zqp i + 1) ≤ 57) ∧ (2 ≤ dg (zqk i) → zqp i + 2 < 31 ∧ 48 ≤ roV 110 (zqp i + 2) ∧ roV 110 (zqp i + 2) ≤ 57)) ∧ ¬ (dg (zqk i) = 1 ∧ 4 ≤ pVal (roV 110) (zqp i) (zqk i)) ∧ pVal (roV 110) (zqp i) (zqk i) = zqv i ∧ zqp (i + 1) = zqp i + (1 + dg (zqk i)) ∧ (0 ≤ zqp i ∧ zqp i < 31) ∧ (leadsK (zqk i) = true → 0 ≤ zqv i ∧ zqv i < 16) ∧ (0 ≤ zqv i ∧ zqv i ≤ 99) ∧ (dg (zqk i) = 1 → zqv i ≤ 3) ∧
  (tk (zqk i) ≤ zqd i ∧ zqd i - tk (zqk i) + cm (zqk i) ≤ 12 ∧ (fallsK 16 i (zqk i) = true → zqd (i + 1) = zqd i - tk (zqk i) + cm (zqk i)) ∧ (leadsK (zqk i) = true → zqd (zqv i) = zqd i - tk (zqk i) + cm (zqk i) ∧ (zqv i = 2 ∨ zqv i = 15)))
theorem zq_tab : ∀ a : Fin 16, zqP ((a.val : Nat) : Int) := by decide +kernel
theorem zq_at {i : Int} (h : 0 ≤ i ∧ i < 16) : zqP i := by
  obtain ⟨a, ea⟩ := i_fin (n := 16) (x := i) h
  rw [ea]; exact zq_tab a
theorem zq_txt : ∀ a : Fin 31, 32 ≤ roV 110 ((a.val : Nat) : Int) ∧ roV 110 ((a.val : Nat) : Int) ≤ 126 ∧ b_i2c (b_iand (roV 110 ((a.val : Nat) : Int)) 255) = roV 110 ((a.val : Nat) : Int) := by decide +kernel
section P
variable {X0 M0 : Mem} {R K : Int → Mem → Prop}
theorem s_lay31 (e1 : M0 1 1 = 0) (h : ∀ M, Off [1, 2] [] M0 M → XTx 31 (roV 110) M → fPr_parse_p M (fun r2 M2 => fPr_findDepths_p M2 (fun r3 M3 => fTe_empty M3 (fun r4 M4 => fSt_refresh M4 (fun r5 M5 => R 0 M5))))) : fSt_initT M0 R := by
  have e31 : b_ishr 31 0 = 31 := by decide +kernel
  have key : ∀ (d : Nat) (x : Int) (M : Mem), 0 ≤ x → x + d = 31 → Off [1, 2] [] M0 M → M 1 1 = x → (∀ j, 0 ≤ j → j < x → M 2 j = roV 110 j) → fSt_initT_118 R (d + 1) x M := by
    intro d
    induction d with
    | zero =>
      intro x M x0 xd ho e hj
      unfold fSt_initT_118 fStr_length_110 fStr_coder_110
      refine ⟨fun z => absurd z (by decide), fun _ => ?_⟩
      dsimp only
      rw [e31]
      refine ⟨fun _ => h M ho ⟨by rw [e]; omega, by decide, fun i i0 i1 => ?_⟩, fun z => by omega⟩
      obtain ⟨a, ea⟩ := i_fin (n := 31) (x := i) ⟨i0, i1⟩
      have tb := zq_txt a
      rw [← ea] at tb
      exact ⟨hj i i0 (by omega), tb.1, tb.2.1⟩
    | succ d ih =>
      intro x M x0 xd ho e hj
      obtain ⟨a, ea⟩ := i_fin (n := 31) (x := x) ⟨x0, by omega⟩
      have tb := zq_txt a
      rw [← ea] at tb
      unfold fSt_initT_118 fStr_length_110 fStr_coder_110
      refine ⟨fun z => absurd z (by decide), fun _ => ?_⟩
      dsimp only
      rw [e31]
      refine ⟨fun z => by omega, fun _ => ?_⟩
      refine ⟨fun z => absurd z (by decide), fun _ => ⟨fun z => absurd rfl z, fun _ => ⟨fun z => absurd z (by decide), fun _ => ?_⟩⟩⟩
      unfold fLat_charAt_120 fStr_checkIndex
      rw [tb.2.2]
      refine ⟨⟨x0, by omega⟩, ⟨x0, by omega⟩, ⟨by omega, by omega⟩, ⟨by omega, by omega⟩, fun z => by omega, fun _ => ⟨⟨by omega, by omega⟩, ?_⟩⟩
      rw [e, wrapI (z := x + 1) (by omega) (by omega)]
      refine ih (x + 1) _ (by omega) (by omega) ((ho.mu (Or.inl (by decide))).mu (Or.inl (by decide))) (by rw [mu_cell (by decide), mu_same]) (fun j j0 j1 => ?_)
      by_cases z : j = x
      · rw [z, mu_same]
      · rw [mu_place z, mu_cell (by decide)]; exact hj j j0 (by omega)
  exact ⟨31 + 1, key 31 0 M0 (by decide) (by decide) (Off.rf _ _ _) e1 (fun j j0 j1 => by omega)⟩
theorem s_firstParse (hX : XTx 31 (roV 110) X0) (h : ∀ X, Off [3, 13, 14, 15, 16] [] X0 X → X 3 1 = 0 → X 13 6 = 16 → (∀ i, 0 ≤ i → i < 16 → X 14 i = zqk i ∧ X 15 i = zqv i) → K (-4) X) : fPr_parse_p X0 K := by
  have key : ∀ (d : Nat) (s : Int) (X : Mem), 0 ≤ s → s + d = 16 → Off [3, 13, 14, 15, 16] [] X0 X → X 3 1 = 0 → X 13 6 = s → (∀ i, 0 ≤ i → i < s → X 14 i = zqk i ∧ X 15 i = zqv i) → fPr_parse_p_15 K (d + 1) (zqp s) s X := by
    intro d
    induction d with
    | zero =>
      intro s X s0 sd ho e3 e6 hj
      obtain rfl : s = 16 := by omega
      have e16 : zqp 16 = 31 := by decide +kernel
      have e11 : X 1 1 = 31 := by rw [ho.cell (by decide)]; exact hX.1
      have hK := h X ho e3 e6 hj
      have k82 : ∀ (d : Nat) (i : Int), 0 ≤ i → i + d = 16 → fPr_parse_p_82 K (d + 1) i X := by
        intro d
        induction d with
        | zero =>
          intro i i0 id
          unfold fPr_parse_p_82
          rw [e6]
          exact ⟨fun _ => hK, fun z => by omega⟩
        | succ d ih =>
          intro i i0 id
          have i24 : inb i 24 := ⟨by omega, by omega⟩
          have nx : fPr_parse_p_128 (fPr_parse_p_82 K (d + 1)) K i X := by
            unfold fPr_parse_p_128
            rw [wrapI (z := i + 1) (by omega) (by omega)]
            exact ih (i + 1) (by omega) (by omega)
          unfold fPr_parse_p_82
          rw [e6]
          refine ⟨fun z => by omega, fun _ => s_leads_p ⟨i0, by omega⟩ (fun l => ⟨fun z => absurd z (by decide), fun _ => ⟨i24, ?_⟩⟩) (fun l => ⟨fun _ => nx, fun z => absurd rfl z⟩)⟩
          obtain ⟨a1, a2⟩ := hj i i0 (by omega)
          have t := (zq_at (i := i) ⟨i0, by omega⟩).2.2.2.2.2.2.2.1
          rw [a1] at l
          refine ⟨fun _ => nx, fun z => ?_⟩
          rw [a2, e6] at z
          exact absurd (t l).2 z
      refine ⟨fun z => by omega, fun _ => ⟨fun _ => ⟨16 + 1, k82 16 0 (by decide) (by decide)⟩, fun z => ?_⟩⟩
      rw [e11, e16] at z
      exact absurd (by decide) z
    | succ d ih =>
      intro s X s0 sd ho e3 e6 hj
      obtain ⟨t1, t2, t3, t4, t5, t6, t7, -⟩ := zq_at (i := s) ⟨s0, by omega⟩
      have hX' : XTx 31 (roV 110) X := ⟨by rw [ho.cell (by decide)]; exact hX.1, hX.2.1, fun i i0 i1 => by rw [ho.cell (by decide)]; exact hX.2.2 i i0 i1⟩
      have hd3 := (dg_in t1).1
      refine ⟨fun z => by omega, fun _ => ?_⟩
      rw [hX'.1]
      refine ⟨fun z => by omega, fun _ => s_pIns_p hX' t7 e6 ⟨s0, by omega⟩ (fun z => by omega) (fun _ hn => absurd t2 (hn _ t1.1 t1.2)) (fun _ k k0 k1 ek => ?_)⟩
      obtain rfl : k = zqk s := sg_inj ⟨k0, k1⟩ t1 (ek.trans t2.symm)
      refine ⟨fun y => absurd t3 y, fun _ => ⟨fun y => absurd y t4, fun _ => ⟨fun _ => ?_, fun y => absurd rfl y⟩⟩⟩
      rw [t5]
      have ox : Off [13, 14, 15, 16] [] X (xRd_p (zqk s) (zqp s) (zqv s) s X) := ((((Off.rf _ _ _).mu (Or.inl (by decide))).mu (Or.inl (by decide))).mu (Or.inl (by decide))).mu (Or.inl (by decide))
      have x6 : (xRd_p (zqk s) (zqp s) (zqv s) s X) 13 6 = s + 1 := by simp [xRd_p, mu]
      have x14 : ∀ i, (xRd_p (zqk s) (zqp s) (zqv s) s X) 14 i = if i = s then zqk s else X 14 i := fun i => by simp [xRd_p, mu]
      have x15 : ∀ i, (xRd_p (zqk s) (zqp s) (zqv s) s X) 15 i = if i = s then zqv s else X 15 i := fun i => by simp [xRd_p, mu]
      have nx : fPr_parse_p_15 K (d + 1) (zqp (s + 1)) (s + 1) (xRd_p (zqk s) (zqp s) (zqv s) s X) := by
        refine ih (s + 1) _ (by omega) (by omega) (ho.tr (ox.mono (by decide) (by decide))) (by rw [ox.cell (by decide)]; exact e3) x6 (fun i i0 i1 => ?_)
        rw [x14, x15]
        by_cases y : i = s
        · rw [if_pos y, if_pos y, y]; exact ⟨rfl, rfl⟩
        · rw [if_neg y, if_neg y]; exact hj i i0 (by omega)
      have x14s := x14 s
      rw [if_pos rfl] at x14s
      rw [x6, wrapI (z := s + 1 - 1) (by omega) (by omega), show s + 1 - 1 = s by omega, x14s, show roV 102 (zqk s) = dg (zqk s) from rfl, wrapI (z := 1 + dg (zqk s)) (by omega) (by omega), wrapI (z := zqp s + (1 + dg (zqk s))) (by omega) (by omega), wrapI (z := s + 1) (by omega) (by omega), ← t6]
      exact ⟨⟨by omega, by omega⟩, ⟨by omega, by omega⟩, nx⟩
  have ox : Off [3, 13] [] X0 (mu (mu X0 3 1 0) 13 6 0) := ((Off.rf _ _ _).mu (Or.inl (by decide))).mu (Or.inl (by decide))
  exact ⟨16 + 1, key 16 0 _ (by decide) (by decide) (ox.mono (by decide) (by decide)) (by simp [mu]) (by simp [mu]) (fun i i0 i1 => by omega)⟩
end P
def zqIV (dep tg : Int → Int) : Prop := (∀ j, 0 ≤ j → j < 16 → dep j = -4 ∨ dep j = zqd j) ∧ (∀ j, 0 ≤ j → j < 16 → tg j = 1 → j = 2 ∨ j = 15)
theorem zq_IVs {k nu : Int → Int} (hk : ∀ i, 0 ≤ i → i < 16 → k i = zqk i ∧ nu i = zqv i) : IVs 16 k nu zqIV := by
  refine ⟨fun v dep tg hI v0 v1 hv => ?_, fun dep tg hI h01 => ?_, fun dep tg hd ht => ⟨fun j j0 j1 => ?_, fun j j0 j1 q => ?_⟩⟩
  · obtain ⟨h1, h2⟩ := hI
    obtain ⟨ek, en⟩ := hk v v0 v1
    rw [ek, en]
    obtain ⟨-, -, -, -, -, -, -, t8, -, -, d1, d2, d3, d4⟩ := zq_at (i := v) ⟨v0, v1⟩
    have ed : dep v = zqd v := (h1 v v0 v1).resolve_left hv
    refine ⟨⟨fun q => ?_, fun q => ?_, fun q => ?_⟩, fun j j0 j1 => ?_, fun j j0 j1 hj => ?_⟩
    · unfold FA at q; omega
    · obtain ⟨q1, q2, q3⟩ := q
      have i1 := (fallsK_iff.mp q1).2.2
      have a := (h1 (v + 1) (by omega) (by omega)).resolve_left q2
      have b := d3 q1
      omega
    · obtain ⟨q1, q2, q3, q4⟩ := q
      have a := (h1 (zqv v) (t8 q1).1 (t8 q1).2).resolve_left q3
      have b := (d4 q1).1
      omega
    · unfold dpN
      by_cases q : (fallsK 16 v (zqk v) = true ∧ j = v + 1) ∨ (leadsK (zqk v) = true ∧ j = zqv v)
      · rw [if_pos q]
        refine Or.inr ?_
        rcases q with ⟨q1, q2⟩ | ⟨q1, q2⟩
        · rw [q2, d3 q1, ed]
        · rw [q2, (d4 q1).1, ed]
      · rw [if_neg q]; exact h1 j j0 j1
    · unfold tgN at hj
      by_cases q : leadsK (zqk v) = true ∧ j = zqv v
      · rw [q.2]; exact (d4 q.1).2
      · rw [if_neg q] at hj; exact h2 j j0 j1 hj
  · have z : ∀ j, 0 ≤ j → j < 16 → j ≠ 2 → j ≠ 15 → tg j = 0 := fun j j0 j1 n2 n15 => by
      rcases h01 j j0 (by omega) with w | w
      · exact w
      · rcases hI.2 j j0 j1 w with u | u
        · exact absurd u n2
        · exact absurd u n15
    have e : sumT tg (Int.toNat 16) = 0 + tg 0 + tg 1 + tg 2 + tg 3 + tg 4 + tg 5 + tg 6 + tg 7 + tg 8 + tg 9 + tg 10 + tg 11 + tg 12 + tg 13 + tg 14 + tg 15 := rfl
    rw [e]
    have z0 := z 0 (by decide) (by decide) (by decide) (by decide)
    have z1 := z 1 (by decide) (by decide) (by decide) (by decide)
    have z3 := z 3 (by decide) (by decide) (by decide) (by decide)
    have z4 := z 4 (by decide) (by decide) (by decide) (by decide)
    have z5 := z 5 (by decide) (by decide) (by decide) (by decide)
    have z6 := z 6 (by decide) (by decide) (by decide) (by decide)
    have z7 := z 7 (by decide) (by decide) (by decide) (by decide)
    have z8 := z 8 (by decide) (by decide) (by decide) (by decide)
    have z9 := z 9 (by decide) (by decide) (by decide) (by decide)
    have z10 := z 10 (by decide) (by decide) (by decide) (by decide)
    have z11 := z 11 (by decide) (by decide) (by decide) (by decide)
    have z12 := z 12 (by decide) (by decide) (by decide) (by decide)
    have z13 := z 13 (by decide) (by decide) (by decide) (by decide)
    have z14 := z 14 (by decide) (by decide) (by decide) (by decide)
    have w2 := h01 2 (by decide) (by decide)
    have w15 := h01 15 (by decide) (by decide)
    omega
  · rw [hd j j0 (by omega)]
    by_cases z : j = 0
    · rw [if_pos z, z]; exact Or.inr rfl
    · rw [if_neg z]; exact Or.inl rfl
  · rw [ht j j0 (by omega)] at q; exact absurd q (by decide)
/-- how the reference stands when it takes its first program -/
def zqY (N : Mem) : Prop := N 0 10 = 16 ∧ (∀ i, 0 ≤ i → i < 16 → N 8 i = sg (zqk i) ∧ N 9 i = if dg (zqk i) = 0 then -4 else zqv i) ∧ N 0 16 = 0 ∧ N 0 9 = 0 ∧ N 0 27 = 0 ∧ N 0 40 = -4 ∧ N 25 0 = 0 ∧ N 1 0 = 2 ∧ N 1 1 = 1 ∧ N 1 2 = 2 ∧ N 1 3 = 2
def zqG (X : Mem) : Prop := ∀ N, zqY N → fMd_takesProgram N (fun _ Y => Rel 0 X Y)
/-- how x stands behind the making of its cells -/
def zqX (M : Mem) : Prop := M 1 1 = 0 ∧ (M 5 0 = 2 ∧ M 5 1 = 1 ∧ M 5 2 = 2 ∧ M 5 3 = 2) ∧ M 5 5 = 0 ∧ M 5 7 = 0 ∧ M 8 0 = 0 ∧ ∀ j, 0 ≤ j → j < 24 → M 6 j = 1
theorem s_initX {M0 : Mem} (h0 : zqX M0) : fSt_initT M0 (fun _ X => zqG X) := by
  obtain ⟨e1, ⟨e50, e51, e52, e53⟩, e55, e57, e80, e6w⟩ := h0
  refine s_lay31 e1 (fun M1 o1 hX1 => s_firstParse hX1 (fun X1 o2 e3 e6 hk => ?_))
  have hkk : HK_p 16 X1 := fun i i0 i1 => by
    obtain ⟨a, b⟩ := hk i i0 i1
    have t := zq_at (i := i) ⟨i0, i1⟩
    rw [a, b]
    exact ⟨t.1, t.2.2.2.2.2.2.2.1⟩
  refine s_depths_p (n := 16) (IV := zqIV) (by decide) e6 hkk e3 (zq_IVs hk) (fun r2 X2 hX2 hY2 => ?_)
  obtain ⟨o3, er, e32, hVI, hlow, h82⟩ := hX2
  obtain ⟨ov, v6, v7, hVF⟩ := hVI
  have hVF3 := hVF.2.2.1
  unfold fTe_empty
  dsimp only
  have oX : Off [1, 2, 3, 4, 13, 14, 15, 16, 17, 18, 19] [] M0 (mu X2 1 1 0) := (((o1.mono (by decide) (by decide)).tr (o2.mono (by decide) (by decide))).tr (o3.mono (by decide) (by decide))).mu (Or.inl (by decide))
  have e8 : (mu X2 1 1 0) 8 0 = 0 := by rw [oX.cell (by decide)]; exact e80
  have x50 : (mu X2 1 1 0) 5 0 = 2 := by rw [oX.cell (by decide)]; exact e50
  have x51 : (mu X2 1 1 0) 5 1 = 1 := by rw [oX.cell (by decide)]; exact e51
  have x52 : (mu X2 1 1 0) 5 2 = 2 := by rw [oX.cell (by decide)]; exact e52
  have x53 : (mu X2 1 1 0) 5 3 = 2 := by rw [oX.cell (by decide)]; exact e53
  refine s_refresh (r := 2) (mv := 1) (ld := 2) (st := 2) (by decide) (by decide) (by decide) (by decide) ⟨x50, x51, x52, x53⟩ (fun z => absurd (e8.symm.trans z) (by decide)) (fun z _ _ _ => absurd (e8.symm.trans z) (by decide)) (fun X6 o6 hMX k17 k18 k7 => ?_)
  obtain ⟨fV, fD, ⟨nt, t1, t2, fG⟩, fS⟩ := hVF.fin (r := 2) (mv := 1) (ld := 2) (st := 2) (w := fun _ => 1) (by decide) (by decide) (by decide) (by decide) (fun _ _ _ => by decide) (by decide) hkk hlow h82
  intro N hN
  obtain ⟨n10, nr, n16, n9, n27, n40, n25, n0, n1, n2, n3⟩ := hN
  have hJA : JA_p 16 X1 N := ⟨n10, fun i i0 i1 => by
    obtain ⟨a, b⟩ := hk i i0 i1
    rw [a, b, (nr i i0 i1).1, (nr i i0 i1).2]
    refine ⟨rfl, fun l => ?_⟩
    have t := zq_at (i := i) ⟨i0, i1⟩
    have := (dg_in t.1).2.2 l
    rw [if_neg (by omega)]⟩
  unfold fMd_takesProgram
  refine hY2 N _ hJA n16 (fun Y3 p3 c3 j3 => ?_)
  have e310 : Y3 0 10 = 16 := by rw [p3.fld (by decide)]; exact n10
  rw [e310]
  refine s_tp15 (n := 16) ⟨by decide, by decide⟩ (fun Y4 p4 g3 g2 g43 g31 g4 gw gr => ?_)
  have p14 : Off [1, 3, 4, 5, 6, 11, 12, 13, 14] [2, 3, 16, 31, 43] N Y4 := (p3.mono (by decide) (by decide)).tr (p4.mono (by decide) (by decide))
  have g1 : ∀ j, j < 4 → Y4 1 j = N 1 j := fun j hj => by rw [g4 j hj, p3.cell (by decide)]
  have jb3 := j3 er
  have m14 : ∀ i, (mu X2 1 1 0) 14 i = X1 14 i := fun i => by rw [mu_cell (by decide), o3.cell (by decide)]
  have m15 : ∀ i, (mu X2 1 1 0) 15 i = X1 15 i := fun i => by rw [mu_cell (by decide), o3.cell (by decide)]
  refine Rel.renew (c := ((2, 1, 2, 2), 16, X1 14, X1 15, X2 17, X2 19, fun _ => 1)) (nt := nt) (t1 := t1) (t2 := t2) ?_ ?_ ?_ ?_ fV fG ?_ ?_ fD ?_ ?_ ?_ o6 hMX k17 k18 k7 g31 ?_ ?_ ?_ g43
  · have x1 : (mu X2 1 1 0) 1 1 = 0 := mu_same _ _ _ _
    exact ⟨by rw [x1, p14.fld (by decide), n9], by rw [x1]; decide, fun i i0 i1 => by rw [x1] at i1; omega⟩
  · have cx : (mu X2 1 1 0) 3 1 = 0 := by rw [mu_cell (by decide)]; exact e32
    have cy : Y4 0 16 = 0 := by rw [p4.fld (by decide), ← c3.1]; exact e32
    exact ⟨by rw [cx, cy], by rw [cx]; decide, fun i i0 i1 => by rw [cx] at i1; omega⟩
  · have r0 : Y4 1 0 = 2 := by rw [g1 0 (by decide)]; exact n0
    have r1 : Y4 1 1 = 1 := by rw [g1 1 (by decide)]; exact n1
    have r2 : Y4 1 2 = 2 := by rw [g1 2 (by decide)]; exact n2
    have r3 : Y4 1 3 = 2 := by rw [g1 3 (by decide)]; exact n3
    refine ⟨by rw [x50, r0], by rw [x51, r1], by rw [x52, r2], by rw [x53, r3], fun i i0 i1 => ?_, by rw [r0]; decide, by rw [r1]; decide, by rw [r2]; decide, by rw [r3]; decide, fun i i0 i1 => by rw [gw i i0 i1]; decide⟩
    rw [oX.cell (by decide), e6w i i0 i1, gw i i0 i1]
  · have x55 : (mu X2 1 1 0) 5 5 = 0 := by rw [oX.cell (by decide)]; exact e55
    have x57 : (mu X2 1 1 0) 5 7 = 0 := by rw [oX.cell (by decide)]; exact e57
    exact ⟨by rw [x55, g2], by rw [x55]; decide, by rw [x57]; decide, fun j j0 j1 => by rw [x55] at j1; omega⟩
  · refine ⟨⟨by rw [g1 0 (by decide)]; exact n0, by rw [g1 1 (by decide)]; exact n1, by rw [g1 2 (by decide)]; exact n2, by rw [g1 3 (by decide)]; exact n3⟩, g3, fun i i0 i1 => ?_⟩
    have i1' : i < 16 := i1
    obtain ⟨q3, q4, q5, q6⟩ := gr i i0 i1'
    obtain ⟨b12, b13, b14⟩ := jb3 i i0 (by omega)
    obtain ⟨a8, a9⟩ := (JA_off_p hJA p3 (by decide)).2 i i0 i1'
    exact ⟨by rw [q3]; exact a8, by rw [q5]; exact b12, by rw [q6]; exact b14, (hVF3 i i0 (by omega)).2, gw i i0 (by omega), fun l => by rw [q4]; exact a9 l⟩
  · refine ⟨by rw [mu_cell (by decide)]; exact v6, fun i i0 i1 => ?_⟩
    have i1' : i < 16 := i1
    refine ⟨m14 i, by rw [mu_cell (by decide)]; rfl, by rw [mu_cell (by decide)]; rfl, (hVF3 i i0 (by omega)).2, by rw [oX.cell (by decide)]; exact e6w i i0 (by omega), fun l => m15 i⟩
  · intro i i0 i1
    have i1' : i < 16 := i1
    obtain ⟨q3, q4, q5, q6⟩ := gr i i0 i1'
    obtain ⟨a, b⟩ := hk i i0 i1'
    have t := zq_at (i := i) ⟨i0, i1'⟩
    show (0 < dg (X1 14 i) → _) ∧ (dg (X1 14 i) = 0 → _) ∧ (dg (X1 14 i) = 1 → _)
    rw [m15 i, q4, p3.cell (by decide), (nr i i0 i1').2, a, b]
    exact ⟨fun w => ⟨by rw [if_neg (by omega)], t.2.2.2.2.2.2.2.2.1⟩, fun w => by rw [if_pos w], t.2.2.2.2.2.2.2.2.2.1⟩
  · rw [mu_cell (by decide)]; exact fS
  · rw [mu_cell (by decide)]; exact hVF.2.1
  · rw [p14.fld (i := 27) (by decide)]; exact Or.inl n27
  · rw [p14.fld (by decide)]; exact n40
  · rw [p14.cell (by decide), n25]; decide
