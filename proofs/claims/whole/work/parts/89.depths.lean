/-! depths: the reference takes an instruction -/
/-- a flaw at an instruction -/
def FA (k : Int) (dep : Int → Int) (i : Int) : Prop := dep i < tk k ∨ 12 < dep i - tk k + cm k
def FB (n i k : Int) (dep : Int → Int) : Prop := fallsK n i k = true ∧ dep (i + 1) ≠ -4 ∧ dep (i + 1) ≠ dep i - tk k + cm k
def FC (n i k t : Int) (dep : Int → Int) : Prop := leadsK k = true ∧ ¬ (fallsK n i k = true ∧ t = i + 1) ∧ dep t ≠ -4 ∧ dep t ≠ dep i - tk k + cm k
def FLw (n i k t : Int) (dep : Int → Int) (a b : Int) : Prop := (FA k dep i ∧ a = 22 ∧ b = i) ∨ (¬ FA k dep i ∧ FB n i k dep ∧ a = 21 ∧ b = i + 1) ∨ (¬ FA k dep i ∧ ¬ FB n i k dep ∧ FC n i k t dep ∧ a = 21 ∧ b = t)
def FN (n i k t : Int) (dep : Int → Int) : Prop := ¬ FA k dep i ∧ ¬ FB n i k dep ∧ ¬ FC n i k t dep
/-- the depths behind it -/
def dpN (n i k t : Int) (dep : Int → Int) (j : Int) : Int := if (fallsK n i k = true ∧ j = i + 1) ∨ (leadsK k = true ∧ j = t) then dep i - tk k + cm k else dep j
def tgN (k t : Int) (tg : Int → Int) (j : Int) : Int := if leadsK k = true ∧ j = t then 1 else tg j
theorem tkcm : ∀ k : Fin 15, (0 ≤ tk ((k.val : Nat) : Int) ∧ tk ((k.val : Nat) : Int) ≤ 3) ∧ (0 ≤ cm ((k.val : Nat) : Int) ∧ cm ((k.val : Nat) : Int) ≤ 3) := by decide +kernel
theorem tk_cm {k : Int} (hk : 0 ≤ k ∧ k < 15) : (0 ≤ tk k ∧ tk k ≤ 3) ∧ (0 ≤ cm k ∧ cm k ≤ 3) := by
  obtain ⟨a, e⟩ := i_fin (n := 15) (x := k) ⟨by omega, by omega⟩
  rw [e]; exact tkcm a
theorem fallsK_iff {n i k : Int} : fallsK n i k = true ↔ (k ≠ 11 ∧ k ≠ 14 ∧ i + 1 < n) := by
  unfold fallsK
  simp only [Bool.and_eq_true, decide_eq_true_eq, and_assoc]
theorem leadsK_iff {k : Int} : leadsK k = true ↔ (k = 11 ∨ k = 12) := by
  unfold leadsK
  simp only [Bool.or_eq_true, decide_eq_true_eq]
theorem mu_id {M : Mem} {c : Nat} {i v : Int} (h : M c i = v) : mu M c i v = M := by
  funext d j
  unfold mu
  by_cases z : d = c ∧ j = i
  · rw [if_pos z, z.1, z.2, h]
  · rw [if_neg z]
section P
variable {X Y : Mem} {n i k t : Int} {R K : Int → Mem → Prop}
theorem s_goesOnR {w : Int} (hk : 0 ≤ k ∧ k < 15) (hi : 0 ≤ i ∧ i < n) (hn : n ≤ 24) (e8 : Y 8 i = sg k) (h0 : w ≠ 1 → R (if fallsK n i k then i + 1 else -4) Y) (h1 : w = 1 → R (if leadsK k then Y 9 i else -4) Y) : fMd_goesOn_r i w n Y R := by
  have g11 : sg 11 = 106 := sg_tab.2.2.2.2.2.2.2.2.2.2.2.1
  have g14 : sg 14 = 104 := sg_tab.2.2.2.2.2.2.2.2.2.2.2.2.2.2
  have k106 : sg k = 106 ↔ k = 11 := by rw [← g11]; exact sg_iff hk (by decide)
  have k104 : sg k = 104 ↔ k = 14 := by rw [← g14]; exact sg_iff hk (by decide)
  have i24 : inb i 24 := ⟨by omega, by omega⟩
  unfold fMd_goesOn_r fMd_goesOn_r_47
  rw [e8, wrapI (z := i + 1) (by omega) (by omega)]
  refine ⟨fun w1 => ?_, fun w1 => ⟨i24, ?_⟩⟩
  · have h0 := h0 w1
    have hf : ¬ (k ≠ 11 ∧ k ≠ 14 ∧ i + 1 < n) → R (-4) Y := fun q => by rw [if_neg (fun y => q (fallsK_iff.mp y))] at h0; exact h0
    refine ⟨i24, fun y => hf (fun q => q.1 (k106.mp y)), fun y1 => ⟨i24, fun y => hf (fun q => q.2.1 (k104.mp y)), fun y2 => ⟨fun y3 => ?_, fun y3 => hf (fun q => by omega)⟩⟩⟩
    rw [if_pos (fallsK_iff.mpr ⟨fun q => y1 (k106.mpr q), fun q => y2 (k104.mpr q), by omega⟩)] at h0
    exact h0
  · have h1 := h1 w1
    refine s_isJump2 hk (fun l => ⟨fun z => absurd z (by decide), fun _ => ⟨i24, ?_⟩⟩) (fun l => ⟨fun _ => ?_, fun z => absurd rfl z⟩)
    · rw [if_pos l] at h1; exact h1
    · rw [if_neg (by rw [l]; decide)] at h1; exact h1
def FY (i a b : Int) (Y Y' : Mem) : Prop := Off [11, 12, 13, 14] [16] Y Y' ∧ (∀ j, Y' 13 j = if j = i then 1 else Y 13 j) ∧ (∀ j, Y' 14 j = Y 14 j) ∧ Y' 0 16 = 3 ∧ Y' 11 0 = 3 ∧ Y' 11 1 = a ∧ Y' 11 2 = 30 + b
theorem FY_rf {a b : Int} {Y1 : Mem} (o : Off [12, 13, 14] [] Y Y1) (h13 : ∀ j, Y1 13 j = if j = i then 1 else Y 13 j) (h14 : ∀ j, Y1 14 j = Y 14 j) : FY i a b Y (mRf 3 a (30 + b) 3 Y1) := ⟨(o.mono (by decide) (by decide)).tr (off_rf.mono (by decide) (by decide)), fun j => by rw [off_rf.cell (by decide)]; exact h13 j, fun j => by rw [off_rf.cell (by decide)]; exact h14 j, by simp [mRf, mu], by simp [mRf, mu], by simp [mRf, mu], by simp [mRf, mu]⟩
def SY (n i k t : Int) (Y Y' : Mem) : Prop := Off [12, 13, 14] [] Y Y' ∧ (∀ j, Y' 12 j = dpN n i k t (Y 12) j) ∧ (∀ j, Y' 13 j = if j = i then 1 else Y 13 j) ∧ (∀ j, Y' 14 j = tgN k t (Y 14) j)
theorem s_takesOne (hk : 0 ≤ k ∧ k < 15) (hi : 0 ≤ i ∧ i < n) (hn : n ≤ 24) (e8 : Y 8 i = sg k) (e10 : Y 0 10 = n) (e9 : leadsK k = true → Y 9 i = t ∧ 0 ≤ t ∧ t < n) (hd : 0 ≤ Y 12 i ∧ Y 12 i ≤ 12)
    (gF : ∀ a b Y', FLw n i k t (Y 12) a b → FY i a b Y Y' → R 0 Y') (gS : FN n i k t (Y 12) → ∀ Y', SY n i k t Y Y' → R 1 Y') : fMd_takesOne i Y R := by
  have i24 : inb i 24 := ⟨by omega, by omega⟩
  have tc := tk_cm hk
  unfold fMd_takesOne
  rw [e8]
  have o13 : Off [12, 13, 14] [] Y (mu Y 13 i 1) := (Off.rf _ _ _).mu (Or.inl (by decide))
  have m13 : ∀ j, (mu Y 13 i 1) 13 j = if j = i then 1 else Y 13 j := fun j => by
    by_cases q : j = i
    · rw [q, mu_same, if_pos rfl]
    · rw [mu_place q, if_neg q]
  have e8' : (mu Y 13 i 1) 8 i = sg k := by rw [mu_cell (by decide)]; exact e8
  have e12' : (mu Y 13 i 1) 12 = Y 12 := mu_fun (by decide)
  refine ⟨i24, i24, i24, s_takes hk ⟨i24, ?_⟩⟩
  rw [e8']
  refine s_comes hk ⟨i24, i24, ?_⟩
  rw [e8']
  refine s_takes hk ?_
  rw [e12', wrapI (z := Y 12 i - tk k) (by omega) (by omega), wrapI (z := Y 12 i - tk k + cm k) (by omega) (by omega)]
  have badA : FA k (Y 12) i → fMd_takesOne_58 R i (mu Y 13 i 1) := fun hA => by
    unfold fMd_takesOne_58
    rw [wrapI (z := 30 + i) (by omega) (by omega)]
    exact s_refuses3 (by decide) (by omega) (gF 22 i _ (Or.inl ⟨hA, rfl, rfl⟩) (FY_rf o13 m13 (fun j => mu_cell (by decide))))
  refine ⟨fun z => badA (Or.inl z), fun z1 => ⟨fun z2 => ⟨3, ?_⟩, fun z2 => badA (Or.inr (by omega))⟩⟩
  have hA : ¬ FA k (Y 12) i := fun q => by rcases q with q | q <;> omega
  have a0 : 0 ≤ Y 12 i - tk k + cm k := by omega
  -- the second way
  have way1 : ∀ Y1, Off [12, 13, 14] [] Y Y1 → ¬ FB n i k (Y 12) → (∀ j, Y1 12 j = if fallsK n i k = true ∧ j = i + 1 then Y 12 i - tk k + cm k else Y 12 j) → (∀ j, Y1 13 j = if j = i then 1 else Y 13 j) → (∀ j, Y1 14 j = Y 14 j) → fMd_takesOne_74 R 2 i (Y 12 i - tk k + cm k) 1 Y1 := by
    intro Y1 o1 hB y12 y13 y14
    refine ⟨fun z => by omega, fun _ => ?_⟩
    rw [o1.fld (i := 10) (by decide), e10]
    refine s_goesOnR hk hi hn (by rw [o1.cell (by decide)]; exact e8) (fun z => absurd rfl z) (fun _ => ?_)
    rw [o1.cell (c := 9) (by decide)]
    cases hl : leadsK k with
    | false =>
      rw [if_neg (by decide)]
      refine ⟨fun _ => ⟨fun _ => ?_, fun z => absurd rfl z⟩, fun z => absurd rfl z⟩
      unfold fMd_takesOne_181
      rw [wrapI (z := 1 + 1) (by omega) (by omega)]
      refine ⟨fun _ => gS ⟨hA, hB, fun q => by have := q.1; rw [hl] at this; exact absurd this (by decide)⟩ Y1 ⟨o1, fun j => ?_, y13, fun j => ?_⟩, fun z => absurd (by decide) z⟩
      · rw [y12 j]; unfold dpN
        rw [hl]
        by_cases q : fallsK n i k = true ∧ j = i + 1
        · rw [if_pos q, if_pos (Or.inl q)]
        · rw [if_neg q, if_neg (fun w => by rcases w with w | w; exact q w; exact absurd w.1 (by decide))]
      · rw [y14 j]; unfold tgN
        rw [hl, if_neg (fun w => absurd w.1 (by decide))]
    | true =>
      obtain ⟨t1, t2, t3⟩ := e9 hl
      rw [if_pos rfl, t1]
      have good : ¬ FC n i k t (Y 12) → fMd_takesOne_143 (fMd_takesOne_74 R 1) R i (Y 12 i - tk k + cm k) 1 t Y1 := by
        intro hC
        refine ⟨fun z => by omega, fun _ => ⟨⟨by omega, by omega⟩, fun z => absurd rfl z, fun _ => ⟨⟨by omega, by omega⟩, ?_⟩⟩⟩
        unfold fMd_takesOne_181
        rw [wrapI (z := 1 + 1) (by omega) (by omega)]
        refine ⟨fun _ => gS ⟨hA, hB, hC⟩ _ ⟨(o1.mu (Or.inl (by decide))).mu (Or.inl (by decide)), fun j => ?_, fun j => ?_, fun j => ?_⟩, fun z => absurd (by decide) z⟩
        · rw [mu_cell (by decide)]
          unfold dpN
          by_cases q : j = t
          · rw [q, mu_same, if_pos (Or.inr ⟨hl, rfl⟩)]
          · rw [mu_place q, y12 j]
            by_cases w : fallsK n i k = true ∧ j = i + 1
            · rw [if_pos w, if_pos (Or.inl w)]
            · rw [if_neg w, if_neg (fun u => by rcases u with u | u; exact w u; exact q u.2)]
        · rw [mu_cell (by decide), mu_cell (by decide)]; exact y13 j
        · unfold tgN
          by_cases q : j = t
          · rw [q, mu_same, if_pos ⟨hl, rfl⟩]
          · rw [mu_place q, mu_cell (by decide), y14 j, if_neg (fun u => q u.2)]
      have e12t := y12 t
      refine ⟨fun z => by omega, fun _ => ⟨⟨by omega, by omega⟩, fun z => good (fun q => ?_), fun z => ⟨⟨by omega, by omega⟩, fun y => good (fun q => ?_), fun y => ?_⟩⟩⟩
      · rw [e12t, if_neg q.2.1] at z; exact q.2.2.1 z
      · rw [e12t, if_neg q.2.1] at y; exact q.2.2.2 y
      · rw [wrapI (z := 30 + t) (by omega) (by omega)]
        refine s_refuses3 (by decide) (by omega) (gF 21 t _ (Or.inr (Or.inr ⟨hA, hB, ⟨hl, ?_, ?_, ?_⟩, rfl, rfl⟩)) (FY_rf o1 y13 y14))
        · intro q; rw [e12t, if_pos q] at y; exact y rfl
        · by_cases q : fallsK n i k = true ∧ t = i + 1
          · rw [e12t, if_pos q] at y; exact absurd rfl y
          · rw [e12t, if_neg q] at z; exact z
        · by_cases q : fallsK n i k = true ∧ t = i + 1
          · rw [e12t, if_pos q] at y; exact absurd rfl y
          · rw [e12t, if_neg q] at y; exact y
  -- the first way
  refine ⟨fun z => absurd z (by decide), fun _ => ?_⟩
  rw [o13.fld (i := 10) (by decide), e10]
  refine s_goesOnR hk hi hn e8' (fun _ => ?_) (fun z => absurd z (by decide))
  cases hf : fallsK n i k with
  | false =>
    rw [if_neg (by decide)]
    refine ⟨fun _ => ⟨fun _ => ?_, fun z => absurd rfl z⟩, fun z => absurd rfl z⟩
    unfold fMd_takesOne_181
    rw [wrapI (z := 0 + 1) (by omega) (by omega)]
    refine way1 _ o13 (fun q => by have := q.1; rw [hf] at this; exact absurd this (by decide)) (fun j => ?_) (fun j => ?_) (fun j => ?_)
    · rw [e12', hf, if_neg (fun w => absurd w.1 (by decide))]
    · by_cases q : j = i
      · rw [q, mu_same, if_pos rfl]
      · rw [mu_place q, if_neg q]
    · rw [mu_cell (by decide)]
  | true =>
    rw [if_pos rfl]
    have hi1 := (fallsK_iff.mp hf).2.2
    have i1 : inb (i + 1) 24 := ⟨by omega, by omega⟩
    have good : ¬ FB n i k (Y 12) → fMd_takesOne_143 (fMd_takesOne_74 R 2) R i (Y 12 i - tk k + cm k) 0 (i + 1) (mu Y 13 i 1) := by
      intro hB
      refine ⟨fun z => by omega, fun _ => ⟨i1, fun _ => ⟨i1, i1, ?_⟩, fun z => absurd z (by decide)⟩⟩
      unfold fMd_takesOne_181
      rw [wrapI (z := 0 + 1) (by omega) (by omega), mu_cell (d := 14) (c := 13) (by decide)]
      refine way1 _ ((o13.mu (Or.inl (by decide))).mu (Or.inl (by decide))) hB (fun j => ?_) (fun j => ?_) (fun j => ?_)
      · rw [mu_cell (by decide)]
        by_cases q : j = i + 1
        · rw [q, mu_same, if_pos ⟨hf, rfl⟩]
        · rw [mu_place q, e12', if_neg (fun w => q w.2)]
      · rw [mu_cell (by decide), mu_cell (by decide)]
        by_cases q : j = i
        · rw [q, mu_same, if_pos rfl]
        · rw [mu_place q, if_neg q]
      · by_cases q : j = i + 1
        · rw [q, mu_same]
        · rw [mu_place q, mu_cell (by decide), mu_cell (by decide)]
    refine ⟨fun z => by omega, fun _ => ⟨i1, fun z => good (fun q => ?_), fun z => ⟨i1, fun y => good (fun q => ?_), fun y => ?_⟩⟩⟩
    · rw [e12'] at z; exact q.2.1 z
    · rw [e12'] at y; exact q.2.2 y
    · rw [e12'] at z y
      rw [wrapI (z := 30 + (i + 1)) (by omega) (by omega)]
      exact s_refuses3 (by decide) (by omega) (gF 21 (i + 1) _ (Or.inr (Or.inl ⟨hA, ⟨hf, z, y⟩, rfl, rfl⟩)) (FY_rf o13 m13 (fun j => mu_cell (by decide))))
/-- the lowest instruction that is reached and not considered -/
def isLow (n : Int) (dep con : Int → Int) (v : Int) : Prop := (v = -4 ∧ ∀ j, 0 ≤ j → j < n → dep j = -4 ∨ con j ≠ 0) ∨ (0 ≤ v ∧ v < n ∧ dep v ≠ -4 ∧ con v = 0 ∧ ∀ j, 0 ≤ j → j < v → dep j = -4 ∨ con j ≠ 0)
theorem isLow_unique {n v w : Int} {dep con : Int → Int} (h : isLow n dep con v) (h' : isLow n dep con w) : v = w := by
  rcases h with ⟨a1, a2⟩ | ⟨a1, a2, a3, a4, a5⟩ <;> rcases h' with ⟨b1, b2⟩ | ⟨b1, b2, b3, b4, b5⟩
  · omega
  · rcases a2 w b1 b2 with z | z
    · exact absurd z b3
    · exact absurd b4 z
  · rcases b2 v a1 a2 with z | z
    · exact absurd z a3
    · exact absurd a4 z
  · by_cases q : v < w
    · rcases b5 v a1 q with z | z
      · exact absurd z a3
      · exact absurd a4 z
    · by_cases q2 : w < v
      · rcases a5 w b1 q2 with z | z
        · exact absurd z b3
        · exact absurd b4 z
      · omega
theorem s_lowest (hn : 0 ≤ n ∧ n ≤ 24) (e10 : Y 0 10 = n) (h01 : ∀ j, 0 ≤ j → j < n → Y 13 j = 0 ∨ Y 13 j = 1) (h : ∀ v, isLow n (Y 12) (Y 13) v → R v Y) : fMd_lowest Y R := by
  have key : ∀ (d : Nat) (x : Int), 0 ≤ x → x + d = n → (∀ j, 0 ≤ j → j < x → Y 12 j = -4 ∨ Y 13 j ≠ 0) → fMd_lowest_2 R (d + 1) x Y := by
    intro d
    induction d with
    | zero =>
      intro x x0 xd hj
      unfold fMd_lowest_2 fMd_lowest_37
      rw [e10]
      exact ⟨fun _ => ⟨fun _ => h _ (Or.inl ⟨rfl, fun j j0 j1 => hj j j0 (by omega)⟩), fun z => by omega⟩, fun z => by omega⟩
    | succ d ih =>
      intro x x0 xd hj
      have nx : (Y 12 x = -4 ∨ Y 13 x ≠ 0) → fMd_lowest_31 (fMd_lowest_2 R (d + 1)) R x Y := by
        intro q
        unfold fMd_lowest_31
        rw [wrapI (z := x + 1) (by omega) (by omega)]
        refine ih (x + 1) (by omega) (by omega) (fun j j0 j1 => ?_)
        by_cases y : j = x
        · rw [y]; exact q
        · exact hj j j0 (by omega)
      unfold fMd_lowest_2 fMd_lowest_37
      rw [e10]
      have := h01 x x0 (by omega)
      refine ⟨fun z => by omega, fun _ => ⟨⟨by omega, by omega⟩, fun z => nx (Or.inl z), fun z => ⟨⟨by omega, by omega⟩, fun y => ⟨fun w => by omega, fun _ => h x (Or.inr ⟨x0, by omega, z, by omega, hj⟩)⟩, fun y => nx (Or.inr (by omega))⟩⟩⟩
  exact ⟨n.toNat + 1, key n.toNat 0 (by omega) (by omega) (fun j j0 j1 => by omega)⟩
/-- the targets are counted -/
theorem s_fd74 {x1 N : Int} (hn : 0 ≤ n ∧ n ≤ 24) (e10 : Y 0 10 = n) (h01 : ∀ j, 0 ≤ j → j < n → Y 14 j = 0 ∨ Y 14 j = 1) (eN : N = sumT (Y 14) n.toNat)
    (h0 : x1 = 0 → R 0 Y) (h1 : x1 ≠ 0 → (N ≤ 2 → R 1 Y) ∧ (¬ N ≤ 2 → R 0 (mRf 3 23 (30 + N) 3 Y))) : fMd_findsDepths_74 R x1 Y := by
  have b : ∀ m : Nat, (m : Int) ≤ n → 0 ≤ sumT (Y 14) m ∧ sumT (Y 14) m ≤ m := by
    intro m hm
    have a := sumT_nonneg (f := Y 14) (n := m) (fun j hj => by have := h01 j (by omega) (by omega); omega)
    have b := sumT_le (f := Y 14) (b := 1) (n := m) (fun j hj => by have := h01 j (by omega) (by omega); omega)
    exact ⟨a, by omega⟩
  have key : ∀ (d : Nat) (s x : Int), 0 ≤ x → x + d = n → s = sumT (Y 14) x.toNat → fMd_findsDepths_79 R (d + 1) x1 s x Y := by
    intro d
    induction d with
    | zero =>
      intro s x x0 xd hs
      have e : x = n := by omega
      rw [e, ← eN] at hs
      have bN := b n.toNat (by omega)
      unfold fMd_findsDepths_79 fMd_findsDepths_125 fMd_findsDepths_138
      rw [e10, hs]
      refine ⟨fun _ => ⟨fun z => ⟨fun _ => h0 z, fun y => absurd z y⟩, fun z => ⟨fun y => ⟨fun w => absurd w z, fun _ => ⟨fun w => by omega, fun _ => (h1 z).1 y⟩⟩, fun y => ?_⟩⟩, fun z => by omega⟩
      rw [wrapI (z := 30 + N) (by omega) (by omega)]
      exact s_refuses3 (by decide) (by omega) ⟨fun w => absurd w z, fun _ => ⟨fun _ => (h1 z).2 y, fun w => by omega⟩⟩
    | succ d ih =>
      intro s x x0 xd hs
      unfold fMd_findsDepths_79
      rw [e10]
      have b1 := b x.toNat (by omega)
      have := h01 x x0 (by omega)
      refine ⟨fun z => by omega, fun _ => ⟨⟨by omega, by omega⟩, ?_⟩⟩
      rw [wrapI (z := x + 1) (by omega) (by omega), wrapI (z := s + Y 14 x) (by omega) (by omega)]
      exact ih _ _ (by omega) (by omega) (by rw [sumT_next x0, hs])
  exact ⟨n.toNat + 1, key n.toNat 0 0 (by omega) (by omega) rfl⟩
/-- the beginning -/
theorem s_fd2 (h : ∀ Y1, Off [12, 13, 14] [] Y Y1 → (∀ j, 0 ≤ j → j < 24 → Y1 12 j = (if j = 0 then 0 else -4) ∧ Y1 13 j = 0 ∧ Y1 14 j = 0) → fMd_lowest Y1 (fun r1 M1 => ∃ n6, fMd_findsDepths_50 R n6 1 r1 M1)) : fMd_findsDepths Y R := by
  have key : ∀ (d : Nat) (x : Int) (M : Mem), 0 ≤ x → x + d = 24 → Off [12, 13, 14] [] Y M → (∀ j, 0 ≤ j → j < x → M 12 j = -4 ∧ M 13 j = 0 ∧ M 14 j = 0) → fMd_findsDepths_2 R (d + 1) x M := by
    intro d
    induction d with
    | zero =>
      intro x M x0 xd ho hj
      refine ⟨fun _ => h _ (ho.mu (Or.inl (by decide))) (fun j j0 j1 => ?_), fun z => by omega⟩
      obtain ⟨a1, a2, a3⟩ := hj j j0 (by omega)
      rw [mu_cell (d := 13) (by decide), mu_cell (d := 14) (by decide)]
      refine ⟨?_, a2, a3⟩
      by_cases z : j = 0
      · rw [z, mu_same, if_pos rfl]
      · rw [mu_place z, if_neg z]; exact a1
    | succ d ih =>
      intro x M x0 xd ho hj
      refine ⟨fun z => by omega, fun _ => ⟨⟨by omega, by omega⟩, ⟨by omega, by omega⟩, ⟨by omega, by omega⟩, ?_⟩⟩
      rw [wrapI (z := x + 1) (by omega) (by omega)]
      refine ih (x + 1) _ (by omega) (by omega) (((ho.mu (Or.inl (by decide))).mu (Or.inl (by decide))).mu (Or.inl (by decide))) (fun j j0 j1 => ?_)
      by_cases z : j = x
      · simp [mu, z]
      · have := hj j j0 (by omega)
        simpa [mu, z] using this
  exact ⟨24 + 1, key 24 0 Y (by omega) (by omega) (Off.rf _ _ _) (fun j j0 j1 => by omega)⟩
def xFl (a b : Int) (X : Mem) : Mem := mu (mu (mu (mu (mu (mu X 3 1 1) 4 0 3) 3 1 2) 4 1 a) 3 1 3) 4 2 (30 + b)
theorem s_flawed {a b : Int} (e3 : X 3 1 = 0) (hb : 0 ≤ b ∧ b ≤ 100) (h : R 0 (xFl a b X)) : fPr_flawed a b X R := by
  refine s_append e3 (by decide) (l' := 1) (by decide) (s_append (l := 1) (l' := 2) (by simp [mu]) (by decide) (by decide) (s_append (l := 2) (l' := 3) (by simp [mu]) (by decide) (by decide) ?_))
  rw [wrapI (z := 30 + b) (by omega) (by omega)]
  exact h
theorem off_fl {a b : Int} : Off [3, 4] [] X (xFl a b X) := (((((((Off.rf _ _ _).mu (Or.inl (by decide))).mu (Or.inl (by decide))).mu (Or.inl (by decide))).mu (Or.inl (by decide))).mu (Or.inl (by decide))).mu (Or.inl (by decide)))
theorem RCa_fl {a b : Int} {X' Y' : Mem} (x1 : X' 3 1 = 3) (x2 : X' 4 0 = 3) (x3 : X' 4 1 = a) (x4 : X' 4 2 = 30 + b) (y1 : Y' 0 16 = 3) (y2 : Y' 11 0 = 3) (y3 : Y' 11 1 = a) (y4 : Y' 11 2 = 30 + b) : RCa X' Y' := by
  refine ⟨by rw [x1, y1], by rw [x1]; decide, fun i i0 i1 => ?_⟩
  rw [x1] at i1
  have : i = 0 ∨ i = 1 ∨ i = 2 := by omega
  rcases this with z | z | z <;> subst z
  · rw [x2, y2]
  · rw [x3, y3]
  · rw [x4, y4]
end P
