/-! reading a text: both -/
section P
variable {X Y : Mem} {T : Int → Int} {L n : Int} {R K : Int → Mem → Prop}
def XRow (i : Int) (X : Mem) : Prop := (0 ≤ X 21 i ∧ X 21 i < 15) ∧ (0 < dg (X 21 i) → 0 ≤ X 22 i ∧ X 22 i ≤ 99) ∧ (dg (X 21 i) = 1 → X 22 i ≤ 3) ∧ 0 ≤ X 23 i
def JRow (i : Int) (X Y : Mem) : Prop := Y 8 i = sg (X 21 i) ∧ X 23 i = Y 10 i ∧ (0 < dg (X 21 i) → X 22 i = Y 9 i) ∧ (dg (X 21 i) = 0 → Y 9 i = -4)
def JQ (X Y : Mem) : Prop := Y 0 10 = X 20 6 ∧ ∀ i, 0 ≤ i → i < X 20 6 → JRow i X Y
def xFa (e : Int) (X : Mem) : Mem := mu (mu (mu (mu X 3 1 1) 4 0 1) 3 1 2) 4 1 e
def mRf (a b d k : Int) (Y : Mem) : Mem := mu (mu (mu (mu Y 11 0 a) 11 1 b) 11 2 d) 0 16 k
theorem s_append {v l l' : Int} (e : X 3 1 = l) (hl : 0 ≤ l ∧ l < 3) (el : l' = l + 1) (h : R 0 (mu (mu X 3 1 l') 4 l v)) : fCa_append v X R := by
  unfold fCa_append
  rw [e, wrapI (z := l + 1) (by omega) (by omega), ← el]
  exact ⟨fun z => by omega, fun _ => ⟨⟨by omega, by omega⟩, h⟩⟩
theorem s_faulty {p e : Int} (e3 : X 3 1 = 0) (h : R p (xFa e X)) : fPr_faulty p e X R := by
  refine s_append e3 (by decide) (l' := 1) (by decide) (s_append (l := 1) (l' := 2) (by simp [mu]) (by decide) (by decide) h)
theorem s_refuses2 {a b : Int} (hb : b ≠ 0) (h : R (-2) (mRf a b 0 2 Y)) : fMd_refuses a b 0 Y R := ⟨fun _ => ⟨fun z => absurd rfl z, fun _ => h⟩, fun z => absurd z hb⟩
theorem s_refuses3 {a b d : Int} (hb : b ≠ 0) (hd : d ≠ 0) (h : R (-2) (mRf a b d 3 Y)) : fMd_refuses a b d Y R := ⟨fun _ => ⟨fun _ => h, fun z => absurd z hd⟩, fun z => absurd z hb⟩
theorem s_refuses1 {a d : Int} (h : R (-2) (mRf a 0 d 1 Y)) : fMd_refuses a 0 d Y R := ⟨fun z => absurd rfl z, fun _ => h⟩
theorem RCa_fa {e : Int} : RCa (xFa e X) (mRf 1 e 0 2 Y) := by
  refine ⟨by simp [xFa, mRf, mu], by simp [xFa, mu], fun i i0 i1 => ?_⟩
  have : i = 0 ∨ i = 1 := by simp [xFa, mu] at i1; omega
  rcases this with z | z <;> subst z <;> simp [xFa, mRf, mu]
theorem off_fa {e : Int} : Off [3, 4] [] X (xFa e X) := (((((Off.rf _ _ _).mu (Or.inl (by decide))).mu (Or.inl (by decide))).mu (Or.inl (by decide))).mu (Or.inl (by decide)))
theorem off_rf {a b d k : Int} : Off [11] [16] Y (mRf a b d k Y) := (((((Off.rf _ _ _).mu (Or.inl (by decide))).mu (Or.inl (by decide))).mu (Or.inl (by decide))).mu (Or.inr (by decide)))
theorem s_isJump2 {k : Int} (hk : 0 ≤ k ∧ k < 15) (h1 : leadsK k = true → R 1 Y) (h0 : leadsK k = false → R 0 Y) : fMd_isJump (sg k) Y R := by
  have g11 : sg 11 = 106 := sg_tab.2.2.2.2.2.2.2.2.2.2.2.1
  have g12 : sg 12 = 98 := sg_tab.2.2.2.2.2.2.2.2.2.2.2.2.1
  have k106 : sg k = 106 ↔ k = 11 := by rw [← g11]; exact sg_iff hk (by decide)
  have k98 : sg k = 98 ↔ k = 12 := by rw [← g12]; exact sg_iff hk (by decide)
  have a : leadsK k = true ↔ (k = 11 ∨ k = 12) := by unfold leadsK; simp only [Bool.or_eq_true, decide_eq_true_eq]
  have h0' : ¬ (k = 11 ∨ k = 12) → R 0 Y := fun z => h0 (by
    cases e : leadsK k with
    | false => rfl
    | true => exact absurd (a.mp e) z)
  exact ⟨fun z => h1 (a.mpr (Or.inl (k106.mp z))), fun z => ⟨fun z2 => h0' (fun q => by rcases q with q | q; exact z (k106.mpr q); exact z2 (k98.mpr q)), fun z2 => h1 (a.mpr (Or.inr (k98.mp z2)))⟩⟩
theorem s_tg82 (e6 : X 20 6 = n) (hn : 0 ≤ n ∧ n ≤ 24) (e3 : X 3 1 = 0) (hr : ∀ i, 0 ≤ i → i < n → XRow i X) : ∀ (d : Nat) (i : Int), 0 ≤ i → i + d = n → (∀ j, 0 ≤ j → j < i → leadsK (X 21 j) = true → X 22 j < n) →
    (∀ r X1, ((r = -4 ∧ X1 = X ∧ (∀ j, 0 ≤ j → j < n → leadsK (X 21 j) = true → X 22 j < n)) ∨ (0 ≤ r ∧ X1 = xFa 14 X)) → (∀ Y (S : Int → Mem → Prop), JQ X Y → S r (if r = -4 then Y else mRf 1 14 0 2 Y) → fMd_finds_53 S (d + 1) i Y) → K r X1) → fPr_parse_d_82 K (d + 1) i X := by
  intro d
  induction d with
  | zero =>
    intro i i0 id hj hK
    have e : i = n := by omega
    unfold fPr_parse_d_82
    rw [e6]
    refine ⟨fun _ => hK _ _ (Or.inl ⟨rfl, rfl, fun j j0 j1 => hj j j0 (by omega)⟩) (fun Y S hJ hS => ?_), fun z => by omega⟩
    unfold fMd_finds_53
    rw [hJ.1, e6]
    rw [if_pos rfl] at hS
    exact ⟨fun _ => hS, fun z => by omega⟩
  | succ d ih =>
    intro i i0 id hj hK
    obtain ⟨hk, h99, h3, h23⟩ := hr i i0 (by omega)
    unfold fPr_parse_d_82
    rw [e6]
    have i24 : inb i 24 := ⟨by omega, by omega⟩
    have next : (leadsK (X 21 i) = true → X 22 i < n) → fPr_parse_d_128 (fPr_parse_d_82 K (d + 1)) K i X := by
      intro hl
      unfold fPr_parse_d_128
      rw [wrapI (z := i + 1) (by omega) (by omega)]
      refine ih (i + 1) (by omega) (by omega) (fun j j0 j1 => ?_) (fun r X1 hX1 hY => hK r X1 hX1 (fun Y S hJ hS => ?_))
      · by_cases y : j = i
        · rw [y]; exact hl
        · exact hj j j0 (by omega)
      · have hnx := hY Y S hJ hS
        obtain ⟨j1, j2, j3, j4⟩ := hJ.2 i i0 (by omega)
        unfold fMd_finds_53
        rw [hJ.1, e6, j1]
        have nx : fMd_finds_102 (fMd_finds_53 S (d + 1)) S i Y := by
          unfold fMd_finds_102
          rw [wrapI (z := i + 1) (by omega) (by omega)]; exact hnx
        refine ⟨fun z => by omega, fun _ => ⟨i24, s_isJump2 hk (fun l => ⟨fun z => absurd z (by decide), fun _ => ⟨i24, fun _ => nx, fun z => ?_⟩⟩) (fun l => ⟨fun _ => nx, fun z => absurd rfl z⟩)⟩⟩
        have l2 := (dg_in hk).2.2 l
        have := hl l
        rw [← j3 (by omega), hJ.1, e6] at z
        exact absurd this z
    refine ⟨fun z => by omega, fun _ => s_leads_d ⟨i0, by omega⟩ (fun l => ⟨fun z => absurd z (by decide), fun _ => ⟨i24, ?_⟩⟩) (fun l => ⟨fun _ => next (fun q => by rw [l] at q; exact absurd q (by decide)), fun z => absurd rfl z⟩)⟩
    rw [e6]
    refine ⟨fun z => next (fun _ => z), fun z => ⟨i24, s_faulty e3 (hK _ _ (Or.inr ⟨h23, rfl⟩) (fun Y S hJ hS => ?_))⟩⟩
    obtain ⟨j1, j2, j3, j4⟩ := hJ.2 i i0 (by omega)
    rw [if_neg (by omega)] at hS
    unfold fMd_finds_53
    rw [hJ.1, e6, j1]
    have l2 := (dg_in hk).2.2 l
    refine ⟨fun z => by omega, fun _ => ⟨i24, s_isJump2 hk (fun _ => ⟨fun z => absurd z (by decide), fun _ => ⟨i24, fun y => ?_, fun _ => s_refuses2 (by decide) ⟨i24, ?_⟩⟩⟩) (fun l0 => by rw [l0] at l; exact absurd l (by decide))⟩⟩
    · rw [← j3 (by omega), hJ.1, e6] at y; exact absurd y z
    · rw [off_rf.cell (c := 10) (by decide), ← j2]; exact hS
def QXp (r : Int) (X X1 : Mem) : Prop := Off [3, 4, 20, 21, 22, 23] [] X X1 ∧ (r = -4 ∨ 0 ≤ r) ∧ (r = -4 → X1 3 1 = 0 ∧ (0 ≤ X1 20 6 ∧ X1 20 6 ≤ 24) ∧ ∀ i, 0 ≤ i → i < X1 20 6 → XRow i X1 ∧ (leadsK (X1 21 i) = true → 0 ≤ X1 22 i ∧ X1 22 i < X1 20 6))
def JP (s p : Int) (X Y : Mem) : Prop := Y 0 10 = s ∧ Y 0 14 = p ∧ Y 0 16 = 0 ∧ ∀ i, 0 ≤ i → i < s → JRow i X Y
theorem pVal_in {p k : Int} (hk : 0 ≤ k ∧ k < 15) (hd : dOK T L p k) : 0 ≤ pVal T p k ∧ pVal T p k ≤ 99 := by
  unfold pVal
  unfold dOK isD at hd
  rcases (dg_in hk).1 with z | z | z
  · rw [if_pos z]; decide
  · rw [if_neg (by omega), if_pos z]; have := hd.1 (by omega); omega
  · rw [if_neg (by omega), if_neg (by omega)]; have := hd.1 (by omega); have := hd.2 (by omega); omega
/-- one round of the loops; what follows a good instruction is left -/
theorem s_parseOne {f : Nat} {s p : Int} (hX : XTx L T X) (e6 : X 20 6 = s) (hs : 0 ≤ s ∧ s ≤ 24) (p0 : 0 ≤ p) (e3 : X 3 1 = 0) (hr : ∀ i, 0 ≤ i → i < s → XRow i X)
    (hK : ∀ r X1, QXp r X X1 → (∀ Y (S : Int → Mem → Prop), YTx L T Y → JP s p X Y → (∀ Y1, Off [8, 9, 10, 11] [10, 14, 16] Y Y1 → RCa X1 Y1 → (r = -4 → JQ X1 Y1) → S r Y1) → fMd_finds_15 S (f + 1) Y) → K r X1)
    (hG : s < 24 → p < L → ∀ k, 0 ≤ k → k < 15 → sg k = T p → dOK T L p k → ¬ (dg k = 1 ∧ 4 ≤ pVal T p k) → fPr_parse_d_15 K f (p + (1 + dg k)) (s + 1) (xRd_d k p (pVal T p k) s X)) : fPr_parse_d_15 K (f + 1) p s X := by
  have hL := hX.2.1
  refine ⟨fun z => by omega, fun _ => ?_⟩
  rw [hX.1]
  refine ⟨fun zp => ?_, fun zp => ?_⟩
  · -- the text is read
    refine ⟨s.toNat + 1, s_tg82 e6 hs e3 hr s.toNat 0 (by omega) (by omega) (fun j j0 j1 => by omega) (fun r X1 hX1 hY => hK r X1 ?_ (fun Y S hYT hJ hS => ?_))⟩
    · rcases hX1 with ⟨z1, z2, z3⟩ | ⟨z1, z2⟩
      · rw [z2]
        refine ⟨Off.rf _ _ _, Or.inl z1, fun _ => ⟨e3, by omega, fun i i0 i1 => ?_⟩⟩
        rw [e6] at i1 ⊢
        have hi := hr i i0 i1
        have := (dg_in hi.1).2.2
        exact ⟨hi, fun l => ⟨(hi.2.1 (by have := this l; omega)).1, z3 i i0 i1 l⟩⟩
      · rw [z2]; exact ⟨off_fa.mono (by decide) (by decide), Or.inr z1, fun z => by omega⟩
    · unfold fMd_finds_15
      rw [hYT.1, hJ.2.1]
      have hJQ : JQ X Y := ⟨by rw [e6]; exact hJ.1, fun i i0 i1 => hJ.2.2.2 i i0 (by omega)⟩
      refine ⟨fun _ => ⟨s.toNat + 1, hY Y S hJQ ?_⟩, fun z => absurd zp z⟩
      rcases hX1 with ⟨z1, z2, z3⟩ | ⟨z1, z2⟩
      · rw [if_pos z1]
        refine hS Y (Off.rf _ _ _) ?_ (fun _ => by rw [z2]; exact hJQ)
        rw [z2]
        exact ⟨by rw [e3, hJ.2.2.1], by rw [e3]; decide, fun i i0 i1 => by rw [e3] at i1; omega⟩
      · rw [if_neg (by omega)]
        exact hS _ (off_rf.mono (by decide) (by decide)) (by rw [z2]; exact RCa_fa) (fun z => by omega)
  · have hp : 0 ≤ p ∧ p < L := ⟨p0, by omega⟩
    -- a fault
    have bad : ∀ e : Int, 0 < e → (∀ Y (S : Int → Mem → Prop), YTx L T Y → JP s p X Y → S e Y → fMd_reads Y S) → fPr_faulty p e X (fun r5 M5 => K r5 M5) := by
      intro e he hrd
      refine s_faulty e3 (hK _ _ ⟨off_fa.mono (by decide) (by decide), Or.inr p0, fun z => by omega⟩ (fun Y S hYT hJ hS => ?_))
      unfold fMd_finds_15
      rw [hYT.1, hJ.2.1]
      refine ⟨fun z => absurd z zp, fun _ => hrd Y _ hYT hJ ⟨fun z => by omega, fun _ => s_refuses2 (by omega) ?_⟩⟩
      rw [off_rf.fld (by decide), hJ.2.1]
      exact hS _ (off_rf.mono (by decide) (by decide)) RCa_fa (fun z => by omega)
    refine s_pIns_d hX hp e6 hs (fun z => ⟨fun y => absurd y (by decide), fun _ => bad 13 (by decide) (fun Y S hYT hJ hS => ?_)⟩) (fun z hn => ⟨fun y => absurd y (by decide), fun _ => bad 10 (by decide) (fun Y S hYT hJ hS => ?_)⟩) (fun z k k0 k1 ek => ⟨fun hd => ⟨fun y => absurd y (by decide), fun _ => bad 11 (by decide) (fun Y S hYT hJ hS => ?_)⟩, fun hd => ⟨fun hb => ⟨fun y => absurd y (by decide), fun _ => bad 12 (by decide) (fun Y S hYT hJ hS => ?_)⟩, fun hb => ⟨fun _ => ?_, fun y => absurd rfl y⟩⟩⟩)
    · exact s_reads hYT hL hp hJ.2.1 hJ.1 hs (fun _ => hS) (fun y => by omega) (fun y => by omega)
    · exact s_reads hYT hL hp hJ.2.1 hJ.1 hs (fun y => by omega) (fun _ _ => hS) (fun _ k k0 k1 ek => absurd ek (hn k k0 k1))
    · exact s_reads hYT hL hp hJ.2.1 hJ.1 hs (fun y => by omega) (fun _ hn => absurd ek (hn k k0 k1)) (fun _ k' k0' k1' ek' => by
        have : k' = k := sg_inj ⟨k0', k1'⟩ ⟨k0, k1⟩ (ek'.trans ek.symm)
        rw [this]
        exact ⟨fun _ => hS, fun y => absurd y hd⟩)
    · exact s_reads hYT hL hp hJ.2.1 hJ.1 hs (fun y => by omega) (fun _ hn => absurd ek (hn k k0 k1)) (fun _ k' k0' k1' ek' => by
        have : k' = k := sg_inj ⟨k0', k1'⟩ ⟨k0, k1⟩ (ek'.trans ek.symm)
        rw [this]
        exact ⟨fun y => absurd hd y, fun _ => ⟨fun _ => hS, fun y => absurd hb y⟩⟩)
    · have x6 : (xRd_d k p (pVal T p k) s X) 20 6 = s + 1 := by simp [xRd_d, mu]
      have x21 : (xRd_d k p (pVal T p k) s X) 21 s = k := by simp [xRd_d, mu]
      have hd3 := (dg_in (k := k) ⟨k0, k1⟩).1
      rw [x6, wrapI (z := s + 1 - 1) (by omega) (by omega), show s + 1 - 1 = s by omega, x21, show roV 102 k = dg k from rfl, wrapI (z := 1 + dg k) (by omega) (by omega), wrapI (z := p + (1 + dg k)) (by omega) (by omega), wrapI (z := s + 1) (by omega) (by omega)]
      exact ⟨⟨by omega, by omega⟩, ⟨by omega, by omega⟩, hG z hp.2 k k0 k1 ek hd hb⟩
theorem s_parse15 : ∀ (d : Nat) (s p : Int) (X : Mem), XTx L T X → X 20 6 = s → 0 ≤ s → s + d = 24 → 0 ≤ p → X 3 1 = 0 → (∀ i, 0 ≤ i → i < s → XRow i X) →
    (∀ r X1, QXp r X X1 → (∀ Y (S : Int → Mem → Prop), YTx L T Y → JP s p X Y → (∀ Y1, Off [8, 9, 10, 11] [10, 14, 16] Y Y1 → RCa X1 Y1 → (r = -4 → JQ X1 Y1) → S r Y1) → fMd_finds_15 S (d + 1) Y) → K r X1) → fPr_parse_d_15 K (d + 1) p s X := by
  intro d
  induction d with
  | zero =>
    intro s p X hX e6 s0 sd p0 e3 hr hK
    exact s_parseOne hX e6 ⟨s0, by omega⟩ p0 e3 hr hK (fun z => by omega)
  | succ d ih =>
    intro s p X hX e6 s0 sd p0 e3 hr hK
    refine s_parseOne hX e6 ⟨s0, by omega⟩ p0 e3 hr hK (fun z zp k k0 k1 ek hd hb => ?_)
    have hL := hX.2.1
    have hk : 0 ≤ k ∧ k < 15 := ⟨k0, k1⟩
    have hd3 := (dg_in hk).1
    have hv := pVal_in hk hd
    have ox : Off [20, 21, 22, 23] [] X (xRd_d k p (pVal T p k) s X) := ((((Off.rf _ _ _).mu (Or.inl (by decide))).mu (Or.inl (by decide))).mu (Or.inl (by decide))).mu (Or.inl (by decide))
    have a21 : ∀ i, (xRd_d k p (pVal T p k) s X) 21 i = if i = s then k else X 21 i := fun i => by simp [xRd_d, mu]
    have a22 : ∀ i, (xRd_d k p (pVal T p k) s X) 22 i = if i = s then pVal T p k else X 22 i := fun i => by simp [xRd_d, mu]
    have a23 : ∀ i, (xRd_d k p (pVal T p k) s X) 23 i = if i = s then p else X 23 i := fun i => by simp [xRd_d, mu]
    refine ih (s + 1) (p + (1 + dg k)) _ ⟨by rw [ox.cell (by decide)]; exact hX.1, hL, fun i i0 i1 => by rw [ox.cell (by decide)]; exact hX.2.2 i i0 i1⟩ (by simp [xRd_d, mu]) (by omega) (by omega) (by omega) (by rw [ox.cell (by decide)]; exact e3) (fun i i0 i1 => ?_) (fun r X1 hX1 hY => hK r X1 ⟨(ox.mono (by decide) (by decide)).tr hX1.1, hX1.2⟩ (fun Y S hYT hJ hS => ?_))
    · unfold XRow
      rw [a21, a22, a23]
      by_cases y : i = s
      · rw [if_pos y, if_pos y, if_pos y]
        exact ⟨hk, fun _ => hv, fun q => by have := mt (And.intro q) hb; omega, p0⟩
      · rw [if_neg y, if_neg y, if_neg y]; exact hr i i0 (by omega)
    · have b8 : ∀ i, (mRd k p (pVal T p k) s Y) 8 i = if i = s then sg k else Y 8 i := fun i => by simp [mRd, mu]
      have b9 : ∀ i, (mRd k p (pVal T p k) s Y) 9 i = if i = s then (if dg k = 0 then -4 else pVal T p k) else Y 9 i := fun i => by simp [mRd, mu]
      have b10 : ∀ i, (mRd k p (pVal T p k) s Y) 10 i = if i = s then p else Y 10 i := fun i => by simp [mRd, mu]
      have oy : Off [8, 9, 10] [10, 14] Y (mRd k p (pVal T p k) s Y) := (((((Off.rf _ _ _).mu (Or.inl (by decide))).mu (Or.inl (by decide))).mu (Or.inl (by decide))).mu (Or.inr (by decide))).mu (Or.inr (by decide))
      have hnext := hY (mRd k p (pVal T p k) s Y) S ⟨by rw [oy.fld (by decide)]; exact hYT.1, fun i i0 i1 => by rw [oy.cell (by decide)]; exact hYT.2 i i0 i1⟩ ⟨by simp [mRd, mu], by simp [mRd, mu]; omega, by rw [oy.fld (by decide)]; exact hJ.2.2.1, fun i i0 i1 => ?_⟩ (fun Y1 o1 c1 j1 => hS Y1 ((oy.mono (by decide) (by decide)).tr o1) c1 j1)
      · unfold fMd_finds_15
        rw [hYT.1, hJ.2.1]
        refine ⟨fun y => by omega, fun _ => s_reads hYT hL ⟨p0, zp⟩ hJ.2.1 hJ.1 ⟨s0, by omega⟩ (fun y => by omega) (fun _ hn => absurd ek (hn k k0 k1)) (fun _ k' k0' k1' ek' => ?_)⟩
        have : k' = k := sg_inj ⟨k0', k1'⟩ hk (ek'.trans ek.symm)
        rw [this]
        exact ⟨fun y => absurd hd y, fun _ => ⟨fun y => absurd y hb, fun _ => ⟨fun _ => hnext, fun y => absurd (by decide) y⟩⟩⟩
      · unfold JRow
        rw [a21, a22, a23, b8, b9, b10]
        by_cases y : i = s
        · simp only [if_pos y]
          exact ⟨trivial, trivial, fun q => by rw [if_neg (by omega)], fun q => by rw [if_pos q]⟩
        · simp only [if_neg y]; exact hJ.2.2.2 i i0 (by omega)
theorem s_parse (hX : XTx L T X) (hK : ∀ r X1, QXp r X X1 → (∀ Y (S : Int → Mem → Prop), YTx L T Y → (∀ Y1, Off [8, 9, 10, 11] [10, 14, 16] Y Y1 → RCa X1 Y1 → (r = -4 → JQ X1 Y1) → S r Y1) → fMd_finds Y S) → K r X1) : fPr_parse_d X K := by
  have ox : Off [3, 20] [] X (mu (mu X 3 1 0) 20 6 0) := ((Off.rf _ _ _).mu (Or.inl (by decide))).mu (Or.inl (by decide))
  refine ⟨24 + 1, s_parse15 24 0 0 _ ⟨by rw [ox.cell (by decide)]; exact hX.1, hX.2.1, fun i i0 i1 => by rw [ox.cell (by decide)]; exact hX.2.2 i i0 i1⟩ (by simp [mu]) (by decide) (by decide) (by decide) (by simp [mu]) (fun i i0 i1 => by omega) (fun r X1 hX1 hY => hK r X1 ⟨(ox.mono (by decide) (by decide)).tr hX1.1, hX1.2⟩ (fun Y S hYT hS => ⟨24 + 1, ?_⟩))⟩
  have oy : Off [] [10, 14, 16] Y (mu (mu (mu Y 0 10 0) 0 14 0) 0 16 0) := (((Off.rf _ _ _).mu (Or.inr (by decide))).mu (Or.inr (by decide))).mu (Or.inr (by decide))
  exact hY _ S ⟨by rw [oy.fld (by decide)]; exact hYT.1, fun i i0 i1 => by rw [oy.cell (by decide)]; exact hYT.2 i i0 i1⟩ ⟨by simp [mu], by simp [mu], by simp [mu], fun i i0 i1 => by omega⟩ (fun Y1 o1 c1 j1 => hS Y1 ((oy.mono (by decide) (by decide)).tr o1) c1 j1)
theorem o_fault {m : Int} (h : Rel m X Y) : fSt_fault X (Post m (fMd_fault Y)) := by
  obtain ⟨a, b, d, e, q⟩ := h.mono (m' := m + 1) (by omega)
  have hX : XTx (X 1 1) (X 2) X := ⟨rfl, a.2.1, fun i i0 i1 => ⟨rfl, (a.2.2 i i0 i1).2⟩⟩
  have hYT : YTx (X 1 1) (X 2) Y := ⟨a.1.symm, fun i i0 i1 => (a.2.2 i i0 i1).1.symm⟩
  refine s_parse hX (fun r X1 hX1 hY => hY Y _ hYT (fun Y1 o1 c1 j1 => ⟨rfl, a.off hX1.1 o1 (by decide) (by decide), c1, d.off hX1.1 o1 (by decide) (by decide), e.off hX1.1 o1 (by decide) (by decide), RQ.off q hX1.1 o1 (by decide) (by decide) (by decide)⟩))
end P
