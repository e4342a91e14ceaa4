/-! the reference: laysBest -/
section B
variable {c : Cf} {ok ok' : Int → Int → Bool} {pi : Int → Int} {M : Mem} {R : Int → Mem → Prop} {nt t1 t2 : Int}
theorem LF_okc (h : ∀ i s, 0 ≤ i → ok i s = ok' i s) : ∀ (i s : Int), 0 ≤ i → LF c ok pi i s = LF c ok' pi i s := by
  have key : ∀ (f : Nat) (i s : Int), 0 ≤ i → Lm c ok pi f i s = Lm c ok' pi f i s := by
    intro f
    induction f with
    | zero => intro i s _; rfl
    | succ f ih =>
      intro i s h0
      have e1 : (fun t => ok (i + 1) t && decide (Lm c ok pi f (i + 1) t < FAR)) = (fun t => ok' (i + 1) t && decide (Lm c ok' pi f (i + 1) t < FAR)) := by
        funext t; rw [h (i + 1) t (by omega), ih (i + 1) t (by omega)]
      have e2 : (fun t => cW c i * cPs c (cAf c i s) t + Lm c ok pi f (i + 1) t) = (fun t => cW c i * cPs c (cAf c i s) t + Lm c ok' pi f (i + 1) t) := by
        funext t; rw [ih (i + 1) t (by omega)]
      unfold Lm
      rw [h i s h0, e1, e2]
  intro i s h0
  exact key _ i s h0
theorem totM_okc (h : ∀ i s, 0 ≤ i → ok i s = ok' i s) (hG : TG c nt t1 t2) : totM c ok pi nt t1 t2 = totM c ok' pi nt t1 t2 := by
  obtain ⟨n0, n1, n2, n3⟩ := hG
  have ea : ∀ s t, 0 ≤ t → addT c ok pi s t = addT c ok' pi s t := fun s t z => by unfold addT; rw [LF_okc h t _ z]
  unfold totM
  rw [LF_okc h 0 0 (by omega)]
  rcases n0 with z | z | z
  · rw [if_pos z, if_pos z]
  · rw [if_neg (by omega), if_pos z, if_neg (by omega), if_pos z]
    exact ea _ _ (n1 (by omega)).1
  · rw [if_neg (by omega), if_neg (by omega), if_neg (by omega), if_neg (by omega)]
    have := n1 (by omega); have := n2 z
    rw [ea _ t1 (by omega), ea _ t2 (by omega)]
theorem cnd_okc {a b : Int} (h : ∀ i s, 0 ≤ i → ok i s = ok' i s) (hG : TG c nt t1 t2) (hc : cnd c ok nt t1 t2 a b) : cnd c ok' nt t1 t2 a b := by
  obtain ⟨n0, n1, n2, n3⟩ := hG
  unfold cnd at hc ⊢
  constructor
  · have := hc.1
    by_cases z : 1 ≤ nt
    · rw [if_pos z] at this ⊢; rw [← h t1 a (n1 z).1]; exact this
    · rw [if_neg z] at this ⊢; exact this
  · have := hc.2
    by_cases z : nt = 2
    · rw [if_pos z] at this ⊢; have y := n1 (by omega); have y2 := n2 z; rw [← h t2 b (by omega)]; exact this
    · rw [if_neg z] at this ⊢; exact this
theorem isBest_okc {v a b : Int} (h : ∀ i s, 0 ≤ i → ok i s = ok' i s) (hG : TG c nt t1 t2) (hb : isBest c ok nt t1 t2 v a b) : isBest c ok' nt t1 t2 v a b := by
  have h' : ∀ i s, 0 ≤ i → ok' i s = ok i s := fun i s z => (h i s z).symm
  have ep : ∀ a b, pval c ok nt t1 t2 a b = pval c ok' nt t1 t2 a b := fun a b => totM_okc h hG
  rcases hb with ⟨a1, a2, a3, a4⟩ | ⟨a1, a2, a3, a4, a5⟩
  · exact Or.inl ⟨a1, a2, a3, fun a' b' q1 q2 => by rw [← ep]; exact a4 a' b' (cnd_okc h' hG q1) q2⟩
  · exact Or.inr ⟨a1, cnd_okc h hG a2, a3, by rw [← ep]; exact a4, fun a' b' q1 q2 => by rw [← ep]; exact a5 a' b' (cnd_okc h' hG q1) q2⟩
theorem stepA_okc {F : Int → Int} {i : Int} (h : ∀ i s, 0 ≤ i → ok i s = ok' i s) (hi : 0 ≤ i) (hs : stepA c ok pi F i) : stepA c ok' pi F i := by
  have e1 : okM c ok pi i = okM c ok' pi i := by funext t; unfold okM; rw [h i t hi, LF_okc h i t hi]
  have e2 : goM c ok pi i = goM c ok' pi i := by funext s t; unfold goM; rw [LF_okc h i t hi]
  unfold stepA at hs ⊢
  rw [← e1, ← e2]; exact hs
theorem SB.off' {S : List Nat} {T : List Int} {M' : Mem} (h : SB c ok pi M) (ho : Off S T M M') (hS : 0 ∉ S ∧ 1 ∉ S ∧ 3 ∉ S ∧ 4 ∉ S ∧ 5 ∉ S ∧ 6 ∉ S ∧ (3 : Int) ∉ T) (hS2 : 18 ∉ S ∧ 22 ∉ S ∧ 23 ∉ S ∧ 26 ∉ S ∧ (20 : Int) ∉ T) : SB c ok pi M' := by
  obtain ⟨q1, q2, q3, q4, q5⟩ := h
  obtain ⟨s1, s2, s3, s4, s5⟩ := hS2
  exact ⟨q1.off ho hS, by rw [ho.fld ⟨hS.1, s5⟩]; exact q2, fun s t a b d e => by rw [ho.cell ⟨s1, by decide⟩]; exact q3 s t a b d e, fun i s a b d e => ⟨by rw [ho.cell ⟨s2, by decide⟩]; exact (q4 i s a b d e).1, fun z => by rw [ho.cell ⟨s3, by decide⟩]; exact (q4 i s a b d e).2 z⟩, fun t a b d => by rw [ho.cell ⟨s4, by decide⟩]; exact q5 t a b d⟩
/-- what is met, out of segments that are done -/
def Done (c : Cf) (ok : Int → Int → Bool) (pi F : Int → Int) (h : Int) : Prop := F h = hdP c pi h ∧ ∀ i, h < i → sgm c h i → stepA c ok pi F i
theorem sgm_lt {h i : Int} (hh : h < cN c) (hs : sgm c h i) : i < cN c := by
  by_cases z : i = h
  · omega
  · have := (hs.2 (i - 1) (by have := hs.1; omega) (by omega)).1
    have := fal_lt this
    omega
/-- another segment leaves one that is done -/
theorem Done.keep {F F' : Int → Int} {h g : Int} (hd : Done c ok pi F h) (hhead : g = 0 ∨ cTg c g = 1) (hh0 : h = 0 ∨ cTg c h = 1) (h0 : 0 ≤ h) (g0 : 0 ≤ g) (hg : Done c ok pi F' g) (hu : ∀ i, ¬ sgm c g i → F' i = F i) : Done c ok pi F' h := by
  by_cases e : h = g
  · rw [e]; exact hg
  · -- i of the segment of h is not in that of g
    have no : ∀ i, h ≤ i → sgm c h i → ¬ sgm c g i := by
      intro i hi q1 q2
      by_cases z : g < h
      · have := (q2.2 (h - 1) (by omega) (by omega)).2
        rw [show h - 1 + 1 = h from by omega] at this
        rcases hh0 with y | y
        · omega
        · exact this y
      · have y1 := q2.1
        have := (q1.2 (g - 1) (by omega) (by omega)).2
        rw [show g - 1 + 1 = g from by omega] at this
        rcases hhead with y | y
        · omega
        · exact this y
    have self : sgm c h h := ⟨by omega, fun j a b => by omega⟩
    refine ⟨by rw [hu h (no h (by omega) self)]; exact hd.1, fun i hi hs => ?_⟩
    have s1 : sgm c h (i - 1) := ⟨by omega, fun j a b => hs.2 j a (by omega)⟩
    exact stepA_congr (hd.2 i hi hs) (hu _ (no (i - 1) (by omega) s1)).symm (hu _ (no i (by omega) hs)).symm
/-- what is reached lies in the segment of 0 or of a target -/
theorem seg_of (hV : VP c) : ∀ (n : Nat) (i : Int), i = n → i < cN c → cDep c i ≠ -4 → ∃ h, 0 ≤ h ∧ h ≤ i ∧ (h = 0 ∨ cTg c h = 1) ∧ sgm c h i := by
  have hv := hV.2.2.2.2.2.2.2.2.2.2.2.2
  intro n
  induction n with
  | zero => intro i e hi hd; exact ⟨0, by omega, by omega, Or.inl rfl, ⟨by omega, fun j a b => by omega⟩⟩
  | succ n ih =>
    intro i e hi hd
    by_cases z : cTg c i = 1
    · exact ⟨i, by omega, by omega, Or.inr z, ⟨by omega, fun j a b => by omega⟩⟩
    · obtain ⟨q1, q2⟩ := hv i (by omega) hi hd z
      obtain ⟨h, y0, y1, y2, y3⟩ := ih (i - 1) (by omega) (by omega) q1
      refine ⟨h, y0, by omega, y2, ⟨by omega, fun j a b => ?_⟩⟩
      by_cases zz : j = i - 1
      · rw [zz, show i - 1 + 1 = i from by omega]; exact ⟨q2, z⟩
      · exact y3.2 j a (by omega)
theorem sgm_dep (hV : VP c) {h : Int} (h0 : 0 ≤ h) (hh : h < cN c) (hd : cDep c h ≠ -4) : ∀ (n : Nat) (i : Int), i = h + n → sgm c h i → cDep c i ≠ -4 := by
  have hv := hV.2.2.2.2.2.2.2.2.2.2.1
  intro n
  induction n with
  | zero => intro i e _; rw [show i = h from by omega]; exact hd
  | succ n ih =>
    intro i e hs
    have s1 : sgm c h (i - 1) := ⟨by omega, fun j a b => hs.2 j a (by omega)⟩
    have q := ih (i - 1) (by omega) s1
    have f := (hs.2 (i - 1) (by omega) (by omega)).1
    have := hv (i - 1) (by omega) (by have := fal_lt f; omega) q f
    rwa [show i - 1 + 1 = i from by omega] at this
theorem met_of {F : Int → Int} (hV : VP c) (hG : TG c nt t1 t2) (h0 : Done c ok pi F 0) (h1 : 1 ≤ nt → Done c ok pi F t1) (h2 : nt = 2 → Done c ok pi F t2) (hu : ∀ i, 0 ≤ i → i < cN c → cDep c i = -4 → F i = -4) : isMet c ok pi F := by
  have hd : ∀ h, 0 ≤ h → h < cN c → (h = 0 ∨ cTg c h = 1) → Done c ok pi F h := by
    intro h a b d
    rcases d with d | d
    · rw [d]; exact h0
    · rcases hG.2.2.2 h a b d with ⟨z1, z2⟩ | ⟨z1, z2⟩
      · rw [z2]; exact h1 z1
      · rw [z2]; exact h2 z1
  intro i a b
  refine ⟨hu i a b, fun hr => ⟨fun z => (hd i a b z).1, fun z1 z2 => ?_⟩⟩
  obtain ⟨h, y0, y1, y2, y3⟩ := seg_of hV i.toNat i (by omega) b hr
  by_cases e : h = i
  · rw [e] at y2
    rcases y2 with y2 | y2
    · omega
    · exact absurd y2 z2
  · exact (hd h y0 (by omega) y2).2 i (by omega) y3
theorem s_laysBest (hV : VP c) (hC : MC c M) (hG : TG c nt t1 t2) (h27 : M 0 27 = 0 ∨ (M 0 27 = 1 ∧ PassOK (cR c) c.1.2.1 c.1.2.2.1 c.1.2.2.2 M)) (h40 : M 0 40 = -4) (h25 : 0 ≤ M 25 0 ∧ M 25 0 < 24) (h31 : M 0 31 = 0 ∨ (M 0 31 = 1 ∧ BestM c nt t1 t2 M ∧ M 0 27 = 1))
    (h : ∀ M', Off lbS lbT M M' → TM (cR c) M' → M' 0 20 = nS (cR c) → M' 0 31 = 1 → BestM c nt t1 t2 M' → (M' 0 27 = 1 ∧ PassOK (cR c) c.1.2.1 c.1.2.2.1 c.1.2.2.2 M') → (0 ≤ M' 25 0 ∧ M' 25 0 < 24) → R 0 M') : fMd_laysBest M R := by
  have h16 := nS_le (cR c)
  have hN := hV.2.2.2.2.1
  have hd0 := hV.2.2.2.2.2.2.2.2.1
  have hdt := hV.2.2.2.2.2.2.2.2.2.2.2.1
  have e10 : M 1 0 = cR c := hC.1.1
  refine ⟨fun z31 => ?_, fun z31 => ?_⟩
  · -- it is not laid
    refine s_search (i0 := -4) (s0 := M 0 41) hV hC hG h27 ⟨h40, rfl⟩ h25 (fun N v a b hoN hE hTN h27' hbest hpin => ?_)
    have okE : ∀ i s, 0 ≤ i → ok1 c (-4) (M 0 41) i s = okL c i s := fun i s hi => by
      unfold ok1
      rw [show decide (i ≠ -4) = true from decide_eq_true (by omega)]
      simp
    have hok : ∀ i s, ok1 c (-4) (M 0 41) i s = true → okL c i s = true := fun i s z => ok1_okL z
    have hF : Fe c (ok1 c (-4) (M 0 41)) := ⟨hok, fun i z1 z2 z3 => by
      obtain ⟨s, y⟩ := (Fe_okL hV).2 i z1 z2 z3
      exact ⟨s, y.1, y.2.1, by rw [okE i s z1]; exact y.2.2⟩⟩
    have h00 : ok1 c (-4) (M 0 41) 0 0 = true := by rw [okE 0 0 (by omega)]; exact okL0 hV ⟨by omega, by omega⟩ (by rw [hd0]; decide)
    generalize ok1 c (-4) (M 0 41) = ok at *
    obtain ⟨hcnd, -, -, -⟩ := best_fin hV hF h00 hG hbest
    have hP : PinOK c ok (pinF nt t1 t2 a b) := cnd_pin hG hcnd
    have hb2 : isBest c (okL c) nt t1 t2 v a b := isBest_okc okE hG hbest
    generalize hpi : pinF nt t1 t2 a b = pi at *
    have ho1 : Off [] [32] N (mu N 0 32 v) := (Off.rf _ _ _).mu (Or.inr (by decide))
    have hSN : SB c ok pi N := ⟨hE.1.1, hE.1.2.1, hE.1.2.2.1, hE.1.2.2.2.1, hpin⟩
    have hS1 : SB c ok pi (mu N 0 32 v) := hSN.off' ho1 (by decide) (by decide)
    have e37 : (mu N 0 32 v) 0 37 = nt := by rw [ho1.fld (by decide)]; exact hE.2.1
    have e25 : ∀ i, (mu N 0 32 v) 25 i = N 25 i := ho1.cell (by decide)
    refine s_total hV hok hP.pin hS1 hG ⟨e37, fun z => by rw [e25]; exact hE.2.2.1 z, fun z => by rw [e25]; exact hE.2.2.2.1 z⟩ (fun N2 ho2 hL => ?_)
    -- the cleared ones
    have clr : ∀ (d : Nat) (x : Int) (Mi : Mem), 0 ≤ x → x + d = 24 → Off [21] [] N2 Mi → (∀ j, 0 ≤ j → j < x → Mi 21 j = -4) → (∀ Mz, Off [21] [] N2 Mz → (∀ j, 0 ≤ j → j < 24 → Mz 21 j = -4) → fMd_follows 0 0 Mz (fun r3 M3 => ∃ n5, fMd_laysBest_55 R n5 0 M3)) → fMd_laysBest_27 R (d + 1) x Mi := by
      intro d
      induction d with
      | zero =>
        intro x Mi x0 xd ho hj hk
        exact ⟨fun _ => hk Mi ho (fun j a b => hj j a (by omega)), fun q => by omega⟩
      | succ d ih =>
        intro x Mi x0 xd ho hj hk
        refine ⟨fun q => by omega, fun _ => ⟨⟨by omega, by omega⟩, ?_⟩⟩
        rw [wrapI (z := x + 1) (by omega) (by omega)]
        refine ih (x + 1) _ (by omega) (by omega) (ho.mu (Or.inl (by decide))) (fun j a b => ?_) hk
        by_cases e : j = x
        · rw [e]; exact mu_same _ _ _ _
        · rw [mu_place e]; exact hj j a (by omega)
    refine ⟨25, clr 24 0 N2 (by omega) (by omega) (Off.rf _ _ _) (fun j a b => by omega) (fun N3 ho3 hz => ?_)⟩
    have hS3 : SB c ok pi N3 := (hS1.off' ho2 (by decide) (by decide)).off' ho3 (by decide) (by decide)
    have hL3 : ∀ i s, 0 ≤ i → i < cN c → 0 ≤ s → s < nS (cR c) → N3 24 (16 * i + s) = LF c ok pi i s := fun i s z1 z2 z3 z4 => by rw [ho3.cell (by decide)]; exact hL i s z1 z2 z3 z4
    have hd00 : hdP c pi 0 = 0 := by
      unfold hdP
      by_cases z : cTg c 0 = 1
      · rw [if_pos z]
        have := hP 0 (by omega) (by omega) z
        exact okL_00 (hok _ _ this.2.2)
      · rw [if_neg z]
    -- one more segment
    have fol : ∀ (g : Int) (K : Mem → Prop) (Mi : Mem), 0 ≤ g → g < cN c → (g = 0 ∨ cTg c g = 1) → Off [21] [42] N3 Mi → (∀ i, 0 ≤ i → i < cN c → cDep c i = -4 → Mi 21 i = -4) → (∀ M', Off [21] [42] N3 M' → (∀ i, 0 ≤ i → i < cN c → cDep c i = -4 → M' 21 i = -4) → Done c ok pi (M' 21) g → (∀ g', 0 ≤ g' → (g' = 0 ∨ cTg c g' = 1) → Done c ok pi (Mi 21) g' → Done c ok pi (M' 21) g') → K M') → fMd_follows g (hdP c pi g) Mi (fun _ M' => K M') := by
      intro g K Mi g0 g1 hh ho hu hk
      have hr : cDep c g ≠ -4 := by
        rcases hh with z | z
        · rw [z, hd0]; decide
        · exact hdt g g0 g1 z
      have hsok : 0 ≤ hdP c pi g ∧ hdP c pi g < nS (cR c) ∧ ok g (hdP c pi g) = true := by
        rcases hh with z | z
        · rw [z, hd00]; exact ⟨by omega, by omega, h00⟩
        · unfold hdP; rw [if_pos z]; exact hP g g0 g1 z
      refine s_follows hV hF hP.pin (hS3.off' ho (by decide) (by decide)) (fun i s z1 z2 z3 z4 => by rw [ho.cell (by decide)]; exact hL3 i s z1 z2 z3 z4) ⟨g0, g1⟩ hsok hr (fun M' ho' e1 e2 e3 => ?_)
      have hD : Done c ok pi (M' 21) g := ⟨e1, e2⟩
      refine hk M' (ho.tr ho') (fun i z1 z2 z3 => ?_) hD (fun g' z0 z1 z2 => z2.keep hh z1 z0 g0 hD e3)
      rw [e3 i (fun q => sgm_dep hV g0 g1 hr (i - g).toNat i (by have := q.1; omega) q z3)]
      exact hu i z1 z2 z3
    have t37 : ∀ Mi, Off [21] [42] N3 Mi → Mi 0 37 = nt ∧ (∀ i, Mi 25 i = N 25 i) ∧ (∀ t, 0 ≤ t → t < cN c → cTg c t = 1 → Mi 26 t = hdP c pi t) := fun Mi ho => by
      refine ⟨by rw [ho.fld (by decide), ho3.fld (by decide), ho2.fld (by decide)]; exact e37, fun i => by rw [ho.cell (by decide), ho3.cell (by decide), ho2.cell (by decide), e25], fun t z1 z2 z3 => ?_⟩
      rw [ho.cell (by decide), hS3.2.2.2.2 t z1 z2 z3]
      unfold hdP; rw [if_pos z3]
    have fin : ∀ Mi, Off [21] [42] N3 Mi → (∀ i, 0 ≤ i → i < cN c → cDep c i = -4 → Mi 21 i = -4) → Done c ok pi (Mi 21) 0 → (1 ≤ nt → Done c ok pi (Mi 21) t1) → (nt = 2 → Done c ok pi (Mi 21) t2) → R 0 (mu Mi 0 31 1) := by
      intro Mi ho hu q0 q1 q2
      have hoA : Off lbS lbT M Mi := (((hoN.mono (by decide) (by decide)).tr (ho1.mono (by decide) (by decide))).tr ((ho2.mono (by decide) (by decide)).tr (ho3.mono (by decide) (by decide)))).tr (ho.mono (by decide) (by decide))
      have hoB : Off [] [31] Mi (mu Mi 0 31 1) := (Off.rf _ _ _).mu (Or.inr (by decide))
      have hoC : Off [21, 24] [31, 32, 42] N (mu Mi 0 31 1) := (((ho1.mono (by decide) (by decide)).tr ((ho2.mono (by decide) (by decide)).tr (ho3.mono (by decide) (by decide)))).tr (ho.mono (by decide) (by decide))).tr (hoB.mono (by decide) (by decide))
      have e32 : (mu Mi 0 31 1) 0 32 = v := by
        rw [hoB.fld (by decide), ho.fld (by decide), ho3.fld (by decide), ho2.fld (by decide)]; exact mu_same _ _ _ _
      refine h _ (hoA.tr (hoB.mono (by decide) (by decide))) (hTN.off hoC (by decide)) (by rw [hoC.fld (by decide)]; exact hE.1.2.1) (mu_same _ _ _ _) ⟨a, b, by rw [e32]; exact hb2, ?_⟩ ⟨by rw [hoC.fld (by decide)]; exact h27', fun s t z1 z2 z3 z4 => by rw [hoC.cell (by decide)]; exact hE.1.2.2.1 s t z1 z2 z3 z4⟩ (by rw [hoC.cell (by decide)]; exact hE.2.2.2.2.1)
      rw [hoB.fn (by decide), hpi]
      have hm := met_of hV hG q0 q1 q2 hu
      intro i z1 z2
      obtain ⟨y1, y2⟩ := hm i z1 z2
      exact ⟨y1, fun z => ⟨(y2 z).1, fun z' z'' => stepA_okc okE z1 ((y2 z).2 z' z'')⟩⟩
    have f0 := fol 0 (fun M3 => ∃ n5, fMd_laysBest_55 R n5 0 M3) N3 (by omega) (by omega) (Or.inl rfl) (Off.rf _ _ _) (fun i z1 z2 _ => hz i z1 (by omega))
    rw [hd00] at f0
    refine f0 (fun Ma hoa hua hDa _ => ?_)
    obtain ⟨x37, x25, x26⟩ := t37 Ma hoa
    obtain ⟨n0, n1, n2, n3⟩ := id hG
    by_cases z0 : nt = 0
    · refine ⟨1, ⟨fun _ => fin Ma hoa hua hDa (fun q => by omega) (fun q => by omega), fun q => absurd (by omega) q⟩⟩
    · obtain ⟨p1, p2, p3⟩ := n1 (by omega)
      have tail : ∀ n, fMd_laysBest_55 R (n + 1) 1 = fMd_laysBest_55 R (n + 1) 1 := fun _ => rfl
      refine ⟨3, ⟨fun q => absurd q (by omega), fun _ => ⟨⟨by decide, by decide⟩, ⟨by decide, by decide⟩, ?_⟩⟩⟩
      rw [x25 0, hE.2.2.1 (by omega), x26 t1 p1 p2 p3, wrapI (z := 0 + 1) (by decide) (by decide)]
      refine ⟨⟨by omega, by omega⟩, fol t1 (fun M4 => fMd_laysBest_55 R 2 (0 + 1) M4) Ma p1 p2 (Or.inr p3) hoa hua (fun Mb hob hub hDb hkb => ?_)⟩
      obtain ⟨y37, y25, y26⟩ := t37 Mb hob
      by_cases z2 : nt = 2
      · obtain ⟨r1, r2, r3⟩ := n2 z2
        refine ⟨fun q => absurd q (by omega), fun _ => ⟨⟨by decide, by decide⟩, ⟨by decide, by decide⟩, ?_⟩⟩
        rw [show (0 : Int) + 1 = 1 from rfl, y25 1, hE.2.2.2.1 z2, y26 t2 (by omega) r2 r3, wrapI (z := 1 + 1) (by decide) (by decide)]
        refine ⟨⟨by omega, by omega⟩, fol t2 (fun M4 => fMd_laysBest_55 R 1 (1 + 1) M4) Mb (by omega) r2 (Or.inr r3) hob hub (fun Mc hoc huc hDc hkc => ?_)⟩
        obtain ⟨w37, -, -⟩ := t37 Mc hoc
        exact ⟨fun _ => fin Mc hoc huc (hkc 0 (by omega) (Or.inl rfl) (hkb 0 (by omega) (Or.inl rfl) hDa)) (fun _ => hkc t1 p1 (Or.inr p3) hDb) (fun _ => hDc), fun q => absurd (by omega) q⟩
      · exact ⟨fun _ => fin Mb hob hub (hkb 0 (by omega) (Or.inl rfl) hDa) (fun _ => hDb) (fun q => by omega), fun q => absurd (by omega) q⟩
  · -- it is
    rcases h31 with z | ⟨z, hB, hB7⟩
    · exact absurd z z31
    · refine s_laysStates (by rw [e10]; exact hV.1) ?_
      rw [e10]
      have hoS : Off [15, 16] [20] M (SM (cR c) (nS (cR c)) M) := fun d i q1 q2 => SM_off (fun y => q2 y.1 (by rw [y.2]; decide)) (fun y => q1 (by rw [y]; decide)) (fun y => q1 (by rw [y]; decide))
      refine h _ (hoS.mono (by decide) (by decide)) (TM_SM e10) (SM_20 _ _ _) (by rw [hoS.fld (by decide)]; exact z) ?_ ?_ (by rw [hoS.cell (by decide)]; exact h25)
      · obtain ⟨a, b, b1, b2⟩ := hB
        exact ⟨a, b, by rw [hoS.fld (by decide)]; exact b1, by rw [hoS.fn (by decide)]; exact b2⟩
      · rcases h27 with y | ⟨y, y'⟩
        · rw [hB7] at y; exact absurd y (by decide)
        · exact ⟨by rw [hoS.fld (by decide)]; exact y, fun s t z1 z2 z3 z4 => by rw [hoS.cell (by decide)]; exact y' s t z1 z2 z3 z4⟩
end B
