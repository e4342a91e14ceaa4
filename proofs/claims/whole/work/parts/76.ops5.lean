/-! operations that read a run; code, count -/
def modB (x : Int) : Int := wrap x % 1000000000
theorem b_irem_wrap (x y : Int) : b_irem (wrap x) y = b_irem x y := by unfold b_irem; rw [ofInt_wrap]
theorem b_ixor_wrap (x y : Int) : b_ixor (wrap x) y = b_ixor x y := by unfold b_ixor; rw [ofInt_wrap]
theorem ixor_sign {x : Int} (hx : inR x) : 0 ≤ b_ixor x 1000000000 ↔ 0 ≤ x := by
  have hx' : (Int32.ofInt x).toInt = x := tio hx
  unfold b_ixor
  have h1 : ((Int32.ofInt x ^^^ Int32.ofInt 1000000000).toInt < 0) ↔ ((Int32.ofInt x).toInt < 0) := by
    have a : (Int32.ofInt x ^^^ Int32.ofInt 1000000000).toBitVec.msb = (Int32.ofInt x).toBitVec.msb := by
      rw [Int32.toBitVec_xor, BitVec.msb_xor]
      have : (Int32.ofInt 1000000000).toBitVec.msb = false := by decide
      rw [this, Bool.xor_false]
    rw [BitVec.msb_eq_toInt, BitVec.msb_eq_toInt] at a
    have b := decide_eq_decide.mp a
    rw [Int32.toInt_toBitVec, Int32.toInt_toBitVec] at b
    exact b
  rw [hx'] at h1
  omega
section O
variable {m : Int} {X Y : Mem} {c : Cf} {R : Int → Mem → Prop}
theorem s_shown {x : Int} (h : R (modB x) X) : fSt_shown x X R := by
  have hr := wrap_inR x
  have k := s_floorMod (x := wrap x) (y := 1000000000) (M := X) (R := R) hr ⟨by decide, by decide⟩ (by decide) (ixor_sign hr) h
  unfold fMath_floorMod at k
  rw [b_irem_wrap, b_ixor_wrap] at k
  exact k
theorem s_modulo {x : Int} (h : R (modB x) X) : fMd_modulo x X R := by
  have hr := wrap_inR x
  have he := b_irem_eq (x := wrap x) (y := 1000000000) hr ⟨by decide, by decide⟩ (by decide) (by decide)
  rw [b_irem_wrap] at he
  unfold fMd_modulo
  rw [he]
  unfold modB at h
  have h2 : ((wrap x).tmod 1000000000).natAbs < 1000000000 := by rw [Int.natAbs_tmod]; exact Nat.mod_lt _ (by decide)
  have h1 := Int.tmod_add_tdiv_mul (wrap x) 1000000000
  refine ⟨fun q => ?_, fun q => ?_⟩
  · have : (wrap x).tmod 1000000000 = wrap x % 1000000000 := by omega
    rw [this]; exact h
  · rw [wrapI (by omega) (by omega)]
    have : (wrap x).tmod 1000000000 + 1000000000 = wrap x % 1000000000 := by omega
    rw [this]; exact h
theorem s_cellAt {i : Int} (h11 : 0 ≤ X 40 11 ∧ X 40 11 ≤ 12) (hi : 0 ≤ i ∧ i < X 40 11) (h : R (X 41 (X 40 11 - 1 - i)) X) : fRu_cellAt i X R := by
  refine ⟨fun q => by omega, fun _ => ⟨fun q => by omega, fun _ => ?_⟩⟩
  rw [wrapI (z := X 40 11 - 1) (by omega) (by omega), wrapI (z := X 40 11 - 1 - i) (by omega) (by omega)]
  exact ⟨⟨by omega, by omega⟩, h⟩
theorem o_now {x : Int} (h : Rel m X Y) : fSt_now x X (Post m (fMd_now x Y)) := by
  have hm := h.mono (m' := m + 1) (by omega)
  obtain ⟨a, b, d, e, c, nt, t1, t2, p, q, ⟨r1, r2⟩⟩ := id hm
  have bad : ¬ (0 ≤ x ∧ x ≤ 5) → Post m (fMd_now x Y) (-1) X := fun z => s_in ⟨fun y => absurd y z, fun _ => ⟨fun y => absurd rfl y, fun _ => ⟨rfl, hm⟩⟩⟩
  refine ⟨fun z => bad (by omega), fun z1 => ⟨fun z2 => ?_, fun z2 => bad (by omega)⟩⟩
  have ref : ∀ {v}, (Y 0 43 ≠ 0 → ((x = 0 → v = Y 0 45) ∧ (x = 1 → v = Y 0 46) ∧ (x = 2 → v = Y 0 48) ∧ (x = 3 → v = Y 0 49) ∧ (x = 4 → v = Y 0 50) ∧ (x < 0 ∨ 4 < x → v = Y 0 52))) → (Y 0 43 = 0 → v = -2) → Post m (fMd_now x Y) v X := fun {v} h1 h2 => s_in ⟨fun _ => ⟨fun _ => ⟨fun z => ⟨fun y => ⟨(h1 z).1 y, hm⟩, fun y => ⟨(h1 z).2.1 y, hm⟩, fun y => ⟨(h1 z).2.2.1 y, hm⟩, fun y => ⟨(h1 z).2.2.2.1 y, hm⟩, fun y => ⟨(h1 z).2.2.2.2.1 y, hm⟩, fun y => ⟨(h1 z).2.2.2.2.2 y, hm⟩⟩, fun z => ⟨h2 z, hm⟩⟩, fun y => absurd y (by decide)⟩, fun y => absurd ⟨by omega, by omega⟩ y⟩
  refine ⟨fun z => ?_, fun z => ref (fun y => by omega) (fun _ => rfl)⟩
  rcases r2 with y | ⟨y0, y1, y2, y3, y4, y5, y6, y7, y8, -⟩
  · exact absurd y z
  · refine ⟨fun w => ⟨fun w2 => ref (fun _ => ?_) (fun y => by omega), fun w2 => ref (fun _ => ?_) (fun y => by omega)⟩, fun w => ref (fun _ => ?_) (fun y => by omega), fun w => ref (fun _ => ?_) (fun y => by omega), fun w => ref (fun _ => ?_) (fun y => by omega), fun w => ref (fun _ => ?_) (fun y => by omega), fun w => ref (fun _ => ?_) (fun y => by omega)⟩ <;> omega
theorem o_cell {x : Int} (h : Rel m X Y) : fSt_cell x X (Post m (fMd_cell x Y)) := by
  have hm := h.mono (m' := m + 1) (by omega)
  obtain ⟨a, b, d, e, c, nt, t1, t2, p, q, ⟨r1, r2⟩⟩ := id hm
  refine ⟨fun hx => ⟨fun z => ?_, fun z => ⟨fun _ => ⟨fun y => absurd (r1.symm.trans z) y, fun _ => ⟨rfl, hm⟩⟩, fun y => absurd hx y⟩⟩, fun hx => ⟨fun y => absurd y hx, fun _ => ⟨rfl, hm⟩⟩⟩
  rcases r2 with y | ⟨y0, y1, y2, y3, y4, y5, y6, y7, y8, y9, y10, y11, y12, y13, y14, y15, y16⟩
  · exact absurd y z
  · refine ⟨fun w => ⟨fun _ => ⟨fun _ => ⟨fun _ => ⟨rfl, hm⟩, fun y => by omega⟩, fun y => by omega⟩, fun y => absurd hx y⟩, fun w => s_cellAt y10 ⟨hx, by omega⟩ (s_shown ⟨fun _ => ⟨fun _ => ⟨fun y => by omega, fun _ => ?_⟩, fun y => by omega⟩, fun y => absurd hx y⟩)⟩
    rw [← y4, wrapI (z := X 40 11 - 1) (by omega) (by omega), wrapI (z := X 40 11 - 1 - x) (by omega) (by omega), ← y13 _ (by omega) (by omega)]
    exact ⟨⟨by omega, by omega⟩, s_modulo ⟨rfl, hm⟩⟩
theorem o_variable {x : Int} (h : Rel m X Y) : fSt_variable x X (Post m (fMd_variable x Y)) := by
  have hm := h.mono (m' := m + 1) (by omega)
  obtain ⟨a, b, d, e, c, nt, t1, t2, p, q, ⟨r1, r2⟩⟩ := id hm
  have bad : ¬ (0 ≤ x ∧ x ≤ 3) → Post m (fMd_variable x Y) (-1) X := fun z => s_in ⟨fun y => absurd y z, fun _ => ⟨fun y => absurd rfl y, fun _ => ⟨rfl, hm⟩⟩⟩
  refine ⟨fun z => bad (by omega), fun z1 => ⟨fun z2 => ⟨fun z => ?_, fun z => ?_⟩, fun z2 => bad (by omega)⟩⟩
  · rcases r2 with y | ⟨y0, y1, y2, y3, y4, y5, y6, y7, y8, y9, y10, y11, y12, y13, y14, y15, y16⟩
    · exact absurd y z
    · refine ⟨⟨by omega, by omega⟩, s_shown (s_in ⟨fun _ => ⟨fun _ => ⟨fun y => by omega, fun _ => ⟨⟨by omega, by omega⟩, s_modulo ⟨?_, hm⟩⟩⟩, fun y => absurd y (by decide)⟩, fun y => absurd ⟨by omega, by omega⟩ y⟩)⟩
      rw [y14 x (by omega) (by omega)]
  · exact s_in ⟨fun _ => ⟨fun _ => ⟨fun y => ⟨rfl, hm⟩, fun y => by omega⟩, fun y => absurd y (by decide)⟩, fun y => absurd ⟨by omega, by omega⟩ y⟩
theorem o_out {x : Int} (h : Rel m X Y) : fSt_out x X (Post m (fMd_out x Y)) := by
  have hm := h.mono (m' := m + 1) (by omega)
  obtain ⟨a, b, d, e, c, nt, t1, t2, p, q, ⟨r1, r2⟩⟩ := id hm
  refine ⟨fun hx => ⟨fun z => ?_, fun z => ⟨fun _ => ⟨fun y => absurd (r1.symm.trans z) y, fun _ => ⟨rfl, hm⟩⟩, fun y => absurd hx y⟩⟩, fun hx => ⟨fun y => absurd y hx, fun _ => ⟨rfl, hm⟩⟩⟩
  rcases r2 with y | ⟨y0, y1, y2, y3, y4, y5, y6, y7, y8, y9, y10, y11, y12, y13, y14, y15, y16⟩
  · exact absurd y z
  · refine ⟨fun w => ⟨fun _ => ⟨fun _ => ⟨fun _ => ⟨rfl, hm⟩, fun y => by omega⟩, fun y => by omega⟩, fun y => absurd hx y⟩, fun w => ⟨⟨by omega, by omega⟩, s_shown ⟨fun _ => ⟨fun _ => ⟨fun y => by omega, fun _ => ⟨⟨by omega, by omega⟩, s_modulo ⟨?_, hm⟩⟩⟩, fun y => by omega⟩, fun y => absurd hx y⟩⟩⟩
    rw [y15 x (by omega) (by omega)]
theorem o_went {x : Int} (h : Rel m X Y) : fSt_went x X (Post m (fMd_went x Y)) := by
  have hm := h.mono (m' := m + 1) (by omega)
  obtain ⟨a, b, d, e, c, nt, t1, t2, p, q, ⟨r1, r2⟩⟩ := id hm
  have hN := p.1.2.2.2.2.1
  refine s_xisIns p.2.2.1 ⟨fun hi => ⟨fun _ => ⟨fun z => ?_, fun z => ?_⟩, fun z => absurd z (by decide)⟩, fun hi => ⟨fun z => absurd rfl z, fun _ => s_misCode p.1 p.2.2.2.1 ⟨fun z => absurd z hi, fun _ => ⟨fun z => absurd rfl z, fun _ => ⟨rfl, hm⟩⟩⟩⟩⟩
  · rcases r2 with y | ⟨y0, y1, y2, y3, y4, y5, y6, y7, y8, y9, y10, y11, y12, y13, y14, y15, y16⟩
    · exact absurd y z
    · exact ⟨⟨by omega, by omega⟩, s_misCode p.1 p.2.2.2.1 ⟨fun _ => ⟨fun _ => ⟨fun y => by omega, fun _ => ⟨⟨by omega, by omega⟩, (y16 x (by omega) (by omega)).1, hm⟩⟩, fun z => absurd z (by decide)⟩, fun z => absurd hi z⟩⟩
  · exact s_misCode p.1 p.2.2.2.1 ⟨fun _ => ⟨fun _ => ⟨fun y => ⟨rfl, hm⟩, fun y => by omega⟩, fun z => absurd z (by decide)⟩, fun z => absurd hi z⟩
theorem o_memory {x : Int} (h : Rel m X Y) : fSt_memory x X (Post m (fMd_memory x Y)) := by
  have hm := h.mono (m' := m + 1) (by omega)
  obtain ⟨a, b, d, e, c, nt, t1, t2, p, q, ⟨r1, r2⟩⟩ := id hm
  have h16 := nS_le (cR c)
  refine ⟨fun hx => ⟨fun z => ?_, fun z => ⟨fun _ => ⟨fun y => absurd (r1.symm.trans z) y, fun _ => ⟨rfl, hm⟩⟩, fun y => absurd hx y⟩⟩, fun hx => ⟨fun y => absurd y hx, fun _ => ⟨rfl, hm⟩⟩⟩
  rcases r2 with y | ⟨y0, y1, y2, y3, y4, y5, y6, y7, y8, y9, y10, y11, y12, y13, y14, y15, y16⟩
  · exact absurd y z
  · have hs : 0 ≤ X 40 10 ∧ X 40 10 < nS (cR c) := ⟨y9.1, y9.2.1⟩
    have hl := st_f p.1.1 hs
    have hl0 : 0 ≤ stL (cR c) (X 40 10) := hl.1
    have w1 : wrap (X 40 11 - stL (cR c) (X 40 10)) = X 40 11 - stL (cR c) (X 40 10) := wrapI (by omega) (by omega)
    have ref : ∀ {v}, (X 40 11 - stL (cR c) (X 40 10) ≤ x → v = -4) → (¬ X 40 11 - stL (cR c) (X 40 10) ≤ x → v = modB (X 41 x)) → Post m (fMd_memory x Y) v X := by
      intro v v1 v2
      refine ⟨fun _ => ⟨fun _ => s_lays p.1 p.2.2.2.1 (fun Y1 o1 hT1 _ => ?_), fun y => by omega⟩, fun y => absurd hx y⟩
      have hr1 := hm.offY (o1.mono (by decide) (by decide))
      rw [o1.fld (i := 46) (by decide), o1.fld (i := 48) (by decide), ← y3, ← y4, hT1.2.1 _ hs.1 hs.2, w1]
      refine ⟨⟨by omega, by omega⟩, fun w => ⟨v1 w, hr1⟩, fun w => ⟨⟨by omega, by omega⟩, s_modulo ⟨?_, hr1⟩⟩⟩
      rw [v2 w, o1.cell (by decide), ← y13 x (by omega) (by omega)]
    refine s_lengthOf p.2.2.1.2.2.1 hs ?_
    rw [w1]
    refine ⟨fun w => ref (fun _ => rfl) (fun y => absurd w y), fun w => ?_⟩
    rw [wrapI (z := X 40 11 - 1) (by omega) (by omega), wrapI (z := X 40 11 - 1 - x) (by omega) (by omega)]
    refine s_cellAt y10 ⟨by omega, by omega⟩ (s_shown (ref (fun y => absurd y w) (fun _ => ?_)))
    rw [show X 40 11 - 1 - (X 40 11 - 1 - x) = x by omega]
theorem o_register {x : Int} (h : Rel m X Y) : fSt_register x X (Post m (fMd_register x Y)) := by
  have hm := h.mono (m' := m + 1) (by omega)
  obtain ⟨a, b, d, e, c, nt, t1, t2, p, q, ⟨r1, r2⟩⟩ := id hm
  have h16 := nS_le (cR c)
  have e5 : X 5 0 = cR c := d.1.trans p.2.2.2.1.1.1
  have hR := p.1.1
  have w0 : wrap (Y 1 0 - 1) = cR c - 1 := by rw [p.2.2.2.1.1.1]; exact wrapI (by omega) (by omega)
  have bad : ¬ (0 ≤ x ∧ x ≤ cR c - 1) → Post m (fMd_register x Y) (-1) X := fun z => by
    unfold Post fMd_register
    rw [w0]
    exact s_in ⟨fun y => absurd y z, fun _ => ⟨fun y => absurd rfl y, fun _ => ⟨rfl, hm⟩⟩⟩
  unfold fSt_register
  rw [e5]
  refine ⟨fun z => bad (by omega), fun z1 => ⟨fun z2 => ⟨fun z => ?_, fun z => ?_⟩, fun z2 => bad (by omega)⟩⟩
  · rcases r2 with y | ⟨y0, y1, y2, y3, y4, y5, y6, y7, y8, y9, y10, y11, y12, y13, y14, y15, y16⟩
    · exact absurd y z
    · have hs : 0 ≤ X 40 10 ∧ X 40 10 < nS (cR c) := ⟨y9.1, y9.2.1⟩
      have hl := st_f hR hs
      have hl3 : 0 ≤ stL (cR c) (X 40 10) ∧ stL (cR c) (X 40 10) ≤ 3 := by have := hl.1; have := hl.2.1; omega
      refine s_lengthOf p.2.2.1.2.2.1 hs ⟨4, ?_⟩
      have key : ∀ (n : Nat) (i : Int) (G : Int → Mem → Prop), 0 ≤ i → i ≤ stL (cR c) (X 40 10) → stL (cR c) (X 40 10) - i < n → (∀ v, (∀ Y1, Off [15, 16] [20] Y Y1 → TM (cR c) Y1 → ∀ S : Int → Mem → Prop, S v Y1 → fMd_register_34 S n x i Y1) → G v X) → fSt_register_47 G n x (stL (cR c) (X 40 10)) i X := by
        intro n
        induction n with
        | zero => intro i G i0 i1 hn hG; omega
        | succ n ih =>
          intro i G i0 i1 hn hG
          have fin : ∀ {Y1 : Mem} {S : Int → Mem → Prop}, Off [15, 16] [20] Y Y1 → TM (cR c) Y1 → ((stL (cR c) (X 40 10) ≤ i → S (-4) Y1) ∧ (¬ stL (cR c) (X 40 10) ≤ i → (stR (cR c) (X 40 10) i ≠ x → fMd_register_34 S n x (i + 1) Y1) ∧ (stR (cR c) (X 40 10) i = x → S (modB (X 41 (X 40 11 - 1 - i))) Y1))) → fMd_register_34 S (n + 1) x i Y1 := by
            intro Y1 S o1 hT1 hh
            unfold fMd_register_34
            rw [o1.fld (i := 46) (by decide), o1.fld (i := 48) (by decide), ← y3, ← y4, hT1.2.1 _ hs.1 hs.2, wrapI (z := 3 * X 40 10) (by omega) (by omega)]
            refine ⟨⟨by omega, by omega⟩, fun w => hh.1 w, fun w => ?_⟩
            rw [wrapI (z := 3 * X 40 10 + i) (by omega) (by omega), hT1.2.2 _ i hs.1 hs.2 (by omega) (by omega), wrapI (z := i + 1) (by omega) (by omega), wrapI (z := X 40 11 - 1) (by omega) (by omega), wrapI (z := X 40 11 - 1 - i) (by omega) (by omega)]
            refine ⟨⟨by omega, by omega⟩, fun w2 => (hh.2 w).1 w2, fun w2 => ⟨⟨by omega, by omega⟩, s_modulo ?_⟩⟩
            rw [o1.cell (c := 27) (by decide), ← y13 _ (by omega) (by omega)]
            exact (hh.2 w).2 w2
          refine ⟨fun w => hG _ (fun Y1 o1 hT1 S hS => fin o1 hT1 ⟨fun _ => hS, fun y => absurd w y⟩), fun w => s_registerOf hR p.2.2.1.2.2.1 hs ⟨i0, by omega⟩ ⟨fun w2 => ?_, fun w2 => ?_⟩⟩
          · rw [wrapI (z := i + 1) (by omega) (by omega)]
            refine ih (i + 1) G (by omega) (by omega) (by omega) (fun v hv => hG v (fun Y1 o1 hT1 S hS => fin o1 hT1 ⟨fun y => absurd y w, fun _ => ⟨fun _ => hv Y1 o1 hT1 S hS, fun y => absurd y w2⟩⟩))
          · exact s_cellAt y10 ⟨i0, by omega⟩ (s_shown (hG _ (fun Y1 o1 hT1 S hS => fin o1 hT1 ⟨fun y => absurd y w, fun _ => ⟨fun y => absurd w2 y, fun _ => hS⟩⟩)))
      refine key 4 0 _ (by omega) (by omega) (by omega) (fun v hv => ?_)
      unfold Post fMd_register
      rw [w0]
      exact s_in ⟨fun _ => ⟨fun _ => ⟨fun _ => s_lays p.1 p.2.2.2.1 (fun Y1 o1 hT1 _ => ⟨4, hv Y1 o1 hT1 _ ⟨rfl, hm.offY (o1.mono (by decide) (by decide))⟩⟩), fun y => by omega⟩, fun y => absurd y (by decide)⟩, fun y => absurd ⟨by omega, by omega⟩ y⟩
  · unfold Post fMd_register
    rw [w0]
    exact s_in ⟨fun _ => ⟨fun _ => ⟨fun y => by omega, fun y => ⟨rfl, hm⟩⟩, fun y => absurd y (by decide)⟩, fun y => absurd ⟨by omega, by omega⟩ y⟩
theorem sg_char : ∀ k : Fin 15, b_i2c (b_iand (roV 111 ((k.val : Nat) : Int)) 255) = sg ((k.val : Nat) : Int) ∧ 0 ≤ sg ((k.val : Nat) : Int) ∧ sg ((k.val : Nat) : Int) < 65536 := by decide +kernel
theorem s_charAt111 {k : Int} (hk : 0 ≤ k ∧ k < 15) (h : R (sg k) X) : fStr_charAt_111 k X R := by
  obtain ⟨a, ha⟩ := i_fin (n := 15) (x := k) ⟨by omega, by omega⟩
  have hc := sg_char a
  rw [← ha] at hc
  refine ⟨fun z => absurd z (by decide), fun _ => ⟨fun z => absurd rfl z, fun _ => ⟨fun z => absurd z (by decide), fun _ => ?_⟩⟩⟩
  unfold fLat_charAt_121
  rw [hc.1]
  exact ⟨⟨by omega, by omega⟩, ⟨by omega, by omega⟩, ⟨hc.2.1, hc.2.2⟩, ⟨hc.2.1, hc.2.2⟩, h⟩
theorem o_code {i w : Int} (h : Rel m X Y) : fSt_code i w X (Post m (fMd_code i w Y)) := by
  have hm := h.mono (m' := m + 1) (by omega)
  obtain ⟨a, b, d, e, c, nt, t1, t2, p, q, r⟩ := id hm
  have hV := p.1
  have hC := p.2.2.1
  have hM := p.2.2.2.1
  have hN := hV.2.2.2.2.1
  refine s_xisIns hC ⟨fun hi => ⟨fun z => absurd z (by decide), fun _ => ?_⟩, fun hi => ⟨fun _ => s_misCode hV hM ⟨fun z => absurd z hi, fun _ => ⟨fun z => absurd rfl z, fun _ => ⟨rfl, hm⟩⟩⟩, fun z => absurd rfl z⟩⟩
  have i24 : inb i 24 := ⟨by omega, by omega⟩
  have hk := hV.2.2.2.2.2.1 i hi.1 hi.2
  obtain ⟨x1, x2, x3, x4, x5, x6⟩ := hC.2.1 i hi.1 hi.2
  obtain ⟨z1, z2, z3, z4, z5, z6⟩ := hM.2.2 i hi.1 hi.2
  obtain ⟨n1, n2, n3⟩ := p.2.2.2.2.2.1 i hi.1 hi.2
  have w4 : wrap (4 + i) = 4 + i := wrapI (by omega) (by omega)
  have ref : ∀ {v}, (w = 0 → v = Y 3 i) → (w = 1 → v = Y 4 i) → (w = 2 → v = Y 5 i) → (w = 3 → v = Y 6 i) → (w = 4 → v = Y 1 (4 + i)) → (w < 0 ∨ 4 < w → v = -1) → Post m (fMd_code i w Y) v X := by
    intro v v0 v1 v2 v3 v4 v5
    refine s_misCode hV hM ⟨fun _ => ⟨fun _ => ⟨fun w => ⟨i24, v0 w, hm⟩, fun w => ⟨i24, v1 w, hm⟩, fun w => ⟨i24, v2 w, hm⟩, fun w => ⟨i24, v3 w, hm⟩, fun w => ?_, fun w => ⟨v5 w, hm⟩⟩, fun z => absurd z (by decide)⟩, fun z => absurd hi z⟩
    rw [w4]
    exact ⟨⟨by omega, by omega⟩, v4 w, hm⟩
  refine ⟨fun w0 => ref (by omega) (by omega) (by omega) (by omega) (by omega) (fun _ => rfl), fun w0 => ⟨fun w5 => ⟨fun y => ⟨i24, ?_⟩, fun y => ⟨i24, ?_, ?_⟩, fun y => s_isReached hV hC hi ⟨fun hd => ⟨fun z => absurd z (by decide), fun _ => ⟨i24, ?_⟩⟩, fun hd => ⟨fun _ => ?_, fun z => absurd rfl z⟩⟩, fun y => ⟨i24, fun z => ?_, fun z => ?_⟩, fun y => ⟨i24, ?_⟩⟩, fun w5 => ref (by omega) (by omega) (by omega) (by omega) (by omega) (fun _ => rfl)⟩⟩
  · rw [x1]
    exact s_charAt111 hk (ref (fun _ => z1.symm) (by omega) (by omega) (by omega) (by omega) (by omega))
  · rw [x1]; exact ⟨hk.1, hk.2⟩
  · rw [x1, show roV 102 (cK c i) = dg (cK c i) from rfl]
    have hd0 : 0 ≤ dg (cK c i) := by
      obtain ⟨k, hk'⟩ := i_fin (n := 15) (x := cK c i) ⟨by omega, by omega⟩
      rw [hk']
      exact (show ∀ k : Fin 15, 0 ≤ dg ((k.val : Nat) : Int) by decide +kernel) k
    refine ⟨fun z => ref (by omega) (fun _ => ?_) (by omega) (by omega) (by omega) (by omega), fun z => ⟨i24, ref (by omega) (fun _ => ?_) (by omega) (by omega) (by omega) (by omega)⟩⟩
    · exact (n2 (by omega)).symm
    · exact (n1 (by omega)).1
  · exact ref (by omega) (by omega) (fun _ => by rw [x2, z2]) (by omega) (by omega) (by omega)
  · exact ref (by omega) (by omega) (fun _ => by rw [z2, hd]) (by omega) (by omega) (by omega)
  · exact ref (by omega) (by omega) (by omega) (fun _ => by rw [z3, ← x3, z]) (by omega) (by omega)
  · exact ref (by omega) (by omega) (by omega) (fun _ => by rw [z3]; omega) (by omega) (by omega)
  · exact ref (by omega) (by omega) (by omega) (by omega) (fun _ => by rw [x5, z5]) (by omega)
theorem s_count76 (hV : VP c) (hM : MC c Y) : ∀ (n : Nat) (x i : Int), 0 ≤ i → i ≤ cN c → cN c - i < n → x = sumT (fun i => if cDep c i ≠ -4 then 1 else 0) i.toNat → R (sumT (fun i => if cDep c i ≠ -4 then 1 else 0) (cN c).toNat) Y → fMd_count_76 R n x i Y := by
  have hN := hV.2.2.2.2.1
  intro n
  induction n with
  | zero => intro x i i0 i1 hn; omega
  | succ n ih =>
    intro x i i0 i1 hn hx hR
    unfold fMd_count_76
    rw [hM.2.1]
    refine ⟨fun z => ?_, fun z => ⟨⟨by omega, by omega⟩, ?_⟩⟩
    · have : i = cN c := by omega
      rw [hx, this]; exact hR
    · rw [(hM.2.2 i i0 (by omega)).2.1]
      have b1 := sumT_nonneg (f := fun i => if cDep c i ≠ -4 then 1 else 0) (n := i.toNat) (fun j _ => by show (0 : Int) ≤ (if cDep c (j : Int) ≠ -4 then 1 else 0); split <;> decide)
      have b2 := sumT_le (f := fun i => if cDep c i ≠ -4 then 1 else 0) (b := 1) (n := i.toNat) (fun j _ => by show (if cDep c (j : Int) ≠ -4 then 1 else 0) ≤ (1 : Int); split <;> decide)
      have es : sumT (fun i => if cDep c i ≠ -4 then 1 else 0) (i + 1).toNat = x + (if cDep c i ≠ -4 then 1 else 0) := by
        rw [show (i + 1).toNat = i.toNat + 1 by omega, hx]
        show _ + (if cDep c ((i.toNat : Nat) : Int) ≠ -4 then 1 else 0) = _
        rw [show ((i.toNat : Nat) : Int) = i by omega]
      have wi : wrap (i + 1) = i + 1 := wrapI (by omega) (by omega)
      refine ⟨fun y => ?_, fun y => ?_⟩
      · unfold fMd_count_101
        rw [wi, wrapI (z := x + 1) (by omega) (by omega)]
        exact ih _ _ (by omega) (by omega) (by omega) (by rw [es, if_pos y]) hR
      · unfold fMd_count_101
        rw [wi, wrapI (z := x + 0) (by omega) (by omega)]
        exact ih _ _ (by omega) (by omega) (by omega) (by rw [es, if_neg (fun q => q y)]) hR
theorem s_count113 (hV : VP c) (hM : MC c Y) : ∀ (n : Nat) (x i : Int), 0 ≤ i → i ≤ cN c → cN c - i < n → x = sumT (cTg c) i.toNat → R (sumT (cTg c) (cN c).toNat) Y → fMd_count_113 R n x i Y := by
  have hN := hV.2.2.2.2.1
  intro n
  induction n with
  | zero => intro x i i0 i1 hn; omega
  | succ n ih =>
    intro x i i0 i1 hn hx hR
    unfold fMd_count_113
    rw [hM.2.1]
    refine ⟨fun z => ?_, fun z => ⟨⟨by omega, by omega⟩, ?_⟩⟩
    · have : i = cN c := by omega
      rw [hx, this]; exact hR
    · have hr : ∀ j : Nat, j < (i + 1).toNat → 0 ≤ cTg c j ∧ cTg c j ≤ 1 := fun j hj => by
        have := (hM.2.2 j (by omega) (by omega)).2.2.2.1; omega
      rw [(hM.2.2 i i0 (by omega)).2.2.1]
      have b1 := sumT_nonneg (f := cTg c) (n := (i + 1).toNat) (fun j hj => (hr j hj).1)
      have b2 := sumT_le (f := cTg c) (b := 1) (n := (i + 1).toNat) (fun j hj => (hr j hj).2)
      have es : sumT (cTg c) (i + 1).toNat = x + cTg c i := by
        rw [show (i + 1).toNat = i.toNat + 1 by omega, hx]
        show _ + cTg c ((i.toNat : Nat) : Int) = _
        rw [show ((i.toNat : Nat) : Int) = i by omega]
      rw [wrapI (z := i + 1) (by omega) (by omega), wrapI (z := x + cTg c i) (by omega) (by omega)]
      exact ih _ _ (by omega) (by omega) (by omega) es.symm hR
theorem o_count {x : Int} (h : Rel m X Y) : fSt_count x X (Post m (fMd_count x Y)) := by
  have hm := h.mono (m' := m + 1) (by omega)
  obtain ⟨a, b, d, e, c, nt, t1, t2, p, q, r⟩ := id hm
  have hV := p.1
  have hC := p.2.2.1
  have hM := p.2.2.2.1
  have hN := hV.2.2.2.2.1
  have ref : ∀ {v}, (x = 0 → v = Y 0 3) → (x = 1 ∨ x = 2 ∨ x = 3 ∨ x = 4 → v = Y 1 (x - 1)) → (x = 5 → v = sumT (fun i => if cDep c i ≠ -4 then 1 else 0) (cN c).toNat) → (x = 6 → v = sumT (cTg c) (cN c).toNat) → (x = 7 → v = Y 0 2) → (x = 8 → v = Y 0 9) → (x = 9 → v = Y 0 16) → (x = 10 → (Y 0 43 = 0 → v = 0) ∧ (¬ Y 0 43 = 0 → v = 1)) → (x < 0 ∨ 10 < x → v = -1) → Post m (fMd_count x Y) v X := by
    intro v v0 v1 v5 v6 v7 v8 v9 v10 v11
    refine ⟨fun z => ⟨v0 z, hm⟩, fun z => ?_, fun z => ⟨25, s_count76 hV hM 25 0 0 (by omega) (by omega) (by omega) rfl ⟨v5 z, hm⟩⟩, fun z => ⟨25, s_count113 hV hM 25 0 0 (by omega) (by omega) (by omega) rfl ⟨v6 z, hm⟩⟩, fun z => ⟨v7 z, hm⟩, fun z => ⟨v8 z, hm⟩, fun z => ⟨v9 z, hm⟩, fun z => ⟨fun y => ⟨(v10 z).1 y, hm⟩, fun y => ⟨(v10 z).2 y, hm⟩⟩, fun z => ⟨v11 z, hm⟩⟩
    unfold fMd_count_65
    rw [wrapI (z := x - 1) (by omega) (by omega)]
    exact ⟨⟨by omega, by omega⟩, v1 z, hm⟩
  have sx : ∀ {a b : Int}, x = a → x - 1 = b → Y 1 (x - 1) = Y 1 b := fun _ h2 => by rw [h2]
  refine ⟨fun z => ?_, fun z => ?_, fun z => ?_, fun z => ?_, fun z => ?_, fun z => ?_, fun z => ?_, fun z => ?_, fun z => ?_, fun z => ?_, fun z => ⟨fun y => ?_, fun y => ?_⟩, fun z => ?_⟩
  · exact ref (fun _ => by rw [hC.1, hM.2.1]) (by omega) (by omega) (by omega) (by omega) (by omega) (by omega) (by omega) (by omega)
  · exact ref (by omega) (fun _ => by rw [z]; exact d.1) (by omega) (by omega) (by omega) (by omega) (by omega) (by omega) (by omega)
  · exact ref (by omega) (fun _ => by rw [z]; exact d.2.1) (by omega) (by omega) (by omega) (by omega) (by omega) (by omega) (by omega)
  · exact ref (by omega) (fun _ => by rw [z]; exact d.2.2.1) (by omega) (by omega) (by omega) (by omega) (by omega) (by omega) (by omega)
  · exact ref (by omega) (fun _ => by rw [z]; exact d.2.2.2.1) (by omega) (by omega) (by omega) (by omega) (by omega) (by omega) (by omega)
  · exact ref (by omega) (by omega) (fun _ => p.2.2.2.2.2.2.1) (by omega) (by omega) (by omega) (by omega) (by omega) (by omega)
  · exact ref (by omega) (by omega) (by omega) (fun _ => p.2.2.2.2.2.2.2) (by omega) (by omega) (by omega) (by omega) (by omega)
  · exact ref (by omega) (by omega) (by omega) (by omega) (fun _ => e.1) (by omega) (by omega) (by omega) (by omega)
  · exact ref (by omega) (by omega) (by omega) (by omega) (by omega) (fun _ => a.1) (by omega) (by omega) (by omega)
  · exact ref (by omega) (by omega) (by omega) (by omega) (by omega) (by omega) (fun _ => b.1) (by omega) (by omega)
  · exact ref (by omega) (by omega) (by omega) (by omega) (by omega) (by omega) (by omega) (fun _ => ⟨fun _ => rfl, fun k => absurd (r.1.symm.trans y) k⟩) (by omega)
  · exact ref (by omega) (by omega) (by omega) (by omega) (by omega) (by omega) (by omega) (fun _ => ⟨fun k => absurd (r.1.trans k) y, fun _ => rfl⟩) (by omega)
  · exact ref (by omega) (by omega) (by omega) (by omega) (by omega) (by omega) (by omega) (by omega) (fun _ => rfl)
end O
