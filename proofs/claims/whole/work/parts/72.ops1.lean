/-! operations that change little -/
abbrev yS : List Nat := [15, 16, 17]
abbrev yT : List Int := [20, 23, 24, 25]
theorem BestM.off {c : Cf} {nt t1 t2 : Int} {S : List Nat} {T : List Int} {Y Y' : Mem} (h : BestM c nt t1 t2 Y) (ho : Off S T Y Y') (hS : 0 ∉ S ∧ 21 ∉ S ∧ (32 : Int) ∉ T) : BestM c nt t1 t2 Y' := by
  obtain ⟨a, b, h1, h2⟩ := h
  exact ⟨a, b, by rw [ho.fld ⟨hS.1, hS.2.2⟩]; exact h1, by rw [ho.fn ⟨hS.2.1, by decide⟩]; exact h2⟩
def RQ (m : Int) (X Y : Mem) : Prop := ∃ c nt t1 t2, RP c nt t1 t2 X Y ∧ RB c nt t1 t2 X Y ∧ RR m c X Y
abbrev keepX : List Nat := [6, 8, 9, 10, 11, 12, 13, 14, 15, 17, 19, 27, 36, 39, 40, 41, 42, 43, 44]
abbrev keepY : List Nat := [0, 1, 3, 4, 5, 6, 18, 21, 25, 27, 28, 29, 30]
abbrev keepF : List Int := [3, 27, 31, 32, 40, 43, 44, 45, 46, 48, 49, 50, 52]
theorem RQ.off {m : Int} {X Y X' Y' : Mem} {S S' : List Nat} {T T' : List Int} (h : RQ m X Y) (hx : Off S T X X') (hy : Off S' T' Y Y') (kx : ∀ d ∈ keepX, d ∉ S) (ky : ∀ d ∈ keepY, d ∉ S') (kf : ∀ d ∈ keepF, d ∉ T') : RQ m X' Y' := by
  obtain ⟨c, nt, ta, tb, ⟨p1, p2, p3, p4, p5, p6, p7, p8⟩, ⟨b1, b2, b3, b4, b5⟩, r⟩ := h
  have ex : ∀ {d : Nat}, d ∈ keepX → X' d = X d := fun {d} hd => hx.fn ⟨kx d hd, by rintro rfl; revert hd; decide⟩
  have ey : ∀ {d : Nat}, d ∈ keepY → d ≠ 0 → Y' d = Y d := fun {d} hd h0 => hy.fn ⟨ky d hd, h0⟩
  have f : ∀ {i : Int}, i ∈ keepF → Y' 0 i = Y 0 i := fun {i} hi => hy.fld ⟨ky 0 (by decide), kf i hi⟩
  have g : ∀ d : Nat, d ∈ keepX → d ∉ S := kx
  refine ⟨c, nt, ta, tb, ⟨p1, p2, p3.off hx ⟨g 6 (by decide), g 8 (by decide), g 9 (by decide), g 10 (by decide), g 11 (by decide), g 12 (by decide), g 13 (by decide), g 14 (by decide), g 15 (by decide), g 17 (by decide), g 19 (by decide)⟩, p4.off hy ⟨ky 0 (by decide), ky 1 (by decide), ky 3 (by decide), ky 4 (by decide), ky 5 (by decide), ky 6 (by decide), kf 3 (by decide)⟩, p5, ?_, by rw [ex (d := 13) (by decide)]; exact p7, by rw [ex (d := 13) (by decide)]; exact p8⟩, ⟨?_, ?_, ?_, by rw [f (by decide)]; exact b4, by rw [ey (d := 25) (by decide) (by decide)]; exact b5⟩, ?_⟩
  · unfold NR at p6 ⊢; rw [ey (d := 4) (by decide) (by decide), ex (d := 15) (by decide)]; exact p6
  · unfold KX BestX LeastX at b1 ⊢
    rw [ex (d := 27) (by decide), ex (d := 36) (by decide), ex (d := 39) (by decide)]; exact b1
  · rw [f (by decide)]
    rcases b2 with z | ⟨z1, z2, z3⟩
    · exact Or.inl z
    · exact Or.inr ⟨z1, z2.off hy ⟨ky 0 (by decide), ky 21 (by decide), kf 32 (by decide)⟩, by rw [f (by decide)]; exact z3⟩
  · rw [f (by decide)]
    unfold PassOK at b3 ⊢
    rw [ey (d := 18) (by decide) (by decide)]; exact b3
  · unfold RR at r ⊢
    rw [f (i := 43) (by decide), f (i := 31) (by decide), f (i := 27) (by decide), f (i := 44) (by decide), f (i := 46) (by decide), f (i := 48) (by decide), f (i := 52) (by decide), f (i := 49) (by decide), f (i := 50) (by decide), f (i := 45) (by decide), ey (d := 27) (by decide) (by decide), ey (d := 28) (by decide) (by decide), ey (d := 29) (by decide) (by decide), ey (d := 30) (by decide) (by decide), ex (d := 27) (by decide), ex (d := 39) (by decide), ex (d := 40) (by decide), ex (d := 41) (by decide), ex (d := 42) (by decide), ex (d := 43) (by decide), ex (d := 44) (by decide)]
    exact r
theorem RT.off {X Y X' Y' : Mem} {S S' : List Nat} {T T' : List Int} (h : RT X Y) (hx : Off S T X X') (hy : Off S' T' Y Y') (kx : 1 ∉ S ∧ 2 ∉ S) (ky : 0 ∉ S' ∧ 7 ∉ S' ∧ (9 : Int) ∉ T') : RT X' Y' := by
  unfold RT at h ⊢
  rw [hx.fn ⟨kx.1, by decide⟩, hx.fn ⟨kx.2, by decide⟩, hy.fn ⟨ky.2.1, by decide⟩, hy.fld ⟨ky.1, ky.2.2⟩]; exact h
theorem RCa.off {X Y X' Y' : Mem} {S S' : List Nat} {T T' : List Int} (h : RCa X Y) (hx : Off S T X X') (hy : Off S' T' Y Y') (kx : 3 ∉ S ∧ 4 ∉ S) (ky : 0 ∉ S' ∧ 11 ∉ S' ∧ (16 : Int) ∉ T') : RCa X' Y' := by
  unfold RCa at h ⊢
  rw [hx.fn ⟨kx.1, by decide⟩, hx.fn ⟨kx.2, by decide⟩, hy.fn ⟨ky.2.1, by decide⟩, hy.fld ⟨ky.1, ky.2.2⟩]; exact h
theorem RS.off {X Y X' Y' : Mem} {S S' : List Nat} {T T' : List Int} (h : RS X Y) (hx : Off S T X X') (hy : Off S' T' Y Y') (kx : 5 ∉ S ∧ 6 ∉ S) (ky : 1 ∉ S') : RS X' Y' := by
  unfold RS at h ⊢
  rw [hx.fn ⟨kx.1, by decide⟩, hx.fn ⟨kx.2, by decide⟩, hy.fn ⟨ky, by decide⟩]; exact h
theorem RU.off {X Y X' Y' : Mem} {S S' : List Nat} {T T' : List Int} (h : RU X Y) (hx : Off S T X X') (hy : Off S' T' Y Y') (kx : 5 ∉ S ∧ 7 ∉ S) (ky : 0 ∉ S' ∧ 2 ∉ S' ∧ (2 : Int) ∉ T') : RU X' Y' := by
  unfold RU at h ⊢
  rw [hx.fn ⟨kx.1, by decide⟩, hx.fn ⟨kx.2, by decide⟩, hy.fn ⟨ky.2.1, by decide⟩, hy.fld ⟨ky.1, ky.2.2⟩]; exact h
theorem Rel.offY {m : Int} {X Y Y' : Mem} (h : Rel m X Y) (ho : Off yS yT Y Y') : Rel m X Y' := by
  obtain ⟨a, b, d, e, q⟩ := h
  have hx : Off [] [] X X := Off.rf _ _ _
  exact ⟨a.off hx ho (by decide) (by decide), b.off hx ho (by decide) (by decide), d.off hx ho (by decide) (by decide), e.off hx ho (by decide) (by decide), RQ.off q hx ho (by decide) (by decide) (by decide)⟩
section O
variable {m : Int} {X Y : Mem}
abbrev Post (m : Int) (g : (Int → Mem → Prop) → Prop) (r : Int) (X' : Mem) : Prop := g (fun r' Y' => r = r' ∧ Rel (m + 1) X' Y')
theorem s_in {x a b : Int} {M : Mem} {R : Int → Mem → Prop} (h : ((a ≤ x ∧ x ≤ b) → R 1 M) ∧ (¬ (a ≤ x ∧ x ≤ b) → R 0 M)) : fMd_in x a b M R := by
  unfold fMd_in fMd_in_14
  exact ⟨fun q => h.2 (fun z => by omega), fun q1 => ⟨fun q2 => h.2 (fun z => by omega), fun q2 => h.1 ⟨by omega, by omega⟩⟩⟩
theorem o_write {x : Int} (h : Rel m X Y) : fSt_write x X (Post m (fMd_write x Y)) := by
  have hm : Rel (m + 1) X Y := h.mono (by omega)
  obtain ⟨⟨t1, t2, t3⟩, hrest⟩ := id hm
  unfold fSt_write
  have bad : ¬ (32 ≤ x ∧ x ≤ 126) → Post m (fMd_write x Y) (-1) X := fun q => s_in ⟨fun z => absurd z q, fun _ => ⟨fun z => absurd rfl z, fun _ => ⟨rfl, hm⟩⟩⟩
  refine ⟨fun q => bad (by omega), fun q1 => ⟨fun q2 => ⟨fun q3 => ?_, fun q3 => ?_⟩, fun q2 => bad (by omega)⟩⟩
  · refine ⟨fun z => by omega, fun _ => ⟨⟨by omega, by omega⟩, ?_⟩⟩
    have w : wrap (X 1 1 + 1) = X 1 1 + 1 := wrapI (by omega) (by omega)
    rw [w]
    refine s_in ⟨fun _ => ⟨fun _ => ⟨fun _ => ?_, fun z => by omega⟩, fun z => absurd z (by decide)⟩, fun z => absurd ⟨by omega, by omega⟩ z⟩
    rw [← t1, w]
    have hx : Off [1, 2] [] X (mu (mu X 1 1 (X 1 1 + 1)) 2 (X 1 1) x) := ((Off.rf _ _ _).mu (Or.inl (by decide))).mu (Or.inl (by decide))
    have hy : Off [7] [9] Y (mu (mu Y 7 (X 1 1) x) 0 9 (X 1 1 + 1)) := ((Off.rf _ _ _).mu (Or.inl (by decide))).mu (Or.inr (by decide))
    obtain ⟨b, d, e, q⟩ := hrest
    have ex : (mu (mu X 1 1 (X 1 1 + 1)) 2 (X 1 1) x) 1 1 = X 1 1 + 1 := by rw [mu_cell (by decide), mu_same]
    refine ⟨⟨by omega, by omega⟩, ex, ⟨?_, ?_, fun i i0 i1 => ?_⟩, b.off hx hy (by decide) (by decide), d.off hx hy (by decide) (by decide), e.off hx hy (by decide) (by decide), RQ.off q hx hy (by decide) (by decide) (by decide)⟩
    · rw [ex, mu_same]
    · rw [ex]; omega
    · rw [ex] at i1
      rw [mu_cell (c := 0) (by decide)]
      by_cases z : i = X 1 1
      · rw [z, mu_same, mu_same]; exact ⟨rfl, by omega, by omega⟩
      · rw [mu_place z, mu_place z, mu_cell (by decide)]; exact t3 i i0 (by omega)
  · exact s_in ⟨fun _ => ⟨fun _ => ⟨fun z => absurd (by omega) z, fun _ => ⟨rfl, hm⟩⟩, fun z => absurd z (by decide)⟩, fun z => absurd ⟨by omega, by omega⟩ z⟩
end O
