/-! the potential of a state, and paths: what the search must find -/
section P
variable (mv ld st : Int)
def fv (f : Nat × Nat × Nat) : Int := f.1 * mv + f.2.1 * ld + f.2.2 * st
def mnP : List (Nat × Nat × Nat) → Int
  | [] => 1000
  | f :: l => min (fv mv ld st f) (mnP l)
def psi (r t u : Nat) : Int := mnP mv ld st (pf (psI r t u))
end P
section P
variable {mv ld st : Int}
theorem mnP_le {l : List (Nat × Nat × Nat)} {f : Nat × Nat × Nat} (h : f ∈ l) : mnP mv ld st l ≤ fv mv ld st f := by
  induction l with
  | nil => cases h
  | cons g l ih =>
    unfold mnP
    rcases List.mem_cons.mp h with rfl | h
    · exact Int.min_le_left _ _
    · exact Int.le_trans (Int.min_le_right _ _) (ih h)
theorem mnP_1000 (l : List (Nat × Nat × Nat)) : mnP mv ld st l ≤ 1000 := by
  induction l with
  | nil => exact Int.le_refl _
  | cons g l ih => exact Int.le_trans (Int.min_le_right _ _) ih
theorem mnP_at (l : List (Nat × Nat × Nat)) : mnP mv ld st l = 1000 ∨ ∃ f ∈ l, mnP mv ld st l = fv mv ld st f := by
  induction l with
  | nil => exact Or.inl rfl
  | cons g l ih =>
    unfold mnP
    by_cases hc : fv mv ld st g ≤ mnP mv ld st l
    · exact Or.inr ⟨g, List.mem_cons_self, Int.min_eq_left hc⟩
    · rw [Int.min_eq_right (by omega)]
      rcases ih with h | ⟨f, h1, h2⟩
      · exact Or.inl h
      · exact Or.inr ⟨f, List.mem_cons_of_mem _ h1, h2⟩
theorem psI_lt (r t u : Nat) : psI r t u < 64 := Nat.mod_lt _ (by decide)
theorem mnP_rel (hmv : 0 ≤ mv) (hld : 0 ≤ ld) (hst : 0 ≤ st) {e a b : Nat} (he : e < 3) (ha : a < 64) (hb : b < 64) (h : relB e a b = true) : mnP mv ld st (pf a) ≤ mnP mv ld st (pf b) + cE mv ld st e := by
  have hk := rel_ok ⟨e, he⟩ ⟨a, ha⟩ ⟨b, hb⟩
  dsimp only at hk
  rw [h] at hk
  simp only [Bool.not_true, Bool.false_or, List.all_eq_true, List.any_eq_true] at hk
  have hce : 0 ≤ cE mv ld st e := by unfold cE; split <;> (try split) <;> assumption
  rcases mnP_at (mv := mv) (ld := ld) (st := st) (pf b) with q | ⟨g, g1, g2⟩
  · have := mnP_1000 (mv := mv) (ld := ld) (st := st) (pf a)
    omega
  · obtain ⟨f, f1, f2⟩ := hk g g1
    have h1 := mnP_le (mv := mv) (ld := ld) (st := st) f1
    rw [g2]
    refine Int.le_trans h1 ?_
    unfold leF at f2
    simp only [Bool.and_eq_true, Nat.ble_eq] at f2
    obtain ⟨⟨z1, z2⟩, z3⟩ := f2
    unfold fv
    have y1 : (f.1 : Int) * mv ≤ ((g.1 + if e = 0 then 1 else 0 : Nat) : Int) * mv := Int.mul_le_mul_of_nonneg_right (by omega) hmv
    have y2 : (f.2.1 : Int) * ld ≤ ((g.2.1 + if e = 1 then 1 else 0 : Nat) : Int) * ld := Int.mul_le_mul_of_nonneg_right (by omega) hld
    have y3 : (f.2.2 : Int) * st ≤ ((g.2.2 + if e = 2 then 1 else 0 : Nat) : Int) * st := Int.mul_le_mul_of_nonneg_right (by omega) hst
    have he3 : e = 0 ∨ e = 1 ∨ e = 2 := by omega
    rcases he3 with rfl | rfl | rfl
    · simp only [Int.natCast_add, Int.add_mul] at y1 y2 y3
      simp at y1 y2 y3
      unfold cE; simp; omega
    · simp only [Int.natCast_add, Int.add_mul] at y1 y2 y3
      simp at y1 y2 y3
      unfold cE; simp; omega
    · simp only [Int.natCast_add, Int.add_mul] at y1 y2 y3
      simp at y1 y2 y3
      unfold cE; simp; omega
theorem cons_ok {r t : Nat} (hr : 1 ≤ r ∧ r ≤ 3) (ht : ((t : Nat) : Int) < nS r) : cons r t = true := by
  have h3 : r = 1 ∨ r = 2 ∨ r = 3 := by omega
  rcases h3 with rfl | rfl | rfl
  · have : ((t : Nat) : Int) < 2 := ht
    exact cons_1 t (by omega)
  · have : ((t : Nat) : Int) < 5 := ht
    exact cons_2 t (by omega)
  · have : ((t : Nat) : Int) < 16 := ht
    exact cons_3 t (by omega)
theorem psi_ed (hmv : 0 ≤ mv) (hld : 0 ≤ ld) (hst : 0 ≤ st) {r t u e v : Nat} (hr : 1 ≤ r ∧ r ≤ 3) (ht : ((t : Nat) : Int) < nS r) (hu : u < 512) (hok : okC r u = true) (h : Ed r u e v) : psi mv ld st r t u ≤ psi mv ld st r t v + cE mv ld st e := by
  have hc := cons_ok hr ht
  unfold cons at hc
  simp only [List.all_eq_true, List.mem_range, Bool.or_eq_true, Bool.not_eq_true'] at hc
  have hc := (hc u hu).resolve_left (by rw [hok]; decide)
  obtain ⟨x, hx, hh⟩ := h
  have hc := hc x hx
  unfold edB at hc
  simp only [Bool.and_eq_true, List.all_eq_true, List.mem_range, Bool.or_eq_true, bne_iff_ne, ne_eq, beq_iff_eq] at hc
  obtain ⟨⟨c1, c2⟩, c3⟩ := hc
  rcases hh with ⟨rfl, q, hq, rfl⟩ | ⟨rfl, c, hc', hg, rfl⟩ | ⟨rfl, h0, rfl⟩
  · exact mnP_rel hmv hld hst (by decide) (psI_lt _ _ _) (psI_lt _ _ _) (c1 q hq)
  · exact mnP_rel hmv hld hst (by decide) (psI_lt _ _ _) (psI_lt _ _ _) ((c2 c hc').resolve_left (fun z => z hg))
  · exact mnP_rel hmv hld hst (by decide) (psI_lt _ _ _) (psI_lt _ _ _) (c3.resolve_left h0)
theorem psi_at {r t u : Nat} (hr : 1 ≤ r ∧ r ≤ 3) (ht : ((t : Nat) : Int) < nS r) (hu : u < 512) (hok : okC r u = true) (h : atB r t u = true) : psi mv ld st r t u ≤ 0 := by
  have h16 := nS_le r
  have hk := at_ok ⟨r, by omega⟩ ⟨t, by omega⟩
  dsimp only at hk
  simp only [Bool.or_eq_true, decide_eq_true_eq, List.all_eq_true, List.mem_range, Bool.not_eq_true'] at hk
  have hk := (hk.resolve_left (by omega)) u hu
  have hm : (0, 0, 0) ∈ pf (psI r t u) := by
    rcases hk with (z | z) | z
    · rw [hok] at z; cases z
    · rw [h] at z; cases z
    · simpa using z
  have := mnP_le (mv := mv) (ld := ld) (st := st) hm
  unfold fv at this
  unfold psi
  simpa using this
/-- at a state's own code: no form is cheaper than what the class reckons -/
theorem psi_c0 (hmv : 0 ≤ mv ∧ mv ≤ 9) (hld : 0 ≤ ld ∧ ld ≤ 9) (hst : 0 ≤ st ∧ st ≤ 9) {r s t : Nat} (hr : 1 ≤ r ∧ r ≤ 3) (hs : ((s : Nat) : Int) < nS r) (ht : ((t : Nat) : Int) < nS r) (hp : pP r mv ld st s t ≤ 1000) : pP r mv ld st s t ≤ psi mv ld st r t (c0N r s) ∧ okC r (c0N r s) = true ∧ c0N r s < 512 := by
  have h16 := nS_le r
  have hk := form_ok ⟨r, by omega⟩ ⟨s, by omega⟩ ⟨t, by omega⟩
  dsimp only at hk
  simp only [Bool.or_eq_true, decide_eq_true_eq, Bool.and_eq_true, List.all_eq_true] at hk
  obtain ⟨⟨k1, k2⟩, k3⟩ := hk.resolve_left (by omega)
  refine ⟨?_, k1, k2⟩
  unfold psi
  rcases mnP_at (mv := mv) (ld := ld) (st := st) (pf (psI r t (c0N r s))) with q | ⟨f, f1, f2⟩
  · rw [q]; exact hp
  · rw [f2]
    have hf := k3 f f1
    unfold formB at hf
    dsimp only at hf
    have hk := cnt_le r s t (keptN r s t).toNat 0
    have hnd : 0 ≤ ndP r s t := hk.1
    unfold pP fv unP
    generalize hul : stL r t - keptN r s t = ul at hf ⊢
    generalize hus : stL r s - keptN r s t = us at hf ⊢
    have hby : min mv (st + ld) ≤ mv ∧ min mv (st + ld) ≤ st + ld ∧ 0 ≤ min mv (st + ld) := by omega
    generalize min mv (st + ld) = ch at hby ⊢
    by_cases hrd : rdP r s t ≠ 0
    · rw [if_pos hrd] at hf ⊢
      simp only [Bool.or_eq_true, Bool.and_eq_true, decide_eq_true_eq] at hf
      rcases hf with ⟨⟨e1, e2⟩, e3⟩ | ⟨⟨⟨e1, e2⟩, e3⟩, e4⟩
      · have t1 : (f.1 : Int) * mv + ((f.2.1 : Int) - ul) * (st + ld) - (st + ld) ≥ (ndP r s t - 1) * ch := by
          have y1 : (f.1 : Int) * ch ≤ f.1 * mv := Int.mul_le_mul_of_nonneg_left hby.1 (by omega)
          have y2 : ((f.2.1 : Int) - ul - 1) * ch ≤ ((f.2.1 : Int) - ul - 1) * (st + ld) := Int.mul_le_mul_of_nonneg_left hby.2.1 (by omega)
          have y3 : ((f.2.1 : Int) - ul - 1) * (st + ld) = ((f.2.1 : Int) - ul) * (st + ld) - (st + ld) := by rw [Int.sub_mul _ 1, Int.one_mul]
          have y4 : (ndP r s t - 1) * ch = (f.1 : Int) * ch + ((f.2.1 : Int) - ul - 1) * ch := by rw [← Int.add_mul]; congr 1; omega
          omega
        have t2 : (f.2.1 : Int) * ld + (f.2.2 : Int) * st = st * us + ld * ul + ((f.2.1 : Int) - ul) * (st + ld) := by
          have z1 : (f.2.1 : Int) = ul + ((f.2.1 : Int) - ul) := by omega
          have z2 : (f.2.2 : Int) = us + ((f.2.1 : Int) - ul) := by omega
          generalize ((f.2.1 : Int) - ul) = j at z1 z2 ⊢
          rw [z1, z2, Int.add_mul, Int.add_mul, Int.mul_add, Int.mul_comm ul, Int.mul_comm us]
          omega
        split <;> omega
      · have e5 : ¬ ((r : Nat) : Int) ≤ keptN r s t := by omega
        rw [if_neg e5, e1, e2, e3]
        have z1 : ul * ld = ld * ul := Int.mul_comm _ _
        have z2 : us * st = st * us := Int.mul_comm _ _
        omega
    · rw [if_neg hrd] at hf ⊢
      simp only [Bool.and_eq_true, decide_eq_true_eq] at hf
      obtain ⟨⟨e1, e2⟩, e3⟩ := hf
      have t1 : (f.1 : Int) * mv + ((f.2.1 : Int) - ul) * (st + ld) ≥ ndP r s t * ch := by
        have y1 : (f.1 : Int) * ch ≤ f.1 * mv := Int.mul_le_mul_of_nonneg_left hby.1 (by omega)
        have y2 : ((f.2.1 : Int) - ul) * ch ≤ ((f.2.1 : Int) - ul) * (st + ld) := Int.mul_le_mul_of_nonneg_left hby.2.1 (by omega)
        have y4 : ndP r s t * ch = (f.1 : Int) * ch + ((f.2.1 : Int) - ul) * ch := by rw [← Int.add_mul]; congr 1; omega
        omega
      have t2 : (f.2.1 : Int) * ld + (f.2.2 : Int) * st = st * us + ld * ul + ((f.2.1 : Int) - ul) * (st + ld) := by
        have z1 : (f.2.1 : Int) = ul + ((f.2.1 : Int) - ul) := by omega
        have z2 : (f.2.2 : Int) = us + ((f.2.1 : Int) - ul) := by omega
        generalize ((f.2.1 : Int) - ul) = j at z1 z2 ⊢
        rw [z1, z2, Int.add_mul, Int.add_mul, Int.mul_add, Int.mul_comm ul, Int.mul_comm us]
        omega
      omega
/-- what is known when the search has ended -/
def Closed (r : Nat) (mv ld st : Int) (F : Int → Int) : Prop := ∀ u e v, u < 512 → okC r u = true → F u < FAR → Ed r u e v → F v ≤ F u + cE mv ld st e
theorem isEd_ok {r u e v : Nat} (h : isEd r u e v = true) : Ed r u e v := by
  unfold isEd at h
  simp only [List.any_eq_true, List.mem_range, Bool.or_eq_true, Bool.and_eq_true, beq_iff_eq, bne_iff_ne] at h
  obtain ⟨x, hx, ((⟨h1, q, h2, h3⟩ | ⟨h1, c, h2, h3, h4⟩) | ⟨⟨h1, h2⟩, h3⟩)⟩ := h
  · exact ⟨x, hx, Or.inl ⟨h1, q, h2, h3⟩⟩
  · exact ⟨x, hx, Or.inr (Or.inl ⟨h1, c, h2, h3, h4⟩)⟩
  · exact ⟨x, hx, Or.inr (Or.inr ⟨h1, h2, h3⟩)⟩
theorem path_le (hmv : 0 ≤ mv ∧ mv ≤ 9) (hld : 0 ≤ ld ∧ ld ≤ 9) (hst : 0 ≤ st ∧ st ≤ 9) {r t : Nat} (hr : 1 ≤ r ∧ r ≤ 3) {F : Int → Int} (hC : Closed r mv ld st F) : ∀ (p : List (Nat × Nat)) (u : Nat) (f : Nat × Nat × Nat), u < 512 → okC r u = true → F u + 9 * p.length ≤ 1000 → goPath r t u p = some f → ∃ x, x < 512 ∧ okC r x = true ∧ atB r t x = true ∧ F x ≤ F u + fv mv ld st f := by
  intro p
  induction p with
  | nil =>
    intro u f hu hok hF hg
    unfold goPath at hg
    split at hg
    · cases hg
      rename_i h1
      exact ⟨u, hu, hok, h1, by unfold fv; simp⟩
    · cases hg
  | cons ev p ih =>
    intro u f hu hok hF hg
    obtain ⟨e, v⟩ := ev
    unfold goPath at hg
    split at hg
    · rename_i h1
      have hE := isEd_ok h1
      obtain ⟨a1, a2, a3⟩ := hE.to hr hu hok
      cases hp : goPath r t v p with
      | none => rw [hp] at hg; cases hg
      | some g =>
        rw [hp] at hg
        simp only [Option.map_some, Option.some.injEq] at hg
        have hFv := hC u e v hu hok (by have : FAR = 1000000000 := rfl
                                        simp only [List.length_cons] at hF
                                        omega) hE
        have hce : cE mv ld st e ≤ 9 := by unfold cE; split <;> (try split) <;> omega
        obtain ⟨x, x1, x2, x3, x4⟩ := ih v g a1 a2 (by simp only [List.length_cons] at hF; omega) hp
        refine ⟨x, x1, x2, x3, ?_⟩
        have : fv mv ld st f = fv mv ld st g + cE mv ld st e := by
          subst hg
          have he3 : e = 0 ∨ e = 1 ∨ e = 2 := by omega
          unfold fv cE
          rcases he3 with rfl | rfl | rfl
          · simp [Int.add_mul]; omega
          · simp [Int.add_mul]; omega
          · simp [Int.add_mul]; omega
        omega
    · cases hg
theorem goPath_len {r t : Nat} : ∀ (p : List (Nat × Nat)) (u : Nat) (f : Nat × Nat × Nat), goPath r t u p = some f → p.length = f.1 + f.2.1 + f.2.2 := by
  intro p
  induction p with
  | nil =>
    intro u f hg
    unfold goPath at hg
    split at hg
    · cases hg; rfl
    · cases hg
  | cons ev p ih =>
    intro u f hg
    obtain ⟨e, v⟩ := ev
    unfold goPath at hg
    split at hg
    · rename_i h1
      cases hp : goPath r t v p with
      | none => rw [hp] at hg; cases hg
      | some g =>
        rw [hp] at hg
        simp only [Option.map_some, Option.some.injEq] at hg
        have := ih v g hp
        obtain ⟨x, hx, (⟨rfl, -⟩ | ⟨rfl, -⟩ | ⟨rfl, -⟩)⟩ := isEd_ok h1 <;> subst hg <;> simp only [List.length_cons] <;> simp <;> omega
    · cases hg
/-- the search finds just what the class reckons -/
theorem reach_le (hmv : 0 ≤ mv ∧ mv ≤ 9) (hld : 0 ≤ ld ∧ ld ≤ 9) (hst : 0 ≤ st ∧ st ≤ 9) {r s t : Nat} (hr : 1 ≤ r ∧ r ≤ 3) (hs : ((s : Nat) : Int) < nS r) (ht : ((t : Nat) : Int) < nS r) {F : Int → Int} (hC : Closed r mv ld st F) (h0 : F (c0N r s) ≤ 0) (hc : okC r (c0N r s) = true) (hc5 : c0N r s < 512) : ∃ x, x < 512 ∧ okC r x = true ∧ atB r t x = true ∧ F x ≤ pP r mv ld st s t := by
  have h16 := nS_le r
  have hk := path_ok ⟨r, by omega⟩ ⟨s, by omega⟩ ⟨t, by omega⟩
  dsimp only at hk
  simp only [Bool.or_eq_true, decide_eq_true_eq] at hk
  have hk := hk.resolve_left (by omega)
  have hls := st_f (r := r) (s := s) (by omega) (by omega)
  have hlt := st_f (r := r) (s := t) (by omega) (by omega)
  have hkp : 0 ≤ keptN r s t ∧ keptN r s t ≤ stL r s ∧ keptN r s t ≤ stL r t := by unfold keptN; omega
  have hcn := cnt_le r s t (keptN r s t).toNat 0
  have hnd : 0 ≤ ndP r s t ∧ ndP r s t ≤ 3 := by unfold ndP; omega
  unfold pathB at hk
  dsimp only at hk
  have use : ∀ (p : List (Nat × Nat)) (f : Nat × Nat × Nat), goPath r t (c0N r s) p = some f → f.1 + f.2.1 + f.2.2 ≤ 20 → fv mv ld st f ≤ pP r mv ld st s t → ∃ x, x < 512 ∧ okC r x = true ∧ atB r t x = true ∧ F x ≤ pP r mv ld st s t := by
    intro p f hp hl hf
    have hlen := goPath_len p _ f hp
    obtain ⟨x, x1, x2, x3, x4⟩ := path_le hmv hld hst hr hC p (c0N r s) f hc5 hc (by omega) hp
    exact ⟨x, x1, x2, x3, by omega⟩
  generalize hul : stL r t - keptN r s t = ul at hk
  generalize hus : stL r s - keptN r s t = us at hk
  have hul0 : 0 ≤ ul ∧ ul ≤ 3 := by omega
  have hus0 : 0 ≤ us ∧ us ≤ 3 := by omega
  have fvE : ∀ a b c : Nat, fv mv ld st (a, b, c) = a * mv + b * ld + c * st := fun _ _ _ => rfl
  have ePP : unP r ld st s t = st * us + ld * ul := by unfold unP; rw [hul, hus]
  by_cases hrd : rdP r s t ≠ 0
  · rw [if_pos hrd] at hk
    simp only [Bool.and_eq_true, Bool.or_eq_true, decide_eq_true_eq, beq_iff_eq] at hk
    obtain ⟨hB, ⟨hA, hd1⟩, hCc⟩ := hk
    have big : ∀ (a b : Int), a = mv ∨ a = st + ld → a = min mv (st + ld) → b = st + ld + (ndP r s t - 1) * a → ∃ x, x < 512 ∧ okC r x = true ∧ atB r t x = true ∧ F x ≤ unP r ld st s t + b := by
      intro a b ha hm hb
      rcases ha with ha | ha
      · have hlen := goPath_len _ _ _ hA
        obtain ⟨x, x1, x2, x3, x4⟩ := path_le hmv hld hst hr hC _ (c0N r s) _ hc5 hc (by dsimp only at hlen; omega) hA
        refine ⟨x, x1, x2, x3, ?_⟩
        rw [fvE] at x4
        rw [hb, ha, ePP]
        have z1 : (((ndP r s t).toNat - 1 : Nat) : Int) = ndP r s t - 1 := by omega
        have z2 : ((ul.toNat + 1 : Nat) : Int) = ul + 1 := by omega
        have z3 : ((us.toNat + 1 : Nat) : Int) = us + 1 := by omega
        rw [z1, z2, z3, Int.add_mul, Int.add_mul, Int.one_mul, Int.one_mul, Int.mul_comm ul, Int.mul_comm us] at x4
        omega
      · have hlen := goPath_len _ _ _ hB
        obtain ⟨x, x1, x2, x3, x4⟩ := path_le hmv hld hst hr hC _ (c0N r s) _ hc5 hc (by dsimp only at hlen; omega) hB
        refine ⟨x, x1, x2, x3, ?_⟩
        rw [fvE] at x4
        rw [hb, ha, ePP]
        have z2 : ((ul.toNat + (ndP r s t).toNat : Nat) : Int) = ul + ndP r s t := by omega
        have z3 : ((us.toNat + (ndP r s t).toNat : Nat) : Int) = us + ndP r s t := by omega
        rw [z2, z3, Int.add_mul, Int.add_mul, Int.mul_comm ul, Int.mul_comm us] at x4
        rw [Int.sub_mul, Int.one_mul, Int.mul_add]
        have : ((0 : Nat) : Int) * mv = 0 := by simp
        omega
    have hch : min mv (st + ld) = mv ∨ min mv (st + ld) = st + ld := by omega
    obtain ⟨x, x1, x2, x3, x4⟩ := big (min mv (st + ld)) _ hch rfl rfl
    unfold pP
    rw [if_pos hrd]
    split
    · exact ⟨x, x1, x2, x3, x4⟩
    · rename_i hkr
      have hCc := hCc.resolve_left hkr
      by_cases hcmp : st + ld + (ndP r s t - 1) * min mv (st + ld) ≤ (ndP r s t + 1) * mv
      · rw [Int.min_eq_left hcmp]; exact ⟨x, x1, x2, x3, x4⟩
      · rw [Int.min_eq_right (by omega)]
        have hlen := goPath_len _ _ _ hCc
        obtain ⟨y, y1, y2, y3, y4⟩ := path_le hmv hld hst hr hC _ (c0N r s) _ hc5 hc (by dsimp only at hlen; omega) hCc
        refine ⟨y, y1, y2, y3, ?_⟩
        rw [fvE] at y4
        rw [ePP]
        have z1 : (((ndP r s t).toNat + 1 : Nat) : Int) = ndP r s t + 1 := by omega
        have z2 : ((ul.toNat : Nat) : Int) = ul := by omega
        have z3 : ((us.toNat : Nat) : Int) = us := by omega
        rw [z1, z2, z3, Int.mul_comm ul, Int.mul_comm us] at y4
        omega
  · rw [if_neg hrd] at hk
    simp only [Bool.and_eq_true, beq_iff_eq] at hk
    obtain ⟨hB, hA⟩ := hk
    unfold pP
    rw [if_neg hrd, ePP]
    have hch : min mv (st + ld) = mv ∨ min mv (st + ld) = st + ld := by omega
    rcases hch with hch | hch <;> rw [hch]
    · have hlen := goPath_len _ _ _ hA
      obtain ⟨x, x1, x2, x3, x4⟩ := path_le hmv hld hst hr hC _ (c0N r s) _ hc5 hc (by dsimp only at hlen; omega) hA
      refine ⟨x, x1, x2, x3, ?_⟩
      rw [fvE] at x4
      have z1 : (((ndP r s t).toNat : Nat) : Int) = ndP r s t := by omega
      have z2 : ((ul.toNat : Nat) : Int) = ul := by omega
      have z3 : ((us.toNat : Nat) : Int) = us := by omega
      rw [z1, z2, z3, Int.mul_comm ul, Int.mul_comm us] at x4
      omega
    · have hlen := goPath_len _ _ _ hB
      obtain ⟨x, x1, x2, x3, x4⟩ := path_le hmv hld hst hr hC _ (c0N r s) _ hc5 hc (by dsimp only at hlen; omega) hB
      refine ⟨x, x1, x2, x3, ?_⟩
      rw [fvE] at x4
      have z2 : ((ul.toNat + (ndP r s t).toNat : Nat) : Int) = ul + ndP r s t := by omega
      have z3 : ((us.toNat + (ndP r s t).toNat : Nat) : Int) = us + ndP r s t := by omega
      rw [z2, z3, Int.add_mul, Int.add_mul, Int.mul_comm ul, Int.mul_comm us] at x4
      rw [Int.mul_add]
      have : ((0 : Nat) : Int) * mv = 0 := by simp
      omega
theorem rd_nd {r s t : Nat} (hr : 1 ≤ r ∧ r ≤ 3) (hs : ((s : Nat) : Int) < nS r) (ht : ((t : Nat) : Int) < nS r) : rdP r s t ≠ 0 → 1 ≤ ndP r s t := by
  have h16 := nS_le r
  have hk := path_ok ⟨r, by omega⟩ ⟨s, by omega⟩ ⟨t, by omega⟩
  dsimp only at hk
  simp only [Bool.or_eq_true, decide_eq_true_eq] at hk
  have hk := hk.resolve_left (by omega)
  intro hrd
  unfold pathB at hk
  dsimp only at hk
  rw [if_pos hrd] at hk
  simp only [Bool.and_eq_true, decide_eq_true_eq] at hk
  have := hk.2.1.2
  omega
theorem pP_b {mv ld st r s t : Int} (hr : 1 ≤ r ∧ r ≤ 3) (hmv : 0 ≤ mv ∧ mv ≤ 9) (hld : 0 ≤ ld ∧ ld ≤ 9) (hst : 0 ≤ st ∧ st ≤ 9) (hs : 0 ≤ s ∧ s < nS r) (ht : 0 ≤ t ∧ t < nS r) : 0 ≤ pP r mv ld st s t ∧ pP r mv ld st s t ≤ 100 := by
  refine pP_in hr hmv hld hst hs ht ?_
  obtain ⟨a, rfl⟩ := Int.eq_ofNat_of_zero_le (show 0 ≤ r by omega)
  obtain ⟨b, rfl⟩ := Int.eq_ofNat_of_zero_le hs.1
  obtain ⟨c, rfl⟩ := Int.eq_ofNat_of_zero_le ht.1
  exact rd_nd (by omega) hs.2 ht.2
end P
