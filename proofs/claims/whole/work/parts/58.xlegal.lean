/-! x: the lists of legal states and exits -/
def LXp (c : Cf) (M : Mem) (i b : Int) : Prop :=
  (0 ≤ M 29 i ∧ M 29 i ≤ b) ∧ (∀ k, 0 ≤ k → k < M 29 i → 0 ≤ M 28 (16 * i + k) ∧ M 28 (16 * i + k) < b ∧ okL c i (M 28 (16 * i + k)) = true) ∧
  (∀ k k', 0 ≤ k → k < k' → k' < M 29 i → M 28 (16 * i + k) < M 28 (16 * i + k')) ∧
  (∀ s, 0 ≤ s → s < b → okL c i s = true → (∃ k, 0 ≤ k ∧ k < M 29 i ∧ M 28 (16 * i + k) = s) ∧ M 32 (16 * i + s) = cAf c i s ∧ M 33 (16 * i + s) = cW c i * cVc c i s ∧ ∃ k, 0 ≤ k ∧ k < M 31 i ∧ M 30 (16 * i + k) = cAf c i s) ∧
  (0 ≤ M 31 i ∧ M 31 i ≤ b) ∧ (∀ k, 0 ≤ k → k < M 31 i → ∃ s, 0 ≤ s ∧ s < b ∧ okL c i s = true ∧ M 30 (16 * i + k) = cAf c i s)
abbrev LX (c : Cf) (M : Mem) (i : Int) : Prop := LXp c M i (nS (cR c))
theorem LXp.row {c : Cf} {M M' : Mem} {i b : Int} (h : LXp c M i b) (hb : b ≤ 16) (e29 : M' 29 i = M 29 i) (e31 : M' 31 i = M 31 i) (e28 : ∀ k, 0 ≤ k → k < 16 → M' 28 (16 * i + k) = M 28 (16 * i + k)) (e30 : ∀ k, 0 ≤ k → k < 16 → M' 30 (16 * i + k) = M 30 (16 * i + k)) (e32 : ∀ k, 0 ≤ k → k < 16 → M' 32 (16 * i + k) = M 32 (16 * i + k)) (e33 : ∀ k, 0 ≤ k → k < 16 → M' 33 (16 * i + k) = M 33 (16 * i + k)) : LXp c M' i b := by
  obtain ⟨a1, a2, a3, a4, a5, a6⟩ := h
  unfold LXp
  rw [e29, e31]
  refine ⟨a1, fun k k0 k1 => by rw [e28 k k0 (by omega)]; exact a2 k k0 k1, fun k k' k0 k1 k2 => by rw [e28 k k0 (by omega), e28 k' (by omega) (by omega)]; exact a3 k k' k0 k1 k2, fun s s0 s1 s2 => ?_, a5, fun k k0 k1 => by rw [e30 k k0 (by omega)]; exact a6 k k0 k1⟩
  obtain ⟨⟨k, b1, b2, b3⟩, b4, b5, k', b6, b7, b8⟩ := a4 s s0 s1 s2
  exact ⟨⟨k, b1, b2, by rw [e28 k b1 (by omega)]; exact b3⟩, by rw [e32 s s0 (by omega)]; exact b4, by rw [e33 s s0 (by omega)]; exact b5, k', b6, b7, by rw [e30 k' b6 (by omega)]; exact b8⟩
abbrev leS : List Nat := [28, 29, 30, 31, 32, 33]
/-- only row i of the lists is changed -/
def rowO (i : Int) (M M' : Mem) : Prop := Off leS [] M M' ∧ (∀ j, j ≠ i → M' 29 j = M 29 j ∧ M' 31 j = M 31 j) ∧ ∀ x, (x < 16 * i ∨ 16 * i + 16 ≤ x) → M' 28 x = M 28 x ∧ M' 30 x = M 30 x ∧ M' 32 x = M 32 x ∧ M' 33 x = M 33 x
theorem rowO.rf (i : Int) (M : Mem) : rowO i M M := ⟨Off.rf _ _ _, fun _ _ => ⟨rfl, rfl⟩, fun _ _ => ⟨rfl, rfl, rfl, rfl⟩⟩
theorem rowO.tr {i : Int} {M M' M'' : Mem} (h : rowO i M M') (h' : rowO i M' M'') : rowO i M M'' := by
  obtain ⟨a1, a2, a3⟩ := h
  obtain ⟨b1, b2, b3⟩ := h'
  exact ⟨a1.tr b1, fun j q => ⟨(b2 j q).1.trans (a2 j q).1, (b2 j q).2.trans (a2 j q).2⟩, fun x q => ⟨(b3 x q).1.trans (a3 x q).1, (b3 x q).2.1.trans (a3 x q).2.1, (b3 x q).2.2.1.trans (a3 x q).2.2.1, (b3 x q).2.2.2.trans (a3 x q).2.2.2⟩⟩
theorem rowO.mu {i : Int} {M M' : Mem} {d : Nat} {x v : Int} (h : rowO i M M') (hd : ((d = 29 ∨ d = 31) ∧ x = i) ∨ ((d = 28 ∨ d = 30 ∨ d = 32 ∨ d = 33) ∧ 16 * i ≤ x ∧ x < 16 * i + 16)) : rowO i M (mu M' d x v) := by
  refine h.tr ⟨(Off.rf _ _ _).mu (Or.inl ?_), fun j q => ?_, fun y q => ?_⟩
  · rcases hd with ⟨z | z, -⟩ | ⟨z | z | z | z, -⟩ <;> rw [z] <;> decide
  · rcases hd with ⟨z, z'⟩ | ⟨z, z'⟩
    · rw [mu_place (by omega), mu_place (by omega)]; exact ⟨rfl, rfl⟩
    · rw [mu_cell (by omega), mu_cell (by omega)]; exact ⟨rfl, rfl⟩
  · rcases hd with ⟨z, z'⟩ | ⟨z, z'⟩
    · rw [mu_cell (by omega), mu_cell (by omega), mu_cell (by omega), mu_cell (by omega)]; exact ⟨rfl, rfl, rfl, rfl⟩
    · rw [mu_place (by omega), mu_place (by omega), mu_place (by omega), mu_place (by omega)]; exact ⟨rfl, rfl, rfl, rfl⟩
theorem rowO.keep {c : Cf} {i j b : Int} {M M' : Mem} (h : rowO i M M') (hj : j ≠ i) (hb : b ≤ 16) (hl : LXp c M j b) : LXp c M' j b := by
  obtain ⟨a1, a2, a3⟩ := h
  have hx : ∀ k, 0 ≤ k → k < 16 → (16 * j + k < 16 * i ∨ 16 * i + 16 ≤ 16 * j + k) := fun k k0 k1 => by omega
  exact hl.row hb (a2 j hj).1 (a2 j hj).2 (fun k k0 k1 => (a3 _ (hx k k0 k1)).1) (fun k k0 k1 => (a3 _ (hx k k0 k1)).2.1) (fun k k0 k1 => (a3 _ (hx k k0 k1)).2.2.1) (fun k k0 k1 => (a3 _ (hx k k0 k1)).2.2.2)
section X
variable {c : Cf} {M : Mem} {R : Int → Mem → Prop} {i : Int}
theorem s_listExit {e : Int} (hi : 0 ≤ i ∧ i < 24) (h31 : 0 ≤ M 31 i ∧ M 31 i < 16) (h1 : (∃ k, 0 ≤ k ∧ k < M 31 i ∧ M 30 (16 * i + k) = e) → R 0 M) (h2 : R 0 (mu (mu M 31 i (M 31 i + 1)) 30 (16 * i + M 31 i) e)) : fCh_listExit i e M R := by
  have w0 : wrap (i * 16) = 16 * i := by rw [wrapI (by omega) (by omega)]; omega
  unfold fCh_listExit
  rw [w0]
  have key : ∀ (d : Nat) (x : Int), 0 ≤ x → x + d = M 31 i → fCh_listExit_8 R (d + 1) i e (16 * i) x M := by
    intro d
    induction d with
    | zero =>
      intro x x0 xd
      refine ⟨⟨by omega, by omega⟩, fun _ => ⟨⟨by omega, by omega⟩, ⟨by omega, by omega⟩, ?_⟩, fun q => by omega⟩
      rw [wrapI (z := 16 * i + M 31 i) (by omega) (by omega), wrapI (z := M 31 i + 1) (by omega) (by omega)]
      exact ⟨⟨by omega, by omega⟩, h2⟩
    | succ d ih =>
      intro x x0 xd
      refine ⟨⟨by omega, by omega⟩, fun q => by omega, fun _ => ?_⟩
      rw [wrapI (z := 16 * i + x) (by omega) (by omega), wrapI (z := x + 1) (by omega) (by omega)]
      exact ⟨⟨by omega, by omega⟩, fun _ => ih (x + 1) (by omega) (by omega), fun q => h1 ⟨x, x0, by omega, q⟩⟩
  exact ⟨(M 31 i).toNat + 1, key _ 0 (by omega) (by omega)⟩
/-- a state that is not legal -/
theorem LXp.skip {b : Int} (h : LXp c M i b) (hb : okL c i b = false) : LXp c M i (b + 1) := by
  obtain ⟨a1, a2, a3, a4, a5, a6⟩ := h
  refine ⟨⟨a1.1, by omega⟩, fun k k0 k1 => ?_, a3, fun s s0 s1 s2 => ?_, ⟨a5.1, by omega⟩, fun k k0 k1 => ?_⟩
  · obtain ⟨q1, q2, q3⟩ := a2 k k0 k1
    exact ⟨q1, by omega, q3⟩
  · by_cases e : s = b
    · rw [e, hb] at s2; exact absurd s2 (by decide)
    · exact a4 s s0 (by omega) s2
  · obtain ⟨s, q1, q2, q3⟩ := a6 k k0 k1
    exact ⟨s, q1, by omega, q3⟩
end X
