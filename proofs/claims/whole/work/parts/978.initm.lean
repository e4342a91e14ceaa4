/-! the reference behind its constructor -/
def zq8 : Mem := fun c i => if c = 0 then (if i = 40 then -4 else 0) else 0
def zqN (M : Mem) : Mem := mu (mu (mu (mu (mu (mu (mu (mu (mu (mu (mu (mu (mu (mu (mu (mu (mu (mu (mu (mu (mu (mu (mu (mu (mu (mu (mu (mu (mu (mu (mu (mu (mu (mu (mu (mu (mu M 1 0 2) 1 1 1) 1 2 2) 1 3 2) 8 0 110) 9 0 5) 8 1 115) 9 1 0) 8 2 103) 9 2 0) 8 3 98) 9 3 15) 8 4 103) 9 4 0) 8 5 110) 9 5 3) 8 6 42) 9 6 (-4)) 8 7 100) 9 7 (-4)) 8 8 119) 9 8 (-4)) 8 9 112) 9 9 (-4)) 8 10 103) 9 10 0) 8 11 110) 9 11 1) 8 12 45) 9 12 (-4)) 8 13 115) 9 13 0) 8 14 106) 9 14 2) 8 15 104) 9 15 (-4)) 0 10 16
theorem zqN_row (M : Mem) (i : Int) (i0 : 0 ≤ i) (i1 : i < 16) : zqN M 8 i = sg (zqk i) ∧ zqN M 9 i = if dg (zqk i) = 0 then -4 else zqv i := by
  have h : i = 0 ∨ i = 1 ∨ i = 2 ∨ i = 3 ∨ i = 4 ∨ i = 5 ∨ i = 6 ∨ i = 7 ∨ i = 8 ∨ i = 9 ∨ i = 10 ∨ i = 11 ∨ i = 12 ∨ i = 13 ∨ i = 14 ∨ i = 15 := by omega
  rcases h with rfl | rfl | rfl | rfl | rfl | rfl | rfl | rfl | rfl | rfl | rfl | rfl | rfl | rfl | rfl | rfl
  · exact ⟨(show zqN M 8 0 = 110 by simp [zqN, mu]).trans (by decide +kernel), (show zqN M 9 0 = 5 by simp [zqN, mu]).trans (by decide +kernel)⟩
  · exact ⟨(show zqN M 8 1 = 115 by simp [zqN, mu]).trans (by decide +kernel), (show zqN M 9 1 = 0 by simp [zqN, mu]).trans (by decide +kernel)⟩
  · exact ⟨(show zqN M 8 2 = 103 by simp [zqN, mu]).trans (by decide +kernel), (show zqN M 9 2 = 0 by simp [zqN, mu]).trans (by decide +kernel)⟩
  · exact ⟨(show zqN M 8 3 = 98 by simp [zqN, mu]).trans (by decide +kernel), (show zqN M 9 3 = 15 by simp [zqN, mu]).trans (by decide +kernel)⟩
  · exact ⟨(show zqN M 8 4 = 103 by simp [zqN, mu]).trans (by decide +kernel), (show zqN M 9 4 = 0 by simp [zqN, mu]).trans (by decide +kernel)⟩
  · exact ⟨(show zqN M 8 5 = 110 by simp [zqN, mu]).trans (by decide +kernel), (show zqN M 9 5 = 3 by simp [zqN, mu]).trans (by decide +kernel)⟩
  · exact ⟨(show zqN M 8 6 = 42 by simp [zqN, mu]).trans (by decide +kernel), (show zqN M 9 6 = (-4) by simp [zqN, mu]).trans (by decide +kernel)⟩
  · exact ⟨(show zqN M 8 7 = 100 by simp [zqN, mu]).trans (by decide +kernel), (show zqN M 9 7 = (-4) by simp [zqN, mu]).trans (by decide +kernel)⟩
  · exact ⟨(show zqN M 8 8 = 119 by simp [zqN, mu]).trans (by decide +kernel), (show zqN M 9 8 = (-4) by simp [zqN, mu]).trans (by decide +kernel)⟩
  · exact ⟨(show zqN M 8 9 = 112 by simp [zqN, mu]).trans (by decide +kernel), (show zqN M 9 9 = (-4) by simp [zqN, mu]).trans (by decide +kernel)⟩
  · exact ⟨(show zqN M 8 10 = 103 by simp [zqN, mu]).trans (by decide +kernel), (show zqN M 9 10 = 0 by simp [zqN, mu]).trans (by decide +kernel)⟩
  · exact ⟨(show zqN M 8 11 = 110 by simp [zqN, mu]).trans (by decide +kernel), (show zqN M 9 11 = 1 by simp [zqN, mu]).trans (by decide +kernel)⟩
  · exact ⟨(show zqN M 8 12 = 45 by simp [zqN, mu]).trans (by decide +kernel), (show zqN M 9 12 = (-4) by simp [zqN, mu]).trans (by decide +kernel)⟩
  · exact ⟨(show zqN M 8 13 = 115 by simp [zqN, mu]).trans (by decide +kernel), (show zqN M 9 13 = 0 by simp [zqN, mu]).trans (by decide +kernel)⟩
  · exact ⟨(show zqN M 8 14 = 106 by simp [zqN, mu]).trans (by decide +kernel), (show zqN M 9 14 = 2 by simp [zqN, mu]).trans (by decide +kernel)⟩
  · exact ⟨(show zqN M 8 15 = 104 by simp [zqN, mu]).trans (by decide +kernel), (show zqN M 9 15 = (-4) by simp [zqN, mu]).trans (by decide +kernel)⟩
theorem s_initM {X : Mem} (hX : zqG X) : fMd_initT zq8 (fun _ Y => Rel 0 X Y) := by
  have hi : ∀ i : Int, 0 ≤ i → i < 16 → inb i 24 := fun i a b => ⟨a, by omega⟩
  unfold fMd_initT
  refine ⟨hi 0 (by decide) (by decide), hi 0 (by decide) (by decide), ⟨hi 1 (by decide) (by decide), hi 1 (by decide) (by decide), ⟨hi 2 (by decide) (by decide), hi 2 (by decide) (by decide), ⟨hi 3 (by decide) (by decide), hi 3 (by decide) (by decide), ⟨hi 4 (by decide) (by decide), hi 4 (by decide) (by decide), ⟨hi 5 (by decide) (by decide), hi 5 (by decide) (by decide), ⟨hi 6 (by decide) (by decide), hi 6 (by decide) (by decide), ⟨hi 7 (by decide) (by decide), hi 7 (by decide) (by decide), ⟨hi 8 (by decide) (by decide), hi 8 (by decide) (by decide), ⟨hi 9 (by decide) (by decide), hi 9 (by decide) (by decide), ⟨hi 10 (by decide) (by decide), hi 10 (by decide) (by decide), ⟨hi 11 (by decide) (by decide), hi 11 (by decide) (by decide), ⟨hi 12 (by decide) (by decide), hi 12 (by decide) (by decide), ⟨hi 13 (by decide) (by decide), hi 13 (by decide) (by decide), ⟨hi 14 (by decide) (by decide), hi 14 (by decide) (by decide), ⟨hi 15 (by decide) (by decide), hi 15 (by decide) (by decide), ?_⟩⟩⟩⟩⟩⟩⟩⟩⟩⟩⟩⟩⟩⟩⟩⟩
  refine hX (zqN zq8) ⟨by simp [zqN, mu], fun i i0 i1 => zqN_row zq8 i i0 i1, by simp [zqN, mu, zq8], by simp [zqN, mu, zq8], by simp [zqN, mu, zq8], by simp [zqN, mu, zq8], by simp [zqN, mu, zq8], by simp [zqN, mu], by simp [zqN, mu], by simp [zqN, mu], by simp [zqN, mu]⟩
