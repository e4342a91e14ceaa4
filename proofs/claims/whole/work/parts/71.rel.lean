/-! how the memories of both belong together -/
def RT (X Y : Mem) : Prop := X 1 1 = Y 0 9 ∧ (0 ≤ X 1 1 ∧ X 1 1 ≤ 200) ∧ ∀ i, 0 ≤ i → i < X 1 1 → X 2 i = Y 7 i ∧ 32 ≤ X 2 i ∧ X 2 i ≤ 126
def RCa (X Y : Mem) : Prop := X 3 1 = Y 0 16 ∧ (0 ≤ X 3 1 ∧ X 3 1 ≤ 3) ∧ ∀ i, 0 ≤ i → i < X 3 1 → X 4 i = Y 11 i
/-- a row of settings that may be -/
def rowOK (f : Int → Int) : Prop := (1 ≤ f 0 ∧ f 0 ≤ 3) ∧ (0 ≤ f 1 ∧ f 1 ≤ 9) ∧ (0 ≤ f 2 ∧ f 2 ≤ 9) ∧ (0 ≤ f 3 ∧ f 3 ≤ 9) ∧ ∀ i, 0 ≤ i → i < 24 → 1 ≤ f (4 + i) ∧ f (4 + i) ≤ 999
def RS (X Y : Mem) : Prop := X 5 0 = Y 1 0 ∧ X 5 1 = Y 1 1 ∧ X 5 2 = Y 1 2 ∧ X 5 3 = Y 1 3 ∧ (∀ i, 0 ≤ i → i < 24 → X 6 i = Y 1 (4 + i)) ∧ rowOK (Y 1)
def RU (X Y : Mem) : Prop := X 5 5 = Y 0 2 ∧ (0 ≤ X 5 5 ∧ X 5 5 ≤ 6) ∧ (0 ≤ X 5 7 ∧ X 5 7 < 6) ∧ ∀ j, 0 ≤ j → j < X 5 5 → (∀ k, 0 ≤ k → k < 28 → X 7 (28 * ((X 5 7 + 6 - X 5 5 + j) % 6) + k) = Y 2 (28 * j + k)) ∧ rowOK (fun k => Y 2 (28 * j + k))
/-- the depths along the program -/
def DR (c : Cf) : Prop := ∀ i, 0 ≤ i → i < cN c → cDep c i ≠ -4 → tk (cK c i) ≤ cDep c i ∧ cDep c i - tk (cK c i) + cm (cK c i) ≤ 12 ∧ (fal c i = true → cDep c (i + 1) = cDep c i - tk (cK c i) + cm (cK c i)) ∧ (lea c i = true → cDep c (cNu c i) = cDep c i - tk (cK c i) + cm (cK c i))
def NR (c : Cf) (X Y : Mem) : Prop := ∀ i, 0 ≤ i → i < cN c → (0 < dg (cK c i) → X 15 i = Y 4 i ∧ 0 ≤ X 15 i ∧ X 15 i ≤ 99) ∧ (dg (cK c i) = 0 → Y 4 i = -4) ∧ (dg (cK c i) = 1 → X 15 i ≤ 3)
def RP (c : Cf) (nt t1 t2 : Int) (X Y : Mem) : Prop := VP c ∧ TG c nt t1 t2 ∧ XC c X ∧ MC c Y ∧ DR c ∧ NR c X Y ∧ X 13 7 = sumT (fun i => if cDep c i ≠ -4 then 1 else 0) (cN c).toNat ∧ X 13 8 = sumT (cTg c) (cN c).toNat
def RB (c : Cf) (nt t1 t2 : Int) (X Y : Mem) : Prop := KX c nt t1 t2 X ∧ (Y 0 31 = 0 ∨ (Y 0 31 = 1 ∧ BestM c nt t1 t2 Y ∧ Y 0 27 = 1)) ∧ (Y 0 27 = 0 ∨ (Y 0 27 = 1 ∧ PassOK (cR c) c.1.2.1 c.1.2.2.1 c.1.2.2.2 Y)) ∧ Y 0 40 = -4 ∧ (0 ≤ Y 25 0 ∧ Y 25 0 < 24)
def RR (m : Int) (c : Cf) (X Y : Mem) : Prop := X 40 7 = Y 0 43 ∧ (X 40 7 = 0 ∨ (X 40 7 = 1 ∧ (X 27 17 = 1 ∧ Y 0 31 = 1 ∧ Y 0 27 = 1) ∧ X 40 8 = Y 0 44 ∧ X 40 10 = Y 0 46 ∧ X 40 11 = Y 0 48 ∧ X 40 12 = Y 0 52 ∧ X 40 13 = Y 0 49 ∧ X 40 14 = Y 0 50 ∧
  ((X 40 8 = 0 ∧ X 40 9 = Y 0 45 ∧ 0 ≤ X 40 9 ∧ X 40 9 < cN c ∧ cDep c (X 40 9) ≠ -4 ∧ X 40 11 = cDep c (X 40 9) ∧ X 40 10 = X 39 (X 40 9)) ∨ (X 40 8 = 1 ∧ Y 0 45 = -4)) ∧ (0 ≤ X 40 10 ∧ X 40 10 < nS (cR c) ∧ stL (cR c) (X 40 10) ≤ X 40 11) ∧ (0 ≤ X 40 11 ∧ X 40 11 ≤ 12) ∧ (0 ≤ X 40 12 ∧ X 40 12 ≤ 16) ∧ (0 ≤ X 40 14 ∧ X 40 14 ≤ 500 * m) ∧
  (∀ i, 0 ≤ i → i < X 40 11 → X 41 i = Y 27 i) ∧ (∀ i, 0 ≤ i → i < 4 → X 42 i = Y 29 i) ∧ (∀ i, 0 ≤ i → i < X 40 12 → X 43 i = Y 28 i) ∧ (∀ i, 0 ≤ i → i < 24 → X 44 i = Y 30 i ∧ 0 ≤ X 44 i ∧ X 44 i ≤ X 40 14)))
/-- all of it, after at most m calls -/
def Rel (m : Int) (X Y : Mem) : Prop := RT X Y ∧ RCa X Y ∧ RS X Y ∧ RU X Y ∧ ∃ c nt t1 t2, RP c nt t1 t2 X Y ∧ RB c nt t1 t2 X Y ∧ RR m c X Y
theorem RR.mono {m m' : Int} {c : Cf} {X Y : Mem} (h : RR m c X Y) (hm : m ≤ m') : RR m' c X Y := by
  obtain ⟨h1, h2⟩ := h
  refine ⟨h1, ?_⟩
  rcases h2 with z | ⟨a0, a1, a2, a3, a4, a5, a6, a7, a8, a9, a10, a11, a12, a13⟩
  · exact Or.inl z
  · exact Or.inr ⟨a0, a1, a2, a3, a4, a5, a6, a7, a8, a9, a10, a11, ⟨a12.1, by omega⟩, a13⟩
theorem Rel.mono {m m' : Int} {X Y : Mem} (h : Rel m X Y) (hm : m ≤ m') : Rel m' X Y := by
  obtain ⟨a, b, d, e, c, nt, t1, t2, p, q, r⟩ := h
  exact ⟨a, b, d, e, c, nt, t1, t2, p, q, r.mono hm⟩
