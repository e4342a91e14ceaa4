/-! the constructors of Settings, StackStates and of the reference -/
def zqA (l : List Nat) (a : Nat → Nat) (k : Nat) : Nat := if k < 100 then l.getD k 0 else a k
theorem zqA_off {l : List Nat} {a : Nat → Nat} (k : Nat) (h : 100 ≤ k) : zqA l a k = a k := by unfold zqA; rw [if_neg (by omega)]
theorem inR_getD {l : List Int} (h : ∀ x ∈ l, inR x) (n : Nat) : inR (l.getD n 0) := by
  rw [List.getD_eq_getElem?_getD]
  cases e : l[n]? with
  | none => exact ⟨by decide, by decide⟩
  | some x => exact h x (List.mem_of_getElem? e)
theorem inR_0 : inR 0 := ⟨by decide, by decide⟩
theorem inR_small {l : List Int} (h : l.all (fun x => decide (-1000 ≤ x) && decide (x ≤ 1000)) = true) : ∀ x ∈ l, inR x := by
  intro x hx
  have := List.all_eq_true.mp h x hx
  simp only [Bool.and_eq_true, decide_eq_true_eq] at this
  unfold inR; omega
def zqS (g : Int → Int) : Mem := fun c i => if c = 0 then ([2, 1, 2, 2] : List Int).getD i.toNat 0 else if c = 1 then g i else 0
def zq7 (g : Int → Int) : Mem := fun c i => if c = 5 then ([2, 1, 2, 2] : List Int).getD i.toNat 0 else if c = 6 then g i else 0
theorem rM_zqS {g : Int → Int} (h : ∀ j, inR (g j)) : rM (zqS g) := by
  intro c i; unfold zqS
  by_cases c0 : c = 0
  · rw [if_pos c0]; exact inR_getD (inR_small (by decide)) _
  · rw [if_neg c0]
    by_cases c1 : c = 1
    · rw [if_pos c1]; exact h i
    · rw [if_neg c1]; exact inR_0
theorem rM_zq7 {g : Int → Int} (h : ∀ j, inR (g j)) : rM (zq7 g) := by
  intro c i; unfold zq7
  by_cases c0 : c = 5
  · rw [if_pos c0]; exact inR_getD (inR_small (by decide)) _
  · rw [if_neg c0]
    by_cases c1 : c = 6
    · rw [if_pos c1]; exact h i
    · rw [if_neg c1]; exact inR_0
theorem rM_zq8 : rM zq8 := by
  intro c i; unfold zq8
  by_cases c0 : c = 0
  · rw [if_pos c0]
    by_cases c1 : i = 40
    · rw [if_pos c1]; exact ⟨by decide, by decide⟩
    · rw [if_neg c1]; exact inR_0
  · rw [if_neg c0]; exact inR_0
theorem s_fillS {v : Int} {M : Mem} {R : Int → Mem → Prop} (h : ∀ M', Off [1] [] M M' → (∀ j, 0 ≤ j → j < 24 → M' 1 j = v) → R 0 M') : fArr_fillS v M R := by
  have key : ∀ (d : Nat) (x : Int) (Mi : Mem), 0 ≤ x → x + d = 24 → Off [1] [] M Mi → (∀ j, 0 ≤ j → j < x → Mi 1 j = v) → fArr_fillS_5 R (d + 1) v x 24 Mi := by
    intro d
    induction d with
    | zero =>
      intro x Mi x0 xd ho hj
      exact ⟨fun _ => h Mi ho (fun j a b => hj j a (by omega)), fun q => by omega⟩
    | succ d ih =>
      intro x Mi x0 xd ho hj
      refine ⟨fun q => by omega, fun _ => ⟨⟨by omega, by omega⟩, ?_⟩⟩
      rw [wrapI (z := x + 1) (by omega) (by omega)]
      refine ih (x + 1) _ (by omega) (by omega) (ho.mu (Or.inl (by decide))) (fun j a b => ?_)
      by_cases e : j = x
      · rw [e]; exact mu_same _ _ _ _
      · rw [mu_place e]; exact hj j a (by omega)
  exact ⟨24 + 1, key 24 0 M (by omega) (by omega) (Off.rf _ _ _) (fun j a b => by omega)⟩
def mIr {α β : Type} (f : Nat → α → β) : Nat → List α → List β
  | _, [] => []
  | k, x :: t => f k x :: mIr f (k + 1) t
theorem mIr_k {α β : Type} (f : Nat → α → β) : ∀ (zl : List α) (k : Nat), zl.mapIdx (fun i => f (i + k)) = mIr f k zl := by
  intro zl
  induction zl with
  | nil => intro k; rfl
  | cons a t ih =>
    intro k
    rw [List.mapIdx_cons]
    show f (0 + k) a :: t.mapIdx (fun i => f (i + 1 + k)) = f k a :: mIr f (k + 1) t
    rw [Nat.zero_add, ← ih (k + 1)]
    have e : (fun i => f (i + 1 + k)) = (fun i => f (i + (k + 1))) := funext (fun i => by rw [show i + 1 + k = i + (k + 1) by omega])
    rw [e]
theorem mIr_eq {α β : Type} (f : Nat → α → β) (zl : List α) : zl.mapIdx f = mIr f 0 zl := mIr_k f zl 0
def sEr (ad : Nat → Nat) (cA : Nat → ClassId) (M : Mem) (c : Nat) : Sh → va_E
  | .inl (t, n) => .inl (cA t, n, .inl (fun i => Int32.ofInt (M c i)))
  | .inr (ci, fs) => .inr (ci, mIr (sF ad M c) 0 fs)
theorem sE_r {ad : Nat → Nat} {cA : Nat → ClassId} {M : Mem} {c : Nat} (x : Sh) : sE ad cA M c x = sEr ad cA M c x := by
  rcases x with ⟨t, n⟩ | ⟨ci, fs⟩
  · rfl
  · show Sum.inr (ci, fs.mapIdx (sF ad M c)) = Sum.inr (ci, mIr (sF ad M c) 0 fs)
    rw [mIr_eq]
theorem sW_r (sh : List Sh) (ad : Nat → Nat) (cA : Nat → ClassId) (M : Mem) : sW sh ad cA M = mIr (fun c s => (ad c, sEr ad cA M c s)) 0 sh := by
  unfold sW
  rw [mIr_eq]
  have e : (fun c s => (ad c, sE ad cA M c s)) = (fun c s => (ad c, sEr ad cA M c s)) := funext (fun c => funext (fun s => by rw [sE_r]))
  rw [e]
set_option maxRecDepth 20000 in
set_option maxHeartbeats 4000000 in
theorem sW_S (ad : Nat → Nat) (cA : Nat → ClassId) (M : Mem) : sW shS ad cA M = [(ad 0, .inr (5, [.int (Int32.ofInt (M 0 ((0 : Nat) : Int))), .int (Int32.ofInt (M 0 ((1 : Nat) : Int))), .int (Int32.ofInt (M 0 ((2 : Nat) : Int))), .int (Int32.ofInt (M 0 ((3 : Nat) : Int))), .ref (ad 1), .int (Int32.ofInt (M 0 ((5 : Nat) : Int))), .ref (ad 2), .int (Int32.ofInt (M 0 ((7 : Nat) : Int)))])), (ad 1, .inl (cA 0, 24, .inl (fun i : Nat => Int32.ofInt (M 1 i)))), (ad 2, .inl (cA 0, 168, .inl (fun i : Nat => Int32.ofInt (M 2 i))))] := by rw [sW_r]; rfl
set_option maxRecDepth 20000 in
set_option maxHeartbeats 4000000 in
theorem sW_X (ad : Nat → Nat) (cA : Nat → ClassId) (M : Mem) : sW shX ad cA M = [(ad 0, .inr (7, [.ref (ad 1), .ref (ad 3), .ref (ad 5), .ref (ad 8), .ref (ad 13), .ref (ad 20), .ref (ad 27), .ref (ad 40)])), (ad 1, .inr (6, [.ref (ad 2), .int (Int32.ofInt (M 1 ((1 : Nat) : Int)))])), (ad 2, .inl (cA 0, 200, .inl (fun i : Nat => Int32.ofInt (M 2 i)))), (ad 3, .inr (0, [.ref (ad 4), .int (Int32.ofInt (M 3 ((1 : Nat) : Int)))])), (ad 4, .inl (cA 0, 3, .inl (fun i : Nat => Int32.ofInt (M 4 i)))), (ad 5, .inr (5, [.int (Int32.ofInt (M 5 ((0 : Nat) : Int))), .int (Int32.ofInt (M 5 ((1 : Nat) : Int))), .int (Int32.ofInt (M 5 ((2 : Nat) : Int))), .int (Int32.ofInt (M 5 ((3 : Nat) : Int))), .ref (ad 6), .int (Int32.ofInt (M 5 ((5 : Nat) : Int))), .ref (ad 7), .int (Int32.ofInt (M 5 ((7 : Nat) : Int)))])), (ad 6, .inl (cA 0, 24, .inl (fun i : Nat => Int32.ofInt (M 6 i)))), (ad 7, .inl (cA 0, 168, .inl (fun i : Nat => Int32.ofInt (M 7 i)))), (ad 8, .inr (2, [.int (Int32.ofInt (M 8 ((0 : Nat) : Int))), .int (Int32.ofInt (M 8 ((1 : Nat) : Int))), .int (Int32.ofInt (M 8 ((2 : Nat) : Int))), .int (Int32.ofInt (M 8 ((3 : Nat) : Int))), .int (Int32.ofInt (M 8 ((4 : Nat) : Int))), .ref (ad 9), .ref (ad 10), .ref (ad 11), .ref (ad 12)])), (ad 9, .inl (cA 0, 16, .inl (fun i : Nat => Int32.ofInt (M 9 i)))), (ad 10, .inl (cA 0, 16, .inl (fun i : Nat => Int32.ofInt (M 10 i)))), (ad 11, .inl (cA 0, 64, .inl (fun i : Nat => Int32.ofInt (M 11 i)))), (ad 12, .inl (cA 0, 256, .inl (fun i : Nat => Int32.ofInt (M 12 i)))), (ad 13, .inr (3, [.ref (ad 14), .ref (ad 15), .ref (ad 16), .ref (ad 17), .ref (ad 18), .ref (ad 19), .int (Int32.ofInt (M 13 ((6 : Nat) : Int))), .int (Int32.ofInt (M 13 ((7 : Nat) : Int))), .int (Int32.ofInt (M 13 ((8 : Nat) : Int)))])), (ad 14, .inl (cA 0, 24, .inl (fun i : Nat => Int32.ofInt (M 14 i)))), (ad 15, .inl (cA 0, 24, .inl (fun i : Nat => Int32.ofInt (M 15 i)))), (ad 16, .inl (cA 0, 24, .inl (fun i : Nat => Int32.ofInt (M 16 i)))), (ad 17, .inl (cA 0, 24, .inl (fun i : Nat => Int32.ofInt (M 17 i)))), (ad 18, .inl (cA 1, 24, .inl (fun i : Nat => Int32.ofInt (M 18 i)))), (ad 19, .inl (cA 1, 24, .inl (fun i : Nat => Int32.ofInt (M 19 i)))), (ad 20, .inr (3, [.ref (ad 21), .ref (ad 22), .ref (ad 23), .ref (ad 24), .ref (ad 25), .ref (ad 26), .int (Int32.ofInt (M 20 ((6 : Nat) : Int))), .int (Int32.ofInt (M 20 ((7 : Nat) : Int))), .int (Int32.ofInt (M 20 ((8 : Nat) : Int)))])), (ad 21, .inl (cA 0, 24, .inl (fun i : Nat => Int32.ofInt (M 21 i)))), (ad 22, .inl (cA 0, 24, .inl (fun i : Nat => Int32.ofInt (M 22 i)))), (ad 23, .inl (cA 0, 24, .inl (fun i : Nat => Int32.ofInt (M 23 i)))), (ad 24, .inl (cA 0, 24, .inl (fun i : Nat => Int32.ofInt (M 24 i)))), (ad 25, .inl (cA 1, 24, .inl (fun i : Nat => Int32.ofInt (M 25 i)))), (ad 26, .inl (cA 1, 24, .inl (fun i : Nat => Int32.ofInt (M 26 i)))), (ad 27, .inr (1, [.ref (ad 13), .ref (ad 8), .ref (ad 12), .ref (ad 6), .ref (ad 28), .ref (ad 29), .ref (ad 30), .ref (ad 31), .ref (ad 32), .ref (ad 33), .ref (ad 34), .ref (ad 35), .ref (ad 36), .ref (ad 37), .ref (ad 38), .ref (ad 39), .int (Int32.ofInt (M 27 ((16 : Nat) : Int))), .int (Int32.ofInt (M 27 ((17 : Nat) : Int))), .int (Int32.ofInt (M 27 ((18 : Nat) : Int)))])), (ad 28, .inl (cA 0, 384, .inl (fun i : Nat => Int32.ofInt (M 28 i)))), (ad 29, .inl (cA 0, 24, .inl (fun i : Nat => Int32.ofInt (M 29 i)))), (ad 30, .inl (cA 0, 384, .inl (fun i : Nat => Int32.ofInt (M 30 i)))), (ad 31, .inl (cA 0, 24, .inl (fun i : Nat => Int32.ofInt (M 31 i)))), (ad 32, .inl (cA 0, 384, .inl (fun i : Nat => Int32.ofInt (M 32 i)))), (ad 33, .inl (cA 0, 384, .inl (fun i : Nat => Int32.ofInt (M 33 i)))), (ad 34, .inl (cA 0, 384, .inl (fun i : Nat => Int32.ofInt (M 34 i)))), (ad 35, .inl (cA 0, 384, .inl (fun i : Nat => Int32.ofInt (M 35 i)))), (ad 36, .inl (cA 0, 384, .inl (fun i : Nat => Int32.ofInt (M 36 i)))), (ad 37, .inl (cA 0, 24, .inl (fun i : Nat => Int32.ofInt (M 37 i)))), (ad 38, .inl (cA 0, 16, .inl (fun i : Nat => Int32.ofInt (M 38 i)))), (ad 39, .inl (cA 0, 24, .inl (fun i : Nat => Int32.ofInt (M 39 i)))), (ad 40, .inr (4, [.ref (ad 13), .ref (ad 8), .ref (ad 39), .ref (ad 41), .ref (ad 42), .ref (ad 43), .ref (ad 44), .int (Int32.ofInt (M 40 ((7 : Nat) : Int))), .int (Int32.ofInt (M 40 ((8 : Nat) : Int))), .int (Int32.ofInt (M 40 ((9 : Nat) : Int))), .int (Int32.ofInt (M 40 ((10 : Nat) : Int))), .int (Int32.ofInt (M 40 ((11 : Nat) : Int))), .int (Int32.ofInt (M 40 ((12 : Nat) : Int))), .int (Int32.ofInt (M 40 ((13 : Nat) : Int))), .int (Int32.ofInt (M 40 ((14 : Nat) : Int)))])), (ad 41, .inl (cA 0, 12, .inl (fun i : Nat => Int32.ofInt (M 41 i)))), (ad 42, .inl (cA 0, 4, .inl (fun i : Nat => Int32.ofInt (M 42 i)))), (ad 43, .inl (cA 0, 16, .inl (fun i : Nat => Int32.ofInt (M 43 i)))), (ad 44, .inl (cA 0, 24, .inl (fun i : Nat => Int32.ofInt (M 44 i))))] := by rw [sW_r]; rfl
set_option maxRecDepth 20000 in
set_option maxHeartbeats 4000000 in
theorem sW_M (ad : Nat → Nat) (cA : Nat → ClassId) (M : Mem) : sW shM ad cA M = [(ad 0, .inr (8, [.ref (ad 1), .ref (ad 2), .int (Int32.ofInt (M 0 ((2 : Nat) : Int))), .int (Int32.ofInt (M 0 ((3 : Nat) : Int))), .ref (ad 3), .ref (ad 4), .ref (ad 5), .ref (ad 6), .ref (ad 7), .int (Int32.ofInt (M 0 ((9 : Nat) : Int))), .int (Int32.ofInt (M 0 ((10 : Nat) : Int))), .ref (ad 8), .ref (ad 9), .ref (ad 10), .int (Int32.ofInt (M 0 ((14 : Nat) : Int))), .ref (ad 11), .int (Int32.ofInt (M 0 ((16 : Nat) : Int))), .ref (ad 12), .ref (ad 13), .ref (ad 14), .int (Int32.ofInt (M 0 ((20 : Nat) : Int))), .ref (ad 15), .ref (ad 16), .int (Int32.ofInt (M 0 ((23 : Nat) : Int))), .int (Int32.ofInt (M 0 ((24 : Nat) : Int))), .int (Int32.ofInt (M 0 ((25 : Nat) : Int))), .ref (ad 17), .int (Int32.ofInt (M 0 ((27 : Nat) : Int))), .ref (ad 18), .ref (ad 19), .ref (ad 20), .int (Int32.ofInt (M 0 ((31 : Nat) : Int))), .int (Int32.ofInt (M 0 ((32 : Nat) : Int))), .ref (ad 21), .ref (ad 22), .ref (ad 23), .ref (ad 24), .int (Int32.ofInt (M 0 ((37 : Nat) : Int))), .ref (ad 25), .ref (ad 26), .int (Int32.ofInt (M 0 ((40 : Nat) : Int))), .int (Int32.ofInt (M 0 ((41 : Nat) : Int))), .int (Int32.ofInt (M 0 ((42 : Nat) : Int))), .int (Int32.ofInt (M 0 ((43 : Nat) : Int))), .int (Int32.ofInt (M 0 ((44 : Nat) : Int))), .int (Int32.ofInt (M 0 ((45 : Nat) : Int))), .int (Int32.ofInt (M 0 ((46 : Nat) : Int))), .ref (ad 27), .int (Int32.ofInt (M 0 ((48 : Nat) : Int))), .int (Int32.ofInt (M 0 ((49 : Nat) : Int))), .int (Int32.ofInt (M 0 ((50 : Nat) : Int))), .ref (ad 28), .int (Int32.ofInt (M 0 ((52 : Nat) : Int))), .ref (ad 29), .ref (ad 30)])), (ad 1, .inl (cA 0, 28, .inl (fun i : Nat => Int32.ofInt (M 1 i)))), (ad 2, .inl (cA 0, 168, .inl (fun i : Nat => Int32.ofInt (M 2 i)))), (ad 3, .inl (cA 0, 24, .inl (fun i : Nat => Int32.ofInt (M 3 i)))), (ad 4, .inl (cA 0, 24, .inl (fun i : Nat => Int32.ofInt (M 4 i)))), (ad 5, .inl (cA 0, 24, .inl (fun i : Nat => Int32.ofInt (M 5 i)))), (ad 6, .inl (cA 0, 24, .inl (fun i : Nat => Int32.ofInt (M 6 i)))), (ad 7, .inl (cA 0, 200, .inl (fun i : Nat => Int32.ofInt (M 7 i)))), (ad 8, .inl (cA 0, 24, .inl (fun i : Nat => Int32.ofInt (M 8 i)))), (ad 9, .inl (cA 0, 24, .inl (fun i : Nat => Int32.ofInt (M 9 i)))), (ad 10, .inl (cA 0, 24, .inl (fun i : Nat => Int32.ofInt (M 10 i)))), (ad 11, .inl (cA 0, 3, .inl (fun i : Nat => Int32.ofInt (M 11 i)))), (ad 12, .inl (cA 0, 24, .inl (fun i : Nat => Int32.ofInt (M 12 i)))), (ad 13, .inl (cA 0, 24, .inl (fun i : Nat => Int32.ofInt (M 13 i)))), (ad 14, .inl (cA 0, 24, .inl (fun i : Nat => Int32.ofInt (M 14 i)))), (ad 15, .inl (cA 0, 16, .inl (fun i : Nat => Int32.ofInt (M 15 i)))), (ad 16, .inl (cA 0, 48, .inl (fun i : Nat => Int32.ofInt (M 16 i)))), (ad 17, .inl (cA 0, 3, .inl (fun i : Nat => Int32.ofInt (M 17 i)))), (ad 18, .inl (cA 0, 256, .inl (fun i : Nat => Int32.ofInt (M 18 i)))), (ad 19, .inl (cA 0, 512, .inl (fun i : Nat => Int32.ofInt (M 19 i)))), (ad 20, .inl (cA 0, 512, .inl (fun i : Nat => Int32.ofInt (M 20 i)))), (ad 21, .inl (cA 0, 24, .inl (fun i : Nat => Int32.ofInt (M 21 i)))), (ad 22, .inl (cA 0, 384, .inl (fun i : Nat => Int32.ofInt (M 22 i)))), (ad 23, .inl (cA 0, 384, .inl (fun i : Nat => Int32.ofInt (M 23 i)))), (ad 24, .inl (cA 0, 384, .inl (fun i : Nat => Int32.ofInt (M 24 i)))), (ad 25, .inl (cA 0, 2, .inl (fun i : Nat => Int32.ofInt (M 25 i)))), (ad 26, .inl (cA 0, 24, .inl (fun i : Nat => Int32.ofInt (M 26 i)))), (ad 27, .inl (cA 0, 16, .inl (fun i : Nat => Int32.ofInt (M 27 i)))), (ad 28, .inl (cA 0, 16, .inl (fun i : Nat => Int32.ofInt (M 28 i)))), (ad 29, .inl (cA 0, 4, .inl (fun i : Nat => Int32.ofInt (M 29 i)))), (ad 30, .inl (cA 0, 24, .inl (fun i : Nat => Int32.ofInt (M 30 i))))] := by rw [sW_r]; rfl
set_option maxRecDepth 20000 in
set_option maxHeartbeats 4000000 in
theorem kX5 (h0 : Nat) : Kon yX5_init cX5_init 1 1 23 2 192 [.ref h0] [(h0, .inr (5, [.int 0, .int 0, .int 0, .int 0, .null, .int 0, .null, .int 0]))] (fun cA _ w => ∃ (zqa1 zqa2 : Nat) (fw : Int → Int), w = [(h0, .inr (5, [.int 2, .int 1, .int 2, .int 2, .ref zqa1, .int 0, .ref zqa2, .int 0])), (zqa1, .inl (cA 0, 24, .inl (fun i : Nat => Int32.ofInt (fw i)))), (zqa2, .inl (cA 0, 168, .inl (fun _ => 0)))] ∧ (∀ j, 0 ≤ j → j < 24 → fw j = 1) ∧ ∀ j, inR (fw j)) := by
  refine Kon.of RX5 (by decide +kernel) rfl rfl (Nat.le_of_ble_eq_true rfl) ?_
  intro E C hE hpre hR
  show KW 1 E 0 0 0 [(0, .ref h0)] [] [(h0, .inr (5, [.int 0, .int 0, .int 0, .int 0, .null, .int 0, .null, .int 0]))]
  refine k_aload C 0 dX5_init_0 rfl ?_
  refine k_obj C dX5_init_1 wo_X5 (by rw [hE]; exact ⟨Nat.le_of_ble_eq_true rfl, Nat.le_of_ble_eq_true rfl⟩) ?_
  refine k_aload C 0 dX5_init_4 rfl ?_
  refine k_iconst C (v := 2) dX5_init_5 (by decide) ?_
  refine k_putI C 0 fp_X5_9 rfl (show 0 < 8 by decide) dX5_init_6 ?_
  show KW _ E _ _ _ _ _ [(h0, .inr (5, [.int 2, .int 0, .int 0, .int 0, .null, .int 0, .null, .int 0]))]
  refine k_aload C 0 dX5_init_9 rfl ?_
  refine k_iconst C (v := 1) dX5_init_10 (by decide) ?_
  refine k_putI C 0 fp_X5_15 rfl (show 1 < 8 by decide) dX5_init_11 ?_
  show KW _ E _ _ _ _ _ [(h0, .inr (5, [.int 2, .int 1, .int 0, .int 0, .null, .int 0, .null, .int 0]))]
  refine k_aload C 0 dX5_init_14 rfl ?_
  refine k_iconst C (v := 2) dX5_init_15 (by decide) ?_
  refine k_putI C 0 fp_X5_18 rfl (show 2 < 8 by decide) dX5_init_16 ?_
  show KW _ E _ _ _ _ _ [(h0, .inr (5, [.int 2, .int 1, .int 2, .int 0, .null, .int 0, .null, .int 0]))]
  refine k_aload C 0 dX5_init_19 rfl ?_
  refine k_iconst C (v := 2) dX5_init_20 (by decide) ?_
  refine k_putI C 0 fp_X5_21 rfl (show 3 < 8 by decide) dX5_init_21 ?_
  show KW _ E _ _ _ _ _ [(h0, .inr (5, [.int 2, .int 1, .int 2, .int 2, .null, .int 0, .null, .int 0]))]
  refine k_aload C 0 dX5_init_24 rfl ?_
  refine k_bipush C (v := 24) dX5_init_25 (by decide) ?_
  refine k_newI C 24 dX5_init_27 wa_int (by decide) (by decide) (by decide) (by rw [hE]; exact ⟨Nat.le_of_ble_eq_true rfl, Nat.le_of_ble_eq_true rfl⟩) (by rw [hpre]; exact Nat.le_of_ble_eq_true rfl) (fun zqa1 => ?_)
  show KW _ E _ _ _ _ _ [(h0, .inr (5, [.int 2, .int 1, .int 2, .int 2, .null, .int 0, .null, .int 0])), (zqa1, .inl (ECA E 0, 24, .inl (fun _ => 0)))]
  refine k_putF C 0 ff_X5_24 rfl (show 4 < 8 by decide) dX5_init_29 ?_
  show KW _ E _ _ _ _ _ [(h0, .inr (5, [.int 2, .int 1, .int 2, .int 2, .ref zqa1, .int 0, .null, .int 0])), (zqa1, .inl (ECA E 0, 24, .inl (fun _ => 0)))]
  refine k_aload C 0 dX5_init_32 rfl ?_
  refine k_iconst C (v := 0) dX5_init_33 (by decide) ?_
  refine k_putI C 0 fp_X5_28 rfl (show 5 < 8 by decide) dX5_init_34 ?_
  show KW _ E _ _ _ _ _ [(h0, .inr (5, [.int 2, .int 1, .int 2, .int 2, .ref zqa1, .int 0, .null, .int 0])), (zqa1, .inl (ECA E 0, 24, .inl (fun _ => 0)))]
  refine k_aload C 0 dX5_init_37 rfl ?_
  refine k_sipush C (v := 168) dX5_init_38 (by decide) ?_
  refine k_newI C 168 dX5_init_41 wa_int (by decide) (by decide) (by decide) (by rw [hE]; exact ⟨Nat.le_of_ble_eq_true rfl, Nat.le_of_ble_eq_true rfl⟩) (by rw [hpre]; exact Nat.le_of_ble_eq_true rfl) (fun zqa2 => ?_)
  show KW _ E _ _ _ _ _ [(h0, .inr (5, [.int 2, .int 1, .int 2, .int 2, .ref zqa1, .int 0, .null, .int 0])), (zqa1, .inl (ECA E 0, 24, .inl (fun _ => 0))), (zqa2, .inl (ECA E 0, 168, .inl (fun _ => 0)))]
  refine k_putF C 0 ff_X5_31 rfl (show 6 < 8 by decide) dX5_init_43 ?_
  show KW _ E _ _ _ _ _ [(h0, .inr (5, [.int 2, .int 1, .int 2, .int 2, .ref zqa1, .int 0, .ref zqa2, .int 0])), (zqa1, .inl (ECA E 0, 24, .inl (fun _ => 0))), (zqa2, .inl (ECA E 0, 168, .inl (fun _ => 0)))]
  refine k_aload C 0 dX5_init_46 rfl ?_
  refine k_iconst C (v := 0) dX5_init_47 (by decide) ?_
  refine k_putI C 0 fp_X5_34 rfl (show 7 < 8 by decide) dX5_init_48 ?_
  show KW _ E _ _ _ _ _ [(h0, .inr (5, [.int 2, .int 1, .int 2, .int 2, .ref zqa1, .int 0, .ref zqa2, .int 0])), (zqa1, .inl (ECA E 0, 24, .inl (fun _ => 0))), (zqa2, .inl (ECA E 0, 168, .inl (fun _ => 0)))]
  refine KW.ofAW (kc := 2) (ks := 192) (pc := 51) C (sh := shS) (ad := zqA [h0, zqa1, zqa2] (EAD E)) (M := zqS (fun _ => 0)) (lv' := [some (.inr 0)]) (st' := []) (fr := 1) (lo := 23) (by rw [sW_S]; rfl) zqA_off hE rfl rfl (rM_zqS (fun _ => inR_0)) (fun v hv => by
    rcases List.mem_cons.mp hv with z | z
    · cases z; trivial
    · simp at z) (fun v hv => absurd hv List.not_mem_nil) (fun hKD CX => ?_)
  refine sSe_initT CX (R := fun _ M' => Off [1] [] (zqS (fun _ => 0)) M' ∧ ∀ j, 0 ≤ j → j < 24 → M' 1 j = 1) (fun pc lv M' hd hR' => a_retK (fr := 0) (lo := 0) C hKD hR (fun hrm => ⟨[], zqa1, zqa2, M' 1, ?_, hR'.2, fun j => hrm 1 j⟩) hd) _ (s_fillS (fun M' h1 h2 => ⟨h1, h2⟩))
  have e : M' = zqS (M' 1) := by
    funext c i
    by_cases c1 : c = 1
    · rw [c1]; rfl
    · rw [hR'.1 c i (by simpa using c1) (fun _ => List.not_mem_nil)]
      unfold zqS
      rw [if_neg c1, if_neg c1]
  exact (congrArg (sW shS (zqA [h0, zqa1, zqa2] (EAD E)) (ECA E)) e).trans rfl
