/-! the law's entry: what is known there -/
def zqF : List Cond := flatC (Jvm.Cond.and given_1 narrow_1)
theorem ro_arr {s : State} {args : Array Value} {A : Nat → Prop} (c : Nat) (nm : String) (hA : ∀ a : Nat, a < s.heap.size → ¬ A a) (h : ∀ w ∈ zqF, w.before args s = true) (hl : (Cond.laysStatic "StackStates" nm "[I").before args s = true) (hi : (Cond.initialized "StackStates").before args s = true) (h1 : Cond.arrayOf (.static "StackStates" nm "[I") .int ∈ zqF) (h2 : Cond.eq (.length (.static "StackStates" nm "[I")) (.int 15) ∈ zqF) (h3 : ∀ j : Nat, j < 15 → Cond.eq (.elem (.static "StackStates" nm "[I") (.int (Int32.ofNat j))) (.int (Int32.ofInt (roV c j))) ∈ zqF) : ∃ t : Nat, va_Z "StackStates" nm "[I" (.ref t) A s s.heap ∧ va_T .int t 15 (fun j => .int (Int32.ofInt (roV c j))) A s s.heap := by
  obtain ⟨t, ht, hT⟩ := va_Tof (N := 15) (f := fun j => .int (Int32.ofInt (roV c j))) (by decide) (h _ h1) (va_eqt (h _ h2)) (fun j hj => va_eqt (h _ (h3 j hj))) hA
  exact ⟨t, va_Zof hl hi ht hA, hT⟩
def zqB (t0 t1 t2 : Nat) (adK adV : Nat → Nat) (k : Nat) : Nat := if k = 100 then t0 else if k = 101 then t1 else if k = 102 then t2 else if k < 120 then adK (k - 110) else adV (k - 120)
theorem zqB_K {t0 t1 t2 : Nat} {adK adV : Nat → Nat} (i : Nat) (h : i < 2) : zqB t0 t1 t2 adK adV (110 + i) = adK i := by
  unfold zqB
  rw [if_neg (by omega), if_neg (by omega), if_neg (by omega), if_pos (by omega), show 110 + i - 110 = i by omega]
theorem zqB_V {t0 t1 t2 : Nat} {adK adV : Nat → Nat} (i : Nat) (h : i < 2) : zqB t0 t1 t2 adK adV (120 + i) = adV i := by
  unfold zqB
  rw [if_neg (by omega), if_neg (by omega), if_neg (by omega), if_neg (by omega), show 120 + i - 120 = i by omega]
set_option maxRecDepth 20000 in
set_option maxHeartbeats 4000000 in
theorem law_RO {s : State} {b : Nat} {A : Nat → Prop} (hA : ∀ a : Nat, a < s.heap.size → ¬ A a) (hts : ∀ w ∈ lw_tbl, w.before #[Value.ref b] s = true) (hgv : (Jvm.Cond.and given_1 narrow_1).before #[Value.ref b] s = true) : ∃ ad : Nat → Nat, RO ad A s s.heap := by
  have h : ∀ w ∈ zqF, w.before #[Value.ref b] s = true := flat_of_before _ hgv
  have hi : (Cond.initialized "StackStates").before #[Value.ref b] s = true := hts _ (by decide +kernel)
  obtain ⟨t0, z0, y0⟩ := ro_arr (A := A) 100 "TAKES" hA h (hts _ (by decide +kernel)) hi (by decide +kernel) (by decide +kernel) (by decide +kernel)
  obtain ⟨t1, z1, y1⟩ := ro_arr (A := A) 101 "COMES" hA h (hts _ (by decide +kernel)) hi (by decide +kernel) (by decide +kernel) (by decide +kernel)
  obtain ⟨t2, z2, y2⟩ := ro_arr (A := A) 102 "DIGITS" hA h (hts _ (by decide +kernel)) hi (by decide +kernel) (by decide +kernel) (by decide +kernel)
  obtain ⟨adK, adV, hS, hE⟩ := vk_Sof (args := #[Value.ref b]) (s := s) (N := 2) (tm := tmS) (len := lenS) (byt := bytS) (A := A) (by decide)
    (fun i hi => h _ ((show ∀ i : Nat, i < 2 → Cond.exactly (tmS i) "java/lang/String" ∈ zqF by decide +kernel) i hi))
    (fun i hi => h _ ((show ∀ i : Nat, i < 2 → Cond.eq (.field (tmS i) "java/lang/String" "coder" "B") (.int 0) ∈ zqF by decide +kernel) i hi))
    (fun i hi => h _ ((show ∀ i : Nat, i < 2 → Cond.arrayOf (.field (tmS i) "java/lang/String" "value" "[B") .byte ∈ zqF by decide +kernel) i hi))
    (fun i hi => h _ ((show ∀ i : Nat, i < 2 → Cond.eq (.length (.field (tmS i) "java/lang/String" "value" "[B")) (.int (Int32.ofNat (lenS.getD i 0))) ∈ zqF by decide +kernel) i hi))
    (fun i hi j hj => h _ ((show ∀ i : Nat, i < 2 → ∀ j : Nat, j < lenS.getD i 0 → Cond.eq (.elem (.field (tmS i) "java/lang/String" "value" "[B") (.int (Int32.ofNat j))) (.int ((bytS.getD i []).getD j 0)) ∈ zqF by decide +kernel) i hi j hj))
    (fun i j hi hj hij => by
      rcases (show (i = 0 ∧ j = 1) ∨ (i = 1 ∧ j = 0) by omega) with ⟨rfl, rfl⟩ | ⟨rfl, rfl⟩
      · exact Or.inl (h _ (by decide +kernel))
      · exact Or.inr (h _ (by decide +kernel))) hA
  have hE0 : (Term.string "StackStates" 65).eval #[Value.ref b] s none [] s = some (.ref (adK 0)) := hE 0 (by decide)
  have hE1 : (Term.string "StackStates" 121).eval #[Value.ref b] s none [] s = some (.ref (adK 1)) := hE 1 (by decide)
  have hE2 : (Term.string "StackStates$Program" 68).eval #[Value.ref b] s none [] s = some (.ref (adK 1)) := va_eqv (h (Cond.eq (.string "StackStates$Program" 68) (.string "StackStates" 121)) (by decide +kernel)) hE1
  refine ⟨zqB t0 t1 t2 adK adV, fun c hc => ?_, ⟨fun i hi => ?_, fun i j hi hj e => ?_⟩, ⟨?_, ?_, ?_⟩, ⟨?_, ?_, ?_, ?_, ?_⟩, ?_, ?_⟩
  · rcases hc with rfl | rfl | rfl
    · exact ⟨z0, y0⟩
    · exact ⟨z1, y1⟩
    · exact ⟨z2, y2⟩
  · dsimp only
    rw [zqB_K i hi, zqB_V i hi]; exact hS.1 i hi
  · dsimp only at e
    rw [zqB_K i hi, zqB_K j hj] at e; exact hS.2 i j hi hj e
  · exact vk_R.of (hts _ (by decide +kernel)) hE0
  · exact vk_R.of (hts _ (by decide +kernel)) hE1
  · exact vk_R.of (hts _ (by decide +kernel)) hE2
  · exact va_Nw.of rfl (hts _ (by decide +kernel))
  · exact va_Nw.of rfl (hts _ (by decide +kernel))
  · exact va_Nw.of rfl (hts _ (by decide +kernel))
  · exact va_Nw.of rfl (hts _ (by decide +kernel))
  · exact va_Nw.of rfl (hts _ (by decide +kernel))
  · exact va_Zof (hts _ (by decide +kernel)) (hts _ (by decide +kernel)) (va_eqt (h _ (by decide +kernel))) hA
  · exact va_Zqof (hts _ (by decide +kernel)) (hts _ (by decide +kernel)) (h _ (by decide +kernel)) hA
set_option maxRecDepth 20000 in
set_option maxHeartbeats 4000000 in
theorem law_NX {s : State} {b : Nat} (hts : ∀ w ∈ lw_tbl, w.before #[Value.ref b] s = true) : NX s :=
  ⟨va_Nw.of rfl (hts _ (by decide +kernel)), va_Nw.of rfl (hts _ (by decide +kernel)), va_Nw.of rfl (hts _ (by decide +kernel)), va_Nw.of rfl (hts _ (by decide +kernel))⟩
theorem law_arr {s : State} {b : Nat} {t : FieldType} (h : (Cond.arrayClass t).before #[Value.ref b] s = true) (hv : ∀ c, s.vm.findClass ("[" ++ t.toString) = some c → va_RA s c t) : ∃ c : ClassId, ArrOfT s c t ∧ va_RA s c t := by
  obtain ⟨ca, ka, compa, f1, f2, f3⟩ := Cond.arrayClass_spec (args := #[Value.ref b]) (first := s) (o := none) (s := s) (idx := []) (type := t) h
  exact ⟨ca, fun n z => ⟨fun k h => (by cases h), ka, f2, compa, f3⟩, hv ca f1⟩
theorem gT_tbl {w : Cond} (h : w ∈ gT) : w ∈ lw_tbl := (List.mem_filter.mp h).1
set_option maxRecDepth 20000 in
set_option maxHeartbeats 4000000 in
theorem law_K {s : State} {b : Nat} (hts : ∀ w ∈ lw_tbl, w.before #[Value.ref b] s = true) : ∃ (D : va_G) (cA : Nat → ClassId), va_K D vwCl (tyS cA) s := by
  obtain ⟨c0, i0, k0⟩ := u_known (C := RX0) (T := TX0) (N := 2) (n := 2) hts (fun w hw => gT_tbl (ci_X0.2.1 w hw)) (hts (.instantiable RX0 2) (by decide +kernel))
  obtain ⟨c1, i1, k1⟩ := u_known (C := RX1) (T := TX1) (N := 19) (n := 19) hts (fun w hw => gT_tbl (ci_X1.2.1 w hw)) (hts (.instantiable RX1 19) (by decide +kernel))
  obtain ⟨c2, i2, k2⟩ := u_known (C := RX2) (T := TX2) (N := 9) (n := 9) hts (fun w hw => gT_tbl (ci_X2.2.1 w hw)) (hts (.instantiable RX2 9) (by decide +kernel))
  obtain ⟨c3, i3, k3⟩ := u_known (C := RX3) (T := TX3) (N := 9) (n := 9) hts (fun w hw => gT_tbl (ci_X3.2.1 w hw)) (hts (.instantiable RX3 9) (by decide +kernel))
  obtain ⟨c4, i4, k4⟩ := u_known (C := RX4) (T := TX4) (N := 15) (n := 15) hts (fun w hw => gT_tbl (ci_X4.2.1 w hw)) (hts (.instantiable RX4 15) (by decide +kernel))
  obtain ⟨c5, i5, k5⟩ := u_known (C := RX5) (T := TX5) (N := 8) (n := 8) hts (fun w hw => gT_tbl (ci_X5.2.1 w hw)) (hts (.instantiable RX5 8) (by decide +kernel))
  obtain ⟨c6, i6, k6⟩ := u_known (C := RX6) (T := TX6) (N := 2) (n := 2) hts (fun w hw => gT_tbl (ci_X6.2.1 w hw)) (hts (.instantiable RX6 2) (by decide +kernel))
  obtain ⟨c7, i7, k7⟩ := u_known (C := RX7) (T := TX7) (N := 8) (n := 8) hts (fun w hw => gT_tbl (ci_X7.2.1 w hw)) (hts (.instantiable RX7 8) (by decide +kernel))
  obtain ⟨c8, i8, k8⟩ := u_known (C := RX8) (T := TX8) (N := 55) (n := 55) hts (fun w hw => gT_tbl (ci_X8.2.1 w hw)) (hts (.instantiable RX8 55) (by decide +kernel))
  obtain ⟨ca, a1, a2⟩ := law_arr (t := .int) (hts (.arrayClass .int) (by decide +kernel)) (fun c h => h)
  obtain ⟨cb, b1, b2⟩ := law_arr (t := .boolean) (hts (.arrayClass .boolean) (by decide +kernel)) (fun c h => h)
  refine ⟨(fun k => if k = 0 then c0 else if k = 1 then c1 else if k = 2 then c2 else if k = 3 then c3 else if k = 4 then c4 else if k = 5 then c5 else if k = 6 then c6 else if k = 7 then c7 else c8, fun k => if k = 0 then i0 else if k = 1 then i1 else if k = 2 then i2 else if k = 3 then i3 else if k = 4 then i4 else if k = 5 then i5 else if k = 6 then i6 else if k = 7 then i7 else i8), fun k => if k = 0 then ca else cb, fun k q hq => ?_, fun k q hq => ?_⟩
  · match k, hq with
    | 0, hq => cases hq; exact k0
    | 1, hq => cases hq; exact k1
    | 2, hq => cases hq; exact k2
    | 3, hq => cases hq; exact k3
    | 4, hq => cases hq; exact k4
    | 5, hq => cases hq; exact k5
    | 6, hq => cases hq; exact k6
    | 7, hq => cases hq; exact k7
    | 8, hq => cases hq; exact k8
    | k + 9, hq => simp [vwCl] at hq
  · match k, hq with
    | 0, hq => cases hq; exact ⟨a1, a2⟩
    | 1, hq => cases hq; exact ⟨b1, b2⟩
    | k + 2, hq => simp [tyS] at hq
