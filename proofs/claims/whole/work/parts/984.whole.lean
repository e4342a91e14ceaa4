/-! the law from its entry on -/
set_option maxRecDepth 20000 in
set_option maxHeartbeats 4000000 in
theorem whole_start {p : Program} {e : Env} {s : State} {m : MethodId} {below : List Frame} {meth : Method} {c : Code} (l : Launch) (hflags : l.flags = flags0) {b L : Nat} {xs : Nat → Int32} (hL : L ≤ 2048) (C0 : lw_At p s m meth c b L xs) : W p l e room_1 s m #[Value.ref b] below meth c s.heap [] 0 0 (lw_Z below #[Value.ref b] s) (entryFrame m ([Value.ref b] : List Value).toArray 4) := by
  obtain ⟨hx, hb, hr, hml, hown, hts, hX, hbl, hlocks, hgv⟩ := id C0
  have htg : ∀ w ∈ gT, w.before #[Value.ref b] s = true := fun w hw => hts w (gT_tbl hw)
  have hA : ∀ q : Nat, s.heap.size ≤ q → (fun q : Nat => s.heap.size ≤ q) q := fun _ h => h
  obtain ⟨ad0, hRO⟩ := law_RO (A := fun q : Nat => s.heap.size ≤ q) (fun a ha z => by omega) hts hgv
  have hNX := law_NX hts
  obtain ⟨D, cA, hK⟩ := law_K hts
  have hS : va_S (fun q : Nat => s.heap.size ≤ q) s.heap s.heap [] := va_S.rf
  have hP : va_P D vwCl [] s.heap := fun k q h => by simp at h
  have hD : va_D (fun q : Nat => s.heap.size ≤ q) [] := ⟨fun i j p q h => by simp at h, fun k q h => by simp at h⟩
  have hl := lv_entry ([.ref b]) (n := 4) (Nat.le_of_ble_eq_true rfl)
  rw [lg_entry_eq]
  generalize (lg_sl ([.ref b]) ++ List.replicate (4 - (lg_sl ([.ref b])).length) Slot.unset).toArray = ls at hl ⊢
  have hl : lv_has ls 4 [(0, .ref b)] := hl
  refine va_new (ci := 7) (fs := [.null, .null, .null, .null, .null, .null, .null, .null]) (C := RX7) (T := TX7) (N := 8) (Ts := gT) hx hb htg ci_X7.2.1 tyX7 ci_X7.2.2.1 hown (hts (.classLink R_law 7 RX7) (by decide +kernel)) (hts (.instantiable RX7 8) (by decide +kernel)) (hts (.initialized RX7) (by decide +kernel)) hK hP hD hS hA ci_X7.1 (fun j hj => (show ∀ j, j < 8 → defaultValue (tyX7 j) = vp_V [.null, .null, .null, .null, .null, .null, .null, .null] j by decide +kernel) j hj) (Nat.le_of_ble_eq_true rfl) (Nat.le_of_ble_eq_true rfl) dL_law_0 (fun q0 H0 hP0 hD0 hS0 => ?_)
  have hP0 : va_P D vwCl [(q0, .inr (7, [.null, .null, .null, .null, .null, .null, .null, .null]))] H0 := hP0
  have f0 : s.heap.size ≤ q0 := hD0.2 0 (q0, .inr (7, [.null, .null, .null, .null, .null, .null, .null, .null])) rfl
  have g0 : s.heap.size ≤ H0.size ∧ ∀ q : Nat, q < s.heap.size → H0[q]? = s.heap[q]? := ⟨hS0.1, fun q hq => hS0.2.1 q hq (fun z => by have : s.heap.size ≤ q := z; omega)⟩
  refine lv_dup hx hb dL_law_3 rfl ?_
  refine l_ctor hx hb hml hown htg hK hRO hNX (kX7 q0) mil_X7 lil_X7 f0 hP0 g0 hl.1 ⟨Nat.le_of_ble_eq_true rfl, Nat.le_of_ble_eq_true rfl, Nat.le_of_ble_eq_true rfl, Nat.le_of_ble_eq_true rfl⟩ dL_law_4 (fun H1 qs w hw hP1 hD1 hz1 hk1 => ?_)
  obtain ⟨zql, X0, hwe, hl0, hrX, hG⟩ := hw
  have hwe2 : w = sW shX (zqA zql ad0) cA X0 := hwe.trans (zq_swX zql _ ad0 cA X0)
  clear hwe
  obtain ⟨adx, hadx⟩ : ∃ a : Nat → Nat, a = zqA zql ad0 := ⟨_, rfl⟩
  rw [← hadx] at hwe2
  have hl0' : adx 0 = q0 := by rw [hadx]; exact hl0
  rw [hwe2] at hP1 hD1
  obtain ⟨x1, x2, x3⟩ := world_of hP1 hD1
  have fx : ∀ q, aS shX adx q → s.heap.size ≤ q := fun q hq => by
    rcases x2 q hq with z | z
    · omega
    · have := g0.1; omega
  have g1 : s.heap.size ≤ H1.size ∧ ∀ q : Nat, q < s.heap.size → H1[q]? = s.heap[q]? := ⟨Nat.le_trans g0.1 hz1, fun q hq => by rw [hk1 q (Nat.lt_of_lt_of_le hq g0.1) (by omega)]; exact g0.2 q hq⟩
  refine lv_astore_n (lv' := [(1, .ref q0), (0, .ref b)]) hx hb dL_law_7 rfl hl (by decide) rfl (fun ls hl => ?_)
  have hDx : va_D (fun q : Nat => s.heap.size ≤ q) (sW shX adx cA X0) := (sW_D x1).weaken (fun _ _ _ h => fx _ h)
  have hSx : va_S (fun q : Nat => s.heap.size ≤ q) s.heap H1 [] := ⟨g1.1, fun q hq _ => g1.2 q hq, fun q hq => absurd hq List.not_mem_nil⟩
  refine va_new (ci := 8) (fs := [.null, .null, .int 0, .int 0, .null, .null, .null, .null, .null, .int 0, .int 0, .null, .null, .null, .int 0, .null, .int 0, .null, .null, .null, .int 0, .null, .null, .int 0, .int 0, .int 0, .null, .int 0, .null, .null, .null, .int 0, .int 0, .null, .null, .null, .null, .int 0, .null, .null, .int 0, .int 0, .int 0, .int 0, .int 0, .int 0, .int 0, .null, .int 0, .int 0, .int 0, .null, .int 0, .null, .null]) (C := RX8) (T := TX8) (N := 55) (Ts := gT) hx hb htg ci_X8.2.1 tyX8 ci_X8.2.2.1 hown (hts (.classLink R_law 10 RX8) (by decide +kernel)) (hts (.instantiable RX8 55) (by decide +kernel)) (hts (.initialized RX8) (by decide +kernel)) hK hP1 hDx hSx hA ci_X8.1 (fun j hj => (show ∀ j, j < 55 → defaultValue (tyX8 j) = vp_V [.null, .null, .int 0, .int 0, .null, .null, .null, .null, .null, .int 0, .int 0, .null, .null, .null, .int 0, .null, .int 0, .null, .null, .null, .int 0, .null, .null, .int 0, .int 0, .int 0, .null, .int 0, .null, .null, .null, .int 0, .int 0, .null, .null, .null, .null, .int 0, .null, .null, .int 0, .int 0, .int 0, .int 0, .int 0, .int 0, .int 0, .null, .int 0, .int 0, .int 0, .null, .int 0, .null, .null] j by decide +kernel) j hj) (Nat.le_of_ble_eq_true rfl) (Nat.le_of_ble_eq_true rfl) dL_law_8 (fun q1 H2 hP2 hD2 hS2 => ?_)
  have hlen : (sW shX adx cA X0).length = 45 := by unfold sW; rw [List.length_mapIdx]; rfl
  have hq1 : (sW shX adx cA X0 ++ [(q1, .inr (8, [.null, .null, .int 0, .int 0, .null, .null, .null, .null, .null, .int 0, .int 0, .null, .null, .null, .int 0, .null, .int 0, .null, .null, .null, .int 0, .null, .null, .int 0, .int 0, .int 0, .null, .int 0, .null, .null, .null, .int 0, .int 0, .null, .null, .null, .null, .int 0, .null, .null, .int 0, .int 0, .int 0, .int 0, .int 0, .int 0, .int 0, .null, .int 0, .int 0, .int 0, .null, .int 0, .null, .null]))])[45]? = some (q1, .inr (8, [.null, .null, .int 0, .int 0, .null, .null, .null, .null, .null, .int 0, .int 0, .null, .null, .null, .int 0, .null, .int 0, .null, .null, .null, .int 0, .null, .null, .int 0, .int 0, .int 0, .null, .int 0, .null, .null, .null, .int 0, .int 0, .null, .null, .null, .null, .int 0, .null, .null, .int 0, .int 0, .int 0, .int 0, .int 0, .int 0, .int 0, .null, .int 0, .int 0, .int 0, .null, .int 0, .null, .null])) := by rw [List.getElem?_append_right (by omega), hlen]; rfl
  have hP2x : va_P D vwCl (sW shX adx cA X0) H2 := fun k q hk => hP2 k q (by rw [List.getElem?_append_left (List.getElem?_eq_some_iff.mp hk).1]; exact hk)
  have hP2m : va_P D vwCl [(q1, .inr (8, [.null, .null, .int 0, .int 0, .null, .null, .null, .null, .null, .int 0, .int 0, .null, .null, .null, .int 0, .null, .int 0, .null, .null, .null, .int 0, .null, .null, .int 0, .int 0, .int 0, .null, .int 0, .null, .null, .null, .int 0, .int 0, .null, .null, .null, .null, .int 0, .null, .null, .int 0, .int 0, .int 0, .int 0, .int 0, .int 0, .int 0, .null, .int 0, .int 0, .int 0, .null, .int 0, .null, .null]))] H2 := fun k q hk => by
    have hz : k < 1 := (List.getElem?_eq_some_iff.mp hk).1
    have e0 : k = 0 := by omega
    subst e0
    cases hk
    exact hP2 45 _ hq1
  have f1 : s.heap.size ≤ q1 := hD2.2 45 _ hq1
  have nx1 : ∀ q, aS shX adx q → q ≠ q1 := fun q hq hqq => by
    obtain ⟨k, k1, rfl⟩ := hq
    have k45 : k < 45 := k1
    have := hD2.1 k 45 _ _ (by rw [List.getElem?_append_left (by omega)]; exact sW_at (List.getElem?_eq_getElem k1)) hq1 hqq
    omega
  have lt2 : ∀ q, aS shX adx q → q < H2.size := fun q hq => by
    obtain ⟨k, k1, rfl⟩ := hq
    exact (hP2x k _ (sW_at (List.getElem?_eq_getElem k1))).lt
  have g2 : s.heap.size ≤ H2.size ∧ ∀ q : Nat, q < s.heap.size → H2[q]? = s.heap[q]? := ⟨hS2.1, fun q hq => hS2.2.1 q hq (fun z => by have : s.heap.size ≤ q := z; omega)⟩
  refine lv_dup hx hb dL_law_11 rfl ?_
  refine l_ctor hx hb hml hown htg hK hRO hNX (kX8 hG q1) mil_X8 lil_X8 f1 hP2m g2 hl.1 ⟨Nat.le_of_ble_eq_true rfl, Nat.le_of_ble_eq_true rfl, Nat.le_of_ble_eq_true rfl, Nat.le_of_ble_eq_true rfl⟩ dL_law_12 (fun H3 qs w hw hP3 hD3 hz3 hk3 => ?_)
  obtain ⟨zqn, Y0, hwe, hm0, hrY, hRel⟩ := hw
  have hwe2 : w = sW shM (zqA zqn ad0) cA Y0 := hwe.trans (zq_swM zqn _ ad0 cA Y0)
  clear hwe
  obtain ⟨adm, hadm⟩ : ∃ a : Nat → Nat, a = zqA zqn ad0 := ⟨_, rfl⟩
  rw [← hadm] at hwe2
  have hm0' : adm 0 = q1 := by rw [hadm]; exact hm0
  rw [hwe2] at hP3 hD3
  obtain ⟨y1, y2, y3⟩ := world_of hP3 hD3
  have fy : ∀ q, aS shM adm q → s.heap.size ≤ q := fun q hq => by
    rcases y2 q hq with z | z
    · omega
    · have := g2.1; omega
  have g3 : s.heap.size ≤ H3.size ∧ ∀ q : Nat, q < s.heap.size → H3[q]? = s.heap[q]? := ⟨Nat.le_trans g2.1 hz3, fun q hq => by rw [hk3 q (Nat.lt_of_lt_of_le hq g2.1) (by omega)]; exact g2.2 q hq⟩
  have hP3x : va_P D vwCl (sW shX adx cA X0) H3 := hP2x.kept (fun k q hk => by
    obtain ⟨x, k1, rfl⟩ := sW_inv hk
    have ha : aS shX adx (adx k) := ⟨k, (List.getElem?_eq_some_iff.mp k1).1, rfl⟩
    exact hk3 (adx k) (lt2 _ ha) (nx1 _ ha))
  have hdis : ∀ q, aS shX adx q → aS shM adm q → False := fun q h1 h2 => by
    rcases y2 q h2 with z | z
    · exact nx1 q h1 z
    · have := lt2 q h1; omega
  have adE : ∀ k, 100 ≤ k → adx k = ad0 k := fun k hk => by rw [hadx]; exact zqA_off k hk
  have adF : ∀ k, 100 ≤ k → adm k = ad0 k := fun k hk => by rw [hadm]; exact zqA_off k hk
  have ROx : RO adx (aS shX adx) s s.heap := (hRO.congr adE).narrow (fun q hq => fx q hq)
  have ROm : RO adm (aS shM adm) s s.heap := (hRO.congr adF).narrow (fun q hq => fy q hq)
  refine lv_astore_n (lv' := [(2, .ref q1), (1, .ref q0), (0, .ref b)]) hx hb dL_law_15 rfl hl (by decide) rfl (fun ls hl => ?_)
  refine lv_iconst (v := Int32.ofInt (4 * 0)) hx hb dL_law_16 (by decide) ?_
  refine lv_istore_n (lv' := [(3, .int (Int32.ofInt (4 * 0))), (2, .ref q1), (1, .ref q0), (0, .ref b)]) hx hb dL_law_17 rfl hl (by decide) rfl (fun ls hl => ?_)
  have C : LC (p, l, e, s, m, below, meth, c, b, L, xs, D, cA, adx, adm) := ⟨hx, hb, hr, hml, hown, htg, hX, hbl, hlocks, hK, ⟨x1, ROx, fx⟩, ⟨y1, ROm, fy⟩, hdis, hL⟩
  have hLe : (elL (p, l, e, s, m, below, meth, c, b, L, xs, D, cA, adx, adm) : Int) = L := rfl
  have key := law_loop C 600 0 X0 Y0 (by decide) (by decide) (by rw [hLe]; omega) hRel
  rw [← hl0', ← hm0'] at hl
  exact key H3 ls hP3x hP3 g3 (lv_sub hl [3, 2, 1, 0] rfl) hrX hrY
