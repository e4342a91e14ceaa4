/-! the simple constructors -/
/-- the cells in another order -/
theorem k_perm {nL : Nat} {E : EK} {kc ks pc : Nat} {lv : List (Nat × Value)} {st : List Value} {ws : va_W} (wr : va_W) (is : List Nat) (hR : is.map (fun i => ws[i]?) = wr.map some) (hn : va_nd is = true) (hp0 : E.2.2.2.2.2.2.2.2.2.2.2.2.2.2.length = 1) (hrr : ∀ i ∈ is.drop 1, 1 ≤ i) (hid : is[0]? = some 0) (hcov : ∀ i, i < ws.length → i ∈ is) (k : KW nL E kc ks pc lv st wr) : KW nL E kc ks pc lv st ws := by
  obtain ⟨p, l, e, R, s, m, args, below, meth, c, Q, ad0, cA, D, pre0⟩ := E
  have hp0 : pre0.length = 1 := hp0
  intro H locs ls h1 h2 h3 h4
  obtain ⟨r1, r2, r3⟩ := k_join (pre := []) (w1 := []) (H1 := H) h1 h2 h3 [] is rfl hR hn (fun _ _ => List.not_mem_nil) (fun i hi => absurd hi List.not_mem_nil) (by rw [hp0]; exact hrr) (by rw [hp0]; intro k hk; rw [show k = 0 by omega]; exact hid) (fun i hi => Or.inl (hcov i hi)) (Nat.le_refl _) (fun _ _ _ => rfl) (fun k q hq => by simp at hq) ⟨⟨fun i j p q hp => by simp at hp, fun k q hq => by simp at hq⟩, fun k x hx => by simp at hx, fun k x hx => by simp at hx⟩
  rw [List.append_nil] at r1 r2 r3
  exact k H locs ls r1 r2 r3 h4
set_option maxRecDepth 20000 in
set_option maxHeartbeats 4000000 in
theorem kX6 (h0 : Nat) : Kon yX6_init cX6_init 1 1 12 1 200 [.ref h0] [(h0, .inr (6, [.null, .int 0]))] (fun cA _ w => ∃ zqa1 : Nat, w = [(h0, .inr (6, [.ref zqa1, .int 0])), (zqa1, .inl (cA 0, 200, .inl (fun _ => 0)))]) := by
  refine Kon.of RX6 (by decide +kernel) rfl rfl (Nat.le_of_ble_eq_true rfl) ?_
  intro E C hE hpre hR
  show KW 1 E 0 0 0 [(0, .ref h0)] [] [(h0, .inr (6, [.null, .int 0]))]
  refine k_aload C 0 dX6_init_0 rfl ?_
  refine k_obj C dX6_init_1 wo_X6 (by rw [hE]; exact ⟨Nat.le_of_ble_eq_true rfl, Nat.le_of_ble_eq_true rfl⟩) ?_
  refine k_aload C 0 dX6_init_4 rfl ?_
  refine k_sipush C (v := 200) dX6_init_5 (by decide) ?_
  refine k_newI C 200 dX6_init_8 wa_int (by decide) (by decide) (by decide) (by rw [hE]; exact ⟨Nat.le_of_ble_eq_true rfl, Nat.le_of_ble_eq_true rfl⟩) (by rw [hpre]; exact Nat.le_of_ble_eq_true rfl) (fun zqa1 => ?_)
  show KW _ E _ _ _ _ _ [(h0, .inr (6, [.null, .int 0])), (zqa1, .inl (ECA E 0, 200, .inl (fun _ => 0)))]
  refine k_putF C 0 ff_X6_9 rfl (show 0 < 2 by decide) dX6_init_10 ?_
  show KW _ E _ _ _ _ _ [(h0, .inr (6, [.ref zqa1, .int 0])), (zqa1, .inl (ECA E 0, 200, .inl (fun _ => 0)))]
  refine k_aload C 0 dX6_init_13 rfl ?_
  refine k_iconst C (v := 0) dX6_init_14 (by decide) ?_
  refine k_putI C 0 fp_X6_15 rfl (show 1 < 2 by decide) dX6_init_15 ?_
  show KW _ E _ _ _ _ _ [(h0, .inr (6, [.ref zqa1, .int 0])), (zqa1, .inl (ECA E 0, 200, .inl (fun _ => 0)))]
  exact k_ret C hR [] ⟨zqa1, rfl⟩ ⟨Nat.le_of_ble_eq_true rfl, Nat.le_of_ble_eq_true rfl⟩ dX6_init_18

set_option maxRecDepth 20000 in
set_option maxHeartbeats 4000000 in
theorem kX0 (h0 : Nat) : Kon yX0_init cX0_init 1 1 12 1 3 [.ref h0] [(h0, .inr (0, [.null, .int 0]))] (fun cA _ w => ∃ zqa1 : Nat, w = [(h0, .inr (0, [.ref zqa1, .int 0])), (zqa1, .inl (cA 0, 3, .inl (fun _ => 0)))]) := by
  refine Kon.of RX0 (by decide +kernel) rfl rfl (Nat.le_of_ble_eq_true rfl) ?_
  intro E C hE hpre hR
  show KW 1 E 0 0 0 [(0, .ref h0)] [] [(h0, .inr (0, [.null, .int 0]))]
  refine k_aload C 0 dX0_init_0 rfl ?_
  refine k_obj C dX0_init_1 wo_X0 (by rw [hE]; exact ⟨Nat.le_of_ble_eq_true rfl, Nat.le_of_ble_eq_true rfl⟩) ?_
  refine k_aload C 0 dX0_init_4 rfl ?_
  refine k_iconst C (v := 3) dX0_init_5 (by decide) ?_
  refine k_newI C 3 dX0_init_6 wa_int (by decide) (by decide) (by decide) (by rw [hE]; exact ⟨Nat.le_of_ble_eq_true rfl, Nat.le_of_ble_eq_true rfl⟩) (by rw [hpre]; exact Nat.le_of_ble_eq_true rfl) (fun zqa1 => ?_)
  show KW _ E _ _ _ _ _ [(h0, .inr (0, [.null, .int 0])), (zqa1, .inl (ECA E 0, 3, .inl (fun _ => 0)))]
  refine k_putF C 0 ff_X0_9 rfl (show 0 < 2 by decide) dX0_init_8 ?_
  show KW _ E _ _ _ _ _ [(h0, .inr (0, [.ref zqa1, .int 0])), (zqa1, .inl (ECA E 0, 3, .inl (fun _ => 0)))]
  refine k_aload C 0 dX0_init_11 rfl ?_
  refine k_iconst C (v := 0) dX0_init_12 (by decide) ?_
  refine k_putI C 0 fp_X0_15 rfl (show 1 < 2 by decide) dX0_init_13 ?_
  show KW _ E _ _ _ _ _ [(h0, .inr (0, [.ref zqa1, .int 0])), (zqa1, .inl (ECA E 0, 3, .inl (fun _ => 0)))]
  exact k_ret C hR [] ⟨zqa1, rfl⟩ ⟨Nat.le_of_ble_eq_true rfl, Nat.le_of_ble_eq_true rfl⟩ dX0_init_16

set_option maxRecDepth 20000 in
set_option maxHeartbeats 4000000 in
theorem kX2 (h0 : Nat) : Kon yX2_init cX2_init 1 1 12 4 352 [.ref h0] [(h0, .inr (2, [.int 0, .int 0, .int 0, .int 0, .int 0, .null, .null, .null, .null]))] (fun cA _ w => ∃ zqa1 zqa2 zqa3 zqa4 : Nat, w = [(h0, .inr (2, [.int 0, .int 0, .int 0, .int 0, .int 0, .ref zqa1, .ref zqa2, .ref zqa3, .ref zqa4])), (zqa1, .inl (cA 0, 16, .inl (fun _ => 0))), (zqa2, .inl (cA 0, 16, .inl (fun _ => 0))), (zqa3, .inl (cA 0, 64, .inl (fun _ => 0))), (zqa4, .inl (cA 0, 256, .inl (fun _ => 0)))]) := by
  refine Kon.of RX2 (by decide +kernel) rfl rfl (Nat.le_of_ble_eq_true rfl) ?_
  intro E C hE hpre hR
  show KW 1 E 0 0 0 [(0, .ref h0)] [] [(h0, .inr (2, [.int 0, .int 0, .int 0, .int 0, .int 0, .null, .null, .null, .null]))]
  refine k_aload C 0 dX2_init_0 rfl ?_
  refine k_obj C dX2_init_1 wo_X2 (by rw [hE]; exact ⟨Nat.le_of_ble_eq_true rfl, Nat.le_of_ble_eq_true rfl⟩) ?_
  refine k_aload C 0 dX2_init_4 rfl ?_
  refine k_iconst C (v := 0) dX2_init_5 (by decide) ?_
  refine k_putI C 0 fp_X2_9 rfl (show 0 < 9 by decide) dX2_init_6 ?_
  show KW _ E _ _ _ _ _ [(h0, .inr (2, [.int 0, .int 0, .int 0, .int 0, .int 0, .null, .null, .null, .null]))]
  refine k_aload C 0 dX2_init_9 rfl ?_
  refine k_iconst C (v := 0) dX2_init_10 (by decide) ?_
  refine k_putI C 0 fp_X2_15 rfl (show 1 < 9 by decide) dX2_init_11 ?_
  show KW _ E _ _ _ _ _ [(h0, .inr (2, [.int 0, .int 0, .int 0, .int 0, .int 0, .null, .null, .null, .null]))]
  refine k_aload C 0 dX2_init_14 rfl ?_
  refine k_iconst C (v := 0) dX2_init_15 (by decide) ?_
  refine k_putI C 0 fp_X2_18 rfl (show 2 < 9 by decide) dX2_init_16 ?_
  show KW _ E _ _ _ _ _ [(h0, .inr (2, [.int 0, .int 0, .int 0, .int 0, .int 0, .null, .null, .null, .null]))]
  refine k_aload C 0 dX2_init_19 rfl ?_
  refine k_iconst C (v := 0) dX2_init_20 (by decide) ?_
  refine k_putI C 0 fp_X2_21 rfl (show 3 < 9 by decide) dX2_init_21 ?_
  show KW _ E _ _ _ _ _ [(h0, .inr (2, [.int 0, .int 0, .int 0, .int 0, .int 0, .null, .null, .null, .null]))]
  refine k_aload C 0 dX2_init_24 rfl ?_
  refine k_iconst C (v := 0) dX2_init_25 (by decide) ?_
  refine k_putI C 0 fp_X2_24 rfl (show 4 < 9 by decide) dX2_init_26 ?_
  show KW _ E _ _ _ _ _ [(h0, .inr (2, [.int 0, .int 0, .int 0, .int 0, .int 0, .null, .null, .null, .null]))]
  refine k_aload C 0 dX2_init_29 rfl ?_
  refine k_bipush C (v := 16) dX2_init_30 (by decide) ?_
  refine k_newI C 16 dX2_init_32 wa_int (by decide) (by decide) (by decide) (by rw [hE]; exact ⟨Nat.le_of_ble_eq_true rfl, Nat.le_of_ble_eq_true rfl⟩) (by rw [hpre]; exact Nat.le_of_ble_eq_true rfl) (fun zqa1 => ?_)
  show KW _ E _ _ _ _ _ [(h0, .inr (2, [.int 0, .int 0, .int 0, .int 0, .int 0, .null, .null, .null, .null])), (zqa1, .inl (ECA E 0, 16, .inl (fun _ => 0)))]
  refine k_putF C 0 ff_X2_27 rfl (show 5 < 9 by decide) dX2_init_34 ?_
  show KW _ E _ _ _ _ _ [(h0, .inr (2, [.int 0, .int 0, .int 0, .int 0, .int 0, .ref zqa1, .null, .null, .null])), (zqa1, .inl (ECA E 0, 16, .inl (fun _ => 0)))]
  refine k_aload C 0 dX2_init_37 rfl ?_
  refine k_bipush C (v := 16) dX2_init_38 (by decide) ?_
  refine k_newI C 16 dX2_init_40 wa_int (by decide) (by decide) (by decide) (by rw [hE]; exact ⟨Nat.le_of_ble_eq_true rfl, Nat.le_of_ble_eq_true rfl⟩) (by rw [hpre]; exact Nat.le_of_ble_eq_true rfl) (fun zqa2 => ?_)
  show KW _ E _ _ _ _ _ [(h0, .inr (2, [.int 0, .int 0, .int 0, .int 0, .int 0, .ref zqa1, .null, .null, .null])), (zqa1, .inl (ECA E 0, 16, .inl (fun _ => 0))), (zqa2, .inl (ECA E 0, 16, .inl (fun _ => 0)))]
  refine k_putF C 0 ff_X2_31 rfl (show 6 < 9 by decide) dX2_init_42 ?_
  show KW _ E _ _ _ _ _ [(h0, .inr (2, [.int 0, .int 0, .int 0, .int 0, .int 0, .ref zqa1, .ref zqa2, .null, .null])), (zqa1, .inl (ECA E 0, 16, .inl (fun _ => 0))), (zqa2, .inl (ECA E 0, 16, .inl (fun _ => 0)))]
  refine k_aload C 0 dX2_init_45 rfl ?_
  refine k_bipush C (v := 64) dX2_init_46 (by decide) ?_
  refine k_newI C 64 dX2_init_48 wa_int (by decide) (by decide) (by decide) (by rw [hE]; exact ⟨Nat.le_of_ble_eq_true rfl, Nat.le_of_ble_eq_true rfl⟩) (by rw [hpre]; exact Nat.le_of_ble_eq_true rfl) (fun zqa3 => ?_)
  show KW _ E _ _ _ _ _ [(h0, .inr (2, [.int 0, .int 0, .int 0, .int 0, .int 0, .ref zqa1, .ref zqa2, .null, .null])), (zqa1, .inl (ECA E 0, 16, .inl (fun _ => 0))), (zqa2, .inl (ECA E 0, 16, .inl (fun _ => 0))), (zqa3, .inl (ECA E 0, 64, .inl (fun _ => 0)))]
  refine k_putF C 0 ff_X2_34 rfl (show 7 < 9 by decide) dX2_init_50 ?_
  show KW _ E _ _ _ _ _ [(h0, .inr (2, [.int 0, .int 0, .int 0, .int 0, .int 0, .ref zqa1, .ref zqa2, .ref zqa3, .null])), (zqa1, .inl (ECA E 0, 16, .inl (fun _ => 0))), (zqa2, .inl (ECA E 0, 16, .inl (fun _ => 0))), (zqa3, .inl (ECA E 0, 64, .inl (fun _ => 0)))]
  refine k_aload C 0 dX2_init_53 rfl ?_
  refine k_sipush C (v := 256) dX2_init_54 (by decide) ?_
  refine k_newI C 256 dX2_init_57 wa_int (by decide) (by decide) (by decide) (by rw [hE]; exact ⟨Nat.le_of_ble_eq_true rfl, Nat.le_of_ble_eq_true rfl⟩) (by rw [hpre]; exact Nat.le_of_ble_eq_true rfl) (fun zqa4 => ?_)
  show KW _ E _ _ _ _ _ [(h0, .inr (2, [.int 0, .int 0, .int 0, .int 0, .int 0, .ref zqa1, .ref zqa2, .ref zqa3, .null])), (zqa1, .inl (ECA E 0, 16, .inl (fun _ => 0))), (zqa2, .inl (ECA E 0, 16, .inl (fun _ => 0))), (zqa3, .inl (ECA E 0, 64, .inl (fun _ => 0))), (zqa4, .inl (ECA E 0, 256, .inl (fun _ => 0)))]
  refine k_putF C 0 ff_X2_37 rfl (show 8 < 9 by decide) dX2_init_59 ?_
  show KW _ E _ _ _ _ _ [(h0, .inr (2, [.int 0, .int 0, .int 0, .int 0, .int 0, .ref zqa1, .ref zqa2, .ref zqa3, .ref zqa4])), (zqa1, .inl (ECA E 0, 16, .inl (fun _ => 0))), (zqa2, .inl (ECA E 0, 16, .inl (fun _ => 0))), (zqa3, .inl (ECA E 0, 64, .inl (fun _ => 0))), (zqa4, .inl (ECA E 0, 256, .inl (fun _ => 0)))]
  exact k_ret C hR [] ⟨zqa1, zqa2, zqa3, zqa4, rfl⟩ ⟨Nat.le_of_ble_eq_true rfl, Nat.le_of_ble_eq_true rfl⟩ dX2_init_62

set_option maxRecDepth 20000 in
set_option maxHeartbeats 4000000 in
theorem kX3 (h0 : Nat) : Kon yX3_init cX3_init 1 1 12 6 144 [.ref h0] [(h0, .inr (3, [.null, .null, .null, .null, .null, .null, .int 0, .int 0, .int 0]))] (fun cA _ w => ∃ zqa1 zqa2 zqa3 zqa4 zqa5 zqa6 : Nat, w = [(h0, .inr (3, [.ref zqa1, .ref zqa2, .ref zqa3, .ref zqa4, .ref zqa5, .ref zqa6, .int 0, .int 0, .int 0])), (zqa1, .inl (cA 0, 24, .inl (fun _ => 0))), (zqa2, .inl (cA 0, 24, .inl (fun _ => 0))), (zqa3, .inl (cA 0, 24, .inl (fun _ => 0))), (zqa4, .inl (cA 0, 24, .inl (fun _ => 0))), (zqa5, .inl (cA 1, 24, .inl (fun _ => 0))), (zqa6, .inl (cA 1, 24, .inl (fun _ => 0)))]) := by
  refine Kon.of RX3 (by decide +kernel) rfl rfl (Nat.le_of_ble_eq_true rfl) ?_
  intro E C hE hpre hR
  show KW 1 E 0 0 0 [(0, .ref h0)] [] [(h0, .inr (3, [.null, .null, .null, .null, .null, .null, .int 0, .int 0, .int 0]))]
  refine k_aload C 0 dX3_init_0 rfl ?_
  refine k_obj C dX3_init_1 wo_X3 (by rw [hE]; exact ⟨Nat.le_of_ble_eq_true rfl, Nat.le_of_ble_eq_true rfl⟩) ?_
  refine k_aload C 0 dX3_init_4 rfl ?_
  refine k_bipush C (v := 24) dX3_init_5 (by decide) ?_
  refine k_newI C 24 dX3_init_7 wa_int (by decide) (by decide) (by decide) (by rw [hE]; exact ⟨Nat.le_of_ble_eq_true rfl, Nat.le_of_ble_eq_true rfl⟩) (by rw [hpre]; exact Nat.le_of_ble_eq_true rfl) (fun zqa1 => ?_)
  show KW _ E _ _ _ _ _ [(h0, .inr (3, [.null, .null, .null, .null, .null, .null, .int 0, .int 0, .int 0])), (zqa1, .inl (ECA E 0, 24, .inl (fun _ => 0)))]
  refine k_putF C 0 ff_X3_9 rfl (show 0 < 9 by decide) dX3_init_9 ?_
  show KW _ E _ _ _ _ _ [(h0, .inr (3, [.ref zqa1, .null, .null, .null, .null, .null, .int 0, .int 0, .int 0])), (zqa1, .inl (ECA E 0, 24, .inl (fun _ => 0)))]
  refine k_aload C 0 dX3_init_12 rfl ?_
  refine k_bipush C (v := 24) dX3_init_13 (by decide) ?_
  refine k_newI C 24 dX3_init_15 wa_int (by decide) (by decide) (by decide) (by rw [hE]; exact ⟨Nat.le_of_ble_eq_true rfl, Nat.le_of_ble_eq_true rfl⟩) (by rw [hpre]; exact Nat.le_of_ble_eq_true rfl) (fun zqa2 => ?_)
  show KW _ E _ _ _ _ _ [(h0, .inr (3, [.ref zqa1, .null, .null, .null, .null, .null, .int 0, .int 0, .int 0])), (zqa1, .inl (ECA E 0, 24, .inl (fun _ => 0))), (zqa2, .inl (ECA E 0, 24, .inl (fun _ => 0)))]
  refine k_putF C 0 ff_X3_15 rfl (show 1 < 9 by decide) dX3_init_17 ?_
  show KW _ E _ _ _ _ _ [(h0, .inr (3, [.ref zqa1, .ref zqa2, .null, .null, .null, .null, .int 0, .int 0, .int 0])), (zqa1, .inl (ECA E 0, 24, .inl (fun _ => 0))), (zqa2, .inl (ECA E 0, 24, .inl (fun _ => 0)))]
  refine k_aload C 0 dX3_init_20 rfl ?_
  refine k_bipush C (v := 24) dX3_init_21 (by decide) ?_
  refine k_newI C 24 dX3_init_23 wa_int (by decide) (by decide) (by decide) (by rw [hE]; exact ⟨Nat.le_of_ble_eq_true rfl, Nat.le_of_ble_eq_true rfl⟩) (by rw [hpre]; exact Nat.le_of_ble_eq_true rfl) (fun zqa3 => ?_)
  show KW _ E _ _ _ _ _ [(h0, .inr (3, [.ref zqa1, .ref zqa2, .null, .null, .null, .null, .int 0, .int 0, .int 0])), (zqa1, .inl (ECA E 0, 24, .inl (fun _ => 0))), (zqa2, .inl (ECA E 0, 24, .inl (fun _ => 0))), (zqa3, .inl (ECA E 0, 24, .inl (fun _ => 0)))]
  refine k_putF C 0 ff_X3_18 rfl (show 2 < 9 by decide) dX3_init_25 ?_
  show KW _ E _ _ _ _ _ [(h0, .inr (3, [.ref zqa1, .ref zqa2, .ref zqa3, .null, .null, .null, .int 0, .int 0, .int 0])), (zqa1, .inl (ECA E 0, 24, .inl (fun _ => 0))), (zqa2, .inl (ECA E 0, 24, .inl (fun _ => 0))), (zqa3, .inl (ECA E 0, 24, .inl (fun _ => 0)))]
  refine k_aload C 0 dX3_init_28 rfl ?_
  refine k_bipush C (v := 24) dX3_init_29 (by decide) ?_
  refine k_newI C 24 dX3_init_31 wa_int (by decide) (by decide) (by decide) (by rw [hE]; exact ⟨Nat.le_of_ble_eq_true rfl, Nat.le_of_ble_eq_true rfl⟩) (by rw [hpre]; exact Nat.le_of_ble_eq_true rfl) (fun zqa4 => ?_)
  show KW _ E _ _ _ _ _ [(h0, .inr (3, [.ref zqa1, .ref zqa2, .ref zqa3, .null, .null, .null, .int 0, .int 0, .int 0])), (zqa1, .inl (ECA E 0, 24, .inl (fun _ => 0))), (zqa2, .inl (ECA E 0, 24, .inl (fun _ => 0))), (zqa3, .inl (ECA E 0, 24, .inl (fun _ => 0))), (zqa4, .inl (ECA E 0, 24, .inl (fun _ => 0)))]
  refine k_putF C 0 ff_X3_21 rfl (show 3 < 9 by decide) dX3_init_33 ?_
  show KW _ E _ _ _ _ _ [(h0, .inr (3, [.ref zqa1, .ref zqa2, .ref zqa3, .ref zqa4, .null, .null, .int 0, .int 0, .int 0])), (zqa1, .inl (ECA E 0, 24, .inl (fun _ => 0))), (zqa2, .inl (ECA E 0, 24, .inl (fun _ => 0))), (zqa3, .inl (ECA E 0, 24, .inl (fun _ => 0))), (zqa4, .inl (ECA E 0, 24, .inl (fun _ => 0)))]
  refine k_aload C 0 dX3_init_36 rfl ?_
  refine k_bipush C (v := 24) dX3_init_37 (by decide) ?_
  refine k_newZ C 24 dX3_init_39 wa_boolean (by decide) (by decide) (by decide) (by rw [hE]; exact ⟨Nat.le_of_ble_eq_true rfl, Nat.le_of_ble_eq_true rfl⟩) (by rw [hpre]; exact Nat.le_of_ble_eq_true rfl) (fun zqa5 => ?_)
  show KW _ E _ _ _ _ _ [(h0, .inr (3, [.ref zqa1, .ref zqa2, .ref zqa3, .ref zqa4, .null, .null, .int 0, .int 0, .int 0])), (zqa1, .inl (ECA E 0, 24, .inl (fun _ => 0))), (zqa2, .inl (ECA E 0, 24, .inl (fun _ => 0))), (zqa3, .inl (ECA E 0, 24, .inl (fun _ => 0))), (zqa4, .inl (ECA E 0, 24, .inl (fun _ => 0))), (zqa5, .inl (ECA E 1, 24, .inl (fun _ => 0)))]
  refine k_putF C 0 ff_X3_24 rfl (show 4 < 9 by decide) dX3_init_41 ?_
  show KW _ E _ _ _ _ _ [(h0, .inr (3, [.ref zqa1, .ref zqa2, .ref zqa3, .ref zqa4, .ref zqa5, .null, .int 0, .int 0, .int 0])), (zqa1, .inl (ECA E 0, 24, .inl (fun _ => 0))), (zqa2, .inl (ECA E 0, 24, .inl (fun _ => 0))), (zqa3, .inl (ECA E 0, 24, .inl (fun _ => 0))), (zqa4, .inl (ECA E 0, 24, .inl (fun _ => 0))), (zqa5, .inl (ECA E 1, 24, .inl (fun _ => 0)))]
  refine k_aload C 0 dX3_init_44 rfl ?_
  refine k_bipush C (v := 24) dX3_init_45 (by decide) ?_
  refine k_newZ C 24 dX3_init_47 wa_boolean (by decide) (by decide) (by decide) (by rw [hE]; exact ⟨Nat.le_of_ble_eq_true rfl, Nat.le_of_ble_eq_true rfl⟩) (by rw [hpre]; exact Nat.le_of_ble_eq_true rfl) (fun zqa6 => ?_)
  show KW _ E _ _ _ _ _ [(h0, .inr (3, [.ref zqa1, .ref zqa2, .ref zqa3, .ref zqa4, .ref zqa5, .null, .int 0, .int 0, .int 0])), (zqa1, .inl (ECA E 0, 24, .inl (fun _ => 0))), (zqa2, .inl (ECA E 0, 24, .inl (fun _ => 0))), (zqa3, .inl (ECA E 0, 24, .inl (fun _ => 0))), (zqa4, .inl (ECA E 0, 24, .inl (fun _ => 0))), (zqa5, .inl (ECA E 1, 24, .inl (fun _ => 0))), (zqa6, .inl (ECA E 1, 24, .inl (fun _ => 0)))]
  refine k_putF C 0 ff_X3_28 rfl (show 5 < 9 by decide) dX3_init_49 ?_
  show KW _ E _ _ _ _ _ [(h0, .inr (3, [.ref zqa1, .ref zqa2, .ref zqa3, .ref zqa4, .ref zqa5, .ref zqa6, .int 0, .int 0, .int 0])), (zqa1, .inl (ECA E 0, 24, .inl (fun _ => 0))), (zqa2, .inl (ECA E 0, 24, .inl (fun _ => 0))), (zqa3, .inl (ECA E 0, 24, .inl (fun _ => 0))), (zqa4, .inl (ECA E 0, 24, .inl (fun _ => 0))), (zqa5, .inl (ECA E 1, 24, .inl (fun _ => 0))), (zqa6, .inl (ECA E 1, 24, .inl (fun _ => 0)))]
  refine k_aload C 0 dX3_init_52 rfl ?_
  refine k_iconst C (v := 0) dX3_init_53 (by decide) ?_
  refine k_putI C 0 fp_X3_31 rfl (show 6 < 9 by decide) dX3_init_54 ?_
  show KW _ E _ _ _ _ _ [(h0, .inr (3, [.ref zqa1, .ref zqa2, .ref zqa3, .ref zqa4, .ref zqa5, .ref zqa6, .int 0, .int 0, .int 0])), (zqa1, .inl (ECA E 0, 24, .inl (fun _ => 0))), (zqa2, .inl (ECA E 0, 24, .inl (fun _ => 0))), (zqa3, .inl (ECA E 0, 24, .inl (fun _ => 0))), (zqa4, .inl (ECA E 0, 24, .inl (fun _ => 0))), (zqa5, .inl (ECA E 1, 24, .inl (fun _ => 0))), (zqa6, .inl (ECA E 1, 24, .inl (fun _ => 0)))]
  refine k_aload C 0 dX3_init_57 rfl ?_
  refine k_iconst C (v := 0) dX3_init_58 (by decide) ?_
  refine k_putI C 0 fp_X3_35 rfl (show 7 < 9 by decide) dX3_init_59 ?_
  show KW _ E _ _ _ _ _ [(h0, .inr (3, [.ref zqa1, .ref zqa2, .ref zqa3, .ref zqa4, .ref zqa5, .ref zqa6, .int 0, .int 0, .int 0])), (zqa1, .inl (ECA E 0, 24, .inl (fun _ => 0))), (zqa2, .inl (ECA E 0, 24, .inl (fun _ => 0))), (zqa3, .inl (ECA E 0, 24, .inl (fun _ => 0))), (zqa4, .inl (ECA E 0, 24, .inl (fun _ => 0))), (zqa5, .inl (ECA E 1, 24, .inl (fun _ => 0))), (zqa6, .inl (ECA E 1, 24, .inl (fun _ => 0)))]
  refine k_aload C 0 dX3_init_62 rfl ?_
  refine k_iconst C (v := 0) dX3_init_63 (by decide) ?_
  refine k_putI C 0 fp_X3_38 rfl (show 8 < 9 by decide) dX3_init_64 ?_
  show KW _ E _ _ _ _ _ [(h0, .inr (3, [.ref zqa1, .ref zqa2, .ref zqa3, .ref zqa4, .ref zqa5, .ref zqa6, .int 0, .int 0, .int 0])), (zqa1, .inl (ECA E 0, 24, .inl (fun _ => 0))), (zqa2, .inl (ECA E 0, 24, .inl (fun _ => 0))), (zqa3, .inl (ECA E 0, 24, .inl (fun _ => 0))), (zqa4, .inl (ECA E 0, 24, .inl (fun _ => 0))), (zqa5, .inl (ECA E 1, 24, .inl (fun _ => 0))), (zqa6, .inl (ECA E 1, 24, .inl (fun _ => 0)))]
  exact k_ret C hR [] ⟨zqa1, zqa2, zqa3, zqa4, zqa5, zqa6, rfl⟩ ⟨Nat.le_of_ble_eq_true rfl, Nat.le_of_ble_eq_true rfl⟩ dX3_init_67

set_option maxRecDepth 20000 in
set_option maxHeartbeats 4000000 in
theorem kX1 (h0 zqp zqm zqs : Nat) (zqmf : List Value) (zqpa : Nat) (zqsf : List Value) (zqwe : Nat) (h_zqpa : zqmf[8]? = some (.ref zqpa)) (h_zqwe : zqsf[4]? = some (.ref zqwe)) : Kon yX1_init cX1_init 4 1 12 12 2800 [.ref h0, .ref zqp, .ref zqm, .ref zqs] [(h0, .inr (1, [.null, .null, .null, .null, .null, .null, .null, .null, .null, .null, .null, .null, .null, .null, .null, .null, .int 0, .int 0, .int 0])), (zqm, .inr (2, zqmf)), (zqs, .inr (5, zqsf))] (fun cA _ w => ∃ zqa1 zqa2 zqa3 zqa4 zqa5 zqa6 zqa7 zqa8 zqa9 zqa10 zqa11 zqa12 : Nat, w = [(h0, .inr (1, [.ref zqp, .ref zqm, .ref zqpa, .ref zqwe, .ref zqa1, .ref zqa2, .ref zqa3, .ref zqa4, .ref zqa5, .ref zqa6, .ref zqa7, .ref zqa8, .ref zqa9, .ref zqa10, .ref zqa11, .ref zqa12, .int 0, .int 0, .int 0])), (zqm, .inr (2, zqmf)), (zqs, .inr (5, zqsf)), (zqa1, .inl (cA 0, 384, .inl (fun _ => 0))), (zqa2, .inl (cA 0, 24, .inl (fun _ => 0))), (zqa3, .inl (cA 0, 384, .inl (fun _ => 0))), (zqa4, .inl (cA 0, 24, .inl (fun _ => 0))), (zqa5, .inl (cA 0, 384, .inl (fun _ => 0))), (zqa6, .inl (cA 0, 384, .inl (fun _ => 0))), (zqa7, .inl (cA 0, 384, .inl (fun _ => 0))), (zqa8, .inl (cA 0, 384, .inl (fun _ => 0))), (zqa9, .inl (cA 0, 384, .inl (fun _ => 0))), (zqa10, .inl (cA 0, 24, .inl (fun _ => 0))), (zqa11, .inl (cA 0, 16, .inl (fun _ => 0))), (zqa12, .inl (cA 0, 24, .inl (fun _ => 0)))]) := by
  refine Kon.of RX1 (by decide +kernel) rfl rfl (Nat.le_of_ble_eq_true rfl) ?_
  intro E C hE hpre hR
  show KW 4 E 0 0 0 [(0, .ref h0), (1, .ref zqp), (2, .ref zqm), (3, .ref zqs)] [] [(h0, .inr (1, [.null, .null, .null, .null, .null, .null, .null, .null, .null, .null, .null, .null, .null, .null, .null, .null, .int 0, .int 0, .int 0])), (zqm, .inr (2, zqmf)), (zqs, .inr (5, zqsf))]
  refine k_aload C 0 dX1_init_0 rfl ?_
  refine k_obj C dX1_init_1 wo_X1 (by rw [hE]; exact ⟨Nat.le_of_ble_eq_true rfl, Nat.le_of_ble_eq_true rfl⟩) ?_
  refine k_aload C 0 dX1_init_4 rfl ?_
  refine k_sipush C (v := 384) dX1_init_5 (by decide) ?_
  refine k_newI C 384 dX1_init_8 wa_int (by decide) (by decide) (by decide) (by rw [hE]; exact ⟨Nat.le_of_ble_eq_true rfl, Nat.le_of_ble_eq_true rfl⟩) (by rw [hpre]; exact Nat.le_of_ble_eq_true rfl) (fun zqa1 => ?_)
  show KW _ E _ _ _ _ _ [(h0, .inr (1, [.null, .null, .null, .null, .null, .null, .null, .null, .null, .null, .null, .null, .null, .null, .null, .null, .int 0, .int 0, .int 0])), (zqm, .inr (2, zqmf)), (zqs, .inr (5, zqsf)), (zqa1, .inl (ECA E 0, 384, .inl (fun _ => 0)))]
  refine k_putF C 0 ff_X1_11 rfl (show 4 < 19 by decide) dX1_init_10 ?_
  show KW _ E _ _ _ _ _ [(h0, .inr (1, [.null, .null, .null, .null, .ref zqa1, .null, .null, .null, .null, .null, .null, .null, .null, .null, .null, .null, .int 0, .int 0, .int 0])), (zqm, .inr (2, zqmf)), (zqs, .inr (5, zqsf)), (zqa1, .inl (ECA E 0, 384, .inl (fun _ => 0)))]
  refine k_aload C 0 dX1_init_13 rfl ?_
  refine k_bipush C (v := 24) dX1_init_14 (by decide) ?_
  refine k_newI C 24 dX1_init_16 wa_int (by decide) (by decide) (by decide) (by rw [hE]; exact ⟨Nat.le_of_ble_eq_true rfl, Nat.le_of_ble_eq_true rfl⟩) (by rw [hpre]; exact Nat.le_of_ble_eq_true rfl) (fun zqa2 => ?_)
  show KW _ E _ _ _ _ _ [(h0, .inr (1, [.null, .null, .null, .null, .ref zqa1, .null, .null, .null, .null, .null, .null, .null, .null, .null, .null, .null, .int 0, .int 0, .int 0])), (zqm, .inr (2, zqmf)), (zqs, .inr (5, zqsf)), (zqa1, .inl (ECA E 0, 384, .inl (fun _ => 0))), (zqa2, .inl (ECA E 0, 24, .inl (fun _ => 0)))]
  refine k_putF C 0 ff_X1_15 rfl (show 5 < 19 by decide) dX1_init_18 ?_
  show KW _ E _ _ _ _ _ [(h0, .inr (1, [.null, .null, .null, .null, .ref zqa1, .ref zqa2, .null, .null, .null, .null, .null, .null, .null, .null, .null, .null, .int 0, .int 0, .int 0])), (zqm, .inr (2, zqmf)), (zqs, .inr (5, zqsf)), (zqa1, .inl (ECA E 0, 384, .inl (fun _ => 0))), (zqa2, .inl (ECA E 0, 24, .inl (fun _ => 0)))]
  refine k_aload C 0 dX1_init_21 rfl ?_
  refine k_sipush C (v := 384) dX1_init_22 (by decide) ?_
  refine k_newI C 384 dX1_init_25 wa_int (by decide) (by decide) (by decide) (by rw [hE]; exact ⟨Nat.le_of_ble_eq_true rfl, Nat.le_of_ble_eq_true rfl⟩) (by rw [hpre]; exact Nat.le_of_ble_eq_true rfl) (fun zqa3 => ?_)
  show KW _ E _ _ _ _ _ [(h0, .inr (1, [.null, .null, .null, .null, .ref zqa1, .ref zqa2, .null, .null, .null, .null, .null, .null, .null, .null, .null, .null, .int 0, .int 0, .int 0])), (zqm, .inr (2, zqmf)), (zqs, .inr (5, zqsf)), (zqa1, .inl (ECA E 0, 384, .inl (fun _ => 0))), (zqa2, .inl (ECA E 0, 24, .inl (fun _ => 0))), (zqa3, .inl (ECA E 0, 384, .inl (fun _ => 0)))]
  refine k_putF C 0 ff_X1_18 rfl (show 6 < 19 by decide) dX1_init_27 ?_
  show KW _ E _ _ _ _ _ [(h0, .inr (1, [.null, .null, .null, .null, .ref zqa1, .ref zqa2, .ref zqa3, .null, .null, .null, .null, .null, .null, .null, .null, .null, .int 0, .int 0, .int 0])), (zqm, .inr (2, zqmf)), (zqs, .inr (5, zqsf)), (zqa1, .inl (ECA E 0, 384, .inl (fun _ => 0))), (zqa2, .inl (ECA E 0, 24, .inl (fun _ => 0))), (zqa3, .inl (ECA E 0, 384, .inl (fun _ => 0)))]
  refine k_aload C 0 dX1_init_30 rfl ?_
  refine k_bipush C (v := 24) dX1_init_31 (by decide) ?_
  refine k_newI C 24 dX1_init_33 wa_int (by decide) (by decide) (by decide) (by rw [hE]; exact ⟨Nat.le_of_ble_eq_true rfl, Nat.le_of_ble_eq_true rfl⟩) (by rw [hpre]; exact Nat.le_of_ble_eq_true rfl) (fun zqa4 => ?_)
  show KW _ E _ _ _ _ _ [(h0, .inr (1, [.null, .null, .null, .null, .ref zqa1, .ref zqa2, .ref zqa3, .null, .null, .null, .null, .null, .null, .null, .null, .null, .int 0, .int 0, .int 0])), (zqm, .inr (2, zqmf)), (zqs, .inr (5, zqsf)), (zqa1, .inl (ECA E 0, 384, .inl (fun _ => 0))), (zqa2, .inl (ECA E 0, 24, .inl (fun _ => 0))), (zqa3, .inl (ECA E 0, 384, .inl (fun _ => 0))), (zqa4, .inl (ECA E 0, 24, .inl (fun _ => 0)))]
  refine k_putF C 0 ff_X1_21 rfl (show 7 < 19 by decide) dX1_init_35 ?_
  show KW _ E _ _ _ _ _ [(h0, .inr (1, [.null, .null, .null, .null, .ref zqa1, .ref zqa2, .ref zqa3, .ref zqa4, .null, .null, .null, .null, .null, .null, .null, .null, .int 0, .int 0, .int 0])), (zqm, .inr (2, zqmf)), (zqs, .inr (5, zqsf)), (zqa1, .inl (ECA E 0, 384, .inl (fun _ => 0))), (zqa2, .inl (ECA E 0, 24, .inl (fun _ => 0))), (zqa3, .inl (ECA E 0, 384, .inl (fun _ => 0))), (zqa4, .inl (ECA E 0, 24, .inl (fun _ => 0)))]
  refine k_aload C 0 dX1_init_38 rfl ?_
  refine k_sipush C (v := 384) dX1_init_39 (by decide) ?_
  refine k_newI C 384 dX1_init_42 wa_int (by decide) (by decide) (by decide) (by rw [hE]; exact ⟨Nat.le_of_ble_eq_true rfl, Nat.le_of_ble_eq_true rfl⟩) (by rw [hpre]; exact Nat.le_of_ble_eq_true rfl) (fun zqa5 => ?_)
  show KW _ E _ _ _ _ _ [(h0, .inr (1, [.null, .null, .null, .null, .ref zqa1, .ref zqa2, .ref zqa3, .ref zqa4, .null, .null, .null, .null, .null, .null, .null, .null, .int 0, .int 0, .int 0])), (zqm, .inr (2, zqmf)), (zqs, .inr (5, zqsf)), (zqa1, .inl (ECA E 0, 384, .inl (fun _ => 0))), (zqa2, .inl (ECA E 0, 24, .inl (fun _ => 0))), (zqa3, .inl (ECA E 0, 384, .inl (fun _ => 0))), (zqa4, .inl (ECA E 0, 24, .inl (fun _ => 0))), (zqa5, .inl (ECA E 0, 384, .inl (fun _ => 0)))]
  refine k_putF C 0 ff_X1_24 rfl (show 8 < 19 by decide) dX1_init_44 ?_
  show KW _ E _ _ _ _ _ [(h0, .inr (1, [.null, .null, .null, .null, .ref zqa1, .ref zqa2, .ref zqa3, .ref zqa4, .ref zqa5, .null, .null, .null, .null, .null, .null, .null, .int 0, .int 0, .int 0])), (zqm, .inr (2, zqmf)), (zqs, .inr (5, zqsf)), (zqa1, .inl (ECA E 0, 384, .inl (fun _ => 0))), (zqa2, .inl (ECA E 0, 24, .inl (fun _ => 0))), (zqa3, .inl (ECA E 0, 384, .inl (fun _ => 0))), (zqa4, .inl (ECA E 0, 24, .inl (fun _ => 0))), (zqa5, .inl (ECA E 0, 384, .inl (fun _ => 0)))]
  refine k_aload C 0 dX1_init_47 rfl ?_
  refine k_sipush C (v := 384) dX1_init_48 (by decide) ?_
  refine k_newI C 384 dX1_init_51 wa_int (by decide) (by decide) (by decide) (by rw [hE]; exact ⟨Nat.le_of_ble_eq_true rfl, Nat.le_of_ble_eq_true rfl⟩) (by rw [hpre]; exact Nat.le_of_ble_eq_true rfl) (fun zqa6 => ?_)
  show KW _ E _ _ _ _ _ [(h0, .inr (1, [.null, .null, .null, .null, .ref zqa1, .ref zqa2, .ref zqa3, .ref zqa4, .ref zqa5, .null, .null, .null, .null, .null, .null, .null, .int 0, .int 0, .int 0])), (zqm, .inr (2, zqmf)), (zqs, .inr (5, zqsf)), (zqa1, .inl (ECA E 0, 384, .inl (fun _ => 0))), (zqa2, .inl (ECA E 0, 24, .inl (fun _ => 0))), (zqa3, .inl (ECA E 0, 384, .inl (fun _ => 0))), (zqa4, .inl (ECA E 0, 24, .inl (fun _ => 0))), (zqa5, .inl (ECA E 0, 384, .inl (fun _ => 0))), (zqa6, .inl (ECA E 0, 384, .inl (fun _ => 0)))]
  refine k_putF C 0 ff_X1_27 rfl (show 9 < 19 by decide) dX1_init_53 ?_
  show KW _ E _ _ _ _ _ [(h0, .inr (1, [.null, .null, .null, .null, .ref zqa1, .ref zqa2, .ref zqa3, .ref zqa4, .ref zqa5, .ref zqa6, .null, .null, .null, .null, .null, .null, .int 0, .int 0, .int 0])), (zqm, .inr (2, zqmf)), (zqs, .inr (5, zqsf)), (zqa1, .inl (ECA E 0, 384, .inl (fun _ => 0))), (zqa2, .inl (ECA E 0, 24, .inl (fun _ => 0))), (zqa3, .inl (ECA E 0, 384, .inl (fun _ => 0))), (zqa4, .inl (ECA E 0, 24, .inl (fun _ => 0))), (zqa5, .inl (ECA E 0, 384, .inl (fun _ => 0))), (zqa6, .inl (ECA E 0, 384, .inl (fun _ => 0)))]
  refine k_aload C 0 dX1_init_56 rfl ?_
  refine k_sipush C (v := 384) dX1_init_57 (by decide) ?_
  refine k_newI C 384 dX1_init_60 wa_int (by decide) (by decide) (by decide) (by rw [hE]; exact ⟨Nat.le_of_ble_eq_true rfl, Nat.le_of_ble_eq_true rfl⟩) (by rw [hpre]; exact Nat.le_of_ble_eq_true rfl) (fun zqa7 => ?_)
  show KW _ E _ _ _ _ _ [(h0, .inr (1, [.null, .null, .null, .null, .ref zqa1, .ref zqa2, .ref zqa3, .ref zqa4, .ref zqa5, .ref zqa6, .null, .null, .null, .null, .null, .null, .int 0, .int 0, .int 0])), (zqm, .inr (2, zqmf)), (zqs, .inr (5, zqsf)), (zqa1, .inl (ECA E 0, 384, .inl (fun _ => 0))), (zqa2, .inl (ECA E 0, 24, .inl (fun _ => 0))), (zqa3, .inl (ECA E 0, 384, .inl (fun _ => 0))), (zqa4, .inl (ECA E 0, 24, .inl (fun _ => 0))), (zqa5, .inl (ECA E 0, 384, .inl (fun _ => 0))), (zqa6, .inl (ECA E 0, 384, .inl (fun _ => 0))), (zqa7, .inl (ECA E 0, 384, .inl (fun _ => 0)))]
  refine k_putF C 0 ff_X1_30 rfl (show 10 < 19 by decide) dX1_init_62 ?_
  show KW _ E _ _ _ _ _ [(h0, .inr (1, [.null, .null, .null, .null, .ref zqa1, .ref zqa2, .ref zqa3, .ref zqa4, .ref zqa5, .ref zqa6, .ref zqa7, .null, .null, .null, .null, .null, .int 0, .int 0, .int 0])), (zqm, .inr (2, zqmf)), (zqs, .inr (5, zqsf)), (zqa1, .inl (ECA E 0, 384, .inl (fun _ => 0))), (zqa2, .inl (ECA E 0, 24, .inl (fun _ => 0))), (zqa3, .inl (ECA E 0, 384, .inl (fun _ => 0))), (zqa4, .inl (ECA E 0, 24, .inl (fun _ => 0))), (zqa5, .inl (ECA E 0, 384, .inl (fun _ => 0))), (zqa6, .inl (ECA E 0, 384, .inl (fun _ => 0))), (zqa7, .inl (ECA E 0, 384, .inl (fun _ => 0)))]
  refine k_aload C 0 dX1_init_65 rfl ?_
  refine k_sipush C (v := 384) dX1_init_66 (by decide) ?_
  refine k_newI C 384 dX1_init_69 wa_int (by decide) (by decide) (by decide) (by rw [hE]; exact ⟨Nat.le_of_ble_eq_true rfl, Nat.le_of_ble_eq_true rfl⟩) (by rw [hpre]; exact Nat.le_of_ble_eq_true rfl) (fun zqa8 => ?_)
  show KW _ E _ _ _ _ _ [(h0, .inr (1, [.null, .null, .null, .null, .ref zqa1, .ref zqa2, .ref zqa3, .ref zqa4, .ref zqa5, .ref zqa6, .ref zqa7, .null, .null, .null, .null, .null, .int 0, .int 0, .int 0])), (zqm, .inr (2, zqmf)), (zqs, .inr (5, zqsf)), (zqa1, .inl (ECA E 0, 384, .inl (fun _ => 0))), (zqa2, .inl (ECA E 0, 24, .inl (fun _ => 0))), (zqa3, .inl (ECA E 0, 384, .inl (fun _ => 0))), (zqa4, .inl (ECA E 0, 24, .inl (fun _ => 0))), (zqa5, .inl (ECA E 0, 384, .inl (fun _ => 0))), (zqa6, .inl (ECA E 0, 384, .inl (fun _ => 0))), (zqa7, .inl (ECA E 0, 384, .inl (fun _ => 0))), (zqa8, .inl (ECA E 0, 384, .inl (fun _ => 0)))]
  refine k_putF C 0 ff_X1_33 rfl (show 11 < 19 by decide) dX1_init_71 ?_
  show KW _ E _ _ _ _ _ [(h0, .inr (1, [.null, .null, .null, .null, .ref zqa1, .ref zqa2, .ref zqa3, .ref zqa4, .ref zqa5, .ref zqa6, .ref zqa7, .ref zqa8, .null, .null, .null, .null, .int 0, .int 0, .int 0])), (zqm, .inr (2, zqmf)), (zqs, .inr (5, zqsf)), (zqa1, .inl (ECA E 0, 384, .inl (fun _ => 0))), (zqa2, .inl (ECA E 0, 24, .inl (fun _ => 0))), (zqa3, .inl (ECA E 0, 384, .inl (fun _ => 0))), (zqa4, .inl (ECA E 0, 24, .inl (fun _ => 0))), (zqa5, .inl (ECA E 0, 384, .inl (fun _ => 0))), (zqa6, .inl (ECA E 0, 384, .inl (fun _ => 0))), (zqa7, .inl (ECA E 0, 384, .inl (fun _ => 0))), (zqa8, .inl (ECA E 0, 384, .inl (fun _ => 0)))]
  refine k_aload C 0 dX1_init_74 rfl ?_
  refine k_sipush C (v := 384) dX1_init_75 (by decide) ?_
  refine k_newI C 384 dX1_init_78 wa_int (by decide) (by decide) (by decide) (by rw [hE]; exact ⟨Nat.le_of_ble_eq_true rfl, Nat.le_of_ble_eq_true rfl⟩) (by rw [hpre]; exact Nat.le_of_ble_eq_true rfl) (fun zqa9 => ?_)
  show KW _ E _ _ _ _ _ [(h0, .inr (1, [.null, .null, .null, .null, .ref zqa1, .ref zqa2, .ref zqa3, .ref zqa4, .ref zqa5, .ref zqa6, .ref zqa7, .ref zqa8, .null, .null, .null, .null, .int 0, .int 0, .int 0])), (zqm, .inr (2, zqmf)), (zqs, .inr (5, zqsf)), (zqa1, .inl (ECA E 0, 384, .inl (fun _ => 0))), (zqa2, .inl (ECA E 0, 24, .inl (fun _ => 0))), (zqa3, .inl (ECA E 0, 384, .inl (fun _ => 0))), (zqa4, .inl (ECA E 0, 24, .inl (fun _ => 0))), (zqa5, .inl (ECA E 0, 384, .inl (fun _ => 0))), (zqa6, .inl (ECA E 0, 384, .inl (fun _ => 0))), (zqa7, .inl (ECA E 0, 384, .inl (fun _ => 0))), (zqa8, .inl (ECA E 0, 384, .inl (fun _ => 0))), (zqa9, .inl (ECA E 0, 384, .inl (fun _ => 0)))]
  refine k_putF C 0 ff_X1_36 rfl (show 12 < 19 by decide) dX1_init_80 ?_
  show KW _ E _ _ _ _ _ [(h0, .inr (1, [.null, .null, .null, .null, .ref zqa1, .ref zqa2, .ref zqa3, .ref zqa4, .ref zqa5, .ref zqa6, .ref zqa7, .ref zqa8, .ref zqa9, .null, .null, .null, .int 0, .int 0, .int 0])), (zqm, .inr (2, zqmf)), (zqs, .inr (5, zqsf)), (zqa1, .inl (ECA E 0, 384, .inl (fun _ => 0))), (zqa2, .inl (ECA E 0, 24, .inl (fun _ => 0))), (zqa3, .inl (ECA E 0, 384, .inl (fun _ => 0))), (zqa4, .inl (ECA E 0, 24, .inl (fun _ => 0))), (zqa5, .inl (ECA E 0, 384, .inl (fun _ => 0))), (zqa6, .inl (ECA E 0, 384, .inl (fun _ => 0))), (zqa7, .inl (ECA E 0, 384, .inl (fun _ => 0))), (zqa8, .inl (ECA E 0, 384, .inl (fun _ => 0))), (zqa9, .inl (ECA E 0, 384, .inl (fun _ => 0)))]
  refine k_aload C 0 dX1_init_83 rfl ?_
  refine k_bipush C (v := 24) dX1_init_84 (by decide) ?_
  refine k_newI C 24 dX1_init_86 wa_int (by decide) (by decide) (by decide) (by rw [hE]; exact ⟨Nat.le_of_ble_eq_true rfl, Nat.le_of_ble_eq_true rfl⟩) (by rw [hpre]; exact Nat.le_of_ble_eq_true rfl) (fun zqa10 => ?_)
  show KW _ E _ _ _ _ _ [(h0, .inr (1, [.null, .null, .null, .null, .ref zqa1, .ref zqa2, .ref zqa3, .ref zqa4, .ref zqa5, .ref zqa6, .ref zqa7, .ref zqa8, .ref zqa9, .null, .null, .null, .int 0, .int 0, .int 0])), (zqm, .inr (2, zqmf)), (zqs, .inr (5, zqsf)), (zqa1, .inl (ECA E 0, 384, .inl (fun _ => 0))), (zqa2, .inl (ECA E 0, 24, .inl (fun _ => 0))), (zqa3, .inl (ECA E 0, 384, .inl (fun _ => 0))), (zqa4, .inl (ECA E 0, 24, .inl (fun _ => 0))), (zqa5, .inl (ECA E 0, 384, .inl (fun _ => 0))), (zqa6, .inl (ECA E 0, 384, .inl (fun _ => 0))), (zqa7, .inl (ECA E 0, 384, .inl (fun _ => 0))), (zqa8, .inl (ECA E 0, 384, .inl (fun _ => 0))), (zqa9, .inl (ECA E 0, 384, .inl (fun _ => 0))), (zqa10, .inl (ECA E 0, 24, .inl (fun _ => 0)))]
  refine k_putF C 0 ff_X1_39 rfl (show 13 < 19 by decide) dX1_init_88 ?_
  show KW _ E _ _ _ _ _ [(h0, .inr (1, [.null, .null, .null, .null, .ref zqa1, .ref zqa2, .ref zqa3, .ref zqa4, .ref zqa5, .ref zqa6, .ref zqa7, .ref zqa8, .ref zqa9, .ref zqa10, .null, .null, .int 0, .int 0, .int 0])), (zqm, .inr (2, zqmf)), (zqs, .inr (5, zqsf)), (zqa1, .inl (ECA E 0, 384, .inl (fun _ => 0))), (zqa2, .inl (ECA E 0, 24, .inl (fun _ => 0))), (zqa3, .inl (ECA E 0, 384, .inl (fun _ => 0))), (zqa4, .inl (ECA E 0, 24, .inl (fun _ => 0))), (zqa5, .inl (ECA E 0, 384, .inl (fun _ => 0))), (zqa6, .inl (ECA E 0, 384, .inl (fun _ => 0))), (zqa7, .inl (ECA E 0, 384, .inl (fun _ => 0))), (zqa8, .inl (ECA E 0, 384, .inl (fun _ => 0))), (zqa9, .inl (ECA E 0, 384, .inl (fun _ => 0))), (zqa10, .inl (ECA E 0, 24, .inl (fun _ => 0)))]
  refine k_aload C 0 dX1_init_91 rfl ?_
  refine k_bipush C (v := 16) dX1_init_92 (by decide) ?_
  refine k_newI C 16 dX1_init_94 wa_int (by decide) (by decide) (by decide) (by rw [hE]; exact ⟨Nat.le_of_ble_eq_true rfl, Nat.le_of_ble_eq_true rfl⟩) (by rw [hpre]; exact Nat.le_of_ble_eq_true rfl) (fun zqa11 => ?_)
  show KW _ E _ _ _ _ _ [(h0, .inr (1, [.null, .null, .null, .null, .ref zqa1, .ref zqa2, .ref zqa3, .ref zqa4, .ref zqa5, .ref zqa6, .ref zqa7, .ref zqa8, .ref zqa9, .ref zqa10, .null, .null, .int 0, .int 0, .int 0])), (zqm, .inr (2, zqmf)), (zqs, .inr (5, zqsf)), (zqa1, .inl (ECA E 0, 384, .inl (fun _ => 0))), (zqa2, .inl (ECA E 0, 24, .inl (fun _ => 0))), (zqa3, .inl (ECA E 0, 384, .inl (fun _ => 0))), (zqa4, .inl (ECA E 0, 24, .inl (fun _ => 0))), (zqa5, .inl (ECA E 0, 384, .inl (fun _ => 0))), (zqa6, .inl (ECA E 0, 384, .inl (fun _ => 0))), (zqa7, .inl (ECA E 0, 384, .inl (fun _ => 0))), (zqa8, .inl (ECA E 0, 384, .inl (fun _ => 0))), (zqa9, .inl (ECA E 0, 384, .inl (fun _ => 0))), (zqa10, .inl (ECA E 0, 24, .inl (fun _ => 0))), (zqa11, .inl (ECA E 0, 16, .inl (fun _ => 0)))]
  refine k_putF C 0 ff_X1_42 rfl (show 14 < 19 by decide) dX1_init_96 ?_
  show KW _ E _ _ _ _ _ [(h0, .inr (1, [.null, .null, .null, .null, .ref zqa1, .ref zqa2, .ref zqa3, .ref zqa4, .ref zqa5, .ref zqa6, .ref zqa7, .ref zqa8, .ref zqa9, .ref zqa10, .ref zqa11, .null, .int 0, .int 0, .int 0])), (zqm, .inr (2, zqmf)), (zqs, .inr (5, zqsf)), (zqa1, .inl (ECA E 0, 384, .inl (fun _ => 0))), (zqa2, .inl (ECA E 0, 24, .inl (fun _ => 0))), (zqa3, .inl (ECA E 0, 384, .inl (fun _ => 0))), (zqa4, .inl (ECA E 0, 24, .inl (fun _ => 0))), (zqa5, .inl (ECA E 0, 384, .inl (fun _ => 0))), (zqa6, .inl (ECA E 0, 384, .inl (fun _ => 0))), (zqa7, .inl (ECA E 0, 384, .inl (fun _ => 0))), (zqa8, .inl (ECA E 0, 384, .inl (fun _ => 0))), (zqa9, .inl (ECA E 0, 384, .inl (fun _ => 0))), (zqa10, .inl (ECA E 0, 24, .inl (fun _ => 0))), (zqa11, .inl (ECA E 0, 16, .inl (fun _ => 0)))]
  refine k_aload C 0 dX1_init_99 rfl ?_
  refine k_bipush C (v := 24) dX1_init_100 (by decide) ?_
  refine k_newI C 24 dX1_init_102 wa_int (by decide) (by decide) (by decide) (by rw [hE]; exact ⟨Nat.le_of_ble_eq_true rfl, Nat.le_of_ble_eq_true rfl⟩) (by rw [hpre]; exact Nat.le_of_ble_eq_true rfl) (fun zqa12 => ?_)
  show KW _ E _ _ _ _ _ [(h0, .inr (1, [.null, .null, .null, .null, .ref zqa1, .ref zqa2, .ref zqa3, .ref zqa4, .ref zqa5, .ref zqa6, .ref zqa7, .ref zqa8, .ref zqa9, .ref zqa10, .ref zqa11, .null, .int 0, .int 0, .int 0])), (zqm, .inr (2, zqmf)), (zqs, .inr (5, zqsf)), (zqa1, .inl (ECA E 0, 384, .inl (fun _ => 0))), (zqa2, .inl (ECA E 0, 24, .inl (fun _ => 0))), (zqa3, .inl (ECA E 0, 384, .inl (fun _ => 0))), (zqa4, .inl (ECA E 0, 24, .inl (fun _ => 0))), (zqa5, .inl (ECA E 0, 384, .inl (fun _ => 0))), (zqa6, .inl (ECA E 0, 384, .inl (fun _ => 0))), (zqa7, .inl (ECA E 0, 384, .inl (fun _ => 0))), (zqa8, .inl (ECA E 0, 384, .inl (fun _ => 0))), (zqa9, .inl (ECA E 0, 384, .inl (fun _ => 0))), (zqa10, .inl (ECA E 0, 24, .inl (fun _ => 0))), (zqa11, .inl (ECA E 0, 16, .inl (fun _ => 0))), (zqa12, .inl (ECA E 0, 24, .inl (fun _ => 0)))]
  refine k_putF C 0 ff_X1_45 rfl (show 15 < 19 by decide) dX1_init_104 ?_
  show KW _ E _ _ _ _ _ [(h0, .inr (1, [.null, .null, .null, .null, .ref zqa1, .ref zqa2, .ref zqa3, .ref zqa4, .ref zqa5, .ref zqa6, .ref zqa7, .ref zqa8, .ref zqa9, .ref zqa10, .ref zqa11, .ref zqa12, .int 0, .int 0, .int 0])), (zqm, .inr (2, zqmf)), (zqs, .inr (5, zqsf)), (zqa1, .inl (ECA E 0, 384, .inl (fun _ => 0))), (zqa2, .inl (ECA E 0, 24, .inl (fun _ => 0))), (zqa3, .inl (ECA E 0, 384, .inl (fun _ => 0))), (zqa4, .inl (ECA E 0, 24, .inl (fun _ => 0))), (zqa5, .inl (ECA E 0, 384, .inl (fun _ => 0))), (zqa6, .inl (ECA E 0, 384, .inl (fun _ => 0))), (zqa7, .inl (ECA E 0, 384, .inl (fun _ => 0))), (zqa8, .inl (ECA E 0, 384, .inl (fun _ => 0))), (zqa9, .inl (ECA E 0, 384, .inl (fun _ => 0))), (zqa10, .inl (ECA E 0, 24, .inl (fun _ => 0))), (zqa11, .inl (ECA E 0, 16, .inl (fun _ => 0))), (zqa12, .inl (ECA E 0, 24, .inl (fun _ => 0)))]
  refine k_aload C 0 dX1_init_107 rfl ?_
  refine k_iconst C (v := 0) dX1_init_108 (by decide) ?_
  refine k_putI C 0 fp_X1_48 rfl (show 16 < 19 by decide) dX1_init_109 ?_
  show KW _ E _ _ _ _ _ [(h0, .inr (1, [.null, .null, .null, .null, .ref zqa1, .ref zqa2, .ref zqa3, .ref zqa4, .ref zqa5, .ref zqa6, .ref zqa7, .ref zqa8, .ref zqa9, .ref zqa10, .ref zqa11, .ref zqa12, .int 0, .int 0, .int 0])), (zqm, .inr (2, zqmf)), (zqs, .inr (5, zqsf)), (zqa1, .inl (ECA E 0, 384, .inl (fun _ => 0))), (zqa2, .inl (ECA E 0, 24, .inl (fun _ => 0))), (zqa3, .inl (ECA E 0, 384, .inl (fun _ => 0))), (zqa4, .inl (ECA E 0, 24, .inl (fun _ => 0))), (zqa5, .inl (ECA E 0, 384, .inl (fun _ => 0))), (zqa6, .inl (ECA E 0, 384, .inl (fun _ => 0))), (zqa7, .inl (ECA E 0, 384, .inl (fun _ => 0))), (zqa8, .inl (ECA E 0, 384, .inl (fun _ => 0))), (zqa9, .inl (ECA E 0, 384, .inl (fun _ => 0))), (zqa10, .inl (ECA E 0, 24, .inl (fun _ => 0))), (zqa11, .inl (ECA E 0, 16, .inl (fun _ => 0))), (zqa12, .inl (ECA E 0, 24, .inl (fun _ => 0)))]
  refine k_aload C 0 dX1_init_112 rfl ?_
  refine k_iconst C (v := 0) dX1_init_113 (by decide) ?_
  refine k_putZ C 0 fp_X1_52 rfl (show 17 < 19 by decide) dX1_init_114 ?_
  show KW _ E _ _ _ _ _ [(h0, .inr (1, [.null, .null, .null, .null, .ref zqa1, .ref zqa2, .ref zqa3, .ref zqa4, .ref zqa5, .ref zqa6, .ref zqa7, .ref zqa8, .ref zqa9, .ref zqa10, .ref zqa11, .ref zqa12, .int 0, .int 0, .int 0])), (zqm, .inr (2, zqmf)), (zqs, .inr (5, zqsf)), (zqa1, .inl (ECA E 0, 384, .inl (fun _ => 0))), (zqa2, .inl (ECA E 0, 24, .inl (fun _ => 0))), (zqa3, .inl (ECA E 0, 384, .inl (fun _ => 0))), (zqa4, .inl (ECA E 0, 24, .inl (fun _ => 0))), (zqa5, .inl (ECA E 0, 384, .inl (fun _ => 0))), (zqa6, .inl (ECA E 0, 384, .inl (fun _ => 0))), (zqa7, .inl (ECA E 0, 384, .inl (fun _ => 0))), (zqa8, .inl (ECA E 0, 384, .inl (fun _ => 0))), (zqa9, .inl (ECA E 0, 384, .inl (fun _ => 0))), (zqa10, .inl (ECA E 0, 24, .inl (fun _ => 0))), (zqa11, .inl (ECA E 0, 16, .inl (fun _ => 0))), (zqa12, .inl (ECA E 0, 24, .inl (fun _ => 0)))]
  refine k_aload C 0 dX1_init_117 rfl ?_
  refine k_iconst C (v := 0) dX1_init_118 (by decide) ?_
  refine k_putZ C 0 fp_X1_56 rfl (show 18 < 19 by decide) dX1_init_119 ?_
  show KW _ E _ _ _ _ _ [(h0, .inr (1, [.null, .null, .null, .null, .ref zqa1, .ref zqa2, .ref zqa3, .ref zqa4, .ref zqa5, .ref zqa6, .ref zqa7, .ref zqa8, .ref zqa9, .ref zqa10, .ref zqa11, .ref zqa12, .int 0, .int 0, .int 0])), (zqm, .inr (2, zqmf)), (zqs, .inr (5, zqsf)), (zqa1, .inl (ECA E 0, 384, .inl (fun _ => 0))), (zqa2, .inl (ECA E 0, 24, .inl (fun _ => 0))), (zqa3, .inl (ECA E 0, 384, .inl (fun _ => 0))), (zqa4, .inl (ECA E 0, 24, .inl (fun _ => 0))), (zqa5, .inl (ECA E 0, 384, .inl (fun _ => 0))), (zqa6, .inl (ECA E 0, 384, .inl (fun _ => 0))), (zqa7, .inl (ECA E 0, 384, .inl (fun _ => 0))), (zqa8, .inl (ECA E 0, 384, .inl (fun _ => 0))), (zqa9, .inl (ECA E 0, 384, .inl (fun _ => 0))), (zqa10, .inl (ECA E 0, 24, .inl (fun _ => 0))), (zqa11, .inl (ECA E 0, 16, .inl (fun _ => 0))), (zqa12, .inl (ECA E 0, 24, .inl (fun _ => 0)))]
  refine k_aload C 0 dX1_init_122 rfl ?_
  refine k_aload C 1 dX1_init_123 rfl ?_
  refine k_putF C 0 ff_X1_59 rfl (show 0 < 19 by decide) dX1_init_124 ?_
  show KW _ E _ _ _ _ _ [(h0, .inr (1, [.ref zqp, .null, .null, .null, .ref zqa1, .ref zqa2, .ref zqa3, .ref zqa4, .ref zqa5, .ref zqa6, .ref zqa7, .ref zqa8, .ref zqa9, .ref zqa10, .ref zqa11, .ref zqa12, .int 0, .int 0, .int 0])), (zqm, .inr (2, zqmf)), (zqs, .inr (5, zqsf)), (zqa1, .inl (ECA E 0, 384, .inl (fun _ => 0))), (zqa2, .inl (ECA E 0, 24, .inl (fun _ => 0))), (zqa3, .inl (ECA E 0, 384, .inl (fun _ => 0))), (zqa4, .inl (ECA E 0, 24, .inl (fun _ => 0))), (zqa5, .inl (ECA E 0, 384, .inl (fun _ => 0))), (zqa6, .inl (ECA E 0, 384, .inl (fun _ => 0))), (zqa7, .inl (ECA E 0, 384, .inl (fun _ => 0))), (zqa8, .inl (ECA E 0, 384, .inl (fun _ => 0))), (zqa9, .inl (ECA E 0, 384, .inl (fun _ => 0))), (zqa10, .inl (ECA E 0, 24, .inl (fun _ => 0))), (zqa11, .inl (ECA E 0, 16, .inl (fun _ => 0))), (zqa12, .inl (ECA E 0, 24, .inl (fun _ => 0)))]
  refine k_aload C 0 dX1_init_127 rfl ?_
  refine k_aload C 2 dX1_init_128 rfl ?_
  refine k_putF C 0 ff_X1_63 rfl (show 1 < 19 by decide) dX1_init_129 ?_
  show KW _ E _ _ _ _ _ [(h0, .inr (1, [.ref zqp, .ref zqm, .null, .null, .ref zqa1, .ref zqa2, .ref zqa3, .ref zqa4, .ref zqa5, .ref zqa6, .ref zqa7, .ref zqa8, .ref zqa9, .ref zqa10, .ref zqa11, .ref zqa12, .int 0, .int 0, .int 0])), (zqm, .inr (2, zqmf)), (zqs, .inr (5, zqsf)), (zqa1, .inl (ECA E 0, 384, .inl (fun _ => 0))), (zqa2, .inl (ECA E 0, 24, .inl (fun _ => 0))), (zqa3, .inl (ECA E 0, 384, .inl (fun _ => 0))), (zqa4, .inl (ECA E 0, 24, .inl (fun _ => 0))), (zqa5, .inl (ECA E 0, 384, .inl (fun _ => 0))), (zqa6, .inl (ECA E 0, 384, .inl (fun _ => 0))), (zqa7, .inl (ECA E 0, 384, .inl (fun _ => 0))), (zqa8, .inl (ECA E 0, 384, .inl (fun _ => 0))), (zqa9, .inl (ECA E 0, 384, .inl (fun _ => 0))), (zqa10, .inl (ECA E 0, 24, .inl (fun _ => 0))), (zqa11, .inl (ECA E 0, 16, .inl (fun _ => 0))), (zqa12, .inl (ECA E 0, 24, .inl (fun _ => 0)))]
  refine k_aload C 0 dX1_init_132 rfl ?_
  refine k_aload C 2 dX1_init_133 rfl ?_
  refine k_getR C 1 fl_X1_67 rfl h_zqpa dX1_init_134 ?_
  refine k_putF C 0 ff_X1_72 rfl (show 2 < 19 by decide) dX1_init_137 ?_
  show KW _ E _ _ _ _ _ [(h0, .inr (1, [.ref zqp, .ref zqm, .ref zqpa, .null, .ref zqa1, .ref zqa2, .ref zqa3, .ref zqa4, .ref zqa5, .ref zqa6, .ref zqa7, .ref zqa8, .ref zqa9, .ref zqa10, .ref zqa11, .ref zqa12, .int 0, .int 0, .int 0])), (zqm, .inr (2, zqmf)), (zqs, .inr (5, zqsf)), (zqa1, .inl (ECA E 0, 384, .inl (fun _ => 0))), (zqa2, .inl (ECA E 0, 24, .inl (fun _ => 0))), (zqa3, .inl (ECA E 0, 384, .inl (fun _ => 0))), (zqa4, .inl (ECA E 0, 24, .inl (fun _ => 0))), (zqa5, .inl (ECA E 0, 384, .inl (fun _ => 0))), (zqa6, .inl (ECA E 0, 384, .inl (fun _ => 0))), (zqa7, .inl (ECA E 0, 384, .inl (fun _ => 0))), (zqa8, .inl (ECA E 0, 384, .inl (fun _ => 0))), (zqa9, .inl (ECA E 0, 384, .inl (fun _ => 0))), (zqa10, .inl (ECA E 0, 24, .inl (fun _ => 0))), (zqa11, .inl (ECA E 0, 16, .inl (fun _ => 0))), (zqa12, .inl (ECA E 0, 24, .inl (fun _ => 0)))]
  refine k_aload C 0 dX1_init_140 rfl ?_
  refine k_aload C 3 dX1_init_141 rfl ?_
  refine k_getR C 2 fl_X1_73 rfl h_zqwe dX1_init_142 ?_
  refine k_putF C 0 ff_X1_78 rfl (show 3 < 19 by decide) dX1_init_145 ?_
  show KW _ E _ _ _ _ _ [(h0, .inr (1, [.ref zqp, .ref zqm, .ref zqpa, .ref zqwe, .ref zqa1, .ref zqa2, .ref zqa3, .ref zqa4, .ref zqa5, .ref zqa6, .ref zqa7, .ref zqa8, .ref zqa9, .ref zqa10, .ref zqa11, .ref zqa12, .int 0, .int 0, .int 0])), (zqm, .inr (2, zqmf)), (zqs, .inr (5, zqsf)), (zqa1, .inl (ECA E 0, 384, .inl (fun _ => 0))), (zqa2, .inl (ECA E 0, 24, .inl (fun _ => 0))), (zqa3, .inl (ECA E 0, 384, .inl (fun _ => 0))), (zqa4, .inl (ECA E 0, 24, .inl (fun _ => 0))), (zqa5, .inl (ECA E 0, 384, .inl (fun _ => 0))), (zqa6, .inl (ECA E 0, 384, .inl (fun _ => 0))), (zqa7, .inl (ECA E 0, 384, .inl (fun _ => 0))), (zqa8, .inl (ECA E 0, 384, .inl (fun _ => 0))), (zqa9, .inl (ECA E 0, 384, .inl (fun _ => 0))), (zqa10, .inl (ECA E 0, 24, .inl (fun _ => 0))), (zqa11, .inl (ECA E 0, 16, .inl (fun _ => 0))), (zqa12, .inl (ECA E 0, 24, .inl (fun _ => 0)))]
  exact k_ret C hR [] ⟨zqa1, zqa2, zqa3, zqa4, zqa5, zqa6, zqa7, zqa8, zqa9, zqa10, zqa11, zqa12, rfl⟩ ⟨Nat.le_of_ble_eq_true rfl, Nat.le_of_ble_eq_true rfl⟩ dX1_init_148

set_option maxRecDepth 20000 in
set_option maxHeartbeats 4000000 in
theorem kX4 (h0 zqp zqm zqc : Nat) (zqcf : List Value) (zqch : Nat) (h_zqch : zqcf[15]? = some (.ref zqch)) : Kon yX4_init cX4_init 4 1 12 4 56 [.ref h0, .ref zqp, .ref zqm, .ref zqc] [(h0, .inr (4, [.null, .null, .null, .null, .null, .null, .null, .int 0, .int 0, .int 0, .int 0, .int 0, .int 0, .int 0, .int 0])), (zqc, .inr (1, zqcf))] (fun cA _ w => ∃ zqa1 zqa2 zqa3 zqa4 : Nat, w = [(h0, .inr (4, [.ref zqp, .ref zqm, .ref zqch, .ref zqa1, .ref zqa2, .ref zqa3, .ref zqa4, .int 0, .int 0, .int 0, .int 0, .int 0, .int 0, .int 0, .int 0])), (zqc, .inr (1, zqcf)), (zqa1, .inl (cA 0, 12, .inl (fun _ => 0))), (zqa2, .inl (cA 0, 4, .inl (fun _ => 0))), (zqa3, .inl (cA 0, 16, .inl (fun _ => 0))), (zqa4, .inl (cA 0, 24, .inl (fun _ => 0)))]) := by
  refine Kon.of RX4 (by decide +kernel) rfl rfl (Nat.le_of_ble_eq_true rfl) ?_
  intro E C hE hpre hR
  show KW 4 E 0 0 0 [(0, .ref h0), (1, .ref zqp), (2, .ref zqm), (3, .ref zqc)] [] [(h0, .inr (4, [.null, .null, .null, .null, .null, .null, .null, .int 0, .int 0, .int 0, .int 0, .int 0, .int 0, .int 0, .int 0])), (zqc, .inr (1, zqcf))]
  refine k_aload C 0 dX4_init_0 rfl ?_
  refine k_obj C dX4_init_1 wo_X4 (by rw [hE]; exact ⟨Nat.le_of_ble_eq_true rfl, Nat.le_of_ble_eq_true rfl⟩) ?_
  refine k_aload C 0 dX4_init_4 rfl ?_
  refine k_bipush C (v := 12) dX4_init_5 (by decide) ?_
  refine k_newI C 12 dX4_init_7 wa_int (by decide) (by decide) (by decide) (by rw [hE]; exact ⟨Nat.le_of_ble_eq_true rfl, Nat.le_of_ble_eq_true rfl⟩) (by rw [hpre]; exact Nat.le_of_ble_eq_true rfl) (fun zqa1 => ?_)
  show KW _ E _ _ _ _ _ [(h0, .inr (4, [.null, .null, .null, .null, .null, .null, .null, .int 0, .int 0, .int 0, .int 0, .int 0, .int 0, .int 0, .int 0])), (zqc, .inr (1, zqcf)), (zqa1, .inl (ECA E 0, 12, .inl (fun _ => 0)))]
  refine k_putF C 0 ff_X4_9 rfl (show 3 < 15 by decide) dX4_init_9 ?_
  show KW _ E _ _ _ _ _ [(h0, .inr (4, [.null, .null, .null, .ref zqa1, .null, .null, .null, .int 0, .int 0, .int 0, .int 0, .int 0, .int 0, .int 0, .int 0])), (zqc, .inr (1, zqcf)), (zqa1, .inl (ECA E 0, 12, .inl (fun _ => 0)))]
  refine k_aload C 0 dX4_init_12 rfl ?_
  refine k_iconst C (v := 4) dX4_init_13 (by decide) ?_
  refine k_newI C 4 dX4_init_14 wa_int (by decide) (by decide) (by decide) (by rw [hE]; exact ⟨Nat.le_of_ble_eq_true rfl, Nat.le_of_ble_eq_true rfl⟩) (by rw [hpre]; exact Nat.le_of_ble_eq_true rfl) (fun zqa2 => ?_)
  show KW _ E _ _ _ _ _ [(h0, .inr (4, [.null, .null, .null, .ref zqa1, .null, .null, .null, .int 0, .int 0, .int 0, .int 0, .int 0, .int 0, .int 0, .int 0])), (zqc, .inr (1, zqcf)), (zqa1, .inl (ECA E 0, 12, .inl (fun _ => 0))), (zqa2, .inl (ECA E 0, 4, .inl (fun _ => 0)))]
  refine k_putF C 0 ff_X4_15 rfl (show 4 < 15 by decide) dX4_init_16 ?_
  show KW _ E _ _ _ _ _ [(h0, .inr (4, [.null, .null, .null, .ref zqa1, .ref zqa2, .null, .null, .int 0, .int 0, .int 0, .int 0, .int 0, .int 0, .int 0, .int 0])), (zqc, .inr (1, zqcf)), (zqa1, .inl (ECA E 0, 12, .inl (fun _ => 0))), (zqa2, .inl (ECA E 0, 4, .inl (fun _ => 0)))]
  refine k_aload C 0 dX4_init_19 rfl ?_
  refine k_bipush C (v := 16) dX4_init_20 (by decide) ?_
  refine k_newI C 16 dX4_init_22 wa_int (by decide) (by decide) (by decide) (by rw [hE]; exact ⟨Nat.le_of_ble_eq_true rfl, Nat.le_of_ble_eq_true rfl⟩) (by rw [hpre]; exact Nat.le_of_ble_eq_true rfl) (fun zqa3 => ?_)
  show KW _ E _ _ _ _ _ [(h0, .inr (4, [.null, .null, .null, .ref zqa1, .ref zqa2, .null, .null, .int 0, .int 0, .int 0, .int 0, .int 0, .int 0, .int 0, .int 0])), (zqc, .inr (1, zqcf)), (zqa1, .inl (ECA E 0, 12, .inl (fun _ => 0))), (zqa2, .inl (ECA E 0, 4, .inl (fun _ => 0))), (zqa3, .inl (ECA E 0, 16, .inl (fun _ => 0)))]
  refine k_putF C 0 ff_X4_18 rfl (show 5 < 15 by decide) dX4_init_24 ?_
  show KW _ E _ _ _ _ _ [(h0, .inr (4, [.null, .null, .null, .ref zqa1, .ref zqa2, .ref zqa3, .null, .int 0, .int 0, .int 0, .int 0, .int 0, .int 0, .int 0, .int 0])), (zqc, .inr (1, zqcf)), (zqa1, .inl (ECA E 0, 12, .inl (fun _ => 0))), (zqa2, .inl (ECA E 0, 4, .inl (fun _ => 0))), (zqa3, .inl (ECA E 0, 16, .inl (fun _ => 0)))]
  refine k_aload C 0 dX4_init_27 rfl ?_
  refine k_bipush C (v := 24) dX4_init_28 (by decide) ?_
  refine k_newI C 24 dX4_init_30 wa_int (by decide) (by decide) (by decide) (by rw [hE]; exact ⟨Nat.le_of_ble_eq_true rfl, Nat.le_of_ble_eq_true rfl⟩) (by rw [hpre]; exact Nat.le_of_ble_eq_true rfl) (fun zqa4 => ?_)
  show KW _ E _ _ _ _ _ [(h0, .inr (4, [.null, .null, .null, .ref zqa1, .ref zqa2, .ref zqa3, .null, .int 0, .int 0, .int 0, .int 0, .int 0, .int 0, .int 0, .int 0])), (zqc, .inr (1, zqcf)), (zqa1, .inl (ECA E 0, 12, .inl (fun _ => 0))), (zqa2, .inl (ECA E 0, 4, .inl (fun _ => 0))), (zqa3, .inl (ECA E 0, 16, .inl (fun _ => 0))), (zqa4, .inl (ECA E 0, 24, .inl (fun _ => 0)))]
  refine k_putF C 0 ff_X4_21 rfl (show 6 < 15 by decide) dX4_init_32 ?_
  show KW _ E _ _ _ _ _ [(h0, .inr (4, [.null, .null, .null, .ref zqa1, .ref zqa2, .ref zqa3, .ref zqa4, .int 0, .int 0, .int 0, .int 0, .int 0, .int 0, .int 0, .int 0])), (zqc, .inr (1, zqcf)), (zqa1, .inl (ECA E 0, 12, .inl (fun _ => 0))), (zqa2, .inl (ECA E 0, 4, .inl (fun _ => 0))), (zqa3, .inl (ECA E 0, 16, .inl (fun _ => 0))), (zqa4, .inl (ECA E 0, 24, .inl (fun _ => 0)))]
  refine k_aload C 0 dX4_init_35 rfl ?_
  refine k_iconst C (v := 0) dX4_init_36 (by decide) ?_
  refine k_putZ C 0 fp_X4_24 rfl (show 7 < 15 by decide) dX4_init_37 ?_
  show KW _ E _ _ _ _ _ [(h0, .inr (4, [.null, .null, .null, .ref zqa1, .ref zqa2, .ref zqa3, .ref zqa4, .int 0, .int 0, .int 0, .int 0, .int 0, .int 0, .int 0, .int 0])), (zqc, .inr (1, zqcf)), (zqa1, .inl (ECA E 0, 12, .inl (fun _ => 0))), (zqa2, .inl (ECA E 0, 4, .inl (fun _ => 0))), (zqa3, .inl (ECA E 0, 16, .inl (fun _ => 0))), (zqa4, .inl (ECA E 0, 24, .inl (fun _ => 0)))]
  refine k_aload C 0 dX4_init_40 rfl ?_
  refine k_iconst C (v := 0) dX4_init_41 (by decide) ?_
  refine k_putZ C 0 fp_X4_28 rfl (show 8 < 15 by decide) dX4_init_42 ?_
  show KW _ E _ _ _ _ _ [(h0, .inr (4, [.null, .null, .null, .ref zqa1, .ref zqa2, .ref zqa3, .ref zqa4, .int 0, .int 0, .int 0, .int 0, .int 0, .int 0, .int 0, .int 0])), (zqc, .inr (1, zqcf)), (zqa1, .inl (ECA E 0, 12, .inl (fun _ => 0))), (zqa2, .inl (ECA E 0, 4, .inl (fun _ => 0))), (zqa3, .inl (ECA E 0, 16, .inl (fun _ => 0))), (zqa4, .inl (ECA E 0, 24, .inl (fun _ => 0)))]
  refine k_aload C 0 dX4_init_45 rfl ?_
  refine k_iconst C (v := 0) dX4_init_46 (by decide) ?_
  refine k_putI C 0 fp_X4_31 rfl (show 9 < 15 by decide) dX4_init_47 ?_
  show KW _ E _ _ _ _ _ [(h0, .inr (4, [.null, .null, .null, .ref zqa1, .ref zqa2, .ref zqa3, .ref zqa4, .int 0, .int 0, .int 0, .int 0, .int 0, .int 0, .int 0, .int 0])), (zqc, .inr (1, zqcf)), (zqa1, .inl (ECA E 0, 12, .inl (fun _ => 0))), (zqa2, .inl (ECA E 0, 4, .inl (fun _ => 0))), (zqa3, .inl (ECA E 0, 16, .inl (fun _ => 0))), (zqa4, .inl (ECA E 0, 24, .inl (fun _ => 0)))]
  refine k_aload C 0 dX4_init_50 rfl ?_
  refine k_iconst C (v := 0) dX4_init_51 (by decide) ?_
  refine k_putI C 0 fp_X4_35 rfl (show 10 < 15 by decide) dX4_init_52 ?_
  show KW _ E _ _ _ _ _ [(h0, .inr (4, [.null, .null, .null, .ref zqa1, .ref zqa2, .ref zqa3, .ref zqa4, .int 0, .int 0, .int 0, .int 0, .int 0, .int 0, .int 0, .int 0])), (zqc, .inr (1, zqcf)), (zqa1, .inl (ECA E 0, 12, .inl (fun _ => 0))), (zqa2, .inl (ECA E 0, 4, .inl (fun _ => 0))), (zqa3, .inl (ECA E 0, 16, .inl (fun _ => 0))), (zqa4, .inl (ECA E 0, 24, .inl (fun _ => 0)))]
  refine k_aload C 0 dX4_init_55 rfl ?_
  refine k_iconst C (v := 0) dX4_init_56 (by decide) ?_
  refine k_putI C 0 fp_X4_38 rfl (show 11 < 15 by decide) dX4_init_57 ?_
  show KW _ E _ _ _ _ _ [(h0, .inr (4, [.null, .null, .null, .ref zqa1, .ref zqa2, .ref zqa3, .ref zqa4, .int 0, .int 0, .int 0, .int 0, .int 0, .int 0, .int 0, .int 0])), (zqc, .inr (1, zqcf)), (zqa1, .inl (ECA E 0, 12, .inl (fun _ => 0))), (zqa2, .inl (ECA E 0, 4, .inl (fun _ => 0))), (zqa3, .inl (ECA E 0, 16, .inl (fun _ => 0))), (zqa4, .inl (ECA E 0, 24, .inl (fun _ => 0)))]
  refine k_aload C 0 dX4_init_60 rfl ?_
  refine k_iconst C (v := 0) dX4_init_61 (by decide) ?_
  refine k_putI C 0 fp_X4_41 rfl (show 12 < 15 by decide) dX4_init_62 ?_
  show KW _ E _ _ _ _ _ [(h0, .inr (4, [.null, .null, .null, .ref zqa1, .ref zqa2, .ref zqa3, .ref zqa4, .int 0, .int 0, .int 0, .int 0, .int 0, .int 0, .int 0, .int 0])), (zqc, .inr (1, zqcf)), (zqa1, .inl (ECA E 0, 12, .inl (fun _ => 0))), (zqa2, .inl (ECA E 0, 4, .inl (fun _ => 0))), (zqa3, .inl (ECA E 0, 16, .inl (fun _ => 0))), (zqa4, .inl (ECA E 0, 24, .inl (fun _ => 0)))]
  refine k_aload C 0 dX4_init_65 rfl ?_
  refine k_iconst C (v := 0) dX4_init_66 (by decide) ?_
  refine k_putI C 0 fp_X4_44 rfl (show 13 < 15 by decide) dX4_init_67 ?_
  show KW _ E _ _ _ _ _ [(h0, .inr (4, [.null, .null, .null, .ref zqa1, .ref zqa2, .ref zqa3, .ref zqa4, .int 0, .int 0, .int 0, .int 0, .int 0, .int 0, .int 0, .int 0])), (zqc, .inr (1, zqcf)), (zqa1, .inl (ECA E 0, 12, .inl (fun _ => 0))), (zqa2, .inl (ECA E 0, 4, .inl (fun _ => 0))), (zqa3, .inl (ECA E 0, 16, .inl (fun _ => 0))), (zqa4, .inl (ECA E 0, 24, .inl (fun _ => 0)))]
  refine k_aload C 0 dX4_init_70 rfl ?_
  refine k_iconst C (v := 0) dX4_init_71 (by decide) ?_
  refine k_putI C 0 fp_X4_47 rfl (show 14 < 15 by decide) dX4_init_72 ?_
  show KW _ E _ _ _ _ _ [(h0, .inr (4, [.null, .null, .null, .ref zqa1, .ref zqa2, .ref zqa3, .ref zqa4, .int 0, .int 0, .int 0, .int 0, .int 0, .int 0, .int 0, .int 0])), (zqc, .inr (1, zqcf)), (zqa1, .inl (ECA E 0, 12, .inl (fun _ => 0))), (zqa2, .inl (ECA E 0, 4, .inl (fun _ => 0))), (zqa3, .inl (ECA E 0, 16, .inl (fun _ => 0))), (zqa4, .inl (ECA E 0, 24, .inl (fun _ => 0)))]
  refine k_aload C 0 dX4_init_75 rfl ?_
  refine k_aload C 1 dX4_init_76 rfl ?_
  refine k_putF C 0 ff_X4_50 rfl (show 0 < 15 by decide) dX4_init_77 ?_
  show KW _ E _ _ _ _ _ [(h0, .inr (4, [.ref zqp, .null, .null, .ref zqa1, .ref zqa2, .ref zqa3, .ref zqa4, .int 0, .int 0, .int 0, .int 0, .int 0, .int 0, .int 0, .int 0])), (zqc, .inr (1, zqcf)), (zqa1, .inl (ECA E 0, 12, .inl (fun _ => 0))), (zqa2, .inl (ECA E 0, 4, .inl (fun _ => 0))), (zqa3, .inl (ECA E 0, 16, .inl (fun _ => 0))), (zqa4, .inl (ECA E 0, 24, .inl (fun _ => 0)))]
  refine k_aload C 0 dX4_init_80 rfl ?_
  refine k_aload C 2 dX4_init_81 rfl ?_
  refine k_putF C 0 ff_X4_54 rfl (show 1 < 15 by decide) dX4_init_82 ?_
  show KW _ E _ _ _ _ _ [(h0, .inr (4, [.ref zqp, .ref zqm, .null, .ref zqa1, .ref zqa2, .ref zqa3, .ref zqa4, .int 0, .int 0, .int 0, .int 0, .int 0, .int 0, .int 0, .int 0])), (zqc, .inr (1, zqcf)), (zqa1, .inl (ECA E 0, 12, .inl (fun _ => 0))), (zqa2, .inl (ECA E 0, 4, .inl (fun _ => 0))), (zqa3, .inl (ECA E 0, 16, .inl (fun _ => 0))), (zqa4, .inl (ECA E 0, 24, .inl (fun _ => 0)))]
  refine k_aload C 0 dX4_init_85 rfl ?_
  refine k_aload C 3 dX4_init_86 rfl ?_
  refine k_getR C 1 fl_X4_58 rfl h_zqch dX4_init_87 ?_
  refine k_putF C 0 ff_X4_63 rfl (show 2 < 15 by decide) dX4_init_90 ?_
  show KW _ E _ _ _ _ _ [(h0, .inr (4, [.ref zqp, .ref zqm, .ref zqch, .ref zqa1, .ref zqa2, .ref zqa3, .ref zqa4, .int 0, .int 0, .int 0, .int 0, .int 0, .int 0, .int 0, .int 0])), (zqc, .inr (1, zqcf)), (zqa1, .inl (ECA E 0, 12, .inl (fun _ => 0))), (zqa2, .inl (ECA E 0, 4, .inl (fun _ => 0))), (zqa3, .inl (ECA E 0, 16, .inl (fun _ => 0))), (zqa4, .inl (ECA E 0, 24, .inl (fun _ => 0)))]
  exact k_ret C hR [] ⟨zqa1, zqa2, zqa3, zqa4, rfl⟩ ⟨Nat.le_of_ble_eq_true rfl, Nat.le_of_ble_eq_true rfl⟩ dX4_init_93

