set_option maxRecDepth 20000 in
set_option maxHeartbeats 4000000 in
theorem cSt_registers (x1 : Int) : Snd shX yX7_registers cX7_registers 3 (some .int) 6 144 [.inr 0, .inl x1] (fSt_registers x1) := by
  refine Snd.of RX7 (by decide +kernel) rfl (Nat.le_of_ble_eq_true rfl) ?_
  intro E M R hf C X
  show AW shX 3 E 0 [some (.inr 0), some (.inl x1), none] [] M
  refine a_iloadn C dX7_registers_0 rfl ?_
  refine a_iconst C dX7_registers_1 (inr_b rfl) ?_
  obtain ⟨hfa, hfb⟩ := hf
  refine a_icmp_lt C 10 dX7_registers_2 rfl (fun hc => ?_) (fun hc => ?_)
  · have hf := hfa hc
    refine a_iconst C dX7_registers_10 (inr_b rfl) ?_
    exact a_iret C X dX7_registers_11 hf
  · have hf := hfb hc
    refine a_iloadn C dX7_registers_5 rfl ?_
    refine a_iconst C dX7_registers_6 (inr_b rfl) ?_
    obtain ⟨hfa, hfb⟩ := hf
    refine a_icmp_le C 12 dX7_registers_7 rfl (fun hc => ?_) (fun hc => ?_)
    · have hf := hfa hc
      refine a_aloadn C dX7_registers_12 rfl ?_
      refine a_getR C 5 fl_X7_26 rfl rfl dX7_registers_13 ?_
      refine a_getI C (kz := 0) fl_X7_145 rfl rfl rfl dX7_registers_16 ?_
      refine a_istoren C dX7_registers_19 (by decide) (lv2 := [some (.inr 0), some (.inl x1), some (.inl (M 5 0))]) rfl ?_
      refine a_iloadn C dX7_registers_20 rfl ?_
      refine a_iloadn C dX7_registers_21 rfl ?_
      obtain ⟨hfa, hfb⟩ := hf
      refine a_icmp_ne C 28 dX7_registers_22 rfl (fun hc => ?_) (fun hc => ?_)
      · have hf := hfa hc
        refine a_aloadn C dX7_registers_28 rfl ?_
        refine a_getR C 5 fl_X7_26 rfl rfl dX7_registers_29 ?_
        refine a_callV C [] [] dX7_registers_32 (cSe_remember) mv_X5_remember ln_X7_148 rfl rfl ⟨rfl, rfl, Nat.le_of_ble_eq_true rfl, Nat.le_of_ble_eq_true rfl, Nat.le_of_ble_eq_true rfl⟩ hf (fun r1 M1 hf => ?_)
        refine a_aloadn C dX7_registers_35 rfl ?_
        refine a_getR C 5 fl_X7_26 rfl rfl dX7_registers_36 ?_
        refine a_iloadn C dX7_registers_39 rfl ?_
        refine a_putI C (kz := 0) fp_X7_145 rfl rfl rfl dX7_registers_40 ?_
        refine a_aloadn C dX7_registers_43 rfl ?_
        refine a_callV C [] [] dX7_registers_44 (cSt_refresh) mv_X7_refresh ln_X7_92 rfl rfl ⟨rfl, rfl, Nat.le_of_ble_eq_true rfl, Nat.le_of_ble_eq_true rfl, Nat.le_of_ble_eq_true rfl⟩ hf (fun r2 M2 hf => ?_)
        refine a_iloadn C dX7_registers_47 rfl ?_
        exact a_iret C X dX7_registers_48 hf
      · have hf := hfb hc
        refine a_bipush C dX7_registers_25 bp_m2 ?_
        exact a_iret C X dX7_registers_27 hf
    · have hf := hfb hc
      refine a_iconst C dX7_registers_10 (inr_b rfl) ?_
      exact a_iret C X dX7_registers_11 hf
set_option maxRecDepth 20000 in
set_option maxHeartbeats 4000000 in
theorem sSt_isCost_14 {E : EE} {R : Int → Mem → Prop} (C : Cx shX 1 cX7_isCost RX7 0 0 E) (X : Rx shX (some .boolean) R E) (M : Mem) (hf : fSt_isCost_14  R M) : AW shX 1 E 14 [none] [] M := by
  refine a_iconst C dX7_isCost_14 (inr_b rfl) ?_
  exact a_bret C X (Or.inl rfl) dX7_isCost_15 hf
set_option maxRecDepth 20000 in
set_option maxHeartbeats 4000000 in
theorem cSt_isCost (x0 : Int) : Snd shX yX7_isCost cX7_isCost 1 (some .boolean) 0 0 [.inl x0] (fSt_isCost x0) := by
  refine Snd.of RX7 (by decide +kernel) rfl (Nat.le_of_ble_eq_true rfl) ?_
  intro E M R hf C X
  show AW shX 1 E 0 [some (.inl x0)] [] M
  refine a_iloadn C dX7_isCost_0 rfl ?_
  obtain ⟨hfa, hfb⟩ := hf
  refine a_if_lt C 14 dX7_isCost_1 rfl (fun hc => ?_) (fun hc => ?_)
  · have hf := hfa hc
    refine a_drop [false] (lv2 := [none]) rfl ?_
    exact sSt_isCost_14 C X   _ hf
  · have hf := hfb hc
    refine a_iloadn C dX7_isCost_4 rfl ?_
    refine a_bipush C dX7_isCost_5 bp_9 ?_
    obtain ⟨hfa, hfb⟩ := hf
    refine a_icmp_gt C 14 dX7_isCost_7 rfl (fun hc => ?_) (fun hc => ?_)
    · have hf := hfa hc
      refine a_drop [false] (lv2 := [none]) rfl ?_
      exact sSt_isCost_14 C X   _ hf
    · have hf := hfb hc
      refine a_iconst C dX7_isCost_10 (inr_b rfl) ?_
      refine a_goto C 15 dX7_isCost_11 rfl ?_
      exact a_bret C X (Or.inr rfl) dX7_isCost_15 hf
set_option maxRecDepth 20000 in
set_option maxHeartbeats 4000000 in
theorem sSt_costs_59 {E : EE} {R : Int → Mem → Prop} (C : Cx shX 5 cX7_costs RX7 6 144 E) (X : Rx shX (some .int) R E) (x1 : Int) (x2 : Int) (x3 : Int) (M : Mem) (hf : fSt_costs_59  R x1 x2 x3 M) : AW shX 5 E 59 [some (.inr 0), some (.inl x1), some (.inl x2), some (.inl x3), none] [] M := by
  have hf : fSe_remember M (fun r4 M4 => fSt_refresh (mu (mu (mu M4 5 1 x1) 5 2 x2) 5 3 x3) (fun r5 M5 => R (wrap ((wrap ((wrap (100 * (M 5 1))) + (wrap (10 * (M 5 2))))) + (M 5 3))) M5)) := hf
  refine a_bipush C dX7_costs_59 bp_100 ?_
  refine a_aloadn C dX7_costs_61 rfl ?_
  refine a_getR C 5 fl_X7_26 rfl rfl dX7_costs_62 ?_
  refine a_getI C (kz := 1) fl_X7_154 rfl rfl rfl dX7_costs_65 ?_
  refine a_imul C dX7_costs_68 ?_
  refine a_bipush C dX7_costs_69 bp_10 ?_
  refine a_aloadn C dX7_costs_71 rfl ?_
  refine a_getR C 5 fl_X7_26 rfl rfl dX7_costs_72 ?_
  refine a_getI C (kz := 2) fl_X7_157 rfl rfl rfl dX7_costs_75 ?_
  refine a_imul C dX7_costs_78 ?_
  refine a_iadd C dX7_costs_79 ?_
  refine a_aloadn C dX7_costs_80 rfl ?_
  refine a_getR C 5 fl_X7_26 rfl rfl dX7_costs_81 ?_
  refine a_getI C (kz := 3) fl_X7_160 rfl rfl rfl dX7_costs_84 ?_
  refine a_iadd C dX7_costs_87 ?_
  refine a_istore C dX7_costs_88 (by decide) (lv2 := [some (.inr 0), some (.inl x1), some (.inl x2), some (.inl x3), some (.inl (wrap ((wrap ((wrap (100 * (M 5 1))) + (wrap (10 * (M 5 2))))) + (M 5 3))))]) rfl ?_
  refine a_aloadn C dX7_costs_90 rfl ?_
  refine a_getR C 5 fl_X7_26 rfl rfl dX7_costs_91 ?_
  refine a_callV C [] [] dX7_costs_94 (cSe_remember) mv_X5_remember ln_X7_148 rfl rfl ⟨rfl, rfl, Nat.le_of_ble_eq_true rfl, Nat.le_of_ble_eq_true rfl, Nat.le_of_ble_eq_true rfl⟩ hf (fun r4 M4 hf => ?_)
  refine a_aloadn C dX7_costs_97 rfl ?_
  refine a_getR C 5 fl_X7_26 rfl rfl dX7_costs_98 ?_
  refine a_iloadn C dX7_costs_101 rfl ?_
  refine a_putI C (kz := 1) fp_X7_154 rfl rfl rfl dX7_costs_102 ?_
  refine a_aloadn C dX7_costs_105 rfl ?_
  refine a_getR C 5 fl_X7_26 rfl rfl dX7_costs_106 ?_
  refine a_iloadn C dX7_costs_109 rfl ?_
  refine a_putI C (kz := 2) fp_X7_157 rfl rfl rfl dX7_costs_110 ?_
  refine a_aloadn C dX7_costs_113 rfl ?_
  refine a_getR C 5 fl_X7_26 rfl rfl dX7_costs_114 ?_
  refine a_iloadn C dX7_costs_117 rfl ?_
  refine a_putI C (kz := 3) fp_X7_160 rfl rfl rfl dX7_costs_118 ?_
  refine a_aloadn C dX7_costs_121 rfl ?_
  refine a_callV C [] [] dX7_costs_122 (cSt_refresh) mv_X7_refresh ln_X7_92 rfl rfl ⟨rfl, rfl, Nat.le_of_ble_eq_true rfl, Nat.le_of_ble_eq_true rfl, Nat.le_of_ble_eq_true rfl⟩ hf (fun r5 M5 hf => ?_)
  refine a_iload C dX7_costs_125 rfl ?_
  exact a_iret C X dX7_costs_127 hf
set_option maxRecDepth 20000 in
set_option maxHeartbeats 4000000 in
theorem cSt_costs (x1 x2 x3 : Int) : Snd shX yX7_costs cX7_costs 5 (some .int) 6 144 [.inr 0, .inl x1, .inl x2, .inl x3] (fSt_costs x1 x2 x3) := by
  refine Snd.of RX7 (by decide +kernel) rfl (Nat.le_of_ble_eq_true rfl) ?_
  intro E M R hf C X
  show AW shX 5 E 0 [some (.inr 0), some (.inl x1), some (.inl x2), some (.inl x3), none] [] M
  refine a_iloadn C dX7_costs_0 rfl ?_
  refine a_callS C [.inl x1] [] dX7_costs_1 (cSt_isCost _) ms_X7_isCost ln_X7_151 ⟨rfl, rfl, Nat.le_of_ble_eq_true rfl, Nat.le_of_ble_eq_true rfl, Nat.le_of_ble_eq_true rfl⟩ hf (fun r1 M1 hf => ?_)
  obtain ⟨hfa, hfb⟩ := hf
  refine a_if_eq C 21 dX7_costs_4 rfl (fun hc => ?_) (fun hc => ?_)
  · have hf := hfa hc
    refine a_iconst C dX7_costs_21 (inr_b rfl) ?_
    exact a_iret C X dX7_costs_22 hf
  · have hf := hfb hc
    refine a_iloadn C dX7_costs_7 rfl ?_
    refine a_callS C [.inl x2] [] dX7_costs_8 (cSt_isCost _) ms_X7_isCost ln_X7_151 ⟨rfl, rfl, Nat.le_of_ble_eq_true rfl, Nat.le_of_ble_eq_true rfl, Nat.le_of_ble_eq_true rfl⟩ hf (fun r2 M2 hf => ?_)
    obtain ⟨hfa, hfb⟩ := hf
    refine a_if_eq C 21 dX7_costs_11 rfl (fun hc => ?_) (fun hc => ?_)
    · have hf := hfa hc
      refine a_iconst C dX7_costs_21 (inr_b rfl) ?_
      exact a_iret C X dX7_costs_22 hf
    · have hf := hfb hc
      refine a_iloadn C dX7_costs_14 rfl ?_
      refine a_callS C [.inl x3] [] dX7_costs_15 (cSt_isCost _) ms_X7_isCost ln_X7_151 ⟨rfl, rfl, Nat.le_of_ble_eq_true rfl, Nat.le_of_ble_eq_true rfl, Nat.le_of_ble_eq_true rfl⟩ hf (fun r3 M3 hf => ?_)
      obtain ⟨hfa, hfb⟩ := hf
      refine a_if_ne C 23 dX7_costs_18 rfl (fun hc => ?_) (fun hc => ?_)
      · have hf := hfa hc
        refine a_aloadn C dX7_costs_23 rfl ?_
        refine a_getR C 5 fl_X7_26 rfl rfl dX7_costs_24 ?_
        refine a_getI C (kz := 1) fl_X7_154 rfl rfl rfl dX7_costs_27 ?_
        refine a_iloadn C dX7_costs_30 rfl ?_
        obtain ⟨hfa, hfb⟩ := hf
        refine a_icmp_ne C 59 dX7_costs_31 rfl (fun hc => ?_) (fun hc => ?_)
        · have hf := hfa hc
          exact sSt_costs_59 C X  _ _ _ _ hf
        · have hf := hfb hc
          refine a_aloadn C dX7_costs_34 rfl ?_
          refine a_getR C 5 fl_X7_26 rfl rfl dX7_costs_35 ?_
          refine a_getI C (kz := 2) fl_X7_157 rfl rfl rfl dX7_costs_38 ?_
          refine a_iloadn C dX7_costs_41 rfl ?_
          obtain ⟨hfa, hfb⟩ := hf
          refine a_icmp_ne C 59 dX7_costs_42 rfl (fun hc => ?_) (fun hc => ?_)
          · have hf := hfa hc
            exact sSt_costs_59 C X  _ _ _ _ hf
          · have hf := hfb hc
            refine a_aloadn C dX7_costs_45 rfl ?_
            refine a_getR C 5 fl_X7_26 rfl rfl dX7_costs_46 ?_
            refine a_getI C (kz := 3) fl_X7_160 rfl rfl rfl dX7_costs_49 ?_
            refine a_iloadn C dX7_costs_52 rfl ?_
            obtain ⟨hfa, hfb⟩ := hf
            refine a_icmp_ne C 59 dX7_costs_53 rfl (fun hc => ?_) (fun hc => ?_)
            · have hf := hfa hc
              exact sSt_costs_59 C X  _ _ _ _ hf
            · have hf := hfb hc
              refine a_bipush C dX7_costs_56 bp_m2 ?_
              exact a_iret C X dX7_costs_58 hf
      · have hf := hfb hc
        refine a_iconst C dX7_costs_21 (inr_b rfl) ?_
        exact a_iret C X dX7_costs_22 hf
set_option maxRecDepth 20000 in
set_option maxHeartbeats 4000000 in
theorem cSt_weigh (x1 x2 : Int) : Snd shX yX7_weigh cX7_weigh 4 (some .int) 6 144 [.inr 0, .inl x1, .inl x2] (fSt_weigh x1 x2) := by
  refine Snd.of RX7 (by decide +kernel) rfl (Nat.le_of_ble_eq_true rfl) ?_
  intro E M R hf C X
  show AW shX 4 E 0 [some (.inr 0), some (.inl x1), some (.inl x2), none] [] M
  refine a_aloadn C dX7_weigh_0 rfl ?_
  refine a_iloadn C dX7_weigh_1 rfl ?_
  refine a_callV C [.inl x1] [] dX7_weigh_2 (cSt_isInstruction _) mv_X7_isInstruction ln_X7_117 rfl rfl ⟨rfl, rfl, Nat.le_of_ble_eq_true rfl, Nat.le_of_ble_eq_true rfl, Nat.le_of_ble_eq_true rfl⟩ hf (fun r1 M1 hf => ?_)
  obtain ⟨hfa, hfb⟩ := hf
  refine a_if_eq C 20 dX7_weigh_5 rfl (fun hc => ?_) (fun hc => ?_)
  · have hf := hfa hc
    refine a_iconst C dX7_weigh_20 (inr_b rfl) ?_
    exact a_iret C X dX7_weigh_21 hf
  · have hf := hfb hc
    refine a_iloadn C dX7_weigh_8 rfl ?_
    refine a_iconst C dX7_weigh_9 (inr_b rfl) ?_
    obtain ⟨hfa, hfb⟩ := hf
    refine a_icmp_lt C 20 dX7_weigh_10 rfl (fun hc => ?_) (fun hc => ?_)
    · have hf := hfa hc
      refine a_iconst C dX7_weigh_20 (inr_b rfl) ?_
      exact a_iret C X dX7_weigh_21 hf
    · have hf := hfb hc
      refine a_iloadn C dX7_weigh_13 rfl ?_
      refine a_sipush C dX7_weigh_14 sp_999 ?_
      obtain ⟨hfa, hfb⟩ := hf
      refine a_icmp_le C 22 dX7_weigh_17 rfl (fun hc => ?_) (fun hc => ?_)
      · have hf := hfa hc
        refine a_aloadn C dX7_weigh_22 rfl ?_
        refine a_getR C 5 fl_X7_26 rfl rfl dX7_weigh_23 ?_
        refine a_getR C 6 fl_X7_142 rfl rfl dX7_weigh_26 ?_
        refine a_iloadn C dX7_weigh_29 rfl ?_
        obtain ⟨hg, hf⟩ := hf
        refine a_iald C (n := 24) rfl hg dX7_weigh_30 ?_
        refine a_istoren C dX7_weigh_31 (by decide) (lv2 := [some (.inr 0), some (.inl x1), some (.inl x2), some (.inl (M1 6 x1))]) rfl ?_
        refine a_iloadn C dX7_weigh_32 rfl ?_
        refine a_iloadn C dX7_weigh_33 rfl ?_
        obtain ⟨hfa, hfb⟩ := hf
        refine a_icmp_ne C 40 dX7_weigh_34 rfl (fun hc => ?_) (fun hc => ?_)
        · have hf := hfa hc
          refine a_aloadn C dX7_weigh_40 rfl ?_
          refine a_getR C 5 fl_X7_26 rfl rfl dX7_weigh_41 ?_
          refine a_callV C [] [] dX7_weigh_44 (cSe_remember) mv_X5_remember ln_X7_148 rfl rfl ⟨rfl, rfl, Nat.le_of_ble_eq_true rfl, Nat.le_of_ble_eq_true rfl, Nat.le_of_ble_eq_true rfl⟩ hf (fun r2 M2 hf => ?_)
          refine a_aloadn C dX7_weigh_47 rfl ?_
          refine a_getR C 5 fl_X7_26 rfl rfl dX7_weigh_48 ?_
          refine a_getR C 6 fl_X7_142 rfl rfl dX7_weigh_51 ?_
          refine a_iloadn C dX7_weigh_54 rfl ?_
          refine a_iloadn C dX7_weigh_55 rfl ?_
          obtain ⟨hg, hf⟩ := hf
          refine a_iast C (n := 24) rfl hg dX7_weigh_56 ?_
          refine a_aloadn C dX7_weigh_57 rfl ?_
          refine a_callV C [] [] dX7_weigh_58 (cSt_refresh) mv_X7_refresh ln_X7_92 rfl rfl ⟨rfl, rfl, Nat.le_of_ble_eq_true rfl, Nat.le_of_ble_eq_true rfl, Nat.le_of_ble_eq_true rfl⟩ hf (fun r3 M3 hf => ?_)
          refine a_iloadn C dX7_weigh_61 rfl ?_
          exact a_iret C X dX7_weigh_62 hf
        · have hf := hfb hc
          refine a_bipush C dX7_weigh_37 bp_m2 ?_
          exact a_iret C X dX7_weigh_39 hf
      · have hf := hfb hc
        refine a_iconst C dX7_weigh_20 (inr_b rfl) ?_
        exact a_iret C X dX7_weigh_21 hf
set_option maxRecDepth 20000 in
set_option maxHeartbeats 4000000 in
theorem cRu_weightOf (x1 : Int) : Snd shX yX4_weightOf cX4_weightOf 2 (some .int) 1 21 [.inr 40, .inl x1] (fRu_weightOf x1) := by
  refine Snd.of RX4 (by decide +kernel) rfl (Nat.le_of_ble_eq_true rfl) ?_
  intro E M R hf C X
  show AW shX 2 E 0 [some (.inr 40), some (.inl x1)] [] M
  refine a_aloadn C dX4_weightOf_0 rfl ?_
  refine a_getR C 44 fl_X4_21 rfl rfl dX4_weightOf_1 ?_
  refine a_iloadn C dX4_weightOf_4 rfl ?_
  obtain ⟨hg, hf⟩ := hf
  refine a_iald C (n := 24) rfl hg dX4_weightOf_5 ?_
  refine a_iconst C dX4_weightOf_6 (inr_b rfl) ?_
  refine a_iadd C dX4_weightOf_7 ?_
  refine a_sipush C dX4_weightOf_8 sp_999 ?_
  refine a_callS C [.inl (wrap ((M 44 x1) + 1)), .inl 999] [] dX4_weightOf_11 (cMath_min _ _) ms_J9_min_7cf53 ln_X4_111 ⟨rfl, rfl, Nat.le_of_ble_eq_true rfl, Nat.le_of_ble_eq_true rfl, Nat.le_of_ble_eq_true rfl⟩ hf (fun r1 M1 hf => ?_)
  exact a_iret C X dX4_weightOf_14 hf
set_option maxRecDepth 20000 in
set_option maxHeartbeats 4000000 in
theorem sSt_profile_73 {E : EE} {R : Int → Mem → Prop} (C : Cx shX 3 cX7_profile RX7 6 144 E) (X : Rx shX (some .int) R E) : ∀ (n : Nat) (x1 : Int) (x2 : Int) (M : Mem), fSt_profile_73  R n x1 x2 M → AW shX 3 E 73 [some (.inr 0), some (.inl x1), some (.inl x2)] [] M := by
  intro n
  induction n with
  | zero => intro x1 x2 M hf; exact hf.elim
  | succ n hk73 =>
    intro x1 x2 M hf
    refine a_iloadn C dX7_profile_73 rfl ?_
    refine a_aloadn C dX7_profile_74 rfl ?_
    refine a_getR C 13 fl_X7_40 rfl rfl dX7_profile_75 ?_
    refine a_getI C (kz := 6) fl_X7_98 rfl rfl rfl dX7_profile_78 ?_
    obtain ⟨hfa, hfb⟩ := hf
    refine a_icmp_ge C 107 dX7_profile_81 rfl (fun hc => ?_) (fun hc => ?_)
    · have hf := hfa hc
      refine a_aloadn C dX7_profile_107 rfl ?_
      refine a_callV C [] [] dX7_profile_108 (cSt_refresh) mv_X7_refresh ln_X7_92 rfl rfl ⟨rfl, rfl, Nat.le_of_ble_eq_true rfl, Nat.le_of_ble_eq_true rfl, Nat.le_of_ble_eq_true rfl⟩ hf (fun r2 M2 hf => ?_)
      refine a_iloadn C dX7_profile_111 rfl ?_
      exact a_iret C X dX7_profile_112 hf
    · have hf := hfb hc
      refine a_aloadn C dX7_profile_84 rfl ?_
      refine a_getR C 5 fl_X7_26 rfl rfl dX7_profile_85 ?_
      refine a_getR C 6 fl_X7_142 rfl rfl dX7_profile_88 ?_
      refine a_iloadn C dX7_profile_91 rfl ?_
      refine a_aloadn C dX7_profile_92 rfl ?_
      refine a_getR C 40 fl_X7_61 rfl rfl dX7_profile_93 ?_
      refine a_iloadn C dX7_profile_96 rfl ?_
      refine a_callV C [.inl x2] [.inl x2, .inr 6] dX7_profile_97 (cRu_weightOf _) mv_X4_weightOf ln_X7_167 rfl rfl ⟨rfl, rfl, Nat.le_of_ble_eq_true rfl, Nat.le_of_ble_eq_true rfl, Nat.le_of_ble_eq_true rfl⟩ hf (fun r3 M3 hf => ?_)
      obtain ⟨hg, hf⟩ := hf
      refine a_iast C (n := 24) rfl hg dX7_profile_100 ?_
      refine a_iinc C dX7_profile_101 rfl (by decide) (lv2 := [some (.inr 0), some (.inl x1), some (.inl (wrap (x2 + 1)))]) rfl ?_
      refine a_goto C 73 dX7_profile_104 rfl ?_
      exact hk73 _ _ _ hf
set_option maxRecDepth 20000 in
set_option maxHeartbeats 4000000 in
theorem sSt_profile_51 {E : EE} {R : Int → Mem → Prop} (C : Cx shX 3 cX7_profile RX7 6 144 E) (X : Rx shX (some .int) R E) {k17 : Int → Int → Mem → Prop} (hk17 : ∀ (x1 : Int) (x2 : Int) (M : Mem), k17 x1 x2 M → AW shX 3 E 17 [some (.inr 0), some (.inl x1), some (.inl x2)] [] M) (x1 : Int) (x2 : Int) (M : Mem) (hf : fSt_profile_51 k17 R x1 x2 M) : AW shX 3 E 51 [some (.inr 0), some (.inl x1), some (.inl x2)] [] M := by
  refine a_iinc C dX7_profile_51 rfl (by decide) (lv2 := [some (.inr 0), some (.inl x1), some (.inl (wrap (x2 + 1)))]) rfl ?_
  refine a_goto C 17 dX7_profile_54 rfl ?_
  exact hk17 _ _ _ hf
set_option maxRecDepth 20000 in
set_option maxHeartbeats 4000000 in
theorem sSt_profile_17 {E : EE} {R : Int → Mem → Prop} (C : Cx shX 3 cX7_profile RX7 6 144 E) (X : Rx shX (some .int) R E) : ∀ (n : Nat) (x1 : Int) (x2 : Int) (M : Mem), fSt_profile_17  R n x1 x2 M → AW shX 3 E 17 [some (.inr 0), some (.inl x1), some (.inl x2)] [] M := by
  intro n
  induction n with
  | zero => intro x1 x2 M hf; exact hf.elim
  | succ n hk17 =>
    intro x1 x2 M hf
    refine a_iloadn C dX7_profile_17 rfl ?_
    refine a_aloadn C dX7_profile_18 rfl ?_
    refine a_getR C 13 fl_X7_40 rfl rfl dX7_profile_19 ?_
    refine a_getI C (kz := 6) fl_X7_98 rfl rfl rfl dX7_profile_22 ?_
    obtain ⟨hfa, hfb⟩ := hf
    refine a_icmp_ge C 57 dX7_profile_25 rfl (fun hc => ?_) (fun hc => ?_)
    · have hf := hfa hc
      refine a_iloadn C dX7_profile_57 rfl ?_
      obtain ⟨hfa, hfb⟩ := hf
      refine a_if_ne C 64 dX7_profile_58 rfl (fun hc => ?_) (fun hc => ?_)
      · have hf := hfa hc
        refine a_aloadn C dX7_profile_64 rfl ?_
        refine a_getR C 5 fl_X7_26 rfl rfl dX7_profile_65 ?_
        refine a_callV C [] [] dX7_profile_68 (cSe_remember) mv_X5_remember ln_X7_148 rfl rfl ⟨rfl, rfl, Nat.le_of_ble_eq_true rfl, Nat.le_of_ble_eq_true rfl, Nat.le_of_ble_eq_true rfl⟩ hf (fun r1 M1 hf => ?_)
        refine a_iconst C dX7_profile_71 (inr_b rfl) ?_
        refine a_istoren C dX7_profile_72 (by decide) (lv2 := [some (.inr 0), some (.inl x1), some (.inl 0)]) rfl ?_
        obtain ⟨n4, hf⟩ := hf
        exact sSt_profile_73 C X  n4 _ _ _ hf
      · have hf := hfb hc
        refine a_bipush C dX7_profile_61 bp_m2 ?_
        exact a_iret C X dX7_profile_63 hf
    · have hf := hfb hc
      refine a_aloadn C dX7_profile_28 rfl ?_
      refine a_getR C 5 fl_X7_26 rfl rfl dX7_profile_29 ?_
      refine a_getR C 6 fl_X7_142 rfl rfl dX7_profile_32 ?_
      refine a_iloadn C dX7_profile_35 rfl ?_
      obtain ⟨hg, hf⟩ := hf
      refine a_iald C (n := 24) rfl hg dX7_profile_36 ?_
      refine a_aloadn C dX7_profile_37 rfl ?_
      refine a_getR C 40 fl_X7_61 rfl rfl dX7_profile_38 ?_
      refine a_iloadn C dX7_profile_41 rfl ?_
      refine a_callV C [.inl x2] [.inl (M 6 x2)] dX7_profile_42 (cRu_weightOf _) mv_X4_weightOf ln_X7_167 rfl rfl ⟨rfl, rfl, Nat.le_of_ble_eq_true rfl, Nat.le_of_ble_eq_true rfl, Nat.le_of_ble_eq_true rfl⟩ hf (fun r5 M5 hf => ?_)
      obtain ⟨hfa, hfb⟩ := hf
      refine a_icmp_eq C 51 dX7_profile_45 rfl (fun hc => ?_) (fun hc => ?_)
      · have hf := hfa hc
        exact sSt_profile_51 C X hk17 _ _ _ hf
      · have hf := hfb hc
        refine a_iinc C dX7_profile_48 rfl (by decide) (lv2 := [some (.inr 0), some (.inl (wrap (x1 + 1))), some (.inl x2)]) rfl ?_
        exact sSt_profile_51 C X hk17 _ _ _ hf
set_option maxRecDepth 20000 in
set_option maxHeartbeats 4000000 in
theorem cSt_profile : Snd shX yX7_profile cX7_profile 3 (some .int) 6 144 [.inr 0] fSt_profile := by
  refine Snd.of RX7 (by decide +kernel) rfl (Nat.le_of_ble_eq_true rfl) ?_
  intro E M R hf C X
  show AW shX 3 E 0 [some (.inr 0), none, none] [] M
  refine a_aloadn C dX7_profile_0 rfl ?_
  refine a_getR C 40 fl_X7_61 rfl rfl dX7_profile_1 ?_
  refine a_getI C (kz := 7) fl_X7_163 rfl rfl rfl dX7_profile_4 ?_
  obtain ⟨hfa, hfb⟩ := hf
  refine a_if_ne C 13 dX7_profile_7 rfl (fun hc => ?_) (fun hc => ?_)
  · have hf := hfa hc
    refine a_iconst C dX7_profile_13 (inr_b rfl) ?_
    refine a_istoren C dX7_profile_14 (by decide) (lv2 := [some (.inr 0), some (.inl 0), none]) rfl ?_
    refine a_iconst C dX7_profile_15 (inr_b rfl) ?_
    refine a_istoren C dX7_profile_16 (by decide) (lv2 := [some (.inr 0), some (.inl 0), some (.inl 0)]) rfl ?_
    obtain ⟨n6, hf⟩ := hf
    exact sSt_profile_17 C X  n6 _ _ _ hf
  · have hf := hfb hc
    refine a_bipush C dX7_profile_10 bp_m2 ?_
    exact a_iret C X dX7_profile_12 hf
set_option maxRecDepth 20000 in
set_option maxHeartbeats 4000000 in
theorem sSe_recall_18 {E : EE} {R : Int → Mem → Prop} (C : Cx shX 2 cX5_recall RX5 1 24 E) (X : Rx shX none R E) (t0 : Int) (M : Mem) (hf : fSe_recall_18  R t0 M) : AW shX 2 E 18 [some (.inr 5), none] [.inl t0, .inr 5] M := by
  refine a_putI C (kz := 7) fp_X5_34 rfl rfl rfl dX5_recall_18 ?_
  refine a_aloadn C dX5_recall_21 rfl ?_
  refine a_dup C dX5_recall_22 ?_
  refine a_getI C (kz := 5) fl_X5_28 rfl rfl rfl dX5_recall_23 ?_
  refine a_iconst C dX5_recall_26 (inr_b rfl) ?_
  refine a_isub C dX5_recall_27 ?_
  refine a_putI C (kz := 5) fp_X5_28 rfl rfl rfl dX5_recall_28 ?_
  refine a_aloadn C dX5_recall_31 rfl ?_
  refine a_getI C (kz := 7) fl_X5_34 rfl rfl rfl dX5_recall_32 ?_
  refine a_bipush C dX5_recall_35 bp_28 ?_
  refine a_imul C dX5_recall_37 ?_
  refine a_istoren C dX5_recall_38 (by decide) (lv2 := [some (.inr 5), some (.inl (wrap (t0 * 28)))]) rfl ?_
  refine a_aloadn C dX5_recall_39 rfl ?_
  refine a_aloadn C dX5_recall_40 rfl ?_
  refine a_getR C 7 fl_X5_31 rfl rfl dX5_recall_41 ?_
  refine a_iloadn C dX5_recall_44 rfl ?_
  obtain ⟨hg, hf⟩ := hf
  refine a_iald C (n := 168) rfl hg dX5_recall_45 ?_
  refine a_putI C (kz := 0) fp_X5_9 rfl rfl rfl dX5_recall_46 ?_
  refine a_aloadn C dX5_recall_49 rfl ?_
  refine a_aloadn C dX5_recall_50 rfl ?_
  refine a_getR C 7 fl_X5_31 rfl rfl dX5_recall_51 ?_
  refine a_iloadn C dX5_recall_54 rfl ?_
  refine a_iconst C dX5_recall_55 (inr_b rfl) ?_
  refine a_iadd C dX5_recall_56 ?_
  obtain ⟨hg, hf⟩ := hf
  refine a_iald C (n := 168) rfl hg dX5_recall_57 ?_
  refine a_putI C (kz := 1) fp_X5_15 rfl rfl rfl dX5_recall_58 ?_
  refine a_aloadn C dX5_recall_61 rfl ?_
  refine a_aloadn C dX5_recall_62 rfl ?_
  refine a_getR C 7 fl_X5_31 rfl rfl dX5_recall_63 ?_
  refine a_iloadn C dX5_recall_66 rfl ?_
  refine a_iconst C dX5_recall_67 (inr_b rfl) ?_
  refine a_iadd C dX5_recall_68 ?_
  obtain ⟨hg, hf⟩ := hf
  refine a_iald C (n := 168) rfl hg dX5_recall_69 ?_
  refine a_putI C (kz := 2) fp_X5_18 rfl rfl rfl dX5_recall_70 ?_
  refine a_aloadn C dX5_recall_73 rfl ?_
  refine a_aloadn C dX5_recall_74 rfl ?_
  refine a_getR C 7 fl_X5_31 rfl rfl dX5_recall_75 ?_
  refine a_iloadn C dX5_recall_78 rfl ?_
  refine a_iconst C dX5_recall_79 (inr_b rfl) ?_
  refine a_iadd C dX5_recall_80 ?_
  obtain ⟨hg, hf⟩ := hf
  refine a_iald C (n := 168) rfl hg dX5_recall_81 ?_
  refine a_putI C (kz := 3) fp_X5_21 rfl rfl rfl dX5_recall_82 ?_
  refine a_aloadn C dX5_recall_85 rfl ?_
  refine a_getR C 7 fl_X5_31 rfl rfl dX5_recall_86 ?_
  refine a_iloadn C dX5_recall_89 rfl ?_
  refine a_iconst C dX5_recall_90 (inr_b rfl) ?_
  refine a_iadd C dX5_recall_91 ?_
  refine a_aloadn C dX5_recall_92 rfl ?_
  refine a_getR C 6 fl_X5_24 rfl rfl dX5_recall_93 ?_
  refine a_iconst C dX5_recall_96 (inr_b rfl) ?_
  refine a_bipush C dX5_recall_97 bp_24 ?_
  obtain ⟨hg, hf⟩ := hf
  refine a_copy C (n0 := 168) (n1 := 24) dX5_recall_99 ln_X5_43 w_copy rfl rfl hg ⟨Nat.le_of_ble_eq_true rfl, Nat.le_of_ble_eq_true rfl, Nat.le_of_ble_eq_true rfl⟩ ?_
  exact a_vret C X dX5_recall_102 hf
set_option maxRecDepth 20000 in
set_option maxHeartbeats 4000000 in
theorem cSe_recall : Snd shX yX5_recall cX5_recall 2 none 1 24 [.inr 5] fSe_recall := by
  refine Snd.of RX5 (by decide +kernel) rfl (Nat.le_of_ble_eq_true rfl) ?_
  intro E M R hf C X
  show AW shX 2 E 0 [some (.inr 5), none] [] M
  refine a_aloadn C dX5_recall_0 rfl ?_
  refine a_aloadn C dX5_recall_1 rfl ?_
  refine a_getI C (kz := 7) fl_X5_34 rfl rfl rfl dX5_recall_2 ?_
  obtain ⟨hfa, hfb⟩ := hf
  refine a_if_le C 17 dX5_recall_5 rfl (fun hc => ?_) (fun hc => ?_)
  · have hf := hfa hc
    refine a_iconst C dX5_recall_17 (inr_b rfl) ?_
    exact sSe_recall_18 C X  _ _ hf
  · have hf := hfb hc
    refine a_aloadn C dX5_recall_8 rfl ?_
    refine a_getI C (kz := 7) fl_X5_34 rfl rfl rfl dX5_recall_9 ?_
    refine a_iconst C dX5_recall_12 (inr_b rfl) ?_
    refine a_isub C dX5_recall_13 ?_
    refine a_goto C 18 dX5_recall_14 rfl ?_
    exact sSe_recall_18 C X  _ _ hf
set_option maxRecDepth 20000 in
set_option maxHeartbeats 4000000 in
theorem cSt_undo : Snd shX yX7_undo cX7_undo 1 (some .int) 6 144 [.inr 0] fSt_undo := by
  refine Snd.of RX7 (by decide +kernel) rfl (Nat.le_of_ble_eq_true rfl) ?_
  intro E M R hf C X
  show AW shX 1 E 0 [some (.inr 0)] [] M
  refine a_aloadn C dX7_undo_0 rfl ?_
  refine a_getR C 5 fl_X7_26 rfl rfl dX7_undo_1 ?_
  refine a_getI C (kz := 5) fl_X7_171 rfl rfl rfl dX7_undo_4 ?_
  obtain ⟨hfa, hfb⟩ := hf
  refine a_if_ne C 13 dX7_undo_7 rfl (fun hc => ?_) (fun hc => ?_)
  · have hf := hfa hc
    refine a_aloadn C dX7_undo_13 rfl ?_
    refine a_getR C 5 fl_X7_26 rfl rfl dX7_undo_14 ?_
    refine a_callV C [] [] dX7_undo_17 (cSe_recall) mv_X5_recall ln_X7_174 rfl rfl ⟨rfl, rfl, Nat.le_of_ble_eq_true rfl, Nat.le_of_ble_eq_true rfl, Nat.le_of_ble_eq_true rfl⟩ hf (fun r1 M1 hf => ?_)
    refine a_aloadn C dX7_undo_20 rfl ?_
    refine a_callV C [] [] dX7_undo_21 (cSt_refresh) mv_X7_refresh ln_X7_92 rfl rfl ⟨rfl, rfl, Nat.le_of_ble_eq_true rfl, Nat.le_of_ble_eq_true rfl, Nat.le_of_ble_eq_true rfl⟩ hf (fun r2 M2 hf => ?_)
    refine a_aloadn C dX7_undo_24 rfl ?_
    refine a_getR C 5 fl_X7_26 rfl rfl dX7_undo_25 ?_
    refine a_getI C (kz := 5) fl_X7_171 rfl rfl rfl dX7_undo_28 ?_
    exact a_iret C X dX7_undo_31 hf
  · have hf := hfb hc
    refine a_bipush C dX7_undo_10 bp_m2 ?_
    exact a_iret C X dX7_undo_12 hf
set_option maxRecDepth 20000 in
set_option maxHeartbeats 4000000 in
theorem cSt_states : Snd shX yX7_states cX7_states 1 (some .int) 0 0 [.inr 0] fSt_states := by
  refine Snd.of RX7 (by decide +kernel) rfl (Nat.le_of_ble_eq_true rfl) ?_
  intro E M R hf C X
  show AW shX 1 E 0 [some (.inr 0)] [] M
  refine a_aloadn C dX7_states_0 rfl ?_
  refine a_getR C 8 fl_X7_33 rfl rfl dX7_states_1 ?_
  refine a_getI C (kz := 4) fl_X7_177 rfl rfl rfl dX7_states_4 ?_
  exact a_iret C X dX7_states_7 hf
set_option maxRecDepth 20000 in
set_option maxHeartbeats 4000000 in
theorem sSt_isState_19 {E : EE} {R : Int → Mem → Prop} (C : Cx shX 2 cX7_isState RX7 0 0 E) (X : Rx shX (some .boolean) R E) (M : Mem) (hf : fSt_isState_19  R M) : AW shX 2 E 19 [none, none] [] M := by
  refine a_iconst C dX7_isState_19 (inr_b rfl) ?_
  exact a_bret C X (Or.inl rfl) dX7_isState_20 hf
set_option maxRecDepth 20000 in
set_option maxHeartbeats 4000000 in
theorem cSt_isState (x1 : Int) : Snd shX yX7_isState cX7_isState 2 (some .boolean) 0 0 [.inr 0, .inl x1] (fSt_isState x1) := by
  refine Snd.of RX7 (by decide +kernel) rfl (Nat.le_of_ble_eq_true rfl) ?_
  intro E M R hf C X
  show AW shX 2 E 0 [some (.inr 0), some (.inl x1)] [] M
  refine a_iloadn C dX7_isState_0 rfl ?_
  obtain ⟨hfa, hfb⟩ := hf
  refine a_if_lt C 19 dX7_isState_1 rfl (fun hc => ?_) (fun hc => ?_)
  · have hf := hfa hc
    refine a_drop [false, false] (lv2 := [none, none]) rfl ?_
    exact sSt_isState_19 C X   _ hf
  · have hf := hfb hc
    refine a_iloadn C dX7_isState_4 rfl ?_
    refine a_aloadn C dX7_isState_5 rfl ?_
    refine a_getR C 8 fl_X7_33 rfl rfl dX7_isState_6 ?_
    refine a_getI C (kz := 4) fl_X7_177 rfl rfl rfl dX7_isState_9 ?_
    obtain ⟨hfa, hfb⟩ := hf
    refine a_icmp_ge C 19 dX7_isState_12 rfl (fun hc => ?_) (fun hc => ?_)
    · have hf := hfa hc
      refine a_drop [false, false] (lv2 := [none, none]) rfl ?_
      exact sSt_isState_19 C X   _ hf
    · have hf := hfb hc
      refine a_iconst C dX7_isState_15 (inr_b rfl) ?_
      refine a_goto C 20 dX7_isState_16 rfl ?_
      exact a_bret C X (Or.inr rfl) dX7_isState_20 hf
set_option maxRecDepth 20000 in
set_option maxHeartbeats 4000000 in
theorem cMa_lengthOf (x1 : Int) : Snd shX yX2_lengthOf cX2_lengthOf 2 (some .int) 0 0 [.inr 8, .inl x1] (fMa_lengthOf x1) := by
  refine Snd.of RX2 (by decide +kernel) rfl (Nat.le_of_ble_eq_true rfl) ?_
  intro E M R hf C X
  show AW shX 2 E 0 [some (.inr 8), some (.inl x1)] [] M
  refine a_aloadn C dX2_lengthOf_0 rfl ?_
  refine a_getR C 10 fl_X2_31 rfl rfl dX2_lengthOf_1 ?_
  refine a_iloadn C dX2_lengthOf_4 rfl ?_
  obtain ⟨hg, hf⟩ := hf
  refine a_iald C (n := 16) rfl hg dX2_lengthOf_5 ?_
  exact a_iret C X dX2_lengthOf_6 hf
set_option maxRecDepth 20000 in
set_option maxHeartbeats 4000000 in
theorem cSt_state (x1 x2 : Int) : Snd shX yX7_state cX7_state 4 (some .int) 1 22 [.inr 0, .inl x1, .inl x2] (fSt_state x1 x2) := by
  refine Snd.of RX7 (by decide +kernel) rfl (Nat.le_of_ble_eq_true rfl) ?_
  intro E M R hf C X
  show AW shX 4 E 0 [some (.inr 0), some (.inl x1), some (.inl x2), none] [] M
  refine a_aloadn C dX7_state_0 rfl ?_
  refine a_iloadn C dX7_state_1 rfl ?_
  refine a_callV C [.inl x1] [] dX7_state_2 (cSt_isState _) mv_X7_isState ln_X7_178 rfl rfl ⟨rfl, rfl, Nat.le_of_ble_eq_true rfl, Nat.le_of_ble_eq_true rfl, Nat.le_of_ble_eq_true rfl⟩ hf (fun r1 M1 hf => ?_)
  obtain ⟨hfa, hfb⟩ := hf
  refine a_if_eq C 13 dX7_state_5 rfl (fun hc => ?_) (fun hc => ?_)
  · have hf := hfa hc
    refine a_iconst C dX7_state_13 (inr_b rfl) ?_
    exact a_iret C X dX7_state_14 hf
  · have hf := hfb hc
    refine a_iloadn C dX7_state_8 rfl ?_
    refine a_iconst C dX7_state_9 (inr_b rfl) ?_
    obtain ⟨hfa, hfb⟩ := hf
    refine a_icmp_ge C 15 dX7_state_10 rfl (fun hc => ?_) (fun hc => ?_)
    · have hf := hfa hc
      refine a_aloadn C dX7_state_15 rfl ?_
      refine a_getR C 8 fl_X7_33 rfl rfl dX7_state_16 ?_
      refine a_iloadn C dX7_state_19 rfl ?_
      refine a_callV C [.inl x1] [] dX7_state_20 (cMa_lengthOf _) mv_X2_lengthOf ln_X7_181 rfl rfl ⟨rfl, rfl, Nat.le_of_ble_eq_true rfl, Nat.le_of_ble_eq_true rfl, Nat.le_of_ble_eq_true rfl⟩ hf (fun r2 M2 hf => ?_)
      refine a_istoren C dX7_state_23 (by decide) (lv2 := [some (.inr 0), some (.inl x1), some (.inl x2), some (.inl r2)]) rfl ?_
      refine a_iloadn C dX7_state_24 rfl ?_
      refine a_iconst C dX7_state_25 (inr_b rfl) ?_
      obtain ⟨hfa, hfb⟩ := hf
      refine a_icmp_ne C 31 dX7_state_26 rfl (fun hc => ?_) (fun hc => ?_)
      · have hf := hfa hc
        refine a_iloadn C dX7_state_31 rfl ?_
        refine a_iloadn C dX7_state_32 rfl ?_
        obtain ⟨hfa, hfb⟩ := hf
        refine a_icmp_ge C 48 dX7_state_33 rfl (fun hc => ?_) (fun hc => ?_)
        · have hf := hfa hc
          refine a_bipush C dX7_state_48 bp_m4 ?_
          exact a_iret C X dX7_state_50 hf
        · have hf := hfb hc
          refine a_aloadn C dX7_state_36 rfl ?_
          refine a_getR C 8 fl_X7_33 rfl rfl dX7_state_37 ?_
          refine a_iloadn C dX7_state_40 rfl ?_
          refine a_iloadn C dX7_state_41 rfl ?_
          refine a_callV C [.inl x1, .inl x2] [] dX7_state_42 (cMa_registerOf _ _) mv_X2_registerOf ln_X7_184 rfl rfl ⟨rfl, rfl, Nat.le_of_ble_eq_true rfl, Nat.le_of_ble_eq_true rfl, Nat.le_of_ble_eq_true rfl⟩ hf (fun r3 M3 hf => ?_)
          refine a_goto C 50 dX7_state_45 rfl ?_
          exact a_iret C X dX7_state_50 hf
      · have hf := hfb hc
        refine a_iloadn C dX7_state_29 rfl ?_
        exact a_iret C X dX7_state_30 hf
    · have hf := hfb hc
      refine a_iconst C dX7_state_13 (inr_b rfl) ?_
      exact a_iret C X dX7_state_14 hf
set_option maxRecDepth 20000 in
set_option maxHeartbeats 4000000 in
theorem cMa_passageCost (x1 x2 : Int) : Snd shX yX2_passageCost cX2_passageCost 3 (some .int) 0 0 [.inr 8, .inl x1, .inl x2] (fMa_passageCost x1 x2) := by
  refine Snd.of RX2 (by decide +kernel) rfl (Nat.le_of_ble_eq_true rfl) ?_
  intro E M R hf C X
  show AW shX 3 E 0 [some (.inr 8), some (.inl x1), some (.inl x2)] [] M
  refine a_aloadn C dX2_passageCost_0 rfl ?_
  refine a_getR C 12 fl_X2_37 rfl rfl dX2_passageCost_1 ?_
  refine a_iloadn C dX2_passageCost_4 rfl ?_
  refine a_bipush C dX2_passageCost_5 bp_16 ?_
  refine a_imul C dX2_passageCost_7 ?_
  refine a_iloadn C dX2_passageCost_8 rfl ?_
  refine a_iadd C dX2_passageCost_9 ?_
  obtain ⟨hg, hf⟩ := hf
  refine a_iald C (n := 256) rfl hg dX2_passageCost_10 ?_
  exact a_iret C X dX2_passageCost_11 hf
set_option maxRecDepth 20000 in
set_option maxHeartbeats 4000000 in
theorem cSt_passage (x1 x2 : Int) : Snd shX yX7_passage cX7_passage 3 (some .int) 1 22 [.inr 0, .inl x1, .inl x2] (fSt_passage x1 x2) := by
  refine Snd.of RX7 (by decide +kernel) rfl (Nat.le_of_ble_eq_true rfl) ?_
  intro E M R hf C X
  show AW shX 3 E 0 [some (.inr 0), some (.inl x1), some (.inl x2)] [] M
  refine a_aloadn C dX7_passage_0 rfl ?_
  refine a_iloadn C dX7_passage_1 rfl ?_
  refine a_callV C [.inl x1] [] dX7_passage_2 (cSt_isState _) mv_X7_isState ln_X7_178 rfl rfl ⟨rfl, rfl, Nat.le_of_ble_eq_true rfl, Nat.le_of_ble_eq_true rfl, Nat.le_of_ble_eq_true rfl⟩ hf (fun r1 M1 hf => ?_)
  obtain ⟨hfa, hfb⟩ := hf
  refine a_if_eq C 16 dX7_passage_5 rfl (fun hc => ?_) (fun hc => ?_)
  · have hf := hfa hc
    refine a_iconst C dX7_passage_16 (inr_b rfl) ?_
    exact a_iret C X dX7_passage_17 hf
  · have hf := hfb hc
    refine a_aloadn C dX7_passage_8 rfl ?_
    refine a_iloadn C dX7_passage_9 rfl ?_
    refine a_callV C [.inl x2] [] dX7_passage_10 (cSt_isState _) mv_X7_isState ln_X7_178 rfl rfl ⟨rfl, rfl, Nat.le_of_ble_eq_true rfl, Nat.le_of_ble_eq_true rfl, Nat.le_of_ble_eq_true rfl⟩ hf (fun r2 M2 hf => ?_)
    obtain ⟨hfa, hfb⟩ := hf
    refine a_if_ne C 18 dX7_passage_13 rfl (fun hc => ?_) (fun hc => ?_)
    · have hf := hfa hc
      refine a_aloadn C dX7_passage_18 rfl ?_
      refine a_getR C 8 fl_X7_33 rfl rfl dX7_passage_19 ?_
      refine a_iloadn C dX7_passage_22 rfl ?_
      refine a_iloadn C dX7_passage_23 rfl ?_
      refine a_callV C [.inl x1, .inl x2] [] dX7_passage_24 (cMa_passageCost _ _) mv_X2_passageCost ln_X7_188 rfl rfl ⟨rfl, rfl, Nat.le_of_ble_eq_true rfl, Nat.le_of_ble_eq_true rfl, Nat.le_of_ble_eq_true rfl⟩ hf (fun r3 M3 hf => ?_)
      exact a_iret C X dX7_passage_27 hf
    · have hf := hfb hc
      refine a_iconst C dX7_passage_16 (inr_b rfl) ?_
      exact a_iret C X dX7_passage_17 hf
set_option maxRecDepth 20000 in
set_option maxHeartbeats 4000000 in
theorem sMa_worksInRegisters_43 {E : EE} {R : Int → Mem → Prop} (C : Cx shX 3 cX2_worksInRegisters RX2 0 0 E) (X : Rx shX (some .boolean) R E) (M : Mem) (hf : fMa_worksInRegisters_43  R M) : AW shX 3 E 43 [none, none, none] [] M := by
  refine a_iconst C dX2_worksInRegisters_43 (inr_b rfl) ?_
  exact a_bret C X (Or.inl rfl) dX2_worksInRegisters_44 hf
set_option maxRecDepth 20000 in
set_option maxHeartbeats 4000000 in
theorem cMa_worksInRegisters (x1 x2 : Int) : Snd shX yX2_worksInRegisters cX2_worksInRegisters 3 (some .boolean) 0 0 [.inr 8, .inl x1, .inl x2] (fMa_worksInRegisters x1 x2) := by
  refine Snd.of RX2 (by decide +kernel) rfl (Nat.le_of_ble_eq_true rfl) ?_
  intro E M R hf C X
  show AW shX 3 E 0 [some (.inr 8), some (.inl x1), some (.inl x2)] [] M
  refine a_aloadn C dX2_worksInRegisters_0 rfl ?_
  refine a_getR C 10 fl_X2_31 rfl rfl dX2_worksInRegisters_1 ?_
  refine a_iloadn C dX2_worksInRegisters_4 rfl ?_
  obtain ⟨hg, hf⟩ := hf
  refine a_iald C (n := 16) rfl hg dX2_worksInRegisters_5 ?_
  refine a_gsN C 100 ro_100 (fun ad A U H h => nest_X2_91 h) dX2_worksInRegisters_6 ?_
  refine a_iloadn C dX2_worksInRegisters_9 rfl ?_
  obtain ⟨hg, hf⟩ := hf
  refine a_ti C ro_100 hg dX2_worksInRegisters_10 ?_
  obtain ⟨hfa, hfb⟩ := hf
  refine a_icmp_lt C 43 dX2_worksInRegisters_11 rfl (fun hc => ?_) (fun hc => ?_)
  · have hf := hfa hc
    refine a_drop [false, false, false] (lv2 := [none, none, none]) rfl ?_
    exact sMa_worksInRegisters_43 C X   _ hf
  · have hf := hfb hc
    refine a_aloadn C dX2_worksInRegisters_14 rfl ?_
    refine a_getR C 10 fl_X2_31 rfl rfl dX2_worksInRegisters_15 ?_
    refine a_iloadn C dX2_worksInRegisters_18 rfl ?_
    obtain ⟨hg, hf⟩ := hf
    refine a_iald C (n := 16) rfl hg dX2_worksInRegisters_19 ?_
    refine a_gsN C 100 ro_100 (fun ad A U H h => nest_X2_91 h) dX2_worksInRegisters_20 ?_
    refine a_iloadn C dX2_worksInRegisters_23 rfl ?_
    obtain ⟨hg, hf⟩ := hf
    refine a_ti C ro_100 hg dX2_worksInRegisters_24 ?_
    refine a_isub C dX2_worksInRegisters_25 ?_
    refine a_gsN C 101 ro_101 (fun ad A U H h => nest_X2_94 h) dX2_worksInRegisters_26 ?_
    refine a_iloadn C dX2_worksInRegisters_29 rfl ?_
    obtain ⟨hg, hf⟩ := hf
    refine a_ti C ro_101 hg dX2_worksInRegisters_30 ?_
    refine a_iadd C dX2_worksInRegisters_31 ?_
    refine a_aloadn C dX2_worksInRegisters_32 rfl ?_
    refine a_getI C (kz := 0) fl_X2_9 rfl rfl rfl dX2_worksInRegisters_33 ?_
    obtain ⟨hfa, hfb⟩ := hf
    refine a_icmp_gt C 43 dX2_worksInRegisters_36 rfl (fun hc => ?_) (fun hc => ?_)
    · have hf := hfa hc
      refine a_drop [false, false, false] (lv2 := [none, none, none]) rfl ?_
      exact sMa_worksInRegisters_43 C X   _ hf
    · have hf := hfb hc
      refine a_iconst C dX2_worksInRegisters_39 (inr_b rfl) ?_
      refine a_goto C 44 dX2_worksInRegisters_40 rfl ?_
      exact a_bret C X (Or.inr rfl) dX2_worksInRegisters_44 hf
set_option maxRecDepth 20000 in
set_option maxHeartbeats 4000000 in
theorem sMa_hasVersion_13 {E : EE} {R : Int → Mem → Prop} (C : Cx shX 3 cX2_hasVersion RX2 1 22 E) (X : Rx shX (some .boolean) R E) (M : Mem) (hf : fMa_hasVersion_13  R M) : AW shX 3 E 13 [none, none, none] [] M := by
  refine a_iconst C dX2_hasVersion_13 (inr_b rfl) ?_
  refine a_goto C 18 dX2_hasVersion_14 rfl ?_
  exact a_bret C X (Or.inr rfl) dX2_hasVersion_18 hf
set_option maxRecDepth 20000 in
set_option maxHeartbeats 4000000 in
theorem cMa_hasVersion (x1 x2 : Int) : Snd shX yX2_hasVersion cX2_hasVersion 3 (some .boolean) 1 22 [.inr 8, .inl x1, .inl x2] (fMa_hasVersion x1 x2) := by
  refine Snd.of RX2 (by decide +kernel) rfl (Nat.le_of_ble_eq_true rfl) ?_
  intro E M R hf C X
  show AW shX 3 E 0 [some (.inr 8), some (.inl x1), some (.inl x2)] [] M
  refine a_iloadn C dX2_hasVersion_0 rfl ?_
  obtain ⟨hfa, hfb⟩ := hf
  refine a_if_eq C 13 dX2_hasVersion_1 rfl (fun hc => ?_) (fun hc => ?_)
  · have hf := hfa hc
    refine a_drop [false, false, false] (lv2 := [none, none, none]) rfl ?_
    exact sMa_hasVersion_13 C X   _ hf
  · have hf := hfb hc
    refine a_aloadn C dX2_hasVersion_4 rfl ?_
    refine a_iloadn C dX2_hasVersion_5 rfl ?_
    refine a_iloadn C dX2_hasVersion_6 rfl ?_
    refine a_callV C [.inl x1, .inl x2] [] dX2_hasVersion_7 (cMa_worksInRegisters _ _) mv_X2_worksInRegisters ln_X2_88 rfl rfl ⟨rfl, rfl, Nat.le_of_ble_eq_true rfl, Nat.le_of_ble_eq_true rfl, Nat.le_of_ble_eq_true rfl⟩ hf (fun r1 M1 hf => ?_)
    obtain ⟨hfa, hfb⟩ := hf
    refine a_if_eq C 17 dX2_hasVersion_10 rfl (fun hc => ?_) (fun hc => ?_)
    · have hf := hfa hc
      refine a_iconst C dX2_hasVersion_17 (inr_b rfl) ?_
      exact a_bret C X (Or.inl rfl) dX2_hasVersion_18 hf
    · have hf := hfb hc
      refine a_drop [false, false, false] (lv2 := [none, none, none]) rfl ?_
      exact sMa_hasVersion_13 C X   _ hf
set_option maxRecDepth 20000 in
set_option maxHeartbeats 4000000 in
theorem sMa_smallestFree_2 {E : EE} {R : Int → Mem → Prop} (C : Cx shX 2 cX2_smallestFree RX2 1 21 E) (X : Rx shX (some .int) R E) : ∀ (n : Nat) (x0 : Int) (x1 : Int) (M : Mem), fMa_smallestFree_2  R n x0 x1 M → AW shX 2 E 2 [some (.inl x0), some (.inl x1)] [] M := by
  intro n
  induction n with
  | zero => intro x0 x1 M hf; exact hf.elim
  | succ n hk2 =>
    intro x0 x1 M hf
    refine a_iloadn C dX2_smallestFree_2 rfl ?_
    refine a_iconst C dX2_smallestFree_3 (inr_b rfl) ?_
    obtain ⟨hfa, hfb⟩ := hf
    refine a_icmp_ge C 23 dX2_smallestFree_4 rfl (fun hc => ?_) (fun hc => ?_)
    · have hf := hfa hc
      refine a_iconst C dX2_smallestFree_23 (inr_b rfl) ?_
      exact a_iret C X dX2_smallestFree_24 hf
    · have hf := hfb hc
      refine a_iloadn C dX2_smallestFree_7 rfl ?_
      refine a_iloadn C dX2_smallestFree_8 rfl ?_
      refine a_callS C [.inl x0, .inl x1] [] dX2_smallestFree_9 (cMa_holds _ _) ms_X2_holds ln_X2_65 ⟨rfl, rfl, Nat.le_of_ble_eq_true rfl, Nat.le_of_ble_eq_true rfl, Nat.le_of_ble_eq_true rfl⟩ hf (fun r1 M1 hf => ?_)
      obtain ⟨hfa, hfb⟩ := hf
      refine a_if_ne C 17 dX2_smallestFree_12 rfl (fun hc => ?_) (fun hc => ?_)
      · have hf := hfa hc
        refine a_iinc C dX2_smallestFree_17 rfl (by decide) (lv2 := [some (.inl x0), some (.inl (wrap (x1 + 1)))]) rfl ?_
        refine a_goto C 2 dX2_smallestFree_20 rfl ?_
        exact hk2 _ _ _ hf
      · have hf := hfb hc
        refine a_iloadn C dX2_smallestFree_15 rfl ?_
        exact a_iret C X dX2_smallestFree_16 hf
set_option maxRecDepth 20000 in
set_option maxHeartbeats 4000000 in
theorem cMa_smallestFree (x0 : Int) : Snd shX yX2_smallestFree cX2_smallestFree 2 (some .int) 1 21 [.inl x0] (fMa_smallestFree x0) := by
  refine Snd.of RX2 (by decide +kernel) rfl (Nat.le_of_ble_eq_true rfl) ?_
  intro E M R hf C X
  show AW shX 2 E 0 [some (.inl x0), none] [] M
  refine a_iconst C dX2_smallestFree_0 (inr_b rfl) ?_
  refine a_istoren C dX2_smallestFree_1 (by decide) (lv2 := [some (.inl x0), some (.inl 0)]) rfl ?_
  obtain ⟨n2, hf⟩ := hf
  exact sMa_smallestFree_2 C X  n2 _ _ _ hf
set_option maxRecDepth 20000 in
set_option maxHeartbeats 4000000 in
theorem sMa_stateAfter_98 {E : EE} {R : Int → Mem → Prop} (C : Cx shX 5 cX2_stateAfter RX2 2 42 E) (X : Rx shX (some .int) R E) (x3 : Int) (M : Mem) (hf : fMa_stateAfter_98  R x3 M) : AW shX 5 E 98 [some (.inr 8), none, none, some (.inl x3), none] [] M := by
  have hf : fMa_smallestFree x3 M (fun r2 M2 => fMa_push x3 r2 M2 (fun r3 M3 => (inb r3 64 ∧ R (M3 11 r3) M3))) := hf
  refine a_aloadn C dX2_stateAfter_98 rfl ?_
  refine a_getR C 11 fl_X2_34 rfl rfl dX2_stateAfter_99 ?_
  refine a_iloadn C dX2_stateAfter_102 rfl ?_
  refine a_iloadn C dX2_stateAfter_103 rfl ?_
  refine a_callS C [.inl x3] [.inl x3, .inr 11] dX2_stateAfter_104 (cMa_smallestFree _) ms_X2_smallestFree ln_X2_100 ⟨rfl, rfl, Nat.le_of_ble_eq_true rfl, Nat.le_of_ble_eq_true rfl, Nat.le_of_ble_eq_true rfl⟩ hf (fun r2 M2 hf => ?_)
  refine a_callS C [.inl x3, .inl r2] [.inr 11] dX2_stateAfter_107 (cMa_push _ _) ms_X2_push ln_X2_69 ⟨rfl, rfl, Nat.le_of_ble_eq_true rfl, Nat.le_of_ble_eq_true rfl, Nat.le_of_ble_eq_true rfl⟩ hf (fun r3 M3 hf => ?_)
  obtain ⟨hg, hf⟩ := hf
  refine a_iald C (n := 64) rfl hg dX2_stateAfter_110 ?_
  exact a_iret C X dX2_stateAfter_111 hf
set_option maxRecDepth 20000 in
set_option maxHeartbeats 4000000 in
theorem sMa_stateAfter_112 {E : EE} {R : Int → Mem → Prop} (C : Cx shX 5 cX2_stateAfter RX2 2 42 E) (X : Rx shX (some .int) R E) (x1 : Int) (x3 : Int) (M : Mem) (hf : fMa_stateAfter_112  R x1 x3 M) : AW shX 5 E 112 [some (.inr 8), some (.inl x1), none, some (.inl x3), none] [] M := by
  refine a_iloadn C dX2_stateAfter_112 rfl ?_
  refine a_iconst C dX2_stateAfter_113 (inr_b rfl) ?_
  refine a_gsN C 100 ro_100 (fun ad A U H h => nest_X2_91 h) dX2_stateAfter_114 ?_
  refine a_iloadn C dX2_stateAfter_117 rfl ?_
  obtain ⟨hg, hf⟩ := hf
  refine a_ti C ro_100 hg dX2_stateAfter_118 ?_
  refine a_imul C dX2_stateAfter_119 ?_
  refine a_ishr C dX2_stateAfter_120 ?_
  refine a_istore C dX2_stateAfter_121 (by decide) (lv2 := [some (.inr 8), some (.inl x1), none, some (.inl x3), some (.inl (b_ishr x3 (wrap (2 * (roV 100 x1)))))]) rfl ?_
  refine a_gsN C 101 ro_101 (fun ad A U H h => nest_X2_94 h) dX2_stateAfter_123 ?_
  refine a_iloadn C dX2_stateAfter_126 rfl ?_
  obtain ⟨hg, hf⟩ := hf
  refine a_ti C ro_101 hg dX2_stateAfter_127 ?_
  obtain ⟨hfa, hfb⟩ := hf
  refine a_if_ne C 141 dX2_stateAfter_128 rfl (fun hc => ?_) (fun hc => ?_)
  · have hf := hfa hc
    refine a_aloadn C dX2_stateAfter_141 rfl ?_
    refine a_getR C 11 fl_X2_34 rfl rfl dX2_stateAfter_142 ?_
    refine a_iload C dX2_stateAfter_145 rfl ?_
    refine a_iload C dX2_stateAfter_147 rfl ?_
    refine a_callS C [.inl (b_ishr x3 (wrap (2 * (roV 100 x1))))] [.inl (b_ishr x3 (wrap (2 * (roV 100 x1)))), .inr 11] dX2_stateAfter_149 (cMa_smallestFree _) ms_X2_smallestFree ln_X2_100 ⟨rfl, rfl, Nat.le_of_ble_eq_true rfl, Nat.le_of_ble_eq_true rfl, Nat.le_of_ble_eq_true rfl⟩ hf (fun r10 M10 hf => ?_)
    refine a_callS C [.inl (b_ishr x3 (wrap (2 * (roV 100 x1)))), .inl r10] [.inr 11] dX2_stateAfter_152 (cMa_push _ _) ms_X2_push ln_X2_69 ⟨rfl, rfl, Nat.le_of_ble_eq_true rfl, Nat.le_of_ble_eq_true rfl, Nat.le_of_ble_eq_true rfl⟩ hf (fun r11 M11 hf => ?_)
    obtain ⟨hg, hf⟩ := hf
    refine a_iald C (n := 64) rfl hg dX2_stateAfter_155 ?_
    exact a_iret C X dX2_stateAfter_156 hf
  · have hf := hfb hc
    refine a_aloadn C dX2_stateAfter_131 rfl ?_
    refine a_getR C 11 fl_X2_34 rfl rfl dX2_stateAfter_132 ?_
    refine a_iload C dX2_stateAfter_135 rfl ?_
    obtain ⟨hg, hf⟩ := hf
    refine a_iald C (n := 64) rfl hg dX2_stateAfter_137 ?_
    refine a_goto C 156 dX2_stateAfter_138 rfl ?_
    exact a_iret C X dX2_stateAfter_156 hf
set_option maxRecDepth 20000 in
set_option maxHeartbeats 4000000 in
theorem cMa_stateAfter (x1 x2 : Int) : Snd shX yX2_stateAfter cX2_stateAfter 5 (some .int) 2 42 [.inr 8, .inl x1, .inl x2] (fMa_stateAfter x1 x2) := by
  refine Snd.of RX2 (by decide +kernel) rfl (Nat.le_of_ble_eq_true rfl) ?_
  intro E M R hf C X
  show AW shX 5 E 0 [some (.inr 8), some (.inl x1), some (.inl x2), none, none] [] M
  refine a_aloadn C dX2_stateAfter_0 rfl ?_
  refine a_iloadn C dX2_stateAfter_1 rfl ?_
  refine a_iloadn C dX2_stateAfter_2 rfl ?_
  refine a_callV C [.inl x1, .inl x2] [] dX2_stateAfter_3 (cMa_worksInRegisters _ _) mv_X2_worksInRegisters ln_X2_88 rfl rfl ⟨rfl, rfl, Nat.le_of_ble_eq_true rfl, Nat.le_of_ble_eq_true rfl, Nat.le_of_ble_eq_true rfl⟩ hf (fun r1 M1 hf => ?_)
  obtain ⟨hfa, hfb⟩ := hf
  refine a_if_ne C 11 dX2_stateAfter_6 rfl (fun hc => ?_) (fun hc => ?_)
  · have hf := hfa hc
    refine a_aloadn C dX2_stateAfter_11 rfl ?_
    refine a_getR C 9 fl_X2_27 rfl rfl dX2_stateAfter_12 ?_
    refine a_iloadn C dX2_stateAfter_15 rfl ?_
    obtain ⟨hg, hf⟩ := hf
    refine a_iald C (n := 16) rfl hg dX2_stateAfter_16 ?_
    refine a_istoren C dX2_stateAfter_17 (by decide) (lv2 := [some (.inr 8), some (.inl x1), some (.inl x2), some (.inl (M1 9 x2)), none]) rfl ?_
    refine a_iloadn C dX2_stateAfter_18 rfl ?_
    obtain ⟨hf98, hf52, hf79, hfd⟩ := hf
    by_cases hc4 : x1 = 4
    · have hc := hc4
      refine a_tsIn C 98 4 hc dX2_stateAfter_19 ⟨by decide, by decide, rfl, rfl⟩ ?_
      have hf := hf98 (Or.inl hc)
      refine a_drop [true, false, false, true, true] (lv2 := [some (.inr 8), none, none, some (.inl (M1 9 x2)), none]) rfl ?_
      exact sMa_stateAfter_98 C X  _ _ hf
    by_cases hc5 : x1 = 5
    · have hc := hc5
      refine a_tsIn C 52 5 hc dX2_stateAfter_19 ⟨by decide, by decide, rfl, rfl⟩ ?_
      have hf := hf52 (hc)
      refine a_aloadn C dX2_stateAfter_52 rfl ?_
      refine a_getR C 11 fl_X2_34 rfl rfl dX2_stateAfter_53 ?_
      refine a_iloadn C dX2_stateAfter_56 rfl ?_
      refine a_iconst C dX2_stateAfter_57 (inr_b rfl) ?_
      refine a_ishr C dX2_stateAfter_58 ?_
      refine a_aloadn C dX2_stateAfter_59 rfl ?_
      refine a_iloadn C dX2_stateAfter_60 rfl ?_
      refine a_iconst C dX2_stateAfter_61 (inr_b rfl) ?_
      refine a_callV C [.inl x2, .inl 0] [.inl (b_ishr (M1 9 x2) 4), .inr 11] dX2_stateAfter_62 (cMa_registerOf _ _) mv_X2_registerOf ln_X2_78 rfl rfl ⟨rfl, rfl, Nat.le_of_ble_eq_true rfl, Nat.le_of_ble_eq_true rfl, Nat.le_of_ble_eq_true rfl⟩ hf (fun r4 M4 hf => ?_)
      refine a_callS C [.inl (b_ishr (M1 9 x2) 4), .inl r4] [.inr 11] dX2_stateAfter_65 (cMa_push _ _) ms_X2_push ln_X2_69 ⟨rfl, rfl, Nat.le_of_ble_eq_true rfl, Nat.le_of_ble_eq_true rfl, Nat.le_of_ble_eq_true rfl⟩ hf (fun r5 M5 hf => ?_)
      refine a_aloadn C dX2_stateAfter_68 rfl ?_
      refine a_iloadn C dX2_stateAfter_69 rfl ?_
      refine a_iconst C dX2_stateAfter_70 (inr_b rfl) ?_
      refine a_callV C [.inl x2, .inl 1] [.inl r5, .inr 11] dX2_stateAfter_71 (cMa_registerOf _ _) mv_X2_registerOf ln_X2_78 rfl rfl ⟨rfl, rfl, Nat.le_of_ble_eq_true rfl, Nat.le_of_ble_eq_true rfl, Nat.le_of_ble_eq_true rfl⟩ hf (fun r6 M6 hf => ?_)
      refine a_callS C [.inl r5, .inl r6] [.inr 11] dX2_stateAfter_74 (cMa_push _ _) ms_X2_push ln_X2_69 ⟨rfl, rfl, Nat.le_of_ble_eq_true rfl, Nat.le_of_ble_eq_true rfl, Nat.le_of_ble_eq_true rfl⟩ hf (fun r7 M7 hf => ?_)
      obtain ⟨hg, hf⟩ := hf
      refine a_iald C (n := 64) rfl hg dX2_stateAfter_77 ?_
      exact a_iret C X dX2_stateAfter_78 hf
    by_cases hc6 : x1 = 6
    · have hc := hc6
      refine a_tsIn C 112 6 hc dX2_stateAfter_19 ⟨by decide, by decide, rfl, rfl⟩ ?_
      have hf := hfd (Or.inr (Or.inr hc))
      refine a_drop [true, true, false, true, true] (lv2 := [some (.inr 8), some (.inl x1), none, some (.inl (M1 9 x2)), none]) rfl ?_
      exact sMa_stateAfter_112 C X  _ _ _ hf
    by_cases hc7 : x1 = 7
    · have hc := hc7
      refine a_tsIn C 98 7 hc dX2_stateAfter_19 ⟨by decide, by decide, rfl, rfl⟩ ?_
      have hf := hf98 (Or.inr hc)
      refine a_drop [true, false, false, true, true] (lv2 := [some (.inr 8), none, none, some (.inl (M1 9 x2)), none]) rfl ?_
      exact sMa_stateAfter_98 C X  _ _ hf
    by_cases hc8 : x1 = 8
    · have hc := hc8
      refine a_tsIn C 79 8 hc dX2_stateAfter_19 ⟨by decide, by decide, rfl, rfl⟩ ?_
      have hf := hf79 (hc)
      refine a_aloadn C dX2_stateAfter_79 rfl ?_
      refine a_getR C 11 fl_X2_34 rfl rfl dX2_stateAfter_80 ?_
      refine a_iloadn C dX2_stateAfter_83 rfl ?_
      refine a_bipush C dX2_stateAfter_84 bp_15 ?_
      refine a_iand C dX2_stateAfter_86 ?_
      refine a_aloadn C dX2_stateAfter_87 rfl ?_
      refine a_iloadn C dX2_stateAfter_88 rfl ?_
      refine a_iconst C dX2_stateAfter_89 (inr_b rfl) ?_
      refine a_callV C [.inl x2, .inl 2] [.inl (b_iand (M1 9 x2) 15), .inr 11] dX2_stateAfter_90 (cMa_registerOf _ _) mv_X2_registerOf ln_X2_78 rfl rfl ⟨rfl, rfl, Nat.le_of_ble_eq_true rfl, Nat.le_of_ble_eq_true rfl, Nat.le_of_ble_eq_true rfl⟩ hf (fun r8 M8 hf => ?_)
      refine a_callS C [.inl (b_iand (M1 9 x2) 15), .inl r8] [.inr 11] dX2_stateAfter_93 (cMa_push _ _) ms_X2_push ln_X2_69 ⟨rfl, rfl, Nat.le_of_ble_eq_true rfl, Nat.le_of_ble_eq_true rfl, Nat.le_of_ble_eq_true rfl⟩ hf (fun r9 M9 hf => ?_)
      obtain ⟨hg, hf⟩ := hf
      refine a_iald C (n := 64) rfl hg dX2_stateAfter_96 ?_
      exact a_iret C X dX2_stateAfter_97 hf
    have hco : x1 < 4 ∨ 8 < x1 := by omega
    refine a_tsOut C 112 dX2_stateAfter_19 hco rfl ?_
    have hf := hfd (by omega)
    refine a_drop [true, true, false, true, true] (lv2 := [some (.inr 8), some (.inl x1), none, some (.inl (M1 9 x2)), none]) rfl ?_
    exact sMa_stateAfter_112 C X  _ _ _ hf
  · have hf := hfb hc
    refine a_iconst C dX2_stateAfter_9 (inr_b rfl) ?_
    exact a_iret C X dX2_stateAfter_10 hf
set_option maxRecDepth 20000 in
set_option maxHeartbeats 4000000 in
theorem sMa_isPlain_23 {E : EE} {R : Int → Mem → Prop} (C : Cx shX 3 cX2_isPlain RX2 1 22 E) (X : Rx shX (some .boolean) R E) (M : Mem) (hf : fMa_isPlain_23  R M) : AW shX 3 E 23 [none, none, none] [] M := by
  refine a_iconst C dX2_isPlain_23 (inr_b rfl) ?_
  exact a_bret C X (Or.inl rfl) dX2_isPlain_24 hf
set_option maxRecDepth 20000 in
set_option maxHeartbeats 4000000 in
theorem cMa_isPlain (x1 x2 : Int) : Snd shX yX2_isPlain cX2_isPlain 3 (some .boolean) 1 22 [.inr 8, .inl x1, .inl x2] (fMa_isPlain x1 x2) := by
  refine Snd.of RX2 (by decide +kernel) rfl (Nat.le_of_ble_eq_true rfl) ?_
  intro E M R hf C X
  show AW shX 3 E 0 [some (.inr 8), some (.inl x1), some (.inl x2)] [] M
  refine a_iloadn C dX2_isPlain_0 rfl ?_
  obtain ⟨hfa, hfb⟩ := hf
  refine a_if_ne C 23 dX2_isPlain_1 rfl (fun hc => ?_) (fun hc => ?_)
  · have hf := hfa hc
    refine a_drop [false, false, false] (lv2 := [none, none, none]) rfl ?_
    exact sMa_isPlain_23 C X   _ hf
  · have hf := hfb hc
    refine a_iloadn C dX2_isPlain_4 rfl ?_
    refine a_bipush C dX2_isPlain_5 bp_6 ?_
    obtain ⟨hfa, hfb⟩ := hf
    refine a_icmp_eq C 23 dX2_isPlain_7 rfl (fun hc => ?_) (fun hc => ?_)
    · have hf := hfa hc
      refine a_drop [false, false, false] (lv2 := [none, none, none]) rfl ?_
      exact sMa_isPlain_23 C X   _ hf
    · have hf := hfb hc
      refine a_aloadn C dX2_isPlain_10 rfl ?_
      refine a_iloadn C dX2_isPlain_11 rfl ?_
      refine a_iloadn C dX2_isPlain_12 rfl ?_
      refine a_callV C [.inl x1, .inl x2] [] dX2_isPlain_13 (cMa_worksInRegisters _ _) mv_X2_worksInRegisters ln_X2_88 rfl rfl ⟨rfl, rfl, Nat.le_of_ble_eq_true rfl, Nat.le_of_ble_eq_true rfl, Nat.le_of_ble_eq_true rfl⟩ hf (fun r1 M1 hf => ?_)
      obtain ⟨hfa, hfb⟩ := hf
      refine a_if_ne C 23 dX2_isPlain_16 rfl (fun hc => ?_) (fun hc => ?_)
      · have hf := hfa hc
        refine a_drop [false, false, false] (lv2 := [none, none, none]) rfl ?_
        exact sMa_isPlain_23 C X   _ hf
      · have hf := hfb hc
        refine a_iconst C dX2_isPlain_19 (inr_b rfl) ?_
        refine a_goto C 24 dX2_isPlain_20 rfl ?_
        exact a_bret C X (Or.inr rfl) dX2_isPlain_24 hf
set_option maxRecDepth 20000 in
set_option maxHeartbeats 4000000 in
theorem sMa_versionCost_47 {E : EE} {R : Int → Mem → Prop} (C : Cx shX 4 cX2_versionCost RX2 2 44 E) (X : Rx shX (some .int) R E) (t0 : Int) (M : Mem) (hf : fMa_versionCost_47  R t0 M) : AW shX 4 E 47 [some (.inr 8), none, none, none] [.inl t0] M := by
  refine a_istoren C dX2_versionCost_47 (by decide) (lv2 := [some (.inr 8), none, none, some (.inl t0)]) rfl ?_
  refine a_iloadn C dX2_versionCost_48 rfl ?_
  obtain ⟨hfa, hfb⟩ := hf
  refine a_if_eq C 59 dX2_versionCost_49 rfl (fun hc => ?_) (fun hc => ?_)
  · have hf := hfa hc
    refine a_iconst C dX2_versionCost_59 (inr_b rfl) ?_
    exact a_iret C X dX2_versionCost_60 hf
  · have hf := hfb hc
    refine a_aloadn C dX2_versionCost_52 rfl ?_
    refine a_getI C (kz := 1) fl_X2_15 rfl rfl rfl dX2_versionCost_53 ?_
    refine a_goto C 60 dX2_versionCost_56 rfl ?_
    exact a_iret C X dX2_versionCost_60 hf
set_option maxRecDepth 20000 in
set_option maxHeartbeats 4000000 in
theorem sMa_versionCost_42 {E : EE} {R : Int → Mem → Prop} (C : Cx shX 4 cX2_versionCost RX2 2 44 E) (X : Rx shX (some .int) R E) (M : Mem) (hf : fMa_versionCost_42  R M) : AW shX 4 E 42 [some (.inr 8), none, none, none] [] M := by
  refine a_iconst C dX2_versionCost_42 (inr_b rfl) ?_
  refine a_goto C 47 dX2_versionCost_43 rfl ?_
  exact sMa_versionCost_47 C X  _ _ hf
set_option maxRecDepth 20000 in
set_option maxHeartbeats 4000000 in
theorem cMa_versionCost (x1 x2 : Int) : Snd shX yX2_versionCost cX2_versionCost 4 (some .int) 2 44 [.inr 8, .inl x1, .inl x2] (fMa_versionCost x1 x2) := by
  refine Snd.of RX2 (by decide +kernel) rfl (Nat.le_of_ble_eq_true rfl) ?_
  intro E M R hf C X
  show AW shX 4 E 0 [some (.inr 8), some (.inl x1), some (.inl x2), none] [] M
  refine a_aloadn C dX2_versionCost_0 rfl ?_
  refine a_iloadn C dX2_versionCost_1 rfl ?_
  refine a_iloadn C dX2_versionCost_2 rfl ?_
  refine a_callV C [.inl x1, .inl x2] [] dX2_versionCost_3 (cMa_isPlain _ _) mv_X2_isPlain ln_X2_97 rfl rfl ⟨rfl, rfl, Nat.le_of_ble_eq_true rfl, Nat.le_of_ble_eq_true rfl, Nat.le_of_ble_eq_true rfl⟩ hf (fun r1 M1 hf => ?_)
  obtain ⟨hfa, hfb⟩ := hf
  refine a_if_eq C 31 dX2_versionCost_6 rfl (fun hc => ?_) (fun hc => ?_)
  · have hf := hfa hc
    refine a_iloadn C dX2_versionCost_31 rfl ?_
    refine a_iconst C dX2_versionCost_32 (inr_b rfl) ?_
    obtain ⟨hfa, hfb⟩ := hf
    refine a_icmp_eq C 42 dX2_versionCost_33 rfl (fun hc => ?_) (fun hc => ?_)
    · have hf := hfa hc
      refine a_drop [true, false, false, true] (lv2 := [some (.inr 8), none, none, none]) rfl ?_
      exact sMa_versionCost_42 C X   _ hf
    · have hf := hfb hc
      refine a_iloadn C dX2_versionCost_36 rfl ?_
      refine a_bipush C dX2_versionCost_37 bp_7 ?_
      obtain ⟨hfa, hfb⟩ := hf
      refine a_icmp_ne C 46 dX2_versionCost_39 rfl (fun hc => ?_) (fun hc => ?_)
      · have hf := hfa hc
        refine a_iconst C dX2_versionCost_46 (inr_b rfl) ?_
        refine a_drop [true, false, false, true] (lv2 := [some (.inr 8), none, none, none]) rfl ?_
        exact sMa_versionCost_47 C X  _ _ hf
      · have hf := hfb hc
        refine a_drop [true, false, false, true] (lv2 := [some (.inr 8), none, none, none]) rfl ?_
        exact sMa_versionCost_42 C X   _ hf
  · have hf := hfb hc
    refine a_gsN C 100 ro_100 (fun ad A U H h => nest_X2_91 h) dX2_versionCost_9 ?_
    refine a_iloadn C dX2_versionCost_12 rfl ?_
    obtain ⟨hg, hf⟩ := hf
    refine a_ti C ro_100 hg dX2_versionCost_13 ?_
    refine a_aloadn C dX2_versionCost_14 rfl ?_
    refine a_getI C (kz := 2) fl_X2_18 rfl rfl rfl dX2_versionCost_15 ?_
    refine a_imul C dX2_versionCost_18 ?_
    refine a_gsN C 101 ro_101 (fun ad A U H h => nest_X2_94 h) dX2_versionCost_19 ?_
    refine a_iloadn C dX2_versionCost_22 rfl ?_
    obtain ⟨hg, hf⟩ := hf
    refine a_ti C ro_101 hg dX2_versionCost_23 ?_
    refine a_aloadn C dX2_versionCost_24 rfl ?_
    refine a_getI C (kz := 3) fl_X2_21 rfl rfl rfl dX2_versionCost_25 ?_
    refine a_imul C dX2_versionCost_28 ?_
    refine a_iadd C dX2_versionCost_29 ?_
    exact a_iret C X dX2_versionCost_30 hf
set_option maxRecDepth 20000 in
set_option maxHeartbeats 4000000 in
theorem cSt_version (x1 x2 x3 : Int) : Snd shX yX7_version cX7_version 5 (some .int) 3 67 [.inr 0, .inl x1, .inl x2, .inl x3] (fSt_version x1 x2 x3) := by
  refine Snd.of RX7 (by decide +kernel) rfl (Nat.le_of_ble_eq_true rfl) ?_
  intro E M R hf C X
  show AW shX 5 E 0 [some (.inr 0), some (.inl x1), some (.inl x2), some (.inl x3), none] [] M
  refine a_aloadn C dX7_version_0 rfl ?_
  refine a_iloadn C dX7_version_1 rfl ?_
  refine a_callV C [.inl x1] [] dX7_version_2 (cSt_isInstruction _) mv_X7_isInstruction ln_X7_117 rfl rfl ⟨rfl, rfl, Nat.le_of_ble_eq_true rfl, Nat.le_of_ble_eq_true rfl, Nat.le_of_ble_eq_true rfl⟩ hf (fun r1 M1 hf => ?_)
  obtain ⟨hfa, hfb⟩ := hf
  refine a_if_eq C 25 dX7_version_5 rfl (fun hc => ?_) (fun hc => ?_)
  · have hf := hfa hc
    refine a_iconst C dX7_version_25 (inr_b rfl) ?_
    exact a_iret C X dX7_version_26 hf
  · have hf := hfb hc
    refine a_aloadn C dX7_version_8 rfl ?_
    refine a_iloadn C dX7_version_9 rfl ?_
    refine a_callV C [.inl x2] [] dX7_version_10 (cSt_isState _) mv_X7_isState ln_X7_178 rfl rfl ⟨rfl, rfl, Nat.le_of_ble_eq_true rfl, Nat.le_of_ble_eq_true rfl, Nat.le_of_ble_eq_true rfl⟩ hf (fun r2 M2 hf => ?_)
    obtain ⟨hfa, hfb⟩ := hf
    refine a_if_eq C 25 dX7_version_13 rfl (fun hc => ?_) (fun hc => ?_)
    · have hf := hfa hc
      refine a_iconst C dX7_version_25 (inr_b rfl) ?_
      exact a_iret C X dX7_version_26 hf
    · have hf := hfb hc
      refine a_iloadn C dX7_version_16 rfl ?_
      obtain ⟨hfa, hfb⟩ := hf
      refine a_if_lt C 25 dX7_version_17 rfl (fun hc => ?_) (fun hc => ?_)
      · have hf := hfa hc
        refine a_iconst C dX7_version_25 (inr_b rfl) ?_
        exact a_iret C X dX7_version_26 hf
      · have hf := hfb hc
        refine a_iloadn C dX7_version_20 rfl ?_
        refine a_iconst C dX7_version_21 (inr_b rfl) ?_
        obtain ⟨hfa, hfb⟩ := hf
        refine a_icmp_le C 27 dX7_version_22 rfl (fun hc => ?_) (fun hc => ?_)
        · have hf := hfa hc
          refine a_aloadn C dX7_version_27 rfl ?_
          refine a_getR C 13 fl_X7_40 rfl rfl dX7_version_28 ?_
          refine a_getR C 14 fl_X7_123 rfl rfl dX7_version_31 ?_
          refine a_iloadn C dX7_version_34 rfl ?_
          obtain ⟨hg, hf⟩ := hf
          refine a_iald C (n := 24) rfl hg dX7_version_35 ?_
          refine a_istore C dX7_version_36 (by decide) (lv2 := [some (.inr 0), some (.inl x1), some (.inl x2), some (.inl x3), some (.inl (M2 14 x1))]) rfl ?_
          refine a_aloadn C dX7_version_38 rfl ?_
          refine a_getR C 8 fl_X7_33 rfl rfl dX7_version_39 ?_
          refine a_iload C dX7_version_42 rfl ?_
          refine a_iloadn C dX7_version_44 rfl ?_
          refine a_callV C [.inl (M2 14 x1), .inl x2] [] dX7_version_45 (cMa_hasVersion _ _) mv_X2_hasVersion ln_X7_191 rfl rfl ⟨rfl, rfl, Nat.le_of_ble_eq_true rfl, Nat.le_of_ble_eq_true rfl, Nat.le_of_ble_eq_true rfl⟩ hf (fun r3 M3 hf => ?_)
          obtain ⟨hfa, hfb⟩ := hf
          refine a_if_ne C 54 dX7_version_48 rfl (fun hc => ?_) (fun hc => ?_)
          · have hf := hfa hc
            refine a_iloadn C dX7_version_54 rfl ?_
            obtain ⟨hf80, hf91, hfd⟩ := hf
            by_cases hc0 : x3 = 0
            · refine a_lk C 80 dX7_version_55 (by decide +kernel) (by rw [hc0] <;> rfl) rfl ?_
              have hf := hf80 (hc0)
              refine a_aloadn C dX7_version_80 rfl ?_
              refine a_getR C 8 fl_X7_33 rfl rfl dX7_version_81 ?_
              refine a_iload C dX7_version_84 rfl ?_
              refine a_iloadn C dX7_version_86 rfl ?_
              refine a_callV C [.inl (M2 14 x1), .inl x2] [] dX7_version_87 (cMa_stateAfter _ _) mv_X2_stateAfter ln_X7_195 rfl rfl ⟨rfl, rfl, Nat.le_of_ble_eq_true rfl, Nat.le_of_ble_eq_true rfl, Nat.le_of_ble_eq_true rfl⟩ hf (fun r4 M4 hf => ?_)
              exact a_iret C X dX7_version_90 hf
            by_cases hc1 : x3 = 1
            · refine a_lk C 91 dX7_version_55 (by decide +kernel) (by rw [hc1] <;> rfl) rfl ?_
              have hf := hf91 (hc1)
              refine a_aloadn C dX7_version_91 rfl ?_
              refine a_getR C 8 fl_X7_33 rfl rfl dX7_version_92 ?_
              refine a_iload C dX7_version_95 rfl ?_
              refine a_iloadn C dX7_version_97 rfl ?_
              refine a_callV C [.inl (M2 14 x1), .inl x2] [] dX7_version_98 (cMa_versionCost _ _) mv_X2_versionCost ln_X7_198 rfl rfl ⟨rfl, rfl, Nat.le_of_ble_eq_true rfl, Nat.le_of_ble_eq_true rfl, Nat.le_of_ble_eq_true rfl⟩ hf (fun r5 M5 hf => ?_)
              exact a_iret C X dX7_version_101 hf
            refine a_lk C 102 dX7_version_55 (by decide +kernel) (by simp [Op.lookupswitch.offset, hc0, Ne.symm hc0, hc1, Ne.symm hc1] <;> rfl) rfl ?_
            have hf := hfd ⟨hc0, hc1⟩
            refine a_aloadn C dX7_version_102 rfl ?_
            refine a_getR C 8 fl_X7_33 rfl rfl dX7_version_103 ?_
            refine a_iload C dX7_version_106 rfl ?_
            refine a_iloadn C dX7_version_108 rfl ?_
            refine a_callV C [.inl (M2 14 x1), .inl x2] [] dX7_version_109 (cMa_isPlain _ _) mv_X2_isPlain ln_X7_201 rfl rfl ⟨rfl, rfl, Nat.le_of_ble_eq_true rfl, Nat.le_of_ble_eq_true rfl, Nat.le_of_ble_eq_true rfl⟩ hf (fun r6 M6 hf => ?_)
            obtain ⟨hfa, hfb⟩ := hf
            refine a_if_eq C 119 dX7_version_112 rfl (fun hc => ?_) (fun hc => ?_)
            · have hf := hfa hc
              refine a_iconst C dX7_version_119 (inr_b rfl) ?_
              exact a_iret C X dX7_version_120 hf
            · have hf := hfb hc
              refine a_iconst C dX7_version_115 (inr_b rfl) ?_
              refine a_goto C 120 dX7_version_116 rfl ?_
              exact a_iret C X dX7_version_120 hf
          · have hf := hfb hc
            refine a_bipush C dX7_version_51 bp_m4 ?_
            exact a_iret C X dX7_version_53 hf
        · have hf := hfb hc
          refine a_iconst C dX7_version_25 (inr_b rfl) ?_
          exact a_iret C X dX7_version_26 hf
set_option maxRecDepth 20000 in
set_option maxHeartbeats 4000000 in
theorem sArr_fill_37_5 {E : EE} {R : Int → Mem → Prop} (C : Cx shX 4 cJ7_fill_53178 RJ7 0 0 E) (X : Rx shX none R E) : ∀ (n : Nat) (x1 : Int) (x2 : Int) (x3 : Int) (M : Mem), fArr_fill_37_5  R n x1 x2 x3 M → AW shX 4 E 5 [some (.inr 37), some (.inl x1), some (.inl x2), some (.inl x3)] [] M := by
  intro n
  induction n with
  | zero => intro x1 x2 x3 M hf; exact hf.elim
  | succ n hk5 =>
    intro x1 x2 x3 M hf
    refine a_iloadn C dJ7_fill_53178_5 rfl ?_
    refine a_iloadn C dJ7_fill_53178_6 rfl ?_
    obtain ⟨hfa, hfb⟩ := hf
    refine a_icmp_ge C 20 dJ7_fill_53178_7 rfl (fun hc => ?_) (fun hc => ?_)
    · have hf := hfa hc
      exact a_vret C X dJ7_fill_53178_20 hf
    · have hf := hfb hc
      refine a_aloadn C dJ7_fill_53178_10 rfl ?_
      refine a_iloadn C dJ7_fill_53178_11 rfl ?_
      refine a_iloadn C dJ7_fill_53178_12 rfl ?_
      obtain ⟨hg, hf⟩ := hf
      refine a_iast C (n := 24) rfl hg dJ7_fill_53178_13 ?_
      refine a_iinc C dJ7_fill_53178_14 rfl (by decide) (lv2 := [some (.inr 37), some (.inl x1), some (.inl (wrap (x2 + 1))), some (.inl x3)]) rfl ?_
      refine a_goto C 5 dJ7_fill_53178_17 rfl ?_
      exact hk5 _ _ _ _ hf
set_option maxRecDepth 20000 in
set_option maxHeartbeats 4000000 in
theorem cArr_fill_37 (x1 : Int) : Snd shX yJ7_fill_53178 cJ7_fill_53178 4 none 0 0 [.inr 37, .inl x1] (fArr_fill_37 x1) := by
  refine Snd.of RJ7 (by decide +kernel) rfl (Nat.le_of_ble_eq_true rfl) ?_
  intro E M R hf C X
  show AW shX 4 E 0 [some (.inr 37), some (.inl x1), none, none] [] M
  refine a_iconst C dJ7_fill_53178_0 (inr_b rfl) ?_
  refine a_istoren C dJ7_fill_53178_1 (by decide) (lv2 := [some (.inr 37), some (.inl x1), some (.inl 0), none]) rfl ?_
  refine a_aloadn C dJ7_fill_53178_2 rfl ?_
  refine a_alen C 24 rfl rfl rfl (inr_b rfl) dJ7_fill_53178_3 ?_
  refine a_istoren C dJ7_fill_53178_4 (by decide) (lv2 := [some (.inr 37), some (.inl x1), some (.inl 0), some (.inl 24)]) rfl ?_
  obtain ⟨n1, hf⟩ := hf
  exact sArr_fill_37_5 C X  n1 _ _ _ _ hf
set_option maxRecDepth 20000 in
set_option maxHeartbeats 4000000 in
theorem sCh_listExit_8 {E : EE} {R : Int → Mem → Prop} (C : Cx shX 5 cX1_listExit RX1 0 0 E) (X : Rx shX none R E) : ∀ (n : Nat) (x1 : Int) (x2 : Int) (x3 : Int) (x4 : Int) (M : Mem), fCh_listExit_8  R n x1 x2 x3 x4 M → AW shX 5 E 8 [some (.inr 27), some (.inl x1), some (.inl x2), some (.inl x3), some (.inl x4)] [] M := by
  intro n
  induction n with
  | zero => intro x1 x2 x3 x4 M hf; exact hf.elim
  | succ n hk8 =>
    intro x1 x2 x3 x4 M hf
    refine a_iload C dX1_listExit_8 rfl ?_
    refine a_aloadn C dX1_listExit_10 rfl ?_
    refine a_getR C 31 fl_X1_21 rfl rfl dX1_listExit_11 ?_
    refine a_iloadn C dX1_listExit_14 rfl ?_
    obtain ⟨hg, hf⟩ := hf
    refine a_iald C (n := 24) rfl hg dX1_listExit_15 ?_
    obtain ⟨hfa, hfb⟩ := hf
    refine a_icmp_ge C 39 dX1_listExit_16 rfl (fun hc => ?_) (fun hc => ?_)
    · have hf := hfa hc
      refine a_aloadn C dX1_listExit_39 rfl ?_
      refine a_getR C 30 fl_X1_18 rfl rfl dX1_listExit_40 ?_
      refine a_iloadn C dX1_listExit_43 rfl ?_
      refine a_aloadn C dX1_listExit_44 rfl ?_
      refine a_getR C 31 fl_X1_21 rfl rfl dX1_listExit_45 ?_
      refine a_iloadn C dX1_listExit_48 rfl ?_
      refine a_dup2 C dX1_listExit_49 ?_
      obtain ⟨hg, hf⟩ := hf
      refine a_iald C (n := 24) rfl hg dX1_listExit_50 ?_
      refine a_dup_x2 C dX1_listExit_51 ?_
      refine a_iconst C dX1_listExit_52 (inr_b rfl) ?_
      refine a_iadd C dX1_listExit_53 ?_
      obtain ⟨hg, hf⟩ := hf
      refine a_iast C (n := 24) rfl hg dX1_listExit_54 ?_
      refine a_iadd C dX1_listExit_55 ?_
      refine a_iloadn C dX1_listExit_56 rfl ?_
      obtain ⟨hg, hf⟩ := hf
      refine a_iast C (n := 384) rfl hg dX1_listExit_57 ?_
      exact a_vret C X dX1_listExit_58 hf
    · have hf := hfb hc
      refine a_aloadn C dX1_listExit_19 rfl ?_
      refine a_getR C 30 fl_X1_18 rfl rfl dX1_listExit_20 ?_
      refine a_iloadn C dX1_listExit_23 rfl ?_
      refine a_iload C dX1_listExit_24 rfl ?_
      refine a_iadd C dX1_listExit_26 ?_
      obtain ⟨hg, hf⟩ := hf
      refine a_iald C (n := 384) rfl hg dX1_listExit_27 ?_
      refine a_iloadn C dX1_listExit_28 rfl ?_
      obtain ⟨hfa, hfb⟩ := hf
      refine a_icmp_ne C 33 dX1_listExit_29 rfl (fun hc => ?_) (fun hc => ?_)
      · have hf := hfa hc
        refine a_iinc C dX1_listExit_33 rfl (by decide) (lv2 := [some (.inr 27), some (.inl x1), some (.inl x2), some (.inl x3), some (.inl (wrap (x4 + 1)))]) rfl ?_
        refine a_goto C 8 dX1_listExit_36 rfl ?_
        exact hk8 _ _ _ _ _ hf
      · have hf := hfb hc
        exact a_vret C X dX1_listExit_32 hf
set_option maxRecDepth 20000 in
set_option maxHeartbeats 4000000 in
theorem cCh_listExit (x1 x2 : Int) : Snd shX yX1_listExit cX1_listExit 5 none 0 0 [.inr 27, .inl x1, .inl x2] (fCh_listExit x1 x2) := by
  refine Snd.of RX1 (by decide +kernel) rfl (Nat.le_of_ble_eq_true rfl) ?_
  intro E M R hf C X
  show AW shX 5 E 0 [some (.inr 27), some (.inl x1), some (.inl x2), none, none] [] M
  refine a_iloadn C dX1_listExit_0 rfl ?_
  refine a_bipush C dX1_listExit_1 bp_16 ?_
  refine a_imul C dX1_listExit_3 ?_
  refine a_istoren C dX1_listExit_4 (by decide) (lv2 := [some (.inr 27), some (.inl x1), some (.inl x2), some (.inl (wrap (x1 * 16))), none]) rfl ?_
  refine a_iconst C dX1_listExit_5 (inr_b rfl) ?_
  refine a_istore C dX1_listExit_6 (by decide) (lv2 := [some (.inr 27), some (.inl x1), some (.inl x2), some (.inl (wrap (x1 * 16))), some (.inl 0)]) rfl ?_
  obtain ⟨n1, hf⟩ := hf
  exact sCh_listExit_8 C X  n1 _ _ _ _ _ hf
set_option maxRecDepth 20000 in
set_option maxHeartbeats 4000000 in
theorem sCh_listLegal_183 {E : EE} {R : Int → Mem → Prop} (C : Cx shX 6 cX1_listLegal RX1 3 67 E) (X : Rx shX none R E) {k55 : Int → Int → Int → Int → Mem → Prop} (hk55 : ∀ (x1 : Int) (x2 : Int) (x3 : Int) (x4 : Int) (M : Mem), k55 x1 x2 x3 x4 M → AW shX 6 E 55 [some (.inr 27), some (.inl x1), some (.inl x2), some (.inl x3), some (.inl x4), none] [] M) (x1 : Int) (x2 : Int) (x3 : Int) (x4 : Int) (M : Mem) (hf : fCh_listLegal_183 k55 R x1 x2 x3 x4 M) : AW shX 6 E 183 [some (.inr 27), some (.inl x1), some (.inl x2), some (.inl x3), some (.inl x4), none] [] M := by
  refine a_iinc C dX1_listLegal_183 rfl (by decide) (lv2 := [some (.inr 27), some (.inl x1), some (.inl x2), some (.inl x3), some (.inl (wrap (x4 + 1))), none]) rfl ?_
  refine a_goto C 55 dX1_listLegal_186 rfl ?_
  exact hk55 _ _ _ _ _ hf
set_option maxRecDepth 20000 in
set_option maxHeartbeats 4000000 in
theorem sCh_listLegal_55 {E : EE} {R : Int → Mem → Prop} (C : Cx shX 6 cX1_listLegal RX1 3 67 E) (X : Rx shX none R E) : ∀ (n : Nat) (x1 : Int) (x2 : Int) (x3 : Int) (x4 : Int) (M : Mem), fCh_listLegal_55  R n x1 x2 x3 x4 M → AW shX 6 E 55 [some (.inr 27), some (.inl x1), some (.inl x2), some (.inl x3), some (.inl x4), none] [] M := by
  intro n
  induction n with
  | zero => intro x1 x2 x3 x4 M hf; exact hf.elim
  | succ n hk55 =>
    intro x1 x2 x3 x4 M hf
    refine a_iload C dX1_listLegal_55 rfl ?_
    refine a_iloadn C dX1_listLegal_57 rfl ?_
    obtain ⟨hfa, hfb⟩ := hf
    refine a_icmp_ge C 189 dX1_listLegal_58 rfl (fun hc => ?_) (fun hc => ?_)
    · have hf := hfa hc
      exact a_vret C X dX1_listLegal_189 hf
    · have hf := hfb hc
      refine a_aloadn C dX1_listLegal_61 rfl ?_
      refine a_getR C 8 fl_X1_63 rfl rfl dX1_listLegal_62 ?_
      refine a_iload C dX1_listLegal_65 rfl ?_
      refine a_callV C [.inl x4] [] dX1_listLegal_67 (cMa_lengthOf _) mv_X2_lengthOf ln_X1_110 rfl rfl ⟨rfl, rfl, Nat.le_of_ble_eq_true rfl, Nat.le_of_ble_eq_true rfl, Nat.le_of_ble_eq_true rfl⟩ hf (fun r2 M2 hf => ?_)
      refine a_aloadn C dX1_listLegal_70 rfl ?_
      refine a_getR C 13 fl_X1_59 rfl rfl dX1_listLegal_71 ?_
      refine a_getR C 17 fl_X1_114 rfl rfl dX1_listLegal_74 ?_
      refine a_iloadn C dX1_listLegal_77 rfl ?_
      obtain ⟨hg, hf⟩ := hf
      refine a_iald C (n := 24) rfl hg dX1_listLegal_78 ?_
      obtain ⟨hfa, hfb⟩ := hf
      refine a_icmp_gt C 183 dX1_listLegal_79 rfl (fun hc => ?_) (fun hc => ?_)
      · have hf := hfa hc
        exact sCh_listLegal_183 C X hk55 _ _ _ _ _ hf
      · have hf := hfb hc
        refine a_aloadn C dX1_listLegal_82 rfl ?_
        refine a_getR C 8 fl_X1_63 rfl rfl dX1_listLegal_83 ?_
        refine a_iloadn C dX1_listLegal_86 rfl ?_
        refine a_iload C dX1_listLegal_87 rfl ?_
        refine a_callV C [.inl x2, .inl x4] [] dX1_listLegal_89 (cMa_hasVersion _ _) mv_X2_hasVersion ln_X1_117 rfl rfl ⟨rfl, rfl, Nat.le_of_ble_eq_true rfl, Nat.le_of_ble_eq_true rfl, Nat.le_of_ble_eq_true rfl⟩ hf (fun r3 M3 hf => ?_)
        obtain ⟨hfa, hfb⟩ := hf
        refine a_if_ne C 98 dX1_listLegal_92 rfl (fun hc => ?_) (fun hc => ?_)
        · have hf := hfa hc
          refine a_iloadn C dX1_listLegal_98 rfl ?_
          refine a_bipush C dX1_listLegal_99 bp_16 ?_
          refine a_imul C dX1_listLegal_101 ?_
          refine a_iload C dX1_listLegal_102 rfl ?_
          refine a_iadd C dX1_listLegal_104 ?_
          refine a_istore C dX1_listLegal_105 (by decide) (lv2 := [some (.inr 27), some (.inl x1), some (.inl x2), some (.inl x3), some (.inl x4), some (.inl (wrap ((wrap (x1 * 16)) + x4)))]) rfl ?_
          refine a_aloadn C dX1_listLegal_107 rfl ?_
          refine a_getR C 28 fl_X1_11 rfl rfl dX1_listLegal_108 ?_
          refine a_iloadn C dX1_listLegal_111 rfl ?_
          refine a_bipush C dX1_listLegal_112 bp_16 ?_
          refine a_imul C dX1_listLegal_114 ?_
          refine a_aloadn C dX1_listLegal_115 rfl ?_
          refine a_getR C 29 fl_X1_15 rfl rfl dX1_listLegal_116 ?_
          refine a_iloadn C dX1_listLegal_119 rfl ?_
          refine a_dup2 C dX1_listLegal_120 ?_
          obtain ⟨hg, hf⟩ := hf
          refine a_iald C (n := 24) rfl hg dX1_listLegal_121 ?_
          refine a_dup_x2 C dX1_listLegal_122 ?_
          refine a_iconst C dX1_listLegal_123 (inr_b rfl) ?_
          refine a_iadd C dX1_listLegal_124 ?_
          obtain ⟨hg, hf⟩ := hf
          refine a_iast C (n := 24) rfl hg dX1_listLegal_125 ?_
          refine a_iadd C dX1_listLegal_126 ?_
          refine a_iload C dX1_listLegal_127 rfl ?_
          obtain ⟨hg, hf⟩ := hf
          refine a_iast C (n := 384) rfl hg dX1_listLegal_129 ?_
          refine a_aloadn C dX1_listLegal_130 rfl ?_
          refine a_getR C 32 fl_X1_24 rfl rfl dX1_listLegal_131 ?_
          refine a_iload C dX1_listLegal_134 rfl ?_
          refine a_aloadn C dX1_listLegal_136 rfl ?_
          refine a_getR C 8 fl_X1_63 rfl rfl dX1_listLegal_137 ?_
          refine a_iloadn C dX1_listLegal_140 rfl ?_
          refine a_iload C dX1_listLegal_141 rfl ?_
          refine a_callV C [.inl x2, .inl x4] [.inl (wrap ((wrap (x1 * 16)) + x4)), .inr 32] dX1_listLegal_143 (cMa_stateAfter _ _) mv_X2_stateAfter ln_X1_121 rfl rfl ⟨rfl, rfl, Nat.le_of_ble_eq_true rfl, Nat.le_of_ble_eq_true rfl, Nat.le_of_ble_eq_true rfl⟩ hf (fun r4 M4 hf => ?_)
          obtain ⟨hg, hf⟩ := hf
          refine a_iast C (n := 384) rfl hg dX1_listLegal_146 ?_
          refine a_aloadn C dX1_listLegal_147 rfl ?_
          refine a_getR C 33 fl_X1_27 rfl rfl dX1_listLegal_148 ?_
          refine a_iload C dX1_listLegal_151 rfl ?_
          refine a_aloadn C dX1_listLegal_153 rfl ?_
          refine a_getR C 6 fl_X1_78 rfl rfl dX1_listLegal_154 ?_
          refine a_iloadn C dX1_listLegal_157 rfl ?_
          obtain ⟨hg, hf⟩ := hf
          refine a_iald C (n := 24) rfl hg dX1_listLegal_158 ?_
          refine a_aloadn C dX1_listLegal_159 rfl ?_
          refine a_getR C 8 fl_X1_63 rfl rfl dX1_listLegal_160 ?_
          refine a_iloadn C dX1_listLegal_163 rfl ?_
          refine a_iload C dX1_listLegal_164 rfl ?_
          refine a_callV C [.inl x2, .inl x4] [.inl (M4 6 x1), .inl (wrap ((wrap (x1 * 16)) + x4)), .inr 33] dX1_listLegal_166 (cMa_versionCost _ _) mv_X2_versionCost ln_X1_125 rfl rfl ⟨rfl, rfl, Nat.le_of_ble_eq_true rfl, Nat.le_of_ble_eq_true rfl, Nat.le_of_ble_eq_true rfl⟩ hf (fun r5 M5 hf => ?_)
          refine a_imul C dX1_listLegal_169 ?_
          obtain ⟨hg, hf⟩ := hf
          refine a_iast C (n := 384) rfl hg dX1_listLegal_170 ?_
          refine a_aloadn C dX1_listLegal_171 rfl ?_
          refine a_iloadn C dX1_listLegal_172 rfl ?_
          refine a_aloadn C dX1_listLegal_173 rfl ?_
          refine a_getR C 32 fl_X1_24 rfl rfl dX1_listLegal_174 ?_
          refine a_iload C dX1_listLegal_177 rfl ?_
          obtain ⟨hg, hf⟩ := hf
          refine a_iald C (n := 384) rfl hg dX1_listLegal_179 ?_
          refine a_callV C [.inl x1, .inl (M5 32 (wrap ((wrap (x1 * 16)) + x4)))] [] dX1_listLegal_180 (cCh_listExit _ _) mv_X1_listExit ln_X1_128 rfl rfl ⟨rfl, rfl, Nat.le_of_ble_eq_true rfl, Nat.le_of_ble_eq_true rfl, Nat.le_of_ble_eq_true rfl⟩ hf (fun r6 M6 hf => ?_)
          refine a_drop [true, true, true, true, true, false] (lv2 := [some (.inr 27), some (.inl x1), some (.inl x2), some (.inl x3), some (.inl x4), none]) rfl ?_
          exact sCh_listLegal_183 C X hk55 _ _ _ _ _ hf
        · have hf := hfb hc
          refine a_goto C 183 dX1_listLegal_95 rfl ?_
          exact sCh_listLegal_183 C X hk55 _ _ _ _ _ hf
set_option maxRecDepth 20000 in
set_option maxHeartbeats 4000000 in
theorem sCh_listLegal_51 {E : EE} {R : Int → Mem → Prop} (C : Cx shX 6 cX1_listLegal RX1 3 67 E) (X : Rx shX none R E) (x1 : Int) (x2 : Int) (t0 : Int) (M : Mem) (hf : fCh_listLegal_51  R x1 x2 t0 M) : AW shX 6 E 51 [some (.inr 27), some (.inl x1), some (.inl x2), none, none, none] [.inl t0] M := by
  refine a_istoren C dX1_listLegal_51 (by decide) (lv2 := [some (.inr 27), some (.inl x1), some (.inl x2), some (.inl t0), none, none]) rfl ?_
  refine a_iconst C dX1_listLegal_52 (inr_b rfl) ?_
  refine a_istore C dX1_listLegal_53 (by decide) (lv2 := [some (.inr 27), some (.inl x1), some (.inl x2), some (.inl t0), some (.inl 0), none]) rfl ?_
  obtain ⟨n7, hf⟩ := hf
  exact sCh_listLegal_55 C X  n7 _ _ _ _ _ hf
set_option maxRecDepth 20000 in
set_option maxHeartbeats 4000000 in
theorem cCh_listLegal (x1 : Int) : Snd shX yX1_listLegal cX1_listLegal 6 none 3 67 [.inr 27, .inl x1] (fCh_listLegal x1) := by
  refine Snd.of RX1 (by decide +kernel) rfl (Nat.le_of_ble_eq_true rfl) ?_
  intro E M R hf C X
  show AW shX 6 E 0 [some (.inr 27), some (.inl x1), none, none, none, none] [] M
  refine a_aloadn C dX1_listLegal_0 rfl ?_
  refine a_getR C 29 fl_X1_15 rfl rfl dX1_listLegal_1 ?_
  refine a_iloadn C dX1_listLegal_4 rfl ?_
  refine a_iconst C dX1_listLegal_5 (inr_b rfl) ?_
  obtain ⟨hg, hf⟩ := hf
  refine a_iast C (n := 24) rfl hg dX1_listLegal_6 ?_
  refine a_aloadn C dX1_listLegal_7 rfl ?_
  refine a_getR C 31 fl_X1_21 rfl rfl dX1_listLegal_8 ?_
  refine a_iloadn C dX1_listLegal_11 rfl ?_
  refine a_iconst C dX1_listLegal_12 (inr_b rfl) ?_
  obtain ⟨hg, hf⟩ := hf
  refine a_iast C (n := 24) rfl hg dX1_listLegal_13 ?_
  refine a_aloadn C dX1_listLegal_14 rfl ?_
  refine a_getR C 13 fl_X1_59 rfl rfl dX1_listLegal_15 ?_
  refine a_iloadn C dX1_listLegal_18 rfl ?_
  refine a_callV C [.inl x1] [] dX1_listLegal_19 (cPr_isReached_p _) mv_X3_isReached ln_X1_102 rfl rfl ⟨rfl, rfl, Nat.le_of_ble_eq_true rfl, Nat.le_of_ble_eq_true rfl, Nat.le_of_ble_eq_true rfl⟩ hf (fun r1 M1 hf => ?_)
  obtain ⟨hfa, hfb⟩ := hf
  refine a_if_ne C 26 dX1_listLegal_22 rfl (fun hc => ?_) (fun hc => ?_)
  · have hf := hfa hc
    refine a_aloadn C dX1_listLegal_26 rfl ?_
    refine a_getR C 13 fl_X1_59 rfl rfl dX1_listLegal_27 ?_
    refine a_getR C 14 fl_X1_106 rfl rfl dX1_listLegal_30 ?_
    refine a_iloadn C dX1_listLegal_33 rfl ?_
    obtain ⟨hg, hf⟩ := hf
    refine a_iald C (n := 24) rfl hg dX1_listLegal_34 ?_
    refine a_istoren C dX1_listLegal_35 (by decide) (lv2 := [some (.inr 27), some (.inl x1), some (.inl (M1 14 x1)), none, none, none]) rfl ?_
    refine a_iloadn C dX1_listLegal_36 rfl ?_
    obtain ⟨hfa, hfb⟩ := hf
    refine a_if_ne C 44 dX1_listLegal_37 rfl (fun hc => ?_) (fun hc => ?_)
    · have hf := hfa hc
      refine a_aloadn C dX1_listLegal_44 rfl ?_
      refine a_getR C 8 fl_X1_63 rfl rfl dX1_listLegal_45 ?_
      refine a_getI C (kz := 4) fl_X1_109 rfl rfl rfl dX1_listLegal_48 ?_
      exact sCh_listLegal_51 C X  _ _ _ _ hf
    · have hf := hfb hc
      refine a_iconst C dX1_listLegal_40 (inr_b rfl) ?_
      refine a_goto C 51 dX1_listLegal_41 rfl ?_
      exact sCh_listLegal_51 C X  _ _ _ _ hf
  · have hf := hfb hc
    exact a_vret C X dX1_listLegal_25 hf
set_option maxRecDepth 20000 in
set_option maxHeartbeats 4000000 in
theorem sCh_prepare_11 {E : EE} {R : Int → Mem → Prop} (C : Cx shX 2 cX1_prepare RX1 4 92 E) (X : Rx shX none R E) : ∀ (n : Nat) (x1 : Int) (M : Mem), fCh_prepare_11  R n x1 M → AW shX 2 E 11 [some (.inr 27), some (.inl x1)] [] M := by
  intro n
  induction n with
  | zero => intro x1 M hf; exact hf.elim
  | succ n hk11 =>
    intro x1 M hf
    refine a_iloadn C dX1_prepare_11 rfl ?_
    refine a_aloadn C dX1_prepare_12 rfl ?_
    refine a_getR C 13 fl_X1_59 rfl rfl dX1_prepare_13 ?_
    refine a_getI C (kz := 6) fl_X1_93 rfl rfl rfl dX1_prepare_16 ?_
    obtain ⟨hfa, hfb⟩ := hf
    refine a_icmp_ge C 33 dX1_prepare_19 rfl (fun hc => ?_) (fun hc => ?_)
    · have hf := hfa hc
      refine a_aloadn C dX1_prepare_33 rfl ?_
      refine a_getR C 37 fl_X1_39 rfl rfl dX1_prepare_34 ?_
      refine a_iconst C dX1_prepare_37 (inr_b rfl) ?_
      refine a_iconst C dX1_prepare_38 (inr_b rfl) ?_
      refine a_iast C (n := 24) rfl (inb_b rfl) dX1_prepare_39 ?_
      exact a_vret C X dX1_prepare_40 hf
    · have hf := hfb hc
      refine a_aloadn C dX1_prepare_22 rfl ?_
      refine a_iloadn C dX1_prepare_23 rfl ?_
      refine a_callV C [.inl x1] [] dX1_prepare_24 (cCh_listLegal _) mv_X1_listLegal ln_X1_98 rfl rfl ⟨rfl, rfl, Nat.le_of_ble_eq_true rfl, Nat.le_of_ble_eq_true rfl, Nat.le_of_ble_eq_true rfl⟩ hf (fun r2 M2 hf => ?_)
      refine a_iinc C dX1_prepare_27 rfl (by decide) (lv2 := [some (.inr 27), some (.inl (wrap (x1 + 1)))]) rfl ?_
      refine a_goto C 11 dX1_prepare_30 rfl ?_
      exact hk11 _ _ hf
set_option maxRecDepth 20000 in
set_option maxHeartbeats 4000000 in
theorem cCh_prepare : Snd shX yX1_prepare cX1_prepare 2 none 4 92 [.inr 27] fCh_prepare := by
  refine Snd.of RX1 (by decide +kernel) rfl (Nat.le_of_ble_eq_true rfl) ?_
  intro E M R hf C X
  show AW shX 2 E 0 [some (.inr 27), none] [] M
  refine a_aloadn C dX1_prepare_0 rfl ?_
  refine a_getR C 37 fl_X1_39 rfl rfl dX1_prepare_1 ?_
  refine a_bipush C dX1_prepare_4 bp_m4 ?_
  refine a_callS C [.inr 37, .inl (-4)] [] dX1_prepare_6 (cArr_fill_37 _) ms_J7_fill_53178 ln_X1_87 ⟨rfl, rfl, Nat.le_of_ble_eq_true rfl, Nat.le_of_ble_eq_true rfl, Nat.le_of_ble_eq_true rfl⟩ hf (fun r1 M1 hf => ?_)
  refine a_iconst C dX1_prepare_9 (inr_b rfl) ?_
  refine a_istoren C dX1_prepare_10 (by decide) (lv2 := [some (.inr 27), some (.inl 0)]) rfl ?_
  obtain ⟨n3, hf⟩ := hf
  exact sCh_prepare_11 C X  n3 _ _ hf
set_option maxRecDepth 20000 in
set_option maxHeartbeats 4000000 in
theorem sPr_targetFrom_p_2 {E : EE} {R : Int → Mem → Prop} (C : Cx shX 3 cX3_targetFrom RX3 0 0 E) (X : Rx shX (some .int) R E) : ∀ (n : Nat) (x2 : Int) (M : Mem), fPr_targetFrom_p_2  R n x2 M → AW shX 3 E 2 [some (.inr 13), none, some (.inl x2)] [] M := by
  intro n
  induction n with
  | zero => intro x2 M hf; exact hf.elim
  | succ n hk2 =>
    intro x2 M hf
    refine a_iloadn C dX3_targetFrom_2 rfl ?_
    refine a_aloadn C dX3_targetFrom_3 rfl ?_
    refine a_getI C (kz := 6) fl_X3_31 rfl rfl rfl dX3_targetFrom_4 ?_
    obtain ⟨hfa, hfb⟩ := hf
    refine a_icmp_ge C 27 dX3_targetFrom_7 rfl (fun hc => ?_) (fun hc => ?_)
    · have hf := hfa hc
      refine a_bipush C dX3_targetFrom_27 bp_m4 ?_
      exact a_iret C X dX3_targetFrom_29 hf
    · have hf := hfb hc
      refine a_aloadn C dX3_targetFrom_10 rfl ?_
      refine a_getR C 19 fl_X3_28 rfl rfl dX3_targetFrom_11 ?_
      refine a_iloadn C dX3_targetFrom_14 rfl ?_
      obtain ⟨hg, hf⟩ := hf
      refine a_zald C (n := 24) rfl hg dX3_targetFrom_15 ?_
      obtain ⟨hfa, hfb⟩ := hf
      refine a_if_eq C 21 dX3_targetFrom_16 rfl (fun hc => ?_) (fun hc => ?_)
      · have hf := hfa hc
        refine a_iinc C dX3_targetFrom_21 rfl (by decide) (lv2 := [some (.inr 13), none, some (.inl (wrap (x2 + 1)))]) rfl ?_
        refine a_goto C 2 dX3_targetFrom_24 rfl ?_
        exact hk2 _ _ hf
      · have hf := hfb hc
        refine a_iloadn C dX3_targetFrom_19 rfl ?_
        exact a_iret C X dX3_targetFrom_20 hf
set_option maxRecDepth 20000 in
set_option maxHeartbeats 4000000 in
theorem cPr_targetFrom_p (x1 : Int) : Snd shX yX3_targetFrom cX3_targetFrom 3 (some .int) 0 0 [.inr 13, .inl x1] (fPr_targetFrom_p x1) := by
  refine Snd.of RX3 (by decide +kernel) rfl (Nat.le_of_ble_eq_true rfl) ?_
  intro E M R hf C X
  show AW shX 3 E 0 [some (.inr 13), some (.inl x1), none] [] M
  refine a_iloadn C dX3_targetFrom_0 rfl ?_
  refine a_istoren C dX3_targetFrom_1 (by decide) (lv2 := [some (.inr 13), some (.inl x1), some (.inl x1)]) rfl ?_
  refine a_drop [true, false, true] (lv2 := [some (.inr 13), none, some (.inl x1)]) rfl ?_
  obtain ⟨n1, hf⟩ := hf
  exact sPr_targetFrom_p_2 C X  n1 _ _ hf
set_option maxRecDepth 20000 in
set_option maxHeartbeats 4000000 in
theorem cCh_pinCount (x1 : Int) : Snd shX yX1_pinCount cX1_pinCount 2 (some .int) 0 0 [.inr 27, .inl x1] (fCh_pinCount x1) := by
  refine Snd.of RX1 (by decide +kernel) rfl (Nat.le_of_ble_eq_true rfl) ?_
  intro E M R hf C X
  show AW shX 2 E 0 [some (.inr 27), some (.inl x1)] [] M
  refine a_iloadn C dX1_pinCount_0 rfl ?_
  refine a_bipush C dX1_pinCount_1 bp_m4 ?_
  obtain ⟨hfa, hfb⟩ := hf
  refine a_icmp_ne C 10 dX1_pinCount_3 rfl (fun hc => ?_) (fun hc => ?_)
  · have hf := hfa hc
    refine a_aloadn C dX1_pinCount_10 rfl ?_
    refine a_getR C 29 fl_X1_15 rfl rfl dX1_pinCount_11 ?_
    refine a_iloadn C dX1_pinCount_14 rfl ?_
    obtain ⟨hg, hf⟩ := hf
    refine a_iald C (n := 24) rfl hg dX1_pinCount_15 ?_
    exact a_iret C X dX1_pinCount_16 hf
  · have hf := hfb hc
    refine a_iconst C dX1_pinCount_6 (inr_b rfl) ?_
    refine a_goto C 16 dX1_pinCount_7 rfl ?_
    exact a_iret C X dX1_pinCount_16 hf
set_option maxRecDepth 20000 in
set_option maxHeartbeats 4000000 in
theorem cCh_pin (x1 x2 : Int) : Snd shX yX1_pin cX1_pin 3 none 0 0 [.inr 27, .inl x1, .inl x2] (fCh_pin x1 x2) := by
  refine Snd.of RX1 (by decide +kernel) rfl (Nat.le_of_ble_eq_true rfl) ?_
  intro E M R hf C X
  show AW shX 3 E 0 [some (.inr 27), some (.inl x1), some (.inl x2)] [] M
  refine a_iloadn C dX1_pin_0 rfl ?_
  refine a_bipush C dX1_pin_1 bp_m4 ?_
  obtain ⟨hfa, hfb⟩ := hf
  refine a_icmp_eq C 29 dX1_pin_3 rfl (fun hc => ?_) (fun hc => ?_)
  · have hf := hfa hc
    exact a_vret C X dX1_pin_29 hf
  · have hf := hfb hc
    refine a_iloadn C dX1_pin_6 rfl ?_
    refine a_bipush C dX1_pin_7 bp_m4 ?_
    obtain ⟨hfa, hfb⟩ := hf
    refine a_icmp_eq C 29 dX1_pin_9 rfl (fun hc => ?_) (fun hc => ?_)
    · have hf := hfa hc
      exact a_vret C X dX1_pin_29 hf
    · have hf := hfb hc
      refine a_aloadn C dX1_pin_12 rfl ?_
      refine a_getR C 37 fl_X1_39 rfl rfl dX1_pin_13 ?_
      refine a_iloadn C dX1_pin_16 rfl ?_
      refine a_aloadn C dX1_pin_17 rfl ?_
      refine a_getR C 28 fl_X1_11 rfl rfl dX1_pin_18 ?_
      refine a_iloadn C dX1_pin_21 rfl ?_
      refine a_bipush C dX1_pin_22 bp_16 ?_
      refine a_imul C dX1_pin_24 ?_
      refine a_iloadn C dX1_pin_25 rfl ?_
      refine a_iadd C dX1_pin_26 ?_
      obtain ⟨hg, hf⟩ := hf
      refine a_iald C (n := 384) rfl hg dX1_pin_27 ?_
      obtain ⟨hg, hf⟩ := hf
      refine a_iast C (n := 24) rfl hg dX1_pin_28 ?_
      exact a_vret C X dX1_pin_29 hf
set_option maxRecDepth 20000 in
set_option maxHeartbeats 4000000 in
theorem cCh_leading (x1 x2 : Int) : Snd shX yX1_leading cX1_leading 3 (some .int) 1 21 [.inr 27, .inl x1, .inl x2] (fCh_leading x1 x2) := by
  refine Snd.of RX1 (by decide +kernel) rfl (Nat.le_of_ble_eq_true rfl) ?_
  intro E M R hf C X
  show AW shX 3 E 0 [some (.inr 27), some (.inl x1), some (.inl x2)] [] M
  refine a_aloadn C dX1_leading_0 rfl ?_
  refine a_getR C 13 fl_X1_59 rfl rfl dX1_leading_1 ?_
  refine a_iloadn C dX1_leading_4 rfl ?_
  refine a_callV C [.inl x1] [] dX1_leading_5 (cPr_leads_p _) mv_X3_leads ln_X1_166 rfl rfl ⟨rfl, rfl, Nat.le_of_ble_eq_true rfl, Nat.le_of_ble_eq_true rfl, Nat.le_of_ble_eq_true rfl⟩ hf (fun r1 M1 hf => ?_)
  obtain ⟨hfa, hfb⟩ := hf
  refine a_if_ne C 13 dX1_leading_8 rfl (fun hc => ?_) (fun hc => ?_)
  · have hf := hfa hc
    refine a_aloadn C dX1_leading_13 rfl ?_
    refine a_getR C 6 fl_X1_78 rfl rfl dX1_leading_14 ?_
    refine a_iloadn C dX1_leading_17 rfl ?_
    obtain ⟨hg, hf⟩ := hf
    refine a_iald C (n := 24) rfl hg dX1_leading_18 ?_
    refine a_aloadn C dX1_leading_19 rfl ?_
    refine a_getR C 12 fl_X1_72 rfl rfl dX1_leading_20 ?_
    refine a_iloadn C dX1_leading_23 rfl ?_
    refine a_bipush C dX1_leading_24 bp_16 ?_
    refine a_imul C dX1_leading_26 ?_
    refine a_aloadn C dX1_leading_27 rfl ?_
    refine a_getR C 37 fl_X1_39 rfl rfl dX1_leading_28 ?_
    refine a_aloadn C dX1_leading_31 rfl ?_
    refine a_getR C 13 fl_X1_59 rfl rfl dX1_leading_32 ?_
    refine a_getR C 15 fl_X1_169 rfl rfl dX1_leading_35 ?_
    refine a_iloadn C dX1_leading_38 rfl ?_
    obtain ⟨hg, hf⟩ := hf
    refine a_iald C (n := 24) rfl hg dX1_leading_39 ?_
    obtain ⟨hg, hf⟩ := hf
    refine a_iald C (n := 24) rfl hg dX1_leading_40 ?_
    refine a_iadd C dX1_leading_41 ?_
    obtain ⟨hg, hf⟩ := hf
    refine a_iald C (n := 256) rfl hg dX1_leading_42 ?_
    refine a_imul C dX1_leading_43 ?_
    exact a_iret C X dX1_leading_44 hf
  · have hf := hfb hc
    refine a_iconst C dX1_leading_11 (inr_b rfl) ?_
    exact a_iret C X dX1_leading_12 hf
set_option maxRecDepth 20000 in
set_option maxHeartbeats 4000000 in
theorem cCh_fallingTo (x1 x2 x3 : Int) : Snd shX yX1_fallingTo cX1_fallingTo 4 (some .int) 0 0 [.inr 27, .inl x1, .inl x2, .inl x3] (fCh_fallingTo x1 x2 x3) := by
  refine Snd.of RX1 (by decide +kernel) rfl (Nat.le_of_ble_eq_true rfl) ?_
  intro E M R hf C X
  show AW shX 4 E 0 [some (.inr 27), some (.inl x1), some (.inl x2), some (.inl x3)] [] M
  refine a_aloadn C dX1_fallingTo_0 rfl ?_
  refine a_getR C 6 fl_X1_78 rfl rfl dX1_fallingTo_1 ?_
  refine a_iloadn C dX1_fallingTo_4 rfl ?_
  obtain ⟨hg, hf⟩ := hf
  refine a_iald C (n := 24) rfl hg dX1_fallingTo_5 ?_
  refine a_aloadn C dX1_fallingTo_6 rfl ?_
  refine a_getR C 12 fl_X1_72 rfl rfl dX1_fallingTo_7 ?_
  refine a_iloadn C dX1_fallingTo_10 rfl ?_
  refine a_bipush C dX1_fallingTo_11 bp_16 ?_
  refine a_imul C dX1_fallingTo_13 ?_
  refine a_iloadn C dX1_fallingTo_14 rfl ?_
  refine a_iadd C dX1_fallingTo_15 ?_
  obtain ⟨hg, hf⟩ := hf
  refine a_iald C (n := 256) rfl hg dX1_fallingTo_16 ?_
  refine a_imul C dX1_fallingTo_17 ?_
  refine a_aloadn C dX1_fallingTo_18 rfl ?_
  refine a_getR C 34 fl_X1_30 rfl rfl dX1_fallingTo_19 ?_
  refine a_iloadn C dX1_fallingTo_22 rfl ?_
  refine a_iconst C dX1_fallingTo_23 (inr_b rfl) ?_
  refine a_iadd C dX1_fallingTo_24 ?_
  refine a_bipush C dX1_fallingTo_25 bp_16 ?_
  refine a_imul C dX1_fallingTo_27 ?_
  refine a_iloadn C dX1_fallingTo_28 rfl ?_
  refine a_iadd C dX1_fallingTo_29 ?_
  obtain ⟨hg, hf⟩ := hf
  refine a_iald C (n := 384) rfl hg dX1_fallingTo_30 ?_
  refine a_iadd C dX1_fallingTo_31 ?_
  exact a_iret C X dX1_fallingTo_32 hf
set_option maxRecDepth 20000 in
set_option maxHeartbeats 4000000 in
theorem sCh_falling_122 {E : EE} {R : Int → Mem → Prop} (C : Cx shX 11 cX1_falling RX1 1 23 E) (X : Rx shX (some .int) R E) {k70 : Int → Int → Int → Int → Int → Int → Mem → Prop} (hk70 : ∀ (x3 : Int) (x4 : Int) (x5 : Int) (x6 : Int) (x7 : Int) (x8 : Int) (M : Mem), k70 x3 x4 x5 x6 x7 x8 M → AW shX 11 E 70 [some (.inr 27), none, none, some (.inl x3), some (.inl x4), some (.inl x5), some (.inl x6), some (.inl x7), some (.inl x8), none, none] [] M) (x3 : Int) (x4 : Int) (x5 : Int) (x6 : Int) (x7 : Int) (x8 : Int) (M : Mem) (hf : fCh_falling_122 k70 R x3 x4 x5 x6 x7 x8 M) : AW shX 11 E 122 [some (.inr 27), none, none, some (.inl x3), some (.inl x4), some (.inl x5), some (.inl x6), some (.inl x7), some (.inl x8), none, none] [] M := by
  refine a_iinc C dX1_falling_122 rfl (by decide) (lv2 := [some (.inr 27), none, none, some (.inl x3), some (.inl x4), some (.inl x5), some (.inl x6), some (.inl x7), some (.inl (wrap (x8 + 1))), none, none]) rfl ?_
  refine a_goto C 70 dX1_falling_125 rfl ?_
  exact hk70 _ _ _ _ _ _ _ hf
set_option maxRecDepth 20000 in
set_option maxHeartbeats 4000000 in
theorem sCh_falling_70 {E : EE} {R : Int → Mem → Prop} (C : Cx shX 11 cX1_falling RX1 1 23 E) (X : Rx shX (some .int) R E) : ∀ (n : Nat) (x3 : Int) (x4 : Int) (x5 : Int) (x6 : Int) (x7 : Int) (x8 : Int) (M : Mem), fCh_falling_70  R n x3 x4 x5 x6 x7 x8 M → AW shX 11 E 70 [some (.inr 27), none, none, some (.inl x3), some (.inl x4), some (.inl x5), some (.inl x6), some (.inl x7), some (.inl x8), none, none] [] M := by
  intro n
  induction n with
  | zero => intro x3 x4 x5 x6 x7 x8 M hf; exact hf.elim
  | succ n hk70 =>
    intro x3 x4 x5 x6 x7 x8 M hf
    refine a_iload C dX1_falling_70 rfl ?_
    refine a_iload C dX1_falling_72 rfl ?_
    obtain ⟨hfa, hfb⟩ := hf
    refine a_icmp_ge C 128 dX1_falling_74 rfl (fun hc => ?_) (fun hc => ?_)
    · have hf := hfa hc
      refine a_iload C dX1_falling_128 rfl ?_
      exact a_iret C X dX1_falling_130 hf
    · have hf := hfb hc
      refine a_aloadn C dX1_falling_77 rfl ?_
      refine a_getR C 28 fl_X1_11 rfl rfl dX1_falling_78 ?_
      refine a_iload C dX1_falling_81 rfl ?_
      obtain ⟨hg, hf⟩ := hf
      refine a_iald C (n := 384) rfl hg dX1_falling_83 ?_
      refine a_istore C dX1_falling_84 (by decide) (lv2 := [some (.inr 27), none, none, some (.inl x3), some (.inl x4), some (.inl x5), some (.inl x6), some (.inl x7), some (.inl x8), some (.inl (M 28 x8)), none]) rfl ?_
      refine a_iloadn C dX1_falling_86 rfl ?_
      refine a_aloadn C dX1_falling_87 rfl ?_
      refine a_getR C 12 fl_X1_72 rfl rfl dX1_falling_88 ?_
      refine a_iload C dX1_falling_91 rfl ?_
      refine a_iload C dX1_falling_93 rfl ?_
      refine a_iadd C dX1_falling_95 ?_
      obtain ⟨hg, hf⟩ := hf
      refine a_iald C (n := 256) rfl hg dX1_falling_96 ?_
      refine a_imul C dX1_falling_97 ?_
      refine a_aloadn C dX1_falling_98 rfl ?_
      refine a_getR C 34 fl_X1_30 rfl rfl dX1_falling_99 ?_
      refine a_iload C dX1_falling_102 rfl ?_
      refine a_iload C dX1_falling_104 rfl ?_
      refine a_iadd C dX1_falling_106 ?_
      obtain ⟨hg, hf⟩ := hf
      refine a_iald C (n := 384) rfl hg dX1_falling_107 ?_
      refine a_iadd C dX1_falling_108 ?_
      refine a_istore C dX1_falling_109 (by decide) (lv2 := [some (.inr 27), none, none, some (.inl x3), some (.inl x4), some (.inl x5), some (.inl x6), some (.inl x7), some (.inl x8), some (.inl (M 28 x8)), some (.inl (wrap ((wrap (x3 * (M 12 (wrap (x4 + (M 28 x8)))))) + (M 34 (wrap (x5 + (M 28 x8)))))))]) rfl ?_
      refine a_iload C dX1_falling_111 rfl ?_
      refine a_iload C dX1_falling_113 rfl ?_
      obtain ⟨hfa, hfb⟩ := hf
      refine a_icmp_ge C 122 dX1_falling_115 rfl (fun hc => ?_) (fun hc => ?_)
      · have hf := hfa hc
        refine a_drop [true, true, true, true, true, true, true, true, true, false, false] (lv2 := [some (.inr 27), none, none, some (.inl x3), some (.inl x4), some (.inl x5), some (.inl x6), some (.inl x7), some (.inl x8), none, none]) rfl ?_
        exact sCh_falling_122 C X hk70 _ _ _ _ _ _ _ hf
      · have hf := hfb hc
        refine a_iload C dX1_falling_118 rfl ?_
        refine a_istore C dX1_falling_120 (by decide) (lv2 := [some (.inr 27), none, none, some (.inl x3), some (.inl x4), some (.inl x5), some (.inl x6), some (.inl (wrap ((wrap (x3 * (M 12 (wrap (x4 + (M 28 x8)))))) + (M 34 (wrap (x5 + (M 28 x8))))))), some (.inl x8), some (.inl (M 28 x8)), some (.inl (wrap ((wrap (x3 * (M 12 (wrap (x4 + (M 28 x8)))))) + (M 34 (wrap (x5 + (M 28 x8)))))))]) rfl ?_
        refine a_drop [true, true, true, true, true, true, true, true, true, false, false] (lv2 := [some (.inr 27), none, none, some (.inl x3), some (.inl x4), some (.inl x5), some (.inl x6), some (.inl (wrap ((wrap (x3 * (M 12 (wrap (x4 + (M 28 x8)))))) + (M 34 (wrap (x5 + (M 28 x8))))))), some (.inl x8), none, none]) rfl ?_
        exact sCh_falling_122 C X hk70 _ _ _ _ _ _ _ hf
set_option maxRecDepth 20000 in
set_option maxHeartbeats 4000000 in
theorem cCh_falling (x1 x2 : Int) : Snd shX yX1_falling cX1_falling 11 (some .int) 1 23 [.inr 27, .inl x1, .inl x2] (fCh_falling x1 x2) := by
  refine Snd.of RX1 (by decide +kernel) rfl (Nat.le_of_ble_eq_true rfl) ?_
  intro E M R hf C X
  show AW shX 11 E 0 [some (.inr 27), some (.inl x1), some (.inl x2), none, none, none, none, none, none, none, none] [] M
  refine a_aloadn C dX1_falling_0 rfl ?_
  refine a_getR C 37 fl_X1_39 rfl rfl dX1_falling_1 ?_
  refine a_iloadn C dX1_falling_4 rfl ?_
  refine a_iconst C dX1_falling_5 (inr_b rfl) ?_
  refine a_iadd C dX1_falling_6 ?_
  obtain ⟨hg, hf⟩ := hf
  refine a_iald C (n := 24) rfl hg dX1_falling_7 ?_
  refine a_bipush C dX1_falling_8 bp_m4 ?_
  obtain ⟨hfa, hfb⟩ := hf
  refine a_icmp_eq C 28 dX1_falling_10 rfl (fun hc => ?_) (fun hc => ?_)
  · have hf := hfa hc
    refine a_aloadn C dX1_falling_28 rfl ?_
    refine a_getR C 6 fl_X1_78 rfl rfl dX1_falling_29 ?_
    refine a_iloadn C dX1_falling_32 rfl ?_
    obtain ⟨hg, hf⟩ := hf
    refine a_iald C (n := 24) rfl hg dX1_falling_33 ?_
    refine a_istoren C dX1_falling_34 (by decide) (lv2 := [some (.inr 27), some (.inl x1), some (.inl x2), some (.inl (M 6 x1)), none, none, none, none, none, none, none]) rfl ?_
    refine a_iloadn C dX1_falling_35 rfl ?_
    refine a_bipush C dX1_falling_36 bp_16 ?_
    refine a_imul C dX1_falling_38 ?_
    refine a_istore C dX1_falling_39 (by decide) (lv2 := [some (.inr 27), some (.inl x1), some (.inl x2), some (.inl (M 6 x1)), some (.inl (wrap (x2 * 16))), none, none, none, none, none, none]) rfl ?_
    refine a_iloadn C dX1_falling_41 rfl ?_
    refine a_iconst C dX1_falling_42 (inr_b rfl) ?_
    refine a_iadd C dX1_falling_43 ?_
    refine a_bipush C dX1_falling_44 bp_16 ?_
    refine a_imul C dX1_falling_46 ?_
    refine a_istore C dX1_falling_47 (by decide) (lv2 := [some (.inr 27), some (.inl x1), some (.inl x2), some (.inl (M 6 x1)), some (.inl (wrap (x2 * 16))), some (.inl (wrap ((wrap (x1 + 1)) * 16))), none, none, none, none, none]) rfl ?_
    refine a_iload C dX1_falling_49 rfl ?_
    refine a_aloadn C dX1_falling_51 rfl ?_
    refine a_getR C 29 fl_X1_15 rfl rfl dX1_falling_52 ?_
    refine a_iloadn C dX1_falling_55 rfl ?_
    refine a_iconst C dX1_falling_56 (inr_b rfl) ?_
    refine a_iadd C dX1_falling_57 ?_
    obtain ⟨hg, hf⟩ := hf
    refine a_iald C (n := 24) rfl hg dX1_falling_58 ?_
    refine a_iadd C dX1_falling_59 ?_
    refine a_istore C dX1_falling_60 (by decide) (lv2 := [some (.inr 27), some (.inl x1), some (.inl x2), some (.inl (M 6 x1)), some (.inl (wrap (x2 * 16))), some (.inl (wrap ((wrap (x1 + 1)) * 16))), some (.inl (wrap ((wrap ((wrap (x1 + 1)) * 16)) + (M 29 (wrap (x1 + 1)))))), none, none, none, none]) rfl ?_
    refine a_ldc C dX1_falling_62 ct_X1_86 (inr_b rfl) ?_
    refine a_istore C dX1_falling_64 (by decide) (lv2 := [some (.inr 27), some (.inl x1), some (.inl x2), some (.inl (M 6 x1)), some (.inl (wrap (x2 * 16))), some (.inl (wrap ((wrap (x1 + 1)) * 16))), some (.inl (wrap ((wrap ((wrap (x1 + 1)) * 16)) + (M 29 (wrap (x1 + 1)))))), some (.inl 1000000000), none, none, none]) rfl ?_
    refine a_iload C dX1_falling_66 rfl ?_
    refine a_istore C dX1_falling_68 (by decide) (lv2 := [some (.inr 27), some (.inl x1), some (.inl x2), some (.inl (M 6 x1)), some (.inl (wrap (x2 * 16))), some (.inl (wrap ((wrap (x1 + 1)) * 16))), some (.inl (wrap ((wrap ((wrap (x1 + 1)) * 16)) + (M 29 (wrap (x1 + 1)))))), some (.inl 1000000000), some (.inl (wrap ((wrap (x1 + 1)) * 16))), none, none]) rfl ?_
    refine a_drop [true, false, false, true, true, true, true, true, true, true, true] (lv2 := [some (.inr 27), none, none, some (.inl (M 6 x1)), some (.inl (wrap (x2 * 16))), some (.inl (wrap ((wrap (x1 + 1)) * 16))), some (.inl (wrap ((wrap ((wrap (x1 + 1)) * 16)) + (M 29 (wrap (x1 + 1)))))), some (.inl 1000000000), some (.inl (wrap ((wrap (x1 + 1)) * 16))), none, none]) rfl ?_
    obtain ⟨n1, hf⟩ := hf
    exact sCh_falling_70 C X  n1 _ _ _ _ _ _ _ hf
  · have hf := hfb hc
    refine a_aloadn C dX1_falling_13 rfl ?_
    refine a_iloadn C dX1_falling_14 rfl ?_
    refine a_iloadn C dX1_falling_15 rfl ?_
    refine a_aloadn C dX1_falling_16 rfl ?_
    refine a_getR C 37 fl_X1_39 rfl rfl dX1_falling_17 ?_
    refine a_iloadn C dX1_falling_20 rfl ?_
    refine a_iconst C dX1_falling_21 (inr_b rfl) ?_
    refine a_iadd C dX1_falling_22 ?_
    obtain ⟨hg, hf⟩ := hf
    refine a_iald C (n := 24) rfl hg dX1_falling_23 ?_
    refine a_callV C [.inl x1, .inl x2, .inl (M 37 (wrap (x1 + 1)))] [] dX1_falling_24 (cCh_fallingTo _ _ _) mv_X1_fallingTo ln_X1_172 rfl rfl ⟨rfl, rfl, Nat.le_of_ble_eq_true rfl, Nat.le_of_ble_eq_true rfl, Nat.le_of_ble_eq_true rfl⟩ hf (fun r2 M2 hf => ?_)
    exact a_iret C X dX1_falling_27 hf
