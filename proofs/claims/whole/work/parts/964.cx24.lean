set_option maxRecDepth 20000 in
set_option maxHeartbeats 4000000 in
theorem cRu_pop : Snd shX yX4_pop cX4_pop 1 (some .int) 0 0 [.inr 40] fRu_pop := by
  refine Snd.of RX4 (by decide +kernel) rfl (Nat.le_of_ble_eq_true rfl) ?_
  intro E M R hf C X
  show AW shX 1 E 0 [some (.inr 40)] [] M
  refine a_aloadn C dX4_pop_0 rfl ?_
  refine a_getI C (kz := 11) fl_X4_38 rfl rfl rfl dX4_pop_1 ?_
  obtain ⟨hfa, hfb⟩ := hf
  refine a_if_le C 26 dX4_pop_4 rfl (fun hc => ?_) (fun hc => ?_)
  · have hf := hfa hc
    refine a_iconst C dX4_pop_26 (inr_b rfl) ?_
    exact a_iret C X dX4_pop_27 hf
  · have hf := hfb hc
    refine a_aloadn C dX4_pop_7 rfl ?_
    refine a_getR C 41 fl_X4_9 rfl rfl dX4_pop_8 ?_
    refine a_aloadn C dX4_pop_11 rfl ?_
    refine a_dup C dX4_pop_12 ?_
    refine a_getI C (kz := 11) fl_X4_38 rfl rfl rfl dX4_pop_13 ?_
    refine a_iconst C dX4_pop_16 (inr_b rfl) ?_
    refine a_isub C dX4_pop_17 ?_
    refine a_dup_x1 C dX4_pop_18 ?_
    refine a_putI C (kz := 11) fp_X4_38 rfl rfl rfl dX4_pop_19 ?_
    obtain ⟨hg, hf⟩ := hf
    refine a_iald C (n := 12) rfl hg dX4_pop_22 ?_
    refine a_goto C 27 dX4_pop_23 rfl ?_
    exact a_iret C X dX4_pop_27 hf
set_option maxRecDepth 20000 in
set_option maxHeartbeats 4000000 in
theorem cRu_calculate (x1 : Int) : Snd shX yX4_calculate cX4_calculate 4 none 1 21 [.inr 40, .inl x1] (fRu_calculate x1) := by
  refine Snd.of RX4 (by decide +kernel) rfl (Nat.le_of_ble_eq_true rfl) ?_
  intro E M R hf C X
  show AW shX 4 E 0 [some (.inr 40), some (.inl x1), none, none] [] M
  refine a_aloadn C dX4_calculate_0 rfl ?_
  refine a_callV C [] [] dX4_calculate_1 (cRu_pop) mv_X4_pop ln_X4_97 rfl rfl ⟨rfl, rfl, Nat.le_of_ble_eq_true rfl, Nat.le_of_ble_eq_true rfl, Nat.le_of_ble_eq_true rfl⟩ hf (fun r1 M1 hf => ?_)
  refine a_istoren C dX4_calculate_4 (by decide) (lv2 := [some (.inr 40), some (.inl x1), some (.inl r1), none]) rfl ?_
  refine a_aloadn C dX4_calculate_5 rfl ?_
  refine a_callV C [] [] dX4_calculate_6 (cRu_pop) mv_X4_pop ln_X4_97 rfl rfl ⟨rfl, rfl, Nat.le_of_ble_eq_true rfl, Nat.le_of_ble_eq_true rfl, Nat.le_of_ble_eq_true rfl⟩ hf (fun r2 M2 hf => ?_)
  refine a_istoren C dX4_calculate_9 (by decide) (lv2 := [some (.inr 40), some (.inl x1), some (.inl r1), some (.inl r2)]) rfl ?_
  refine a_iloadn C dX4_calculate_10 rfl ?_
  refine a_iconst C dX4_calculate_11 (inr_b rfl) ?_
  obtain ⟨hfa, hfb⟩ := hf
  refine a_icmp_ne C 25 dX4_calculate_12 rfl (fun hc => ?_) (fun hc => ?_)
  · have hf := hfa hc
    refine a_iloadn C dX4_calculate_25 rfl ?_
    refine a_iconst C dX4_calculate_26 (inr_b rfl) ?_
    obtain ⟨hfa, hfb⟩ := hf
    refine a_icmp_ne C 40 dX4_calculate_27 rfl (fun hc => ?_) (fun hc => ?_)
    · have hf := hfa hc
      refine a_aloadn C dX4_calculate_40 rfl ?_
      refine a_iloadn C dX4_calculate_41 rfl ?_
      refine a_iloadn C dX4_calculate_42 rfl ?_
      refine a_imul C dX4_calculate_43 ?_
      refine a_callV C [.inl (wrap (r2 * r1))] [] dX4_calculate_44 (cRu_push _) mv_X4_push ln_X4_101 rfl rfl ⟨rfl, rfl, Nat.le_of_ble_eq_true rfl, Nat.le_of_ble_eq_true rfl, Nat.le_of_ble_eq_true rfl⟩ hf (fun r3 M3 hf => ?_)
      exact a_vret C X dX4_calculate_47 hf
    · have hf := hfb hc
      refine a_aloadn C dX4_calculate_30 rfl ?_
      refine a_iloadn C dX4_calculate_31 rfl ?_
      refine a_iloadn C dX4_calculate_32 rfl ?_
      refine a_isub C dX4_calculate_33 ?_
      refine a_callV C [.inl (wrap (r2 - r1))] [] dX4_calculate_34 (cRu_push _) mv_X4_push ln_X4_101 rfl rfl ⟨rfl, rfl, Nat.le_of_ble_eq_true rfl, Nat.le_of_ble_eq_true rfl, Nat.le_of_ble_eq_true rfl⟩ hf (fun r4 M4 hf => ?_)
      refine a_goto C 47 dX4_calculate_37 rfl ?_
      exact a_vret C X dX4_calculate_47 hf
  · have hf := hfb hc
    refine a_aloadn C dX4_calculate_15 rfl ?_
    refine a_iloadn C dX4_calculate_16 rfl ?_
    refine a_iloadn C dX4_calculate_17 rfl ?_
    refine a_iadd C dX4_calculate_18 ?_
    refine a_callV C [.inl (wrap (r2 + r1))] [] dX4_calculate_19 (cRu_push _) mv_X4_push ln_X4_101 rfl rfl ⟨rfl, rfl, Nat.le_of_ble_eq_true rfl, Nat.le_of_ble_eq_true rfl, Nat.le_of_ble_eq_true rfl⟩ hf (fun r5 M5 hf => ?_)
    refine a_goto C 47 dX4_calculate_22 rfl ?_
    exact a_vret C X dX4_calculate_47 hf
set_option maxRecDepth 20000 in
set_option maxHeartbeats 4000000 in
theorem sRu_rearrange_73 {E : EE} {R : Int → Mem → Prop} (C : Cx shX 5 cX4_rearrange RX4 1 21 E) (X : Rx shX none R E) (x2 : Int) (x3 : Int) (M : Mem) (hf : fRu_rearrange_73  R x2 x3 M) : AW shX 5 E 73 [some (.inr 40), none, some (.inl x2), some (.inl x3), none] [] M := by
  have hf : fRu_push x2 M (fun r3 M3 => fRu_push x3 M3 (fun r4 M4 => R 0 M4)) := hf
  refine a_aloadn C dX4_rearrange_73 rfl ?_
  refine a_iloadn C dX4_rearrange_74 rfl ?_
  refine a_callV C [.inl x2] [] dX4_rearrange_75 (cRu_push _) mv_X4_push ln_X4_101 rfl rfl ⟨rfl, rfl, Nat.le_of_ble_eq_true rfl, Nat.le_of_ble_eq_true rfl, Nat.le_of_ble_eq_true rfl⟩ hf (fun r3 M3 hf => ?_)
  refine a_aloadn C dX4_rearrange_78 rfl ?_
  refine a_iloadn C dX4_rearrange_79 rfl ?_
  refine a_callV C [.inl x3] [] dX4_rearrange_80 (cRu_push _) mv_X4_push ln_X4_101 rfl rfl ⟨rfl, rfl, Nat.le_of_ble_eq_true rfl, Nat.le_of_ble_eq_true rfl, Nat.le_of_ble_eq_true rfl⟩ hf (fun r4 M4 hf => ?_)
  exact a_vret C X dX4_rearrange_83 hf
set_option maxRecDepth 20000 in
set_option maxHeartbeats 4000000 in
theorem cRu_rearrange (x1 : Int) : Snd shX yX4_rearrange cX4_rearrange 5 none 1 21 [.inr 40, .inl x1] (fRu_rearrange x1) := by
  refine Snd.of RX4 (by decide +kernel) rfl (Nat.le_of_ble_eq_true rfl) ?_
  intro E M R hf C X
  show AW shX 5 E 0 [some (.inr 40), some (.inl x1), none, none, none] [] M
  refine a_aloadn C dX4_rearrange_0 rfl ?_
  refine a_callV C [] [] dX4_rearrange_1 (cRu_pop) mv_X4_pop ln_X4_97 rfl rfl ⟨rfl, rfl, Nat.le_of_ble_eq_true rfl, Nat.le_of_ble_eq_true rfl, Nat.le_of_ble_eq_true rfl⟩ hf (fun r1 M1 hf => ?_)
  refine a_istoren C dX4_rearrange_4 (by decide) (lv2 := [some (.inr 40), some (.inl x1), some (.inl r1), none, none]) rfl ?_
  refine a_iloadn C dX4_rearrange_5 rfl ?_
  refine a_bipush C dX4_rearrange_6 bp_6 ?_
  obtain ⟨hfa, hfb⟩ := hf
  refine a_icmp_ne C 12 dX4_rearrange_8 rfl (fun hc => ?_) (fun hc => ?_)
  · have hf := hfa hc
    refine a_iloadn C dX4_rearrange_12 rfl ?_
    refine a_iconst C dX4_rearrange_13 (inr_b rfl) ?_
    obtain ⟨hfa, hfb⟩ := hf
    refine a_icmp_ne C 28 dX4_rearrange_14 rfl (fun hc => ?_) (fun hc => ?_)
    · have hf := hfa hc
      refine a_aloadn C dX4_rearrange_28 rfl ?_
      refine a_callV C [] [] dX4_rearrange_29 (cRu_pop) mv_X4_pop ln_X4_97 rfl rfl ⟨rfl, rfl, Nat.le_of_ble_eq_true rfl, Nat.le_of_ble_eq_true rfl, Nat.le_of_ble_eq_true rfl⟩ hf (fun r2 M2 hf => ?_)
      refine a_istoren C dX4_rearrange_32 (by decide) (lv2 := [some (.inr 40), some (.inl x1), some (.inl r1), some (.inl r2), none]) rfl ?_
      refine a_iloadn C dX4_rearrange_33 rfl ?_
      refine a_bipush C dX4_rearrange_34 bp_8 ?_
      obtain ⟨hfa, hfb⟩ := hf
      refine a_icmp_ne C 62 dX4_rearrange_36 rfl (fun hc => ?_) (fun hc => ?_)
      · have hf := hfa hc
        refine a_iloadn C dX4_rearrange_62 rfl ?_
        refine a_bipush C dX4_rearrange_63 bp_7 ?_
        obtain ⟨hfa, hfb⟩ := hf
        refine a_icmp_ne C 73 dX4_rearrange_65 rfl (fun hc => ?_) (fun hc => ?_)
        · have hf := hfa hc
          refine a_drop [true, false, true, true, true] (lv2 := [some (.inr 40), none, some (.inl r1), some (.inl r2), none]) rfl ?_
          exact sRu_rearrange_73 C X  _ _ _ hf
        · have hf := hfb hc
          refine a_aloadn C dX4_rearrange_68 rfl ?_
          refine a_iloadn C dX4_rearrange_69 rfl ?_
          refine a_callV C [.inl r2] [] dX4_rearrange_70 (cRu_push _) mv_X4_push ln_X4_101 rfl rfl ⟨rfl, rfl, Nat.le_of_ble_eq_true rfl, Nat.le_of_ble_eq_true rfl, Nat.le_of_ble_eq_true rfl⟩ hf (fun r5 M5 hf => ?_)
          refine a_drop [true, false, true, true, true] (lv2 := [some (.inr 40), none, some (.inl r1), some (.inl r2), none]) rfl ?_
          exact sRu_rearrange_73 C X  _ _ _ hf
      · have hf := hfb hc
        refine a_aloadn C dX4_rearrange_39 rfl ?_
        refine a_callV C [] [] dX4_rearrange_40 (cRu_pop) mv_X4_pop ln_X4_97 rfl rfl ⟨rfl, rfl, Nat.le_of_ble_eq_true rfl, Nat.le_of_ble_eq_true rfl, Nat.le_of_ble_eq_true rfl⟩ hf (fun r6 M6 hf => ?_)
        refine a_istore C dX4_rearrange_43 (by decide) (lv2 := [some (.inr 40), some (.inl x1), some (.inl r1), some (.inl r2), some (.inl r6)]) rfl ?_
        refine a_aloadn C dX4_rearrange_45 rfl ?_
        refine a_iloadn C dX4_rearrange_46 rfl ?_
        refine a_callV C [.inl r2] [] dX4_rearrange_47 (cRu_push _) mv_X4_push ln_X4_101 rfl rfl ⟨rfl, rfl, Nat.le_of_ble_eq_true rfl, Nat.le_of_ble_eq_true rfl, Nat.le_of_ble_eq_true rfl⟩ hf (fun r7 M7 hf => ?_)
        refine a_aloadn C dX4_rearrange_50 rfl ?_
        refine a_iloadn C dX4_rearrange_51 rfl ?_
        refine a_callV C [.inl r1] [] dX4_rearrange_52 (cRu_push _) mv_X4_push ln_X4_101 rfl rfl ⟨rfl, rfl, Nat.le_of_ble_eq_true rfl, Nat.le_of_ble_eq_true rfl, Nat.le_of_ble_eq_true rfl⟩ hf (fun r8 M8 hf => ?_)
        refine a_aloadn C dX4_rearrange_55 rfl ?_
        refine a_iload C dX4_rearrange_56 rfl ?_
        refine a_callV C [.inl r6] [] dX4_rearrange_58 (cRu_push _) mv_X4_push ln_X4_101 rfl rfl ⟨rfl, rfl, Nat.le_of_ble_eq_true rfl, Nat.le_of_ble_eq_true rfl, Nat.le_of_ble_eq_true rfl⟩ hf (fun r9 M9 hf => ?_)
        exact a_vret C X dX4_rearrange_61 hf
    · have hf := hfb hc
      refine a_aloadn C dX4_rearrange_17 rfl ?_
      refine a_iloadn C dX4_rearrange_18 rfl ?_
      refine a_callV C [.inl r1] [] dX4_rearrange_19 (cRu_push _) mv_X4_push ln_X4_101 rfl rfl ⟨rfl, rfl, Nat.le_of_ble_eq_true rfl, Nat.le_of_ble_eq_true rfl, Nat.le_of_ble_eq_true rfl⟩ hf (fun r10 M10 hf => ?_)
      refine a_aloadn C dX4_rearrange_22 rfl ?_
      refine a_iloadn C dX4_rearrange_23 rfl ?_
      refine a_callV C [.inl r1] [] dX4_rearrange_24 (cRu_push _) mv_X4_push ln_X4_101 rfl rfl ⟨rfl, rfl, Nat.le_of_ble_eq_true rfl, Nat.le_of_ble_eq_true rfl, Nat.le_of_ble_eq_true rfl⟩ hf (fun r11 M11 hf => ?_)
      exact a_vret C X dX4_rearrange_27 hf
  · have hf := hfb hc
    exact a_vret C X dX4_rearrange_11 hf
set_option maxRecDepth 20000 in
set_option maxHeartbeats 4000000 in
theorem sRu_execute_184 {E : EE} {R : Int → Mem → Prop} (C : Cx shX 5 cX4_execute RX4 2 45 E) (X : Rx shX (some .int) R E) (x2 : Int) (x4 : Int) (M : Mem) (hf : fRu_execute_184  R x2 x4 M) : AW shX 5 E 184 [some (.inr 40), none, some (.inl x2), none, some (.inl x4)] [] M := by
  have hf : fRu_calculate x2 M (fun r3 M3 => R x4 M3) := hf
  refine a_aloadn C dX4_execute_184 rfl ?_
  refine a_iloadn C dX4_execute_185 rfl ?_
  refine a_callV C [.inl x2] [] dX4_execute_186 (cRu_calculate _) mv_X4_calculate ln_X4_105 rfl rfl ⟨rfl, rfl, Nat.le_of_ble_eq_true rfl, Nat.le_of_ble_eq_true rfl, Nat.le_of_ble_eq_true rfl⟩ hf (fun r3 M3 hf => ?_)
  refine a_goto C 197 dX4_execute_189 rfl ?_
  refine a_iload C dX4_execute_197 rfl ?_
  exact a_iret C X dX4_execute_199 hf
set_option maxRecDepth 20000 in
set_option maxHeartbeats 4000000 in
theorem sRu_execute_192 {E : EE} {R : Int → Mem → Prop} (C : Cx shX 5 cX4_execute RX4 2 45 E) (X : Rx shX (some .int) R E) (x2 : Int) (x4 : Int) (M : Mem) (hf : fRu_execute_192  R x2 x4 M) : AW shX 5 E 192 [some (.inr 40), none, some (.inl x2), none, some (.inl x4)] [] M := by
  have hf : fRu_rearrange x2 M (fun r8 M8 => R x4 M8) := hf
  refine a_aloadn C dX4_execute_192 rfl ?_
  refine a_iloadn C dX4_execute_193 rfl ?_
  refine a_callV C [.inl x2] [] dX4_execute_194 (cRu_rearrange _) mv_X4_rearrange ln_X4_108 rfl rfl ⟨rfl, rfl, Nat.le_of_ble_eq_true rfl, Nat.le_of_ble_eq_true rfl, Nat.le_of_ble_eq_true rfl⟩ hf (fun r8 M8 hf => ?_)
  refine a_iload C dX4_execute_197 rfl ?_
  exact a_iret C X dX4_execute_199 hf
set_option maxRecDepth 20000 in
set_option maxHeartbeats 4000000 in
theorem sRu_execute_29 {E : EE} {R : Int → Mem → Prop} (C : Cx shX 5 cX4_execute RX4 2 45 E) (X : Rx shX (some .int) R E) (x2 : Int) (x3 : Int) (t0 : Int) (M : Mem) (hf : fRu_execute_29  R x2 x3 t0 M) : AW shX 5 E 29 [some (.inr 40), none, some (.inl x2), some (.inl x3), none] [.inl t0] M := by
  refine a_istore C dX4_execute_29 (by decide) (lv2 := [some (.inr 40), none, some (.inl x2), some (.inl x3), some (.inl t0)]) rfl ?_
  refine a_iloadn C dX4_execute_31 rfl ?_
  obtain ⟨hf124, hf184, hf132, hf145, hf108, hf110, hf158, hf181, hfd⟩ := hf
  by_cases hc0 : x2 = 0
  · have hc := hc0
    refine a_tsIn C 124 0 hc dX4_execute_32 ⟨by decide, by decide, rfl, rfl⟩ ?_
    have hf := hf124 (hc)
    refine a_aloadn C dX4_execute_124 rfl ?_
    refine a_iloadn C dX4_execute_125 rfl ?_
    refine a_callV C [.inl x3] [] dX4_execute_126 (cRu_push _) mv_X4_push ln_X4_101 rfl rfl ⟨rfl, rfl, Nat.le_of_ble_eq_true rfl, Nat.le_of_ble_eq_true rfl, Nat.le_of_ble_eq_true rfl⟩ hf (fun r2 M2 hf => ?_)
    refine a_goto C 197 dX4_execute_129 rfl ?_
    refine a_iload C dX4_execute_197 rfl ?_
    exact a_iret C X dX4_execute_199 hf
  by_cases hc1 : x2 = 1
  · have hc := hc1
    refine a_tsIn C 184 1 hc dX4_execute_32 ⟨by decide, by decide, rfl, rfl⟩ ?_
    have hf := hf184 (Or.inl hc)
    refine a_drop [true, true, true, false, true] (lv2 := [some (.inr 40), none, some (.inl x2), none, some (.inl t0)]) rfl ?_
    exact sRu_execute_184 C X  _ _ _ hf
  by_cases hc2 : x2 = 2
  · have hc := hc2
    refine a_tsIn C 184 2 hc dX4_execute_32 ⟨by decide, by decide, rfl, rfl⟩ ?_
    have hf := hf184 (Or.inr (Or.inl hc))
    refine a_drop [true, true, true, false, true] (lv2 := [some (.inr 40), none, some (.inl x2), none, some (.inl t0)]) rfl ?_
    exact sRu_execute_184 C X  _ _ _ hf
  by_cases hc3 : x2 = 3
  · have hc := hc3
    refine a_tsIn C 184 3 hc dX4_execute_32 ⟨by decide, by decide, rfl, rfl⟩ ?_
    have hf := hf184 (Or.inr (Or.inr hc))
    refine a_drop [true, true, true, false, true] (lv2 := [some (.inr 40), none, some (.inl x2), none, some (.inl t0)]) rfl ?_
    exact sRu_execute_184 C X  _ _ _ hf
  by_cases hc4 : x2 = 4
  · have hc := hc4
    refine a_tsIn C 192 4 hc dX4_execute_32 ⟨by decide, by decide, rfl, rfl⟩ ?_
    have hf := hfd (Or.inr (Or.inr (Or.inl hc)))
    refine a_drop [true, true, true, false, true] (lv2 := [some (.inr 40), none, some (.inl x2), none, some (.inl t0)]) rfl ?_
    exact sRu_execute_192 C X  _ _ _ hf
  by_cases hc5 : x2 = 5
  · have hc := hc5
    refine a_tsIn C 192 5 hc dX4_execute_32 ⟨by decide, by decide, rfl, rfl⟩ ?_
    have hf := hfd (Or.inr (Or.inr (Or.inr (Or.inl hc))))
    refine a_drop [true, true, true, false, true] (lv2 := [some (.inr 40), none, some (.inl x2), none, some (.inl t0)]) rfl ?_
    exact sRu_execute_192 C X  _ _ _ hf
  by_cases hc6 : x2 = 6
  · have hc := hc6
    refine a_tsIn C 192 6 hc dX4_execute_32 ⟨by decide, by decide, rfl, rfl⟩ ?_
    have hf := hfd (Or.inr (Or.inr (Or.inr (Or.inr (Or.inl hc)))))
    refine a_drop [true, true, true, false, true] (lv2 := [some (.inr 40), none, some (.inl x2), none, some (.inl t0)]) rfl ?_
    exact sRu_execute_192 C X  _ _ _ hf
  by_cases hc7 : x2 = 7
  · have hc := hc7
    refine a_tsIn C 192 7 hc dX4_execute_32 ⟨by decide, by decide, rfl, rfl⟩ ?_
    have hf := hfd (Or.inr (Or.inr (Or.inr (Or.inr (Or.inr (Or.inl hc))))))
    refine a_drop [true, true, true, false, true] (lv2 := [some (.inr 40), none, some (.inl x2), none, some (.inl t0)]) rfl ?_
    exact sRu_execute_192 C X  _ _ _ hf
  by_cases hc8 : x2 = 8
  · have hc := hc8
    refine a_tsIn C 192 8 hc dX4_execute_32 ⟨by decide, by decide, rfl, rfl⟩ ?_
    have hf := hfd (Or.inr (Or.inr (Or.inr (Or.inr (Or.inr (Or.inr hc))))))
    refine a_drop [true, true, true, false, true] (lv2 := [some (.inr 40), none, some (.inl x2), none, some (.inl t0)]) rfl ?_
    exact sRu_execute_192 C X  _ _ _ hf
  by_cases hc9 : x2 = 9
  · have hc := hc9
    refine a_tsIn C 132 9 hc dX4_execute_32 ⟨by decide, by decide, rfl, rfl⟩ ?_
    have hf := hf132 (hc)
    refine a_aloadn C dX4_execute_132 rfl ?_
    refine a_aloadn C dX4_execute_133 rfl ?_
    refine a_getR C 42 fl_X4_15 rfl rfl dX4_execute_134 ?_
    refine a_iloadn C dX4_execute_137 rfl ?_
    obtain ⟨hg, hf⟩ := hf
    refine a_iald C (n := 4) rfl hg dX4_execute_138 ?_
    refine a_callV C [.inl (M 42 x3)] [] dX4_execute_139 (cRu_push _) mv_X4_push ln_X4_101 rfl rfl ⟨rfl, rfl, Nat.le_of_ble_eq_true rfl, Nat.le_of_ble_eq_true rfl, Nat.le_of_ble_eq_true rfl⟩ hf (fun r4 M4 hf => ?_)
    refine a_goto C 197 dX4_execute_142 rfl ?_
    refine a_iload C dX4_execute_197 rfl ?_
    exact a_iret C X dX4_execute_199 hf
  by_cases hc10 : x2 = 10
  · have hc := hc10
    refine a_tsIn C 145 10 hc dX4_execute_32 ⟨by decide, by decide, rfl, rfl⟩ ?_
    have hf := hf145 (hc)
    refine a_aloadn C dX4_execute_145 rfl ?_
    refine a_getR C 42 fl_X4_15 rfl rfl dX4_execute_146 ?_
    refine a_iloadn C dX4_execute_149 rfl ?_
    refine a_aloadn C dX4_execute_150 rfl ?_
    refine a_callV C [] [.inl x3, .inr 42] dX4_execute_151 (cRu_pop) mv_X4_pop ln_X4_97 rfl rfl ⟨rfl, rfl, Nat.le_of_ble_eq_true rfl, Nat.le_of_ble_eq_true rfl, Nat.le_of_ble_eq_true rfl⟩ hf (fun r5 M5 hf => ?_)
    obtain ⟨hg, hf⟩ := hf
    refine a_iast C (n := 4) rfl hg dX4_execute_154 ?_
    refine a_goto C 197 dX4_execute_155 rfl ?_
    refine a_iload C dX4_execute_197 rfl ?_
    exact a_iret C X dX4_execute_199 hf
  by_cases hc11 : x2 = 11
  · have hc := hc11
    refine a_tsIn C 108 11 hc dX4_execute_32 ⟨by decide, by decide, rfl, rfl⟩ ?_
    have hf := hf108 (hc)
    refine a_iloadn C dX4_execute_108 rfl ?_
    exact a_iret C X dX4_execute_109 hf
  by_cases hc12 : x2 = 12
  · have hc := hc12
    refine a_tsIn C 110 12 hc dX4_execute_32 ⟨by decide, by decide, rfl, rfl⟩ ?_
    have hf := hf110 (hc)
    refine a_aloadn C dX4_execute_110 rfl ?_
    refine a_callV C [] [] dX4_execute_111 (cRu_pop) mv_X4_pop ln_X4_97 rfl rfl ⟨rfl, rfl, Nat.le_of_ble_eq_true rfl, Nat.le_of_ble_eq_true rfl, Nat.le_of_ble_eq_true rfl⟩ hf (fun r6 M6 hf => ?_)
    obtain ⟨hfa, hfb⟩ := hf
    refine a_if_ne C 121 dX4_execute_114 rfl (fun hc => ?_) (fun hc => ?_)
    · have hf := hfa hc
      refine a_iload C dX4_execute_121 rfl ?_
      exact a_iret C X dX4_execute_123 hf
    · have hf := hfb hc
      refine a_iloadn C dX4_execute_117 rfl ?_
      refine a_goto C 123 dX4_execute_118 rfl ?_
      exact a_iret C X dX4_execute_123 hf
  by_cases hc13 : x2 = 13
  · have hc := hc13
    refine a_tsIn C 158 13 hc dX4_execute_32 ⟨by decide, by decide, rfl, rfl⟩ ?_
    have hf := hf158 (hc)
    refine a_aloadn C dX4_execute_158 rfl ?_
    refine a_getR C 43 fl_X4_18 rfl rfl dX4_execute_159 ?_
    refine a_aloadn C dX4_execute_162 rfl ?_
    refine a_dup C dX4_execute_163 ?_
    refine a_getI C (kz := 12) fl_X4_41 rfl rfl rfl dX4_execute_164 ?_
    refine a_dup_x1 C dX4_execute_167 ?_
    refine a_iconst C dX4_execute_168 (inr_b rfl) ?_
    refine a_iadd C dX4_execute_169 ?_
    refine a_putI C (kz := 12) fp_X4_41 rfl rfl rfl dX4_execute_170 ?_
    refine a_aloadn C dX4_execute_173 rfl ?_
    refine a_callV C [] [.inl (M 40 12), .inr 43] dX4_execute_174 (cRu_pop) mv_X4_pop ln_X4_97 rfl rfl ⟨rfl, rfl, Nat.le_of_ble_eq_true rfl, Nat.le_of_ble_eq_true rfl, Nat.le_of_ble_eq_true rfl⟩ hf (fun r7 M7 hf => ?_)
    obtain ⟨hg, hf⟩ := hf
    refine a_iast C (n := 16) rfl hg dX4_execute_177 ?_
    refine a_goto C 197 dX4_execute_178 rfl ?_
    refine a_iload C dX4_execute_197 rfl ?_
    exact a_iret C X dX4_execute_199 hf
  by_cases hc14 : x2 = 14
  · have hc := hc14
    refine a_tsIn C 181 14 hc dX4_execute_32 ⟨by decide, by decide, rfl, rfl⟩ ?_
    have hf := hf181 (hc)
    refine a_goto C 197 dX4_execute_181 rfl ?_
    refine a_iload C dX4_execute_197 rfl ?_
    exact a_iret C X dX4_execute_199 hf
  have hco : x2 < 0 ∨ 14 < x2 := by omega
  refine a_tsOut C 192 dX4_execute_32 hco rfl ?_
  have hf := hfd (by omega)
  refine a_drop [true, true, true, false, true] (lv2 := [some (.inr 40), none, some (.inl x2), none, some (.inl t0)]) rfl ?_
  exact sRu_execute_192 C X  _ _ _ hf
set_option maxRecDepth 20000 in
set_option maxHeartbeats 4000000 in
theorem cRu_execute (x1 x2 : Int) : Snd shX yX4_execute cX4_execute 5 (some .int) 2 45 [.inr 40, .inl x1, .inl x2] (fRu_execute x1 x2) := by
  refine Snd.of RX4 (by decide +kernel) rfl (Nat.le_of_ble_eq_true rfl) ?_
  intro E M R hf C X
  show AW shX 5 E 0 [some (.inr 40), some (.inl x1), some (.inl x2), none, none] [] M
  refine a_aloadn C dX4_execute_0 rfl ?_
  refine a_getR C 13 fl_X4_50 rfl rfl dX4_execute_1 ?_
  refine a_getR C 15 fl_X4_90 rfl rfl dX4_execute_4 ?_
  refine a_iloadn C dX4_execute_7 rfl ?_
  obtain ⟨hg, hf⟩ := hf
  refine a_iald C (n := 24) rfl hg dX4_execute_8 ?_
  refine a_istoren C dX4_execute_9 (by decide) (lv2 := [some (.inr 40), some (.inl x1), some (.inl x2), some (.inl (M 15 x1)), none]) rfl ?_
  refine a_aloadn C dX4_execute_10 rfl ?_
  refine a_getR C 13 fl_X4_50 rfl rfl dX4_execute_11 ?_
  refine a_iloadn C dX4_execute_14 rfl ?_
  refine a_callV C [.inl x1] [] dX4_execute_15 (cPr_falls_p _) mv_X3_falls ln_X4_93 rfl rfl ⟨rfl, rfl, Nat.le_of_ble_eq_true rfl, Nat.le_of_ble_eq_true rfl, Nat.le_of_ble_eq_true rfl⟩ hf (fun r1 M1 hf => ?_)
  obtain ⟨hfa, hfb⟩ := hf
  refine a_if_eq C 27 dX4_execute_18 rfl (fun hc => ?_) (fun hc => ?_)
  · have hf := hfa hc
    refine a_bipush C dX4_execute_27 bp_m4 ?_
    refine a_drop [true, false, true, true, true] (lv2 := [some (.inr 40), none, some (.inl x2), some (.inl (M 15 x1)), none]) rfl ?_
    exact sRu_execute_29 C X  _ _ _ _ hf
  · have hf := hfb hc
    refine a_iloadn C dX4_execute_21 rfl ?_
    refine a_iconst C dX4_execute_22 (inr_b rfl) ?_
    refine a_iadd C dX4_execute_23 ?_
    refine a_goto C 29 dX4_execute_24 rfl ?_
    refine a_drop [true, false, true, true, true] (lv2 := [some (.inr 40), none, some (.inl x2), some (.inl (M 15 x1)), none]) rfl ?_
    exact sRu_execute_29 C X  _ _ _ _ hf
set_option maxRecDepth 20000 in
set_option maxHeartbeats 4000000 in
theorem sRu_advance_110 {E : EE} {R : Int → Mem → Prop} (C : Cx shX 5 cX4_advance RX4 3 69 E) (X : Rx shX none R E) (x3 : Int) (x4 : Int) (t0 : Int) (M : Mem) (hf : fRu_advance_110  R x3 x4 t0 M) : AW shX 5 E 110 [some (.inr 40), none, none, some (.inl x3), some (.inl x4)] [.inl t0, .inr 40] M := by
  obtain ⟨hg, hf⟩ := hf
  refine a_putZ C (kz := 8) fp_X4_28 hg rfl rfl rfl dX4_advance_110 ?_
  refine a_aloadn C dX4_advance_113 rfl ?_
  refine a_getI C (kz := 8) fl_X4_28 rfl rfl rfl dX4_advance_114 ?_
  obtain ⟨hfa, hfb⟩ := hf
  refine a_if_eq C 127 dX4_advance_117 rfl (fun hc => ?_) (fun hc => ?_)
  · have hf := hfa hc
    refine a_aloadn C dX4_advance_127 rfl ?_
    refine a_iloadn C dX4_advance_128 rfl ?_
    refine a_putI C (kz := 9) fp_X4_31 rfl rfl rfl dX4_advance_129 ?_
    refine a_aloadn C dX4_advance_132 rfl ?_
    refine a_aloadn C dX4_advance_133 rfl ?_
    refine a_getR C 39 fl_X4_63 rfl rfl dX4_advance_134 ?_
    refine a_iloadn C dX4_advance_137 rfl ?_
    obtain ⟨hg, hf⟩ := hf
    refine a_iald C (n := 24) rfl hg dX4_advance_138 ?_
    refine a_putI C (kz := 10) fp_X4_35 rfl rfl rfl dX4_advance_139 ?_
    refine a_aloadn C dX4_advance_142 rfl ?_
    refine a_dup C dX4_advance_143 ?_
    refine a_getI C (kz := 13) fl_X4_44 rfl rfl rfl dX4_advance_144 ?_
    refine a_aloadn C dX4_advance_147 rfl ?_
    refine a_getR C 8 fl_X4_54 rfl rfl dX4_advance_148 ?_
    refine a_iload C dX4_advance_151 rfl ?_
    refine a_aloadn C dX4_advance_153 rfl ?_
    refine a_getI C (kz := 10) fl_X4_35 rfl rfl rfl dX4_advance_154 ?_
    refine a_callV C [.inl x4, .inl (M 39 x3)] [.inl (M 40 13), .inr 40] dX4_advance_157 (cMa_passageCost _ _) mv_X2_passageCost ln_X4_87 rfl rfl ⟨rfl, rfl, Nat.le_of_ble_eq_true rfl, Nat.le_of_ble_eq_true rfl, Nat.le_of_ble_eq_true rfl⟩ hf (fun r4 M4 hf => ?_)
    refine a_iadd C dX4_advance_160 ?_
    refine a_putI C (kz := 13) fp_X4_44 rfl rfl rfl dX4_advance_161 ?_
    exact a_vret C X dX4_advance_164 hf
  · have hf := hfb hc
    refine a_aloadn C dX4_advance_120 rfl ?_
    refine a_iload C dX4_advance_121 rfl ?_
    refine a_putI C (kz := 10) fp_X4_35 rfl rfl rfl dX4_advance_123 ?_
    exact a_vret C X dX4_advance_126 hf
set_option maxRecDepth 20000 in
set_option maxHeartbeats 4000000 in
theorem sRu_advance_36 {E : EE} {R : Int → Mem → Prop} (C : Cx shX 5 cX4_advance RX4 3 69 E) (X : Rx shX none R E) (x1 : Int) (x2 : Int) (M : Mem) (hf : fRu_advance_36  R x1 x2 M) : AW shX 5 E 36 [some (.inr 40), some (.inl x1), some (.inl x2), none, none] [] M := by
  have hf : fRu_execute x1 x2 M (fun r1 M1 => (inb x1 24 ∧ (inb x1 24 ∧ fMa_versionCost x2 (M1 40 10) (mu (mu M1 44 x1 (wrap ((M1 44 x1) + 1))) 40 14 (wrap ((M1 40 14) + 1))) (fun r2 M2 => fMa_stateAfter x2 (M2 40 10) (mu M2 40 13 (wrap ((M1 40 13) + r2))) (fun r3 M3 => ((r1 ≠ (-4) → fRu_advance_110  R r1 r3 0 M3) ∧ (r1 = (-4) → fRu_advance_110  R r1 r3 1 M3))))))) := hf
  refine a_aloadn C dX4_advance_36 rfl ?_
  refine a_iloadn C dX4_advance_37 rfl ?_
  refine a_iloadn C dX4_advance_38 rfl ?_
  refine a_callV C [.inl x1, .inl x2] [] dX4_advance_39 (cRu_execute _ _) mv_X4_execute ln_X4_75 rfl rfl ⟨rfl, rfl, Nat.le_of_ble_eq_true rfl, Nat.le_of_ble_eq_true rfl, Nat.le_of_ble_eq_true rfl⟩ hf (fun r1 M1 hf => ?_)
  refine a_istoren C dX4_advance_42 (by decide) (lv2 := [some (.inr 40), some (.inl x1), some (.inl x2), some (.inl r1), none]) rfl ?_
  refine a_aloadn C dX4_advance_43 rfl ?_
  refine a_getR C 44 fl_X4_21 rfl rfl dX4_advance_44 ?_
  refine a_iloadn C dX4_advance_47 rfl ?_
  refine a_dup2 C dX4_advance_48 ?_
  obtain ⟨hg, hf⟩ := hf
  refine a_iald C (n := 24) rfl hg dX4_advance_49 ?_
  refine a_iconst C dX4_advance_50 (inr_b rfl) ?_
  refine a_iadd C dX4_advance_51 ?_
  obtain ⟨hg, hf⟩ := hf
  refine a_iast C (n := 24) rfl hg dX4_advance_52 ?_
  refine a_aloadn C dX4_advance_53 rfl ?_
  refine a_dup C dX4_advance_54 ?_
  refine a_getI C (kz := 14) fl_X4_47 rfl rfl rfl dX4_advance_55 ?_
  refine a_iconst C dX4_advance_58 (inr_b rfl) ?_
  refine a_iadd C dX4_advance_59 ?_
  refine a_putI C (kz := 14) fp_X4_47 rfl rfl rfl dX4_advance_60 ?_
  refine a_aloadn C dX4_advance_63 rfl ?_
  refine a_dup C dX4_advance_64 ?_
  refine a_getI C (kz := 13) fl_X4_44 rfl rfl rfl dX4_advance_65 ?_
  refine a_aloadn C dX4_advance_68 rfl ?_
  refine a_getR C 8 fl_X4_54 rfl rfl dX4_advance_69 ?_
  refine a_iloadn C dX4_advance_72 rfl ?_
  refine a_aloadn C dX4_advance_73 rfl ?_
  refine a_getI C (kz := 10) fl_X4_35 rfl rfl rfl dX4_advance_74 ?_
  refine a_callV C [.inl x2, .inl (M1 40 10)] [.inl (M1 40 13), .inr 40] dX4_advance_77 (cMa_versionCost _ _) mv_X2_versionCost ln_X4_79 rfl rfl ⟨rfl, rfl, Nat.le_of_ble_eq_true rfl, Nat.le_of_ble_eq_true rfl, Nat.le_of_ble_eq_true rfl⟩ hf (fun r2 M2 hf => ?_)
  refine a_iadd C dX4_advance_80 ?_
  refine a_putI C (kz := 13) fp_X4_44 rfl rfl rfl dX4_advance_81 ?_
  refine a_aloadn C dX4_advance_84 rfl ?_
  refine a_getR C 8 fl_X4_54 rfl rfl dX4_advance_85 ?_
  refine a_iloadn C dX4_advance_88 rfl ?_
  refine a_aloadn C dX4_advance_89 rfl ?_
  refine a_getI C (kz := 10) fl_X4_35 rfl rfl rfl dX4_advance_90 ?_
  refine a_callV C [.inl x2, .inl (M2 40 10)] [] dX4_advance_93 (cMa_stateAfter _ _) mv_X2_stateAfter ln_X4_84 rfl rfl ⟨rfl, rfl, Nat.le_of_ble_eq_true rfl, Nat.le_of_ble_eq_true rfl, Nat.le_of_ble_eq_true rfl⟩ hf (fun r3 M3 hf => ?_)
  refine a_istore C dX4_advance_96 (by decide) (lv2 := [some (.inr 40), some (.inl x1), some (.inl x2), some (.inl r1), some (.inl r3)]) rfl ?_
  refine a_aloadn C dX4_advance_98 rfl ?_
  refine a_iloadn C dX4_advance_99 rfl ?_
  refine a_bipush C dX4_advance_100 bp_m4 ?_
  obtain ⟨hfa, hfb⟩ := hf
  refine a_icmp_ne C 109 dX4_advance_102 rfl (fun hc => ?_) (fun hc => ?_)
  · have hf := hfa hc
    refine a_iconst C dX4_advance_109 (inr_b rfl) ?_
    refine a_drop [true, false, false, true, true] (lv2 := [some (.inr 40), none, none, some (.inl r1), some (.inl r3)]) rfl ?_
    exact sRu_advance_110 C X  _ _ _ _ hf
  · have hf := hfb hc
    refine a_iconst C dX4_advance_105 (inr_b rfl) ?_
    refine a_goto C 110 dX4_advance_106 rfl ?_
    refine a_drop [true, false, false, true, true] (lv2 := [some (.inr 40), none, none, some (.inl r1), some (.inl r3)]) rfl ?_
    exact sRu_advance_110 C X  _ _ _ _ hf
set_option maxRecDepth 20000 in
set_option maxHeartbeats 4000000 in
theorem cRu_advance : Snd shX yX4_advance cX4_advance 5 none 3 69 [.inr 40] fRu_advance := by
  refine Snd.of RX4 (by decide +kernel) rfl (Nat.le_of_ble_eq_true rfl) ?_
  intro E M R hf C X
  show AW shX 5 E 0 [some (.inr 40), none, none, none, none] [] M
  refine a_aloadn C dX4_advance_0 rfl ?_
  refine a_getI C (kz := 9) fl_X4_31 rfl rfl rfl dX4_advance_1 ?_
  refine a_istoren C dX4_advance_4 (by decide) (lv2 := [some (.inr 40), some (.inl (M 40 9)), none, none, none]) rfl ?_
  refine a_aloadn C dX4_advance_5 rfl ?_
  refine a_getR C 13 fl_X4_50 rfl rfl dX4_advance_6 ?_
  refine a_getR C 14 fl_X4_70 rfl rfl dX4_advance_9 ?_
  refine a_iloadn C dX4_advance_12 rfl ?_
  obtain ⟨hg, hf⟩ := hf
  refine a_iald C (n := 24) rfl hg dX4_advance_13 ?_
  refine a_istoren C dX4_advance_14 (by decide) (lv2 := [some (.inr 40), some (.inl (M 40 9)), some (.inl (M 14 (M 40 9))), none, none]) rfl ?_
  refine a_iloadn C dX4_advance_15 rfl ?_
  refine a_bipush C dX4_advance_16 bp_13 ?_
  obtain ⟨hfa, hfb⟩ := hf
  refine a_icmp_ne C 36 dX4_advance_18 rfl (fun hc => ?_) (fun hc => ?_)
  · have hf := hfa hc
    exact sRu_advance_36 C X  _ _ _ hf
  · have hf := hfb hc
    refine a_aloadn C dX4_advance_21 rfl ?_
    refine a_getI C (kz := 12) fl_X4_41 rfl rfl rfl dX4_advance_22 ?_
    refine a_bipush C dX4_advance_25 bp_16 ?_
    obtain ⟨hfa, hfb⟩ := hf
    refine a_icmp_ne C 36 dX4_advance_27 rfl (fun hc => ?_) (fun hc => ?_)
    · have hf := hfa hc
      exact sRu_advance_36 C X  _ _ _ hf
    · have hf := hfb hc
      refine a_aloadn C dX4_advance_30 rfl ?_
      refine a_iconst C dX4_advance_31 (inr_b rfl) ?_
      refine a_putZ C (kz := 8) fp_X4_28 (Or.inr rfl) rfl rfl rfl dX4_advance_32 ?_
      exact a_vret C X dX4_advance_35 hf
set_option maxRecDepth 20000 in
set_option maxHeartbeats 4000000 in
theorem sSt_step_75 {E : EE} {R : Int → Mem → Prop} (C : Cx shX 4 cX7_step RX7 4 93 E) (X : Rx shX (some .int) R E) (x2 : Int) (M : Mem) (hf : fSt_step_75  R x2 M) : AW shX 4 E 75 [some (.inr 0), none, some (.inl x2), none] [] M := by
  refine a_aloadn C dX7_step_75 rfl ?_
  refine a_getR C 40 fl_X7_61 rfl rfl dX7_step_76 ?_
  refine a_getI C (kz := 14) fl_X7_228 rfl rfl rfl dX7_step_79 ?_
  refine a_iloadn C dX7_step_82 rfl ?_
  refine a_isub C dX7_step_83 ?_
  exact a_iret C X dX7_step_84 hf
set_option maxRecDepth 20000 in
set_option maxHeartbeats 4000000 in
theorem sSt_step_47 {E : EE} {R : Int → Mem → Prop} (C : Cx shX 4 cX7_step RX7 4 93 E) (X : Rx shX (some .int) R E) : ∀ (n : Nat) (x1 : Int) (x2 : Int) (x3 : Int) (M : Mem), fSt_step_47  R n x1 x2 x3 M → AW shX 4 E 47 [some (.inr 0), some (.inl x1), some (.inl x2), some (.inl x3)] [] M := by
  intro n
  induction n with
  | zero => intro x1 x2 x3 M hf; exact hf.elim
  | succ n hk47 =>
    intro x1 x2 x3 M hf
    refine a_iloadn C dX7_step_47 rfl ?_
    refine a_iloadn C dX7_step_48 rfl ?_
    obtain ⟨hfa, hfb⟩ := hf
    refine a_icmp_ge C 75 dX7_step_49 rfl (fun hc => ?_) (fun hc => ?_)
    · have hf := hfa hc
      refine a_drop [true, false, true, false] (lv2 := [some (.inr 0), none, some (.inl x2), none]) rfl ?_
      exact sSt_step_75 C X  _ _ hf
    · have hf := hfb hc
      refine a_aloadn C dX7_step_52 rfl ?_
      refine a_getR C 40 fl_X7_61 rfl rfl dX7_step_53 ?_
      refine a_getI C (kz := 8) fl_X7_225 rfl rfl rfl dX7_step_56 ?_
      obtain ⟨hfa, hfb⟩ := hf
      refine a_if_ne C 75 dX7_step_59 rfl (fun hc => ?_) (fun hc => ?_)
      · have hf := hfa hc
        refine a_drop [true, false, true, false] (lv2 := [some (.inr 0), none, some (.inl x2), none]) rfl ?_
        exact sSt_step_75 C X  _ _ hf
      · have hf := hfb hc
        refine a_aloadn C dX7_step_62 rfl ?_
        refine a_getR C 40 fl_X7_61 rfl rfl dX7_step_63 ?_
        refine a_callV C [] [] dX7_step_66 (cRu_advance) mv_X4_advance ln_X7_231 rfl rfl ⟨rfl, rfl, Nat.le_of_ble_eq_true rfl, Nat.le_of_ble_eq_true rfl, Nat.le_of_ble_eq_true rfl⟩ hf (fun r1 M1 hf => ?_)
        refine a_iinc C dX7_step_69 rfl (by decide) (lv2 := [some (.inr 0), some (.inl x1), some (.inl x2), some (.inl (wrap (x3 + 1)))]) rfl ?_
        refine a_goto C 47 dX7_step_72 rfl ?_
        exact hk47 _ _ _ _ hf
set_option maxRecDepth 20000 in
set_option maxHeartbeats 4000000 in
theorem cSt_step (x1 : Int) : Snd shX yX7_step cX7_step 4 (some .int) 4 93 [.inr 0, .inl x1] (fSt_step x1) := by
  refine Snd.of RX7 (by decide +kernel) rfl (Nat.le_of_ble_eq_true rfl) ?_
  intro E M R hf C X
  show AW shX 4 E 0 [some (.inr 0), some (.inl x1), none, none] [] M
  refine a_iloadn C dX7_step_0 rfl ?_
  refine a_iconst C dX7_step_1 (inr_b rfl) ?_
  obtain ⟨hfa, hfb⟩ := hf
  refine a_icmp_lt C 12 dX7_step_2 rfl (fun hc => ?_) (fun hc => ?_)
  · have hf := hfa hc
    refine a_iconst C dX7_step_12 (inr_b rfl) ?_
    exact a_iret C X dX7_step_13 hf
  · have hf := hfb hc
    refine a_iloadn C dX7_step_5 rfl ?_
    refine a_sipush C dX7_step_6 sp_500 ?_
    obtain ⟨hfa, hfb⟩ := hf
    refine a_icmp_le C 14 dX7_step_9 rfl (fun hc => ?_) (fun hc => ?_)
    · have hf := hfa hc
      refine a_aloadn C dX7_step_14 rfl ?_
      refine a_getR C 40 fl_X7_61 rfl rfl dX7_step_15 ?_
      refine a_getI C (kz := 7) fl_X7_163 rfl rfl rfl dX7_step_18 ?_
      obtain ⟨hfa, hfb⟩ := hf
      refine a_if_eq C 34 dX7_step_21 rfl (fun hc => ?_) (fun hc => ?_)
      · have hf := hfa hc
        refine a_bipush C dX7_step_34 bp_m2 ?_
        exact a_iret C X dX7_step_36 hf
      · have hf := hfb hc
        refine a_aloadn C dX7_step_24 rfl ?_
        refine a_getR C 40 fl_X7_61 rfl rfl dX7_step_25 ?_
        refine a_getI C (kz := 8) fl_X7_225 rfl rfl rfl dX7_step_28 ?_
        obtain ⟨hfa, hfb⟩ := hf
        refine a_if_eq C 37 dX7_step_31 rfl (fun hc => ?_) (fun hc => ?_)
        · have hf := hfa hc
          refine a_aloadn C dX7_step_37 rfl ?_
          refine a_getR C 40 fl_X7_61 rfl rfl dX7_step_38 ?_
          refine a_getI C (kz := 14) fl_X7_228 rfl rfl rfl dX7_step_41 ?_
          refine a_istoren C dX7_step_44 (by decide) (lv2 := [some (.inr 0), some (.inl x1), some (.inl (M 40 14)), none]) rfl ?_
          refine a_iconst C dX7_step_45 (inr_b rfl) ?_
          refine a_istoren C dX7_step_46 (by decide) (lv2 := [some (.inr 0), some (.inl x1), some (.inl (M 40 14)), some (.inl 0)]) rfl ?_
          obtain ⟨n2, hf⟩ := hf
          exact sSt_step_47 C X  n2 _ _ _ _ hf
        · have hf := hfb hc
          refine a_bipush C dX7_step_34 bp_m2 ?_
          exact a_iret C X dX7_step_36 hf
    · have hf := hfb hc
      refine a_iconst C dX7_step_12 (inr_b rfl) ?_
      exact a_iret C X dX7_step_13 hf
set_option maxRecDepth 20000 in
set_option maxHeartbeats 4000000 in
theorem cSt_now (x1 : Int) : Snd shX yX7_now cX7_now 2 (some .int) 0 0 [.inr 0, .inl x1] (fSt_now x1) := by
  refine Snd.of RX7 (by decide +kernel) rfl (Nat.le_of_ble_eq_true rfl) ?_
  intro E M R hf C X
  show AW shX 2 E 0 [some (.inr 0), some (.inl x1)] [] M
  refine a_iloadn C dX7_now_0 rfl ?_
  obtain ⟨hfa, hfb⟩ := hf
  refine a_if_lt C 9 dX7_now_1 rfl (fun hc => ?_) (fun hc => ?_)
  · have hf := hfa hc
    refine a_iconst C dX7_now_9 (inr_b rfl) ?_
    exact a_iret C X dX7_now_10 hf
  · have hf := hfb hc
    refine a_iloadn C dX7_now_4 rfl ?_
    refine a_iconst C dX7_now_5 (inr_b rfl) ?_
    obtain ⟨hfa, hfb⟩ := hf
    refine a_icmp_le C 11 dX7_now_6 rfl (fun hc => ?_) (fun hc => ?_)
    · have hf := hfa hc
      refine a_aloadn C dX7_now_11 rfl ?_
      refine a_getR C 40 fl_X7_61 rfl rfl dX7_now_12 ?_
      refine a_getI C (kz := 7) fl_X7_163 rfl rfl rfl dX7_now_15 ?_
      obtain ⟨hfa, hfb⟩ := hf
      refine a_if_ne C 24 dX7_now_18 rfl (fun hc => ?_) (fun hc => ?_)
      · have hf := hfa hc
        refine a_iloadn C dX7_now_24 rfl ?_
        obtain ⟨hf60, hf83, hf91, hf99, hf107, hfd⟩ := hf
        by_cases hc0 : x1 = 0
        · have hc := hc0
          refine a_tsIn C 60 0 hc dX7_now_25 ⟨by decide, by decide, rfl, rfl⟩ ?_
          have hf := hf60 (hc)
          refine a_aloadn C dX7_now_60 rfl ?_
          refine a_getR C 40 fl_X7_61 rfl rfl dX7_now_61 ?_
          refine a_getI C (kz := 8) fl_X7_225 rfl rfl rfl dX7_now_64 ?_
          obtain ⟨hfa, hfb⟩ := hf
          refine a_if_eq C 75 dX7_now_67 rfl (fun hc => ?_) (fun hc => ?_)
          · have hf := hfa hc
            refine a_aloadn C dX7_now_75 rfl ?_
            refine a_getR C 40 fl_X7_61 rfl rfl dX7_now_76 ?_
            refine a_getI C (kz := 9) fl_X7_234 rfl rfl rfl dX7_now_79 ?_
            exact a_iret C X dX7_now_82 hf
          · have hf := hfb hc
            refine a_bipush C dX7_now_70 bp_m4 ?_
            refine a_goto C 82 dX7_now_72 rfl ?_
            exact a_iret C X dX7_now_82 hf
        by_cases hc1 : x1 = 1
        · have hc := hc1
          refine a_tsIn C 83 1 hc dX7_now_25 ⟨by decide, by decide, rfl, rfl⟩ ?_
          have hf := hf83 (hc)
          refine a_aloadn C dX7_now_83 rfl ?_
          refine a_getR C 40 fl_X7_61 rfl rfl dX7_now_84 ?_
          refine a_getI C (kz := 10) fl_X7_222 rfl rfl rfl dX7_now_87 ?_
          exact a_iret C X dX7_now_90 hf
        by_cases hc2 : x1 = 2
        · have hc := hc2
          refine a_tsIn C 91 2 hc dX7_now_25 ⟨by decide, by decide, rfl, rfl⟩ ?_
          have hf := hf91 (hc)
          refine a_aloadn C dX7_now_91 rfl ?_
          refine a_getR C 40 fl_X7_61 rfl rfl dX7_now_92 ?_
          refine a_getI C (kz := 11) fl_X7_237 rfl rfl rfl dX7_now_95 ?_
          exact a_iret C X dX7_now_98 hf
        by_cases hc3 : x1 = 3
        · have hc := hc3
          refine a_tsIn C 99 3 hc dX7_now_25 ⟨by decide, by decide, rfl, rfl⟩ ?_
          have hf := hf99 (hc)
          refine a_aloadn C dX7_now_99 rfl ?_
          refine a_getR C 40 fl_X7_61 rfl rfl dX7_now_100 ?_
          refine a_getI C (kz := 13) fl_X7_240 rfl rfl rfl dX7_now_103 ?_
          exact a_iret C X dX7_now_106 hf
        by_cases hc4 : x1 = 4
        · have hc := hc4
          refine a_tsIn C 107 4 hc dX7_now_25 ⟨by decide, by decide, rfl, rfl⟩ ?_
          have hf := hf107 (hc)
          refine a_aloadn C dX7_now_107 rfl ?_
          refine a_getR C 40 fl_X7_61 rfl rfl dX7_now_108 ?_
          refine a_getI C (kz := 14) fl_X7_228 rfl rfl rfl dX7_now_111 ?_
          exact a_iret C X dX7_now_114 hf
        have hco : x1 < 0 ∨ 4 < x1 := by omega
        refine a_tsOut C 115 dX7_now_25 hco rfl ?_
        have hf := hfd (by omega)
        refine a_aloadn C dX7_now_115 rfl ?_
        refine a_getR C 40 fl_X7_61 rfl rfl dX7_now_116 ?_
        refine a_getI C (kz := 12) fl_X7_243 rfl rfl rfl dX7_now_119 ?_
        exact a_iret C X dX7_now_122 hf
      · have hf := hfb hc
        refine a_bipush C dX7_now_21 bp_m2 ?_
        exact a_iret C X dX7_now_23 hf
    · have hf := hfb hc
      refine a_iconst C dX7_now_9 (inr_b rfl) ?_
      exact a_iret C X dX7_now_10 hf
set_option maxRecDepth 20000 in
set_option maxHeartbeats 4000000 in
theorem sRu_cellAt_28 {E : EE} {R : Int → Mem → Prop} (C : Cx shX 2 cX4_cellAt RX4 0 0 E) (X : Rx shX (some .int) R E) (M : Mem) (hf : fRu_cellAt_28  R M) : AW shX 2 E 28 [none, none] [] M := by
  refine a_iconst C dX4_cellAt_28 (inr_b rfl) ?_
  exact a_iret C X dX4_cellAt_29 hf
set_option maxRecDepth 20000 in
set_option maxHeartbeats 4000000 in
theorem cRu_cellAt (x1 : Int) : Snd shX yX4_cellAt cX4_cellAt 2 (some .int) 0 0 [.inr 40, .inl x1] (fRu_cellAt x1) := by
  refine Snd.of RX4 (by decide +kernel) rfl (Nat.le_of_ble_eq_true rfl) ?_
  intro E M R hf C X
  show AW shX 2 E 0 [some (.inr 40), some (.inl x1)] [] M
  refine a_iloadn C dX4_cellAt_0 rfl ?_
  obtain ⟨hfa, hfb⟩ := hf
  refine a_if_lt C 28 dX4_cellAt_1 rfl (fun hc => ?_) (fun hc => ?_)
  · have hf := hfa hc
    refine a_drop [false, false] (lv2 := [none, none]) rfl ?_
    exact sRu_cellAt_28 C X   _ hf
  · have hf := hfb hc
    refine a_iloadn C dX4_cellAt_4 rfl ?_
    refine a_aloadn C dX4_cellAt_5 rfl ?_
    refine a_getI C (kz := 11) fl_X4_38 rfl rfl rfl dX4_cellAt_6 ?_
    obtain ⟨hfa, hfb⟩ := hf
    refine a_icmp_ge C 28 dX4_cellAt_9 rfl (fun hc => ?_) (fun hc => ?_)
    · have hf := hfa hc
      refine a_drop [false, false] (lv2 := [none, none]) rfl ?_
      exact sRu_cellAt_28 C X   _ hf
    · have hf := hfb hc
      refine a_aloadn C dX4_cellAt_12 rfl ?_
      refine a_getR C 41 fl_X4_9 rfl rfl dX4_cellAt_13 ?_
      refine a_aloadn C dX4_cellAt_16 rfl ?_
      refine a_getI C (kz := 11) fl_X4_38 rfl rfl rfl dX4_cellAt_17 ?_
      refine a_iconst C dX4_cellAt_20 (inr_b rfl) ?_
      refine a_isub C dX4_cellAt_21 ?_
      refine a_iloadn C dX4_cellAt_22 rfl ?_
      refine a_isub C dX4_cellAt_23 ?_
      obtain ⟨hg, hf⟩ := hf
      refine a_iald C (n := 12) rfl hg dX4_cellAt_24 ?_
      refine a_goto C 29 dX4_cellAt_25 rfl ?_
      exact a_iret C X dX4_cellAt_29 hf
set_option maxRecDepth 20000 in
set_option maxHeartbeats 4000000 in
theorem cSt_shown (x0 : Int) : Snd shX yX7_shown cX7_shown 1 (some .int) 1 22 [.inl x0] (fSt_shown x0) := by
  refine Snd.of RX7 (by decide +kernel) rfl (Nat.le_of_ble_eq_true rfl) ?_
  intro E M R hf C X
  show AW shX 1 E 0 [some (.inl x0)] [] M
  refine a_iloadn C dX7_shown_0 rfl ?_
  refine a_ldcw C dX7_shown_1 ct_X7_267 (inr_b rfl) ?_
  refine a_callS C [.inl x0, .inl 1000000000] [] dX7_shown_4 (cMath_floorMod _ _) ms_J9_floorMod_7cf53 ln_X7_268 ⟨rfl, rfl, Nat.le_of_ble_eq_true rfl, Nat.le_of_ble_eq_true rfl, Nat.le_of_ble_eq_true rfl⟩ hf (fun r1 M1 hf => ?_)
  exact a_iret C X dX7_shown_7 hf
set_option maxRecDepth 20000 in
set_option maxHeartbeats 4000000 in
theorem cSt_cell (x1 : Int) : Snd shX yX7_cell cX7_cell 2 (some .int) 2 42 [.inr 0, .inl x1] (fSt_cell x1) := by
  refine Snd.of RX7 (by decide +kernel) rfl (Nat.le_of_ble_eq_true rfl) ?_
  intro E M R hf C X
  show AW shX 2 E 0 [some (.inr 0), some (.inl x1)] [] M
  refine a_iloadn C dX7_cell_0 rfl ?_
  obtain ⟨hfa, hfb⟩ := hf
  refine a_if_ge C 6 dX7_cell_1 rfl (fun hc => ?_) (fun hc => ?_)
  · have hf := hfa hc
    refine a_aloadn C dX7_cell_6 rfl ?_
    refine a_getR C 40 fl_X7_61 rfl rfl dX7_cell_7 ?_
    refine a_getI C (kz := 7) fl_X7_163 rfl rfl rfl dX7_cell_10 ?_
    obtain ⟨hfa, hfb⟩ := hf
    refine a_if_ne C 19 dX7_cell_13 rfl (fun hc => ?_) (fun hc => ?_)
    · have hf := hfa hc
      refine a_iloadn C dX7_cell_19 rfl ?_
      refine a_aloadn C dX7_cell_20 rfl ?_
      refine a_getR C 40 fl_X7_61 rfl rfl dX7_cell_21 ?_
      refine a_getI C (kz := 11) fl_X7_237 rfl rfl rfl dX7_cell_24 ?_
      obtain ⟨hfa, hfb⟩ := hf
      refine a_icmp_ge C 44 dX7_cell_27 rfl (fun hc => ?_) (fun hc => ?_)
      · have hf := hfa hc
        refine a_bipush C dX7_cell_44 bp_m4 ?_
        exact a_iret C X dX7_cell_46 hf
      · have hf := hfb hc
        refine a_aloadn C dX7_cell_30 rfl ?_
        refine a_getR C 40 fl_X7_61 rfl rfl dX7_cell_31 ?_
        refine a_iloadn C dX7_cell_34 rfl ?_
        refine a_callV C [.inl x1] [] dX7_cell_35 (cRu_cellAt _) mv_X4_cellAt ln_X7_246 rfl rfl ⟨rfl, rfl, Nat.le_of_ble_eq_true rfl, Nat.le_of_ble_eq_true rfl, Nat.le_of_ble_eq_true rfl⟩ hf (fun r1 M1 hf => ?_)
        refine a_callS C [.inl r1] [] dX7_cell_38 (cSt_shown _) ms_X7_shown ln_X7_249 ⟨rfl, rfl, Nat.le_of_ble_eq_true rfl, Nat.le_of_ble_eq_true rfl, Nat.le_of_ble_eq_true rfl⟩ hf (fun r2 M2 hf => ?_)
        refine a_goto C 46 dX7_cell_41 rfl ?_
        exact a_iret C X dX7_cell_46 hf
    · have hf := hfb hc
      refine a_bipush C dX7_cell_16 bp_m2 ?_
      exact a_iret C X dX7_cell_18 hf
  · have hf := hfb hc
    refine a_iconst C dX7_cell_4 (inr_b rfl) ?_
    exact a_iret C X dX7_cell_5 hf
set_option maxRecDepth 20000 in
set_option maxHeartbeats 4000000 in
theorem sSt_register_47 {E : EE} {R : Int → Mem → Prop} (C : Cx shX 4 cX7_register RX7 2 42 E) (X : Rx shX (some .int) R E) : ∀ (n : Nat) (x1 : Int) (x2 : Int) (x3 : Int) (M : Mem), fSt_register_47  R n x1 x2 x3 M → AW shX 4 E 47 [some (.inr 0), some (.inl x1), some (.inl x2), some (.inl x3)] [] M := by
  intro n
  induction n with
  | zero => intro x1 x2 x3 M hf; exact hf.elim
  | succ n hk47 =>
    intro x1 x2 x3 M hf
    refine a_iloadn C dX7_register_47 rfl ?_
    refine a_iloadn C dX7_register_48 rfl ?_
    obtain ⟨hfa, hfb⟩ := hf
    refine a_icmp_ge C 89 dX7_register_49 rfl (fun hc => ?_) (fun hc => ?_)
    · have hf := hfa hc
      refine a_bipush C dX7_register_89 bp_m4 ?_
      exact a_iret C X dX7_register_91 hf
    · have hf := hfb hc
      refine a_aloadn C dX7_register_52 rfl ?_
      refine a_getR C 8 fl_X7_33 rfl rfl dX7_register_53 ?_
      refine a_aloadn C dX7_register_56 rfl ?_
      refine a_getR C 40 fl_X7_61 rfl rfl dX7_register_57 ?_
      refine a_getI C (kz := 10) fl_X7_222 rfl rfl rfl dX7_register_60 ?_
      refine a_iloadn C dX7_register_63 rfl ?_
      refine a_callV C [.inl (M 40 10), .inl x3] [] dX7_register_64 (cMa_registerOf _ _) mv_X2_registerOf ln_X7_184 rfl rfl ⟨rfl, rfl, Nat.le_of_ble_eq_true rfl, Nat.le_of_ble_eq_true rfl, Nat.le_of_ble_eq_true rfl⟩ hf (fun r2 M2 hf => ?_)
      refine a_iloadn C dX7_register_67 rfl ?_
      obtain ⟨hfa, hfb⟩ := hf
      refine a_icmp_ne C 83 dX7_register_68 rfl (fun hc => ?_) (fun hc => ?_)
      · have hf := hfa hc
        refine a_iinc C dX7_register_83 rfl (by decide) (lv2 := [some (.inr 0), some (.inl x1), some (.inl x2), some (.inl (wrap (x3 + 1)))]) rfl ?_
        refine a_goto C 47 dX7_register_86 rfl ?_
        exact hk47 _ _ _ _ hf
      · have hf := hfb hc
        refine a_aloadn C dX7_register_71 rfl ?_
        refine a_getR C 40 fl_X7_61 rfl rfl dX7_register_72 ?_
        refine a_iloadn C dX7_register_75 rfl ?_
        refine a_callV C [.inl x3] [] dX7_register_76 (cRu_cellAt _) mv_X4_cellAt ln_X7_246 rfl rfl ⟨rfl, rfl, Nat.le_of_ble_eq_true rfl, Nat.le_of_ble_eq_true rfl, Nat.le_of_ble_eq_true rfl⟩ hf (fun r3 M3 hf => ?_)
        refine a_callS C [.inl r3] [] dX7_register_79 (cSt_shown _) ms_X7_shown ln_X7_249 ⟨rfl, rfl, Nat.le_of_ble_eq_true rfl, Nat.le_of_ble_eq_true rfl, Nat.le_of_ble_eq_true rfl⟩ hf (fun r4 M4 hf => ?_)
        exact a_iret C X dX7_register_82 hf
set_option maxRecDepth 20000 in
set_option maxHeartbeats 4000000 in
theorem cSt_register (x1 : Int) : Snd shX yX7_register cX7_register 4 (some .int) 2 42 [.inr 0, .inl x1] (fSt_register x1) := by
  refine Snd.of RX7 (by decide +kernel) rfl (Nat.le_of_ble_eq_true rfl) ?_
  intro E M R hf C X
  show AW shX 4 E 0 [some (.inr 0), some (.inl x1), none, none] [] M
  refine a_iloadn C dX7_register_0 rfl ?_
  obtain ⟨hfa, hfb⟩ := hf
  refine a_if_lt C 15 dX7_register_1 rfl (fun hc => ?_) (fun hc => ?_)
  · have hf := hfa hc
    refine a_iconst C dX7_register_15 (inr_b rfl) ?_
    exact a_iret C X dX7_register_16 hf
  · have hf := hfb hc
    refine a_iloadn C dX7_register_4 rfl ?_
    refine a_aloadn C dX7_register_5 rfl ?_
    refine a_getR C 5 fl_X7_26 rfl rfl dX7_register_6 ?_
    refine a_getI C (kz := 0) fl_X7_145 rfl rfl rfl dX7_register_9 ?_
    obtain ⟨hfa, hfb⟩ := hf
    refine a_icmp_lt C 17 dX7_register_12 rfl (fun hc => ?_) (fun hc => ?_)
    · have hf := hfa hc
      refine a_aloadn C dX7_register_17 rfl ?_
      refine a_getR C 40 fl_X7_61 rfl rfl dX7_register_18 ?_
      refine a_getI C (kz := 7) fl_X7_163 rfl rfl rfl dX7_register_21 ?_
      obtain ⟨hfa, hfb⟩ := hf
      refine a_if_ne C 30 dX7_register_24 rfl (fun hc => ?_) (fun hc => ?_)
      · have hf := hfa hc
        refine a_aloadn C dX7_register_30 rfl ?_
        refine a_getR C 8 fl_X7_33 rfl rfl dX7_register_31 ?_
        refine a_aloadn C dX7_register_34 rfl ?_
        refine a_getR C 40 fl_X7_61 rfl rfl dX7_register_35 ?_
        refine a_getI C (kz := 10) fl_X7_222 rfl rfl rfl dX7_register_38 ?_
        refine a_callV C [.inl (M 40 10)] [] dX7_register_41 (cMa_lengthOf _) mv_X2_lengthOf ln_X7_181 rfl rfl ⟨rfl, rfl, Nat.le_of_ble_eq_true rfl, Nat.le_of_ble_eq_true rfl, Nat.le_of_ble_eq_true rfl⟩ hf (fun r1 M1 hf => ?_)
        refine a_istoren C dX7_register_44 (by decide) (lv2 := [some (.inr 0), some (.inl x1), some (.inl r1), none]) rfl ?_
        refine a_iconst C dX7_register_45 (inr_b rfl) ?_
        refine a_istoren C dX7_register_46 (by decide) (lv2 := [some (.inr 0), some (.inl x1), some (.inl r1), some (.inl 0)]) rfl ?_
        obtain ⟨n5, hf⟩ := hf
        exact sSt_register_47 C X  n5 _ _ _ _ hf
      · have hf := hfb hc
        refine a_bipush C dX7_register_27 bp_m2 ?_
        exact a_iret C X dX7_register_29 hf
    · have hf := hfb hc
      refine a_iconst C dX7_register_15 (inr_b rfl) ?_
      exact a_iret C X dX7_register_16 hf
set_option maxRecDepth 20000 in
set_option maxHeartbeats 4000000 in
theorem cSt_memory (x1 : Int) : Snd shX yX7_memory cX7_memory 3 (some .int) 2 42 [.inr 0, .inl x1] (fSt_memory x1) := by
  refine Snd.of RX7 (by decide +kernel) rfl (Nat.le_of_ble_eq_true rfl) ?_
  intro E M R hf C X
  show AW shX 3 E 0 [some (.inr 0), some (.inl x1), none] [] M
  refine a_iloadn C dX7_memory_0 rfl ?_
  obtain ⟨hfa, hfb⟩ := hf
  refine a_if_ge C 6 dX7_memory_1 rfl (fun hc => ?_) (fun hc => ?_)
  · have hf := hfa hc
    refine a_aloadn C dX7_memory_6 rfl ?_
    refine a_getR C 40 fl_X7_61 rfl rfl dX7_memory_7 ?_
    refine a_getI C (kz := 7) fl_X7_163 rfl rfl rfl dX7_memory_10 ?_
    obtain ⟨hfa, hfb⟩ := hf
    refine a_if_ne C 19 dX7_memory_13 rfl (fun hc => ?_) (fun hc => ?_)
    · have hf := hfa hc
      refine a_aloadn C dX7_memory_19 rfl ?_
      refine a_getR C 40 fl_X7_61 rfl rfl dX7_memory_20 ?_
      refine a_getI C (kz := 11) fl_X7_237 rfl rfl rfl dX7_memory_23 ?_
      refine a_aloadn C dX7_memory_26 rfl ?_
      refine a_getR C 8 fl_X7_33 rfl rfl dX7_memory_27 ?_
      refine a_aloadn C dX7_memory_30 rfl ?_
      refine a_getR C 40 fl_X7_61 rfl rfl dX7_memory_31 ?_
      refine a_getI C (kz := 10) fl_X7_222 rfl rfl rfl dX7_memory_34 ?_
      refine a_callV C [.inl (M 40 10)] [.inl (M 40 11)] dX7_memory_37 (cMa_lengthOf _) mv_X2_lengthOf ln_X7_181 rfl rfl ⟨rfl, rfl, Nat.le_of_ble_eq_true rfl, Nat.le_of_ble_eq_true rfl, Nat.le_of_ble_eq_true rfl⟩ hf (fun r1 M1 hf => ?_)
      refine a_isub C dX7_memory_40 ?_
      refine a_istoren C dX7_memory_41 (by decide) (lv2 := [some (.inr 0), some (.inl x1), some (.inl (wrap ((M 40 11) - r1)))]) rfl ?_
      refine a_iloadn C dX7_memory_42 rfl ?_
      refine a_iloadn C dX7_memory_43 rfl ?_
      obtain ⟨hfa, hfb⟩ := hf
      refine a_icmp_ge C 71 dX7_memory_44 rfl (fun hc => ?_) (fun hc => ?_)
      · have hf := hfa hc
        refine a_bipush C dX7_memory_71 bp_m4 ?_
        exact a_iret C X dX7_memory_73 hf
      · have hf := hfb hc
        refine a_aloadn C dX7_memory_47 rfl ?_
        refine a_getR C 40 fl_X7_61 rfl rfl dX7_memory_48 ?_
        refine a_aloadn C dX7_memory_51 rfl ?_
        refine a_getR C 40 fl_X7_61 rfl rfl dX7_memory_52 ?_
        refine a_getI C (kz := 11) fl_X7_237 rfl rfl rfl dX7_memory_55 ?_
        refine a_iconst C dX7_memory_58 (inr_b rfl) ?_
        refine a_isub C dX7_memory_59 ?_
        refine a_iloadn C dX7_memory_60 rfl ?_
        refine a_isub C dX7_memory_61 ?_
        refine a_callV C [.inl (wrap ((wrap ((M1 40 11) - 1)) - x1))] [] dX7_memory_62 (cRu_cellAt _) mv_X4_cellAt ln_X7_246 rfl rfl ⟨rfl, rfl, Nat.le_of_ble_eq_true rfl, Nat.le_of_ble_eq_true rfl, Nat.le_of_ble_eq_true rfl⟩ hf (fun r2 M2 hf => ?_)
        refine a_callS C [.inl r2] [] dX7_memory_65 (cSt_shown _) ms_X7_shown ln_X7_249 ⟨rfl, rfl, Nat.le_of_ble_eq_true rfl, Nat.le_of_ble_eq_true rfl, Nat.le_of_ble_eq_true rfl⟩ hf (fun r3 M3 hf => ?_)
        refine a_goto C 73 dX7_memory_68 rfl ?_
        exact a_iret C X dX7_memory_73 hf
    · have hf := hfb hc
      refine a_bipush C dX7_memory_16 bp_m2 ?_
      exact a_iret C X dX7_memory_18 hf
  · have hf := hfb hc
    refine a_iconst C dX7_memory_4 (inr_b rfl) ?_
    exact a_iret C X dX7_memory_5 hf
set_option maxRecDepth 20000 in
set_option maxHeartbeats 4000000 in
theorem cSt_variable (x1 : Int) : Snd shX yX7_variable cX7_variable 2 (some .int) 2 42 [.inr 0, .inl x1] (fSt_variable x1) := by
  refine Snd.of RX7 (by decide +kernel) rfl (Nat.le_of_ble_eq_true rfl) ?_
  intro E M R hf C X
  show AW shX 2 E 0 [some (.inr 0), some (.inl x1)] [] M
  refine a_iloadn C dX7_variable_0 rfl ?_
  obtain ⟨hfa, hfb⟩ := hf
  refine a_if_lt C 9 dX7_variable_1 rfl (fun hc => ?_) (fun hc => ?_)
  · have hf := hfa hc
    refine a_iconst C dX7_variable_9 (inr_b rfl) ?_
    exact a_iret C X dX7_variable_10 hf
  · have hf := hfb hc
    refine a_iloadn C dX7_variable_4 rfl ?_
    refine a_iconst C dX7_variable_5 (inr_b rfl) ?_
    obtain ⟨hfa, hfb⟩ := hf
    refine a_icmp_lt C 11 dX7_variable_6 rfl (fun hc => ?_) (fun hc => ?_)
    · have hf := hfa hc
      refine a_aloadn C dX7_variable_11 rfl ?_
      refine a_getR C 40 fl_X7_61 rfl rfl dX7_variable_12 ?_
      refine a_getI C (kz := 7) fl_X7_163 rfl rfl rfl dX7_variable_15 ?_
      obtain ⟨hfa, hfb⟩ := hf
      refine a_if_ne C 24 dX7_variable_18 rfl (fun hc => ?_) (fun hc => ?_)
      · have hf := hfa hc
        refine a_aloadn C dX7_variable_24 rfl ?_
        refine a_getR C 40 fl_X7_61 rfl rfl dX7_variable_25 ?_
        refine a_getR C 42 fl_X7_252 rfl rfl dX7_variable_28 ?_
        refine a_iloadn C dX7_variable_31 rfl ?_
        obtain ⟨hg, hf⟩ := hf
        refine a_iald C (n := 4) rfl hg dX7_variable_32 ?_
        refine a_callS C [.inl (M 42 x1)] [] dX7_variable_33 (cSt_shown _) ms_X7_shown ln_X7_249 ⟨rfl, rfl, Nat.le_of_ble_eq_true rfl, Nat.le_of_ble_eq_true rfl, Nat.le_of_ble_eq_true rfl⟩ hf (fun r1 M1 hf => ?_)
        exact a_iret C X dX7_variable_36 hf
      · have hf := hfb hc
        refine a_bipush C dX7_variable_21 bp_m2 ?_
        exact a_iret C X dX7_variable_23 hf
    · have hf := hfb hc
      refine a_iconst C dX7_variable_9 (inr_b rfl) ?_
      exact a_iret C X dX7_variable_10 hf
set_option maxRecDepth 20000 in
set_option maxHeartbeats 4000000 in
theorem cSt_out (x1 : Int) : Snd shX yX7_out cX7_out 2 (some .int) 2 42 [.inr 0, .inl x1] (fSt_out x1) := by
  refine Snd.of RX7 (by decide +kernel) rfl (Nat.le_of_ble_eq_true rfl) ?_
  intro E M R hf C X
  show AW shX 2 E 0 [some (.inr 0), some (.inl x1)] [] M
  refine a_iloadn C dX7_out_0 rfl ?_
  obtain ⟨hfa, hfb⟩ := hf
  refine a_if_ge C 6 dX7_out_1 rfl (fun hc => ?_) (fun hc => ?_)
  · have hf := hfa hc
    refine a_aloadn C dX7_out_6 rfl ?_
    refine a_getR C 40 fl_X7_61 rfl rfl dX7_out_7 ?_
    refine a_getI C (kz := 7) fl_X7_163 rfl rfl rfl dX7_out_10 ?_
    obtain ⟨hfa, hfb⟩ := hf
    refine a_if_ne C 19 dX7_out_13 rfl (fun hc => ?_) (fun hc => ?_)
    · have hf := hfa hc
      refine a_iloadn C dX7_out_19 rfl ?_
      refine a_aloadn C dX7_out_20 rfl ?_
      refine a_getR C 40 fl_X7_61 rfl rfl dX7_out_21 ?_
      refine a_getI C (kz := 12) fl_X7_243 rfl rfl rfl dX7_out_24 ?_
      obtain ⟨hfa, hfb⟩ := hf
      refine a_icmp_ge C 45 dX7_out_27 rfl (fun hc => ?_) (fun hc => ?_)
      · have hf := hfa hc
        refine a_bipush C dX7_out_45 bp_m4 ?_
        exact a_iret C X dX7_out_47 hf
      · have hf := hfb hc
        refine a_aloadn C dX7_out_30 rfl ?_
        refine a_getR C 40 fl_X7_61 rfl rfl dX7_out_31 ?_
        refine a_getR C 43 fl_X7_255 rfl rfl dX7_out_34 ?_
        refine a_iloadn C dX7_out_37 rfl ?_
        obtain ⟨hg, hf⟩ := hf
        refine a_iald C (n := 16) rfl hg dX7_out_38 ?_
        refine a_callS C [.inl (M 43 x1)] [] dX7_out_39 (cSt_shown _) ms_X7_shown ln_X7_249 ⟨rfl, rfl, Nat.le_of_ble_eq_true rfl, Nat.le_of_ble_eq_true rfl, Nat.le_of_ble_eq_true rfl⟩ hf (fun r1 M1 hf => ?_)
        refine a_goto C 47 dX7_out_42 rfl ?_
        exact a_iret C X dX7_out_47 hf
    · have hf := hfb hc
      refine a_bipush C dX7_out_16 bp_m2 ?_
      exact a_iret C X dX7_out_18 hf
  · have hf := hfb hc
    refine a_iconst C dX7_out_4 (inr_b rfl) ?_
    exact a_iret C X dX7_out_5 hf
set_option maxRecDepth 20000 in
set_option maxHeartbeats 4000000 in
theorem cSt_went (x1 : Int) : Snd shX yX7_went cX7_went 2 (some .int) 1 21 [.inr 0, .inl x1] (fSt_went x1) := by
  refine Snd.of RX7 (by decide +kernel) rfl (Nat.le_of_ble_eq_true rfl) ?_
  intro E M R hf C X
  show AW shX 2 E 0 [some (.inr 0), some (.inl x1)] [] M
  refine a_aloadn C dX7_went_0 rfl ?_
  refine a_iloadn C dX7_went_1 rfl ?_
  refine a_callV C [.inl x1] [] dX7_went_2 (cSt_isInstruction _) mv_X7_isInstruction ln_X7_117 rfl rfl ⟨rfl, rfl, Nat.le_of_ble_eq_true rfl, Nat.le_of_ble_eq_true rfl, Nat.le_of_ble_eq_true rfl⟩ hf (fun r1 M1 hf => ?_)
  obtain ⟨hfa, hfb⟩ := hf
  refine a_if_ne C 10 dX7_went_5 rfl (fun hc => ?_) (fun hc => ?_)
  · have hf := hfa hc
    refine a_aloadn C dX7_went_10 rfl ?_
    refine a_getR C 40 fl_X7_61 rfl rfl dX7_went_11 ?_
    refine a_getI C (kz := 7) fl_X7_163 rfl rfl rfl dX7_went_14 ?_
    obtain ⟨hfa, hfb⟩ := hf
    refine a_if_ne C 23 dX7_went_17 rfl (fun hc => ?_) (fun hc => ?_)
    · have hf := hfa hc
      refine a_aloadn C dX7_went_23 rfl ?_
      refine a_getR C 40 fl_X7_61 rfl rfl dX7_went_24 ?_
      refine a_getR C 44 fl_X7_258 rfl rfl dX7_went_27 ?_
      refine a_iloadn C dX7_went_30 rfl ?_
      obtain ⟨hg, hf⟩ := hf
      refine a_iald C (n := 24) rfl hg dX7_went_31 ?_
      exact a_iret C X dX7_went_32 hf
    · have hf := hfb hc
      refine a_bipush C dX7_went_20 bp_m2 ?_
      exact a_iret C X dX7_went_22 hf
  · have hf := hfb hc
    refine a_iconst C dX7_went_8 (inr_b rfl) ?_
    exact a_iret C X dX7_went_9 hf
set_option maxRecDepth 20000 in
set_option maxHeartbeats 4000000 in
theorem cSt_count (x1 : Int) : Snd shX yX7_count cX7_count 2 (some .int) 0 0 [.inr 0, .inl x1] (fSt_count x1) := by
  refine Snd.of RX7 (by decide +kernel) rfl (Nat.le_of_ble_eq_true rfl) ?_
  intro E M R hf C X
  show AW shX 2 E 0 [some (.inr 0), some (.inl x1)] [] M
  refine a_iloadn C dX7_count_0 rfl ?_
  obtain ⟨hf60, hf68, hf76, hf84, hf92, hf100, hf108, hf116, hf124, hf132, hf140, hfd⟩ := hf
  by_cases hc0 : x1 = 0
  · have hc := hc0
    refine a_tsIn C 60 0 hc dX7_count_1 ⟨by decide, by decide, rfl, rfl⟩ ?_
    have hf := hf60 (hc)
    refine a_aloadn C dX7_count_60 rfl ?_
    refine a_getR C 13 fl_X7_40 rfl rfl dX7_count_61 ?_
    refine a_getI C (kz := 6) fl_X7_98 rfl rfl rfl dX7_count_64 ?_
    exact a_iret C X dX7_count_67 hf
  by_cases hc1 : x1 = 1
  · have hc := hc1
    refine a_tsIn C 68 1 hc dX7_count_1 ⟨by decide, by decide, rfl, rfl⟩ ?_
    have hf := hf68 (hc)
    refine a_aloadn C dX7_count_68 rfl ?_
    refine a_getR C 5 fl_X7_26 rfl rfl dX7_count_69 ?_
    refine a_getI C (kz := 0) fl_X7_145 rfl rfl rfl dX7_count_72 ?_
    exact a_iret C X dX7_count_75 hf
  by_cases hc2 : x1 = 2
  · have hc := hc2
    refine a_tsIn C 76 2 hc dX7_count_1 ⟨by decide, by decide, rfl, rfl⟩ ?_
    have hf := hf76 (hc)
    refine a_aloadn C dX7_count_76 rfl ?_
    refine a_getR C 5 fl_X7_26 rfl rfl dX7_count_77 ?_
    refine a_getI C (kz := 1) fl_X7_154 rfl rfl rfl dX7_count_80 ?_
    exact a_iret C X dX7_count_83 hf
  by_cases hc3 : x1 = 3
  · have hc := hc3
    refine a_tsIn C 84 3 hc dX7_count_1 ⟨by decide, by decide, rfl, rfl⟩ ?_
    have hf := hf84 (hc)
    refine a_aloadn C dX7_count_84 rfl ?_
    refine a_getR C 5 fl_X7_26 rfl rfl dX7_count_85 ?_
    refine a_getI C (kz := 2) fl_X7_157 rfl rfl rfl dX7_count_88 ?_
    exact a_iret C X dX7_count_91 hf
  by_cases hc4 : x1 = 4
  · have hc := hc4
    refine a_tsIn C 92 4 hc dX7_count_1 ⟨by decide, by decide, rfl, rfl⟩ ?_
    have hf := hf92 (hc)
    refine a_aloadn C dX7_count_92 rfl ?_
    refine a_getR C 5 fl_X7_26 rfl rfl dX7_count_93 ?_
    refine a_getI C (kz := 3) fl_X7_160 rfl rfl rfl dX7_count_96 ?_
    exact a_iret C X dX7_count_99 hf
  by_cases hc5 : x1 = 5
  · have hc := hc5
    refine a_tsIn C 100 5 hc dX7_count_1 ⟨by decide, by decide, rfl, rfl⟩ ?_
    have hf := hf100 (hc)
    refine a_aloadn C dX7_count_100 rfl ?_
    refine a_getR C 13 fl_X7_40 rfl rfl dX7_count_101 ?_
    refine a_getI C (kz := 7) fl_X7_261 rfl rfl rfl dX7_count_104 ?_
    exact a_iret C X dX7_count_107 hf
  by_cases hc6 : x1 = 6
  · have hc := hc6
    refine a_tsIn C 108 6 hc dX7_count_1 ⟨by decide, by decide, rfl, rfl⟩ ?_
    have hf := hf108 (hc)
    refine a_aloadn C dX7_count_108 rfl ?_
    refine a_getR C 13 fl_X7_40 rfl rfl dX7_count_109 ?_
    refine a_getI C (kz := 8) fl_X7_264 rfl rfl rfl dX7_count_112 ?_
    exact a_iret C X dX7_count_115 hf
  by_cases hc7 : x1 = 7
  · have hc := hc7
    refine a_tsIn C 116 7 hc dX7_count_1 ⟨by decide, by decide, rfl, rfl⟩ ?_
    have hf := hf116 (hc)
    refine a_aloadn C dX7_count_116 rfl ?_
    refine a_getR C 5 fl_X7_26 rfl rfl dX7_count_117 ?_
    refine a_getI C (kz := 5) fl_X7_171 rfl rfl rfl dX7_count_120 ?_
    exact a_iret C X dX7_count_123 hf
  by_cases hc8 : x1 = 8
  · have hc := hc8
    refine a_tsIn C 124 8 hc dX7_count_1 ⟨by decide, by decide, rfl, rfl⟩ ?_
    have hf := hf124 (hc)
    refine a_aloadn C dX7_count_124 rfl ?_
    refine a_getR C 1 fl_X7_10 rfl rfl dX7_count_125 ?_
    refine a_getI C (kz := 1) fl_X7_95 rfl rfl rfl dX7_count_128 ?_
    exact a_iret C X dX7_count_131 hf
  by_cases hc9 : x1 = 9
  · have hc := hc9
    refine a_tsIn C 132 9 hc dX7_count_1 ⟨by decide, by decide, rfl, rfl⟩ ?_
    have hf := hf132 (hc)
    refine a_aloadn C dX7_count_132 rfl ?_
    refine a_getR C 3 fl_X7_19 rfl rfl dX7_count_133 ?_
    refine a_getI C (kz := 1) fl_X7_112 rfl rfl rfl dX7_count_136 ?_
    exact a_iret C X dX7_count_139 hf
  by_cases hc10 : x1 = 10
  · have hc := hc10
    refine a_tsIn C 140 10 hc dX7_count_1 ⟨by decide, by decide, rfl, rfl⟩ ?_
    have hf := hf140 (hc)
    refine a_aloadn C dX7_count_140 rfl ?_
    refine a_getR C 40 fl_X7_61 rfl rfl dX7_count_141 ?_
    refine a_getI C (kz := 7) fl_X7_163 rfl rfl rfl dX7_count_144 ?_
    obtain ⟨hfa, hfb⟩ := hf
    refine a_if_eq C 154 dX7_count_147 rfl (fun hc => ?_) (fun hc => ?_)
    · have hf := hfa hc
      refine a_iconst C dX7_count_154 (inr_b rfl) ?_
      exact a_iret C X dX7_count_155 hf
    · have hf := hfb hc
      refine a_iconst C dX7_count_150 (inr_b rfl) ?_
      refine a_goto C 155 dX7_count_151 rfl ?_
      exact a_iret C X dX7_count_155 hf
  have hco : x1 < 0 ∨ 10 < x1 := by omega
  refine a_tsOut C 156 dX7_count_1 hco rfl ?_
  have hf := hfd (by omega)
  refine a_iconst C dX7_count_156 (inr_b rfl) ?_
  exact a_iret C X dX7_count_157 hf
