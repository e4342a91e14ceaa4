set_option maxRecDepth 20000 in
set_option maxHeartbeats 4000000 in
theorem cStr_coder_110 : Snd shX yJ0_coder_7d493 cJ0_coder_7d493 1 (some .byte) 0 0 [.inr 110] fStr_coder_110 := by
  refine Snd.of RJ0 (by decide +kernel) rfl (Nat.le_of_ble_eq_true rfl) ?_
  intro E M R hf C X
  show AW shX 1 E 0 [some (.inr 110)] [] M
  refine a_scs C fs_J0_38 dJ0_coder_7d493_0 ?_
  obtain ⟨hfa, hfb⟩ := hf
  refine a_if_eq C 13 dJ0_coder_7d493_3 rfl (fun hc => ?_) (fun hc => ?_)
  · have hf := hfa hc
    refine a_iconst C dJ0_coder_7d493_13 (inr_b rfl) ?_
    exact a_zret C X rfl dJ0_coder_7d493_14 hf
  · have hf := hfb hc
    refine a_aloadn C dJ0_coder_7d493_6 rfl ?_
    refine a_scod C (by decide) fs_J0_15 dJ0_coder_7d493_7 ?_
    refine a_goto C 14 dJ0_coder_7d493_10 rfl ?_
    exact a_zret C X rfl dJ0_coder_7d493_14 hf
set_option maxRecDepth 20000 in
set_option maxHeartbeats 4000000 in
theorem cStr_length_110 : Snd shX yJ0_length_8abf5 cJ0_length_8abf5 1 (some .int) 1 20 [.inr 110] fStr_length_110 := by
  refine Snd.of RJ0 (by decide +kernel) rfl (Nat.le_of_ble_eq_true rfl) ?_
  intro E M R hf C X
  show AW shX 1 E 0 [some (.inr 110)] [] M
  refine a_aloadn C dJ0_length_8abf5_0 rfl ?_
  refine a_sval C 120 (by decide) fs_J0_9 dJ0_length_8abf5_1 ?_
  refine a_slen C (nz := 31) (by decide) dJ0_length_8abf5_4 ?_
  refine a_aloadn C dJ0_length_8abf5_5 rfl ?_
  refine a_callK C 110 [] [.inl 31] dJ0_length_8abf5_6 (cStr_coder_110) mv_J0_coder_7d493 ln_J0_335 ⟨by decide, rfl⟩ ⟨rfl, rfl, Nat.le_of_ble_eq_true rfl, Nat.le_of_ble_eq_true rfl, Nat.le_of_ble_eq_true rfl⟩ hf (fun r1 M1 hf => ?_)
  refine a_ishr C dJ0_length_8abf5_9 ?_
  exact a_iret C X dJ0_length_8abf5_10 hf
set_option maxRecDepth 20000 in
set_option maxHeartbeats 4000000 in
theorem sStr_isLatin1_110_17 {E : EE} {R : Int → Mem → Prop} (C : Cx shX 1 cJ0_isLatin1_aae02 RJ0 0 0 E) (X : Rx shX (some .boolean) R E) (M : Mem) (hf : fStr_isLatin1_110_17  R M) : AW shX 1 E 17 [none] [] M := by
  refine a_iconst C dJ0_isLatin1_aae02_17 (inr_b rfl) ?_
  exact a_bret C X (Or.inl rfl) dJ0_isLatin1_aae02_18 hf
set_option maxRecDepth 20000 in
set_option maxHeartbeats 4000000 in
theorem cStr_isLatin1_110 : Snd shX yJ0_isLatin1_aae02 cJ0_isLatin1_aae02 1 (some .boolean) 0 0 [.inr 110] fStr_isLatin1_110 := by
  refine Snd.of RJ0 (by decide +kernel) rfl (Nat.le_of_ble_eq_true rfl) ?_
  intro E M R hf C X
  show AW shX 1 E 0 [some (.inr 110)] [] M
  refine a_scs C fs_J0_38 dJ0_isLatin1_aae02_0 ?_
  obtain ⟨hfa, hfb⟩ := hf
  refine a_if_eq C 17 dJ0_isLatin1_aae02_3 rfl (fun hc => ?_) (fun hc => ?_)
  · have hf := hfa hc
    refine a_drop [false] (lv2 := [none]) rfl ?_
    exact sStr_isLatin1_110_17 C X   _ hf
  · have hf := hfb hc
    refine a_aloadn C dJ0_isLatin1_aae02_6 rfl ?_
    refine a_scod C (by decide) fs_J0_15 dJ0_isLatin1_aae02_7 ?_
    obtain ⟨hfa, hfb⟩ := hf
    refine a_if_ne C 17 dJ0_isLatin1_aae02_10 rfl (fun hc => ?_) (fun hc => ?_)
    · have hf := hfa hc
      refine a_drop [false] (lv2 := [none]) rfl ?_
      exact sStr_isLatin1_110_17 C X   _ hf
    · have hf := hfb hc
      refine a_iconst C dJ0_isLatin1_aae02_13 (inr_b rfl) ?_
      refine a_goto C 18 dJ0_isLatin1_aae02_14 rfl ?_
      exact a_bret C X (Or.inr rfl) dJ0_isLatin1_aae02_18 hf
set_option maxRecDepth 20000 in
set_option maxHeartbeats 4000000 in
theorem cLat_charAt_120 (x1 : Int) : Snd shX yJ1_charAt_3b067 cJ1_charAt_3b067 2 (some .char) 2 43 [.inr 120, .inl x1] (fLat_charAt_120 x1) := by
  refine Snd.of RJ1 (by decide +kernel) rfl (Nat.le_of_ble_eq_true rfl) ?_
  intro E M R hf C X
  show AW shX 2 E 0 [some (.inr 120), some (.inl x1)] [] M
  refine a_iloadn C dJ1_charAt_3b067_0 rfl ?_
  refine a_aloadn C dJ1_charAt_3b067_1 rfl ?_
  refine a_slen C (nz := 31) (by decide) dJ1_charAt_3b067_2 ?_
  refine a_callS C [.inl x1, .inl 31] [] dJ1_charAt_3b067_3 (cStr_checkIndex _ _) ms_J0_checkIndex_df160 ln_J1_9 ⟨rfl, rfl, Nat.le_of_ble_eq_true rfl, Nat.le_of_ble_eq_true rfl, Nat.le_of_ble_eq_true rfl⟩ hf (fun r1 M1 hf => ?_)
  refine a_aloadn C dJ1_charAt_3b067_6 rfl ?_
  refine a_iloadn C dJ1_charAt_3b067_7 rfl ?_
  obtain ⟨hg, hf⟩ := hf
  refine a_sb C (n := 31) (by decide) hg dJ1_charAt_3b067_8 ?_
  refine a_sipush C dJ1_charAt_3b067_9 sp_255 ?_
  refine a_iand C dJ1_charAt_3b067_12 ?_
  refine a_i2c C dJ1_charAt_3b067_13 ?_
  obtain ⟨hg, hf⟩ := hf
  exact a_cret C X hg dJ1_charAt_3b067_14 hf
set_option maxRecDepth 20000 in
set_option maxHeartbeats 4000000 in
theorem cStr_charAt_110 (x1 : Int) : Snd shX yJ0_charAt_5068e cJ0_charAt_5068e 2 (some .char) 3 64 [.inr 110, .inl x1] (fStr_charAt_110 x1) := by
  refine Snd.of RJ0 (by decide +kernel) rfl (Nat.le_of_ble_eq_true rfl) ?_
  intro E M R hf C X
  show AW shX 2 E 0 [some (.inr 110), some (.inl x1)] [] M
  refine a_aloadn C dJ0_charAt_5068e_0 rfl ?_
  refine a_callK C 110 [] [] dJ0_charAt_5068e_1 (cStr_isLatin1_110) mv_J0_isLatin1_aae02 ln_J0_492 ⟨by decide, rfl⟩ ⟨rfl, rfl, Nat.le_of_ble_eq_true rfl, Nat.le_of_ble_eq_true rfl, Nat.le_of_ble_eq_true rfl⟩ hf (fun r1 M1 hf => ?_)
  obtain ⟨hfa, hfb⟩ := hf
  refine a_if_eq C 16 dJ0_charAt_5068e_4 rfl (fun hc => ?_) (fun hc => ?_)
  · have hf := hfa hc
    refine a_aloadn C dJ0_charAt_5068e_16 rfl ?_
    refine a_sval C 120 (by decide) fs_J0_9 dJ0_charAt_5068e_17 ?_
    refine a_iloadn C dJ0_charAt_5068e_20 rfl ?_
    exact hf.elim
  · have hf := hfb hc
    refine a_aloadn C dJ0_charAt_5068e_7 rfl ?_
    refine a_sval C 120 (by decide) fs_J0_9 dJ0_charAt_5068e_8 ?_
    refine a_iloadn C dJ0_charAt_5068e_11 rfl ?_
    refine a_callS C [.inr 120, .inl x1] [] dJ0_charAt_5068e_12 (cLat_charAt_120 _) ms_J1_charAt_3b067 ln_J0_495 ⟨rfl, rfl, Nat.le_of_ble_eq_true rfl, Nat.le_of_ble_eq_true rfl, Nat.le_of_ble_eq_true rfl⟩ hf (fun r2 M2 hf => ?_)
    obtain ⟨hg, hf⟩ := hf
    exact a_cret C X hg dJ0_charAt_5068e_15 hf
set_option maxRecDepth 20000 in
set_option maxHeartbeats 4000000 in
theorem cTe_append (x1 : Int) : Snd shX yX6_append cX6_append 2 none 0 0 [.inr 1, .inl x1] (fTe_append x1) := by
  refine Snd.of RX6 (by decide +kernel) rfl (Nat.le_of_ble_eq_true rfl) ?_
  intro E M R hf C X
  show AW shX 2 E 0 [some (.inr 1), some (.inl x1)] [] M
  refine a_aloadn C dX6_append_0 rfl ?_
  refine a_getI C (kz := 1) fl_X6_15 rfl rfl rfl dX6_append_1 ?_
  refine a_aloadn C dX6_append_4 rfl ?_
  refine a_getR C 2 fl_X6_9 rfl rfl dX6_append_5 ?_
  refine a_alen C 200 rfl rfl rfl (inr_b rfl) dX6_append_8 ?_
  obtain ⟨hfa, hfb⟩ := hf
  refine a_icmp_ge C 29 dX6_append_9 rfl (fun hc => ?_) (fun hc => ?_)
  · have hf := hfa hc
    exact a_vret C X dX6_append_29 hf
  · have hf := hfb hc
    refine a_aloadn C dX6_append_12 rfl ?_
    refine a_getR C 2 fl_X6_9 rfl rfl dX6_append_13 ?_
    refine a_aloadn C dX6_append_16 rfl ?_
    refine a_dup C dX6_append_17 ?_
    refine a_getI C (kz := 1) fl_X6_15 rfl rfl rfl dX6_append_18 ?_
    refine a_dup_x1 C dX6_append_21 ?_
    refine a_iconst C dX6_append_22 (inr_b rfl) ?_
    refine a_iadd C dX6_append_23 ?_
    refine a_putI C (kz := 1) fp_X6_15 rfl rfl rfl dX6_append_24 ?_
    refine a_iloadn C dX6_append_27 rfl ?_
    obtain ⟨hg, hf⟩ := hf
    refine a_iast C (n := 200) rfl hg dX6_append_28 ?_
    exact a_vret C X dX6_append_29 hf
set_option maxRecDepth 20000 in
set_option maxHeartbeats 4000000 in
theorem cTe_empty : Snd shX yX6_empty cX6_empty 2 (some .int) 0 0 [.inr 1] fTe_empty := by
  refine Snd.of RX6 (by decide +kernel) rfl (Nat.le_of_ble_eq_true rfl) ?_
  intro E M R hf C X
  show AW shX 2 E 0 [some (.inr 1), none] [] M
  refine a_aloadn C dX6_empty_0 rfl ?_
  refine a_getI C (kz := 1) fl_X6_15 rfl rfl rfl dX6_empty_1 ?_
  refine a_istoren C dX6_empty_4 (by decide) (lv2 := [some (.inr 1), some (.inl (M 1 1))]) rfl ?_
  refine a_aloadn C dX6_empty_5 rfl ?_
  refine a_iconst C dX6_empty_6 (inr_b rfl) ?_
  refine a_putI C (kz := 1) fp_X6_15 rfl rfl rfl dX6_empty_7 ?_
  refine a_iloadn C dX6_empty_10 rfl ?_
  exact a_iret C X dX6_empty_11 hf
set_option maxRecDepth 20000 in
set_option maxHeartbeats 4000000 in
theorem sPr_leads_p_22 {E : EE} {R : Int → Mem → Prop} (C : Cx shX 2 cX3_leads RX3 0 0 E) (X : Rx shX (some .boolean) R E) (M : Mem) (hf : fPr_leads_p_22  R M) : AW shX 2 E 22 [none, none] [] M := by
  refine a_iconst C dX3_leads_22 (inr_b rfl) ?_
  refine a_goto C 27 dX3_leads_23 rfl ?_
  exact a_bret C X (Or.inr rfl) dX3_leads_27 hf
set_option maxRecDepth 20000 in
set_option maxHeartbeats 4000000 in
theorem cPr_leads_p (x1 : Int) : Snd shX yX3_leads cX3_leads 2 (some .boolean) 0 0 [.inr 13, .inl x1] (fPr_leads_p x1) := by
  refine Snd.of RX3 (by decide +kernel) rfl (Nat.le_of_ble_eq_true rfl) ?_
  intro E M R hf C X
  show AW shX 2 E 0 [some (.inr 13), some (.inl x1)] [] M
  refine a_aloadn C dX3_leads_0 rfl ?_
  refine a_getR C 14 fl_X3_9 rfl rfl dX3_leads_1 ?_
  refine a_iloadn C dX3_leads_4 rfl ?_
  obtain ⟨hg, hf⟩ := hf
  refine a_iald C (n := 24) rfl hg dX3_leads_5 ?_
  refine a_bipush C dX3_leads_6 bp_11 ?_
  obtain ⟨hfa, hfb⟩ := hf
  refine a_icmp_eq C 22 dX3_leads_8 rfl (fun hc => ?_) (fun hc => ?_)
  · have hf := hfa hc
    refine a_drop [false, false] (lv2 := [none, none]) rfl ?_
    exact sPr_leads_p_22 C X   _ hf
  · have hf := hfb hc
    refine a_aloadn C dX3_leads_11 rfl ?_
    refine a_getR C 14 fl_X3_9 rfl rfl dX3_leads_12 ?_
    refine a_iloadn C dX3_leads_15 rfl ?_
    obtain ⟨hg, hf⟩ := hf
    refine a_iald C (n := 24) rfl hg dX3_leads_16 ?_
    refine a_bipush C dX3_leads_17 bp_12 ?_
    obtain ⟨hfa, hfb⟩ := hf
    refine a_icmp_ne C 26 dX3_leads_19 rfl (fun hc => ?_) (fun hc => ?_)
    · have hf := hfa hc
      refine a_iconst C dX3_leads_26 (inr_b rfl) ?_
      exact a_bret C X (Or.inl rfl) dX3_leads_27 hf
    · have hf := hfb hc
      refine a_drop [false, false] (lv2 := [none, none]) rfl ?_
      exact sPr_leads_p_22 C X   _ hf
set_option maxRecDepth 20000 in
set_option maxHeartbeats 4000000 in
theorem cCa_append (x1 : Int) : Snd shX yX0_append cX0_append 2 none 0 0 [.inr 3, .inl x1] (fCa_append x1) := by
  refine Snd.of RX0 (by decide +kernel) rfl (Nat.le_of_ble_eq_true rfl) ?_
  intro E M R hf C X
  show AW shX 2 E 0 [some (.inr 3), some (.inl x1)] [] M
  refine a_aloadn C dX0_append_0 rfl ?_
  refine a_getI C (kz := 1) fl_X0_15 rfl rfl rfl dX0_append_1 ?_
  refine a_aloadn C dX0_append_4 rfl ?_
  refine a_getR C 4 fl_X0_9 rfl rfl dX0_append_5 ?_
  refine a_alen C 3 rfl rfl rfl (inr_b rfl) dX0_append_8 ?_
  obtain ⟨hfa, hfb⟩ := hf
  refine a_icmp_ge C 29 dX0_append_9 rfl (fun hc => ?_) (fun hc => ?_)
  · have hf := hfa hc
    exact a_vret C X dX0_append_29 hf
  · have hf := hfb hc
    refine a_aloadn C dX0_append_12 rfl ?_
    refine a_getR C 4 fl_X0_9 rfl rfl dX0_append_13 ?_
    refine a_aloadn C dX0_append_16 rfl ?_
    refine a_dup C dX0_append_17 ?_
    refine a_getI C (kz := 1) fl_X0_15 rfl rfl rfl dX0_append_18 ?_
    refine a_dup_x1 C dX0_append_21 ?_
    refine a_iconst C dX0_append_22 (inr_b rfl) ?_
    refine a_iadd C dX0_append_23 ?_
    refine a_putI C (kz := 1) fp_X0_15 rfl rfl rfl dX0_append_24 ?_
    refine a_iloadn C dX0_append_27 rfl ?_
    obtain ⟨hg, hf⟩ := hf
    refine a_iast C (n := 3) rfl hg dX0_append_28 ?_
    exact a_vret C X dX0_append_29 hf
set_option maxRecDepth 20000 in
set_option maxHeartbeats 4000000 in
theorem cPr_faulty (x0 x1 : Int) : Snd shX yX3_faulty cX3_faulty 3 (some .int) 1 21 [.inl x0, .inl x1, .inr 3] (fPr_faulty x0 x1) := by
  refine Snd.of RX3 (by decide +kernel) rfl (Nat.le_of_ble_eq_true rfl) ?_
  intro E M R hf C X
  show AW shX 3 E 0 [some (.inl x0), some (.inl x1), some (.inr 3)] [] M
  refine a_aloadn C dX3_faulty_0 rfl ?_
  refine a_iconst C dX3_faulty_1 (inr_b rfl) ?_
  refine a_callV C [.inl 1] [] dX3_faulty_2 (cCa_append _) mv_X0_append ln_X3_64 rfl rfl ⟨rfl, rfl, Nat.le_of_ble_eq_true rfl, Nat.le_of_ble_eq_true rfl, Nat.le_of_ble_eq_true rfl⟩ hf (fun r1 M1 hf => ?_)
  refine a_aloadn C dX3_faulty_5 rfl ?_
  refine a_iloadn C dX3_faulty_6 rfl ?_
  refine a_callV C [.inl x1] [] dX3_faulty_7 (cCa_append _) mv_X0_append ln_X3_64 rfl rfl ⟨rfl, rfl, Nat.le_of_ble_eq_true rfl, Nat.le_of_ble_eq_true rfl, Nat.le_of_ble_eq_true rfl⟩ hf (fun r2 M2 hf => ?_)
  refine a_iloadn C dX3_faulty_10 rfl ?_
  exact a_iret C X dX3_faulty_11 hf
set_option maxRecDepth 20000 in
set_option maxHeartbeats 4000000 in
theorem sTe_letterAt_21 {E : EE} {R : Int → Mem → Prop} (C : Cx shX 2 cX6_letterAt RX6 0 0 E) (X : Rx shX (some .int) R E) (M : Mem) (hf : fTe_letterAt_21  R M) : AW shX 2 E 21 [none, none] [] M := by
  refine a_iconst C dX6_letterAt_21 (inr_b rfl) ?_
  exact a_iret C X dX6_letterAt_22 hf
set_option maxRecDepth 20000 in
set_option maxHeartbeats 4000000 in
theorem cTe_letterAt (x1 : Int) : Snd shX yX6_letterAt cX6_letterAt 2 (some .int) 0 0 [.inr 1, .inl x1] (fTe_letterAt x1) := by
  refine Snd.of RX6 (by decide +kernel) rfl (Nat.le_of_ble_eq_true rfl) ?_
  intro E M R hf C X
  show AW shX 2 E 0 [some (.inr 1), some (.inl x1)] [] M
  refine a_iloadn C dX6_letterAt_0 rfl ?_
  obtain ⟨hfa, hfb⟩ := hf
  refine a_if_lt C 21 dX6_letterAt_1 rfl (fun hc => ?_) (fun hc => ?_)
  · have hf := hfa hc
    refine a_drop [false, false] (lv2 := [none, none]) rfl ?_
    exact sTe_letterAt_21 C X   _ hf
  · have hf := hfb hc
    refine a_iloadn C dX6_letterAt_4 rfl ?_
    refine a_aloadn C dX6_letterAt_5 rfl ?_
    refine a_getI C (kz := 1) fl_X6_15 rfl rfl rfl dX6_letterAt_6 ?_
    obtain ⟨hfa, hfb⟩ := hf
    refine a_icmp_ge C 21 dX6_letterAt_9 rfl (fun hc => ?_) (fun hc => ?_)
    · have hf := hfa hc
      refine a_drop [false, false] (lv2 := [none, none]) rfl ?_
      exact sTe_letterAt_21 C X   _ hf
    · have hf := hfb hc
      refine a_aloadn C dX6_letterAt_12 rfl ?_
      refine a_getR C 2 fl_X6_9 rfl rfl dX6_letterAt_13 ?_
      refine a_iloadn C dX6_letterAt_16 rfl ?_
      obtain ⟨hg, hf⟩ := hf
      refine a_iald C (n := 200) rfl hg dX6_letterAt_17 ?_
      refine a_goto C 22 dX6_letterAt_18 rfl ?_
      exact a_iret C X dX6_letterAt_22 hf
set_option maxRecDepth 20000 in
set_option maxHeartbeats 4000000 in
theorem sStr_isLatin1_111_17 {E : EE} {R : Int → Mem → Prop} (C : Cx shX 1 cJ0_isLatin1_aae02 RJ0 0 0 E) (X : Rx shX (some .boolean) R E) (M : Mem) (hf : fStr_isLatin1_111_17  R M) : AW shX 1 E 17 [none] [] M := by
  refine a_iconst C dJ0_isLatin1_aae02_17 (inr_b rfl) ?_
  exact a_bret C X (Or.inl rfl) dJ0_isLatin1_aae02_18 hf
set_option maxRecDepth 20000 in
set_option maxHeartbeats 4000000 in
theorem cStr_isLatin1_111 : Snd shX yJ0_isLatin1_aae02 cJ0_isLatin1_aae02 1 (some .boolean) 0 0 [.inr 111] fStr_isLatin1_111 := by
  refine Snd.of RJ0 (by decide +kernel) rfl (Nat.le_of_ble_eq_true rfl) ?_
  intro E M R hf C X
  show AW shX 1 E 0 [some (.inr 111)] [] M
  refine a_scs C fs_J0_38 dJ0_isLatin1_aae02_0 ?_
  obtain ⟨hfa, hfb⟩ := hf
  refine a_if_eq C 17 dJ0_isLatin1_aae02_3 rfl (fun hc => ?_) (fun hc => ?_)
  · have hf := hfa hc
    refine a_drop [false] (lv2 := [none]) rfl ?_
    exact sStr_isLatin1_111_17 C X   _ hf
  · have hf := hfb hc
    refine a_aloadn C dJ0_isLatin1_aae02_6 rfl ?_
    refine a_scod C (by decide) fs_J0_15 dJ0_isLatin1_aae02_7 ?_
    obtain ⟨hfa, hfb⟩ := hf
    refine a_if_ne C 17 dJ0_isLatin1_aae02_10 rfl (fun hc => ?_) (fun hc => ?_)
    · have hf := hfa hc
      refine a_drop [false] (lv2 := [none]) rfl ?_
      exact sStr_isLatin1_111_17 C X   _ hf
    · have hf := hfb hc
      refine a_iconst C dJ0_isLatin1_aae02_13 (inr_b rfl) ?_
      refine a_goto C 18 dJ0_isLatin1_aae02_14 rfl ?_
      exact a_bret C X (Or.inr rfl) dJ0_isLatin1_aae02_18 hf
set_option maxRecDepth 20000 in
set_option maxHeartbeats 4000000 in
theorem cStr_coder_111 : Snd shX yJ0_coder_7d493 cJ0_coder_7d493 1 (some .byte) 0 0 [.inr 111] fStr_coder_111 := by
  refine Snd.of RJ0 (by decide +kernel) rfl (Nat.le_of_ble_eq_true rfl) ?_
  intro E M R hf C X
  show AW shX 1 E 0 [some (.inr 111)] [] M
  refine a_scs C fs_J0_38 dJ0_coder_7d493_0 ?_
  obtain ⟨hfa, hfb⟩ := hf
  refine a_if_eq C 13 dJ0_coder_7d493_3 rfl (fun hc => ?_) (fun hc => ?_)
  · have hf := hfa hc
    refine a_iconst C dJ0_coder_7d493_13 (inr_b rfl) ?_
    exact a_zret C X rfl dJ0_coder_7d493_14 hf
  · have hf := hfb hc
    refine a_aloadn C dJ0_coder_7d493_6 rfl ?_
    refine a_scod C (by decide) fs_J0_15 dJ0_coder_7d493_7 ?_
    refine a_goto C 14 dJ0_coder_7d493_10 rfl ?_
    exact a_zret C X rfl dJ0_coder_7d493_14 hf
set_option maxRecDepth 20000 in
set_option maxHeartbeats 4000000 in
theorem cStr_length_111 : Snd shX yJ0_length_8abf5 cJ0_length_8abf5 1 (some .int) 1 20 [.inr 111] fStr_length_111 := by
  refine Snd.of RJ0 (by decide +kernel) rfl (Nat.le_of_ble_eq_true rfl) ?_
  intro E M R hf C X
  show AW shX 1 E 0 [some (.inr 111)] [] M
  refine a_aloadn C dJ0_length_8abf5_0 rfl ?_
  refine a_sval C 121 (by decide) fs_J0_9 dJ0_length_8abf5_1 ?_
  refine a_slen C (nz := 15) (by decide) dJ0_length_8abf5_4 ?_
  refine a_aloadn C dJ0_length_8abf5_5 rfl ?_
  refine a_callK C 111 [] [.inl 15] dJ0_length_8abf5_6 (cStr_coder_111) mv_J0_coder_7d493 ln_J0_335 ⟨by decide, rfl⟩ ⟨rfl, rfl, Nat.le_of_ble_eq_true rfl, Nat.le_of_ble_eq_true rfl, Nat.le_of_ble_eq_true rfl⟩ hf (fun r1 M1 hf => ?_)
  refine a_ishr C dJ0_length_8abf5_9 ?_
  exact a_iret C X dJ0_length_8abf5_10 hf
set_option maxRecDepth 20000 in
set_option maxHeartbeats 4000000 in
theorem sLat_canEncode_15 {E : EE} {R : Int → Mem → Prop} (C : Cx shX 1 cJ1_canEncode_9a6ad RJ1 0 0 E) (X : Rx shX (some .boolean) R E) (M : Mem) (hf : fLat_canEncode_15  R M) : AW shX 1 E 15 [none] [] M := by
  refine a_iconst C dJ1_canEncode_9a6ad_15 (inr_b rfl) ?_
  exact a_bret C X (Or.inl rfl) dJ1_canEncode_9a6ad_16 hf
set_option maxRecDepth 20000 in
set_option maxHeartbeats 4000000 in
theorem cLat_canEncode (x0 : Int) : Snd shX yJ1_canEncode_9a6ad cJ1_canEncode_9a6ad 1 (some .boolean) 0 0 [.inl x0] (fLat_canEncode x0) := by
  refine Snd.of RJ1 (by decide +kernel) rfl (Nat.le_of_ble_eq_true rfl) ?_
  intro E M R hf C X
  show AW shX 1 E 0 [some (.inl x0)] [] M
  refine a_iloadn C dJ1_canEncode_9a6ad_0 rfl ?_
  obtain ⟨hfa, hfb⟩ := hf
  refine a_if_lt C 15 dJ1_canEncode_9a6ad_1 rfl (fun hc => ?_) (fun hc => ?_)
  · have hf := hfa hc
    refine a_drop [false] (lv2 := [none]) rfl ?_
    exact sLat_canEncode_15 C X   _ hf
  · have hf := hfb hc
    refine a_iloadn C dJ1_canEncode_9a6ad_4 rfl ?_
    refine a_sipush C dJ1_canEncode_9a6ad_5 sp_255 ?_
    obtain ⟨hfa, hfb⟩ := hf
    refine a_icmp_gt C 15 dJ1_canEncode_9a6ad_8 rfl (fun hc => ?_) (fun hc => ?_)
    · have hf := hfa hc
      refine a_drop [false] (lv2 := [none]) rfl ?_
      exact sLat_canEncode_15 C X   _ hf
    · have hf := hfb hc
      refine a_iconst C dJ1_canEncode_9a6ad_11 (inr_b rfl) ?_
      refine a_goto C 16 dJ1_canEncode_9a6ad_12 rfl ?_
      exact a_bret C X (Or.inr rfl) dJ1_canEncode_9a6ad_16 hf
set_option maxRecDepth 20000 in
set_option maxHeartbeats 4000000 in
theorem cMath_max (x0 x1 : Int) : Snd shX yJ9_max_7cf53 cJ9_max_7cf53 2 (some .int) 0 0 [.inl x0, .inl x1] (fMath_max x0 x1) := by
  refine Snd.of RJ9 (by decide +kernel) rfl (Nat.le_of_ble_eq_true rfl) ?_
  intro E M R hf C X
  show AW shX 2 E 0 [some (.inl x0), some (.inl x1)] [] M
  refine a_iloadn C dJ9_max_7cf53_0 rfl ?_
  refine a_iloadn C dJ9_max_7cf53_1 rfl ?_
  obtain ⟨hfa, hfb⟩ := hf
  refine a_icmp_lt C 9 dJ9_max_7cf53_2 rfl (fun hc => ?_) (fun hc => ?_)
  · have hf := hfa hc
    refine a_iloadn C dJ9_max_7cf53_9 rfl ?_
    exact a_iret C X dJ9_max_7cf53_10 hf
  · have hf := hfb hc
    refine a_iloadn C dJ9_max_7cf53_5 rfl ?_
    refine a_goto C 10 dJ9_max_7cf53_6 rfl ?_
    exact a_iret C X dJ9_max_7cf53_10 hf
set_option maxRecDepth 20000 in
set_option maxHeartbeats 4000000 in
theorem cMath_min (x0 x1 : Int) : Snd shX yJ9_min_7cf53 cJ9_min_7cf53 2 (some .int) 0 0 [.inl x0, .inl x1] (fMath_min x0 x1) := by
  refine Snd.of RJ9 (by decide +kernel) rfl (Nat.le_of_ble_eq_true rfl) ?_
  intro E M R hf C X
  show AW shX 2 E 0 [some (.inl x0), some (.inl x1)] [] M
  refine a_iloadn C dJ9_min_7cf53_0 rfl ?_
  refine a_iloadn C dJ9_min_7cf53_1 rfl ?_
  obtain ⟨hfa, hfb⟩ := hf
  refine a_icmp_gt C 9 dJ9_min_7cf53_2 rfl (fun hc => ?_) (fun hc => ?_)
  · have hf := hfa hc
    refine a_iloadn C dJ9_min_7cf53_9 rfl ?_
    exact a_iret C X dJ9_min_7cf53_10 hf
  · have hf := hfb hc
    refine a_iloadn C dJ9_min_7cf53_5 rfl ?_
    refine a_goto C 10 dJ9_min_7cf53_6 rfl ?_
    exact a_iret C X dJ9_min_7cf53_10 hf
set_option maxRecDepth 20000 in
set_option maxHeartbeats 4000000 in
theorem sLat_indexOfChar_121_7 {E : EE} {R : Int → Mem → Prop} (C : Cx shX 6 cJ1_indexOfChar_4cfef RJ1 0 0 E) (X : Rx shX (some .int) R E) : ∀ (n : Nat) (x3 : Int) (x4 : Int) (x5 : Int) (M : Mem), fLat_indexOfChar_121_7  R n x3 x4 x5 M → AW shX 6 E 7 [some (.inr 121), none, none, some (.inl x3), some (.inl x4), some (.inl x5)] [] M := by
  intro n
  induction n with
  | zero => intro x3 x4 x5 M hf; exact hf.elim
  | succ n hk7 =>
    intro x3 x4 x5 M hf
    refine a_iload C dJ1_indexOfChar_4cfef_7 rfl ?_
    refine a_iloadn C dJ1_indexOfChar_4cfef_9 rfl ?_
    obtain ⟨hfa, hfb⟩ := hf
    refine a_icmp_ge C 31 dJ1_indexOfChar_4cfef_10 rfl (fun hc => ?_) (fun hc => ?_)
    · have hf := hfa hc
      refine a_iconst C dJ1_indexOfChar_4cfef_31 (inr_b rfl) ?_
      exact a_iret C X dJ1_indexOfChar_4cfef_32 hf
    · have hf := hfb hc
      refine a_aloadn C dJ1_indexOfChar_4cfef_13 rfl ?_
      refine a_iload C dJ1_indexOfChar_4cfef_14 rfl ?_
      obtain ⟨hg, hf⟩ := hf
      refine a_sb C (n := 15) (by decide) hg dJ1_indexOfChar_4cfef_16 ?_
      refine a_iload C dJ1_indexOfChar_4cfef_17 rfl ?_
      obtain ⟨hfa, hfb⟩ := hf
      refine a_icmp_ne C 25 dJ1_indexOfChar_4cfef_19 rfl (fun hc => ?_) (fun hc => ?_)
      · have hf := hfa hc
        refine a_iinc C dJ1_indexOfChar_4cfef_25 rfl (by decide) (lv2 := [some (.inr 121), none, none, some (.inl x3), some (.inl x4), some (.inl (wrap (x5 + 1)))]) rfl ?_
        refine a_goto C 7 dJ1_indexOfChar_4cfef_28 rfl ?_
        exact hk7 _ _ _ _ hf
      · have hf := hfb hc
        refine a_iload C dJ1_indexOfChar_4cfef_22 rfl ?_
        exact a_iret C X dJ1_indexOfChar_4cfef_24 hf
set_option maxRecDepth 20000 in
set_option maxHeartbeats 4000000 in
theorem cLat_indexOfChar_121 (x1 x2 x3 : Int) : Snd shX yJ1_indexOfChar_4cfef cJ1_indexOfChar_4cfef 6 (some .int) 0 0 [.inr 121, .inl x1, .inl x2, .inl x3] (fLat_indexOfChar_121 x1 x2 x3) := by
  refine Snd.of RJ1 (by decide +kernel) rfl (Nat.le_of_ble_eq_true rfl) ?_
  intro E M R hf C X
  show AW shX 6 E 0 [some (.inr 121), some (.inl x1), some (.inl x2), some (.inl x3), none, none] [] M
  refine a_iloadn C dJ1_indexOfChar_4cfef_0 rfl ?_
  refine a_i2b C dJ1_indexOfChar_4cfef_1 ?_
  refine a_istore C dJ1_indexOfChar_4cfef_2 (by decide) (lv2 := [some (.inr 121), some (.inl x1), some (.inl x2), some (.inl x3), some (.inl (b_i2b x1)), none]) rfl ?_
  refine a_iloadn C dJ1_indexOfChar_4cfef_4 rfl ?_
  refine a_istore C dJ1_indexOfChar_4cfef_5 (by decide) (lv2 := [some (.inr 121), some (.inl x1), some (.inl x2), some (.inl x3), some (.inl (b_i2b x1)), some (.inl x2)]) rfl ?_
  refine a_drop [true, false, false, true, true, true] (lv2 := [some (.inr 121), none, none, some (.inl x3), some (.inl (b_i2b x1)), some (.inl x2)]) rfl ?_
  obtain ⟨n1, hf⟩ := hf
  exact sLat_indexOfChar_121_7 C X  n1 _ _ _ _ hf
set_option maxRecDepth 20000 in
set_option maxHeartbeats 4000000 in
theorem cLat_indexOf_121 (x1 x2 x3 : Int) : Snd shX yJ1_indexOf_4cfef cJ1_indexOf_4cfef 4 (some .int) 1 25 [.inr 121, .inl x1, .inl x2, .inl x3] (fLat_indexOf_121 x1 x2 x3) := by
  refine Snd.of RJ1 (by decide +kernel) rfl (Nat.le_of_ble_eq_true rfl) ?_
  intro E M R hf C X
  show AW shX 4 E 0 [some (.inr 121), some (.inl x1), some (.inl x2), some (.inl x3)] [] M
  refine a_iloadn C dJ1_indexOf_4cfef_0 rfl ?_
  refine a_callS C [.inl x1] [] dJ1_indexOf_4cfef_1 (cLat_canEncode _) ms_J1_canEncode_9a6ad ln_J1_88 ⟨rfl, rfl, Nat.le_of_ble_eq_true rfl, Nat.le_of_ble_eq_true rfl, Nat.le_of_ble_eq_true rfl⟩ hf (fun r1 M1 hf => ?_)
  obtain ⟨hfa, hfb⟩ := hf
  refine a_if_ne C 9 dJ1_indexOf_4cfef_4 rfl (fun hc => ?_) (fun hc => ?_)
  · have hf := hfa hc
    refine a_iloadn C dJ1_indexOf_4cfef_9 rfl ?_
    refine a_iconst C dJ1_indexOf_4cfef_10 (inr_b rfl) ?_
    refine a_callS C [.inl x2, .inl 0] [] dJ1_indexOf_4cfef_11 (cMath_max _ _) ms_J9_max_7cf53 ln_J1_92 ⟨rfl, rfl, Nat.le_of_ble_eq_true rfl, Nat.le_of_ble_eq_true rfl, Nat.le_of_ble_eq_true rfl⟩ hf (fun r2 M2 hf => ?_)
    refine a_istoren C dJ1_indexOf_4cfef_14 (by decide) (lv2 := [some (.inr 121), some (.inl x1), some (.inl r2), some (.inl x3)]) rfl ?_
    refine a_iloadn C dJ1_indexOf_4cfef_15 rfl ?_
    refine a_aloadn C dJ1_indexOf_4cfef_16 rfl ?_
    refine a_slen C (nz := 15) (by decide) dJ1_indexOf_4cfef_17 ?_
    refine a_callS C [.inl x3, .inl 15] [] dJ1_indexOf_4cfef_18 (cMath_min _ _) ms_J9_min_7cf53 ln_J1_38 ⟨rfl, rfl, Nat.le_of_ble_eq_true rfl, Nat.le_of_ble_eq_true rfl, Nat.le_of_ble_eq_true rfl⟩ hf (fun r3 M3 hf => ?_)
    refine a_istoren C dJ1_indexOf_4cfef_21 (by decide) (lv2 := [some (.inr 121), some (.inl x1), some (.inl r2), some (.inl r3)]) rfl ?_
    refine a_iloadn C dJ1_indexOf_4cfef_22 rfl ?_
    refine a_iloadn C dJ1_indexOf_4cfef_23 rfl ?_
    obtain ⟨hfa, hfb⟩ := hf
    refine a_icmp_lt C 29 dJ1_indexOf_4cfef_24 rfl (fun hc => ?_) (fun hc => ?_)
    · have hf := hfa hc
      refine a_aloadn C dJ1_indexOf_4cfef_29 rfl ?_
      refine a_iloadn C dJ1_indexOf_4cfef_30 rfl ?_
      refine a_iloadn C dJ1_indexOf_4cfef_31 rfl ?_
      refine a_iloadn C dJ1_indexOf_4cfef_32 rfl ?_
      refine a_callS C [.inr 121, .inl x1, .inl r2, .inl r3] [] dJ1_indexOf_4cfef_33 (cLat_indexOfChar_121 _ _ _) ms_J1_indexOfChar_4cfef ln_J1_95 ⟨rfl, rfl, Nat.le_of_ble_eq_true rfl, Nat.le_of_ble_eq_true rfl, Nat.le_of_ble_eq_true rfl⟩ hf (fun r4 M4 hf => ?_)
      exact a_iret C X dJ1_indexOf_4cfef_36 hf
    · have hf := hfb hc
      refine a_iconst C dJ1_indexOf_4cfef_27 (inr_b rfl) ?_
      exact a_iret C X dJ1_indexOf_4cfef_28 hf
  · have hf := hfb hc
    refine a_iconst C dJ1_indexOf_4cfef_7 (inr_b rfl) ?_
    exact a_iret C X dJ1_indexOf_4cfef_8 hf
set_option maxRecDepth 20000 in
set_option maxHeartbeats 4000000 in
theorem cStr_indexOf2_111 (x1 x2 : Int) : Snd shX yJ0_indexOf_7cf53 cJ0_indexOf_7cf53 3 (some .int) 2 48 [.inr 111, .inl x1, .inl x2] (fStr_indexOf2_111 x1 x2) := by
  refine Snd.of RJ0 (by decide +kernel) rfl (Nat.le_of_ble_eq_true rfl) ?_
  intro E M R hf C X
  show AW shX 3 E 0 [some (.inr 111), some (.inl x1), some (.inl x2)] [] M
  refine a_aloadn C dJ0_indexOf_7cf53_0 rfl ?_
  refine a_callK C 111 [] [] dJ0_indexOf_7cf53_1 (cStr_isLatin1_111) mv_J0_isLatin1_aae02 ln_J0_492 ⟨by decide, rfl⟩ ⟨rfl, rfl, Nat.le_of_ble_eq_true rfl, Nat.le_of_ble_eq_true rfl, Nat.le_of_ble_eq_true rfl⟩ hf (fun r1 M1 hf => ?_)
  obtain ⟨hfa, hfb⟩ := hf
  refine a_if_eq C 23 dJ0_indexOf_7cf53_4 rfl (fun hc => ?_) (fun hc => ?_)
  · have hf := hfa hc
    refine a_aloadn C dJ0_indexOf_7cf53_23 rfl ?_
    refine a_sval C 121 (by decide) fs_J0_9 dJ0_indexOf_7cf53_24 ?_
    refine a_iloadn C dJ0_indexOf_7cf53_27 rfl ?_
    refine a_iloadn C dJ0_indexOf_7cf53_28 rfl ?_
    refine a_aloadn C dJ0_indexOf_7cf53_29 rfl ?_
    refine a_callK C 111 [] [.inl x2, .inl x1, .inr 121] dJ0_indexOf_7cf53_30 (cStr_length_111) mv_J0_length_8abf5 ln_J0_505 ⟨by decide, rfl⟩ ⟨rfl, rfl, Nat.le_of_ble_eq_true rfl, Nat.le_of_ble_eq_true rfl, Nat.le_of_ble_eq_true rfl⟩ hf (fun r2 M2 hf => ?_)
    exact hf.elim
  · have hf := hfb hc
    refine a_aloadn C dJ0_indexOf_7cf53_7 rfl ?_
    refine a_sval C 121 (by decide) fs_J0_9 dJ0_indexOf_7cf53_8 ?_
    refine a_iloadn C dJ0_indexOf_7cf53_11 rfl ?_
    refine a_iloadn C dJ0_indexOf_7cf53_12 rfl ?_
    refine a_aloadn C dJ0_indexOf_7cf53_13 rfl ?_
    refine a_callK C 111 [] [.inl x2, .inl x1, .inr 121] dJ0_indexOf_7cf53_14 (cStr_length_111) mv_J0_length_8abf5 ln_J0_505 ⟨by decide, rfl⟩ ⟨rfl, rfl, Nat.le_of_ble_eq_true rfl, Nat.le_of_ble_eq_true rfl, Nat.le_of_ble_eq_true rfl⟩ hf (fun r3 M3 hf => ?_)
    refine a_callS C [.inr 121, .inl x1, .inl x2, .inl r3] [] dJ0_indexOf_7cf53_17 (cLat_indexOf_121 _ _ _) ms_J1_indexOf_4cfef ln_J0_637 ⟨rfl, rfl, Nat.le_of_ble_eq_true rfl, Nat.le_of_ble_eq_true rfl, Nat.le_of_ble_eq_true rfl⟩ hf (fun r4 M4 hf => ?_)
    refine a_goto C 36 dJ0_indexOf_7cf53_20 rfl ?_
    exact a_iret C X dJ0_indexOf_7cf53_36 hf
set_option maxRecDepth 20000 in
set_option maxHeartbeats 4000000 in
theorem cStr_indexOf_111 (x1 : Int) : Snd shX yJ0_indexOf_0f7a4 cJ0_indexOf_0f7a4 2 (some .int) 3 70 [.inr 111, .inl x1] (fStr_indexOf_111 x1) := by
  refine Snd.of RJ0 (by decide +kernel) rfl (Nat.le_of_ble_eq_true rfl) ?_
  intro E M R hf C X
  show AW shX 2 E 0 [some (.inr 111), some (.inl x1)] [] M
  refine a_aloadn C dJ0_indexOf_0f7a4_0 rfl ?_
  refine a_iloadn C dJ0_indexOf_0f7a4_1 rfl ?_
  refine a_iconst C dJ0_indexOf_0f7a4_2 (inr_b rfl) ?_
  refine a_callK C 111 [.inl x1, .inl 0] [] dJ0_indexOf_0f7a4_3 (cStr_indexOf2_111 _ _) mv_J0_indexOf_7cf53 ln_J0_633 ⟨by decide, rfl⟩ ⟨rfl, rfl, Nat.le_of_ble_eq_true rfl, Nat.le_of_ble_eq_true rfl, Nat.le_of_ble_eq_true rfl⟩ hf (fun r1 M1 hf => ?_)
  exact a_iret C X dJ0_indexOf_0f7a4_6 hf
set_option maxRecDepth 20000 in
set_option maxHeartbeats 4000000 in
theorem sTe_hasDigitAt_24 {E : EE} {R : Int → Mem → Prop} (C : Cx shX 2 cX6_hasDigitAt RX6 1 21 E) (X : Rx shX (some .boolean) R E) (M : Mem) (hf : fTe_hasDigitAt_24  R M) : AW shX 2 E 24 [none, none] [] M := by
  refine a_iconst C dX6_hasDigitAt_24 (inr_b rfl) ?_
  exact a_bret C X (Or.inl rfl) dX6_hasDigitAt_25 hf
set_option maxRecDepth 20000 in
set_option maxHeartbeats 4000000 in
theorem cTe_hasDigitAt (x1 : Int) : Snd shX yX6_hasDigitAt cX6_hasDigitAt 2 (some .boolean) 1 21 [.inr 1, .inl x1] (fTe_hasDigitAt x1) := by
  refine Snd.of RX6 (by decide +kernel) rfl (Nat.le_of_ble_eq_true rfl) ?_
  intro E M R hf C X
  show AW shX 2 E 0 [some (.inr 1), some (.inl x1)] [] M
  refine a_aloadn C dX6_hasDigitAt_0 rfl ?_
  refine a_iloadn C dX6_hasDigitAt_1 rfl ?_
  refine a_callV C [.inl x1] [] dX6_hasDigitAt_2 (cTe_letterAt _) mv_X6_letterAt ln_X6_19 rfl rfl ⟨rfl, rfl, Nat.le_of_ble_eq_true rfl, Nat.le_of_ble_eq_true rfl, Nat.le_of_ble_eq_true rfl⟩ hf (fun r1 M1 hf => ?_)
  refine a_bipush C dX6_hasDigitAt_5 bp_48 ?_
  obtain ⟨hfa, hfb⟩ := hf
  refine a_icmp_lt C 24 dX6_hasDigitAt_7 rfl (fun hc => ?_) (fun hc => ?_)
  · have hf := hfa hc
    refine a_drop [false, false] (lv2 := [none, none]) rfl ?_
    exact sTe_hasDigitAt_24 C X   _ hf
  · have hf := hfb hc
    refine a_aloadn C dX6_hasDigitAt_10 rfl ?_
    refine a_iloadn C dX6_hasDigitAt_11 rfl ?_
    refine a_callV C [.inl x1] [] dX6_hasDigitAt_12 (cTe_letterAt _) mv_X6_letterAt ln_X6_19 rfl rfl ⟨rfl, rfl, Nat.le_of_ble_eq_true rfl, Nat.le_of_ble_eq_true rfl, Nat.le_of_ble_eq_true rfl⟩ hf (fun r2 M2 hf => ?_)
    refine a_bipush C dX6_hasDigitAt_15 bp_57 ?_
    obtain ⟨hfa, hfb⟩ := hf
    refine a_icmp_gt C 24 dX6_hasDigitAt_17 rfl (fun hc => ?_) (fun hc => ?_)
    · have hf := hfa hc
      refine a_drop [false, false] (lv2 := [none, none]) rfl ?_
      exact sTe_hasDigitAt_24 C X   _ hf
    · have hf := hfb hc
      refine a_iconst C dX6_hasDigitAt_20 (inr_b rfl) ?_
      refine a_goto C 25 dX6_hasDigitAt_21 rfl ?_
      exact a_bret C X (Or.inr rfl) dX6_hasDigitAt_25 hf
set_option maxRecDepth 20000 in
set_option maxHeartbeats 4000000 in
theorem sPr_parseInstruction_p_107 {E : EE} {R : Int → Mem → Prop} (C : Cx shX 6 cX3_parseInstruction RX3 4 91 E) (X : Rx shX (some .int) R E) (x2 : Int) (x3 : Int) (x4 : Int) (M : Mem) (hf : fPr_parseInstruction_p_107  R x2 x3 x4 M) : AW shX 6 E 107 [some (.inr 13), none, some (.inl x2), some (.inl x3), some (.inl x4), none] [] M := by
  refine a_aloadn C dX3_parseInstruction_107 rfl ?_
  refine a_getR C 14 fl_X3_9 rfl rfl dX3_parseInstruction_108 ?_
  refine a_aloadn C dX3_parseInstruction_111 rfl ?_
  refine a_getI C (kz := 6) fl_X3_31 rfl rfl rfl dX3_parseInstruction_112 ?_
  refine a_iloadn C dX3_parseInstruction_115 rfl ?_
  obtain ⟨hg, hf⟩ := hf
  refine a_iast C (n := 24) rfl hg dX3_parseInstruction_116 ?_
  refine a_aloadn C dX3_parseInstruction_117 rfl ?_
  refine a_getR C 15 fl_X3_15 rfl rfl dX3_parseInstruction_118 ?_
  refine a_aloadn C dX3_parseInstruction_121 rfl ?_
  refine a_getI C (kz := 6) fl_X3_31 rfl rfl rfl dX3_parseInstruction_122 ?_
  refine a_iload C dX3_parseInstruction_125 rfl ?_
  obtain ⟨hg, hf⟩ := hf
  refine a_iast C (n := 24) rfl hg dX3_parseInstruction_127 ?_
  refine a_aloadn C dX3_parseInstruction_128 rfl ?_
  refine a_getR C 16 fl_X3_18 rfl rfl dX3_parseInstruction_129 ?_
  refine a_aloadn C dX3_parseInstruction_132 rfl ?_
  refine a_getI C (kz := 6) fl_X3_31 rfl rfl rfl dX3_parseInstruction_133 ?_
  refine a_iloadn C dX3_parseInstruction_136 rfl ?_
  obtain ⟨hg, hf⟩ := hf
  refine a_iast C (n := 24) rfl hg dX3_parseInstruction_137 ?_
  refine a_aloadn C dX3_parseInstruction_138 rfl ?_
  refine a_dup C dX3_parseInstruction_139 ?_
  refine a_getI C (kz := 6) fl_X3_31 rfl rfl rfl dX3_parseInstruction_140 ?_
  refine a_iconst C dX3_parseInstruction_143 (inr_b rfl) ?_
  refine a_iadd C dX3_parseInstruction_144 ?_
  refine a_putI C (kz := 6) fp_X3_31 rfl rfl rfl dX3_parseInstruction_145 ?_
  refine a_bipush C dX3_parseInstruction_148 bp_m4 ?_
  exact a_iret C X dX3_parseInstruction_150 hf
set_option maxRecDepth 20000 in
set_option maxHeartbeats 4000000 in
theorem sPr_parseInstruction_p_98 {E : EE} {R : Int → Mem → Prop} (C : Cx shX 6 cX3_parseInstruction RX3 4 91 E) (X : Rx shX (some .int) R E) (x2 : Int) (x3 : Int) (x4 : Int) (M : Mem) (hf : fPr_parseInstruction_p_98  R x2 x3 x4 M) : AW shX 6 E 98 [some (.inr 13), none, some (.inl x2), some (.inl x3), some (.inl x4), none] [] M := by
  refine a_iload C dX3_parseInstruction_98 rfl ?_
  refine a_iconst C dX3_parseInstruction_100 (inr_b rfl) ?_
  obtain ⟨hfa, hfb⟩ := hf
  refine a_icmp_lt C 107 dX3_parseInstruction_101 rfl (fun hc => ?_) (fun hc => ?_)
  · have hf := hfa hc
    exact sPr_parseInstruction_p_107 C X  _ _ _ _ hf
  · have hf := hfb hc
    refine a_bipush C dX3_parseInstruction_104 bp_12 ?_
    exact a_iret C X dX3_parseInstruction_106 hf
set_option maxRecDepth 20000 in
set_option maxHeartbeats 4000000 in
theorem sPr_parseInstruction_p_37 {E : EE} {R : Int → Mem → Prop} (C : Cx shX 6 cX3_parseInstruction RX3 4 91 E) (X : Rx shX (some .int) R E) : ∀ (n : Nat) (x2 : Int) (x3 : Int) (x4 : Int) (x5 : Int) (M : Mem), fPr_parseInstruction_p_37  R n x2 x3 x4 x5 M → AW shX 6 E 37 [some (.inr 13), some (.inr 1), some (.inl x2), some (.inl x3), some (.inl x4), some (.inl x5)] [] M := by
  intro n
  induction n with
  | zero => intro x2 x3 x4 x5 M hf; exact hf.elim
  | succ n hk37 =>
    intro x2 x3 x4 x5 M hf
    refine a_iload C dX3_parseInstruction_37 rfl ?_
    refine a_gsN C 102 ro_102 (fun ad A U H h => nest_X3_57 h) dX3_parseInstruction_39 ?_
    refine a_iloadn C dX3_parseInstruction_42 rfl ?_
    obtain ⟨hg, hf⟩ := hf
    refine a_ti C ro_102 hg dX3_parseInstruction_43 ?_
    obtain ⟨hfa, hfb⟩ := hf
    refine a_icmp_gt C 86 dX3_parseInstruction_44 rfl (fun hc => ?_) (fun hc => ?_)
    · have hf := hfa hc
      refine a_iloadn C dX3_parseInstruction_86 rfl ?_
      refine a_bipush C dX3_parseInstruction_87 bp_9 ?_
      obtain ⟨hfa, hfb⟩ := hf
      refine a_icmp_eq C 98 dX3_parseInstruction_89 rfl (fun hc => ?_) (fun hc => ?_)
      · have hf := hfa hc
        refine a_drop [true, false, true, true, true, false] (lv2 := [some (.inr 13), none, some (.inl x2), some (.inl x3), some (.inl x4), none]) rfl ?_
        exact sPr_parseInstruction_p_98 C X  _ _ _ _ hf
      · have hf := hfb hc
        refine a_iloadn C dX3_parseInstruction_92 rfl ?_
        refine a_bipush C dX3_parseInstruction_93 bp_10 ?_
        obtain ⟨hfa, hfb⟩ := hf
        refine a_icmp_ne C 107 dX3_parseInstruction_95 rfl (fun hc => ?_) (fun hc => ?_)
        · have hf := hfa hc
          refine a_drop [true, false, true, true, true, false] (lv2 := [some (.inr 13), none, some (.inl x2), some (.inl x3), some (.inl x4), none]) rfl ?_
          exact sPr_parseInstruction_p_107 C X  _ _ _ _ hf
        · have hf := hfb hc
          refine a_drop [true, false, true, true, true, false] (lv2 := [some (.inr 13), none, some (.inl x2), some (.inl x3), some (.inl x4), none]) rfl ?_
          exact sPr_parseInstruction_p_98 C X  _ _ _ _ hf
    · have hf := hfb hc
      refine a_aloadn C dX3_parseInstruction_47 rfl ?_
      refine a_iloadn C dX3_parseInstruction_48 rfl ?_
      refine a_iload C dX3_parseInstruction_49 rfl ?_
      refine a_iadd C dX3_parseInstruction_51 ?_
      refine a_callV C [.inl (wrap (x2 + x5))] [] dX3_parseInstruction_52 (cTe_hasDigitAt _) mv_X6_hasDigitAt ln_X3_79 rfl rfl ⟨rfl, rfl, Nat.le_of_ble_eq_true rfl, Nat.le_of_ble_eq_true rfl, Nat.le_of_ble_eq_true rfl⟩ hf (fun r3 M3 hf => ?_)
      obtain ⟨hfa, hfb⟩ := hf
      refine a_if_ne C 61 dX3_parseInstruction_55 rfl (fun hc => ?_) (fun hc => ?_)
      · have hf := hfa hc
        refine a_bipush C dX3_parseInstruction_61 bp_10 ?_
        refine a_iload C dX3_parseInstruction_63 rfl ?_
        refine a_imul C dX3_parseInstruction_65 ?_
        refine a_aloadn C dX3_parseInstruction_66 rfl ?_
        refine a_iloadn C dX3_parseInstruction_67 rfl ?_
        refine a_iload C dX3_parseInstruction_68 rfl ?_
        refine a_iadd C dX3_parseInstruction_70 ?_
        refine a_callV C [.inl (wrap (x2 + x5))] [.inl (wrap (10 * x4))] dX3_parseInstruction_71 (cTe_letterAt _) mv_X6_letterAt ln_X3_70 rfl rfl ⟨rfl, rfl, Nat.le_of_ble_eq_true rfl, Nat.le_of_ble_eq_true rfl, Nat.le_of_ble_eq_true rfl⟩ hf (fun r4 M4 hf => ?_)
        refine a_iadd C dX3_parseInstruction_74 ?_
        refine a_bipush C dX3_parseInstruction_75 bp_48 ?_
        refine a_isub C dX3_parseInstruction_77 ?_
        refine a_istore C dX3_parseInstruction_78 (by decide) (lv2 := [some (.inr 13), some (.inr 1), some (.inl x2), some (.inl x3), some (.inl (wrap ((wrap ((wrap (10 * x4)) + r4)) - 48))), some (.inl x5)]) rfl ?_
        refine a_iinc C dX3_parseInstruction_80 rfl (by decide) (lv2 := [some (.inr 13), some (.inr 1), some (.inl x2), some (.inl x3), some (.inl (wrap ((wrap ((wrap (10 * x4)) + r4)) - 48))), some (.inl (wrap (x5 + 1)))]) rfl ?_
        refine a_goto C 37 dX3_parseInstruction_83 rfl ?_
        exact hk37 _ _ _ _ _ hf
      · have hf := hfb hc
        refine a_bipush C dX3_parseInstruction_58 bp_11 ?_
        exact a_iret C X dX3_parseInstruction_60 hf
set_option maxRecDepth 20000 in
set_option maxHeartbeats 4000000 in
theorem cPr_parseInstruction_p (x2 : Int) : Snd shX yX3_parseInstruction cX3_parseInstruction 6 (some .int) 4 91 [.inr 13, .inr 1, .inl x2] (fPr_parseInstruction_p x2) := by
  refine Snd.of RX3 (by decide +kernel) rfl (Nat.le_of_ble_eq_true rfl) ?_
  intro E M R hf C X
  show AW shX 6 E 0 [some (.inr 13), some (.inr 1), some (.inl x2), none, none, none] [] M
  refine a_aloadn C dX3_parseInstruction_0 rfl ?_
  refine a_getI C (kz := 6) fl_X3_31 rfl rfl rfl dX3_parseInstruction_1 ?_
  refine a_bipush C dX3_parseInstruction_4 bp_24 ?_
  obtain ⟨hfa, hfb⟩ := hf
  refine a_icmp_ne C 12 dX3_parseInstruction_6 rfl (fun hc => ?_) (fun hc => ?_)
  · have hf := hfa hc
    refine a_ldcS C (tx := "n+-*dxporgsjbwh") 111 (fun ad A U H h => str_X3_68 h) dX3_parseInstruction_12 ?_
    refine a_aloadn C dX3_parseInstruction_14 rfl ?_
    refine a_iloadn C dX3_parseInstruction_15 rfl ?_
    refine a_callV C [.inl x2] [.inr 111] dX3_parseInstruction_16 (cTe_letterAt _) mv_X6_letterAt ln_X3_70 rfl rfl ⟨rfl, rfl, Nat.le_of_ble_eq_true rfl, Nat.le_of_ble_eq_true rfl, Nat.le_of_ble_eq_true rfl⟩ hf (fun r1 M1 hf => ?_)
    refine a_i2c C dX3_parseInstruction_19 ?_
    refine a_callK C 111 [.inl (b_i2c r1)] [] dX3_parseInstruction_20 (cStr_indexOf_111 _) mv_J0_indexOf_0f7a4 ln_X3_74 ⟨by decide, rfl⟩ ⟨rfl, rfl, Nat.le_of_ble_eq_true rfl, Nat.le_of_ble_eq_true rfl, Nat.le_of_ble_eq_true rfl⟩ hf (fun r2 M2 hf => ?_)
    refine a_istoren C dX3_parseInstruction_23 (by decide) (lv2 := [some (.inr 13), some (.inr 1), some (.inl x2), some (.inl r2), none, none]) rfl ?_
    refine a_iloadn C dX3_parseInstruction_24 rfl ?_
    obtain ⟨hfa, hfb⟩ := hf
    refine a_if_ge C 31 dX3_parseInstruction_25 rfl (fun hc => ?_) (fun hc => ?_)
    · have hf := hfa hc
      refine a_iconst C dX3_parseInstruction_31 (inr_b rfl) ?_
      refine a_istore C dX3_parseInstruction_32 (by decide) (lv2 := [some (.inr 13), some (.inr 1), some (.inl x2), some (.inl r2), some (.inl 0), none]) rfl ?_
      refine a_iconst C dX3_parseInstruction_34 (inr_b rfl) ?_
      refine a_istore C dX3_parseInstruction_35 (by decide) (lv2 := [some (.inr 13), some (.inr 1), some (.inl x2), some (.inl r2), some (.inl 0), some (.inl 1)]) rfl ?_
      obtain ⟨n5, hf⟩ := hf
      exact sPr_parseInstruction_p_37 C X  n5 _ _ _ _ _ hf
    · have hf := hfb hc
      refine a_bipush C dX3_parseInstruction_28 bp_10 ?_
      exact a_iret C X dX3_parseInstruction_30 hf
  · have hf := hfb hc
    refine a_bipush C dX3_parseInstruction_9 bp_13 ?_
    exact a_iret C X dX3_parseInstruction_11 hf
set_option maxRecDepth 20000 in
set_option maxHeartbeats 4000000 in
theorem sPr_parse_p_128 {E : EE} {R : Int → Mem → Prop} (C : Cx shX 6 cX3_parse RX3 5 116 E) (X : Rx shX (some .int) R E) {k82 : Int → Mem → Prop} (hk82 : ∀ (x4 : Int) (M : Mem), k82 x4 M → AW shX 6 E 82 [some (.inr 13), none, some (.inr 3), none, some (.inl x4), none] [] M) (x4 : Int) (M : Mem) (hf : fPr_parse_p_128 k82 R x4 M) : AW shX 6 E 128 [some (.inr 13), none, some (.inr 3), none, some (.inl x4), none] [] M := by
  refine a_iinc C dX3_parse_128 rfl (by decide) (lv2 := [some (.inr 13), none, some (.inr 3), none, some (.inl (wrap (x4 + 1))), none]) rfl ?_
  refine a_goto C 82 dX3_parse_131 rfl ?_
  exact hk82 _ _ hf
set_option maxRecDepth 20000 in
set_option maxHeartbeats 4000000 in
theorem sPr_parse_p_82 {E : EE} {R : Int → Mem → Prop} (C : Cx shX 6 cX3_parse RX3 5 116 E) (X : Rx shX (some .int) R E) : ∀ (n : Nat) (x4 : Int) (M : Mem), fPr_parse_p_82  R n x4 M → AW shX 6 E 82 [some (.inr 13), none, some (.inr 3), none, some (.inl x4), none] [] M := by
  intro n
  induction n with
  | zero => intro x4 M hf; exact hf.elim
  | succ n hk82 =>
    intro x4 M hf
    refine a_iload C dX3_parse_82 rfl ?_
    refine a_aloadn C dX3_parse_84 rfl ?_
    refine a_getI C (kz := 6) fl_X3_31 rfl rfl rfl dX3_parse_85 ?_
    obtain ⟨hfa, hfb⟩ := hf
    refine a_icmp_ge C 134 dX3_parse_88 rfl (fun hc => ?_) (fun hc => ?_)
    · have hf := hfa hc
      refine a_bipush C dX3_parse_134 bp_m4 ?_
      exact a_iret C X dX3_parse_136 hf
    · have hf := hfb hc
      refine a_aloadn C dX3_parse_91 rfl ?_
      refine a_iload C dX3_parse_92 rfl ?_
      refine a_callV C [.inl x4] [] dX3_parse_94 (cPr_leads_p _) mv_X3_leads ln_X3_60 rfl rfl ⟨rfl, rfl, Nat.le_of_ble_eq_true rfl, Nat.le_of_ble_eq_true rfl, Nat.le_of_ble_eq_true rfl⟩ hf (fun r1 M1 hf => ?_)
      obtain ⟨hfa, hfb⟩ := hf
      refine a_if_eq C 128 dX3_parse_97 rfl (fun hc => ?_) (fun hc => ?_)
      · have hf := hfa hc
        exact sPr_parse_p_128 C X hk82 _ _ hf
      · have hf := hfb hc
        refine a_aloadn C dX3_parse_100 rfl ?_
        refine a_getR C 15 fl_X3_15 rfl rfl dX3_parse_101 ?_
        refine a_iload C dX3_parse_104 rfl ?_
        obtain ⟨hg, hf⟩ := hf
        refine a_iald C (n := 24) rfl hg dX3_parse_106 ?_
        refine a_aloadn C dX3_parse_107 rfl ?_
        refine a_getI C (kz := 6) fl_X3_31 rfl rfl rfl dX3_parse_108 ?_
        obtain ⟨hfa, hfb⟩ := hf
        refine a_icmp_lt C 128 dX3_parse_111 rfl (fun hc => ?_) (fun hc => ?_)
        · have hf := hfa hc
          exact sPr_parse_p_128 C X hk82 _ _ hf
        · have hf := hfb hc
          refine a_aloadn C dX3_parse_114 rfl ?_
          refine a_getR C 16 fl_X3_18 rfl rfl dX3_parse_115 ?_
          refine a_iload C dX3_parse_118 rfl ?_
          obtain ⟨hg, hf⟩ := hf
          refine a_iald C (n := 24) rfl hg dX3_parse_120 ?_
          refine a_bipush C dX3_parse_121 bp_14 ?_
          refine a_aloadn C dX3_parse_123 rfl ?_
          refine a_callS C [.inl (M1 16 x4), .inl 14, .inr 3] [] dX3_parse_124 (cPr_faulty _ _) ms_X3_faulty ln_X3_53 ⟨rfl, rfl, Nat.le_of_ble_eq_true rfl, Nat.le_of_ble_eq_true rfl, Nat.le_of_ble_eq_true rfl⟩ hf (fun r2 M2 hf => ?_)
          exact a_iret C X dX3_parse_127 hf
set_option maxRecDepth 20000 in
set_option maxHeartbeats 4000000 in
theorem sPr_parse_p_79 {E : EE} {R : Int → Mem → Prop} (C : Cx shX 6 cX3_parse RX3 5 116 E) (X : Rx shX (some .int) R E) (M : Mem) (hf : fPr_parse_p_79  R M) : AW shX 6 E 79 [some (.inr 13), none, some (.inr 3), none, none, none] [] M := by
  refine a_iconst C dX3_parse_79 (inr_b rfl) ?_
  refine a_istore C dX3_parse_80 (by decide) (lv2 := [some (.inr 13), none, some (.inr 3), none, some (.inl 0), none]) rfl ?_
  obtain ⟨n3, hf⟩ := hf
  exact sPr_parse_p_82 C X  n3 _ _ hf
set_option maxRecDepth 20000 in
set_option maxHeartbeats 4000000 in
theorem sPr_parse_p_15 {E : EE} {R : Int → Mem → Prop} (C : Cx shX 6 cX3_parse RX3 5 116 E) (X : Rx shX (some .int) R E) : ∀ (n : Nat) (x3 : Int) (x4 : Int) (M : Mem), fPr_parse_p_15  R n x3 x4 M → AW shX 6 E 15 [some (.inr 13), some (.inr 1), some (.inr 3), some (.inl x3), some (.inl x4), none] [] M := by
  intro n
  induction n with
  | zero => intro x3 x4 M hf; exact hf.elim
  | succ n hk15 =>
    intro x3 x4 M hf
    refine a_iload C dX3_parse_15 rfl ?_
    refine a_bipush C dX3_parse_17 bp_24 ?_
    obtain ⟨hfa, hfb⟩ := hf
    refine a_icmp_gt C 79 dX3_parse_19 rfl (fun hc => ?_) (fun hc => ?_)
    · have hf := hfa hc
      refine a_drop [true, false, true, false, false, true] (lv2 := [some (.inr 13), none, some (.inr 3), none, none, none]) rfl ?_
      exact sPr_parse_p_79 C X   _ hf
    · have hf := hfb hc
      refine a_iloadn C dX3_parse_22 rfl ?_
      refine a_aloadn C dX3_parse_23 rfl ?_
      refine a_getI C (kz := 1) fl_X3_46 rfl rfl rfl dX3_parse_24 ?_
      obtain ⟨hfa, hfb⟩ := hf
      refine a_icmp_ge C 79 dX3_parse_27 rfl (fun hc => ?_) (fun hc => ?_)
      · have hf := hfa hc
        refine a_drop [true, false, true, false, false, true] (lv2 := [some (.inr 13), none, some (.inr 3), none, none, none]) rfl ?_
        exact sPr_parse_p_79 C X   _ hf
      · have hf := hfb hc
        refine a_aloadn C dX3_parse_30 rfl ?_
        refine a_aloadn C dX3_parse_31 rfl ?_
        refine a_iloadn C dX3_parse_32 rfl ?_
        refine a_callV C [.inr 1, .inl x3] [] dX3_parse_33 (cPr_parseInstruction_p _) mv_X3_parseInstruction ln_X3_49 rfl rfl ⟨rfl, rfl, Nat.le_of_ble_eq_true rfl, Nat.le_of_ble_eq_true rfl, Nat.le_of_ble_eq_true rfl⟩ hf (fun r4 M4 hf => ?_)
        refine a_istore C dX3_parse_36 (by decide) (lv2 := [some (.inr 13), some (.inr 1), some (.inr 3), some (.inl x3), some (.inl x4), some (.inl r4)]) rfl ?_
        refine a_iload C dX3_parse_38 rfl ?_
        refine a_bipush C dX3_parse_40 bp_m4 ?_
        obtain ⟨hfa, hfb⟩ := hf
        refine a_icmp_eq C 53 dX3_parse_42 rfl (fun hc => ?_) (fun hc => ?_)
        · have hf := hfa hc
          refine a_iloadn C dX3_parse_53 rfl ?_
          refine a_iconst C dX3_parse_54 (inr_b rfl) ?_
          refine a_gsN C 102 ro_102 (fun ad A U H h => nest_X3_57 h) dX3_parse_55 ?_
          refine a_aloadn C dX3_parse_58 rfl ?_
          refine a_getR C 14 fl_X3_9 rfl rfl dX3_parse_59 ?_
          refine a_aloadn C dX3_parse_62 rfl ?_
          refine a_getI C (kz := 6) fl_X3_31 rfl rfl rfl dX3_parse_63 ?_
          refine a_iconst C dX3_parse_66 (inr_b rfl) ?_
          refine a_isub C dX3_parse_67 ?_
          obtain ⟨hg, hf⟩ := hf
          refine a_iald C (n := 24) rfl hg dX3_parse_68 ?_
          obtain ⟨hg, hf⟩ := hf
          refine a_ti C ro_102 hg dX3_parse_69 ?_
          refine a_iadd C dX3_parse_70 ?_
          refine a_iadd C dX3_parse_71 ?_
          refine a_istoren C dX3_parse_72 (by decide) (lv2 := [some (.inr 13), some (.inr 1), some (.inr 3), some (.inl (wrap (x3 + (wrap (1 + (roV 102 (M4 14 (wrap ((M4 13 6) - 1))))))))), some (.inl x4), some (.inl r4)]) rfl ?_
          refine a_iinc C dX3_parse_73 rfl (by decide) (lv2 := [some (.inr 13), some (.inr 1), some (.inr 3), some (.inl (wrap (x3 + (wrap (1 + (roV 102 (M4 14 (wrap ((M4 13 6) - 1))))))))), some (.inl (wrap (x4 + 1))), some (.inl r4)]) rfl ?_
          refine a_goto C 15 dX3_parse_76 rfl ?_
          refine a_drop [true, true, true, true, true, false] (lv2 := [some (.inr 13), some (.inr 1), some (.inr 3), some (.inl (wrap (x3 + (wrap (1 + (roV 102 (M4 14 (wrap ((M4 13 6) - 1))))))))), some (.inl (wrap (x4 + 1))), none]) rfl ?_
          exact hk15 _ _ _ hf
        · have hf := hfb hc
          refine a_iloadn C dX3_parse_45 rfl ?_
          refine a_iload C dX3_parse_46 rfl ?_
          refine a_aloadn C dX3_parse_48 rfl ?_
          refine a_callS C [.inl x3, .inl r4, .inr 3] [] dX3_parse_49 (cPr_faulty _ _) ms_X3_faulty ln_X3_53 ⟨rfl, rfl, Nat.le_of_ble_eq_true rfl, Nat.le_of_ble_eq_true rfl, Nat.le_of_ble_eq_true rfl⟩ hf (fun r5 M5 hf => ?_)
          exact a_iret C X dX3_parse_52 hf
set_option maxRecDepth 20000 in
set_option maxHeartbeats 4000000 in
theorem cPr_parse_p : Snd shX yX3_parse cX3_parse 6 (some .int) 5 116 [.inr 13, .inr 1, .inr 3] fPr_parse_p := by
  refine Snd.of RX3 (by decide +kernel) rfl (Nat.le_of_ble_eq_true rfl) ?_
  intro E M R hf C X
  show AW shX 6 E 0 [some (.inr 13), some (.inr 1), some (.inr 3), none, none, none] [] M
  refine a_aloadn C dX3_parse_0 rfl ?_
  refine a_iconst C dX3_parse_1 (inr_b rfl) ?_
  refine a_putI C (kz := 1) fp_X3_41 rfl rfl rfl dX3_parse_2 ?_
  refine a_aloadn C dX3_parse_5 rfl ?_
  refine a_iconst C dX3_parse_6 (inr_b rfl) ?_
  refine a_putI C (kz := 6) fp_X3_31 rfl rfl rfl dX3_parse_7 ?_
  refine a_iconst C dX3_parse_10 (inr_b rfl) ?_
  refine a_istoren C dX3_parse_11 (by decide) (lv2 := [some (.inr 13), some (.inr 1), some (.inr 3), some (.inl 0), none, none]) rfl ?_
  refine a_iconst C dX3_parse_12 (inr_b rfl) ?_
  refine a_istore C dX3_parse_13 (by decide) (lv2 := [some (.inr 13), some (.inr 1), some (.inr 3), some (.inl 0), some (.inl 0), none]) rfl ?_
  obtain ⟨n6, hf⟩ := hf
  exact sPr_parse_p_15 C X  n6 _ _ _ hf
set_option maxRecDepth 20000 in
set_option maxHeartbeats 4000000 in
theorem cPr_flawed (x0 x1 : Int) : Snd shX yX3_flawed cX3_flawed 3 (some .boolean) 1 21 [.inl x0, .inl x1, .inr 3] (fPr_flawed x0 x1) := by
  refine Snd.of RX3 (by decide +kernel) rfl (Nat.le_of_ble_eq_true rfl) ?_
  intro E M R hf C X
  show AW shX 3 E 0 [some (.inl x0), some (.inl x1), some (.inr 3)] [] M
  refine a_aloadn C dX3_flawed_0 rfl ?_
  refine a_iconst C dX3_flawed_1 (inr_b rfl) ?_
  refine a_callV C [.inl 3] [] dX3_flawed_2 (cCa_append _) mv_X0_append ln_X3_64 rfl rfl ⟨rfl, rfl, Nat.le_of_ble_eq_true rfl, Nat.le_of_ble_eq_true rfl, Nat.le_of_ble_eq_true rfl⟩ hf (fun r1 M1 hf => ?_)
  refine a_aloadn C dX3_flawed_5 rfl ?_
  refine a_iloadn C dX3_flawed_6 rfl ?_
  refine a_callV C [.inl x0] [] dX3_flawed_7 (cCa_append _) mv_X0_append ln_X3_64 rfl rfl ⟨rfl, rfl, Nat.le_of_ble_eq_true rfl, Nat.le_of_ble_eq_true rfl, Nat.le_of_ble_eq_true rfl⟩ hf (fun r2 M2 hf => ?_)
  refine a_aloadn C dX3_flawed_10 rfl ?_
  refine a_bipush C dX3_flawed_11 bp_30 ?_
  refine a_iloadn C dX3_flawed_13 rfl ?_
  refine a_iadd C dX3_flawed_14 ?_
  refine a_callV C [.inl (wrap (30 + x1))] [] dX3_flawed_15 (cCa_append _) mv_X0_append ln_X3_64 rfl rfl ⟨rfl, rfl, Nat.le_of_ble_eq_true rfl, Nat.le_of_ble_eq_true rfl, Nat.le_of_ble_eq_true rfl⟩ hf (fun r3 M3 hf => ?_)
  refine a_iconst C dX3_flawed_18 (inr_b rfl) ?_
  exact a_bret C X (Or.inl rfl) dX3_flawed_19 hf
set_option maxRecDepth 20000 in
set_option maxHeartbeats 4000000 in
theorem cPr_isReached_p (x1 : Int) : Snd shX yX3_isReached cX3_isReached 2 (some .boolean) 0 0 [.inr 13, .inl x1] (fPr_isReached_p x1) := by
  refine Snd.of RX3 (by decide +kernel) rfl (Nat.le_of_ble_eq_true rfl) ?_
  intro E M R hf C X
  show AW shX 2 E 0 [some (.inr 13), some (.inl x1)] [] M
  refine a_aloadn C dX3_isReached_0 rfl ?_
  refine a_getR C 17 fl_X3_21 rfl rfl dX3_isReached_1 ?_
  refine a_iloadn C dX3_isReached_4 rfl ?_
  obtain ⟨hg, hf⟩ := hf
  refine a_iald C (n := 24) rfl hg dX3_isReached_5 ?_
  refine a_bipush C dX3_isReached_6 bp_m4 ?_
  obtain ⟨hfa, hfb⟩ := hf
  refine a_icmp_eq C 15 dX3_isReached_8 rfl (fun hc => ?_) (fun hc => ?_)
  · have hf := hfa hc
    refine a_iconst C dX3_isReached_15 (inr_b rfl) ?_
    exact a_bret C X (Or.inl rfl) dX3_isReached_16 hf
  · have hf := hfb hc
    refine a_iconst C dX3_isReached_11 (inr_b rfl) ?_
    refine a_goto C 16 dX3_isReached_12 rfl ?_
    exact a_bret C X (Or.inr rfl) dX3_isReached_16 hf
set_option maxRecDepth 20000 in
set_option maxHeartbeats 4000000 in
theorem sPr_nextToConsider_p_29 {E : EE} {R : Int → Mem → Prop} (C : Cx shX 2 cX3_nextToConsider RX3 1 21 E) (X : Rx shX (some .int) R E) {k2 : Int → Mem → Prop} (hk2 : ∀ (x1 : Int) (M : Mem), k2 x1 M → AW shX 2 E 2 [some (.inr 13), some (.inl x1)] [] M) (x1 : Int) (M : Mem) (hf : fPr_nextToConsider_p_29 k2 R x1 M) : AW shX 2 E 29 [some (.inr 13), some (.inl x1)] [] M := by
  refine a_iinc C dX3_nextToConsider_29 rfl (by decide) (lv2 := [some (.inr 13), some (.inl (wrap (x1 + 1)))]) rfl ?_
  refine a_goto C 2 dX3_nextToConsider_32 rfl ?_
  exact hk2 _ _ hf
set_option maxRecDepth 20000 in
set_option maxHeartbeats 4000000 in
theorem sPr_nextToConsider_p_2 {E : EE} {R : Int → Mem → Prop} (C : Cx shX 2 cX3_nextToConsider RX3 1 21 E) (X : Rx shX (some .int) R E) : ∀ (n : Nat) (x1 : Int) (M : Mem), fPr_nextToConsider_p_2  R n x1 M → AW shX 2 E 2 [some (.inr 13), some (.inl x1)] [] M := by
  intro n
  induction n with
  | zero => intro x1 M hf; exact hf.elim
  | succ n hk2 =>
    intro x1 M hf
    refine a_iloadn C dX3_nextToConsider_2 rfl ?_
    refine a_aloadn C dX3_nextToConsider_3 rfl ?_
    refine a_getI C (kz := 6) fl_X3_31 rfl rfl rfl dX3_nextToConsider_4 ?_
    obtain ⟨hfa, hfb⟩ := hf
    refine a_icmp_ge C 35 dX3_nextToConsider_7 rfl (fun hc => ?_) (fun hc => ?_)
    · have hf := hfa hc
      refine a_bipush C dX3_nextToConsider_35 bp_m4 ?_
      exact a_iret C X dX3_nextToConsider_37 hf
    · have hf := hfb hc
      refine a_aloadn C dX3_nextToConsider_10 rfl ?_
      refine a_iloadn C dX3_nextToConsider_11 rfl ?_
      refine a_callV C [.inl x1] [] dX3_nextToConsider_12 (cPr_isReached_p _) mv_X3_isReached ln_X3_94 rfl rfl ⟨rfl, rfl, Nat.le_of_ble_eq_true rfl, Nat.le_of_ble_eq_true rfl, Nat.le_of_ble_eq_true rfl⟩ hf (fun r1 M1 hf => ?_)
      obtain ⟨hfa, hfb⟩ := hf
      refine a_if_eq C 29 dX3_nextToConsider_15 rfl (fun hc => ?_) (fun hc => ?_)
      · have hf := hfa hc
        exact sPr_nextToConsider_p_29 C X hk2 _ _ hf
      · have hf := hfb hc
        refine a_aloadn C dX3_nextToConsider_18 rfl ?_
        refine a_getR C 18 fl_X3_24 rfl rfl dX3_nextToConsider_19 ?_
        refine a_iloadn C dX3_nextToConsider_22 rfl ?_
        obtain ⟨hg, hf⟩ := hf
        refine a_zald C (n := 24) rfl hg dX3_nextToConsider_23 ?_
        obtain ⟨hfa, hfb⟩ := hf
        refine a_if_ne C 29 dX3_nextToConsider_24 rfl (fun hc => ?_) (fun hc => ?_)
        · have hf := hfa hc
          exact sPr_nextToConsider_p_29 C X hk2 _ _ hf
        · have hf := hfb hc
          refine a_iloadn C dX3_nextToConsider_27 rfl ?_
          exact a_iret C X dX3_nextToConsider_28 hf
set_option maxRecDepth 20000 in
set_option maxHeartbeats 4000000 in
theorem cPr_nextToConsider_p : Snd shX yX3_nextToConsider cX3_nextToConsider 2 (some .int) 1 21 [.inr 13] fPr_nextToConsider_p := by
  refine Snd.of RX3 (by decide +kernel) rfl (Nat.le_of_ble_eq_true rfl) ?_
  intro E M R hf C X
  show AW shX 2 E 0 [some (.inr 13), none] [] M
  refine a_iconst C dX3_nextToConsider_0 (inr_b rfl) ?_
  refine a_istoren C dX3_nextToConsider_1 (by decide) (lv2 := [some (.inr 13), some (.inl 0)]) rfl ?_
  obtain ⟨n2, hf⟩ := hf
  exact sPr_nextToConsider_p_2 C X  n2 _ _ hf
set_option maxRecDepth 20000 in
set_option maxHeartbeats 4000000 in
theorem sPr_falls_p_36 {E : EE} {R : Int → Mem → Prop} (C : Cx shX 2 cX3_falls RX3 0 0 E) (X : Rx shX (some .boolean) R E) (M : Mem) (hf : fPr_falls_p_36  R M) : AW shX 2 E 36 [none, none] [] M := by
  refine a_iconst C dX3_falls_36 (inr_b rfl) ?_
  exact a_bret C X (Or.inl rfl) dX3_falls_37 hf
set_option maxRecDepth 20000 in
set_option maxHeartbeats 4000000 in
theorem cPr_falls_p (x1 : Int) : Snd shX yX3_falls cX3_falls 2 (some .boolean) 0 0 [.inr 13, .inl x1] (fPr_falls_p x1) := by
  refine Snd.of RX3 (by decide +kernel) rfl (Nat.le_of_ble_eq_true rfl) ?_
  intro E M R hf C X
  show AW shX 2 E 0 [some (.inr 13), some (.inl x1)] [] M
  refine a_aloadn C dX3_falls_0 rfl ?_
  refine a_getR C 14 fl_X3_9 rfl rfl dX3_falls_1 ?_
  refine a_iloadn C dX3_falls_4 rfl ?_
  obtain ⟨hg, hf⟩ := hf
  refine a_iald C (n := 24) rfl hg dX3_falls_5 ?_
  refine a_bipush C dX3_falls_6 bp_11 ?_
  obtain ⟨hfa, hfb⟩ := hf
  refine a_icmp_eq C 36 dX3_falls_8 rfl (fun hc => ?_) (fun hc => ?_)
  · have hf := hfa hc
    refine a_drop [false, false] (lv2 := [none, none]) rfl ?_
    exact sPr_falls_p_36 C X   _ hf
  · have hf := hfb hc
    refine a_aloadn C dX3_falls_11 rfl ?_
    refine a_getR C 14 fl_X3_9 rfl rfl dX3_falls_12 ?_
    refine a_iloadn C dX3_falls_15 rfl ?_
    obtain ⟨hg, hf⟩ := hf
    refine a_iald C (n := 24) rfl hg dX3_falls_16 ?_
    refine a_bipush C dX3_falls_17 bp_14 ?_
    obtain ⟨hfa, hfb⟩ := hf
    refine a_icmp_eq C 36 dX3_falls_19 rfl (fun hc => ?_) (fun hc => ?_)
    · have hf := hfa hc
      refine a_drop [false, false] (lv2 := [none, none]) rfl ?_
      exact sPr_falls_p_36 C X   _ hf
    · have hf := hfb hc
      refine a_iloadn C dX3_falls_22 rfl ?_
      refine a_iconst C dX3_falls_23 (inr_b rfl) ?_
      refine a_iadd C dX3_falls_24 ?_
      refine a_aloadn C dX3_falls_25 rfl ?_
      refine a_getI C (kz := 6) fl_X3_31 rfl rfl rfl dX3_falls_26 ?_
      obtain ⟨hfa, hfb⟩ := hf
      refine a_icmp_ge C 36 dX3_falls_29 rfl (fun hc => ?_) (fun hc => ?_)
      · have hf := hfa hc
        refine a_drop [false, false] (lv2 := [none, none]) rfl ?_
        exact sPr_falls_p_36 C X   _ hf
      · have hf := hfb hc
        refine a_iconst C dX3_falls_32 (inr_b rfl) ?_
        refine a_goto C 37 dX3_falls_33 rfl ?_
        exact a_bret C X (Or.inr rfl) dX3_falls_37 hf
set_option maxRecDepth 20000 in
set_option maxHeartbeats 4000000 in
theorem sPr_accepts_p_15 {E : EE} {R : Int → Mem → Prop} (C : Cx shX 3 cX3_accepts RX3 1 21 E) (X : Rx shX (some .boolean) R E) (x1 : Int) (x2 : Int) (M : Mem) (hf : fPr_accepts_p_15  R x1 x2 M) : AW shX 3 E 15 [some (.inr 13), some (.inl x1), some (.inl x2)] [] M := by
  refine a_aloadn C dX3_accepts_15 rfl ?_
  refine a_getR C 17 fl_X3_21 rfl rfl dX3_accepts_16 ?_
  refine a_iloadn C dX3_accepts_19 rfl ?_
  obtain ⟨hg, hf⟩ := hf
  refine a_iald C (n := 24) rfl hg dX3_accepts_20 ?_
  refine a_iloadn C dX3_accepts_21 rfl ?_
  obtain ⟨hfa, hfb⟩ := hf
  refine a_icmp_ne C 29 dX3_accepts_22 rfl (fun hc => ?_) (fun hc => ?_)
  · have hf := hfa hc
    refine a_iconst C dX3_accepts_29 (inr_b rfl) ?_
    exact a_bret C X (Or.inl rfl) dX3_accepts_30 hf
  · have hf := hfb hc
    refine a_iconst C dX3_accepts_25 (inr_b rfl) ?_
    refine a_goto C 30 dX3_accepts_26 rfl ?_
    exact a_bret C X (Or.inr rfl) dX3_accepts_30 hf
set_option maxRecDepth 20000 in
set_option maxHeartbeats 4000000 in
theorem cPr_accepts_p (x1 x2 : Int) : Snd shX yX3_accepts cX3_accepts 3 (some .boolean) 1 21 [.inr 13, .inl x1, .inl x2] (fPr_accepts_p x1 x2) := by
  refine Snd.of RX3 (by decide +kernel) rfl (Nat.le_of_ble_eq_true rfl) ?_
  intro E M R hf C X
  show AW shX 3 E 0 [some (.inr 13), some (.inl x1), some (.inl x2)] [] M
  refine a_aloadn C dX3_accepts_0 rfl ?_
  refine a_iloadn C dX3_accepts_1 rfl ?_
  refine a_callV C [.inl x1] [] dX3_accepts_2 (cPr_isReached_p _) mv_X3_isReached ln_X3_94 rfl rfl ⟨rfl, rfl, Nat.le_of_ble_eq_true rfl, Nat.le_of_ble_eq_true rfl, Nat.le_of_ble_eq_true rfl⟩ hf (fun r1 M1 hf => ?_)
  obtain ⟨hfa, hfb⟩ := hf
  refine a_if_ne C 15 dX3_accepts_5 rfl (fun hc => ?_) (fun hc => ?_)
  · have hf := hfa hc
    exact sPr_accepts_p_15 C X  _ _ _ hf
  · have hf := hfb hc
    refine a_aloadn C dX3_accepts_8 rfl ?_
    refine a_getR C 17 fl_X3_21 rfl rfl dX3_accepts_9 ?_
    refine a_iloadn C dX3_accepts_12 rfl ?_
    refine a_iloadn C dX3_accepts_13 rfl ?_
    obtain ⟨hg, hf⟩ := hf
    refine a_iast C (n := 24) rfl hg dX3_accepts_14 ?_
    exact sPr_accepts_p_15 C X  _ _ _ hf
set_option maxRecDepth 20000 in
set_option maxHeartbeats 4000000 in
theorem sPr_passOn_p_54 {E : EE} {R : Int → Mem → Prop} (C : Cx shX 5 cX3_passOn RX3 2 43 E) (X : Rx shX (some .boolean) R E) (x1 : Int) (M : Mem) (hf : fPr_passOn_p_54  R x1 M) : AW shX 5 E 54 [none, some (.inl x1), some (.inr 3), none, none] [] M := by
  have hf : fPr_flawed 22 x1 M (fun r1 M1 => ((r1 = 0 ∨ r1 = 1) ∧ R r1 M1)) := hf
  refine a_bipush C dX3_passOn_54 bp_22 ?_
  refine a_iloadn C dX3_passOn_56 rfl ?_
  refine a_aloadn C dX3_passOn_57 rfl ?_
  refine a_callS C [.inl 22, .inl x1, .inr 3] [] dX3_passOn_58 (cPr_flawed _ _) ms_X3_flawed ln_X3_90 ⟨rfl, rfl, Nat.le_of_ble_eq_true rfl, Nat.le_of_ble_eq_true rfl, Nat.le_of_ble_eq_true rfl⟩ hf (fun r1 M1 hf => ?_)
  obtain ⟨hg, hf⟩ := hf
  exact a_bret C X hg dX3_passOn_61 hf
set_option maxRecDepth 20000 in
set_option maxHeartbeats 4000000 in
theorem sPr_passOn_p_158 {E : EE} {R : Int → Mem → Prop} (C : Cx shX 5 cX3_passOn RX3 2 43 E) (X : Rx shX (some .boolean) R E) (M : Mem) (hf : fPr_passOn_p_158  R M) : AW shX 5 E 158 [none, none, none, none, none] [] M := by
  refine a_iconst C dX3_passOn_158 (inr_b rfl) ?_
  refine a_goto C 163 dX3_passOn_159 rfl ?_
  exact a_bret C X (Or.inr rfl) dX3_passOn_163 hf
set_option maxRecDepth 20000 in
set_option maxHeartbeats 4000000 in
theorem sPr_passOn_p_129 {E : EE} {R : Int → Mem → Prop} (C : Cx shX 5 cX3_passOn RX3 2 43 E) (X : Rx shX (some .boolean) R E) (x3 : Int) (x4 : Int) (M : Mem) (hf : fPr_passOn_p_129  R x3 x4 M) : AW shX 5 E 129 [some (.inr 13), none, some (.inr 3), some (.inl x3), some (.inl x4)] [] M := by
  refine a_aloadn C dX3_passOn_129 rfl ?_
  refine a_getR C 19 fl_X3_28 rfl rfl dX3_passOn_130 ?_
  refine a_iload C dX3_passOn_133 rfl ?_
  refine a_iconst C dX3_passOn_135 (inr_b rfl) ?_
  obtain ⟨hg, hf⟩ := hf
  refine a_zast C (n := 24) rfl (Or.inr rfl) hg dX3_passOn_136 ?_
  refine a_aloadn C dX3_passOn_137 rfl ?_
  refine a_iload C dX3_passOn_138 rfl ?_
  refine a_iloadn C dX3_passOn_140 rfl ?_
  refine a_callV C [.inl x4, .inl x3] [] dX3_passOn_141 (cPr_accepts_p _ _) mv_X3_accepts ln_X3_106 rfl rfl ⟨rfl, rfl, Nat.le_of_ble_eq_true rfl, Nat.le_of_ble_eq_true rfl, Nat.le_of_ble_eq_true rfl⟩ hf (fun r4 M4 hf => ?_)
  obtain ⟨hfa, hfb⟩ := hf
  refine a_if_ne C 158 dX3_passOn_144 rfl (fun hc => ?_) (fun hc => ?_)
  · have hf := hfa hc
    refine a_drop [false, true, false, false, false] (lv2 := [none, none, none, none, none]) rfl ?_
    exact sPr_passOn_p_158 C X   _ hf
  · have hf := hfb hc
    refine a_bipush C dX3_passOn_147 bp_21 ?_
    refine a_iload C dX3_passOn_149 rfl ?_
    refine a_aloadn C dX3_passOn_151 rfl ?_
    refine a_callS C [.inl 21, .inl x4, .inr 3] [] dX3_passOn_152 (cPr_flawed _ _) ms_X3_flawed ln_X3_90 ⟨rfl, rfl, Nat.le_of_ble_eq_true rfl, Nat.le_of_ble_eq_true rfl, Nat.le_of_ble_eq_true rfl⟩ hf (fun r5 M5 hf => ?_)
    obtain ⟨hfa, hfb⟩ := hf
    refine a_if_eq C 162 dX3_passOn_155 rfl (fun hc => ?_) (fun hc => ?_)
    · have hf := hfa hc
      refine a_iconst C dX3_passOn_162 (inr_b rfl) ?_
      exact a_bret C X (Or.inl rfl) dX3_passOn_163 hf
    · have hf := hfb hc
      refine a_drop [false, true, false, false, false] (lv2 := [none, none, none, none, none]) rfl ?_
      exact sPr_passOn_p_158 C X   _ hf
set_option maxRecDepth 20000 in
set_option maxHeartbeats 4000000 in
theorem sPr_passOn_p_91 {E : EE} {R : Int → Mem → Prop} (C : Cx shX 5 cX3_passOn RX3 2 43 E) (X : Rx shX (some .boolean) R E) (x1 : Int) (x3 : Int) (M : Mem) (hf : fPr_passOn_p_91  R x1 x3 M) : AW shX 5 E 91 [some (.inr 13), some (.inl x1), some (.inr 3), some (.inl x3), none] [] M := by
  have hf : fPr_leads_p x1 M (fun r3 M3 => ((r3 ≠ 0 → (inb x1 24 ∧ (inb (M3 15 x1) 24 ∧ (((M3 19 (M3 15 x1)) ≠ 0 → fPr_passOn_p_129  R x3 (M3 15 x1) M3) ∧ ((M3 19 (M3 15 x1)) = 0 → fPr_passOn_p_129  R x3 (M3 15 x1) (mu M3 13 8 (wrap ((M3 13 8) + 1)))))))) ∧ (r3 = 0 → R 1 M3))) := hf
  refine a_aloadn C dX3_passOn_91 rfl ?_
  refine a_iloadn C dX3_passOn_92 rfl ?_
  refine a_callV C [.inl x1] [] dX3_passOn_93 (cPr_leads_p _) mv_X3_leads ln_X3_60 rfl rfl ⟨rfl, rfl, Nat.le_of_ble_eq_true rfl, Nat.le_of_ble_eq_true rfl, Nat.le_of_ble_eq_true rfl⟩ hf (fun r3 M3 hf => ?_)
  obtain ⟨hfa, hfb⟩ := hf
  refine a_if_ne C 101 dX3_passOn_96 rfl (fun hc => ?_) (fun hc => ?_)
  · have hf := hfa hc
    refine a_aloadn C dX3_passOn_101 rfl ?_
    refine a_getR C 15 fl_X3_15 rfl rfl dX3_passOn_102 ?_
    refine a_iloadn C dX3_passOn_105 rfl ?_
    obtain ⟨hg, hf⟩ := hf
    refine a_iald C (n := 24) rfl hg dX3_passOn_106 ?_
    refine a_istore C dX3_passOn_107 (by decide) (lv2 := [some (.inr 13), some (.inl x1), some (.inr 3), some (.inl x3), some (.inl (M3 15 x1))]) rfl ?_
    refine a_aloadn C dX3_passOn_109 rfl ?_
    refine a_getR C 19 fl_X3_28 rfl rfl dX3_passOn_110 ?_
    refine a_iload C dX3_passOn_113 rfl ?_
    obtain ⟨hg, hf⟩ := hf
    refine a_zald C (n := 24) rfl hg dX3_passOn_115 ?_
    obtain ⟨hfa, hfb⟩ := hf
    refine a_if_ne C 129 dX3_passOn_116 rfl (fun hc => ?_) (fun hc => ?_)
    · have hf := hfa hc
      refine a_drop [true, false, true, true, true] (lv2 := [some (.inr 13), none, some (.inr 3), some (.inl x3), some (.inl (M3 15 x1))]) rfl ?_
      exact sPr_passOn_p_129 C X  _ _ _ hf
    · have hf := hfb hc
      refine a_aloadn C dX3_passOn_119 rfl ?_
      refine a_dup C dX3_passOn_120 ?_
      refine a_getI C (kz := 8) fl_X3_38 rfl rfl rfl dX3_passOn_121 ?_
      refine a_iconst C dX3_passOn_124 (inr_b rfl) ?_
      refine a_iadd C dX3_passOn_125 ?_
      refine a_putI C (kz := 8) fp_X3_38 rfl rfl rfl dX3_passOn_126 ?_
      refine a_drop [true, false, true, true, true] (lv2 := [some (.inr 13), none, some (.inr 3), some (.inl x3), some (.inl (M3 15 x1))]) rfl ?_
      exact sPr_passOn_p_129 C X  _ _ _ hf
  · have hf := hfb hc
    refine a_iconst C dX3_passOn_99 (inr_b rfl) ?_
    exact a_bret C X (Or.inr rfl) dX3_passOn_100 hf
set_option maxRecDepth 20000 in
set_option maxHeartbeats 4000000 in
theorem cPr_passOn_p (x1 : Int) : Snd shX yX3_passOn cX3_passOn 5 (some .boolean) 2 43 [.inr 13, .inl x1, .inr 3] (fPr_passOn_p x1) := by
  refine Snd.of RX3 (by decide +kernel) rfl (Nat.le_of_ble_eq_true rfl) ?_
  intro E M R hf C X
  show AW shX 5 E 0 [some (.inr 13), some (.inl x1), some (.inr 3), none, none] [] M
  refine a_aloadn C dX3_passOn_0 rfl ?_
  refine a_getR C 17 fl_X3_21 rfl rfl dX3_passOn_1 ?_
  refine a_iloadn C dX3_passOn_4 rfl ?_
  obtain ⟨hg, hf⟩ := hf
  refine a_iald C (n := 24) rfl hg dX3_passOn_5 ?_
  refine a_gsN C 100 ro_100 (fun ad A U H h => nest_X3_97 h) dX3_passOn_6 ?_
  refine a_aloadn C dX3_passOn_9 rfl ?_
  refine a_getR C 14 fl_X3_9 rfl rfl dX3_passOn_10 ?_
  refine a_iloadn C dX3_passOn_13 rfl ?_
  obtain ⟨hg, hf⟩ := hf
  refine a_iald C (n := 24) rfl hg dX3_passOn_14 ?_
  obtain ⟨hg, hf⟩ := hf
  refine a_ti C ro_100 hg dX3_passOn_15 ?_
  refine a_isub C dX3_passOn_16 ?_
  refine a_gsN C 101 ro_101 (fun ad A U H h => nest_X3_100 h) dX3_passOn_17 ?_
  refine a_aloadn C dX3_passOn_20 rfl ?_
  refine a_getR C 14 fl_X3_9 rfl rfl dX3_passOn_21 ?_
  refine a_iloadn C dX3_passOn_24 rfl ?_
  obtain ⟨hg, hf⟩ := hf
  refine a_iald C (n := 24) rfl hg dX3_passOn_25 ?_
  obtain ⟨hg, hf⟩ := hf
  refine a_ti C ro_101 hg dX3_passOn_26 ?_
  refine a_iadd C dX3_passOn_27 ?_
  refine a_istoren C dX3_passOn_28 (by decide) (lv2 := [some (.inr 13), some (.inl x1), some (.inr 3), some (.inl (wrap ((wrap ((M 17 x1) - (roV 100 (M 14 x1)))) + (roV 101 (M 14 x1))))), none]) rfl ?_
  refine a_aloadn C dX3_passOn_29 rfl ?_
  refine a_getR C 17 fl_X3_21 rfl rfl dX3_passOn_30 ?_
  refine a_iloadn C dX3_passOn_33 rfl ?_
  obtain ⟨hg, hf⟩ := hf
  refine a_iald C (n := 24) rfl hg dX3_passOn_34 ?_
  refine a_gsN C 100 ro_100 (fun ad A U H h => nest_X3_97 h) dX3_passOn_35 ?_
  refine a_aloadn C dX3_passOn_38 rfl ?_
  refine a_getR C 14 fl_X3_9 rfl rfl dX3_passOn_39 ?_
  refine a_iloadn C dX3_passOn_42 rfl ?_
  obtain ⟨hg, hf⟩ := hf
  refine a_iald C (n := 24) rfl hg dX3_passOn_43 ?_
  obtain ⟨hg, hf⟩ := hf
  refine a_ti C ro_100 hg dX3_passOn_44 ?_
  obtain ⟨hfa, hfb⟩ := hf
  refine a_icmp_lt C 54 dX3_passOn_45 rfl (fun hc => ?_) (fun hc => ?_)
  · have hf := hfa hc
    refine a_drop [false, true, true, false, true] (lv2 := [none, some (.inl x1), some (.inr 3), none, none]) rfl ?_
    exact sPr_passOn_p_54 C X  _ _ hf
  · have hf := hfb hc
    refine a_iloadn C dX3_passOn_48 rfl ?_
    refine a_bipush C dX3_passOn_49 bp_12 ?_
    obtain ⟨hfa, hfb⟩ := hf
    refine a_icmp_le C 62 dX3_passOn_51 rfl (fun hc => ?_) (fun hc => ?_)
    · have hf := hfa hc
      refine a_aloadn C dX3_passOn_62 rfl ?_
      refine a_iloadn C dX3_passOn_63 rfl ?_
      refine a_callV C [.inl x1] [] dX3_passOn_64 (cPr_falls_p _) mv_X3_falls ln_X3_103 rfl rfl ⟨rfl, rfl, Nat.le_of_ble_eq_true rfl, Nat.le_of_ble_eq_true rfl, Nat.le_of_ble_eq_true rfl⟩ hf (fun r2 M2 hf => ?_)
      obtain ⟨hfa, hfb⟩ := hf
      refine a_if_eq C 91 dX3_passOn_67 rfl (fun hc => ?_) (fun hc => ?_)
      · have hf := hfa hc
        exact sPr_passOn_p_91 C X  _ _ _ hf
      · have hf := hfb hc
        refine a_aloadn C dX3_passOn_70 rfl ?_
        refine a_iloadn C dX3_passOn_71 rfl ?_
        refine a_iconst C dX3_passOn_72 (inr_b rfl) ?_
        refine a_iadd C dX3_passOn_73 ?_
        refine a_iloadn C dX3_passOn_74 rfl ?_
        refine a_callV C [.inl (wrap (x1 + 1)), .inl (wrap ((wrap ((M 17 x1) - (roV 100 (M 14 x1)))) + (roV 101 (M 14 x1))))] [] dX3_passOn_75 (cPr_accepts_p _ _) mv_X3_accepts ln_X3_106 rfl rfl ⟨rfl, rfl, Nat.le_of_ble_eq_true rfl, Nat.le_of_ble_eq_true rfl, Nat.le_of_ble_eq_true rfl⟩ hf (fun r6 M6 hf => ?_)
        obtain ⟨hfa, hfb⟩ := hf
        refine a_if_ne C 91 dX3_passOn_78 rfl (fun hc => ?_) (fun hc => ?_)
        · have hf := hfa hc
          exact sPr_passOn_p_91 C X  _ _ _ hf
        · have hf := hfb hc
          refine a_bipush C dX3_passOn_81 bp_21 ?_
          refine a_iloadn C dX3_passOn_83 rfl ?_
          refine a_iconst C dX3_passOn_84 (inr_b rfl) ?_
          refine a_iadd C dX3_passOn_85 ?_
          refine a_aloadn C dX3_passOn_86 rfl ?_
          refine a_callS C [.inl 21, .inl (wrap (x1 + 1)), .inr 3] [] dX3_passOn_87 (cPr_flawed _ _) ms_X3_flawed ln_X3_90 ⟨rfl, rfl, Nat.le_of_ble_eq_true rfl, Nat.le_of_ble_eq_true rfl, Nat.le_of_ble_eq_true rfl⟩ hf (fun r7 M7 hf => ?_)
          obtain ⟨hg, hf⟩ := hf
          exact a_bret C X hg dX3_passOn_90 hf
    · have hf := hfb hc
      refine a_drop [false, true, true, false, true] (lv2 := [none, some (.inl x1), some (.inr 3), none, none]) rfl ?_
      exact sPr_passOn_p_54 C X  _ _ hf
set_option maxRecDepth 20000 in
set_option maxHeartbeats 4000000 in
theorem sPr_findDepths_p_111 {E : EE} {R : Int → Mem → Prop} (C : Cx shX 4 cX3_findDepths RX3 3 67 E) (X : Rx shX (some .boolean) R E) (M : Mem) (hf : fPr_findDepths_p_111  R M) : AW shX 4 E 111 [some (.inr 13), some (.inr 3), none, none] [] M := by
  refine a_aloadn C dX3_findDepths_111 rfl ?_
  refine a_getI C (kz := 8) fl_X3_38 rfl rfl rfl dX3_findDepths_112 ?_
  refine a_iconst C dX3_findDepths_115 (inr_b rfl) ?_
  obtain ⟨hfa, hfb⟩ := hf
  refine a_icmp_le C 130 dX3_findDepths_116 rfl (fun hc => ?_) (fun hc => ?_)
  · have hf := hfa hc
    refine a_iconst C dX3_findDepths_130 (inr_b rfl) ?_
    exact a_bret C X (Or.inr rfl) dX3_findDepths_131 hf
  · have hf := hfb hc
    refine a_bipush C dX3_findDepths_119 bp_23 ?_
    refine a_aloadn C dX3_findDepths_121 rfl ?_
    refine a_getI C (kz := 8) fl_X3_38 rfl rfl rfl dX3_findDepths_122 ?_
    refine a_aloadn C dX3_findDepths_125 rfl ?_
    refine a_callS C [.inl 23, .inl (M 13 8), .inr 3] [] dX3_findDepths_126 (cPr_flawed _ _) ms_X3_flawed ln_X3_90 ⟨rfl, rfl, Nat.le_of_ble_eq_true rfl, Nat.le_of_ble_eq_true rfl, Nat.le_of_ble_eq_true rfl⟩ hf (fun r1 M1 hf => ?_)
    obtain ⟨hg, hf⟩ := hf
    exact a_bret C X hg dX3_findDepths_129 hf
set_option maxRecDepth 20000 in
set_option maxHeartbeats 4000000 in
theorem sPr_findDepths_p_55 {E : EE} {R : Int → Mem → Prop} (C : Cx shX 4 cX3_findDepths RX3 3 67 E) (X : Rx shX (some .boolean) R E) : ∀ (n : Nat) (x2 : Int) (M : Mem), fPr_findDepths_p_55  R n x2 M → AW shX 4 E 55 [some (.inr 13), some (.inr 3), some (.inl x2), none] [] M := by
  intro n
  induction n with
  | zero => intro x2 M hf; exact hf.elim
  | succ n hk55 =>
    intro x2 M hf
    refine a_iloadn C dX3_findDepths_55 rfl ?_
    refine a_aloadn C dX3_findDepths_56 rfl ?_
    refine a_getI C (kz := 6) fl_X3_31 rfl rfl rfl dX3_findDepths_57 ?_
    obtain ⟨hfa, hfb⟩ := hf
    refine a_icmp_ge C 111 dX3_findDepths_60 rfl (fun hc => ?_) (fun hc => ?_)
    · have hf := hfa hc
      refine a_drop [true, true, false, true] (lv2 := [some (.inr 13), some (.inr 3), none, none]) rfl ?_
      exact sPr_findDepths_p_111 C X   _ hf
    · have hf := hfb hc
      refine a_aloadn C dX3_findDepths_63 rfl ?_
      refine a_callV C [] [] dX3_findDepths_64 (cPr_nextToConsider_p) mv_X3_nextToConsider ln_X3_82 rfl rfl ⟨rfl, rfl, Nat.le_of_ble_eq_true rfl, Nat.le_of_ble_eq_true rfl, Nat.le_of_ble_eq_true rfl⟩ hf (fun r2 M2 hf => ?_)
      refine a_istoren C dX3_findDepths_67 (by decide) (lv2 := [some (.inr 13), some (.inr 3), some (.inl x2), some (.inl r2)]) rfl ?_
      refine a_iloadn C dX3_findDepths_68 rfl ?_
      refine a_bipush C dX3_findDepths_69 bp_m4 ?_
      obtain ⟨hfa, hfb⟩ := hf
      refine a_icmp_ne C 77 dX3_findDepths_71 rfl (fun hc => ?_) (fun hc => ?_)
      · have hf := hfa hc
        refine a_aloadn C dX3_findDepths_77 rfl ?_
        refine a_getR C 18 fl_X3_24 rfl rfl dX3_findDepths_78 ?_
        refine a_iloadn C dX3_findDepths_81 rfl ?_
        refine a_iconst C dX3_findDepths_82 (inr_b rfl) ?_
        obtain ⟨hg, hf⟩ := hf
        refine a_zast C (n := 24) rfl (Or.inr rfl) hg dX3_findDepths_83 ?_
        refine a_aloadn C dX3_findDepths_84 rfl ?_
        refine a_dup C dX3_findDepths_85 ?_
        refine a_getI C (kz := 7) fl_X3_35 rfl rfl rfl dX3_findDepths_86 ?_
        refine a_iconst C dX3_findDepths_89 (inr_b rfl) ?_
        refine a_iadd C dX3_findDepths_90 ?_
        refine a_putI C (kz := 7) fp_X3_35 rfl rfl rfl dX3_findDepths_91 ?_
        refine a_aloadn C dX3_findDepths_94 rfl ?_
        refine a_iloadn C dX3_findDepths_95 rfl ?_
        refine a_aloadn C dX3_findDepths_96 rfl ?_
        refine a_callV C [.inl r2, .inr 3] [] dX3_findDepths_97 (cPr_passOn_p _) mv_X3_passOn ln_X3_86 rfl rfl ⟨rfl, rfl, Nat.le_of_ble_eq_true rfl, Nat.le_of_ble_eq_true rfl, Nat.le_of_ble_eq_true rfl⟩ hf (fun r3 M3 hf => ?_)
        obtain ⟨hfa, hfb⟩ := hf
        refine a_if_ne C 105 dX3_findDepths_100 rfl (fun hc => ?_) (fun hc => ?_)
        · have hf := hfa hc
          refine a_iinc C dX3_findDepths_105 rfl (by decide) (lv2 := [some (.inr 13), some (.inr 3), some (.inl (wrap (x2 + 1))), some (.inl r2)]) rfl ?_
          refine a_goto C 55 dX3_findDepths_108 rfl ?_
          refine a_drop [true, true, true, false] (lv2 := [some (.inr 13), some (.inr 3), some (.inl (wrap (x2 + 1))), none]) rfl ?_
          exact hk55 _ _ hf
        · have hf := hfb hc
          refine a_iconst C dX3_findDepths_103 (inr_b rfl) ?_
          exact a_bret C X (Or.inl rfl) dX3_findDepths_104 hf
      · have hf := hfb hc
        refine a_goto C 111 dX3_findDepths_74 rfl ?_
        refine a_drop [true, true, false, false] (lv2 := [some (.inr 13), some (.inr 3), none, none]) rfl ?_
        exact sPr_findDepths_p_111 C X   _ hf
set_option maxRecDepth 20000 in
set_option maxHeartbeats 4000000 in
theorem sPr_findDepths_p_2 {E : EE} {R : Int → Mem → Prop} (C : Cx shX 4 cX3_findDepths RX3 3 67 E) (X : Rx shX (some .boolean) R E) : ∀ (n : Nat) (x2 : Int) (M : Mem), fPr_findDepths_p_2  R n x2 M → AW shX 4 E 2 [some (.inr 13), some (.inr 3), some (.inl x2), none] [] M := by
  intro n
  induction n with
  | zero => intro x2 M hf; exact hf.elim
  | succ n hk2 =>
    intro x2 M hf
    refine a_iloadn C dX3_findDepths_2 rfl ?_
    refine a_bipush C dX3_findDepths_3 bp_24 ?_
    obtain ⟨hfa, hfb⟩ := hf
    refine a_icmp_ge C 36 dX3_findDepths_5 rfl (fun hc => ?_) (fun hc => ?_)
    · have hf := hfa hc
      refine a_aloadn C dX3_findDepths_36 rfl ?_
      refine a_iconst C dX3_findDepths_37 (inr_b rfl) ?_
      refine a_putI C (kz := 7) fp_X3_35 rfl rfl rfl dX3_findDepths_38 ?_
      refine a_aloadn C dX3_findDepths_41 rfl ?_
      refine a_iconst C dX3_findDepths_42 (inr_b rfl) ?_
      refine a_putI C (kz := 8) fp_X3_38 rfl rfl rfl dX3_findDepths_43 ?_
      refine a_aloadn C dX3_findDepths_46 rfl ?_
      refine a_getR C 17 fl_X3_21 rfl rfl dX3_findDepths_47 ?_
      refine a_iconst C dX3_findDepths_50 (inr_b rfl) ?_
      refine a_iconst C dX3_findDepths_51 (inr_b rfl) ?_
      refine a_iast C (n := 24) rfl (inb_b rfl) dX3_findDepths_52 ?_
      refine a_iconst C dX3_findDepths_53 (inr_b rfl) ?_
      refine a_istoren C dX3_findDepths_54 (by decide) (lv2 := [some (.inr 13), some (.inr 3), some (.inl 0), none]) rfl ?_
      obtain ⟨n4, hf⟩ := hf
      exact sPr_findDepths_p_55 C X  n4 _ _ hf
    · have hf := hfb hc
      refine a_aloadn C dX3_findDepths_8 rfl ?_
      refine a_getR C 17 fl_X3_21 rfl rfl dX3_findDepths_9 ?_
      refine a_iloadn C dX3_findDepths_12 rfl ?_
      refine a_bipush C dX3_findDepths_13 bp_m4 ?_
      obtain ⟨hg, hf⟩ := hf
      refine a_iast C (n := 24) rfl hg dX3_findDepths_15 ?_
      refine a_aloadn C dX3_findDepths_16 rfl ?_
      refine a_getR C 18 fl_X3_24 rfl rfl dX3_findDepths_17 ?_
      refine a_iloadn C dX3_findDepths_20 rfl ?_
      refine a_iconst C dX3_findDepths_21 (inr_b rfl) ?_
      obtain ⟨hg, hf⟩ := hf
      refine a_zast C (n := 24) rfl (Or.inl rfl) hg dX3_findDepths_22 ?_
      refine a_aloadn C dX3_findDepths_23 rfl ?_
      refine a_getR C 19 fl_X3_28 rfl rfl dX3_findDepths_24 ?_
      refine a_iloadn C dX3_findDepths_27 rfl ?_
      refine a_iconst C dX3_findDepths_28 (inr_b rfl) ?_
      obtain ⟨hg, hf⟩ := hf
      refine a_zast C (n := 24) rfl (Or.inl rfl) hg dX3_findDepths_29 ?_
      refine a_iinc C dX3_findDepths_30 rfl (by decide) (lv2 := [some (.inr 13), some (.inr 3), some (.inl (wrap (x2 + 1))), none]) rfl ?_
      refine a_goto C 2 dX3_findDepths_33 rfl ?_
      exact hk2 _ _ hf
set_option maxRecDepth 20000 in
set_option maxHeartbeats 4000000 in
theorem cPr_findDepths_p : Snd shX yX3_findDepths cX3_findDepths 4 (some .boolean) 3 67 [.inr 13, .inr 3] fPr_findDepths_p := by
  refine Snd.of RX3 (by decide +kernel) rfl (Nat.le_of_ble_eq_true rfl) ?_
  intro E M R hf C X
  show AW shX 4 E 0 [some (.inr 13), some (.inr 3), none, none] [] M
  refine a_iconst C dX3_findDepths_0 (inr_b rfl) ?_
  refine a_istoren C dX3_findDepths_1 (by decide) (lv2 := [some (.inr 13), some (.inr 3), some (.inl 0), none]) rfl ?_
  obtain ⟨n5, hf⟩ := hf
  exact sPr_findDepths_p_2 C X  n5 _ _ hf
set_option maxRecDepth 20000 in
set_option maxHeartbeats 4000000 in
theorem cMa_registerOf (x1 x2 : Int) : Snd shX yX2_registerOf cX2_registerOf 3 (some .int) 0 0 [.inr 8, .inl x1, .inl x2] (fMa_registerOf x1 x2) := by
  refine Snd.of RX2 (by decide +kernel) rfl (Nat.le_of_ble_eq_true rfl) ?_
  intro E M R hf C X
  show AW shX 3 E 0 [some (.inr 8), some (.inl x1), some (.inl x2)] [] M
  refine a_aloadn C dX2_registerOf_0 rfl ?_
  refine a_getR C 9 fl_X2_27 rfl rfl dX2_registerOf_1 ?_
  refine a_iloadn C dX2_registerOf_4 rfl ?_
  obtain ⟨hg, hf⟩ := hf
  refine a_iald C (n := 16) rfl hg dX2_registerOf_5 ?_
  refine a_iconst C dX2_registerOf_6 (inr_b rfl) ?_
  refine a_iloadn C dX2_registerOf_7 rfl ?_
  refine a_imul C dX2_registerOf_8 ?_
  refine a_ishr C dX2_registerOf_9 ?_
  refine a_iconst C dX2_registerOf_10 (inr_b rfl) ?_
  refine a_iand C dX2_registerOf_11 ?_
  refine a_iconst C dX2_registerOf_12 (inr_b rfl) ?_
  refine a_isub C dX2_registerOf_13 ?_
  exact a_iret C X dX2_registerOf_14 hf
set_option maxRecDepth 20000 in
set_option maxHeartbeats 4000000 in
theorem sMa_keeps_3 {E : EE} {R : Int → Mem → Prop} (C : Cx shX 5 cX2_keeps RX2 1 22 E) (X : Rx shX (some .boolean) R E) : ∀ (n : Nat) (x1 : Int) (x2 : Int) (x3 : Int) (x4 : Int) (M : Mem), fMa_keeps_3  R n x1 x2 x3 x4 M → AW shX 5 E 3 [some (.inr 8), some (.inl x1), some (.inl x2), some (.inl x3), some (.inl x4)] [] M := by
  intro n
  induction n with
  | zero => intro x1 x2 x3 x4 M hf; exact hf.elim
  | succ n hk3 =>
    intro x1 x2 x3 x4 M hf
    refine a_iload C dX2_keeps_3 rfl ?_
    refine a_iloadn C dX2_keeps_5 rfl ?_
    obtain ⟨hfa, hfb⟩ := hf
    refine a_icmp_ge C 28 dX2_keeps_6 rfl (fun hc => ?_) (fun hc => ?_)
    · have hf := hfa hc
      refine a_iconst C dX2_keeps_28 (inr_b rfl) ?_
      exact a_bret C X (Or.inl rfl) dX2_keeps_29 hf
    · have hf := hfb hc
      refine a_aloadn C dX2_keeps_9 rfl ?_
      refine a_iloadn C dX2_keeps_10 rfl ?_
      refine a_iload C dX2_keeps_11 rfl ?_
      refine a_callV C [.inl x1, .inl x4] [] dX2_keeps_13 (cMa_registerOf _ _) mv_X2_registerOf ln_X2_78 rfl rfl ⟨rfl, rfl, Nat.le_of_ble_eq_true rfl, Nat.le_of_ble_eq_true rfl, Nat.le_of_ble_eq_true rfl⟩ hf (fun r1 M1 hf => ?_)
      refine a_iloadn C dX2_keeps_16 rfl ?_
      obtain ⟨hfa, hfb⟩ := hf
      refine a_icmp_ne C 22 dX2_keeps_17 rfl (fun hc => ?_) (fun hc => ?_)
      · have hf := hfa hc
        refine a_iinc C dX2_keeps_22 rfl (by decide) (lv2 := [some (.inr 8), some (.inl x1), some (.inl x2), some (.inl x3), some (.inl (wrap (x4 + 1)))]) rfl ?_
        refine a_goto C 3 dX2_keeps_25 rfl ?_
        exact hk3 _ _ _ _ _ hf
      · have hf := hfb hc
        refine a_iconst C dX2_keeps_20 (inr_b rfl) ?_
        exact a_bret C X (Or.inr rfl) dX2_keeps_21 hf
set_option maxRecDepth 20000 in
set_option maxHeartbeats 4000000 in
theorem cMa_keeps (x1 x2 x3 : Int) : Snd shX yX2_keeps cX2_keeps 5 (some .boolean) 1 22 [.inr 8, .inl x1, .inl x2, .inl x3] (fMa_keeps x1 x2 x3) := by
  refine Snd.of RX2 (by decide +kernel) rfl (Nat.le_of_ble_eq_true rfl) ?_
  intro E M R hf C X
  show AW shX 5 E 0 [some (.inr 8), some (.inl x1), some (.inl x2), some (.inl x3), none] [] M
  refine a_iconst C dX2_keeps_0 (inr_b rfl) ?_
  refine a_istore C dX2_keeps_1 (by decide) (lv2 := [some (.inr 8), some (.inl x1), some (.inl x2), some (.inl x3), some (.inl 0)]) rfl ?_
  obtain ⟨n2, hf⟩ := hf
  exact sMa_keeps_3 C X  n2 _ _ _ _ _ hf
set_option maxRecDepth 20000 in
set_option maxHeartbeats 4000000 in
theorem sMa_goesRound_53 {E : EE} {R : Int → Mem → Prop} (C : Cx shX 6 cX2_goesRound RX2 2 46 E) (X : Rx shX (some .boolean) R E) {k6 : Int → Int → Int → Int → Int → Mem → Prop} (hk6 : ∀ (x1 : Int) (x2 : Int) (x3 : Int) (x4 : Int) (x5 : Int) (M : Mem), k6 x1 x2 x3 x4 x5 M → AW shX 6 E 6 [some (.inr 8), some (.inl x1), some (.inl x2), some (.inl x3), some (.inl x4), some (.inl x5)] [] M) (x1 : Int) (x2 : Int) (x3 : Int) (x4 : Int) (x5 : Int) (M : Mem) (hf : fMa_goesRound_53 k6 R x1 x2 x3 x4 x5 M) : AW shX 6 E 53 [some (.inr 8), some (.inl x1), some (.inl x2), some (.inl x3), some (.inl x4), some (.inl x5)] [] M := by
  refine a_iinc C dX2_goesRound_53 rfl (by decide) (lv2 := [some (.inr 8), some (.inl x1), some (.inl x2), some (.inl x3), some (.inl x4), some (.inl (wrap (x5 + 1)))]) rfl ?_
  refine a_goto C 6 dX2_goesRound_56 rfl ?_
  exact hk6 _ _ _ _ _ _ hf
set_option maxRecDepth 20000 in
set_option maxHeartbeats 4000000 in
theorem sMa_goesRound_6 {E : EE} {R : Int → Mem → Prop} (C : Cx shX 6 cX2_goesRound RX2 2 46 E) (X : Rx shX (some .boolean) R E) : ∀ (n : Nat) (x1 : Int) (x2 : Int) (x3 : Int) (x4 : Int) (x5 : Int) (M : Mem), fMa_goesRound_6  R n x1 x2 x3 x4 x5 M → AW shX 6 E 6 [some (.inr 8), some (.inl x1), some (.inl x2), some (.inl x3), some (.inl x4), some (.inl x5)] [] M := by
  intro n
  induction n with
  | zero => intro x1 x2 x3 x4 x5 M hf; exact hf.elim
  | succ n hk6 =>
    intro x1 x2 x3 x4 x5 M hf
    refine a_iload C dX2_goesRound_6 rfl ?_
    refine a_iloadn C dX2_goesRound_8 rfl ?_
    obtain ⟨hfa, hfb⟩ := hf
    refine a_icmp_ge C 59 dX2_goesRound_9 rfl (fun hc => ?_) (fun hc => ?_)
    · have hf := hfa hc
      refine a_iload C dX2_goesRound_59 rfl ?_
      obtain ⟨hg, hf⟩ := hf
      exact a_bret C X hg dX2_goesRound_61 hf
    · have hf := hfb hc
      refine a_aloadn C dX2_goesRound_12 rfl ?_
      refine a_iloadn C dX2_goesRound_13 rfl ?_
      refine a_iload C dX2_goesRound_14 rfl ?_
      refine a_callV C [.inl x1, .inl x5] [] dX2_goesRound_16 (cMa_registerOf _ _) mv_X2_registerOf ln_X2_78 rfl rfl ⟨rfl, rfl, Nat.le_of_ble_eq_true rfl, Nat.le_of_ble_eq_true rfl, Nat.le_of_ble_eq_true rfl⟩ hf (fun r1 M1 hf => ?_)
      refine a_aloadn C dX2_goesRound_19 rfl ?_
      refine a_iloadn C dX2_goesRound_20 rfl ?_
      refine a_iload C dX2_goesRound_21 rfl ?_
      refine a_callV C [.inl x2, .inl x5] [.inl r1] dX2_goesRound_23 (cMa_registerOf _ _) mv_X2_registerOf ln_X2_78 rfl rfl ⟨rfl, rfl, Nat.le_of_ble_eq_true rfl, Nat.le_of_ble_eq_true rfl, Nat.le_of_ble_eq_true rfl⟩ hf (fun r2 M2 hf => ?_)
      obtain ⟨hfa, hfb⟩ := hf
      refine a_icmp_ne C 32 dX2_goesRound_26 rfl (fun hc => ?_) (fun hc => ?_)
      · have hf := hfa hc
        refine a_iconst C dX2_goesRound_32 (inr_b rfl) ?_
        refine a_istore C dX2_goesRound_33 (by decide) (lv2 := [some (.inr 8), some (.inl x1), some (.inl x2), some (.inl x3), some (.inl 1), some (.inl x5)]) rfl ?_
        refine a_aloadn C dX2_goesRound_35 rfl ?_
        refine a_iloadn C dX2_goesRound_36 rfl ?_
        refine a_iloadn C dX2_goesRound_37 rfl ?_
        refine a_aloadn C dX2_goesRound_38 rfl ?_
        refine a_iloadn C dX2_goesRound_39 rfl ?_
        refine a_iload C dX2_goesRound_40 rfl ?_
        refine a_callV C [.inl x2, .inl x5] [.inl x3, .inl x1, .inr 8] dX2_goesRound_42 (cMa_registerOf _ _) mv_X2_registerOf ln_X2_78 rfl rfl ⟨rfl, rfl, Nat.le_of_ble_eq_true rfl, Nat.le_of_ble_eq_true rfl, Nat.le_of_ble_eq_true rfl⟩ hf (fun r3 M3 hf => ?_)
        refine a_callV C [.inl x1, .inl x3, .inl r3] [] dX2_goesRound_45 (cMa_keeps _ _ _) mv_X2_keeps ln_X2_85 rfl rfl ⟨rfl, rfl, Nat.le_of_ble_eq_true rfl, Nat.le_of_ble_eq_true rfl, Nat.le_of_ble_eq_true rfl⟩ hf (fun r4 M4 hf => ?_)
        obtain ⟨hfa, hfb⟩ := hf
        refine a_if_ne C 53 dX2_goesRound_48 rfl (fun hc => ?_) (fun hc => ?_)
        · have hf := hfa hc
          exact sMa_goesRound_53 C X hk6 _ _ _ _ _ _ hf
        · have hf := hfb hc
          refine a_iconst C dX2_goesRound_51 (inr_b rfl) ?_
          exact a_bret C X (Or.inl rfl) dX2_goesRound_52 hf
      · have hf := hfb hc
        refine a_goto C 53 dX2_goesRound_29 rfl ?_
        exact sMa_goesRound_53 C X hk6 _ _ _ _ _ _ hf
set_option maxRecDepth 20000 in
set_option maxHeartbeats 4000000 in
theorem cMa_goesRound (x1 x2 x3 : Int) : Snd shX yX2_goesRound cX2_goesRound 6 (some .boolean) 2 46 [.inr 8, .inl x1, .inl x2, .inl x3] (fMa_goesRound x1 x2 x3) := by
  refine Snd.of RX2 (by decide +kernel) rfl (Nat.le_of_ble_eq_true rfl) ?_
  intro E M R hf C X
  show AW shX 6 E 0 [some (.inr 8), some (.inl x1), some (.inl x2), some (.inl x3), none, none] [] M
  refine a_iconst C dX2_goesRound_0 (inr_b rfl) ?_
  refine a_istore C dX2_goesRound_1 (by decide) (lv2 := [some (.inr 8), some (.inl x1), some (.inl x2), some (.inl x3), some (.inl 0), none]) rfl ?_
  refine a_iconst C dX2_goesRound_3 (inr_b rfl) ?_
  refine a_istore C dX2_goesRound_4 (by decide) (lv2 := [some (.inr 8), some (.inl x1), some (.inl x2), some (.inl x3), some (.inl 0), some (.inl 0)]) rfl ?_
  obtain ⟨n5, hf⟩ := hf
  exact sMa_goesRound_6 C X  n5 _ _ _ _ _ _ hf
set_option maxRecDepth 20000 in
set_option maxHeartbeats 4000000 in
theorem sMa_cheapestPassage_160 {E : EE} {R : Int → Mem → Prop} (C : Cx shX 9 cX2_cheapestPassage RX2 3 71 E) (X : Rx shX (some .int) R E) (x4 : Int) (x8 : Int) (M : Mem) (hf : fMa_cheapestPassage_160  R x4 x8 M) : AW shX 9 E 160 [none, none, none, none, some (.inl x4), none, none, none, some (.inl x8)] [] M := by
  refine a_iload C dX2_cheapestPassage_160 rfl ?_
  refine a_iload C dX2_cheapestPassage_162 rfl ?_
  refine a_iadd C dX2_cheapestPassage_164 ?_
  exact a_iret C X dX2_cheapestPassage_165 hf
set_option maxRecDepth 20000 in
set_option maxHeartbeats 4000000 in
theorem sMa_cheapestPassage_77 {E : EE} {R : Int → Mem → Prop} (C : Cx shX 9 cX2_cheapestPassage RX2 3 71 E) (X : Rx shX (some .int) R E) {k51 : Int → Int → Int → Int → Int → Int → Mem → Prop} (hk51 : ∀ (x1 : Int) (x2 : Int) (x3 : Int) (x4 : Int) (x5 : Int) (x6 : Int) (M : Mem), k51 x1 x2 x3 x4 x5 x6 M → AW shX 9 E 51 [some (.inr 8), some (.inl x1), some (.inl x2), some (.inl x3), some (.inl x4), some (.inl x5), some (.inl x6), none, none] [] M) (x1 : Int) (x2 : Int) (x3 : Int) (x4 : Int) (x5 : Int) (x6 : Int) (M : Mem) (hf : fMa_cheapestPassage_77 k51 R x1 x2 x3 x4 x5 x6 M) : AW shX 9 E 77 [some (.inr 8), some (.inl x1), some (.inl x2), some (.inl x3), some (.inl x4), some (.inl x5), some (.inl x6), none, none] [] M := by
  refine a_iinc C dX2_cheapestPassage_77 rfl (by decide) (lv2 := [some (.inr 8), some (.inl x1), some (.inl x2), some (.inl x3), some (.inl x4), some (.inl x5), some (.inl (wrap (x6 + 1))), none, none]) rfl ?_
  refine a_goto C 51 dX2_cheapestPassage_80 rfl ?_
  exact hk51 _ _ _ _ _ _ _ hf
set_option maxRecDepth 20000 in
set_option maxHeartbeats 4000000 in
theorem sMa_cheapestPassage_51 {E : EE} {R : Int → Mem → Prop} (C : Cx shX 9 cX2_cheapestPassage RX2 3 71 E) (X : Rx shX (some .int) R E) : ∀ (n : Nat) (x1 : Int) (x2 : Int) (x3 : Int) (x4 : Int) (x5 : Int) (x6 : Int) (M : Mem), fMa_cheapestPassage_51  R n x1 x2 x3 x4 x5 x6 M → AW shX 9 E 51 [some (.inr 8), some (.inl x1), some (.inl x2), some (.inl x3), some (.inl x4), some (.inl x5), some (.inl x6), none, none] [] M := by
  intro n
  induction n with
  | zero => intro x1 x2 x3 x4 x5 x6 M hf; exact hf.elim
  | succ n hk51 =>
    intro x1 x2 x3 x4 x5 x6 M hf
    refine a_iload C dX2_cheapestPassage_51 rfl ?_
    refine a_iloadn C dX2_cheapestPassage_53 rfl ?_
    obtain ⟨hfa, hfb⟩ := hf
    refine a_icmp_ge C 83 dX2_cheapestPassage_54 rfl (fun hc => ?_) (fun hc => ?_)
    · have hf := hfa hc
      refine a_aloadn C dX2_cheapestPassage_83 rfl ?_
      refine a_getI C (kz := 3) fl_X2_21 rfl rfl rfl dX2_cheapestPassage_84 ?_
      refine a_aloadn C dX2_cheapestPassage_87 rfl ?_
      refine a_getI C (kz := 2) fl_X2_18 rfl rfl rfl dX2_cheapestPassage_88 ?_
      refine a_iadd C dX2_cheapestPassage_91 ?_
      refine a_istore C dX2_cheapestPassage_92 (by decide) (lv2 := [some (.inr 8), some (.inl x1), some (.inl x2), some (.inl x3), some (.inl x4), some (.inl x5), some (.inl (wrap ((M 8 3) + (M 8 2)))), none, none]) rfl ?_
      refine a_aloadn C dX2_cheapestPassage_94 rfl ?_
      refine a_getI C (kz := 1) fl_X2_15 rfl rfl rfl dX2_cheapestPassage_95 ?_
      refine a_iload C dX2_cheapestPassage_98 rfl ?_
      refine a_callS C [.inl (M 8 1), .inl (wrap ((M 8 3) + (M 8 2)))] [] dX2_cheapestPassage_100 (cMath_min _ _) ms_J9_min_7cf53 ln_X2_75 ⟨rfl, rfl, Nat.le_of_ble_eq_true rfl, Nat.le_of_ble_eq_true rfl, Nat.le_of_ble_eq_true rfl⟩ hf (fun r2 M2 hf => ?_)
      refine a_istore C dX2_cheapestPassage_103 (by decide) (lv2 := [some (.inr 8), some (.inl x1), some (.inl x2), some (.inl x3), some (.inl x4), some (.inl x5), some (.inl (wrap ((M 8 3) + (M 8 2)))), some (.inl r2), none]) rfl ?_
      refine a_aloadn C dX2_cheapestPassage_105 rfl ?_
      refine a_iloadn C dX2_cheapestPassage_106 rfl ?_
      refine a_iloadn C dX2_cheapestPassage_107 rfl ?_
      refine a_iloadn C dX2_cheapestPassage_108 rfl ?_
      refine a_callV C [.inl x1, .inl x2, .inl x3] [] dX2_cheapestPassage_109 (cMa_goesRound _ _ _) mv_X2_goesRound ln_X2_81 rfl rfl ⟨rfl, rfl, Nat.le_of_ble_eq_true rfl, Nat.le_of_ble_eq_true rfl, Nat.le_of_ble_eq_true rfl⟩ hf (fun r3 M3 hf => ?_)
      obtain ⟨hfa, hfb⟩ := hf
      refine a_if_ne C 124 dX2_cheapestPassage_112 rfl (fun hc => ?_) (fun hc => ?_)
      · have hf := hfa hc
        refine a_iload C dX2_cheapestPassage_124 rfl ?_
        refine a_iload C dX2_cheapestPassage_126 rfl ?_
        refine a_iconst C dX2_cheapestPassage_128 (inr_b rfl) ?_
        refine a_isub C dX2_cheapestPassage_129 ?_
        refine a_iload C dX2_cheapestPassage_130 rfl ?_
        refine a_imul C dX2_cheapestPassage_132 ?_
        refine a_iadd C dX2_cheapestPassage_133 ?_
        refine a_istore C dX2_cheapestPassage_134 (by decide) (lv2 := [some (.inr 8), some (.inl x1), some (.inl x2), some (.inl x3), some (.inl x4), some (.inl x5), some (.inl (wrap ((M 8 3) + (M 8 2)))), some (.inl r2), some (.inl (wrap ((wrap ((M 8 3) + (M 8 2))) + (wrap ((wrap (x5 - 1)) * r2)))))]) rfl ?_
        refine a_iloadn C dX2_cheapestPassage_136 rfl ?_
        refine a_aloadn C dX2_cheapestPassage_137 rfl ?_
        refine a_getI C (kz := 0) fl_X2_9 rfl rfl rfl dX2_cheapestPassage_138 ?_
        obtain ⟨hfa, hfb⟩ := hf
        refine a_icmp_ge C 160 dX2_cheapestPassage_141 rfl (fun hc => ?_) (fun hc => ?_)
        · have hf := hfa hc
          refine a_drop [false, false, false, false, true, false, false, false, true] (lv2 := [none, none, none, none, some (.inl x4), none, none, none, some (.inl (wrap ((wrap ((M 8 3) + (M 8 2))) + (wrap ((wrap (x5 - 1)) * r2)))))]) rfl ?_
          exact sMa_cheapestPassage_160 C X  _ _ _ hf
        · have hf := hfb hc
          refine a_iload C dX2_cheapestPassage_144 rfl ?_
          refine a_iload C dX2_cheapestPassage_146 rfl ?_
          refine a_iconst C dX2_cheapestPassage_148 (inr_b rfl) ?_
          refine a_iadd C dX2_cheapestPassage_149 ?_
          refine a_aloadn C dX2_cheapestPassage_150 rfl ?_
          refine a_getI C (kz := 1) fl_X2_15 rfl rfl rfl dX2_cheapestPassage_151 ?_
          refine a_imul C dX2_cheapestPassage_154 ?_
          refine a_callS C [.inl (wrap ((wrap ((M 8 3) + (M 8 2))) + (wrap ((wrap (x5 - 1)) * r2)))), .inl (wrap ((wrap (x5 + 1)) * (M3 8 1)))] [] dX2_cheapestPassage_155 (cMath_min _ _) ms_J9_min_7cf53 ln_X2_75 ⟨rfl, rfl, Nat.le_of_ble_eq_true rfl, Nat.le_of_ble_eq_true rfl, Nat.le_of_ble_eq_true rfl⟩ hf (fun r4 M4 hf => ?_)
          refine a_istore C dX2_cheapestPassage_158 (by decide) (lv2 := [some (.inr 8), some (.inl x1), some (.inl x2), some (.inl x3), some (.inl x4), some (.inl x5), some (.inl (wrap ((M 8 3) + (M 8 2)))), some (.inl r2), some (.inl r4)]) rfl ?_
          refine a_drop [false, false, false, false, true, false, false, false, true] (lv2 := [none, none, none, none, some (.inl x4), none, none, none, some (.inl r4)]) rfl ?_
          exact sMa_cheapestPassage_160 C X  _ _ _ hf
      · have hf := hfb hc
        refine a_iload C dX2_cheapestPassage_115 rfl ?_
        refine a_iload C dX2_cheapestPassage_117 rfl ?_
        refine a_iload C dX2_cheapestPassage_119 rfl ?_
        refine a_imul C dX2_cheapestPassage_121 ?_
        refine a_iadd C dX2_cheapestPassage_122 ?_
        exact a_iret C X dX2_cheapestPassage_123 hf
    · have hf := hfb hc
      refine a_aloadn C dX2_cheapestPassage_57 rfl ?_
      refine a_iloadn C dX2_cheapestPassage_58 rfl ?_
      refine a_iload C dX2_cheapestPassage_59 rfl ?_
      refine a_callV C [.inl x1, .inl x6] [] dX2_cheapestPassage_61 (cMa_registerOf _ _) mv_X2_registerOf ln_X2_78 rfl rfl ⟨rfl, rfl, Nat.le_of_ble_eq_true rfl, Nat.le_of_ble_eq_true rfl, Nat.le_of_ble_eq_true rfl⟩ hf (fun r5 M5 hf => ?_)
      refine a_aloadn C dX2_cheapestPassage_64 rfl ?_
      refine a_iloadn C dX2_cheapestPassage_65 rfl ?_
      refine a_iload C dX2_cheapestPassage_66 rfl ?_
      refine a_callV C [.inl x2, .inl x6] [.inl r5] dX2_cheapestPassage_68 (cMa_registerOf _ _) mv_X2_registerOf ln_X2_78 rfl rfl ⟨rfl, rfl, Nat.le_of_ble_eq_true rfl, Nat.le_of_ble_eq_true rfl, Nat.le_of_ble_eq_true rfl⟩ hf (fun r6 M6 hf => ?_)
      obtain ⟨hfa, hfb⟩ := hf
      refine a_icmp_eq C 77 dX2_cheapestPassage_71 rfl (fun hc => ?_) (fun hc => ?_)
      · have hf := hfa hc
        exact sMa_cheapestPassage_77 C X hk51 _ _ _ _ _ _ _ hf
      · have hf := hfb hc
        refine a_iinc C dX2_cheapestPassage_74 rfl (by decide) (lv2 := [some (.inr 8), some (.inl x1), some (.inl x2), some (.inl x3), some (.inl x4), some (.inl (wrap (x5 + 1))), some (.inl x6), none, none]) rfl ?_
        exact sMa_cheapestPassage_77 C X hk51 _ _ _ _ _ _ _ hf
set_option maxRecDepth 20000 in
set_option maxHeartbeats 4000000 in
theorem cMa_cheapestPassage (x1 x2 : Int) : Snd shX yX2_cheapestPassage cX2_cheapestPassage 9 (some .int) 3 71 [.inr 8, .inl x1, .inl x2] (fMa_cheapestPassage x1 x2) := by
  refine Snd.of RX2 (by decide +kernel) rfl (Nat.le_of_ble_eq_true rfl) ?_
  intro E M R hf C X
  show AW shX 9 E 0 [some (.inr 8), some (.inl x1), some (.inl x2), none, none, none, none, none, none] [] M
  refine a_aloadn C dX2_cheapestPassage_0 rfl ?_
  refine a_getR C 10 fl_X2_31 rfl rfl dX2_cheapestPassage_1 ?_
  refine a_iloadn C dX2_cheapestPassage_4 rfl ?_
  obtain ⟨hg, hf⟩ := hf
  refine a_iald C (n := 16) rfl hg dX2_cheapestPassage_5 ?_
  refine a_aloadn C dX2_cheapestPassage_6 rfl ?_
  refine a_getR C 10 fl_X2_31 rfl rfl dX2_cheapestPassage_7 ?_
  refine a_iloadn C dX2_cheapestPassage_10 rfl ?_
  obtain ⟨hg, hf⟩ := hf
  refine a_iald C (n := 16) rfl hg dX2_cheapestPassage_11 ?_
  refine a_callS C [.inl (M 10 x1), .inl (M 10 x2)] [] dX2_cheapestPassage_12 (cMath_min _ _) ms_J9_min_7cf53 ln_X2_75 ⟨rfl, rfl, Nat.le_of_ble_eq_true rfl, Nat.le_of_ble_eq_true rfl, Nat.le_of_ble_eq_true rfl⟩ hf (fun r1 M1 hf => ?_)
  refine a_istoren C dX2_cheapestPassage_15 (by decide) (lv2 := [some (.inr 8), some (.inl x1), some (.inl x2), some (.inl r1), none, none, none, none, none]) rfl ?_
  refine a_aloadn C dX2_cheapestPassage_16 rfl ?_
  refine a_getI C (kz := 3) fl_X2_21 rfl rfl rfl dX2_cheapestPassage_17 ?_
  refine a_aloadn C dX2_cheapestPassage_20 rfl ?_
  refine a_getR C 10 fl_X2_31 rfl rfl dX2_cheapestPassage_21 ?_
  refine a_iloadn C dX2_cheapestPassage_24 rfl ?_
  obtain ⟨hg, hf⟩ := hf
  refine a_iald C (n := 16) rfl hg dX2_cheapestPassage_25 ?_
  refine a_iloadn C dX2_cheapestPassage_26 rfl ?_
  refine a_isub C dX2_cheapestPassage_27 ?_
  refine a_imul C dX2_cheapestPassage_28 ?_
  refine a_aloadn C dX2_cheapestPassage_29 rfl ?_
  refine a_getI C (kz := 2) fl_X2_18 rfl rfl rfl dX2_cheapestPassage_30 ?_
  refine a_aloadn C dX2_cheapestPassage_33 rfl ?_
  refine a_getR C 10 fl_X2_31 rfl rfl dX2_cheapestPassage_34 ?_
  refine a_iloadn C dX2_cheapestPassage_37 rfl ?_
  obtain ⟨hg, hf⟩ := hf
  refine a_iald C (n := 16) rfl hg dX2_cheapestPassage_38 ?_
  refine a_iloadn C dX2_cheapestPassage_39 rfl ?_
  refine a_isub C dX2_cheapestPassage_40 ?_
  refine a_imul C dX2_cheapestPassage_41 ?_
  refine a_iadd C dX2_cheapestPassage_42 ?_
  refine a_istore C dX2_cheapestPassage_43 (by decide) (lv2 := [some (.inr 8), some (.inl x1), some (.inl x2), some (.inl r1), some (.inl (wrap ((wrap ((M1 8 3) * (wrap ((M1 10 x1) - r1)))) + (wrap ((M1 8 2) * (wrap ((M1 10 x2) - r1))))))), none, none, none, none]) rfl ?_
  refine a_iconst C dX2_cheapestPassage_45 (inr_b rfl) ?_
  refine a_istore C dX2_cheapestPassage_46 (by decide) (lv2 := [some (.inr 8), some (.inl x1), some (.inl x2), some (.inl r1), some (.inl (wrap ((wrap ((M1 8 3) * (wrap ((M1 10 x1) - r1)))) + (wrap ((M1 8 2) * (wrap ((M1 10 x2) - r1))))))), some (.inl 0), none, none, none]) rfl ?_
  refine a_iconst C dX2_cheapestPassage_48 (inr_b rfl) ?_
  refine a_istore C dX2_cheapestPassage_49 (by decide) (lv2 := [some (.inr 8), some (.inl x1), some (.inl x2), some (.inl r1), some (.inl (wrap ((wrap ((M1 8 3) * (wrap ((M1 10 x1) - r1)))) + (wrap ((M1 8 2) * (wrap ((M1 10 x2) - r1))))))), some (.inl 0), some (.inl 0), none, none]) rfl ?_
  obtain ⟨n7, hf⟩ := hf
  exact sMa_cheapestPassage_51 C X  n7 _ _ _ _ _ _ _ hf
set_option maxRecDepth 20000 in
set_option maxHeartbeats 4000000 in
theorem cMath_floorMod (x0 x1 : Int) : Snd shX yJ9_floorMod_7cf53 cJ9_floorMod_7cf53 3 (some .int) 0 0 [.inl x0, .inl x1] (fMath_floorMod x0 x1) := by
  refine Snd.of RJ9 (by decide +kernel) rfl (Nat.le_of_ble_eq_true rfl) ?_
  intro E M R hf C X
  show AW shX 3 E 0 [some (.inl x0), some (.inl x1), none] [] M
  refine a_iloadn C dJ9_floorMod_7cf53_0 rfl ?_
  refine a_iloadn C dJ9_floorMod_7cf53_1 rfl ?_
  obtain ⟨hg, hf⟩ := hf
  refine a_irem C dJ9_floorMod_7cf53_2 hg ?_
  refine a_istoren C dJ9_floorMod_7cf53_3 (by decide) (lv2 := [some (.inl x0), some (.inl x1), some (.inl (b_irem x0 x1))]) rfl ?_
  refine a_iloadn C dJ9_floorMod_7cf53_4 rfl ?_
  refine a_iloadn C dJ9_floorMod_7cf53_5 rfl ?_
  refine a_ixor C dJ9_floorMod_7cf53_6 ?_
  obtain ⟨hfa, hfb⟩ := hf
  refine a_if_ge C 18 dJ9_floorMod_7cf53_7 rfl (fun hc => ?_) (fun hc => ?_)
  · have hf := hfa hc
    refine a_iloadn C dJ9_floorMod_7cf53_18 rfl ?_
    exact a_iret C X dJ9_floorMod_7cf53_19 hf
  · have hf := hfb hc
    refine a_iloadn C dJ9_floorMod_7cf53_10 rfl ?_
    obtain ⟨hfa, hfb⟩ := hf
    refine a_if_eq C 18 dJ9_floorMod_7cf53_11 rfl (fun hc => ?_) (fun hc => ?_)
    · have hf := hfa hc
      refine a_iloadn C dJ9_floorMod_7cf53_18 rfl ?_
      exact a_iret C X dJ9_floorMod_7cf53_19 hf
    · have hf := hfb hc
      refine a_iloadn C dJ9_floorMod_7cf53_14 rfl ?_
      refine a_iloadn C dJ9_floorMod_7cf53_15 rfl ?_
      refine a_iadd C dJ9_floorMod_7cf53_16 ?_
      exact a_iret C X dJ9_floorMod_7cf53_17 hf
set_option maxRecDepth 20000 in
set_option maxHeartbeats 4000000 in
theorem sMa_holds_31 {E : EE} {R : Int → Mem → Prop} (C : Cx shX 2 cX2_holds RX2 0 0 E) (X : Rx shX (some .boolean) R E) (M : Mem) (hf : fMa_holds_31  R M) : AW shX 2 E 31 [none, none] [] M := by
  refine a_iconst C dX2_holds_31 (inr_b rfl) ?_
  refine a_goto C 36 dX2_holds_32 rfl ?_
  exact a_bret C X (Or.inr rfl) dX2_holds_36 hf
set_option maxRecDepth 20000 in
set_option maxHeartbeats 4000000 in
theorem cMa_holds (x0 x1 : Int) : Snd shX yX2_holds cX2_holds 2 (some .boolean) 0 0 [.inl x0, .inl x1] (fMa_holds x0 x1) := by
  refine Snd.of RX2 (by decide +kernel) rfl (Nat.le_of_ble_eq_true rfl) ?_
  intro E M R hf C X
  show AW shX 2 E 0 [some (.inl x0), some (.inl x1)] [] M
  refine a_iloadn C dX2_holds_0 rfl ?_
  refine a_iconst C dX2_holds_1 (inr_b rfl) ?_
  refine a_iand C dX2_holds_2 ?_
  refine a_iloadn C dX2_holds_3 rfl ?_
  refine a_iconst C dX2_holds_4 (inr_b rfl) ?_
  refine a_iadd C dX2_holds_5 ?_
  obtain ⟨hfa, hfb⟩ := hf
  refine a_icmp_eq C 31 dX2_holds_6 rfl (fun hc => ?_) (fun hc => ?_)
  · have hf := hfa hc
    refine a_drop [false, false] (lv2 := [none, none]) rfl ?_
    exact sMa_holds_31 C X   _ hf
  · have hf := hfb hc
    refine a_iloadn C dX2_holds_9 rfl ?_
    refine a_iconst C dX2_holds_10 (inr_b rfl) ?_
    refine a_ishr C dX2_holds_11 ?_
    refine a_iconst C dX2_holds_12 (inr_b rfl) ?_
    refine a_iand C dX2_holds_13 ?_
    refine a_iloadn C dX2_holds_14 rfl ?_
    refine a_iconst C dX2_holds_15 (inr_b rfl) ?_
    refine a_iadd C dX2_holds_16 ?_
    obtain ⟨hfa, hfb⟩ := hf
    refine a_icmp_eq C 31 dX2_holds_17 rfl (fun hc => ?_) (fun hc => ?_)
    · have hf := hfa hc
      refine a_drop [false, false] (lv2 := [none, none]) rfl ?_
      exact sMa_holds_31 C X   _ hf
    · have hf := hfb hc
      refine a_iloadn C dX2_holds_20 rfl ?_
      refine a_iconst C dX2_holds_21 (inr_b rfl) ?_
      refine a_ishr C dX2_holds_22 ?_
      refine a_iconst C dX2_holds_23 (inr_b rfl) ?_
      refine a_iand C dX2_holds_24 ?_
      refine a_iloadn C dX2_holds_25 rfl ?_
      refine a_iconst C dX2_holds_26 (inr_b rfl) ?_
      refine a_iadd C dX2_holds_27 ?_
      obtain ⟨hfa, hfb⟩ := hf
      refine a_icmp_ne C 35 dX2_holds_28 rfl (fun hc => ?_) (fun hc => ?_)
      · have hf := hfa hc
        refine a_iconst C dX2_holds_35 (inr_b rfl) ?_
        exact a_bret C X (Or.inl rfl) dX2_holds_36 hf
      · have hf := hfb hc
        refine a_drop [false, false] (lv2 := [none, none]) rfl ?_
        exact sMa_holds_31 C X   _ hf
set_option maxRecDepth 20000 in
set_option maxHeartbeats 4000000 in
theorem cMa_push (x0 x1 : Int) : Snd shX yX2_push cX2_push 2 (some .int) 0 0 [.inl x0, .inl x1] (fMa_push x0 x1) := by
  refine Snd.of RX2 (by decide +kernel) rfl (Nat.le_of_ble_eq_true rfl) ?_
  intro E M R hf C X
  show AW shX 2 E 0 [some (.inl x0), some (.inl x1)] [] M
  refine a_iloadn C dX2_push_0 rfl ?_
  refine a_iconst C dX2_push_1 (inr_b rfl) ?_
  refine a_ishl C dX2_push_2 ?_
  refine a_iloadn C dX2_push_3 rfl ?_
  refine a_iconst C dX2_push_4 (inr_b rfl) ?_
  refine a_iadd C dX2_push_5 ?_
  refine a_ior C dX2_push_6 ?_
  exact a_iret C X dX2_push_7 hf
set_option maxRecDepth 20000 in
set_option maxHeartbeats 4000000 in
theorem cMath_floorDiv (x0 x1 : Int) : Snd shX yJ9_floorDiv_7cf53 cJ9_floorDiv_7cf53 3 (some .int) 0 0 [.inl x0, .inl x1] (fMath_floorDiv x0 x1) := by
  refine Snd.of RJ9 (by decide +kernel) rfl (Nat.le_of_ble_eq_true rfl) ?_
  intro E M R hf C X
  show AW shX 3 E 0 [some (.inl x0), some (.inl x1), none] [] M
  refine a_iloadn C dJ9_floorDiv_7cf53_0 rfl ?_
  refine a_iloadn C dJ9_floorDiv_7cf53_1 rfl ?_
  obtain ⟨hg, hf⟩ := hf
  refine a_idiv C dJ9_floorDiv_7cf53_2 hg ?_
  refine a_istoren C dJ9_floorDiv_7cf53_3 (by decide) (lv2 := [some (.inl x0), some (.inl x1), some (.inl (b_idiv x0 x1))]) rfl ?_
  refine a_iloadn C dJ9_floorDiv_7cf53_4 rfl ?_
  refine a_iloadn C dJ9_floorDiv_7cf53_5 rfl ?_
  refine a_ixor C dJ9_floorDiv_7cf53_6 ?_
  obtain ⟨hfa, hfb⟩ := hf
  refine a_if_ge C 21 dJ9_floorDiv_7cf53_7 rfl (fun hc => ?_) (fun hc => ?_)
  · have hf := hfa hc
    refine a_iloadn C dJ9_floorDiv_7cf53_21 rfl ?_
    exact a_iret C X dJ9_floorDiv_7cf53_22 hf
  · have hf := hfb hc
    refine a_iloadn C dJ9_floorDiv_7cf53_10 rfl ?_
    refine a_iloadn C dJ9_floorDiv_7cf53_11 rfl ?_
    refine a_imul C dJ9_floorDiv_7cf53_12 ?_
    refine a_iloadn C dJ9_floorDiv_7cf53_13 rfl ?_
    obtain ⟨hfa, hfb⟩ := hf
    refine a_icmp_eq C 21 dJ9_floorDiv_7cf53_14 rfl (fun hc => ?_) (fun hc => ?_)
    · have hf := hfa hc
      refine a_iloadn C dJ9_floorDiv_7cf53_21 rfl ?_
      exact a_iret C X dJ9_floorDiv_7cf53_22 hf
    · have hf := hfb hc
      refine a_iloadn C dJ9_floorDiv_7cf53_17 rfl ?_
      refine a_iconst C dJ9_floorDiv_7cf53_18 (inr_b rfl) ?_
      refine a_isub C dJ9_floorDiv_7cf53_19 ?_
      exact a_iret C X dJ9_floorDiv_7cf53_20 hf
