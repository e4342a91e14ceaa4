set_option maxRecDepth 20000 in
set_option maxHeartbeats 4000000 in
theorem cMd_weightOf (x0 : Int) : Snd shM yX8_weightOf cX8_weightOf 1 (some .int) 0 0 [.inl x0] (fMd_weightOf x0) := by
  refine Snd.of RX8 (by decide +kernel) rfl (Nat.le_of_ble_eq_true rfl) ?_
  intro E M R hf C X
  show AW shM 1 E 0 [some (.inl x0)] [] M
  refine a_iloadn C dX8_weightOf_0 rfl ?_
  refine a_sipush C dX8_weightOf_1 sp_998 ?_
  obtain ⟨hfa, hfb⟩ := hf
  refine a_icmp_le C 13 dX8_weightOf_4 rfl (fun hc => ?_) (fun hc => ?_)
  · have hf := hfa hc
    refine a_iloadn C dX8_weightOf_13 rfl ?_
    refine a_iconst C dX8_weightOf_14 (inr_b rfl) ?_
    refine a_iadd C dX8_weightOf_15 ?_
    exact a_iret C X dX8_weightOf_16 hf
  · have hf := hfb hc
    refine a_sipush C dX8_weightOf_7 sp_999 ?_
    refine a_goto C 16 dX8_weightOf_10 rfl ?_
    exact a_iret C X dX8_weightOf_16 hf
set_option maxRecDepth 20000 in
set_option maxHeartbeats 4000000 in
theorem sMd_profile_66 {E : EE} {R : Int → Mem → Prop} (C : Cx shM 3 cX8_profile RX8 2 41 E) (X : Rx shM (some .int) R E) : ∀ (n : Nat) (x1 : Int) (x2 : Int) (M : Mem), fMd_profile_66  R n x1 x2 M → AW shM 3 E 66 [some (.inr 0), some (.inl x1), some (.inl x2)] [] M := by
  intro n
  induction n with
  | zero => intro x1 x2 M hf; exact hf.elim
  | succ n hk66 =>
    intro x1 x2 M hf
    refine a_iloadn C dX8_profile_66 rfl ?_
    refine a_aloadn C dX8_profile_67 rfl ?_
    refine a_getI C (kz := 3) fl_X8_172 rfl rfl rfl dX8_profile_68 ?_
    obtain ⟨hfa, hfb⟩ := hf
    refine a_icmp_ge C 97 dX8_profile_71 rfl (fun hc => ?_) (fun hc => ?_)
    · have hf := hfa hc
      refine a_iloadn C dX8_profile_97 rfl ?_
      exact a_iret C X dX8_profile_98 hf
    · have hf := hfb hc
      refine a_aloadn C dX8_profile_74 rfl ?_
      refine a_getR C 1 fl_X8_7 rfl rfl dX8_profile_75 ?_
      refine a_iconst C dX8_profile_78 (inr_b rfl) ?_
      refine a_iloadn C dX8_profile_79 rfl ?_
      refine a_iadd C dX8_profile_80 ?_
      refine a_aloadn C dX8_profile_81 rfl ?_
      refine a_getR C 30 fl_X8_101 rfl rfl dX8_profile_82 ?_
      refine a_iloadn C dX8_profile_85 rfl ?_
      obtain ⟨hg, hf⟩ := hf
      refine a_iald C (n := 24) rfl hg dX8_profile_86 ?_
      refine a_callS C [.inl (M 30 x2)] [.inl (wrap (4 + x2)), .inr 1] dX8_profile_87 (cMd_weightOf _) ms_X8_weightOf ln_X8_197 ⟨rfl, rfl, Nat.le_of_ble_eq_true rfl, Nat.le_of_ble_eq_true rfl, Nat.le_of_ble_eq_true rfl⟩ hf (fun r2 M2 hf => ?_)
      obtain ⟨hg, hf⟩ := hf
      refine a_iast C (n := 28) rfl hg dX8_profile_90 ?_
      refine a_iinc C dX8_profile_91 rfl (by decide) (lv2 := [some (.inr 0), some (.inl x1), some (.inl (wrap (x2 + 1)))]) rfl ?_
      refine a_goto C 66 dX8_profile_94 rfl ?_
      exact hk66 _ _ _ hf
set_option maxRecDepth 20000 in
set_option maxHeartbeats 4000000 in
theorem sMd_profile_45 {E : EE} {R : Int → Mem → Prop} (C : Cx shM 3 cX8_profile RX8 2 41 E) (X : Rx shM (some .int) R E) {k4 : Int → Int → Mem → Prop} (hk4 : ∀ (x1 : Int) (x2 : Int) (M : Mem), k4 x1 x2 M → AW shM 3 E 4 [some (.inr 0), some (.inl x1), some (.inl x2)] [] M) (x2 : Int) (t0 : Int) (t1 : Int) (M : Mem) (hf : fMd_profile_45 k4 R x2 t0 t1 M) : AW shM 3 E 45 [some (.inr 0), none, some (.inl x2)] [.inl t0, .inl t1] M := by
  refine a_iadd C dX8_profile_45 ?_
  refine a_istoren C dX8_profile_46 (by decide) (lv2 := [some (.inr 0), some (.inl (wrap (t1 + t0))), some (.inl x2)]) rfl ?_
  refine a_iinc C dX8_profile_47 rfl (by decide) (lv2 := [some (.inr 0), some (.inl (wrap (t1 + t0))), some (.inl (wrap (x2 + 1)))]) rfl ?_
  refine a_goto C 4 dX8_profile_50 rfl ?_
  exact hk4 _ _ _ hf
set_option maxRecDepth 20000 in
set_option maxHeartbeats 4000000 in
theorem sMd_profile_44 {E : EE} {R : Int → Mem → Prop} (C : Cx shM 3 cX8_profile RX8 2 41 E) (X : Rx shM (some .int) R E) {k4 : Int → Int → Mem → Prop} (hk4 : ∀ (x1 : Int) (x2 : Int) (M : Mem), k4 x1 x2 M → AW shM 3 E 4 [some (.inr 0), some (.inl x1), some (.inl x2)] [] M) (x2 : Int) (t0 : Int) (M : Mem) (hf : fMd_profile_44 k4 R x2 t0 M) : AW shM 3 E 44 [some (.inr 0), none, some (.inl x2)] [.inl t0] M := by
  refine a_iconst C dX8_profile_44 (inr_b rfl) ?_
  exact sMd_profile_45 C X hk4 _ _ _ _ hf
set_option maxRecDepth 20000 in
set_option maxHeartbeats 4000000 in
theorem sMd_profile_4 {E : EE} {R : Int → Mem → Prop} (C : Cx shM 3 cX8_profile RX8 2 41 E) (X : Rx shM (some .int) R E) : ∀ (n : Nat) (x1 : Int) (x2 : Int) (M : Mem), fMd_profile_4  R n x1 x2 M → AW shM 3 E 4 [some (.inr 0), some (.inl x1), some (.inl x2)] [] M := by
  intro n
  induction n with
  | zero => intro x1 x2 M hf; exact hf.elim
  | succ n hk4 =>
    intro x1 x2 M hf
    refine a_iloadn C dX8_profile_4 rfl ?_
    refine a_aloadn C dX8_profile_5 rfl ?_
    refine a_getI C (kz := 3) fl_X8_172 rfl rfl rfl dX8_profile_6 ?_
    obtain ⟨hfa, hfb⟩ := hf
    refine a_icmp_ge C 53 dX8_profile_9 rfl (fun hc => ?_) (fun hc => ?_)
    · have hf := hfa hc
      refine a_iloadn C dX8_profile_53 rfl ?_
      obtain ⟨hfa, hfb⟩ := hf
      refine a_if_ne C 60 dX8_profile_54 rfl (fun hc => ?_) (fun hc => ?_)
      · have hf := hfa hc
        refine a_aloadn C dX8_profile_60 rfl ?_
        refine a_callV C [] [] dX8_profile_61 (cMd_notes) mv_X8_notes ln_X8_194 rfl rfl ⟨rfl, rfl, Nat.le_of_ble_eq_true rfl, Nat.le_of_ble_eq_true rfl, Nat.le_of_ble_eq_true rfl⟩ hf (fun r1 M1 hf => ?_)
        refine a_iconst C dX8_profile_64 (inr_b rfl) ?_
        refine a_istoren C dX8_profile_65 (by decide) (lv2 := [some (.inr 0), some (.inl x1), some (.inl 0)]) rfl ?_
        obtain ⟨n3, hf⟩ := hf
        exact sMd_profile_66 C X  n3 _ _ _ hf
      · have hf := hfb hc
        refine a_bipush C dX8_profile_57 bp_m2 ?_
        exact a_iret C X dX8_profile_59 hf
    · have hf := hfb hc
      refine a_iloadn C dX8_profile_12 rfl ?_
      refine a_aloadn C dX8_profile_13 rfl ?_
      refine a_getI C (kz := 43) fl_X8_178 rfl rfl rfl dX8_profile_14 ?_
      obtain ⟨hfa, hfb⟩ := hf
      refine a_if_eq C 44 dX8_profile_17 rfl (fun hc => ?_) (fun hc => ?_)
      · have hf := hfa hc
        refine a_drop [true, false, true] (lv2 := [some (.inr 0), none, some (.inl x2)]) rfl ?_
        exact sMd_profile_44 C X hk4 _ _ _ hf
      · have hf := hfb hc
        refine a_aloadn C dX8_profile_20 rfl ?_
        refine a_getR C 30 fl_X8_101 rfl rfl dX8_profile_21 ?_
        refine a_iloadn C dX8_profile_24 rfl ?_
        obtain ⟨hg, hf⟩ := hf
        refine a_iald C (n := 24) rfl hg dX8_profile_25 ?_
        refine a_callS C [.inl (M 30 x2)] [.inl x1] dX8_profile_26 (cMd_weightOf _) ms_X8_weightOf ln_X8_197 ⟨rfl, rfl, Nat.le_of_ble_eq_true rfl, Nat.le_of_ble_eq_true rfl, Nat.le_of_ble_eq_true rfl⟩ hf (fun r4 M4 hf => ?_)
        refine a_aloadn C dX8_profile_29 rfl ?_
        refine a_getR C 1 fl_X8_7 rfl rfl dX8_profile_30 ?_
        refine a_iconst C dX8_profile_33 (inr_b rfl) ?_
        refine a_iloadn C dX8_profile_34 rfl ?_
        refine a_iadd C dX8_profile_35 ?_
        obtain ⟨hg, hf⟩ := hf
        refine a_iald C (n := 28) rfl hg dX8_profile_36 ?_
        obtain ⟨hfa, hfb⟩ := hf
        refine a_icmp_eq C 44 dX8_profile_37 rfl (fun hc => ?_) (fun hc => ?_)
        · have hf := hfa hc
          refine a_drop [true, false, true] (lv2 := [some (.inr 0), none, some (.inl x2)]) rfl ?_
          exact sMd_profile_44 C X hk4 _ _ _ hf
        · have hf := hfb hc
          refine a_iconst C dX8_profile_40 (inr_b rfl) ?_
          refine a_goto C 45 dX8_profile_41 rfl ?_
          refine a_drop [true, false, true] (lv2 := [some (.inr 0), none, some (.inl x2)]) rfl ?_
          exact sMd_profile_45 C X hk4 _ _ _ _ hf
set_option maxRecDepth 20000 in
set_option maxHeartbeats 4000000 in
theorem cMd_profile : Snd shM yX8_profile cX8_profile 3 (some .int) 2 41 [.inr 0] fMd_profile := by
  refine Snd.of RX8 (by decide +kernel) rfl (Nat.le_of_ble_eq_true rfl) ?_
  intro E M R hf C X
  show AW shM 3 E 0 [some (.inr 0), none, none] [] M
  refine a_iconst C dX8_profile_0 (inr_b rfl) ?_
  refine a_istoren C dX8_profile_1 (by decide) (lv2 := [some (.inr 0), some (.inl 0), none]) rfl ?_
  refine a_iconst C dX8_profile_2 (inr_b rfl) ?_
  refine a_istoren C dX8_profile_3 (by decide) (lv2 := [some (.inr 0), some (.inl 0), some (.inl 0)]) rfl ?_
  obtain ⟨n5, hf⟩ := hf
  exact sMd_profile_4 C X  n5 _ _ _ hf
set_option maxRecDepth 20000 in
set_option maxHeartbeats 4000000 in
theorem sMd_undo_22 {E : EE} {R : Int → Mem → Prop} (C : Cx shM 2 cX8_undo RX8 1 20 E) (X : Rx shM (some .int) R E) : ∀ (n : Nat) (x1 : Int) (M : Mem), fMd_undo_22  R n x1 M → AW shM 2 E 22 [some (.inr 0), some (.inl x1)] [] M := by
  intro n
  induction n with
  | zero => intro x1 M hf; exact hf.elim
  | succ n hk22 =>
    intro x1 M hf
    refine a_iloadn C dX8_undo_22 rfl ?_
    refine a_bipush C dX8_undo_23 bp_28 ?_
    obtain ⟨hfa, hfb⟩ := hf
    refine a_icmp_ge C 54 dX8_undo_25 rfl (fun hc => ?_) (fun hc => ?_)
    · have hf := hfa hc
      refine a_aloadn C dX8_undo_54 rfl ?_
      refine a_callV C [] [] dX8_undo_55 (cMd_forgets) mv_X8_forgets ln_X8_188 rfl rfl ⟨rfl, rfl, Nat.le_of_ble_eq_true rfl, Nat.le_of_ble_eq_true rfl, Nat.le_of_ble_eq_true rfl⟩ hf (fun r1 M1 hf => ?_)
      refine a_aloadn C dX8_undo_58 rfl ?_
      refine a_getI C (kz := 2) fl_X8_175 rfl rfl rfl dX8_undo_59 ?_
      exact a_iret C X dX8_undo_62 hf
    · have hf := hfb hc
      refine a_aloadn C dX8_undo_28 rfl ?_
      refine a_getR C 1 fl_X8_7 rfl rfl dX8_undo_29 ?_
      refine a_iloadn C dX8_undo_32 rfl ?_
      refine a_aloadn C dX8_undo_33 rfl ?_
      refine a_getR C 2 fl_X8_13 rfl rfl dX8_undo_34 ?_
      refine a_bipush C dX8_undo_37 bp_28 ?_
      refine a_aloadn C dX8_undo_39 rfl ?_
      refine a_getI C (kz := 2) fl_X8_175 rfl rfl rfl dX8_undo_40 ?_
      refine a_imul C dX8_undo_43 ?_
      refine a_iloadn C dX8_undo_44 rfl ?_
      refine a_iadd C dX8_undo_45 ?_
      obtain ⟨hg, hf⟩ := hf
      refine a_iald C (n := 168) rfl hg dX8_undo_46 ?_
      obtain ⟨hg, hf⟩ := hf
      refine a_iast C (n := 28) rfl hg dX8_undo_47 ?_
      refine a_iinc C dX8_undo_48 rfl (by decide) (lv2 := [some (.inr 0), some (.inl (wrap (x1 + 1)))]) rfl ?_
      refine a_goto C 22 dX8_undo_51 rfl ?_
      exact hk22 _ _ hf
set_option maxRecDepth 20000 in
set_option maxHeartbeats 4000000 in
theorem cMd_undo : Snd shM yX8_undo cX8_undo 2 (some .int) 1 20 [.inr 0] fMd_undo := by
  refine Snd.of RX8 (by decide +kernel) rfl (Nat.le_of_ble_eq_true rfl) ?_
  intro E M R hf C X
  show AW shM 2 E 0 [some (.inr 0), none] [] M
  refine a_aloadn C dX8_undo_0 rfl ?_
  refine a_getI C (kz := 2) fl_X8_175 rfl rfl rfl dX8_undo_1 ?_
  obtain ⟨hfa, hfb⟩ := hf
  refine a_if_ne C 10 dX8_undo_4 rfl (fun hc => ?_) (fun hc => ?_)
  · have hf := hfa hc
    refine a_aloadn C dX8_undo_10 rfl ?_
    refine a_dup C dX8_undo_11 ?_
    refine a_getI C (kz := 2) fl_X8_175 rfl rfl rfl dX8_undo_12 ?_
    refine a_iconst C dX8_undo_15 (inr_b rfl) ?_
    refine a_isub C dX8_undo_16 ?_
    refine a_putI C (kz := 2) fp_X8_175 rfl rfl rfl dX8_undo_17 ?_
    refine a_iconst C dX8_undo_20 (inr_b rfl) ?_
    refine a_istoren C dX8_undo_21 (by decide) (lv2 := [some (.inr 0), some (.inl 0)]) rfl ?_
    obtain ⟨n2, hf⟩ := hf
    exact sMd_undo_22 C X  n2 _ _ hf
  · have hf := hfb hc
    refine a_bipush C dX8_undo_7 bp_m2 ?_
    exact a_iret C X dX8_undo_9 hf
set_option maxRecDepth 20000 in
set_option maxHeartbeats 4000000 in
theorem cMd_adds (x1 x2 x3 x4 : Int) : Snd shM yX8_adds cX8_adds 5 none 0 0 [.inr 0, .inl x1, .inl x2, .inl x3, .inl x4] (fMd_adds x1 x2 x3 x4) := by
  refine Snd.of RX8 (by decide +kernel) rfl (Nat.le_of_ble_eq_true rfl) ?_
  intro E M R hf C X
  show AW shM 5 E 0 [some (.inr 0), some (.inl x1), some (.inl x2), some (.inl x3), some (.inl x4)] [] M
  refine a_aloadn C dX8_adds_0 rfl ?_
  refine a_getR C 15 fl_X8_52 rfl rfl dX8_adds_1 ?_
  refine a_aloadn C dX8_adds_4 rfl ?_
  refine a_getI C (kz := 20) fl_X8_200 rfl rfl rfl dX8_adds_5 ?_
  refine a_iloadn C dX8_adds_8 rfl ?_
  obtain ⟨hg, hf⟩ := hf
  refine a_iast C (n := 16) rfl hg dX8_adds_9 ?_
  refine a_aloadn C dX8_adds_10 rfl ?_
  refine a_getR C 16 fl_X8_55 rfl rfl dX8_adds_11 ?_
  refine a_iconst C dX8_adds_14 (inr_b rfl) ?_
  refine a_aloadn C dX8_adds_15 rfl ?_
  refine a_getI C (kz := 20) fl_X8_200 rfl rfl rfl dX8_adds_16 ?_
  refine a_imul C dX8_adds_19 ?_
  refine a_iloadn C dX8_adds_20 rfl ?_
  obtain ⟨hg, hf⟩ := hf
  refine a_iast C (n := 48) rfl hg dX8_adds_21 ?_
  refine a_aloadn C dX8_adds_22 rfl ?_
  refine a_getR C 16 fl_X8_55 rfl rfl dX8_adds_23 ?_
  refine a_iconst C dX8_adds_26 (inr_b rfl) ?_
  refine a_aloadn C dX8_adds_27 rfl ?_
  refine a_getI C (kz := 20) fl_X8_200 rfl rfl rfl dX8_adds_28 ?_
  refine a_imul C dX8_adds_31 ?_
  refine a_iconst C dX8_adds_32 (inr_b rfl) ?_
  refine a_iadd C dX8_adds_33 ?_
  refine a_iloadn C dX8_adds_34 rfl ?_
  obtain ⟨hg, hf⟩ := hf
  refine a_iast C (n := 48) rfl hg dX8_adds_35 ?_
  refine a_aloadn C dX8_adds_36 rfl ?_
  refine a_getR C 16 fl_X8_55 rfl rfl dX8_adds_37 ?_
  refine a_iconst C dX8_adds_40 (inr_b rfl) ?_
  refine a_aloadn C dX8_adds_41 rfl ?_
  refine a_getI C (kz := 20) fl_X8_200 rfl rfl rfl dX8_adds_42 ?_
  refine a_imul C dX8_adds_45 ?_
  refine a_iconst C dX8_adds_46 (inr_b rfl) ?_
  refine a_iadd C dX8_adds_47 ?_
  refine a_iload C dX8_adds_48 rfl ?_
  obtain ⟨hg, hf⟩ := hf
  refine a_iast C (n := 48) rfl hg dX8_adds_50 ?_
  refine a_aloadn C dX8_adds_51 rfl ?_
  refine a_dup C dX8_adds_52 ?_
  refine a_getI C (kz := 20) fl_X8_200 rfl rfl rfl dX8_adds_53 ?_
  refine a_iconst C dX8_adds_56 (inr_b rfl) ?_
  refine a_iadd C dX8_adds_57 ?_
  refine a_putI C (kz := 20) fp_X8_200 rfl rfl rfl dX8_adds_58 ?_
  exact a_vret C X dX8_adds_61 hf
set_option maxRecDepth 20000 in
set_option maxHeartbeats 4000000 in
theorem sMd_laysStates_135 {E : EE} {R : Int → Mem → Prop} (C : Cx shM 5 cX8_laysStates RX8 1 24 E) (X : Rx shM none R E) {k103 : Int → Int → Int → Int → Mem → Prop} (hk103 : ∀ (x1 : Int) (x2 : Int) (x3 : Int) (x4 : Int) (M : Mem), k103 x1 x2 x3 x4 M → AW shM 5 E 103 [some (.inr 0), some (.inl x1), some (.inl x2), some (.inl x3), some (.inl x4)] [] M) (x1 : Int) (x2 : Int) (x3 : Int) (x4 : Int) (M : Mem) (hf : fMd_laysStates_135 k103 R x1 x2 x3 x4 M) : AW shM 5 E 135 [some (.inr 0), some (.inl x1), some (.inl x2), some (.inl x3), some (.inl x4)] [] M := by
  refine a_iinc C dX8_laysStates_135 rfl (by decide) (lv2 := [some (.inr 0), some (.inl x1), some (.inl x2), some (.inl x3), some (.inl (wrap (x4 + 1)))]) rfl ?_
  refine a_goto C 103 dX8_laysStates_138 rfl ?_
  exact hk103 _ _ _ _ _ hf
set_option maxRecDepth 20000 in
set_option maxHeartbeats 4000000 in
theorem sMd_laysStates_103 {E : EE} {R : Int → Mem → Prop} (C : Cx shM 5 cX8_laysStates RX8 1 24 E) (X : Rx shM none R E) {k95 : Int → Int → Int → Mem → Prop} (hk95 : ∀ (x1 : Int) (x2 : Int) (x3 : Int) (M : Mem), k95 x1 x2 x3 M → AW shM 5 E 95 [some (.inr 0), some (.inl x1), some (.inl x2), some (.inl x3), none] [] M) : ∀ (n : Nat) (x1 : Int) (x2 : Int) (x3 : Int) (x4 : Int) (M : Mem), fMd_laysStates_103 k95 R n x1 x2 x3 x4 M → AW shM 5 E 103 [some (.inr 0), some (.inl x1), some (.inl x2), some (.inl x3), some (.inl x4)] [] M := by
  intro n
  induction n with
  | zero => intro x1 x2 x3 x4 M hf; exact hf.elim
  | succ n hk103 =>
    intro x1 x2 x3 x4 M hf
    refine a_iload C dX8_laysStates_103 rfl ?_
    refine a_iloadn C dX8_laysStates_105 rfl ?_
    obtain ⟨hfa, hfb⟩ := hf
    refine a_icmp_ge C 141 dX8_laysStates_106 rfl (fun hc => ?_) (fun hc => ?_)
    · have hf := hfa hc
      refine a_iinc C dX8_laysStates_141 rfl (by decide) (lv2 := [some (.inr 0), some (.inl x1), some (.inl x2), some (.inl (wrap (x3 + 1))), some (.inl x4)]) rfl ?_
      refine a_goto C 95 dX8_laysStates_144 rfl ?_
      refine a_drop [true, true, true, true, false] (lv2 := [some (.inr 0), some (.inl x1), some (.inl x2), some (.inl (wrap (x3 + 1))), none]) rfl ?_
      exact hk95 _ _ _ _ hf
    · have hf := hfb hc
      refine a_iloadn C dX8_laysStates_109 rfl ?_
      refine a_iloadn C dX8_laysStates_110 rfl ?_
      obtain ⟨hfa, hfb⟩ := hf
      refine a_icmp_eq C 135 dX8_laysStates_111 rfl (fun hc => ?_) (fun hc => ?_)
      · have hf := hfa hc
        exact sMd_laysStates_135 C X hk103 _ _ _ _ _ hf
      · have hf := hfb hc
        refine a_iloadn C dX8_laysStates_114 rfl ?_
        refine a_iload C dX8_laysStates_115 rfl ?_
        obtain ⟨hfa, hfb⟩ := hf
        refine a_icmp_eq C 135 dX8_laysStates_117 rfl (fun hc => ?_) (fun hc => ?_)
        · have hf := hfa hc
          exact sMd_laysStates_135 C X hk103 _ _ _ _ _ hf
        · have hf := hfb hc
          refine a_iloadn C dX8_laysStates_120 rfl ?_
          refine a_iload C dX8_laysStates_121 rfl ?_
          obtain ⟨hfa, hfb⟩ := hf
          refine a_icmp_eq C 135 dX8_laysStates_123 rfl (fun hc => ?_) (fun hc => ?_)
          · have hf := hfa hc
            exact sMd_laysStates_135 C X hk103 _ _ _ _ _ hf
          · have hf := hfb hc
            refine a_aloadn C dX8_laysStates_126 rfl ?_
            refine a_iconst C dX8_laysStates_127 (inr_b rfl) ?_
            refine a_iloadn C dX8_laysStates_128 rfl ?_
            refine a_iloadn C dX8_laysStates_129 rfl ?_
            refine a_iload C dX8_laysStates_130 rfl ?_
            refine a_callV C [.inl 3, .inl x2, .inl x3, .inl x4] [] dX8_laysStates_132 (cMd_adds _ _ _ _) mv_X8_adds ln_X8_203 rfl rfl ⟨rfl, rfl, Nat.le_of_ble_eq_true rfl, Nat.le_of_ble_eq_true rfl, Nat.le_of_ble_eq_true rfl⟩ hf (fun r2 M2 hf => ?_)
            exact sMd_laysStates_135 C X hk103 _ _ _ _ _ hf
set_option maxRecDepth 20000 in
set_option maxHeartbeats 4000000 in
theorem sMd_laysStates_95 {E : EE} {R : Int → Mem → Prop} (C : Cx shM 5 cX8_laysStates RX8 1 24 E) (X : Rx shM none R E) {k88 : Int → Int → Mem → Prop} (hk88 : ∀ (x1 : Int) (x2 : Int) (M : Mem), k88 x1 x2 M → AW shM 5 E 88 [some (.inr 0), some (.inl x1), some (.inl x2), none, none] [] M) : ∀ (n : Nat) (x1 : Int) (x2 : Int) (x3 : Int) (M : Mem), fMd_laysStates_95 k88 R n x1 x2 x3 M → AW shM 5 E 95 [some (.inr 0), some (.inl x1), some (.inl x2), some (.inl x3), none] [] M := by
  intro n
  induction n with
  | zero => intro x1 x2 x3 M hf; exact hf.elim
  | succ n hk95 =>
    intro x1 x2 x3 M hf
    refine a_iloadn C dX8_laysStates_95 rfl ?_
    refine a_iloadn C dX8_laysStates_96 rfl ?_
    obtain ⟨hfa, hfb⟩ := hf
    refine a_icmp_ge C 147 dX8_laysStates_97 rfl (fun hc => ?_) (fun hc => ?_)
    · have hf := hfa hc
      refine a_iinc C dX8_laysStates_147 rfl (by decide) (lv2 := [some (.inr 0), some (.inl x1), some (.inl (wrap (x2 + 1))), some (.inl x3), none]) rfl ?_
      refine a_goto C 88 dX8_laysStates_150 rfl ?_
      refine a_drop [true, true, true, false, true] (lv2 := [some (.inr 0), some (.inl x1), some (.inl (wrap (x2 + 1))), none, none]) rfl ?_
      exact hk88 _ _ _ hf
    · have hf := hfb hc
      refine a_iconst C dX8_laysStates_100 (inr_b rfl) ?_
      refine a_istore C dX8_laysStates_101 (by decide) (lv2 := [some (.inr 0), some (.inl x1), some (.inl x2), some (.inl x3), some (.inl 0)]) rfl ?_
      obtain ⟨n3, hf⟩ := hf
      exact sMd_laysStates_103 C X hk95 n3 _ _ _ _ _ hf
set_option maxRecDepth 20000 in
set_option maxHeartbeats 4000000 in
theorem sMd_laysStates_88 {E : EE} {R : Int → Mem → Prop} (C : Cx shM 5 cX8_laysStates RX8 1 24 E) (X : Rx shM none R E) : ∀ (n : Nat) (x1 : Int) (x2 : Int) (M : Mem), fMd_laysStates_88  R n x1 x2 M → AW shM 5 E 88 [some (.inr 0), some (.inl x1), some (.inl x2), none, none] [] M := by
  intro n
  induction n with
  | zero => intro x1 x2 M hf; exact hf.elim
  | succ n hk88 =>
    intro x1 x2 M hf
    refine a_iloadn C dX8_laysStates_88 rfl ?_
    refine a_iloadn C dX8_laysStates_89 rfl ?_
    obtain ⟨hfa, hfb⟩ := hf
    refine a_icmp_ge C 153 dX8_laysStates_90 rfl (fun hc => ?_) (fun hc => ?_)
    · have hf := hfa hc
      exact a_vret C X dX8_laysStates_153 hf
    · have hf := hfb hc
      refine a_iconst C dX8_laysStates_93 (inr_b rfl) ?_
      refine a_istoren C dX8_laysStates_94 (by decide) (lv2 := [some (.inr 0), some (.inl x1), some (.inl x2), some (.inl 0), none]) rfl ?_
      obtain ⟨n4, hf⟩ := hf
      exact sMd_laysStates_95 C X hk88 n4 _ _ _ _ hf
set_option maxRecDepth 20000 in
set_option maxHeartbeats 4000000 in
theorem sMd_laysStates_74 {E : EE} {R : Int → Mem → Prop} (C : Cx shM 5 cX8_laysStates RX8 1 24 E) (X : Rx shM none R E) {k55 : Int → Int → Int → Mem → Prop} (hk55 : ∀ (x1 : Int) (x2 : Int) (x3 : Int) (M : Mem), k55 x1 x2 x3 M → AW shM 5 E 55 [some (.inr 0), some (.inl x1), some (.inl x2), some (.inl x3), none] [] M) (x1 : Int) (x2 : Int) (x3 : Int) (M : Mem) (hf : fMd_laysStates_74 k55 R x1 x2 x3 M) : AW shM 5 E 74 [some (.inr 0), some (.inl x1), some (.inl x2), some (.inl x3), none] [] M := by
  refine a_iinc C dX8_laysStates_74 rfl (by decide) (lv2 := [some (.inr 0), some (.inl x1), some (.inl x2), some (.inl (wrap (x3 + 1))), none]) rfl ?_
  refine a_goto C 55 dX8_laysStates_77 rfl ?_
  exact hk55 _ _ _ _ hf
set_option maxRecDepth 20000 in
set_option maxHeartbeats 4000000 in
theorem sMd_laysStates_55 {E : EE} {R : Int → Mem → Prop} (C : Cx shM 5 cX8_laysStates RX8 1 24 E) (X : Rx shM none R E) {k48 : Int → Int → Mem → Prop} (hk48 : ∀ (x1 : Int) (x2 : Int) (M : Mem), k48 x1 x2 M → AW shM 5 E 48 [some (.inr 0), some (.inl x1), some (.inl x2), none, none] [] M) : ∀ (n : Nat) (x1 : Int) (x2 : Int) (x3 : Int) (M : Mem), fMd_laysStates_55 k48 R n x1 x2 x3 M → AW shM 5 E 55 [some (.inr 0), some (.inl x1), some (.inl x2), some (.inl x3), none] [] M := by
  intro n
  induction n with
  | zero => intro x1 x2 x3 M hf; exact hf.elim
  | succ n hk55 =>
    intro x1 x2 x3 M hf
    refine a_iloadn C dX8_laysStates_55 rfl ?_
    refine a_iloadn C dX8_laysStates_56 rfl ?_
    obtain ⟨hfa, hfb⟩ := hf
    refine a_icmp_ge C 80 dX8_laysStates_57 rfl (fun hc => ?_) (fun hc => ?_)
    · have hf := hfa hc
      refine a_iinc C dX8_laysStates_80 rfl (by decide) (lv2 := [some (.inr 0), some (.inl x1), some (.inl (wrap (x2 + 1))), some (.inl x3), none]) rfl ?_
      refine a_goto C 48 dX8_laysStates_83 rfl ?_
      refine a_drop [true, true, true, false, true] (lv2 := [some (.inr 0), some (.inl x1), some (.inl (wrap (x2 + 1))), none, none]) rfl ?_
      exact hk48 _ _ _ hf
    · have hf := hfb hc
      refine a_iloadn C dX8_laysStates_60 rfl ?_
      refine a_iloadn C dX8_laysStates_61 rfl ?_
      obtain ⟨hfa, hfb⟩ := hf
      refine a_icmp_eq C 74 dX8_laysStates_62 rfl (fun hc => ?_) (fun hc => ?_)
      · have hf := hfa hc
        exact sMd_laysStates_74 C X hk55 _ _ _ _ hf
      · have hf := hfb hc
        refine a_aloadn C dX8_laysStates_65 rfl ?_
        refine a_iconst C dX8_laysStates_66 (inr_b rfl) ?_
        refine a_iloadn C dX8_laysStates_67 rfl ?_
        refine a_iloadn C dX8_laysStates_68 rfl ?_
        refine a_bipush C dX8_laysStates_69 bp_m4 ?_
        refine a_callV C [.inl 2, .inl x2, .inl x3, .inl (-4)] [] dX8_laysStates_71 (cMd_adds _ _ _ _) mv_X8_adds ln_X8_203 rfl rfl ⟨rfl, rfl, Nat.le_of_ble_eq_true rfl, Nat.le_of_ble_eq_true rfl, Nat.le_of_ble_eq_true rfl⟩ hf (fun r6 M6 hf => ?_)
        exact sMd_laysStates_74 C X hk55 _ _ _ _ hf
set_option maxRecDepth 20000 in
set_option maxHeartbeats 4000000 in
theorem sMd_laysStates_48 {E : EE} {R : Int → Mem → Prop} (C : Cx shM 5 cX8_laysStates RX8 1 24 E) (X : Rx shM none R E) : ∀ (n : Nat) (x1 : Int) (x2 : Int) (M : Mem), fMd_laysStates_48  R n x1 x2 M → AW shM 5 E 48 [some (.inr 0), some (.inl x1), some (.inl x2), none, none] [] M := by
  intro n
  induction n with
  | zero => intro x1 x2 M hf; exact hf.elim
  | succ n hk48 =>
    intro x1 x2 M hf
    refine a_iloadn C dX8_laysStates_48 rfl ?_
    refine a_iloadn C dX8_laysStates_49 rfl ?_
    obtain ⟨hfa, hfb⟩ := hf
    refine a_icmp_ge C 86 dX8_laysStates_50 rfl (fun hc => ?_) (fun hc => ?_)
    · have hf := hfa hc
      refine a_iconst C dX8_laysStates_86 (inr_b rfl) ?_
      refine a_istoren C dX8_laysStates_87 (by decide) (lv2 := [some (.inr 0), some (.inl x1), some (.inl 0), none, none]) rfl ?_
      obtain ⟨n5, hf⟩ := hf
      exact sMd_laysStates_88 C X  n5 _ _ _ hf
    · have hf := hfb hc
      refine a_iconst C dX8_laysStates_53 (inr_b rfl) ?_
      refine a_istoren C dX8_laysStates_54 (by decide) (lv2 := [some (.inr 0), some (.inl x1), some (.inl x2), some (.inl 0), none]) rfl ?_
      obtain ⟨n7, hf⟩ := hf
      exact sMd_laysStates_55 C X hk48 n7 _ _ _ _ hf
set_option maxRecDepth 20000 in
set_option maxHeartbeats 4000000 in
theorem sMd_laysStates_25 {E : EE} {R : Int → Mem → Prop} (C : Cx shM 5 cX8_laysStates RX8 1 24 E) (X : Rx shM none R E) : ∀ (n : Nat) (x1 : Int) (x2 : Int) (M : Mem), fMd_laysStates_25  R n x1 x2 M → AW shM 5 E 25 [some (.inr 0), some (.inl x1), some (.inl x2), none, none] [] M := by
  intro n
  induction n with
  | zero => intro x1 x2 M hf; exact hf.elim
  | succ n hk25 =>
    intro x1 x2 M hf
    refine a_iloadn C dX8_laysStates_25 rfl ?_
    refine a_iloadn C dX8_laysStates_26 rfl ?_
    obtain ⟨hfa, hfb⟩ := hf
    refine a_icmp_ge C 46 dX8_laysStates_27 rfl (fun hc => ?_) (fun hc => ?_)
    · have hf := hfa hc
      refine a_iconst C dX8_laysStates_46 (inr_b rfl) ?_
      refine a_istoren C dX8_laysStates_47 (by decide) (lv2 := [some (.inr 0), some (.inl x1), some (.inl 0), none, none]) rfl ?_
      obtain ⟨n8, hf⟩ := hf
      exact sMd_laysStates_48 C X  n8 _ _ _ hf
    · have hf := hfb hc
      refine a_aloadn C dX8_laysStates_30 rfl ?_
      refine a_iconst C dX8_laysStates_31 (inr_b rfl) ?_
      refine a_iloadn C dX8_laysStates_32 rfl ?_
      refine a_bipush C dX8_laysStates_33 bp_m4 ?_
      refine a_bipush C dX8_laysStates_35 bp_m4 ?_
      refine a_callV C [.inl 1, .inl x2, .inl (-4), .inl (-4)] [] dX8_laysStates_37 (cMd_adds _ _ _ _) mv_X8_adds ln_X8_203 rfl rfl ⟨rfl, rfl, Nat.le_of_ble_eq_true rfl, Nat.le_of_ble_eq_true rfl, Nat.le_of_ble_eq_true rfl⟩ hf (fun r9 M9 hf => ?_)
      refine a_iinc C dX8_laysStates_40 rfl (by decide) (lv2 := [some (.inr 0), some (.inl x1), some (.inl (wrap (x2 + 1))), none, none]) rfl ?_
      refine a_goto C 25 dX8_laysStates_43 rfl ?_
      exact hk25 _ _ _ hf
set_option maxRecDepth 20000 in
set_option maxHeartbeats 4000000 in
theorem cMd_laysStates : Snd shM yX8_laysStates cX8_laysStates 5 none 1 24 [.inr 0] fMd_laysStates := by
  refine Snd.of RX8 (by decide +kernel) rfl (Nat.le_of_ble_eq_true rfl) ?_
  intro E M R hf C X
  show AW shM 5 E 0 [some (.inr 0), none, none, none, none] [] M
  refine a_aloadn C dX8_laysStates_0 rfl ?_
  refine a_iconst C dX8_laysStates_1 (inr_b rfl) ?_
  refine a_putI C (kz := 20) fp_X8_200 rfl rfl rfl dX8_laysStates_2 ?_
  refine a_aloadn C dX8_laysStates_5 rfl ?_
  refine a_getR C 1 fl_X8_7 rfl rfl dX8_laysStates_6 ?_
  refine a_iconst C dX8_laysStates_9 (inr_b rfl) ?_
  refine a_iald C (n := 28) rfl (inb_b rfl) dX8_laysStates_10 ?_
  refine a_istoren C dX8_laysStates_11 (by decide) (lv2 := [some (.inr 0), some (.inl (M 1 0)), none, none, none]) rfl ?_
  refine a_aloadn C dX8_laysStates_12 rfl ?_
  refine a_iconst C dX8_laysStates_13 (inr_b rfl) ?_
  refine a_bipush C dX8_laysStates_14 bp_m4 ?_
  refine a_bipush C dX8_laysStates_16 bp_m4 ?_
  refine a_bipush C dX8_laysStates_18 bp_m4 ?_
  refine a_callV C [.inl 0, .inl (-4), .inl (-4), .inl (-4)] [] dX8_laysStates_20 (cMd_adds _ _ _ _) mv_X8_adds ln_X8_203 rfl rfl ⟨rfl, rfl, Nat.le_of_ble_eq_true rfl, Nat.le_of_ble_eq_true rfl, Nat.le_of_ble_eq_true rfl⟩ hf (fun r1 M1 hf => ?_)
  refine a_iconst C dX8_laysStates_23 (inr_b rfl) ?_
  refine a_istoren C dX8_laysStates_24 (by decide) (lv2 := [some (.inr 0), some (.inl (M 1 0)), some (.inl 0), none, none]) rfl ?_
  obtain ⟨n10, hf⟩ := hf
  exact sMd_laysStates_25 C X  n10 _ _ _ hf
set_option maxRecDepth 20000 in
set_option maxHeartbeats 4000000 in
theorem cMd_states : Snd shM yX8_states cX8_states 1 (some .int) 2 48 [.inr 0] fMd_states := by
  refine Snd.of RX8 (by decide +kernel) rfl (Nat.le_of_ble_eq_true rfl) ?_
  intro E M R hf C X
  show AW shM 1 E 0 [some (.inr 0)] [] M
  refine a_aloadn C dX8_states_0 rfl ?_
  refine a_callV C [] [] dX8_states_1 (cMd_laysStates) mv_X8_laysStates ln_X8_207 rfl rfl ⟨rfl, rfl, Nat.le_of_ble_eq_true rfl, Nat.le_of_ble_eq_true rfl, Nat.le_of_ble_eq_true rfl⟩ hf (fun r1 M1 hf => ?_)
  refine a_aloadn C dX8_states_4 rfl ?_
  refine a_getI C (kz := 20) fl_X8_200 rfl rfl rfl dX8_states_5 ?_
  exact a_iret C X dX8_states_8 hf
set_option maxRecDepth 20000 in
set_option maxHeartbeats 4000000 in
theorem cMd_isState (x1 : Int) : Snd shM yX8_isState cX8_isState 2 (some .boolean) 2 48 [.inr 0, .inl x1] (fMd_isState x1) := by
  refine Snd.of RX8 (by decide +kernel) rfl (Nat.le_of_ble_eq_true rfl) ?_
  intro E M R hf C X
  show AW shM 2 E 0 [some (.inr 0), some (.inl x1)] [] M
  refine a_aloadn C dX8_isState_0 rfl ?_
  refine a_callV C [] [] dX8_isState_1 (cMd_laysStates) mv_X8_laysStates ln_X8_207 rfl rfl ⟨rfl, rfl, Nat.le_of_ble_eq_true rfl, Nat.le_of_ble_eq_true rfl, Nat.le_of_ble_eq_true rfl⟩ hf (fun r1 M1 hf => ?_)
  refine a_iloadn C dX8_isState_4 rfl ?_
  refine a_iconst C dX8_isState_5 (inr_b rfl) ?_
  refine a_aloadn C dX8_isState_6 rfl ?_
  refine a_getI C (kz := 20) fl_X8_200 rfl rfl rfl dX8_isState_7 ?_
  refine a_iconst C dX8_isState_10 (inr_b rfl) ?_
  refine a_isub C dX8_isState_11 ?_
  refine a_callS C [.inl x1, .inl 0, .inl (wrap ((M1 0 20) - 1))] [] dX8_isState_12 (cMd_in _ _ _) ms_X8_in ln_X8_114 ⟨rfl, rfl, Nat.le_of_ble_eq_true rfl, Nat.le_of_ble_eq_true rfl, Nat.le_of_ble_eq_true rfl⟩ hf (fun r2 M2 hf => ?_)
  obtain ⟨hg, hf⟩ := hf
  exact a_bret C X hg dX8_isState_15 hf
set_option maxRecDepth 20000 in
set_option maxHeartbeats 4000000 in
theorem cMd_state (x1 x2 : Int) : Snd shM yX8_state cX8_state 3 (some .int) 3 69 [.inr 0, .inl x1, .inl x2] (fMd_state x1 x2) := by
  refine Snd.of RX8 (by decide +kernel) rfl (Nat.le_of_ble_eq_true rfl) ?_
  intro E M R hf C X
  show AW shM 3 E 0 [some (.inr 0), some (.inl x1), some (.inl x2)] [] M
  refine a_aloadn C dX8_state_0 rfl ?_
  refine a_iloadn C dX8_state_1 rfl ?_
  refine a_callV C [.inl x1] [] dX8_state_2 (cMd_isState _) mv_X8_isState ln_X8_210 rfl rfl ⟨rfl, rfl, Nat.le_of_ble_eq_true rfl, Nat.le_of_ble_eq_true rfl, Nat.le_of_ble_eq_true rfl⟩ hf (fun r1 M1 hf => ?_)
  obtain ⟨hfa, hfb⟩ := hf
  refine a_if_eq C 13 dX8_state_5 rfl (fun hc => ?_) (fun hc => ?_)
  · have hf := hfa hc
    refine a_iconst C dX8_state_13 (inr_b rfl) ?_
    exact a_iret C X dX8_state_14 hf
  · have hf := hfb hc
    refine a_iloadn C dX8_state_8 rfl ?_
    refine a_iconst C dX8_state_9 (inr_b rfl) ?_
    obtain ⟨hfa, hfb⟩ := hf
    refine a_icmp_ge C 15 dX8_state_10 rfl (fun hc => ?_) (fun hc => ?_)
    · have hf := hfa hc
      refine a_iloadn C dX8_state_15 rfl ?_
      refine a_iconst C dX8_state_16 (inr_b rfl) ?_
      obtain ⟨hfa, hfb⟩ := hf
      refine a_icmp_ne C 29 dX8_state_17 rfl (fun hc => ?_) (fun hc => ?_)
      · have hf := hfa hc
        refine a_iloadn C dX8_state_29 rfl ?_
        refine a_aloadn C dX8_state_30 rfl ?_
        refine a_getR C 15 fl_X8_52 rfl rfl dX8_state_31 ?_
        refine a_iloadn C dX8_state_34 rfl ?_
        obtain ⟨hg, hf⟩ := hf
        refine a_iald C (n := 16) rfl hg dX8_state_35 ?_
        obtain ⟨hfa, hfb⟩ := hf
        refine a_icmp_ge C 52 dX8_state_36 rfl (fun hc => ?_) (fun hc => ?_)
        · have hf := hfa hc
          refine a_bipush C dX8_state_52 bp_m4 ?_
          exact a_iret C X dX8_state_54 hf
        · have hf := hfb hc
          refine a_aloadn C dX8_state_39 rfl ?_
          refine a_getR C 16 fl_X8_55 rfl rfl dX8_state_40 ?_
          refine a_iconst C dX8_state_43 (inr_b rfl) ?_
          refine a_iloadn C dX8_state_44 rfl ?_
          refine a_imul C dX8_state_45 ?_
          refine a_iloadn C dX8_state_46 rfl ?_
          refine a_iadd C dX8_state_47 ?_
          obtain ⟨hg, hf⟩ := hf
          refine a_iald C (n := 48) rfl hg dX8_state_48 ?_
          refine a_goto C 54 dX8_state_49 rfl ?_
          exact a_iret C X dX8_state_54 hf
      · have hf := hfb hc
        refine a_aloadn C dX8_state_20 rfl ?_
        refine a_getR C 15 fl_X8_52 rfl rfl dX8_state_21 ?_
        refine a_iloadn C dX8_state_24 rfl ?_
        obtain ⟨hg, hf⟩ := hf
        refine a_iald C (n := 16) rfl hg dX8_state_25 ?_
        refine a_goto C 54 dX8_state_26 rfl ?_
        exact a_iret C X dX8_state_54 hf
    · have hf := hfb hc
      refine a_iconst C dX8_state_13 (inr_b rfl) ?_
      exact a_iret C X dX8_state_14 hf
set_option maxRecDepth 20000 in
set_option maxHeartbeats 4000000 in
theorem cMd_hasOf (x0 x1 : Int) : Snd shM yX8_hasOf cX8_hasOf 2 (some .int) 0 0 [.inl x0, .inl x1] (fMd_hasOf x0 x1) := by
  refine Snd.of RX8 (by decide +kernel) rfl (Nat.le_of_ble_eq_true rfl) ?_
  intro E M R hf C X
  show AW shM 2 E 0 [some (.inl x0), some (.inl x1)] [] M
  refine a_iloadn C dX8_hasOf_0 rfl ?_
  refine a_iconst C dX8_hasOf_1 (inr_b rfl) ?_
  refine a_iloadn C dX8_hasOf_2 rfl ?_
  refine a_imul C dX8_hasOf_3 ?_
  refine a_ishr C dX8_hasOf_4 ?_
  refine a_iconst C dX8_hasOf_5 (inr_b rfl) ?_
  refine a_iand C dX8_hasOf_6 ?_
  exact a_iret C X dX8_hasOf_7 hf
set_option maxRecDepth 20000 in
set_option maxHeartbeats 4000000 in
theorem sMd_nearer_25 {E : EE} {R : Int → Mem → Prop} (C : Cx shM 3 cX8_nearer RX8 0 0 E) (X : Rx shM none R E) (t0 : Int) (t1 : Int) (M : Mem) (hf : fMd_nearer_25  R t0 t1 M) : AW shM 3 E 25 [none, none, none] [.inl t0, .inl t1, .inr 19] M := by
  obtain ⟨hg, hf⟩ := hf
  refine a_iast C (n := 512) rfl hg dX8_nearer_25 ?_
  exact a_vret C X dX8_nearer_26 hf
set_option maxRecDepth 20000 in
set_option maxHeartbeats 4000000 in
theorem cMd_nearer (x1 x2 : Int) : Snd shM yX8_nearer cX8_nearer 3 none 0 0 [.inr 0, .inl x1, .inl x2] (fMd_nearer x1 x2) := by
  refine Snd.of RX8 (by decide +kernel) rfl (Nat.le_of_ble_eq_true rfl) ?_
  intro E M R hf C X
  show AW shM 3 E 0 [some (.inr 0), some (.inl x1), some (.inl x2)] [] M
  refine a_aloadn C dX8_nearer_0 rfl ?_
  refine a_getR C 19 fl_X8_64 rfl rfl dX8_nearer_1 ?_
  refine a_iloadn C dX8_nearer_4 rfl ?_
  refine a_iloadn C dX8_nearer_5 rfl ?_
  refine a_aloadn C dX8_nearer_6 rfl ?_
  refine a_getR C 19 fl_X8_64 rfl rfl dX8_nearer_7 ?_
  refine a_iloadn C dX8_nearer_10 rfl ?_
  obtain ⟨hg, hf⟩ := hf
  refine a_iald C (n := 512) rfl hg dX8_nearer_11 ?_
  obtain ⟨hfa, hfb⟩ := hf
  refine a_icmp_ge C 19 dX8_nearer_12 rfl (fun hc => ?_) (fun hc => ?_)
  · have hf := hfa hc
    refine a_aloadn C dX8_nearer_19 rfl ?_
    refine a_getR C 19 fl_X8_64 rfl rfl dX8_nearer_20 ?_
    refine a_iloadn C dX8_nearer_23 rfl ?_
    obtain ⟨hg, hf⟩ := hf
    refine a_iald C (n := 512) rfl hg dX8_nearer_24 ?_
    refine a_drop [false, false, false] (lv2 := [none, none, none]) rfl ?_
    exact sMd_nearer_25 C X  _ _ _ hf
  · have hf := hfb hc
    refine a_iloadn C dX8_nearer_15 rfl ?_
    refine a_goto C 25 dX8_nearer_16 rfl ?_
    refine a_drop [false, false, false] (lv2 := [none, none, none]) rfl ?_
    exact sMd_nearer_25 C X  _ _ _ hf
set_option maxRecDepth 20000 in
set_option maxHeartbeats 4000000 in
theorem cMd_with (x0 x1 x2 : Int) : Snd shM yX8_with cX8_with 3 (some .int) 0 0 [.inl x0, .inl x1, .inl x2] (fMd_with x0 x1 x2) := by
  refine Snd.of RX8 (by decide +kernel) rfl (Nat.le_of_ble_eq_true rfl) ?_
  intro E M R hf C X
  show AW shM 3 E 0 [some (.inl x0), some (.inl x1), some (.inl x2)] [] M
  refine a_iloadn C dX8_with_0 rfl ?_
  refine a_iconst C dX8_with_1 (inr_b rfl) ?_
  refine a_iconst C dX8_with_2 (inr_b rfl) ?_
  refine a_iloadn C dX8_with_3 rfl ?_
  refine a_imul C dX8_with_4 ?_
  refine a_ishl C dX8_with_5 ?_
  refine a_iconst C dX8_with_6 (inr_b rfl) ?_
  refine a_ixor C dX8_with_7 ?_
  refine a_iand C dX8_with_8 ?_
  refine a_iloadn C dX8_with_9 rfl ?_
  refine a_iconst C dX8_with_10 (inr_b rfl) ?_
  refine a_iloadn C dX8_with_11 rfl ?_
  refine a_imul C dX8_with_12 ?_
  refine a_ishl C dX8_with_13 ?_
  refine a_ior C dX8_with_14 ?_
  exact a_iret C X dX8_with_15 hf
set_option maxRecDepth 20000 in
set_option maxHeartbeats 4000000 in
theorem sMd_goesBehind_142 {E : EE} {R : Int → Mem → Prop} (C : Cx shM 5 cX8_goesBehind RX8 1 22 E) (X : Rx shM none R E) {k9 : Int → Int → Int → Mem → Prop} (hk9 : ∀ (x1 : Int) (x2 : Int) (x3 : Int) (M : Mem), k9 x1 x2 x3 M → AW shM 5 E 9 [some (.inr 0), some (.inl x1), some (.inl x2), some (.inl x3), none] [] M) (x1 : Int) (x2 : Int) (x3 : Int) (M : Mem) (hf : fMd_goesBehind_142 k9 R x1 x2 x3 M) : AW shM 5 E 142 [some (.inr 0), some (.inl x1), some (.inl x2), some (.inl x3), none] [] M := by
  refine a_iinc C dX8_goesBehind_142 rfl (by decide) (lv2 := [some (.inr 0), some (.inl x1), some (.inl x2), some (.inl (wrap (x3 + 1))), none]) rfl ?_
  refine a_goto C 9 dX8_goesBehind_145 rfl ?_
  exact hk9 _ _ _ _ hf
set_option maxRecDepth 20000 in
set_option maxHeartbeats 4000000 in
theorem sMd_goesBehind_105 {E : EE} {R : Int → Mem → Prop} (C : Cx shM 5 cX8_goesBehind RX8 1 22 E) (X : Rx shM none R E) {k65 : Int → Int → Int → Int → Mem → Prop} (hk65 : ∀ (x1 : Int) (x2 : Int) (x3 : Int) (x4 : Int) (M : Mem), k65 x1 x2 x3 x4 M → AW shM 5 E 65 [some (.inr 0), some (.inl x1), some (.inl x2), some (.inl x3), some (.inl x4)] [] M) (x1 : Int) (x2 : Int) (x3 : Int) (x4 : Int) (M : Mem) (hf : fMd_goesBehind_105 k65 R x1 x2 x3 x4 M) : AW shM 5 E 105 [some (.inr 0), some (.inl x1), some (.inl x2), some (.inl x3), some (.inl x4)] [] M := by
  refine a_iinc C dX8_goesBehind_105 rfl (by decide) (lv2 := [some (.inr 0), some (.inl x1), some (.inl x2), some (.inl x3), some (.inl (wrap (x4 + 1)))]) rfl ?_
  refine a_goto C 65 dX8_goesBehind_108 rfl ?_
  exact hk65 _ _ _ _ _ hf
set_option maxRecDepth 20000 in
set_option maxHeartbeats 4000000 in
theorem sMd_goesBehind_65 {E : EE} {R : Int → Mem → Prop} (C : Cx shM 5 cX8_goesBehind RX8 1 22 E) (X : Rx shM none R E) {k9 : Int → Int → Int → Mem → Prop} (hk9 : ∀ (x1 : Int) (x2 : Int) (x3 : Int) (M : Mem), k9 x1 x2 x3 M → AW shM 5 E 9 [some (.inr 0), some (.inl x1), some (.inl x2), some (.inl x3), none] [] M) : ∀ (n : Nat) (x1 : Int) (x2 : Int) (x3 : Int) (x4 : Int) (M : Mem), fMd_goesBehind_65 k9 R n x1 x2 x3 x4 M → AW shM 5 E 65 [some (.inr 0), some (.inl x1), some (.inl x2), some (.inl x3), some (.inl x4)] [] M := by
  intro n
  induction n with
  | zero => intro x1 x2 x3 x4 M hf; exact hf.elim
  | succ n hk65 =>
    intro x1 x2 x3 x4 M hf
    refine a_iload C dX8_goesBehind_65 rfl ?_
    refine a_iconst C dX8_goesBehind_67 (inr_b rfl) ?_
    obtain ⟨hfa, hfb⟩ := hf
    refine a_icmp_ge C 111 dX8_goesBehind_68 rfl (fun hc => ?_) (fun hc => ?_)
    · have hf := hfa hc
      refine a_iloadn C dX8_goesBehind_111 rfl ?_
      refine a_iloadn C dX8_goesBehind_112 rfl ?_
      refine a_callS C [.inl x1, .inl x3] [] dX8_goesBehind_113 (cMd_hasOf _ _) ms_X8_hasOf ln_X8_240 ⟨rfl, rfl, Nat.le_of_ble_eq_true rfl, Nat.le_of_ble_eq_true rfl, Nat.le_of_ble_eq_true rfl⟩ hf (fun r1 M1 hf => ?_)
      obtain ⟨hfa, hfb⟩ := hf
      refine a_if_le C 142 dX8_goesBehind_116 rfl (fun hc => ?_) (fun hc => ?_)
      · have hf := hfa hc
        refine a_drop [true, true, true, true, false] (lv2 := [some (.inr 0), some (.inl x1), some (.inl x2), some (.inl x3), none]) rfl ?_
        exact sMd_goesBehind_142 C X hk9 _ _ _ _ hf
      · have hf := hfb hc
        refine a_aloadn C dX8_goesBehind_119 rfl ?_
        refine a_iloadn C dX8_goesBehind_120 rfl ?_
        refine a_iconst C dX8_goesBehind_121 (inr_b rfl) ?_
        refine a_iconst C dX8_goesBehind_122 (inr_b rfl) ?_
        refine a_iloadn C dX8_goesBehind_123 rfl ?_
        refine a_iloadn C dX8_goesBehind_124 rfl ?_
        refine a_callS C [.inl x1, .inl x3] [.inl 5, .inl 1, .inl x1, .inr 0] dX8_goesBehind_125 (cMd_hasOf _ _) ms_X8_hasOf ln_X8_240 ⟨rfl, rfl, Nat.le_of_ble_eq_true rfl, Nat.le_of_ble_eq_true rfl, Nat.le_of_ble_eq_true rfl⟩ hf (fun r2 M2 hf => ?_)
        refine a_iadd C dX8_goesBehind_128 ?_
        refine a_ishl C dX8_goesBehind_129 ?_
        refine a_ior C dX8_goesBehind_130 ?_
        refine a_iloadn C dX8_goesBehind_131 rfl ?_
        refine a_aloadn C dX8_goesBehind_132 rfl ?_
        refine a_getR C 1 fl_X8_7 rfl rfl dX8_goesBehind_133 ?_
        refine a_iconst C dX8_goesBehind_136 (inr_b rfl) ?_
        refine a_iald C (n := 28) rfl (inb_b rfl) dX8_goesBehind_137 ?_
        refine a_iadd C dX8_goesBehind_138 ?_
        refine a_callV C [.inl (b_ior x1 (b_ishl 1 (wrap (5 + r2)))), .inl (wrap (x2 + (M2 1 3)))] [] dX8_goesBehind_139 (cMd_nearer _ _) mv_X8_nearer ln_X8_247 rfl rfl ⟨rfl, rfl, Nat.le_of_ble_eq_true rfl, Nat.le_of_ble_eq_true rfl, Nat.le_of_ble_eq_true rfl⟩ hf (fun r3 M3 hf => ?_)
        refine a_drop [true, true, true, true, false] (lv2 := [some (.inr 0), some (.inl x1), some (.inl x2), some (.inl x3), none]) rfl ?_
        exact sMd_goesBehind_142 C X hk9 _ _ _ _ hf
    · have hf := hfb hc
      refine a_iloadn C dX8_goesBehind_71 rfl ?_
      refine a_bipush C dX8_goesBehind_72 bp_6 ?_
      refine a_iload C dX8_goesBehind_74 rfl ?_
      refine a_iadd C dX8_goesBehind_76 ?_
      refine a_ishr C dX8_goesBehind_77 ?_
      refine a_iconst C dX8_goesBehind_78 (inr_b rfl) ?_
      refine a_iand C dX8_goesBehind_79 ?_
      refine a_iconst C dX8_goesBehind_80 (inr_b rfl) ?_
      obtain ⟨hfa, hfb⟩ := hf
      refine a_icmp_ne C 105 dX8_goesBehind_81 rfl (fun hc => ?_) (fun hc => ?_)
      · have hf := hfa hc
        exact sMd_goesBehind_105 C X hk65 _ _ _ _ _ hf
      · have hf := hfb hc
        refine a_aloadn C dX8_goesBehind_84 rfl ?_
        refine a_iloadn C dX8_goesBehind_85 rfl ?_
        refine a_iloadn C dX8_goesBehind_86 rfl ?_
        refine a_iload C dX8_goesBehind_87 rfl ?_
        refine a_iconst C dX8_goesBehind_89 (inr_b rfl) ?_
        refine a_iadd C dX8_goesBehind_90 ?_
        refine a_callS C [.inl x1, .inl x3, .inl (wrap (x4 + 1))] [.inr 0] dX8_goesBehind_91 (cMd_with _ _ _) ms_X8_with ln_X8_244 ⟨rfl, rfl, Nat.le_of_ble_eq_true rfl, Nat.le_of_ble_eq_true rfl, Nat.le_of_ble_eq_true rfl⟩ hf (fun r4 M4 hf => ?_)
        refine a_iloadn C dX8_goesBehind_94 rfl ?_
        refine a_aloadn C dX8_goesBehind_95 rfl ?_
        refine a_getR C 1 fl_X8_7 rfl rfl dX8_goesBehind_96 ?_
        refine a_iconst C dX8_goesBehind_99 (inr_b rfl) ?_
        refine a_iald C (n := 28) rfl (inb_b rfl) dX8_goesBehind_100 ?_
        refine a_iadd C dX8_goesBehind_101 ?_
        refine a_callV C [.inl r4, .inl (wrap (x2 + (M4 1 2)))] [] dX8_goesBehind_102 (cMd_nearer _ _) mv_X8_nearer ln_X8_247 rfl rfl ⟨rfl, rfl, Nat.le_of_ble_eq_true rfl, Nat.le_of_ble_eq_true rfl, Nat.le_of_ble_eq_true rfl⟩ hf (fun r5 M5 hf => ?_)
        exact sMd_goesBehind_105 C X hk65 _ _ _ _ _ hf
set_option maxRecDepth 20000 in
set_option maxHeartbeats 4000000 in
theorem sMd_goesBehind_22 {E : EE} {R : Int → Mem → Prop} (C : Cx shM 5 cX8_goesBehind RX8 1 22 E) (X : Rx shM none R E) {k9 : Int → Int → Int → Mem → Prop} (hk9 : ∀ (x1 : Int) (x2 : Int) (x3 : Int) (M : Mem), k9 x1 x2 x3 M → AW shM 5 E 9 [some (.inr 0), some (.inl x1), some (.inl x2), some (.inl x3), none] [] M) : ∀ (n : Nat) (x1 : Int) (x2 : Int) (x3 : Int) (x4 : Int) (M : Mem), fMd_goesBehind_22 k9 R n x1 x2 x3 x4 M → AW shM 5 E 22 [some (.inr 0), some (.inl x1), some (.inl x2), some (.inl x3), some (.inl x4)] [] M := by
  intro n
  induction n with
  | zero => intro x1 x2 x3 x4 M hf; exact hf.elim
  | succ n hk22 =>
    intro x1 x2 x3 x4 M hf
    refine a_iload C dX8_goesBehind_22 rfl ?_
    refine a_aloadn C dX8_goesBehind_24 rfl ?_
    refine a_getR C 1 fl_X8_7 rfl rfl dX8_goesBehind_25 ?_
    refine a_iconst C dX8_goesBehind_28 (inr_b rfl) ?_
    refine a_iald C (n := 28) rfl (inb_b rfl) dX8_goesBehind_29 ?_
    obtain ⟨hfa, hfb⟩ := hf
    refine a_icmp_ge C 62 dX8_goesBehind_30 rfl (fun hc => ?_) (fun hc => ?_)
    · have hf := hfa hc
      refine a_iconst C dX8_goesBehind_62 (inr_b rfl) ?_
      refine a_istore C dX8_goesBehind_63 (by decide) (lv2 := [some (.inr 0), some (.inl x1), some (.inl x2), some (.inl x3), some (.inl 0)]) rfl ?_
      obtain ⟨n6, hf⟩ := hf
      exact sMd_goesBehind_65 C X hk9 n6 _ _ _ _ _ hf
    · have hf := hfb hc
      refine a_aloadn C dX8_goesBehind_33 rfl ?_
      refine a_iloadn C dX8_goesBehind_34 rfl ?_
      refine a_iloadn C dX8_goesBehind_35 rfl ?_
      refine a_iloadn C dX8_goesBehind_36 rfl ?_
      refine a_iload C dX8_goesBehind_37 rfl ?_
      refine a_callS C [.inl x1, .inl x4] [.inl x3, .inl x1, .inr 0] dX8_goesBehind_39 (cMd_hasOf _ _) ms_X8_hasOf ln_X8_240 ⟨rfl, rfl, Nat.le_of_ble_eq_true rfl, Nat.le_of_ble_eq_true rfl, Nat.le_of_ble_eq_true rfl⟩ hf (fun r7 M7 hf => ?_)
      refine a_callS C [.inl x1, .inl x3, .inl r7] [.inr 0] dX8_goesBehind_42 (cMd_with _ _ _) ms_X8_with ln_X8_244 ⟨rfl, rfl, Nat.le_of_ble_eq_true rfl, Nat.le_of_ble_eq_true rfl, Nat.le_of_ble_eq_true rfl⟩ hf (fun r8 M8 hf => ?_)
      refine a_iloadn C dX8_goesBehind_45 rfl ?_
      refine a_aloadn C dX8_goesBehind_46 rfl ?_
      refine a_getR C 1 fl_X8_7 rfl rfl dX8_goesBehind_47 ?_
      refine a_iconst C dX8_goesBehind_50 (inr_b rfl) ?_
      refine a_iald C (n := 28) rfl (inb_b rfl) dX8_goesBehind_51 ?_
      refine a_iadd C dX8_goesBehind_52 ?_
      refine a_callV C [.inl r8, .inl (wrap (x2 + (M8 1 1)))] [] dX8_goesBehind_53 (cMd_nearer _ _) mv_X8_nearer ln_X8_247 rfl rfl ⟨rfl, rfl, Nat.le_of_ble_eq_true rfl, Nat.le_of_ble_eq_true rfl, Nat.le_of_ble_eq_true rfl⟩ hf (fun r9 M9 hf => ?_)
      refine a_iinc C dX8_goesBehind_56 rfl (by decide) (lv2 := [some (.inr 0), some (.inl x1), some (.inl x2), some (.inl x3), some (.inl (wrap (x4 + 1)))]) rfl ?_
      refine a_goto C 22 dX8_goesBehind_59 rfl ?_
      exact hk22 _ _ _ _ _ hf
set_option maxRecDepth 20000 in
set_option maxHeartbeats 4000000 in
theorem sMd_goesBehind_9 {E : EE} {R : Int → Mem → Prop} (C : Cx shM 5 cX8_goesBehind RX8 1 22 E) (X : Rx shM none R E) : ∀ (n : Nat) (x1 : Int) (x2 : Int) (x3 : Int) (M : Mem), fMd_goesBehind_9  R n x1 x2 x3 M → AW shM 5 E 9 [some (.inr 0), some (.inl x1), some (.inl x2), some (.inl x3), none] [] M := by
  intro n
  induction n with
  | zero => intro x1 x2 x3 M hf; exact hf.elim
  | succ n hk9 =>
    intro x1 x2 x3 M hf
    refine a_iloadn C dX8_goesBehind_9 rfl ?_
    refine a_aloadn C dX8_goesBehind_10 rfl ?_
    refine a_getR C 1 fl_X8_7 rfl rfl dX8_goesBehind_11 ?_
    refine a_iconst C dX8_goesBehind_14 (inr_b rfl) ?_
    refine a_iald C (n := 28) rfl (inb_b rfl) dX8_goesBehind_15 ?_
    obtain ⟨hfa, hfb⟩ := hf
    refine a_icmp_ge C 148 dX8_goesBehind_16 rfl (fun hc => ?_) (fun hc => ?_)
    · have hf := hfa hc
      exact a_vret C X dX8_goesBehind_148 hf
    · have hf := hfb hc
      refine a_iconst C dX8_goesBehind_19 (inr_b rfl) ?_
      refine a_istore C dX8_goesBehind_20 (by decide) (lv2 := [some (.inr 0), some (.inl x1), some (.inl x2), some (.inl x3), some (.inl 0)]) rfl ?_
      obtain ⟨n10, hf⟩ := hf
      exact sMd_goesBehind_22 C X hk9 n10 _ _ _ _ _ hf
set_option maxRecDepth 20000 in
set_option maxHeartbeats 4000000 in
theorem cMd_goesBehind (x1 : Int) : Snd shM yX8_goesBehind cX8_goesBehind 5 none 1 22 [.inr 0, .inl x1] (fMd_goesBehind x1) := by
  refine Snd.of RX8 (by decide +kernel) rfl (Nat.le_of_ble_eq_true rfl) ?_
  intro E M R hf C X
  show AW shM 5 E 0 [some (.inr 0), some (.inl x1), none, none, none] [] M
  refine a_aloadn C dX8_goesBehind_0 rfl ?_
  refine a_getR C 19 fl_X8_64 rfl rfl dX8_goesBehind_1 ?_
  refine a_iloadn C dX8_goesBehind_4 rfl ?_
  obtain ⟨hg, hf⟩ := hf
  refine a_iald C (n := 512) rfl hg dX8_goesBehind_5 ?_
  refine a_istoren C dX8_goesBehind_6 (by decide) (lv2 := [some (.inr 0), some (.inl x1), some (.inl (M 19 x1)), none, none]) rfl ?_
  refine a_iconst C dX8_goesBehind_7 (inr_b rfl) ?_
  refine a_istoren C dX8_goesBehind_8 (by decide) (lv2 := [some (.inr 0), some (.inl x1), some (.inl (M 19 x1)), some (.inl 0), none]) rfl ?_
  obtain ⟨n11, hf⟩ := hf
  exact sMd_goesBehind_9 C X  n11 _ _ _ _ hf
set_option maxRecDepth 20000 in
set_option maxHeartbeats 4000000 in
theorem sMd_laysFrom_167 {E : EE} {R : Int → Mem → Prop} (C : Cx shM 5 cX8_laysFrom RX8 2 46 E) (X : Rx shM none R E) {k111 : Int → Int → Mem → Prop} (hk111 : ∀ (x3 : Int) (x4 : Int) (M : Mem), k111 x3 x4 M → AW shM 5 E 111 [some (.inr 0), none, none, some (.inl x3), some (.inl x4)] [] M) (x4 : Int) (t0 : Int) (M : Mem) (hf : fMd_laysFrom_167 k111 R x4 t0 M) : AW shM 5 E 167 [some (.inr 0), none, none, none, some (.inl x4)] [.inl t0] M := by
  refine a_istoren C dX8_laysFrom_167 (by decide) (lv2 := [some (.inr 0), none, none, some (.inl t0), some (.inl x4)]) rfl ?_
  refine a_iinc C dX8_laysFrom_168 rfl (by decide) (lv2 := [some (.inr 0), none, none, some (.inl t0), some (.inl (wrap (x4 + 1)))]) rfl ?_
  refine a_goto C 111 dX8_laysFrom_171 rfl ?_
  exact hk111 _ _ _ hf
set_option maxRecDepth 20000 in
set_option maxHeartbeats 4000000 in
theorem sMd_laysFrom_166 {E : EE} {R : Int → Mem → Prop} (C : Cx shM 5 cX8_laysFrom RX8 2 46 E) (X : Rx shM none R E) {k111 : Int → Int → Mem → Prop} (hk111 : ∀ (x3 : Int) (x4 : Int) (M : Mem), k111 x3 x4 M → AW shM 5 E 111 [some (.inr 0), none, none, some (.inl x3), some (.inl x4)] [] M) (x3 : Int) (x4 : Int) (M : Mem) (hf : fMd_laysFrom_166 k111 R x3 x4 M) : AW shM 5 E 166 [some (.inr 0), none, none, some (.inl x3), some (.inl x4)] [] M := by
  refine a_iloadn C dX8_laysFrom_166 rfl ?_
  refine a_drop [true, true, true, false, true] (lv2 := [some (.inr 0), none, none, none, some (.inl x4)]) rfl ?_
  exact sMd_laysFrom_167 C X hk111 _ _ _ hf
set_option maxRecDepth 20000 in
set_option maxHeartbeats 4000000 in
theorem sMd_laysFrom_161 {E : EE} {R : Int → Mem → Prop} (C : Cx shM 5 cX8_laysFrom RX8 2 46 E) (X : Rx shM none R E) {k111 : Int → Int → Mem → Prop} (hk111 : ∀ (x3 : Int) (x4 : Int) (M : Mem), k111 x3 x4 M → AW shM 5 E 111 [some (.inr 0), none, none, some (.inl x3), some (.inl x4)] [] M) (x4 : Int) (M : Mem) (hf : fMd_laysFrom_161 k111 R x4 M) : AW shM 5 E 161 [some (.inr 0), none, none, none, some (.inl x4)] [] M := by
  refine a_iload C dX8_laysFrom_161 rfl ?_
  refine a_goto C 167 dX8_laysFrom_163 rfl ?_
  exact sMd_laysFrom_167 C X hk111 _ _ _ hf
set_option maxRecDepth 20000 in
set_option maxHeartbeats 4000000 in
theorem sMd_laysFrom_111 {E : EE} {R : Int → Mem → Prop} (C : Cx shM 5 cX8_laysFrom RX8 2 46 E) (X : Rx shM none R E) {k90 : Int → Mem → Prop} (hk90 : ∀ (x3 : Int) (M : Mem), k90 x3 M → AW shM 5 E 90 [some (.inr 0), none, none, some (.inl x3), none] [] M) : ∀ (n : Nat) (x3 : Int) (x4 : Int) (M : Mem), fMd_laysFrom_111 k90 R n x3 x4 M → AW shM 5 E 111 [some (.inr 0), none, none, some (.inl x3), some (.inl x4)] [] M := by
  intro n
  induction n with
  | zero => intro x3 x4 M hf; exact hf.elim
  | succ n hk111 =>
    intro x3 x4 M hf
    refine a_iload C dX8_laysFrom_111 rfl ?_
    refine a_sipush C dX8_laysFrom_113 sp_512 ?_
    obtain ⟨hfa, hfb⟩ := hf
    refine a_icmp_ge C 174 dX8_laysFrom_116 rfl (fun hc => ?_) (fun hc => ?_)
    · have hf := hfa hc
      refine a_goto C 90 dX8_laysFrom_174 rfl ?_
      refine a_drop [true, true, true, true, false] (lv2 := [some (.inr 0), none, none, some (.inl x3), none]) rfl ?_
      exact hk90 _ _ hf
    · have hf := hfb hc
      refine a_aloadn C dX8_laysFrom_119 rfl ?_
      refine a_getR C 20 fl_X8_67 rfl rfl dX8_laysFrom_120 ?_
      refine a_iload C dX8_laysFrom_123 rfl ?_
      obtain ⟨hg, hf⟩ := hf
      refine a_iald C (n := 512) rfl hg dX8_laysFrom_125 ?_
      obtain ⟨hfa, hfb⟩ := hf
      refine a_if_ne C 166 dX8_laysFrom_126 rfl (fun hc => ?_) (fun hc => ?_)
      · have hf := hfa hc
        exact sMd_laysFrom_166 C X hk111 _ _ _ hf
      · have hf := hfb hc
        refine a_aloadn C dX8_laysFrom_129 rfl ?_
        refine a_getR C 19 fl_X8_64 rfl rfl dX8_laysFrom_130 ?_
        refine a_iload C dX8_laysFrom_133 rfl ?_
        obtain ⟨hg, hf⟩ := hf
        refine a_iald C (n := 512) rfl hg dX8_laysFrom_135 ?_
        refine a_ldc C dX8_laysFrom_136 ct_X8_250 (inr_b rfl) ?_
        obtain ⟨hfa, hfb⟩ := hf
        refine a_icmp_ge C 166 dX8_laysFrom_138 rfl (fun hc => ?_) (fun hc => ?_)
        · have hf := hfa hc
          exact sMd_laysFrom_166 C X hk111 _ _ _ hf
        · have hf := hfb hc
          refine a_iloadn C dX8_laysFrom_141 rfl ?_
          obtain ⟨hfa, hfb⟩ := hf
          refine a_if_lt C 161 dX8_laysFrom_142 rfl (fun hc => ?_) (fun hc => ?_)
          · have hf := hfa hc
            refine a_drop [true, true, true, false, true] (lv2 := [some (.inr 0), none, none, none, some (.inl x4)]) rfl ?_
            exact sMd_laysFrom_161 C X hk111 _ _ hf
          · have hf := hfb hc
            refine a_aloadn C dX8_laysFrom_145 rfl ?_
            refine a_getR C 19 fl_X8_64 rfl rfl dX8_laysFrom_146 ?_
            refine a_iload C dX8_laysFrom_149 rfl ?_
            obtain ⟨hg, hf⟩ := hf
            refine a_iald C (n := 512) rfl hg dX8_laysFrom_151 ?_
            refine a_aloadn C dX8_laysFrom_152 rfl ?_
            refine a_getR C 19 fl_X8_64 rfl rfl dX8_laysFrom_153 ?_
            refine a_iloadn C dX8_laysFrom_156 rfl ?_
            obtain ⟨hg, hf⟩ := hf
            refine a_iald C (n := 512) rfl hg dX8_laysFrom_157 ?_
            obtain ⟨hfa, hfb⟩ := hf
            refine a_icmp_ge C 166 dX8_laysFrom_158 rfl (fun hc => ?_) (fun hc => ?_)
            · have hf := hfa hc
              exact sMd_laysFrom_166 C X hk111 _ _ _ hf
            · have hf := hfb hc
              refine a_drop [true, true, true, false, true] (lv2 := [some (.inr 0), none, none, none, some (.inl x4)]) rfl ?_
              exact sMd_laysFrom_161 C X hk111 _ _ hf
set_option maxRecDepth 20000 in
set_option maxHeartbeats 4000000 in
theorem sMd_laysFrom_90 {E : EE} {R : Int → Mem → Prop} (C : Cx shM 5 cX8_laysFrom RX8 2 46 E) (X : Rx shM none R E) : ∀ (n : Nat) (x3 : Int) (M : Mem), fMd_laysFrom_90  R n x3 M → AW shM 5 E 90 [some (.inr 0), none, none, some (.inl x3), none] [] M := by
  intro n
  induction n with
  | zero => intro x3 M hf; exact hf.elim
  | succ n hk90 =>
    intro x3 M hf
    refine a_iloadn C dX8_laysFrom_90 rfl ?_
    obtain ⟨hfa, hfb⟩ := hf
    refine a_if_lt C 177 dX8_laysFrom_91 rfl (fun hc => ?_) (fun hc => ?_)
    · have hf := hfa hc
      exact a_vret C X dX8_laysFrom_177 hf
    · have hf := hfb hc
      refine a_aloadn C dX8_laysFrom_94 rfl ?_
      refine a_getR C 20 fl_X8_67 rfl rfl dX8_laysFrom_95 ?_
      refine a_iloadn C dX8_laysFrom_98 rfl ?_
      refine a_iconst C dX8_laysFrom_99 (inr_b rfl) ?_
      obtain ⟨hg, hf⟩ := hf
      refine a_iast C (n := 512) rfl hg dX8_laysFrom_100 ?_
      refine a_aloadn C dX8_laysFrom_101 rfl ?_
      refine a_iloadn C dX8_laysFrom_102 rfl ?_
      refine a_callV C [.inl x3] [] dX8_laysFrom_103 (cMd_goesBehind _) mv_X8_goesBehind ln_X8_251 rfl rfl ⟨rfl, rfl, Nat.le_of_ble_eq_true rfl, Nat.le_of_ble_eq_true rfl, Nat.le_of_ble_eq_true rfl⟩ hf (fun r1 M1 hf => ?_)
      refine a_iconst C dX8_laysFrom_106 (inr_b rfl) ?_
      refine a_istoren C dX8_laysFrom_107 (by decide) (lv2 := [some (.inr 0), none, none, some (.inl (-1)), none]) rfl ?_
      refine a_iconst C dX8_laysFrom_108 (inr_b rfl) ?_
      refine a_istore C dX8_laysFrom_109 (by decide) (lv2 := [some (.inr 0), none, none, some (.inl (-1)), some (.inl 0)]) rfl ?_
      obtain ⟨n2, hf⟩ := hf
      exact sMd_laysFrom_111 C X hk90 n2 _ _ _ hf
set_option maxRecDepth 20000 in
set_option maxHeartbeats 4000000 in
theorem sMd_laysFrom_74 {E : EE} {R : Int → Mem → Prop} (C : Cx shM 5 cX8_laysFrom RX8 2 46 E) (X : Rx shM none R E) {k51 : Int → Int → Mem → Prop} (hk51 : ∀ (x2 : Int) (x3 : Int) (M : Mem), k51 x2 x3 M → AW shM 5 E 51 [some (.inr 0), none, some (.inl x2), some (.inl x3), none] [] M) (x2 : Int) (x3 : Int) (t0 : Int) (t1 : Int) (M : Mem) (hf : fMd_laysFrom_74 k51 R x2 x3 t0 t1 M) : AW shM 5 E 74 [some (.inr 0), none, some (.inl x2), some (.inl x3), none] [.inl t0, .inl t1, .inr 19] M := by
  obtain ⟨hg, hf⟩ := hf
  refine a_iast C (n := 512) rfl hg dX8_laysFrom_74 ?_
  refine a_aloadn C dX8_laysFrom_75 rfl ?_
  refine a_getR C 20 fl_X8_67 rfl rfl dX8_laysFrom_76 ?_
  refine a_iloadn C dX8_laysFrom_79 rfl ?_
  refine a_iconst C dX8_laysFrom_80 (inr_b rfl) ?_
  obtain ⟨hg, hf⟩ := hf
  refine a_iast C (n := 512) rfl hg dX8_laysFrom_81 ?_
  refine a_iinc C dX8_laysFrom_82 rfl (by decide) (lv2 := [some (.inr 0), none, some (.inl x2), some (.inl (wrap (x3 + 1))), none]) rfl ?_
  refine a_goto C 51 dX8_laysFrom_85 rfl ?_
  exact hk51 _ _ _ hf
set_option maxRecDepth 20000 in
set_option maxHeartbeats 4000000 in
theorem sMd_laysFrom_51 {E : EE} {R : Int → Mem → Prop} (C : Cx shM 5 cX8_laysFrom RX8 2 46 E) (X : Rx shM none R E) : ∀ (n : Nat) (x2 : Int) (x3 : Int) (M : Mem), fMd_laysFrom_51  R n x2 x3 M → AW shM 5 E 51 [some (.inr 0), none, some (.inl x2), some (.inl x3), none] [] M := by
  intro n
  induction n with
  | zero => intro x2 x3 M hf; exact hf.elim
  | succ n hk51 =>
    intro x2 x3 M hf
    refine a_iloadn C dX8_laysFrom_51 rfl ?_
    refine a_sipush C dX8_laysFrom_52 sp_512 ?_
    obtain ⟨hfa, hfb⟩ := hf
    refine a_icmp_ge C 88 dX8_laysFrom_55 rfl (fun hc => ?_) (fun hc => ?_)
    · have hf := hfa hc
      refine a_iloadn C dX8_laysFrom_88 rfl ?_
      refine a_istoren C dX8_laysFrom_89 (by decide) (lv2 := [some (.inr 0), none, some (.inl x2), some (.inl x2), none]) rfl ?_
      refine a_drop [true, true, false, true, true] (lv2 := [some (.inr 0), none, none, some (.inl x2), none]) rfl ?_
      obtain ⟨n3, hf⟩ := hf
      exact sMd_laysFrom_90 C X  n3 _ _ hf
    · have hf := hfb hc
      refine a_aloadn C dX8_laysFrom_58 rfl ?_
      refine a_getR C 19 fl_X8_64 rfl rfl dX8_laysFrom_59 ?_
      refine a_iloadn C dX8_laysFrom_62 rfl ?_
      refine a_iloadn C dX8_laysFrom_63 rfl ?_
      refine a_iloadn C dX8_laysFrom_64 rfl ?_
      obtain ⟨hfa, hfb⟩ := hf
      refine a_icmp_ne C 72 dX8_laysFrom_65 rfl (fun hc => ?_) (fun hc => ?_)
      · have hf := hfa hc
        refine a_ldc C dX8_laysFrom_72 ct_X8_250 (inr_b rfl) ?_
        exact sMd_laysFrom_74 C X hk51 _ _ _ _ _ hf
      · have hf := hfb hc
        refine a_iconst C dX8_laysFrom_68 (inr_b rfl) ?_
        refine a_goto C 74 dX8_laysFrom_69 rfl ?_
        exact sMd_laysFrom_74 C X hk51 _ _ _ _ _ hf
set_option maxRecDepth 20000 in
set_option maxHeartbeats 4000000 in
theorem sMd_laysFrom_6 {E : EE} {R : Int → Mem → Prop} (C : Cx shM 5 cX8_laysFrom RX8 2 46 E) (X : Rx shM none R E) : ∀ (n : Nat) (x1 : Int) (x2 : Int) (x3 : Int) (M : Mem), fMd_laysFrom_6  R n x1 x2 x3 M → AW shM 5 E 6 [some (.inr 0), some (.inl x1), some (.inl x2), some (.inl x3), none] [] M := by
  intro n
  induction n with
  | zero => intro x1 x2 x3 M hf; exact hf.elim
  | succ n hk6 =>
    intro x1 x2 x3 M hf
    refine a_iloadn C dX8_laysFrom_6 rfl ?_
    refine a_aloadn C dX8_laysFrom_7 rfl ?_
    refine a_getR C 15 fl_X8_52 rfl rfl dX8_laysFrom_8 ?_
    refine a_iloadn C dX8_laysFrom_11 rfl ?_
    obtain ⟨hg, hf⟩ := hf
    refine a_iald C (n := 16) rfl hg dX8_laysFrom_12 ?_
    obtain ⟨hfa, hfb⟩ := hf
    refine a_icmp_ge C 49 dX8_laysFrom_13 rfl (fun hc => ?_) (fun hc => ?_)
    · have hf := hfa hc
      refine a_iconst C dX8_laysFrom_49 (inr_b rfl) ?_
      refine a_istoren C dX8_laysFrom_50 (by decide) (lv2 := [some (.inr 0), some (.inl x1), some (.inl x2), some (.inl 0), none]) rfl ?_
      refine a_drop [true, false, true, true, true] (lv2 := [some (.inr 0), none, some (.inl x2), some (.inl 0), none]) rfl ?_
      obtain ⟨n4, hf⟩ := hf
      exact sMd_laysFrom_51 C X  n4 _ _ _ hf
    · have hf := hfb hc
      refine a_iloadn C dX8_laysFrom_16 rfl ?_
      refine a_aloadn C dX8_laysFrom_17 rfl ?_
      refine a_getR C 16 fl_X8_55 rfl rfl dX8_laysFrom_18 ?_
      refine a_iconst C dX8_laysFrom_21 (inr_b rfl) ?_
      refine a_iloadn C dX8_laysFrom_22 rfl ?_
      refine a_imul C dX8_laysFrom_23 ?_
      refine a_iloadn C dX8_laysFrom_24 rfl ?_
      refine a_iadd C dX8_laysFrom_25 ?_
      obtain ⟨hg, hf⟩ := hf
      refine a_iald C (n := 48) rfl hg dX8_laysFrom_26 ?_
      refine a_iloadn C dX8_laysFrom_27 rfl ?_
      refine a_iconst C dX8_laysFrom_28 (inr_b rfl) ?_
      refine a_iadd C dX8_laysFrom_29 ?_
      refine a_callS C [.inl x2, .inl (M 16 (wrap ((wrap (3 * x1)) + x3))), .inl (wrap (x3 + 1))] [] dX8_laysFrom_30 (cMd_with _ _ _) ms_X8_with ln_X8_244 ⟨rfl, rfl, Nat.le_of_ble_eq_true rfl, Nat.le_of_ble_eq_true rfl, Nat.le_of_ble_eq_true rfl⟩ hf (fun r5 M5 hf => ?_)
      refine a_iconst C dX8_laysFrom_33 (inr_b rfl) ?_
      refine a_bipush C dX8_laysFrom_34 bp_6 ?_
      refine a_iloadn C dX8_laysFrom_36 rfl ?_
      refine a_iadd C dX8_laysFrom_37 ?_
      refine a_ishl C dX8_laysFrom_38 ?_
      refine a_iconst C dX8_laysFrom_39 (inr_b rfl) ?_
      refine a_ixor C dX8_laysFrom_40 ?_
      refine a_iand C dX8_laysFrom_41 ?_
      refine a_istoren C dX8_laysFrom_42 (by decide) (lv2 := [some (.inr 0), some (.inl x1), some (.inl (b_iand r5 (b_ixor (b_ishl 1 (wrap (6 + x3))) (-1)))), some (.inl x3), none]) rfl ?_
      refine a_iinc C dX8_laysFrom_43 rfl (by decide) (lv2 := [some (.inr 0), some (.inl x1), some (.inl (b_iand r5 (b_ixor (b_ishl 1 (wrap (6 + x3))) (-1)))), some (.inl (wrap (x3 + 1))), none]) rfl ?_
      refine a_goto C 6 dX8_laysFrom_46 rfl ?_
      exact hk6 _ _ _ _ hf
set_option maxRecDepth 20000 in
set_option maxHeartbeats 4000000 in
theorem cMd_laysFrom (x1 : Int) : Snd shM yX8_laysFrom cX8_laysFrom 5 none 2 46 [.inr 0, .inl x1] (fMd_laysFrom x1) := by
  refine Snd.of RX8 (by decide +kernel) rfl (Nat.le_of_ble_eq_true rfl) ?_
  intro E M R hf C X
  show AW shM 5 E 0 [some (.inr 0), some (.inl x1), none, none, none] [] M
  refine a_sipush C dX8_laysFrom_0 sp_448 ?_
  refine a_istoren C dX8_laysFrom_3 (by decide) (lv2 := [some (.inr 0), some (.inl x1), some (.inl 448), none, none]) rfl ?_
  refine a_iconst C dX8_laysFrom_4 (inr_b rfl) ?_
  refine a_istoren C dX8_laysFrom_5 (by decide) (lv2 := [some (.inr 0), some (.inl x1), some (.inl 448), some (.inl 0), none]) rfl ?_
  obtain ⟨n6, hf⟩ := hf
  exact sMd_laysFrom_6 C X  n6 _ _ _ _ hf
set_option maxRecDepth 20000 in
set_option maxHeartbeats 4000000 in
theorem sMd_isAt_69 {E : EE} {R : Int → Mem → Prop} (C : Cx shM 5 cX8_isAt RX8 1 21 E) (X : Rx shM (some .boolean) R E) {k5 : Int → Int → Int → Int → Mem → Prop} (hk5 : ∀ (x1 : Int) (x2 : Int) (x3 : Int) (x4 : Int) (M : Mem), k5 x1 x2 x3 x4 M → AW shM 5 E 5 [some (.inr 0), some (.inl x1), some (.inl x2), some (.inl x3), some (.inl x4)] [] M) (x1 : Int) (x2 : Int) (x4 : Int) (t0 : Int) (M : Mem) (hf : fMd_isAt_69 k5 R x1 x2 x4 t0 M) : AW shM 5 E 69 [some (.inr 0), some (.inl x1), some (.inl x2), none, some (.inl x4)] [.inl t0] M := by
  refine a_istoren C dX8_isAt_69 (by decide) (lv2 := [some (.inr 0), some (.inl x1), some (.inl x2), some (.inl t0), some (.inl x4)]) rfl ?_
  refine a_iinc C dX8_isAt_70 rfl (by decide) (lv2 := [some (.inr 0), some (.inl x1), some (.inl x2), some (.inl t0), some (.inl (wrap (x4 + 1)))]) rfl ?_
  refine a_goto C 5 dX8_isAt_73 rfl ?_
  exact hk5 _ _ _ _ _ hf
set_option maxRecDepth 20000 in
set_option maxHeartbeats 4000000 in
theorem sMd_isAt_68 {E : EE} {R : Int → Mem → Prop} (C : Cx shM 5 cX8_isAt RX8 1 21 E) (X : Rx shM (some .boolean) R E) {k5 : Int → Int → Int → Int → Mem → Prop} (hk5 : ∀ (x1 : Int) (x2 : Int) (x3 : Int) (x4 : Int) (M : Mem), k5 x1 x2 x3 x4 M → AW shM 5 E 5 [some (.inr 0), some (.inl x1), some (.inl x2), some (.inl x3), some (.inl x4)] [] M) (x1 : Int) (x2 : Int) (x4 : Int) (M : Mem) (hf : fMd_isAt_68 k5 R x1 x2 x4 M) : AW shM 5 E 68 [some (.inr 0), some (.inl x1), some (.inl x2), none, some (.inl x4)] [] M := by
  refine a_iconst C dX8_isAt_68 (inr_b rfl) ?_
  exact sMd_isAt_69 C X hk5 _ _ _ _ _ hf
set_option maxRecDepth 20000 in
set_option maxHeartbeats 4000000 in
theorem sMd_isAt_64 {E : EE} {R : Int → Mem → Prop} (C : Cx shM 5 cX8_isAt RX8 1 21 E) (X : Rx shM (some .boolean) R E) {k5 : Int → Int → Int → Int → Mem → Prop} (hk5 : ∀ (x1 : Int) (x2 : Int) (x3 : Int) (x4 : Int) (M : Mem), k5 x1 x2 x3 x4 M → AW shM 5 E 5 [some (.inr 0), some (.inl x1), some (.inl x2), some (.inl x3), some (.inl x4)] [] M) (x1 : Int) (x2 : Int) (x4 : Int) (M : Mem) (hf : fMd_isAt_64 k5 R x1 x2 x4 M) : AW shM 5 E 64 [some (.inr 0), some (.inl x1), some (.inl x2), none, some (.inl x4)] [] M := by
  refine a_iconst C dX8_isAt_64 (inr_b rfl) ?_
  refine a_goto C 69 dX8_isAt_65 rfl ?_
  exact sMd_isAt_69 C X hk5 _ _ _ _ _ hf
set_option maxRecDepth 20000 in
set_option maxHeartbeats 4000000 in
theorem sMd_isAt_5 {E : EE} {R : Int → Mem → Prop} (C : Cx shM 5 cX8_isAt RX8 1 21 E) (X : Rx shM (some .boolean) R E) : ∀ (n : Nat) (x1 : Int) (x2 : Int) (x3 : Int) (x4 : Int) (M : Mem), fMd_isAt_5  R n x1 x2 x3 x4 M → AW shM 5 E 5 [some (.inr 0), some (.inl x1), some (.inl x2), some (.inl x3), some (.inl x4)] [] M := by
  intro n
  induction n with
  | zero => intro x1 x2 x3 x4 M hf; exact hf.elim
  | succ n hk5 =>
    intro x1 x2 x3 x4 M hf
    refine a_iload C dX8_isAt_5 rfl ?_
    refine a_iconst C dX8_isAt_7 (inr_b rfl) ?_
    obtain ⟨hfa, hfb⟩ := hf
    refine a_icmp_ge C 76 dX8_isAt_8 rfl (fun hc => ?_) (fun hc => ?_)
    · have hf := hfa hc
      refine a_iloadn C dX8_isAt_76 rfl ?_
      obtain ⟨hg, hf⟩ := hf
      exact a_bret C X hg dX8_isAt_77 hf
    · have hf := hfb hc
      refine a_iloadn C dX8_isAt_11 rfl ?_
      obtain ⟨hfa, hfb⟩ := hf
      refine a_if_eq C 68 dX8_isAt_12 rfl (fun hc => ?_) (fun hc => ?_)
      · have hf := hfa hc
        refine a_drop [true, true, true, false, true] (lv2 := [some (.inr 0), some (.inl x1), some (.inl x2), none, some (.inl x4)]) rfl ?_
        exact sMd_isAt_68 C X hk5 _ _ _ _ hf
      · have hf := hfb hc
        refine a_iload C dX8_isAt_15 rfl ?_
        refine a_aloadn C dX8_isAt_17 rfl ?_
        refine a_getR C 15 fl_X8_52 rfl rfl dX8_isAt_18 ?_
        refine a_iloadn C dX8_isAt_21 rfl ?_
        obtain ⟨hg, hf⟩ := hf
        refine a_iald C (n := 16) rfl hg dX8_isAt_22 ?_
        obtain ⟨hfa, hfb⟩ := hf
        refine a_icmp_ge C 51 dX8_isAt_23 rfl (fun hc => ?_) (fun hc => ?_)
        · have hf := hfa hc
          refine a_iloadn C dX8_isAt_51 rfl ?_
          refine a_bipush C dX8_isAt_52 bp_6 ?_
          refine a_iload C dX8_isAt_54 rfl ?_
          refine a_iadd C dX8_isAt_56 ?_
          refine a_ishr C dX8_isAt_57 ?_
          refine a_iconst C dX8_isAt_58 (inr_b rfl) ?_
          refine a_iand C dX8_isAt_59 ?_
          refine a_iconst C dX8_isAt_60 (inr_b rfl) ?_
          obtain ⟨hfa, hfb⟩ := hf
          refine a_icmp_ne C 68 dX8_isAt_61 rfl (fun hc => ?_) (fun hc => ?_)
          · have hf := hfa hc
            refine a_drop [true, true, true, false, true] (lv2 := [some (.inr 0), some (.inl x1), some (.inl x2), none, some (.inl x4)]) rfl ?_
            exact sMd_isAt_68 C X hk5 _ _ _ _ hf
          · have hf := hfb hc
            refine a_drop [true, true, true, false, true] (lv2 := [some (.inr 0), some (.inl x1), some (.inl x2), none, some (.inl x4)]) rfl ?_
            exact sMd_isAt_64 C X hk5 _ _ _ _ hf
        · have hf := hfb hc
          refine a_iloadn C dX8_isAt_26 rfl ?_
          refine a_aloadn C dX8_isAt_27 rfl ?_
          refine a_getR C 16 fl_X8_55 rfl rfl dX8_isAt_28 ?_
          refine a_iconst C dX8_isAt_31 (inr_b rfl) ?_
          refine a_iloadn C dX8_isAt_32 rfl ?_
          refine a_imul C dX8_isAt_33 ?_
          refine a_iload C dX8_isAt_34 rfl ?_
          refine a_iadd C dX8_isAt_36 ?_
          obtain ⟨hg, hf⟩ := hf
          refine a_iald C (n := 48) rfl hg dX8_isAt_37 ?_
          refine a_callS C [.inl x1, .inl (M 16 (wrap ((wrap (3 * x2)) + x4)))] [] dX8_isAt_38 (cMd_hasOf _ _) ms_X8_hasOf ln_X8_240 ⟨rfl, rfl, Nat.le_of_ble_eq_true rfl, Nat.le_of_ble_eq_true rfl, Nat.le_of_ble_eq_true rfl⟩ hf (fun r1 M1 hf => ?_)
          refine a_iload C dX8_isAt_41 rfl ?_
          refine a_iconst C dX8_isAt_43 (inr_b rfl) ?_
          refine a_iadd C dX8_isAt_44 ?_
          obtain ⟨hfa, hfb⟩ := hf
          refine a_icmp_ne C 68 dX8_isAt_45 rfl (fun hc => ?_) (fun hc => ?_)
          · have hf := hfa hc
            refine a_drop [true, true, true, false, true] (lv2 := [some (.inr 0), some (.inl x1), some (.inl x2), none, some (.inl x4)]) rfl ?_
            exact sMd_isAt_68 C X hk5 _ _ _ _ hf
          · have hf := hfb hc
            refine a_goto C 64 dX8_isAt_48 rfl ?_
            refine a_drop [true, true, true, false, true] (lv2 := [some (.inr 0), some (.inl x1), some (.inl x2), none, some (.inl x4)]) rfl ?_
            exact sMd_isAt_64 C X hk5 _ _ _ _ hf
set_option maxRecDepth 20000 in
set_option maxHeartbeats 4000000 in
theorem cMd_isAt (x1 x2 : Int) : Snd shM yX8_isAt cX8_isAt 5 (some .boolean) 1 21 [.inr 0, .inl x1, .inl x2] (fMd_isAt x1 x2) := by
  refine Snd.of RX8 (by decide +kernel) rfl (Nat.le_of_ble_eq_true rfl) ?_
  intro E M R hf C X
  show AW shM 5 E 0 [some (.inr 0), some (.inl x1), some (.inl x2), none, none] [] M
  refine a_iconst C dX8_isAt_0 (inr_b rfl) ?_
  refine a_istoren C dX8_isAt_1 (by decide) (lv2 := [some (.inr 0), some (.inl x1), some (.inl x2), some (.inl 1), none]) rfl ?_
  refine a_iconst C dX8_isAt_2 (inr_b rfl) ?_
  refine a_istore C dX8_isAt_3 (by decide) (lv2 := [some (.inr 0), some (.inl x1), some (.inl x2), some (.inl 1), some (.inl 0)]) rfl ?_
  obtain ⟨n2, hf⟩ := hf
  exact sMd_isAt_5 C X  n2 _ _ _ _ _ hf
set_option maxRecDepth 20000 in
set_option maxHeartbeats 4000000 in
theorem sMd_laysPassages_88 {E : EE} {R : Int → Mem → Prop} (C : Cx shM 5 cX8_laysPassages RX8 3 70 E) (X : Rx shM none R E) {k48 : Int → Int → Int → Int → Mem → Prop} (hk48 : ∀ (x1 : Int) (x2 : Int) (x3 : Int) (x4 : Int) (M : Mem), k48 x1 x2 x3 x4 M → AW shM 5 E 48 [some (.inr 0), some (.inl x1), some (.inl x2), some (.inl x3), some (.inl x4)] [] M) (x1 : Int) (x2 : Int) (x4 : Int) (t0 : Int) (M : Mem) (hf : fMd_laysPassages_88 k48 R x1 x2 x4 t0 M) : AW shM 5 E 88 [some (.inr 0), some (.inl x1), some (.inl x2), none, some (.inl x4)] [.inl t0] M := by
  refine a_istoren C dX8_laysPassages_88 (by decide) (lv2 := [some (.inr 0), some (.inl x1), some (.inl x2), some (.inl t0), some (.inl x4)]) rfl ?_
  refine a_iinc C dX8_laysPassages_89 rfl (by decide) (lv2 := [some (.inr 0), some (.inl x1), some (.inl x2), some (.inl t0), some (.inl (wrap (x4 + 1)))]) rfl ?_
  refine a_goto C 48 dX8_laysPassages_92 rfl ?_
  exact hk48 _ _ _ _ _ hf
set_option maxRecDepth 20000 in
set_option maxHeartbeats 4000000 in
theorem sMd_laysPassages_87 {E : EE} {R : Int → Mem → Prop} (C : Cx shM 5 cX8_laysPassages RX8 3 70 E) (X : Rx shM none R E) {k48 : Int → Int → Int → Int → Mem → Prop} (hk48 : ∀ (x1 : Int) (x2 : Int) (x3 : Int) (x4 : Int) (M : Mem), k48 x1 x2 x3 x4 M → AW shM 5 E 48 [some (.inr 0), some (.inl x1), some (.inl x2), some (.inl x3), some (.inl x4)] [] M) (x1 : Int) (x2 : Int) (x3 : Int) (x4 : Int) (M : Mem) (hf : fMd_laysPassages_87 k48 R x1 x2 x3 x4 M) : AW shM 5 E 87 [some (.inr 0), some (.inl x1), some (.inl x2), some (.inl x3), some (.inl x4)] [] M := by
  refine a_iloadn C dX8_laysPassages_87 rfl ?_
  refine a_drop [true, true, true, false, true] (lv2 := [some (.inr 0), some (.inl x1), some (.inl x2), none, some (.inl x4)]) rfl ?_
  exact sMd_laysPassages_88 C X hk48 _ _ _ _ _ hf
set_option maxRecDepth 20000 in
set_option maxHeartbeats 4000000 in
theorem sMd_laysPassages_48 {E : EE} {R : Int → Mem → Prop} (C : Cx shM 5 cX8_laysPassages RX8 3 70 E) (X : Rx shM none R E) {k34 : Int → Int → Mem → Prop} (hk34 : ∀ (x1 : Int) (x2 : Int) (M : Mem), k34 x1 x2 M → AW shM 5 E 34 [some (.inr 0), some (.inl x1), some (.inl x2), none, none] [] M) : ∀ (n : Nat) (x1 : Int) (x2 : Int) (x3 : Int) (x4 : Int) (M : Mem), fMd_laysPassages_48 k34 R n x1 x2 x3 x4 M → AW shM 5 E 48 [some (.inr 0), some (.inl x1), some (.inl x2), some (.inl x3), some (.inl x4)] [] M := by
  intro n
  induction n with
  | zero => intro x1 x2 x3 x4 M hf; exact hf.elim
  | succ n hk48 =>
    intro x1 x2 x3 x4 M hf
    refine a_iload C dX8_laysPassages_48 rfl ?_
    refine a_sipush C dX8_laysPassages_50 sp_512 ?_
    obtain ⟨hfa, hfb⟩ := hf
    refine a_icmp_ge C 95 dX8_laysPassages_53 rfl (fun hc => ?_) (fun hc => ?_)
    · have hf := hfa hc
      refine a_aloadn C dX8_laysPassages_95 rfl ?_
      refine a_getR C 18 fl_X8_61 rfl rfl dX8_laysPassages_96 ?_
      refine a_bipush C dX8_laysPassages_99 bp_16 ?_
      refine a_iloadn C dX8_laysPassages_101 rfl ?_
      refine a_imul C dX8_laysPassages_102 ?_
      refine a_iloadn C dX8_laysPassages_103 rfl ?_
      refine a_iadd C dX8_laysPassages_104 ?_
      refine a_iloadn C dX8_laysPassages_105 rfl ?_
      obtain ⟨hg, hf⟩ := hf
      refine a_iast C (n := 256) rfl hg dX8_laysPassages_106 ?_
      refine a_iinc C dX8_laysPassages_107 rfl (by decide) (lv2 := [some (.inr 0), some (.inl x1), some (.inl (wrap (x2 + 1))), some (.inl x3), some (.inl x4)]) rfl ?_
      refine a_goto C 34 dX8_laysPassages_110 rfl ?_
      refine a_drop [true, true, true, false, false] (lv2 := [some (.inr 0), some (.inl x1), some (.inl (wrap (x2 + 1))), none, none]) rfl ?_
      exact hk34 _ _ _ hf
    · have hf := hfb hc
      refine a_aloadn C dX8_laysPassages_56 rfl ?_
      refine a_getR C 19 fl_X8_64 rfl rfl dX8_laysPassages_57 ?_
      refine a_iload C dX8_laysPassages_60 rfl ?_
      obtain ⟨hg, hf⟩ := hf
      refine a_iald C (n := 512) rfl hg dX8_laysPassages_62 ?_
      refine a_iloadn C dX8_laysPassages_63 rfl ?_
      obtain ⟨hfa, hfb⟩ := hf
      refine a_icmp_ge C 87 dX8_laysPassages_64 rfl (fun hc => ?_) (fun hc => ?_)
      · have hf := hfa hc
        exact sMd_laysPassages_87 C X hk48 _ _ _ _ _ hf
      · have hf := hfb hc
        refine a_aloadn C dX8_laysPassages_67 rfl ?_
        refine a_iload C dX8_laysPassages_68 rfl ?_
        refine a_iloadn C dX8_laysPassages_70 rfl ?_
        refine a_callV C [.inl x4, .inl x2] [] dX8_laysPassages_71 (cMd_isAt _ _) mv_X8_isAt ln_X8_258 rfl rfl ⟨rfl, rfl, Nat.le_of_ble_eq_true rfl, Nat.le_of_ble_eq_true rfl, Nat.le_of_ble_eq_true rfl⟩ hf (fun r3 M3 hf => ?_)
        obtain ⟨hfa, hfb⟩ := hf
        refine a_if_eq C 87 dX8_laysPassages_74 rfl (fun hc => ?_) (fun hc => ?_)
        · have hf := hfa hc
          exact sMd_laysPassages_87 C X hk48 _ _ _ _ _ hf
        · have hf := hfb hc
          refine a_aloadn C dX8_laysPassages_77 rfl ?_
          refine a_getR C 19 fl_X8_64 rfl rfl dX8_laysPassages_78 ?_
          refine a_iload C dX8_laysPassages_81 rfl ?_
          obtain ⟨hg, hf⟩ := hf
          refine a_iald C (n := 512) rfl hg dX8_laysPassages_83 ?_
          refine a_goto C 88 dX8_laysPassages_84 rfl ?_
          refine a_drop [true, true, true, false, true] (lv2 := [some (.inr 0), some (.inl x1), some (.inl x2), none, some (.inl x4)]) rfl ?_
          exact sMd_laysPassages_88 C X hk48 _ _ _ _ _ hf
set_option maxRecDepth 20000 in
set_option maxHeartbeats 4000000 in
theorem sMd_laysPassages_34 {E : EE} {R : Int → Mem → Prop} (C : Cx shM 5 cX8_laysPassages RX8 3 70 E) (X : Rx shM none R E) {k19 : Int → Mem → Prop} (hk19 : ∀ (x1 : Int) (M : Mem), k19 x1 M → AW shM 5 E 19 [some (.inr 0), some (.inl x1), none, none, none] [] M) : ∀ (n : Nat) (x1 : Int) (x2 : Int) (M : Mem), fMd_laysPassages_34 k19 R n x1 x2 M → AW shM 5 E 34 [some (.inr 0), some (.inl x1), some (.inl x2), none, none] [] M := by
  intro n
  induction n with
  | zero => intro x1 x2 M hf; exact hf.elim
  | succ n hk34 =>
    intro x1 x2 M hf
    refine a_iloadn C dX8_laysPassages_34 rfl ?_
    refine a_aloadn C dX8_laysPassages_35 rfl ?_
    refine a_getI C (kz := 20) fl_X8_200 rfl rfl rfl dX8_laysPassages_36 ?_
    obtain ⟨hfa, hfb⟩ := hf
    refine a_icmp_ge C 113 dX8_laysPassages_39 rfl (fun hc => ?_) (fun hc => ?_)
    · have hf := hfa hc
      refine a_iinc C dX8_laysPassages_113 rfl (by decide) (lv2 := [some (.inr 0), some (.inl (wrap (x1 + 1))), some (.inl x2), none, none]) rfl ?_
      refine a_goto C 19 dX8_laysPassages_116 rfl ?_
      refine a_drop [true, true, false, true, true] (lv2 := [some (.inr 0), some (.inl (wrap (x1 + 1))), none, none, none]) rfl ?_
      exact hk19 _ _ hf
    · have hf := hfb hc
      refine a_ldc C dX8_laysPassages_42 ct_X8_250 (inr_b rfl) ?_
      refine a_istoren C dX8_laysPassages_44 (by decide) (lv2 := [some (.inr 0), some (.inl x1), some (.inl x2), some (.inl 1000000000), none]) rfl ?_
      refine a_iconst C dX8_laysPassages_45 (inr_b rfl) ?_
      refine a_istore C dX8_laysPassages_46 (by decide) (lv2 := [some (.inr 0), some (.inl x1), some (.inl x2), some (.inl 1000000000), some (.inl 0)]) rfl ?_
      obtain ⟨n4, hf⟩ := hf
      exact sMd_laysPassages_48 C X hk34 n4 _ _ _ _ _ hf
set_option maxRecDepth 20000 in
set_option maxHeartbeats 4000000 in
theorem sMd_laysPassages_19 {E : EE} {R : Int → Mem → Prop} (C : Cx shM 5 cX8_laysPassages RX8 3 70 E) (X : Rx shM none R E) : ∀ (n : Nat) (x1 : Int) (M : Mem), fMd_laysPassages_19  R n x1 M → AW shM 5 E 19 [some (.inr 0), some (.inl x1), none, none, none] [] M := by
  intro n
  induction n with
  | zero => intro x1 M hf; exact hf.elim
  | succ n hk19 =>
    intro x1 M hf
    refine a_iloadn C dX8_laysPassages_19 rfl ?_
    refine a_aloadn C dX8_laysPassages_20 rfl ?_
    refine a_getI C (kz := 20) fl_X8_200 rfl rfl rfl dX8_laysPassages_21 ?_
    obtain ⟨hfa, hfb⟩ := hf
    refine a_icmp_ge C 119 dX8_laysPassages_24 rfl (fun hc => ?_) (fun hc => ?_)
    · have hf := hfa hc
      exact a_vret C X dX8_laysPassages_119 hf
    · have hf := hfb hc
      refine a_aloadn C dX8_laysPassages_27 rfl ?_
      refine a_iloadn C dX8_laysPassages_28 rfl ?_
      refine a_callV C [.inl x1] [] dX8_laysPassages_29 (cMd_laysFrom _) mv_X8_laysFrom ln_X8_255 rfl rfl ⟨rfl, rfl, Nat.le_of_ble_eq_true rfl, Nat.le_of_ble_eq_true rfl, Nat.le_of_ble_eq_true rfl⟩ hf (fun r2 M2 hf => ?_)
      refine a_iconst C dX8_laysPassages_32 (inr_b rfl) ?_
      refine a_istoren C dX8_laysPassages_33 (by decide) (lv2 := [some (.inr 0), some (.inl x1), some (.inl 0), none, none]) rfl ?_
      obtain ⟨n5, hf⟩ := hf
      exact sMd_laysPassages_34 C X hk19 n5 _ _ _ hf
set_option maxRecDepth 20000 in
set_option maxHeartbeats 4000000 in
theorem cMd_laysPassages : Snd shM yX8_laysPassages cX8_laysPassages 5 none 3 70 [.inr 0] fMd_laysPassages := by
  refine Snd.of RX8 (by decide +kernel) rfl (Nat.le_of_ble_eq_true rfl) ?_
  intro E M R hf C X
  show AW shM 5 E 0 [some (.inr 0), none, none, none, none] [] M
  refine a_aloadn C dX8_laysPassages_0 rfl ?_
  refine a_callV C [] [] dX8_laysPassages_1 (cMd_laysStates) mv_X8_laysStates ln_X8_207 rfl rfl ⟨rfl, rfl, Nat.le_of_ble_eq_true rfl, Nat.le_of_ble_eq_true rfl, Nat.le_of_ble_eq_true rfl⟩ hf (fun r1 M1 hf => ?_)
  refine a_aloadn C dX8_laysPassages_4 rfl ?_
  refine a_getI C (kz := 27) fl_X8_191 rfl rfl rfl dX8_laysPassages_5 ?_
  obtain ⟨hfa, hfb⟩ := hf
  refine a_if_eq C 12 dX8_laysPassages_8 rfl (fun hc => ?_) (fun hc => ?_)
  · have hf := hfa hc
    refine a_aloadn C dX8_laysPassages_12 rfl ?_
    refine a_iconst C dX8_laysPassages_13 (inr_b rfl) ?_
    refine a_putZ C (kz := 27) fp_X8_191 (Or.inr rfl) rfl rfl rfl dX8_laysPassages_14 ?_
    refine a_iconst C dX8_laysPassages_17 (inr_b rfl) ?_
    refine a_istoren C dX8_laysPassages_18 (by decide) (lv2 := [some (.inr 0), some (.inl 0), none, none, none]) rfl ?_
    obtain ⟨n6, hf⟩ := hf
    exact sMd_laysPassages_19 C X  n6 _ _ hf
  · have hf := hfb hc
    exact a_vret C X dX8_laysPassages_11 hf
set_option maxRecDepth 20000 in
set_option maxHeartbeats 4000000 in
theorem cMd_passage (x1 x2 : Int) : Snd shM yX8_passage cX8_passage 3 (some .int) 4 94 [.inr 0, .inl x1, .inl x2] (fMd_passage x1 x2) := by
  refine Snd.of RX8 (by decide +kernel) rfl (Nat.le_of_ble_eq_true rfl) ?_
  intro E M R hf C X
  show AW shM 3 E 0 [some (.inr 0), some (.inl x1), some (.inl x2)] [] M
  refine a_aloadn C dX8_passage_0 rfl ?_
  refine a_iloadn C dX8_passage_1 rfl ?_
  refine a_callV C [.inl x1] [] dX8_passage_2 (cMd_isState _) mv_X8_isState ln_X8_210 rfl rfl ⟨rfl, rfl, Nat.le_of_ble_eq_true rfl, Nat.le_of_ble_eq_true rfl, Nat.le_of_ble_eq_true rfl⟩ hf (fun r1 M1 hf => ?_)
  obtain ⟨hfa, hfb⟩ := hf
  refine a_if_eq C 16 dX8_passage_5 rfl (fun hc => ?_) (fun hc => ?_)
  · have hf := hfa hc
    refine a_iconst C dX8_passage_16 (inr_b rfl) ?_
    exact a_iret C X dX8_passage_17 hf
  · have hf := hfb hc
    refine a_aloadn C dX8_passage_8 rfl ?_
    refine a_iloadn C dX8_passage_9 rfl ?_
    refine a_callV C [.inl x2] [] dX8_passage_10 (cMd_isState _) mv_X8_isState ln_X8_210 rfl rfl ⟨rfl, rfl, Nat.le_of_ble_eq_true rfl, Nat.le_of_ble_eq_true rfl, Nat.le_of_ble_eq_true rfl⟩ hf (fun r2 M2 hf => ?_)
    obtain ⟨hfa, hfb⟩ := hf
    refine a_if_ne C 18 dX8_passage_13 rfl (fun hc => ?_) (fun hc => ?_)
    · have hf := hfa hc
      refine a_aloadn C dX8_passage_18 rfl ?_
      refine a_callV C [] [] dX8_passage_19 (cMd_laysPassages) mv_X8_laysPassages ln_X8_261 rfl rfl ⟨rfl, rfl, Nat.le_of_ble_eq_true rfl, Nat.le_of_ble_eq_true rfl, Nat.le_of_ble_eq_true rfl⟩ hf (fun r3 M3 hf => ?_)
      refine a_aloadn C dX8_passage_22 rfl ?_
      refine a_getR C 18 fl_X8_61 rfl rfl dX8_passage_23 ?_
      refine a_bipush C dX8_passage_26 bp_16 ?_
      refine a_iloadn C dX8_passage_28 rfl ?_
      refine a_imul C dX8_passage_29 ?_
      refine a_iloadn C dX8_passage_30 rfl ?_
      refine a_iadd C dX8_passage_31 ?_
      obtain ⟨hg, hf⟩ := hf
      refine a_iald C (n := 256) rfl hg dX8_passage_32 ?_
      exact a_iret C X dX8_passage_33 hf
    · have hf := hfb hc
      refine a_iconst C dX8_passage_16 (inr_b rfl) ?_
      exact a_iret C X dX8_passage_17 hf
set_option maxRecDepth 20000 in
set_option maxHeartbeats 4000000 in
theorem sMd_stateOf_72 {E : EE} {R : Int → Mem → Prop} (C : Cx shM 6 cX8_stateOf RX8 0 0 E) (X : Rx shM (some .int) R E) {k3 : Int → Int → Int → Int → Int → Mem → Prop} (hk3 : ∀ (x1 : Int) (x2 : Int) (x3 : Int) (x4 : Int) (x5 : Int) (M : Mem), k3 x1 x2 x3 x4 x5 M → AW shM 6 E 3 [some (.inr 0), some (.inl x1), some (.inl x2), some (.inl x3), some (.inl x4), some (.inl x5)] [] M) (x1 : Int) (x2 : Int) (x3 : Int) (x4 : Int) (x5 : Int) (M : Mem) (hf : fMd_stateOf_72 k3 R x1 x2 x3 x4 x5 M) : AW shM 6 E 72 [some (.inr 0), some (.inl x1), some (.inl x2), some (.inl x3), some (.inl x4), some (.inl x5)] [] M := by
  refine a_iinc C dX8_stateOf_72 rfl (by decide) (lv2 := [some (.inr 0), some (.inl x1), some (.inl x2), some (.inl x3), some (.inl x4), some (.inl (wrap (x5 + 1)))]) rfl ?_
  refine a_goto C 3 dX8_stateOf_75 rfl ?_
  exact hk3 _ _ _ _ _ _ hf
set_option maxRecDepth 20000 in
set_option maxHeartbeats 4000000 in
theorem sMd_stateOf_51 {E : EE} {R : Int → Mem → Prop} (C : Cx shM 6 cX8_stateOf RX8 0 0 E) (X : Rx shM (some .int) R E) {k3 : Int → Int → Int → Int → Int → Mem → Prop} (hk3 : ∀ (x1 : Int) (x2 : Int) (x3 : Int) (x4 : Int) (x5 : Int) (M : Mem), k3 x1 x2 x3 x4 x5 M → AW shM 6 E 3 [some (.inr 0), some (.inl x1), some (.inl x2), some (.inl x3), some (.inl x4), some (.inl x5)] [] M) (x1 : Int) (x2 : Int) (x3 : Int) (x4 : Int) (x5 : Int) (M : Mem) (hf : fMd_stateOf_51 k3 R x1 x2 x3 x4 x5 M) : AW shM 6 E 51 [some (.inr 0), some (.inl x1), some (.inl x2), some (.inl x3), some (.inl x4), some (.inl x5)] [] M := by
  refine a_iloadn C dX8_stateOf_51 rfl ?_
  refine a_iconst C dX8_stateOf_52 (inr_b rfl) ?_
  obtain ⟨hfa, hfb⟩ := hf
  refine a_icmp_le C 78 dX8_stateOf_53 rfl (fun hc => ?_) (fun hc => ?_)
  · have hf := hfa hc
    refine a_iload C dX8_stateOf_78 rfl ?_
    exact a_iret C X dX8_stateOf_80 hf
  · have hf := hfb hc
    refine a_aloadn C dX8_stateOf_56 rfl ?_
    refine a_getR C 16 fl_X8_55 rfl rfl dX8_stateOf_57 ?_
    refine a_iconst C dX8_stateOf_60 (inr_b rfl) ?_
    refine a_iload C dX8_stateOf_61 rfl ?_
    refine a_imul C dX8_stateOf_63 ?_
    refine a_iconst C dX8_stateOf_64 (inr_b rfl) ?_
    refine a_iadd C dX8_stateOf_65 ?_
    obtain ⟨hg, hf⟩ := hf
    refine a_iald C (n := 48) rfl hg dX8_stateOf_66 ?_
    refine a_iload C dX8_stateOf_67 rfl ?_
    obtain ⟨hfa, hfb⟩ := hf
    refine a_icmp_eq C 78 dX8_stateOf_69 rfl (fun hc => ?_) (fun hc => ?_)
    · have hf := hfa hc
      refine a_iload C dX8_stateOf_78 rfl ?_
      exact a_iret C X dX8_stateOf_80 hf
    · have hf := hfb hc
      exact sMd_stateOf_72 C X hk3 _ _ _ _ _ _ hf
set_option maxRecDepth 20000 in
set_option maxHeartbeats 4000000 in
theorem sMd_stateOf_31 {E : EE} {R : Int → Mem → Prop} (C : Cx shM 6 cX8_stateOf RX8 0 0 E) (X : Rx shM (some .int) R E) {k3 : Int → Int → Int → Int → Int → Mem → Prop} (hk3 : ∀ (x1 : Int) (x2 : Int) (x3 : Int) (x4 : Int) (x5 : Int) (M : Mem), k3 x1 x2 x3 x4 x5 M → AW shM 6 E 3 [some (.inr 0), some (.inl x1), some (.inl x2), some (.inl x3), some (.inl x4), some (.inl x5)] [] M) (x1 : Int) (x2 : Int) (x3 : Int) (x4 : Int) (x5 : Int) (M : Mem) (hf : fMd_stateOf_31 k3 R x1 x2 x3 x4 x5 M) : AW shM 6 E 31 [some (.inr 0), some (.inl x1), some (.inl x2), some (.inl x3), some (.inl x4), some (.inl x5)] [] M := by
  refine a_iloadn C dX8_stateOf_31 rfl ?_
  refine a_iconst C dX8_stateOf_32 (inr_b rfl) ?_
  obtain ⟨hfa, hfb⟩ := hf
  refine a_icmp_le C 51 dX8_stateOf_33 rfl (fun hc => ?_) (fun hc => ?_)
  · have hf := hfa hc
    exact sMd_stateOf_51 C X hk3 _ _ _ _ _ _ hf
  · have hf := hfb hc
    refine a_aloadn C dX8_stateOf_36 rfl ?_
    refine a_getR C 16 fl_X8_55 rfl rfl dX8_stateOf_37 ?_
    refine a_iconst C dX8_stateOf_40 (inr_b rfl) ?_
    refine a_iload C dX8_stateOf_41 rfl ?_
    refine a_imul C dX8_stateOf_43 ?_
    refine a_iconst C dX8_stateOf_44 (inr_b rfl) ?_
    refine a_iadd C dX8_stateOf_45 ?_
    obtain ⟨hg, hf⟩ := hf
    refine a_iald C (n := 48) rfl hg dX8_stateOf_46 ?_
    refine a_iloadn C dX8_stateOf_47 rfl ?_
    obtain ⟨hfa, hfb⟩ := hf
    refine a_icmp_ne C 72 dX8_stateOf_48 rfl (fun hc => ?_) (fun hc => ?_)
    · have hf := hfa hc
      exact sMd_stateOf_72 C X hk3 _ _ _ _ _ _ hf
    · have hf := hfb hc
      exact sMd_stateOf_51 C X hk3 _ _ _ _ _ _ hf
set_option maxRecDepth 20000 in
set_option maxHeartbeats 4000000 in
theorem sMd_stateOf_3 {E : EE} {R : Int → Mem → Prop} (C : Cx shM 6 cX8_stateOf RX8 0 0 E) (X : Rx shM (some .int) R E) : ∀ (n : Nat) (x1 : Int) (x2 : Int) (x3 : Int) (x4 : Int) (x5 : Int) (M : Mem), fMd_stateOf_3  R n x1 x2 x3 x4 x5 M → AW shM 6 E 3 [some (.inr 0), some (.inl x1), some (.inl x2), some (.inl x3), some (.inl x4), some (.inl x5)] [] M := by
  intro n
  induction n with
  | zero => intro x1 x2 x3 x4 x5 M hf; exact hf.elim
  | succ n hk3 =>
    intro x1 x2 x3 x4 x5 M hf
    refine a_aloadn C dX8_stateOf_3 rfl ?_
    refine a_getR C 15 fl_X8_52 rfl rfl dX8_stateOf_4 ?_
    refine a_iload C dX8_stateOf_7 rfl ?_
    obtain ⟨hg, hf⟩ := hf
    refine a_iald C (n := 16) rfl hg dX8_stateOf_9 ?_
    refine a_iloadn C dX8_stateOf_10 rfl ?_
    obtain ⟨hfa, hfb⟩ := hf
    refine a_icmp_ne C 72 dX8_stateOf_11 rfl (fun hc => ?_) (fun hc => ?_)
    · have hf := hfa hc
      exact sMd_stateOf_72 C X hk3 _ _ _ _ _ _ hf
    · have hf := hfb hc
      refine a_iloadn C dX8_stateOf_14 rfl ?_
      obtain ⟨hfa, hfb⟩ := hf
      refine a_if_le C 31 dX8_stateOf_15 rfl (fun hc => ?_) (fun hc => ?_)
      · have hf := hfa hc
        exact sMd_stateOf_31 C X hk3 _ _ _ _ _ _ hf
      · have hf := hfb hc
        refine a_aloadn C dX8_stateOf_18 rfl ?_
        refine a_getR C 16 fl_X8_55 rfl rfl dX8_stateOf_19 ?_
        refine a_iconst C dX8_stateOf_22 (inr_b rfl) ?_
        refine a_iload C dX8_stateOf_23 rfl ?_
        refine a_imul C dX8_stateOf_25 ?_
        obtain ⟨hg, hf⟩ := hf
        refine a_iald C (n := 48) rfl hg dX8_stateOf_26 ?_
        refine a_iloadn C dX8_stateOf_27 rfl ?_
        obtain ⟨hfa, hfb⟩ := hf
        refine a_icmp_ne C 72 dX8_stateOf_28 rfl (fun hc => ?_) (fun hc => ?_)
        · have hf := hfa hc
          exact sMd_stateOf_72 C X hk3 _ _ _ _ _ _ hf
        · have hf := hfb hc
          exact sMd_stateOf_31 C X hk3 _ _ _ _ _ _ hf
set_option maxRecDepth 20000 in
set_option maxHeartbeats 4000000 in
theorem cMd_stateOf (x1 x2 x3 x4 : Int) : Snd shM yX8_stateOf cX8_stateOf 6 (some .int) 0 0 [.inr 0, .inl x1, .inl x2, .inl x3, .inl x4] (fMd_stateOf x1 x2 x3 x4) := by
  refine Snd.of RX8 (by decide +kernel) rfl (Nat.le_of_ble_eq_true rfl) ?_
  intro E M R hf C X
  show AW shM 6 E 0 [some (.inr 0), some (.inl x1), some (.inl x2), some (.inl x3), some (.inl x4), none] [] M
  refine a_iconst C dX8_stateOf_0 (inr_b rfl) ?_
  refine a_istore C dX8_stateOf_1 (by decide) (lv2 := [some (.inr 0), some (.inl x1), some (.inl x2), some (.inl x3), some (.inl x4), some (.inl 0)]) rfl ?_
  obtain ⟨n1, hf⟩ := hf
  exact sMd_stateOf_3 C X  n1 _ _ _ _ _ _ hf
set_option maxRecDepth 20000 in
set_option maxHeartbeats 4000000 in
theorem sMd_turnsRegisters_68 {E : EE} {R : Int → Mem → Prop} (C : Cx shM 6 cX8_turnsRegisters RX8 1 25 E) (X : Rx shM none R E) (t0 : Int) (M : Mem) (hf : fMd_turnsRegisters_68  R t0 M) : AW shM 6 E 68 [none, none, none, none, none, none] [.inl t0, .inr 0] M := by
  refine a_putI C (kz := 23) fp_X8_217 rfl rfl rfl dX8_turnsRegisters_68 ?_
  exact a_vret C X dX8_turnsRegisters_71 hf
set_option maxRecDepth 20000 in
set_option maxHeartbeats 4000000 in
theorem cMd_turnsRegisters (x1 x2 : Int) : Snd shM yX8_turnsRegisters cX8_turnsRegisters 6 none 1 25 [.inr 0, .inl x1, .inl x2] (fMd_turnsRegisters x1 x2) := by
  refine Snd.of RX8 (by decide +kernel) rfl (Nat.le_of_ble_eq_true rfl) ?_
  intro E M R hf C X
  show AW shM 6 E 0 [some (.inr 0), some (.inl x1), some (.inl x2), none, none, none] [] M
  refine a_aloadn C dX8_turnsRegisters_0 rfl ?_
  refine a_getR C 16 fl_X8_55 rfl rfl dX8_turnsRegisters_1 ?_
  refine a_iconst C dX8_turnsRegisters_4 (inr_b rfl) ?_
  refine a_iloadn C dX8_turnsRegisters_5 rfl ?_
  refine a_imul C dX8_turnsRegisters_6 ?_
  obtain ⟨hg, hf⟩ := hf
  refine a_iald C (n := 48) rfl hg dX8_turnsRegisters_7 ?_
  refine a_istoren C dX8_turnsRegisters_8 (by decide) (lv2 := [some (.inr 0), some (.inl x1), some (.inl x2), some (.inl (M 16 (wrap (3 * x2)))), none, none]) rfl ?_
  refine a_aloadn C dX8_turnsRegisters_9 rfl ?_
  refine a_getR C 16 fl_X8_55 rfl rfl dX8_turnsRegisters_10 ?_
  refine a_iconst C dX8_turnsRegisters_13 (inr_b rfl) ?_
  refine a_iloadn C dX8_turnsRegisters_14 rfl ?_
  refine a_imul C dX8_turnsRegisters_15 ?_
  refine a_iconst C dX8_turnsRegisters_16 (inr_b rfl) ?_
  refine a_iadd C dX8_turnsRegisters_17 ?_
  obtain ⟨hg, hf⟩ := hf
  refine a_iald C (n := 48) rfl hg dX8_turnsRegisters_18 ?_
  refine a_istore C dX8_turnsRegisters_19 (by decide) (lv2 := [some (.inr 0), some (.inl x1), some (.inl x2), some (.inl (M 16 (wrap (3 * x2)))), some (.inl (M 16 (wrap ((wrap (3 * x2)) + 1)))), none]) rfl ?_
  refine a_aloadn C dX8_turnsRegisters_21 rfl ?_
  refine a_getR C 16 fl_X8_55 rfl rfl dX8_turnsRegisters_22 ?_
  refine a_iconst C dX8_turnsRegisters_25 (inr_b rfl) ?_
  refine a_iloadn C dX8_turnsRegisters_26 rfl ?_
  refine a_imul C dX8_turnsRegisters_27 ?_
  refine a_iconst C dX8_turnsRegisters_28 (inr_b rfl) ?_
  refine a_iadd C dX8_turnsRegisters_29 ?_
  obtain ⟨hg, hf⟩ := hf
  refine a_iald C (n := 48) rfl hg dX8_turnsRegisters_30 ?_
  refine a_istore C dX8_turnsRegisters_31 (by decide) (lv2 := [some (.inr 0), some (.inl x1), some (.inl x2), some (.inl (M 16 (wrap (3 * x2)))), some (.inl (M 16 (wrap ((wrap (3 * x2)) + 1)))), some (.inl (M 16 (wrap ((wrap (3 * x2)) + 2))))]) rfl ?_
  refine a_aloadn C dX8_turnsRegisters_33 rfl ?_
  refine a_iloadn C dX8_turnsRegisters_34 rfl ?_
  refine a_bipush C dX8_turnsRegisters_35 bp_120 ?_
  obtain ⟨hfa, hfb⟩ := hf
  refine a_icmp_ne C 58 dX8_turnsRegisters_37 rfl (fun hc => ?_) (fun hc => ?_)
  · have hf := hfa hc
    refine a_aloadn C dX8_turnsRegisters_58 rfl ?_
    refine a_iconst C dX8_turnsRegisters_59 (inr_b rfl) ?_
    refine a_iload C dX8_turnsRegisters_60 rfl ?_
    refine a_iloadn C dX8_turnsRegisters_62 rfl ?_
    refine a_iload C dX8_turnsRegisters_63 rfl ?_
    refine a_callV C [.inl 3, .inl (M 16 (wrap ((wrap (3 * x2)) + 2))), .inl (M 16 (wrap (3 * x2))), .inl (M 16 (wrap ((wrap (3 * x2)) + 1)))] [.inr 0] dX8_turnsRegisters_65 (cMd_stateOf _ _ _ _) mv_X8_stateOf ln_X8_213 rfl rfl ⟨rfl, rfl, Nat.le_of_ble_eq_true rfl, Nat.le_of_ble_eq_true rfl, Nat.le_of_ble_eq_true rfl⟩ hf (fun r1 M1 hf => ?_)
    refine a_drop [false, false, false, false, false, false] (lv2 := [none, none, none, none, none, none]) rfl ?_
    exact sMd_turnsRegisters_68 C X  _ _ hf
  · have hf := hfb hc
    refine a_aloadn C dX8_turnsRegisters_40 rfl ?_
    refine a_aloadn C dX8_turnsRegisters_41 rfl ?_
    refine a_getR C 15 fl_X8_52 rfl rfl dX8_turnsRegisters_42 ?_
    refine a_iloadn C dX8_turnsRegisters_45 rfl ?_
    obtain ⟨hg, hf⟩ := hf
    refine a_iald C (n := 16) rfl hg dX8_turnsRegisters_46 ?_
    refine a_iload C dX8_turnsRegisters_47 rfl ?_
    refine a_iloadn C dX8_turnsRegisters_49 rfl ?_
    refine a_iload C dX8_turnsRegisters_50 rfl ?_
    refine a_callV C [.inl (M 15 x2), .inl (M 16 (wrap ((wrap (3 * x2)) + 1))), .inl (M 16 (wrap (3 * x2))), .inl (M 16 (wrap ((wrap (3 * x2)) + 2)))] [.inr 0] dX8_turnsRegisters_52 (cMd_stateOf _ _ _ _) mv_X8_stateOf ln_X8_213 rfl rfl ⟨rfl, rfl, Nat.le_of_ble_eq_true rfl, Nat.le_of_ble_eq_true rfl, Nat.le_of_ble_eq_true rfl⟩ hf (fun r2 M2 hf => ?_)
    refine a_goto C 68 dX8_turnsRegisters_55 rfl ?_
    refine a_drop [false, false, false, false, false, false] (lv2 := [none, none, none, none, none, none]) rfl ?_
    exact sMd_turnsRegisters_68 C X  _ _ hf
set_option maxRecDepth 20000 in
set_option maxHeartbeats 4000000 in
theorem sMd_freeIn_35 {E : EE} {R : Int → Mem → Prop} (C : Cx shM 5 cX8_freeIn RX8 0 0 E) (X : Rx shM (some .int) R E) {k12 : Int → Int → Int → Int → Mem → Prop} (hk12 : ∀ (x1 : Int) (x2 : Int) (x3 : Int) (x4 : Int) (M : Mem), k12 x1 x2 x3 x4 M → AW shM 5 E 12 [some (.inr 0), some (.inl x1), some (.inl x2), some (.inl x3), some (.inl x4)] [] M) (x1 : Int) (x3 : Int) (x4 : Int) (t0 : Int) (t1 : Int) (M : Mem) (hf : fMd_freeIn_35 k12 R x1 x3 x4 t0 t1 M) : AW shM 5 E 35 [some (.inr 0), some (.inl x1), none, some (.inl x3), some (.inl x4)] [.inl t0, .inl t1] M := by
  refine a_iadd C dX8_freeIn_35 ?_
  refine a_istoren C dX8_freeIn_36 (by decide) (lv2 := [some (.inr 0), some (.inl x1), some (.inl (wrap (t1 + t0))), some (.inl x3), some (.inl x4)]) rfl ?_
  refine a_iinc C dX8_freeIn_37 rfl (by decide) (lv2 := [some (.inr 0), some (.inl x1), some (.inl (wrap (t1 + t0))), some (.inl x3), some (.inl (wrap (x4 + 1)))]) rfl ?_
  refine a_goto C 12 dX8_freeIn_40 rfl ?_
  exact hk12 _ _ _ _ _ hf
set_option maxRecDepth 20000 in
set_option maxHeartbeats 4000000 in
theorem sMd_freeIn_12 {E : EE} {R : Int → Mem → Prop} (C : Cx shM 5 cX8_freeIn RX8 0 0 E) (X : Rx shM (some .int) R E) {k4 : Int → Int → Int → Mem → Prop} (hk4 : ∀ (x1 : Int) (x2 : Int) (x3 : Int) (M : Mem), k4 x1 x2 x3 M → AW shM 5 E 4 [some (.inr 0), some (.inl x1), some (.inl x2), some (.inl x3), none] [] M) : ∀ (n : Nat) (x1 : Int) (x2 : Int) (x3 : Int) (x4 : Int) (M : Mem), fMd_freeIn_12 k4 R n x1 x2 x3 x4 M → AW shM 5 E 12 [some (.inr 0), some (.inl x1), some (.inl x2), some (.inl x3), some (.inl x4)] [] M := by
  intro n
  induction n with
  | zero => intro x1 x2 x3 x4 M hf; exact hf.elim
  | succ n hk12 =>
    intro x1 x2 x3 x4 M hf
    refine a_iload C dX8_freeIn_12 rfl ?_
    refine a_iloadn C dX8_freeIn_14 rfl ?_
    obtain ⟨hfa, hfb⟩ := hf
    refine a_icmp_ge C 43 dX8_freeIn_15 rfl (fun hc => ?_) (fun hc => ?_)
    · have hf := hfa hc
      refine a_iinc C dX8_freeIn_43 rfl (by decide) (lv2 := [some (.inr 0), some (.inl x1), some (.inl x2), some (.inl (wrap (x3 + 1))), some (.inl x4)]) rfl ?_
      refine a_goto C 4 dX8_freeIn_46 rfl ?_
      refine a_drop [true, true, true, true, false] (lv2 := [some (.inr 0), some (.inl x1), some (.inl x2), some (.inl (wrap (x3 + 1))), none]) rfl ?_
      exact hk4 _ _ _ _ hf
    · have hf := hfb hc
      refine a_iloadn C dX8_freeIn_18 rfl ?_
      refine a_aloadn C dX8_freeIn_19 rfl ?_
      refine a_getR C 17 fl_X8_58 rfl rfl dX8_freeIn_20 ?_
      refine a_iload C dX8_freeIn_23 rfl ?_
      obtain ⟨hg, hf⟩ := hf
      refine a_iald C (n := 3) rfl hg dX8_freeIn_25 ?_
      refine a_iloadn C dX8_freeIn_26 rfl ?_
      obtain ⟨hfa, hfb⟩ := hf
      refine a_icmp_ne C 34 dX8_freeIn_27 rfl (fun hc => ?_) (fun hc => ?_)
      · have hf := hfa hc
        refine a_iconst C dX8_freeIn_34 (inr_b rfl) ?_
        refine a_drop [true, true, false, true, true] (lv2 := [some (.inr 0), some (.inl x1), none, some (.inl x3), some (.inl x4)]) rfl ?_
        exact sMd_freeIn_35 C X hk12 _ _ _ _ _ _ hf
      · have hf := hfb hc
        refine a_iconst C dX8_freeIn_30 (inr_b rfl) ?_
        refine a_goto C 35 dX8_freeIn_31 rfl ?_
        refine a_drop [true, true, false, true, true] (lv2 := [some (.inr 0), some (.inl x1), none, some (.inl x3), some (.inl x4)]) rfl ?_
        exact sMd_freeIn_35 C X hk12 _ _ _ _ _ _ hf
set_option maxRecDepth 20000 in
set_option maxHeartbeats 4000000 in
theorem sMd_freeIn_4 {E : EE} {R : Int → Mem → Prop} (C : Cx shM 5 cX8_freeIn RX8 0 0 E) (X : Rx shM (some .int) R E) : ∀ (n : Nat) (x1 : Int) (x2 : Int) (x3 : Int) (M : Mem), fMd_freeIn_4  R n x1 x2 x3 M → AW shM 5 E 4 [some (.inr 0), some (.inl x1), some (.inl x2), some (.inl x3), none] [] M := by
  intro n
  induction n with
  | zero => intro x1 x2 x3 M hf; exact hf.elim
  | succ n hk4 =>
    intro x1 x2 x3 M hf
    refine a_iloadn C dX8_freeIn_4 rfl ?_
    refine a_iloadn C dX8_freeIn_5 rfl ?_
    obtain ⟨hfa, hfb⟩ := hf
    refine a_icmp_ge C 49 dX8_freeIn_6 rfl (fun hc => ?_) (fun hc => ?_)
    · have hf := hfa hc
      refine a_iloadn C dX8_freeIn_49 rfl ?_
      exact a_iret C X dX8_freeIn_50 hf
    · have hf := hfb hc
      refine a_iconst C dX8_freeIn_9 (inr_b rfl) ?_
      refine a_istore C dX8_freeIn_10 (by decide) (lv2 := [some (.inr 0), some (.inl x1), some (.inl x2), some (.inl x3), some (.inl 0)]) rfl ?_
      obtain ⟨n1, hf⟩ := hf
      exact sMd_freeIn_12 C X hk4 n1 _ _ _ _ _ hf
set_option maxRecDepth 20000 in
set_option maxHeartbeats 4000000 in
theorem cMd_freeIn (x1 : Int) : Snd shM yX8_freeIn cX8_freeIn 5 (some .int) 0 0 [.inr 0, .inl x1] (fMd_freeIn x1) := by
  refine Snd.of RX8 (by decide +kernel) rfl (Nat.le_of_ble_eq_true rfl) ?_
  intro E M R hf C X
  show AW shM 5 E 0 [some (.inr 0), some (.inl x1), none, none, none] [] M
  refine a_iconst C dX8_freeIn_0 (inr_b rfl) ?_
  refine a_istoren C dX8_freeIn_1 (by decide) (lv2 := [some (.inr 0), some (.inl x1), some (.inl 0), none, none]) rfl ?_
  refine a_iconst C dX8_freeIn_2 (inr_b rfl) ?_
  refine a_istoren C dX8_freeIn_3 (by decide) (lv2 := [some (.inr 0), some (.inl x1), some (.inl 0), some (.inl 0), none]) rfl ?_
  obtain ⟨n2, hf⟩ := hf
  exact sMd_freeIn_4 C X  n2 _ _ _ _ hf
set_option maxRecDepth 20000 in
set_option maxHeartbeats 4000000 in
theorem cMd_leavesRest (x1 x2 : Int) : Snd shM yX8_leavesRest cX8_leavesRest 3 none 1 25 [.inr 0, .inl x1, .inl x2] (fMd_leavesRest x1 x2) := by
  refine Snd.of RX8 (by decide +kernel) rfl (Nat.le_of_ble_eq_true rfl) ?_
  intro E M R hf C X
  show AW shM 3 E 0 [some (.inr 0), some (.inl x1), some (.inl x2)] [] M
  refine a_iloadn C dX8_leavesRest_0 rfl ?_
  obtain ⟨hfa, hfb⟩ := hf
  refine a_if_ne C 34 dX8_leavesRest_1 rfl (fun hc => ?_) (fun hc => ?_)
  · have hf := hfa hc
    refine a_aloadn C dX8_leavesRest_34 rfl ?_
    refine a_aloadn C dX8_leavesRest_35 rfl ?_
    refine a_iloadn C dX8_leavesRest_36 rfl ?_
    refine a_iconst C dX8_leavesRest_37 (inr_b rfl) ?_
    refine a_iadd C dX8_leavesRest_38 ?_
    refine a_aloadn C dX8_leavesRest_39 rfl ?_
    refine a_iloadn C dX8_leavesRest_40 rfl ?_
    refine a_callV C [.inl x1] [.inl (wrap (x1 + 1)), .inr 0, .inr 0] dX8_leavesRest_41 (cMd_freeIn _) mv_X8_freeIn ln_X8_220 rfl rfl ⟨rfl, rfl, Nat.le_of_ble_eq_true rfl, Nat.le_of_ble_eq_true rfl, Nat.le_of_ble_eq_true rfl⟩ hf (fun r1 M1 hf => ?_)
    refine a_aloadn C dX8_leavesRest_44 rfl ?_
    refine a_getR C 17 fl_X8_58 rfl rfl dX8_leavesRest_45 ?_
    refine a_iconst C dX8_leavesRest_48 (inr_b rfl) ?_
    refine a_iald C (n := 3) rfl (inb_b rfl) dX8_leavesRest_49 ?_
    refine a_aloadn C dX8_leavesRest_50 rfl ?_
    refine a_getR C 17 fl_X8_58 rfl rfl dX8_leavesRest_51 ?_
    refine a_iconst C dX8_leavesRest_54 (inr_b rfl) ?_
    refine a_iald C (n := 3) rfl (inb_b rfl) dX8_leavesRest_55 ?_
    refine a_callV C [.inl (wrap (x1 + 1)), .inl r1, .inl (M1 17 0), .inl (M1 17 1)] [.inr 0] dX8_leavesRest_56 (cMd_stateOf _ _ _ _) mv_X8_stateOf ln_X8_213 rfl rfl ⟨rfl, rfl, Nat.le_of_ble_eq_true rfl, Nat.le_of_ble_eq_true rfl, Nat.le_of_ble_eq_true rfl⟩ hf (fun r2 M2 hf => ?_)
    refine a_putI C (kz := 23) fp_X8_217 rfl rfl rfl dX8_leavesRest_59 ?_
    exact a_vret C X dX8_leavesRest_62 hf
  · have hf := hfb hc
    refine a_aloadn C dX8_leavesRest_4 rfl ?_
    refine a_aloadn C dX8_leavesRest_5 rfl ?_
    refine a_iloadn C dX8_leavesRest_6 rfl ?_
    refine a_aloadn C dX8_leavesRest_7 rfl ?_
    refine a_getR C 17 fl_X8_58 rfl rfl dX8_leavesRest_8 ?_
    refine a_iconst C dX8_leavesRest_11 (inr_b rfl) ?_
    refine a_iald C (n := 3) rfl (inb_b rfl) dX8_leavesRest_12 ?_
    refine a_aloadn C dX8_leavesRest_13 rfl ?_
    refine a_getR C 17 fl_X8_58 rfl rfl dX8_leavesRest_14 ?_
    refine a_iconst C dX8_leavesRest_17 (inr_b rfl) ?_
    refine a_iald C (n := 3) rfl (inb_b rfl) dX8_leavesRest_18 ?_
    refine a_aloadn C dX8_leavesRest_19 rfl ?_
    refine a_getR C 17 fl_X8_58 rfl rfl dX8_leavesRest_20 ?_
    refine a_iconst C dX8_leavesRest_23 (inr_b rfl) ?_
    refine a_iald C (n := 3) rfl (inb_b rfl) dX8_leavesRest_24 ?_
    refine a_callV C [.inl x1, .inl (M 17 0), .inl (M 17 1), .inl (M 17 2)] [.inr 0] dX8_leavesRest_25 (cMd_stateOf _ _ _ _) mv_X8_stateOf ln_X8_213 rfl rfl ⟨rfl, rfl, Nat.le_of_ble_eq_true rfl, Nat.le_of_ble_eq_true rfl, Nat.le_of_ble_eq_true rfl⟩ hf (fun r3 M3 hf => ?_)
    refine a_putI C (kz := 23) fp_X8_217 rfl rfl rfl dX8_leavesRest_28 ?_
    refine a_goto C 62 dX8_leavesRest_31 rfl ?_
    exact a_vret C X dX8_leavesRest_62 hf
set_option maxRecDepth 20000 in
set_option maxHeartbeats 4000000 in
theorem sMd_hasVersion_234 {E : EE} {R : Int → Mem → Prop} (C : Cx shM 8 cX8_hasVersion RX8 2 50 E) (X : Rx shM (some .boolean) R E) (x5 : Int) (t0 : Int) (M : Mem) (hf : fMd_hasVersion_234  R x5 t0 M) : AW shM 8 E 234 [some (.inr 0), none, none, none, none, some (.inl x5), none, none] [.inl t0, .inr 0] M := by
  refine a_putI C (kz := 24) fp_X8_226 rfl rfl rfl dX8_hasVersion_234 ?_
  refine a_aloadn C dX8_hasVersion_237 rfl ?_
  refine a_iconst C dX8_hasVersion_238 (inr_b rfl) ?_
  refine a_putI C (kz := 23) fp_X8_217 rfl rfl rfl dX8_hasVersion_239 ?_
  refine a_iload C dX8_hasVersion_242 rfl ?_
  obtain ⟨hfa, hfb⟩ := hf
  refine a_if_ne C 251 dX8_hasVersion_244 rfl (fun hc => ?_) (fun hc => ?_)
  · have hf := hfa hc
    refine a_iconst C dX8_hasVersion_251 (inr_b rfl) ?_
    exact a_bret C X (Or.inl rfl) dX8_hasVersion_252 hf
  · have hf := hfb hc
    refine a_iconst C dX8_hasVersion_247 (inr_b rfl) ?_
    refine a_goto C 252 dX8_hasVersion_248 rfl ?_
    exact a_bret C X (Or.inr rfl) dX8_hasVersion_252 hf
set_option maxRecDepth 20000 in
set_option maxHeartbeats 4000000 in
theorem sMd_hasVersion_201 {E : EE} {R : Int → Mem → Prop} (C : Cx shM 8 cX8_hasVersion RX8 2 50 E) (X : Rx shM (some .boolean) R E) (x3 : Int) (x4 : Int) (x5 : Int) (t0 : Int) (M : Mem) (hf : fMd_hasVersion_201  R x3 x4 x5 t0 M) : AW shM 8 E 201 [some (.inr 0), none, none, some (.inl x3), some (.inl x4), some (.inl x5), none, none] [.inl t0, .inr 0] M := by
  obtain ⟨hg, hf⟩ := hf
  refine a_putZ C (kz := 25) fp_X8_223 hg rfl rfl rfl dX8_hasVersion_201 ?_
  refine a_aloadn C dX8_hasVersion_204 rfl ?_
  refine a_aloadn C dX8_hasVersion_205 rfl ?_
  refine a_getI C (kz := 25) fl_X8_223 rfl rfl rfl dX8_hasVersion_206 ?_
  obtain ⟨hfa, hfb⟩ := hf
  refine a_if_eq C 233 dX8_hasVersion_209 rfl (fun hc => ?_) (fun hc => ?_)
  · have hf := hfa hc
    refine a_iconst C dX8_hasVersion_233 (inr_b rfl) ?_
    refine a_drop [true, true, true, false, false, true, true, true] (lv2 := [some (.inr 0), none, none, none, none, some (.inl x5), none, none]) rfl ?_
    exact sMd_hasVersion_234 C X  _ _ _ hf
  · have hf := hfb hc
    refine a_aloadn C dX8_hasVersion_212 rfl ?_
    refine a_getR C 1 fl_X8_7 rfl rfl dX8_hasVersion_213 ?_
    refine a_iconst C dX8_hasVersion_216 (inr_b rfl) ?_
    refine a_iald C (n := 28) rfl (inb_b rfl) dX8_hasVersion_217 ?_
    refine a_iloadn C dX8_hasVersion_218 rfl ?_
    refine a_imul C dX8_hasVersion_219 ?_
    refine a_aloadn C dX8_hasVersion_220 rfl ?_
    refine a_getR C 1 fl_X8_7 rfl rfl dX8_hasVersion_221 ?_
    refine a_iconst C dX8_hasVersion_224 (inr_b rfl) ?_
    refine a_iald C (n := 28) rfl (inb_b rfl) dX8_hasVersion_225 ?_
    refine a_iload C dX8_hasVersion_226 rfl ?_
    refine a_imul C dX8_hasVersion_228 ?_
    refine a_iadd C dX8_hasVersion_229 ?_
    refine a_goto C 234 dX8_hasVersion_230 rfl ?_
    refine a_drop [true, true, true, false, false, true, true, true] (lv2 := [some (.inr 0), none, none, none, none, some (.inl x5), none, none]) rfl ?_
    exact sMd_hasVersion_234 C X  _ _ _ hf
set_option maxRecDepth 20000 in
set_option maxHeartbeats 4000000 in
theorem sMd_hasVersion_200 {E : EE} {R : Int → Mem → Prop} (C : Cx shM 8 cX8_hasVersion RX8 2 50 E) (X : Rx shM (some .boolean) R E) (x3 : Int) (x4 : Int) (x5 : Int) (M : Mem) (hf : fMd_hasVersion_200  R x3 x4 x5 M) : AW shM 8 E 200 [some (.inr 0), none, none, some (.inl x3), some (.inl x4), some (.inl x5), none, none] [.inr 0] M := by
  refine a_iconst C dX8_hasVersion_200 (inr_b rfl) ?_
  exact sMd_hasVersion_201 C X  _ _ _ _ _ hf
set_option maxRecDepth 20000 in
set_option maxHeartbeats 4000000 in
theorem sMd_hasVersion_184 {E : EE} {R : Int → Mem → Prop} (C : Cx shM 8 cX8_hasVersion RX8 2 50 E) (X : Rx shM (some .boolean) R E) (x1 : Int) (x3 : Int) (x4 : Int) (x5 : Int) (M : Mem) (hf : fMd_hasVersion_184  R x1 x3 x4 x5 M) : AW shM 8 E 184 [some (.inr 0), some (.inl x1), none, some (.inl x3), some (.inl x4), some (.inl x5), none, none] [] M := by
  refine a_aloadn C dX8_hasVersion_184 rfl ?_
  refine a_iload C dX8_hasVersion_185 rfl ?_
  obtain ⟨hfa, hfb⟩ := hf
  refine a_if_ne C 200 dX8_hasVersion_187 rfl (fun hc => ?_) (fun hc => ?_)
  · have hf := hfa hc
    refine a_drop [true, false, true, true, true, true, true, true] (lv2 := [some (.inr 0), none, none, some (.inl x3), some (.inl x4), some (.inl x5), none, none]) rfl ?_
    exact sMd_hasVersion_200 C X  _ _ _ _ hf
  · have hf := hfb hc
    refine a_iloadn C dX8_hasVersion_190 rfl ?_
    refine a_bipush C dX8_hasVersion_191 bp_112 ?_
    obtain ⟨hfa, hfb⟩ := hf
    refine a_icmp_eq C 200 dX8_hasVersion_193 rfl (fun hc => ?_) (fun hc => ?_)
    · have hf := hfa hc
      refine a_drop [true, false, true, true, true, true, true, true] (lv2 := [some (.inr 0), none, none, some (.inl x3), some (.inl x4), some (.inl x5), none, none]) rfl ?_
      exact sMd_hasVersion_200 C X  _ _ _ _ hf
    · have hf := hfb hc
      refine a_iconst C dX8_hasVersion_196 (inr_b rfl) ?_
      refine a_goto C 201 dX8_hasVersion_197 rfl ?_
      refine a_drop [true, false, true, true, true, true, true, true] (lv2 := [some (.inr 0), none, none, some (.inl x3), some (.inl x4), some (.inl x5), none, none]) rfl ?_
      exact sMd_hasVersion_201 C X  _ _ _ _ _ hf
set_option maxRecDepth 20000 in
set_option maxHeartbeats 4000000 in
theorem sMd_hasVersion_154 {E : EE} {R : Int → Mem → Prop} (C : Cx shM 8 cX8_hasVersion RX8 2 50 E) (X : Rx shM (some .boolean) R E) (x1 : Int) (x2 : Int) (M : Mem) (hf : fMd_hasVersion_154  R x1 x2 M) : AW shM 8 E 154 [some (.inr 0), some (.inl x1), some (.inl x2), none, none, none, none, none] [] M := by
  have hf : fMd_turnsRegisters x1 x2 M (fun r3 M3 => R 1 M3) := hf
  refine a_aloadn C dX8_hasVersion_154 rfl ?_
  refine a_iloadn C dX8_hasVersion_155 rfl ?_
  refine a_iloadn C dX8_hasVersion_156 rfl ?_
  refine a_callV C [.inl x1, .inl x2] [] dX8_hasVersion_157 (cMd_turnsRegisters _ _) mv_X8_turnsRegisters ln_X8_229 rfl rfl ⟨rfl, rfl, Nat.le_of_ble_eq_true rfl, Nat.le_of_ble_eq_true rfl, Nat.le_of_ble_eq_true rfl⟩ hf (fun r3 M3 hf => ?_)
  refine a_goto C 182 dX8_hasVersion_160 rfl ?_
  refine a_iconst C dX8_hasVersion_182 (inr_b rfl) ?_
  exact a_bret C X (Or.inr rfl) dX8_hasVersion_183 hf
set_option maxRecDepth 20000 in
set_option maxHeartbeats 4000000 in
theorem sMd_hasVersion_179 {E : EE} {R : Int → Mem → Prop} (C : Cx shM 8 cX8_hasVersion RX8 2 50 E) (X : Rx shM (some .boolean) R E) (t0 : Int) (t1 : Int) (M : Mem) (hf : fMd_hasVersion_179  R t0 t1 M) : AW shM 8 E 179 [none, none, none, none, none, none, none, none] [.inl t0, .inl t1, .inr 0] M := by
  have hf : fMd_leavesRest t1 t0 M (fun r4 M4 => R 1 M4) := hf
  refine a_callV C [.inl t1, .inl t0] [] dX8_hasVersion_179 (cMd_leavesRest _ _) mv_X8_leavesRest ln_X8_233 rfl rfl ⟨rfl, rfl, Nat.le_of_ble_eq_true rfl, Nat.le_of_ble_eq_true rfl, Nat.le_of_ble_eq_true rfl⟩ hf (fun r4 M4 hf => ?_)
  refine a_iconst C dX8_hasVersion_182 (inr_b rfl) ?_
  exact a_bret C X (Or.inr rfl) dX8_hasVersion_183 hf
set_option maxRecDepth 20000 in
set_option maxHeartbeats 4000000 in
theorem sMd_hasVersion_135 {E : EE} {R : Int → Mem → Prop} (C : Cx shM 8 cX8_hasVersion RX8 2 50 E) (X : Rx shM (some .boolean) R E) {k94 : Int → Int → Int → Int → Int → Int → Mem → Prop} (hk94 : ∀ (x1 : Int) (x2 : Int) (x4 : Int) (x5 : Int) (x6 : Int) (x7 : Int) (M : Mem), k94 x1 x2 x4 x5 x6 x7 M → AW shM 8 E 94 [some (.inr 0), some (.inl x1), some (.inl x2), none, some (.inl x4), some (.inl x5), some (.inl x6), some (.inl x7)] [] M) (x1 : Int) (x2 : Int) (x4 : Int) (x5 : Int) (x6 : Int) (x7 : Int) (t0 : Int) (t1 : Int) (M : Mem) (hf : fMd_hasVersion_135 k94 R x1 x2 x4 x5 x6 x7 t0 t1 M) : AW shM 8 E 135 [some (.inr 0), some (.inl x1), some (.inl x2), none, some (.inl x4), some (.inl x5), some (.inl x6), some (.inl x7)] [.inl t0, .inl t1, .inr 17] M := by
  obtain ⟨hg, hf⟩ := hf
  refine a_iast C (n := 3) rfl hg dX8_hasVersion_135 ?_
  refine a_iinc C dX8_hasVersion_136 rfl (by decide) (lv2 := [some (.inr 0), some (.inl x1), some (.inl x2), none, some (.inl x4), some (.inl x5), some (.inl x6), some (.inl (wrap (x7 + 1)))]) rfl ?_
  refine a_goto C 94 dX8_hasVersion_139 rfl ?_
  exact hk94 _ _ _ _ _ _ _ hf
set_option maxRecDepth 20000 in
set_option maxHeartbeats 4000000 in
theorem sMd_hasVersion_94 {E : EE} {R : Int → Mem → Prop} (C : Cx shM 8 cX8_hasVersion RX8 2 50 E) (X : Rx shM (some .boolean) R E) : ∀ (n : Nat) (x1 : Int) (x2 : Int) (x4 : Int) (x5 : Int) (x6 : Int) (x7 : Int) (M : Mem), fMd_hasVersion_94  R n x1 x2 x4 x5 x6 x7 M → AW shM 8 E 94 [some (.inr 0), some (.inl x1), some (.inl x2), none, some (.inl x4), some (.inl x5), some (.inl x6), some (.inl x7)] [] M := by
  intro n
  induction n with
  | zero => intro x1 x2 x4 x5 x6 x7 M hf; exact hf.elim
  | succ n hk94 =>
    intro x1 x2 x4 x5 x6 x7 M hf
    refine a_iload C dX8_hasVersion_94 rfl ?_
    refine a_iconst C dX8_hasVersion_96 (inr_b rfl) ?_
    obtain ⟨hfa, hfb⟩ := hf
    refine a_icmp_ge C 142 dX8_hasVersion_97 rfl (fun hc => ?_) (fun hc => ?_)
    · have hf := hfa hc
      refine a_iloadn C dX8_hasVersion_142 rfl ?_
      refine a_bipush C dX8_hasVersion_143 bp_120 ?_
      obtain ⟨hfa, hfb⟩ := hf
      refine a_icmp_eq C 154 dX8_hasVersion_145 rfl (fun hc => ?_) (fun hc => ?_)
      · have hf := hfa hc
        refine a_drop [true, true, true, true, false, false, false, false] (lv2 := [some (.inr 0), some (.inl x1), some (.inl x2), none, none, none, none, none]) rfl ?_
        exact sMd_hasVersion_154 C X  _ _ _ hf
      · have hf := hfb hc
        refine a_iloadn C dX8_hasVersion_148 rfl ?_
        refine a_bipush C dX8_hasVersion_149 bp_114 ?_
        obtain ⟨hfa, hfb⟩ := hf
        refine a_icmp_ne C 163 dX8_hasVersion_151 rfl (fun hc => ?_) (fun hc => ?_)
        · have hf := hfa hc
          refine a_aloadn C dX8_hasVersion_163 rfl ?_
          refine a_iload C dX8_hasVersion_164 rfl ?_
          refine a_iload C dX8_hasVersion_166 rfl ?_
          refine a_isub C dX8_hasVersion_168 ?_
          refine a_iload C dX8_hasVersion_169 rfl ?_
          obtain ⟨hfa, hfb⟩ := hf
          refine a_if_le C 178 dX8_hasVersion_171 rfl (fun hc => ?_) (fun hc => ?_)
          · have hf := hfa hc
            refine a_iconst C dX8_hasVersion_178 (inr_b rfl) ?_
            refine a_drop [false, false, false, true, false, false, false, false] (lv2 := [none, none, none, none, none, none, none, none]) rfl ?_
            exact sMd_hasVersion_179 C X  _ _ _ hf
          · have hf := hfb hc
            refine a_iconst C dX8_hasVersion_174 (inr_b rfl) ?_
            refine a_goto C 179 dX8_hasVersion_175 rfl ?_
            refine a_drop [false, false, false, true, false, false, false, false] (lv2 := [none, none, none, none, none, none, none, none]) rfl ?_
            exact sMd_hasVersion_179 C X  _ _ _ hf
        · have hf := hfb hc
          refine a_drop [true, true, true, true, false, false, false, false] (lv2 := [some (.inr 0), some (.inl x1), some (.inl x2), none, none, none, none, none]) rfl ?_
          exact sMd_hasVersion_154 C X  _ _ _ hf
    · have hf := hfb hc
      refine a_aloadn C dX8_hasVersion_100 rfl ?_
      refine a_getR C 17 fl_X8_58 rfl rfl dX8_hasVersion_101 ?_
      refine a_iload C dX8_hasVersion_104 rfl ?_
      refine a_iload C dX8_hasVersion_106 rfl ?_
      refine a_iload C dX8_hasVersion_108 rfl ?_
      refine a_iadd C dX8_hasVersion_110 ?_
      refine a_iload C dX8_hasVersion_111 rfl ?_
      obtain ⟨hfa, hfb⟩ := hf
      refine a_icmp_ge C 133 dX8_hasVersion_113 rfl (fun hc => ?_) (fun hc => ?_)
      · have hf := hfa hc
        refine a_bipush C dX8_hasVersion_133 bp_m4 ?_
        exact sMd_hasVersion_135 C X hk94 _ _ _ _ _ _ _ _ _ hf
      · have hf := hfb hc
        refine a_aloadn C dX8_hasVersion_116 rfl ?_
        refine a_getR C 16 fl_X8_55 rfl rfl dX8_hasVersion_117 ?_
        refine a_iconst C dX8_hasVersion_120 (inr_b rfl) ?_
        refine a_iloadn C dX8_hasVersion_121 rfl ?_
        refine a_imul C dX8_hasVersion_122 ?_
        refine a_iload C dX8_hasVersion_123 rfl ?_
        refine a_iadd C dX8_hasVersion_125 ?_
        refine a_iload C dX8_hasVersion_126 rfl ?_
        refine a_iadd C dX8_hasVersion_128 ?_
        obtain ⟨hg, hf⟩ := hf
        refine a_iald C (n := 48) rfl hg dX8_hasVersion_129 ?_
        refine a_goto C 135 dX8_hasVersion_130 rfl ?_
        exact sMd_hasVersion_135 C X hk94 _ _ _ _ _ _ _ _ _ hf
set_option maxRecDepth 20000 in
set_option maxHeartbeats 4000000 in
theorem sMd_hasVersion_89 {E : EE} {R : Int → Mem → Prop} (C : Cx shM 8 cX8_hasVersion RX8 2 50 E) (X : Rx shM (some .boolean) R E) (x1 : Int) (x2 : Int) (x4 : Int) (x5 : Int) (t0 : Int) (M : Mem) (hf : fMd_hasVersion_89  R x1 x2 x4 x5 t0 M) : AW shM 8 E 89 [some (.inr 0), some (.inl x1), some (.inl x2), none, some (.inl x4), some (.inl x5), none, none] [.inl t0] M := by
  refine a_istore C dX8_hasVersion_89 (by decide) (lv2 := [some (.inr 0), some (.inl x1), some (.inl x2), none, some (.inl x4), some (.inl x5), some (.inl t0), none]) rfl ?_
  refine a_iconst C dX8_hasVersion_91 (inr_b rfl) ?_
  refine a_istore C dX8_hasVersion_92 (by decide) (lv2 := [some (.inr 0), some (.inl x1), some (.inl x2), none, some (.inl x4), some (.inl x5), some (.inl t0), some (.inl 0)]) rfl ?_
  obtain ⟨n5, hf⟩ := hf
  exact sMd_hasVersion_94 C X  n5 _ _ _ _ _ _ _ hf
set_option maxRecDepth 20000 in
set_option maxHeartbeats 4000000 in
theorem sMd_hasVersion_84 {E : EE} {R : Int → Mem → Prop} (C : Cx shM 8 cX8_hasVersion RX8 2 50 E) (X : Rx shM (some .boolean) R E) (x1 : Int) (x2 : Int) (x4 : Int) (x5 : Int) (M : Mem) (hf : fMd_hasVersion_84  R x1 x2 x4 x5 M) : AW shM 8 E 84 [some (.inr 0), some (.inl x1), some (.inl x2), none, some (.inl x4), some (.inl x5), none, none] [] M := by
  refine a_iconst C dX8_hasVersion_84 (inr_b rfl) ?_
  refine a_goto C 89 dX8_hasVersion_85 rfl ?_
  exact sMd_hasVersion_89 C X  _ _ _ _ _ _ hf
set_option maxRecDepth 20000 in
set_option maxHeartbeats 4000000 in
theorem sMd_hasVersion_47 {E : EE} {R : Int → Mem → Prop} (C : Cx shM 8 cX8_hasVersion RX8 2 50 E) (X : Rx shM (some .boolean) R E) (x1 : Int) (x2 : Int) (x3 : Int) (x4 : Int) (x5 : Int) (t0 : Int) (M : Mem) (hf : fMd_hasVersion_47  R x1 x2 x3 x4 x5 t0 M) : AW shM 8 E 47 [some (.inr 0), some (.inl x1), some (.inl x2), some (.inl x3), some (.inl x4), some (.inl x5), none, none] [.inl t0, .inr 0] M := by
  refine a_putI C (kz := 24) fp_X8_226 rfl rfl rfl dX8_hasVersion_47 ?_
  refine a_iload C dX8_hasVersion_50 rfl ?_
  refine a_iloadn C dX8_hasVersion_52 rfl ?_
  obtain ⟨hfa, hfb⟩ := hf
  refine a_icmp_lt C 184 dX8_hasVersion_53 rfl (fun hc => ?_) (fun hc => ?_)
  · have hf := hfa hc
    refine a_drop [true, true, false, true, true, true, true, true] (lv2 := [some (.inr 0), some (.inl x1), none, some (.inl x3), some (.inl x4), some (.inl x5), none, none]) rfl ?_
    exact sMd_hasVersion_184 C X  _ _ _ _ _ hf
  · have hf := hfb hc
    refine a_aloadn C dX8_hasVersion_56 rfl ?_
    refine a_getR C 1 fl_X8_7 rfl rfl dX8_hasVersion_57 ?_
    refine a_iconst C dX8_hasVersion_60 (inr_b rfl) ?_
    refine a_iald C (n := 28) rfl (inb_b rfl) dX8_hasVersion_61 ?_
    refine a_iload C dX8_hasVersion_62 rfl ?_
    refine a_iloadn C dX8_hasVersion_64 rfl ?_
    refine a_isub C dX8_hasVersion_65 ?_
    refine a_iload C dX8_hasVersion_66 rfl ?_
    refine a_iadd C dX8_hasVersion_68 ?_
    obtain ⟨hfa, hfb⟩ := hf
    refine a_icmp_lt C 184 dX8_hasVersion_69 rfl (fun hc => ?_) (fun hc => ?_)
    · have hf := hfa hc
      refine a_drop [true, true, false, true, true, true, true, true] (lv2 := [some (.inr 0), some (.inl x1), none, some (.inl x3), some (.inl x4), some (.inl x5), none, none]) rfl ?_
      exact sMd_hasVersion_184 C X  _ _ _ _ _ hf
    · have hf := hfb hc
      refine a_iloadn C dX8_hasVersion_72 rfl ?_
      refine a_bipush C dX8_hasVersion_73 bp_100 ?_
      obtain ⟨hfa, hfb⟩ := hf
      refine a_icmp_eq C 84 dX8_hasVersion_75 rfl (fun hc => ?_) (fun hc => ?_)
      · have hf := hfa hc
        refine a_drop [true, true, true, false, true, true, true, true] (lv2 := [some (.inr 0), some (.inl x1), some (.inl x2), none, some (.inl x4), some (.inl x5), none, none]) rfl ?_
        exact sMd_hasVersion_84 C X  _ _ _ _ _ hf
      · have hf := hfb hc
        refine a_iloadn C dX8_hasVersion_78 rfl ?_
        refine a_bipush C dX8_hasVersion_79 bp_111 ?_
        obtain ⟨hfa, hfb⟩ := hf
        refine a_icmp_ne C 88 dX8_hasVersion_81 rfl (fun hc => ?_) (fun hc => ?_)
        · have hf := hfa hc
          refine a_iloadn C dX8_hasVersion_88 rfl ?_
          refine a_drop [true, true, true, false, true, true, true, true] (lv2 := [some (.inr 0), some (.inl x1), some (.inl x2), none, some (.inl x4), some (.inl x5), none, none]) rfl ?_
          exact sMd_hasVersion_89 C X  _ _ _ _ _ _ hf
        · have hf := hfb hc
          refine a_drop [true, true, true, false, true, true, true, true] (lv2 := [some (.inr 0), some (.inl x1), some (.inl x2), none, some (.inl x4), some (.inl x5), none, none]) rfl ?_
          exact sMd_hasVersion_84 C X  _ _ _ _ _ hf
set_option maxRecDepth 20000 in
set_option maxHeartbeats 4000000 in
theorem sMd_hasVersion_37 {E : EE} {R : Int → Mem → Prop} (C : Cx shM 8 cX8_hasVersion RX8 2 50 E) (X : Rx shM (some .boolean) R E) (x1 : Int) (x2 : Int) (x3 : Int) (x4 : Int) (x5 : Int) (M : Mem) (hf : fMd_hasVersion_37  R x1 x2 x3 x4 x5 M) : AW shM 8 E 37 [some (.inr 0), some (.inl x1), some (.inl x2), some (.inl x3), some (.inl x4), some (.inl x5), none, none] [.inr 0] M := by
  refine a_aloadn C dX8_hasVersion_37 rfl ?_
  refine a_getR C 1 fl_X8_7 rfl rfl dX8_hasVersion_38 ?_
  refine a_iconst C dX8_hasVersion_41 (inr_b rfl) ?_
  refine a_iald C (n := 28) rfl (inb_b rfl) dX8_hasVersion_42 ?_
  refine a_goto C 47 dX8_hasVersion_43 rfl ?_
  exact sMd_hasVersion_47 C X  _ _ _ _ _ _ _ hf
set_option maxRecDepth 20000 in
set_option maxHeartbeats 4000000 in
theorem cMd_hasVersion (x1 x2 : Int) : Snd shM yX8_hasVersion cX8_hasVersion 8 (some .boolean) 2 50 [.inr 0, .inl x1, .inl x2] (fMd_hasVersion x1 x2) := by
  refine Snd.of RX8 (by decide +kernel) rfl (Nat.le_of_ble_eq_true rfl) ?_
  intro E M R hf C X
  show AW shM 8 E 0 [some (.inr 0), some (.inl x1), some (.inl x2), none, none, none, none, none] [] M
  refine a_iloadn C dX8_hasVersion_0 rfl ?_
  refine a_callS C [.inl x1] [] dX8_hasVersion_1 (cMd_takes _) ms_X8_takes ln_X8_152 ⟨rfl, rfl, Nat.le_of_ble_eq_true rfl, Nat.le_of_ble_eq_true rfl, Nat.le_of_ble_eq_true rfl⟩ hf (fun r1 M1 hf => ?_)
  refine a_istoren C dX8_hasVersion_4 (by decide) (lv2 := [some (.inr 0), some (.inl x1), some (.inl x2), some (.inl r1), none, none, none, none]) rfl ?_
  refine a_iloadn C dX8_hasVersion_5 rfl ?_
  refine a_callS C [.inl x1] [] dX8_hasVersion_6 (cMd_comes _) ms_X8_comes ln_X8_155 ⟨rfl, rfl, Nat.le_of_ble_eq_true rfl, Nat.le_of_ble_eq_true rfl, Nat.le_of_ble_eq_true rfl⟩ hf (fun r2 M2 hf => ?_)
  refine a_istore C dX8_hasVersion_9 (by decide) (lv2 := [some (.inr 0), some (.inl x1), some (.inl x2), some (.inl r1), some (.inl r2), none, none, none]) rfl ?_
  refine a_aloadn C dX8_hasVersion_11 rfl ?_
  refine a_getR C 15 fl_X8_52 rfl rfl dX8_hasVersion_12 ?_
  refine a_iloadn C dX8_hasVersion_15 rfl ?_
  obtain ⟨hg, hf⟩ := hf
  refine a_iald C (n := 16) rfl hg dX8_hasVersion_16 ?_
  refine a_istore C dX8_hasVersion_17 (by decide) (lv2 := [some (.inr 0), some (.inl x1), some (.inl x2), some (.inl r1), some (.inl r2), some (.inl (M2 15 x2)), none, none]) rfl ?_
  refine a_aloadn C dX8_hasVersion_19 rfl ?_
  refine a_iconst C dX8_hasVersion_20 (inr_b rfl) ?_
  refine a_putZ C (kz := 25) fp_X8_223 (Or.inl rfl) rfl rfl rfl dX8_hasVersion_21 ?_
  refine a_aloadn C dX8_hasVersion_24 rfl ?_
  refine a_iloadn C dX8_hasVersion_25 rfl ?_
  refine a_bipush C dX8_hasVersion_26 bp_100 ?_
  obtain ⟨hfa, hfb⟩ := hf
  refine a_icmp_eq C 37 dX8_hasVersion_28 rfl (fun hc => ?_) (fun hc => ?_)
  · have hf := hfa hc
    exact sMd_hasVersion_37 C X  _ _ _ _ _ _ hf
  · have hf := hfb hc
    refine a_iloadn C dX8_hasVersion_31 rfl ?_
    refine a_bipush C dX8_hasVersion_32 bp_111 ?_
    obtain ⟨hfa, hfb⟩ := hf
    refine a_icmp_ne C 46 dX8_hasVersion_34 rfl (fun hc => ?_) (fun hc => ?_)
    · have hf := hfa hc
      refine a_iconst C dX8_hasVersion_46 (inr_b rfl) ?_
      exact sMd_hasVersion_47 C X  _ _ _ _ _ _ _ hf
    · have hf := hfb hc
      exact sMd_hasVersion_37 C X  _ _ _ _ _ _ hf
