set_option maxRecDepth 20000 in
set_option maxHeartbeats 4000000 in
theorem sMa_listState_8 {E : EE} {R : Int → Mem → Prop} (C : Cx shX 7 cX2_listState RX2 1 22 E) (X : Rx shX none R E) : ∀ (n : Nat) (x1 : Int) (x3 : Int) (x4 : Int) (x5 : Int) (M : Mem), fMa_listState_8  R n x1 x3 x4 x5 M → AW shX 7 E 8 [some (.inr 8), some (.inl x1), none, some (.inl x3), some (.inl x4), some (.inl x5), none] [] M := by
  intro n
  induction n with
  | zero => intro x1 x3 x4 x5 M hf; exact hf.elim
  | succ n hk8 =>
    intro x1 x3 x4 x5 M hf
    refine a_iload C dX2_listState_8 rfl ?_
    refine a_iloadn C dX2_listState_10 rfl ?_
    obtain ⟨hfa, hfb⟩ := hf
    refine a_icmp_ge C 67 dX2_listState_11 rfl (fun hc => ?_) (fun hc => ?_)
    · have hf := hfa hc
      refine a_aloadn C dX2_listState_67 rfl ?_
      refine a_getI C (kz := 4) fl_X2_24 rfl rfl rfl dX2_listState_68 ?_
      refine a_bipush C dX2_listState_71 bp_16 ?_
      obtain ⟨hfa, hfb⟩ := hf
      refine a_icmp_ne C 77 dX2_listState_73 rfl (fun hc => ?_) (fun hc => ?_)
      · have hf := hfa hc
        refine a_aloadn C dX2_listState_77 rfl ?_
        refine a_getR C 9 fl_X2_27 rfl rfl dX2_listState_78 ?_
        refine a_aloadn C dX2_listState_81 rfl ?_
        refine a_getI C (kz := 4) fl_X2_24 rfl rfl rfl dX2_listState_82 ?_
        refine a_iloadn C dX2_listState_85 rfl ?_
        obtain ⟨hg, hf⟩ := hf
        refine a_iast C (n := 16) rfl hg dX2_listState_86 ?_
        refine a_aloadn C dX2_listState_87 rfl ?_
        refine a_getR C 10 fl_X2_31 rfl rfl dX2_listState_88 ?_
        refine a_aloadn C dX2_listState_91 rfl ?_
        refine a_getI C (kz := 4) fl_X2_24 rfl rfl rfl dX2_listState_92 ?_
        refine a_iloadn C dX2_listState_95 rfl ?_
        obtain ⟨hg, hf⟩ := hf
        refine a_iast C (n := 16) rfl hg dX2_listState_96 ?_
        refine a_aloadn C dX2_listState_97 rfl ?_
        refine a_getR C 11 fl_X2_34 rfl rfl dX2_listState_98 ?_
        refine a_iloadn C dX2_listState_101 rfl ?_
        refine a_aloadn C dX2_listState_102 rfl ?_
        refine a_getI C (kz := 4) fl_X2_24 rfl rfl rfl dX2_listState_103 ?_
        obtain ⟨hg, hf⟩ := hf
        refine a_iast C (n := 64) rfl hg dX2_listState_106 ?_
        refine a_aloadn C dX2_listState_107 rfl ?_
        refine a_dup C dX2_listState_108 ?_
        refine a_getI C (kz := 4) fl_X2_24 rfl rfl rfl dX2_listState_109 ?_
        refine a_iconst C dX2_listState_112 (inr_b rfl) ?_
        refine a_iadd C dX2_listState_113 ?_
        refine a_putI C (kz := 4) fp_X2_24 rfl rfl rfl dX2_listState_114 ?_
        exact a_vret C X dX2_listState_117 hf
      · have hf := hfb hc
        exact a_vret C X dX2_listState_76 hf
    · have hf := hfb hc
      refine a_iload C dX2_listState_14 rfl ?_
      refine a_aloadn C dX2_listState_16 rfl ?_
      refine a_getI C (kz := 0) fl_X2_9 rfl rfl rfl dX2_listState_17 ?_
      refine a_iconst C dX2_listState_20 (inr_b rfl) ?_
      refine a_callS C [.inl (M 8 0), .inl 1] [.inl x4] dX2_listState_21 (cMath_max _ _) ms_J9_max_7cf53 ln_X2_57 ⟨rfl, rfl, Nat.le_of_ble_eq_true rfl, Nat.le_of_ble_eq_true rfl, Nat.le_of_ble_eq_true rfl⟩ hf (fun r1 M1 hf => ?_)
      refine a_callS C [.inl x4, .inl r1] [] dX2_listState_24 (cMath_floorMod _ _) ms_J9_floorMod_7cf53 ln_X2_62 ⟨rfl, rfl, Nat.le_of_ble_eq_true rfl, Nat.le_of_ble_eq_true rfl, Nat.le_of_ble_eq_true rfl⟩ hf (fun r2 M2 hf => ?_)
      refine a_istore C dX2_listState_27 (by decide) (lv2 := [some (.inr 8), some (.inl x1), none, some (.inl x3), some (.inl x4), some (.inl x5), some (.inl r2)]) rfl ?_
      refine a_iloadn C dX2_listState_29 rfl ?_
      refine a_iload C dX2_listState_30 rfl ?_
      refine a_callS C [.inl x3, .inl r2] [] dX2_listState_32 (cMa_holds _ _) ms_X2_holds ln_X2_65 ⟨rfl, rfl, Nat.le_of_ble_eq_true rfl, Nat.le_of_ble_eq_true rfl, Nat.le_of_ble_eq_true rfl⟩ hf (fun r3 M3 hf => ?_)
      obtain ⟨hfa, hfb⟩ := hf
      refine a_if_eq C 39 dX2_listState_35 rfl (fun hc => ?_) (fun hc => ?_)
      · have hf := hfa hc
        refine a_iloadn C dX2_listState_39 rfl ?_
        refine a_iload C dX2_listState_40 rfl ?_
        refine a_callS C [.inl x3, .inl r2] [] dX2_listState_42 (cMa_push _ _) ms_X2_push ln_X2_69 ⟨rfl, rfl, Nat.le_of_ble_eq_true rfl, Nat.le_of_ble_eq_true rfl, Nat.le_of_ble_eq_true rfl⟩ hf (fun r4 M4 hf => ?_)
        refine a_istoren C dX2_listState_45 (by decide) (lv2 := [some (.inr 8), some (.inl x1), none, some (.inl r4), some (.inl x4), some (.inl x5), some (.inl r2)]) rfl ?_
        refine a_iload C dX2_listState_46 rfl ?_
        refine a_aloadn C dX2_listState_48 rfl ?_
        refine a_getI C (kz := 0) fl_X2_9 rfl rfl rfl dX2_listState_49 ?_
        refine a_iconst C dX2_listState_52 (inr_b rfl) ?_
        refine a_callS C [.inl (M4 8 0), .inl 1] [.inl x4] dX2_listState_53 (cMath_max _ _) ms_J9_max_7cf53 ln_X2_57 ⟨rfl, rfl, Nat.le_of_ble_eq_true rfl, Nat.le_of_ble_eq_true rfl, Nat.le_of_ble_eq_true rfl⟩ hf (fun r5 M5 hf => ?_)
        refine a_callS C [.inl x4, .inl r5] [] dX2_listState_56 (cMath_floorDiv _ _) ms_J9_floorDiv_7cf53 ln_X2_72 ⟨rfl, rfl, Nat.le_of_ble_eq_true rfl, Nat.le_of_ble_eq_true rfl, Nat.le_of_ble_eq_true rfl⟩ hf (fun r6 M6 hf => ?_)
        refine a_istore C dX2_listState_59 (by decide) (lv2 := [some (.inr 8), some (.inl x1), none, some (.inl r4), some (.inl r6), some (.inl x5), some (.inl r2)]) rfl ?_
        refine a_iinc C dX2_listState_61 rfl (by decide) (lv2 := [some (.inr 8), some (.inl x1), none, some (.inl r4), some (.inl r6), some (.inl (wrap (x5 + 1))), some (.inl r2)]) rfl ?_
        refine a_goto C 8 dX2_listState_64 rfl ?_
        refine a_drop [true, true, true, true, true, true, false] (lv2 := [some (.inr 8), some (.inl x1), none, some (.inl r4), some (.inl r6), some (.inl (wrap (x5 + 1))), none]) rfl ?_
        exact hk8 _ _ _ _ _ hf
      · have hf := hfb hc
        exact a_vret C X dX2_listState_38 hf
set_option maxRecDepth 20000 in
set_option maxHeartbeats 4000000 in
theorem cMa_listState (x1 x2 : Int) : Snd shX yX2_listState cX2_listState 7 none 1 22 [.inr 8, .inl x1, .inl x2] (fMa_listState x1 x2) := by
  refine Snd.of RX2 (by decide +kernel) rfl (Nat.le_of_ble_eq_true rfl) ?_
  intro E M R hf C X
  show AW shX 7 E 0 [some (.inr 8), some (.inl x1), some (.inl x2), none, none, none, none] [] M
  refine a_iconst C dX2_listState_0 (inr_b rfl) ?_
  refine a_istoren C dX2_listState_1 (by decide) (lv2 := [some (.inr 8), some (.inl x1), some (.inl x2), some (.inl 0), none, none, none]) rfl ?_
  refine a_iloadn C dX2_listState_2 rfl ?_
  refine a_istore C dX2_listState_3 (by decide) (lv2 := [some (.inr 8), some (.inl x1), some (.inl x2), some (.inl 0), some (.inl x2), none, none]) rfl ?_
  refine a_iconst C dX2_listState_5 (inr_b rfl) ?_
  refine a_istore C dX2_listState_6 (by decide) (lv2 := [some (.inr 8), some (.inl x1), some (.inl x2), some (.inl 0), some (.inl x2), some (.inl 0), none]) rfl ?_
  refine a_drop [true, true, false, true, true, true, true] (lv2 := [some (.inr 8), some (.inl x1), none, some (.inl 0), some (.inl x2), some (.inl 0), none]) rfl ?_
  obtain ⟨n7, hf⟩ := hf
  exact sMa_listState_8 C X  n7 _ _ _ _ _ hf
set_option maxRecDepth 20000 in
set_option maxHeartbeats 4000000 in
theorem sMa_listStates_19 {E : EE} {R : Int → Mem → Prop} (C : Cx shX 4 cX2_listStates RX2 2 48 E) (X : Rx shX none R E) {k9 : Int → Int → Mem → Prop} (hk9 : ∀ (x1 : Int) (x2 : Int) (M : Mem), k9 x1 x2 M → AW shX 4 E 9 [some (.inr 8), some (.inl x1), some (.inl x2), none] [] M) : ∀ (n : Nat) (x1 : Int) (x2 : Int) (x3 : Int) (M : Mem), fMa_listStates_19 k9 R n x1 x2 x3 M → AW shX 4 E 19 [some (.inr 8), some (.inl x1), some (.inl x2), some (.inl x3)] [] M := by
  intro n
  induction n with
  | zero => intro x1 x2 x3 M hf; exact hf.elim
  | succ n hk19 =>
    intro x1 x2 x3 M hf
    refine a_iloadn C dX2_listStates_19 rfl ?_
    refine a_iloadn C dX2_listStates_20 rfl ?_
    obtain ⟨hfa, hfb⟩ := hf
    refine a_icmp_ge C 36 dX2_listStates_21 rfl (fun hc => ?_) (fun hc => ?_)
    · have hf := hfa hc
      refine a_iloadn C dX2_listStates_36 rfl ?_
      refine a_aloadn C dX2_listStates_37 rfl ?_
      refine a_getI C (kz := 0) fl_X2_9 rfl rfl rfl dX2_listStates_38 ?_
      refine a_imul C dX2_listStates_41 ?_
      refine a_istoren C dX2_listStates_42 (by decide) (lv2 := [some (.inr 8), some (.inl (wrap (x1 * (M 8 0)))), some (.inl x2), some (.inl x3)]) rfl ?_
      refine a_iinc C dX2_listStates_43 rfl (by decide) (lv2 := [some (.inr 8), some (.inl (wrap (x1 * (M 8 0)))), some (.inl (wrap (x2 + 1))), some (.inl x3)]) rfl ?_
      refine a_goto C 9 dX2_listStates_46 rfl ?_
      refine a_drop [true, true, true, false] (lv2 := [some (.inr 8), some (.inl (wrap (x1 * (M 8 0)))), some (.inl (wrap (x2 + 1))), none]) rfl ?_
      exact hk9 _ _ _ hf
    · have hf := hfb hc
      refine a_aloadn C dX2_listStates_24 rfl ?_
      refine a_iloadn C dX2_listStates_25 rfl ?_
      refine a_iloadn C dX2_listStates_26 rfl ?_
      refine a_callV C [.inl x2, .inl x3] [] dX2_listStates_27 (cMa_listState _ _) mv_X2_listState ln_X2_53 rfl rfl ⟨rfl, rfl, Nat.le_of_ble_eq_true rfl, Nat.le_of_ble_eq_true rfl, Nat.le_of_ble_eq_true rfl⟩ hf (fun r1 M1 hf => ?_)
      refine a_iinc C dX2_listStates_30 rfl (by decide) (lv2 := [some (.inr 8), some (.inl x1), some (.inl x2), some (.inl (wrap (x3 + 1)))]) rfl ?_
      refine a_goto C 19 dX2_listStates_33 rfl ?_
      exact hk19 _ _ _ _ hf
set_option maxRecDepth 20000 in
set_option maxHeartbeats 4000000 in
theorem sMa_listStates_9 {E : EE} {R : Int → Mem → Prop} (C : Cx shX 4 cX2_listStates RX2 2 48 E) (X : Rx shX none R E) : ∀ (n : Nat) (x1 : Int) (x2 : Int) (M : Mem), fMa_listStates_9  R n x1 x2 M → AW shX 4 E 9 [some (.inr 8), some (.inl x1), some (.inl x2), none] [] M := by
  intro n
  induction n with
  | zero => intro x1 x2 M hf; exact hf.elim
  | succ n hk9 =>
    intro x1 x2 M hf
    refine a_iloadn C dX2_listStates_9 rfl ?_
    refine a_aloadn C dX2_listStates_10 rfl ?_
    refine a_getI C (kz := 0) fl_X2_9 rfl rfl rfl dX2_listStates_11 ?_
    obtain ⟨hfa, hfb⟩ := hf
    refine a_icmp_gt C 49 dX2_listStates_14 rfl (fun hc => ?_) (fun hc => ?_)
    · have hf := hfa hc
      exact a_vret C X dX2_listStates_49 hf
    · have hf := hfb hc
      refine a_iconst C dX2_listStates_17 (inr_b rfl) ?_
      refine a_istoren C dX2_listStates_18 (by decide) (lv2 := [some (.inr 8), some (.inl x1), some (.inl x2), some (.inl 0)]) rfl ?_
      obtain ⟨n2, hf⟩ := hf
      exact sMa_listStates_19 C X hk9 n2 _ _ _ _ hf
set_option maxRecDepth 20000 in
set_option maxHeartbeats 4000000 in
theorem cMa_listStates : Snd shX yX2_listStates cX2_listStates 4 none 2 48 [.inr 8] fMa_listStates := by
  refine Snd.of RX2 (by decide +kernel) rfl (Nat.le_of_ble_eq_true rfl) ?_
  intro E M R hf C X
  show AW shX 4 E 0 [some (.inr 8), none, none, none] [] M
  refine a_aloadn C dX2_listStates_0 rfl ?_
  refine a_iconst C dX2_listStates_1 (inr_b rfl) ?_
  refine a_putI C (kz := 4) fp_X2_24 rfl rfl rfl dX2_listStates_2 ?_
  refine a_iconst C dX2_listStates_5 (inr_b rfl) ?_
  refine a_istoren C dX2_listStates_6 (by decide) (lv2 := [some (.inr 8), some (.inl 1), none, none]) rfl ?_
  refine a_iconst C dX2_listStates_7 (inr_b rfl) ?_
  refine a_istoren C dX2_listStates_8 (by decide) (lv2 := [some (.inr 8), some (.inl 1), some (.inl 0), none]) rfl ?_
  obtain ⟨n3, hf⟩ := hf
  exact sMa_listStates_9 C X  n3 _ _ _ hf
set_option maxRecDepth 20000 in
set_option maxHeartbeats 4000000 in
theorem sMa_equip_120 {E : EE} {R : Int → Mem → Prop} (C : Cx shX 6 cX2_equip RX2 4 99 E) (X : Rx shX none R E) {k108 : Int → Mem → Prop} (hk108 : ∀ (x4 : Int) (M : Mem), k108 x4 M → AW shX 6 E 108 [some (.inr 8), none, none, none, some (.inl x4), none] [] M) : ∀ (n : Nat) (x4 : Int) (x5 : Int) (M : Mem), fMa_equip_120 k108 R n x4 x5 M → AW shX 6 E 120 [some (.inr 8), none, none, none, some (.inl x4), some (.inl x5)] [] M := by
  intro n
  induction n with
  | zero => intro x4 x5 M hf; exact hf.elim
  | succ n hk120 =>
    intro x4 x5 M hf
    refine a_iload C dX2_equip_120 rfl ?_
    refine a_aloadn C dX2_equip_122 rfl ?_
    refine a_getI C (kz := 4) fl_X2_24 rfl rfl rfl dX2_equip_123 ?_
    obtain ⟨hfa, hfb⟩ := hf
    refine a_icmp_ge C 156 dX2_equip_126 rfl (fun hc => ?_) (fun hc => ?_)
    · have hf := hfa hc
      refine a_iinc C dX2_equip_156 rfl (by decide) (lv2 := [some (.inr 8), none, none, none, some (.inl (wrap (x4 + 1))), some (.inl x5)]) rfl ?_
      refine a_goto C 108 dX2_equip_159 rfl ?_
      refine a_drop [true, true, true, true, true, false] (lv2 := [some (.inr 8), none, none, none, some (.inl (wrap (x4 + 1))), none]) rfl ?_
      exact hk108 _ _ hf
    · have hf := hfb hc
      refine a_aloadn C dX2_equip_129 rfl ?_
      refine a_getR C 12 fl_X2_37 rfl rfl dX2_equip_130 ?_
      refine a_iload C dX2_equip_133 rfl ?_
      refine a_bipush C dX2_equip_135 bp_16 ?_
      refine a_imul C dX2_equip_137 ?_
      refine a_iload C dX2_equip_138 rfl ?_
      refine a_iadd C dX2_equip_140 ?_
      refine a_aloadn C dX2_equip_141 rfl ?_
      refine a_iload C dX2_equip_142 rfl ?_
      refine a_iload C dX2_equip_144 rfl ?_
      refine a_callV C [.inl x4, .inl x5] [.inl (wrap ((wrap (x4 * 16)) + x5)), .inr 12] dX2_equip_146 (cMa_cheapestPassage _ _) mv_X2_cheapestPassage ln_X2_49 rfl rfl ⟨rfl, rfl, Nat.le_of_ble_eq_true rfl, Nat.le_of_ble_eq_true rfl, Nat.le_of_ble_eq_true rfl⟩ hf (fun r1 M1 hf => ?_)
      obtain ⟨hg, hf⟩ := hf
      refine a_iast C (n := 256) rfl hg dX2_equip_149 ?_
      refine a_iinc C dX2_equip_150 rfl (by decide) (lv2 := [some (.inr 8), none, none, none, some (.inl x4), some (.inl (wrap (x5 + 1)))]) rfl ?_
      refine a_goto C 120 dX2_equip_153 rfl ?_
      exact hk120 _ _ _ hf
set_option maxRecDepth 20000 in
set_option maxHeartbeats 4000000 in
theorem sMa_equip_108 {E : EE} {R : Int → Mem → Prop} (C : Cx shX 6 cX2_equip RX2 4 99 E) (X : Rx shX none R E) : ∀ (n : Nat) (x4 : Int) (M : Mem), fMa_equip_108  R n x4 M → AW shX 6 E 108 [some (.inr 8), none, none, none, some (.inl x4), none] [] M := by
  intro n
  induction n with
  | zero => intro x4 M hf; exact hf.elim
  | succ n hk108 =>
    intro x4 M hf
    refine a_iload C dX2_equip_108 rfl ?_
    refine a_aloadn C dX2_equip_110 rfl ?_
    refine a_getI C (kz := 4) fl_X2_24 rfl rfl rfl dX2_equip_111 ?_
    obtain ⟨hfa, hfb⟩ := hf
    refine a_icmp_ge C 162 dX2_equip_114 rfl (fun hc => ?_) (fun hc => ?_)
    · have hf := hfa hc
      exact a_vret C X dX2_equip_162 hf
    · have hf := hfb hc
      refine a_iconst C dX2_equip_117 (inr_b rfl) ?_
      refine a_istore C dX2_equip_118 (by decide) (lv2 := [some (.inr 8), none, none, none, some (.inl x4), some (.inl 0)]) rfl ?_
      obtain ⟨n2, hf⟩ := hf
      exact sMa_equip_120 C X hk108 n2 _ _ _ hf
set_option maxRecDepth 20000 in
set_option maxHeartbeats 4000000 in
theorem sMa_equip_105 {E : EE} {R : Int → Mem → Prop} (C : Cx shX 6 cX2_equip RX2 4 99 E) (X : Rx shX none R E) (M : Mem) (hf : fMa_equip_105  R M) : AW shX 6 E 105 [some (.inr 8), none, none, none, none, none] [] M := by
  refine a_iconst C dX2_equip_105 (inr_b rfl) ?_
  refine a_istore C dX2_equip_106 (by decide) (lv2 := [some (.inr 8), none, none, none, some (.inl 0), none]) rfl ?_
  obtain ⟨n3, hf⟩ := hf
  exact sMa_equip_108 C X  n3 _ _ hf
set_option maxRecDepth 20000 in
set_option maxHeartbeats 4000000 in
theorem sMa_equip_65 {E : EE} {R : Int → Mem → Prop} (C : Cx shX 6 cX2_equip RX2 4 99 E) (X : Rx shX none R E) (x2 : Int) (M : Mem) (hf : fMa_equip_65  R x2 M) : AW shX 6 E 65 [some (.inr 8), some (.inr 5), some (.inl x2), none, none, none] [] M := by
  refine a_aloadn C dX2_equip_65 rfl ?_
  refine a_aloadn C dX2_equip_66 rfl ?_
  refine a_getI C (kz := 0) fl_X2_40 rfl rfl rfl dX2_equip_67 ?_
  refine a_putI C (kz := 0) fp_X2_9 rfl rfl rfl dX2_equip_70 ?_
  refine a_aloadn C dX2_equip_73 rfl ?_
  refine a_aloadn C dX2_equip_74 rfl ?_
  refine a_getI C (kz := 1) fl_X2_43 rfl rfl rfl dX2_equip_75 ?_
  refine a_putI C (kz := 1) fp_X2_15 rfl rfl rfl dX2_equip_78 ?_
  refine a_aloadn C dX2_equip_81 rfl ?_
  refine a_aloadn C dX2_equip_82 rfl ?_
  refine a_getI C (kz := 2) fl_X2_44 rfl rfl rfl dX2_equip_83 ?_
  refine a_putI C (kz := 2) fp_X2_18 rfl rfl rfl dX2_equip_86 ?_
  refine a_aloadn C dX2_equip_89 rfl ?_
  refine a_aloadn C dX2_equip_90 rfl ?_
  refine a_getI C (kz := 3) fl_X2_45 rfl rfl rfl dX2_equip_91 ?_
  refine a_putI C (kz := 3) fp_X2_21 rfl rfl rfl dX2_equip_94 ?_
  refine a_iloadn C dX2_equip_97 rfl ?_
  obtain ⟨hfa, hfb⟩ := hf
  refine a_if_ne C 105 dX2_equip_98 rfl (fun hc => ?_) (fun hc => ?_)
  · have hf := hfa hc
    refine a_drop [true, false, false, true, true, true] (lv2 := [some (.inr 8), none, none, none, none, none]) rfl ?_
    exact sMa_equip_105 C X   _ hf
  · have hf := hfb hc
    refine a_aloadn C dX2_equip_101 rfl ?_
    refine a_callV C [] [] dX2_equip_102 (cMa_listStates) mv_X2_listStates ln_X2_46 rfl rfl ⟨rfl, rfl, Nat.le_of_ble_eq_true rfl, Nat.le_of_ble_eq_true rfl, Nat.le_of_ble_eq_true rfl⟩ hf (fun r4 M4 hf => ?_)
    refine a_drop [true, false, false, true, true, true] (lv2 := [some (.inr 8), none, none, none, none, none]) rfl ?_
    exact sMa_equip_105 C X   _ hf
set_option maxRecDepth 20000 in
set_option maxHeartbeats 4000000 in
theorem sMa_equip_55 {E : EE} {R : Int → Mem → Prop} (C : Cx shX 6 cX2_equip RX2 4 99 E) (X : Rx shX none R E) (x2 : Int) (t0 : Int) (M : Mem) (hf : fMa_equip_55  R x2 t0 M) : AW shX 6 E 55 [some (.inr 8), some (.inr 5), some (.inl x2), none, none, none] [.inl t0] M := by
  refine a_istoren C dX2_equip_55 (by decide) (lv2 := [some (.inr 8), some (.inr 5), some (.inl x2), some (.inl t0), none, none]) rfl ?_
  refine a_iloadn C dX2_equip_56 rfl ?_
  obtain ⟨hfa, hfb⟩ := hf
  refine a_if_eq C 65 dX2_equip_57 rfl (fun hc => ?_) (fun hc => ?_)
  · have hf := hfa hc
    refine a_drop [true, true, true, false, true, true] (lv2 := [some (.inr 8), some (.inr 5), some (.inl x2), none, none, none]) rfl ?_
    exact sMa_equip_65 C X  _ _ hf
  · have hf := hfb hc
    refine a_iloadn C dX2_equip_60 rfl ?_
    obtain ⟨hfa, hfb⟩ := hf
    refine a_if_eq C 65 dX2_equip_61 rfl (fun hc => ?_) (fun hc => ?_)
    · have hf := hfa hc
      refine a_drop [true, true, true, false, true, true] (lv2 := [some (.inr 8), some (.inr 5), some (.inl x2), none, none, none]) rfl ?_
      exact sMa_equip_65 C X  _ _ hf
    · have hf := hfb hc
      exact a_vret C X dX2_equip_64 hf
set_option maxRecDepth 20000 in
set_option maxHeartbeats 4000000 in
theorem sMa_equip_54 {E : EE} {R : Int → Mem → Prop} (C : Cx shX 6 cX2_equip RX2 4 99 E) (X : Rx shX none R E) (x2 : Int) (M : Mem) (hf : fMa_equip_54  R x2 M) : AW shX 6 E 54 [some (.inr 8), some (.inr 5), some (.inl x2), none, none, none] [] M := by
  refine a_iconst C dX2_equip_54 (inr_b rfl) ?_
  exact sMa_equip_55 C X  _ _ _ hf
set_option maxRecDepth 20000 in
set_option maxHeartbeats 4000000 in
theorem sMa_equip_16 {E : EE} {R : Int → Mem → Prop} (C : Cx shX 6 cX2_equip RX2 4 99 E) (X : Rx shX none R E) (t0 : Int) (M : Mem) (hf : fMa_equip_16  R t0 M) : AW shX 6 E 16 [some (.inr 8), some (.inr 5), none, none, none, none] [.inl t0] M := by
  refine a_istoren C dX2_equip_16 (by decide) (lv2 := [some (.inr 8), some (.inr 5), some (.inl t0), none, none, none]) rfl ?_
  refine a_aloadn C dX2_equip_17 rfl ?_
  refine a_getI C (kz := 1) fl_X2_15 rfl rfl rfl dX2_equip_18 ?_
  refine a_aloadn C dX2_equip_21 rfl ?_
  refine a_getI C (kz := 1) fl_X2_43 rfl rfl rfl dX2_equip_22 ?_
  obtain ⟨hfa, hfb⟩ := hf
  refine a_icmp_ne C 54 dX2_equip_25 rfl (fun hc => ?_) (fun hc => ?_)
  · have hf := hfa hc
    exact sMa_equip_54 C X  _ _ hf
  · have hf := hfb hc
    refine a_aloadn C dX2_equip_28 rfl ?_
    refine a_getI C (kz := 2) fl_X2_18 rfl rfl rfl dX2_equip_29 ?_
    refine a_aloadn C dX2_equip_32 rfl ?_
    refine a_getI C (kz := 2) fl_X2_44 rfl rfl rfl dX2_equip_33 ?_
    obtain ⟨hfa, hfb⟩ := hf
    refine a_icmp_ne C 54 dX2_equip_36 rfl (fun hc => ?_) (fun hc => ?_)
    · have hf := hfa hc
      exact sMa_equip_54 C X  _ _ hf
    · have hf := hfb hc
      refine a_aloadn C dX2_equip_39 rfl ?_
      refine a_getI C (kz := 3) fl_X2_21 rfl rfl rfl dX2_equip_40 ?_
      refine a_aloadn C dX2_equip_43 rfl ?_
      refine a_getI C (kz := 3) fl_X2_45 rfl rfl rfl dX2_equip_44 ?_
      obtain ⟨hfa, hfb⟩ := hf
      refine a_icmp_ne C 54 dX2_equip_47 rfl (fun hc => ?_) (fun hc => ?_)
      · have hf := hfa hc
        exact sMa_equip_54 C X  _ _ hf
      · have hf := hfb hc
        refine a_iconst C dX2_equip_50 (inr_b rfl) ?_
        refine a_goto C 55 dX2_equip_51 rfl ?_
        exact sMa_equip_55 C X  _ _ _ hf
set_option maxRecDepth 20000 in
set_option maxHeartbeats 4000000 in
theorem cMa_equip : Snd shX yX2_equip cX2_equip 6 none 4 99 [.inr 8, .inr 5] fMa_equip := by
  refine Snd.of RX2 (by decide +kernel) rfl (Nat.le_of_ble_eq_true rfl) ?_
  intro E M R hf C X
  show AW shX 6 E 0 [some (.inr 8), some (.inr 5), none, none, none, none] [] M
  refine a_aloadn C dX2_equip_0 rfl ?_
  refine a_getI C (kz := 0) fl_X2_9 rfl rfl rfl dX2_equip_1 ?_
  refine a_aloadn C dX2_equip_4 rfl ?_
  refine a_getI C (kz := 0) fl_X2_40 rfl rfl rfl dX2_equip_5 ?_
  obtain ⟨hfa, hfb⟩ := hf
  refine a_icmp_ne C 15 dX2_equip_8 rfl (fun hc => ?_) (fun hc => ?_)
  · have hf := hfa hc
    refine a_iconst C dX2_equip_15 (inr_b rfl) ?_
    exact sMa_equip_16 C X  _ _ hf
  · have hf := hfb hc
    refine a_iconst C dX2_equip_11 (inr_b rfl) ?_
    refine a_goto C 16 dX2_equip_12 rfl ?_
    exact sMa_equip_16 C X  _ _ hf
set_option maxRecDepth 20000 in
set_option maxHeartbeats 4000000 in
theorem cCh_forget : Snd shX yX1_forget cX1_forget 1 none 0 0 [.inr 27] fCh_forget := by
  refine Snd.of RX1 (by decide +kernel) rfl (Nat.le_of_ble_eq_true rfl) ?_
  intro E M R hf C X
  show AW shX 1 E 0 [some (.inr 27)] [] M
  refine a_aloadn C dX1_forget_0 rfl ?_
  refine a_iconst C dX1_forget_1 (inr_b rfl) ?_
  refine a_putZ C (kz := 17) fp_X1_52 (Or.inl rfl) rfl rfl rfl dX1_forget_2 ?_
  refine a_aloadn C dX1_forget_5 rfl ?_
  refine a_iconst C dX1_forget_6 (inr_b rfl) ?_
  refine a_putZ C (kz := 18) fp_X1_56 (Or.inl rfl) rfl rfl rfl dX1_forget_7 ?_
  exact a_vret C X dX1_forget_10 hf
set_option maxRecDepth 20000 in
set_option maxHeartbeats 4000000 in
theorem cSt_refresh : Snd shX yX7_refresh cX7_refresh 1 none 5 124 [.inr 0] fSt_refresh := by
  refine Snd.of RX7 (by decide +kernel) rfl (Nat.le_of_ble_eq_true rfl) ?_
  intro E M R hf C X
  show AW shX 1 E 0 [some (.inr 0)] [] M
  refine a_aloadn C dX7_refresh_0 rfl ?_
  refine a_getR C 8 fl_X7_33 rfl rfl dX7_refresh_1 ?_
  refine a_aloadn C dX7_refresh_4 rfl ?_
  refine a_getR C 5 fl_X7_26 rfl rfl dX7_refresh_5 ?_
  refine a_callV C [.inr 5] [] dX7_refresh_8 (cMa_equip) mv_X2_equip ln_X7_273 rfl rfl ⟨rfl, rfl, Nat.le_of_ble_eq_true rfl, Nat.le_of_ble_eq_true rfl, Nat.le_of_ble_eq_true rfl⟩ hf (fun r1 M1 hf => ?_)
  refine a_aloadn C dX7_refresh_11 rfl ?_
  refine a_getR C 27 fl_X7_52 rfl rfl dX7_refresh_12 ?_
  refine a_callV C [] [] dX7_refresh_15 (cCh_forget) mv_X1_forget ln_X7_277 rfl rfl ⟨rfl, rfl, Nat.le_of_ble_eq_true rfl, Nat.le_of_ble_eq_true rfl, Nat.le_of_ble_eq_true rfl⟩ hf (fun r2 M2 hf => ?_)
  refine a_aloadn C dX7_refresh_18 rfl ?_
  refine a_getR C 40 fl_X7_61 rfl rfl dX7_refresh_19 ?_
  refine a_iconst C dX7_refresh_22 (inr_b rfl) ?_
  refine a_putZ C (kz := 7) fp_X7_163 (Or.inl rfl) rfl rfl rfl dX7_refresh_23 ?_
  exact a_vret C X dX7_refresh_26 hf
set_option maxRecDepth 20000 in
set_option maxHeartbeats 4000000 in
theorem sArr_fill_6_5 {E : EE} {R : Int → Mem → Prop} (C : Cx shX 4 cJ7_fill_53178 RJ7 0 0 E) (X : Rx shX none R E) : ∀ (n : Nat) (x1 : Int) (x2 : Int) (x3 : Int) (M : Mem), fArr_fill_6_5  R n x1 x2 x3 M → AW shX 4 E 5 [some (.inr 6), some (.inl x1), some (.inl x2), some (.inl x3)] [] M := by
  intro n
  induction n with
  | zero => intro x1 x2 x3 M hf; exact hf.elim
  | succ n hk5 =>
    intro x1 x2 x3 M hf
    refine a_iloadn C dJ7_fill_53178_5 rfl ?_
    refine a_iloadn C dJ7_fill_53178_6 rfl ?_
    obtain ⟨hfa, hfb⟩ := hf
    refine a_icmp_ge C 20 dJ7_fill_53178_7 rfl (fun hc => ?_) (fun hc => ?_)
    · have hf := hfa hc
      exact a_vret C X dJ7_fill_53178_20 hf
    · have hf := hfb hc
      refine a_aloadn C dJ7_fill_53178_10 rfl ?_
      refine a_iloadn C dJ7_fill_53178_11 rfl ?_
      refine a_iloadn C dJ7_fill_53178_12 rfl ?_
      obtain ⟨hg, hf⟩ := hf
      refine a_iast C (n := 24) rfl hg dJ7_fill_53178_13 ?_
      refine a_iinc C dJ7_fill_53178_14 rfl (by decide) (lv2 := [some (.inr 6), some (.inl x1), some (.inl (wrap (x2 + 1))), some (.inl x3)]) rfl ?_
      refine a_goto C 5 dJ7_fill_53178_17 rfl ?_
      exact hk5 _ _ _ _ hf
set_option maxRecDepth 20000 in
set_option maxHeartbeats 4000000 in
theorem cArr_fill_6 (x1 : Int) : Snd shX yJ7_fill_53178 cJ7_fill_53178 4 none 0 0 [.inr 6, .inl x1] (fArr_fill_6 x1) := by
  refine Snd.of RJ7 (by decide +kernel) rfl (Nat.le_of_ble_eq_true rfl) ?_
  intro E M R hf C X
  show AW shX 4 E 0 [some (.inr 6), some (.inl x1), none, none] [] M
  refine a_iconst C dJ7_fill_53178_0 (inr_b rfl) ?_
  refine a_istoren C dJ7_fill_53178_1 (by decide) (lv2 := [some (.inr 6), some (.inl x1), some (.inl 0), none]) rfl ?_
  refine a_aloadn C dJ7_fill_53178_2 rfl ?_
  refine a_alen C 24 rfl rfl rfl (inr_b rfl) dJ7_fill_53178_3 ?_
  refine a_istoren C dJ7_fill_53178_4 (by decide) (lv2 := [some (.inr 6), some (.inl x1), some (.inl 0), some (.inl 24)]) rfl ?_
  obtain ⟨n1, hf⟩ := hf
  exact sArr_fill_6_5 C X  n1 _ _ _ _ hf
set_option maxRecDepth 20000 in
set_option maxHeartbeats 4000000 in
theorem cSe_resetWeights : Snd shX yX5_resetWeights cX5_resetWeights 1 none 1 23 [.inr 5] fSe_resetWeights := by
  refine Snd.of RX5 (by decide +kernel) rfl (Nat.le_of_ble_eq_true rfl) ?_
  intro E M R hf C X
  show AW shX 1 E 0 [some (.inr 5)] [] M
  refine a_aloadn C dX5_resetWeights_0 rfl ?_
  refine a_getR C 6 fl_X5_24 rfl rfl dX5_resetWeights_1 ?_
  refine a_iconst C dX5_resetWeights_4 (inr_b rfl) ?_
  refine a_callS C [.inr 6, .inl 1] [] dX5_resetWeights_5 (cArr_fill_6 _) ms_J7_fill_53178 ln_X5_37 ⟨rfl, rfl, Nat.le_of_ble_eq_true rfl, Nat.le_of_ble_eq_true rfl, Nat.le_of_ble_eq_true rfl⟩ hf (fun r1 M1 hf => ?_)
  exact a_vret C X dX5_resetWeights_8 hf
set_option maxRecDepth 20000 in
set_option maxHeartbeats 4000000 in
theorem cSt_write (x1 : Int) : Snd shX yX7_write cX7_write 2 (some .int) 1 21 [.inr 0, .inl x1] (fSt_write x1) := by
  refine Snd.of RX7 (by decide +kernel) rfl (Nat.le_of_ble_eq_true rfl) ?_
  intro E M R hf C X
  show AW shX 2 E 0 [some (.inr 0), some (.inl x1)] [] M
  refine a_iloadn C dX7_write_0 rfl ?_
  refine a_bipush C dX7_write_1 bp_32 ?_
  obtain ⟨hfa, hfb⟩ := hf
  refine a_icmp_lt C 12 dX7_write_3 rfl (fun hc => ?_) (fun hc => ?_)
  · have hf := hfa hc
    refine a_iconst C dX7_write_12 (inr_b rfl) ?_
    exact a_iret C X dX7_write_13 hf
  · have hf := hfb hc
    refine a_iloadn C dX7_write_6 rfl ?_
    refine a_bipush C dX7_write_7 bp_126 ?_
    obtain ⟨hfa, hfb⟩ := hf
    refine a_icmp_le C 14 dX7_write_9 rfl (fun hc => ?_) (fun hc => ?_)
    · have hf := hfa hc
      refine a_aloadn C dX7_write_14 rfl ?_
      refine a_getR C 1 fl_X7_10 rfl rfl dX7_write_15 ?_
      refine a_getI C (kz := 1) fl_X7_95 rfl rfl rfl dX7_write_18 ?_
      refine a_sipush C dX7_write_21 sp_200 ?_
      obtain ⟨hfa, hfb⟩ := hf
      refine a_icmp_ne C 30 dX7_write_24 rfl (fun hc => ?_) (fun hc => ?_)
      · have hf := hfa hc
        refine a_aloadn C dX7_write_30 rfl ?_
        refine a_getR C 1 fl_X7_10 rfl rfl dX7_write_31 ?_
        refine a_iloadn C dX7_write_34 rfl ?_
        refine a_callV C [.inl x1] [] dX7_write_35 (cTe_append _) mv_X6_append ln_X7_77 rfl rfl ⟨rfl, rfl, Nat.le_of_ble_eq_true rfl, Nat.le_of_ble_eq_true rfl, Nat.le_of_ble_eq_true rfl⟩ hf (fun r1 M1 hf => ?_)
        refine a_aloadn C dX7_write_38 rfl ?_
        refine a_getR C 1 fl_X7_10 rfl rfl dX7_write_39 ?_
        refine a_getI C (kz := 1) fl_X7_95 rfl rfl rfl dX7_write_42 ?_
        exact a_iret C X dX7_write_45 hf
      · have hf := hfb hc
        refine a_bipush C dX7_write_27 bp_m3 ?_
        exact a_iret C X dX7_write_29 hf
    · have hf := hfb hc
      refine a_iconst C dX7_write_12 (inr_b rfl) ?_
      exact a_iret C X dX7_write_13 hf
set_option maxRecDepth 20000 in
set_option maxHeartbeats 4000000 in
theorem cSt_wipe : Snd shX yX7_wipe cX7_wipe 1 (some .int) 1 21 [.inr 0] fSt_wipe := by
  refine Snd.of RX7 (by decide +kernel) rfl (Nat.le_of_ble_eq_true rfl) ?_
  intro E M R hf C X
  show AW shX 1 E 0 [some (.inr 0)] [] M
  refine a_aloadn C dX7_wipe_0 rfl ?_
  refine a_getR C 1 fl_X7_10 rfl rfl dX7_wipe_1 ?_
  refine a_callV C [] [] dX7_wipe_4 (cTe_empty) mv_X6_empty ln_X7_89 rfl rfl ⟨rfl, rfl, Nat.le_of_ble_eq_true rfl, Nat.le_of_ble_eq_true rfl, Nat.le_of_ble_eq_true rfl⟩ hf (fun r1 M1 hf => ?_)
  exact a_iret C X dX7_wipe_7 hf
set_option maxRecDepth 20000 in
set_option maxHeartbeats 4000000 in
theorem sPr_leads_d_22 {E : EE} {R : Int → Mem → Prop} (C : Cx shX 2 cX3_leads RX3 0 0 E) (X : Rx shX (some .boolean) R E) (M : Mem) (hf : fPr_leads_d_22  R M) : AW shX 2 E 22 [none, none] [] M := by
  refine a_iconst C dX3_leads_22 (inr_b rfl) ?_
  refine a_goto C 27 dX3_leads_23 rfl ?_
  exact a_bret C X (Or.inr rfl) dX3_leads_27 hf
set_option maxRecDepth 20000 in
set_option maxHeartbeats 4000000 in
theorem cPr_leads_d (x1 : Int) : Snd shX yX3_leads cX3_leads 2 (some .boolean) 0 0 [.inr 20, .inl x1] (fPr_leads_d x1) := by
  refine Snd.of RX3 (by decide +kernel) rfl (Nat.le_of_ble_eq_true rfl) ?_
  intro E M R hf C X
  show AW shX 2 E 0 [some (.inr 20), some (.inl x1)] [] M
  refine a_aloadn C dX3_leads_0 rfl ?_
  refine a_getR C 21 fl_X3_9 rfl rfl dX3_leads_1 ?_
  refine a_iloadn C dX3_leads_4 rfl ?_
  obtain ⟨hg, hf⟩ := hf
  refine a_iald C (n := 24) rfl hg dX3_leads_5 ?_
  refine a_bipush C dX3_leads_6 bp_11 ?_
  obtain ⟨hfa, hfb⟩ := hf
  refine a_icmp_eq C 22 dX3_leads_8 rfl (fun hc => ?_) (fun hc => ?_)
  · have hf := hfa hc
    refine a_drop [false, false] (lv2 := [none, none]) rfl ?_
    exact sPr_leads_d_22 C X   _ hf
  · have hf := hfb hc
    refine a_aloadn C dX3_leads_11 rfl ?_
    refine a_getR C 21 fl_X3_9 rfl rfl dX3_leads_12 ?_
    refine a_iloadn C dX3_leads_15 rfl ?_
    obtain ⟨hg, hf⟩ := hf
    refine a_iald C (n := 24) rfl hg dX3_leads_16 ?_
    refine a_bipush C dX3_leads_17 bp_12 ?_
    obtain ⟨hfa, hfb⟩ := hf
    refine a_icmp_ne C 26 dX3_leads_19 rfl (fun hc => ?_) (fun hc => ?_)
    · have hf := hfa hc
      refine a_iconst C dX3_leads_26 (inr_b rfl) ?_
      exact a_bret C X (Or.inl rfl) dX3_leads_27 hf
    · have hf := hfb hc
      refine a_drop [false, false] (lv2 := [none, none]) rfl ?_
      exact sPr_leads_d_22 C X   _ hf
set_option maxRecDepth 20000 in
set_option maxHeartbeats 4000000 in
theorem sPr_parseInstruction_d_107 {E : EE} {R : Int → Mem → Prop} (C : Cx shX 6 cX3_parseInstruction RX3 4 91 E) (X : Rx shX (some .int) R E) (x2 : Int) (x3 : Int) (x4 : Int) (M : Mem) (hf : fPr_parseInstruction_d_107  R x2 x3 x4 M) : AW shX 6 E 107 [some (.inr 20), none, some (.inl x2), some (.inl x3), some (.inl x4), none] [] M := by
  refine a_aloadn C dX3_parseInstruction_107 rfl ?_
  refine a_getR C 21 fl_X3_9 rfl rfl dX3_parseInstruction_108 ?_
  refine a_aloadn C dX3_parseInstruction_111 rfl ?_
  refine a_getI C (kz := 6) fl_X3_31 rfl rfl rfl dX3_parseInstruction_112 ?_
  refine a_iloadn C dX3_parseInstruction_115 rfl ?_
  obtain ⟨hg, hf⟩ := hf
  refine a_iast C (n := 24) rfl hg dX3_parseInstruction_116 ?_
  refine a_aloadn C dX3_parseInstruction_117 rfl ?_
  refine a_getR C 22 fl_X3_15 rfl rfl dX3_parseInstruction_118 ?_
  refine a_aloadn C dX3_parseInstruction_121 rfl ?_
  refine a_getI C (kz := 6) fl_X3_31 rfl rfl rfl dX3_parseInstruction_122 ?_
  refine a_iload C dX3_parseInstruction_125 rfl ?_
  obtain ⟨hg, hf⟩ := hf
  refine a_iast C (n := 24) rfl hg dX3_parseInstruction_127 ?_
  refine a_aloadn C dX3_parseInstruction_128 rfl ?_
  refine a_getR C 23 fl_X3_18 rfl rfl dX3_parseInstruction_129 ?_
  refine a_aloadn C dX3_parseInstruction_132 rfl ?_
  refine a_getI C (kz := 6) fl_X3_31 rfl rfl rfl dX3_parseInstruction_133 ?_
  refine a_iloadn C dX3_parseInstruction_136 rfl ?_
  obtain ⟨hg, hf⟩ := hf
  refine a_iast C (n := 24) rfl hg dX3_parseInstruction_137 ?_
  refine a_aloadn C dX3_parseInstruction_138 rfl ?_
  refine a_dup C dX3_parseInstruction_139 ?_
  refine a_getI C (kz := 6) fl_X3_31 rfl rfl rfl dX3_parseInstruction_140 ?_
  refine a_iconst C dX3_parseInstruction_143 (inr_b rfl) ?_
  refine a_iadd C dX3_parseInstruction_144 ?_
  refine a_putI C (kz := 6) fp_X3_31 rfl rfl rfl dX3_parseInstruction_145 ?_
  refine a_bipush C dX3_parseInstruction_148 bp_m4 ?_
  exact a_iret C X dX3_parseInstruction_150 hf
set_option maxRecDepth 20000 in
set_option maxHeartbeats 4000000 in
theorem sPr_parseInstruction_d_98 {E : EE} {R : Int → Mem → Prop} (C : Cx shX 6 cX3_parseInstruction RX3 4 91 E) (X : Rx shX (some .int) R E) (x2 : Int) (x3 : Int) (x4 : Int) (M : Mem) (hf : fPr_parseInstruction_d_98  R x2 x3 x4 M) : AW shX 6 E 98 [some (.inr 20), none, some (.inl x2), some (.inl x3), some (.inl x4), none] [] M := by
  refine a_iload C dX3_parseInstruction_98 rfl ?_
  refine a_iconst C dX3_parseInstruction_100 (inr_b rfl) ?_
  obtain ⟨hfa, hfb⟩ := hf
  refine a_icmp_lt C 107 dX3_parseInstruction_101 rfl (fun hc => ?_) (fun hc => ?_)
  · have hf := hfa hc
    exact sPr_parseInstruction_d_107 C X  _ _ _ _ hf
  · have hf := hfb hc
    refine a_bipush C dX3_parseInstruction_104 bp_12 ?_
    exact a_iret C X dX3_parseInstruction_106 hf
set_option maxRecDepth 20000 in
set_option maxHeartbeats 4000000 in
theorem sPr_parseInstruction_d_37 {E : EE} {R : Int → Mem → Prop} (C : Cx shX 6 cX3_parseInstruction RX3 4 91 E) (X : Rx shX (some .int) R E) : ∀ (n : Nat) (x2 : Int) (x3 : Int) (x4 : Int) (x5 : Int) (M : Mem), fPr_parseInstruction_d_37  R n x2 x3 x4 x5 M → AW shX 6 E 37 [some (.inr 20), some (.inr 1), some (.inl x2), some (.inl x3), some (.inl x4), some (.inl x5)] [] M := by
  intro n
  induction n with
  | zero => intro x2 x3 x4 x5 M hf; exact hf.elim
  | succ n hk37 =>
    intro x2 x3 x4 x5 M hf
    refine a_iload C dX3_parseInstruction_37 rfl ?_
    refine a_gsN C 102 ro_102 (fun ad A U H h => nest_X3_57 h) dX3_parseInstruction_39 ?_
    refine a_iloadn C dX3_parseInstruction_42 rfl ?_
    obtain ⟨hg, hf⟩ := hf
    refine a_ti C ro_102 hg dX3_parseInstruction_43 ?_
    obtain ⟨hfa, hfb⟩ := hf
    refine a_icmp_gt C 86 dX3_parseInstruction_44 rfl (fun hc => ?_) (fun hc => ?_)
    · have hf := hfa hc
      refine a_iloadn C dX3_parseInstruction_86 rfl ?_
      refine a_bipush C dX3_parseInstruction_87 bp_9 ?_
      obtain ⟨hfa, hfb⟩ := hf
      refine a_icmp_eq C 98 dX3_parseInstruction_89 rfl (fun hc => ?_) (fun hc => ?_)
      · have hf := hfa hc
        refine a_drop [true, false, true, true, true, false] (lv2 := [some (.inr 20), none, some (.inl x2), some (.inl x3), some (.inl x4), none]) rfl ?_
        exact sPr_parseInstruction_d_98 C X  _ _ _ _ hf
      · have hf := hfb hc
        refine a_iloadn C dX3_parseInstruction_92 rfl ?_
        refine a_bipush C dX3_parseInstruction_93 bp_10 ?_
        obtain ⟨hfa, hfb⟩ := hf
        refine a_icmp_ne C 107 dX3_parseInstruction_95 rfl (fun hc => ?_) (fun hc => ?_)
        · have hf := hfa hc
          refine a_drop [true, false, true, true, true, false] (lv2 := [some (.inr 20), none, some (.inl x2), some (.inl x3), some (.inl x4), none]) rfl ?_
          exact sPr_parseInstruction_d_107 C X  _ _ _ _ hf
        · have hf := hfb hc
          refine a_drop [true, false, true, true, true, false] (lv2 := [some (.inr 20), none, some (.inl x2), some (.inl x3), some (.inl x4), none]) rfl ?_
          exact sPr_parseInstruction_d_98 C X  _ _ _ _ hf
    · have hf := hfb hc
      refine a_aloadn C dX3_parseInstruction_47 rfl ?_
      refine a_iloadn C dX3_parseInstruction_48 rfl ?_
      refine a_iload C dX3_parseInstruction_49 rfl ?_
      refine a_iadd C dX3_parseInstruction_51 ?_
      refine a_callV C [.inl (wrap (x2 + x5))] [] dX3_parseInstruction_52 (cTe_hasDigitAt _) mv_X6_hasDigitAt ln_X3_79 rfl rfl ⟨rfl, rfl, Nat.le_of_ble_eq_true rfl, Nat.le_of_ble_eq_true rfl, Nat.le_of_ble_eq_true rfl⟩ hf (fun r3 M3 hf => ?_)
      obtain ⟨hfa, hfb⟩ := hf
      refine a_if_ne C 61 dX3_parseInstruction_55 rfl (fun hc => ?_) (fun hc => ?_)
      · have hf := hfa hc
        refine a_bipush C dX3_parseInstruction_61 bp_10 ?_
        refine a_iload C dX3_parseInstruction_63 rfl ?_
        refine a_imul C dX3_parseInstruction_65 ?_
        refine a_aloadn C dX3_parseInstruction_66 rfl ?_
        refine a_iloadn C dX3_parseInstruction_67 rfl ?_
        refine a_iload C dX3_parseInstruction_68 rfl ?_
        refine a_iadd C dX3_parseInstruction_70 ?_
        refine a_callV C [.inl (wrap (x2 + x5))] [.inl (wrap (10 * x4))] dX3_parseInstruction_71 (cTe_letterAt _) mv_X6_letterAt ln_X3_70 rfl rfl ⟨rfl, rfl, Nat.le_of_ble_eq_true rfl, Nat.le_of_ble_eq_true rfl, Nat.le_of_ble_eq_true rfl⟩ hf (fun r4 M4 hf => ?_)
        refine a_iadd C dX3_parseInstruction_74 ?_
        refine a_bipush C dX3_parseInstruction_75 bp_48 ?_
        refine a_isub C dX3_parseInstruction_77 ?_
        refine a_istore C dX3_parseInstruction_78 (by decide) (lv2 := [some (.inr 20), some (.inr 1), some (.inl x2), some (.inl x3), some (.inl (wrap ((wrap ((wrap (10 * x4)) + r4)) - 48))), some (.inl x5)]) rfl ?_
        refine a_iinc C dX3_parseInstruction_80 rfl (by decide) (lv2 := [some (.inr 20), some (.inr 1), some (.inl x2), some (.inl x3), some (.inl (wrap ((wrap ((wrap (10 * x4)) + r4)) - 48))), some (.inl (wrap (x5 + 1)))]) rfl ?_
        refine a_goto C 37 dX3_parseInstruction_83 rfl ?_
        exact hk37 _ _ _ _ _ hf
      · have hf := hfb hc
        refine a_bipush C dX3_parseInstruction_58 bp_11 ?_
        exact a_iret C X dX3_parseInstruction_60 hf
set_option maxRecDepth 20000 in
set_option maxHeartbeats 4000000 in
theorem cPr_parseInstruction_d (x2 : Int) : Snd shX yX3_parseInstruction cX3_parseInstruction 6 (some .int) 4 91 [.inr 20, .inr 1, .inl x2] (fPr_parseInstruction_d x2) := by
  refine Snd.of RX3 (by decide +kernel) rfl (Nat.le_of_ble_eq_true rfl) ?_
  intro E M R hf C X
  show AW shX 6 E 0 [some (.inr 20), some (.inr 1), some (.inl x2), none, none, none] [] M
  refine a_aloadn C dX3_parseInstruction_0 rfl ?_
  refine a_getI C (kz := 6) fl_X3_31 rfl rfl rfl dX3_parseInstruction_1 ?_
  refine a_bipush C dX3_parseInstruction_4 bp_24 ?_
  obtain ⟨hfa, hfb⟩ := hf
  refine a_icmp_ne C 12 dX3_parseInstruction_6 rfl (fun hc => ?_) (fun hc => ?_)
  · have hf := hfa hc
    refine a_ldcS C (tx := "n+-*dxporgsjbwh") 111 (fun ad A U H h => str_X3_68 h) dX3_parseInstruction_12 ?_
    refine a_aloadn C dX3_parseInstruction_14 rfl ?_
    refine a_iloadn C dX3_parseInstruction_15 rfl ?_
    refine a_callV C [.inl x2] [.inr 111] dX3_parseInstruction_16 (cTe_letterAt _) mv_X6_letterAt ln_X3_70 rfl rfl ⟨rfl, rfl, Nat.le_of_ble_eq_true rfl, Nat.le_of_ble_eq_true rfl, Nat.le_of_ble_eq_true rfl⟩ hf (fun r1 M1 hf => ?_)
    refine a_i2c C dX3_parseInstruction_19 ?_
    refine a_callK C 111 [.inl (b_i2c r1)] [] dX3_parseInstruction_20 (cStr_indexOf_111 _) mv_J0_indexOf_0f7a4 ln_X3_74 ⟨by decide, rfl⟩ ⟨rfl, rfl, Nat.le_of_ble_eq_true rfl, Nat.le_of_ble_eq_true rfl, Nat.le_of_ble_eq_true rfl⟩ hf (fun r2 M2 hf => ?_)
    refine a_istoren C dX3_parseInstruction_23 (by decide) (lv2 := [some (.inr 20), some (.inr 1), some (.inl x2), some (.inl r2), none, none]) rfl ?_
    refine a_iloadn C dX3_parseInstruction_24 rfl ?_
    obtain ⟨hfa, hfb⟩ := hf
    refine a_if_ge C 31 dX3_parseInstruction_25 rfl (fun hc => ?_) (fun hc => ?_)
    · have hf := hfa hc
      refine a_iconst C dX3_parseInstruction_31 (inr_b rfl) ?_
      refine a_istore C dX3_parseInstruction_32 (by decide) (lv2 := [some (.inr 20), some (.inr 1), some (.inl x2), some (.inl r2), some (.inl 0), none]) rfl ?_
      refine a_iconst C dX3_parseInstruction_34 (inr_b rfl) ?_
      refine a_istore C dX3_parseInstruction_35 (by decide) (lv2 := [some (.inr 20), some (.inr 1), some (.inl x2), some (.inl r2), some (.inl 0), some (.inl 1)]) rfl ?_
      obtain ⟨n5, hf⟩ := hf
      exact sPr_parseInstruction_d_37 C X  n5 _ _ _ _ _ hf
    · have hf := hfb hc
      refine a_bipush C dX3_parseInstruction_28 bp_10 ?_
      exact a_iret C X dX3_parseInstruction_30 hf
  · have hf := hfb hc
    refine a_bipush C dX3_parseInstruction_9 bp_13 ?_
    exact a_iret C X dX3_parseInstruction_11 hf
set_option maxRecDepth 20000 in
set_option maxHeartbeats 4000000 in
theorem sPr_parse_d_128 {E : EE} {R : Int → Mem → Prop} (C : Cx shX 6 cX3_parse RX3 5 116 E) (X : Rx shX (some .int) R E) {k82 : Int → Mem → Prop} (hk82 : ∀ (x4 : Int) (M : Mem), k82 x4 M → AW shX 6 E 82 [some (.inr 20), none, some (.inr 3), none, some (.inl x4), none] [] M) (x4 : Int) (M : Mem) (hf : fPr_parse_d_128 k82 R x4 M) : AW shX 6 E 128 [some (.inr 20), none, some (.inr 3), none, some (.inl x4), none] [] M := by
  refine a_iinc C dX3_parse_128 rfl (by decide) (lv2 := [some (.inr 20), none, some (.inr 3), none, some (.inl (wrap (x4 + 1))), none]) rfl ?_
  refine a_goto C 82 dX3_parse_131 rfl ?_
  exact hk82 _ _ hf
set_option maxRecDepth 20000 in
set_option maxHeartbeats 4000000 in
theorem sPr_parse_d_82 {E : EE} {R : Int → Mem → Prop} (C : Cx shX 6 cX3_parse RX3 5 116 E) (X : Rx shX (some .int) R E) : ∀ (n : Nat) (x4 : Int) (M : Mem), fPr_parse_d_82  R n x4 M → AW shX 6 E 82 [some (.inr 20), none, some (.inr 3), none, some (.inl x4), none] [] M := by
  intro n
  induction n with
  | zero => intro x4 M hf; exact hf.elim
  | succ n hk82 =>
    intro x4 M hf
    refine a_iload C dX3_parse_82 rfl ?_
    refine a_aloadn C dX3_parse_84 rfl ?_
    refine a_getI C (kz := 6) fl_X3_31 rfl rfl rfl dX3_parse_85 ?_
    obtain ⟨hfa, hfb⟩ := hf
    refine a_icmp_ge C 134 dX3_parse_88 rfl (fun hc => ?_) (fun hc => ?_)
    · have hf := hfa hc
      refine a_bipush C dX3_parse_134 bp_m4 ?_
      exact a_iret C X dX3_parse_136 hf
    · have hf := hfb hc
      refine a_aloadn C dX3_parse_91 rfl ?_
      refine a_iload C dX3_parse_92 rfl ?_
      refine a_callV C [.inl x4] [] dX3_parse_94 (cPr_leads_d _) mv_X3_leads ln_X3_60 rfl rfl ⟨rfl, rfl, Nat.le_of_ble_eq_true rfl, Nat.le_of_ble_eq_true rfl, Nat.le_of_ble_eq_true rfl⟩ hf (fun r1 M1 hf => ?_)
      obtain ⟨hfa, hfb⟩ := hf
      refine a_if_eq C 128 dX3_parse_97 rfl (fun hc => ?_) (fun hc => ?_)
      · have hf := hfa hc
        exact sPr_parse_d_128 C X hk82 _ _ hf
      · have hf := hfb hc
        refine a_aloadn C dX3_parse_100 rfl ?_
        refine a_getR C 22 fl_X3_15 rfl rfl dX3_parse_101 ?_
        refine a_iload C dX3_parse_104 rfl ?_
        obtain ⟨hg, hf⟩ := hf
        refine a_iald C (n := 24) rfl hg dX3_parse_106 ?_
        refine a_aloadn C dX3_parse_107 rfl ?_
        refine a_getI C (kz := 6) fl_X3_31 rfl rfl rfl dX3_parse_108 ?_
        obtain ⟨hfa, hfb⟩ := hf
        refine a_icmp_lt C 128 dX3_parse_111 rfl (fun hc => ?_) (fun hc => ?_)
        · have hf := hfa hc
          exact sPr_parse_d_128 C X hk82 _ _ hf
        · have hf := hfb hc
          refine a_aloadn C dX3_parse_114 rfl ?_
          refine a_getR C 23 fl_X3_18 rfl rfl dX3_parse_115 ?_
          refine a_iload C dX3_parse_118 rfl ?_
          obtain ⟨hg, hf⟩ := hf
          refine a_iald C (n := 24) rfl hg dX3_parse_120 ?_
          refine a_bipush C dX3_parse_121 bp_14 ?_
          refine a_aloadn C dX3_parse_123 rfl ?_
          refine a_callS C [.inl (M1 23 x4), .inl 14, .inr 3] [] dX3_parse_124 (cPr_faulty _ _) ms_X3_faulty ln_X3_53 ⟨rfl, rfl, Nat.le_of_ble_eq_true rfl, Nat.le_of_ble_eq_true rfl, Nat.le_of_ble_eq_true rfl⟩ hf (fun r2 M2 hf => ?_)
          exact a_iret C X dX3_parse_127 hf
set_option maxRecDepth 20000 in
set_option maxHeartbeats 4000000 in
theorem sPr_parse_d_79 {E : EE} {R : Int → Mem → Prop} (C : Cx shX 6 cX3_parse RX3 5 116 E) (X : Rx shX (some .int) R E) (M : Mem) (hf : fPr_parse_d_79  R M) : AW shX 6 E 79 [some (.inr 20), none, some (.inr 3), none, none, none] [] M := by
  refine a_iconst C dX3_parse_79 (inr_b rfl) ?_
  refine a_istore C dX3_parse_80 (by decide) (lv2 := [some (.inr 20), none, some (.inr 3), none, some (.inl 0), none]) rfl ?_
  obtain ⟨n3, hf⟩ := hf
  exact sPr_parse_d_82 C X  n3 _ _ hf
set_option maxRecDepth 20000 in
set_option maxHeartbeats 4000000 in
theorem sPr_parse_d_15 {E : EE} {R : Int → Mem → Prop} (C : Cx shX 6 cX3_parse RX3 5 116 E) (X : Rx shX (some .int) R E) : ∀ (n : Nat) (x3 : Int) (x4 : Int) (M : Mem), fPr_parse_d_15  R n x3 x4 M → AW shX 6 E 15 [some (.inr 20), some (.inr 1), some (.inr 3), some (.inl x3), some (.inl x4), none] [] M := by
  intro n
  induction n with
  | zero => intro x3 x4 M hf; exact hf.elim
  | succ n hk15 =>
    intro x3 x4 M hf
    refine a_iload C dX3_parse_15 rfl ?_
    refine a_bipush C dX3_parse_17 bp_24 ?_
    obtain ⟨hfa, hfb⟩ := hf
    refine a_icmp_gt C 79 dX3_parse_19 rfl (fun hc => ?_) (fun hc => ?_)
    · have hf := hfa hc
      refine a_drop [true, false, true, false, false, true] (lv2 := [some (.inr 20), none, some (.inr 3), none, none, none]) rfl ?_
      exact sPr_parse_d_79 C X   _ hf
    · have hf := hfb hc
      refine a_iloadn C dX3_parse_22 rfl ?_
      refine a_aloadn C dX3_parse_23 rfl ?_
      refine a_getI C (kz := 1) fl_X3_46 rfl rfl rfl dX3_parse_24 ?_
      obtain ⟨hfa, hfb⟩ := hf
      refine a_icmp_ge C 79 dX3_parse_27 rfl (fun hc => ?_) (fun hc => ?_)
      · have hf := hfa hc
        refine a_drop [true, false, true, false, false, true] (lv2 := [some (.inr 20), none, some (.inr 3), none, none, none]) rfl ?_
        exact sPr_parse_d_79 C X   _ hf
      · have hf := hfb hc
        refine a_aloadn C dX3_parse_30 rfl ?_
        refine a_aloadn C dX3_parse_31 rfl ?_
        refine a_iloadn C dX3_parse_32 rfl ?_
        refine a_callV C [.inr 1, .inl x3] [] dX3_parse_33 (cPr_parseInstruction_d _) mv_X3_parseInstruction ln_X3_49 rfl rfl ⟨rfl, rfl, Nat.le_of_ble_eq_true rfl, Nat.le_of_ble_eq_true rfl, Nat.le_of_ble_eq_true rfl⟩ hf (fun r4 M4 hf => ?_)
        refine a_istore C dX3_parse_36 (by decide) (lv2 := [some (.inr 20), some (.inr 1), some (.inr 3), some (.inl x3), some (.inl x4), some (.inl r4)]) rfl ?_
        refine a_iload C dX3_parse_38 rfl ?_
        refine a_bipush C dX3_parse_40 bp_m4 ?_
        obtain ⟨hfa, hfb⟩ := hf
        refine a_icmp_eq C 53 dX3_parse_42 rfl (fun hc => ?_) (fun hc => ?_)
        · have hf := hfa hc
          refine a_iloadn C dX3_parse_53 rfl ?_
          refine a_iconst C dX3_parse_54 (inr_b rfl) ?_
          refine a_gsN C 102 ro_102 (fun ad A U H h => nest_X3_57 h) dX3_parse_55 ?_
          refine a_aloadn C dX3_parse_58 rfl ?_
          refine a_getR C 21 fl_X3_9 rfl rfl dX3_parse_59 ?_
          refine a_aloadn C dX3_parse_62 rfl ?_
          refine a_getI C (kz := 6) fl_X3_31 rfl rfl rfl dX3_parse_63 ?_
          refine a_iconst C dX3_parse_66 (inr_b rfl) ?_
          refine a_isub C dX3_parse_67 ?_
          obtain ⟨hg, hf⟩ := hf
          refine a_iald C (n := 24) rfl hg dX3_parse_68 ?_
          obtain ⟨hg, hf⟩ := hf
          refine a_ti C ro_102 hg dX3_parse_69 ?_
          refine a_iadd C dX3_parse_70 ?_
          refine a_iadd C dX3_parse_71 ?_
          refine a_istoren C dX3_parse_72 (by decide) (lv2 := [some (.inr 20), some (.inr 1), some (.inr 3), some (.inl (wrap (x3 + (wrap (1 + (roV 102 (M4 21 (wrap ((M4 20 6) - 1))))))))), some (.inl x4), some (.inl r4)]) rfl ?_
          refine a_iinc C dX3_parse_73 rfl (by decide) (lv2 := [some (.inr 20), some (.inr 1), some (.inr 3), some (.inl (wrap (x3 + (wrap (1 + (roV 102 (M4 21 (wrap ((M4 20 6) - 1))))))))), some (.inl (wrap (x4 + 1))), some (.inl r4)]) rfl ?_
          refine a_goto C 15 dX3_parse_76 rfl ?_
          refine a_drop [true, true, true, true, true, false] (lv2 := [some (.inr 20), some (.inr 1), some (.inr 3), some (.inl (wrap (x3 + (wrap (1 + (roV 102 (M4 21 (wrap ((M4 20 6) - 1))))))))), some (.inl (wrap (x4 + 1))), none]) rfl ?_
          exact hk15 _ _ _ hf
        · have hf := hfb hc
          refine a_iloadn C dX3_parse_45 rfl ?_
          refine a_iload C dX3_parse_46 rfl ?_
          refine a_aloadn C dX3_parse_48 rfl ?_
          refine a_callS C [.inl x3, .inl r4, .inr 3] [] dX3_parse_49 (cPr_faulty _ _) ms_X3_faulty ln_X3_53 ⟨rfl, rfl, Nat.le_of_ble_eq_true rfl, Nat.le_of_ble_eq_true rfl, Nat.le_of_ble_eq_true rfl⟩ hf (fun r5 M5 hf => ?_)
          exact a_iret C X dX3_parse_52 hf
set_option maxRecDepth 20000 in
set_option maxHeartbeats 4000000 in
theorem cPr_parse_d : Snd shX yX3_parse cX3_parse 6 (some .int) 5 116 [.inr 20, .inr 1, .inr 3] fPr_parse_d := by
  refine Snd.of RX3 (by decide +kernel) rfl (Nat.le_of_ble_eq_true rfl) ?_
  intro E M R hf C X
  show AW shX 6 E 0 [some (.inr 20), some (.inr 1), some (.inr 3), none, none, none] [] M
  refine a_aloadn C dX3_parse_0 rfl ?_
  refine a_iconst C dX3_parse_1 (inr_b rfl) ?_
  refine a_putI C (kz := 1) fp_X3_41 rfl rfl rfl dX3_parse_2 ?_
  refine a_aloadn C dX3_parse_5 rfl ?_
  refine a_iconst C dX3_parse_6 (inr_b rfl) ?_
  refine a_putI C (kz := 6) fp_X3_31 rfl rfl rfl dX3_parse_7 ?_
  refine a_iconst C dX3_parse_10 (inr_b rfl) ?_
  refine a_istoren C dX3_parse_11 (by decide) (lv2 := [some (.inr 20), some (.inr 1), some (.inr 3), some (.inl 0), none, none]) rfl ?_
  refine a_iconst C dX3_parse_12 (inr_b rfl) ?_
  refine a_istore C dX3_parse_13 (by decide) (lv2 := [some (.inr 20), some (.inr 1), some (.inr 3), some (.inl 0), some (.inl 0), none]) rfl ?_
  obtain ⟨n6, hf⟩ := hf
  exact sPr_parse_d_15 C X  n6 _ _ _ hf
set_option maxRecDepth 20000 in
set_option maxHeartbeats 4000000 in
theorem cSt_fault : Snd shX yX7_fault cX7_fault 1 (some .int) 6 141 [.inr 0] fSt_fault := by
  refine Snd.of RX7 (by decide +kernel) rfl (Nat.le_of_ble_eq_true rfl) ?_
  intro E M R hf C X
  show AW shX 1 E 0 [some (.inr 0)] [] M
  refine a_aloadn C dX7_fault_0 rfl ?_
  refine a_getR C 20 fl_X7_44 rfl rfl dX7_fault_1 ?_
  refine a_aloadn C dX7_fault_4 rfl ?_
  refine a_getR C 1 fl_X7_10 rfl rfl dX7_fault_5 ?_
  refine a_aloadn C dX7_fault_8 rfl ?_
  refine a_getR C 3 fl_X7_19 rfl rfl dX7_fault_9 ?_
  refine a_callV C [.inr 1, .inr 3] [] dX7_fault_12 (cPr_parse_d) mv_X3_parse ln_X7_81 rfl rfl ⟨rfl, rfl, Nat.le_of_ble_eq_true rfl, Nat.le_of_ble_eq_true rfl, Nat.le_of_ble_eq_true rfl⟩ hf (fun r1 M1 hf => ?_)
  exact a_iret C X dX7_fault_15 hf
set_option maxRecDepth 20000 in
set_option maxHeartbeats 4000000 in
theorem cPr_isReached_d (x1 : Int) : Snd shX yX3_isReached cX3_isReached 2 (some .boolean) 0 0 [.inr 20, .inl x1] (fPr_isReached_d x1) := by
  refine Snd.of RX3 (by decide +kernel) rfl (Nat.le_of_ble_eq_true rfl) ?_
  intro E M R hf C X
  show AW shX 2 E 0 [some (.inr 20), some (.inl x1)] [] M
  refine a_aloadn C dX3_isReached_0 rfl ?_
  refine a_getR C 24 fl_X3_21 rfl rfl dX3_isReached_1 ?_
  refine a_iloadn C dX3_isReached_4 rfl ?_
  obtain ⟨hg, hf⟩ := hf
  refine a_iald C (n := 24) rfl hg dX3_isReached_5 ?_
  refine a_bipush C dX3_isReached_6 bp_m4 ?_
  obtain ⟨hfa, hfb⟩ := hf
  refine a_icmp_eq C 15 dX3_isReached_8 rfl (fun hc => ?_) (fun hc => ?_)
  · have hf := hfa hc
    refine a_iconst C dX3_isReached_15 (inr_b rfl) ?_
    exact a_bret C X (Or.inl rfl) dX3_isReached_16 hf
  · have hf := hfb hc
    refine a_iconst C dX3_isReached_11 (inr_b rfl) ?_
    refine a_goto C 16 dX3_isReached_12 rfl ?_
    exact a_bret C X (Or.inr rfl) dX3_isReached_16 hf
set_option maxRecDepth 20000 in
set_option maxHeartbeats 4000000 in
theorem sPr_nextToConsider_d_29 {E : EE} {R : Int → Mem → Prop} (C : Cx shX 2 cX3_nextToConsider RX3 1 21 E) (X : Rx shX (some .int) R E) {k2 : Int → Mem → Prop} (hk2 : ∀ (x1 : Int) (M : Mem), k2 x1 M → AW shX 2 E 2 [some (.inr 20), some (.inl x1)] [] M) (x1 : Int) (M : Mem) (hf : fPr_nextToConsider_d_29 k2 R x1 M) : AW shX 2 E 29 [some (.inr 20), some (.inl x1)] [] M := by
  refine a_iinc C dX3_nextToConsider_29 rfl (by decide) (lv2 := [some (.inr 20), some (.inl (wrap (x1 + 1)))]) rfl ?_
  refine a_goto C 2 dX3_nextToConsider_32 rfl ?_
  exact hk2 _ _ hf
set_option maxRecDepth 20000 in
set_option maxHeartbeats 4000000 in
theorem sPr_nextToConsider_d_2 {E : EE} {R : Int → Mem → Prop} (C : Cx shX 2 cX3_nextToConsider RX3 1 21 E) (X : Rx shX (some .int) R E) : ∀ (n : Nat) (x1 : Int) (M : Mem), fPr_nextToConsider_d_2  R n x1 M → AW shX 2 E 2 [some (.inr 20), some (.inl x1)] [] M := by
  intro n
  induction n with
  | zero => intro x1 M hf; exact hf.elim
  | succ n hk2 =>
    intro x1 M hf
    refine a_iloadn C dX3_nextToConsider_2 rfl ?_
    refine a_aloadn C dX3_nextToConsider_3 rfl ?_
    refine a_getI C (kz := 6) fl_X3_31 rfl rfl rfl dX3_nextToConsider_4 ?_
    obtain ⟨hfa, hfb⟩ := hf
    refine a_icmp_ge C 35 dX3_nextToConsider_7 rfl (fun hc => ?_) (fun hc => ?_)
    · have hf := hfa hc
      refine a_bipush C dX3_nextToConsider_35 bp_m4 ?_
      exact a_iret C X dX3_nextToConsider_37 hf
    · have hf := hfb hc
      refine a_aloadn C dX3_nextToConsider_10 rfl ?_
      refine a_iloadn C dX3_nextToConsider_11 rfl ?_
      refine a_callV C [.inl x1] [] dX3_nextToConsider_12 (cPr_isReached_d _) mv_X3_isReached ln_X3_94 rfl rfl ⟨rfl, rfl, Nat.le_of_ble_eq_true rfl, Nat.le_of_ble_eq_true rfl, Nat.le_of_ble_eq_true rfl⟩ hf (fun r1 M1 hf => ?_)
      obtain ⟨hfa, hfb⟩ := hf
      refine a_if_eq C 29 dX3_nextToConsider_15 rfl (fun hc => ?_) (fun hc => ?_)
      · have hf := hfa hc
        exact sPr_nextToConsider_d_29 C X hk2 _ _ hf
      · have hf := hfb hc
        refine a_aloadn C dX3_nextToConsider_18 rfl ?_
        refine a_getR C 25 fl_X3_24 rfl rfl dX3_nextToConsider_19 ?_
        refine a_iloadn C dX3_nextToConsider_22 rfl ?_
        obtain ⟨hg, hf⟩ := hf
        refine a_zald C (n := 24) rfl hg dX3_nextToConsider_23 ?_
        obtain ⟨hfa, hfb⟩ := hf
        refine a_if_ne C 29 dX3_nextToConsider_24 rfl (fun hc => ?_) (fun hc => ?_)
        · have hf := hfa hc
          exact sPr_nextToConsider_d_29 C X hk2 _ _ hf
        · have hf := hfb hc
          refine a_iloadn C dX3_nextToConsider_27 rfl ?_
          exact a_iret C X dX3_nextToConsider_28 hf
set_option maxRecDepth 20000 in
set_option maxHeartbeats 4000000 in
theorem cPr_nextToConsider_d : Snd shX yX3_nextToConsider cX3_nextToConsider 2 (some .int) 1 21 [.inr 20] fPr_nextToConsider_d := by
  refine Snd.of RX3 (by decide +kernel) rfl (Nat.le_of_ble_eq_true rfl) ?_
  intro E M R hf C X
  show AW shX 2 E 0 [some (.inr 20), none] [] M
  refine a_iconst C dX3_nextToConsider_0 (inr_b rfl) ?_
  refine a_istoren C dX3_nextToConsider_1 (by decide) (lv2 := [some (.inr 20), some (.inl 0)]) rfl ?_
  obtain ⟨n2, hf⟩ := hf
  exact sPr_nextToConsider_d_2 C X  n2 _ _ hf
set_option maxRecDepth 20000 in
set_option maxHeartbeats 4000000 in
theorem sPr_falls_d_36 {E : EE} {R : Int → Mem → Prop} (C : Cx shX 2 cX3_falls RX3 0 0 E) (X : Rx shX (some .boolean) R E) (M : Mem) (hf : fPr_falls_d_36  R M) : AW shX 2 E 36 [none, none] [] M := by
  refine a_iconst C dX3_falls_36 (inr_b rfl) ?_
  exact a_bret C X (Or.inl rfl) dX3_falls_37 hf
set_option maxRecDepth 20000 in
set_option maxHeartbeats 4000000 in
theorem cPr_falls_d (x1 : Int) : Snd shX yX3_falls cX3_falls 2 (some .boolean) 0 0 [.inr 20, .inl x1] (fPr_falls_d x1) := by
  refine Snd.of RX3 (by decide +kernel) rfl (Nat.le_of_ble_eq_true rfl) ?_
  intro E M R hf C X
  show AW shX 2 E 0 [some (.inr 20), some (.inl x1)] [] M
  refine a_aloadn C dX3_falls_0 rfl ?_
  refine a_getR C 21 fl_X3_9 rfl rfl dX3_falls_1 ?_
  refine a_iloadn C dX3_falls_4 rfl ?_
  obtain ⟨hg, hf⟩ := hf
  refine a_iald C (n := 24) rfl hg dX3_falls_5 ?_
  refine a_bipush C dX3_falls_6 bp_11 ?_
  obtain ⟨hfa, hfb⟩ := hf
  refine a_icmp_eq C 36 dX3_falls_8 rfl (fun hc => ?_) (fun hc => ?_)
  · have hf := hfa hc
    refine a_drop [false, false] (lv2 := [none, none]) rfl ?_
    exact sPr_falls_d_36 C X   _ hf
  · have hf := hfb hc
    refine a_aloadn C dX3_falls_11 rfl ?_
    refine a_getR C 21 fl_X3_9 rfl rfl dX3_falls_12 ?_
    refine a_iloadn C dX3_falls_15 rfl ?_
    obtain ⟨hg, hf⟩ := hf
    refine a_iald C (n := 24) rfl hg dX3_falls_16 ?_
    refine a_bipush C dX3_falls_17 bp_14 ?_
    obtain ⟨hfa, hfb⟩ := hf
    refine a_icmp_eq C 36 dX3_falls_19 rfl (fun hc => ?_) (fun hc => ?_)
    · have hf := hfa hc
      refine a_drop [false, false] (lv2 := [none, none]) rfl ?_
      exact sPr_falls_d_36 C X   _ hf
    · have hf := hfb hc
      refine a_iloadn C dX3_falls_22 rfl ?_
      refine a_iconst C dX3_falls_23 (inr_b rfl) ?_
      refine a_iadd C dX3_falls_24 ?_
      refine a_aloadn C dX3_falls_25 rfl ?_
      refine a_getI C (kz := 6) fl_X3_31 rfl rfl rfl dX3_falls_26 ?_
      obtain ⟨hfa, hfb⟩ := hf
      refine a_icmp_ge C 36 dX3_falls_29 rfl (fun hc => ?_) (fun hc => ?_)
      · have hf := hfa hc
        refine a_drop [false, false] (lv2 := [none, none]) rfl ?_
        exact sPr_falls_d_36 C X   _ hf
      · have hf := hfb hc
        refine a_iconst C dX3_falls_32 (inr_b rfl) ?_
        refine a_goto C 37 dX3_falls_33 rfl ?_
        exact a_bret C X (Or.inr rfl) dX3_falls_37 hf
set_option maxRecDepth 20000 in
set_option maxHeartbeats 4000000 in
theorem sPr_accepts_d_15 {E : EE} {R : Int → Mem → Prop} (C : Cx shX 3 cX3_accepts RX3 1 21 E) (X : Rx shX (some .boolean) R E) (x1 : Int) (x2 : Int) (M : Mem) (hf : fPr_accepts_d_15  R x1 x2 M) : AW shX 3 E 15 [some (.inr 20), some (.inl x1), some (.inl x2)] [] M := by
  refine a_aloadn C dX3_accepts_15 rfl ?_
  refine a_getR C 24 fl_X3_21 rfl rfl dX3_accepts_16 ?_
  refine a_iloadn C dX3_accepts_19 rfl ?_
  obtain ⟨hg, hf⟩ := hf
  refine a_iald C (n := 24) rfl hg dX3_accepts_20 ?_
  refine a_iloadn C dX3_accepts_21 rfl ?_
  obtain ⟨hfa, hfb⟩ := hf
  refine a_icmp_ne C 29 dX3_accepts_22 rfl (fun hc => ?_) (fun hc => ?_)
  · have hf := hfa hc
    refine a_iconst C dX3_accepts_29 (inr_b rfl) ?_
    exact a_bret C X (Or.inl rfl) dX3_accepts_30 hf
  · have hf := hfb hc
    refine a_iconst C dX3_accepts_25 (inr_b rfl) ?_
    refine a_goto C 30 dX3_accepts_26 rfl ?_
    exact a_bret C X (Or.inr rfl) dX3_accepts_30 hf
set_option maxRecDepth 20000 in
set_option maxHeartbeats 4000000 in
theorem cPr_accepts_d (x1 x2 : Int) : Snd shX yX3_accepts cX3_accepts 3 (some .boolean) 1 21 [.inr 20, .inl x1, .inl x2] (fPr_accepts_d x1 x2) := by
  refine Snd.of RX3 (by decide +kernel) rfl (Nat.le_of_ble_eq_true rfl) ?_
  intro E M R hf C X
  show AW shX 3 E 0 [some (.inr 20), some (.inl x1), some (.inl x2)] [] M
  refine a_aloadn C dX3_accepts_0 rfl ?_
  refine a_iloadn C dX3_accepts_1 rfl ?_
  refine a_callV C [.inl x1] [] dX3_accepts_2 (cPr_isReached_d _) mv_X3_isReached ln_X3_94 rfl rfl ⟨rfl, rfl, Nat.le_of_ble_eq_true rfl, Nat.le_of_ble_eq_true rfl, Nat.le_of_ble_eq_true rfl⟩ hf (fun r1 M1 hf => ?_)
  obtain ⟨hfa, hfb⟩ := hf
  refine a_if_ne C 15 dX3_accepts_5 rfl (fun hc => ?_) (fun hc => ?_)
  · have hf := hfa hc
    exact sPr_accepts_d_15 C X  _ _ _ hf
  · have hf := hfb hc
    refine a_aloadn C dX3_accepts_8 rfl ?_
    refine a_getR C 24 fl_X3_21 rfl rfl dX3_accepts_9 ?_
    refine a_iloadn C dX3_accepts_12 rfl ?_
    refine a_iloadn C dX3_accepts_13 rfl ?_
    obtain ⟨hg, hf⟩ := hf
    refine a_iast C (n := 24) rfl hg dX3_accepts_14 ?_
    exact sPr_accepts_d_15 C X  _ _ _ hf
set_option maxRecDepth 20000 in
set_option maxHeartbeats 4000000 in
theorem sPr_passOn_d_54 {E : EE} {R : Int → Mem → Prop} (C : Cx shX 5 cX3_passOn RX3 2 43 E) (X : Rx shX (some .boolean) R E) (x1 : Int) (M : Mem) (hf : fPr_passOn_d_54  R x1 M) : AW shX 5 E 54 [none, some (.inl x1), some (.inr 3), none, none] [] M := by
  have hf : fPr_flawed 22 x1 M (fun r1 M1 => ((r1 = 0 ∨ r1 = 1) ∧ R r1 M1)) := hf
  refine a_bipush C dX3_passOn_54 bp_22 ?_
  refine a_iloadn C dX3_passOn_56 rfl ?_
  refine a_aloadn C dX3_passOn_57 rfl ?_
  refine a_callS C [.inl 22, .inl x1, .inr 3] [] dX3_passOn_58 (cPr_flawed _ _) ms_X3_flawed ln_X3_90 ⟨rfl, rfl, Nat.le_of_ble_eq_true rfl, Nat.le_of_ble_eq_true rfl, Nat.le_of_ble_eq_true rfl⟩ hf (fun r1 M1 hf => ?_)
  obtain ⟨hg, hf⟩ := hf
  exact a_bret C X hg dX3_passOn_61 hf
set_option maxRecDepth 20000 in
set_option maxHeartbeats 4000000 in
theorem sPr_passOn_d_158 {E : EE} {R : Int → Mem → Prop} (C : Cx shX 5 cX3_passOn RX3 2 43 E) (X : Rx shX (some .boolean) R E) (M : Mem) (hf : fPr_passOn_d_158  R M) : AW shX 5 E 158 [none, none, none, none, none] [] M := by
  refine a_iconst C dX3_passOn_158 (inr_b rfl) ?_
  refine a_goto C 163 dX3_passOn_159 rfl ?_
  exact a_bret C X (Or.inr rfl) dX3_passOn_163 hf
set_option maxRecDepth 20000 in
set_option maxHeartbeats 4000000 in
theorem sPr_passOn_d_129 {E : EE} {R : Int → Mem → Prop} (C : Cx shX 5 cX3_passOn RX3 2 43 E) (X : Rx shX (some .boolean) R E) (x3 : Int) (x4 : Int) (M : Mem) (hf : fPr_passOn_d_129  R x3 x4 M) : AW shX 5 E 129 [some (.inr 20), none, some (.inr 3), some (.inl x3), some (.inl x4)] [] M := by
  refine a_aloadn C dX3_passOn_129 rfl ?_
  refine a_getR C 26 fl_X3_28 rfl rfl dX3_passOn_130 ?_
  refine a_iload C dX3_passOn_133 rfl ?_
  refine a_iconst C dX3_passOn_135 (inr_b rfl) ?_
  obtain ⟨hg, hf⟩ := hf
  refine a_zast C (n := 24) rfl (Or.inr rfl) hg dX3_passOn_136 ?_
  refine a_aloadn C dX3_passOn_137 rfl ?_
  refine a_iload C dX3_passOn_138 rfl ?_
  refine a_iloadn C dX3_passOn_140 rfl ?_
  refine a_callV C [.inl x4, .inl x3] [] dX3_passOn_141 (cPr_accepts_d _ _) mv_X3_accepts ln_X3_106 rfl rfl ⟨rfl, rfl, Nat.le_of_ble_eq_true rfl, Nat.le_of_ble_eq_true rfl, Nat.le_of_ble_eq_true rfl⟩ hf (fun r4 M4 hf => ?_)
  obtain ⟨hfa, hfb⟩ := hf
  refine a_if_ne C 158 dX3_passOn_144 rfl (fun hc => ?_) (fun hc => ?_)
  · have hf := hfa hc
    refine a_drop [false, true, false, false, false] (lv2 := [none, none, none, none, none]) rfl ?_
    exact sPr_passOn_d_158 C X   _ hf
  · have hf := hfb hc
    refine a_bipush C dX3_passOn_147 bp_21 ?_
    refine a_iload C dX3_passOn_149 rfl ?_
    refine a_aloadn C dX3_passOn_151 rfl ?_
    refine a_callS C [.inl 21, .inl x4, .inr 3] [] dX3_passOn_152 (cPr_flawed _ _) ms_X3_flawed ln_X3_90 ⟨rfl, rfl, Nat.le_of_ble_eq_true rfl, Nat.le_of_ble_eq_true rfl, Nat.le_of_ble_eq_true rfl⟩ hf (fun r5 M5 hf => ?_)
    obtain ⟨hfa, hfb⟩ := hf
    refine a_if_eq C 162 dX3_passOn_155 rfl (fun hc => ?_) (fun hc => ?_)
    · have hf := hfa hc
      refine a_iconst C dX3_passOn_162 (inr_b rfl) ?_
      exact a_bret C X (Or.inl rfl) dX3_passOn_163 hf
    · have hf := hfb hc
      refine a_drop [false, true, false, false, false] (lv2 := [none, none, none, none, none]) rfl ?_
      exact sPr_passOn_d_158 C X   _ hf
set_option maxRecDepth 20000 in
set_option maxHeartbeats 4000000 in
theorem sPr_passOn_d_91 {E : EE} {R : Int → Mem → Prop} (C : Cx shX 5 cX3_passOn RX3 2 43 E) (X : Rx shX (some .boolean) R E) (x1 : Int) (x3 : Int) (M : Mem) (hf : fPr_passOn_d_91  R x1 x3 M) : AW shX 5 E 91 [some (.inr 20), some (.inl x1), some (.inr 3), some (.inl x3), none] [] M := by
  have hf : fPr_leads_d x1 M (fun r3 M3 => ((r3 ≠ 0 → (inb x1 24 ∧ (inb (M3 22 x1) 24 ∧ (((M3 26 (M3 22 x1)) ≠ 0 → fPr_passOn_d_129  R x3 (M3 22 x1) M3) ∧ ((M3 26 (M3 22 x1)) = 0 → fPr_passOn_d_129  R x3 (M3 22 x1) (mu M3 20 8 (wrap ((M3 20 8) + 1)))))))) ∧ (r3 = 0 → R 1 M3))) := hf
  refine a_aloadn C dX3_passOn_91 rfl ?_
  refine a_iloadn C dX3_passOn_92 rfl ?_
  refine a_callV C [.inl x1] [] dX3_passOn_93 (cPr_leads_d _) mv_X3_leads ln_X3_60 rfl rfl ⟨rfl, rfl, Nat.le_of_ble_eq_true rfl, Nat.le_of_ble_eq_true rfl, Nat.le_of_ble_eq_true rfl⟩ hf (fun r3 M3 hf => ?_)
  obtain ⟨hfa, hfb⟩ := hf
  refine a_if_ne C 101 dX3_passOn_96 rfl (fun hc => ?_) (fun hc => ?_)
  · have hf := hfa hc
    refine a_aloadn C dX3_passOn_101 rfl ?_
    refine a_getR C 22 fl_X3_15 rfl rfl dX3_passOn_102 ?_
    refine a_iloadn C dX3_passOn_105 rfl ?_
    obtain ⟨hg, hf⟩ := hf
    refine a_iald C (n := 24) rfl hg dX3_passOn_106 ?_
    refine a_istore C dX3_passOn_107 (by decide) (lv2 := [some (.inr 20), some (.inl x1), some (.inr 3), some (.inl x3), some (.inl (M3 22 x1))]) rfl ?_
    refine a_aloadn C dX3_passOn_109 rfl ?_
    refine a_getR C 26 fl_X3_28 rfl rfl dX3_passOn_110 ?_
    refine a_iload C dX3_passOn_113 rfl ?_
    obtain ⟨hg, hf⟩ := hf
    refine a_zald C (n := 24) rfl hg dX3_passOn_115 ?_
    obtain ⟨hfa, hfb⟩ := hf
    refine a_if_ne C 129 dX3_passOn_116 rfl (fun hc => ?_) (fun hc => ?_)
    · have hf := hfa hc
      refine a_drop [true, false, true, true, true] (lv2 := [some (.inr 20), none, some (.inr 3), some (.inl x3), some (.inl (M3 22 x1))]) rfl ?_
      exact sPr_passOn_d_129 C X  _ _ _ hf
    · have hf := hfb hc
      refine a_aloadn C dX3_passOn_119 rfl ?_
      refine a_dup C dX3_passOn_120 ?_
      refine a_getI C (kz := 8) fl_X3_38 rfl rfl rfl dX3_passOn_121 ?_
      refine a_iconst C dX3_passOn_124 (inr_b rfl) ?_
      refine a_iadd C dX3_passOn_125 ?_
      refine a_putI C (kz := 8) fp_X3_38 rfl rfl rfl dX3_passOn_126 ?_
      refine a_drop [true, false, true, true, true] (lv2 := [some (.inr 20), none, some (.inr 3), some (.inl x3), some (.inl (M3 22 x1))]) rfl ?_
      exact sPr_passOn_d_129 C X  _ _ _ hf
  · have hf := hfb hc
    refine a_iconst C dX3_passOn_99 (inr_b rfl) ?_
    exact a_bret C X (Or.inr rfl) dX3_passOn_100 hf
set_option maxRecDepth 20000 in
set_option maxHeartbeats 4000000 in
theorem cPr_passOn_d (x1 : Int) : Snd shX yX3_passOn cX3_passOn 5 (some .boolean) 2 43 [.inr 20, .inl x1, .inr 3] (fPr_passOn_d x1) := by
  refine Snd.of RX3 (by decide +kernel) rfl (Nat.le_of_ble_eq_true rfl) ?_
  intro E M R hf C X
  show AW shX 5 E 0 [some (.inr 20), some (.inl x1), some (.inr 3), none, none] [] M
  refine a_aloadn C dX3_passOn_0 rfl ?_
  refine a_getR C 24 fl_X3_21 rfl rfl dX3_passOn_1 ?_
  refine a_iloadn C dX3_passOn_4 rfl ?_
  obtain ⟨hg, hf⟩ := hf
  refine a_iald C (n := 24) rfl hg dX3_passOn_5 ?_
  refine a_gsN C 100 ro_100 (fun ad A U H h => nest_X3_97 h) dX3_passOn_6 ?_
  refine a_aloadn C dX3_passOn_9 rfl ?_
  refine a_getR C 21 fl_X3_9 rfl rfl dX3_passOn_10 ?_
  refine a_iloadn C dX3_passOn_13 rfl ?_
  obtain ⟨hg, hf⟩ := hf
  refine a_iald C (n := 24) rfl hg dX3_passOn_14 ?_
  obtain ⟨hg, hf⟩ := hf
  refine a_ti C ro_100 hg dX3_passOn_15 ?_
  refine a_isub C dX3_passOn_16 ?_
  refine a_gsN C 101 ro_101 (fun ad A U H h => nest_X3_100 h) dX3_passOn_17 ?_
  refine a_aloadn C dX3_passOn_20 rfl ?_
  refine a_getR C 21 fl_X3_9 rfl rfl dX3_passOn_21 ?_
  refine a_iloadn C dX3_passOn_24 rfl ?_
  obtain ⟨hg, hf⟩ := hf
  refine a_iald C (n := 24) rfl hg dX3_passOn_25 ?_
  obtain ⟨hg, hf⟩ := hf
  refine a_ti C ro_101 hg dX3_passOn_26 ?_
  refine a_iadd C dX3_passOn_27 ?_
  refine a_istoren C dX3_passOn_28 (by decide) (lv2 := [some (.inr 20), some (.inl x1), some (.inr 3), some (.inl (wrap ((wrap ((M 24 x1) - (roV 100 (M 21 x1)))) + (roV 101 (M 21 x1))))), none]) rfl ?_
  refine a_aloadn C dX3_passOn_29 rfl ?_
  refine a_getR C 24 fl_X3_21 rfl rfl dX3_passOn_30 ?_
  refine a_iloadn C dX3_passOn_33 rfl ?_
  obtain ⟨hg, hf⟩ := hf
  refine a_iald C (n := 24) rfl hg dX3_passOn_34 ?_
  refine a_gsN C 100 ro_100 (fun ad A U H h => nest_X3_97 h) dX3_passOn_35 ?_
  refine a_aloadn C dX3_passOn_38 rfl ?_
  refine a_getR C 21 fl_X3_9 rfl rfl dX3_passOn_39 ?_
  refine a_iloadn C dX3_passOn_42 rfl ?_
  obtain ⟨hg, hf⟩ := hf
  refine a_iald C (n := 24) rfl hg dX3_passOn_43 ?_
  obtain ⟨hg, hf⟩ := hf
  refine a_ti C ro_100 hg dX3_passOn_44 ?_
  obtain ⟨hfa, hfb⟩ := hf
  refine a_icmp_lt C 54 dX3_passOn_45 rfl (fun hc => ?_) (fun hc => ?_)
  · have hf := hfa hc
    refine a_drop [false, true, true, false, true] (lv2 := [none, some (.inl x1), some (.inr 3), none, none]) rfl ?_
    exact sPr_passOn_d_54 C X  _ _ hf
  · have hf := hfb hc
    refine a_iloadn C dX3_passOn_48 rfl ?_
    refine a_bipush C dX3_passOn_49 bp_12 ?_
    obtain ⟨hfa, hfb⟩ := hf
    refine a_icmp_le C 62 dX3_passOn_51 rfl (fun hc => ?_) (fun hc => ?_)
    · have hf := hfa hc
      refine a_aloadn C dX3_passOn_62 rfl ?_
      refine a_iloadn C dX3_passOn_63 rfl ?_
      refine a_callV C [.inl x1] [] dX3_passOn_64 (cPr_falls_d _) mv_X3_falls ln_X3_103 rfl rfl ⟨rfl, rfl, Nat.le_of_ble_eq_true rfl, Nat.le_of_ble_eq_true rfl, Nat.le_of_ble_eq_true rfl⟩ hf (fun r2 M2 hf => ?_)
      obtain ⟨hfa, hfb⟩ := hf
      refine a_if_eq C 91 dX3_passOn_67 rfl (fun hc => ?_) (fun hc => ?_)
      · have hf := hfa hc
        exact sPr_passOn_d_91 C X  _ _ _ hf
      · have hf := hfb hc
        refine a_aloadn C dX3_passOn_70 rfl ?_
        refine a_iloadn C dX3_passOn_71 rfl ?_
        refine a_iconst C dX3_passOn_72 (inr_b rfl) ?_
        refine a_iadd C dX3_passOn_73 ?_
        refine a_iloadn C dX3_passOn_74 rfl ?_
        refine a_callV C [.inl (wrap (x1 + 1)), .inl (wrap ((wrap ((M 24 x1) - (roV 100 (M 21 x1)))) + (roV 101 (M 21 x1))))] [] dX3_passOn_75 (cPr_accepts_d _ _) mv_X3_accepts ln_X3_106 rfl rfl ⟨rfl, rfl, Nat.le_of_ble_eq_true rfl, Nat.le_of_ble_eq_true rfl, Nat.le_of_ble_eq_true rfl⟩ hf (fun r6 M6 hf => ?_)
        obtain ⟨hfa, hfb⟩ := hf
        refine a_if_ne C 91 dX3_passOn_78 rfl (fun hc => ?_) (fun hc => ?_)
        · have hf := hfa hc
          exact sPr_passOn_d_91 C X  _ _ _ hf
        · have hf := hfb hc
          refine a_bipush C dX3_passOn_81 bp_21 ?_
          refine a_iloadn C dX3_passOn_83 rfl ?_
          refine a_iconst C dX3_passOn_84 (inr_b rfl) ?_
          refine a_iadd C dX3_passOn_85 ?_
          refine a_aloadn C dX3_passOn_86 rfl ?_
          refine a_callS C [.inl 21, .inl (wrap (x1 + 1)), .inr 3] [] dX3_passOn_87 (cPr_flawed _ _) ms_X3_flawed ln_X3_90 ⟨rfl, rfl, Nat.le_of_ble_eq_true rfl, Nat.le_of_ble_eq_true rfl, Nat.le_of_ble_eq_true rfl⟩ hf (fun r7 M7 hf => ?_)
          obtain ⟨hg, hf⟩ := hf
          exact a_bret C X hg dX3_passOn_90 hf
    · have hf := hfb hc
      refine a_drop [false, true, true, false, true] (lv2 := [none, some (.inl x1), some (.inr 3), none, none]) rfl ?_
      exact sPr_passOn_d_54 C X  _ _ hf
set_option maxRecDepth 20000 in
set_option maxHeartbeats 4000000 in
theorem sPr_findDepths_d_111 {E : EE} {R : Int → Mem → Prop} (C : Cx shX 4 cX3_findDepths RX3 3 67 E) (X : Rx shX (some .boolean) R E) (M : Mem) (hf : fPr_findDepths_d_111  R M) : AW shX 4 E 111 [some (.inr 20), some (.inr 3), none, none] [] M := by
  refine a_aloadn C dX3_findDepths_111 rfl ?_
  refine a_getI C (kz := 8) fl_X3_38 rfl rfl rfl dX3_findDepths_112 ?_
  refine a_iconst C dX3_findDepths_115 (inr_b rfl) ?_
  obtain ⟨hfa, hfb⟩ := hf
  refine a_icmp_le C 130 dX3_findDepths_116 rfl (fun hc => ?_) (fun hc => ?_)
  · have hf := hfa hc
    refine a_iconst C dX3_findDepths_130 (inr_b rfl) ?_
    exact a_bret C X (Or.inr rfl) dX3_findDepths_131 hf
  · have hf := hfb hc
    refine a_bipush C dX3_findDepths_119 bp_23 ?_
    refine a_aloadn C dX3_findDepths_121 rfl ?_
    refine a_getI C (kz := 8) fl_X3_38 rfl rfl rfl dX3_findDepths_122 ?_
    refine a_aloadn C dX3_findDepths_125 rfl ?_
    refine a_callS C [.inl 23, .inl (M 20 8), .inr 3] [] dX3_findDepths_126 (cPr_flawed _ _) ms_X3_flawed ln_X3_90 ⟨rfl, rfl, Nat.le_of_ble_eq_true rfl, Nat.le_of_ble_eq_true rfl, Nat.le_of_ble_eq_true rfl⟩ hf (fun r1 M1 hf => ?_)
    obtain ⟨hg, hf⟩ := hf
    exact a_bret C X hg dX3_findDepths_129 hf
set_option maxRecDepth 20000 in
set_option maxHeartbeats 4000000 in
theorem sPr_findDepths_d_55 {E : EE} {R : Int → Mem → Prop} (C : Cx shX 4 cX3_findDepths RX3 3 67 E) (X : Rx shX (some .boolean) R E) : ∀ (n : Nat) (x2 : Int) (M : Mem), fPr_findDepths_d_55  R n x2 M → AW shX 4 E 55 [some (.inr 20), some (.inr 3), some (.inl x2), none] [] M := by
  intro n
  induction n with
  | zero => intro x2 M hf; exact hf.elim
  | succ n hk55 =>
    intro x2 M hf
    refine a_iloadn C dX3_findDepths_55 rfl ?_
    refine a_aloadn C dX3_findDepths_56 rfl ?_
    refine a_getI C (kz := 6) fl_X3_31 rfl rfl rfl dX3_findDepths_57 ?_
    obtain ⟨hfa, hfb⟩ := hf
    refine a_icmp_ge C 111 dX3_findDepths_60 rfl (fun hc => ?_) (fun hc => ?_)
    · have hf := hfa hc
      refine a_drop [true, true, false, true] (lv2 := [some (.inr 20), some (.inr 3), none, none]) rfl ?_
      exact sPr_findDepths_d_111 C X   _ hf
    · have hf := hfb hc
      refine a_aloadn C dX3_findDepths_63 rfl ?_
      refine a_callV C [] [] dX3_findDepths_64 (cPr_nextToConsider_d) mv_X3_nextToConsider ln_X3_82 rfl rfl ⟨rfl, rfl, Nat.le_of_ble_eq_true rfl, Nat.le_of_ble_eq_true rfl, Nat.le_of_ble_eq_true rfl⟩ hf (fun r2 M2 hf => ?_)
      refine a_istoren C dX3_findDepths_67 (by decide) (lv2 := [some (.inr 20), some (.inr 3), some (.inl x2), some (.inl r2)]) rfl ?_
      refine a_iloadn C dX3_findDepths_68 rfl ?_
      refine a_bipush C dX3_findDepths_69 bp_m4 ?_
      obtain ⟨hfa, hfb⟩ := hf
      refine a_icmp_ne C 77 dX3_findDepths_71 rfl (fun hc => ?_) (fun hc => ?_)
      · have hf := hfa hc
        refine a_aloadn C dX3_findDepths_77 rfl ?_
        refine a_getR C 25 fl_X3_24 rfl rfl dX3_findDepths_78 ?_
        refine a_iloadn C dX3_findDepths_81 rfl ?_
        refine a_iconst C dX3_findDepths_82 (inr_b rfl) ?_
        obtain ⟨hg, hf⟩ := hf
        refine a_zast C (n := 24) rfl (Or.inr rfl) hg dX3_findDepths_83 ?_
        refine a_aloadn C dX3_findDepths_84 rfl ?_
        refine a_dup C dX3_findDepths_85 ?_
        refine a_getI C (kz := 7) fl_X3_35 rfl rfl rfl dX3_findDepths_86 ?_
        refine a_iconst C dX3_findDepths_89 (inr_b rfl) ?_
        refine a_iadd C dX3_findDepths_90 ?_
        refine a_putI C (kz := 7) fp_X3_35 rfl rfl rfl dX3_findDepths_91 ?_
        refine a_aloadn C dX3_findDepths_94 rfl ?_
        refine a_iloadn C dX3_findDepths_95 rfl ?_
        refine a_aloadn C dX3_findDepths_96 rfl ?_
        refine a_callV C [.inl r2, .inr 3] [] dX3_findDepths_97 (cPr_passOn_d _) mv_X3_passOn ln_X3_86 rfl rfl ⟨rfl, rfl, Nat.le_of_ble_eq_true rfl, Nat.le_of_ble_eq_true rfl, Nat.le_of_ble_eq_true rfl⟩ hf (fun r3 M3 hf => ?_)
        obtain ⟨hfa, hfb⟩ := hf
        refine a_if_ne C 105 dX3_findDepths_100 rfl (fun hc => ?_) (fun hc => ?_)
        · have hf := hfa hc
          refine a_iinc C dX3_findDepths_105 rfl (by decide) (lv2 := [some (.inr 20), some (.inr 3), some (.inl (wrap (x2 + 1))), some (.inl r2)]) rfl ?_
          refine a_goto C 55 dX3_findDepths_108 rfl ?_
          refine a_drop [true, true, true, false] (lv2 := [some (.inr 20), some (.inr 3), some (.inl (wrap (x2 + 1))), none]) rfl ?_
          exact hk55 _ _ hf
        · have hf := hfb hc
          refine a_iconst C dX3_findDepths_103 (inr_b rfl) ?_
          exact a_bret C X (Or.inl rfl) dX3_findDepths_104 hf
      · have hf := hfb hc
        refine a_goto C 111 dX3_findDepths_74 rfl ?_
        refine a_drop [true, true, false, false] (lv2 := [some (.inr 20), some (.inr 3), none, none]) rfl ?_
        exact sPr_findDepths_d_111 C X   _ hf
set_option maxRecDepth 20000 in
set_option maxHeartbeats 4000000 in
theorem sPr_findDepths_d_2 {E : EE} {R : Int → Mem → Prop} (C : Cx shX 4 cX3_findDepths RX3 3 67 E) (X : Rx shX (some .boolean) R E) : ∀ (n : Nat) (x2 : Int) (M : Mem), fPr_findDepths_d_2  R n x2 M → AW shX 4 E 2 [some (.inr 20), some (.inr 3), some (.inl x2), none] [] M := by
  intro n
  induction n with
  | zero => intro x2 M hf; exact hf.elim
  | succ n hk2 =>
    intro x2 M hf
    refine a_iloadn C dX3_findDepths_2 rfl ?_
    refine a_bipush C dX3_findDepths_3 bp_24 ?_
    obtain ⟨hfa, hfb⟩ := hf
    refine a_icmp_ge C 36 dX3_findDepths_5 rfl (fun hc => ?_) (fun hc => ?_)
    · have hf := hfa hc
      refine a_aloadn C dX3_findDepths_36 rfl ?_
      refine a_iconst C dX3_findDepths_37 (inr_b rfl) ?_
      refine a_putI C (kz := 7) fp_X3_35 rfl rfl rfl dX3_findDepths_38 ?_
      refine a_aloadn C dX3_findDepths_41 rfl ?_
      refine a_iconst C dX3_findDepths_42 (inr_b rfl) ?_
      refine a_putI C (kz := 8) fp_X3_38 rfl rfl rfl dX3_findDepths_43 ?_
      refine a_aloadn C dX3_findDepths_46 rfl ?_
      refine a_getR C 24 fl_X3_21 rfl rfl dX3_findDepths_47 ?_
      refine a_iconst C dX3_findDepths_50 (inr_b rfl) ?_
      refine a_iconst C dX3_findDepths_51 (inr_b rfl) ?_
      refine a_iast C (n := 24) rfl (inb_b rfl) dX3_findDepths_52 ?_
      refine a_iconst C dX3_findDepths_53 (inr_b rfl) ?_
      refine a_istoren C dX3_findDepths_54 (by decide) (lv2 := [some (.inr 20), some (.inr 3), some (.inl 0), none]) rfl ?_
      obtain ⟨n4, hf⟩ := hf
      exact sPr_findDepths_d_55 C X  n4 _ _ hf
    · have hf := hfb hc
      refine a_aloadn C dX3_findDepths_8 rfl ?_
      refine a_getR C 24 fl_X3_21 rfl rfl dX3_findDepths_9 ?_
      refine a_iloadn C dX3_findDepths_12 rfl ?_
      refine a_bipush C dX3_findDepths_13 bp_m4 ?_
      obtain ⟨hg, hf⟩ := hf
      refine a_iast C (n := 24) rfl hg dX3_findDepths_15 ?_
      refine a_aloadn C dX3_findDepths_16 rfl ?_
      refine a_getR C 25 fl_X3_24 rfl rfl dX3_findDepths_17 ?_
      refine a_iloadn C dX3_findDepths_20 rfl ?_
      refine a_iconst C dX3_findDepths_21 (inr_b rfl) ?_
      obtain ⟨hg, hf⟩ := hf
      refine a_zast C (n := 24) rfl (Or.inl rfl) hg dX3_findDepths_22 ?_
      refine a_aloadn C dX3_findDepths_23 rfl ?_
      refine a_getR C 26 fl_X3_28 rfl rfl dX3_findDepths_24 ?_
      refine a_iloadn C dX3_findDepths_27 rfl ?_
      refine a_iconst C dX3_findDepths_28 (inr_b rfl) ?_
      obtain ⟨hg, hf⟩ := hf
      refine a_zast C (n := 24) rfl (Or.inl rfl) hg dX3_findDepths_29 ?_
      refine a_iinc C dX3_findDepths_30 rfl (by decide) (lv2 := [some (.inr 20), some (.inr 3), some (.inl (wrap (x2 + 1))), none]) rfl ?_
      refine a_goto C 2 dX3_findDepths_33 rfl ?_
      exact hk2 _ _ hf
set_option maxRecDepth 20000 in
set_option maxHeartbeats 4000000 in
theorem cPr_findDepths_d : Snd shX yX3_findDepths cX3_findDepths 4 (some .boolean) 3 67 [.inr 20, .inr 3] fPr_findDepths_d := by
  refine Snd.of RX3 (by decide +kernel) rfl (Nat.le_of_ble_eq_true rfl) ?_
  intro E M R hf C X
  show AW shX 4 E 0 [some (.inr 20), some (.inr 3), none, none] [] M
  refine a_iconst C dX3_findDepths_0 (inr_b rfl) ?_
  refine a_istoren C dX3_findDepths_1 (by decide) (lv2 := [some (.inr 20), some (.inr 3), some (.inl 0), none]) rfl ?_
  obtain ⟨n5, hf⟩ := hf
  exact sPr_findDepths_d_2 C X  n5 _ _ hf
set_option maxRecDepth 20000 in
set_option maxHeartbeats 4000000 in
theorem sPr_become_2 {E : EE} {R : Int → Mem → Prop} (C : Cx shX 3 cX3_become RX3 0 0 E) (X : Rx shX none R E) : ∀ (n : Nat) (x2 : Int) (M : Mem), fPr_become_2  R n x2 M → AW shX 3 E 2 [some (.inr 13), some (.inr 20), some (.inl x2)] [] M := by
  intro n
  induction n with
  | zero => intro x2 M hf; exact hf.elim
  | succ n hk2 =>
    intro x2 M hf
    refine a_iloadn C dX3_become_2 rfl ?_
    refine a_bipush C dX3_become_3 bp_24 ?_
    obtain ⟨hfa, hfb⟩ := hf
    refine a_icmp_ge C 62 dX3_become_5 rfl (fun hc => ?_) (fun hc => ?_)
    · have hf := hfa hc
      refine a_aloadn C dX3_become_62 rfl ?_
      refine a_aloadn C dX3_become_63 rfl ?_
      refine a_getI C (kz := 6) fl_X3_31 rfl rfl rfl dX3_become_64 ?_
      refine a_putI C (kz := 6) fp_X3_31 rfl rfl rfl dX3_become_67 ?_
      refine a_aloadn C dX3_become_70 rfl ?_
      refine a_aloadn C dX3_become_71 rfl ?_
      refine a_getI C (kz := 7) fl_X3_35 rfl rfl rfl dX3_become_72 ?_
      refine a_putI C (kz := 7) fp_X3_35 rfl rfl rfl dX3_become_75 ?_
      refine a_aloadn C dX3_become_78 rfl ?_
      refine a_aloadn C dX3_become_79 rfl ?_
      refine a_getI C (kz := 8) fl_X3_38 rfl rfl rfl dX3_become_80 ?_
      refine a_putI C (kz := 8) fp_X3_38 rfl rfl rfl dX3_become_83 ?_
      exact a_vret C X dX3_become_86 hf
    · have hf := hfb hc
      refine a_aloadn C dX3_become_8 rfl ?_
      refine a_getR C 14 fl_X3_9 rfl rfl dX3_become_9 ?_
      refine a_iloadn C dX3_become_12 rfl ?_
      refine a_aloadn C dX3_become_13 rfl ?_
      refine a_getR C 21 fl_X3_9 rfl rfl dX3_become_14 ?_
      refine a_iloadn C dX3_become_17 rfl ?_
      obtain ⟨hg, hf⟩ := hf
      refine a_iald C (n := 24) rfl hg dX3_become_18 ?_
      obtain ⟨hg, hf⟩ := hf
      refine a_iast C (n := 24) rfl hg dX3_become_19 ?_
      refine a_aloadn C dX3_become_20 rfl ?_
      refine a_getR C 15 fl_X3_15 rfl rfl dX3_become_21 ?_
      refine a_iloadn C dX3_become_24 rfl ?_
      refine a_aloadn C dX3_become_25 rfl ?_
      refine a_getR C 22 fl_X3_15 rfl rfl dX3_become_26 ?_
      refine a_iloadn C dX3_become_29 rfl ?_
      obtain ⟨hg, hf⟩ := hf
      refine a_iald C (n := 24) rfl hg dX3_become_30 ?_
      obtain ⟨hg, hf⟩ := hf
      refine a_iast C (n := 24) rfl hg dX3_become_31 ?_
      refine a_aloadn C dX3_become_32 rfl ?_
      refine a_getR C 17 fl_X3_21 rfl rfl dX3_become_33 ?_
      refine a_iloadn C dX3_become_36 rfl ?_
      refine a_aloadn C dX3_become_37 rfl ?_
      refine a_getR C 24 fl_X3_21 rfl rfl dX3_become_38 ?_
      refine a_iloadn C dX3_become_41 rfl ?_
      obtain ⟨hg, hf⟩ := hf
      refine a_iald C (n := 24) rfl hg dX3_become_42 ?_
      obtain ⟨hg, hf⟩ := hf
      refine a_iast C (n := 24) rfl hg dX3_become_43 ?_
      refine a_aloadn C dX3_become_44 rfl ?_
      refine a_getR C 19 fl_X3_28 rfl rfl dX3_become_45 ?_
      refine a_iloadn C dX3_become_48 rfl ?_
      refine a_aloadn C dX3_become_49 rfl ?_
      refine a_getR C 26 fl_X3_28 rfl rfl dX3_become_50 ?_
      refine a_iloadn C dX3_become_53 rfl ?_
      obtain ⟨hg, hf⟩ := hf
      refine a_zald C (n := 24) rfl hg dX3_become_54 ?_
      obtain ⟨hgv, hf⟩ := hf
      obtain ⟨hg, hf⟩ := hf
      refine a_zast C (n := 24) rfl hgv hg dX3_become_55 ?_
      refine a_iinc C dX3_become_56 rfl (by decide) (lv2 := [some (.inr 13), some (.inr 20), some (.inl (wrap (x2 + 1)))]) rfl ?_
      refine a_goto C 2 dX3_become_59 rfl ?_
      exact hk2 _ _ hf
set_option maxRecDepth 20000 in
set_option maxHeartbeats 4000000 in
theorem cPr_become : Snd shX yX3_become cX3_become 3 none 0 0 [.inr 13, .inr 20] fPr_become := by
  refine Snd.of RX3 (by decide +kernel) rfl (Nat.le_of_ble_eq_true rfl) ?_
  intro E M R hf C X
  show AW shX 3 E 0 [some (.inr 13), some (.inr 20), none] [] M
  refine a_iconst C dX3_become_0 (inr_b rfl) ?_
  refine a_istoren C dX3_become_1 (by decide) (lv2 := [some (.inr 13), some (.inr 20), some (.inl 0)]) rfl ?_
  obtain ⟨n1, hf⟩ := hf
  exact sPr_become_2 C X  n1 _ _ hf
set_option maxRecDepth 20000 in
set_option maxHeartbeats 4000000 in
theorem cSe_forgetChanges : Snd shX yX5_forgetChanges cX5_forgetChanges 1 none 0 0 [.inr 5] fSe_forgetChanges := by
  refine Snd.of RX5 (by decide +kernel) rfl (Nat.le_of_ble_eq_true rfl) ?_
  intro E M R hf C X
  show AW shX 1 E 0 [some (.inr 5)] [] M
  refine a_aloadn C dX5_forgetChanges_0 rfl ?_
  refine a_iconst C dX5_forgetChanges_1 (inr_b rfl) ?_
  refine a_putI C (kz := 5) fp_X5_28 rfl rfl rfl dX5_forgetChanges_2 ?_
  exact a_vret C X dX5_forgetChanges_5 hf
set_option maxRecDepth 20000 in
set_option maxHeartbeats 4000000 in
theorem cSt_lay : Snd shX yX7_lay cX7_lay 1 (some .int) 6 144 [.inr 0] fSt_lay := by
  refine Snd.of RX7 (by decide +kernel) rfl (Nat.le_of_ble_eq_true rfl) ?_
  intro E M R hf C X
  show AW shX 1 E 0 [some (.inr 0)] [] M
  refine a_aloadn C dX7_lay_0 rfl ?_
  refine a_getR C 20 fl_X7_44 rfl rfl dX7_lay_1 ?_
  refine a_aloadn C dX7_lay_4 rfl ?_
  refine a_getR C 1 fl_X7_10 rfl rfl dX7_lay_5 ?_
  refine a_aloadn C dX7_lay_8 rfl ?_
  refine a_getR C 3 fl_X7_19 rfl rfl dX7_lay_9 ?_
  refine a_callV C [.inr 1, .inr 3] [] dX7_lay_12 (cPr_parse_d) mv_X3_parse ln_X7_81 rfl rfl ⟨rfl, rfl, Nat.le_of_ble_eq_true rfl, Nat.le_of_ble_eq_true rfl, Nat.le_of_ble_eq_true rfl⟩ hf (fun r1 M1 hf => ?_)
  refine a_bipush C dX7_lay_15 bp_m4 ?_
  obtain ⟨hfa, hfb⟩ := hf
  refine a_icmp_eq C 23 dX7_lay_17 rfl (fun hc => ?_) (fun hc => ?_)
  · have hf := hfa hc
    refine a_aloadn C dX7_lay_23 rfl ?_
    refine a_getR C 20 fl_X7_44 rfl rfl dX7_lay_24 ?_
    refine a_getI C (kz := 6) fl_X7_98 rfl rfl rfl dX7_lay_27 ?_
    obtain ⟨hfa, hfb⟩ := hf
    refine a_if_ne C 44 dX7_lay_30 rfl (fun hc => ?_) (fun hc => ?_)
    · have hf := hfa hc
      refine a_aloadn C dX7_lay_44 rfl ?_
      refine a_getR C 20 fl_X7_44 rfl rfl dX7_lay_45 ?_
      refine a_aloadn C dX7_lay_48 rfl ?_
      refine a_getR C 3 fl_X7_19 rfl rfl dX7_lay_49 ?_
      refine a_callV C [.inr 3] [] dX7_lay_52 (cPr_findDepths_d) mv_X3_findDepths ln_X7_85 rfl rfl ⟨rfl, rfl, Nat.le_of_ble_eq_true rfl, Nat.le_of_ble_eq_true rfl, Nat.le_of_ble_eq_true rfl⟩ hf (fun r2 M2 hf => ?_)
      obtain ⟨hfa, hfb⟩ := hf
      refine a_if_ne C 61 dX7_lay_55 rfl (fun hc => ?_) (fun hc => ?_)
      · have hf := hfa hc
        refine a_aloadn C dX7_lay_61 rfl ?_
        refine a_getR C 13 fl_X7_40 rfl rfl dX7_lay_62 ?_
        refine a_aloadn C dX7_lay_65 rfl ?_
        refine a_getR C 20 fl_X7_44 rfl rfl dX7_lay_66 ?_
        refine a_callV C [.inr 20] [] dX7_lay_69 (cPr_become) mv_X3_become ln_X7_102 rfl rfl ⟨rfl, rfl, Nat.le_of_ble_eq_true rfl, Nat.le_of_ble_eq_true rfl, Nat.le_of_ble_eq_true rfl⟩ hf (fun r3 M3 hf => ?_)
        refine a_aloadn C dX7_lay_72 rfl ?_
        refine a_getR C 5 fl_X7_26 rfl rfl dX7_lay_73 ?_
        refine a_callV C [] [] dX7_lay_76 (cSe_forgetChanges) mv_X5_forgetChanges ln_X7_106 rfl rfl ⟨rfl, rfl, Nat.le_of_ble_eq_true rfl, Nat.le_of_ble_eq_true rfl, Nat.le_of_ble_eq_true rfl⟩ hf (fun r4 M4 hf => ?_)
        refine a_aloadn C dX7_lay_79 rfl ?_
        refine a_getR C 5 fl_X7_26 rfl rfl dX7_lay_80 ?_
        refine a_callV C [] [] dX7_lay_83 (cSe_resetWeights) mv_X5_resetWeights ln_X7_109 rfl rfl ⟨rfl, rfl, Nat.le_of_ble_eq_true rfl, Nat.le_of_ble_eq_true rfl, Nat.le_of_ble_eq_true rfl⟩ hf (fun r5 M5 hf => ?_)
        refine a_aloadn C dX7_lay_86 rfl ?_
        refine a_callV C [] [] dX7_lay_87 (cSt_refresh) mv_X7_refresh ln_X7_92 rfl rfl ⟨rfl, rfl, Nat.le_of_ble_eq_true rfl, Nat.le_of_ble_eq_true rfl, Nat.le_of_ble_eq_true rfl⟩ hf (fun r6 M6 hf => ?_)
        refine a_aloadn C dX7_lay_90 rfl ?_
        refine a_getR C 13 fl_X7_40 rfl rfl dX7_lay_91 ?_
        refine a_getI C (kz := 6) fl_X7_98 rfl rfl rfl dX7_lay_94 ?_
        exact a_iret C X dX7_lay_97 hf
      · have hf := hfb hc
        refine a_bipush C dX7_lay_58 bp_m2 ?_
        exact a_iret C X dX7_lay_60 hf
    · have hf := hfb hc
      refine a_aloadn C dX7_lay_33 rfl ?_
      refine a_getR C 3 fl_X7_19 rfl rfl dX7_lay_34 ?_
      refine a_iconst C dX7_lay_37 (inr_b rfl) ?_
      refine a_callV C [.inl 2] [] dX7_lay_38 (cCa_append _) mv_X0_append ln_X7_101 rfl rfl ⟨rfl, rfl, Nat.le_of_ble_eq_true rfl, Nat.le_of_ble_eq_true rfl, Nat.le_of_ble_eq_true rfl⟩ hf (fun r7 M7 hf => ?_)
      refine a_bipush C dX7_lay_41 bp_m2 ?_
      exact a_iret C X dX7_lay_43 hf
  · have hf := hfb hc
    refine a_bipush C dX7_lay_20 bp_m2 ?_
    exact a_iret C X dX7_lay_22 hf
set_option maxRecDepth 20000 in
set_option maxHeartbeats 4000000 in
theorem cSt_cause (x1 : Int) : Snd shX yX7_cause cX7_cause 2 (some .int) 0 0 [.inr 0, .inl x1] (fSt_cause x1) := by
  refine Snd.of RX7 (by decide +kernel) rfl (Nat.le_of_ble_eq_true rfl) ?_
  intro E M R hf C X
  show AW shX 2 E 0 [some (.inr 0), some (.inl x1)] [] M
  refine a_iloadn C dX7_cause_0 rfl ?_
  obtain ⟨hfa, hfb⟩ := hf
  refine a_if_ge C 6 dX7_cause_1 rfl (fun hc => ?_) (fun hc => ?_)
  · have hf := hfa hc
    refine a_iloadn C dX7_cause_6 rfl ?_
    refine a_aloadn C dX7_cause_7 rfl ?_
    refine a_getR C 3 fl_X7_19 rfl rfl dX7_cause_8 ?_
    refine a_getI C (kz := 1) fl_X7_112 rfl rfl rfl dX7_cause_11 ?_
    obtain ⟨hfa, hfb⟩ := hf
    refine a_icmp_ge C 29 dX7_cause_14 rfl (fun hc => ?_) (fun hc => ?_)
    · have hf := hfa hc
      refine a_bipush C dX7_cause_29 bp_m4 ?_
      exact a_iret C X dX7_cause_31 hf
    · have hf := hfb hc
      refine a_aloadn C dX7_cause_17 rfl ?_
      refine a_getR C 3 fl_X7_19 rfl rfl dX7_cause_18 ?_
      refine a_getR C 4 fl_X7_113 rfl rfl dX7_cause_21 ?_
      refine a_iloadn C dX7_cause_24 rfl ?_
      obtain ⟨hg, hf⟩ := hf
      refine a_iald C (n := 3) rfl hg dX7_cause_25 ?_
      refine a_goto C 31 dX7_cause_26 rfl ?_
      exact a_iret C X dX7_cause_31 hf
  · have hf := hfb hc
    refine a_iconst C dX7_cause_4 (inr_b rfl) ?_
    exact a_iret C X dX7_cause_5 hf
set_option maxRecDepth 20000 in
set_option maxHeartbeats 4000000 in
theorem sSt_isInstruction_19 {E : EE} {R : Int → Mem → Prop} (C : Cx shX 2 cX7_isInstruction RX7 0 0 E) (X : Rx shX (some .boolean) R E) (M : Mem) (hf : fSt_isInstruction_19  R M) : AW shX 2 E 19 [none, none] [] M := by
  refine a_iconst C dX7_isInstruction_19 (inr_b rfl) ?_
  exact a_bret C X (Or.inl rfl) dX7_isInstruction_20 hf
set_option maxRecDepth 20000 in
set_option maxHeartbeats 4000000 in
theorem cSt_isInstruction (x1 : Int) : Snd shX yX7_isInstruction cX7_isInstruction 2 (some .boolean) 0 0 [.inr 0, .inl x1] (fSt_isInstruction x1) := by
  refine Snd.of RX7 (by decide +kernel) rfl (Nat.le_of_ble_eq_true rfl) ?_
  intro E M R hf C X
  show AW shX 2 E 0 [some (.inr 0), some (.inl x1)] [] M
  refine a_iloadn C dX7_isInstruction_0 rfl ?_
  obtain ⟨hfa, hfb⟩ := hf
  refine a_if_lt C 19 dX7_isInstruction_1 rfl (fun hc => ?_) (fun hc => ?_)
  · have hf := hfa hc
    refine a_drop [false, false] (lv2 := [none, none]) rfl ?_
    exact sSt_isInstruction_19 C X   _ hf
  · have hf := hfb hc
    refine a_iloadn C dX7_isInstruction_4 rfl ?_
    refine a_aloadn C dX7_isInstruction_5 rfl ?_
    refine a_getR C 13 fl_X7_40 rfl rfl dX7_isInstruction_6 ?_
    refine a_getI C (kz := 6) fl_X7_98 rfl rfl rfl dX7_isInstruction_9 ?_
    obtain ⟨hfa, hfb⟩ := hf
    refine a_icmp_ge C 19 dX7_isInstruction_12 rfl (fun hc => ?_) (fun hc => ?_)
    · have hf := hfa hc
      refine a_drop [false, false] (lv2 := [none, none]) rfl ?_
      exact sSt_isInstruction_19 C X   _ hf
    · have hf := hfb hc
      refine a_iconst C dX7_isInstruction_15 (inr_b rfl) ?_
      refine a_goto C 20 dX7_isInstruction_16 rfl ?_
      exact a_bret C X (Or.inr rfl) dX7_isInstruction_20 hf
set_option maxRecDepth 20000 in
set_option maxHeartbeats 4000000 in
theorem cLat_charAt_121 (x1 : Int) : Snd shX yJ1_charAt_3b067 cJ1_charAt_3b067 2 (some .char) 2 43 [.inr 121, .inl x1] (fLat_charAt_121 x1) := by
  refine Snd.of RJ1 (by decide +kernel) rfl (Nat.le_of_ble_eq_true rfl) ?_
  intro E M R hf C X
  show AW shX 2 E 0 [some (.inr 121), some (.inl x1)] [] M
  refine a_iloadn C dJ1_charAt_3b067_0 rfl ?_
  refine a_aloadn C dJ1_charAt_3b067_1 rfl ?_
  refine a_slen C (nz := 15) (by decide) dJ1_charAt_3b067_2 ?_
  refine a_callS C [.inl x1, .inl 15] [] dJ1_charAt_3b067_3 (cStr_checkIndex _ _) ms_J0_checkIndex_df160 ln_J1_9 ⟨rfl, rfl, Nat.le_of_ble_eq_true rfl, Nat.le_of_ble_eq_true rfl, Nat.le_of_ble_eq_true rfl⟩ hf (fun r1 M1 hf => ?_)
  refine a_aloadn C dJ1_charAt_3b067_6 rfl ?_
  refine a_iloadn C dJ1_charAt_3b067_7 rfl ?_
  obtain ⟨hg, hf⟩ := hf
  refine a_sb C (n := 15) (by decide) hg dJ1_charAt_3b067_8 ?_
  refine a_sipush C dJ1_charAt_3b067_9 sp_255 ?_
  refine a_iand C dJ1_charAt_3b067_12 ?_
  refine a_i2c C dJ1_charAt_3b067_13 ?_
  obtain ⟨hg, hf⟩ := hf
  exact a_cret C X hg dJ1_charAt_3b067_14 hf
set_option maxRecDepth 20000 in
set_option maxHeartbeats 4000000 in
theorem cStr_charAt_111 (x1 : Int) : Snd shX yJ0_charAt_5068e cJ0_charAt_5068e 2 (some .char) 3 64 [.inr 111, .inl x1] (fStr_charAt_111 x1) := by
  refine Snd.of RJ0 (by decide +kernel) rfl (Nat.le_of_ble_eq_true rfl) ?_
  intro E M R hf C X
  show AW shX 2 E 0 [some (.inr 111), some (.inl x1)] [] M
  refine a_aloadn C dJ0_charAt_5068e_0 rfl ?_
  refine a_callK C 111 [] [] dJ0_charAt_5068e_1 (cStr_isLatin1_111) mv_J0_isLatin1_aae02 ln_J0_492 ⟨by decide, rfl⟩ ⟨rfl, rfl, Nat.le_of_ble_eq_true rfl, Nat.le_of_ble_eq_true rfl, Nat.le_of_ble_eq_true rfl⟩ hf (fun r1 M1 hf => ?_)
  obtain ⟨hfa, hfb⟩ := hf
  refine a_if_eq C 16 dJ0_charAt_5068e_4 rfl (fun hc => ?_) (fun hc => ?_)
  · have hf := hfa hc
    refine a_aloadn C dJ0_charAt_5068e_16 rfl ?_
    refine a_sval C 121 (by decide) fs_J0_9 dJ0_charAt_5068e_17 ?_
    refine a_iloadn C dJ0_charAt_5068e_20 rfl ?_
    exact hf.elim
  · have hf := hfb hc
    refine a_aloadn C dJ0_charAt_5068e_7 rfl ?_
    refine a_sval C 121 (by decide) fs_J0_9 dJ0_charAt_5068e_8 ?_
    refine a_iloadn C dJ0_charAt_5068e_11 rfl ?_
    refine a_callS C [.inr 121, .inl x1] [] dJ0_charAt_5068e_12 (cLat_charAt_121 _) ms_J1_charAt_3b067 ln_J0_495 ⟨rfl, rfl, Nat.le_of_ble_eq_true rfl, Nat.le_of_ble_eq_true rfl, Nat.le_of_ble_eq_true rfl⟩ hf (fun r2 M2 hf => ?_)
    obtain ⟨hg, hf⟩ := hf
    exact a_cret C X hg dJ0_charAt_5068e_15 hf
set_option maxRecDepth 20000 in
set_option maxHeartbeats 4000000 in
theorem cSt_code (x1 x2 : Int) : Snd shX yX7_code cX7_code 3 (some .int) 4 85 [.inr 0, .inl x1, .inl x2] (fSt_code x1 x2) := by
  refine Snd.of RX7 (by decide +kernel) rfl (Nat.le_of_ble_eq_true rfl) ?_
  intro E M R hf C X
  show AW shX 3 E 0 [some (.inr 0), some (.inl x1), some (.inl x2)] [] M
  refine a_aloadn C dX7_code_0 rfl ?_
  refine a_iloadn C dX7_code_1 rfl ?_
  refine a_callV C [.inl x1] [] dX7_code_2 (cSt_isInstruction _) mv_X7_isInstruction ln_X7_117 rfl rfl ⟨rfl, rfl, Nat.le_of_ble_eq_true rfl, Nat.le_of_ble_eq_true rfl, Nat.le_of_ble_eq_true rfl⟩ hf (fun r1 M1 hf => ?_)
  obtain ⟨hfa, hfb⟩ := hf
  refine a_if_eq C 17 dX7_code_5 rfl (fun hc => ?_) (fun hc => ?_)
  · have hf := hfa hc
    refine a_iconst C dX7_code_17 (inr_b rfl) ?_
    exact a_iret C X dX7_code_18 hf
  · have hf := hfb hc
    refine a_iloadn C dX7_code_8 rfl ?_
    obtain ⟨hfa, hfb⟩ := hf
    refine a_if_lt C 17 dX7_code_9 rfl (fun hc => ?_) (fun hc => ?_)
    · have hf := hfa hc
      refine a_iconst C dX7_code_17 (inr_b rfl) ?_
      exact a_iret C X dX7_code_18 hf
    · have hf := hfb hc
      refine a_iloadn C dX7_code_12 rfl ?_
      refine a_iconst C dX7_code_13 (inr_b rfl) ?_
      obtain ⟨hfa, hfb⟩ := hf
      refine a_icmp_le C 19 dX7_code_14 rfl (fun hc => ?_) (fun hc => ?_)
      · have hf := hfa hc
        refine a_iloadn C dX7_code_19 rfl ?_
        obtain ⟨hf52, hf67, hf98, hf124, hfd⟩ := hf
        by_cases hc0 : x2 = 0
        · have hc := hc0
          refine a_tsIn C 52 0 hc dX7_code_20 ⟨by decide, by decide, rfl, rfl⟩ ?_
          have hf := hf52 (hc)
          refine a_ldcS C (tx := "n+-*dxporgsjbwh") 111 (fun ad A U H h => str_X7_121 h) dX7_code_52 ?_
          refine a_aloadn C dX7_code_54 rfl ?_
          refine a_getR C 13 fl_X7_40 rfl rfl dX7_code_55 ?_
          refine a_getR C 14 fl_X7_123 rfl rfl dX7_code_58 ?_
          refine a_iloadn C dX7_code_61 rfl ?_
          obtain ⟨hg, hf⟩ := hf
          refine a_iald C (n := 24) rfl hg dX7_code_62 ?_
          refine a_callK C 111 [.inl (M1 14 x1)] [] dX7_code_63 (cStr_charAt_111 _) mv_J0_charAt_5068e ln_X7_73 ⟨by decide, rfl⟩ ⟨rfl, rfl, Nat.le_of_ble_eq_true rfl, Nat.le_of_ble_eq_true rfl, Nat.le_of_ble_eq_true rfl⟩ hf (fun r2 M2 hf => ?_)
          exact a_iret C X dX7_code_66 hf
        by_cases hc1 : x2 = 1
        · have hc := hc1
          refine a_tsIn C 67 1 hc dX7_code_20 ⟨by decide, by decide, rfl, rfl⟩ ?_
          have hf := hf67 (hc)
          refine a_gsO C 102 ro_102 fs_X7_126 dX7_code_67 ?_
          refine a_aloadn C dX7_code_70 rfl ?_
          refine a_getR C 13 fl_X7_40 rfl rfl dX7_code_71 ?_
          refine a_getR C 14 fl_X7_123 rfl rfl dX7_code_74 ?_
          refine a_iloadn C dX7_code_77 rfl ?_
          obtain ⟨hg, hf⟩ := hf
          refine a_iald C (n := 24) rfl hg dX7_code_78 ?_
          obtain ⟨hg, hf⟩ := hf
          refine a_ti C ro_102 hg dX7_code_79 ?_
          obtain ⟨hfa, hfb⟩ := hf
          refine a_if_le C 95 dX7_code_80 rfl (fun hc => ?_) (fun hc => ?_)
          · have hf := hfa hc
            refine a_bipush C dX7_code_95 bp_m4 ?_
            exact a_iret C X dX7_code_97 hf
          · have hf := hfb hc
            refine a_aloadn C dX7_code_83 rfl ?_
            refine a_getR C 13 fl_X7_40 rfl rfl dX7_code_84 ?_
            refine a_getR C 15 fl_X7_129 rfl rfl dX7_code_87 ?_
            refine a_iloadn C dX7_code_90 rfl ?_
            obtain ⟨hg, hf⟩ := hf
            refine a_iald C (n := 24) rfl hg dX7_code_91 ?_
            refine a_goto C 97 dX7_code_92 rfl ?_
            exact a_iret C X dX7_code_97 hf
        by_cases hc2 : x2 = 2
        · have hc := hc2
          refine a_tsIn C 98 2 hc dX7_code_20 ⟨by decide, by decide, rfl, rfl⟩ ?_
          have hf := hf98 (hc)
          refine a_aloadn C dX7_code_98 rfl ?_
          refine a_getR C 13 fl_X7_40 rfl rfl dX7_code_99 ?_
          refine a_iloadn C dX7_code_102 rfl ?_
          refine a_callV C [.inl x1] [] dX7_code_103 (cPr_isReached_p _) mv_X3_isReached ln_X7_132 rfl rfl ⟨rfl, rfl, Nat.le_of_ble_eq_true rfl, Nat.le_of_ble_eq_true rfl, Nat.le_of_ble_eq_true rfl⟩ hf (fun r3 M3 hf => ?_)
          obtain ⟨hfa, hfb⟩ := hf
          refine a_if_eq C 121 dX7_code_106 rfl (fun hc => ?_) (fun hc => ?_)
          · have hf := hfa hc
            refine a_bipush C dX7_code_121 bp_m4 ?_
            exact a_iret C X dX7_code_123 hf
          · have hf := hfb hc
            refine a_aloadn C dX7_code_109 rfl ?_
            refine a_getR C 13 fl_X7_40 rfl rfl dX7_code_110 ?_
            refine a_getR C 17 fl_X7_135 rfl rfl dX7_code_113 ?_
            refine a_iloadn C dX7_code_116 rfl ?_
            obtain ⟨hg, hf⟩ := hf
            refine a_iald C (n := 24) rfl hg dX7_code_117 ?_
            refine a_goto C 123 dX7_code_118 rfl ?_
            exact a_iret C X dX7_code_123 hf
        by_cases hc3 : x2 = 3
        · have hc := hc3
          refine a_tsIn C 124 3 hc dX7_code_20 ⟨by decide, by decide, rfl, rfl⟩ ?_
          have hf := hf124 (hc)
          refine a_aloadn C dX7_code_124 rfl ?_
          refine a_getR C 13 fl_X7_40 rfl rfl dX7_code_125 ?_
          refine a_getR C 19 fl_X7_138 rfl rfl dX7_code_128 ?_
          refine a_iloadn C dX7_code_131 rfl ?_
          obtain ⟨hg, hf⟩ := hf
          refine a_zald C (n := 24) rfl hg dX7_code_132 ?_
          obtain ⟨hfa, hfb⟩ := hf
          refine a_if_eq C 140 dX7_code_133 rfl (fun hc => ?_) (fun hc => ?_)
          · have hf := hfa hc
            refine a_iconst C dX7_code_140 (inr_b rfl) ?_
            exact a_iret C X dX7_code_141 hf
          · have hf := hfb hc
            refine a_iconst C dX7_code_136 (inr_b rfl) ?_
            refine a_goto C 141 dX7_code_137 rfl ?_
            exact a_iret C X dX7_code_141 hf
        have hco : x2 < 0 ∨ 3 < x2 := by omega
        refine a_tsOut C 142 dX7_code_20 hco rfl ?_
        have hf := hfd (by omega)
        refine a_aloadn C dX7_code_142 rfl ?_
        refine a_getR C 5 fl_X7_26 rfl rfl dX7_code_143 ?_
        refine a_getR C 6 fl_X7_142 rfl rfl dX7_code_146 ?_
        refine a_iloadn C dX7_code_149 rfl ?_
        obtain ⟨hg, hf⟩ := hf
        refine a_iald C (n := 24) rfl hg dX7_code_150 ?_
        exact a_iret C X dX7_code_151 hf
      · have hf := hfb hc
        refine a_iconst C dX7_code_17 (inr_b rfl) ?_
        exact a_iret C X dX7_code_18 hf
set_option maxRecDepth 20000 in
set_option maxHeartbeats 4000000 in
theorem sSe_remember_93 {E : EE} {R : Int → Mem → Prop} (C : Cx shX 2 cX5_remember RX5 1 24 E) (X : Rx shX none R E) (t0 : Int) (M : Mem) (hf : fSe_remember_93  R t0 M) : AW shX 2 E 93 [some (.inr 5), none] [.inl t0, .inr 5] M := by
  have hf : fMath_min (wrap ((M 5 5) + 1)) 6 (mu M 5 7 t0) (fun r1 M1 => R 0 (mu M1 5 5 r1)) := hf
  refine a_putI C (kz := 7) fp_X5_34 rfl rfl rfl dX5_remember_93 ?_
  refine a_aloadn C dX5_remember_96 rfl ?_
  refine a_aloadn C dX5_remember_97 rfl ?_
  refine a_getI C (kz := 5) fl_X5_28 rfl rfl rfl dX5_remember_98 ?_
  refine a_iconst C dX5_remember_101 (inr_b rfl) ?_
  refine a_iadd C dX5_remember_102 ?_
  refine a_bipush C dX5_remember_103 bp_6 ?_
  refine a_callS C [.inl (wrap ((M 5 5) + 1)), .inl 6] [.inr 5] dX5_remember_105 (cMath_min _ _) ms_J9_min_7cf53 ln_X5_49 ⟨rfl, rfl, Nat.le_of_ble_eq_true rfl, Nat.le_of_ble_eq_true rfl, Nat.le_of_ble_eq_true rfl⟩ hf (fun r1 M1 hf => ?_)
  refine a_putI C (kz := 5) fp_X5_28 rfl rfl rfl dX5_remember_108 ?_
  exact a_vret C X dX5_remember_111 hf
set_option maxRecDepth 20000 in
set_option maxHeartbeats 4000000 in
theorem cSe_remember : Snd shX yX5_remember cX5_remember 2 none 1 24 [.inr 5] fSe_remember := by
  refine Snd.of RX5 (by decide +kernel) rfl (Nat.le_of_ble_eq_true rfl) ?_
  intro E M R hf C X
  show AW shX 2 E 0 [some (.inr 5), none] [] M
  refine a_aloadn C dX5_remember_0 rfl ?_
  refine a_getI C (kz := 7) fl_X5_34 rfl rfl rfl dX5_remember_1 ?_
  refine a_bipush C dX5_remember_4 bp_28 ?_
  refine a_imul C dX5_remember_6 ?_
  refine a_istoren C dX5_remember_7 (by decide) (lv2 := [some (.inr 5), some (.inl (wrap ((M 5 7) * 28)))]) rfl ?_
  refine a_aloadn C dX5_remember_8 rfl ?_
  refine a_getR C 7 fl_X5_31 rfl rfl dX5_remember_9 ?_
  refine a_iloadn C dX5_remember_12 rfl ?_
  refine a_aloadn C dX5_remember_13 rfl ?_
  refine a_getI C (kz := 0) fl_X5_9 rfl rfl rfl dX5_remember_14 ?_
  obtain ⟨hg, hf⟩ := hf
  refine a_iast C (n := 168) rfl hg dX5_remember_17 ?_
  refine a_aloadn C dX5_remember_18 rfl ?_
  refine a_getR C 7 fl_X5_31 rfl rfl dX5_remember_19 ?_
  refine a_iloadn C dX5_remember_22 rfl ?_
  refine a_iconst C dX5_remember_23 (inr_b rfl) ?_
  refine a_iadd C dX5_remember_24 ?_
  refine a_aloadn C dX5_remember_25 rfl ?_
  refine a_getI C (kz := 1) fl_X5_15 rfl rfl rfl dX5_remember_26 ?_
  obtain ⟨hg, hf⟩ := hf
  refine a_iast C (n := 168) rfl hg dX5_remember_29 ?_
  refine a_aloadn C dX5_remember_30 rfl ?_
  refine a_getR C 7 fl_X5_31 rfl rfl dX5_remember_31 ?_
  refine a_iloadn C dX5_remember_34 rfl ?_
  refine a_iconst C dX5_remember_35 (inr_b rfl) ?_
  refine a_iadd C dX5_remember_36 ?_
  refine a_aloadn C dX5_remember_37 rfl ?_
  refine a_getI C (kz := 2) fl_X5_18 rfl rfl rfl dX5_remember_38 ?_
  obtain ⟨hg, hf⟩ := hf
  refine a_iast C (n := 168) rfl hg dX5_remember_41 ?_
  refine a_aloadn C dX5_remember_42 rfl ?_
  refine a_getR C 7 fl_X5_31 rfl rfl dX5_remember_43 ?_
  refine a_iloadn C dX5_remember_46 rfl ?_
  refine a_iconst C dX5_remember_47 (inr_b rfl) ?_
  refine a_iadd C dX5_remember_48 ?_
  refine a_aloadn C dX5_remember_49 rfl ?_
  refine a_getI C (kz := 3) fl_X5_21 rfl rfl rfl dX5_remember_50 ?_
  obtain ⟨hg, hf⟩ := hf
  refine a_iast C (n := 168) rfl hg dX5_remember_53 ?_
  refine a_aloadn C dX5_remember_54 rfl ?_
  refine a_getR C 6 fl_X5_24 rfl rfl dX5_remember_55 ?_
  refine a_iconst C dX5_remember_58 (inr_b rfl) ?_
  refine a_aloadn C dX5_remember_59 rfl ?_
  refine a_getR C 7 fl_X5_31 rfl rfl dX5_remember_60 ?_
  refine a_iloadn C dX5_remember_63 rfl ?_
  refine a_iconst C dX5_remember_64 (inr_b rfl) ?_
  refine a_iadd C dX5_remember_65 ?_
  refine a_bipush C dX5_remember_66 bp_24 ?_
  obtain ⟨hg, hf⟩ := hf
  refine a_copy C (n0 := 24) (n1 := 168) dX5_remember_68 ln_X5_43 w_copy rfl rfl hg ⟨Nat.le_of_ble_eq_true rfl, Nat.le_of_ble_eq_true rfl, Nat.le_of_ble_eq_true rfl⟩ ?_
  refine a_aloadn C dX5_remember_71 rfl ?_
  refine a_aloadn C dX5_remember_72 rfl ?_
  refine a_getI C (kz := 7) fl_X5_34 rfl rfl rfl dX5_remember_73 ?_
  refine a_iconst C dX5_remember_76 (inr_b rfl) ?_
  refine a_iadd C dX5_remember_77 ?_
  refine a_bipush C dX5_remember_78 bp_6 ?_
  obtain ⟨hfa, hfb⟩ := hf
  refine a_icmp_ge C 92 dX5_remember_80 rfl (fun hc => ?_) (fun hc => ?_)
  · have hf := hfa hc
    refine a_iconst C dX5_remember_92 (inr_b rfl) ?_
    refine a_drop [true, false] (lv2 := [some (.inr 5), none]) rfl ?_
    exact sSe_remember_93 C X  _ _ hf
  · have hf := hfb hc
    refine a_aloadn C dX5_remember_83 rfl ?_
    refine a_getI C (kz := 7) fl_X5_34 rfl rfl rfl dX5_remember_84 ?_
    refine a_iconst C dX5_remember_87 (inr_b rfl) ?_
    refine a_iadd C dX5_remember_88 ?_
    refine a_goto C 93 dX5_remember_89 rfl ?_
    refine a_drop [true, false] (lv2 := [some (.inr 5), none]) rfl ?_
    exact sSe_remember_93 C X  _ _ hf
