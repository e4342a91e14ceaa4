set_option maxRecDepth 20000 in
set_option maxHeartbeats 4000000 in
theorem cMd_version (x1 x2 x3 : Int) : Snd shM yX8_version cX8_version 4 (some .int) 3 77 [.inr 0, .inl x1, .inl x2, .inl x3] (fMd_version x1 x2 x3) := by
  refine Snd.of RX8 (by decide +kernel) rfl (Nat.le_of_ble_eq_true rfl) ?_
  intro E M R hf C X
  show AW shM 4 E 0 [some (.inr 0), some (.inl x1), some (.inl x2), some (.inl x3)] [] M
  refine a_aloadn C dX8_version_0 rfl ?_
  refine a_iloadn C dX8_version_1 rfl ?_
  refine a_callV C [.inl x1] [] dX8_version_2 (cMd_isCode _) mv_X8_isCode ln_X8_185 rfl rfl ⟨rfl, rfl, Nat.le_of_ble_eq_true rfl, Nat.le_of_ble_eq_true rfl, Nat.le_of_ble_eq_true rfl⟩ hf (fun r1 M1 hf => ?_)
  obtain ⟨hfa, hfb⟩ := hf
  refine a_if_eq C 25 dX8_version_5 rfl (fun hc => ?_) (fun hc => ?_)
  · have hf := hfa hc
    refine a_iconst C dX8_version_25 (inr_b rfl) ?_
    exact a_iret C X dX8_version_26 hf
  · have hf := hfb hc
    refine a_aloadn C dX8_version_8 rfl ?_
    refine a_iloadn C dX8_version_9 rfl ?_
    refine a_callV C [.inl x2] [] dX8_version_10 (cMd_isState _) mv_X8_isState ln_X8_210 rfl rfl ⟨rfl, rfl, Nat.le_of_ble_eq_true rfl, Nat.le_of_ble_eq_true rfl, Nat.le_of_ble_eq_true rfl⟩ hf (fun r2 M2 hf => ?_)
    obtain ⟨hfa, hfb⟩ := hf
    refine a_if_eq C 25 dX8_version_13 rfl (fun hc => ?_) (fun hc => ?_)
    · have hf := hfa hc
      refine a_iconst C dX8_version_25 (inr_b rfl) ?_
      exact a_iret C X dX8_version_26 hf
    · have hf := hfb hc
      refine a_iloadn C dX8_version_16 rfl ?_
      refine a_iconst C dX8_version_17 (inr_b rfl) ?_
      refine a_iconst C dX8_version_18 (inr_b rfl) ?_
      refine a_callS C [.inl x3, .inl 0, .inl 2] [] dX8_version_19 (cMd_in _ _ _) ms_X8_in ln_X8_114 ⟨rfl, rfl, Nat.le_of_ble_eq_true rfl, Nat.le_of_ble_eq_true rfl, Nat.le_of_ble_eq_true rfl⟩ hf (fun r3 M3 hf => ?_)
      obtain ⟨hfa, hfb⟩ := hf
      refine a_if_ne C 27 dX8_version_22 rfl (fun hc => ?_) (fun hc => ?_)
      · have hf := hfa hc
        refine a_aloadn C dX8_version_27 rfl ?_
        refine a_aloadn C dX8_version_28 rfl ?_
        refine a_getR C 3 fl_X8_16 rfl rfl dX8_version_29 ?_
        refine a_iloadn C dX8_version_32 rfl ?_
        obtain ⟨hg, hf⟩ := hf
        refine a_iald C (n := 24) rfl hg dX8_version_33 ?_
        refine a_iloadn C dX8_version_34 rfl ?_
        refine a_callV C [.inl (M3 3 x1), .inl x2] [] dX8_version_35 (cMd_hasVersion _ _) mv_X8_hasVersion ln_X8_236 rfl rfl ⟨rfl, rfl, Nat.le_of_ble_eq_true rfl, Nat.le_of_ble_eq_true rfl, Nat.le_of_ble_eq_true rfl⟩ hf (fun r4 M4 hf => ?_)
        obtain ⟨hfa, hfb⟩ := hf
        refine a_if_ne C 44 dX8_version_38 rfl (fun hc => ?_) (fun hc => ?_)
        · have hf := hfa hc
          refine a_iloadn C dX8_version_44 rfl ?_
          obtain ⟨hfa, hfb⟩ := hf
          refine a_if_ne C 55 dX8_version_45 rfl (fun hc => ?_) (fun hc => ?_)
          · have hf := hfa hc
            refine a_iloadn C dX8_version_55 rfl ?_
            refine a_iconst C dX8_version_56 (inr_b rfl) ?_
            obtain ⟨hfa, hfb⟩ := hf
            refine a_icmp_ne C 67 dX8_version_57 rfl (fun hc => ?_) (fun hc => ?_)
            · have hf := hfa hc
              refine a_aloadn C dX8_version_67 rfl ?_
              refine a_getI C (kz := 25) fl_X8_223 rfl rfl rfl dX8_version_68 ?_
              obtain ⟨hfa, hfb⟩ := hf
              refine a_if_eq C 78 dX8_version_71 rfl (fun hc => ?_) (fun hc => ?_)
              · have hf := hfa hc
                refine a_iconst C dX8_version_78 (inr_b rfl) ?_
                exact a_iret C X dX8_version_79 hf
              · have hf := hfb hc
                refine a_iconst C dX8_version_74 (inr_b rfl) ?_
                refine a_goto C 79 dX8_version_75 rfl ?_
                exact a_iret C X dX8_version_79 hf
            · have hf := hfb hc
              refine a_aloadn C dX8_version_60 rfl ?_
              refine a_getI C (kz := 24) fl_X8_226 rfl rfl rfl dX8_version_61 ?_
              refine a_goto C 79 dX8_version_64 rfl ?_
              exact a_iret C X dX8_version_79 hf
          · have hf := hfb hc
            refine a_aloadn C dX8_version_48 rfl ?_
            refine a_getI C (kz := 23) fl_X8_217 rfl rfl rfl dX8_version_49 ?_
            refine a_goto C 79 dX8_version_52 rfl ?_
            exact a_iret C X dX8_version_79 hf
        · have hf := hfb hc
          refine a_bipush C dX8_version_41 bp_m4 ?_
          exact a_iret C X dX8_version_43 hf
      · have hf := hfb hc
        refine a_iconst C dX8_version_25 (inr_b rfl) ?_
        exact a_iret C X dX8_version_26 hf
set_option maxRecDepth 20000 in
set_option maxHeartbeats 4000000 in
theorem sMd_laysVersions_156 {E : EE} {R : Int → Mem → Prop} (C : Cx shM 5 cX8_laysVersions RX8 4 94 E) (X : Rx shM none R E) {k51 : Int → Int → Mem → Prop} (hk51 : ∀ (x1 : Int) (x2 : Int) (M : Mem), k51 x1 x2 M → AW shM 5 E 51 [some (.inr 0), some (.inl x1), some (.inl x2), none, none] [] M) (x1 : Int) (x2 : Int) (t0 : Int) (t1 : Int) (M : Mem) (hf : fMd_laysVersions_156 k51 R x1 x2 t0 t1 M) : AW shM 5 E 156 [some (.inr 0), some (.inl x1), some (.inl x2), none, none] [.inl t0, .inl t1, .inr 22] M := by
  obtain ⟨hg, hf⟩ := hf
  refine a_iast C (n := 384) rfl hg dX8_laysVersions_156 ?_
  refine a_aloadn C dX8_laysVersions_157 rfl ?_
  refine a_getR C 23 fl_X8_76 rfl rfl dX8_laysVersions_158 ?_
  refine a_bipush C dX8_laysVersions_161 bp_16 ?_
  refine a_iloadn C dX8_laysVersions_163 rfl ?_
  refine a_imul C dX8_laysVersions_164 ?_
  refine a_iloadn C dX8_laysVersions_165 rfl ?_
  refine a_iadd C dX8_laysVersions_166 ?_
  refine a_aloadn C dX8_laysVersions_167 rfl ?_
  refine a_getI C (kz := 24) fl_X8_226 rfl rfl rfl dX8_laysVersions_168 ?_
  obtain ⟨hg, hf⟩ := hf
  refine a_iast C (n := 384) rfl hg dX8_laysVersions_171 ?_
  refine a_iinc C dX8_laysVersions_172 rfl (by decide) (lv2 := [some (.inr 0), some (.inl x1), some (.inl (wrap (x2 + 1))), none, none]) rfl ?_
  refine a_goto C 51 dX8_laysVersions_175 rfl ?_
  exact hk51 _ _ _ hf
set_option maxRecDepth 20000 in
set_option maxHeartbeats 4000000 in
theorem sMd_laysVersions_154 {E : EE} {R : Int → Mem → Prop} (C : Cx shM 5 cX8_laysVersions RX8 4 94 E) (X : Rx shM none R E) {k51 : Int → Int → Mem → Prop} (hk51 : ∀ (x1 : Int) (x2 : Int) (M : Mem), k51 x1 x2 M → AW shM 5 E 51 [some (.inr 0), some (.inl x1), some (.inl x2), none, none] [] M) (x1 : Int) (x2 : Int) (t0 : Int) (M : Mem) (hf : fMd_laysVersions_154 k51 R x1 x2 t0 M) : AW shM 5 E 154 [some (.inr 0), some (.inl x1), some (.inl x2), none, none] [.inl t0, .inr 22] M := by
  refine a_bipush C dX8_laysVersions_154 bp_m4 ?_
  exact sMd_laysVersions_156 C X hk51 _ _ _ _ _ hf
set_option maxRecDepth 20000 in
set_option maxHeartbeats 4000000 in
theorem sMd_laysVersions_114 {E : EE} {R : Int → Mem → Prop} (C : Cx shM 5 cX8_laysVersions RX8 4 94 E) (X : Rx shM none R E) {k51 : Int → Int → Mem → Prop} (hk51 : ∀ (x1 : Int) (x2 : Int) (M : Mem), k51 x1 x2 M → AW shM 5 E 51 [some (.inr 0), some (.inl x1), some (.inl x2), none, none] [] M) (x1 : Int) (x2 : Int) (t0 : Int) (M : Mem) (hf : fMd_laysVersions_114 k51 R x1 x2 t0 M) : AW shM 5 E 114 [some (.inr 0), some (.inl x1), some (.inl x2), none, none] [.inl t0] M := by
  refine a_istoren C dX8_laysVersions_114 (by decide) (lv2 := [some (.inr 0), some (.inl x1), some (.inl x2), some (.inl t0), none]) rfl ?_
  refine a_aloadn C dX8_laysVersions_115 rfl ?_
  refine a_aloadn C dX8_laysVersions_116 rfl ?_
  refine a_getR C 3 fl_X8_16 rfl rfl dX8_laysVersions_117 ?_
  refine a_iloadn C dX8_laysVersions_120 rfl ?_
  obtain ⟨hg, hf⟩ := hf
  refine a_iald C (n := 24) rfl hg dX8_laysVersions_121 ?_
  refine a_iloadn C dX8_laysVersions_122 rfl ?_
  refine a_callV C [.inl (M 3 x1), .inl x2] [] dX8_laysVersions_123 (cMd_hasVersion _ _) mv_X8_hasVersion ln_X8_236 rfl rfl ⟨rfl, rfl, Nat.le_of_ble_eq_true rfl, Nat.le_of_ble_eq_true rfl, Nat.le_of_ble_eq_true rfl⟩ hf (fun r2 M2 hf => ?_)
  refine a_istore C dX8_laysVersions_126 (by decide) (lv2 := [some (.inr 0), some (.inl x1), some (.inl x2), some (.inl t0), some (.inl r2)]) rfl ?_
  refine a_aloadn C dX8_laysVersions_128 rfl ?_
  refine a_getR C 22 fl_X8_73 rfl rfl dX8_laysVersions_129 ?_
  refine a_bipush C dX8_laysVersions_132 bp_16 ?_
  refine a_iloadn C dX8_laysVersions_134 rfl ?_
  refine a_imul C dX8_laysVersions_135 ?_
  refine a_iloadn C dX8_laysVersions_136 rfl ?_
  refine a_iadd C dX8_laysVersions_137 ?_
  refine a_iloadn C dX8_laysVersions_138 rfl ?_
  obtain ⟨hfa, hfb⟩ := hf
  refine a_if_eq C 154 dX8_laysVersions_139 rfl (fun hc => ?_) (fun hc => ?_)
  · have hf := hfa hc
    refine a_drop [true, true, true, false, false] (lv2 := [some (.inr 0), some (.inl x1), some (.inl x2), none, none]) rfl ?_
    exact sMd_laysVersions_154 C X hk51 _ _ _ _ hf
  · have hf := hfb hc
    refine a_iload C dX8_laysVersions_142 rfl ?_
    obtain ⟨hfa, hfb⟩ := hf
    refine a_if_eq C 154 dX8_laysVersions_144 rfl (fun hc => ?_) (fun hc => ?_)
    · have hf := hfa hc
      refine a_drop [true, true, true, false, false] (lv2 := [some (.inr 0), some (.inl x1), some (.inl x2), none, none]) rfl ?_
      exact sMd_laysVersions_154 C X hk51 _ _ _ _ hf
    · have hf := hfb hc
      refine a_aloadn C dX8_laysVersions_147 rfl ?_
      refine a_getI C (kz := 23) fl_X8_217 rfl rfl rfl dX8_laysVersions_148 ?_
      refine a_goto C 156 dX8_laysVersions_151 rfl ?_
      refine a_drop [true, true, true, false, false] (lv2 := [some (.inr 0), some (.inl x1), some (.inl x2), none, none]) rfl ?_
      exact sMd_laysVersions_156 C X hk51 _ _ _ _ _ hf
set_option maxRecDepth 20000 in
set_option maxHeartbeats 4000000 in
theorem sMd_laysVersions_113 {E : EE} {R : Int → Mem → Prop} (C : Cx shM 5 cX8_laysVersions RX8 4 94 E) (X : Rx shM none R E) {k51 : Int → Int → Mem → Prop} (hk51 : ∀ (x1 : Int) (x2 : Int) (M : Mem), k51 x1 x2 M → AW shM 5 E 51 [some (.inr 0), some (.inl x1), some (.inl x2), none, none] [] M) (x1 : Int) (x2 : Int) (M : Mem) (hf : fMd_laysVersions_113 k51 R x1 x2 M) : AW shM 5 E 113 [some (.inr 0), some (.inl x1), some (.inl x2), none, none] [] M := by
  refine a_iconst C dX8_laysVersions_113 (inr_b rfl) ?_
  exact sMd_laysVersions_114 C X hk51 _ _ _ _ hf
set_option maxRecDepth 20000 in
set_option maxHeartbeats 4000000 in
theorem sMd_laysVersions_109 {E : EE} {R : Int → Mem → Prop} (C : Cx shM 5 cX8_laysVersions RX8 4 94 E) (X : Rx shM none R E) {k51 : Int → Int → Mem → Prop} (hk51 : ∀ (x1 : Int) (x2 : Int) (M : Mem), k51 x1 x2 M → AW shM 5 E 51 [some (.inr 0), some (.inl x1), some (.inl x2), none, none] [] M) (x1 : Int) (x2 : Int) (M : Mem) (hf : fMd_laysVersions_109 k51 R x1 x2 M) : AW shM 5 E 109 [some (.inr 0), some (.inl x1), some (.inl x2), none, none] [] M := by
  refine a_iconst C dX8_laysVersions_109 (inr_b rfl) ?_
  refine a_goto C 114 dX8_laysVersions_110 rfl ?_
  exact sMd_laysVersions_114 C X hk51 _ _ _ _ hf
set_option maxRecDepth 20000 in
set_option maxHeartbeats 4000000 in
theorem sMd_laysVersions_93 {E : EE} {R : Int → Mem → Prop} (C : Cx shM 5 cX8_laysVersions RX8 4 94 E) (X : Rx shM none R E) {k51 : Int → Int → Mem → Prop} (hk51 : ∀ (x1 : Int) (x2 : Int) (M : Mem), k51 x1 x2 M → AW shM 5 E 51 [some (.inr 0), some (.inl x1), some (.inl x2), none, none] [] M) (x1 : Int) (x2 : Int) (M : Mem) (hf : fMd_laysVersions_93 k51 R x1 x2 M) : AW shM 5 E 93 [some (.inr 0), some (.inl x1), some (.inl x2), none, none] [] M := by
  refine a_aloadn C dX8_laysVersions_93 rfl ?_
  refine a_getI C (kz := 40) fl_X8_88 rfl rfl rfl dX8_laysVersions_94 ?_
  refine a_iloadn C dX8_laysVersions_97 rfl ?_
  obtain ⟨hfa, hfb⟩ := hf
  refine a_icmp_ne C 109 dX8_laysVersions_98 rfl (fun hc => ?_) (fun hc => ?_)
  · have hf := hfa hc
    exact sMd_laysVersions_109 C X hk51 _ _ _ hf
  · have hf := hfb hc
    refine a_iloadn C dX8_laysVersions_101 rfl ?_
    refine a_aloadn C dX8_laysVersions_102 rfl ?_
    refine a_getI C (kz := 41) fl_X8_267 rfl rfl rfl dX8_laysVersions_103 ?_
    obtain ⟨hfa, hfb⟩ := hf
    refine a_icmp_ne C 113 dX8_laysVersions_106 rfl (fun hc => ?_) (fun hc => ?_)
    · have hf := hfa hc
      exact sMd_laysVersions_113 C X hk51 _ _ _ hf
    · have hf := hfb hc
      exact sMd_laysVersions_109 C X hk51 _ _ _ hf
set_option maxRecDepth 20000 in
set_option maxHeartbeats 4000000 in
theorem sMd_laysVersions_51 {E : EE} {R : Int → Mem → Prop} (C : Cx shM 5 cX8_laysVersions RX8 4 94 E) (X : Rx shM none R E) {k11 : Int → Mem → Prop} (hk11 : ∀ (x1 : Int) (M : Mem), k11 x1 M → AW shM 5 E 11 [some (.inr 0), some (.inl x1), none, none, none] [] M) : ∀ (n : Nat) (x1 : Int) (x2 : Int) (M : Mem), fMd_laysVersions_51 k11 R n x1 x2 M → AW shM 5 E 51 [some (.inr 0), some (.inl x1), some (.inl x2), none, none] [] M := by
  intro n
  induction n with
  | zero => intro x1 x2 M hf; exact hf.elim
  | succ n hk51 =>
    intro x1 x2 M hf
    refine a_iloadn C dX8_laysVersions_51 rfl ?_
    refine a_aloadn C dX8_laysVersions_52 rfl ?_
    refine a_getI C (kz := 20) fl_X8_200 rfl rfl rfl dX8_laysVersions_53 ?_
    obtain ⟨hfa, hfb⟩ := hf
    refine a_icmp_ge C 178 dX8_laysVersions_56 rfl (fun hc => ?_) (fun hc => ?_)
    · have hf := hfa hc
      refine a_iinc C dX8_laysVersions_178 rfl (by decide) (lv2 := [some (.inr 0), some (.inl (wrap (x1 + 1))), some (.inl x2), none, none]) rfl ?_
      refine a_goto C 11 dX8_laysVersions_181 rfl ?_
      refine a_drop [true, true, false, true, true] (lv2 := [some (.inr 0), some (.inl (wrap (x1 + 1))), none, none, none]) rfl ?_
      exact hk11 _ _ hf
    · have hf := hfb hc
      refine a_aloadn C dX8_laysVersions_59 rfl ?_
      refine a_getR C 5 fl_X8_22 rfl rfl dX8_laysVersions_60 ?_
      refine a_iloadn C dX8_laysVersions_63 rfl ?_
      obtain ⟨hg, hf⟩ := hf
      refine a_iald C (n := 24) rfl hg dX8_laysVersions_64 ?_
      refine a_bipush C dX8_laysVersions_65 bp_m4 ?_
      obtain ⟨hfa, hfb⟩ := hf
      refine a_icmp_eq C 113 dX8_laysVersions_67 rfl (fun hc => ?_) (fun hc => ?_)
      · have hf := hfa hc
        exact sMd_laysVersions_113 C X hk51 _ _ _ hf
      · have hf := hfb hc
        refine a_aloadn C dX8_laysVersions_70 rfl ?_
        refine a_getR C 15 fl_X8_52 rfl rfl dX8_laysVersions_71 ?_
        refine a_iloadn C dX8_laysVersions_74 rfl ?_
        obtain ⟨hg, hf⟩ := hf
        refine a_iald C (n := 16) rfl hg dX8_laysVersions_75 ?_
        refine a_aloadn C dX8_laysVersions_76 rfl ?_
        refine a_getR C 5 fl_X8_22 rfl rfl dX8_laysVersions_77 ?_
        refine a_iloadn C dX8_laysVersions_80 rfl ?_
        obtain ⟨hg, hf⟩ := hf
        refine a_iald C (n := 24) rfl hg dX8_laysVersions_81 ?_
        obtain ⟨hfa, hfb⟩ := hf
        refine a_icmp_gt C 113 dX8_laysVersions_82 rfl (fun hc => ?_) (fun hc => ?_)
        · have hf := hfa hc
          exact sMd_laysVersions_113 C X hk51 _ _ _ hf
        · have hf := hfb hc
          refine a_iloadn C dX8_laysVersions_85 rfl ?_
          obtain ⟨hfa, hfb⟩ := hf
          refine a_if_gt C 93 dX8_laysVersions_86 rfl (fun hc => ?_) (fun hc => ?_)
          · have hf := hfa hc
            exact sMd_laysVersions_93 C X hk51 _ _ _ hf
          · have hf := hfb hc
            refine a_iloadn C dX8_laysVersions_89 rfl ?_
            obtain ⟨hfa, hfb⟩ := hf
            refine a_if_ne C 113 dX8_laysVersions_90 rfl (fun hc => ?_) (fun hc => ?_)
            · have hf := hfa hc
              exact sMd_laysVersions_113 C X hk51 _ _ _ hf
            · have hf := hfb hc
              exact sMd_laysVersions_93 C X hk51 _ _ _ hf
set_option maxRecDepth 20000 in
set_option maxHeartbeats 4000000 in
theorem sMd_laysVersions_49 {E : EE} {R : Int → Mem → Prop} (C : Cx shM 5 cX8_laysVersions RX8 4 94 E) (X : Rx shM none R E) {k11 : Int → Mem → Prop} (hk11 : ∀ (x1 : Int) (M : Mem), k11 x1 M → AW shM 5 E 11 [some (.inr 0), some (.inl x1), none, none, none] [] M) (x1 : Int) (M : Mem) (hf : fMd_laysVersions_49 k11 R x1 M) : AW shM 5 E 49 [some (.inr 0), some (.inl x1), none, none, none] [] M := by
  refine a_iconst C dX8_laysVersions_49 (inr_b rfl) ?_
  refine a_istoren C dX8_laysVersions_50 (by decide) (lv2 := [some (.inr 0), some (.inl x1), some (.inl 0), none, none]) rfl ?_
  obtain ⟨n3, hf⟩ := hf
  exact sMd_laysVersions_51 C X hk11 n3 _ _ _ hf
set_option maxRecDepth 20000 in
set_option maxHeartbeats 4000000 in
theorem sMd_laysVersions_11 {E : EE} {R : Int → Mem → Prop} (C : Cx shM 5 cX8_laysVersions RX8 4 94 E) (X : Rx shM none R E) : ∀ (n : Nat) (x1 : Int) (M : Mem), fMd_laysVersions_11  R n x1 M → AW shM 5 E 11 [some (.inr 0), some (.inl x1), none, none, none] [] M := by
  intro n
  induction n with
  | zero => intro x1 M hf; exact hf.elim
  | succ n hk11 =>
    intro x1 M hf
    refine a_iloadn C dX8_laysVersions_11 rfl ?_
    refine a_aloadn C dX8_laysVersions_12 rfl ?_
    refine a_getI C (kz := 3) fl_X8_172 rfl rfl rfl dX8_laysVersions_13 ?_
    obtain ⟨hfa, hfb⟩ := hf
    refine a_icmp_ge C 184 dX8_laysVersions_16 rfl (fun hc => ?_) (fun hc => ?_)
    · have hf := hfa hc
      exact a_vret C X dX8_laysVersions_184 hf
    · have hf := hfb hc
      refine a_aloadn C dX8_laysVersions_19 rfl ?_
      refine a_getR C 6 fl_X8_25 rfl rfl dX8_laysVersions_20 ?_
      refine a_iloadn C dX8_laysVersions_23 rfl ?_
      obtain ⟨hg, hf⟩ := hf
      refine a_iald C (n := 24) rfl hg dX8_laysVersions_24 ?_
      refine a_iconst C dX8_laysVersions_25 (inr_b rfl) ?_
      obtain ⟨hfa, hfb⟩ := hf
      refine a_icmp_ne C 49 dX8_laysVersions_26 rfl (fun hc => ?_) (fun hc => ?_)
      · have hf := hfa hc
        exact sMd_laysVersions_49 C X hk11 _ _ hf
      · have hf := hfb hc
        refine a_aloadn C dX8_laysVersions_29 rfl ?_
        refine a_getR C 25 fl_X8_82 rfl rfl dX8_laysVersions_30 ?_
        refine a_aloadn C dX8_laysVersions_33 rfl ?_
        refine a_getI C (kz := 37) fl_X8_264 rfl rfl rfl dX8_laysVersions_34 ?_
        refine a_iloadn C dX8_laysVersions_37 rfl ?_
        obtain ⟨hg, hf⟩ := hf
        refine a_iast C (n := 2) rfl hg dX8_laysVersions_38 ?_
        refine a_aloadn C dX8_laysVersions_39 rfl ?_
        refine a_dup C dX8_laysVersions_40 ?_
        refine a_getI C (kz := 37) fl_X8_264 rfl rfl rfl dX8_laysVersions_41 ?_
        refine a_iconst C dX8_laysVersions_44 (inr_b rfl) ?_
        refine a_iadd C dX8_laysVersions_45 ?_
        refine a_putI C (kz := 37) fp_X8_264 rfl rfl rfl dX8_laysVersions_46 ?_
        exact sMd_laysVersions_49 C X hk11 _ _ hf
set_option maxRecDepth 20000 in
set_option maxHeartbeats 4000000 in
theorem cMd_laysVersions : Snd shM yX8_laysVersions cX8_laysVersions 5 none 4 94 [.inr 0] fMd_laysVersions := by
  refine Snd.of RX8 (by decide +kernel) rfl (Nat.le_of_ble_eq_true rfl) ?_
  intro E M R hf C X
  show AW shM 5 E 0 [some (.inr 0), none, none, none, none] [] M
  refine a_aloadn C dX8_laysVersions_0 rfl ?_
  refine a_callV C [] [] dX8_laysVersions_1 (cMd_laysPassages) mv_X8_laysPassages ln_X8_261 rfl rfl ⟨rfl, rfl, Nat.le_of_ble_eq_true rfl, Nat.le_of_ble_eq_true rfl, Nat.le_of_ble_eq_true rfl⟩ hf (fun r1 M1 hf => ?_)
  refine a_aloadn C dX8_laysVersions_4 rfl ?_
  refine a_iconst C dX8_laysVersions_5 (inr_b rfl) ?_
  refine a_putI C (kz := 37) fp_X8_264 rfl rfl rfl dX8_laysVersions_6 ?_
  refine a_iconst C dX8_laysVersions_9 (inr_b rfl) ?_
  refine a_istoren C dX8_laysVersions_10 (by decide) (lv2 := [some (.inr 0), some (.inl 0), none, none, none]) rfl ?_
  obtain ⟨n4, hf⟩ := hf
  exact sMd_laysVersions_11 C X  n4 _ _ hf
set_option maxRecDepth 20000 in
set_option maxHeartbeats 4000000 in
theorem sMd_goesOn_l_47 {E : EE} {R : Int → Mem → Prop} (C : Cx shM 5 cX8_goesOn RX8 1 20 E) (X : Rx shM (some .int) R E) (M : Mem) (hf : fMd_goesOn_l_47  R M) : AW shM 5 E 47 [none, none, none, none, none] [] M := by
  refine a_bipush C dX8_goesOn_47 bp_m4 ?_
  refine a_goto C 55 dX8_goesOn_49 rfl ?_
  exact a_iret C X dX8_goesOn_55 hf
set_option maxRecDepth 20000 in
set_option maxHeartbeats 4000000 in
theorem cMd_goesOn_l (x2 x3 x4 : Int) : Snd shM yX8_goesOn cX8_goesOn 5 (some .int) 1 20 [.inr 3, .inr 4, .inl x2, .inl x3, .inl x4] (fMd_goesOn_l x2 x3 x4) := by
  refine Snd.of RX8 (by decide +kernel) rfl (Nat.le_of_ble_eq_true rfl) ?_
  intro E M R hf C X
  show AW shM 5 E 0 [some (.inr 3), some (.inr 4), some (.inl x2), some (.inl x3), some (.inl x4)] [] M
  refine a_iloadn C dX8_goesOn_0 rfl ?_
  refine a_iconst C dX8_goesOn_1 (inr_b rfl) ?_
  obtain ⟨hfa, hfb⟩ := hf
  refine a_icmp_ne C 23 dX8_goesOn_2 rfl (fun hc => ?_) (fun hc => ?_)
  · have hf := hfa hc
    refine a_aloadn C dX8_goesOn_23 rfl ?_
    refine a_iloadn C dX8_goesOn_24 rfl ?_
    obtain ⟨hg, hf⟩ := hf
    refine a_iald C (n := 24) rfl hg dX8_goesOn_25 ?_
    refine a_bipush C dX8_goesOn_26 bp_106 ?_
    obtain ⟨hfa, hfb⟩ := hf
    refine a_icmp_eq C 47 dX8_goesOn_28 rfl (fun hc => ?_) (fun hc => ?_)
    · have hf := hfa hc
      refine a_drop [false, false, false, false, false] (lv2 := [none, none, none, none, none]) rfl ?_
      exact sMd_goesOn_l_47 C X   _ hf
    · have hf := hfb hc
      refine a_aloadn C dX8_goesOn_31 rfl ?_
      refine a_iloadn C dX8_goesOn_32 rfl ?_
      obtain ⟨hg, hf⟩ := hf
      refine a_iald C (n := 24) rfl hg dX8_goesOn_33 ?_
      refine a_bipush C dX8_goesOn_34 bp_104 ?_
      obtain ⟨hfa, hfb⟩ := hf
      refine a_icmp_eq C 47 dX8_goesOn_36 rfl (fun hc => ?_) (fun hc => ?_)
      · have hf := hfa hc
        refine a_drop [false, false, false, false, false] (lv2 := [none, none, none, none, none]) rfl ?_
        exact sMd_goesOn_l_47 C X   _ hf
      · have hf := hfb hc
        refine a_iloadn C dX8_goesOn_39 rfl ?_
        refine a_iconst C dX8_goesOn_40 (inr_b rfl) ?_
        refine a_iadd C dX8_goesOn_41 ?_
        refine a_iload C dX8_goesOn_42 rfl ?_
        obtain ⟨hfa, hfb⟩ := hf
        refine a_icmp_ne C 52 dX8_goesOn_44 rfl (fun hc => ?_) (fun hc => ?_)
        · have hf := hfa hc
          refine a_iloadn C dX8_goesOn_52 rfl ?_
          refine a_iconst C dX8_goesOn_53 (inr_b rfl) ?_
          refine a_iadd C dX8_goesOn_54 ?_
          exact a_iret C X dX8_goesOn_55 hf
        · have hf := hfb hc
          refine a_drop [false, false, false, false, false] (lv2 := [none, none, none, none, none]) rfl ?_
          exact sMd_goesOn_l_47 C X   _ hf
  · have hf := hfb hc
    refine a_aloadn C dX8_goesOn_5 rfl ?_
    refine a_iloadn C dX8_goesOn_6 rfl ?_
    obtain ⟨hg, hf⟩ := hf
    refine a_iald C (n := 24) rfl hg dX8_goesOn_7 ?_
    refine a_callS C [.inl (M 3 x2)] [] dX8_goesOn_8 (cMd_isJump _) ms_X8_isJump ln_X8_146 ⟨rfl, rfl, Nat.le_of_ble_eq_true rfl, Nat.le_of_ble_eq_true rfl, Nat.le_of_ble_eq_true rfl⟩ hf (fun r1 M1 hf => ?_)
    obtain ⟨hfa, hfb⟩ := hf
    refine a_if_eq C 20 dX8_goesOn_11 rfl (fun hc => ?_) (fun hc => ?_)
    · have hf := hfa hc
      refine a_bipush C dX8_goesOn_20 bp_m4 ?_
      exact a_iret C X dX8_goesOn_22 hf
    · have hf := hfb hc
      refine a_aloadn C dX8_goesOn_14 rfl ?_
      refine a_iloadn C dX8_goesOn_15 rfl ?_
      obtain ⟨hg, hf⟩ := hf
      refine a_iald C (n := 24) rfl hg dX8_goesOn_16 ?_
      refine a_goto C 22 dX8_goesOn_17 rfl ?_
      exact a_iret C X dX8_goesOn_22 hf
set_option maxRecDepth 20000 in
set_option maxHeartbeats 4000000 in
theorem sMd_onTo_121 {E : EE} {R : Int → Mem → Prop} (C : Cx shM 7 cX8_onTo RX8 0 0 E) (X : Rx shM (some .int) R E) {k13 : Int → Int → Int → Int → Int → Mem → Prop} (hk13 : ∀ (x1 : Int) (x2 : Int) (x3 : Int) (x4 : Int) (x5 : Int) (M : Mem), k13 x1 x2 x3 x4 x5 M → AW shM 7 E 13 [some (.inr 0), some (.inl x1), some (.inl x2), some (.inl x3), some (.inl x4), some (.inl x5), none] [] M) (x1 : Int) (x2 : Int) (x3 : Int) (x4 : Int) (x5 : Int) (M : Mem) (hf : fMd_onTo_121 k13 R x1 x2 x3 x4 x5 M) : AW shM 7 E 121 [some (.inr 0), some (.inl x1), some (.inl x2), some (.inl x3), some (.inl x4), some (.inl x5), none] [] M := by
  refine a_iinc C dX8_onTo_121 rfl (by decide) (lv2 := [some (.inr 0), some (.inl x1), some (.inl x2), some (.inl x3), some (.inl x4), some (.inl (wrap (x5 + 1))), none]) rfl ?_
  refine a_goto C 13 dX8_onTo_124 rfl ?_
  exact hk13 _ _ _ _ _ _ hf
set_option maxRecDepth 20000 in
set_option maxHeartbeats 4000000 in
theorem sMd_onTo_119 {E : EE} {R : Int → Mem → Prop} (C : Cx shM 7 cX8_onTo RX8 0 0 E) (X : Rx shM (some .int) R E) {k13 : Int → Int → Int → Int → Int → Mem → Prop} (hk13 : ∀ (x1 : Int) (x2 : Int) (x3 : Int) (x4 : Int) (x5 : Int) (M : Mem), k13 x1 x2 x3 x4 x5 M → AW shM 7 E 13 [some (.inr 0), some (.inl x1), some (.inl x2), some (.inl x3), some (.inl x4), some (.inl x5), none] [] M) (x1 : Int) (x2 : Int) (x3 : Int) (x5 : Int) (t0 : Int) (M : Mem) (hf : fMd_onTo_119 k13 R x1 x2 x3 x5 t0 M) : AW shM 7 E 119 [some (.inr 0), some (.inl x1), some (.inl x2), some (.inl x3), none, some (.inl x5), none] [.inl t0] M := by
  refine a_istore C dX8_onTo_119 (by decide) (lv2 := [some (.inr 0), some (.inl x1), some (.inl x2), some (.inl x3), some (.inl t0), some (.inl x5), none]) rfl ?_
  exact sMd_onTo_121 C X hk13 _ _ _ _ _ _ hf
set_option maxRecDepth 20000 in
set_option maxHeartbeats 4000000 in
theorem sMd_onTo_102 {E : EE} {R : Int → Mem → Prop} (C : Cx shM 7 cX8_onTo RX8 0 0 E) (X : Rx shM (some .int) R E) {k13 : Int → Int → Int → Int → Int → Mem → Prop} (hk13 : ∀ (x1 : Int) (x2 : Int) (x3 : Int) (x4 : Int) (x5 : Int) (M : Mem), k13 x1 x2 x3 x4 x5 M → AW shM 7 E 13 [some (.inr 0), some (.inl x1), some (.inl x2), some (.inl x3), some (.inl x4), some (.inl x5), none] [] M) (x1 : Int) (x2 : Int) (x3 : Int) (x4 : Int) (x5 : Int) (x6 : Int) (t0 : Int) (M : Mem) (hf : fMd_onTo_102 k13 R x1 x2 x3 x4 x5 x6 t0 M) : AW shM 7 E 102 [some (.inr 0), some (.inl x1), some (.inl x2), some (.inl x3), some (.inl x4), some (.inl x5), some (.inl x6)] [.inl t0, .inr 0] M := by
  refine a_putI C (kz := 42) fp_X8_270 rfl rfl rfl dX8_onTo_102 ?_
  refine a_iload C dX8_onTo_105 rfl ?_
  refine a_iload C dX8_onTo_107 rfl ?_
  obtain ⟨hfa, hfb⟩ := hf
  refine a_icmp_ge C 117 dX8_onTo_109 rfl (fun hc => ?_) (fun hc => ?_)
  · have hf := hfa hc
    refine a_iload C dX8_onTo_117 rfl ?_
    refine a_drop [true, true, true, true, false, true, false] (lv2 := [some (.inr 0), some (.inl x1), some (.inl x2), some (.inl x3), none, some (.inl x5), none]) rfl ?_
    exact sMd_onTo_119 C X hk13 _ _ _ _ _ _ hf
  · have hf := hfb hc
    refine a_iload C dX8_onTo_112 rfl ?_
    refine a_goto C 119 dX8_onTo_114 rfl ?_
    refine a_drop [true, true, true, true, false, true, false] (lv2 := [some (.inr 0), some (.inl x1), some (.inl x2), some (.inl x3), none, some (.inl x5), none]) rfl ?_
    exact sMd_onTo_119 C X hk13 _ _ _ _ _ _ hf
set_option maxRecDepth 20000 in
set_option maxHeartbeats 4000000 in
theorem sMd_onTo_13 {E : EE} {R : Int → Mem → Prop} (C : Cx shM 7 cX8_onTo RX8 0 0 E) (X : Rx shM (some .int) R E) : ∀ (n : Nat) (x1 : Int) (x2 : Int) (x3 : Int) (x4 : Int) (x5 : Int) (M : Mem), fMd_onTo_13  R n x1 x2 x3 x4 x5 M → AW shM 7 E 13 [some (.inr 0), some (.inl x1), some (.inl x2), some (.inl x3), some (.inl x4), some (.inl x5), none] [] M := by
  intro n
  induction n with
  | zero => intro x1 x2 x3 x4 x5 M hf; exact hf.elim
  | succ n hk13 =>
    intro x1 x2 x3 x4 x5 M hf
    refine a_iload C dX8_onTo_13 rfl ?_
    refine a_aloadn C dX8_onTo_15 rfl ?_
    refine a_getI C (kz := 20) fl_X8_200 rfl rfl rfl dX8_onTo_16 ?_
    obtain ⟨hfa, hfb⟩ := hf
    refine a_icmp_ge C 127 dX8_onTo_19 rfl (fun hc => ?_) (fun hc => ?_)
    · have hf := hfa hc
      refine a_iload C dX8_onTo_127 rfl ?_
      exact a_iret C X dX8_onTo_129 hf
    · have hf := hfb hc
      refine a_aloadn C dX8_onTo_22 rfl ?_
      refine a_getR C 22 fl_X8_73 rfl rfl dX8_onTo_23 ?_
      refine a_bipush C dX8_onTo_26 bp_16 ?_
      refine a_iloadn C dX8_onTo_28 rfl ?_
      refine a_imul C dX8_onTo_29 ?_
      refine a_iload C dX8_onTo_30 rfl ?_
      refine a_iadd C dX8_onTo_32 ?_
      obtain ⟨hg, hf⟩ := hf
      refine a_iald C (n := 384) rfl hg dX8_onTo_33 ?_
      refine a_bipush C dX8_onTo_34 bp_m4 ?_
      obtain ⟨hfa, hfb⟩ := hf
      refine a_icmp_eq C 121 dX8_onTo_36 rfl (fun hc => ?_) (fun hc => ?_)
      · have hf := hfa hc
        exact sMd_onTo_121 C X hk13 _ _ _ _ _ _ hf
      · have hf := hfb hc
        refine a_aloadn C dX8_onTo_39 rfl ?_
        refine a_getR C 24 fl_X8_79 rfl rfl dX8_onTo_40 ?_
        refine a_bipush C dX8_onTo_43 bp_16 ?_
        refine a_iloadn C dX8_onTo_45 rfl ?_
        refine a_imul C dX8_onTo_46 ?_
        refine a_iload C dX8_onTo_47 rfl ?_
        refine a_iadd C dX8_onTo_49 ?_
        obtain ⟨hg, hf⟩ := hf
        refine a_iald C (n := 384) rfl hg dX8_onTo_50 ?_
        refine a_ldc C dX8_onTo_51 ct_X8_250 (inr_b rfl) ?_
        obtain ⟨hfa, hfb⟩ := hf
        refine a_icmp_ge C 121 dX8_onTo_53 rfl (fun hc => ?_) (fun hc => ?_)
        · have hf := hfa hc
          exact sMd_onTo_121 C X hk13 _ _ _ _ _ _ hf
        · have hf := hfb hc
          refine a_iloadn C dX8_onTo_56 rfl ?_
          refine a_aloadn C dX8_onTo_57 rfl ?_
          refine a_getR C 18 fl_X8_61 rfl rfl dX8_onTo_58 ?_
          refine a_bipush C dX8_onTo_61 bp_16 ?_
          refine a_iloadn C dX8_onTo_63 rfl ?_
          refine a_imul C dX8_onTo_64 ?_
          refine a_iload C dX8_onTo_65 rfl ?_
          refine a_iadd C dX8_onTo_67 ?_
          obtain ⟨hg, hf⟩ := hf
          refine a_iald C (n := 256) rfl hg dX8_onTo_68 ?_
          refine a_imul C dX8_onTo_69 ?_
          refine a_aloadn C dX8_onTo_70 rfl ?_
          refine a_getR C 24 fl_X8_79 rfl rfl dX8_onTo_71 ?_
          refine a_bipush C dX8_onTo_74 bp_16 ?_
          refine a_iloadn C dX8_onTo_76 rfl ?_
          refine a_imul C dX8_onTo_77 ?_
          refine a_iload C dX8_onTo_78 rfl ?_
          refine a_iadd C dX8_onTo_80 ?_
          obtain ⟨hg, hf⟩ := hf
          refine a_iald C (n := 384) rfl hg dX8_onTo_81 ?_
          refine a_iadd C dX8_onTo_82 ?_
          refine a_istore C dX8_onTo_83 (by decide) (lv2 := [some (.inr 0), some (.inl x1), some (.inl x2), some (.inl x3), some (.inl x4), some (.inl x5), some (.inl (wrap ((wrap (x3 * (M 18 (wrap ((wrap (16 * x2)) + x5))))) + (M 24 (wrap ((wrap (16 * x1)) + x5))))))]) rfl ?_
          refine a_aloadn C dX8_onTo_85 rfl ?_
          refine a_iload C dX8_onTo_86 rfl ?_
          refine a_iload C dX8_onTo_88 rfl ?_
          obtain ⟨hfa, hfb⟩ := hf
          refine a_icmp_ge C 98 dX8_onTo_90 rfl (fun hc => ?_) (fun hc => ?_)
          · have hf := hfa hc
            refine a_aloadn C dX8_onTo_98 rfl ?_
            refine a_getI C (kz := 42) fl_X8_270 rfl rfl rfl dX8_onTo_99 ?_
            exact sMd_onTo_102 C X hk13 _ _ _ _ _ _ _ _ hf
          · have hf := hfb hc
            refine a_iload C dX8_onTo_93 rfl ?_
            refine a_goto C 102 dX8_onTo_95 rfl ?_
            exact sMd_onTo_102 C X hk13 _ _ _ _ _ _ _ _ hf
set_option maxRecDepth 20000 in
set_option maxHeartbeats 4000000 in
theorem cMd_onTo (x1 x2 x3 : Int) : Snd shM yX8_onTo cX8_onTo 7 (some .int) 0 0 [.inr 0, .inl x1, .inl x2, .inl x3] (fMd_onTo x1 x2 x3) := by
  refine Snd.of RX8 (by decide +kernel) rfl (Nat.le_of_ble_eq_true rfl) ?_
  intro E M R hf C X
  show AW shM 7 E 0 [some (.inr 0), some (.inl x1), some (.inl x2), some (.inl x3), none, none, none] [] M
  refine a_ldc C dX8_onTo_0 ct_X8_250 (inr_b rfl) ?_
  refine a_istore C dX8_onTo_2 (by decide) (lv2 := [some (.inr 0), some (.inl x1), some (.inl x2), some (.inl x3), some (.inl 1000000000), none, none]) rfl ?_
  refine a_aloadn C dX8_onTo_4 rfl ?_
  refine a_bipush C dX8_onTo_5 bp_m4 ?_
  refine a_putI C (kz := 42) fp_X8_270 rfl rfl rfl dX8_onTo_7 ?_
  refine a_iconst C dX8_onTo_10 (inr_b rfl) ?_
  refine a_istore C dX8_onTo_11 (by decide) (lv2 := [some (.inr 0), some (.inl x1), some (.inl x2), some (.inl x3), some (.inl 1000000000), some (.inl 0), none]) rfl ?_
  obtain ⟨n1, hf⟩ := hf
  exact sMd_onTo_13 C X  n1 _ _ _ _ _ _ hf
set_option maxRecDepth 20000 in
set_option maxHeartbeats 4000000 in
theorem sMd_leastOf_78 {E : EE} {R : Int → Mem → Prop} (C : Cx shM 8 cX8_leastOf RX8 2 44 E) (X : Rx shM (some .int) R E) (x1 : Int) (x3 : Int) (x4 : Int) (x5 : Int) (M : Mem) (hf : fMd_leastOf_78  R x1 x3 x4 x5 M) : AW shM 8 E 78 [some (.inr 0), some (.inl x1), none, some (.inl x3), some (.inl x4), some (.inl x5), none, none] [] M := by
  have hf : fMd_goesOn_l x1 0 (M 0 3) M (fun r2 M2 => ((r2 ≠ (-4) → (inb r2 24 ∧ (((M2 6 r2) ≠ 1 → fMd_onTo r2 x4 x3 M2 (fun r3 M3 => ((r3 ≠ 1000000000 → R (wrap (x5 + r3)) M3) ∧ (r3 = 1000000000 → R 1000000000 M3)))) ∧ ((M2 6 r2) = 1 → (inb r2 24 ∧ (inb (wrap ((wrap (16 * x4)) + (M2 26 r2))) 256 ∧ R (wrap (x5 + (wrap (x3 * (M2 18 (wrap ((wrap (16 * x4)) + (M2 26 r2)))))))) M2)))))) ∧ (r2 = (-4) → R x5 M2))) := hf
  refine a_aloadn C dX8_leastOf_78 rfl ?_
  refine a_getR C 3 fl_X8_16 rfl rfl dX8_leastOf_79 ?_
  refine a_aloadn C dX8_leastOf_82 rfl ?_
  refine a_getR C 4 fl_X8_19 rfl rfl dX8_leastOf_83 ?_
  refine a_iloadn C dX8_leastOf_86 rfl ?_
  refine a_iconst C dX8_leastOf_87 (inr_b rfl) ?_
  refine a_aloadn C dX8_leastOf_88 rfl ?_
  refine a_getI C (kz := 3) fl_X8_172 rfl rfl rfl dX8_leastOf_89 ?_
  refine a_callS C [.inr 3, .inr 4, .inl x1, .inl 0, .inl (M 0 3)] [] dX8_leastOf_92 (cMd_goesOn_l _ _ _) ms_X8_goesOn ln_X8_158 ⟨rfl, rfl, Nat.le_of_ble_eq_true rfl, Nat.le_of_ble_eq_true rfl, Nat.le_of_ble_eq_true rfl⟩ hf (fun r2 M2 hf => ?_)
  refine a_istore C dX8_leastOf_95 (by decide) (lv2 := [some (.inr 0), some (.inl x1), none, some (.inl x3), some (.inl x4), some (.inl x5), some (.inl r2), none]) rfl ?_
  refine a_iload C dX8_leastOf_97 rfl ?_
  refine a_bipush C dX8_leastOf_99 bp_m4 ?_
  obtain ⟨hfa, hfb⟩ := hf
  refine a_icmp_ne C 107 dX8_leastOf_101 rfl (fun hc => ?_) (fun hc => ?_)
  · have hf := hfa hc
    refine a_aloadn C dX8_leastOf_107 rfl ?_
    refine a_getR C 6 fl_X8_25 rfl rfl dX8_leastOf_108 ?_
    refine a_iload C dX8_leastOf_111 rfl ?_
    obtain ⟨hg, hf⟩ := hf
    refine a_iald C (n := 24) rfl hg dX8_leastOf_113 ?_
    refine a_iconst C dX8_leastOf_114 (inr_b rfl) ?_
    obtain ⟨hfa, hfb⟩ := hf
    refine a_icmp_ne C 142 dX8_leastOf_115 rfl (fun hc => ?_) (fun hc => ?_)
    · have hf := hfa hc
      refine a_aloadn C dX8_leastOf_142 rfl ?_
      refine a_iload C dX8_leastOf_143 rfl ?_
      refine a_iload C dX8_leastOf_145 rfl ?_
      refine a_iloadn C dX8_leastOf_147 rfl ?_
      refine a_callV C [.inl r2, .inl x4, .inl x3] [] dX8_leastOf_148 (cMd_onTo _ _ _) mv_X8_onTo ln_X8_273 rfl rfl ⟨rfl, rfl, Nat.le_of_ble_eq_true rfl, Nat.le_of_ble_eq_true rfl, Nat.le_of_ble_eq_true rfl⟩ hf (fun r3 M3 hf => ?_)
      refine a_istore C dX8_leastOf_151 (by decide) (lv2 := [some (.inr 0), some (.inl x1), none, some (.inl x3), some (.inl x4), some (.inl x5), some (.inl r2), some (.inl r3)]) rfl ?_
      refine a_iload C dX8_leastOf_153 rfl ?_
      refine a_ldc C dX8_leastOf_155 ct_X8_250 (inr_b rfl) ?_
      obtain ⟨hfa, hfb⟩ := hf
      refine a_icmp_ne C 165 dX8_leastOf_157 rfl (fun hc => ?_) (fun hc => ?_)
      · have hf := hfa hc
        refine a_iload C dX8_leastOf_165 rfl ?_
        refine a_iload C dX8_leastOf_167 rfl ?_
        refine a_iadd C dX8_leastOf_169 ?_
        exact a_iret C X dX8_leastOf_170 hf
      · have hf := hfb hc
        refine a_ldc C dX8_leastOf_160 ct_X8_250 (inr_b rfl) ?_
        refine a_goto C 170 dX8_leastOf_162 rfl ?_
        exact a_iret C X dX8_leastOf_170 hf
    · have hf := hfb hc
      refine a_iload C dX8_leastOf_118 rfl ?_
      refine a_iloadn C dX8_leastOf_120 rfl ?_
      refine a_aloadn C dX8_leastOf_121 rfl ?_
      refine a_getR C 18 fl_X8_61 rfl rfl dX8_leastOf_122 ?_
      refine a_bipush C dX8_leastOf_125 bp_16 ?_
      refine a_iload C dX8_leastOf_127 rfl ?_
      refine a_imul C dX8_leastOf_129 ?_
      refine a_aloadn C dX8_leastOf_130 rfl ?_
      refine a_getR C 26 fl_X8_85 rfl rfl dX8_leastOf_131 ?_
      refine a_iload C dX8_leastOf_134 rfl ?_
      obtain ⟨hg, hf⟩ := hf
      refine a_iald C (n := 24) rfl hg dX8_leastOf_136 ?_
      refine a_iadd C dX8_leastOf_137 ?_
      obtain ⟨hg, hf⟩ := hf
      refine a_iald C (n := 256) rfl hg dX8_leastOf_138 ?_
      refine a_imul C dX8_leastOf_139 ?_
      refine a_iadd C dX8_leastOf_140 ?_
      exact a_iret C X dX8_leastOf_141 hf
  · have hf := hfb hc
    refine a_iload C dX8_leastOf_104 rfl ?_
    exact a_iret C X dX8_leastOf_106 hf
set_option maxRecDepth 20000 in
set_option maxHeartbeats 4000000 in
theorem cMd_leastOf (x1 x2 : Int) : Snd shM yX8_leastOf cX8_leastOf 8 (some .int) 2 44 [.inr 0, .inl x1, .inl x2] (fMd_leastOf x1 x2) := by
  refine Snd.of RX8 (by decide +kernel) rfl (Nat.le_of_ble_eq_true rfl) ?_
  intro E M R hf C X
  show AW shM 8 E 0 [some (.inr 0), some (.inl x1), some (.inl x2), none, none, none, none, none] [] M
  refine a_aloadn C dX8_leastOf_0 rfl ?_
  refine a_getR C 1 fl_X8_7 rfl rfl dX8_leastOf_1 ?_
  refine a_iconst C dX8_leastOf_4 (inr_b rfl) ?_
  refine a_iloadn C dX8_leastOf_5 rfl ?_
  refine a_iadd C dX8_leastOf_6 ?_
  obtain ⟨hg, hf⟩ := hf
  refine a_iald C (n := 28) rfl hg dX8_leastOf_7 ?_
  refine a_istoren C dX8_leastOf_8 (by decide) (lv2 := [some (.inr 0), some (.inl x1), some (.inl x2), some (.inl (M 1 (wrap (4 + x1)))), none, none, none, none]) rfl ?_
  refine a_aloadn C dX8_leastOf_9 rfl ?_
  refine a_getR C 22 fl_X8_73 rfl rfl dX8_leastOf_10 ?_
  refine a_bipush C dX8_leastOf_13 bp_16 ?_
  refine a_iloadn C dX8_leastOf_15 rfl ?_
  refine a_imul C dX8_leastOf_16 ?_
  refine a_iloadn C dX8_leastOf_17 rfl ?_
  refine a_iadd C dX8_leastOf_18 ?_
  obtain ⟨hg, hf⟩ := hf
  refine a_iald C (n := 384) rfl hg dX8_leastOf_19 ?_
  refine a_istore C dX8_leastOf_20 (by decide) (lv2 := [some (.inr 0), some (.inl x1), some (.inl x2), some (.inl (M 1 (wrap (4 + x1)))), some (.inl (M 22 (wrap ((wrap (16 * x1)) + x2)))), none, none, none]) rfl ?_
  refine a_iloadn C dX8_leastOf_22 rfl ?_
  refine a_aloadn C dX8_leastOf_23 rfl ?_
  refine a_getR C 23 fl_X8_76 rfl rfl dX8_leastOf_24 ?_
  refine a_bipush C dX8_leastOf_27 bp_16 ?_
  refine a_iloadn C dX8_leastOf_29 rfl ?_
  refine a_imul C dX8_leastOf_30 ?_
  refine a_iloadn C dX8_leastOf_31 rfl ?_
  refine a_iadd C dX8_leastOf_32 ?_
  obtain ⟨hg, hf⟩ := hf
  refine a_iald C (n := 384) rfl hg dX8_leastOf_33 ?_
  refine a_imul C dX8_leastOf_34 ?_
  refine a_istore C dX8_leastOf_35 (by decide) (lv2 := [some (.inr 0), some (.inl x1), some (.inl x2), some (.inl (M 1 (wrap (4 + x1)))), some (.inl (M 22 (wrap ((wrap (16 * x1)) + x2)))), some (.inl (wrap ((M 1 (wrap (4 + x1))) * (M 23 (wrap ((wrap (16 * x1)) + x2)))))), none, none]) rfl ?_
  refine a_aloadn C dX8_leastOf_37 rfl ?_
  refine a_getR C 3 fl_X8_16 rfl rfl dX8_leastOf_38 ?_
  refine a_iloadn C dX8_leastOf_41 rfl ?_
  obtain ⟨hg, hf⟩ := hf
  refine a_iald C (n := 24) rfl hg dX8_leastOf_42 ?_
  refine a_callS C [.inl (M 3 x1)] [] dX8_leastOf_43 (cMd_isJump _) ms_X8_isJump ln_X8_146 ⟨rfl, rfl, Nat.le_of_ble_eq_true rfl, Nat.le_of_ble_eq_true rfl, Nat.le_of_ble_eq_true rfl⟩ hf (fun r1 M1 hf => ?_)
  obtain ⟨hfa, hfb⟩ := hf
  refine a_if_eq C 78 dX8_leastOf_46 rfl (fun hc => ?_) (fun hc => ?_)
  · have hf := hfa hc
    refine a_drop [true, true, false, true, true, true, true, true] (lv2 := [some (.inr 0), some (.inl x1), none, some (.inl (M 1 (wrap (4 + x1)))), some (.inl (M 22 (wrap ((wrap (16 * x1)) + x2)))), some (.inl (wrap ((M 1 (wrap (4 + x1))) * (M 23 (wrap ((wrap (16 * x1)) + x2)))))), none, none]) rfl ?_
    exact sMd_leastOf_78 C X  _ _ _ _ _ hf
  · have hf := hfb hc
    refine a_iload C dX8_leastOf_49 rfl ?_
    refine a_iloadn C dX8_leastOf_51 rfl ?_
    refine a_aloadn C dX8_leastOf_52 rfl ?_
    refine a_getR C 18 fl_X8_61 rfl rfl dX8_leastOf_53 ?_
    refine a_bipush C dX8_leastOf_56 bp_16 ?_
    refine a_iload C dX8_leastOf_58 rfl ?_
    refine a_imul C dX8_leastOf_60 ?_
    refine a_aloadn C dX8_leastOf_61 rfl ?_
    refine a_getR C 26 fl_X8_85 rfl rfl dX8_leastOf_62 ?_
    refine a_aloadn C dX8_leastOf_65 rfl ?_
    refine a_getR C 4 fl_X8_19 rfl rfl dX8_leastOf_66 ?_
    refine a_iloadn C dX8_leastOf_69 rfl ?_
    obtain ⟨hg, hf⟩ := hf
    refine a_iald C (n := 24) rfl hg dX8_leastOf_70 ?_
    obtain ⟨hg, hf⟩ := hf
    refine a_iald C (n := 24) rfl hg dX8_leastOf_71 ?_
    refine a_iadd C dX8_leastOf_72 ?_
    obtain ⟨hg, hf⟩ := hf
    refine a_iald C (n := 256) rfl hg dX8_leastOf_73 ?_
    refine a_imul C dX8_leastOf_74 ?_
    refine a_iadd C dX8_leastOf_75 ?_
    refine a_istore C dX8_leastOf_76 (by decide) (lv2 := [some (.inr 0), some (.inl x1), some (.inl x2), some (.inl (M 1 (wrap (4 + x1)))), some (.inl (M 22 (wrap ((wrap (16 * x1)) + x2)))), some (.inl (wrap ((wrap ((M 1 (wrap (4 + x1))) * (M 23 (wrap ((wrap (16 * x1)) + x2))))) + (wrap ((M 1 (wrap (4 + x1))) * (M1 18 (wrap ((wrap (16 * (M 22 (wrap ((wrap (16 * x1)) + x2))))) + (M1 26 (M1 4 x1)))))))))), none, none]) rfl ?_
    refine a_drop [true, true, false, true, true, true, true, true] (lv2 := [some (.inr 0), some (.inl x1), none, some (.inl (M 1 (wrap (4 + x1)))), some (.inl (M 22 (wrap ((wrap (16 * x1)) + x2)))), some (.inl (wrap ((wrap ((M 1 (wrap (4 + x1))) * (M 23 (wrap ((wrap (16 * x1)) + x2))))) + (wrap ((M 1 (wrap (4 + x1))) * (M1 18 (wrap ((wrap (16 * (M 22 (wrap ((wrap (16 * x1)) + x2))))) + (M1 26 (M1 4 x1)))))))))), none, none]) rfl ?_
    exact sMd_leastOf_78 C X  _ _ _ _ _ hf
set_option maxRecDepth 20000 in
set_option maxHeartbeats 4000000 in
theorem sMd_total_148 {E : EE} {R : Int → Mem → Prop} (C : Cx shM 4 cX8_total RX8 3 71 E) (X : Rx shM (some .int) R E) {k80 : Int → Int → Mem → Prop} (hk80 : ∀ (x1 : Int) (x2 : Int) (M : Mem), k80 x1 x2 M → AW shM 4 E 80 [some (.inr 0), some (.inl x1), some (.inl x2), none] [] M) (x2 : Int) (t0 : Int) (M : Mem) (hf : fMd_total_148 k80 R x2 t0 M) : AW shM 4 E 148 [some (.inr 0), none, some (.inl x2), none] [.inl t0] M := by
  refine a_istoren C dX8_total_148 (by decide) (lv2 := [some (.inr 0), some (.inl t0), some (.inl x2), none]) rfl ?_
  refine a_iinc C dX8_total_149 rfl (by decide) (lv2 := [some (.inr 0), some (.inl t0), some (.inl (wrap (x2 + 1))), none]) rfl ?_
  refine a_goto C 80 dX8_total_152 rfl ?_
  exact hk80 _ _ _ hf
set_option maxRecDepth 20000 in
set_option maxHeartbeats 4000000 in
theorem sMd_total_127 {E : EE} {R : Int → Mem → Prop} (C : Cx shM 4 cX8_total RX8 3 71 E) (X : Rx shM (some .int) R E) {k80 : Int → Int → Mem → Prop} (hk80 : ∀ (x1 : Int) (x2 : Int) (M : Mem), k80 x1 x2 M → AW shM 4 E 80 [some (.inr 0), some (.inl x1), some (.inl x2), none] [] M) (x2 : Int) (M : Mem) (hf : fMd_total_127 k80 R x2 M) : AW shM 4 E 127 [some (.inr 0), none, some (.inl x2), none] [] M := by
  refine a_ldc C dX8_total_127 ct_X8_250 (inr_b rfl) ?_
  refine a_goto C 148 dX8_total_129 rfl ?_
  exact sMd_total_148 C X hk80 _ _ _ hf
set_option maxRecDepth 20000 in
set_option maxHeartbeats 4000000 in
theorem sMd_total_80 {E : EE} {R : Int → Mem → Prop} (C : Cx shM 4 cX8_total RX8 3 71 E) (X : Rx shM (some .int) R E) : ∀ (n : Nat) (x1 : Int) (x2 : Int) (M : Mem), fMd_total_80  R n x1 x2 M → AW shM 4 E 80 [some (.inr 0), some (.inl x1), some (.inl x2), none] [] M := by
  intro n
  induction n with
  | zero => intro x1 x2 M hf; exact hf.elim
  | succ n hk80 =>
    intro x1 x2 M hf
    refine a_iloadn C dX8_total_80 rfl ?_
    refine a_aloadn C dX8_total_81 rfl ?_
    refine a_getI C (kz := 37) fl_X8_264 rfl rfl rfl dX8_total_82 ?_
    obtain ⟨hfa, hfb⟩ := hf
    refine a_icmp_ge C 155 dX8_total_85 rfl (fun hc => ?_) (fun hc => ?_)
    · have hf := hfa hc
      refine a_iloadn C dX8_total_155 rfl ?_
      exact a_iret C X dX8_total_156 hf
    · have hf := hfb hc
      refine a_aloadn C dX8_total_88 rfl ?_
      refine a_getR C 24 fl_X8_79 rfl rfl dX8_total_89 ?_
      refine a_bipush C dX8_total_92 bp_16 ?_
      refine a_aloadn C dX8_total_94 rfl ?_
      refine a_getR C 25 fl_X8_82 rfl rfl dX8_total_95 ?_
      refine a_iloadn C dX8_total_98 rfl ?_
      obtain ⟨hg, hf⟩ := hf
      refine a_iald C (n := 2) rfl hg dX8_total_99 ?_
      refine a_imul C dX8_total_100 ?_
      refine a_aloadn C dX8_total_101 rfl ?_
      refine a_getR C 26 fl_X8_85 rfl rfl dX8_total_102 ?_
      refine a_aloadn C dX8_total_105 rfl ?_
      refine a_getR C 25 fl_X8_82 rfl rfl dX8_total_106 ?_
      refine a_iloadn C dX8_total_109 rfl ?_
      obtain ⟨hg, hf⟩ := hf
      refine a_iald C (n := 2) rfl hg dX8_total_110 ?_
      obtain ⟨hg, hf⟩ := hf
      refine a_iald C (n := 24) rfl hg dX8_total_111 ?_
      refine a_iadd C dX8_total_112 ?_
      obtain ⟨hg, hf⟩ := hf
      refine a_iald C (n := 384) rfl hg dX8_total_113 ?_
      refine a_istoren C dX8_total_114 (by decide) (lv2 := [some (.inr 0), some (.inl x1), some (.inl x2), some (.inl (M 24 (wrap ((wrap (16 * (M 25 x2))) + (M 26 (M 25 x2))))))]) rfl ?_
      refine a_iloadn C dX8_total_115 rfl ?_
      refine a_ldc C dX8_total_116 ct_X8_250 (inr_b rfl) ?_
      obtain ⟨hfa, hfb⟩ := hf
      refine a_icmp_eq C 127 dX8_total_118 rfl (fun hc => ?_) (fun hc => ?_)
      · have hf := hfa hc
        refine a_drop [true, false, true, false] (lv2 := [some (.inr 0), none, some (.inl x2), none]) rfl ?_
        exact sMd_total_127 C X hk80 _ _ hf
      · have hf := hfb hc
        refine a_iloadn C dX8_total_121 rfl ?_
        refine a_ldc C dX8_total_122 ct_X8_250 (inr_b rfl) ?_
        obtain ⟨hfa, hfb⟩ := hf
        refine a_icmp_ne C 132 dX8_total_124 rfl (fun hc => ?_) (fun hc => ?_)
        · have hf := hfa hc
          refine a_aloadn C dX8_total_132 rfl ?_
          refine a_getR C 25 fl_X8_82 rfl rfl dX8_total_133 ?_
          refine a_iloadn C dX8_total_136 rfl ?_
          obtain ⟨hg, hf⟩ := hf
          refine a_iald C (n := 2) rfl hg dX8_total_137 ?_
          obtain ⟨hfa, hfb⟩ := hf
          refine a_if_ne C 145 dX8_total_138 rfl (fun hc => ?_) (fun hc => ?_)
          · have hf := hfa hc
            refine a_iloadn C dX8_total_145 rfl ?_
            refine a_iloadn C dX8_total_146 rfl ?_
            refine a_iadd C dX8_total_147 ?_
            refine a_drop [true, false, true, false] (lv2 := [some (.inr 0), none, some (.inl x2), none]) rfl ?_
            exact sMd_total_148 C X hk80 _ _ _ hf
          · have hf := hfb hc
            refine a_iloadn C dX8_total_141 rfl ?_
            refine a_goto C 148 dX8_total_142 rfl ?_
            refine a_drop [true, false, true, false] (lv2 := [some (.inr 0), none, some (.inl x2), none]) rfl ?_
            exact sMd_total_148 C X hk80 _ _ _ hf
        · have hf := hfb hc
          refine a_drop [true, false, true, false] (lv2 := [some (.inr 0), none, some (.inl x2), none]) rfl ?_
          exact sMd_total_127 C X hk80 _ _ hf
set_option maxRecDepth 20000 in
set_option maxHeartbeats 4000000 in
theorem sMd_total_58 {E : EE} {R : Int → Mem → Prop} (C : Cx shM 4 cX8_total RX8 3 71 E) (X : Rx shM (some .int) R E) {k13 : Int → Int → Mem → Prop} (hk13 : ∀ (x1 : Int) (x2 : Int) (M : Mem), k13 x1 x2 M → AW shM 4 E 13 [some (.inr 0), some (.inl x1), some (.inl x2), none] [] M) (x1 : Int) (x2 : Int) (t0 : Int) (t1 : Int) (M : Mem) (hf : fMd_total_58 k13 R x1 x2 t0 t1 M) : AW shM 4 E 58 [some (.inr 0), some (.inl x1), some (.inl x2), none] [.inl t0, .inl t1, .inr 24] M := by
  obtain ⟨hg, hf⟩ := hf
  refine a_iast C (n := 384) rfl hg dX8_total_58 ?_
  refine a_iinc C dX8_total_59 rfl (by decide) (lv2 := [some (.inr 0), some (.inl x1), some (.inl (wrap (x2 + 1))), none]) rfl ?_
  refine a_goto C 13 dX8_total_62 rfl ?_
  exact hk13 _ _ _ hf
set_option maxRecDepth 20000 in
set_option maxHeartbeats 4000000 in
theorem sMd_total_13 {E : EE} {R : Int → Mem → Prop} (C : Cx shM 4 cX8_total RX8 3 71 E) (X : Rx shM (some .int) R E) {k7 : Int → Mem → Prop} (hk7 : ∀ (x1 : Int) (M : Mem), k7 x1 M → AW shM 4 E 7 [some (.inr 0), some (.inl x1), none, none] [] M) : ∀ (n : Nat) (x1 : Int) (x2 : Int) (M : Mem), fMd_total_13 k7 R n x1 x2 M → AW shM 4 E 13 [some (.inr 0), some (.inl x1), some (.inl x2), none] [] M := by
  intro n
  induction n with
  | zero => intro x1 x2 M hf; exact hf.elim
  | succ n hk13 =>
    intro x1 x2 M hf
    refine a_iloadn C dX8_total_13 rfl ?_
    refine a_aloadn C dX8_total_14 rfl ?_
    refine a_getI C (kz := 20) fl_X8_200 rfl rfl rfl dX8_total_15 ?_
    obtain ⟨hfa, hfb⟩ := hf
    refine a_icmp_ge C 65 dX8_total_18 rfl (fun hc => ?_) (fun hc => ?_)
    · have hf := hfa hc
      refine a_iinc C dX8_total_65 rfl (by decide) (lv2 := [some (.inr 0), some (.inl (wrap (x1 + (-1)))), some (.inl x2), none]) rfl ?_
      refine a_goto C 7 dX8_total_68 rfl ?_
      refine a_drop [true, true, false, true] (lv2 := [some (.inr 0), some (.inl (wrap (x1 + (-1)))), none, none]) rfl ?_
      exact hk7 _ _ hf
    · have hf := hfb hc
      refine a_aloadn C dX8_total_21 rfl ?_
      refine a_getR C 24 fl_X8_79 rfl rfl dX8_total_22 ?_
      refine a_bipush C dX8_total_25 bp_16 ?_
      refine a_iloadn C dX8_total_27 rfl ?_
      refine a_imul C dX8_total_28 ?_
      refine a_iloadn C dX8_total_29 rfl ?_
      refine a_iadd C dX8_total_30 ?_
      refine a_aloadn C dX8_total_31 rfl ?_
      refine a_getR C 22 fl_X8_73 rfl rfl dX8_total_32 ?_
      refine a_bipush C dX8_total_35 bp_16 ?_
      refine a_iloadn C dX8_total_37 rfl ?_
      refine a_imul C dX8_total_38 ?_
      refine a_iloadn C dX8_total_39 rfl ?_
      refine a_iadd C dX8_total_40 ?_
      obtain ⟨hg, hf⟩ := hf
      refine a_iald C (n := 384) rfl hg dX8_total_41 ?_
      refine a_bipush C dX8_total_42 bp_m4 ?_
      obtain ⟨hfa, hfb⟩ := hf
      refine a_icmp_ne C 52 dX8_total_44 rfl (fun hc => ?_) (fun hc => ?_)
      · have hf := hfa hc
        refine a_aloadn C dX8_total_52 rfl ?_
        refine a_iloadn C dX8_total_53 rfl ?_
        refine a_iloadn C dX8_total_54 rfl ?_
        refine a_callV C [.inl x1, .inl x2] [.inl (wrap ((wrap (16 * x1)) + x2)), .inr 24] dX8_total_55 (cMd_leastOf _ _) mv_X8_leastOf ln_X8_276 rfl rfl ⟨rfl, rfl, Nat.le_of_ble_eq_true rfl, Nat.le_of_ble_eq_true rfl, Nat.le_of_ble_eq_true rfl⟩ hf (fun r2 M2 hf => ?_)
        exact sMd_total_58 C X hk13 _ _ _ _ _ hf
      · have hf := hfb hc
        refine a_ldc C dX8_total_47 ct_X8_250 (inr_b rfl) ?_
        refine a_goto C 58 dX8_total_49 rfl ?_
        exact sMd_total_58 C X hk13 _ _ _ _ _ hf
set_option maxRecDepth 20000 in
set_option maxHeartbeats 4000000 in
theorem sMd_total_7 {E : EE} {R : Int → Mem → Prop} (C : Cx shM 4 cX8_total RX8 3 71 E) (X : Rx shM (some .int) R E) : ∀ (n : Nat) (x1 : Int) (M : Mem), fMd_total_7  R n x1 M → AW shM 4 E 7 [some (.inr 0), some (.inl x1), none, none] [] M := by
  intro n
  induction n with
  | zero => intro x1 M hf; exact hf.elim
  | succ n hk7 =>
    intro x1 M hf
    refine a_iloadn C dX8_total_7 rfl ?_
    obtain ⟨hfa, hfb⟩ := hf
    refine a_if_lt C 71 dX8_total_8 rfl (fun hc => ?_) (fun hc => ?_)
    · have hf := hfa hc
      refine a_aloadn C dX8_total_71 rfl ?_
      refine a_getR C 24 fl_X8_79 rfl rfl dX8_total_72 ?_
      refine a_iconst C dX8_total_75 (inr_b rfl) ?_
      refine a_iald C (n := 384) rfl (inb_b rfl) dX8_total_76 ?_
      refine a_istoren C dX8_total_77 (by decide) (lv2 := [some (.inr 0), some (.inl (M 24 0)), none, none]) rfl ?_
      refine a_iconst C dX8_total_78 (inr_b rfl) ?_
      refine a_istoren C dX8_total_79 (by decide) (lv2 := [some (.inr 0), some (.inl (M 24 0)), some (.inl 0), none]) rfl ?_
      obtain ⟨n1, hf⟩ := hf
      exact sMd_total_80 C X  n1 _ _ _ hf
    · have hf := hfb hc
      refine a_iconst C dX8_total_11 (inr_b rfl) ?_
      refine a_istoren C dX8_total_12 (by decide) (lv2 := [some (.inr 0), some (.inl x1), some (.inl 0), none]) rfl ?_
      obtain ⟨n3, hf⟩ := hf
      exact sMd_total_13 C X hk7 n3 _ _ _ hf
set_option maxRecDepth 20000 in
set_option maxHeartbeats 4000000 in
theorem cMd_total : Snd shM yX8_total cX8_total 4 (some .int) 3 71 [.inr 0] fMd_total := by
  refine Snd.of RX8 (by decide +kernel) rfl (Nat.le_of_ble_eq_true rfl) ?_
  intro E M R hf C X
  show AW shM 4 E 0 [some (.inr 0), none, none, none] [] M
  refine a_aloadn C dX8_total_0 rfl ?_
  refine a_getI C (kz := 3) fl_X8_172 rfl rfl rfl dX8_total_1 ?_
  refine a_iconst C dX8_total_4 (inr_b rfl) ?_
  refine a_isub C dX8_total_5 ?_
  refine a_istoren C dX8_total_6 (by decide) (lv2 := [some (.inr 0), some (.inl (wrap ((M 0 3) - 1))), none, none]) rfl ?_
  obtain ⟨n4, hf⟩ := hf
  exact sMd_total_7 C X  n4 _ _ hf
set_option maxRecDepth 20000 in
set_option maxHeartbeats 4000000 in
theorem sMd_search_251 {E : EE} {R : Int → Mem → Prop} (C : Cx shM 8 cX8_search RX8 5 118 E) (X : Rx shM (some .int) R E) (x1 : Int) (x3 : Int) (M : Mem) (hf : fMd_search_251  R x1 x3 M) : AW shM 8 E 251 [some (.inr 0), some (.inl x1), none, some (.inl x3), none, none, none, none] [] M := by
  refine a_aloadn C dX8_search_251 rfl ?_
  refine a_getI C (kz := 37) fl_X8_264 rfl rfl rfl dX8_search_252 ?_
  refine a_iconst C dX8_search_255 (inr_b rfl) ?_
  obtain ⟨hfa, hfb⟩ := hf
  refine a_icmp_le C 271 dX8_search_256 rfl (fun hc => ?_) (fun hc => ?_)
  · have hf := hfa hc
    refine a_iloadn C dX8_search_271 rfl ?_
    exact a_iret C X dX8_search_272 hf
  · have hf := hfb hc
    refine a_aloadn C dX8_search_259 rfl ?_
    refine a_getR C 26 fl_X8_85 rfl rfl dX8_search_260 ?_
    refine a_aloadn C dX8_search_263 rfl ?_
    refine a_getR C 25 fl_X8_82 rfl rfl dX8_search_264 ?_
    refine a_iconst C dX8_search_267 (inr_b rfl) ?_
    refine a_iald C (n := 2) rfl (inb_b rfl) dX8_search_268 ?_
    refine a_iloadn C dX8_search_269 rfl ?_
    obtain ⟨hg, hf⟩ := hf
    refine a_iast C (n := 24) rfl hg dX8_search_270 ?_
    refine a_iloadn C dX8_search_271 rfl ?_
    exact a_iret C X dX8_search_272 hf
set_option maxRecDepth 20000 in
set_option maxHeartbeats 4000000 in
theorem sMd_search_220 {E : EE} {R : Int → Mem → Prop} (C : Cx shM 8 cX8_search RX8 5 118 E) (X : Rx shM (some .int) R E) {k37 : Int → Int → Int → Int → Int → Mem → Prop} (hk37 : ∀ (x1 : Int) (x2 : Int) (x3 : Int) (x4 : Int) (x5 : Int) (M : Mem), k37 x1 x2 x3 x4 x5 M → AW shM 8 E 37 [some (.inr 0), some (.inl x1), some (.inl x2), some (.inl x3), some (.inl x4), some (.inl x5), none, none] [] M) (x1 : Int) (x2 : Int) (x3 : Int) (x4 : Int) (x5 : Int) (M : Mem) (hf : fMd_search_220 k37 R x1 x2 x3 x4 x5 M) : AW shM 8 E 220 [some (.inr 0), some (.inl x1), some (.inl x2), some (.inl x3), some (.inl x4), some (.inl x5), none, none] [] M := by
  refine a_iinc C dX8_search_220 rfl (by decide) (lv2 := [some (.inr 0), some (.inl x1), some (.inl x2), some (.inl x3), some (.inl x4), some (.inl (wrap (x5 + 1))), none, none]) rfl ?_
  refine a_goto C 37 dX8_search_223 rfl ?_
  exact hk37 _ _ _ _ _ _ hf
set_option maxRecDepth 20000 in
set_option maxHeartbeats 4000000 in
theorem sMd_search_219 {E : EE} {R : Int → Mem → Prop} (C : Cx shM 8 cX8_search RX8 5 118 E) (X : Rx shM (some .int) R E) {k37 : Int → Int → Int → Int → Int → Mem → Prop} (hk37 : ∀ (x1 : Int) (x2 : Int) (x3 : Int) (x4 : Int) (x5 : Int) (M : Mem), k37 x1 x2 x3 x4 x5 M → AW shM 8 E 37 [some (.inr 0), some (.inl x1), some (.inl x2), some (.inl x3), some (.inl x4), some (.inl x5), none, none] [] M) (x2 : Int) (x3 : Int) (x4 : Int) (x5 : Int) (t0 : Int) (M : Mem) (hf : fMd_search_219 k37 R x2 x3 x4 x5 t0 M) : AW shM 8 E 219 [some (.inr 0), none, some (.inl x2), some (.inl x3), some (.inl x4), some (.inl x5), none, none] [.inl t0] M := by
  refine a_istoren C dX8_search_219 (by decide) (lv2 := [some (.inr 0), some (.inl t0), some (.inl x2), some (.inl x3), some (.inl x4), some (.inl x5), none, none]) rfl ?_
  exact sMd_search_220 C X hk37 _ _ _ _ _ _ hf
set_option maxRecDepth 20000 in
set_option maxHeartbeats 4000000 in
theorem sMd_search_206 {E : EE} {R : Int → Mem → Prop} (C : Cx shM 8 cX8_search RX8 5 118 E) (X : Rx shM (some .int) R E) {k37 : Int → Int → Int → Int → Int → Mem → Prop} (hk37 : ∀ (x1 : Int) (x2 : Int) (x3 : Int) (x4 : Int) (x5 : Int) (M : Mem), k37 x1 x2 x3 x4 x5 M → AW shM 8 E 37 [some (.inr 0), some (.inl x1), some (.inl x2), some (.inl x3), some (.inl x4), some (.inl x5), none, none] [] M) (x1 : Int) (x2 : Int) (x4 : Int) (x5 : Int) (x7 : Int) (t0 : Int) (M : Mem) (hf : fMd_search_206 k37 R x1 x2 x4 x5 x7 t0 M) : AW shM 8 E 206 [some (.inr 0), some (.inl x1), some (.inl x2), none, some (.inl x4), some (.inl x5), none, some (.inl x7)] [.inl t0] M := by
  refine a_istoren C dX8_search_206 (by decide) (lv2 := [some (.inr 0), some (.inl x1), some (.inl x2), some (.inl t0), some (.inl x4), some (.inl x5), none, some (.inl x7)]) rfl ?_
  refine a_iload C dX8_search_207 rfl ?_
  refine a_iloadn C dX8_search_209 rfl ?_
  obtain ⟨hfa, hfb⟩ := hf
  refine a_icmp_ge C 218 dX8_search_210 rfl (fun hc => ?_) (fun hc => ?_)
  · have hf := hfa hc
    refine a_iloadn C dX8_search_218 rfl ?_
    refine a_drop [true, false, true, true, true, true, true, false] (lv2 := [some (.inr 0), none, some (.inl x2), some (.inl t0), some (.inl x4), some (.inl x5), none, none]) rfl ?_
    exact sMd_search_219 C X hk37 _ _ _ _ _ _ hf
  · have hf := hfb hc
    refine a_iload C dX8_search_213 rfl ?_
    refine a_goto C 219 dX8_search_215 rfl ?_
    refine a_drop [true, false, true, true, true, true, true, false] (lv2 := [some (.inr 0), none, some (.inl x2), some (.inl t0), some (.inl x4), some (.inl x5), none, none]) rfl ?_
    exact sMd_search_219 C X hk37 _ _ _ _ _ _ hf
set_option maxRecDepth 20000 in
set_option maxHeartbeats 4000000 in
theorem sMd_search_193 {E : EE} {R : Int → Mem → Prop} (C : Cx shM 8 cX8_search RX8 5 118 E) (X : Rx shM (some .int) R E) {k37 : Int → Int → Int → Int → Int → Mem → Prop} (hk37 : ∀ (x1 : Int) (x2 : Int) (x3 : Int) (x4 : Int) (x5 : Int) (M : Mem), k37 x1 x2 x3 x4 x5 M → AW shM 8 E 37 [some (.inr 0), some (.inl x1), some (.inl x2), some (.inl x3), some (.inl x4), some (.inl x5), none, none] [] M) (x1 : Int) (x3 : Int) (x4 : Int) (x5 : Int) (x7 : Int) (t0 : Int) (M : Mem) (hf : fMd_search_193 k37 R x1 x3 x4 x5 x7 t0 M) : AW shM 8 E 193 [some (.inr 0), some (.inl x1), none, some (.inl x3), some (.inl x4), some (.inl x5), none, some (.inl x7)] [.inl t0] M := by
  refine a_istoren C dX8_search_193 (by decide) (lv2 := [some (.inr 0), some (.inl x1), some (.inl t0), some (.inl x3), some (.inl x4), some (.inl x5), none, some (.inl x7)]) rfl ?_
  refine a_iload C dX8_search_194 rfl ?_
  refine a_iloadn C dX8_search_196 rfl ?_
  obtain ⟨hfa, hfb⟩ := hf
  refine a_icmp_ge C 205 dX8_search_197 rfl (fun hc => ?_) (fun hc => ?_)
  · have hf := hfa hc
    refine a_iloadn C dX8_search_205 rfl ?_
    refine a_drop [true, true, true, false, true, true, true, true] (lv2 := [some (.inr 0), some (.inl x1), some (.inl t0), none, some (.inl x4), some (.inl x5), none, some (.inl x7)]) rfl ?_
    exact sMd_search_206 C X hk37 _ _ _ _ _ _ _ hf
  · have hf := hfb hc
    refine a_iload C dX8_search_200 rfl ?_
    refine a_goto C 206 dX8_search_202 rfl ?_
    refine a_drop [true, true, true, false, true, true, true, true] (lv2 := [some (.inr 0), some (.inl x1), some (.inl t0), none, some (.inl x4), some (.inl x5), none, some (.inl x7)]) rfl ?_
    exact sMd_search_206 C X hk37 _ _ _ _ _ _ _ hf
set_option maxRecDepth 20000 in
set_option maxHeartbeats 4000000 in
theorem sMd_search_175 {E : EE} {R : Int → Mem → Prop} (C : Cx shM 8 cX8_search RX8 5 118 E) (X : Rx shM (some .int) R E) {k37 : Int → Int → Int → Int → Int → Mem → Prop} (hk37 : ∀ (x1 : Int) (x2 : Int) (x3 : Int) (x4 : Int) (x5 : Int) (M : Mem), k37 x1 x2 x3 x4 x5 M → AW shM 8 E 37 [some (.inr 0), some (.inl x1), some (.inl x2), some (.inl x3), some (.inl x4), some (.inl x5), none, none] [] M) (x1 : Int) (x2 : Int) (x3 : Int) (x4 : Int) (x5 : Int) (M : Mem) (hf : fMd_search_175 k37 R x1 x2 x3 x4 x5 M) : AW shM 8 E 175 [some (.inr 0), some (.inl x1), some (.inl x2), some (.inl x3), some (.inl x4), some (.inl x5), none, none] [] M := by
  have hf : fMd_total M (fun r2 M2 => ((x1 ≤ r2 → fMd_search_193 k37 R x1 x3 x4 x5 r2 x2 M2) ∧ (¬ x1 ≤ r2 → fMd_search_193 k37 R x1 x3 x4 x5 r2 x4 M2))) := hf
  refine a_aloadn C dX8_search_175 rfl ?_
  refine a_callV C [] [] dX8_search_176 (cMd_total) mv_X8_total ln_X8_282 rfl rfl ⟨rfl, rfl, Nat.le_of_ble_eq_true rfl, Nat.le_of_ble_eq_true rfl, Nat.le_of_ble_eq_true rfl⟩ hf (fun r2 M2 hf => ?_)
  refine a_istore C dX8_search_179 (by decide) (lv2 := [some (.inr 0), some (.inl x1), some (.inl x2), some (.inl x3), some (.inl x4), some (.inl x5), none, some (.inl r2)]) rfl ?_
  refine a_iload C dX8_search_181 rfl ?_
  refine a_iloadn C dX8_search_183 rfl ?_
  obtain ⟨hfa, hfb⟩ := hf
  refine a_icmp_ge C 192 dX8_search_184 rfl (fun hc => ?_) (fun hc => ?_)
  · have hf := hfa hc
    refine a_iloadn C dX8_search_192 rfl ?_
    refine a_drop [true, true, false, true, true, true, true, true] (lv2 := [some (.inr 0), some (.inl x1), none, some (.inl x3), some (.inl x4), some (.inl x5), none, some (.inl r2)]) rfl ?_
    exact sMd_search_193 C X hk37 _ _ _ _ _ _ _ hf
  · have hf := hfb hc
    refine a_iload C dX8_search_187 rfl ?_
    refine a_goto C 193 dX8_search_189 rfl ?_
    refine a_drop [true, true, false, true, true, true, true, true] (lv2 := [some (.inr 0), some (.inl x1), none, some (.inl x3), some (.inl x4), some (.inl x5), none, some (.inl r2)]) rfl ?_
    exact sMd_search_193 C X hk37 _ _ _ _ _ _ _ hf
set_option maxRecDepth 20000 in
set_option maxHeartbeats 4000000 in
theorem sMd_search_153 {E : EE} {R : Int → Mem → Prop} (C : Cx shM 8 cX8_search RX8 5 118 E) (X : Rx shM (some .int) R E) {k37 : Int → Int → Int → Int → Int → Mem → Prop} (hk37 : ∀ (x1 : Int) (x2 : Int) (x3 : Int) (x4 : Int) (x5 : Int) (M : Mem), k37 x1 x2 x3 x4 x5 M → AW shM 8 E 37 [some (.inr 0), some (.inl x1), some (.inl x2), some (.inl x3), some (.inl x4), some (.inl x5), none, none] [] M) (x1 : Int) (x2 : Int) (x3 : Int) (x4 : Int) (x5 : Int) (t0 : Int) (t1 : Int) (M : Mem) (hf : fMd_search_153 k37 R x1 x2 x3 x4 x5 t0 t1 M) : AW shM 8 E 153 [some (.inr 0), some (.inl x1), some (.inl x2), some (.inl x3), some (.inl x4), some (.inl x5), none, none] [.inl t0, .inl t1, .inr 26] M := by
  obtain ⟨hg, hf⟩ := hf
  refine a_iast C (n := 24) rfl hg dX8_search_153 ?_
  refine a_aloadn C dX8_search_154 rfl ?_
  refine a_getI C (kz := 37) fl_X8_264 rfl rfl rfl dX8_search_155 ?_
  refine a_iconst C dX8_search_158 (inr_b rfl) ?_
  obtain ⟨hfa, hfb⟩ := hf
  refine a_icmp_le C 175 dX8_search_159 rfl (fun hc => ?_) (fun hc => ?_)
  · have hf := hfa hc
    exact sMd_search_175 C X hk37 _ _ _ _ _ _ hf
  · have hf := hfb hc
    refine a_aloadn C dX8_search_162 rfl ?_
    refine a_getR C 26 fl_X8_85 rfl rfl dX8_search_163 ?_
    refine a_aloadn C dX8_search_166 rfl ?_
    refine a_getR C 25 fl_X8_82 rfl rfl dX8_search_167 ?_
    refine a_iconst C dX8_search_170 (inr_b rfl) ?_
    refine a_iald C (n := 2) rfl (inb_b rfl) dX8_search_171 ?_
    refine a_iload C dX8_search_172 rfl ?_
    obtain ⟨hg, hf⟩ := hf
    refine a_iast C (n := 24) rfl hg dX8_search_174 ?_
    exact sMd_search_175 C X hk37 _ _ _ _ _ _ hf
set_option maxRecDepth 20000 in
set_option maxHeartbeats 4000000 in
theorem sMd_search_123 {E : EE} {R : Int → Mem → Prop} (C : Cx shM 8 cX8_search RX8 5 118 E) (X : Rx shM (some .int) R E) {k37 : Int → Int → Int → Int → Int → Mem → Prop} (hk37 : ∀ (x1 : Int) (x2 : Int) (x3 : Int) (x4 : Int) (x5 : Int) (M : Mem), k37 x1 x2 x3 x4 x5 M → AW shM 8 E 37 [some (.inr 0), some (.inl x1), some (.inl x2), some (.inl x3), some (.inl x4), some (.inl x5), none, none] [] M) (x1 : Int) (x2 : Int) (x3 : Int) (x4 : Int) (x5 : Int) (t0 : Int) (M : Mem) (hf : fMd_search_123 k37 R x1 x2 x3 x4 x5 t0 M) : AW shM 8 E 123 [some (.inr 0), some (.inl x1), some (.inl x2), some (.inl x3), some (.inl x4), some (.inl x5), none, none] [.inl t0] M := by
  refine a_istore C dX8_search_123 (by decide) (lv2 := [some (.inr 0), some (.inl x1), some (.inl x2), some (.inl x3), some (.inl x4), some (.inl x5), some (.inl t0), none]) rfl ?_
  refine a_iload C dX8_search_125 rfl ?_
  obtain ⟨hfa, hfb⟩ := hf
  refine a_if_eq C 220 dX8_search_127 rfl (fun hc => ?_) (fun hc => ?_)
  · have hf := hfa hc
    refine a_drop [true, true, true, true, true, true, false, true] (lv2 := [some (.inr 0), some (.inl x1), some (.inl x2), some (.inl x3), some (.inl x4), some (.inl x5), none, none]) rfl ?_
    exact sMd_search_220 C X hk37 _ _ _ _ _ _ hf
  · have hf := hfb hc
    refine a_aloadn C dX8_search_130 rfl ?_
    refine a_getR C 26 fl_X8_85 rfl rfl dX8_search_131 ?_
    refine a_aloadn C dX8_search_134 rfl ?_
    refine a_getR C 25 fl_X8_82 rfl rfl dX8_search_135 ?_
    refine a_iconst C dX8_search_138 (inr_b rfl) ?_
    refine a_iald C (n := 2) rfl (inb_b rfl) dX8_search_139 ?_
    refine a_aloadn C dX8_search_140 rfl ?_
    refine a_getI C (kz := 37) fl_X8_264 rfl rfl rfl dX8_search_141 ?_
    obtain ⟨hfa, hfb⟩ := hf
    refine a_if_le C 152 dX8_search_144 rfl (fun hc => ?_) (fun hc => ?_)
    · have hf := hfa hc
      refine a_iconst C dX8_search_152 (inr_b rfl) ?_
      refine a_drop [true, true, true, true, true, true, false, true] (lv2 := [some (.inr 0), some (.inl x1), some (.inl x2), some (.inl x3), some (.inl x4), some (.inl x5), none, none]) rfl ?_
      exact sMd_search_153 C X hk37 _ _ _ _ _ _ _ _ hf
    · have hf := hfb hc
      refine a_iload C dX8_search_147 rfl ?_
      refine a_goto C 153 dX8_search_149 rfl ?_
      refine a_drop [true, true, true, true, true, true, false, true] (lv2 := [some (.inr 0), some (.inl x1), some (.inl x2), some (.inl x3), some (.inl x4), some (.inl x5), none, none]) rfl ?_
      exact sMd_search_153 C X hk37 _ _ _ _ _ _ _ _ hf
set_option maxRecDepth 20000 in
set_option maxHeartbeats 4000000 in
theorem sMd_search_118 {E : EE} {R : Int → Mem → Prop} (C : Cx shM 8 cX8_search RX8 5 118 E) (X : Rx shM (some .int) R E) {k37 : Int → Int → Int → Int → Int → Mem → Prop} (hk37 : ∀ (x1 : Int) (x2 : Int) (x3 : Int) (x4 : Int) (x5 : Int) (M : Mem), k37 x1 x2 x3 x4 x5 M → AW shM 8 E 37 [some (.inr 0), some (.inl x1), some (.inl x2), some (.inl x3), some (.inl x4), some (.inl x5), none, none] [] M) (x1 : Int) (x2 : Int) (x3 : Int) (x4 : Int) (x5 : Int) (M : Mem) (hf : fMd_search_118 k37 R x1 x2 x3 x4 x5 M) : AW shM 8 E 118 [some (.inr 0), some (.inl x1), some (.inl x2), some (.inl x3), some (.inl x4), some (.inl x5), none, none] [] M := by
  refine a_iconst C dX8_search_118 (inr_b rfl) ?_
  refine a_goto C 123 dX8_search_119 rfl ?_
  exact sMd_search_123 C X hk37 _ _ _ _ _ _ _ hf
set_option maxRecDepth 20000 in
set_option maxHeartbeats 4000000 in
theorem sMd_search_122 {E : EE} {R : Int → Mem → Prop} (C : Cx shM 8 cX8_search RX8 5 118 E) (X : Rx shM (some .int) R E) {k37 : Int → Int → Int → Int → Int → Mem → Prop} (hk37 : ∀ (x1 : Int) (x2 : Int) (x3 : Int) (x4 : Int) (x5 : Int) (M : Mem), k37 x1 x2 x3 x4 x5 M → AW shM 8 E 37 [some (.inr 0), some (.inl x1), some (.inl x2), some (.inl x3), some (.inl x4), some (.inl x5), none, none] [] M) (x1 : Int) (x2 : Int) (x3 : Int) (x4 : Int) (x5 : Int) (M : Mem) (hf : fMd_search_122 k37 R x1 x2 x3 x4 x5 M) : AW shM 8 E 122 [some (.inr 0), some (.inl x1), some (.inl x2), some (.inl x3), some (.inl x4), some (.inl x5), none, none] [] M := by
  refine a_iconst C dX8_search_122 (inr_b rfl) ?_
  exact sMd_search_123 C X hk37 _ _ _ _ _ _ _ hf
set_option maxRecDepth 20000 in
set_option maxHeartbeats 4000000 in
theorem sMd_search_88 {E : EE} {R : Int → Mem → Prop} (C : Cx shM 8 cX8_search RX8 5 118 E) (X : Rx shM (some .int) R E) {k37 : Int → Int → Int → Int → Int → Mem → Prop} (hk37 : ∀ (x1 : Int) (x2 : Int) (x3 : Int) (x4 : Int) (x5 : Int) (M : Mem), k37 x1 x2 x3 x4 x5 M → AW shM 8 E 37 [some (.inr 0), some (.inl x1), some (.inl x2), some (.inl x3), some (.inl x4), some (.inl x5), none, none] [] M) (x1 : Int) (x2 : Int) (x3 : Int) (x4 : Int) (x5 : Int) (M : Mem) (hf : fMd_search_88 k37 R x1 x2 x3 x4 x5 M) : AW shM 8 E 88 [some (.inr 0), some (.inl x1), some (.inl x2), some (.inl x3), some (.inl x4), some (.inl x5), none, none] [] M := by
  refine a_aloadn C dX8_search_88 rfl ?_
  refine a_getI C (kz := 37) fl_X8_264 rfl rfl rfl dX8_search_89 ?_
  refine a_iconst C dX8_search_92 (inr_b rfl) ?_
  obtain ⟨hfa, hfb⟩ := hf
  refine a_icmp_lt C 118 dX8_search_93 rfl (fun hc => ?_) (fun hc => ?_)
  · have hf := hfa hc
    exact sMd_search_118 C X hk37 _ _ _ _ _ _ hf
  · have hf := hfb hc
    refine a_aloadn C dX8_search_96 rfl ?_
    refine a_getR C 22 fl_X8_73 rfl rfl dX8_search_97 ?_
    refine a_bipush C dX8_search_100 bp_16 ?_
    refine a_aloadn C dX8_search_102 rfl ?_
    refine a_getR C 25 fl_X8_82 rfl rfl dX8_search_103 ?_
    refine a_iconst C dX8_search_106 (inr_b rfl) ?_
    refine a_iald C (n := 2) rfl (inb_b rfl) dX8_search_107 ?_
    refine a_imul C dX8_search_108 ?_
    refine a_iload C dX8_search_109 rfl ?_
    refine a_iadd C dX8_search_111 ?_
    obtain ⟨hg, hf⟩ := hf
    refine a_iald C (n := 384) rfl hg dX8_search_112 ?_
    refine a_bipush C dX8_search_113 bp_m4 ?_
    obtain ⟨hfa, hfb⟩ := hf
    refine a_icmp_eq C 122 dX8_search_115 rfl (fun hc => ?_) (fun hc => ?_)
    · have hf := hfa hc
      exact sMd_search_122 C X hk37 _ _ _ _ _ _ hf
    · have hf := hfb hc
      exact sMd_search_118 C X hk37 _ _ _ _ _ _ hf
set_option maxRecDepth 20000 in
set_option maxHeartbeats 4000000 in
theorem sMd_search_55 {E : EE} {R : Int → Mem → Prop} (C : Cx shM 8 cX8_search RX8 5 118 E) (X : Rx shM (some .int) R E) {k14 : Int → Int → Int → Int → Mem → Prop} (hk14 : ∀ (x1 : Int) (x2 : Int) (x3 : Int) (x4 : Int) (M : Mem), k14 x1 x2 x3 x4 M → AW shM 8 E 14 [some (.inr 0), some (.inl x1), some (.inl x2), some (.inl x3), some (.inl x4), none, none, none] [] M) {k37 : Int → Int → Int → Int → Int → Mem → Prop} (hk37 : ∀ (x1 : Int) (x2 : Int) (x3 : Int) (x4 : Int) (x5 : Int) (M : Mem), k37 x1 x2 x3 x4 x5 M → AW shM 8 E 37 [some (.inr 0), some (.inl x1), some (.inl x2), some (.inl x3), some (.inl x4), some (.inl x5), none, none] [] M) (x1 : Int) (x2 : Int) (x3 : Int) (x4 : Int) (x5 : Int) (t0 : Int) (t1 : Int) (M : Mem) (hf : fMd_search_55 k14 k37 R x1 x2 x3 x4 x5 t0 t1 M) : AW shM 8 E 55 [some (.inr 0), some (.inl x1), some (.inl x2), some (.inl x3), some (.inl x4), some (.inl x5), none, none] [.inl t0, .inl t1] M := by
  obtain ⟨hfa, hfb⟩ := hf
  refine a_icmp_ge C 226 dX8_search_55 rfl (fun hc => ?_) (fun hc => ?_)
  · have hf := hfa hc
    refine a_iinc C dX8_search_226 rfl (by decide) (lv2 := [some (.inr 0), some (.inl x1), some (.inl x2), some (.inl x3), some (.inl (wrap (x4 + 1))), some (.inl x5), none, none]) rfl ?_
    refine a_goto C 14 dX8_search_229 rfl ?_
    refine a_drop [true, true, true, true, true, false, true, true] (lv2 := [some (.inr 0), some (.inl x1), some (.inl x2), some (.inl x3), some (.inl (wrap (x4 + 1))), none, none, none]) rfl ?_
    exact hk14 _ _ _ _ _ hf
  · have hf := hfb hc
    refine a_aloadn C dX8_search_58 rfl ?_
    refine a_getI C (kz := 37) fl_X8_264 rfl rfl rfl dX8_search_59 ?_
    refine a_iconst C dX8_search_62 (inr_b rfl) ?_
    obtain ⟨hfa, hfb⟩ := hf
    refine a_icmp_lt C 88 dX8_search_63 rfl (fun hc => ?_) (fun hc => ?_)
    · have hf := hfa hc
      exact sMd_search_88 C X hk37 _ _ _ _ _ _ hf
    · have hf := hfb hc
      refine a_aloadn C dX8_search_66 rfl ?_
      refine a_getR C 22 fl_X8_73 rfl rfl dX8_search_67 ?_
      refine a_bipush C dX8_search_70 bp_16 ?_
      refine a_aloadn C dX8_search_72 rfl ?_
      refine a_getR C 25 fl_X8_82 rfl rfl dX8_search_73 ?_
      refine a_iconst C dX8_search_76 (inr_b rfl) ?_
      refine a_iald C (n := 2) rfl (inb_b rfl) dX8_search_77 ?_
      refine a_imul C dX8_search_78 ?_
      refine a_iload C dX8_search_79 rfl ?_
      refine a_iadd C dX8_search_81 ?_
      obtain ⟨hg, hf⟩ := hf
      refine a_iald C (n := 384) rfl hg dX8_search_82 ?_
      refine a_bipush C dX8_search_83 bp_m4 ?_
      obtain ⟨hfa, hfb⟩ := hf
      refine a_icmp_eq C 122 dX8_search_85 rfl (fun hc => ?_) (fun hc => ?_)
      · have hf := hfa hc
        exact sMd_search_122 C X hk37 _ _ _ _ _ _ hf
      · have hf := hfb hc
        exact sMd_search_88 C X hk37 _ _ _ _ _ _ hf
set_option maxRecDepth 20000 in
set_option maxHeartbeats 4000000 in
theorem sMd_search_37 {E : EE} {R : Int → Mem → Prop} (C : Cx shM 8 cX8_search RX8 5 118 E) (X : Rx shM (some .int) R E) {k14 : Int → Int → Int → Int → Mem → Prop} (hk14 : ∀ (x1 : Int) (x2 : Int) (x3 : Int) (x4 : Int) (M : Mem), k14 x1 x2 x3 x4 M → AW shM 8 E 14 [some (.inr 0), some (.inl x1), some (.inl x2), some (.inl x3), some (.inl x4), none, none, none] [] M) : ∀ (n : Nat) (x1 : Int) (x2 : Int) (x3 : Int) (x4 : Int) (x5 : Int) (M : Mem), fMd_search_37 k14 R n x1 x2 x3 x4 x5 M → AW shM 8 E 37 [some (.inr 0), some (.inl x1), some (.inl x2), some (.inl x3), some (.inl x4), some (.inl x5), none, none] [] M := by
  intro n
  induction n with
  | zero => intro x1 x2 x3 x4 x5 M hf; exact hf.elim
  | succ n hk37 =>
    intro x1 x2 x3 x4 x5 M hf
    refine a_iload C dX8_search_37 rfl ?_
    refine a_aloadn C dX8_search_39 rfl ?_
    refine a_getI C (kz := 37) fl_X8_264 rfl rfl rfl dX8_search_40 ?_
    refine a_iconst C dX8_search_43 (inr_b rfl) ?_
    obtain ⟨hfa, hfb⟩ := hf
    refine a_icmp_le C 54 dX8_search_44 rfl (fun hc => ?_) (fun hc => ?_)
    · have hf := hfa hc
      refine a_iconst C dX8_search_54 (inr_b rfl) ?_
      exact sMd_search_55 C X hk14 hk37 _ _ _ _ _ _ _ _ hf
    · have hf := hfb hc
      refine a_aloadn C dX8_search_47 rfl ?_
      refine a_getI C (kz := 20) fl_X8_200 rfl rfl rfl dX8_search_48 ?_
      refine a_goto C 55 dX8_search_51 rfl ?_
      exact sMd_search_55 C X hk14 hk37 _ _ _ _ _ _ _ _ hf
set_option maxRecDepth 20000 in
set_option maxHeartbeats 4000000 in
theorem sMd_search_31 {E : EE} {R : Int → Mem → Prop} (C : Cx shM 8 cX8_search RX8 5 118 E) (X : Rx shM (some .int) R E) {k14 : Int → Int → Int → Int → Mem → Prop} (hk14 : ∀ (x1 : Int) (x2 : Int) (x3 : Int) (x4 : Int) (M : Mem), k14 x1 x2 x3 x4 M → AW shM 8 E 14 [some (.inr 0), some (.inl x1), some (.inl x2), some (.inl x3), some (.inl x4), none, none, none] [] M) (x1 : Int) (x2 : Int) (x3 : Int) (x4 : Int) (t0 : Int) (t1 : Int) (M : Mem) (hf : fMd_search_31 k14 R x1 x2 x3 x4 t0 t1 M) : AW shM 8 E 31 [some (.inr 0), some (.inl x1), some (.inl x2), some (.inl x3), some (.inl x4), none, none, none] [.inl t0, .inl t1] M := by
  obtain ⟨hfa, hfb⟩ := hf
  refine a_icmp_ge C 232 dX8_search_31 rfl (fun hc => ?_) (fun hc => ?_)
  · have hf := hfa hc
    refine a_aloadn C dX8_search_232 rfl ?_
    refine a_getI C (kz := 37) fl_X8_264 rfl rfl rfl dX8_search_233 ?_
    obtain ⟨hfa, hfb⟩ := hf
    refine a_if_le C 251 dX8_search_236 rfl (fun hc => ?_) (fun hc => ?_)
    · have hf := hfa hc
      refine a_drop [true, true, false, true, false, true, true, true] (lv2 := [some (.inr 0), some (.inl x1), none, some (.inl x3), none, none, none, none]) rfl ?_
      exact sMd_search_251 C X  _ _ _ hf
    · have hf := hfb hc
      refine a_aloadn C dX8_search_239 rfl ?_
      refine a_getR C 26 fl_X8_85 rfl rfl dX8_search_240 ?_
      refine a_aloadn C dX8_search_243 rfl ?_
      refine a_getR C 25 fl_X8_82 rfl rfl dX8_search_244 ?_
      refine a_iconst C dX8_search_247 (inr_b rfl) ?_
      refine a_iald C (n := 2) rfl (inb_b rfl) dX8_search_248 ?_
      refine a_iloadn C dX8_search_249 rfl ?_
      obtain ⟨hg, hf⟩ := hf
      refine a_iast C (n := 24) rfl hg dX8_search_250 ?_
      refine a_drop [true, true, false, true, false, true, true, true] (lv2 := [some (.inr 0), some (.inl x1), none, some (.inl x3), none, none, none, none]) rfl ?_
      exact sMd_search_251 C X  _ _ _ hf
  · have hf := hfb hc
    refine a_iconst C dX8_search_34 (inr_b rfl) ?_
    refine a_istore C dX8_search_35 (by decide) (lv2 := [some (.inr 0), some (.inl x1), some (.inl x2), some (.inl x3), some (.inl x4), some (.inl 0), none, none]) rfl ?_
    obtain ⟨n3, hf⟩ := hf
    exact sMd_search_37 C X hk14 n3 _ _ _ _ _ _ hf
set_option maxRecDepth 20000 in
set_option maxHeartbeats 4000000 in
theorem sMd_search_14 {E : EE} {R : Int → Mem → Prop} (C : Cx shM 8 cX8_search RX8 5 118 E) (X : Rx shM (some .int) R E) : ∀ (n : Nat) (x1 : Int) (x2 : Int) (x3 : Int) (x4 : Int) (M : Mem), fMd_search_14  R n x1 x2 x3 x4 M → AW shM 8 E 14 [some (.inr 0), some (.inl x1), some (.inl x2), some (.inl x3), some (.inl x4), none, none, none] [] M := by
  intro n
  induction n with
  | zero => intro x1 x2 x3 x4 M hf; exact hf.elim
  | succ n hk14 =>
    intro x1 x2 x3 x4 M hf
    refine a_iload C dX8_search_14 rfl ?_
    refine a_aloadn C dX8_search_16 rfl ?_
    refine a_getI C (kz := 37) fl_X8_264 rfl rfl rfl dX8_search_17 ?_
    obtain ⟨hfa, hfb⟩ := hf
    refine a_if_le C 30 dX8_search_20 rfl (fun hc => ?_) (fun hc => ?_)
    · have hf := hfa hc
      refine a_iconst C dX8_search_30 (inr_b rfl) ?_
      exact sMd_search_31 C X hk14 _ _ _ _ _ _ _ hf
    · have hf := hfb hc
      refine a_aloadn C dX8_search_23 rfl ?_
      refine a_getI C (kz := 20) fl_X8_200 rfl rfl rfl dX8_search_24 ?_
      refine a_goto C 31 dX8_search_27 rfl ?_
      exact sMd_search_31 C X hk14 _ _ _ _ _ _ _ hf
set_option maxRecDepth 20000 in
set_option maxHeartbeats 4000000 in
theorem cMd_search : Snd shM yX8_search cX8_search 8 (some .int) 5 118 [.inr 0] fMd_search := by
  refine Snd.of RX8 (by decide +kernel) rfl (Nat.le_of_ble_eq_true rfl) ?_
  intro E M R hf C X
  show AW shM 8 E 0 [some (.inr 0), none, none, none, none, none, none, none] [] M
  refine a_aloadn C dX8_search_0 rfl ?_
  refine a_callV C [] [] dX8_search_1 (cMd_laysVersions) mv_X8_laysVersions ln_X8_279 rfl rfl ⟨rfl, rfl, Nat.le_of_ble_eq_true rfl, Nat.le_of_ble_eq_true rfl, Nat.le_of_ble_eq_true rfl⟩ hf (fun r1 M1 hf => ?_)
  refine a_ldc C dX8_search_4 ct_X8_250 (inr_b rfl) ?_
  refine a_istoren C dX8_search_6 (by decide) (lv2 := [some (.inr 0), some (.inl 1000000000), none, none, none, none, none, none]) rfl ?_
  refine a_iconst C dX8_search_7 (inr_b rfl) ?_
  refine a_istoren C dX8_search_8 (by decide) (lv2 := [some (.inr 0), some (.inl 1000000000), some (.inl 0), none, none, none, none, none]) rfl ?_
  refine a_iconst C dX8_search_9 (inr_b rfl) ?_
  refine a_istoren C dX8_search_10 (by decide) (lv2 := [some (.inr 0), some (.inl 1000000000), some (.inl 0), some (.inl 0), none, none, none, none]) rfl ?_
  refine a_iconst C dX8_search_11 (inr_b rfl) ?_
  refine a_istore C dX8_search_12 (by decide) (lv2 := [some (.inr 0), some (.inl 1000000000), some (.inl 0), some (.inl 0), some (.inl 0), none, none, none]) rfl ?_
  obtain ⟨n4, hf⟩ := hf
  exact sMd_search_14 C X  n4 _ _ _ _ _ hf
set_option maxRecDepth 20000 in
set_option maxHeartbeats 4000000 in
theorem sMd_follows_28 {E : EE} {R : Int → Mem → Prop} (C : Cx shM 5 cX8_follows RX8 2 44 E) (X : Rx shM none R E) : ∀ (n : Nat) (x3 : Int) (x4 : Int) (M : Mem), fMd_follows_28  R n x3 x4 M → AW shM 5 E 28 [some (.inr 0), none, none, some (.inl x3), some (.inl x4)] [] M := by
  intro n
  induction n with
  | zero => intro x3 x4 M hf; exact hf.elim
  | succ n hk28 =>
    intro x3 x4 M hf
    refine a_iload C dX8_follows_28 rfl ?_
    refine a_bipush C dX8_follows_30 bp_m4 ?_
    obtain ⟨hfa, hfb⟩ := hf
    refine a_icmp_eq C 112 dX8_follows_32 rfl (fun hc => ?_) (fun hc => ?_)
    · have hf := hfa hc
      exact a_vret C X dX8_follows_112 hf
    · have hf := hfb hc
      refine a_aloadn C dX8_follows_35 rfl ?_
      refine a_getR C 6 fl_X8_25 rfl rfl dX8_follows_36 ?_
      refine a_iload C dX8_follows_39 rfl ?_
      obtain ⟨hg, hf⟩ := hf
      refine a_iald C (n := 24) rfl hg dX8_follows_41 ?_
      obtain ⟨hfa, hfb⟩ := hf
      refine a_if_ne C 112 dX8_follows_42 rfl (fun hc => ?_) (fun hc => ?_)
      · have hf := hfa hc
        exact a_vret C X dX8_follows_112 hf
      · have hf := hfb hc
        refine a_aloadn C dX8_follows_45 rfl ?_
        refine a_iload C dX8_follows_46 rfl ?_
        refine a_aloadn C dX8_follows_48 rfl ?_
        refine a_getR C 22 fl_X8_73 rfl rfl dX8_follows_49 ?_
        refine a_bipush C dX8_follows_52 bp_16 ?_
        refine a_iloadn C dX8_follows_54 rfl ?_
        refine a_imul C dX8_follows_55 ?_
        refine a_aloadn C dX8_follows_56 rfl ?_
        refine a_getR C 21 fl_X8_70 rfl rfl dX8_follows_57 ?_
        refine a_iloadn C dX8_follows_60 rfl ?_
        obtain ⟨hg, hf⟩ := hf
        refine a_iald C (n := 24) rfl hg dX8_follows_61 ?_
        refine a_iadd C dX8_follows_62 ?_
        obtain ⟨hg, hf⟩ := hf
        refine a_iald C (n := 384) rfl hg dX8_follows_63 ?_
        refine a_aloadn C dX8_follows_64 rfl ?_
        refine a_getR C 1 fl_X8_7 rfl rfl dX8_follows_65 ?_
        refine a_iconst C dX8_follows_68 (inr_b rfl) ?_
        refine a_iloadn C dX8_follows_69 rfl ?_
        refine a_iadd C dX8_follows_70 ?_
        obtain ⟨hg, hf⟩ := hf
        refine a_iald C (n := 28) rfl hg dX8_follows_71 ?_
        refine a_callV C [.inl x4, .inl (M 22 (wrap ((wrap (16 * x3)) + (M 21 x3)))), .inl (M 1 (wrap (4 + x3)))] [] dX8_follows_72 (cMd_onTo _ _ _) mv_X8_onTo ln_X8_273 rfl rfl ⟨rfl, rfl, Nat.le_of_ble_eq_true rfl, Nat.le_of_ble_eq_true rfl, Nat.le_of_ble_eq_true rfl⟩ hf (fun r2 M2 hf => ?_)
        refine a_pop C dX8_follows_75 ?_
        refine a_aloadn C dX8_follows_76 rfl ?_
        refine a_getR C 21 fl_X8_70 rfl rfl dX8_follows_77 ?_
        refine a_iload C dX8_follows_80 rfl ?_
        refine a_aloadn C dX8_follows_82 rfl ?_
        refine a_getI C (kz := 42) fl_X8_270 rfl rfl rfl dX8_follows_83 ?_
        obtain ⟨hg, hf⟩ := hf
        refine a_iast C (n := 24) rfl hg dX8_follows_86 ?_
        refine a_iload C dX8_follows_87 rfl ?_
        refine a_istoren C dX8_follows_89 (by decide) (lv2 := [some (.inr 0), none, none, some (.inl x4), some (.inl x4)]) rfl ?_
        refine a_aloadn C dX8_follows_90 rfl ?_
        refine a_getR C 3 fl_X8_16 rfl rfl dX8_follows_91 ?_
        refine a_aloadn C dX8_follows_94 rfl ?_
        refine a_getR C 4 fl_X8_19 rfl rfl dX8_follows_95 ?_
        refine a_iloadn C dX8_follows_98 rfl ?_
        refine a_iconst C dX8_follows_99 (inr_b rfl) ?_
        refine a_aloadn C dX8_follows_100 rfl ?_
        refine a_getI C (kz := 3) fl_X8_172 rfl rfl rfl dX8_follows_101 ?_
        refine a_callS C [.inr 3, .inr 4, .inl x4, .inl 0, .inl (M2 0 3)] [] dX8_follows_104 (cMd_goesOn_l _ _ _) ms_X8_goesOn ln_X8_158 ⟨rfl, rfl, Nat.le_of_ble_eq_true rfl, Nat.le_of_ble_eq_true rfl, Nat.le_of_ble_eq_true rfl⟩ hf (fun r3 M3 hf => ?_)
        refine a_istore C dX8_follows_107 (by decide) (lv2 := [some (.inr 0), none, none, some (.inl x4), some (.inl r3)]) rfl ?_
        refine a_goto C 28 dX8_follows_109 rfl ?_
        exact hk28 _ _ _ hf
set_option maxRecDepth 20000 in
set_option maxHeartbeats 4000000 in
theorem cMd_follows (x1 x2 : Int) : Snd shM yX8_follows cX8_follows 5 none 2 44 [.inr 0, .inl x1, .inl x2] (fMd_follows x1 x2) := by
  refine Snd.of RX8 (by decide +kernel) rfl (Nat.le_of_ble_eq_true rfl) ?_
  intro E M R hf C X
  show AW shM 5 E 0 [some (.inr 0), some (.inl x1), some (.inl x2), none, none] [] M
  refine a_iloadn C dX8_follows_0 rfl ?_
  refine a_istoren C dX8_follows_1 (by decide) (lv2 := [some (.inr 0), some (.inl x1), some (.inl x2), some (.inl x1), none]) rfl ?_
  refine a_aloadn C dX8_follows_2 rfl ?_
  refine a_getR C 21 fl_X8_70 rfl rfl dX8_follows_3 ?_
  refine a_iloadn C dX8_follows_6 rfl ?_
  refine a_iloadn C dX8_follows_7 rfl ?_
  obtain ⟨hg, hf⟩ := hf
  refine a_iast C (n := 24) rfl hg dX8_follows_8 ?_
  refine a_aloadn C dX8_follows_9 rfl ?_
  refine a_getR C 3 fl_X8_16 rfl rfl dX8_follows_10 ?_
  refine a_aloadn C dX8_follows_13 rfl ?_
  refine a_getR C 4 fl_X8_19 rfl rfl dX8_follows_14 ?_
  refine a_iloadn C dX8_follows_17 rfl ?_
  refine a_iconst C dX8_follows_18 (inr_b rfl) ?_
  refine a_aloadn C dX8_follows_19 rfl ?_
  refine a_getI C (kz := 3) fl_X8_172 rfl rfl rfl dX8_follows_20 ?_
  refine a_callS C [.inr 3, .inr 4, .inl x1, .inl 0, .inl (M 0 3)] [] dX8_follows_23 (cMd_goesOn_l _ _ _) ms_X8_goesOn ln_X8_158 ⟨rfl, rfl, Nat.le_of_ble_eq_true rfl, Nat.le_of_ble_eq_true rfl, Nat.le_of_ble_eq_true rfl⟩ hf (fun r1 M1 hf => ?_)
  refine a_istore C dX8_follows_26 (by decide) (lv2 := [some (.inr 0), some (.inl x1), some (.inl x2), some (.inl x1), some (.inl r1)]) rfl ?_
  refine a_drop [true, false, false, true, true] (lv2 := [some (.inr 0), none, none, some (.inl x1), some (.inl r1)]) rfl ?_
  obtain ⟨n4, hf⟩ := hf
  exact sMd_follows_28 C X  n4 _ _ _ hf
set_option maxRecDepth 20000 in
set_option maxHeartbeats 4000000 in
theorem sMd_laysBest_55 {E : EE} {R : Int → Mem → Prop} (C : Cx shM 2 cX8_laysBest RX8 6 145 E) (X : Rx shM none R E) : ∀ (n : Nat) (x1 : Int) (M : Mem), fMd_laysBest_55  R n x1 M → AW shM 2 E 55 [some (.inr 0), some (.inl x1)] [] M := by
  intro n
  induction n with
  | zero => intro x1 M hf; exact hf.elim
  | succ n hk55 =>
    intro x1 M hf
    refine a_iloadn C dX8_laysBest_55 rfl ?_
    refine a_aloadn C dX8_laysBest_56 rfl ?_
    refine a_getI C (kz := 37) fl_X8_264 rfl rfl rfl dX8_laysBest_57 ?_
    obtain ⟨hfa, hfb⟩ := hf
    refine a_icmp_ge C 90 dX8_laysBest_60 rfl (fun hc => ?_) (fun hc => ?_)
    · have hf := hfa hc
      refine a_aloadn C dX8_laysBest_90 rfl ?_
      refine a_iconst C dX8_laysBest_91 (inr_b rfl) ?_
      refine a_putZ C (kz := 31) fp_X8_182 (Or.inr rfl) rfl rfl rfl dX8_laysBest_92 ?_
      exact a_vret C X dX8_laysBest_95 hf
    · have hf := hfb hc
      refine a_aloadn C dX8_laysBest_63 rfl ?_
      refine a_aloadn C dX8_laysBest_64 rfl ?_
      refine a_getR C 25 fl_X8_82 rfl rfl dX8_laysBest_65 ?_
      refine a_iloadn C dX8_laysBest_68 rfl ?_
      obtain ⟨hg, hf⟩ := hf
      refine a_iald C (n := 2) rfl hg dX8_laysBest_69 ?_
      refine a_aloadn C dX8_laysBest_70 rfl ?_
      refine a_getR C 26 fl_X8_85 rfl rfl dX8_laysBest_71 ?_
      refine a_aloadn C dX8_laysBest_74 rfl ?_
      refine a_getR C 25 fl_X8_82 rfl rfl dX8_laysBest_75 ?_
      refine a_iloadn C dX8_laysBest_78 rfl ?_
      obtain ⟨hg, hf⟩ := hf
      refine a_iald C (n := 2) rfl hg dX8_laysBest_79 ?_
      obtain ⟨hg, hf⟩ := hf
      refine a_iald C (n := 24) rfl hg dX8_laysBest_80 ?_
      refine a_callV C [.inl (M 25 x1), .inl (M 26 (M 25 x1))] [] dX8_laysBest_81 (cMd_follows _ _) mv_X8_follows ln_X8_291 rfl rfl ⟨rfl, rfl, Nat.le_of_ble_eq_true rfl, Nat.le_of_ble_eq_true rfl, Nat.le_of_ble_eq_true rfl⟩ hf (fun r4 M4 hf => ?_)
      refine a_iinc C dX8_laysBest_84 rfl (by decide) (lv2 := [some (.inr 0), some (.inl (wrap (x1 + 1)))]) rfl ?_
      refine a_goto C 55 dX8_laysBest_87 rfl ?_
      exact hk55 _ _ hf
set_option maxRecDepth 20000 in
set_option maxHeartbeats 4000000 in
theorem sMd_laysBest_27 {E : EE} {R : Int → Mem → Prop} (C : Cx shM 2 cX8_laysBest RX8 6 145 E) (X : Rx shM none R E) : ∀ (n : Nat) (x1 : Int) (M : Mem), fMd_laysBest_27  R n x1 M → AW shM 2 E 27 [some (.inr 0), some (.inl x1)] [] M := by
  intro n
  induction n with
  | zero => intro x1 M hf; exact hf.elim
  | succ n hk27 =>
    intro x1 M hf
    refine a_iloadn C dX8_laysBest_27 rfl ?_
    refine a_bipush C dX8_laysBest_28 bp_24 ?_
    obtain ⟨hfa, hfb⟩ := hf
    refine a_icmp_ge C 47 dX8_laysBest_30 rfl (fun hc => ?_) (fun hc => ?_)
    · have hf := hfa hc
      refine a_aloadn C dX8_laysBest_47 rfl ?_
      refine a_iconst C dX8_laysBest_48 (inr_b rfl) ?_
      refine a_iconst C dX8_laysBest_49 (inr_b rfl) ?_
      refine a_callV C [.inl 0, .inl 0] [] dX8_laysBest_50 (cMd_follows _ _) mv_X8_follows ln_X8_291 rfl rfl ⟨rfl, rfl, Nat.le_of_ble_eq_true rfl, Nat.le_of_ble_eq_true rfl, Nat.le_of_ble_eq_true rfl⟩ hf (fun r3 M3 hf => ?_)
      refine a_iconst C dX8_laysBest_53 (inr_b rfl) ?_
      refine a_istoren C dX8_laysBest_54 (by decide) (lv2 := [some (.inr 0), some (.inl 0)]) rfl ?_
      obtain ⟨n5, hf⟩ := hf
      exact sMd_laysBest_55 C X  n5 _ _ hf
    · have hf := hfb hc
      refine a_aloadn C dX8_laysBest_33 rfl ?_
      refine a_getR C 21 fl_X8_70 rfl rfl dX8_laysBest_34 ?_
      refine a_iloadn C dX8_laysBest_37 rfl ?_
      refine a_bipush C dX8_laysBest_38 bp_m4 ?_
      obtain ⟨hg, hf⟩ := hf
      refine a_iast C (n := 24) rfl hg dX8_laysBest_40 ?_
      refine a_iinc C dX8_laysBest_41 rfl (by decide) (lv2 := [some (.inr 0), some (.inl (wrap (x1 + 1)))]) rfl ?_
      refine a_goto C 27 dX8_laysBest_44 rfl ?_
      exact hk27 _ _ hf
set_option maxRecDepth 20000 in
set_option maxHeartbeats 4000000 in
theorem cMd_laysBest : Snd shM yX8_laysBest cX8_laysBest 2 none 6 145 [.inr 0] fMd_laysBest := by
  refine Snd.of RX8 (by decide +kernel) rfl (Nat.le_of_ble_eq_true rfl) ?_
  intro E M R hf C X
  show AW shM 2 E 0 [some (.inr 0), none] [] M
  refine a_aloadn C dX8_laysBest_0 rfl ?_
  refine a_getI C (kz := 31) fl_X8_182 rfl rfl rfl dX8_laysBest_1 ?_
  obtain ⟨hfa, hfb⟩ := hf
  refine a_if_eq C 12 dX8_laysBest_4 rfl (fun hc => ?_) (fun hc => ?_)
  · have hf := hfa hc
    refine a_aloadn C dX8_laysBest_12 rfl ?_
    refine a_aloadn C dX8_laysBest_13 rfl ?_
    refine a_callV C [] [.inr 0] dX8_laysBest_14 (cMd_search) mv_X8_search ln_X8_285 rfl rfl ⟨rfl, rfl, Nat.le_of_ble_eq_true rfl, Nat.le_of_ble_eq_true rfl, Nat.le_of_ble_eq_true rfl⟩ hf (fun r1 M1 hf => ?_)
    refine a_putI C (kz := 32) fp_X8_288 rfl rfl rfl dX8_laysBest_17 ?_
    refine a_aloadn C dX8_laysBest_20 rfl ?_
    refine a_callV C [] [] dX8_laysBest_21 (cMd_total) mv_X8_total ln_X8_282 rfl rfl ⟨rfl, rfl, Nat.le_of_ble_eq_true rfl, Nat.le_of_ble_eq_true rfl, Nat.le_of_ble_eq_true rfl⟩ hf (fun r2 M2 hf => ?_)
    refine a_pop C dX8_laysBest_24 ?_
    refine a_iconst C dX8_laysBest_25 (inr_b rfl) ?_
    refine a_istoren C dX8_laysBest_26 (by decide) (lv2 := [some (.inr 0), some (.inl 0)]) rfl ?_
    obtain ⟨n6, hf⟩ := hf
    exact sMd_laysBest_27 C X  n6 _ _ hf
  · have hf := hfb hc
    refine a_aloadn C dX8_laysBest_7 rfl ?_
    refine a_callV C [] [] dX8_laysBest_8 (cMd_laysStates) mv_X8_laysStates ln_X8_207 rfl rfl ⟨rfl, rfl, Nat.le_of_ble_eq_true rfl, Nat.le_of_ble_eq_true rfl, Nat.le_of_ble_eq_true rfl⟩ hf (fun r7 M7 hf => ?_)
    exact a_vret C X dX8_laysBest_11 hf
set_option maxRecDepth 20000 in
set_option maxHeartbeats 4000000 in
theorem cMd_best : Snd shM yX8_best cX8_best 1 (some .int) 7 166 [.inr 0] fMd_best := by
  refine Snd.of RX8 (by decide +kernel) rfl (Nat.le_of_ble_eq_true rfl) ?_
  intro E M R hf C X
  show AW shM 1 E 0 [some (.inr 0)] [] M
  refine a_aloadn C dX8_best_0 rfl ?_
  refine a_callV C [] [] dX8_best_1 (cMd_laysBest) mv_X8_laysBest ln_X8_294 rfl rfl ⟨rfl, rfl, Nat.le_of_ble_eq_true rfl, Nat.le_of_ble_eq_true rfl, Nat.le_of_ble_eq_true rfl⟩ hf (fun r1 M1 hf => ?_)
  refine a_aloadn C dX8_best_4 rfl ?_
  refine a_getI C (kz := 32) fl_X8_288 rfl rfl rfl dX8_best_5 ?_
  exact a_iret C X dX8_best_8 hf
set_option maxRecDepth 20000 in
set_option maxHeartbeats 4000000 in
theorem cMd_meets (x1 x2 : Int) : Snd shM yX8_meets cX8_meets 3 (some .int) 7 166 [.inr 0, .inl x1, .inl x2] (fMd_meets x1 x2) := by
  refine Snd.of RX8 (by decide +kernel) rfl (Nat.le_of_ble_eq_true rfl) ?_
  intro E M R hf C X
  show AW shM 3 E 0 [some (.inr 0), some (.inl x1), some (.inl x2)] [] M
  refine a_aloadn C dX8_meets_0 rfl ?_
  refine a_iloadn C dX8_meets_1 rfl ?_
  refine a_callV C [.inl x1] [] dX8_meets_2 (cMd_isCode _) mv_X8_isCode ln_X8_185 rfl rfl ⟨rfl, rfl, Nat.le_of_ble_eq_true rfl, Nat.le_of_ble_eq_true rfl, Nat.le_of_ble_eq_true rfl⟩ hf (fun r1 M1 hf => ?_)
  obtain ⟨hfa, hfb⟩ := hf
  refine a_if_eq C 17 dX8_meets_5 rfl (fun hc => ?_) (fun hc => ?_)
  · have hf := hfa hc
    refine a_iconst C dX8_meets_17 (inr_b rfl) ?_
    exact a_iret C X dX8_meets_18 hf
  · have hf := hfb hc
    refine a_iloadn C dX8_meets_8 rfl ?_
    refine a_iconst C dX8_meets_9 (inr_b rfl) ?_
    refine a_iconst C dX8_meets_10 (inr_b rfl) ?_
    refine a_callS C [.inl x2, .inl 0, .inl 1] [] dX8_meets_11 (cMd_in _ _ _) ms_X8_in ln_X8_114 ⟨rfl, rfl, Nat.le_of_ble_eq_true rfl, Nat.le_of_ble_eq_true rfl, Nat.le_of_ble_eq_true rfl⟩ hf (fun r2 M2 hf => ?_)
    obtain ⟨hfa, hfb⟩ := hf
    refine a_if_ne C 19 dX8_meets_14 rfl (fun hc => ?_) (fun hc => ?_)
    · have hf := hfa hc
      refine a_aloadn C dX8_meets_19 rfl ?_
      refine a_callV C [] [] dX8_meets_20 (cMd_laysBest) mv_X8_laysBest ln_X8_294 rfl rfl ⟨rfl, rfl, Nat.le_of_ble_eq_true rfl, Nat.le_of_ble_eq_true rfl, Nat.le_of_ble_eq_true rfl⟩ hf (fun r3 M3 hf => ?_)
      refine a_aloadn C dX8_meets_23 rfl ?_
      refine a_getR C 5 fl_X8_22 rfl rfl dX8_meets_24 ?_
      refine a_iloadn C dX8_meets_27 rfl ?_
      obtain ⟨hg, hf⟩ := hf
      refine a_iald C (n := 24) rfl hg dX8_meets_28 ?_
      refine a_bipush C dX8_meets_29 bp_m4 ?_
      obtain ⟨hfa, hfb⟩ := hf
      refine a_icmp_ne C 37 dX8_meets_31 rfl (fun hc => ?_) (fun hc => ?_)
      · have hf := hfa hc
        refine a_aloadn C dX8_meets_37 rfl ?_
        refine a_aloadn C dX8_meets_38 rfl ?_
        refine a_getR C 3 fl_X8_16 rfl rfl dX8_meets_39 ?_
        refine a_iloadn C dX8_meets_42 rfl ?_
        obtain ⟨hg, hf⟩ := hf
        refine a_iald C (n := 24) rfl hg dX8_meets_43 ?_
        refine a_aloadn C dX8_meets_44 rfl ?_
        refine a_getR C 21 fl_X8_70 rfl rfl dX8_meets_45 ?_
        refine a_iloadn C dX8_meets_48 rfl ?_
        obtain ⟨hg, hf⟩ := hf
        refine a_iald C (n := 24) rfl hg dX8_meets_49 ?_
        refine a_callV C [.inl (M3 3 x1), .inl (M3 21 x1)] [] dX8_meets_50 (cMd_hasVersion _ _) mv_X8_hasVersion ln_X8_236 rfl rfl ⟨rfl, rfl, Nat.le_of_ble_eq_true rfl, Nat.le_of_ble_eq_true rfl, Nat.le_of_ble_eq_true rfl⟩ hf (fun r4 M4 hf => ?_)
        refine a_pop C dX8_meets_53 ?_
        refine a_iloadn C dX8_meets_54 rfl ?_
        obtain ⟨hfa, hfb⟩ := hf
        refine a_if_ne C 67 dX8_meets_55 rfl (fun hc => ?_) (fun hc => ?_)
        · have hf := hfa hc
          refine a_aloadn C dX8_meets_67 rfl ?_
          refine a_getI C (kz := 23) fl_X8_217 rfl rfl rfl dX8_meets_68 ?_
          exact a_iret C X dX8_meets_71 hf
        · have hf := hfb hc
          refine a_aloadn C dX8_meets_58 rfl ?_
          refine a_getR C 21 fl_X8_70 rfl rfl dX8_meets_59 ?_
          refine a_iloadn C dX8_meets_62 rfl ?_
          obtain ⟨hg, hf⟩ := hf
          refine a_iald C (n := 24) rfl hg dX8_meets_63 ?_
          refine a_goto C 71 dX8_meets_64 rfl ?_
          exact a_iret C X dX8_meets_71 hf
      · have hf := hfb hc
        refine a_bipush C dX8_meets_34 bp_m4 ?_
        exact a_iret C X dX8_meets_36 hf
    · have hf := hfb hc
      refine a_iconst C dX8_meets_17 (inr_b rfl) ?_
      exact a_iret C X dX8_meets_18 hf
set_option maxRecDepth 20000 in
set_option maxHeartbeats 4000000 in
theorem cMd_ifMeets (x1 x2 : Int) : Snd shM yX8_ifMeets cX8_ifMeets 4 (some .int) 6 145 [.inr 0, .inl x1, .inl x2] (fMd_ifMeets x1 x2) := by
  refine Snd.of RX8 (by decide +kernel) rfl (Nat.le_of_ble_eq_true rfl) ?_
  intro E M R hf C X
  show AW shM 4 E 0 [some (.inr 0), some (.inl x1), some (.inl x2), none] [] M
  refine a_aloadn C dX8_ifMeets_0 rfl ?_
  refine a_iloadn C dX8_ifMeets_1 rfl ?_
  refine a_callV C [.inl x1] [] dX8_ifMeets_2 (cMd_isCode _) mv_X8_isCode ln_X8_185 rfl rfl ⟨rfl, rfl, Nat.le_of_ble_eq_true rfl, Nat.le_of_ble_eq_true rfl, Nat.le_of_ble_eq_true rfl⟩ hf (fun r1 M1 hf => ?_)
  obtain ⟨hfa, hfb⟩ := hf
  refine a_if_eq C 16 dX8_ifMeets_5 rfl (fun hc => ?_) (fun hc => ?_)
  · have hf := hfa hc
    refine a_iconst C dX8_ifMeets_16 (inr_b rfl) ?_
    exact a_iret C X dX8_ifMeets_17 hf
  · have hf := hfb hc
    refine a_aloadn C dX8_ifMeets_8 rfl ?_
    refine a_iloadn C dX8_ifMeets_9 rfl ?_
    refine a_callV C [.inl x2] [] dX8_ifMeets_10 (cMd_isState _) mv_X8_isState ln_X8_210 rfl rfl ⟨rfl, rfl, Nat.le_of_ble_eq_true rfl, Nat.le_of_ble_eq_true rfl, Nat.le_of_ble_eq_true rfl⟩ hf (fun r2 M2 hf => ?_)
    obtain ⟨hfa, hfb⟩ := hf
    refine a_if_ne C 18 dX8_ifMeets_13 rfl (fun hc => ?_) (fun hc => ?_)
    · have hf := hfa hc
      refine a_aloadn C dX8_ifMeets_18 rfl ?_
      refine a_getR C 5 fl_X8_22 rfl rfl dX8_ifMeets_19 ?_
      refine a_iloadn C dX8_ifMeets_22 rfl ?_
      obtain ⟨hg, hf⟩ := hf
      refine a_iald C (n := 24) rfl hg dX8_ifMeets_23 ?_
      refine a_bipush C dX8_ifMeets_24 bp_m4 ?_
      obtain ⟨hfa, hfb⟩ := hf
      refine a_icmp_ne C 32 dX8_ifMeets_26 rfl (fun hc => ?_) (fun hc => ?_)
      · have hf := hfa hc
        refine a_aloadn C dX8_ifMeets_32 rfl ?_
        refine a_iloadn C dX8_ifMeets_33 rfl ?_
        refine a_putI C (kz := 40) fp_X8_88 rfl rfl rfl dX8_ifMeets_34 ?_
        refine a_aloadn C dX8_ifMeets_37 rfl ?_
        refine a_iloadn C dX8_ifMeets_38 rfl ?_
        refine a_putI C (kz := 41) fp_X8_267 rfl rfl rfl dX8_ifMeets_39 ?_
        refine a_aloadn C dX8_ifMeets_42 rfl ?_
        refine a_callV C [] [] dX8_ifMeets_43 (cMd_search) mv_X8_search ln_X8_285 rfl rfl ⟨rfl, rfl, Nat.le_of_ble_eq_true rfl, Nat.le_of_ble_eq_true rfl, Nat.le_of_ble_eq_true rfl⟩ hf (fun r3 M3 hf => ?_)
        refine a_istoren C dX8_ifMeets_46 (by decide) (lv2 := [some (.inr 0), some (.inl x1), some (.inl x2), some (.inl r3)]) rfl ?_
        refine a_aloadn C dX8_ifMeets_47 rfl ?_
        refine a_bipush C dX8_ifMeets_48 bp_m4 ?_
        refine a_putI C (kz := 40) fp_X8_88 rfl rfl rfl dX8_ifMeets_50 ?_
        refine a_iloadn C dX8_ifMeets_53 rfl ?_
        refine a_ldc C dX8_ifMeets_54 ct_X8_250 (inr_b rfl) ?_
        obtain ⟨hfa, hfb⟩ := hf
        refine a_icmp_ne C 64 dX8_ifMeets_56 rfl (fun hc => ?_) (fun hc => ?_)
        · have hf := hfa hc
          refine a_iloadn C dX8_ifMeets_64 rfl ?_
          exact a_iret C X dX8_ifMeets_65 hf
        · have hf := hfb hc
          refine a_bipush C dX8_ifMeets_59 bp_m4 ?_
          refine a_goto C 65 dX8_ifMeets_61 rfl ?_
          exact a_iret C X dX8_ifMeets_65 hf
      · have hf := hfb hc
        refine a_bipush C dX8_ifMeets_29 bp_m4 ?_
        exact a_iret C X dX8_ifMeets_31 hf
    · have hf := hfb hc
      refine a_iconst C dX8_ifMeets_16 (inr_b rfl) ?_
      exact a_iret C X dX8_ifMeets_17 hf
set_option maxRecDepth 20000 in
set_option maxHeartbeats 4000000 in
theorem sMd_start_66 {E : EE} {R : Int → Mem → Prop} (C : Cx shM 2 cX8_start RX8 7 166 E) (X : Rx shM (some .int) R E) : ∀ (n : Nat) (x1 : Int) (M : Mem), fMd_start_66  R n x1 M → AW shM 2 E 66 [some (.inr 0), some (.inl x1)] [] M := by
  intro n
  induction n with
  | zero => intro x1 M hf; exact hf.elim
  | succ n hk66 =>
    intro x1 M hf
    refine a_iloadn C dX8_start_66 rfl ?_
    refine a_bipush C dX8_start_67 bp_24 ?_
    obtain ⟨hfa, hfb⟩ := hf
    refine a_icmp_ge C 85 dX8_start_69 rfl (fun hc => ?_) (fun hc => ?_)
    · have hf := hfa hc
      refine a_aloadn C dX8_start_85 rfl ?_
      refine a_getI C (kz := 46) fl_X8_303 rfl rfl rfl dX8_start_86 ?_
      exact a_iret C X dX8_start_89 hf
    · have hf := hfb hc
      refine a_aloadn C dX8_start_72 rfl ?_
      refine a_getR C 30 fl_X8_101 rfl rfl dX8_start_73 ?_
      refine a_iloadn C dX8_start_76 rfl ?_
      refine a_iconst C dX8_start_77 (inr_b rfl) ?_
      obtain ⟨hg, hf⟩ := hf
      refine a_iast C (n := 24) rfl hg dX8_start_78 ?_
      refine a_iinc C dX8_start_79 rfl (by decide) (lv2 := [some (.inr 0), some (.inl (wrap (x1 + 1)))]) rfl ?_
      refine a_goto C 66 dX8_start_82 rfl ?_
      exact hk66 _ _ hf
set_option maxRecDepth 20000 in
set_option maxHeartbeats 4000000 in
theorem sMd_start_46 {E : EE} {R : Int → Mem → Prop} (C : Cx shM 2 cX8_start RX8 7 166 E) (X : Rx shM (some .int) R E) : ∀ (n : Nat) (x1 : Int) (M : Mem), fMd_start_46  R n x1 M → AW shM 2 E 46 [some (.inr 0), some (.inl x1)] [] M := by
  intro n
  induction n with
  | zero => intro x1 M hf; exact hf.elim
  | succ n hk46 =>
    intro x1 M hf
    refine a_iloadn C dX8_start_46 rfl ?_
    refine a_iconst C dX8_start_47 (inr_b rfl) ?_
    obtain ⟨hfa, hfb⟩ := hf
    refine a_icmp_ge C 64 dX8_start_48 rfl (fun hc => ?_) (fun hc => ?_)
    · have hf := hfa hc
      refine a_iconst C dX8_start_64 (inr_b rfl) ?_
      refine a_istoren C dX8_start_65 (by decide) (lv2 := [some (.inr 0), some (.inl 0)]) rfl ?_
      obtain ⟨n2, hf⟩ := hf
      exact sMd_start_66 C X  n2 _ _ hf
    · have hf := hfb hc
      refine a_aloadn C dX8_start_51 rfl ?_
      refine a_getR C 29 fl_X8_98 rfl rfl dX8_start_52 ?_
      refine a_iloadn C dX8_start_55 rfl ?_
      refine a_iconst C dX8_start_56 (inr_b rfl) ?_
      obtain ⟨hg, hf⟩ := hf
      refine a_iast C (n := 4) rfl hg dX8_start_57 ?_
      refine a_iinc C dX8_start_58 rfl (by decide) (lv2 := [some (.inr 0), some (.inl (wrap (x1 + 1)))]) rfl ?_
      refine a_goto C 46 dX8_start_61 rfl ?_
      exact hk46 _ _ hf
set_option maxRecDepth 20000 in
set_option maxHeartbeats 4000000 in
theorem cMd_start : Snd shM yX8_start cX8_start 2 (some .int) 7 166 [.inr 0] fMd_start := by
  refine Snd.of RX8 (by decide +kernel) rfl (Nat.le_of_ble_eq_true rfl) ?_
  intro E M R hf C X
  show AW shM 2 E 0 [some (.inr 0), none] [] M
  refine a_aloadn C dX8_start_0 rfl ?_
  refine a_callV C [] [] dX8_start_1 (cMd_laysBest) mv_X8_laysBest ln_X8_294 rfl rfl ⟨rfl, rfl, Nat.le_of_ble_eq_true rfl, Nat.le_of_ble_eq_true rfl, Nat.le_of_ble_eq_true rfl⟩ hf (fun r1 M1 hf => ?_)
  refine a_aloadn C dX8_start_4 rfl ?_
  refine a_iconst C dX8_start_5 (inr_b rfl) ?_
  refine a_putZ C (kz := 43) fp_X8_178 (Or.inr rfl) rfl rfl rfl dX8_start_6 ?_
  refine a_aloadn C dX8_start_9 rfl ?_
  refine a_iconst C dX8_start_10 (inr_b rfl) ?_
  refine a_putZ C (kz := 44) fp_X8_297 (Or.inl rfl) rfl rfl rfl dX8_start_11 ?_
  refine a_aloadn C dX8_start_14 rfl ?_
  refine a_iconst C dX8_start_15 (inr_b rfl) ?_
  refine a_putI C (kz := 45) fp_X8_300 rfl rfl rfl dX8_start_16 ?_
  refine a_aloadn C dX8_start_19 rfl ?_
  refine a_iconst C dX8_start_20 (inr_b rfl) ?_
  refine a_putI C (kz := 46) fp_X8_303 rfl rfl rfl dX8_start_21 ?_
  refine a_aloadn C dX8_start_24 rfl ?_
  refine a_iconst C dX8_start_25 (inr_b rfl) ?_
  refine a_putI C (kz := 48) fp_X8_306 rfl rfl rfl dX8_start_26 ?_
  refine a_aloadn C dX8_start_29 rfl ?_
  refine a_iconst C dX8_start_30 (inr_b rfl) ?_
  refine a_putI C (kz := 49) fp_X8_309 rfl rfl rfl dX8_start_31 ?_
  refine a_aloadn C dX8_start_34 rfl ?_
  refine a_iconst C dX8_start_35 (inr_b rfl) ?_
  refine a_putI C (kz := 50) fp_X8_312 rfl rfl rfl dX8_start_36 ?_
  refine a_aloadn C dX8_start_39 rfl ?_
  refine a_iconst C dX8_start_40 (inr_b rfl) ?_
  refine a_putI C (kz := 52) fp_X8_315 rfl rfl rfl dX8_start_41 ?_
  refine a_iconst C dX8_start_44 (inr_b rfl) ?_
  refine a_istoren C dX8_start_45 (by decide) (lv2 := [some (.inr 0), some (.inl 0)]) rfl ?_
  obtain ⟨n3, hf⟩ := hf
  exact sMd_start_46 C X  n3 _ _ hf
set_option maxRecDepth 20000 in
set_option maxHeartbeats 4000000 in
theorem cMd_pops : Snd shM yX8_pops cX8_pops 1 (some .int) 0 0 [.inr 0] fMd_pops := by
  refine Snd.of RX8 (by decide +kernel) rfl (Nat.le_of_ble_eq_true rfl) ?_
  intro E M R hf C X
  show AW shM 1 E 0 [some (.inr 0)] [] M
  refine a_aloadn C dX8_pops_0 rfl ?_
  refine a_dup C dX8_pops_1 ?_
  refine a_getI C (kz := 48) fl_X8_306 rfl rfl rfl dX8_pops_2 ?_
  refine a_iconst C dX8_pops_5 (inr_b rfl) ?_
  refine a_isub C dX8_pops_6 ?_
  refine a_putI C (kz := 48) fp_X8_306 rfl rfl rfl dX8_pops_7 ?_
  refine a_aloadn C dX8_pops_10 rfl ?_
  refine a_getR C 27 fl_X8_92 rfl rfl dX8_pops_11 ?_
  refine a_aloadn C dX8_pops_14 rfl ?_
  refine a_getI C (kz := 48) fl_X8_306 rfl rfl rfl dX8_pops_15 ?_
  obtain ⟨hg, hf⟩ := hf
  refine a_iald C (n := 16) rfl hg dX8_pops_18 ?_
  exact a_iret C X dX8_pops_19 hf
set_option maxRecDepth 20000 in
set_option maxHeartbeats 4000000 in
theorem cMd_pushes (x1 : Int) : Snd shM yX8_pushes cX8_pushes 2 none 0 0 [.inr 0, .inl x1] (fMd_pushes x1) := by
  refine Snd.of RX8 (by decide +kernel) rfl (Nat.le_of_ble_eq_true rfl) ?_
  intro E M R hf C X
  show AW shM 2 E 0 [some (.inr 0), some (.inl x1)] [] M
  refine a_aloadn C dX8_pushes_0 rfl ?_
  refine a_getR C 27 fl_X8_92 rfl rfl dX8_pushes_1 ?_
  refine a_aloadn C dX8_pushes_4 rfl ?_
  refine a_getI C (kz := 48) fl_X8_306 rfl rfl rfl dX8_pushes_5 ?_
  refine a_iloadn C dX8_pushes_8 rfl ?_
  obtain ⟨hg, hf⟩ := hf
  refine a_iast C (n := 16) rfl hg dX8_pushes_9 ?_
  refine a_aloadn C dX8_pushes_10 rfl ?_
  refine a_dup C dX8_pushes_11 ?_
  refine a_getI C (kz := 48) fl_X8_306 rfl rfl rfl dX8_pushes_12 ?_
  refine a_iconst C dX8_pushes_15 (inr_b rfl) ?_
  refine a_iadd C dX8_pushes_16 ?_
  refine a_putI C (kz := 48) fp_X8_306 rfl rfl rfl dX8_pushes_17 ?_
  exact a_vret C X dX8_pushes_20 hf
set_option maxRecDepth 20000 in
set_option maxHeartbeats 4000000 in
theorem sMd_reckons_38 {E : EE} {R : Int → Mem → Prop} (C : Cx shM 4 cX8_reckons RX8 1 21 E) (X : Rx shM none R E) (t0 : Int) (M : Mem) (hf : fMd_reckons_38  R t0 M) : AW shM 4 E 38 [none, none, none, none] [.inl t0, .inr 0] M := by
  have hf : fMd_pushes t0 M (fun r3 M3 => R 0 M3) := hf
  refine a_callV C [.inl t0] [] dX8_reckons_38 (cMd_pushes _) mv_X8_pushes ln_X8_321 rfl rfl ⟨rfl, rfl, Nat.le_of_ble_eq_true rfl, Nat.le_of_ble_eq_true rfl, Nat.le_of_ble_eq_true rfl⟩ hf (fun r3 M3 hf => ?_)
  exact a_vret C X dX8_reckons_41 hf
set_option maxRecDepth 20000 in
set_option maxHeartbeats 4000000 in
theorem cMd_reckons (x1 : Int) : Snd shM yX8_reckons cX8_reckons 4 none 1 21 [.inr 0, .inl x1] (fMd_reckons x1) := by
  refine Snd.of RX8 (by decide +kernel) rfl (Nat.le_of_ble_eq_true rfl) ?_
  intro E M R hf C X
  show AW shM 4 E 0 [some (.inr 0), some (.inl x1), none, none] [] M
  refine a_aloadn C dX8_reckons_0 rfl ?_
  refine a_callV C [] [] dX8_reckons_1 (cMd_pops) mv_X8_pops ln_X8_318 rfl rfl ⟨rfl, rfl, Nat.le_of_ble_eq_true rfl, Nat.le_of_ble_eq_true rfl, Nat.le_of_ble_eq_true rfl⟩ hf (fun r1 M1 hf => ?_)
  refine a_istoren C dX8_reckons_4 (by decide) (lv2 := [some (.inr 0), some (.inl x1), some (.inl r1), none]) rfl ?_
  refine a_aloadn C dX8_reckons_5 rfl ?_
  refine a_callV C [] [] dX8_reckons_6 (cMd_pops) mv_X8_pops ln_X8_318 rfl rfl ⟨rfl, rfl, Nat.le_of_ble_eq_true rfl, Nat.le_of_ble_eq_true rfl, Nat.le_of_ble_eq_true rfl⟩ hf (fun r2 M2 hf => ?_)
  refine a_istoren C dX8_reckons_9 (by decide) (lv2 := [some (.inr 0), some (.inl x1), some (.inl r1), some (.inl r2)]) rfl ?_
  refine a_aloadn C dX8_reckons_10 rfl ?_
  refine a_iloadn C dX8_reckons_11 rfl ?_
  refine a_bipush C dX8_reckons_12 bp_43 ?_
  obtain ⟨hfa, hfb⟩ := hf
  refine a_icmp_ne C 23 dX8_reckons_14 rfl (fun hc => ?_) (fun hc => ?_)
  · have hf := hfa hc
    refine a_iloadn C dX8_reckons_23 rfl ?_
    refine a_bipush C dX8_reckons_24 bp_45 ?_
    obtain ⟨hfa, hfb⟩ := hf
    refine a_icmp_ne C 35 dX8_reckons_26 rfl (fun hc => ?_) (fun hc => ?_)
    · have hf := hfa hc
      refine a_iloadn C dX8_reckons_35 rfl ?_
      refine a_iloadn C dX8_reckons_36 rfl ?_
      refine a_imul C dX8_reckons_37 ?_
      refine a_drop [false, false, false, false] (lv2 := [none, none, none, none]) rfl ?_
      exact sMd_reckons_38 C X  _ _ hf
    · have hf := hfb hc
      refine a_iloadn C dX8_reckons_29 rfl ?_
      refine a_iloadn C dX8_reckons_30 rfl ?_
      refine a_isub C dX8_reckons_31 ?_
      refine a_goto C 38 dX8_reckons_32 rfl ?_
      refine a_drop [false, false, false, false] (lv2 := [none, none, none, none]) rfl ?_
      exact sMd_reckons_38 C X  _ _ hf
  · have hf := hfb hc
    refine a_iloadn C dX8_reckons_17 rfl ?_
    refine a_iloadn C dX8_reckons_18 rfl ?_
    refine a_iadd C dX8_reckons_19 ?_
    refine a_goto C 38 dX8_reckons_20 rfl ?_
    refine a_drop [false, false, false, false] (lv2 := [none, none, none, none]) rfl ?_
    exact sMd_reckons_38 C X  _ _ hf
