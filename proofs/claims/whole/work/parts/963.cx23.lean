set_option maxRecDepth 20000 in
set_option maxHeartbeats 4000000 in
theorem cCh_leaving (x1 x2 : Int) : Snd shX yX1_leaving cX1_leaving 3 (some .int) 2 53 [.inr 27, .inl x1, .inl x2] (fCh_leaving x1 x2) := by
  refine Snd.of RX1 (by decide +kernel) rfl (Nat.le_of_ble_eq_true rfl) ?_
  intro E M R hf C X
  show AW shX 3 E 0 [some (.inr 27), some (.inl x1), some (.inl x2)] [] M
  refine a_aloadn C dX1_leaving_0 rfl ?_
  refine a_getR C 13 fl_X1_59 rfl rfl dX1_leaving_1 ?_
  refine a_iloadn C dX1_leaving_4 rfl ?_
  refine a_callV C [.inl x1] [] dX1_leaving_5 (cPr_falls_p _) mv_X3_falls ln_X1_157 rfl rfl ⟨rfl, rfl, Nat.le_of_ble_eq_true rfl, Nat.le_of_ble_eq_true rfl, Nat.le_of_ble_eq_true rfl⟩ hf (fun r1 M1 hf => ?_)
  obtain ⟨hfa, hfb⟩ := hf
  refine a_if_eq C 27 dX1_leaving_8 rfl (fun hc => ?_) (fun hc => ?_)
  · have hf := hfa hc
    refine a_aloadn C dX1_leaving_27 rfl ?_
    refine a_iloadn C dX1_leaving_28 rfl ?_
    refine a_iloadn C dX1_leaving_29 rfl ?_
    refine a_callV C [.inl x1, .inl x2] [] dX1_leaving_30 (cCh_leading _ _) mv_X1_leading ln_X1_160 rfl rfl ⟨rfl, rfl, Nat.le_of_ble_eq_true rfl, Nat.le_of_ble_eq_true rfl, Nat.le_of_ble_eq_true rfl⟩ hf (fun r2 M2 hf => ?_)
    exact a_iret C X dX1_leaving_33 hf
  · have hf := hfb hc
    refine a_aloadn C dX1_leaving_11 rfl ?_
    refine a_iloadn C dX1_leaving_12 rfl ?_
    refine a_iloadn C dX1_leaving_13 rfl ?_
    refine a_callV C [.inl x1, .inl x2] [] dX1_leaving_14 (cCh_leading _ _) mv_X1_leading ln_X1_160 rfl rfl ⟨rfl, rfl, Nat.le_of_ble_eq_true rfl, Nat.le_of_ble_eq_true rfl, Nat.le_of_ble_eq_true rfl⟩ hf (fun r3 M3 hf => ?_)
    refine a_aloadn C dX1_leaving_17 rfl ?_
    refine a_iloadn C dX1_leaving_18 rfl ?_
    refine a_iloadn C dX1_leaving_19 rfl ?_
    refine a_callV C [.inl x1, .inl x2] [.inl r3] dX1_leaving_20 (cCh_falling _ _) mv_X1_falling ln_X1_163 rfl rfl ⟨rfl, rfl, Nat.le_of_ble_eq_true rfl, Nat.le_of_ble_eq_true rfl, Nat.le_of_ble_eq_true rfl⟩ hf (fun r4 M4 hf => ?_)
    refine a_iadd C dX1_leaving_23 ?_
    refine a_goto C 33 dX1_leaving_24 rfl ?_
    exact a_iret C X dX1_leaving_33 hf
set_option maxRecDepth 20000 in
set_option maxHeartbeats 4000000 in
theorem sCh_walkBack_181 {E : EE} {R : Int → Mem → Prop} (C : Cx shX 5 cX1_walkBack RX1 3 75 E) (X : Rx shX none R E) {k10 : Int → Mem → Prop} (hk10 : ∀ (x1 : Int) (M : Mem), k10 x1 M → AW shX 5 E 10 [some (.inr 27), some (.inl x1), none, none, none] [] M) (x1 : Int) (M : Mem) (hf : fCh_walkBack_181 k10 R x1 M) : AW shX 5 E 181 [some (.inr 27), some (.inl x1), none, none, none] [] M := by
  refine a_iinc C dX1_walkBack_181 rfl (by decide) (lv2 := [some (.inr 27), some (.inl (wrap (x1 + (-1)))), none, none, none]) rfl ?_
  refine a_goto C 10 dX1_walkBack_184 rfl ?_
  exact hk10 _ _ hf
set_option maxRecDepth 20000 in
set_option maxHeartbeats 4000000 in
theorem sCh_walkBack_126 {E : EE} {R : Int → Mem → Prop} (C : Cx shX 5 cX1_walkBack RX1 3 75 E) (X : Rx shX none R E) {k10 : Int → Mem → Prop} (hk10 : ∀ (x1 : Int) (M : Mem), k10 x1 M → AW shX 5 E 10 [some (.inr 27), some (.inl x1), none, none, none] [] M) : ∀ (n : Nat) (x1 : Int) (x2 : Int) (x3 : Int) (M : Mem), fCh_walkBack_126 k10 R n x1 x2 x3 M → AW shX 5 E 126 [some (.inr 27), some (.inl x1), some (.inl x2), some (.inl x3), none] [] M := by
  intro n
  induction n with
  | zero => intro x1 x2 x3 M hf; exact hf.elim
  | succ n hk126 =>
    intro x1 x2 x3 M hf
    refine a_iloadn C dX1_walkBack_126 rfl ?_
    refine a_aloadn C dX1_walkBack_127 rfl ?_
    refine a_getR C 29 fl_X1_15 rfl rfl dX1_walkBack_128 ?_
    refine a_iloadn C dX1_walkBack_131 rfl ?_
    obtain ⟨hg, hf⟩ := hf
    refine a_iald C (n := 24) rfl hg dX1_walkBack_132 ?_
    obtain ⟨hfa, hfb⟩ := hf
    refine a_icmp_ge C 181 dX1_walkBack_133 rfl (fun hc => ?_) (fun hc => ?_)
    · have hf := hfa hc
      refine a_drop [true, true, false, false, true] (lv2 := [some (.inr 27), some (.inl x1), none, none, none]) rfl ?_
      exact sCh_walkBack_181 C X hk10 _ _ hf
    · have hf := hfb hc
      refine a_iloadn C dX1_walkBack_136 rfl ?_
      refine a_aloadn C dX1_walkBack_137 rfl ?_
      refine a_getR C 28 fl_X1_11 rfl rfl dX1_walkBack_138 ?_
      refine a_iloadn C dX1_walkBack_141 rfl ?_
      refine a_iloadn C dX1_walkBack_142 rfl ?_
      refine a_iadd C dX1_walkBack_143 ?_
      obtain ⟨hg, hf⟩ := hf
      refine a_iald C (n := 384) rfl hg dX1_walkBack_144 ?_
      refine a_iadd C dX1_walkBack_145 ?_
      refine a_istore C dX1_walkBack_146 (by decide) (lv2 := [some (.inr 27), some (.inl x1), some (.inl x2), some (.inl x3), some (.inl (wrap (x2 + (M 28 (wrap (x2 + x3))))))]) rfl ?_
      refine a_aloadn C dX1_walkBack_148 rfl ?_
      refine a_getR C 34 fl_X1_30 rfl rfl dX1_walkBack_149 ?_
      refine a_iload C dX1_walkBack_152 rfl ?_
      refine a_aloadn C dX1_walkBack_154 rfl ?_
      refine a_getR C 33 fl_X1_27 rfl rfl dX1_walkBack_155 ?_
      refine a_iload C dX1_walkBack_158 rfl ?_
      obtain ⟨hg, hf⟩ := hf
      refine a_iald C (n := 384) rfl hg dX1_walkBack_160 ?_
      refine a_aloadn C dX1_walkBack_161 rfl ?_
      refine a_getR C 38 fl_X1_42 rfl rfl dX1_walkBack_162 ?_
      refine a_aloadn C dX1_walkBack_165 rfl ?_
      refine a_getR C 32 fl_X1_24 rfl rfl dX1_walkBack_166 ?_
      refine a_iload C dX1_walkBack_169 rfl ?_
      obtain ⟨hg, hf⟩ := hf
      refine a_iald C (n := 384) rfl hg dX1_walkBack_171 ?_
      obtain ⟨hg, hf⟩ := hf
      refine a_iald C (n := 16) rfl hg dX1_walkBack_172 ?_
      refine a_iadd C dX1_walkBack_173 ?_
      obtain ⟨hg, hf⟩ := hf
      refine a_iast C (n := 384) rfl hg dX1_walkBack_174 ?_
      refine a_iinc C dX1_walkBack_175 rfl (by decide) (lv2 := [some (.inr 27), some (.inl x1), some (.inl x2), some (.inl (wrap (x3 + 1))), some (.inl (wrap (x2 + (M 28 (wrap (x2 + x3))))))]) rfl ?_
      refine a_goto C 126 dX1_walkBack_178 rfl ?_
      refine a_drop [true, true, true, true, false] (lv2 := [some (.inr 27), some (.inl x1), some (.inl x2), some (.inl (wrap (x3 + 1))), none]) rfl ?_
      exact hk126 _ _ _ _ hf
set_option maxRecDepth 20000 in
set_option maxHeartbeats 4000000 in
theorem sCh_walkBack_82 {E : EE} {R : Int → Mem → Prop} (C : Cx shX 5 cX1_walkBack RX1 3 75 E) (X : Rx shX none R E) {k10 : Int → Mem → Prop} (hk10 : ∀ (x1 : Int) (M : Mem), k10 x1 M → AW shX 5 E 10 [some (.inr 27), some (.inl x1), none, none, none] [] M) : ∀ (n : Nat) (x1 : Int) (x2 : Int) (x3 : Int) (M : Mem), fCh_walkBack_82 k10 R n x1 x2 x3 M → AW shX 5 E 82 [some (.inr 27), some (.inl x1), some (.inl x2), some (.inl x3), none] [] M := by
  intro n
  induction n with
  | zero => intro x1 x2 x3 M hf; exact hf.elim
  | succ n hk82 =>
    intro x1 x2 x3 M hf
    refine a_iloadn C dX1_walkBack_82 rfl ?_
    refine a_aloadn C dX1_walkBack_83 rfl ?_
    refine a_getR C 31 fl_X1_21 rfl rfl dX1_walkBack_84 ?_
    refine a_iloadn C dX1_walkBack_87 rfl ?_
    obtain ⟨hg, hf⟩ := hf
    refine a_iald C (n := 24) rfl hg dX1_walkBack_88 ?_
    obtain ⟨hfa, hfb⟩ := hf
    refine a_icmp_ge C 124 dX1_walkBack_89 rfl (fun hc => ?_) (fun hc => ?_)
    · have hf := hfa hc
      refine a_iconst C dX1_walkBack_124 (inr_b rfl) ?_
      refine a_istoren C dX1_walkBack_125 (by decide) (lv2 := [some (.inr 27), some (.inl x1), some (.inl x2), some (.inl 0), none]) rfl ?_
      obtain ⟨n2, hf⟩ := hf
      exact sCh_walkBack_126 C X hk10 n2 _ _ _ _ hf
    · have hf := hfb hc
      refine a_aloadn C dX1_walkBack_92 rfl ?_
      refine a_getR C 38 fl_X1_42 rfl rfl dX1_walkBack_93 ?_
      refine a_aloadn C dX1_walkBack_96 rfl ?_
      refine a_getR C 30 fl_X1_18 rfl rfl dX1_walkBack_97 ?_
      refine a_iloadn C dX1_walkBack_100 rfl ?_
      refine a_iloadn C dX1_walkBack_101 rfl ?_
      refine a_iadd C dX1_walkBack_102 ?_
      obtain ⟨hg, hf⟩ := hf
      refine a_iald C (n := 384) rfl hg dX1_walkBack_103 ?_
      refine a_aloadn C dX1_walkBack_104 rfl ?_
      refine a_iloadn C dX1_walkBack_105 rfl ?_
      refine a_aloadn C dX1_walkBack_106 rfl ?_
      refine a_getR C 30 fl_X1_18 rfl rfl dX1_walkBack_107 ?_
      refine a_iloadn C dX1_walkBack_110 rfl ?_
      refine a_iloadn C dX1_walkBack_111 rfl ?_
      refine a_iadd C dX1_walkBack_112 ?_
      obtain ⟨hg, hf⟩ := hf
      refine a_iald C (n := 384) rfl hg dX1_walkBack_113 ?_
      refine a_callV C [.inl x1, .inl (M 30 (wrap (x2 + x3)))] [.inl (M 30 (wrap (x2 + x3))), .inr 38] dX1_walkBack_114 (cCh_leaving _ _) mv_X1_leaving ln_X1_154 rfl rfl ⟨rfl, rfl, Nat.le_of_ble_eq_true rfl, Nat.le_of_ble_eq_true rfl, Nat.le_of_ble_eq_true rfl⟩ hf (fun r3 M3 hf => ?_)
      obtain ⟨hg, hf⟩ := hf
      refine a_iast C (n := 16) rfl hg dX1_walkBack_117 ?_
      refine a_iinc C dX1_walkBack_118 rfl (by decide) (lv2 := [some (.inr 27), some (.inl x1), some (.inl x2), some (.inl (wrap (x3 + 1))), none]) rfl ?_
      refine a_goto C 82 dX1_walkBack_121 rfl ?_
      exact hk82 _ _ _ _ hf
set_option maxRecDepth 20000 in
set_option maxHeartbeats 4000000 in
theorem sCh_walkBack_10 {E : EE} {R : Int → Mem → Prop} (C : Cx shX 5 cX1_walkBack RX1 3 75 E) (X : Rx shX none R E) : ∀ (n : Nat) (x1 : Int) (M : Mem), fCh_walkBack_10  R n x1 M → AW shX 5 E 10 [some (.inr 27), some (.inl x1), none, none, none] [] M := by
  intro n
  induction n with
  | zero => intro x1 M hf; exact hf.elim
  | succ n hk10 =>
    intro x1 M hf
    refine a_iloadn C dX1_walkBack_10 rfl ?_
    obtain ⟨hfa, hfb⟩ := hf
    refine a_if_lt C 187 dX1_walkBack_11 rfl (fun hc => ?_) (fun hc => ?_)
    · have hf := hfa hc
      exact a_vret C X dX1_walkBack_187 hf
    · have hf := hfb hc
      refine a_aloadn C dX1_walkBack_14 rfl ?_
      refine a_getR C 13 fl_X1_59 rfl rfl dX1_walkBack_15 ?_
      refine a_iloadn C dX1_walkBack_18 rfl ?_
      refine a_callV C [.inl x1] [] dX1_walkBack_19 (cPr_isReached_p _) mv_X3_isReached ln_X1_102 rfl rfl ⟨rfl, rfl, Nat.le_of_ble_eq_true rfl, Nat.le_of_ble_eq_true rfl, Nat.le_of_ble_eq_true rfl⟩ hf (fun r1 M1 hf => ?_)
      obtain ⟨hfa, hfb⟩ := hf
      refine a_if_ne C 28 dX1_walkBack_22 rfl (fun hc => ?_) (fun hc => ?_)
      · have hf := hfa hc
        refine a_iloadn C dX1_walkBack_28 rfl ?_
        refine a_bipush C dX1_walkBack_29 bp_16 ?_
        refine a_imul C dX1_walkBack_31 ?_
        refine a_istoren C dX1_walkBack_32 (by decide) (lv2 := [some (.inr 27), some (.inl x1), some (.inl (wrap (x1 * 16))), none, none]) rfl ?_
        refine a_aloadn C dX1_walkBack_33 rfl ?_
        refine a_getR C 37 fl_X1_39 rfl rfl dX1_walkBack_34 ?_
        refine a_iloadn C dX1_walkBack_37 rfl ?_
        obtain ⟨hg, hf⟩ := hf
        refine a_iald C (n := 24) rfl hg dX1_walkBack_38 ?_
        refine a_bipush C dX1_walkBack_39 bp_m4 ?_
        obtain ⟨hfa, hfb⟩ := hf
        refine a_icmp_eq C 80 dX1_walkBack_41 rfl (fun hc => ?_) (fun hc => ?_)
        · have hf := hfa hc
          refine a_iconst C dX1_walkBack_80 (inr_b rfl) ?_
          refine a_istoren C dX1_walkBack_81 (by decide) (lv2 := [some (.inr 27), some (.inl x1), some (.inl (wrap (x1 * 16))), some (.inl 0), none]) rfl ?_
          obtain ⟨n4, hf⟩ := hf
          exact sCh_walkBack_82 C X hk10 n4 _ _ _ _ hf
        · have hf := hfb hc
          refine a_iloadn C dX1_walkBack_44 rfl ?_
          refine a_aloadn C dX1_walkBack_45 rfl ?_
          refine a_getR C 37 fl_X1_39 rfl rfl dX1_walkBack_46 ?_
          refine a_iloadn C dX1_walkBack_49 rfl ?_
          obtain ⟨hg, hf⟩ := hf
          refine a_iald C (n := 24) rfl hg dX1_walkBack_50 ?_
          refine a_iadd C dX1_walkBack_51 ?_
          refine a_istoren C dX1_walkBack_52 (by decide) (lv2 := [some (.inr 27), some (.inl x1), some (.inl (wrap (x1 * 16))), some (.inl (wrap ((wrap (x1 * 16)) + (M1 37 x1)))), none]) rfl ?_
          refine a_aloadn C dX1_walkBack_53 rfl ?_
          refine a_getR C 34 fl_X1_30 rfl rfl dX1_walkBack_54 ?_
          refine a_iloadn C dX1_walkBack_57 rfl ?_
          refine a_aloadn C dX1_walkBack_58 rfl ?_
          refine a_getR C 33 fl_X1_27 rfl rfl dX1_walkBack_59 ?_
          refine a_iloadn C dX1_walkBack_62 rfl ?_
          obtain ⟨hg, hf⟩ := hf
          refine a_iald C (n := 384) rfl hg dX1_walkBack_63 ?_
          refine a_aloadn C dX1_walkBack_64 rfl ?_
          refine a_iloadn C dX1_walkBack_65 rfl ?_
          refine a_aloadn C dX1_walkBack_66 rfl ?_
          refine a_getR C 32 fl_X1_24 rfl rfl dX1_walkBack_67 ?_
          refine a_iloadn C dX1_walkBack_70 rfl ?_
          obtain ⟨hg, hf⟩ := hf
          refine a_iald C (n := 384) rfl hg dX1_walkBack_71 ?_
          refine a_callV C [.inl x1, .inl (M1 32 (wrap ((wrap (x1 * 16)) + (M1 37 x1))))] [.inl (M1 33 (wrap ((wrap (x1 * 16)) + (M1 37 x1)))), .inl (wrap ((wrap (x1 * 16)) + (M1 37 x1))), .inr 34] dX1_walkBack_72 (cCh_leaving _ _) mv_X1_leaving ln_X1_154 rfl rfl ⟨rfl, rfl, Nat.le_of_ble_eq_true rfl, Nat.le_of_ble_eq_true rfl, Nat.le_of_ble_eq_true rfl⟩ hf (fun r5 M5 hf => ?_)
          refine a_iadd C dX1_walkBack_75 ?_
          obtain ⟨hg, hf⟩ := hf
          refine a_iast C (n := 384) rfl hg dX1_walkBack_76 ?_
          refine a_goto C 181 dX1_walkBack_77 rfl ?_
          refine a_drop [true, true, false, false, true] (lv2 := [some (.inr 27), some (.inl x1), none, none, none]) rfl ?_
          exact sCh_walkBack_181 C X hk10 _ _ hf
      · have hf := hfb hc
        refine a_goto C 181 dX1_walkBack_25 rfl ?_
        exact sCh_walkBack_181 C X hk10 _ _ hf
set_option maxRecDepth 20000 in
set_option maxHeartbeats 4000000 in
theorem cCh_walkBack : Snd shX yX1_walkBack cX1_walkBack 5 none 3 75 [.inr 27] fCh_walkBack := by
  refine Snd.of RX1 (by decide +kernel) rfl (Nat.le_of_ble_eq_true rfl) ?_
  intro E M R hf C X
  show AW shX 5 E 0 [some (.inr 27), none, none, none, none] [] M
  refine a_aloadn C dX1_walkBack_0 rfl ?_
  refine a_getR C 13 fl_X1_59 rfl rfl dX1_walkBack_1 ?_
  refine a_getI C (kz := 6) fl_X1_93 rfl rfl rfl dX1_walkBack_4 ?_
  refine a_iconst C dX1_walkBack_7 (inr_b rfl) ?_
  refine a_isub C dX1_walkBack_8 ?_
  refine a_istoren C dX1_walkBack_9 (by decide) (lv2 := [some (.inr 27), some (.inl (wrap ((M 13 6) - 1))), none, none, none]) rfl ?_
  obtain ⟨n6, hf⟩ := hf
  exact sCh_walkBack_10 C X  n6 _ _ hf
set_option maxRecDepth 20000 in
set_option maxHeartbeats 4000000 in
theorem sCh_pick_150 {E : EE} {R : Int → Mem → Prop} (C : Cx shX 7 cX1_pick RX1 1 23 E) (X : Rx shX none R E) {k2 : Int → Mem → Prop} (hk2 : ∀ (x1 : Int) (M : Mem), k2 x1 M → AW shX 7 E 2 [some (.inr 27), some (.inl x1), none, none, none, none, none] [] M) (x1 : Int) (M : Mem) (hf : fCh_pick_150 k2 R x1 M) : AW shX 7 E 150 [some (.inr 27), some (.inl x1), none, none, none, none, none] [] M := by
  refine a_iinc C dX1_pick_150 rfl (by decide) (lv2 := [some (.inr 27), some (.inl (wrap (x1 + 1))), none, none, none, none, none]) rfl ?_
  refine a_goto C 2 dX1_pick_153 rfl ?_
  exact hk2 _ _ hf
set_option maxRecDepth 20000 in
set_option maxHeartbeats 4000000 in
theorem sCh_pick_144 {E : EE} {R : Int → Mem → Prop} (C : Cx shX 7 cX1_pick RX1 1 23 E) (X : Rx shX none R E) {k87 : Int → Int → Int → Int → Mem → Prop} (hk87 : ∀ (x1 : Int) (x2 : Int) (x3 : Int) (x4 : Int) (M : Mem), k87 x1 x2 x3 x4 M → AW shX 7 E 87 [some (.inr 27), some (.inl x1), some (.inl x2), some (.inl x3), some (.inl x4), none, none] [] M) (x1 : Int) (x2 : Int) (x3 : Int) (x4 : Int) (M : Mem) (hf : fCh_pick_144 k87 R x1 x2 x3 x4 M) : AW shX 7 E 144 [some (.inr 27), some (.inl x1), some (.inl x2), some (.inl x3), some (.inl x4), none, none] [] M := by
  refine a_iinc C dX1_pick_144 rfl (by decide) (lv2 := [some (.inr 27), some (.inl x1), some (.inl x2), some (.inl x3), some (.inl (wrap (x4 + 1))), none, none]) rfl ?_
  refine a_goto C 87 dX1_pick_147 rfl ?_
  exact hk87 _ _ _ _ _ hf
set_option maxRecDepth 20000 in
set_option maxHeartbeats 4000000 in
theorem sCh_pick_87 {E : EE} {R : Int → Mem → Prop} (C : Cx shX 7 cX1_pick RX1 1 23 E) (X : Rx shX none R E) {k2 : Int → Mem → Prop} (hk2 : ∀ (x1 : Int) (M : Mem), k2 x1 M → AW shX 7 E 2 [some (.inr 27), some (.inl x1), none, none, none, none, none] [] M) : ∀ (n : Nat) (x1 : Int) (x2 : Int) (x3 : Int) (x4 : Int) (M : Mem), fCh_pick_87 k2 R n x1 x2 x3 x4 M → AW shX 7 E 87 [some (.inr 27), some (.inl x1), some (.inl x2), some (.inl x3), some (.inl x4), none, none] [] M := by
  intro n
  induction n with
  | zero => intro x1 x2 x3 x4 M hf; exact hf.elim
  | succ n hk87 =>
    intro x1 x2 x3 x4 M hf
    refine a_iload C dX1_pick_87 rfl ?_
    refine a_aloadn C dX1_pick_89 rfl ?_
    refine a_getR C 29 fl_X1_15 rfl rfl dX1_pick_90 ?_
    refine a_iloadn C dX1_pick_93 rfl ?_
    obtain ⟨hg, hf⟩ := hf
    refine a_iald C (n := 24) rfl hg dX1_pick_94 ?_
    obtain ⟨hfa, hfb⟩ := hf
    refine a_icmp_ge C 150 dX1_pick_95 rfl (fun hc => ?_) (fun hc => ?_)
    · have hf := hfa hc
      refine a_drop [true, true, false, false, false, true, true] (lv2 := [some (.inr 27), some (.inl x1), none, none, none, none, none]) rfl ?_
      exact sCh_pick_150 C X hk2 _ _ hf
    · have hf := hfb hc
      refine a_aloadn C dX1_pick_98 rfl ?_
      refine a_getR C 28 fl_X1_11 rfl rfl dX1_pick_99 ?_
      refine a_iloadn C dX1_pick_102 rfl ?_
      refine a_bipush C dX1_pick_103 bp_16 ?_
      refine a_imul C dX1_pick_105 ?_
      refine a_iload C dX1_pick_106 rfl ?_
      refine a_iadd C dX1_pick_108 ?_
      obtain ⟨hg, hf⟩ := hf
      refine a_iald C (n := 384) rfl hg dX1_pick_109 ?_
      refine a_istore C dX1_pick_110 (by decide) (lv2 := [some (.inr 27), some (.inl x1), some (.inl x2), some (.inl x3), some (.inl x4), some (.inl (M 28 (wrap ((wrap (x1 * 16)) + x4)))), none]) rfl ?_
      refine a_aloadn C dX1_pick_112 rfl ?_
      refine a_iloadn C dX1_pick_113 rfl ?_
      refine a_iconst C dX1_pick_114 (inr_b rfl) ?_
      refine a_isub C dX1_pick_115 ?_
      refine a_iloadn C dX1_pick_116 rfl ?_
      refine a_iload C dX1_pick_117 rfl ?_
      refine a_callV C [.inl (wrap (x1 - 1)), .inl x2, .inl (M 28 (wrap ((wrap (x1 * 16)) + x4)))] [] dX1_pick_119 (cCh_fallingTo _ _ _) mv_X1_fallingTo ln_X1_172 rfl rfl ⟨rfl, rfl, Nat.le_of_ble_eq_true rfl, Nat.le_of_ble_eq_true rfl, Nat.le_of_ble_eq_true rfl⟩ hf (fun r2 M2 hf => ?_)
      refine a_istore C dX1_pick_122 (by decide) (lv2 := [some (.inr 27), some (.inl x1), some (.inl x2), some (.inl x3), some (.inl x4), some (.inl (M 28 (wrap ((wrap (x1 * 16)) + x4)))), some (.inl r2)]) rfl ?_
      refine a_iload C dX1_pick_124 rfl ?_
      refine a_iloadn C dX1_pick_126 rfl ?_
      obtain ⟨hfa, hfb⟩ := hf
      refine a_icmp_lt C 133 dX1_pick_127 rfl (fun hc => ?_) (fun hc => ?_)
      · have hf := hfa hc
        refine a_iload C dX1_pick_133 rfl ?_
        refine a_istoren C dX1_pick_135 (by decide) (lv2 := [some (.inr 27), some (.inl x1), some (.inl x2), some (.inl r2), some (.inl x4), some (.inl (M 28 (wrap ((wrap (x1 * 16)) + x4)))), some (.inl r2)]) rfl ?_
        refine a_aloadn C dX1_pick_136 rfl ?_
        refine a_getR C 39 fl_X1_45 rfl rfl dX1_pick_137 ?_
        refine a_iloadn C dX1_pick_140 rfl ?_
        refine a_iload C dX1_pick_141 rfl ?_
        obtain ⟨hg, hf⟩ := hf
        refine a_iast C (n := 24) rfl hg dX1_pick_143 ?_
        refine a_drop [true, true, true, true, true, false, false] (lv2 := [some (.inr 27), some (.inl x1), some (.inl x2), some (.inl r2), some (.inl x4), none, none]) rfl ?_
        exact sCh_pick_144 C X hk87 _ _ _ _ _ hf
      · have hf := hfb hc
        refine a_goto C 144 dX1_pick_130 rfl ?_
        refine a_drop [true, true, true, true, true, false, false] (lv2 := [some (.inr 27), some (.inl x1), some (.inl x2), some (.inl x3), some (.inl x4), none, none]) rfl ?_
        exact sCh_pick_144 C X hk87 _ _ _ _ _ hf
set_option maxRecDepth 20000 in
set_option maxHeartbeats 4000000 in
theorem sCh_pick_2 {E : EE} {R : Int → Mem → Prop} (C : Cx shX 7 cX1_pick RX1 1 23 E) (X : Rx shX none R E) : ∀ (n : Nat) (x1 : Int) (M : Mem), fCh_pick_2  R n x1 M → AW shX 7 E 2 [some (.inr 27), some (.inl x1), none, none, none, none, none] [] M := by
  intro n
  induction n with
  | zero => intro x1 M hf; exact hf.elim
  | succ n hk2 =>
    intro x1 M hf
    refine a_iloadn C dX1_pick_2 rfl ?_
    refine a_aloadn C dX1_pick_3 rfl ?_
    refine a_getR C 13 fl_X1_59 rfl rfl dX1_pick_4 ?_
    refine a_getI C (kz := 6) fl_X1_93 rfl rfl rfl dX1_pick_7 ?_
    obtain ⟨hfa, hfb⟩ := hf
    refine a_icmp_ge C 156 dX1_pick_10 rfl (fun hc => ?_) (fun hc => ?_)
    · have hf := hfa hc
      exact a_vret C X dX1_pick_156 hf
    · have hf := hfb hc
      refine a_aloadn C dX1_pick_13 rfl ?_
      refine a_getR C 39 fl_X1_45 rfl rfl dX1_pick_14 ?_
      refine a_iloadn C dX1_pick_17 rfl ?_
      refine a_iconst C dX1_pick_18 (inr_b rfl) ?_
      obtain ⟨hg, hf⟩ := hf
      refine a_iast C (n := 24) rfl hg dX1_pick_19 ?_
      refine a_aloadn C dX1_pick_20 rfl ?_
      refine a_getR C 13 fl_X1_59 rfl rfl dX1_pick_21 ?_
      refine a_iloadn C dX1_pick_24 rfl ?_
      refine a_callV C [.inl x1] [] dX1_pick_25 (cPr_isReached_p _) mv_X3_isReached ln_X1_102 rfl rfl ⟨rfl, rfl, Nat.le_of_ble_eq_true rfl, Nat.le_of_ble_eq_true rfl, Nat.le_of_ble_eq_true rfl⟩ hf (fun r1 M1 hf => ?_)
      obtain ⟨hfa, hfb⟩ := hf
      refine a_if_ne C 34 dX1_pick_28 rfl (fun hc => ?_) (fun hc => ?_)
      · have hf := hfa hc
        refine a_aloadn C dX1_pick_34 rfl ?_
        refine a_getR C 37 fl_X1_39 rfl rfl dX1_pick_35 ?_
        refine a_iloadn C dX1_pick_38 rfl ?_
        obtain ⟨hg, hf⟩ := hf
        refine a_iald C (n := 24) rfl hg dX1_pick_39 ?_
        refine a_bipush C dX1_pick_40 bp_m4 ?_
        obtain ⟨hfa, hfb⟩ := hf
        refine a_icmp_eq C 60 dX1_pick_42 rfl (fun hc => ?_) (fun hc => ?_)
        · have hf := hfa hc
          refine a_aloadn C dX1_pick_60 rfl ?_
          refine a_getR C 32 fl_X1_24 rfl rfl dX1_pick_61 ?_
          refine a_iloadn C dX1_pick_64 rfl ?_
          refine a_iconst C dX1_pick_65 (inr_b rfl) ?_
          refine a_isub C dX1_pick_66 ?_
          refine a_bipush C dX1_pick_67 bp_16 ?_
          refine a_imul C dX1_pick_69 ?_
          refine a_aloadn C dX1_pick_70 rfl ?_
          refine a_getR C 39 fl_X1_45 rfl rfl dX1_pick_71 ?_
          refine a_iloadn C dX1_pick_74 rfl ?_
          refine a_iconst C dX1_pick_75 (inr_b rfl) ?_
          refine a_isub C dX1_pick_76 ?_
          obtain ⟨hg, hf⟩ := hf
          refine a_iald C (n := 24) rfl hg dX1_pick_77 ?_
          refine a_iadd C dX1_pick_78 ?_
          obtain ⟨hg, hf⟩ := hf
          refine a_iald C (n := 384) rfl hg dX1_pick_79 ?_
          refine a_istoren C dX1_pick_80 (by decide) (lv2 := [some (.inr 27), some (.inl x1), some (.inl (M1 32 (wrap ((wrap ((wrap (x1 - 1)) * 16)) + (M1 39 (wrap (x1 - 1))))))), none, none, none, none]) rfl ?_
          refine a_ldc C dX1_pick_81 ct_X1_86 (inr_b rfl) ?_
          refine a_istoren C dX1_pick_83 (by decide) (lv2 := [some (.inr 27), some (.inl x1), some (.inl (M1 32 (wrap ((wrap ((wrap (x1 - 1)) * 16)) + (M1 39 (wrap (x1 - 1))))))), some (.inl 1000000000), none, none, none]) rfl ?_
          refine a_iconst C dX1_pick_84 (inr_b rfl) ?_
          refine a_istore C dX1_pick_85 (by decide) (lv2 := [some (.inr 27), some (.inl x1), some (.inl (M1 32 (wrap ((wrap ((wrap (x1 - 1)) * 16)) + (M1 39 (wrap (x1 - 1))))))), some (.inl 1000000000), some (.inl 0), none, none]) rfl ?_
          obtain ⟨n3, hf⟩ := hf
          exact sCh_pick_87 C X hk2 n3 _ _ _ _ _ hf
        · have hf := hfb hc
          refine a_aloadn C dX1_pick_45 rfl ?_
          refine a_getR C 39 fl_X1_45 rfl rfl dX1_pick_46 ?_
          refine a_iloadn C dX1_pick_49 rfl ?_
          refine a_aloadn C dX1_pick_50 rfl ?_
          refine a_getR C 37 fl_X1_39 rfl rfl dX1_pick_51 ?_
          refine a_iloadn C dX1_pick_54 rfl ?_
          obtain ⟨hg, hf⟩ := hf
          refine a_iald C (n := 24) rfl hg dX1_pick_55 ?_
          obtain ⟨hg, hf⟩ := hf
          refine a_iast C (n := 24) rfl hg dX1_pick_56 ?_
          refine a_goto C 150 dX1_pick_57 rfl ?_
          exact sCh_pick_150 C X hk2 _ _ hf
      · have hf := hfb hc
        refine a_goto C 150 dX1_pick_31 rfl ?_
        exact sCh_pick_150 C X hk2 _ _ hf
set_option maxRecDepth 20000 in
set_option maxHeartbeats 4000000 in
theorem cCh_pick : Snd shX yX1_pick cX1_pick 7 none 1 23 [.inr 27] fCh_pick := by
  refine Snd.of RX1 (by decide +kernel) rfl (Nat.le_of_ble_eq_true rfl) ?_
  intro E M R hf C X
  show AW shX 7 E 0 [some (.inr 27), none, none, none, none, none, none] [] M
  refine a_iconst C dX1_pick_0 (inr_b rfl) ?_
  refine a_istoren C dX1_pick_1 (by decide) (lv2 := [some (.inr 27), some (.inl 0), none, none, none, none, none]) rfl ?_
  obtain ⟨n4, hf⟩ := hf
  exact sCh_pick_2 C X  n4 _ _ hf
set_option maxRecDepth 20000 in
set_option maxHeartbeats 4000000 in
theorem sPr_isHead_p_24 {E : EE} {R : Int → Mem → Prop} (C : Cx shX 2 cX3_isHead RX3 1 21 E) (X : Rx shX (some .boolean) R E) (M : Mem) (hf : fPr_isHead_p_24  R M) : AW shX 2 E 24 [none, none] [] M := by
  refine a_iconst C dX3_isHead_24 (inr_b rfl) ?_
  refine a_goto C 29 dX3_isHead_25 rfl ?_
  exact a_bret C X (Or.inr rfl) dX3_isHead_29 hf
set_option maxRecDepth 20000 in
set_option maxHeartbeats 4000000 in
theorem cPr_isHead_p (x1 : Int) : Snd shX yX3_isHead cX3_isHead 2 (some .boolean) 1 21 [.inr 13, .inl x1] (fPr_isHead_p x1) := by
  refine Snd.of RX3 (by decide +kernel) rfl (Nat.le_of_ble_eq_true rfl) ?_
  intro E M R hf C X
  show AW shX 2 E 0 [some (.inr 13), some (.inl x1)] [] M
  refine a_iloadn C dX3_isHead_0 rfl ?_
  obtain ⟨hfa, hfb⟩ := hf
  refine a_if_eq C 24 dX3_isHead_1 rfl (fun hc => ?_) (fun hc => ?_)
  · have hf := hfa hc
    refine a_drop [false, false] (lv2 := [none, none]) rfl ?_
    exact sPr_isHead_p_24 C X   _ hf
  · have hf := hfb hc
    refine a_aloadn C dX3_isHead_4 rfl ?_
    refine a_iloadn C dX3_isHead_5 rfl ?_
    refine a_iconst C dX3_isHead_6 (inr_b rfl) ?_
    refine a_isub C dX3_isHead_7 ?_
    refine a_callV C [.inl (wrap (x1 - 1))] [] dX3_isHead_8 (cPr_isReached_p _) mv_X3_isReached ln_X3_94 rfl rfl ⟨rfl, rfl, Nat.le_of_ble_eq_true rfl, Nat.le_of_ble_eq_true rfl, Nat.le_of_ble_eq_true rfl⟩ hf (fun r1 M1 hf => ?_)
    obtain ⟨hfa, hfb⟩ := hf
    refine a_if_eq C 24 dX3_isHead_11 rfl (fun hc => ?_) (fun hc => ?_)
    · have hf := hfa hc
      refine a_drop [false, false] (lv2 := [none, none]) rfl ?_
      exact sPr_isHead_p_24 C X   _ hf
    · have hf := hfb hc
      refine a_aloadn C dX3_isHead_14 rfl ?_
      refine a_iloadn C dX3_isHead_15 rfl ?_
      refine a_iconst C dX3_isHead_16 (inr_b rfl) ?_
      refine a_isub C dX3_isHead_17 ?_
      refine a_callV C [.inl (wrap (x1 - 1))] [] dX3_isHead_18 (cPr_falls_p _) mv_X3_falls ln_X3_103 rfl rfl ⟨rfl, rfl, Nat.le_of_ble_eq_true rfl, Nat.le_of_ble_eq_true rfl, Nat.le_of_ble_eq_true rfl⟩ hf (fun r2 M2 hf => ?_)
      obtain ⟨hfa, hfb⟩ := hf
      refine a_if_ne C 28 dX3_isHead_21 rfl (fun hc => ?_) (fun hc => ?_)
      · have hf := hfa hc
        refine a_iconst C dX3_isHead_28 (inr_b rfl) ?_
        exact a_bret C X (Or.inl rfl) dX3_isHead_29 hf
      · have hf := hfb hc
        refine a_drop [false, false] (lv2 := [none, none]) rfl ?_
        exact sPr_isHead_p_24 C X   _ hf
set_option maxRecDepth 20000 in
set_option maxHeartbeats 4000000 in
theorem sCh_total_56 {E : EE} {R : Int → Mem → Prop} (C : Cx shX 3 cX1_total RX1 2 42 E) (X : Rx shX (some .int) R E) {k4 : Int → Int → Mem → Prop} (hk4 : ∀ (x1 : Int) (x2 : Int) (M : Mem), k4 x1 x2 M → AW shX 3 E 4 [some (.inr 27), some (.inl x1), some (.inl x2)] [] M) (x1 : Int) (x2 : Int) (M : Mem) (hf : fCh_total_56 k4 R x1 x2 M) : AW shX 3 E 56 [some (.inr 27), some (.inl x1), some (.inl x2)] [] M := by
  refine a_iinc C dX1_total_56 rfl (by decide) (lv2 := [some (.inr 27), some (.inl x1), some (.inl (wrap (x2 + 1)))]) rfl ?_
  refine a_goto C 4 dX1_total_59 rfl ?_
  exact hk4 _ _ _ hf
set_option maxRecDepth 20000 in
set_option maxHeartbeats 4000000 in
theorem sCh_total_4 {E : EE} {R : Int → Mem → Prop} (C : Cx shX 3 cX1_total RX1 2 42 E) (X : Rx shX (some .int) R E) : ∀ (n : Nat) (x1 : Int) (x2 : Int) (M : Mem), fCh_total_4  R n x1 x2 M → AW shX 3 E 4 [some (.inr 27), some (.inl x1), some (.inl x2)] [] M := by
  intro n
  induction n with
  | zero => intro x1 x2 M hf; exact hf.elim
  | succ n hk4 =>
    intro x1 x2 M hf
    refine a_iloadn C dX1_total_4 rfl ?_
    refine a_aloadn C dX1_total_5 rfl ?_
    refine a_getR C 13 fl_X1_59 rfl rfl dX1_total_6 ?_
    refine a_getI C (kz := 6) fl_X1_93 rfl rfl rfl dX1_total_9 ?_
    obtain ⟨hfa, hfb⟩ := hf
    refine a_icmp_ge C 62 dX1_total_12 rfl (fun hc => ?_) (fun hc => ?_)
    · have hf := hfa hc
      refine a_iloadn C dX1_total_62 rfl ?_
      exact a_iret C X dX1_total_63 hf
    · have hf := hfb hc
      refine a_aloadn C dX1_total_15 rfl ?_
      refine a_getR C 13 fl_X1_59 rfl rfl dX1_total_16 ?_
      refine a_iloadn C dX1_total_19 rfl ?_
      refine a_callV C [.inl x2] [] dX1_total_20 (cPr_isReached_p _) mv_X3_isReached ln_X1_102 rfl rfl ⟨rfl, rfl, Nat.le_of_ble_eq_true rfl, Nat.le_of_ble_eq_true rfl, Nat.le_of_ble_eq_true rfl⟩ hf (fun r1 M1 hf => ?_)
      obtain ⟨hfa, hfb⟩ := hf
      refine a_if_eq C 56 dX1_total_23 rfl (fun hc => ?_) (fun hc => ?_)
      · have hf := hfa hc
        exact sCh_total_56 C X hk4 _ _ _ hf
      · have hf := hfb hc
        refine a_aloadn C dX1_total_26 rfl ?_
        refine a_getR C 13 fl_X1_59 rfl rfl dX1_total_27 ?_
        refine a_iloadn C dX1_total_30 rfl ?_
        refine a_callV C [.inl x2] [] dX1_total_31 (cPr_isHead_p _) mv_X3_isHead ln_X1_176 rfl rfl ⟨rfl, rfl, Nat.le_of_ble_eq_true rfl, Nat.le_of_ble_eq_true rfl, Nat.le_of_ble_eq_true rfl⟩ hf (fun r2 M2 hf => ?_)
        obtain ⟨hfa, hfb⟩ := hf
        refine a_if_eq C 56 dX1_total_34 rfl (fun hc => ?_) (fun hc => ?_)
        · have hf := hfa hc
          exact sCh_total_56 C X hk4 _ _ _ hf
        · have hf := hfb hc
          refine a_iloadn C dX1_total_37 rfl ?_
          refine a_aloadn C dX1_total_38 rfl ?_
          refine a_getR C 34 fl_X1_30 rfl rfl dX1_total_39 ?_
          refine a_iloadn C dX1_total_42 rfl ?_
          refine a_bipush C dX1_total_43 bp_16 ?_
          refine a_imul C dX1_total_45 ?_
          refine a_aloadn C dX1_total_46 rfl ?_
          refine a_getR C 37 fl_X1_39 rfl rfl dX1_total_47 ?_
          refine a_iloadn C dX1_total_50 rfl ?_
          obtain ⟨hg, hf⟩ := hf
          refine a_iald C (n := 24) rfl hg dX1_total_51 ?_
          refine a_iadd C dX1_total_52 ?_
          obtain ⟨hg, hf⟩ := hf
          refine a_iald C (n := 384) rfl hg dX1_total_53 ?_
          refine a_iadd C dX1_total_54 ?_
          refine a_istoren C dX1_total_55 (by decide) (lv2 := [some (.inr 27), some (.inl (wrap (x1 + (M2 34 (wrap ((wrap (x2 * 16)) + (M2 37 x2))))))), some (.inl x2)]) rfl ?_
          exact sCh_total_56 C X hk4 _ _ _ hf
set_option maxRecDepth 20000 in
set_option maxHeartbeats 4000000 in
theorem cCh_total : Snd shX yX1_total cX1_total 3 (some .int) 2 42 [.inr 27] fCh_total := by
  refine Snd.of RX1 (by decide +kernel) rfl (Nat.le_of_ble_eq_true rfl) ?_
  intro E M R hf C X
  show AW shX 3 E 0 [some (.inr 27), none, none] [] M
  refine a_iconst C dX1_total_0 (inr_b rfl) ?_
  refine a_istoren C dX1_total_1 (by decide) (lv2 := [some (.inr 27), some (.inl 0), none]) rfl ?_
  refine a_iconst C dX1_total_2 (inr_b rfl) ?_
  refine a_istoren C dX1_total_3 (by decide) (lv2 := [some (.inr 27), some (.inl 0), some (.inl 0)]) rfl ?_
  obtain ⟨n3, hf⟩ := hf
  exact sCh_total_4 C X  n3 _ _ _ hf
set_option maxRecDepth 20000 in
set_option maxHeartbeats 4000000 in
theorem sCh_noteLeast_93 {E : EE} {R : Int → Mem → Prop} (C : Cx shX 6 cX1_noteLeast RX1 1 21 E) (X : Rx shX none R E) {k2 : Int → Int → Int → Mem → Prop} (hk2 : ∀ (x1 : Int) (x2 : Int) (x3 : Int) (M : Mem), k2 x1 x2 x3 M → AW shX 6 E 2 [some (.inr 27), some (.inl x1), some (.inl x2), some (.inl x3), none, none] [] M) (x1 : Int) (x2 : Int) (x3 : Int) (M : Mem) (hf : fCh_noteLeast_93 k2 R x1 x2 x3 M) : AW shX 6 E 93 [some (.inr 27), some (.inl x1), some (.inl x2), some (.inl x3), none, none] [] M := by
  refine a_iinc C dX1_noteLeast_93 rfl (by decide) (lv2 := [some (.inr 27), some (.inl x1), some (.inl x2), some (.inl (wrap (x3 + 1))), none, none]) rfl ?_
  refine a_goto C 2 dX1_noteLeast_96 rfl ?_
  exact hk2 _ _ _ _ hf
set_option maxRecDepth 20000 in
set_option maxHeartbeats 4000000 in
theorem sCh_noteLeast_50 {E : EE} {R : Int → Mem → Prop} (C : Cx shX 6 cX1_noteLeast RX1 1 21 E) (X : Rx shX none R E) {k2 : Int → Int → Int → Mem → Prop} (hk2 : ∀ (x1 : Int) (x2 : Int) (x3 : Int) (M : Mem), k2 x1 x2 x3 M → AW shX 6 E 2 [some (.inr 27), some (.inl x1), some (.inl x2), some (.inl x3), none, none] [] M) (x1 : Int) (x2 : Int) (x3 : Int) (x4 : Int) (M : Mem) (hf : fCh_noteLeast_50 k2 R x1 x2 x3 x4 M) : AW shX 6 E 50 [some (.inr 27), some (.inl x1), some (.inl x2), some (.inl x3), some (.inl x4), none] [] M := by
  refine a_iloadn C dX1_noteLeast_50 rfl ?_
  refine a_bipush C dX1_noteLeast_51 bp_16 ?_
  refine a_imul C dX1_noteLeast_53 ?_
  refine a_iload C dX1_noteLeast_54 rfl ?_
  refine a_iadd C dX1_noteLeast_56 ?_
  refine a_istore C dX1_noteLeast_57 (by decide) (lv2 := [some (.inr 27), some (.inl x1), some (.inl x2), some (.inl x3), some (.inl x4), some (.inl (wrap ((wrap (x1 * 16)) + x4)))]) rfl ?_
  refine a_aloadn C dX1_noteLeast_59 rfl ?_
  refine a_getR C 36 fl_X1_36 rfl rfl dX1_noteLeast_60 ?_
  refine a_iload C dX1_noteLeast_63 rfl ?_
  refine a_aloadn C dX1_noteLeast_65 rfl ?_
  refine a_getR C 36 fl_X1_36 rfl rfl dX1_noteLeast_66 ?_
  refine a_iload C dX1_noteLeast_69 rfl ?_
  obtain ⟨hg, hf⟩ := hf
  refine a_iald C (n := 384) rfl hg dX1_noteLeast_71 ?_
  refine a_iloadn C dX1_noteLeast_72 rfl ?_
  refine a_aloadn C dX1_noteLeast_73 rfl ?_
  refine a_getR C 35 fl_X1_33 rfl rfl dX1_noteLeast_74 ?_
  refine a_iload C dX1_noteLeast_77 rfl ?_
  obtain ⟨hg, hf⟩ := hf
  refine a_iald C (n := 384) rfl hg dX1_noteLeast_79 ?_
  refine a_iadd C dX1_noteLeast_80 ?_
  refine a_aloadn C dX1_noteLeast_81 rfl ?_
  refine a_getR C 34 fl_X1_30 rfl rfl dX1_noteLeast_82 ?_
  refine a_iload C dX1_noteLeast_85 rfl ?_
  obtain ⟨hg, hf⟩ := hf
  refine a_iald C (n := 384) rfl hg dX1_noteLeast_87 ?_
  refine a_iadd C dX1_noteLeast_88 ?_
  refine a_callS C [.inl (M 36 (wrap ((wrap (x1 * 16)) + x4))), .inl (wrap ((wrap (x2 + (M 35 (wrap ((wrap (x1 * 16)) + x4))))) + (M 34 (wrap ((wrap (x1 * 16)) + x4)))))] [.inl (wrap ((wrap (x1 * 16)) + x4)), .inr 36] dX1_noteLeast_89 (cMath_min _ _) ms_J9_min_7cf53 ln_X1_185 ⟨rfl, rfl, Nat.le_of_ble_eq_true rfl, Nat.le_of_ble_eq_true rfl, Nat.le_of_ble_eq_true rfl⟩ hf (fun r1 M1 hf => ?_)
  obtain ⟨hg, hf⟩ := hf
  refine a_iast C (n := 384) rfl hg dX1_noteLeast_92 ?_
  refine a_drop [true, true, true, true, false, false] (lv2 := [some (.inr 27), some (.inl x1), some (.inl x2), some (.inl x3), none, none]) rfl ?_
  exact sCh_noteLeast_93 C X hk2 _ _ _ _ hf
set_option maxRecDepth 20000 in
set_option maxHeartbeats 4000000 in
theorem sCh_noteLeast_2 {E : EE} {R : Int → Mem → Prop} (C : Cx shX 6 cX1_noteLeast RX1 1 21 E) (X : Rx shX none R E) : ∀ (n : Nat) (x1 : Int) (x2 : Int) (x3 : Int) (M : Mem), fCh_noteLeast_2  R n x1 x2 x3 M → AW shX 6 E 2 [some (.inr 27), some (.inl x1), some (.inl x2), some (.inl x3), none, none] [] M := by
  intro n
  induction n with
  | zero => intro x1 x2 x3 M hf; exact hf.elim
  | succ n hk2 =>
    intro x1 x2 x3 M hf
    refine a_iloadn C dX1_noteLeast_2 rfl ?_
    refine a_aloadn C dX1_noteLeast_3 rfl ?_
    refine a_getR C 29 fl_X1_15 rfl rfl dX1_noteLeast_4 ?_
    refine a_iloadn C dX1_noteLeast_7 rfl ?_
    obtain ⟨hg, hf⟩ := hf
    refine a_iald C (n := 24) rfl hg dX1_noteLeast_8 ?_
    obtain ⟨hfa, hfb⟩ := hf
    refine a_icmp_ge C 99 dX1_noteLeast_9 rfl (fun hc => ?_) (fun hc => ?_)
    · have hf := hfa hc
      exact a_vret C X dX1_noteLeast_99 hf
    · have hf := hfb hc
      refine a_aloadn C dX1_noteLeast_12 rfl ?_
      refine a_getR C 28 fl_X1_11 rfl rfl dX1_noteLeast_13 ?_
      refine a_iloadn C dX1_noteLeast_16 rfl ?_
      refine a_bipush C dX1_noteLeast_17 bp_16 ?_
      refine a_imul C dX1_noteLeast_19 ?_
      refine a_iloadn C dX1_noteLeast_20 rfl ?_
      refine a_iadd C dX1_noteLeast_21 ?_
      obtain ⟨hg, hf⟩ := hf
      refine a_iald C (n := 384) rfl hg dX1_noteLeast_22 ?_
      refine a_istore C dX1_noteLeast_23 (by decide) (lv2 := [some (.inr 27), some (.inl x1), some (.inl x2), some (.inl x3), some (.inl (M 28 (wrap ((wrap (x1 * 16)) + x3)))), none]) rfl ?_
      refine a_aloadn C dX1_noteLeast_25 rfl ?_
      refine a_getR C 37 fl_X1_39 rfl rfl dX1_noteLeast_26 ?_
      refine a_iloadn C dX1_noteLeast_29 rfl ?_
      obtain ⟨hg, hf⟩ := hf
      refine a_iald C (n := 24) rfl hg dX1_noteLeast_30 ?_
      refine a_bipush C dX1_noteLeast_31 bp_m4 ?_
      obtain ⟨hfa, hfb⟩ := hf
      refine a_icmp_eq C 50 dX1_noteLeast_33 rfl (fun hc => ?_) (fun hc => ?_)
      · have hf := hfa hc
        exact sCh_noteLeast_50 C X hk2 _ _ _ _ _ hf
      · have hf := hfb hc
        refine a_aloadn C dX1_noteLeast_36 rfl ?_
        refine a_getR C 37 fl_X1_39 rfl rfl dX1_noteLeast_37 ?_
        refine a_iloadn C dX1_noteLeast_40 rfl ?_
        obtain ⟨hg, hf⟩ := hf
        refine a_iald C (n := 24) rfl hg dX1_noteLeast_41 ?_
        refine a_iload C dX1_noteLeast_42 rfl ?_
        obtain ⟨hfa, hfb⟩ := hf
        refine a_icmp_eq C 50 dX1_noteLeast_44 rfl (fun hc => ?_) (fun hc => ?_)
        · have hf := hfa hc
          exact sCh_noteLeast_50 C X hk2 _ _ _ _ _ hf
        · have hf := hfb hc
          refine a_goto C 93 dX1_noteLeast_47 rfl ?_
          refine a_drop [true, true, true, true, false, true] (lv2 := [some (.inr 27), some (.inl x1), some (.inl x2), some (.inl x3), none, none]) rfl ?_
          exact sCh_noteLeast_93 C X hk2 _ _ _ _ hf
set_option maxRecDepth 20000 in
set_option maxHeartbeats 4000000 in
theorem cCh_noteLeast (x1 x2 : Int) : Snd shX yX1_noteLeast cX1_noteLeast 6 none 1 21 [.inr 27, .inl x1, .inl x2] (fCh_noteLeast x1 x2) := by
  refine Snd.of RX1 (by decide +kernel) rfl (Nat.le_of_ble_eq_true rfl) ?_
  intro E M R hf C X
  show AW shX 6 E 0 [some (.inr 27), some (.inl x1), some (.inl x2), none, none, none] [] M
  refine a_iconst C dX1_noteLeast_0 (inr_b rfl) ?_
  refine a_istoren C dX1_noteLeast_1 (by decide) (lv2 := [some (.inr 27), some (.inl x1), some (.inl x2), some (.inl 0), none, none]) rfl ?_
  obtain ⟨n2, hf⟩ := hf
  exact sCh_noteLeast_2 C X  n2 _ _ _ _ hf
set_option maxRecDepth 20000 in
set_option maxHeartbeats 4000000 in
theorem sArr_fill_38_5 {E : EE} {R : Int → Mem → Prop} (C : Cx shX 4 cJ7_fill_53178 RJ7 0 0 E) (X : Rx shX none R E) : ∀ (n : Nat) (x1 : Int) (x2 : Int) (x3 : Int) (M : Mem), fArr_fill_38_5  R n x1 x2 x3 M → AW shX 4 E 5 [some (.inr 38), some (.inl x1), some (.inl x2), some (.inl x3)] [] M := by
  intro n
  induction n with
  | zero => intro x1 x2 x3 M hf; exact hf.elim
  | succ n hk5 =>
    intro x1 x2 x3 M hf
    refine a_iloadn C dJ7_fill_53178_5 rfl ?_
    refine a_iloadn C dJ7_fill_53178_6 rfl ?_
    obtain ⟨hfa, hfb⟩ := hf
    refine a_icmp_ge C 20 dJ7_fill_53178_7 rfl (fun hc => ?_) (fun hc => ?_)
    · have hf := hfa hc
      exact a_vret C X dJ7_fill_53178_20 hf
    · have hf := hfb hc
      refine a_aloadn C dJ7_fill_53178_10 rfl ?_
      refine a_iloadn C dJ7_fill_53178_11 rfl ?_
      refine a_iloadn C dJ7_fill_53178_12 rfl ?_
      obtain ⟨hg, hf⟩ := hf
      refine a_iast C (n := 16) rfl hg dJ7_fill_53178_13 ?_
      refine a_iinc C dJ7_fill_53178_14 rfl (by decide) (lv2 := [some (.inr 38), some (.inl x1), some (.inl (wrap (x2 + 1))), some (.inl x3)]) rfl ?_
      refine a_goto C 5 dJ7_fill_53178_17 rfl ?_
      exact hk5 _ _ _ _ hf
set_option maxRecDepth 20000 in
set_option maxHeartbeats 4000000 in
theorem cArr_fill_38 (x1 : Int) : Snd shX yJ7_fill_53178 cJ7_fill_53178 4 none 0 0 [.inr 38, .inl x1] (fArr_fill_38 x1) := by
  refine Snd.of RJ7 (by decide +kernel) rfl (Nat.le_of_ble_eq_true rfl) ?_
  intro E M R hf C X
  show AW shX 4 E 0 [some (.inr 38), some (.inl x1), none, none] [] M
  refine a_iconst C dJ7_fill_53178_0 (inr_b rfl) ?_
  refine a_istoren C dJ7_fill_53178_1 (by decide) (lv2 := [some (.inr 38), some (.inl x1), some (.inl 0), none]) rfl ?_
  refine a_aloadn C dJ7_fill_53178_2 rfl ?_
  refine a_alen C 16 rfl rfl rfl (inr_b rfl) dJ7_fill_53178_3 ?_
  refine a_istoren C dJ7_fill_53178_4 (by decide) (lv2 := [some (.inr 38), some (.inl x1), some (.inl 0), some (.inl 16)]) rfl ?_
  obtain ⟨n1, hf⟩ := hf
  exact sArr_fill_38_5 C X  n1 _ _ _ _ hf
set_option maxRecDepth 20000 in
set_option maxHeartbeats 4000000 in
theorem sCh_cheapestEntry_83 {E : EE} {R : Int → Mem → Prop} (C : Cx shX 10 cX1_cheapestEntry RX1 0 0 E) (X : Rx shX (some .int) R E) {k32 : Int → Int → Int → Int → Int → Mem → Prop} (hk32 : ∀ (x2 : Int) (x3 : Int) (x5 : Int) (x6 : Int) (x7 : Int) (M : Mem), k32 x2 x3 x5 x6 x7 M → AW shX 10 E 32 [some (.inr 27), none, some (.inl x2), some (.inl x3), none, some (.inl x5), some (.inl x6), some (.inl x7), none, none] [] M) (x2 : Int) (x3 : Int) (x5 : Int) (x6 : Int) (x7 : Int) (M : Mem) (hf : fCh_cheapestEntry_83 k32 R x2 x3 x5 x6 x7 M) : AW shX 10 E 83 [some (.inr 27), none, some (.inl x2), some (.inl x3), none, some (.inl x5), some (.inl x6), some (.inl x7), none, none] [] M := by
  refine a_iinc C dX1_cheapestEntry_83 rfl (by decide) (lv2 := [some (.inr 27), none, some (.inl x2), some (.inl x3), none, some (.inl x5), some (.inl x6), some (.inl (wrap (x7 + 1))), none, none]) rfl ?_
  refine a_goto C 32 dX1_cheapestEntry_86 rfl ?_
  exact hk32 _ _ _ _ _ _ hf
set_option maxRecDepth 20000 in
set_option maxHeartbeats 4000000 in
theorem sCh_cheapestEntry_32 {E : EE} {R : Int → Mem → Prop} (C : Cx shX 10 cX1_cheapestEntry RX1 0 0 E) (X : Rx shX (some .int) R E) : ∀ (n : Nat) (x2 : Int) (x3 : Int) (x5 : Int) (x6 : Int) (x7 : Int) (M : Mem), fCh_cheapestEntry_32  R n x2 x3 x5 x6 x7 M → AW shX 10 E 32 [some (.inr 27), none, some (.inl x2), some (.inl x3), none, some (.inl x5), some (.inl x6), some (.inl x7), none, none] [] M := by
  intro n
  induction n with
  | zero => intro x2 x3 x5 x6 x7 M hf; exact hf.elim
  | succ n hk32 =>
    intro x2 x3 x5 x6 x7 M hf
    refine a_iload C dX1_cheapestEntry_32 rfl ?_
    refine a_iload C dX1_cheapestEntry_34 rfl ?_
    obtain ⟨hfa, hfb⟩ := hf
    refine a_icmp_ge C 89 dX1_cheapestEntry_36 rfl (fun hc => ?_) (fun hc => ?_)
    · have hf := hfa hc
      refine a_iload C dX1_cheapestEntry_89 rfl ?_
      exact a_iret C X dX1_cheapestEntry_91 hf
    · have hf := hfb hc
      refine a_aloadn C dX1_cheapestEntry_39 rfl ?_
      refine a_getR C 30 fl_X1_18 rfl rfl dX1_cheapestEntry_40 ?_
      refine a_iload C dX1_cheapestEntry_43 rfl ?_
      obtain ⟨hg, hf⟩ := hf
      refine a_iald C (n := 384) rfl hg dX1_cheapestEntry_45 ?_
      refine a_istore C dX1_cheapestEntry_46 (by decide) (lv2 := [some (.inr 27), none, some (.inl x2), some (.inl x3), none, some (.inl x5), some (.inl x6), some (.inl x7), some (.inl (M 30 x7)), none]) rfl ?_
      refine a_aloadn C dX1_cheapestEntry_48 rfl ?_
      refine a_getR C 38 fl_X1_42 rfl rfl dX1_cheapestEntry_49 ?_
      refine a_iload C dX1_cheapestEntry_52 rfl ?_
      obtain ⟨hg, hf⟩ := hf
      refine a_iald C (n := 16) rfl hg dX1_cheapestEntry_54 ?_
      refine a_iloadn C dX1_cheapestEntry_55 rfl ?_
      refine a_aloadn C dX1_cheapestEntry_56 rfl ?_
      refine a_getR C 12 fl_X1_72 rfl rfl dX1_cheapestEntry_57 ?_
      refine a_iload C dX1_cheapestEntry_60 rfl ?_
      refine a_bipush C dX1_cheapestEntry_62 bp_16 ?_
      refine a_imul C dX1_cheapestEntry_64 ?_
      refine a_iloadn C dX1_cheapestEntry_65 rfl ?_
      refine a_iadd C dX1_cheapestEntry_66 ?_
      obtain ⟨hg, hf⟩ := hf
      refine a_iald C (n := 256) rfl hg dX1_cheapestEntry_67 ?_
      refine a_imul C dX1_cheapestEntry_68 ?_
      refine a_iadd C dX1_cheapestEntry_69 ?_
      refine a_istore C dX1_cheapestEntry_70 (by decide) (lv2 := [some (.inr 27), none, some (.inl x2), some (.inl x3), none, some (.inl x5), some (.inl x6), some (.inl x7), some (.inl (M 30 x7)), some (.inl (wrap ((M 38 (M 30 x7)) + (wrap (x3 * (M 12 (wrap ((wrap ((M 30 x7) * 16)) + x2))))))))]) rfl ?_
      refine a_iload C dX1_cheapestEntry_72 rfl ?_
      refine a_iload C dX1_cheapestEntry_74 rfl ?_
      obtain ⟨hfa, hfb⟩ := hf
      refine a_icmp_ge C 83 dX1_cheapestEntry_76 rfl (fun hc => ?_) (fun hc => ?_)
      · have hf := hfa hc
        refine a_drop [true, true, true, true, true, true, true, true, false, false] (lv2 := [some (.inr 27), none, some (.inl x2), some (.inl x3), none, some (.inl x5), some (.inl x6), some (.inl x7), none, none]) rfl ?_
        exact sCh_cheapestEntry_83 C X hk32 _ _ _ _ _ _ hf
      · have hf := hfb hc
        refine a_iload C dX1_cheapestEntry_79 rfl ?_
        refine a_istore C dX1_cheapestEntry_81 (by decide) (lv2 := [some (.inr 27), none, some (.inl x2), some (.inl x3), none, some (.inl x5), some (.inl (wrap ((M 38 (M 30 x7)) + (wrap (x3 * (M 12 (wrap ((wrap ((M 30 x7) * 16)) + x2)))))))), some (.inl x7), some (.inl (M 30 x7)), some (.inl (wrap ((M 38 (M 30 x7)) + (wrap (x3 * (M 12 (wrap ((wrap ((M 30 x7) * 16)) + x2))))))))]) rfl ?_
        refine a_drop [true, true, true, true, true, true, true, true, false, false] (lv2 := [some (.inr 27), none, some (.inl x2), some (.inl x3), none, some (.inl x5), some (.inl (wrap ((M 38 (M 30 x7)) + (wrap (x3 * (M 12 (wrap ((wrap ((M 30 x7) * 16)) + x2)))))))), some (.inl x7), none, none]) rfl ?_
        exact sCh_cheapestEntry_83 C X hk32 _ _ _ _ _ _ hf
set_option maxRecDepth 20000 in
set_option maxHeartbeats 4000000 in
theorem cCh_cheapestEntry (x1 x2 : Int) : Snd shX yX1_cheapestEntry cX1_cheapestEntry 10 (some .int) 0 0 [.inr 27, .inl x1, .inl x2] (fCh_cheapestEntry x1 x2) := by
  refine Snd.of RX1 (by decide +kernel) rfl (Nat.le_of_ble_eq_true rfl) ?_
  intro E M R hf C X
  show AW shX 10 E 0 [some (.inr 27), some (.inl x1), some (.inl x2), none, none, none, none, none, none, none] [] M
  refine a_aloadn C dX1_cheapestEntry_0 rfl ?_
  refine a_getR C 6 fl_X1_78 rfl rfl dX1_cheapestEntry_1 ?_
  refine a_iloadn C dX1_cheapestEntry_4 rfl ?_
  obtain ⟨hg, hf⟩ := hf
  refine a_iald C (n := 24) rfl hg dX1_cheapestEntry_5 ?_
  refine a_istoren C dX1_cheapestEntry_6 (by decide) (lv2 := [some (.inr 27), some (.inl x1), some (.inl x2), some (.inl (M 6 x1)), none, none, none, none, none, none]) rfl ?_
  refine a_iloadn C dX1_cheapestEntry_7 rfl ?_
  refine a_bipush C dX1_cheapestEntry_8 bp_16 ?_
  refine a_imul C dX1_cheapestEntry_10 ?_
  refine a_istore C dX1_cheapestEntry_11 (by decide) (lv2 := [some (.inr 27), some (.inl x1), some (.inl x2), some (.inl (M 6 x1)), some (.inl (wrap (x1 * 16))), none, none, none, none, none]) rfl ?_
  refine a_iload C dX1_cheapestEntry_13 rfl ?_
  refine a_aloadn C dX1_cheapestEntry_15 rfl ?_
  refine a_getR C 31 fl_X1_21 rfl rfl dX1_cheapestEntry_16 ?_
  refine a_iloadn C dX1_cheapestEntry_19 rfl ?_
  obtain ⟨hg, hf⟩ := hf
  refine a_iald C (n := 24) rfl hg dX1_cheapestEntry_20 ?_
  refine a_iadd C dX1_cheapestEntry_21 ?_
  refine a_istore C dX1_cheapestEntry_22 (by decide) (lv2 := [some (.inr 27), some (.inl x1), some (.inl x2), some (.inl (M 6 x1)), some (.inl (wrap (x1 * 16))), some (.inl (wrap ((wrap (x1 * 16)) + (M 31 x1)))), none, none, none, none]) rfl ?_
  refine a_ldc C dX1_cheapestEntry_24 ct_X1_86 (inr_b rfl) ?_
  refine a_istore C dX1_cheapestEntry_26 (by decide) (lv2 := [some (.inr 27), some (.inl x1), some (.inl x2), some (.inl (M 6 x1)), some (.inl (wrap (x1 * 16))), some (.inl (wrap ((wrap (x1 * 16)) + (M 31 x1)))), some (.inl 1000000000), none, none, none]) rfl ?_
  refine a_iload C dX1_cheapestEntry_28 rfl ?_
  refine a_istore C dX1_cheapestEntry_30 (by decide) (lv2 := [some (.inr 27), some (.inl x1), some (.inl x2), some (.inl (M 6 x1)), some (.inl (wrap (x1 * 16))), some (.inl (wrap ((wrap (x1 * 16)) + (M 31 x1)))), some (.inl 1000000000), some (.inl (wrap (x1 * 16))), none, none]) rfl ?_
  refine a_drop [true, false, true, true, false, true, true, true, true, true] (lv2 := [some (.inr 27), none, some (.inl x2), some (.inl (M 6 x1)), none, some (.inl (wrap ((wrap (x1 * 16)) + (M 31 x1)))), some (.inl 1000000000), some (.inl (wrap (x1 * 16))), none, none]) rfl ?_
  obtain ⟨n1, hf⟩ := hf
  exact sCh_cheapestEntry_32 C X  n1 _ _ _ _ _ _ hf
set_option maxRecDepth 20000 in
set_option maxHeartbeats 4000000 in
theorem sCh_carryForth_200 {E : EE} {R : Int → Mem → Prop} (C : Cx shX 7 cX1_carryForth RX1 2 43 E) (X : Rx shX none R E) {k134 : Int → Int → Int → Mem → Prop} (hk134 : ∀ (x1 : Int) (x3 : Int) (x4 : Int) (M : Mem), k134 x1 x3 x4 M → AW shX 7 E 134 [some (.inr 27), some (.inl x1), none, some (.inl x3), some (.inl x4), none, none] [] M) (x1 : Int) (x3 : Int) (x4 : Int) (M : Mem) (hf : fCh_carryForth_200 k134 R x1 x3 x4 M) : AW shX 7 E 200 [some (.inr 27), some (.inl x1), none, some (.inl x3), some (.inl x4), none, none] [] M := by
  refine a_iinc C dX1_carryForth_200 rfl (by decide) (lv2 := [some (.inr 27), some (.inl x1), none, some (.inl x3), some (.inl (wrap (x4 + 1))), none, none]) rfl ?_
  refine a_goto C 134 dX1_carryForth_203 rfl ?_
  exact hk134 _ _ _ _ hf
set_option maxRecDepth 20000 in
set_option maxHeartbeats 4000000 in
theorem sCh_carryForth_184 {E : EE} {R : Int → Mem → Prop} (C : Cx shX 7 cX1_carryForth RX1 2 43 E) (X : Rx shX none R E) {k134 : Int → Int → Int → Mem → Prop} (hk134 : ∀ (x1 : Int) (x3 : Int) (x4 : Int) (M : Mem), k134 x1 x3 x4 M → AW shX 7 E 134 [some (.inr 27), some (.inl x1), none, some (.inl x3), some (.inl x4), none, none] [] M) (x1 : Int) (x3 : Int) (x4 : Int) (x5 : Int) (M : Mem) (hf : fCh_carryForth_184 k134 R x1 x3 x4 x5 M) : AW shX 7 E 184 [some (.inr 27), some (.inl x1), none, some (.inl x3), some (.inl x4), some (.inl x5), none] [] M := by
  have hf : fCh_cheapestEntry x1 x5 M (fun r2 M2 => (inb (wrap (x3 + x5)) 384 ∧ fCh_carryForth_200 k134 R x1 x3 x4 (mu M2 35 (wrap (x3 + x5)) r2))) := hf
  refine a_aloadn C dX1_carryForth_184 rfl ?_
  refine a_getR C 35 fl_X1_33 rfl rfl dX1_carryForth_185 ?_
  refine a_iloadn C dX1_carryForth_188 rfl ?_
  refine a_iload C dX1_carryForth_189 rfl ?_
  refine a_iadd C dX1_carryForth_191 ?_
  refine a_aloadn C dX1_carryForth_192 rfl ?_
  refine a_iloadn C dX1_carryForth_193 rfl ?_
  refine a_iload C dX1_carryForth_194 rfl ?_
  refine a_callV C [.inl x1, .inl x5] [.inl (wrap (x3 + x5)), .inr 35] dX1_carryForth_196 (cCh_cheapestEntry _ _) mv_X1_cheapestEntry ln_X1_190 rfl rfl ⟨rfl, rfl, Nat.le_of_ble_eq_true rfl, Nat.le_of_ble_eq_true rfl, Nat.le_of_ble_eq_true rfl⟩ hf (fun r2 M2 hf => ?_)
  obtain ⟨hg, hf⟩ := hf
  refine a_iast C (n := 384) rfl hg dX1_carryForth_199 ?_
  refine a_drop [true, true, true, true, true, false, true] (lv2 := [some (.inr 27), some (.inl x1), none, some (.inl x3), some (.inl x4), none, none]) rfl ?_
  exact sCh_carryForth_200 C X hk134 _ _ _ _ hf
set_option maxRecDepth 20000 in
set_option maxHeartbeats 4000000 in
theorem sCh_carryForth_134 {E : EE} {R : Int → Mem → Prop} (C : Cx shX 7 cX1_carryForth RX1 2 43 E) (X : Rx shX none R E) : ∀ (n : Nat) (x1 : Int) (x3 : Int) (x4 : Int) (M : Mem), fCh_carryForth_134  R n x1 x3 x4 M → AW shX 7 E 134 [some (.inr 27), some (.inl x1), none, some (.inl x3), some (.inl x4), none, none] [] M := by
  intro n
  induction n with
  | zero => intro x1 x3 x4 M hf; exact hf.elim
  | succ n hk134 =>
    intro x1 x3 x4 M hf
    refine a_iload C dX1_carryForth_134 rfl ?_
    refine a_aloadn C dX1_carryForth_136 rfl ?_
    refine a_getR C 29 fl_X1_15 rfl rfl dX1_carryForth_137 ?_
    refine a_iloadn C dX1_carryForth_140 rfl ?_
    refine a_iconst C dX1_carryForth_141 (inr_b rfl) ?_
    refine a_iadd C dX1_carryForth_142 ?_
    obtain ⟨hg, hf⟩ := hf
    refine a_iald C (n := 24) rfl hg dX1_carryForth_143 ?_
    obtain ⟨hfa, hfb⟩ := hf
    refine a_icmp_ge C 206 dX1_carryForth_144 rfl (fun hc => ?_) (fun hc => ?_)
    · have hf := hfa hc
      exact a_vret C X dX1_carryForth_206 hf
    · have hf := hfb hc
      refine a_aloadn C dX1_carryForth_147 rfl ?_
      refine a_getR C 28 fl_X1_11 rfl rfl dX1_carryForth_148 ?_
      refine a_iloadn C dX1_carryForth_151 rfl ?_
      refine a_iload C dX1_carryForth_152 rfl ?_
      refine a_iadd C dX1_carryForth_154 ?_
      obtain ⟨hg, hf⟩ := hf
      refine a_iald C (n := 384) rfl hg dX1_carryForth_155 ?_
      refine a_istore C dX1_carryForth_156 (by decide) (lv2 := [some (.inr 27), some (.inl x1), none, some (.inl x3), some (.inl x4), some (.inl (M 28 (wrap (x3 + x4)))), none]) rfl ?_
      refine a_aloadn C dX1_carryForth_158 rfl ?_
      refine a_getR C 37 fl_X1_39 rfl rfl dX1_carryForth_159 ?_
      refine a_iloadn C dX1_carryForth_162 rfl ?_
      refine a_iconst C dX1_carryForth_163 (inr_b rfl) ?_
      refine a_iadd C dX1_carryForth_164 ?_
      obtain ⟨hg, hf⟩ := hf
      refine a_iald C (n := 24) rfl hg dX1_carryForth_165 ?_
      refine a_bipush C dX1_carryForth_166 bp_m4 ?_
      obtain ⟨hfa, hfb⟩ := hf
      refine a_icmp_eq C 184 dX1_carryForth_168 rfl (fun hc => ?_) (fun hc => ?_)
      · have hf := hfa hc
        exact sCh_carryForth_184 C X hk134 _ _ _ _ _ hf
      · have hf := hfb hc
        refine a_aloadn C dX1_carryForth_171 rfl ?_
        refine a_getR C 37 fl_X1_39 rfl rfl dX1_carryForth_172 ?_
        refine a_iloadn C dX1_carryForth_175 rfl ?_
        refine a_iconst C dX1_carryForth_176 (inr_b rfl) ?_
        refine a_iadd C dX1_carryForth_177 ?_
        obtain ⟨hg, hf⟩ := hf
        refine a_iald C (n := 24) rfl hg dX1_carryForth_178 ?_
        refine a_iload C dX1_carryForth_179 rfl ?_
        obtain ⟨hfa, hfb⟩ := hf
        refine a_icmp_ne C 200 dX1_carryForth_181 rfl (fun hc => ?_) (fun hc => ?_)
        · have hf := hfa hc
          refine a_drop [true, true, true, true, true, false, true] (lv2 := [some (.inr 27), some (.inl x1), none, some (.inl x3), some (.inl x4), none, none]) rfl ?_
          exact sCh_carryForth_200 C X hk134 _ _ _ _ hf
        · have hf := hfb hc
          exact sCh_carryForth_184 C X hk134 _ _ _ _ _ hf
set_option maxRecDepth 20000 in
set_option maxHeartbeats 4000000 in
theorem sCh_carryForth_120 {E : EE} {R : Int → Mem → Prop} (C : Cx shX 7 cX1_carryForth RX1 2 43 E) (X : Rx shX none R E) {k16 : Int → Int → Int → Mem → Prop} (hk16 : ∀ (x1 : Int) (x2 : Int) (x3 : Int) (M : Mem), k16 x1 x2 x3 M → AW shX 7 E 16 [some (.inr 27), some (.inl x1), some (.inl x2), some (.inl x3), none, none, none] [] M) (x1 : Int) (x2 : Int) (x3 : Int) (M : Mem) (hf : fCh_carryForth_120 k16 R x1 x2 x3 M) : AW shX 7 E 120 [some (.inr 27), some (.inl x1), some (.inl x2), some (.inl x3), none, none, none] [] M := by
  refine a_iinc C dX1_carryForth_120 rfl (by decide) (lv2 := [some (.inr 27), some (.inl x1), some (.inl x2), some (.inl (wrap (x3 + 1))), none, none, none]) rfl ?_
  refine a_goto C 16 dX1_carryForth_123 rfl ?_
  exact hk16 _ _ _ _ hf
set_option maxRecDepth 20000 in
set_option maxHeartbeats 4000000 in
theorem sCh_carryForth_61 {E : EE} {R : Int → Mem → Prop} (C : Cx shX 7 cX1_carryForth RX1 2 43 E) (X : Rx shX none R E) {k16 : Int → Int → Int → Mem → Prop} (hk16 : ∀ (x1 : Int) (x2 : Int) (x3 : Int) (M : Mem), k16 x1 x2 x3 M → AW shX 7 E 16 [some (.inr 27), some (.inl x1), some (.inl x2), some (.inl x3), none, none, none] [] M) (x1 : Int) (x2 : Int) (x3 : Int) (x4 : Int) (M : Mem) (hf : fCh_carryForth_61 k16 R x1 x2 x3 x4 M) : AW shX 7 E 61 [some (.inr 27), some (.inl x1), some (.inl x2), some (.inl x3), some (.inl x4), none, none] [] M := by
  refine a_aloadn C dX1_carryForth_61 rfl ?_
  refine a_getR C 32 fl_X1_24 rfl rfl dX1_carryForth_62 ?_
  refine a_iloadn C dX1_carryForth_65 rfl ?_
  refine a_iload C dX1_carryForth_66 rfl ?_
  refine a_iadd C dX1_carryForth_68 ?_
  obtain ⟨hg, hf⟩ := hf
  refine a_iald C (n := 384) rfl hg dX1_carryForth_69 ?_
  refine a_istore C dX1_carryForth_70 (by decide) (lv2 := [some (.inr 27), some (.inl x1), some (.inl x2), some (.inl x3), some (.inl x4), some (.inl (M 32 (wrap (x2 + x4)))), none]) rfl ?_
  refine a_aloadn C dX1_carryForth_72 rfl ?_
  refine a_getR C 35 fl_X1_33 rfl rfl dX1_carryForth_73 ?_
  refine a_iloadn C dX1_carryForth_76 rfl ?_
  refine a_iload C dX1_carryForth_77 rfl ?_
  refine a_iadd C dX1_carryForth_79 ?_
  obtain ⟨hg, hf⟩ := hf
  refine a_iald C (n := 384) rfl hg dX1_carryForth_80 ?_
  refine a_aloadn C dX1_carryForth_81 rfl ?_
  refine a_getR C 33 fl_X1_27 rfl rfl dX1_carryForth_82 ?_
  refine a_iloadn C dX1_carryForth_85 rfl ?_
  refine a_iload C dX1_carryForth_86 rfl ?_
  refine a_iadd C dX1_carryForth_88 ?_
  obtain ⟨hg, hf⟩ := hf
  refine a_iald C (n := 384) rfl hg dX1_carryForth_89 ?_
  refine a_iadd C dX1_carryForth_90 ?_
  refine a_aloadn C dX1_carryForth_91 rfl ?_
  refine a_iloadn C dX1_carryForth_92 rfl ?_
  refine a_iload C dX1_carryForth_93 rfl ?_
  refine a_callV C [.inl x1, .inl (M 32 (wrap (x2 + x4)))] [.inl (wrap ((M 35 (wrap (x2 + x4))) + (M 33 (wrap (x2 + x4)))))] dX1_carryForth_95 (cCh_leading _ _) mv_X1_leading ln_X1_160 rfl rfl ⟨rfl, rfl, Nat.le_of_ble_eq_true rfl, Nat.le_of_ble_eq_true rfl, Nat.le_of_ble_eq_true rfl⟩ hf (fun r4 M4 hf => ?_)
  refine a_iadd C dX1_carryForth_98 ?_
  refine a_istore C dX1_carryForth_99 (by decide) (lv2 := [some (.inr 27), some (.inl x1), some (.inl x2), some (.inl x3), some (.inl x4), some (.inl (M 32 (wrap (x2 + x4)))), some (.inl (wrap ((wrap ((M 35 (wrap (x2 + x4))) + (M 33 (wrap (x2 + x4))))) + r4)))]) rfl ?_
  refine a_aloadn C dX1_carryForth_101 rfl ?_
  refine a_getR C 38 fl_X1_42 rfl rfl dX1_carryForth_102 ?_
  refine a_iload C dX1_carryForth_105 rfl ?_
  refine a_aloadn C dX1_carryForth_107 rfl ?_
  refine a_getR C 38 fl_X1_42 rfl rfl dX1_carryForth_108 ?_
  refine a_iload C dX1_carryForth_111 rfl ?_
  obtain ⟨hg, hf⟩ := hf
  refine a_iald C (n := 16) rfl hg dX1_carryForth_113 ?_
  refine a_iload C dX1_carryForth_114 rfl ?_
  refine a_callS C [.inl (M4 38 (M 32 (wrap (x2 + x4)))), .inl (wrap ((wrap ((M 35 (wrap (x2 + x4))) + (M 33 (wrap (x2 + x4))))) + r4))] [.inl (M 32 (wrap (x2 + x4))), .inr 38] dX1_carryForth_116 (cMath_min _ _) ms_J9_min_7cf53 ln_X1_185 ⟨rfl, rfl, Nat.le_of_ble_eq_true rfl, Nat.le_of_ble_eq_true rfl, Nat.le_of_ble_eq_true rfl⟩ hf (fun r5 M5 hf => ?_)
  obtain ⟨hg, hf⟩ := hf
  refine a_iast C (n := 16) rfl hg dX1_carryForth_119 ?_
  refine a_drop [true, true, true, true, false, false, false] (lv2 := [some (.inr 27), some (.inl x1), some (.inl x2), some (.inl x3), none, none, none]) rfl ?_
  exact sCh_carryForth_120 C X hk16 _ _ _ _ hf
set_option maxRecDepth 20000 in
set_option maxHeartbeats 4000000 in
theorem sCh_carryForth_16 {E : EE} {R : Int → Mem → Prop} (C : Cx shX 7 cX1_carryForth RX1 2 43 E) (X : Rx shX none R E) : ∀ (n : Nat) (x1 : Int) (x2 : Int) (x3 : Int) (M : Mem), fCh_carryForth_16  R n x1 x2 x3 M → AW shX 7 E 16 [some (.inr 27), some (.inl x1), some (.inl x2), some (.inl x3), none, none, none] [] M := by
  intro n
  induction n with
  | zero => intro x1 x2 x3 M hf; exact hf.elim
  | succ n hk16 =>
    intro x1 x2 x3 M hf
    refine a_iloadn C dX1_carryForth_16 rfl ?_
    refine a_aloadn C dX1_carryForth_17 rfl ?_
    refine a_getR C 29 fl_X1_15 rfl rfl dX1_carryForth_18 ?_
    refine a_iloadn C dX1_carryForth_21 rfl ?_
    obtain ⟨hg, hf⟩ := hf
    refine a_iald C (n := 24) rfl hg dX1_carryForth_22 ?_
    obtain ⟨hfa, hfb⟩ := hf
    refine a_icmp_ge C 126 dX1_carryForth_23 rfl (fun hc => ?_) (fun hc => ?_)
    · have hf := hfa hc
      refine a_iloadn C dX1_carryForth_126 rfl ?_
      refine a_bipush C dX1_carryForth_127 bp_16 ?_
      refine a_iadd C dX1_carryForth_129 ?_
      refine a_istoren C dX1_carryForth_130 (by decide) (lv2 := [some (.inr 27), some (.inl x1), some (.inl x2), some (.inl (wrap (x2 + 16))), none, none, none]) rfl ?_
      refine a_iconst C dX1_carryForth_131 (inr_b rfl) ?_
      refine a_istore C dX1_carryForth_132 (by decide) (lv2 := [some (.inr 27), some (.inl x1), some (.inl x2), some (.inl (wrap (x2 + 16))), some (.inl 0), none, none]) rfl ?_
      refine a_drop [true, true, false, true, true, true, true] (lv2 := [some (.inr 27), some (.inl x1), none, some (.inl (wrap (x2 + 16))), some (.inl 0), none, none]) rfl ?_
      obtain ⟨n3, hf⟩ := hf
      exact sCh_carryForth_134 C X  n3 _ _ _ _ hf
    · have hf := hfb hc
      refine a_aloadn C dX1_carryForth_26 rfl ?_
      refine a_getR C 28 fl_X1_11 rfl rfl dX1_carryForth_27 ?_
      refine a_iloadn C dX1_carryForth_30 rfl ?_
      refine a_iloadn C dX1_carryForth_31 rfl ?_
      refine a_iadd C dX1_carryForth_32 ?_
      obtain ⟨hg, hf⟩ := hf
      refine a_iald C (n := 384) rfl hg dX1_carryForth_33 ?_
      refine a_istore C dX1_carryForth_34 (by decide) (lv2 := [some (.inr 27), some (.inl x1), some (.inl x2), some (.inl x3), some (.inl (M 28 (wrap (x2 + x3)))), none, none]) rfl ?_
      refine a_aloadn C dX1_carryForth_36 rfl ?_
      refine a_getR C 37 fl_X1_39 rfl rfl dX1_carryForth_37 ?_
      refine a_iloadn C dX1_carryForth_40 rfl ?_
      obtain ⟨hg, hf⟩ := hf
      refine a_iald C (n := 24) rfl hg dX1_carryForth_41 ?_
      refine a_bipush C dX1_carryForth_42 bp_m4 ?_
      obtain ⟨hfa, hfb⟩ := hf
      refine a_icmp_eq C 61 dX1_carryForth_44 rfl (fun hc => ?_) (fun hc => ?_)
      · have hf := hfa hc
        exact sCh_carryForth_61 C X hk16 _ _ _ _ _ hf
      · have hf := hfb hc
        refine a_aloadn C dX1_carryForth_47 rfl ?_
        refine a_getR C 37 fl_X1_39 rfl rfl dX1_carryForth_48 ?_
        refine a_iloadn C dX1_carryForth_51 rfl ?_
        obtain ⟨hg, hf⟩ := hf
        refine a_iald C (n := 24) rfl hg dX1_carryForth_52 ?_
        refine a_iload C dX1_carryForth_53 rfl ?_
        obtain ⟨hfa, hfb⟩ := hf
        refine a_icmp_eq C 61 dX1_carryForth_55 rfl (fun hc => ?_) (fun hc => ?_)
        · have hf := hfa hc
          exact sCh_carryForth_61 C X hk16 _ _ _ _ _ hf
        · have hf := hfb hc
          refine a_goto C 120 dX1_carryForth_58 rfl ?_
          refine a_drop [true, true, true, true, false, true, true] (lv2 := [some (.inr 27), some (.inl x1), some (.inl x2), some (.inl x3), none, none, none]) rfl ?_
          exact sCh_carryForth_120 C X hk16 _ _ _ _ hf
set_option maxRecDepth 20000 in
set_option maxHeartbeats 4000000 in
theorem cCh_carryForth (x1 : Int) : Snd shX yX1_carryForth cX1_carryForth 7 none 2 43 [.inr 27, .inl x1] (fCh_carryForth x1) := by
  refine Snd.of RX1 (by decide +kernel) rfl (Nat.le_of_ble_eq_true rfl) ?_
  intro E M R hf C X
  show AW shX 7 E 0 [some (.inr 27), some (.inl x1), none, none, none, none, none] [] M
  refine a_iloadn C dX1_carryForth_0 rfl ?_
  refine a_bipush C dX1_carryForth_1 bp_16 ?_
  refine a_imul C dX1_carryForth_3 ?_
  refine a_istoren C dX1_carryForth_4 (by decide) (lv2 := [some (.inr 27), some (.inl x1), some (.inl (wrap (x1 * 16))), none, none, none, none]) rfl ?_
  refine a_aloadn C dX1_carryForth_5 rfl ?_
  refine a_getR C 38 fl_X1_42 rfl rfl dX1_carryForth_6 ?_
  refine a_ldc C dX1_carryForth_9 ct_X1_86 (inr_b rfl) ?_
  refine a_callS C [.inr 38, .inl 1000000000] [] dX1_carryForth_11 (cArr_fill_38 _) ms_J7_fill_53178 ln_X1_87 ⟨rfl, rfl, Nat.le_of_ble_eq_true rfl, Nat.le_of_ble_eq_true rfl, Nat.le_of_ble_eq_true rfl⟩ hf (fun r1 M1 hf => ?_)
  refine a_iconst C dX1_carryForth_14 (inr_b rfl) ?_
  refine a_istoren C dX1_carryForth_15 (by decide) (lv2 := [some (.inr 27), some (.inl x1), some (.inl (wrap (x1 * 16))), some (.inl 0), none, none, none]) rfl ?_
  obtain ⟨n6, hf⟩ := hf
  exact sCh_carryForth_16 C X  n6 _ _ _ _ hf
set_option maxRecDepth 20000 in
set_option maxHeartbeats 4000000 in
theorem sCh_walkForth_93 {E : EE} {R : Int → Mem → Prop} (C : Cx shX 5 cX1_walkForth RX1 3 69 E) (X : Rx shX none R E) {k4 : Int → Int → Int → Mem → Prop} (hk4 : ∀ (x1 : Int) (x2 : Int) (x3 : Int) (M : Mem), k4 x1 x2 x3 M → AW shX 5 E 4 [some (.inr 27), some (.inl x1), some (.inl x2), some (.inl x3), none] [] M) (x1 : Int) (x2 : Int) (x3 : Int) (M : Mem) (hf : fCh_walkForth_93 k4 R x1 x2 x3 M) : AW shX 5 E 93 [some (.inr 27), some (.inl x1), some (.inl x2), some (.inl x3), none] [] M := by
  refine a_iinc C dX1_walkForth_93 rfl (by decide) (lv2 := [some (.inr 27), some (.inl x1), some (.inl x2), some (.inl (wrap (x3 + 1))), none]) rfl ?_
  refine a_goto C 4 dX1_walkForth_96 rfl ?_
  exact hk4 _ _ _ _ hf
set_option maxRecDepth 20000 in
set_option maxHeartbeats 4000000 in
theorem sCh_walkForth_71 {E : EE} {R : Int → Mem → Prop} (C : Cx shX 5 cX1_walkForth RX1 3 69 E) (X : Rx shX none R E) {k4 : Int → Int → Int → Mem → Prop} (hk4 : ∀ (x1 : Int) (x2 : Int) (x3 : Int) (M : Mem), k4 x1 x2 x3 M → AW shX 5 E 4 [some (.inr 27), some (.inl x1), some (.inl x2), some (.inl x3), none] [] M) (x1 : Int) (x2 : Int) (x3 : Int) (M : Mem) (hf : fCh_walkForth_71 k4 R x1 x2 x3 M) : AW shX 5 E 71 [some (.inr 27), some (.inl x1), some (.inl x2), some (.inl x3), none] [] M := by
  have hf : fCh_noteLeast x3 x2 M (fun r3 M3 => fPr_falls_p x3 M3 (fun r4 M4 => ((r4 = 0 → fCh_walkForth_93 k4 R x1 x2 x3 M4) ∧ (¬ r4 = 0 → fCh_carryForth x3 M4 (fun r5 M5 => fCh_walkForth_93 k4 R x1 x2 x3 M5))))) := hf
  refine a_aloadn C dX1_walkForth_71 rfl ?_
  refine a_iloadn C dX1_walkForth_72 rfl ?_
  refine a_iloadn C dX1_walkForth_73 rfl ?_
  refine a_callV C [.inl x3, .inl x2] [] dX1_walkForth_74 (cCh_noteLeast _ _) mv_X1_noteLeast ln_X1_179 rfl rfl ⟨rfl, rfl, Nat.le_of_ble_eq_true rfl, Nat.le_of_ble_eq_true rfl, Nat.le_of_ble_eq_true rfl⟩ hf (fun r3 M3 hf => ?_)
  refine a_aloadn C dX1_walkForth_77 rfl ?_
  refine a_getR C 13 fl_X1_59 rfl rfl dX1_walkForth_78 ?_
  refine a_iloadn C dX1_walkForth_81 rfl ?_
  refine a_callV C [.inl x3] [] dX1_walkForth_82 (cPr_falls_p _) mv_X3_falls ln_X1_157 rfl rfl ⟨rfl, rfl, Nat.le_of_ble_eq_true rfl, Nat.le_of_ble_eq_true rfl, Nat.le_of_ble_eq_true rfl⟩ hf (fun r4 M4 hf => ?_)
  obtain ⟨hfa, hfb⟩ := hf
  refine a_if_eq C 93 dX1_walkForth_85 rfl (fun hc => ?_) (fun hc => ?_)
  · have hf := hfa hc
    exact sCh_walkForth_93 C X hk4 _ _ _ _ hf
  · have hf := hfb hc
    refine a_aloadn C dX1_walkForth_88 rfl ?_
    refine a_iloadn C dX1_walkForth_89 rfl ?_
    refine a_callV C [.inl x3] [] dX1_walkForth_90 (cCh_carryForth _) mv_X1_carryForth ln_X1_182 rfl rfl ⟨rfl, rfl, Nat.le_of_ble_eq_true rfl, Nat.le_of_ble_eq_true rfl, Nat.le_of_ble_eq_true rfl⟩ hf (fun r5 M5 hf => ?_)
    exact sCh_walkForth_93 C X hk4 _ _ _ _ hf
set_option maxRecDepth 20000 in
set_option maxHeartbeats 4000000 in
theorem sCh_walkForth_4 {E : EE} {R : Int → Mem → Prop} (C : Cx shX 5 cX1_walkForth RX1 3 69 E) (X : Rx shX none R E) : ∀ (n : Nat) (x1 : Int) (x2 : Int) (x3 : Int) (M : Mem), fCh_walkForth_4  R n x1 x2 x3 M → AW shX 5 E 4 [some (.inr 27), some (.inl x1), some (.inl x2), some (.inl x3), none] [] M := by
  intro n
  induction n with
  | zero => intro x1 x2 x3 M hf; exact hf.elim
  | succ n hk4 =>
    intro x1 x2 x3 M hf
    refine a_iloadn C dX1_walkForth_4 rfl ?_
    refine a_aloadn C dX1_walkForth_5 rfl ?_
    refine a_getR C 13 fl_X1_59 rfl rfl dX1_walkForth_6 ?_
    refine a_getI C (kz := 6) fl_X1_93 rfl rfl rfl dX1_walkForth_9 ?_
    obtain ⟨hfa, hfb⟩ := hf
    refine a_icmp_ge C 99 dX1_walkForth_12 rfl (fun hc => ?_) (fun hc => ?_)
    · have hf := hfa hc
      exact a_vret C X dX1_walkForth_99 hf
    · have hf := hfb hc
      refine a_aloadn C dX1_walkForth_15 rfl ?_
      refine a_getR C 13 fl_X1_59 rfl rfl dX1_walkForth_16 ?_
      refine a_iloadn C dX1_walkForth_19 rfl ?_
      refine a_callV C [.inl x3] [] dX1_walkForth_20 (cPr_isReached_p _) mv_X3_isReached ln_X1_102 rfl rfl ⟨rfl, rfl, Nat.le_of_ble_eq_true rfl, Nat.le_of_ble_eq_true rfl, Nat.le_of_ble_eq_true rfl⟩ hf (fun r1 M1 hf => ?_)
      obtain ⟨hfa, hfb⟩ := hf
      refine a_if_ne C 29 dX1_walkForth_23 rfl (fun hc => ?_) (fun hc => ?_)
      · have hf := hfa hc
        refine a_aloadn C dX1_walkForth_29 rfl ?_
        refine a_getR C 13 fl_X1_59 rfl rfl dX1_walkForth_30 ?_
        refine a_iloadn C dX1_walkForth_33 rfl ?_
        refine a_callV C [.inl x3] [] dX1_walkForth_34 (cPr_isHead_p _) mv_X3_isHead ln_X1_176 rfl rfl ⟨rfl, rfl, Nat.le_of_ble_eq_true rfl, Nat.le_of_ble_eq_true rfl, Nat.le_of_ble_eq_true rfl⟩ hf (fun r2 M2 hf => ?_)
        obtain ⟨hfa, hfb⟩ := hf
        refine a_if_eq C 71 dX1_walkForth_37 rfl (fun hc => ?_) (fun hc => ?_)
        · have hf := hfa hc
          exact sCh_walkForth_71 C X hk4 _ _ _ _ hf
        · have hf := hfb hc
          refine a_iloadn C dX1_walkForth_40 rfl ?_
          refine a_bipush C dX1_walkForth_41 bp_16 ?_
          refine a_imul C dX1_walkForth_43 ?_
          refine a_aloadn C dX1_walkForth_44 rfl ?_
          refine a_getR C 37 fl_X1_39 rfl rfl dX1_walkForth_45 ?_
          refine a_iloadn C dX1_walkForth_48 rfl ?_
          obtain ⟨hg, hf⟩ := hf
          refine a_iald C (n := 24) rfl hg dX1_walkForth_49 ?_
          refine a_iadd C dX1_walkForth_50 ?_
          refine a_istore C dX1_walkForth_51 (by decide) (lv2 := [some (.inr 27), some (.inl x1), some (.inl x2), some (.inl x3), some (.inl (wrap ((wrap (x3 * 16)) + (M2 37 x3))))]) rfl ?_
          refine a_aloadn C dX1_walkForth_53 rfl ?_
          refine a_getR C 35 fl_X1_33 rfl rfl dX1_walkForth_54 ?_
          refine a_iload C dX1_walkForth_57 rfl ?_
          refine a_iconst C dX1_walkForth_59 (inr_b rfl) ?_
          obtain ⟨hg, hf⟩ := hf
          refine a_iast C (n := 384) rfl hg dX1_walkForth_60 ?_
          refine a_iloadn C dX1_walkForth_61 rfl ?_
          refine a_aloadn C dX1_walkForth_62 rfl ?_
          refine a_getR C 34 fl_X1_30 rfl rfl dX1_walkForth_63 ?_
          refine a_iload C dX1_walkForth_66 rfl ?_
          obtain ⟨hg, hf⟩ := hf
          refine a_iald C (n := 384) rfl hg dX1_walkForth_68 ?_
          refine a_isub C dX1_walkForth_69 ?_
          refine a_istoren C dX1_walkForth_70 (by decide) (lv2 := [some (.inr 27), some (.inl x1), some (.inl (wrap (x1 - (M2 34 (wrap ((wrap (x3 * 16)) + (M2 37 x3))))))), some (.inl x3), some (.inl (wrap ((wrap (x3 * 16)) + (M2 37 x3))))]) rfl ?_
          refine a_drop [true, true, true, true, false] (lv2 := [some (.inr 27), some (.inl x1), some (.inl (wrap (x1 - (M2 34 (wrap ((wrap (x3 * 16)) + (M2 37 x3))))))), some (.inl x3), none]) rfl ?_
          exact sCh_walkForth_71 C X hk4 _ _ _ _ hf
      · have hf := hfb hc
        refine a_goto C 93 dX1_walkForth_26 rfl ?_
        exact sCh_walkForth_93 C X hk4 _ _ _ _ hf
set_option maxRecDepth 20000 in
set_option maxHeartbeats 4000000 in
theorem cCh_walkForth (x1 : Int) : Snd shX yX1_walkForth cX1_walkForth 5 none 3 69 [.inr 27, .inl x1] (fCh_walkForth x1) := by
  refine Snd.of RX1 (by decide +kernel) rfl (Nat.le_of_ble_eq_true rfl) ?_
  intro E M R hf C X
  show AW shX 5 E 0 [some (.inr 27), some (.inl x1), none, none, none] [] M
  refine a_iconst C dX1_walkForth_0 (inr_b rfl) ?_
  refine a_istoren C dX1_walkForth_1 (by decide) (lv2 := [some (.inr 27), some (.inl x1), some (.inl 0), none, none]) rfl ?_
  refine a_iconst C dX1_walkForth_2 (inr_b rfl) ?_
  refine a_istoren C dX1_walkForth_3 (by decide) (lv2 := [some (.inr 27), some (.inl x1), some (.inl 0), some (.inl 0), none]) rfl ?_
  obtain ⟨n6, hf⟩ := hf
  exact sCh_walkForth_4 C X  n6 _ _ _ _ hf
set_option maxRecDepth 20000 in
set_option maxHeartbeats 4000000 in
theorem sCh_tryAllPins_131 {E : EE} {R : Int → Mem → Prop} (C : Cx shX 9 cX1_tryAllPins RX1 4 99 E) (X : Rx shX none R E) {k61 : Int → Int → Int → Int → Int → Int → Int → Mem → Prop} (hk61 : ∀ (x1 : Int) (x2 : Int) (x3 : Int) (x4 : Int) (x5 : Int) (x6 : Int) (x7 : Int) (M : Mem), k61 x1 x2 x3 x4 x5 x6 x7 M → AW shX 9 E 61 [some (.inr 27), some (.inl x1), some (.inl x2), some (.inl x3), some (.inl x4), some (.inl x5), some (.inl x6), some (.inl x7), none] [] M) (x1 : Int) (x2 : Int) (x3 : Int) (x4 : Int) (x5 : Int) (x6 : Int) (x7 : Int) (M : Mem) (hf : fCh_tryAllPins_131 k61 R x1 x2 x3 x4 x5 x6 x7 M) : AW shX 9 E 131 [some (.inr 27), some (.inl x1), some (.inl x2), some (.inl x3), some (.inl x4), some (.inl x5), some (.inl x6), some (.inl x7), none] [] M := by
  refine a_iinc C dX1_tryAllPins_131 rfl (by decide) (lv2 := [some (.inr 27), some (.inl x1), some (.inl x2), some (.inl x3), some (.inl x4), some (.inl x5), some (.inl x6), some (.inl (wrap (x7 + 1))), none]) rfl ?_
  refine a_goto C 61 dX1_tryAllPins_134 rfl ?_
  exact hk61 _ _ _ _ _ _ _ _ hf
set_option maxRecDepth 20000 in
set_option maxHeartbeats 4000000 in
theorem sCh_tryAllPins_105 {E : EE} {R : Int → Mem → Prop} (C : Cx shX 9 cX1_tryAllPins RX1 4 99 E) (X : Rx shX none R E) {k61 : Int → Int → Int → Int → Int → Int → Int → Mem → Prop} (hk61 : ∀ (x1 : Int) (x2 : Int) (x3 : Int) (x4 : Int) (x5 : Int) (x6 : Int) (x7 : Int) (M : Mem), k61 x1 x2 x3 x4 x5 x6 x7 M → AW shX 9 E 61 [some (.inr 27), some (.inl x1), some (.inl x2), some (.inl x3), some (.inl x4), some (.inl x5), some (.inl x6), some (.inl x7), none] [] M) (x1 : Int) (x2 : Int) (x3 : Int) (x4 : Int) (x5 : Int) (x6 : Int) (x7 : Int) (x8 : Int) (M : Mem) (hf : fCh_tryAllPins_105 k61 R x1 x2 x3 x4 x5 x6 x7 x8 M) : AW shX 9 E 105 [some (.inr 27), some (.inl x1), some (.inl x2), some (.inl x3), some (.inl x4), some (.inl x5), some (.inl x6), some (.inl x7), some (.inl x8)] [] M := by
  refine a_iload C dX1_tryAllPins_105 rfl ?_
  refine a_aloadn C dX1_tryAllPins_107 rfl ?_
  refine a_getI C (kz := 16) fl_X1_48 rfl rfl rfl dX1_tryAllPins_108 ?_
  obtain ⟨hfa, hfb⟩ := hf
  refine a_icmp_lt C 117 dX1_tryAllPins_111 rfl (fun hc => ?_) (fun hc => ?_)
  · have hf := hfa hc
    refine a_aloadn C dX1_tryAllPins_117 rfl ?_
    refine a_iload C dX1_tryAllPins_118 rfl ?_
    refine a_putI C (kz := 16) fp_X1_48 rfl rfl rfl dX1_tryAllPins_120 ?_
    refine a_iload C dX1_tryAllPins_123 rfl ?_
    refine a_istore C dX1_tryAllPins_125 (by decide) (lv2 := [some (.inr 27), some (.inl x1), some (.inl x2), some (.inl x3), some (.inl x6), some (.inl x5), some (.inl x6), some (.inl x7), some (.inl x8)]) rfl ?_
    refine a_iload C dX1_tryAllPins_127 rfl ?_
    refine a_istore C dX1_tryAllPins_129 (by decide) (lv2 := [some (.inr 27), some (.inl x1), some (.inl x2), some (.inl x3), some (.inl x6), some (.inl x7), some (.inl x6), some (.inl x7), some (.inl x8)]) rfl ?_
    refine a_drop [true, true, true, true, true, true, true, true, false] (lv2 := [some (.inr 27), some (.inl x1), some (.inl x2), some (.inl x3), some (.inl x6), some (.inl x7), some (.inl x6), some (.inl x7), none]) rfl ?_
    exact sCh_tryAllPins_131 C X hk61 _ _ _ _ _ _ _ _ hf
  · have hf := hfb hc
    refine a_goto C 131 dX1_tryAllPins_114 rfl ?_
    refine a_drop [true, true, true, true, true, true, true, true, false] (lv2 := [some (.inr 27), some (.inl x1), some (.inl x2), some (.inl x3), some (.inl x4), some (.inl x5), some (.inl x6), some (.inl x7), none]) rfl ?_
    exact sCh_tryAllPins_131 C X hk61 _ _ _ _ _ _ _ _ hf
set_option maxRecDepth 20000 in
set_option maxHeartbeats 4000000 in
theorem sCh_tryAllPins_61 {E : EE} {R : Int → Mem → Prop} (C : Cx shX 9 cX1_tryAllPins RX1 4 99 E) (X : Rx shX none R E) {k48 : Int → Int → Int → Int → Int → Int → Mem → Prop} (hk48 : ∀ (x1 : Int) (x2 : Int) (x3 : Int) (x4 : Int) (x5 : Int) (x6 : Int) (M : Mem), k48 x1 x2 x3 x4 x5 x6 M → AW shX 9 E 48 [some (.inr 27), some (.inl x1), some (.inl x2), some (.inl x3), some (.inl x4), some (.inl x5), some (.inl x6), none, none] [] M) : ∀ (n : Nat) (x1 : Int) (x2 : Int) (x3 : Int) (x4 : Int) (x5 : Int) (x6 : Int) (x7 : Int) (M : Mem), fCh_tryAllPins_61 k48 R n x1 x2 x3 x4 x5 x6 x7 M → AW shX 9 E 61 [some (.inr 27), some (.inl x1), some (.inl x2), some (.inl x3), some (.inl x4), some (.inl x5), some (.inl x6), some (.inl x7), none] [] M := by
  intro n
  induction n with
  | zero => intro x1 x2 x3 x4 x5 x6 x7 M hf; exact hf.elim
  | succ n hk61 =>
    intro x1 x2 x3 x4 x5 x6 x7 M hf
    have hf : fCh_pinCount x3 M (fun r8 M8 => ((r8 ≤ x7 → k48 x1 x2 x3 x4 x5 (wrap (x6 + 1)) M8) ∧ (¬ r8 ≤ x7 → fCh_pin x2 x6 M8 (fun r9 M9 => fCh_pin x3 x7 M9 (fun r10 M10 => fCh_walkBack M10 (fun r11 M11 => fCh_total M11 (fun r12 M12 => ((x1 = 0 → fCh_tryAllPins_105 (fCh_tryAllPins_61 k48 R n) R x1 x2 x3 x4 x5 x6 x7 r12 M12) ∧ (¬ x1 = 0 → fCh_walkForth r12 M12 (fun r13 M13 => fCh_tryAllPins_105 (fCh_tryAllPins_61 k48 R n) R x1 x2 x3 x4 x5 x6 x7 r12 M13)))))))))) := hf
    refine a_iload C dX1_tryAllPins_61 rfl ?_
    refine a_aloadn C dX1_tryAllPins_63 rfl ?_
    refine a_iloadn C dX1_tryAllPins_64 rfl ?_
    refine a_callV C [.inl x3] [.inl x7] dX1_tryAllPins_65 (cCh_pinCount _) mv_X1_pinCount ln_X1_135 rfl rfl ⟨rfl, rfl, Nat.le_of_ble_eq_true rfl, Nat.le_of_ble_eq_true rfl, Nat.le_of_ble_eq_true rfl⟩ hf (fun r8 M8 hf => ?_)
    obtain ⟨hfa, hfb⟩ := hf
    refine a_icmp_ge C 137 dX1_tryAllPins_68 rfl (fun hc => ?_) (fun hc => ?_)
    · have hf := hfa hc
      refine a_iinc C dX1_tryAllPins_137 rfl (by decide) (lv2 := [some (.inr 27), some (.inl x1), some (.inl x2), some (.inl x3), some (.inl x4), some (.inl x5), some (.inl (wrap (x6 + 1))), some (.inl x7), none]) rfl ?_
      refine a_goto C 48 dX1_tryAllPins_140 rfl ?_
      refine a_drop [true, true, true, true, true, true, true, false, true] (lv2 := [some (.inr 27), some (.inl x1), some (.inl x2), some (.inl x3), some (.inl x4), some (.inl x5), some (.inl (wrap (x6 + 1))), none, none]) rfl ?_
      exact hk48 _ _ _ _ _ _ _ hf
    · have hf := hfb hc
      refine a_aloadn C dX1_tryAllPins_71 rfl ?_
      refine a_iloadn C dX1_tryAllPins_72 rfl ?_
      refine a_iload C dX1_tryAllPins_73 rfl ?_
      refine a_callV C [.inl x2, .inl x6] [] dX1_tryAllPins_75 (cCh_pin _ _) mv_X1_pin ln_X1_138 rfl rfl ⟨rfl, rfl, Nat.le_of_ble_eq_true rfl, Nat.le_of_ble_eq_true rfl, Nat.le_of_ble_eq_true rfl⟩ hf (fun r9 M9 hf => ?_)
      refine a_aloadn C dX1_tryAllPins_78 rfl ?_
      refine a_iloadn C dX1_tryAllPins_79 rfl ?_
      refine a_iload C dX1_tryAllPins_80 rfl ?_
      refine a_callV C [.inl x3, .inl x7] [] dX1_tryAllPins_82 (cCh_pin _ _) mv_X1_pin ln_X1_138 rfl rfl ⟨rfl, rfl, Nat.le_of_ble_eq_true rfl, Nat.le_of_ble_eq_true rfl, Nat.le_of_ble_eq_true rfl⟩ hf (fun r10 M10 hf => ?_)
      refine a_aloadn C dX1_tryAllPins_85 rfl ?_
      refine a_callV C [] [] dX1_tryAllPins_86 (cCh_walkBack) mv_X1_walkBack ln_X1_141 rfl rfl ⟨rfl, rfl, Nat.le_of_ble_eq_true rfl, Nat.le_of_ble_eq_true rfl, Nat.le_of_ble_eq_true rfl⟩ hf (fun r11 M11 hf => ?_)
      refine a_aloadn C dX1_tryAllPins_89 rfl ?_
      refine a_callV C [] [] dX1_tryAllPins_90 (cCh_total) mv_X1_total ln_X1_144 rfl rfl ⟨rfl, rfl, Nat.le_of_ble_eq_true rfl, Nat.le_of_ble_eq_true rfl, Nat.le_of_ble_eq_true rfl⟩ hf (fun r12 M12 hf => ?_)
      refine a_istore C dX1_tryAllPins_93 (by decide) (lv2 := [some (.inr 27), some (.inl x1), some (.inl x2), some (.inl x3), some (.inl x4), some (.inl x5), some (.inl x6), some (.inl x7), some (.inl r12)]) rfl ?_
      refine a_iloadn C dX1_tryAllPins_95 rfl ?_
      obtain ⟨hfa, hfb⟩ := hf
      refine a_if_eq C 105 dX1_tryAllPins_96 rfl (fun hc => ?_) (fun hc => ?_)
      · have hf := hfa hc
        exact sCh_tryAllPins_105 C X hk61 _ _ _ _ _ _ _ _ _ hf
      · have hf := hfb hc
        refine a_aloadn C dX1_tryAllPins_99 rfl ?_
        refine a_iload C dX1_tryAllPins_100 rfl ?_
        refine a_callV C [.inl r12] [] dX1_tryAllPins_102 (cCh_walkForth _) mv_X1_walkForth ln_X1_148 rfl rfl ⟨rfl, rfl, Nat.le_of_ble_eq_true rfl, Nat.le_of_ble_eq_true rfl, Nat.le_of_ble_eq_true rfl⟩ hf (fun r13 M13 hf => ?_)
        exact sCh_tryAllPins_105 C X hk61 _ _ _ _ _ _ _ _ _ hf
set_option maxRecDepth 20000 in
set_option maxHeartbeats 4000000 in
theorem sCh_tryAllPins_48 {E : EE} {R : Int → Mem → Prop} (C : Cx shX 9 cX1_tryAllPins RX1 4 99 E) (X : Rx shX none R E) : ∀ (n : Nat) (x1 : Int) (x2 : Int) (x3 : Int) (x4 : Int) (x5 : Int) (x6 : Int) (M : Mem), fCh_tryAllPins_48  R n x1 x2 x3 x4 x5 x6 M → AW shX 9 E 48 [some (.inr 27), some (.inl x1), some (.inl x2), some (.inl x3), some (.inl x4), some (.inl x5), some (.inl x6), none, none] [] M := by
  intro n
  induction n with
  | zero => intro x1 x2 x3 x4 x5 x6 M hf; exact hf.elim
  | succ n hk48 =>
    intro x1 x2 x3 x4 x5 x6 M hf
    have hf : fCh_pinCount x2 M (fun r3 M3 => ((r3 ≤ x6 → fCh_pin x2 x4 M3 (fun r4 M4 => fCh_pin x3 x5 M4 (fun r5 M5 => fCh_walkBack M5 (fun r6 M6 => fCh_pick M6 (fun r7 M7 => R 0 M7))))) ∧ (¬ r3 ≤ x6 → ∃ n14, fCh_tryAllPins_61 (fCh_tryAllPins_48 R n) R n14 x1 x2 x3 x4 x5 x6 0 M3))) := hf
    refine a_iload C dX1_tryAllPins_48 rfl ?_
    refine a_aloadn C dX1_tryAllPins_50 rfl ?_
    refine a_iloadn C dX1_tryAllPins_51 rfl ?_
    refine a_callV C [.inl x2] [.inl x6] dX1_tryAllPins_52 (cCh_pinCount _) mv_X1_pinCount ln_X1_135 rfl rfl ⟨rfl, rfl, Nat.le_of_ble_eq_true rfl, Nat.le_of_ble_eq_true rfl, Nat.le_of_ble_eq_true rfl⟩ hf (fun r3 M3 hf => ?_)
    obtain ⟨hfa, hfb⟩ := hf
    refine a_icmp_ge C 143 dX1_tryAllPins_55 rfl (fun hc => ?_) (fun hc => ?_)
    · have hf := hfa hc
      refine a_aloadn C dX1_tryAllPins_143 rfl ?_
      refine a_iloadn C dX1_tryAllPins_144 rfl ?_
      refine a_iload C dX1_tryAllPins_145 rfl ?_
      refine a_callV C [.inl x2, .inl x4] [] dX1_tryAllPins_147 (cCh_pin _ _) mv_X1_pin ln_X1_138 rfl rfl ⟨rfl, rfl, Nat.le_of_ble_eq_true rfl, Nat.le_of_ble_eq_true rfl, Nat.le_of_ble_eq_true rfl⟩ hf (fun r4 M4 hf => ?_)
      refine a_aloadn C dX1_tryAllPins_150 rfl ?_
      refine a_iloadn C dX1_tryAllPins_151 rfl ?_
      refine a_iload C dX1_tryAllPins_152 rfl ?_
      refine a_callV C [.inl x3, .inl x5] [] dX1_tryAllPins_154 (cCh_pin _ _) mv_X1_pin ln_X1_138 rfl rfl ⟨rfl, rfl, Nat.le_of_ble_eq_true rfl, Nat.le_of_ble_eq_true rfl, Nat.le_of_ble_eq_true rfl⟩ hf (fun r5 M5 hf => ?_)
      refine a_aloadn C dX1_tryAllPins_157 rfl ?_
      refine a_callV C [] [] dX1_tryAllPins_158 (cCh_walkBack) mv_X1_walkBack ln_X1_141 rfl rfl ⟨rfl, rfl, Nat.le_of_ble_eq_true rfl, Nat.le_of_ble_eq_true rfl, Nat.le_of_ble_eq_true rfl⟩ hf (fun r6 M6 hf => ?_)
      refine a_aloadn C dX1_tryAllPins_161 rfl ?_
      refine a_callV C [] [] dX1_tryAllPins_162 (cCh_pick) mv_X1_pick ln_X1_151 rfl rfl ⟨rfl, rfl, Nat.le_of_ble_eq_true rfl, Nat.le_of_ble_eq_true rfl, Nat.le_of_ble_eq_true rfl⟩ hf (fun r7 M7 hf => ?_)
      exact a_vret C X dX1_tryAllPins_165 hf
    · have hf := hfb hc
      refine a_iconst C dX1_tryAllPins_58 (inr_b rfl) ?_
      refine a_istore C dX1_tryAllPins_59 (by decide) (lv2 := [some (.inr 27), some (.inl x1), some (.inl x2), some (.inl x3), some (.inl x4), some (.inl x5), some (.inl x6), some (.inl 0), none]) rfl ?_
      obtain ⟨n14, hf⟩ := hf
      exact sCh_tryAllPins_61 C X hk48 n14 _ _ _ _ _ _ _ _ hf
set_option maxRecDepth 20000 in
set_option maxHeartbeats 4000000 in
theorem sCh_tryAllPins_30 {E : EE} {R : Int → Mem → Prop} (C : Cx shX 9 cX1_tryAllPins RX1 4 99 E) (X : Rx shX none R E) (x1 : Int) (x2 : Int) (t0 : Int) (M : Mem) (hf : fCh_tryAllPins_30  R x1 x2 t0 M) : AW shX 9 E 30 [some (.inr 27), some (.inl x1), some (.inl x2), none, none, none, none, none, none] [.inl t0] M := by
  refine a_istoren C dX1_tryAllPins_30 (by decide) (lv2 := [some (.inr 27), some (.inl x1), some (.inl x2), some (.inl t0), none, none, none, none, none]) rfl ?_
  refine a_bipush C dX1_tryAllPins_31 bp_m4 ?_
  refine a_istore C dX1_tryAllPins_33 (by decide) (lv2 := [some (.inr 27), some (.inl x1), some (.inl x2), some (.inl t0), some (.inl (-4)), none, none, none, none]) rfl ?_
  refine a_bipush C dX1_tryAllPins_35 bp_m4 ?_
  refine a_istore C dX1_tryAllPins_37 (by decide) (lv2 := [some (.inr 27), some (.inl x1), some (.inl x2), some (.inl t0), some (.inl (-4)), some (.inl (-4)), none, none, none]) rfl ?_
  refine a_aloadn C dX1_tryAllPins_39 rfl ?_
  refine a_ldc C dX1_tryAllPins_40 ct_X1_86 (inr_b rfl) ?_
  refine a_putI C (kz := 16) fp_X1_48 rfl rfl rfl dX1_tryAllPins_42 ?_
  refine a_iconst C dX1_tryAllPins_45 (inr_b rfl) ?_
  refine a_istore C dX1_tryAllPins_46 (by decide) (lv2 := [some (.inr 27), some (.inl x1), some (.inl x2), some (.inl t0), some (.inl (-4)), some (.inl (-4)), some (.inl 0), none, none]) rfl ?_
  obtain ⟨n15, hf⟩ := hf
  exact sCh_tryAllPins_48 C X  n15 _ _ _ _ _ _ _ hf
set_option maxRecDepth 20000 in
set_option maxHeartbeats 4000000 in
theorem cCh_tryAllPins (x1 : Int) : Snd shX yX1_tryAllPins cX1_tryAllPins 9 none 4 99 [.inr 27, .inl x1] (fCh_tryAllPins x1) := by
  refine Snd.of RX1 (by decide +kernel) rfl (Nat.le_of_ble_eq_true rfl) ?_
  intro E M R hf C X
  show AW shX 9 E 0 [some (.inr 27), some (.inl x1), none, none, none, none, none, none, none] [] M
  refine a_aloadn C dX1_tryAllPins_0 rfl ?_
  refine a_getR C 13 fl_X1_59 rfl rfl dX1_tryAllPins_1 ?_
  refine a_iconst C dX1_tryAllPins_4 (inr_b rfl) ?_
  refine a_callV C [.inl 0] [] dX1_tryAllPins_5 (cPr_targetFrom_p _) mv_X3_targetFrom ln_X1_132 rfl rfl ⟨rfl, rfl, Nat.le_of_ble_eq_true rfl, Nat.le_of_ble_eq_true rfl, Nat.le_of_ble_eq_true rfl⟩ hf (fun r1 M1 hf => ?_)
  refine a_istoren C dX1_tryAllPins_8 (by decide) (lv2 := [some (.inr 27), some (.inl x1), some (.inl r1), none, none, none, none, none, none]) rfl ?_
  refine a_iloadn C dX1_tryAllPins_9 rfl ?_
  refine a_bipush C dX1_tryAllPins_10 bp_m4 ?_
  obtain ⟨hfa, hfb⟩ := hf
  refine a_icmp_ne C 20 dX1_tryAllPins_12 rfl (fun hc => ?_) (fun hc => ?_)
  · have hf := hfa hc
    refine a_aloadn C dX1_tryAllPins_20 rfl ?_
    refine a_getR C 13 fl_X1_59 rfl rfl dX1_tryAllPins_21 ?_
    refine a_iloadn C dX1_tryAllPins_24 rfl ?_
    refine a_iconst C dX1_tryAllPins_25 (inr_b rfl) ?_
    refine a_iadd C dX1_tryAllPins_26 ?_
    refine a_callV C [.inl (wrap (r1 + 1))] [] dX1_tryAllPins_27 (cPr_targetFrom_p _) mv_X3_targetFrom ln_X1_132 rfl rfl ⟨rfl, rfl, Nat.le_of_ble_eq_true rfl, Nat.le_of_ble_eq_true rfl, Nat.le_of_ble_eq_true rfl⟩ hf (fun r2 M2 hf => ?_)
    exact sCh_tryAllPins_30 C X  _ _ _ _ hf
  · have hf := hfb hc
    refine a_bipush C dX1_tryAllPins_15 bp_m4 ?_
    refine a_goto C 30 dX1_tryAllPins_17 rfl ?_
    exact sCh_tryAllPins_30 C X  _ _ _ _ hf
set_option maxRecDepth 20000 in
set_option maxHeartbeats 4000000 in
theorem cCh_choose : Snd shX yX1_choose cX1_choose 1 none 5 127 [.inr 27] fCh_choose := by
  refine Snd.of RX1 (by decide +kernel) rfl (Nat.le_of_ble_eq_true rfl) ?_
  intro E M R hf C X
  show AW shX 1 E 0 [some (.inr 27)] [] M
  refine a_aloadn C dX1_choose_0 rfl ?_
  refine a_getI C (kz := 17) fl_X1_52 rfl rfl rfl dX1_choose_1 ?_
  obtain ⟨hfa, hfb⟩ := hf
  refine a_if_eq C 8 dX1_choose_4 rfl (fun hc => ?_) (fun hc => ?_)
  · have hf := hfa hc
    refine a_aloadn C dX1_choose_8 rfl ?_
    refine a_callV C [] [] dX1_choose_9 (cCh_prepare) mv_X1_prepare ln_X1_79 rfl rfl ⟨rfl, rfl, Nat.le_of_ble_eq_true rfl, Nat.le_of_ble_eq_true rfl, Nat.le_of_ble_eq_true rfl⟩ hf (fun r1 M1 hf => ?_)
    refine a_aloadn C dX1_choose_12 rfl ?_
    refine a_iconst C dX1_choose_13 (inr_b rfl) ?_
    refine a_callV C [.inl 0] [] dX1_choose_14 (cCh_tryAllPins _) mv_X1_tryAllPins ln_X1_82 rfl rfl ⟨rfl, rfl, Nat.le_of_ble_eq_true rfl, Nat.le_of_ble_eq_true rfl, Nat.le_of_ble_eq_true rfl⟩ hf (fun r2 M2 hf => ?_)
    refine a_aloadn C dX1_choose_17 rfl ?_
    refine a_iconst C dX1_choose_18 (inr_b rfl) ?_
    refine a_putZ C (kz := 17) fp_X1_52 (Or.inr rfl) rfl rfl rfl dX1_choose_19 ?_
    exact a_vret C X dX1_choose_22 hf
  · have hf := hfb hc
    exact a_vret C X dX1_choose_7 hf
set_option maxRecDepth 20000 in
set_option maxHeartbeats 4000000 in
theorem cSt_best : Snd shX yX7_best cX7_best 1 (some .int) 6 147 [.inr 0] fSt_best := by
  refine Snd.of RX7 (by decide +kernel) rfl (Nat.le_of_ble_eq_true rfl) ?_
  intro E M R hf C X
  show AW shX 1 E 0 [some (.inr 0)] [] M
  refine a_aloadn C dX7_best_0 rfl ?_
  refine a_getR C 27 fl_X7_52 rfl rfl dX7_best_1 ?_
  refine a_callV C [] [] dX7_best_4 (cCh_choose) mv_X1_choose ln_X7_204 rfl rfl ⟨rfl, rfl, Nat.le_of_ble_eq_true rfl, Nat.le_of_ble_eq_true rfl, Nat.le_of_ble_eq_true rfl⟩ hf (fun r1 M1 hf => ?_)
  refine a_aloadn C dX7_best_7 rfl ?_
  refine a_getR C 27 fl_X7_52 rfl rfl dX7_best_8 ?_
  refine a_getI C (kz := 16) fl_X7_207 rfl rfl rfl dX7_best_11 ?_
  exact a_iret C X dX7_best_14 hf
set_option maxRecDepth 20000 in
set_option maxHeartbeats 4000000 in
theorem cSt_meets (x1 x2 : Int) : Snd shX yX7_meets cX7_meets 4 (some .int) 6 147 [.inr 0, .inl x1, .inl x2] (fSt_meets x1 x2) := by
  refine Snd.of RX7 (by decide +kernel) rfl (Nat.le_of_ble_eq_true rfl) ?_
  intro E M R hf C X
  show AW shX 4 E 0 [some (.inr 0), some (.inl x1), some (.inl x2), none] [] M
  refine a_aloadn C dX7_meets_0 rfl ?_
  refine a_iloadn C dX7_meets_1 rfl ?_
  refine a_callV C [.inl x1] [] dX7_meets_2 (cSt_isInstruction _) mv_X7_isInstruction ln_X7_117 rfl rfl ⟨rfl, rfl, Nat.le_of_ble_eq_true rfl, Nat.le_of_ble_eq_true rfl, Nat.le_of_ble_eq_true rfl⟩ hf (fun r1 M1 hf => ?_)
  obtain ⟨hfa, hfb⟩ := hf
  refine a_if_eq C 17 dX7_meets_5 rfl (fun hc => ?_) (fun hc => ?_)
  · have hf := hfa hc
    refine a_iconst C dX7_meets_17 (inr_b rfl) ?_
    exact a_iret C X dX7_meets_18 hf
  · have hf := hfb hc
    refine a_iloadn C dX7_meets_8 rfl ?_
    obtain ⟨hfa, hfb⟩ := hf
    refine a_if_lt C 17 dX7_meets_9 rfl (fun hc => ?_) (fun hc => ?_)
    · have hf := hfa hc
      refine a_iconst C dX7_meets_17 (inr_b rfl) ?_
      exact a_iret C X dX7_meets_18 hf
    · have hf := hfb hc
      refine a_iloadn C dX7_meets_12 rfl ?_
      refine a_iconst C dX7_meets_13 (inr_b rfl) ?_
      obtain ⟨hfa, hfb⟩ := hf
      refine a_icmp_le C 19 dX7_meets_14 rfl (fun hc => ?_) (fun hc => ?_)
      · have hf := hfa hc
        refine a_aloadn C dX7_meets_19 rfl ?_
        refine a_getR C 13 fl_X7_40 rfl rfl dX7_meets_20 ?_
        refine a_iloadn C dX7_meets_23 rfl ?_
        refine a_callV C [.inl x1] [] dX7_meets_24 (cPr_isReached_p _) mv_X3_isReached ln_X7_132 rfl rfl ⟨rfl, rfl, Nat.le_of_ble_eq_true rfl, Nat.le_of_ble_eq_true rfl, Nat.le_of_ble_eq_true rfl⟩ hf (fun r2 M2 hf => ?_)
        obtain ⟨hfa, hfb⟩ := hf
        refine a_if_ne C 33 dX7_meets_27 rfl (fun hc => ?_) (fun hc => ?_)
        · have hf := hfa hc
          refine a_aloadn C dX7_meets_33 rfl ?_
          refine a_getR C 27 fl_X7_52 rfl rfl dX7_meets_34 ?_
          refine a_callV C [] [] dX7_meets_37 (cCh_choose) mv_X1_choose ln_X7_204 rfl rfl ⟨rfl, rfl, Nat.le_of_ble_eq_true rfl, Nat.le_of_ble_eq_true rfl, Nat.le_of_ble_eq_true rfl⟩ hf (fun r3 M3 hf => ?_)
          refine a_aloadn C dX7_meets_40 rfl ?_
          refine a_getR C 27 fl_X7_52 rfl rfl dX7_meets_41 ?_
          refine a_getR C 39 fl_X7_210 rfl rfl dX7_meets_44 ?_
          refine a_iloadn C dX7_meets_47 rfl ?_
          obtain ⟨hg, hf⟩ := hf
          refine a_iald C (n := 24) rfl hg dX7_meets_48 ?_
          refine a_istoren C dX7_meets_49 (by decide) (lv2 := [some (.inr 0), some (.inl x1), some (.inl x2), some (.inl (M3 39 x1))]) rfl ?_
          refine a_iloadn C dX7_meets_50 rfl ?_
          obtain ⟨hfa, hfb⟩ := hf
          refine a_if_ne C 58 dX7_meets_51 rfl (fun hc => ?_) (fun hc => ?_)
          · have hf := hfa hc
            refine a_aloadn C dX7_meets_58 rfl ?_
            refine a_getR C 8 fl_X7_33 rfl rfl dX7_meets_59 ?_
            refine a_aloadn C dX7_meets_62 rfl ?_
            refine a_getR C 13 fl_X7_40 rfl rfl dX7_meets_63 ?_
            refine a_getR C 14 fl_X7_123 rfl rfl dX7_meets_66 ?_
            refine a_iloadn C dX7_meets_69 rfl ?_
            obtain ⟨hg, hf⟩ := hf
            refine a_iald C (n := 24) rfl hg dX7_meets_70 ?_
            refine a_iloadn C dX7_meets_71 rfl ?_
            refine a_callV C [.inl (M3 14 x1), .inl (M3 39 x1)] [] dX7_meets_72 (cMa_stateAfter _ _) mv_X2_stateAfter ln_X7_195 rfl rfl ⟨rfl, rfl, Nat.le_of_ble_eq_true rfl, Nat.le_of_ble_eq_true rfl, Nat.le_of_ble_eq_true rfl⟩ hf (fun r4 M4 hf => ?_)
            exact a_iret C X dX7_meets_75 hf
          · have hf := hfb hc
            refine a_iloadn C dX7_meets_54 rfl ?_
            refine a_goto C 75 dX7_meets_55 rfl ?_
            exact a_iret C X dX7_meets_75 hf
        · have hf := hfb hc
          refine a_bipush C dX7_meets_30 bp_m4 ?_
          exact a_iret C X dX7_meets_32 hf
      · have hf := hfb hc
        refine a_iconst C dX7_meets_17 (inr_b rfl) ?_
        exact a_iret C X dX7_meets_18 hf
set_option maxRecDepth 20000 in
set_option maxHeartbeats 4000000 in
theorem sArr_fill_36_5 {E : EE} {R : Int → Mem → Prop} (C : Cx shX 4 cJ7_fill_53178 RJ7 0 0 E) (X : Rx shX none R E) : ∀ (n : Nat) (x1 : Int) (x2 : Int) (x3 : Int) (M : Mem), fArr_fill_36_5  R n x1 x2 x3 M → AW shX 4 E 5 [some (.inr 36), some (.inl x1), some (.inl x2), some (.inl x3)] [] M := by
  intro n
  induction n with
  | zero => intro x1 x2 x3 M hf; exact hf.elim
  | succ n hk5 =>
    intro x1 x2 x3 M hf
    refine a_iloadn C dJ7_fill_53178_5 rfl ?_
    refine a_iloadn C dJ7_fill_53178_6 rfl ?_
    obtain ⟨hfa, hfb⟩ := hf
    refine a_icmp_ge C 20 dJ7_fill_53178_7 rfl (fun hc => ?_) (fun hc => ?_)
    · have hf := hfa hc
      exact a_vret C X dJ7_fill_53178_20 hf
    · have hf := hfb hc
      refine a_aloadn C dJ7_fill_53178_10 rfl ?_
      refine a_iloadn C dJ7_fill_53178_11 rfl ?_
      refine a_iloadn C dJ7_fill_53178_12 rfl ?_
      obtain ⟨hg, hf⟩ := hf
      refine a_iast C (n := 384) rfl hg dJ7_fill_53178_13 ?_
      refine a_iinc C dJ7_fill_53178_14 rfl (by decide) (lv2 := [some (.inr 36), some (.inl x1), some (.inl (wrap (x2 + 1))), some (.inl x3)]) rfl ?_
      refine a_goto C 5 dJ7_fill_53178_17 rfl ?_
      exact hk5 _ _ _ _ hf
set_option maxRecDepth 20000 in
set_option maxHeartbeats 4000000 in
theorem cArr_fill_36 (x1 : Int) : Snd shX yJ7_fill_53178 cJ7_fill_53178 4 none 0 0 [.inr 36, .inl x1] (fArr_fill_36 x1) := by
  refine Snd.of RJ7 (by decide +kernel) rfl (Nat.le_of_ble_eq_true rfl) ?_
  intro E M R hf C X
  show AW shX 4 E 0 [some (.inr 36), some (.inl x1), none, none] [] M
  refine a_iconst C dJ7_fill_53178_0 (inr_b rfl) ?_
  refine a_istoren C dJ7_fill_53178_1 (by decide) (lv2 := [some (.inr 36), some (.inl x1), some (.inl 0), none]) rfl ?_
  refine a_aloadn C dJ7_fill_53178_2 rfl ?_
  refine a_alen C 384 rfl rfl rfl (inr_b rfl) dJ7_fill_53178_3 ?_
  refine a_istoren C dJ7_fill_53178_4 (by decide) (lv2 := [some (.inr 36), some (.inl x1), some (.inl 0), some (.inl 384)]) rfl ?_
  obtain ⟨n1, hf⟩ := hf
  exact sArr_fill_36_5 C X  n1 _ _ _ _ hf
set_option maxRecDepth 20000 in
set_option maxHeartbeats 4000000 in
theorem cCh_findLeast : Snd shX yX1_findLeast cX1_findLeast 1 none 5 127 [.inr 27] fCh_findLeast := by
  refine Snd.of RX1 (by decide +kernel) rfl (Nat.le_of_ble_eq_true rfl) ?_
  intro E M R hf C X
  show AW shX 1 E 0 [some (.inr 27)] [] M
  refine a_aloadn C dX1_findLeast_0 rfl ?_
  refine a_getI C (kz := 18) fl_X1_56 rfl rfl rfl dX1_findLeast_1 ?_
  obtain ⟨hfa, hfb⟩ := hf
  refine a_if_eq C 8 dX1_findLeast_4 rfl (fun hc => ?_) (fun hc => ?_)
  · have hf := hfa hc
    refine a_aloadn C dX1_findLeast_8 rfl ?_
    refine a_callV C [] [] dX1_findLeast_9 (cCh_prepare) mv_X1_prepare ln_X1_79 rfl rfl ⟨rfl, rfl, Nat.le_of_ble_eq_true rfl, Nat.le_of_ble_eq_true rfl, Nat.le_of_ble_eq_true rfl⟩ hf (fun r1 M1 hf => ?_)
    refine a_aloadn C dX1_findLeast_12 rfl ?_
    refine a_getR C 36 fl_X1_36 rfl rfl dX1_findLeast_13 ?_
    refine a_ldc C dX1_findLeast_16 ct_X1_86 (inr_b rfl) ?_
    refine a_callS C [.inr 36, .inl 1000000000] [] dX1_findLeast_18 (cArr_fill_36 _) ms_J7_fill_53178 ln_X1_87 ⟨rfl, rfl, Nat.le_of_ble_eq_true rfl, Nat.le_of_ble_eq_true rfl, Nat.le_of_ble_eq_true rfl⟩ hf (fun r2 M2 hf => ?_)
    refine a_aloadn C dX1_findLeast_21 rfl ?_
    refine a_iconst C dX1_findLeast_22 (inr_b rfl) ?_
    refine a_callV C [.inl 1] [] dX1_findLeast_23 (cCh_tryAllPins _) mv_X1_tryAllPins ln_X1_82 rfl rfl ⟨rfl, rfl, Nat.le_of_ble_eq_true rfl, Nat.le_of_ble_eq_true rfl, Nat.le_of_ble_eq_true rfl⟩ hf (fun r3 M3 hf => ?_)
    refine a_aloadn C dX1_findLeast_26 rfl ?_
    refine a_iconst C dX1_findLeast_27 (inr_b rfl) ?_
    refine a_putZ C (kz := 17) fp_X1_52 (Or.inr rfl) rfl rfl rfl dX1_findLeast_28 ?_
    refine a_aloadn C dX1_findLeast_31 rfl ?_
    refine a_iconst C dX1_findLeast_32 (inr_b rfl) ?_
    refine a_putZ C (kz := 18) fp_X1_56 (Or.inr rfl) rfl rfl rfl dX1_findLeast_33 ?_
    exact a_vret C X dX1_findLeast_36 hf
  · have hf := hfb hc
    exact a_vret C X dX1_findLeast_7 hf
set_option maxRecDepth 20000 in
set_option maxHeartbeats 4000000 in
theorem cCh_leastWith (x1 x2 : Int) : Snd shX yX1_leastWith cX1_leastWith 4 (some .int) 0 0 [.inr 27, .inl x1, .inl x2] (fCh_leastWith x1 x2) := by
  refine Snd.of RX1 (by decide +kernel) rfl (Nat.le_of_ble_eq_true rfl) ?_
  intro E M R hf C X
  show AW shX 4 E 0 [some (.inr 27), some (.inl x1), some (.inl x2), none] [] M
  refine a_aloadn C dX1_leastWith_0 rfl ?_
  refine a_getR C 36 fl_X1_36 rfl rfl dX1_leastWith_1 ?_
  refine a_iloadn C dX1_leastWith_4 rfl ?_
  refine a_bipush C dX1_leastWith_5 bp_16 ?_
  refine a_imul C dX1_leastWith_7 ?_
  refine a_iloadn C dX1_leastWith_8 rfl ?_
  refine a_iadd C dX1_leastWith_9 ?_
  obtain ⟨hg, hf⟩ := hf
  refine a_iald C (n := 384) rfl hg dX1_leastWith_10 ?_
  refine a_istoren C dX1_leastWith_11 (by decide) (lv2 := [some (.inr 27), some (.inl x1), some (.inl x2), some (.inl (M 36 (wrap ((wrap (x1 * 16)) + x2))))]) rfl ?_
  refine a_iloadn C dX1_leastWith_12 rfl ?_
  refine a_ldc C dX1_leastWith_13 ct_X1_86 (inr_b rfl) ?_
  obtain ⟨hfa, hfb⟩ := hf
  refine a_icmp_ne C 23 dX1_leastWith_15 rfl (fun hc => ?_) (fun hc => ?_)
  · have hf := hfa hc
    refine a_iloadn C dX1_leastWith_23 rfl ?_
    exact a_iret C X dX1_leastWith_24 hf
  · have hf := hfb hc
    refine a_bipush C dX1_leastWith_18 bp_m4 ?_
    refine a_goto C 24 dX1_leastWith_20 rfl ?_
    exact a_iret C X dX1_leastWith_24 hf
set_option maxRecDepth 20000 in
set_option maxHeartbeats 4000000 in
theorem cSt_ifMeets (x1 x2 : Int) : Snd shX yX7_ifMeets cX7_ifMeets 3 (some .int) 6 147 [.inr 0, .inl x1, .inl x2] (fSt_ifMeets x1 x2) := by
  refine Snd.of RX7 (by decide +kernel) rfl (Nat.le_of_ble_eq_true rfl) ?_
  intro E M R hf C X
  show AW shX 3 E 0 [some (.inr 0), some (.inl x1), some (.inl x2)] [] M
  refine a_aloadn C dX7_ifMeets_0 rfl ?_
  refine a_iloadn C dX7_ifMeets_1 rfl ?_
  refine a_callV C [.inl x1] [] dX7_ifMeets_2 (cSt_isInstruction _) mv_X7_isInstruction ln_X7_117 rfl rfl ⟨rfl, rfl, Nat.le_of_ble_eq_true rfl, Nat.le_of_ble_eq_true rfl, Nat.le_of_ble_eq_true rfl⟩ hf (fun r1 M1 hf => ?_)
  obtain ⟨hfa, hfb⟩ := hf
  refine a_if_eq C 16 dX7_ifMeets_5 rfl (fun hc => ?_) (fun hc => ?_)
  · have hf := hfa hc
    refine a_iconst C dX7_ifMeets_16 (inr_b rfl) ?_
    exact a_iret C X dX7_ifMeets_17 hf
  · have hf := hfb hc
    refine a_aloadn C dX7_ifMeets_8 rfl ?_
    refine a_iloadn C dX7_ifMeets_9 rfl ?_
    refine a_callV C [.inl x2] [] dX7_ifMeets_10 (cSt_isState _) mv_X7_isState ln_X7_178 rfl rfl ⟨rfl, rfl, Nat.le_of_ble_eq_true rfl, Nat.le_of_ble_eq_true rfl, Nat.le_of_ble_eq_true rfl⟩ hf (fun r2 M2 hf => ?_)
    obtain ⟨hfa, hfb⟩ := hf
    refine a_if_ne C 18 dX7_ifMeets_13 rfl (fun hc => ?_) (fun hc => ?_)
    · have hf := hfa hc
      refine a_aloadn C dX7_ifMeets_18 rfl ?_
      refine a_getR C 13 fl_X7_40 rfl rfl dX7_ifMeets_19 ?_
      refine a_iloadn C dX7_ifMeets_22 rfl ?_
      refine a_callV C [.inl x1] [] dX7_ifMeets_23 (cPr_isReached_p _) mv_X3_isReached ln_X7_132 rfl rfl ⟨rfl, rfl, Nat.le_of_ble_eq_true rfl, Nat.le_of_ble_eq_true rfl, Nat.le_of_ble_eq_true rfl⟩ hf (fun r3 M3 hf => ?_)
      obtain ⟨hfa, hfb⟩ := hf
      refine a_if_ne C 32 dX7_ifMeets_26 rfl (fun hc => ?_) (fun hc => ?_)
      · have hf := hfa hc
        refine a_aloadn C dX7_ifMeets_32 rfl ?_
        refine a_getR C 27 fl_X7_52 rfl rfl dX7_ifMeets_33 ?_
        refine a_callV C [] [] dX7_ifMeets_36 (cCh_findLeast) mv_X1_findLeast ln_X7_213 rfl rfl ⟨rfl, rfl, Nat.le_of_ble_eq_true rfl, Nat.le_of_ble_eq_true rfl, Nat.le_of_ble_eq_true rfl⟩ hf (fun r4 M4 hf => ?_)
        refine a_aloadn C dX7_ifMeets_39 rfl ?_
        refine a_getR C 27 fl_X7_52 rfl rfl dX7_ifMeets_40 ?_
        refine a_iloadn C dX7_ifMeets_43 rfl ?_
        refine a_iloadn C dX7_ifMeets_44 rfl ?_
        refine a_callV C [.inl x1, .inl x2] [] dX7_ifMeets_45 (cCh_leastWith _ _) mv_X1_leastWith ln_X7_216 rfl rfl ⟨rfl, rfl, Nat.le_of_ble_eq_true rfl, Nat.le_of_ble_eq_true rfl, Nat.le_of_ble_eq_true rfl⟩ hf (fun r5 M5 hf => ?_)
        exact a_iret C X dX7_ifMeets_48 hf
      · have hf := hfb hc
        refine a_bipush C dX7_ifMeets_29 bp_m4 ?_
        exact a_iret C X dX7_ifMeets_31 hf
    · have hf := hfb hc
      refine a_iconst C dX7_ifMeets_16 (inr_b rfl) ?_
      exact a_iret C X dX7_ifMeets_17 hf
set_option maxRecDepth 20000 in
set_option maxHeartbeats 4000000 in
theorem sArr_fill_42_5 {E : EE} {R : Int → Mem → Prop} (C : Cx shX 4 cJ7_fill_53178 RJ7 0 0 E) (X : Rx shX none R E) : ∀ (n : Nat) (x1 : Int) (x2 : Int) (x3 : Int) (M : Mem), fArr_fill_42_5  R n x1 x2 x3 M → AW shX 4 E 5 [some (.inr 42), some (.inl x1), some (.inl x2), some (.inl x3)] [] M := by
  intro n
  induction n with
  | zero => intro x1 x2 x3 M hf; exact hf.elim
  | succ n hk5 =>
    intro x1 x2 x3 M hf
    refine a_iloadn C dJ7_fill_53178_5 rfl ?_
    refine a_iloadn C dJ7_fill_53178_6 rfl ?_
    obtain ⟨hfa, hfb⟩ := hf
    refine a_icmp_ge C 20 dJ7_fill_53178_7 rfl (fun hc => ?_) (fun hc => ?_)
    · have hf := hfa hc
      exact a_vret C X dJ7_fill_53178_20 hf
    · have hf := hfb hc
      refine a_aloadn C dJ7_fill_53178_10 rfl ?_
      refine a_iloadn C dJ7_fill_53178_11 rfl ?_
      refine a_iloadn C dJ7_fill_53178_12 rfl ?_
      obtain ⟨hg, hf⟩ := hf
      refine a_iast C (n := 4) rfl hg dJ7_fill_53178_13 ?_
      refine a_iinc C dJ7_fill_53178_14 rfl (by decide) (lv2 := [some (.inr 42), some (.inl x1), some (.inl (wrap (x2 + 1))), some (.inl x3)]) rfl ?_
      refine a_goto C 5 dJ7_fill_53178_17 rfl ?_
      exact hk5 _ _ _ _ hf
set_option maxRecDepth 20000 in
set_option maxHeartbeats 4000000 in
theorem cArr_fill_42 (x1 : Int) : Snd shX yJ7_fill_53178 cJ7_fill_53178 4 none 0 0 [.inr 42, .inl x1] (fArr_fill_42 x1) := by
  refine Snd.of RJ7 (by decide +kernel) rfl (Nat.le_of_ble_eq_true rfl) ?_
  intro E M R hf C X
  show AW shX 4 E 0 [some (.inr 42), some (.inl x1), none, none] [] M
  refine a_iconst C dJ7_fill_53178_0 (inr_b rfl) ?_
  refine a_istoren C dJ7_fill_53178_1 (by decide) (lv2 := [some (.inr 42), some (.inl x1), some (.inl 0), none]) rfl ?_
  refine a_aloadn C dJ7_fill_53178_2 rfl ?_
  refine a_alen C 4 rfl rfl rfl (inr_b rfl) dJ7_fill_53178_3 ?_
  refine a_istoren C dJ7_fill_53178_4 (by decide) (lv2 := [some (.inr 42), some (.inl x1), some (.inl 0), some (.inl 4)]) rfl ?_
  obtain ⟨n1, hf⟩ := hf
  exact sArr_fill_42_5 C X  n1 _ _ _ _ hf
set_option maxRecDepth 20000 in
set_option maxHeartbeats 4000000 in
theorem sArr_fill_44_5 {E : EE} {R : Int → Mem → Prop} (C : Cx shX 4 cJ7_fill_53178 RJ7 0 0 E) (X : Rx shX none R E) : ∀ (n : Nat) (x1 : Int) (x2 : Int) (x3 : Int) (M : Mem), fArr_fill_44_5  R n x1 x2 x3 M → AW shX 4 E 5 [some (.inr 44), some (.inl x1), some (.inl x2), some (.inl x3)] [] M := by
  intro n
  induction n with
  | zero => intro x1 x2 x3 M hf; exact hf.elim
  | succ n hk5 =>
    intro x1 x2 x3 M hf
    refine a_iloadn C dJ7_fill_53178_5 rfl ?_
    refine a_iloadn C dJ7_fill_53178_6 rfl ?_
    obtain ⟨hfa, hfb⟩ := hf
    refine a_icmp_ge C 20 dJ7_fill_53178_7 rfl (fun hc => ?_) (fun hc => ?_)
    · have hf := hfa hc
      exact a_vret C X dJ7_fill_53178_20 hf
    · have hf := hfb hc
      refine a_aloadn C dJ7_fill_53178_10 rfl ?_
      refine a_iloadn C dJ7_fill_53178_11 rfl ?_
      refine a_iloadn C dJ7_fill_53178_12 rfl ?_
      obtain ⟨hg, hf⟩ := hf
      refine a_iast C (n := 24) rfl hg dJ7_fill_53178_13 ?_
      refine a_iinc C dJ7_fill_53178_14 rfl (by decide) (lv2 := [some (.inr 44), some (.inl x1), some (.inl (wrap (x2 + 1))), some (.inl x3)]) rfl ?_
      refine a_goto C 5 dJ7_fill_53178_17 rfl ?_
      exact hk5 _ _ _ _ hf
set_option maxRecDepth 20000 in
set_option maxHeartbeats 4000000 in
theorem cArr_fill_44 (x1 : Int) : Snd shX yJ7_fill_53178 cJ7_fill_53178 4 none 0 0 [.inr 44, .inl x1] (fArr_fill_44 x1) := by
  refine Snd.of RJ7 (by decide +kernel) rfl (Nat.le_of_ble_eq_true rfl) ?_
  intro E M R hf C X
  show AW shX 4 E 0 [some (.inr 44), some (.inl x1), none, none] [] M
  refine a_iconst C dJ7_fill_53178_0 (inr_b rfl) ?_
  refine a_istoren C dJ7_fill_53178_1 (by decide) (lv2 := [some (.inr 44), some (.inl x1), some (.inl 0), none]) rfl ?_
  refine a_aloadn C dJ7_fill_53178_2 rfl ?_
  refine a_alen C 24 rfl rfl rfl (inr_b rfl) dJ7_fill_53178_3 ?_
  refine a_istoren C dJ7_fill_53178_4 (by decide) (lv2 := [some (.inr 44), some (.inl x1), some (.inl 0), some (.inl 24)]) rfl ?_
  obtain ⟨n1, hf⟩ := hf
  exact sArr_fill_44_5 C X  n1 _ _ _ _ hf
set_option maxRecDepth 20000 in
set_option maxHeartbeats 4000000 in
theorem cRu_begin : Snd shX yX4_begin cX4_begin 1 none 1 23 [.inr 40] fRu_begin := by
  refine Snd.of RX4 (by decide +kernel) rfl (Nat.le_of_ble_eq_true rfl) ?_
  intro E M R hf C X
  show AW shX 1 E 0 [some (.inr 40)] [] M
  refine a_aloadn C dX4_begin_0 rfl ?_
  refine a_getR C 42 fl_X4_15 rfl rfl dX4_begin_1 ?_
  refine a_iconst C dX4_begin_4 (inr_b rfl) ?_
  refine a_callS C [.inr 42, .inl 0] [] dX4_begin_5 (cArr_fill_42 _) ms_J7_fill_53178 ln_X4_64 ⟨rfl, rfl, Nat.le_of_ble_eq_true rfl, Nat.le_of_ble_eq_true rfl, Nat.le_of_ble_eq_true rfl⟩ hf (fun r1 M1 hf => ?_)
  refine a_aloadn C dX4_begin_8 rfl ?_
  refine a_getR C 44 fl_X4_21 rfl rfl dX4_begin_9 ?_
  refine a_iconst C dX4_begin_12 (inr_b rfl) ?_
  refine a_callS C [.inr 44, .inl 0] [] dX4_begin_13 (cArr_fill_44 _) ms_J7_fill_53178 ln_X4_64 ⟨rfl, rfl, Nat.le_of_ble_eq_true rfl, Nat.le_of_ble_eq_true rfl, Nat.le_of_ble_eq_true rfl⟩ hf (fun r2 M2 hf => ?_)
  refine a_aloadn C dX4_begin_16 rfl ?_
  refine a_iconst C dX4_begin_17 (inr_b rfl) ?_
  refine a_putZ C (kz := 7) fp_X4_24 (Or.inr rfl) rfl rfl rfl dX4_begin_18 ?_
  refine a_aloadn C dX4_begin_21 rfl ?_
  refine a_iconst C dX4_begin_22 (inr_b rfl) ?_
  refine a_putZ C (kz := 8) fp_X4_28 (Or.inl rfl) rfl rfl rfl dX4_begin_23 ?_
  refine a_aloadn C dX4_begin_26 rfl ?_
  refine a_iconst C dX4_begin_27 (inr_b rfl) ?_
  refine a_putI C (kz := 9) fp_X4_31 rfl rfl rfl dX4_begin_28 ?_
  refine a_aloadn C dX4_begin_31 rfl ?_
  refine a_aloadn C dX4_begin_32 rfl ?_
  refine a_getR C 39 fl_X4_63 rfl rfl dX4_begin_33 ?_
  refine a_iconst C dX4_begin_36 (inr_b rfl) ?_
  refine a_iald C (n := 24) rfl (inb_b rfl) dX4_begin_37 ?_
  refine a_putI C (kz := 10) fp_X4_35 rfl rfl rfl dX4_begin_38 ?_
  refine a_aloadn C dX4_begin_41 rfl ?_
  refine a_iconst C dX4_begin_42 (inr_b rfl) ?_
  refine a_putI C (kz := 11) fp_X4_38 rfl rfl rfl dX4_begin_43 ?_
  refine a_aloadn C dX4_begin_46 rfl ?_
  refine a_iconst C dX4_begin_47 (inr_b rfl) ?_
  refine a_putI C (kz := 12) fp_X4_41 rfl rfl rfl dX4_begin_48 ?_
  refine a_aloadn C dX4_begin_51 rfl ?_
  refine a_iconst C dX4_begin_52 (inr_b rfl) ?_
  refine a_putI C (kz := 13) fp_X4_44 rfl rfl rfl dX4_begin_53 ?_
  refine a_aloadn C dX4_begin_56 rfl ?_
  refine a_iconst C dX4_begin_57 (inr_b rfl) ?_
  refine a_putI C (kz := 14) fp_X4_47 rfl rfl rfl dX4_begin_58 ?_
  exact a_vret C X dX4_begin_61 hf
set_option maxRecDepth 20000 in
set_option maxHeartbeats 4000000 in
theorem cSt_start : Snd shX yX7_start cX7_start 1 (some .int) 6 147 [.inr 0] fSt_start := by
  refine Snd.of RX7 (by decide +kernel) rfl (Nat.le_of_ble_eq_true rfl) ?_
  intro E M R hf C X
  show AW shX 1 E 0 [some (.inr 0)] [] M
  refine a_aloadn C dX7_start_0 rfl ?_
  refine a_getR C 27 fl_X7_52 rfl rfl dX7_start_1 ?_
  refine a_callV C [] [] dX7_start_4 (cCh_choose) mv_X1_choose ln_X7_204 rfl rfl ⟨rfl, rfl, Nat.le_of_ble_eq_true rfl, Nat.le_of_ble_eq_true rfl, Nat.le_of_ble_eq_true rfl⟩ hf (fun r1 M1 hf => ?_)
  refine a_aloadn C dX7_start_7 rfl ?_
  refine a_getR C 40 fl_X7_61 rfl rfl dX7_start_8 ?_
  refine a_callV C [] [] dX7_start_11 (cRu_begin) mv_X4_begin ln_X7_219 rfl rfl ⟨rfl, rfl, Nat.le_of_ble_eq_true rfl, Nat.le_of_ble_eq_true rfl, Nat.le_of_ble_eq_true rfl⟩ hf (fun r2 M2 hf => ?_)
  refine a_aloadn C dX7_start_14 rfl ?_
  refine a_getR C 40 fl_X7_61 rfl rfl dX7_start_15 ?_
  refine a_getI C (kz := 10) fl_X7_222 rfl rfl rfl dX7_start_18 ?_
  exact a_iret C X dX7_start_21 hf
set_option maxRecDepth 20000 in
set_option maxHeartbeats 4000000 in
theorem cRu_push (x1 : Int) : Snd shX yX4_push cX4_push 2 none 0 0 [.inr 40, .inl x1] (fRu_push x1) := by
  refine Snd.of RX4 (by decide +kernel) rfl (Nat.le_of_ble_eq_true rfl) ?_
  intro E M R hf C X
  show AW shX 2 E 0 [some (.inr 40), some (.inl x1)] [] M
  refine a_aloadn C dX4_push_0 rfl ?_
  refine a_getI C (kz := 11) fl_X4_38 rfl rfl rfl dX4_push_1 ?_
  refine a_aloadn C dX4_push_4 rfl ?_
  refine a_getR C 41 fl_X4_9 rfl rfl dX4_push_5 ?_
  refine a_alen C 12 rfl rfl rfl (inr_b rfl) dX4_push_8 ?_
  obtain ⟨hfa, hfb⟩ := hf
  refine a_icmp_ge C 29 dX4_push_9 rfl (fun hc => ?_) (fun hc => ?_)
  · have hf := hfa hc
    exact a_vret C X dX4_push_29 hf
  · have hf := hfb hc
    refine a_aloadn C dX4_push_12 rfl ?_
    refine a_getR C 41 fl_X4_9 rfl rfl dX4_push_13 ?_
    refine a_aloadn C dX4_push_16 rfl ?_
    refine a_dup C dX4_push_17 ?_
    refine a_getI C (kz := 11) fl_X4_38 rfl rfl rfl dX4_push_18 ?_
    refine a_dup_x1 C dX4_push_21 ?_
    refine a_iconst C dX4_push_22 (inr_b rfl) ?_
    refine a_iadd C dX4_push_23 ?_
    refine a_putI C (kz := 11) fp_X4_38 rfl rfl rfl dX4_push_24 ?_
    refine a_iloadn C dX4_push_27 rfl ?_
    obtain ⟨hg, hf⟩ := hf
    refine a_iast C (n := 12) rfl hg dX4_push_28 ?_
    exact a_vret C X dX4_push_29 hf
