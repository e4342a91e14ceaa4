set_option maxRecDepth 20000 in
set_option maxHeartbeats 4000000 in
theorem sMd_rolls_17 {E : EE} {R : Int → Mem → Prop} (C : Cx shM 5 cX8_rolls RX8 0 0 E) (X : Rx shM none R E) : ∀ (n : Nat) (x3 : Int) (x4 : Int) (M : Mem), fMd_rolls_17  R n x3 x4 M → AW shM 5 E 17 [some (.inr 0), none, none, some (.inl x3), some (.inl x4)] [] M := by
  intro n
  induction n with
  | zero => intro x3 x4 M hf; exact hf.elim
  | succ n hk17 =>
    intro x3 x4 M hf
    refine a_iload C dX8_rolls_17 rfl ?_
    refine a_iconst C dX8_rolls_19 (inr_b rfl) ?_
    refine a_iadd C dX8_rolls_20 ?_
    refine a_aloadn C dX8_rolls_21 rfl ?_
    refine a_getI C (kz := 48) fl_X8_306 rfl rfl rfl dX8_rolls_22 ?_
    obtain ⟨hfa, hfb⟩ := hf
    refine a_icmp_ge C 50 dX8_rolls_25 rfl (fun hc => ?_) (fun hc => ?_)
    · have hf := hfa hc
      refine a_aloadn C dX8_rolls_50 rfl ?_
      refine a_getR C 27 fl_X8_92 rfl rfl dX8_rolls_51 ?_
      refine a_aloadn C dX8_rolls_54 rfl ?_
      refine a_getI C (kz := 48) fl_X8_306 rfl rfl rfl dX8_rolls_55 ?_
      refine a_iconst C dX8_rolls_58 (inr_b rfl) ?_
      refine a_isub C dX8_rolls_59 ?_
      refine a_iloadn C dX8_rolls_60 rfl ?_
      obtain ⟨hg, hf⟩ := hf
      refine a_iast C (n := 16) rfl hg dX8_rolls_61 ?_
      exact a_vret C X dX8_rolls_62 hf
    · have hf := hfb hc
      refine a_aloadn C dX8_rolls_28 rfl ?_
      refine a_getR C 27 fl_X8_92 rfl rfl dX8_rolls_29 ?_
      refine a_iload C dX8_rolls_32 rfl ?_
      refine a_aloadn C dX8_rolls_34 rfl ?_
      refine a_getR C 27 fl_X8_92 rfl rfl dX8_rolls_35 ?_
      refine a_iload C dX8_rolls_38 rfl ?_
      refine a_iconst C dX8_rolls_40 (inr_b rfl) ?_
      refine a_iadd C dX8_rolls_41 ?_
      obtain ⟨hg, hf⟩ := hf
      refine a_iald C (n := 16) rfl hg dX8_rolls_42 ?_
      obtain ⟨hg, hf⟩ := hf
      refine a_iast C (n := 16) rfl hg dX8_rolls_43 ?_
      refine a_iinc C dX8_rolls_44 rfl (by decide) (lv2 := [some (.inr 0), none, none, some (.inl x3), some (.inl (wrap (x4 + 1)))]) rfl ?_
      refine a_goto C 17 dX8_rolls_47 rfl ?_
      exact hk17 _ _ _ hf
set_option maxRecDepth 20000 in
set_option maxHeartbeats 4000000 in
theorem cMd_rolls (x1 : Int) : Snd shM yX8_rolls cX8_rolls 5 none 0 0 [.inr 0, .inl x1] (fMd_rolls x1) := by
  refine Snd.of RX8 (by decide +kernel) rfl (Nat.le_of_ble_eq_true rfl) ?_
  intro E M R hf C X
  show AW shM 5 E 0 [some (.inr 0), some (.inl x1), none, none, none] [] M
  refine a_aloadn C dX8_rolls_0 rfl ?_
  refine a_getI C (kz := 48) fl_X8_306 rfl rfl rfl dX8_rolls_1 ?_
  refine a_iloadn C dX8_rolls_4 rfl ?_
  refine a_isub C dX8_rolls_5 ?_
  refine a_istoren C dX8_rolls_6 (by decide) (lv2 := [some (.inr 0), some (.inl x1), some (.inl (wrap ((M 0 48) - x1))), none, none]) rfl ?_
  refine a_aloadn C dX8_rolls_7 rfl ?_
  refine a_getR C 27 fl_X8_92 rfl rfl dX8_rolls_8 ?_
  refine a_iloadn C dX8_rolls_11 rfl ?_
  obtain ⟨hg, hf⟩ := hf
  refine a_iald C (n := 16) rfl hg dX8_rolls_12 ?_
  refine a_istoren C dX8_rolls_13 (by decide) (lv2 := [some (.inr 0), some (.inl x1), some (.inl (wrap ((M 0 48) - x1))), some (.inl (M 27 (wrap ((M 0 48) - x1)))), none]) rfl ?_
  refine a_iloadn C dX8_rolls_14 rfl ?_
  refine a_istore C dX8_rolls_15 (by decide) (lv2 := [some (.inr 0), some (.inl x1), some (.inl (wrap ((M 0 48) - x1))), some (.inl (M 27 (wrap ((M 0 48) - x1)))), some (.inl (wrap ((M 0 48) - x1)))]) rfl ?_
  refine a_drop [true, false, false, true, true] (lv2 := [some (.inr 0), none, none, some (.inl (M 27 (wrap ((M 0 48) - x1)))), some (.inl (wrap ((M 0 48) - x1)))]) rfl ?_
  obtain ⟨n1, hf⟩ := hf
  exact sMd_rolls_17 C X  n1 _ _ _ hf
set_option maxRecDepth 20000 in
set_option maxHeartbeats 4000000 in
theorem sMd_does_137 {E : EE} {R : Int → Mem → Prop} (C : Cx shM 3 cX8_does RX8 2 44 E) (X : Rx shM (some .boolean) R E) (x2 : Int) (M : Mem) (hf : fMd_does_137  R x2 M) : AW shM 3 E 137 [some (.inr 0), none, some (.inl x2)] [] M := by
  have hf : fMd_reckons x2 M (fun r1 M1 => R 0 M1) := hf
  refine a_aloadn C dX8_does_137 rfl ?_
  refine a_iloadn C dX8_does_138 rfl ?_
  refine a_callV C [.inl x2] [] dX8_does_139 (cMd_reckons _) mv_X8_reckons ln_X8_324 rfl rfl ⟨rfl, rfl, Nat.le_of_ble_eq_true rfl, Nat.le_of_ble_eq_true rfl, Nat.le_of_ble_eq_true rfl⟩ hf (fun r1 M1 hf => ?_)
  refine a_goto C 292 dX8_does_142 rfl ?_
  refine a_iconst C dX8_does_292 (inr_b rfl) ?_
  exact a_bret C X (Or.inl rfl) dX8_does_293 hf
set_option maxRecDepth 20000 in
set_option maxHeartbeats 4000000 in
theorem cMd_does (x1 : Int) : Snd shM yX8_does cX8_does 3 (some .boolean) 2 44 [.inr 0, .inl x1] (fMd_does x1) := by
  refine Snd.of RX8 (by decide +kernel) rfl (Nat.le_of_ble_eq_true rfl) ?_
  intro E M R hf C X
  show AW shM 3 E 0 [some (.inr 0), some (.inl x1), none] [] M
  refine a_aloadn C dX8_does_0 rfl ?_
  refine a_getR C 3 fl_X8_16 rfl rfl dX8_does_1 ?_
  refine a_iloadn C dX8_does_4 rfl ?_
  obtain ⟨hg, hf⟩ := hf
  refine a_iald C (n := 24) rfl hg dX8_does_5 ?_
  refine a_istoren C dX8_does_6 (by decide) (lv2 := [some (.inr 0), some (.inl x1), some (.inl (M 3 x1))]) rfl ?_
  refine a_iloadn C dX8_does_7 rfl ?_
  obtain ⟨hf137, hf241, hf145, hf205, hf124, hf179, hf197, hf171, hf223, hf254, hf163, hfd⟩ := hf
  by_cases hc42 : (M 3 x1) = 42
  · refine a_lk C 137 dX8_does_8 (by decide +kernel) (by rw [hc42] <;> rfl) rfl ?_
    have hf := hf137 (Or.inl hc42)
    refine a_drop [true, false, true] (lv2 := [some (.inr 0), none, some (.inl (M 3 x1))]) rfl ?_
    exact sMd_does_137 C X  _ _ hf
  by_cases hc43 : (M 3 x1) = 43
  · refine a_lk C 137 dX8_does_8 (by decide +kernel) (by rw [hc43] <;> rfl) rfl ?_
    have hf := hf137 (Or.inr (Or.inl hc43))
    refine a_drop [true, false, true] (lv2 := [some (.inr 0), none, some (.inl (M 3 x1))]) rfl ?_
    exact sMd_does_137 C X  _ _ hf
  by_cases hc45 : (M 3 x1) = 45
  · refine a_lk C 137 dX8_does_8 (by decide +kernel) (by rw [hc45] <;> rfl) rfl ?_
    have hf := hf137 (Or.inr (Or.inr hc45))
    refine a_drop [true, false, true] (lv2 := [some (.inr 0), none, some (.inl (M 3 x1))]) rfl ?_
    exact sMd_does_137 C X  _ _ hf
  by_cases hc98 : (M 3 x1) = 98
  · refine a_lk C 241 dX8_does_8 (by decide +kernel) (by rw [hc98] <;> rfl) rfl ?_
    have hf := hf241 (hc98)
    refine a_aloadn C dX8_does_241 rfl ?_
    refine a_callV C [] [] dX8_does_242 (cMd_pops) mv_X8_pops ln_X8_318 rfl rfl ⟨rfl, rfl, Nat.le_of_ble_eq_true rfl, Nat.le_of_ble_eq_true rfl, Nat.le_of_ble_eq_true rfl⟩ hf (fun r2 M2 hf => ?_)
    obtain ⟨hfa, hfb⟩ := hf
    refine a_if_ne C 252 dX8_does_245 rfl (fun hc => ?_) (fun hc => ?_)
    · have hf := hfa hc
      refine a_iconst C dX8_does_252 (inr_b rfl) ?_
      exact a_bret C X (Or.inl rfl) dX8_does_253 hf
    · have hf := hfb hc
      refine a_iconst C dX8_does_248 (inr_b rfl) ?_
      refine a_goto C 253 dX8_does_249 rfl ?_
      exact a_bret C X (Or.inr rfl) dX8_does_253 hf
  by_cases hc100 : (M 3 x1) = 100
  · refine a_lk C 145 dX8_does_8 (by decide +kernel) (by rw [hc100] <;> rfl) rfl ?_
    have hf := hf145 (hc100)
    refine a_aloadn C dX8_does_145 rfl ?_
    refine a_aloadn C dX8_does_146 rfl ?_
    refine a_getR C 27 fl_X8_92 rfl rfl dX8_does_147 ?_
    refine a_aloadn C dX8_does_150 rfl ?_
    refine a_getI C (kz := 48) fl_X8_306 rfl rfl rfl dX8_does_151 ?_
    refine a_iconst C dX8_does_154 (inr_b rfl) ?_
    refine a_isub C dX8_does_155 ?_
    obtain ⟨hg, hf⟩ := hf
    refine a_iald C (n := 16) rfl hg dX8_does_156 ?_
    refine a_callV C [.inl (M 27 (wrap ((M 0 48) - 1)))] [] dX8_does_157 (cMd_pushes _) mv_X8_pushes ln_X8_321 rfl rfl ⟨rfl, rfl, Nat.le_of_ble_eq_true rfl, Nat.le_of_ble_eq_true rfl, Nat.le_of_ble_eq_true rfl⟩ hf (fun r3 M3 hf => ?_)
    refine a_goto C 292 dX8_does_160 rfl ?_
    refine a_iconst C dX8_does_292 (inr_b rfl) ?_
    exact a_bret C X (Or.inl rfl) dX8_does_293 hf
  by_cases hc103 : (M 3 x1) = 103
  · refine a_lk C 205 dX8_does_8 (by decide +kernel) (by rw [hc103] <;> rfl) rfl ?_
    have hf := hf205 (hc103)
    refine a_aloadn C dX8_does_205 rfl ?_
    refine a_aloadn C dX8_does_206 rfl ?_
    refine a_getR C 29 fl_X8_98 rfl rfl dX8_does_207 ?_
    refine a_aloadn C dX8_does_210 rfl ?_
    refine a_getR C 4 fl_X8_19 rfl rfl dX8_does_211 ?_
    refine a_iloadn C dX8_does_214 rfl ?_
    obtain ⟨hg, hf⟩ := hf
    refine a_iald C (n := 24) rfl hg dX8_does_215 ?_
    obtain ⟨hg, hf⟩ := hf
    refine a_iald C (n := 4) rfl hg dX8_does_216 ?_
    refine a_callV C [.inl (M 29 (M 4 x1))] [] dX8_does_217 (cMd_pushes _) mv_X8_pushes ln_X8_321 rfl rfl ⟨rfl, rfl, Nat.le_of_ble_eq_true rfl, Nat.le_of_ble_eq_true rfl, Nat.le_of_ble_eq_true rfl⟩ hf (fun r4 M4 hf => ?_)
    refine a_goto C 292 dX8_does_220 rfl ?_
    refine a_iconst C dX8_does_292 (inr_b rfl) ?_
    exact a_bret C X (Or.inl rfl) dX8_does_293 hf
  by_cases hc110 : (M 3 x1) = 110
  · refine a_lk C 124 dX8_does_8 (by decide +kernel) (by rw [hc110] <;> rfl) rfl ?_
    have hf := hf124 (hc110)
    refine a_aloadn C dX8_does_124 rfl ?_
    refine a_aloadn C dX8_does_125 rfl ?_
    refine a_getR C 4 fl_X8_19 rfl rfl dX8_does_126 ?_
    refine a_iloadn C dX8_does_129 rfl ?_
    obtain ⟨hg, hf⟩ := hf
    refine a_iald C (n := 24) rfl hg dX8_does_130 ?_
    refine a_callV C [.inl (M 4 x1)] [] dX8_does_131 (cMd_pushes _) mv_X8_pushes ln_X8_321 rfl rfl ⟨rfl, rfl, Nat.le_of_ble_eq_true rfl, Nat.le_of_ble_eq_true rfl, Nat.le_of_ble_eq_true rfl⟩ hf (fun r5 M5 hf => ?_)
    refine a_goto C 292 dX8_does_134 rfl ?_
    refine a_iconst C dX8_does_292 (inr_b rfl) ?_
    exact a_bret C X (Or.inl rfl) dX8_does_293 hf
  by_cases hc111 : (M 3 x1) = 111
  · refine a_lk C 179 dX8_does_8 (by decide +kernel) (by rw [hc111] <;> rfl) rfl ?_
    have hf := hf179 (hc111)
    refine a_aloadn C dX8_does_179 rfl ?_
    refine a_aloadn C dX8_does_180 rfl ?_
    refine a_getR C 27 fl_X8_92 rfl rfl dX8_does_181 ?_
    refine a_aloadn C dX8_does_184 rfl ?_
    refine a_getI C (kz := 48) fl_X8_306 rfl rfl rfl dX8_does_185 ?_
    refine a_iconst C dX8_does_188 (inr_b rfl) ?_
    refine a_isub C dX8_does_189 ?_
    obtain ⟨hg, hf⟩ := hf
    refine a_iald C (n := 16) rfl hg dX8_does_190 ?_
    refine a_callV C [.inl (M 27 (wrap ((M 0 48) - 2)))] [] dX8_does_191 (cMd_pushes _) mv_X8_pushes ln_X8_321 rfl rfl ⟨rfl, rfl, Nat.le_of_ble_eq_true rfl, Nat.le_of_ble_eq_true rfl, Nat.le_of_ble_eq_true rfl⟩ hf (fun r6 M6 hf => ?_)
    refine a_goto C 292 dX8_does_194 rfl ?_
    refine a_iconst C dX8_does_292 (inr_b rfl) ?_
    exact a_bret C X (Or.inl rfl) dX8_does_293 hf
  by_cases hc112 : (M 3 x1) = 112
  · refine a_lk C 197 dX8_does_8 (by decide +kernel) (by rw [hc112] <;> rfl) rfl ?_
    have hf := hf197 (hc112)
    refine a_aloadn C dX8_does_197 rfl ?_
    refine a_callV C [] [] dX8_does_198 (cMd_pops) mv_X8_pops ln_X8_318 rfl rfl ⟨rfl, rfl, Nat.le_of_ble_eq_true rfl, Nat.le_of_ble_eq_true rfl, Nat.le_of_ble_eq_true rfl⟩ hf (fun r7 M7 hf => ?_)
    refine a_pop C dX8_does_201 ?_
    refine a_goto C 292 dX8_does_202 rfl ?_
    refine a_iconst C dX8_does_292 (inr_b rfl) ?_
    exact a_bret C X (Or.inl rfl) dX8_does_293 hf
  by_cases hc114 : (M 3 x1) = 114
  · refine a_lk C 171 dX8_does_8 (by decide +kernel) (by rw [hc114] <;> rfl) rfl ?_
    have hf := hf171 (hc114)
    refine a_aloadn C dX8_does_171 rfl ?_
    refine a_iconst C dX8_does_172 (inr_b rfl) ?_
    refine a_callV C [.inl 3] [] dX8_does_173 (cMd_rolls _) mv_X8_rolls ln_X8_327 rfl rfl ⟨rfl, rfl, Nat.le_of_ble_eq_true rfl, Nat.le_of_ble_eq_true rfl, Nat.le_of_ble_eq_true rfl⟩ hf (fun r8 M8 hf => ?_)
    refine a_goto C 292 dX8_does_176 rfl ?_
    refine a_iconst C dX8_does_292 (inr_b rfl) ?_
    exact a_bret C X (Or.inl rfl) dX8_does_293 hf
  by_cases hc115 : (M 3 x1) = 115
  · refine a_lk C 223 dX8_does_8 (by decide +kernel) (by rw [hc115] <;> rfl) rfl ?_
    have hf := hf223 (hc115)
    refine a_aloadn C dX8_does_223 rfl ?_
    refine a_getR C 29 fl_X8_98 rfl rfl dX8_does_224 ?_
    refine a_aloadn C dX8_does_227 rfl ?_
    refine a_getR C 4 fl_X8_19 rfl rfl dX8_does_228 ?_
    refine a_iloadn C dX8_does_231 rfl ?_
    obtain ⟨hg, hf⟩ := hf
    refine a_iald C (n := 24) rfl hg dX8_does_232 ?_
    refine a_aloadn C dX8_does_233 rfl ?_
    refine a_callV C [] [.inl (M 4 x1), .inr 29] dX8_does_234 (cMd_pops) mv_X8_pops ln_X8_318 rfl rfl ⟨rfl, rfl, Nat.le_of_ble_eq_true rfl, Nat.le_of_ble_eq_true rfl, Nat.le_of_ble_eq_true rfl⟩ hf (fun r9 M9 hf => ?_)
    obtain ⟨hg, hf⟩ := hf
    refine a_iast C (n := 4) rfl hg dX8_does_237 ?_
    refine a_goto C 292 dX8_does_238 rfl ?_
    refine a_iconst C dX8_does_292 (inr_b rfl) ?_
    exact a_bret C X (Or.inl rfl) dX8_does_293 hf
  by_cases hc119 : (M 3 x1) = 119
  · refine a_lk C 254 dX8_does_8 (by decide +kernel) (by rw [hc119] <;> rfl) rfl ?_
    have hf := hf254 (hc119)
    refine a_aloadn C dX8_does_254 rfl ?_
    refine a_getR C 28 fl_X8_95 rfl rfl dX8_does_255 ?_
    refine a_aloadn C dX8_does_258 rfl ?_
    refine a_getI C (kz := 52) fl_X8_315 rfl rfl rfl dX8_does_259 ?_
    refine a_aloadn C dX8_does_262 rfl ?_
    refine a_callV C [] [.inl (M 0 52), .inr 28] dX8_does_263 (cMd_pops) mv_X8_pops ln_X8_318 rfl rfl ⟨rfl, rfl, Nat.le_of_ble_eq_true rfl, Nat.le_of_ble_eq_true rfl, Nat.le_of_ble_eq_true rfl⟩ hf (fun r10 M10 hf => ?_)
    obtain ⟨hg, hf⟩ := hf
    refine a_iast C (n := 16) rfl hg dX8_does_266 ?_
    refine a_aloadn C dX8_does_267 rfl ?_
    refine a_dup C dX8_does_268 ?_
    refine a_getI C (kz := 52) fl_X8_315 rfl rfl rfl dX8_does_269 ?_
    refine a_iconst C dX8_does_272 (inr_b rfl) ?_
    refine a_iadd C dX8_does_273 ?_
    refine a_putI C (kz := 52) fp_X8_315 rfl rfl rfl dX8_does_274 ?_
    refine a_goto C 292 dX8_does_277 rfl ?_
    refine a_iconst C dX8_does_292 (inr_b rfl) ?_
    exact a_bret C X (Or.inl rfl) dX8_does_293 hf
  by_cases hc120 : (M 3 x1) = 120
  · refine a_lk C 163 dX8_does_8 (by decide +kernel) (by rw [hc120] <;> rfl) rfl ?_
    have hf := hf163 (hc120)
    refine a_aloadn C dX8_does_163 rfl ?_
    refine a_iconst C dX8_does_164 (inr_b rfl) ?_
    refine a_callV C [.inl 2] [] dX8_does_165 (cMd_rolls _) mv_X8_rolls ln_X8_327 rfl rfl ⟨rfl, rfl, Nat.le_of_ble_eq_true rfl, Nat.le_of_ble_eq_true rfl, Nat.le_of_ble_eq_true rfl⟩ hf (fun r11 M11 hf => ?_)
    refine a_goto C 292 dX8_does_168 rfl ?_
    refine a_iconst C dX8_does_292 (inr_b rfl) ?_
    exact a_bret C X (Or.inl rfl) dX8_does_293 hf
  refine a_lk C 280 dX8_does_8 (by decide +kernel) (by simp [Op.lookupswitch.offset, hc42, Ne.symm hc42, hc43, Ne.symm hc43, hc45, Ne.symm hc45, hc98, Ne.symm hc98, hc100, Ne.symm hc100, hc103, Ne.symm hc103, hc110, Ne.symm hc110, hc111, Ne.symm hc111, hc112, Ne.symm hc112, hc114, Ne.symm hc114, hc115, Ne.symm hc115, hc119, Ne.symm hc119, hc120, Ne.symm hc120] <;> rfl) rfl ?_
  have hf := hfd ⟨hc42, hc43, hc45, hc98, hc100, hc103, hc110, hc111, hc112, hc114, hc115, hc119, hc120⟩
  refine a_iloadn C dX8_does_280 rfl ?_
  refine a_bipush C dX8_does_281 bp_106 ?_
  obtain ⟨hfa, hfb⟩ := hf
  refine a_icmp_ne C 290 dX8_does_283 rfl (fun hc => ?_) (fun hc => ?_)
  · have hf := hfa hc
    refine a_iconst C dX8_does_290 (inr_b rfl) ?_
    exact a_bret C X (Or.inl rfl) dX8_does_291 hf
  · have hf := hfb hc
    refine a_iconst C dX8_does_286 (inr_b rfl) ?_
    refine a_goto C 291 dX8_does_287 rfl ?_
    exact a_bret C X (Or.inr rfl) dX8_does_291 hf
set_option maxRecDepth 20000 in
set_option maxHeartbeats 4000000 in
theorem sMd_stepsOnce_167 {E : EE} {R : Int → Mem → Prop} (C : Cx shM 4 cX8_stepsOnce RX8 3 77 E) (X : Rx shM none R E) (t0 : Int) (M : Mem) (hf : fMd_stepsOnce_167  R t0 M) : AW shM 4 E 167 [none, none, none, none] [.inl t0, .inr 0] M := by
  refine a_putI C (kz := 46) fp_X8_303 rfl rfl rfl dX8_stepsOnce_167 ?_
  exact a_vret C X dX8_stepsOnce_170 hf
set_option maxRecDepth 20000 in
set_option maxHeartbeats 4000000 in
theorem sMd_stepsOnce_146 {E : EE} {R : Int → Mem → Prop} (C : Cx shM 4 cX8_stepsOnce RX8 3 77 E) (X : Rx shM none R E) (x2 : Int) (M : Mem) (hf : fMd_stepsOnce_146  R x2 M) : AW shM 4 E 146 [some (.inr 0), none, some (.inl x2), none] [] M := by
  refine a_aloadn C dX8_stepsOnce_146 rfl ?_
  refine a_aloadn C dX8_stepsOnce_147 rfl ?_
  refine a_getI C (kz := 44) fl_X8_297 rfl rfl rfl dX8_stepsOnce_148 ?_
  obtain ⟨hfa, hfb⟩ := hf
  refine a_if_eq C 158 dX8_stepsOnce_151 rfl (fun hc => ?_) (fun hc => ?_)
  · have hf := hfa hc
    refine a_aloadn C dX8_stepsOnce_158 rfl ?_
    refine a_getR C 21 fl_X8_70 rfl rfl dX8_stepsOnce_159 ?_
    refine a_aloadn C dX8_stepsOnce_162 rfl ?_
    refine a_getI C (kz := 45) fl_X8_300 rfl rfl rfl dX8_stepsOnce_163 ?_
    obtain ⟨hg, hf⟩ := hf
    refine a_iald C (n := 24) rfl hg dX8_stepsOnce_166 ?_
    refine a_drop [false, true, false, true] (lv2 := [none, none, none, none]) rfl ?_
    exact sMd_stepsOnce_167 C X  _ _ hf
  · have hf := hfb hc
    refine a_iloadn C dX8_stepsOnce_154 rfl ?_
    refine a_goto C 167 dX8_stepsOnce_155 rfl ?_
    refine a_drop [false, true, false, true] (lv2 := [none, none, none, none]) rfl ?_
    exact sMd_stepsOnce_167 C X  _ _ hf
set_option maxRecDepth 20000 in
set_option maxHeartbeats 4000000 in
theorem sMd_stepsOnce_108 {E : EE} {R : Int → Mem → Prop} (C : Cx shM 4 cX8_stepsOnce RX8 3 77 E) (X : Rx shM none R E) (x2 : Int) (t0 : Int) (M : Mem) (hf : fMd_stepsOnce_108  R x2 t0 M) : AW shM 4 E 108 [some (.inr 0), none, some (.inl x2), none] [.inl t0, .inr 0] M := by
  obtain ⟨hg, hf⟩ := hf
  refine a_putZ C (kz := 44) fp_X8_297 hg rfl rfl rfl dX8_stepsOnce_108 ?_
  refine a_aloadn C dX8_stepsOnce_111 rfl ?_
  refine a_getI C (kz := 44) fl_X8_297 rfl rfl rfl dX8_stepsOnce_112 ?_
  obtain ⟨hfa, hfb⟩ := hf
  refine a_if_ne C 146 dX8_stepsOnce_115 rfl (fun hc => ?_) (fun hc => ?_)
  · have hf := hfa hc
    exact sMd_stepsOnce_146 C X  _ _ hf
  · have hf := hfb hc
    refine a_aloadn C dX8_stepsOnce_118 rfl ?_
    refine a_dup C dX8_stepsOnce_119 ?_
    refine a_getI C (kz := 49) fl_X8_309 rfl rfl rfl dX8_stepsOnce_120 ?_
    refine a_aloadn C dX8_stepsOnce_123 rfl ?_
    refine a_getR C 18 fl_X8_61 rfl rfl dX8_stepsOnce_124 ?_
    refine a_bipush C dX8_stepsOnce_127 bp_16 ?_
    refine a_iloadn C dX8_stepsOnce_129 rfl ?_
    refine a_imul C dX8_stepsOnce_130 ?_
    refine a_aloadn C dX8_stepsOnce_131 rfl ?_
    refine a_getR C 21 fl_X8_70 rfl rfl dX8_stepsOnce_132 ?_
    refine a_aloadn C dX8_stepsOnce_135 rfl ?_
    refine a_getI C (kz := 45) fl_X8_300 rfl rfl rfl dX8_stepsOnce_136 ?_
    obtain ⟨hg, hf⟩ := hf
    refine a_iald C (n := 24) rfl hg dX8_stepsOnce_139 ?_
    refine a_iadd C dX8_stepsOnce_140 ?_
    obtain ⟨hg, hf⟩ := hf
    refine a_iald C (n := 256) rfl hg dX8_stepsOnce_141 ?_
    refine a_iadd C dX8_stepsOnce_142 ?_
    refine a_putI C (kz := 49) fp_X8_309 rfl rfl rfl dX8_stepsOnce_143 ?_
    exact sMd_stepsOnce_146 C X  _ _ hf
set_option maxRecDepth 20000 in
set_option maxHeartbeats 4000000 in
theorem sMd_stepsOnce_83 {E : EE} {R : Int → Mem → Prop} (C : Cx shM 4 cX8_stepsOnce RX8 3 77 E) (X : Rx shM none R E) (x2 : Int) (t0 : Int) (t1 : Int) (M : Mem) (hf : fMd_stepsOnce_83  R x2 t0 t1 M) : AW shM 4 E 83 [some (.inr 0), none, some (.inl x2), none] [.inl t0, .inl t1, .inr 4, .inr 3, .inr 0] M := by
  have hf : fMd_goesOn_l t1 t0 (M 0 3) M (fun r3 M3 => ((r3 ≠ (-4) → fMd_stepsOnce_108  R x2 0 (mu M3 0 45 r3)) ∧ (r3 = (-4) → fMd_stepsOnce_108  R x2 1 (mu M3 0 45 r3)))) := hf
  refine a_aloadn C dX8_stepsOnce_83 rfl ?_
  refine a_getI C (kz := 3) fl_X8_172 rfl rfl rfl dX8_stepsOnce_84 ?_
  refine a_callS C [.inr 3, .inr 4, .inl t1, .inl t0, .inl (M 0 3)] [.inr 0] dX8_stepsOnce_87 (cMd_goesOn_l _ _ _) ms_X8_goesOn ln_X8_158 ⟨rfl, rfl, Nat.le_of_ble_eq_true rfl, Nat.le_of_ble_eq_true rfl, Nat.le_of_ble_eq_true rfl⟩ hf (fun r3 M3 hf => ?_)
  refine a_putI C (kz := 45) fp_X8_300 rfl rfl rfl dX8_stepsOnce_90 ?_
  refine a_aloadn C dX8_stepsOnce_93 rfl ?_
  refine a_aloadn C dX8_stepsOnce_94 rfl ?_
  refine a_getI C (kz := 45) fl_X8_300 rfl rfl rfl dX8_stepsOnce_95 ?_
  refine a_bipush C dX8_stepsOnce_98 bp_m4 ?_
  obtain ⟨hfa, hfb⟩ := hf
  refine a_icmp_ne C 107 dX8_stepsOnce_100 rfl (fun hc => ?_) (fun hc => ?_)
  · have hf := hfa hc
    refine a_iconst C dX8_stepsOnce_107 (inr_b rfl) ?_
    exact sMd_stepsOnce_108 C X  _ _ _ hf
  · have hf := hfb hc
    refine a_iconst C dX8_stepsOnce_103 (inr_b rfl) ?_
    refine a_goto C 108 dX8_stepsOnce_104 rfl ?_
    exact sMd_stepsOnce_108 C X  _ _ _ hf
set_option maxRecDepth 20000 in
set_option maxHeartbeats 4000000 in
theorem cMd_stepsOnce : Snd shM yX8_stepsOnce cX8_stepsOnce 4 none 3 77 [.inr 0] fMd_stepsOnce := by
  refine Snd.of RX8 (by decide +kernel) rfl (Nat.le_of_ble_eq_true rfl) ?_
  intro E M R hf C X
  show AW shM 4 E 0 [some (.inr 0), none, none, none] [] M
  refine a_aloadn C dX8_stepsOnce_0 rfl ?_
  refine a_getI C (kz := 45) fl_X8_300 rfl rfl rfl dX8_stepsOnce_1 ?_
  refine a_istoren C dX8_stepsOnce_4 (by decide) (lv2 := [some (.inr 0), some (.inl (M 0 45)), none, none]) rfl ?_
  refine a_aloadn C dX8_stepsOnce_5 rfl ?_
  refine a_aloadn C dX8_stepsOnce_6 rfl ?_
  refine a_getR C 3 fl_X8_16 rfl rfl dX8_stepsOnce_7 ?_
  refine a_iloadn C dX8_stepsOnce_10 rfl ?_
  obtain ⟨hg, hf⟩ := hf
  refine a_iald C (n := 24) rfl hg dX8_stepsOnce_11 ?_
  refine a_aloadn C dX8_stepsOnce_12 rfl ?_
  refine a_getI C (kz := 46) fl_X8_303 rfl rfl rfl dX8_stepsOnce_13 ?_
  refine a_callV C [.inl (M 3 (M 0 45)), .inl (M 0 46)] [] dX8_stepsOnce_16 (cMd_hasVersion _ _) mv_X8_hasVersion ln_X8_236 rfl rfl ⟨rfl, rfl, Nat.le_of_ble_eq_true rfl, Nat.le_of_ble_eq_true rfl, Nat.le_of_ble_eq_true rfl⟩ hf (fun r1 M1 hf => ?_)
  refine a_pop C dX8_stepsOnce_19 ?_
  refine a_aloadn C dX8_stepsOnce_20 rfl ?_
  refine a_getI C (kz := 23) fl_X8_217 rfl rfl rfl dX8_stepsOnce_21 ?_
  refine a_istoren C dX8_stepsOnce_24 (by decide) (lv2 := [some (.inr 0), some (.inl (M 0 45)), some (.inl (M1 0 23)), none]) rfl ?_
  refine a_aloadn C dX8_stepsOnce_25 rfl ?_
  refine a_dup C dX8_stepsOnce_26 ?_
  refine a_getI C (kz := 49) fl_X8_309 rfl rfl rfl dX8_stepsOnce_27 ?_
  refine a_aloadn C dX8_stepsOnce_30 rfl ?_
  refine a_getI C (kz := 24) fl_X8_226 rfl rfl rfl dX8_stepsOnce_31 ?_
  refine a_iadd C dX8_stepsOnce_34 ?_
  refine a_putI C (kz := 49) fp_X8_309 rfl rfl rfl dX8_stepsOnce_35 ?_
  refine a_aloadn C dX8_stepsOnce_38 rfl ?_
  refine a_dup C dX8_stepsOnce_39 ?_
  refine a_getI C (kz := 50) fl_X8_312 rfl rfl rfl dX8_stepsOnce_40 ?_
  refine a_iconst C dX8_stepsOnce_43 (inr_b rfl) ?_
  refine a_iadd C dX8_stepsOnce_44 ?_
  refine a_putI C (kz := 50) fp_X8_312 rfl rfl rfl dX8_stepsOnce_45 ?_
  refine a_aloadn C dX8_stepsOnce_48 rfl ?_
  refine a_getR C 30 fl_X8_101 rfl rfl dX8_stepsOnce_49 ?_
  refine a_iloadn C dX8_stepsOnce_52 rfl ?_
  refine a_dup2 C dX8_stepsOnce_53 ?_
  obtain ⟨hg, hf⟩ := hf
  refine a_iald C (n := 24) rfl hg dX8_stepsOnce_54 ?_
  refine a_iconst C dX8_stepsOnce_55 (inr_b rfl) ?_
  refine a_iadd C dX8_stepsOnce_56 ?_
  obtain ⟨hg, hf⟩ := hf
  refine a_iast C (n := 24) rfl hg dX8_stepsOnce_57 ?_
  refine a_aloadn C dX8_stepsOnce_58 rfl ?_
  refine a_iloadn C dX8_stepsOnce_59 rfl ?_
  refine a_callV C [.inl (M 0 45)] [] dX8_stepsOnce_60 (cMd_does _) mv_X8_does ln_X8_330 rfl rfl ⟨rfl, rfl, Nat.le_of_ble_eq_true rfl, Nat.le_of_ble_eq_true rfl, Nat.le_of_ble_eq_true rfl⟩ hf (fun r2 M2 hf => ?_)
  refine a_istoren C dX8_stepsOnce_63 (by decide) (lv2 := [some (.inr 0), some (.inl (M 0 45)), some (.inl (M1 0 23)), some (.inl r2)]) rfl ?_
  refine a_aloadn C dX8_stepsOnce_64 rfl ?_
  refine a_aloadn C dX8_stepsOnce_65 rfl ?_
  refine a_getR C 3 fl_X8_16 rfl rfl dX8_stepsOnce_66 ?_
  refine a_aloadn C dX8_stepsOnce_69 rfl ?_
  refine a_getR C 4 fl_X8_19 rfl rfl dX8_stepsOnce_70 ?_
  refine a_iloadn C dX8_stepsOnce_73 rfl ?_
  refine a_iloadn C dX8_stepsOnce_74 rfl ?_
  obtain ⟨hfa, hfb⟩ := hf
  refine a_if_eq C 82 dX8_stepsOnce_75 rfl (fun hc => ?_) (fun hc => ?_)
  · have hf := hfa hc
    refine a_iconst C dX8_stepsOnce_82 (inr_b rfl) ?_
    refine a_drop [true, false, true, false] (lv2 := [some (.inr 0), none, some (.inl (M1 0 23)), none]) rfl ?_
    exact sMd_stepsOnce_83 C X  _ _ _ _ hf
  · have hf := hfb hc
    refine a_iconst C dX8_stepsOnce_78 (inr_b rfl) ?_
    refine a_goto C 83 dX8_stepsOnce_79 rfl ?_
    refine a_drop [true, false, true, false] (lv2 := [some (.inr 0), none, some (.inl (M1 0 23)), none]) rfl ?_
    exact sMd_stepsOnce_83 C X  _ _ _ _ hf
set_option maxRecDepth 20000 in
set_option maxHeartbeats 4000000 in
theorem sMd_step_85 {E : EE} {R : Int → Mem → Prop} (C : Cx shM 3 cX8_step RX8 4 100 E) (X : Rx shM (some .int) R E) {k36 : Int → Int → Mem → Prop} (hk36 : ∀ (x1 : Int) (x2 : Int) (M : Mem), k36 x1 x2 M → AW shM 3 E 36 [some (.inr 0), some (.inl x1), some (.inl x2)] [] M) (x1 : Int) (x2 : Int) (M : Mem) (hf : fMd_step_85 k36 R x1 x2 M) : AW shM 3 E 85 [some (.inr 0), some (.inl x1), some (.inl x2)] [] M := by
  have hf : fMd_stepsOnce M (fun r3 M3 => k36 x1 (wrap (x2 + 1)) M3) := hf
  refine a_aloadn C dX8_step_85 rfl ?_
  refine a_callV C [] [] dX8_step_86 (cMd_stepsOnce) mv_X8_stepsOnce ln_X8_333 rfl rfl ⟨rfl, rfl, Nat.le_of_ble_eq_true rfl, Nat.le_of_ble_eq_true rfl, Nat.le_of_ble_eq_true rfl⟩ hf (fun r3 M3 hf => ?_)
  refine a_iinc C dX8_step_89 rfl (by decide) (lv2 := [some (.inr 0), some (.inl x1), some (.inl (wrap (x2 + 1)))]) rfl ?_
  refine a_goto C 36 dX8_step_92 rfl ?_
  exact hk36 _ _ _ hf
set_option maxRecDepth 20000 in
set_option maxHeartbeats 4000000 in
theorem sMd_step_36 {E : EE} {R : Int → Mem → Prop} (C : Cx shM 3 cX8_step RX8 4 100 E) (X : Rx shM (some .int) R E) : ∀ (n : Nat) (x1 : Int) (x2 : Int) (M : Mem), fMd_step_36  R n x1 x2 M → AW shM 3 E 36 [some (.inr 0), some (.inl x1), some (.inl x2)] [] M := by
  intro n
  induction n with
  | zero => intro x1 x2 M hf; exact hf.elim
  | succ n hk36 =>
    intro x1 x2 M hf
    refine a_iloadn C dX8_step_36 rfl ?_
    refine a_iloadn C dX8_step_37 rfl ?_
    obtain ⟨hfa, hfb⟩ := hf
    refine a_icmp_ge C 95 dX8_step_38 rfl (fun hc => ?_) (fun hc => ?_)
    · have hf := hfa hc
      refine a_iloadn C dX8_step_95 rfl ?_
      exact a_iret C X dX8_step_96 hf
    · have hf := hfb hc
      refine a_aloadn C dX8_step_41 rfl ?_
      refine a_getI C (kz := 44) fl_X8_297 rfl rfl rfl dX8_step_42 ?_
      obtain ⟨hfa, hfb⟩ := hf
      refine a_if_ne C 95 dX8_step_45 rfl (fun hc => ?_) (fun hc => ?_)
      · have hf := hfa hc
        refine a_iloadn C dX8_step_95 rfl ?_
        exact a_iret C X dX8_step_96 hf
      · have hf := hfb hc
        refine a_aloadn C dX8_step_48 rfl ?_
        refine a_getR C 3 fl_X8_16 rfl rfl dX8_step_49 ?_
        refine a_aloadn C dX8_step_52 rfl ?_
        refine a_getI C (kz := 45) fl_X8_300 rfl rfl rfl dX8_step_53 ?_
        obtain ⟨hg, hf⟩ := hf
        refine a_iald C (n := 24) rfl hg dX8_step_56 ?_
        refine a_bipush C dX8_step_57 bp_119 ?_
        obtain ⟨hfa, hfb⟩ := hf
        refine a_icmp_ne C 85 dX8_step_59 rfl (fun hc => ?_) (fun hc => ?_)
        · have hf := hfa hc
          exact sMd_step_85 C X hk36 _ _ _ hf
        · have hf := hfb hc
          refine a_aloadn C dX8_step_62 rfl ?_
          refine a_getI C (kz := 52) fl_X8_315 rfl rfl rfl dX8_step_63 ?_
          refine a_bipush C dX8_step_66 bp_16 ?_
          obtain ⟨hfa, hfb⟩ := hf
          refine a_icmp_ne C 85 dX8_step_68 rfl (fun hc => ?_) (fun hc => ?_)
          · have hf := hfa hc
            exact sMd_step_85 C X hk36 _ _ _ hf
          · have hf := hfb hc
            refine a_aloadn C dX8_step_71 rfl ?_
            refine a_iconst C dX8_step_72 (inr_b rfl) ?_
            refine a_putZ C (kz := 44) fp_X8_297 (Or.inr rfl) rfl rfl rfl dX8_step_73 ?_
            refine a_aloadn C dX8_step_76 rfl ?_
            refine a_bipush C dX8_step_77 bp_m4 ?_
            refine a_putI C (kz := 45) fp_X8_300 rfl rfl rfl dX8_step_79 ?_
            refine a_goto C 36 dX8_step_82 rfl ?_
            exact hk36 _ _ _ hf
set_option maxRecDepth 20000 in
set_option maxHeartbeats 4000000 in
theorem cMd_step (x1 : Int) : Snd shM yX8_step cX8_step 3 (some .int) 4 100 [.inr 0, .inl x1] (fMd_step x1) := by
  refine Snd.of RX8 (by decide +kernel) rfl (Nat.le_of_ble_eq_true rfl) ?_
  intro E M R hf C X
  show AW shM 3 E 0 [some (.inr 0), some (.inl x1), none] [] M
  refine a_iloadn C dX8_step_0 rfl ?_
  refine a_iconst C dX8_step_1 (inr_b rfl) ?_
  refine a_sipush C dX8_step_2 sp_500 ?_
  refine a_callS C [.inl x1, .inl 1, .inl 500] [] dX8_step_5 (cMd_in _ _ _) ms_X8_in ln_X8_114 ⟨rfl, rfl, Nat.le_of_ble_eq_true rfl, Nat.le_of_ble_eq_true rfl, Nat.le_of_ble_eq_true rfl⟩ hf (fun r1 M1 hf => ?_)
  obtain ⟨hfa, hfb⟩ := hf
  refine a_if_ne C 13 dX8_step_8 rfl (fun hc => ?_) (fun hc => ?_)
  · have hf := hfa hc
    refine a_aloadn C dX8_step_13 rfl ?_
    refine a_getI C (kz := 43) fl_X8_178 rfl rfl rfl dX8_step_14 ?_
    obtain ⟨hfa, hfb⟩ := hf
    refine a_if_eq C 27 dX8_step_17 rfl (fun hc => ?_) (fun hc => ?_)
    · have hf := hfa hc
      refine a_bipush C dX8_step_27 bp_m2 ?_
      exact a_iret C X dX8_step_29 hf
    · have hf := hfb hc
      refine a_aloadn C dX8_step_20 rfl ?_
      refine a_getI C (kz := 44) fl_X8_297 rfl rfl rfl dX8_step_21 ?_
      obtain ⟨hfa, hfb⟩ := hf
      refine a_if_eq C 30 dX8_step_24 rfl (fun hc => ?_) (fun hc => ?_)
      · have hf := hfa hc
        refine a_aloadn C dX8_step_30 rfl ?_
        refine a_callV C [] [] dX8_step_31 (cMd_laysStates) mv_X8_laysStates ln_X8_207 rfl rfl ⟨rfl, rfl, Nat.le_of_ble_eq_true rfl, Nat.le_of_ble_eq_true rfl, Nat.le_of_ble_eq_true rfl⟩ hf (fun r2 M2 hf => ?_)
        refine a_iconst C dX8_step_34 (inr_b rfl) ?_
        refine a_istoren C dX8_step_35 (by decide) (lv2 := [some (.inr 0), some (.inl x1), some (.inl 0)]) rfl ?_
        obtain ⟨n4, hf⟩ := hf
        exact sMd_step_36 C X  n4 _ _ _ hf
      · have hf := hfb hc
        refine a_bipush C dX8_step_27 bp_m2 ?_
        exact a_iret C X dX8_step_29 hf
  · have hf := hfb hc
    refine a_iconst C dX8_step_11 (inr_b rfl) ?_
    exact a_iret C X dX8_step_12 hf
set_option maxRecDepth 20000 in
set_option maxHeartbeats 4000000 in
theorem cMd_now (x1 : Int) : Snd shM yX8_now cX8_now 2 (some .int) 1 22 [.inr 0, .inl x1] (fMd_now x1) := by
  refine Snd.of RX8 (by decide +kernel) rfl (Nat.le_of_ble_eq_true rfl) ?_
  intro E M R hf C X
  show AW shM 2 E 0 [some (.inr 0), some (.inl x1)] [] M
  refine a_iloadn C dX8_now_0 rfl ?_
  refine a_iconst C dX8_now_1 (inr_b rfl) ?_
  refine a_iconst C dX8_now_2 (inr_b rfl) ?_
  refine a_callS C [.inl x1, .inl 0, .inl 5] [] dX8_now_3 (cMd_in _ _ _) ms_X8_in ln_X8_114 ⟨rfl, rfl, Nat.le_of_ble_eq_true rfl, Nat.le_of_ble_eq_true rfl, Nat.le_of_ble_eq_true rfl⟩ hf (fun r1 M1 hf => ?_)
  obtain ⟨hfa, hfb⟩ := hf
  refine a_if_ne C 11 dX8_now_6 rfl (fun hc => ?_) (fun hc => ?_)
  · have hf := hfa hc
    refine a_aloadn C dX8_now_11 rfl ?_
    refine a_getI C (kz := 43) fl_X8_178 rfl rfl rfl dX8_now_12 ?_
    obtain ⟨hfa, hfb⟩ := hf
    refine a_if_ne C 21 dX8_now_15 rfl (fun hc => ?_) (fun hc => ?_)
    · have hf := hfa hc
      refine a_iloadn C dX8_now_21 rfl ?_
      obtain ⟨hf56, hf61, hf66, hf71, hf76, hfd⟩ := hf
      by_cases hc0 : x1 = 0
      · have hc := hc0
        refine a_tsIn C 56 0 hc dX8_now_22 ⟨by decide, by decide, rfl, rfl⟩ ?_
        have hf := hf56 (hc)
        refine a_aloadn C dX8_now_56 rfl ?_
        refine a_getI C (kz := 45) fl_X8_300 rfl rfl rfl dX8_now_57 ?_
        exact a_iret C X dX8_now_60 hf
      by_cases hc1 : x1 = 1
      · have hc := hc1
        refine a_tsIn C 61 1 hc dX8_now_22 ⟨by decide, by decide, rfl, rfl⟩ ?_
        have hf := hf61 (hc)
        refine a_aloadn C dX8_now_61 rfl ?_
        refine a_getI C (kz := 46) fl_X8_303 rfl rfl rfl dX8_now_62 ?_
        exact a_iret C X dX8_now_65 hf
      by_cases hc2 : x1 = 2
      · have hc := hc2
        refine a_tsIn C 66 2 hc dX8_now_22 ⟨by decide, by decide, rfl, rfl⟩ ?_
        have hf := hf66 (hc)
        refine a_aloadn C dX8_now_66 rfl ?_
        refine a_getI C (kz := 48) fl_X8_306 rfl rfl rfl dX8_now_67 ?_
        exact a_iret C X dX8_now_70 hf
      by_cases hc3 : x1 = 3
      · have hc := hc3
        refine a_tsIn C 71 3 hc dX8_now_22 ⟨by decide, by decide, rfl, rfl⟩ ?_
        have hf := hf71 (hc)
        refine a_aloadn C dX8_now_71 rfl ?_
        refine a_getI C (kz := 49) fl_X8_309 rfl rfl rfl dX8_now_72 ?_
        exact a_iret C X dX8_now_75 hf
      by_cases hc4 : x1 = 4
      · have hc := hc4
        refine a_tsIn C 76 4 hc dX8_now_22 ⟨by decide, by decide, rfl, rfl⟩ ?_
        have hf := hf76 (hc)
        refine a_aloadn C dX8_now_76 rfl ?_
        refine a_getI C (kz := 50) fl_X8_312 rfl rfl rfl dX8_now_77 ?_
        exact a_iret C X dX8_now_80 hf
      have hco : x1 < 0 ∨ 4 < x1 := by omega
      refine a_tsOut C 81 dX8_now_22 hco rfl ?_
      have hf := hfd (by omega)
      refine a_aloadn C dX8_now_81 rfl ?_
      refine a_getI C (kz := 52) fl_X8_315 rfl rfl rfl dX8_now_82 ?_
      exact a_iret C X dX8_now_85 hf
    · have hf := hfb hc
      refine a_bipush C dX8_now_18 bp_m2 ?_
      exact a_iret C X dX8_now_20 hf
  · have hf := hfb hc
    refine a_iconst C dX8_now_9 (inr_b rfl) ?_
    exact a_iret C X dX8_now_10 hf
set_option maxRecDepth 20000 in
set_option maxHeartbeats 4000000 in
theorem cMd_modulo (x0 : Int) : Snd shM yX8_modulo cX8_modulo 2 (some .int) 0 0 [.inl x0] (fMd_modulo x0) := by
  refine Snd.of RX8 (by decide +kernel) rfl (Nat.le_of_ble_eq_true rfl) ?_
  intro E M R hf C X
  show AW shM 2 E 0 [some (.inl x0), none] [] M
  refine a_iloadn C dX8_modulo_0 rfl ?_
  refine a_ldc C dX8_modulo_1 ct_X8_250 (inr_b rfl) ?_
  refine a_irem C dX8_modulo_3 (by decide) ?_
  refine a_istoren C dX8_modulo_4 (by decide) (lv2 := [some (.inl x0), some (.inl (b_irem x0 1000000000))]) rfl ?_
  refine a_iloadn C dX8_modulo_5 rfl ?_
  obtain ⟨hfa, hfb⟩ := hf
  refine a_if_ge C 16 dX8_modulo_6 rfl (fun hc => ?_) (fun hc => ?_)
  · have hf := hfa hc
    refine a_iloadn C dX8_modulo_16 rfl ?_
    exact a_iret C X dX8_modulo_17 hf
  · have hf := hfb hc
    refine a_iloadn C dX8_modulo_9 rfl ?_
    refine a_ldc C dX8_modulo_10 ct_X8_250 (inr_b rfl) ?_
    refine a_iadd C dX8_modulo_12 ?_
    refine a_goto C 17 dX8_modulo_13 rfl ?_
    exact a_iret C X dX8_modulo_17 hf
set_option maxRecDepth 20000 in
set_option maxHeartbeats 4000000 in
theorem cMd_cell (x1 : Int) : Snd shM yX8_cell cX8_cell 2 (some .int) 1 21 [.inr 0, .inl x1] (fMd_cell x1) := by
  refine Snd.of RX8 (by decide +kernel) rfl (Nat.le_of_ble_eq_true rfl) ?_
  intro E M R hf C X
  show AW shM 2 E 0 [some (.inr 0), some (.inl x1)] [] M
  refine a_iloadn C dX8_cell_0 rfl ?_
  obtain ⟨hfa, hfb⟩ := hf
  refine a_if_ge C 6 dX8_cell_1 rfl (fun hc => ?_) (fun hc => ?_)
  · have hf := hfa hc
    refine a_aloadn C dX8_cell_6 rfl ?_
    refine a_getI C (kz := 43) fl_X8_178 rfl rfl rfl dX8_cell_7 ?_
    obtain ⟨hfa, hfb⟩ := hf
    refine a_if_ne C 16 dX8_cell_10 rfl (fun hc => ?_) (fun hc => ?_)
    · have hf := hfa hc
      refine a_iloadn C dX8_cell_16 rfl ?_
      refine a_aloadn C dX8_cell_17 rfl ?_
      refine a_getI C (kz := 48) fl_X8_306 rfl rfl rfl dX8_cell_18 ?_
      obtain ⟨hfa, hfb⟩ := hf
      refine a_icmp_ge C 43 dX8_cell_21 rfl (fun hc => ?_) (fun hc => ?_)
      · have hf := hfa hc
        refine a_bipush C dX8_cell_43 bp_m4 ?_
        exact a_iret C X dX8_cell_45 hf
      · have hf := hfb hc
        refine a_aloadn C dX8_cell_24 rfl ?_
        refine a_getR C 27 fl_X8_92 rfl rfl dX8_cell_25 ?_
        refine a_aloadn C dX8_cell_28 rfl ?_
        refine a_getI C (kz := 48) fl_X8_306 rfl rfl rfl dX8_cell_29 ?_
        refine a_iconst C dX8_cell_32 (inr_b rfl) ?_
        refine a_isub C dX8_cell_33 ?_
        refine a_iloadn C dX8_cell_34 rfl ?_
        refine a_isub C dX8_cell_35 ?_
        obtain ⟨hg, hf⟩ := hf
        refine a_iald C (n := 16) rfl hg dX8_cell_36 ?_
        refine a_callS C [.inl (M 27 (wrap ((wrap ((M 0 48) - 1)) - x1)))] [] dX8_cell_37 (cMd_modulo _) ms_X8_modulo ln_X8_336 ⟨rfl, rfl, Nat.le_of_ble_eq_true rfl, Nat.le_of_ble_eq_true rfl, Nat.le_of_ble_eq_true rfl⟩ hf (fun r1 M1 hf => ?_)
        refine a_goto C 45 dX8_cell_40 rfl ?_
        exact a_iret C X dX8_cell_45 hf
    · have hf := hfb hc
      refine a_bipush C dX8_cell_13 bp_m2 ?_
      exact a_iret C X dX8_cell_15 hf
  · have hf := hfb hc
    refine a_iconst C dX8_cell_4 (inr_b rfl) ?_
    exact a_iret C X dX8_cell_5 hf
set_option maxRecDepth 20000 in
set_option maxHeartbeats 4000000 in
theorem sMd_register_34 {E : EE} {R : Int → Mem → Prop} (C : Cx shM 3 cX8_register RX8 2 48 E) (X : Rx shM (some .int) R E) : ∀ (n : Nat) (x1 : Int) (x2 : Int) (M : Mem), fMd_register_34  R n x1 x2 M → AW shM 3 E 34 [some (.inr 0), some (.inl x1), some (.inl x2)] [] M := by
  intro n
  induction n with
  | zero => intro x1 x2 M hf; exact hf.elim
  | succ n hk34 =>
    intro x1 x2 M hf
    refine a_iloadn C dX8_register_34 rfl ?_
    refine a_aloadn C dX8_register_35 rfl ?_
    refine a_getR C 15 fl_X8_52 rfl rfl dX8_register_36 ?_
    refine a_aloadn C dX8_register_39 rfl ?_
    refine a_getI C (kz := 46) fl_X8_303 rfl rfl rfl dX8_register_40 ?_
    obtain ⟨hg, hf⟩ := hf
    refine a_iald C (n := 16) rfl hg dX8_register_43 ?_
    obtain ⟨hfa, hfb⟩ := hf
    refine a_icmp_ge C 87 dX8_register_44 rfl (fun hc => ?_) (fun hc => ?_)
    · have hf := hfa hc
      refine a_bipush C dX8_register_87 bp_m4 ?_
      exact a_iret C X dX8_register_89 hf
    · have hf := hfb hc
      refine a_aloadn C dX8_register_47 rfl ?_
      refine a_getR C 16 fl_X8_55 rfl rfl dX8_register_48 ?_
      refine a_iconst C dX8_register_51 (inr_b rfl) ?_
      refine a_aloadn C dX8_register_52 rfl ?_
      refine a_getI C (kz := 46) fl_X8_303 rfl rfl rfl dX8_register_53 ?_
      refine a_imul C dX8_register_56 ?_
      refine a_iloadn C dX8_register_57 rfl ?_
      refine a_iadd C dX8_register_58 ?_
      obtain ⟨hg, hf⟩ := hf
      refine a_iald C (n := 48) rfl hg dX8_register_59 ?_
      refine a_iloadn C dX8_register_60 rfl ?_
      obtain ⟨hfa, hfb⟩ := hf
      refine a_icmp_ne C 81 dX8_register_61 rfl (fun hc => ?_) (fun hc => ?_)
      · have hf := hfa hc
        refine a_iinc C dX8_register_81 rfl (by decide) (lv2 := [some (.inr 0), some (.inl x1), some (.inl (wrap (x2 + 1)))]) rfl ?_
        refine a_goto C 34 dX8_register_84 rfl ?_
        exact hk34 _ _ _ hf
      · have hf := hfb hc
        refine a_aloadn C dX8_register_64 rfl ?_
        refine a_getR C 27 fl_X8_92 rfl rfl dX8_register_65 ?_
        refine a_aloadn C dX8_register_68 rfl ?_
        refine a_getI C (kz := 48) fl_X8_306 rfl rfl rfl dX8_register_69 ?_
        refine a_iconst C dX8_register_72 (inr_b rfl) ?_
        refine a_isub C dX8_register_73 ?_
        refine a_iloadn C dX8_register_74 rfl ?_
        refine a_isub C dX8_register_75 ?_
        obtain ⟨hg, hf⟩ := hf
        refine a_iald C (n := 16) rfl hg dX8_register_76 ?_
        refine a_callS C [.inl (M 27 (wrap ((wrap ((M 0 48) - 1)) - x2)))] [] dX8_register_77 (cMd_modulo _) ms_X8_modulo ln_X8_336 ⟨rfl, rfl, Nat.le_of_ble_eq_true rfl, Nat.le_of_ble_eq_true rfl, Nat.le_of_ble_eq_true rfl⟩ hf (fun r3 M3 hf => ?_)
        exact a_iret C X dX8_register_80 hf
set_option maxRecDepth 20000 in
set_option maxHeartbeats 4000000 in
theorem cMd_register (x1 : Int) : Snd shM yX8_register cX8_register 3 (some .int) 2 48 [.inr 0, .inl x1] (fMd_register x1) := by
  refine Snd.of RX8 (by decide +kernel) rfl (Nat.le_of_ble_eq_true rfl) ?_
  intro E M R hf C X
  show AW shM 3 E 0 [some (.inr 0), some (.inl x1), none] [] M
  refine a_iloadn C dX8_register_0 rfl ?_
  refine a_iconst C dX8_register_1 (inr_b rfl) ?_
  refine a_aloadn C dX8_register_2 rfl ?_
  refine a_getR C 1 fl_X8_7 rfl rfl dX8_register_3 ?_
  refine a_iconst C dX8_register_6 (inr_b rfl) ?_
  refine a_iald C (n := 28) rfl (inb_b rfl) dX8_register_7 ?_
  refine a_iconst C dX8_register_8 (inr_b rfl) ?_
  refine a_isub C dX8_register_9 ?_
  refine a_callS C [.inl x1, .inl 0, .inl (wrap ((M 1 0) - 1))] [] dX8_register_10 (cMd_in _ _ _) ms_X8_in ln_X8_114 ⟨rfl, rfl, Nat.le_of_ble_eq_true rfl, Nat.le_of_ble_eq_true rfl, Nat.le_of_ble_eq_true rfl⟩ hf (fun r1 M1 hf => ?_)
  obtain ⟨hfa, hfb⟩ := hf
  refine a_if_ne C 18 dX8_register_13 rfl (fun hc => ?_) (fun hc => ?_)
  · have hf := hfa hc
    refine a_aloadn C dX8_register_18 rfl ?_
    refine a_getI C (kz := 43) fl_X8_178 rfl rfl rfl dX8_register_19 ?_
    obtain ⟨hfa, hfb⟩ := hf
    refine a_if_ne C 28 dX8_register_22 rfl (fun hc => ?_) (fun hc => ?_)
    · have hf := hfa hc
      refine a_aloadn C dX8_register_28 rfl ?_
      refine a_callV C [] [] dX8_register_29 (cMd_laysStates) mv_X8_laysStates ln_X8_207 rfl rfl ⟨rfl, rfl, Nat.le_of_ble_eq_true rfl, Nat.le_of_ble_eq_true rfl, Nat.le_of_ble_eq_true rfl⟩ hf (fun r2 M2 hf => ?_)
      refine a_iconst C dX8_register_32 (inr_b rfl) ?_
      refine a_istoren C dX8_register_33 (by decide) (lv2 := [some (.inr 0), some (.inl x1), some (.inl 0)]) rfl ?_
      obtain ⟨n4, hf⟩ := hf
      exact sMd_register_34 C X  n4 _ _ _ hf
    · have hf := hfb hc
      refine a_bipush C dX8_register_25 bp_m2 ?_
      exact a_iret C X dX8_register_27 hf
  · have hf := hfb hc
    refine a_iconst C dX8_register_16 (inr_b rfl) ?_
    exact a_iret C X dX8_register_17 hf
set_option maxRecDepth 20000 in
set_option maxHeartbeats 4000000 in
theorem cMd_memory (x1 : Int) : Snd shM yX8_memory cX8_memory 2 (some .int) 2 48 [.inr 0, .inl x1] (fMd_memory x1) := by
  refine Snd.of RX8 (by decide +kernel) rfl (Nat.le_of_ble_eq_true rfl) ?_
  intro E M R hf C X
  show AW shM 2 E 0 [some (.inr 0), some (.inl x1)] [] M
  refine a_iloadn C dX8_memory_0 rfl ?_
  obtain ⟨hfa, hfb⟩ := hf
  refine a_if_ge C 6 dX8_memory_1 rfl (fun hc => ?_) (fun hc => ?_)
  · have hf := hfa hc
    refine a_aloadn C dX8_memory_6 rfl ?_
    refine a_getI C (kz := 43) fl_X8_178 rfl rfl rfl dX8_memory_7 ?_
    obtain ⟨hfa, hfb⟩ := hf
    refine a_if_ne C 16 dX8_memory_10 rfl (fun hc => ?_) (fun hc => ?_)
    · have hf := hfa hc
      refine a_aloadn C dX8_memory_16 rfl ?_
      refine a_callV C [] [] dX8_memory_17 (cMd_laysStates) mv_X8_laysStates ln_X8_207 rfl rfl ⟨rfl, rfl, Nat.le_of_ble_eq_true rfl, Nat.le_of_ble_eq_true rfl, Nat.le_of_ble_eq_true rfl⟩ hf (fun r1 M1 hf => ?_)
      refine a_iloadn C dX8_memory_20 rfl ?_
      refine a_aloadn C dX8_memory_21 rfl ?_
      refine a_getI C (kz := 48) fl_X8_306 rfl rfl rfl dX8_memory_22 ?_
      refine a_aloadn C dX8_memory_25 rfl ?_
      refine a_getR C 15 fl_X8_52 rfl rfl dX8_memory_26 ?_
      refine a_aloadn C dX8_memory_29 rfl ?_
      refine a_getI C (kz := 46) fl_X8_303 rfl rfl rfl dX8_memory_30 ?_
      obtain ⟨hg, hf⟩ := hf
      refine a_iald C (n := 16) rfl hg dX8_memory_33 ?_
      refine a_isub C dX8_memory_34 ?_
      obtain ⟨hfa, hfb⟩ := hf
      refine a_icmp_ge C 50 dX8_memory_35 rfl (fun hc => ?_) (fun hc => ?_)
      · have hf := hfa hc
        refine a_bipush C dX8_memory_50 bp_m4 ?_
        exact a_iret C X dX8_memory_52 hf
      · have hf := hfb hc
        refine a_aloadn C dX8_memory_38 rfl ?_
        refine a_getR C 27 fl_X8_92 rfl rfl dX8_memory_39 ?_
        refine a_iloadn C dX8_memory_42 rfl ?_
        obtain ⟨hg, hf⟩ := hf
        refine a_iald C (n := 16) rfl hg dX8_memory_43 ?_
        refine a_callS C [.inl (M1 27 x1)] [] dX8_memory_44 (cMd_modulo _) ms_X8_modulo ln_X8_336 ⟨rfl, rfl, Nat.le_of_ble_eq_true rfl, Nat.le_of_ble_eq_true rfl, Nat.le_of_ble_eq_true rfl⟩ hf (fun r2 M2 hf => ?_)
        refine a_goto C 52 dX8_memory_47 rfl ?_
        exact a_iret C X dX8_memory_52 hf
    · have hf := hfb hc
      refine a_bipush C dX8_memory_13 bp_m2 ?_
      exact a_iret C X dX8_memory_15 hf
  · have hf := hfb hc
    refine a_iconst C dX8_memory_4 (inr_b rfl) ?_
    exact a_iret C X dX8_memory_5 hf
set_option maxRecDepth 20000 in
set_option maxHeartbeats 4000000 in
theorem cMd_variable (x1 : Int) : Snd shM yX8_variable cX8_variable 2 (some .int) 1 22 [.inr 0, .inl x1] (fMd_variable x1) := by
  refine Snd.of RX8 (by decide +kernel) rfl (Nat.le_of_ble_eq_true rfl) ?_
  intro E M R hf C X
  show AW shM 2 E 0 [some (.inr 0), some (.inl x1)] [] M
  refine a_iloadn C dX8_variable_0 rfl ?_
  refine a_iconst C dX8_variable_1 (inr_b rfl) ?_
  refine a_iconst C dX8_variable_2 (inr_b rfl) ?_
  refine a_callS C [.inl x1, .inl 0, .inl 3] [] dX8_variable_3 (cMd_in _ _ _) ms_X8_in ln_X8_114 ⟨rfl, rfl, Nat.le_of_ble_eq_true rfl, Nat.le_of_ble_eq_true rfl, Nat.le_of_ble_eq_true rfl⟩ hf (fun r1 M1 hf => ?_)
  obtain ⟨hfa, hfb⟩ := hf
  refine a_if_ne C 11 dX8_variable_6 rfl (fun hc => ?_) (fun hc => ?_)
  · have hf := hfa hc
    refine a_aloadn C dX8_variable_11 rfl ?_
    refine a_getI C (kz := 43) fl_X8_178 rfl rfl rfl dX8_variable_12 ?_
    obtain ⟨hfa, hfb⟩ := hf
    refine a_if_eq C 30 dX8_variable_15 rfl (fun hc => ?_) (fun hc => ?_)
    · have hf := hfa hc
      refine a_bipush C dX8_variable_30 bp_m2 ?_
      exact a_iret C X dX8_variable_32 hf
    · have hf := hfb hc
      refine a_aloadn C dX8_variable_18 rfl ?_
      refine a_getR C 29 fl_X8_98 rfl rfl dX8_variable_19 ?_
      refine a_iloadn C dX8_variable_22 rfl ?_
      obtain ⟨hg, hf⟩ := hf
      refine a_iald C (n := 4) rfl hg dX8_variable_23 ?_
      refine a_callS C [.inl (M1 29 x1)] [] dX8_variable_24 (cMd_modulo _) ms_X8_modulo ln_X8_336 ⟨rfl, rfl, Nat.le_of_ble_eq_true rfl, Nat.le_of_ble_eq_true rfl, Nat.le_of_ble_eq_true rfl⟩ hf (fun r2 M2 hf => ?_)
      refine a_goto C 32 dX8_variable_27 rfl ?_
      exact a_iret C X dX8_variable_32 hf
  · have hf := hfb hc
    refine a_iconst C dX8_variable_9 (inr_b rfl) ?_
    exact a_iret C X dX8_variable_10 hf
set_option maxRecDepth 20000 in
set_option maxHeartbeats 4000000 in
theorem cMd_out (x1 : Int) : Snd shM yX8_out cX8_out 2 (some .int) 1 21 [.inr 0, .inl x1] (fMd_out x1) := by
  refine Snd.of RX8 (by decide +kernel) rfl (Nat.le_of_ble_eq_true rfl) ?_
  intro E M R hf C X
  show AW shM 2 E 0 [some (.inr 0), some (.inl x1)] [] M
  refine a_iloadn C dX8_out_0 rfl ?_
  obtain ⟨hfa, hfb⟩ := hf
  refine a_if_ge C 6 dX8_out_1 rfl (fun hc => ?_) (fun hc => ?_)
  · have hf := hfa hc
    refine a_aloadn C dX8_out_6 rfl ?_
    refine a_getI C (kz := 43) fl_X8_178 rfl rfl rfl dX8_out_7 ?_
    obtain ⟨hfa, hfb⟩ := hf
    refine a_if_ne C 16 dX8_out_10 rfl (fun hc => ?_) (fun hc => ?_)
    · have hf := hfa hc
      refine a_iloadn C dX8_out_16 rfl ?_
      refine a_aloadn C dX8_out_17 rfl ?_
      refine a_getI C (kz := 52) fl_X8_315 rfl rfl rfl dX8_out_18 ?_
      obtain ⟨hfa, hfb⟩ := hf
      refine a_icmp_ge C 36 dX8_out_21 rfl (fun hc => ?_) (fun hc => ?_)
      · have hf := hfa hc
        refine a_bipush C dX8_out_36 bp_m4 ?_
        exact a_iret C X dX8_out_38 hf
      · have hf := hfb hc
        refine a_aloadn C dX8_out_24 rfl ?_
        refine a_getR C 28 fl_X8_95 rfl rfl dX8_out_25 ?_
        refine a_iloadn C dX8_out_28 rfl ?_
        obtain ⟨hg, hf⟩ := hf
        refine a_iald C (n := 16) rfl hg dX8_out_29 ?_
        refine a_callS C [.inl (M 28 x1)] [] dX8_out_30 (cMd_modulo _) ms_X8_modulo ln_X8_336 ⟨rfl, rfl, Nat.le_of_ble_eq_true rfl, Nat.le_of_ble_eq_true rfl, Nat.le_of_ble_eq_true rfl⟩ hf (fun r1 M1 hf => ?_)
        refine a_goto C 38 dX8_out_33 rfl ?_
        exact a_iret C X dX8_out_38 hf
    · have hf := hfb hc
      refine a_bipush C dX8_out_13 bp_m2 ?_
      exact a_iret C X dX8_out_15 hf
  · have hf := hfb hc
    refine a_iconst C dX8_out_4 (inr_b rfl) ?_
    exact a_iret C X dX8_out_5 hf
set_option maxRecDepth 20000 in
set_option maxHeartbeats 4000000 in
theorem cMd_went (x1 : Int) : Snd shM yX8_went cX8_went 2 (some .int) 2 43 [.inr 0, .inl x1] (fMd_went x1) := by
  refine Snd.of RX8 (by decide +kernel) rfl (Nat.le_of_ble_eq_true rfl) ?_
  intro E M R hf C X
  show AW shM 2 E 0 [some (.inr 0), some (.inl x1)] [] M
  refine a_aloadn C dX8_went_0 rfl ?_
  refine a_iloadn C dX8_went_1 rfl ?_
  refine a_callV C [.inl x1] [] dX8_went_2 (cMd_isCode _) mv_X8_isCode ln_X8_185 rfl rfl ⟨rfl, rfl, Nat.le_of_ble_eq_true rfl, Nat.le_of_ble_eq_true rfl, Nat.le_of_ble_eq_true rfl⟩ hf (fun r1 M1 hf => ?_)
  obtain ⟨hfa, hfb⟩ := hf
  refine a_if_ne C 10 dX8_went_5 rfl (fun hc => ?_) (fun hc => ?_)
  · have hf := hfa hc
    refine a_aloadn C dX8_went_10 rfl ?_
    refine a_getI C (kz := 43) fl_X8_178 rfl rfl rfl dX8_went_11 ?_
    obtain ⟨hfa, hfb⟩ := hf
    refine a_if_eq C 26 dX8_went_14 rfl (fun hc => ?_) (fun hc => ?_)
    · have hf := hfa hc
      refine a_bipush C dX8_went_26 bp_m2 ?_
      exact a_iret C X dX8_went_28 hf
    · have hf := hfb hc
      refine a_aloadn C dX8_went_17 rfl ?_
      refine a_getR C 30 fl_X8_101 rfl rfl dX8_went_18 ?_
      refine a_iloadn C dX8_went_21 rfl ?_
      obtain ⟨hg, hf⟩ := hf
      refine a_iald C (n := 24) rfl hg dX8_went_22 ?_
      refine a_goto C 28 dX8_went_23 rfl ?_
      exact a_iret C X dX8_went_28 hf
  · have hf := hfb hc
    refine a_iconst C dX8_went_8 (inr_b rfl) ?_
    exact a_iret C X dX8_went_9 hf
set_option maxRecDepth 20000 in
set_option maxHeartbeats 4000000 in
theorem sMd_count_65 {E : EE} {R : Int → Mem → Prop} (C : Cx shM 4 cX8_count RX8 0 0 E) (X : Rx shM (some .int) R E) (x1 : Int) (M : Mem) (hf : fMd_count_65  R x1 M) : AW shM 4 E 65 [some (.inr 0), some (.inl x1), none, none] [] M := by
  refine a_aloadn C dX8_count_65 rfl ?_
  refine a_getR C 1 fl_X8_7 rfl rfl dX8_count_66 ?_
  refine a_iloadn C dX8_count_69 rfl ?_
  refine a_iconst C dX8_count_70 (inr_b rfl) ?_
  refine a_isub C dX8_count_71 ?_
  obtain ⟨hg, hf⟩ := hf
  refine a_iald C (n := 28) rfl hg dX8_count_72 ?_
  exact a_iret C X dX8_count_73 hf
set_option maxRecDepth 20000 in
set_option maxHeartbeats 4000000 in
theorem sMd_count_101 {E : EE} {R : Int → Mem → Prop} (C : Cx shM 4 cX8_count RX8 0 0 E) (X : Rx shM (some .int) R E) {k76 : Int → Int → Mem → Prop} (hk76 : ∀ (x2 : Int) (x3 : Int) (M : Mem), k76 x2 x3 M → AW shM 4 E 76 [some (.inr 0), none, some (.inl x2), some (.inl x3)] [] M) (x3 : Int) (t0 : Int) (t1 : Int) (M : Mem) (hf : fMd_count_101 k76 R x3 t0 t1 M) : AW shM 4 E 101 [some (.inr 0), none, none, some (.inl x3)] [.inl t0, .inl t1] M := by
  refine a_iadd C dX8_count_101 ?_
  refine a_istoren C dX8_count_102 (by decide) (lv2 := [some (.inr 0), none, some (.inl (wrap (t1 + t0))), some (.inl x3)]) rfl ?_
  refine a_iinc C dX8_count_103 rfl (by decide) (lv2 := [some (.inr 0), none, some (.inl (wrap (t1 + t0))), some (.inl (wrap (x3 + 1)))]) rfl ?_
  refine a_goto C 76 dX8_count_106 rfl ?_
  exact hk76 _ _ _ hf
set_option maxRecDepth 20000 in
set_option maxHeartbeats 4000000 in
theorem sMd_count_76 {E : EE} {R : Int → Mem → Prop} (C : Cx shM 4 cX8_count RX8 0 0 E) (X : Rx shM (some .int) R E) : ∀ (n : Nat) (x2 : Int) (x3 : Int) (M : Mem), fMd_count_76  R n x2 x3 M → AW shM 4 E 76 [some (.inr 0), none, some (.inl x2), some (.inl x3)] [] M := by
  intro n
  induction n with
  | zero => intro x2 x3 M hf; exact hf.elim
  | succ n hk76 =>
    intro x2 x3 M hf
    refine a_iloadn C dX8_count_76 rfl ?_
    refine a_aloadn C dX8_count_77 rfl ?_
    refine a_getI C (kz := 3) fl_X8_172 rfl rfl rfl dX8_count_78 ?_
    obtain ⟨hfa, hfb⟩ := hf
    refine a_icmp_ge C 109 dX8_count_81 rfl (fun hc => ?_) (fun hc => ?_)
    · have hf := hfa hc
      refine a_iloadn C dX8_count_109 rfl ?_
      exact a_iret C X dX8_count_110 hf
    · have hf := hfb hc
      refine a_iloadn C dX8_count_84 rfl ?_
      refine a_aloadn C dX8_count_85 rfl ?_
      refine a_getR C 5 fl_X8_22 rfl rfl dX8_count_86 ?_
      refine a_iloadn C dX8_count_89 rfl ?_
      obtain ⟨hg, hf⟩ := hf
      refine a_iald C (n := 24) rfl hg dX8_count_90 ?_
      refine a_bipush C dX8_count_91 bp_m4 ?_
      obtain ⟨hfa, hfb⟩ := hf
      refine a_icmp_ne C 100 dX8_count_93 rfl (fun hc => ?_) (fun hc => ?_)
      · have hf := hfa hc
        refine a_iconst C dX8_count_100 (inr_b rfl) ?_
        refine a_drop [true, true, false, true] (lv2 := [some (.inr 0), none, none, some (.inl x3)]) rfl ?_
        exact sMd_count_101 C X hk76 _ _ _ _ hf
      · have hf := hfb hc
        refine a_iconst C dX8_count_96 (inr_b rfl) ?_
        refine a_goto C 101 dX8_count_97 rfl ?_
        refine a_drop [true, true, false, true] (lv2 := [some (.inr 0), none, none, some (.inl x3)]) rfl ?_
        exact sMd_count_101 C X hk76 _ _ _ _ hf
set_option maxRecDepth 20000 in
set_option maxHeartbeats 4000000 in
theorem sMd_count_113 {E : EE} {R : Int → Mem → Prop} (C : Cx shM 4 cX8_count RX8 0 0 E) (X : Rx shM (some .int) R E) : ∀ (n : Nat) (x2 : Int) (x3 : Int) (M : Mem), fMd_count_113  R n x2 x3 M → AW shM 4 E 113 [some (.inr 0), none, some (.inl x2), some (.inl x3)] [] M := by
  intro n
  induction n with
  | zero => intro x2 x3 M hf; exact hf.elim
  | succ n hk113 =>
    intro x2 x3 M hf
    refine a_iloadn C dX8_count_113 rfl ?_
    refine a_aloadn C dX8_count_114 rfl ?_
    refine a_getI C (kz := 3) fl_X8_172 rfl rfl rfl dX8_count_115 ?_
    obtain ⟨hfa, hfb⟩ := hf
    refine a_icmp_ge C 136 dX8_count_118 rfl (fun hc => ?_) (fun hc => ?_)
    · have hf := hfa hc
      refine a_iloadn C dX8_count_136 rfl ?_
      exact a_iret C X dX8_count_137 hf
    · have hf := hfb hc
      refine a_iloadn C dX8_count_121 rfl ?_
      refine a_aloadn C dX8_count_122 rfl ?_
      refine a_getR C 6 fl_X8_25 rfl rfl dX8_count_123 ?_
      refine a_iloadn C dX8_count_126 rfl ?_
      obtain ⟨hg, hf⟩ := hf
      refine a_iald C (n := 24) rfl hg dX8_count_127 ?_
      refine a_iadd C dX8_count_128 ?_
      refine a_istoren C dX8_count_129 (by decide) (lv2 := [some (.inr 0), none, some (.inl (wrap (x2 + (M 6 x3)))), some (.inl x3)]) rfl ?_
      refine a_iinc C dX8_count_130 rfl (by decide) (lv2 := [some (.inr 0), none, some (.inl (wrap (x2 + (M 6 x3)))), some (.inl (wrap (x3 + 1)))]) rfl ?_
      refine a_goto C 113 dX8_count_133 rfl ?_
      exact hk113 _ _ _ hf
set_option maxRecDepth 20000 in
set_option maxHeartbeats 4000000 in
theorem cMd_count (x1 : Int) : Snd shM yX8_count cX8_count 4 (some .int) 0 0 [.inr 0, .inl x1] (fMd_count x1) := by
  refine Snd.of RX8 (by decide +kernel) rfl (Nat.le_of_ble_eq_true rfl) ?_
  intro E M R hf C X
  show AW shM 4 E 0 [some (.inr 0), some (.inl x1), none, none] [] M
  refine a_iconst C dX8_count_0 (inr_b rfl) ?_
  refine a_istoren C dX8_count_1 (by decide) (lv2 := [some (.inr 0), some (.inl x1), some (.inl 0), none]) rfl ?_
  refine a_iloadn C dX8_count_2 rfl ?_
  obtain ⟨hf60, hf65, hf74, hf111, hf138, hf143, hf148, hf153, hfd⟩ := hf
  by_cases hc0 : x1 = 0
  · have hc := hc0
    refine a_tsIn C 60 0 hc dX8_count_3 ⟨by decide, by decide, rfl, rfl⟩ ?_
    have hf := hf60 (hc)
    refine a_aloadn C dX8_count_60 rfl ?_
    refine a_getI C (kz := 3) fl_X8_172 rfl rfl rfl dX8_count_61 ?_
    exact a_iret C X dX8_count_64 hf
  by_cases hc1 : x1 = 1
  · have hc := hc1
    refine a_tsIn C 65 1 hc dX8_count_3 ⟨by decide, by decide, rfl, rfl⟩ ?_
    have hf := hf65 (Or.inl hc)
    refine a_drop [true, true, false, true] (lv2 := [some (.inr 0), some (.inl x1), none, none]) rfl ?_
    exact sMd_count_65 C X  _ _ hf
  by_cases hc2 : x1 = 2
  · have hc := hc2
    refine a_tsIn C 65 2 hc dX8_count_3 ⟨by decide, by decide, rfl, rfl⟩ ?_
    have hf := hf65 (Or.inr (Or.inl hc))
    refine a_drop [true, true, false, true] (lv2 := [some (.inr 0), some (.inl x1), none, none]) rfl ?_
    exact sMd_count_65 C X  _ _ hf
  by_cases hc3 : x1 = 3
  · have hc := hc3
    refine a_tsIn C 65 3 hc dX8_count_3 ⟨by decide, by decide, rfl, rfl⟩ ?_
    have hf := hf65 (Or.inr (Or.inr (Or.inl hc)))
    refine a_drop [true, true, false, true] (lv2 := [some (.inr 0), some (.inl x1), none, none]) rfl ?_
    exact sMd_count_65 C X  _ _ hf
  by_cases hc4 : x1 = 4
  · have hc := hc4
    refine a_tsIn C 65 4 hc dX8_count_3 ⟨by decide, by decide, rfl, rfl⟩ ?_
    have hf := hf65 (Or.inr (Or.inr (Or.inr hc)))
    refine a_drop [true, true, false, true] (lv2 := [some (.inr 0), some (.inl x1), none, none]) rfl ?_
    exact sMd_count_65 C X  _ _ hf
  by_cases hc5 : x1 = 5
  · have hc := hc5
    refine a_tsIn C 74 5 hc dX8_count_3 ⟨by decide, by decide, rfl, rfl⟩ ?_
    have hf := hf74 (hc)
    refine a_iconst C dX8_count_74 (inr_b rfl) ?_
    refine a_istoren C dX8_count_75 (by decide) (lv2 := [some (.inr 0), some (.inl x1), some (.inl 0), some (.inl 0)]) rfl ?_
    refine a_drop [true, false, true, true] (lv2 := [some (.inr 0), none, some (.inl 0), some (.inl 0)]) rfl ?_
    obtain ⟨n1, hf⟩ := hf
    exact sMd_count_76 C X  n1 _ _ _ hf
  by_cases hc6 : x1 = 6
  · have hc := hc6
    refine a_tsIn C 111 6 hc dX8_count_3 ⟨by decide, by decide, rfl, rfl⟩ ?_
    have hf := hf111 (hc)
    refine a_iconst C dX8_count_111 (inr_b rfl) ?_
    refine a_istoren C dX8_count_112 (by decide) (lv2 := [some (.inr 0), some (.inl x1), some (.inl 0), some (.inl 0)]) rfl ?_
    refine a_drop [true, false, true, true] (lv2 := [some (.inr 0), none, some (.inl 0), some (.inl 0)]) rfl ?_
    obtain ⟨n2, hf⟩ := hf
    exact sMd_count_113 C X  n2 _ _ _ hf
  by_cases hc7 : x1 = 7
  · have hc := hc7
    refine a_tsIn C 138 7 hc dX8_count_3 ⟨by decide, by decide, rfl, rfl⟩ ?_
    have hf := hf138 (hc)
    refine a_aloadn C dX8_count_138 rfl ?_
    refine a_getI C (kz := 2) fl_X8_175 rfl rfl rfl dX8_count_139 ?_
    exact a_iret C X dX8_count_142 hf
  by_cases hc8 : x1 = 8
  · have hc := hc8
    refine a_tsIn C 143 8 hc dX8_count_3 ⟨by decide, by decide, rfl, rfl⟩ ?_
    have hf := hf143 (hc)
    refine a_aloadn C dX8_count_143 rfl ?_
    refine a_getI C (kz := 9) fl_X8_118 rfl rfl rfl dX8_count_144 ?_
    exact a_iret C X dX8_count_147 hf
  by_cases hc9 : x1 = 9
  · have hc := hc9
    refine a_tsIn C 148 9 hc dX8_count_3 ⟨by decide, by decide, rfl, rfl⟩ ?_
    have hf := hf148 (hc)
    refine a_aloadn C dX8_count_148 rfl ?_
    refine a_getI C (kz := 16) fl_X8_135 rfl rfl rfl dX8_count_149 ?_
    exact a_iret C X dX8_count_152 hf
  by_cases hc10 : x1 = 10
  · have hc := hc10
    refine a_tsIn C 153 10 hc dX8_count_3 ⟨by decide, by decide, rfl, rfl⟩ ?_
    have hf := hf153 (hc)
    refine a_aloadn C dX8_count_153 rfl ?_
    refine a_getI C (kz := 43) fl_X8_178 rfl rfl rfl dX8_count_154 ?_
    obtain ⟨hfa, hfb⟩ := hf
    refine a_if_eq C 164 dX8_count_157 rfl (fun hc => ?_) (fun hc => ?_)
    · have hf := hfa hc
      refine a_iconst C dX8_count_164 (inr_b rfl) ?_
      exact a_iret C X dX8_count_165 hf
    · have hf := hfb hc
      refine a_iconst C dX8_count_160 (inr_b rfl) ?_
      refine a_goto C 165 dX8_count_161 rfl ?_
      exact a_iret C X dX8_count_165 hf
  have hco : x1 < 0 ∨ 10 < x1 := by omega
  refine a_tsOut C 166 dX8_count_3 hco rfl ?_
  have hf := hfd (by omega)
  refine a_iconst C dX8_count_166 (inr_b rfl) ?_
  exact a_iret C X dX8_count_167 hf
