/-! the tails of the constructors -/
set_option maxRecDepth 20000 in
set_option maxHeartbeats 4000000 in
theorem sArr_fillS_5 {E : EE} {R : Int → Mem → Prop} (C : Cx shS 4 cJ7_fill_53178 RJ7 0 0 E) (X : Rx shS none R E) : ∀ (n : Nat) (x1 : Int) (x2 : Int) (x3 : Int) (M : Mem), fArr_fillS_5  R n x1 x2 x3 M → AW shS 4 E 5 [some (.inr 1), some (.inl x1), some (.inl x2), some (.inl x3)] [] M := by
  intro n
  induction n with
  | zero => intro x1 x2 x3 M hf; exact hf.elim
  | succ n hk5 =>
    intro x1 x2 x3 M hf
    refine a_iloadn C dJ7_fill_53178_5 rfl ?_
    refine a_iloadn C dJ7_fill_53178_6 rfl ?_
    obtain ⟨hfa, hfb⟩ := hf
    refine a_icmp_ge C 20 dJ7_fill_53178_7 rfl (fun hc => ?_) (fun hc => ?_)
    · have hf := hfa hc
      exact a_vret C X dJ7_fill_53178_20 hf
    · have hf := hfb hc
      refine a_aloadn C dJ7_fill_53178_10 rfl ?_
      refine a_iloadn C dJ7_fill_53178_11 rfl ?_
      refine a_iloadn C dJ7_fill_53178_12 rfl ?_
      obtain ⟨hg, hf⟩ := hf
      refine a_iast C (n := 24) rfl hg dJ7_fill_53178_13 ?_
      refine a_iinc C dJ7_fill_53178_14 rfl (by decide) (lv2 := [some (.inr 1), some (.inl x1), some (.inl (wrap (x2 + 1))), some (.inl x3)]) rfl ?_
      refine a_goto C 5 dJ7_fill_53178_17 rfl ?_
      exact hk5 _ _ _ _ hf
set_option maxRecDepth 20000 in
set_option maxHeartbeats 4000000 in
theorem cArr_fillS (x1 : Int) : Snd shS yJ7_fill_53178 cJ7_fill_53178 4 none 0 0 [.inr 1, .inl x1] (fArr_fillS x1) := by
  refine Snd.of RJ7 (by decide +kernel) rfl (Nat.le_of_ble_eq_true rfl) ?_
  intro E M R hf C X
  show AW shS 4 E 0 [some (.inr 1), some (.inl x1), none, none] [] M
  refine a_iconst C dJ7_fill_53178_0 (inr_b rfl) ?_
  refine a_istoren C dJ7_fill_53178_1 (by decide) (lv2 := [some (.inr 1), some (.inl x1), some (.inl 0), none]) rfl ?_
  refine a_aloadn C dJ7_fill_53178_2 rfl ?_
  refine a_alen C 24 rfl rfl rfl (inr_b rfl) dJ7_fill_53178_3 ?_
  refine a_istoren C dJ7_fill_53178_4 (by decide) (lv2 := [some (.inr 1), some (.inl x1), some (.inl 0), some (.inl 24)]) rfl ?_
  obtain ⟨n1, hf⟩ := hf
  exact sArr_fillS_5 C X  n1 _ _ _ _ hf
set_option maxRecDepth 20000 in
set_option maxHeartbeats 4000000 in
theorem sSe_initT {E : EE} {R : Int → Mem → Prop} (C : Cx shS 1 cX5_init RX5 1 23 E) (X : ∀ (pc : Nat) (lv : List (Option AV)) (M : Mem), decode cX5_init pc = .ok (.return_, 1) → R 0 M → AW shS 1 E pc lv [] M) (M : Mem) (hf : fSe_initT M R) : AW shS 1 E 51 [some (.inr 0)] [] M := by
  refine a_aloadn C dX5_init_51 rfl ?_
  refine a_getR C 1 fl_X5_24 rfl rfl dX5_init_52 ?_
  refine a_iconst C dX5_init_55 (inr_b rfl) ?_
  refine a_callS C [.inr 1, .inl 1] [] dX5_init_56 (cArr_fillS _) ms_J7_fill_53178 ln_X5_37 ⟨rfl, rfl, Nat.le_of_ble_eq_true rfl, Nat.le_of_ble_eq_true rfl, Nat.le_of_ble_eq_true rfl⟩ hf (fun r1 M1 hf => ?_)
  exact X _ _ _ dX5_init_59 hf
set_option maxRecDepth 20000 in
set_option maxHeartbeats 4000000 in
theorem sSt_initT_118 {E : EE} {R : Int → Mem → Prop} (C : Cx shX 2 cX7_init RX7 6 144 E) (X : ∀ (pc : Nat) (lv : List (Option AV)) (M : Mem), decode cX7_init pc = .ok (.return_, 1) → R 0 M → AW shX 2 E pc lv [] M) : ∀ (n : Nat) (x1 : Int) (M : Mem), fSt_initT_118  R n x1 M → AW shX 2 E 118 [some (.inr 0), some (.inl x1)] [] M := by
  intro n
  induction n with
  | zero => intro x1 M hf; exact hf.elim
  | succ n hk118 =>
    intro x1 M hf
    have hf : fStr_length_110 M (fun r1 M1 => ((r1 ≤ x1 → fPr_parse_p M1 (fun r2 M2 => fPr_findDepths_p M2 (fun r3 M3 => fTe_empty M3 (fun r4 M4 => fSt_refresh M4 (fun r5 M5 => R 0 M5))))) ∧ (¬ r1 ≤ x1 → fStr_charAt_110 x1 M1 (fun r6 M6 => fTe_append r6 M6 (fun r7 M7 => (fSt_initT_118 R n) (wrap (x1 + 1)) M7))))) := hf
    refine a_iloadn C dX7_init_118 rfl ?_
    refine a_ldcS C (tx := "n05s0g0b15g0n03*dwpg0n01-s0j02h") 110 (fun ad A U H h => str_X7_65 h) dX7_init_119 ?_
    refine a_callK C 110 [] [.inl x1] dX7_init_121 (cStr_length_110) mv_J0_length_8abf5 ln_X7_67 ⟨by decide, rfl⟩ ⟨rfl, rfl, Nat.le_of_ble_eq_true rfl, Nat.le_of_ble_eq_true rfl, Nat.le_of_ble_eq_true rfl⟩ hf (fun r1 M1 hf => ?_)
    obtain ⟨hfa, hfb⟩ := hf
    refine a_icmp_ge C 146 dX7_init_124 rfl (fun hc => ?_) (fun hc => ?_)
    · have hf := hfa hc
      refine a_aloadn C dX7_init_146 rfl ?_
      refine a_getR C 13 fl_X7_40 rfl rfl dX7_init_147 ?_
      refine a_aloadn C dX7_init_150 rfl ?_
      refine a_getR C 1 fl_X7_10 rfl rfl dX7_init_151 ?_
      refine a_aloadn C dX7_init_154 rfl ?_
      refine a_getR C 3 fl_X7_19 rfl rfl dX7_init_155 ?_
      refine a_callV C [.inr 1, .inr 3] [] dX7_init_158 (cPr_parse_p) mv_X3_parse ln_X7_81 rfl rfl ⟨rfl, rfl, Nat.le_of_ble_eq_true rfl, Nat.le_of_ble_eq_true rfl, Nat.le_of_ble_eq_true rfl⟩ hf (fun r2 M2 hf => ?_)
      refine a_pop C dX7_init_161 ?_
      refine a_aloadn C dX7_init_162 rfl ?_
      refine a_getR C 13 fl_X7_40 rfl rfl dX7_init_163 ?_
      refine a_aloadn C dX7_init_166 rfl ?_
      refine a_getR C 3 fl_X7_19 rfl rfl dX7_init_167 ?_
      refine a_callV C [.inr 3] [] dX7_init_170 (cPr_findDepths_p) mv_X3_findDepths ln_X7_85 rfl rfl ⟨rfl, rfl, Nat.le_of_ble_eq_true rfl, Nat.le_of_ble_eq_true rfl, Nat.le_of_ble_eq_true rfl⟩ hf (fun r3 M3 hf => ?_)
      refine a_pop C dX7_init_173 ?_
      refine a_aloadn C dX7_init_174 rfl ?_
      refine a_getR C 1 fl_X7_10 rfl rfl dX7_init_175 ?_
      refine a_callV C [] [] dX7_init_178 (cTe_empty) mv_X6_empty ln_X7_89 rfl rfl ⟨rfl, rfl, Nat.le_of_ble_eq_true rfl, Nat.le_of_ble_eq_true rfl, Nat.le_of_ble_eq_true rfl⟩ hf (fun r4 M4 hf => ?_)
      refine a_pop C dX7_init_181 ?_
      refine a_aloadn C dX7_init_182 rfl ?_
      refine a_callV C [] [] dX7_init_183 (cSt_refresh) mv_X7_refresh ln_X7_92 rfl rfl ⟨rfl, rfl, Nat.le_of_ble_eq_true rfl, Nat.le_of_ble_eq_true rfl, Nat.le_of_ble_eq_true rfl⟩ hf (fun r5 M5 hf => ?_)
      exact X _ _ _ dX7_init_186 hf
    · have hf := hfb hc
      refine a_aloadn C dX7_init_127 rfl ?_
      refine a_getR C 1 fl_X7_10 rfl rfl dX7_init_128 ?_
      refine a_ldcS C (tx := "n05s0g0b15g0n03*dwpg0n01-s0j02h") 110 (fun ad A U H h => str_X7_65 h) dX7_init_131 ?_
      refine a_iloadn C dX7_init_133 rfl ?_
      refine a_callK C 110 [.inl x1] [.inr 1] dX7_init_134 (cStr_charAt_110 _) mv_J0_charAt_5068e ln_X7_73 ⟨by decide, rfl⟩ ⟨rfl, rfl, Nat.le_of_ble_eq_true rfl, Nat.le_of_ble_eq_true rfl, Nat.le_of_ble_eq_true rfl⟩ hf (fun r6 M6 hf => ?_)
      refine a_callV C [.inl r6] [] dX7_init_137 (cTe_append _) mv_X6_append ln_X7_77 rfl rfl ⟨rfl, rfl, Nat.le_of_ble_eq_true rfl, Nat.le_of_ble_eq_true rfl, Nat.le_of_ble_eq_true rfl⟩ hf (fun r7 M7 hf => ?_)
      refine a_iinc C dX7_init_140 rfl (by decide) (lv2 := [some (.inr 0), some (.inl (wrap (x1 + 1)))]) rfl ?_
      refine a_goto C 118 dX7_init_143 rfl ?_
      exact hk118 _ _ hf
set_option maxRecDepth 20000 in
set_option maxHeartbeats 4000000 in
theorem sSt_initT {E : EE} {R : Int → Mem → Prop} (C : Cx shX 2 cX7_init RX7 6 144 E) (X : ∀ (pc : Nat) (lv : List (Option AV)) (M : Mem), decode cX7_init pc = .ok (.return_, 1) → R 0 M → AW shX 2 E pc lv [] M) (M : Mem) (hf : fSt_initT M R) : AW shX 2 E 116 [some (.inr 0), none] [] M := by
  refine a_iconst C dX7_init_116 (inr_b rfl) ?_
  refine a_istoren C dX7_init_117 (by decide) (lv2 := [some (.inr 0), some (.inl 0)]) rfl ?_
  obtain ⟨n8, hf⟩ := hf
  exact sSt_initT_118 C X  n8 _ _ hf
set_option maxRecDepth 20000 in
set_option maxHeartbeats 4000000 in
theorem sMd_initT {E : EE} {R : Int → Mem → Prop} (C : Cx shM 1 cX8_init RX8 5 113 E) (X : ∀ (pc : Nat) (lv : List (Option AV)) (M : Mem), decode cX8_init pc = .ok (.return_, 1) → R 0 M → AW shM 1 E pc lv [] M) (M : Mem) (hf : fMd_initT M R) : AW shM 1 E 254 [some (.inr 0)] [] M := by
  refine a_aloadn C dX8_init_254 rfl ?_
  refine a_getR C 1 fl_X8_7 rfl rfl dX8_init_255 ?_
  refine a_iconst C dX8_init_258 (inr_b rfl) ?_
  refine a_iconst C dX8_init_259 (inr_b rfl) ?_
  refine a_iast C (n := 28) rfl (inb_b rfl) dX8_init_260 ?_
  refine a_aloadn C dX8_init_261 rfl ?_
  refine a_getR C 1 fl_X8_7 rfl rfl dX8_init_262 ?_
  refine a_iconst C dX8_init_265 (inr_b rfl) ?_
  refine a_iconst C dX8_init_266 (inr_b rfl) ?_
  refine a_iast C (n := 28) rfl (inb_b rfl) dX8_init_267 ?_
  refine a_aloadn C dX8_init_268 rfl ?_
  refine a_getR C 1 fl_X8_7 rfl rfl dX8_init_269 ?_
  refine a_iconst C dX8_init_272 (inr_b rfl) ?_
  refine a_iconst C dX8_init_273 (inr_b rfl) ?_
  refine a_iast C (n := 28) rfl (inb_b rfl) dX8_init_274 ?_
  refine a_aloadn C dX8_init_275 rfl ?_
  refine a_getR C 1 fl_X8_7 rfl rfl dX8_init_276 ?_
  refine a_iconst C dX8_init_279 (inr_b rfl) ?_
  refine a_iconst C dX8_init_280 (inr_b rfl) ?_
  refine a_iast C (n := 28) rfl (inb_b rfl) dX8_init_281 ?_
  refine a_aloadn C dX8_init_282 rfl ?_
  refine a_iconst C dX8_init_283 (inr_b rfl) ?_
  refine a_bipush C dX8_init_284 bp_110 ?_
  refine a_iconst C dX8_init_286 (inr_b rfl) ?_
  refine a_callV C [.inl 0, .inl 110, .inl 5] [] dX8_init_287 (cMd_lays _ _ _) mv_X8_lays ln_X8_104 rfl rfl ⟨rfl, rfl, Nat.le_of_ble_eq_true rfl, Nat.le_of_ble_eq_true rfl, Nat.le_of_ble_eq_true rfl⟩ hf (fun r1 M1 hf => ?_)
  refine a_aloadn C dX8_init_290 rfl ?_
  refine a_iconst C dX8_init_291 (inr_b rfl) ?_
  refine a_bipush C dX8_init_292 bp_115 ?_
  refine a_iconst C dX8_init_294 (inr_b rfl) ?_
  refine a_callV C [.inl 1, .inl 115, .inl 0] [] dX8_init_295 (cMd_lays _ _ _) mv_X8_lays ln_X8_104 rfl rfl ⟨rfl, rfl, Nat.le_of_ble_eq_true rfl, Nat.le_of_ble_eq_true rfl, Nat.le_of_ble_eq_true rfl⟩ hf (fun r2 M2 hf => ?_)
  refine a_aloadn C dX8_init_298 rfl ?_
  refine a_iconst C dX8_init_299 (inr_b rfl) ?_
  refine a_bipush C dX8_init_300 bp_103 ?_
  refine a_iconst C dX8_init_302 (inr_b rfl) ?_
  refine a_callV C [.inl 2, .inl 103, .inl 0] [] dX8_init_303 (cMd_lays _ _ _) mv_X8_lays ln_X8_104 rfl rfl ⟨rfl, rfl, Nat.le_of_ble_eq_true rfl, Nat.le_of_ble_eq_true rfl, Nat.le_of_ble_eq_true rfl⟩ hf (fun r3 M3 hf => ?_)
  refine a_aloadn C dX8_init_306 rfl ?_
  refine a_iconst C dX8_init_307 (inr_b rfl) ?_
  refine a_bipush C dX8_init_308 bp_98 ?_
  refine a_bipush C dX8_init_310 bp_15 ?_
  refine a_callV C [.inl 3, .inl 98, .inl 15] [] dX8_init_312 (cMd_lays _ _ _) mv_X8_lays ln_X8_104 rfl rfl ⟨rfl, rfl, Nat.le_of_ble_eq_true rfl, Nat.le_of_ble_eq_true rfl, Nat.le_of_ble_eq_true rfl⟩ hf (fun r4 M4 hf => ?_)
  refine a_aloadn C dX8_init_315 rfl ?_
  refine a_iconst C dX8_init_316 (inr_b rfl) ?_
  refine a_bipush C dX8_init_317 bp_103 ?_
  refine a_iconst C dX8_init_319 (inr_b rfl) ?_
  refine a_callV C [.inl 4, .inl 103, .inl 0] [] dX8_init_320 (cMd_lays _ _ _) mv_X8_lays ln_X8_104 rfl rfl ⟨rfl, rfl, Nat.le_of_ble_eq_true rfl, Nat.le_of_ble_eq_true rfl, Nat.le_of_ble_eq_true rfl⟩ hf (fun r5 M5 hf => ?_)
  refine a_aloadn C dX8_init_323 rfl ?_
  refine a_iconst C dX8_init_324 (inr_b rfl) ?_
  refine a_bipush C dX8_init_325 bp_110 ?_
  refine a_iconst C dX8_init_327 (inr_b rfl) ?_
  refine a_callV C [.inl 5, .inl 110, .inl 3] [] dX8_init_328 (cMd_lays _ _ _) mv_X8_lays ln_X8_104 rfl rfl ⟨rfl, rfl, Nat.le_of_ble_eq_true rfl, Nat.le_of_ble_eq_true rfl, Nat.le_of_ble_eq_true rfl⟩ hf (fun r6 M6 hf => ?_)
  refine a_aloadn C dX8_init_331 rfl ?_
  refine a_bipush C dX8_init_332 bp_6 ?_
  refine a_bipush C dX8_init_334 bp_42 ?_
  refine a_bipush C dX8_init_336 bp_m4 ?_
  refine a_callV C [.inl 6, .inl 42, .inl (-4)] [] dX8_init_338 (cMd_lays _ _ _) mv_X8_lays ln_X8_104 rfl rfl ⟨rfl, rfl, Nat.le_of_ble_eq_true rfl, Nat.le_of_ble_eq_true rfl, Nat.le_of_ble_eq_true rfl⟩ hf (fun r7 M7 hf => ?_)
  refine a_aloadn C dX8_init_341 rfl ?_
  refine a_bipush C dX8_init_342 bp_7 ?_
  refine a_bipush C dX8_init_344 bp_100 ?_
  refine a_bipush C dX8_init_346 bp_m4 ?_
  refine a_callV C [.inl 7, .inl 100, .inl (-4)] [] dX8_init_348 (cMd_lays _ _ _) mv_X8_lays ln_X8_104 rfl rfl ⟨rfl, rfl, Nat.le_of_ble_eq_true rfl, Nat.le_of_ble_eq_true rfl, Nat.le_of_ble_eq_true rfl⟩ hf (fun r8 M8 hf => ?_)
  refine a_aloadn C dX8_init_351 rfl ?_
  refine a_bipush C dX8_init_352 bp_8 ?_
  refine a_bipush C dX8_init_354 bp_119 ?_
  refine a_bipush C dX8_init_356 bp_m4 ?_
  refine a_callV C [.inl 8, .inl 119, .inl (-4)] [] dX8_init_358 (cMd_lays _ _ _) mv_X8_lays ln_X8_104 rfl rfl ⟨rfl, rfl, Nat.le_of_ble_eq_true rfl, Nat.le_of_ble_eq_true rfl, Nat.le_of_ble_eq_true rfl⟩ hf (fun r9 M9 hf => ?_)
  refine a_aloadn C dX8_init_361 rfl ?_
  refine a_bipush C dX8_init_362 bp_9 ?_
  refine a_bipush C dX8_init_364 bp_112 ?_
  refine a_bipush C dX8_init_366 bp_m4 ?_
  refine a_callV C [.inl 9, .inl 112, .inl (-4)] [] dX8_init_368 (cMd_lays _ _ _) mv_X8_lays ln_X8_104 rfl rfl ⟨rfl, rfl, Nat.le_of_ble_eq_true rfl, Nat.le_of_ble_eq_true rfl, Nat.le_of_ble_eq_true rfl⟩ hf (fun r10 M10 hf => ?_)
  refine a_aloadn C dX8_init_371 rfl ?_
  refine a_bipush C dX8_init_372 bp_10 ?_
  refine a_bipush C dX8_init_374 bp_103 ?_
  refine a_iconst C dX8_init_376 (inr_b rfl) ?_
  refine a_callV C [.inl 10, .inl 103, .inl 0] [] dX8_init_377 (cMd_lays _ _ _) mv_X8_lays ln_X8_104 rfl rfl ⟨rfl, rfl, Nat.le_of_ble_eq_true rfl, Nat.le_of_ble_eq_true rfl, Nat.le_of_ble_eq_true rfl⟩ hf (fun r11 M11 hf => ?_)
  refine a_aloadn C dX8_init_380 rfl ?_
  refine a_bipush C dX8_init_381 bp_11 ?_
  refine a_bipush C dX8_init_383 bp_110 ?_
  refine a_iconst C dX8_init_385 (inr_b rfl) ?_
  refine a_callV C [.inl 11, .inl 110, .inl 1] [] dX8_init_386 (cMd_lays _ _ _) mv_X8_lays ln_X8_104 rfl rfl ⟨rfl, rfl, Nat.le_of_ble_eq_true rfl, Nat.le_of_ble_eq_true rfl, Nat.le_of_ble_eq_true rfl⟩ hf (fun r12 M12 hf => ?_)
  refine a_aloadn C dX8_init_389 rfl ?_
  refine a_bipush C dX8_init_390 bp_12 ?_
  refine a_bipush C dX8_init_392 bp_45 ?_
  refine a_bipush C dX8_init_394 bp_m4 ?_
  refine a_callV C [.inl 12, .inl 45, .inl (-4)] [] dX8_init_396 (cMd_lays _ _ _) mv_X8_lays ln_X8_104 rfl rfl ⟨rfl, rfl, Nat.le_of_ble_eq_true rfl, Nat.le_of_ble_eq_true rfl, Nat.le_of_ble_eq_true rfl⟩ hf (fun r13 M13 hf => ?_)
  refine a_aloadn C dX8_init_399 rfl ?_
  refine a_bipush C dX8_init_400 bp_13 ?_
  refine a_bipush C dX8_init_402 bp_115 ?_
  refine a_iconst C dX8_init_404 (inr_b rfl) ?_
  refine a_callV C [.inl 13, .inl 115, .inl 0] [] dX8_init_405 (cMd_lays _ _ _) mv_X8_lays ln_X8_104 rfl rfl ⟨rfl, rfl, Nat.le_of_ble_eq_true rfl, Nat.le_of_ble_eq_true rfl, Nat.le_of_ble_eq_true rfl⟩ hf (fun r14 M14 hf => ?_)
  refine a_aloadn C dX8_init_408 rfl ?_
  refine a_bipush C dX8_init_409 bp_14 ?_
  refine a_bipush C dX8_init_411 bp_106 ?_
  refine a_iconst C dX8_init_413 (inr_b rfl) ?_
  refine a_callV C [.inl 14, .inl 106, .inl 2] [] dX8_init_414 (cMd_lays _ _ _) mv_X8_lays ln_X8_104 rfl rfl ⟨rfl, rfl, Nat.le_of_ble_eq_true rfl, Nat.le_of_ble_eq_true rfl, Nat.le_of_ble_eq_true rfl⟩ hf (fun r15 M15 hf => ?_)
  refine a_aloadn C dX8_init_417 rfl ?_
  refine a_bipush C dX8_init_418 bp_15 ?_
  refine a_bipush C dX8_init_420 bp_104 ?_
  refine a_bipush C dX8_init_422 bp_m4 ?_
  refine a_callV C [.inl 15, .inl 104, .inl (-4)] [] dX8_init_424 (cMd_lays _ _ _) mv_X8_lays ln_X8_104 rfl rfl ⟨rfl, rfl, Nat.le_of_ble_eq_true rfl, Nat.le_of_ble_eq_true rfl, Nat.le_of_ble_eq_true rfl⟩ hf (fun r16 M16 hf => ?_)
  refine a_aloadn C dX8_init_427 rfl ?_
  refine a_bipush C dX8_init_428 bp_16 ?_
  refine a_putI C (kz := 10) fp_X8_108 rfl rfl rfl dX8_init_430 ?_
  refine a_aloadn C dX8_init_433 rfl ?_
  refine a_callV C [] [] dX8_init_434 (cMd_takesProgram) mv_X8_takesProgram ln_X8_111 rfl rfl ⟨rfl, rfl, Nat.le_of_ble_eq_true rfl, Nat.le_of_ble_eq_true rfl, Nat.le_of_ble_eq_true rfl⟩ hf (fun r17 M17 hf => ?_)
  exact X _ _ _ dX8_init_437 hf
