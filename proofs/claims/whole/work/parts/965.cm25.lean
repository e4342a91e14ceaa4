set_option maxRecDepth 20000 in
set_option maxHeartbeats 4000000 in
theorem cMd_lays (x1 x2 x3 : Int) : Snd shM yX8_lays cX8_lays 4 none 0 0 [.inr 0, .inl x1, .inl x2, .inl x3] (fMd_lays x1 x2 x3) := by
  refine Snd.of RX8 (by decide +kernel) rfl (Nat.le_of_ble_eq_true rfl) ?_
  intro E M R hf C X
  show AW shM 4 E 0 [some (.inr 0), some (.inl x1), some (.inl x2), some (.inl x3)] [] M
  refine a_aloadn C dX8_lays_0 rfl ?_
  refine a_getR C 8 fl_X8_31 rfl rfl dX8_lays_1 ?_
  refine a_iloadn C dX8_lays_4 rfl ?_
  refine a_iloadn C dX8_lays_5 rfl ?_
  obtain ⟨hg, hf⟩ := hf
  refine a_iast C (n := 24) rfl hg dX8_lays_6 ?_
  refine a_aloadn C dX8_lays_7 rfl ?_
  refine a_getR C 9 fl_X8_34 rfl rfl dX8_lays_8 ?_
  refine a_iloadn C dX8_lays_11 rfl ?_
  refine a_iloadn C dX8_lays_12 rfl ?_
  obtain ⟨hg, hf⟩ := hf
  refine a_iast C (n := 24) rfl hg dX8_lays_13 ?_
  exact a_vret C X dX8_lays_14 hf
set_option maxRecDepth 20000 in
set_option maxHeartbeats 4000000 in
theorem sMd_lowest_37 {E : EE} {R : Int → Mem → Prop} (C : Cx shM 2 cX8_lowest RX8 0 0 E) (X : Rx shM (some .int) R E) (x1 : Int) (M : Mem) (hf : fMd_lowest_37  R x1 M) : AW shM 2 E 37 [some (.inr 0), some (.inl x1)] [] M := by
  refine a_iloadn C dX8_lowest_37 rfl ?_
  refine a_aloadn C dX8_lowest_38 rfl ?_
  refine a_getI C (kz := 10) fl_X8_108 rfl rfl rfl dX8_lowest_39 ?_
  obtain ⟨hfa, hfb⟩ := hf
  refine a_icmp_ge C 49 dX8_lowest_42 rfl (fun hc => ?_) (fun hc => ?_)
  · have hf := hfa hc
    refine a_bipush C dX8_lowest_49 bp_m4 ?_
    exact a_iret C X dX8_lowest_51 hf
  · have hf := hfb hc
    refine a_iloadn C dX8_lowest_45 rfl ?_
    refine a_goto C 51 dX8_lowest_46 rfl ?_
    exact a_iret C X dX8_lowest_51 hf
set_option maxRecDepth 20000 in
set_option maxHeartbeats 4000000 in
theorem sMd_lowest_31 {E : EE} {R : Int → Mem → Prop} (C : Cx shM 2 cX8_lowest RX8 0 0 E) (X : Rx shM (some .int) R E) {k2 : Int → Mem → Prop} (hk2 : ∀ (x1 : Int) (M : Mem), k2 x1 M → AW shM 2 E 2 [some (.inr 0), some (.inl x1)] [] M) (x1 : Int) (M : Mem) (hf : fMd_lowest_31 k2 R x1 M) : AW shM 2 E 31 [some (.inr 0), some (.inl x1)] [] M := by
  refine a_iinc C dX8_lowest_31 rfl (by decide) (lv2 := [some (.inr 0), some (.inl (wrap (x1 + 1)))]) rfl ?_
  refine a_goto C 2 dX8_lowest_34 rfl ?_
  exact hk2 _ _ hf
set_option maxRecDepth 20000 in
set_option maxHeartbeats 4000000 in
theorem sMd_lowest_2 {E : EE} {R : Int → Mem → Prop} (C : Cx shM 2 cX8_lowest RX8 0 0 E) (X : Rx shM (some .int) R E) : ∀ (n : Nat) (x1 : Int) (M : Mem), fMd_lowest_2  R n x1 M → AW shM 2 E 2 [some (.inr 0), some (.inl x1)] [] M := by
  intro n
  induction n with
  | zero => intro x1 M hf; exact hf.elim
  | succ n hk2 =>
    intro x1 M hf
    refine a_iloadn C dX8_lowest_2 rfl ?_
    refine a_aloadn C dX8_lowest_3 rfl ?_
    refine a_getI C (kz := 10) fl_X8_108 rfl rfl rfl dX8_lowest_4 ?_
    obtain ⟨hfa, hfb⟩ := hf
    refine a_icmp_ge C 37 dX8_lowest_7 rfl (fun hc => ?_) (fun hc => ?_)
    · have hf := hfa hc
      exact sMd_lowest_37 C X  _ _ hf
    · have hf := hfb hc
      refine a_aloadn C dX8_lowest_10 rfl ?_
      refine a_getR C 12 fl_X8_43 rfl rfl dX8_lowest_11 ?_
      refine a_iloadn C dX8_lowest_14 rfl ?_
      obtain ⟨hg, hf⟩ := hf
      refine a_iald C (n := 24) rfl hg dX8_lowest_15 ?_
      refine a_bipush C dX8_lowest_16 bp_m4 ?_
      obtain ⟨hfa, hfb⟩ := hf
      refine a_icmp_eq C 31 dX8_lowest_18 rfl (fun hc => ?_) (fun hc => ?_)
      · have hf := hfa hc
        exact sMd_lowest_31 C X hk2 _ _ hf
      · have hf := hfb hc
        refine a_aloadn C dX8_lowest_21 rfl ?_
        refine a_getR C 13 fl_X8_46 rfl rfl dX8_lowest_22 ?_
        refine a_iloadn C dX8_lowest_25 rfl ?_
        obtain ⟨hg, hf⟩ := hf
        refine a_iald C (n := 24) rfl hg dX8_lowest_26 ?_
        refine a_iconst C dX8_lowest_27 (inr_b rfl) ?_
        obtain ⟨hfa, hfb⟩ := hf
        refine a_icmp_ne C 37 dX8_lowest_28 rfl (fun hc => ?_) (fun hc => ?_)
        · have hf := hfa hc
          exact sMd_lowest_37 C X  _ _ hf
        · have hf := hfb hc
          exact sMd_lowest_31 C X hk2 _ _ hf
set_option maxRecDepth 20000 in
set_option maxHeartbeats 4000000 in
theorem cMd_lowest : Snd shM yX8_lowest cX8_lowest 2 (some .int) 0 0 [.inr 0] fMd_lowest := by
  refine Snd.of RX8 (by decide +kernel) rfl (Nat.le_of_ble_eq_true rfl) ?_
  intro E M R hf C X
  show AW shM 2 E 0 [some (.inr 0), none] [] M
  refine a_iconst C dX8_lowest_0 (inr_b rfl) ?_
  refine a_istoren C dX8_lowest_1 (by decide) (lv2 := [some (.inr 0), some (.inl 0)]) rfl ?_
  obtain ⟨n1, hf⟩ := hf
  exact sMd_lowest_2 C X  n1 _ _ hf
set_option maxRecDepth 20000 in
set_option maxHeartbeats 4000000 in
theorem sMd_refuses_39 {E : EE} {R : Int → Mem → Prop} (C : Cx shM 4 cX8_refuses RX8 0 0 E) (X : Rx shM (some .int) R E) (t0 : Int) (M : Mem) (hf : fMd_refuses_39  R t0 M) : AW shM 4 E 39 [none, none, none, none] [.inl t0, .inr 0] M := by
  refine a_putI C (kz := 16) fp_X8_135 rfl rfl rfl dX8_refuses_39 ?_
  refine a_bipush C dX8_refuses_42 bp_m2 ?_
  exact a_iret C X dX8_refuses_44 hf
set_option maxRecDepth 20000 in
set_option maxHeartbeats 4000000 in
theorem cMd_refuses (x1 x2 x3 : Int) : Snd shM yX8_refuses cX8_refuses 4 (some .int) 0 0 [.inr 0, .inl x1, .inl x2, .inl x3] (fMd_refuses x1 x2 x3) := by
  refine Snd.of RX8 (by decide +kernel) rfl (Nat.le_of_ble_eq_true rfl) ?_
  intro E M R hf C X
  show AW shM 4 E 0 [some (.inr 0), some (.inl x1), some (.inl x2), some (.inl x3)] [] M
  refine a_aloadn C dX8_refuses_0 rfl ?_
  refine a_getR C 11 fl_X8_40 rfl rfl dX8_refuses_1 ?_
  refine a_iconst C dX8_refuses_4 (inr_b rfl) ?_
  refine a_iloadn C dX8_refuses_5 rfl ?_
  refine a_iast C (n := 3) rfl (inb_b rfl) dX8_refuses_6 ?_
  refine a_aloadn C dX8_refuses_7 rfl ?_
  refine a_getR C 11 fl_X8_40 rfl rfl dX8_refuses_8 ?_
  refine a_iconst C dX8_refuses_11 (inr_b rfl) ?_
  refine a_iloadn C dX8_refuses_12 rfl ?_
  refine a_iast C (n := 3) rfl (inb_b rfl) dX8_refuses_13 ?_
  refine a_aloadn C dX8_refuses_14 rfl ?_
  refine a_getR C 11 fl_X8_40 rfl rfl dX8_refuses_15 ?_
  refine a_iconst C dX8_refuses_18 (inr_b rfl) ?_
  refine a_iloadn C dX8_refuses_19 rfl ?_
  refine a_iast C (n := 3) rfl (inb_b rfl) dX8_refuses_20 ?_
  refine a_aloadn C dX8_refuses_21 rfl ?_
  refine a_iloadn C dX8_refuses_22 rfl ?_
  obtain ⟨hfa, hfb⟩ := hf
  refine a_if_ne C 30 dX8_refuses_23 rfl (fun hc => ?_) (fun hc => ?_)
  · have hf := hfa hc
    refine a_iloadn C dX8_refuses_30 rfl ?_
    obtain ⟨hfa, hfb⟩ := hf
    refine a_if_ne C 38 dX8_refuses_31 rfl (fun hc => ?_) (fun hc => ?_)
    · have hf := hfa hc
      refine a_iconst C dX8_refuses_38 (inr_b rfl) ?_
      refine a_drop [false, false, false, false] (lv2 := [none, none, none, none]) rfl ?_
      exact sMd_refuses_39 C X  _ _ hf
    · have hf := hfb hc
      refine a_iconst C dX8_refuses_34 (inr_b rfl) ?_
      refine a_goto C 39 dX8_refuses_35 rfl ?_
      refine a_drop [false, false, false, false] (lv2 := [none, none, none, none]) rfl ?_
      exact sMd_refuses_39 C X  _ _ hf
  · have hf := hfb hc
    refine a_iconst C dX8_refuses_26 (inr_b rfl) ?_
    refine a_goto C 39 dX8_refuses_27 rfl ?_
    refine a_drop [false, false, false, false] (lv2 := [none, none, none, none]) rfl ?_
    exact sMd_refuses_39 C X  _ _ hf
set_option maxRecDepth 20000 in
set_option maxHeartbeats 4000000 in
theorem cMd_takes (x0 : Int) : Snd shM yX8_takes cX8_takes 1 (some .int) 0 0 [.inl x0] (fMd_takes x0) := by
  refine Snd.of RX8 (by decide +kernel) rfl (Nat.le_of_ble_eq_true rfl) ?_
  intro E M R hf C X
  show AW shM 1 E 0 [some (.inl x0)] [] M
  refine a_iloadn C dX8_takes_0 rfl ?_
  obtain ⟨hf106, hf104, hf108, hfd⟩ := hf
  by_cases hc98 : x0 = 98
  · have hc := hc98
    refine a_tsIn C 106 98 hc dX8_takes_1 ⟨by decide, by decide, rfl, rfl⟩ ?_
    have hf := hf106 (Or.inl hc)
    refine a_iconst C dX8_takes_106 (inr_b rfl) ?_
    exact a_iret C X dX8_takes_107 hf
  by_cases hc99 : x0 = 99
  · have hc := hc99
    refine a_tsIn C 110 99 hc dX8_takes_1 ⟨by decide, by decide, rfl, rfl⟩ ?_
    have hf := hfd (Or.inr (Or.inr (Or.inl hc)))
    refine a_iconst C dX8_takes_110 (inr_b rfl) ?_
    exact a_iret C X dX8_takes_111 hf
  by_cases hc100 : x0 = 100
  · have hc := hc100
    refine a_tsIn C 106 100 hc dX8_takes_1 ⟨by decide, by decide, rfl, rfl⟩ ?_
    have hf := hf106 (Or.inr (Or.inl hc))
    refine a_iconst C dX8_takes_106 (inr_b rfl) ?_
    exact a_iret C X dX8_takes_107 hf
  by_cases hc101 : x0 = 101
  · have hc := hc101
    refine a_tsIn C 110 101 hc dX8_takes_1 ⟨by decide, by decide, rfl, rfl⟩ ?_
    have hf := hfd (Or.inr (Or.inr (Or.inr (Or.inl hc))))
    refine a_iconst C dX8_takes_110 (inr_b rfl) ?_
    exact a_iret C X dX8_takes_111 hf
  by_cases hc102 : x0 = 102
  · have hc := hc102
    refine a_tsIn C 110 102 hc dX8_takes_1 ⟨by decide, by decide, rfl, rfl⟩ ?_
    have hf := hfd (Or.inr (Or.inr (Or.inr (Or.inr (Or.inl hc)))))
    refine a_iconst C dX8_takes_110 (inr_b rfl) ?_
    exact a_iret C X dX8_takes_111 hf
  by_cases hc103 : x0 = 103
  · have hc := hc103
    refine a_tsIn C 104 103 hc dX8_takes_1 ⟨by decide, by decide, rfl, rfl⟩ ?_
    have hf := hf104 (Or.inl hc)
    refine a_iconst C dX8_takes_104 (inr_b rfl) ?_
    exact a_iret C X dX8_takes_105 hf
  by_cases hc104 : x0 = 104
  · have hc := hc104
    refine a_tsIn C 104 104 hc dX8_takes_1 ⟨by decide, by decide, rfl, rfl⟩ ?_
    have hf := hf104 (Or.inr (Or.inl hc))
    refine a_iconst C dX8_takes_104 (inr_b rfl) ?_
    exact a_iret C X dX8_takes_105 hf
  by_cases hc105 : x0 = 105
  · have hc := hc105
    refine a_tsIn C 110 105 hc dX8_takes_1 ⟨by decide, by decide, rfl, rfl⟩ ?_
    have hf := hfd (Or.inr (Or.inr (Or.inr (Or.inr (Or.inr (Or.inl hc))))))
    refine a_iconst C dX8_takes_110 (inr_b rfl) ?_
    exact a_iret C X dX8_takes_111 hf
  by_cases hc106 : x0 = 106
  · have hc := hc106
    refine a_tsIn C 104 106 hc dX8_takes_1 ⟨by decide, by decide, rfl, rfl⟩ ?_
    have hf := hf104 (Or.inr (Or.inr (Or.inl hc)))
    refine a_iconst C dX8_takes_104 (inr_b rfl) ?_
    exact a_iret C X dX8_takes_105 hf
  by_cases hc107 : x0 = 107
  · have hc := hc107
    refine a_tsIn C 110 107 hc dX8_takes_1 ⟨by decide, by decide, rfl, rfl⟩ ?_
    have hf := hfd (Or.inr (Or.inr (Or.inr (Or.inr (Or.inr (Or.inr (Or.inl hc)))))))
    refine a_iconst C dX8_takes_110 (inr_b rfl) ?_
    exact a_iret C X dX8_takes_111 hf
  by_cases hc108 : x0 = 108
  · have hc := hc108
    refine a_tsIn C 110 108 hc dX8_takes_1 ⟨by decide, by decide, rfl, rfl⟩ ?_
    have hf := hfd (Or.inr (Or.inr (Or.inr (Or.inr (Or.inr (Or.inr (Or.inr (Or.inl hc))))))))
    refine a_iconst C dX8_takes_110 (inr_b rfl) ?_
    exact a_iret C X dX8_takes_111 hf
  by_cases hc109 : x0 = 109
  · have hc := hc109
    refine a_tsIn C 110 109 hc dX8_takes_1 ⟨by decide, by decide, rfl, rfl⟩ ?_
    have hf := hfd (Or.inr (Or.inr (Or.inr (Or.inr (Or.inr (Or.inr (Or.inr (Or.inr (Or.inl hc)))))))))
    refine a_iconst C dX8_takes_110 (inr_b rfl) ?_
    exact a_iret C X dX8_takes_111 hf
  by_cases hc110 : x0 = 110
  · have hc := hc110
    refine a_tsIn C 104 110 hc dX8_takes_1 ⟨by decide, by decide, rfl, rfl⟩ ?_
    have hf := hf104 (Or.inr (Or.inr (Or.inr hc)))
    refine a_iconst C dX8_takes_104 (inr_b rfl) ?_
    exact a_iret C X dX8_takes_105 hf
  by_cases hc111 : x0 = 111
  · have hc := hc111
    refine a_tsIn C 110 111 hc dX8_takes_1 ⟨by decide, by decide, rfl, rfl⟩ ?_
    have hf := hfd (Or.inr (Or.inr (Or.inr (Or.inr (Or.inr (Or.inr (Or.inr (Or.inr (Or.inr (Or.inl hc))))))))))
    refine a_iconst C dX8_takes_110 (inr_b rfl) ?_
    exact a_iret C X dX8_takes_111 hf
  by_cases hc112 : x0 = 112
  · have hc := hc112
    refine a_tsIn C 106 112 hc dX8_takes_1 ⟨by decide, by decide, rfl, rfl⟩ ?_
    have hf := hf106 (Or.inr (Or.inr (Or.inl hc)))
    refine a_iconst C dX8_takes_106 (inr_b rfl) ?_
    exact a_iret C X dX8_takes_107 hf
  by_cases hc113 : x0 = 113
  · have hc := hc113
    refine a_tsIn C 110 113 hc dX8_takes_1 ⟨by decide, by decide, rfl, rfl⟩ ?_
    have hf := hfd (Or.inr (Or.inr (Or.inr (Or.inr (Or.inr (Or.inr (Or.inr (Or.inr (Or.inr (Or.inr (Or.inl hc)))))))))))
    refine a_iconst C dX8_takes_110 (inr_b rfl) ?_
    exact a_iret C X dX8_takes_111 hf
  by_cases hc114 : x0 = 114
  · have hc := hc114
    refine a_tsIn C 108 114 hc dX8_takes_1 ⟨by decide, by decide, rfl, rfl⟩ ?_
    have hf := hf108 (hc)
    refine a_iconst C dX8_takes_108 (inr_b rfl) ?_
    exact a_iret C X dX8_takes_109 hf
  by_cases hc115 : x0 = 115
  · have hc := hc115
    refine a_tsIn C 106 115 hc dX8_takes_1 ⟨by decide, by decide, rfl, rfl⟩ ?_
    have hf := hf106 (Or.inr (Or.inr (Or.inr (Or.inl hc))))
    refine a_iconst C dX8_takes_106 (inr_b rfl) ?_
    exact a_iret C X dX8_takes_107 hf
  by_cases hc116 : x0 = 116
  · have hc := hc116
    refine a_tsIn C 110 116 hc dX8_takes_1 ⟨by decide, by decide, rfl, rfl⟩ ?_
    have hf := hfd (Or.inr (Or.inr (Or.inr (Or.inr (Or.inr (Or.inr (Or.inr (Or.inr (Or.inr (Or.inr (Or.inr (Or.inl hc))))))))))))
    refine a_iconst C dX8_takes_110 (inr_b rfl) ?_
    exact a_iret C X dX8_takes_111 hf
  by_cases hc117 : x0 = 117
  · have hc := hc117
    refine a_tsIn C 110 117 hc dX8_takes_1 ⟨by decide, by decide, rfl, rfl⟩ ?_
    have hf := hfd (Or.inr (Or.inr (Or.inr (Or.inr (Or.inr (Or.inr (Or.inr (Or.inr (Or.inr (Or.inr (Or.inr (Or.inr (Or.inl hc)))))))))))))
    refine a_iconst C dX8_takes_110 (inr_b rfl) ?_
    exact a_iret C X dX8_takes_111 hf
  by_cases hc118 : x0 = 118
  · have hc := hc118
    refine a_tsIn C 110 118 hc dX8_takes_1 ⟨by decide, by decide, rfl, rfl⟩ ?_
    have hf := hfd (Or.inr (Or.inr (Or.inr (Or.inr (Or.inr (Or.inr (Or.inr (Or.inr (Or.inr (Or.inr (Or.inr (Or.inr (Or.inr hc)))))))))))))
    refine a_iconst C dX8_takes_110 (inr_b rfl) ?_
    exact a_iret C X dX8_takes_111 hf
  by_cases hc119 : x0 = 119
  · have hc := hc119
    refine a_tsIn C 106 119 hc dX8_takes_1 ⟨by decide, by decide, rfl, rfl⟩ ?_
    have hf := hf106 (Or.inr (Or.inr (Or.inr (Or.inr hc))))
    refine a_iconst C dX8_takes_106 (inr_b rfl) ?_
    exact a_iret C X dX8_takes_107 hf
  have hco : x0 < 98 ∨ 119 < x0 := by omega
  refine a_tsOut C 110 dX8_takes_1 hco rfl ?_
  have hf := hfd (by omega)
  refine a_iconst C dX8_takes_110 (inr_b rfl) ?_
  exact a_iret C X dX8_takes_111 hf
set_option maxRecDepth 20000 in
set_option maxHeartbeats 4000000 in
theorem cMd_comes (x0 : Int) : Snd shM yX8_comes cX8_comes 1 (some .int) 0 0 [.inl x0] (fMd_comes x0) := by
  refine Snd.of RX8 (by decide +kernel) rfl (Nat.le_of_ble_eq_true rfl) ?_
  intro E M R hf C X
  show AW shM 1 E 0 [some (.inl x0)] [] M
  refine a_iloadn C dX8_comes_0 rfl ?_
  obtain ⟨hf88, hf84, hf86, hfd⟩ := hf
  by_cases hc42 : x0 = 42
  · refine a_lk C 88 dX8_comes_1 (by decide +kernel) (by rw [hc42] <;> rfl) rfl ?_
    have hf := hf88 (Or.inl hc42)
    refine a_iconst C dX8_comes_88 (inr_b rfl) ?_
    exact a_iret C X dX8_comes_89 hf
  by_cases hc43 : x0 = 43
  · refine a_lk C 88 dX8_comes_1 (by decide +kernel) (by rw [hc43] <;> rfl) rfl ?_
    have hf := hf88 (Or.inr (Or.inl hc43))
    refine a_iconst C dX8_comes_88 (inr_b rfl) ?_
    exact a_iret C X dX8_comes_89 hf
  by_cases hc45 : x0 = 45
  · refine a_lk C 88 dX8_comes_1 (by decide +kernel) (by rw [hc45] <;> rfl) rfl ?_
    have hf := hf88 (Or.inr (Or.inr (Or.inl hc45)))
    refine a_iconst C dX8_comes_88 (inr_b rfl) ?_
    exact a_iret C X dX8_comes_89 hf
  by_cases hc100 : x0 = 100
  · refine a_lk C 84 dX8_comes_1 (by decide +kernel) (by rw [hc100] <;> rfl) rfl ?_
    have hf := hf84 (Or.inl hc100)
    refine a_iconst C dX8_comes_84 (inr_b rfl) ?_
    exact a_iret C X dX8_comes_85 hf
  by_cases hc103 : x0 = 103
  · refine a_lk C 88 dX8_comes_1 (by decide +kernel) (by rw [hc103] <;> rfl) rfl ?_
    have hf := hf88 (Or.inr (Or.inr (Or.inr (Or.inl hc103))))
    refine a_iconst C dX8_comes_88 (inr_b rfl) ?_
    exact a_iret C X dX8_comes_89 hf
  by_cases hc110 : x0 = 110
  · refine a_lk C 88 dX8_comes_1 (by decide +kernel) (by rw [hc110] <;> rfl) rfl ?_
    have hf := hf88 (Or.inr (Or.inr (Or.inr (Or.inr hc110))))
    refine a_iconst C dX8_comes_88 (inr_b rfl) ?_
    exact a_iret C X dX8_comes_89 hf
  by_cases hc111 : x0 = 111
  · refine a_lk C 86 dX8_comes_1 (by decide +kernel) (by rw [hc111] <;> rfl) rfl ?_
    have hf := hf86 (Or.inl hc111)
    refine a_iconst C dX8_comes_86 (inr_b rfl) ?_
    exact a_iret C X dX8_comes_87 hf
  by_cases hc114 : x0 = 114
  · refine a_lk C 86 dX8_comes_1 (by decide +kernel) (by rw [hc114] <;> rfl) rfl ?_
    have hf := hf86 (Or.inr hc114)
    refine a_iconst C dX8_comes_86 (inr_b rfl) ?_
    exact a_iret C X dX8_comes_87 hf
  by_cases hc120 : x0 = 120
  · refine a_lk C 84 dX8_comes_1 (by decide +kernel) (by rw [hc120] <;> rfl) rfl ?_
    have hf := hf84 (Or.inr hc120)
    refine a_iconst C dX8_comes_84 (inr_b rfl) ?_
    exact a_iret C X dX8_comes_85 hf
  refine a_lk C 90 dX8_comes_1 (by decide +kernel) (by simp [Op.lookupswitch.offset, hc42, Ne.symm hc42, hc43, Ne.symm hc43, hc45, Ne.symm hc45, hc100, Ne.symm hc100, hc103, Ne.symm hc103, hc110, Ne.symm hc110, hc111, Ne.symm hc111, hc114, Ne.symm hc114, hc120, Ne.symm hc120] <;> rfl) rfl ?_
  have hf := hfd ⟨hc42, hc43, hc45, hc100, hc103, hc110, hc111, hc114, hc120⟩
  refine a_iconst C dX8_comes_90 (inr_b rfl) ?_
  exact a_iret C X dX8_comes_91 hf
set_option maxRecDepth 20000 in
set_option maxHeartbeats 4000000 in
theorem sMd_isJump_12 {E : EE} {R : Int → Mem → Prop} (C : Cx shM 1 cX8_isJump RX8 0 0 E) (X : Rx shM (some .boolean) R E) (M : Mem) (hf : fMd_isJump_12  R M) : AW shM 1 E 12 [none] [] M := by
  refine a_iconst C dX8_isJump_12 (inr_b rfl) ?_
  refine a_goto C 17 dX8_isJump_13 rfl ?_
  exact a_bret C X (Or.inr rfl) dX8_isJump_17 hf
set_option maxRecDepth 20000 in
set_option maxHeartbeats 4000000 in
theorem cMd_isJump (x0 : Int) : Snd shM yX8_isJump cX8_isJump 1 (some .boolean) 0 0 [.inl x0] (fMd_isJump x0) := by
  refine Snd.of RX8 (by decide +kernel) rfl (Nat.le_of_ble_eq_true rfl) ?_
  intro E M R hf C X
  show AW shM 1 E 0 [some (.inl x0)] [] M
  refine a_iloadn C dX8_isJump_0 rfl ?_
  refine a_bipush C dX8_isJump_1 bp_106 ?_
  obtain ⟨hfa, hfb⟩ := hf
  refine a_icmp_eq C 12 dX8_isJump_3 rfl (fun hc => ?_) (fun hc => ?_)
  · have hf := hfa hc
    refine a_drop [false] (lv2 := [none]) rfl ?_
    exact sMd_isJump_12 C X   _ hf
  · have hf := hfb hc
    refine a_iloadn C dX8_isJump_6 rfl ?_
    refine a_bipush C dX8_isJump_7 bp_98 ?_
    obtain ⟨hfa, hfb⟩ := hf
    refine a_icmp_ne C 16 dX8_isJump_9 rfl (fun hc => ?_) (fun hc => ?_)
    · have hf := hfa hc
      refine a_iconst C dX8_isJump_16 (inr_b rfl) ?_
      exact a_bret C X (Or.inl rfl) dX8_isJump_17 hf
    · have hf := hfb hc
      refine a_drop [false] (lv2 := [none]) rfl ?_
      exact sMd_isJump_12 C X   _ hf
set_option maxRecDepth 20000 in
set_option maxHeartbeats 4000000 in
theorem sMd_goesOn_r_47 {E : EE} {R : Int → Mem → Prop} (C : Cx shM 5 cX8_goesOn RX8 1 20 E) (X : Rx shM (some .int) R E) (M : Mem) (hf : fMd_goesOn_r_47  R M) : AW shM 5 E 47 [none, none, none, none, none] [] M := by
  refine a_bipush C dX8_goesOn_47 bp_m4 ?_
  refine a_goto C 55 dX8_goesOn_49 rfl ?_
  exact a_iret C X dX8_goesOn_55 hf
set_option maxRecDepth 20000 in
set_option maxHeartbeats 4000000 in
theorem cMd_goesOn_r (x2 x3 x4 : Int) : Snd shM yX8_goesOn cX8_goesOn 5 (some .int) 1 20 [.inr 8, .inr 9, .inl x2, .inl x3, .inl x4] (fMd_goesOn_r x2 x3 x4) := by
  refine Snd.of RX8 (by decide +kernel) rfl (Nat.le_of_ble_eq_true rfl) ?_
  intro E M R hf C X
  show AW shM 5 E 0 [some (.inr 8), some (.inr 9), some (.inl x2), some (.inl x3), some (.inl x4)] [] M
  refine a_iloadn C dX8_goesOn_0 rfl ?_
  refine a_iconst C dX8_goesOn_1 (inr_b rfl) ?_
  obtain ⟨hfa, hfb⟩ := hf
  refine a_icmp_ne C 23 dX8_goesOn_2 rfl (fun hc => ?_) (fun hc => ?_)
  · have hf := hfa hc
    refine a_aloadn C dX8_goesOn_23 rfl ?_
    refine a_iloadn C dX8_goesOn_24 rfl ?_
    obtain ⟨hg, hf⟩ := hf
    refine a_iald C (n := 24) rfl hg dX8_goesOn_25 ?_
    refine a_bipush C dX8_goesOn_26 bp_106 ?_
    obtain ⟨hfa, hfb⟩ := hf
    refine a_icmp_eq C 47 dX8_goesOn_28 rfl (fun hc => ?_) (fun hc => ?_)
    · have hf := hfa hc
      refine a_drop [false, false, false, false, false] (lv2 := [none, none, none, none, none]) rfl ?_
      exact sMd_goesOn_r_47 C X   _ hf
    · have hf := hfb hc
      refine a_aloadn C dX8_goesOn_31 rfl ?_
      refine a_iloadn C dX8_goesOn_32 rfl ?_
      obtain ⟨hg, hf⟩ := hf
      refine a_iald C (n := 24) rfl hg dX8_goesOn_33 ?_
      refine a_bipush C dX8_goesOn_34 bp_104 ?_
      obtain ⟨hfa, hfb⟩ := hf
      refine a_icmp_eq C 47 dX8_goesOn_36 rfl (fun hc => ?_) (fun hc => ?_)
      · have hf := hfa hc
        refine a_drop [false, false, false, false, false] (lv2 := [none, none, none, none, none]) rfl ?_
        exact sMd_goesOn_r_47 C X   _ hf
      · have hf := hfb hc
        refine a_iloadn C dX8_goesOn_39 rfl ?_
        refine a_iconst C dX8_goesOn_40 (inr_b rfl) ?_
        refine a_iadd C dX8_goesOn_41 ?_
        refine a_iload C dX8_goesOn_42 rfl ?_
        obtain ⟨hfa, hfb⟩ := hf
        refine a_icmp_ne C 52 dX8_goesOn_44 rfl (fun hc => ?_) (fun hc => ?_)
        · have hf := hfa hc
          refine a_iloadn C dX8_goesOn_52 rfl ?_
          refine a_iconst C dX8_goesOn_53 (inr_b rfl) ?_
          refine a_iadd C dX8_goesOn_54 ?_
          exact a_iret C X dX8_goesOn_55 hf
        · have hf := hfb hc
          refine a_drop [false, false, false, false, false] (lv2 := [none, none, none, none, none]) rfl ?_
          exact sMd_goesOn_r_47 C X   _ hf
  · have hf := hfb hc
    refine a_aloadn C dX8_goesOn_5 rfl ?_
    refine a_iloadn C dX8_goesOn_6 rfl ?_
    obtain ⟨hg, hf⟩ := hf
    refine a_iald C (n := 24) rfl hg dX8_goesOn_7 ?_
    refine a_callS C [.inl (M 8 x2)] [] dX8_goesOn_8 (cMd_isJump _) ms_X8_isJump ln_X8_146 ⟨rfl, rfl, Nat.le_of_ble_eq_true rfl, Nat.le_of_ble_eq_true rfl, Nat.le_of_ble_eq_true rfl⟩ hf (fun r1 M1 hf => ?_)
    obtain ⟨hfa, hfb⟩ := hf
    refine a_if_eq C 20 dX8_goesOn_11 rfl (fun hc => ?_) (fun hc => ?_)
    · have hf := hfa hc
      refine a_bipush C dX8_goesOn_20 bp_m4 ?_
      exact a_iret C X dX8_goesOn_22 hf
    · have hf := hfb hc
      refine a_aloadn C dX8_goesOn_14 rfl ?_
      refine a_iloadn C dX8_goesOn_15 rfl ?_
      obtain ⟨hg, hf⟩ := hf
      refine a_iald C (n := 24) rfl hg dX8_goesOn_16 ?_
      refine a_goto C 22 dX8_goesOn_17 rfl ?_
      exact a_iret C X dX8_goesOn_22 hf
set_option maxRecDepth 20000 in
set_option maxHeartbeats 4000000 in
theorem sMd_takesOne_58 {E : EE} {R : Int → Mem → Prop} (C : Cx shM 5 cX8_takesOne RX8 2 44 E) (X : Rx shM (some .boolean) R E) (x1 : Int) (M : Mem) (hf : fMd_takesOne_58  R x1 M) : AW shM 5 E 58 [some (.inr 0), some (.inl x1), none, none, none] [] M := by
  have hf : fMd_refuses 3 22 (wrap (30 + x1)) M (fun r4 M4 => R 0 M4) := hf
  refine a_aloadn C dX8_takesOne_58 rfl ?_
  refine a_iconst C dX8_takesOne_59 (inr_b rfl) ?_
  refine a_bipush C dX8_takesOne_60 bp_22 ?_
  refine a_bipush C dX8_takesOne_62 bp_30 ?_
  refine a_iloadn C dX8_takesOne_64 rfl ?_
  refine a_iadd C dX8_takesOne_65 ?_
  refine a_callV C [.inl 3, .inl 22, .inl (wrap (30 + x1))] [] dX8_takesOne_66 (cMd_refuses _ _ _) mv_X8_refuses ln_X8_142 rfl rfl ⟨rfl, rfl, Nat.le_of_ble_eq_true rfl, Nat.le_of_ble_eq_true rfl, Nat.le_of_ble_eq_true rfl⟩ hf (fun r4 M4 hf => ?_)
  refine a_pop C dX8_takesOne_69 ?_
  refine a_iconst C dX8_takesOne_70 (inr_b rfl) ?_
  exact a_bret C X (Or.inl rfl) dX8_takesOne_71 hf
set_option maxRecDepth 20000 in
set_option maxHeartbeats 4000000 in
theorem sMd_takesOne_181 {E : EE} {R : Int → Mem → Prop} (C : Cx shM 5 cX8_takesOne RX8 2 44 E) (X : Rx shM (some .boolean) R E) {k74 : Int → Int → Int → Mem → Prop} (hk74 : ∀ (x1 : Int) (x2 : Int) (x3 : Int) (M : Mem), k74 x1 x2 x3 M → AW shM 5 E 74 [some (.inr 0), some (.inl x1), some (.inl x2), some (.inl x3), none] [] M) (x1 : Int) (x2 : Int) (x3 : Int) (M : Mem) (hf : fMd_takesOne_181 k74 R x1 x2 x3 M) : AW shM 5 E 181 [some (.inr 0), some (.inl x1), some (.inl x2), some (.inl x3), none] [] M := by
  refine a_iinc C dX8_takesOne_181 rfl (by decide) (lv2 := [some (.inr 0), some (.inl x1), some (.inl x2), some (.inl (wrap (x3 + 1))), none]) rfl ?_
  refine a_goto C 74 dX8_takesOne_184 rfl ?_
  exact hk74 _ _ _ _ hf
set_option maxRecDepth 20000 in
set_option maxHeartbeats 4000000 in
theorem sMd_takesOne_180 {E : EE} {R : Int → Mem → Prop} (C : Cx shM 5 cX8_takesOne RX8 2 44 E) (X : Rx shM (some .boolean) R E) {k74 : Int → Int → Int → Mem → Prop} (hk74 : ∀ (x1 : Int) (x2 : Int) (x3 : Int) (M : Mem), k74 x1 x2 x3 M → AW shM 5 E 74 [some (.inr 0), some (.inl x1), some (.inl x2), some (.inl x3), none] [] M) (x1 : Int) (x2 : Int) (x3 : Int) (t0 : Int) (t1 : Int) (M : Mem) (hf : fMd_takesOne_180 k74 R x1 x2 x3 t0 t1 M) : AW shM 5 E 180 [some (.inr 0), some (.inl x1), some (.inl x2), some (.inl x3), none] [.inl t0, .inl t1, .inr 14] M := by
  obtain ⟨hg, hf⟩ := hf
  refine a_iast C (n := 24) rfl hg dX8_takesOne_180 ?_
  exact sMd_takesOne_181 C X hk74 _ _ _ _ hf
set_option maxRecDepth 20000 in
set_option maxHeartbeats 4000000 in
theorem sMd_takesOne_143 {E : EE} {R : Int → Mem → Prop} (C : Cx shM 5 cX8_takesOne RX8 2 44 E) (X : Rx shM (some .boolean) R E) {k74 : Int → Int → Int → Mem → Prop} (hk74 : ∀ (x1 : Int) (x2 : Int) (x3 : Int) (M : Mem), k74 x1 x2 x3 M → AW shM 5 E 74 [some (.inr 0), some (.inl x1), some (.inl x2), some (.inl x3), none] [] M) (x1 : Int) (x2 : Int) (x3 : Int) (x4 : Int) (M : Mem) (hf : fMd_takesOne_143 k74 R x1 x2 x3 x4 M) : AW shM 5 E 143 [some (.inr 0), some (.inl x1), some (.inl x2), some (.inl x3), some (.inl x4)] [] M := by
  refine a_iload C dX8_takesOne_143 rfl ?_
  refine a_bipush C dX8_takesOne_145 bp_m4 ?_
  obtain ⟨hfa, hfb⟩ := hf
  refine a_icmp_eq C 181 dX8_takesOne_147 rfl (fun hc => ?_) (fun hc => ?_)
  · have hf := hfa hc
    refine a_drop [true, true, true, true, false] (lv2 := [some (.inr 0), some (.inl x1), some (.inl x2), some (.inl x3), none]) rfl ?_
    exact sMd_takesOne_181 C X hk74 _ _ _ _ hf
  · have hf := hfb hc
    refine a_aloadn C dX8_takesOne_150 rfl ?_
    refine a_getR C 12 fl_X8_43 rfl rfl dX8_takesOne_151 ?_
    refine a_iload C dX8_takesOne_154 rfl ?_
    refine a_iloadn C dX8_takesOne_156 rfl ?_
    obtain ⟨hg, hf⟩ := hf
    refine a_iast C (n := 24) rfl hg dX8_takesOne_157 ?_
    refine a_aloadn C dX8_takesOne_158 rfl ?_
    refine a_getR C 14 fl_X8_49 rfl rfl dX8_takesOne_159 ?_
    refine a_iload C dX8_takesOne_162 rfl ?_
    refine a_iloadn C dX8_takesOne_164 rfl ?_
    refine a_iconst C dX8_takesOne_165 (inr_b rfl) ?_
    obtain ⟨hfa, hfb⟩ := hf
    refine a_icmp_ne C 173 dX8_takesOne_166 rfl (fun hc => ?_) (fun hc => ?_)
    · have hf := hfa hc
      refine a_aloadn C dX8_takesOne_173 rfl ?_
      refine a_getR C 14 fl_X8_49 rfl rfl dX8_takesOne_174 ?_
      refine a_iload C dX8_takesOne_177 rfl ?_
      obtain ⟨hg, hf⟩ := hf
      refine a_iald C (n := 24) rfl hg dX8_takesOne_179 ?_
      refine a_drop [true, true, true, true, false] (lv2 := [some (.inr 0), some (.inl x1), some (.inl x2), some (.inl x3), none]) rfl ?_
      exact sMd_takesOne_180 C X hk74 _ _ _ _ _ _ hf
    · have hf := hfb hc
      refine a_iconst C dX8_takesOne_169 (inr_b rfl) ?_
      refine a_goto C 180 dX8_takesOne_170 rfl ?_
      refine a_drop [true, true, true, true, false] (lv2 := [some (.inr 0), some (.inl x1), some (.inl x2), some (.inl x3), none]) rfl ?_
      exact sMd_takesOne_180 C X hk74 _ _ _ _ _ _ hf
set_option maxRecDepth 20000 in
set_option maxHeartbeats 4000000 in
theorem sMd_takesOne_74 {E : EE} {R : Int → Mem → Prop} (C : Cx shM 5 cX8_takesOne RX8 2 44 E) (X : Rx shM (some .boolean) R E) : ∀ (n : Nat) (x1 : Int) (x2 : Int) (x3 : Int) (M : Mem), fMd_takesOne_74  R n x1 x2 x3 M → AW shM 5 E 74 [some (.inr 0), some (.inl x1), some (.inl x2), some (.inl x3), none] [] M := by
  intro n
  induction n with
  | zero => intro x1 x2 x3 M hf; exact hf.elim
  | succ n hk74 =>
    intro x1 x2 x3 M hf
    refine a_iloadn C dX8_takesOne_74 rfl ?_
    refine a_iconst C dX8_takesOne_75 (inr_b rfl) ?_
    obtain ⟨hfa, hfb⟩ := hf
    refine a_icmp_ge C 187 dX8_takesOne_76 rfl (fun hc => ?_) (fun hc => ?_)
    · have hf := hfa hc
      refine a_iconst C dX8_takesOne_187 (inr_b rfl) ?_
      exact a_bret C X (Or.inr rfl) dX8_takesOne_188 hf
    · have hf := hfb hc
      refine a_aloadn C dX8_takesOne_79 rfl ?_
      refine a_getR C 8 fl_X8_31 rfl rfl dX8_takesOne_80 ?_
      refine a_aloadn C dX8_takesOne_83 rfl ?_
      refine a_getR C 9 fl_X8_34 rfl rfl dX8_takesOne_84 ?_
      refine a_iloadn C dX8_takesOne_87 rfl ?_
      refine a_iloadn C dX8_takesOne_88 rfl ?_
      refine a_aloadn C dX8_takesOne_89 rfl ?_
      refine a_getI C (kz := 10) fl_X8_108 rfl rfl rfl dX8_takesOne_90 ?_
      refine a_callS C [.inr 8, .inr 9, .inl x1, .inl x3, .inl (M 0 10)] [] dX8_takesOne_93 (cMd_goesOn_r _ _ _) ms_X8_goesOn ln_X8_158 ⟨rfl, rfl, Nat.le_of_ble_eq_true rfl, Nat.le_of_ble_eq_true rfl, Nat.le_of_ble_eq_true rfl⟩ hf (fun r5 M5 hf => ?_)
      refine a_istore C dX8_takesOne_96 (by decide) (lv2 := [some (.inr 0), some (.inl x1), some (.inl x2), some (.inl x3), some (.inl r5)]) rfl ?_
      refine a_iload C dX8_takesOne_98 rfl ?_
      refine a_bipush C dX8_takesOne_100 bp_m4 ?_
      obtain ⟨hfa, hfb⟩ := hf
      refine a_icmp_eq C 143 dX8_takesOne_102 rfl (fun hc => ?_) (fun hc => ?_)
      · have hf := hfa hc
        exact sMd_takesOne_143 C X hk74 _ _ _ _ _ hf
      · have hf := hfb hc
        refine a_aloadn C dX8_takesOne_105 rfl ?_
        refine a_getR C 12 fl_X8_43 rfl rfl dX8_takesOne_106 ?_
        refine a_iload C dX8_takesOne_109 rfl ?_
        obtain ⟨hg, hf⟩ := hf
        refine a_iald C (n := 24) rfl hg dX8_takesOne_111 ?_
        refine a_bipush C dX8_takesOne_112 bp_m4 ?_
        obtain ⟨hfa, hfb⟩ := hf
        refine a_icmp_eq C 143 dX8_takesOne_114 rfl (fun hc => ?_) (fun hc => ?_)
        · have hf := hfa hc
          exact sMd_takesOne_143 C X hk74 _ _ _ _ _ hf
        · have hf := hfb hc
          refine a_aloadn C dX8_takesOne_117 rfl ?_
          refine a_getR C 12 fl_X8_43 rfl rfl dX8_takesOne_118 ?_
          refine a_iload C dX8_takesOne_121 rfl ?_
          obtain ⟨hg, hf⟩ := hf
          refine a_iald C (n := 24) rfl hg dX8_takesOne_123 ?_
          refine a_iloadn C dX8_takesOne_124 rfl ?_
          obtain ⟨hfa, hfb⟩ := hf
          refine a_icmp_eq C 143 dX8_takesOne_125 rfl (fun hc => ?_) (fun hc => ?_)
          · have hf := hfa hc
            exact sMd_takesOne_143 C X hk74 _ _ _ _ _ hf
          · have hf := hfb hc
            refine a_aloadn C dX8_takesOne_128 rfl ?_
            refine a_iconst C dX8_takesOne_129 (inr_b rfl) ?_
            refine a_bipush C dX8_takesOne_130 bp_21 ?_
            refine a_bipush C dX8_takesOne_132 bp_30 ?_
            refine a_iload C dX8_takesOne_134 rfl ?_
            refine a_iadd C dX8_takesOne_136 ?_
            refine a_callV C [.inl 3, .inl 21, .inl (wrap (30 + r5))] [] dX8_takesOne_137 (cMd_refuses _ _ _) mv_X8_refuses ln_X8_142 rfl rfl ⟨rfl, rfl, Nat.le_of_ble_eq_true rfl, Nat.le_of_ble_eq_true rfl, Nat.le_of_ble_eq_true rfl⟩ hf (fun r6 M6 hf => ?_)
            refine a_pop C dX8_takesOne_140 ?_
            refine a_iconst C dX8_takesOne_141 (inr_b rfl) ?_
            exact a_bret C X (Or.inl rfl) dX8_takesOne_142 hf
set_option maxRecDepth 20000 in
set_option maxHeartbeats 4000000 in
theorem cMd_takesOne (x1 : Int) : Snd shM yX8_takesOne cX8_takesOne 5 (some .boolean) 2 44 [.inr 0, .inl x1] (fMd_takesOne x1) := by
  refine Snd.of RX8 (by decide +kernel) rfl (Nat.le_of_ble_eq_true rfl) ?_
  intro E M R hf C X
  show AW shM 5 E 0 [some (.inr 0), some (.inl x1), none, none, none] [] M
  refine a_aloadn C dX8_takesOne_0 rfl ?_
  refine a_getR C 13 fl_X8_46 rfl rfl dX8_takesOne_1 ?_
  refine a_iloadn C dX8_takesOne_4 rfl ?_
  refine a_iconst C dX8_takesOne_5 (inr_b rfl) ?_
  obtain ⟨hg, hf⟩ := hf
  refine a_iast C (n := 24) rfl hg dX8_takesOne_6 ?_
  refine a_aloadn C dX8_takesOne_7 rfl ?_
  refine a_getR C 12 fl_X8_43 rfl rfl dX8_takesOne_8 ?_
  refine a_iloadn C dX8_takesOne_11 rfl ?_
  obtain ⟨hg, hf⟩ := hf
  refine a_iald C (n := 24) rfl hg dX8_takesOne_12 ?_
  refine a_aloadn C dX8_takesOne_13 rfl ?_
  refine a_getR C 8 fl_X8_31 rfl rfl dX8_takesOne_14 ?_
  refine a_iloadn C dX8_takesOne_17 rfl ?_
  obtain ⟨hg, hf⟩ := hf
  refine a_iald C (n := 24) rfl hg dX8_takesOne_18 ?_
  refine a_callS C [.inl (M 8 x1)] [.inl (M 12 x1)] dX8_takesOne_19 (cMd_takes _) ms_X8_takes ln_X8_152 ⟨rfl, rfl, Nat.le_of_ble_eq_true rfl, Nat.le_of_ble_eq_true rfl, Nat.le_of_ble_eq_true rfl⟩ hf (fun r1 M1 hf => ?_)
  refine a_isub C dX8_takesOne_22 ?_
  refine a_aloadn C dX8_takesOne_23 rfl ?_
  refine a_getR C 8 fl_X8_31 rfl rfl dX8_takesOne_24 ?_
  refine a_iloadn C dX8_takesOne_27 rfl ?_
  obtain ⟨hg, hf⟩ := hf
  refine a_iald C (n := 24) rfl hg dX8_takesOne_28 ?_
  refine a_callS C [.inl (M1 8 x1)] [.inl (wrap ((M 12 x1) - r1))] dX8_takesOne_29 (cMd_comes _) ms_X8_comes ln_X8_155 ⟨rfl, rfl, Nat.le_of_ble_eq_true rfl, Nat.le_of_ble_eq_true rfl, Nat.le_of_ble_eq_true rfl⟩ hf (fun r2 M2 hf => ?_)
  refine a_iadd C dX8_takesOne_32 ?_
  refine a_istoren C dX8_takesOne_33 (by decide) (lv2 := [some (.inr 0), some (.inl x1), some (.inl (wrap ((wrap ((M 12 x1) - r1)) + r2))), none, none]) rfl ?_
  refine a_aloadn C dX8_takesOne_34 rfl ?_
  refine a_getR C 12 fl_X8_43 rfl rfl dX8_takesOne_35 ?_
  refine a_iloadn C dX8_takesOne_38 rfl ?_
  obtain ⟨hg, hf⟩ := hf
  refine a_iald C (n := 24) rfl hg dX8_takesOne_39 ?_
  refine a_aloadn C dX8_takesOne_40 rfl ?_
  refine a_getR C 8 fl_X8_31 rfl rfl dX8_takesOne_41 ?_
  refine a_iloadn C dX8_takesOne_44 rfl ?_
  obtain ⟨hg, hf⟩ := hf
  refine a_iald C (n := 24) rfl hg dX8_takesOne_45 ?_
  refine a_callS C [.inl (M2 8 x1)] [.inl (M2 12 x1)] dX8_takesOne_46 (cMd_takes _) ms_X8_takes ln_X8_152 ⟨rfl, rfl, Nat.le_of_ble_eq_true rfl, Nat.le_of_ble_eq_true rfl, Nat.le_of_ble_eq_true rfl⟩ hf (fun r3 M3 hf => ?_)
  obtain ⟨hfa, hfb⟩ := hf
  refine a_icmp_lt C 58 dX8_takesOne_49 rfl (fun hc => ?_) (fun hc => ?_)
  · have hf := hfa hc
    refine a_drop [true, true, false, true, true] (lv2 := [some (.inr 0), some (.inl x1), none, none, none]) rfl ?_
    exact sMd_takesOne_58 C X  _ _ hf
  · have hf := hfb hc
    refine a_iloadn C dX8_takesOne_52 rfl ?_
    refine a_bipush C dX8_takesOne_53 bp_12 ?_
    obtain ⟨hfa, hfb⟩ := hf
    refine a_icmp_le C 72 dX8_takesOne_55 rfl (fun hc => ?_) (fun hc => ?_)
    · have hf := hfa hc
      refine a_iconst C dX8_takesOne_72 (inr_b rfl) ?_
      refine a_istoren C dX8_takesOne_73 (by decide) (lv2 := [some (.inr 0), some (.inl x1), some (.inl (wrap ((wrap ((M 12 x1) - r1)) + r2))), some (.inl 0), none]) rfl ?_
      obtain ⟨n7, hf⟩ := hf
      exact sMd_takesOne_74 C X  n7 _ _ _ _ hf
    · have hf := hfb hc
      refine a_drop [true, true, false, true, true] (lv2 := [some (.inr 0), some (.inl x1), none, none, none]) rfl ?_
      exact sMd_takesOne_58 C X  _ _ hf
set_option maxRecDepth 20000 in
set_option maxHeartbeats 4000000 in
theorem sMd_findsDepths_138 {E : EE} {R : Int → Mem → Prop} (C : Cx shM 5 cX8_findsDepths RX8 3 68 E) (X : Rx shM (some .boolean) R E) (M : Mem) (hf : fMd_findsDepths_138  R M) : AW shM 5 E 138 [none, none, none, none, none] [] M := by
  refine a_iconst C dX8_findsDepths_138 (inr_b rfl) ?_
  exact a_bret C X (Or.inl rfl) dX8_findsDepths_139 hf
set_option maxRecDepth 20000 in
set_option maxHeartbeats 4000000 in
theorem sMd_findsDepths_125 {E : EE} {R : Int → Mem → Prop} (C : Cx shM 5 cX8_findsDepths RX8 3 68 E) (X : Rx shM (some .boolean) R E) (x1 : Int) (x3 : Int) (M : Mem) (hf : fMd_findsDepths_125  R x1 x3 M) : AW shM 5 E 125 [none, some (.inl x1), none, some (.inl x3), none] [] M := by
  refine a_iloadn C dX8_findsDepths_125 rfl ?_
  obtain ⟨hfa, hfb⟩ := hf
  refine a_if_eq C 138 dX8_findsDepths_126 rfl (fun hc => ?_) (fun hc => ?_)
  · have hf := hfa hc
    refine a_drop [true, false, true, false, true] (lv2 := [none, none, none, none, none]) rfl ?_
    exact sMd_findsDepths_138 C X   _ hf
  · have hf := hfb hc
    refine a_iloadn C dX8_findsDepths_129 rfl ?_
    refine a_iconst C dX8_findsDepths_130 (inr_b rfl) ?_
    obtain ⟨hfa, hfb⟩ := hf
    refine a_icmp_gt C 138 dX8_findsDepths_131 rfl (fun hc => ?_) (fun hc => ?_)
    · have hf := hfa hc
      refine a_drop [true, false, true, false, true] (lv2 := [none, none, none, none, none]) rfl ?_
      exact sMd_findsDepths_138 C X   _ hf
    · have hf := hfb hc
      refine a_iconst C dX8_findsDepths_134 (inr_b rfl) ?_
      refine a_goto C 139 dX8_findsDepths_135 rfl ?_
      exact a_bret C X (Or.inr rfl) dX8_findsDepths_139 hf
set_option maxRecDepth 20000 in
set_option maxHeartbeats 4000000 in
theorem sMd_findsDepths_79 {E : EE} {R : Int → Mem → Prop} (C : Cx shM 5 cX8_findsDepths RX8 3 68 E) (X : Rx shM (some .boolean) R E) : ∀ (n : Nat) (x1 : Int) (x3 : Int) (x4 : Int) (M : Mem), fMd_findsDepths_79  R n x1 x3 x4 M → AW shM 5 E 79 [some (.inr 0), some (.inl x1), none, some (.inl x3), some (.inl x4)] [] M := by
  intro n
  induction n with
  | zero => intro x1 x3 x4 M hf; exact hf.elim
  | succ n hk79 =>
    intro x1 x3 x4 M hf
    refine a_iload C dX8_findsDepths_79 rfl ?_
    refine a_aloadn C dX8_findsDepths_81 rfl ?_
    refine a_getI C (kz := 10) fl_X8_108 rfl rfl rfl dX8_findsDepths_82 ?_
    obtain ⟨hfa, hfb⟩ := hf
    refine a_icmp_ge C 104 dX8_findsDepths_85 rfl (fun hc => ?_) (fun hc => ?_)
    · have hf := hfa hc
      refine a_iloadn C dX8_findsDepths_104 rfl ?_
      obtain ⟨hfa, hfb⟩ := hf
      refine a_if_eq C 125 dX8_findsDepths_105 rfl (fun hc => ?_) (fun hc => ?_)
      · have hf := hfa hc
        refine a_drop [false, true, true, true, false] (lv2 := [none, some (.inl x1), none, some (.inl x3), none]) rfl ?_
        exact sMd_findsDepths_125 C X  _ _ _ hf
      · have hf := hfb hc
        refine a_iloadn C dX8_findsDepths_108 rfl ?_
        refine a_iconst C dX8_findsDepths_109 (inr_b rfl) ?_
        obtain ⟨hfa, hfb⟩ := hf
        refine a_icmp_le C 125 dX8_findsDepths_110 rfl (fun hc => ?_) (fun hc => ?_)
        · have hf := hfa hc
          refine a_drop [false, true, true, true, false] (lv2 := [none, some (.inl x1), none, some (.inl x3), none]) rfl ?_
          exact sMd_findsDepths_125 C X  _ _ _ hf
        · have hf := hfb hc
          refine a_aloadn C dX8_findsDepths_113 rfl ?_
          refine a_iconst C dX8_findsDepths_114 (inr_b rfl) ?_
          refine a_bipush C dX8_findsDepths_115 bp_23 ?_
          refine a_bipush C dX8_findsDepths_117 bp_30 ?_
          refine a_iloadn C dX8_findsDepths_119 rfl ?_
          refine a_iadd C dX8_findsDepths_120 ?_
          refine a_callV C [.inl 3, .inl 23, .inl (wrap (30 + x3))] [] dX8_findsDepths_121 (cMd_refuses _ _ _) mv_X8_refuses ln_X8_142 rfl rfl ⟨rfl, rfl, Nat.le_of_ble_eq_true rfl, Nat.le_of_ble_eq_true rfl, Nat.le_of_ble_eq_true rfl⟩ hf (fun r2 M2 hf => ?_)
          refine a_pop C dX8_findsDepths_124 ?_
          refine a_drop [false, true, true, true, false] (lv2 := [none, some (.inl x1), none, some (.inl x3), none]) rfl ?_
          exact sMd_findsDepths_125 C X  _ _ _ hf
    · have hf := hfb hc
      refine a_iloadn C dX8_findsDepths_88 rfl ?_
      refine a_aloadn C dX8_findsDepths_89 rfl ?_
      refine a_getR C 14 fl_X8_49 rfl rfl dX8_findsDepths_90 ?_
      refine a_iload C dX8_findsDepths_93 rfl ?_
      obtain ⟨hg, hf⟩ := hf
      refine a_iald C (n := 24) rfl hg dX8_findsDepths_95 ?_
      refine a_iadd C dX8_findsDepths_96 ?_
      refine a_istoren C dX8_findsDepths_97 (by decide) (lv2 := [some (.inr 0), some (.inl x1), none, some (.inl (wrap (x3 + (M 14 x4)))), some (.inl x4)]) rfl ?_
      refine a_iinc C dX8_findsDepths_98 rfl (by decide) (lv2 := [some (.inr 0), some (.inl x1), none, some (.inl (wrap (x3 + (M 14 x4)))), some (.inl (wrap (x4 + 1)))]) rfl ?_
      refine a_goto C 79 dX8_findsDepths_101 rfl ?_
      exact hk79 _ _ _ _ hf
set_option maxRecDepth 20000 in
set_option maxHeartbeats 4000000 in
theorem sMd_findsDepths_74 {E : EE} {R : Int → Mem → Prop} (C : Cx shM 5 cX8_findsDepths RX8 3 68 E) (X : Rx shM (some .boolean) R E) (x1 : Int) (M : Mem) (hf : fMd_findsDepths_74  R x1 M) : AW shM 5 E 74 [some (.inr 0), some (.inl x1), none, none, none] [] M := by
  refine a_iconst C dX8_findsDepths_74 (inr_b rfl) ?_
  refine a_istoren C dX8_findsDepths_75 (by decide) (lv2 := [some (.inr 0), some (.inl x1), none, some (.inl 0), none]) rfl ?_
  refine a_iconst C dX8_findsDepths_76 (inr_b rfl) ?_
  refine a_istore C dX8_findsDepths_77 (by decide) (lv2 := [some (.inr 0), some (.inl x1), none, some (.inl 0), some (.inl 0)]) rfl ?_
  obtain ⟨n3, hf⟩ := hf
  exact sMd_findsDepths_79 C X  n3 _ _ _ _ hf
set_option maxRecDepth 20000 in
set_option maxHeartbeats 4000000 in
theorem sMd_findsDepths_50 {E : EE} {R : Int → Mem → Prop} (C : Cx shM 5 cX8_findsDepths RX8 3 68 E) (X : Rx shM (some .boolean) R E) : ∀ (n : Nat) (x1 : Int) (x2 : Int) (M : Mem), fMd_findsDepths_50  R n x1 x2 M → AW shM 5 E 50 [some (.inr 0), some (.inl x1), some (.inl x2), none, none] [] M := by
  intro n
  induction n with
  | zero => intro x1 x2 M hf; exact hf.elim
  | succ n hk50 =>
    intro x1 x2 M hf
    refine a_iloadn C dX8_findsDepths_50 rfl ?_
    refine a_bipush C dX8_findsDepths_51 bp_m4 ?_
    obtain ⟨hfa, hfb⟩ := hf
    refine a_icmp_eq C 74 dX8_findsDepths_53 rfl (fun hc => ?_) (fun hc => ?_)
    · have hf := hfa hc
      refine a_drop [true, true, false, true, true] (lv2 := [some (.inr 0), some (.inl x1), none, none, none]) rfl ?_
      exact sMd_findsDepths_74 C X  _ _ hf
    · have hf := hfb hc
      refine a_iloadn C dX8_findsDepths_56 rfl ?_
      obtain ⟨hfa, hfb⟩ := hf
      refine a_if_eq C 74 dX8_findsDepths_57 rfl (fun hc => ?_) (fun hc => ?_)
      · have hf := hfa hc
        refine a_drop [true, true, false, true, true] (lv2 := [some (.inr 0), some (.inl x1), none, none, none]) rfl ?_
        exact sMd_findsDepths_74 C X  _ _ hf
      · have hf := hfb hc
        refine a_aloadn C dX8_findsDepths_60 rfl ?_
        refine a_iloadn C dX8_findsDepths_61 rfl ?_
        refine a_callV C [.inl x2] [] dX8_findsDepths_62 (cMd_takesOne _) mv_X8_takesOne ln_X8_165 rfl rfl ⟨rfl, rfl, Nat.le_of_ble_eq_true rfl, Nat.le_of_ble_eq_true rfl, Nat.le_of_ble_eq_true rfl⟩ hf (fun r4 M4 hf => ?_)
        refine a_istoren C dX8_findsDepths_65 (by decide) (lv2 := [some (.inr 0), some (.inl r4), some (.inl x2), none, none]) rfl ?_
        refine a_aloadn C dX8_findsDepths_66 rfl ?_
        refine a_callV C [] [] dX8_findsDepths_67 (cMd_lowest) mv_X8_lowest ln_X8_162 rfl rfl ⟨rfl, rfl, Nat.le_of_ble_eq_true rfl, Nat.le_of_ble_eq_true rfl, Nat.le_of_ble_eq_true rfl⟩ hf (fun r5 M5 hf => ?_)
        refine a_istoren C dX8_findsDepths_70 (by decide) (lv2 := [some (.inr 0), some (.inl r4), some (.inl r5), none, none]) rfl ?_
        refine a_goto C 50 dX8_findsDepths_71 rfl ?_
        exact hk50 _ _ _ hf
set_option maxRecDepth 20000 in
set_option maxHeartbeats 4000000 in
theorem sMd_findsDepths_2 {E : EE} {R : Int → Mem → Prop} (C : Cx shM 5 cX8_findsDepths RX8 3 68 E) (X : Rx shM (some .boolean) R E) : ∀ (n : Nat) (x1 : Int) (M : Mem), fMd_findsDepths_2  R n x1 M → AW shM 5 E 2 [some (.inr 0), some (.inl x1), none, none, none] [] M := by
  intro n
  induction n with
  | zero => intro x1 M hf; exact hf.elim
  | succ n hk2 =>
    intro x1 M hf
    refine a_iloadn C dX8_findsDepths_2 rfl ?_
    refine a_bipush C dX8_findsDepths_3 bp_24 ?_
    obtain ⟨hfa, hfb⟩ := hf
    refine a_icmp_ge C 36 dX8_findsDepths_5 rfl (fun hc => ?_) (fun hc => ?_)
    · have hf := hfa hc
      refine a_aloadn C dX8_findsDepths_36 rfl ?_
      refine a_getR C 12 fl_X8_43 rfl rfl dX8_findsDepths_37 ?_
      refine a_iconst C dX8_findsDepths_40 (inr_b rfl) ?_
      refine a_iconst C dX8_findsDepths_41 (inr_b rfl) ?_
      refine a_iast C (n := 24) rfl (inb_b rfl) dX8_findsDepths_42 ?_
      refine a_iconst C dX8_findsDepths_43 (inr_b rfl) ?_
      refine a_istoren C dX8_findsDepths_44 (by decide) (lv2 := [some (.inr 0), some (.inl 1), none, none, none]) rfl ?_
      refine a_aloadn C dX8_findsDepths_45 rfl ?_
      refine a_callV C [] [] dX8_findsDepths_46 (cMd_lowest) mv_X8_lowest ln_X8_162 rfl rfl ⟨rfl, rfl, Nat.le_of_ble_eq_true rfl, Nat.le_of_ble_eq_true rfl, Nat.le_of_ble_eq_true rfl⟩ hf (fun r1 M1 hf => ?_)
      refine a_istoren C dX8_findsDepths_49 (by decide) (lv2 := [some (.inr 0), some (.inl 1), some (.inl r1), none, none]) rfl ?_
      obtain ⟨n6, hf⟩ := hf
      exact sMd_findsDepths_50 C X  n6 _ _ _ hf
    · have hf := hfb hc
      refine a_aloadn C dX8_findsDepths_8 rfl ?_
      refine a_getR C 12 fl_X8_43 rfl rfl dX8_findsDepths_9 ?_
      refine a_iloadn C dX8_findsDepths_12 rfl ?_
      refine a_bipush C dX8_findsDepths_13 bp_m4 ?_
      obtain ⟨hg, hf⟩ := hf
      refine a_iast C (n := 24) rfl hg dX8_findsDepths_15 ?_
      refine a_aloadn C dX8_findsDepths_16 rfl ?_
      refine a_getR C 13 fl_X8_46 rfl rfl dX8_findsDepths_17 ?_
      refine a_iloadn C dX8_findsDepths_20 rfl ?_
      refine a_iconst C dX8_findsDepths_21 (inr_b rfl) ?_
      obtain ⟨hg, hf⟩ := hf
      refine a_iast C (n := 24) rfl hg dX8_findsDepths_22 ?_
      refine a_aloadn C dX8_findsDepths_23 rfl ?_
      refine a_getR C 14 fl_X8_49 rfl rfl dX8_findsDepths_24 ?_
      refine a_iloadn C dX8_findsDepths_27 rfl ?_
      refine a_iconst C dX8_findsDepths_28 (inr_b rfl) ?_
      obtain ⟨hg, hf⟩ := hf
      refine a_iast C (n := 24) rfl hg dX8_findsDepths_29 ?_
      refine a_iinc C dX8_findsDepths_30 rfl (by decide) (lv2 := [some (.inr 0), some (.inl (wrap (x1 + 1))), none, none, none]) rfl ?_
      refine a_goto C 2 dX8_findsDepths_33 rfl ?_
      exact hk2 _ _ hf
set_option maxRecDepth 20000 in
set_option maxHeartbeats 4000000 in
theorem cMd_findsDepths : Snd shM yX8_findsDepths cX8_findsDepths 5 (some .boolean) 3 68 [.inr 0] fMd_findsDepths := by
  refine Snd.of RX8 (by decide +kernel) rfl (Nat.le_of_ble_eq_true rfl) ?_
  intro E M R hf C X
  show AW shM 5 E 0 [some (.inr 0), none, none, none, none] [] M
  refine a_iconst C dX8_findsDepths_0 (inr_b rfl) ?_
  refine a_istoren C dX8_findsDepths_1 (by decide) (lv2 := [some (.inr 0), some (.inl 0), none, none, none]) rfl ?_
  obtain ⟨n7, hf⟩ := hf
  exact sMd_findsDepths_2 C X  n7 _ _ hf
set_option maxRecDepth 20000 in
set_option maxHeartbeats 4000000 in
theorem sMd_takesProgram_79 {E : EE} {R : Int → Mem → Prop} (C : Cx shM 2 cX8_takesProgram RX8 4 92 E) (X : Rx shM none R E) : ∀ (n : Nat) (x1 : Int) (M : Mem), fMd_takesProgram_79  R n x1 M → AW shM 2 E 79 [some (.inr 0), some (.inl x1)] [] M := by
  intro n
  induction n with
  | zero => intro x1 M hf; exact hf.elim
  | succ n hk79 =>
    intro x1 M hf
    refine a_iloadn C dX8_takesProgram_79 rfl ?_
    refine a_bipush C dX8_takesProgram_80 bp_24 ?_
    obtain ⟨hfa, hfb⟩ := hf
    refine a_icmp_ge C 100 dX8_takesProgram_82 rfl (fun hc => ?_) (fun hc => ?_)
    · have hf := hfa hc
      refine a_aloadn C dX8_takesProgram_100 rfl ?_
      refine a_iconst C dX8_takesProgram_101 (inr_b rfl) ?_
      refine a_putI C (kz := 2) fp_X8_175 rfl rfl rfl dX8_takesProgram_102 ?_
      refine a_aloadn C dX8_takesProgram_105 rfl ?_
      refine a_iconst C dX8_takesProgram_106 (inr_b rfl) ?_
      refine a_putZ C (kz := 43) fp_X8_178 (Or.inl rfl) rfl rfl rfl dX8_takesProgram_107 ?_
      refine a_aloadn C dX8_takesProgram_110 rfl ?_
      refine a_iconst C dX8_takesProgram_111 (inr_b rfl) ?_
      refine a_putZ C (kz := 31) fp_X8_182 (Or.inl rfl) rfl rfl rfl dX8_takesProgram_112 ?_
      exact a_vret C X dX8_takesProgram_115 hf
    · have hf := hfb hc
      refine a_aloadn C dX8_takesProgram_85 rfl ?_
      refine a_getR C 1 fl_X8_7 rfl rfl dX8_takesProgram_86 ?_
      refine a_iconst C dX8_takesProgram_89 (inr_b rfl) ?_
      refine a_iloadn C dX8_takesProgram_90 rfl ?_
      refine a_iadd C dX8_takesProgram_91 ?_
      refine a_iconst C dX8_takesProgram_92 (inr_b rfl) ?_
      obtain ⟨hg, hf⟩ := hf
      refine a_iast C (n := 28) rfl hg dX8_takesProgram_93 ?_
      refine a_iinc C dX8_takesProgram_94 rfl (by decide) (lv2 := [some (.inr 0), some (.inl (wrap (x1 + 1)))]) rfl ?_
      refine a_goto C 79 dX8_takesProgram_97 rfl ?_
      exact hk79 _ _ hf
set_option maxRecDepth 20000 in
set_option maxHeartbeats 4000000 in
theorem sMd_takesProgram_15 {E : EE} {R : Int → Mem → Prop} (C : Cx shM 2 cX8_takesProgram RX8 4 92 E) (X : Rx shM none R E) : ∀ (n : Nat) (x1 : Int) (M : Mem), fMd_takesProgram_15  R n x1 M → AW shM 2 E 15 [some (.inr 0), some (.inl x1)] [] M := by
  intro n
  induction n with
  | zero => intro x1 M hf; exact hf.elim
  | succ n hk15 =>
    intro x1 M hf
    refine a_iloadn C dX8_takesProgram_15 rfl ?_
    refine a_aloadn C dX8_takesProgram_16 rfl ?_
    refine a_getI C (kz := 3) fl_X8_172 rfl rfl rfl dX8_takesProgram_17 ?_
    obtain ⟨hfa, hfb⟩ := hf
    refine a_icmp_ge C 77 dX8_takesProgram_20 rfl (fun hc => ?_) (fun hc => ?_)
    · have hf := hfa hc
      refine a_iconst C dX8_takesProgram_77 (inr_b rfl) ?_
      refine a_istoren C dX8_takesProgram_78 (by decide) (lv2 := [some (.inr 0), some (.inl 0)]) rfl ?_
      obtain ⟨n2, hf⟩ := hf
      exact sMd_takesProgram_79 C X  n2 _ _ hf
    · have hf := hfb hc
      refine a_aloadn C dX8_takesProgram_23 rfl ?_
      refine a_getR C 3 fl_X8_16 rfl rfl dX8_takesProgram_24 ?_
      refine a_iloadn C dX8_takesProgram_27 rfl ?_
      refine a_aloadn C dX8_takesProgram_28 rfl ?_
      refine a_getR C 8 fl_X8_31 rfl rfl dX8_takesProgram_29 ?_
      refine a_iloadn C dX8_takesProgram_32 rfl ?_
      obtain ⟨hg, hf⟩ := hf
      refine a_iald C (n := 24) rfl hg dX8_takesProgram_33 ?_
      obtain ⟨hg, hf⟩ := hf
      refine a_iast C (n := 24) rfl hg dX8_takesProgram_34 ?_
      refine a_aloadn C dX8_takesProgram_35 rfl ?_
      refine a_getR C 4 fl_X8_19 rfl rfl dX8_takesProgram_36 ?_
      refine a_iloadn C dX8_takesProgram_39 rfl ?_
      refine a_aloadn C dX8_takesProgram_40 rfl ?_
      refine a_getR C 9 fl_X8_34 rfl rfl dX8_takesProgram_41 ?_
      refine a_iloadn C dX8_takesProgram_44 rfl ?_
      obtain ⟨hg, hf⟩ := hf
      refine a_iald C (n := 24) rfl hg dX8_takesProgram_45 ?_
      obtain ⟨hg, hf⟩ := hf
      refine a_iast C (n := 24) rfl hg dX8_takesProgram_46 ?_
      refine a_aloadn C dX8_takesProgram_47 rfl ?_
      refine a_getR C 5 fl_X8_22 rfl rfl dX8_takesProgram_48 ?_
      refine a_iloadn C dX8_takesProgram_51 rfl ?_
      refine a_aloadn C dX8_takesProgram_52 rfl ?_
      refine a_getR C 12 fl_X8_43 rfl rfl dX8_takesProgram_53 ?_
      refine a_iloadn C dX8_takesProgram_56 rfl ?_
      obtain ⟨hg, hf⟩ := hf
      refine a_iald C (n := 24) rfl hg dX8_takesProgram_57 ?_
      obtain ⟨hg, hf⟩ := hf
      refine a_iast C (n := 24) rfl hg dX8_takesProgram_58 ?_
      refine a_aloadn C dX8_takesProgram_59 rfl ?_
      refine a_getR C 6 fl_X8_25 rfl rfl dX8_takesProgram_60 ?_
      refine a_iloadn C dX8_takesProgram_63 rfl ?_
      refine a_aloadn C dX8_takesProgram_64 rfl ?_
      refine a_getR C 14 fl_X8_49 rfl rfl dX8_takesProgram_65 ?_
      refine a_iloadn C dX8_takesProgram_68 rfl ?_
      obtain ⟨hg, hf⟩ := hf
      refine a_iald C (n := 24) rfl hg dX8_takesProgram_69 ?_
      obtain ⟨hg, hf⟩ := hf
      refine a_iast C (n := 24) rfl hg dX8_takesProgram_70 ?_
      refine a_iinc C dX8_takesProgram_71 rfl (by decide) (lv2 := [some (.inr 0), some (.inl (wrap (x1 + 1)))]) rfl ?_
      refine a_goto C 15 dX8_takesProgram_74 rfl ?_
      exact hk15 _ _ hf
set_option maxRecDepth 20000 in
set_option maxHeartbeats 4000000 in
theorem cMd_takesProgram : Snd shM yX8_takesProgram cX8_takesProgram 2 none 4 92 [.inr 0] fMd_takesProgram := by
  refine Snd.of RX8 (by decide +kernel) rfl (Nat.le_of_ble_eq_true rfl) ?_
  intro E M R hf C X
  show AW shM 2 E 0 [some (.inr 0), none] [] M
  refine a_aloadn C dX8_takesProgram_0 rfl ?_
  refine a_callV C [] [] dX8_takesProgram_1 (cMd_findsDepths) mv_X8_findsDepths ln_X8_168 rfl rfl ⟨rfl, rfl, Nat.le_of_ble_eq_true rfl, Nat.le_of_ble_eq_true rfl, Nat.le_of_ble_eq_true rfl⟩ hf (fun r1 M1 hf => ?_)
  refine a_pop C dX8_takesProgram_4 ?_
  refine a_aloadn C dX8_takesProgram_5 rfl ?_
  refine a_aloadn C dX8_takesProgram_6 rfl ?_
  refine a_getI C (kz := 10) fl_X8_108 rfl rfl rfl dX8_takesProgram_7 ?_
  refine a_putI C (kz := 3) fp_X8_172 rfl rfl rfl dX8_takesProgram_10 ?_
  refine a_iconst C dX8_takesProgram_13 (inr_b rfl) ?_
  refine a_istoren C dX8_takesProgram_14 (by decide) (lv2 := [some (.inr 0), some (.inl 0)]) rfl ?_
  obtain ⟨n3, hf⟩ := hf
  exact sMd_takesProgram_15 C X  n3 _ _ hf
set_option maxRecDepth 20000 in
set_option maxHeartbeats 4000000 in
theorem sMd_in_14 {E : EE} {R : Int → Mem → Prop} (C : Cx shM 3 cX8_in RX8 0 0 E) (X : Rx shM (some .boolean) R E) (M : Mem) (hf : fMd_in_14  R M) : AW shM 3 E 14 [none, none, none] [] M := by
  refine a_iconst C dX8_in_14 (inr_b rfl) ?_
  exact a_bret C X (Or.inl rfl) dX8_in_15 hf
set_option maxRecDepth 20000 in
set_option maxHeartbeats 4000000 in
theorem cMd_in (x0 x1 x2 : Int) : Snd shM yX8_in cX8_in 3 (some .boolean) 0 0 [.inl x0, .inl x1, .inl x2] (fMd_in x0 x1 x2) := by
  refine Snd.of RX8 (by decide +kernel) rfl (Nat.le_of_ble_eq_true rfl) ?_
  intro E M R hf C X
  show AW shM 3 E 0 [some (.inl x0), some (.inl x1), some (.inl x2)] [] M
  refine a_iloadn C dX8_in_0 rfl ?_
  refine a_iloadn C dX8_in_1 rfl ?_
  obtain ⟨hfa, hfb⟩ := hf
  refine a_icmp_lt C 14 dX8_in_2 rfl (fun hc => ?_) (fun hc => ?_)
  · have hf := hfa hc
    refine a_drop [false, false, false] (lv2 := [none, none, none]) rfl ?_
    exact sMd_in_14 C X   _ hf
  · have hf := hfb hc
    refine a_iloadn C dX8_in_5 rfl ?_
    refine a_iloadn C dX8_in_6 rfl ?_
    obtain ⟨hfa, hfb⟩ := hf
    refine a_icmp_gt C 14 dX8_in_7 rfl (fun hc => ?_) (fun hc => ?_)
    · have hf := hfa hc
      refine a_drop [false, false, false] (lv2 := [none, none, none]) rfl ?_
      exact sMd_in_14 C X   _ hf
    · have hf := hfb hc
      refine a_iconst C dX8_in_10 (inr_b rfl) ?_
      refine a_goto C 15 dX8_in_11 rfl ?_
      exact a_bret C X (Or.inr rfl) dX8_in_15 hf
set_option maxRecDepth 20000 in
set_option maxHeartbeats 4000000 in
theorem cMd_write (x1 : Int) : Snd shM yX8_write cX8_write 2 (some .int) 1 22 [.inr 0, .inl x1] (fMd_write x1) := by
  refine Snd.of RX8 (by decide +kernel) rfl (Nat.le_of_ble_eq_true rfl) ?_
  intro E M R hf C X
  show AW shM 2 E 0 [some (.inr 0), some (.inl x1)] [] M
  refine a_iloadn C dX8_write_0 rfl ?_
  refine a_bipush C dX8_write_1 bp_32 ?_
  refine a_bipush C dX8_write_3 bp_126 ?_
  refine a_callS C [.inl x1, .inl 32, .inl 126] [] dX8_write_5 (cMd_in _ _ _) ms_X8_in ln_X8_114 ⟨rfl, rfl, Nat.le_of_ble_eq_true rfl, Nat.le_of_ble_eq_true rfl, Nat.le_of_ble_eq_true rfl⟩ hf (fun r1 M1 hf => ?_)
  obtain ⟨hfa, hfb⟩ := hf
  refine a_if_ne C 13 dX8_write_8 rfl (fun hc => ?_) (fun hc => ?_)
  · have hf := hfa hc
    refine a_aloadn C dX8_write_13 rfl ?_
    refine a_getI C (kz := 9) fl_X8_118 rfl rfl rfl dX8_write_14 ?_
    refine a_sipush C dX8_write_17 sp_200 ?_
    obtain ⟨hfa, hfb⟩ := hf
    refine a_icmp_ne C 26 dX8_write_20 rfl (fun hc => ?_) (fun hc => ?_)
    · have hf := hfa hc
      refine a_aloadn C dX8_write_26 rfl ?_
      refine a_getR C 7 fl_X8_28 rfl rfl dX8_write_27 ?_
      refine a_aloadn C dX8_write_30 rfl ?_
      refine a_getI C (kz := 9) fl_X8_118 rfl rfl rfl dX8_write_31 ?_
      refine a_iloadn C dX8_write_34 rfl ?_
      obtain ⟨hg, hf⟩ := hf
      refine a_iast C (n := 200) rfl hg dX8_write_35 ?_
      refine a_aloadn C dX8_write_36 rfl ?_
      refine a_dup C dX8_write_37 ?_
      refine a_getI C (kz := 9) fl_X8_118 rfl rfl rfl dX8_write_38 ?_
      refine a_iconst C dX8_write_41 (inr_b rfl) ?_
      refine a_iadd C dX8_write_42 ?_
      refine a_putI C (kz := 9) fp_X8_118 rfl rfl rfl dX8_write_43 ?_
      refine a_aloadn C dX8_write_46 rfl ?_
      refine a_getI C (kz := 9) fl_X8_118 rfl rfl rfl dX8_write_47 ?_
      exact a_iret C X dX8_write_50 hf
    · have hf := hfb hc
      refine a_bipush C dX8_write_23 bp_m3 ?_
      exact a_iret C X dX8_write_25 hf
  · have hf := hfb hc
    refine a_iconst C dX8_write_11 (inr_b rfl) ?_
    exact a_iret C X dX8_write_12 hf
set_option maxRecDepth 20000 in
set_option maxHeartbeats 4000000 in
theorem cMd_wipe : Snd shM yX8_wipe cX8_wipe 2 (some .int) 0 0 [.inr 0] fMd_wipe := by
  refine Snd.of RX8 (by decide +kernel) rfl (Nat.le_of_ble_eq_true rfl) ?_
  intro E M R hf C X
  show AW shM 2 E 0 [some (.inr 0), none] [] M
  refine a_aloadn C dX8_wipe_0 rfl ?_
  refine a_getI C (kz := 9) fl_X8_118 rfl rfl rfl dX8_wipe_1 ?_
  refine a_istoren C dX8_wipe_4 (by decide) (lv2 := [some (.inr 0), some (.inl (M 0 9))]) rfl ?_
  refine a_aloadn C dX8_wipe_5 rfl ?_
  refine a_iconst C dX8_wipe_6 (inr_b rfl) ?_
  refine a_putI C (kz := 9) fp_X8_118 rfl rfl rfl dX8_wipe_7 ?_
  refine a_iloadn C dX8_wipe_10 rfl ?_
  exact a_iret C X dX8_wipe_11 hf
set_option maxRecDepth 20000 in
set_option maxHeartbeats 4000000 in
theorem cMd_isName (x0 : Int) : Snd shM yX8_isName cX8_isName 1 (some .boolean) 0 0 [.inl x0] (fMd_isName x0) := by
  refine Snd.of RX8 (by decide +kernel) rfl (Nat.le_of_ble_eq_true rfl) ?_
  intro E M R hf C X
  show AW shM 1 E 0 [some (.inl x0)] [] M
  refine a_iloadn C dX8_isName_0 rfl ?_
  obtain ⟨hf132, hfd⟩ := hf
  by_cases hc42 : x0 = 42
  · refine a_lk C 132 dX8_isName_1 (by decide +kernel) (by rw [hc42] <;> rfl) rfl ?_
    have hf := hf132 (Or.inl hc42)
    refine a_iconst C dX8_isName_132 (inr_b rfl) ?_
    exact a_bret C X (Or.inr rfl) dX8_isName_133 hf
  by_cases hc43 : x0 = 43
  · refine a_lk C 132 dX8_isName_1 (by decide +kernel) (by rw [hc43] <;> rfl) rfl ?_
    have hf := hf132 (Or.inr (Or.inl hc43))
    refine a_iconst C dX8_isName_132 (inr_b rfl) ?_
    exact a_bret C X (Or.inr rfl) dX8_isName_133 hf
  by_cases hc45 : x0 = 45
  · refine a_lk C 132 dX8_isName_1 (by decide +kernel) (by rw [hc45] <;> rfl) rfl ?_
    have hf := hf132 (Or.inr (Or.inr (Or.inl hc45)))
    refine a_iconst C dX8_isName_132 (inr_b rfl) ?_
    exact a_bret C X (Or.inr rfl) dX8_isName_133 hf
  by_cases hc98 : x0 = 98
  · refine a_lk C 132 dX8_isName_1 (by decide +kernel) (by rw [hc98] <;> rfl) rfl ?_
    have hf := hf132 (Or.inr (Or.inr (Or.inr (Or.inl hc98))))
    refine a_iconst C dX8_isName_132 (inr_b rfl) ?_
    exact a_bret C X (Or.inr rfl) dX8_isName_133 hf
  by_cases hc100 : x0 = 100
  · refine a_lk C 132 dX8_isName_1 (by decide +kernel) (by rw [hc100] <;> rfl) rfl ?_
    have hf := hf132 (Or.inr (Or.inr (Or.inr (Or.inr (Or.inl hc100)))))
    refine a_iconst C dX8_isName_132 (inr_b rfl) ?_
    exact a_bret C X (Or.inr rfl) dX8_isName_133 hf
  by_cases hc103 : x0 = 103
  · refine a_lk C 132 dX8_isName_1 (by decide +kernel) (by rw [hc103] <;> rfl) rfl ?_
    have hf := hf132 (Or.inr (Or.inr (Or.inr (Or.inr (Or.inr (Or.inl hc103))))))
    refine a_iconst C dX8_isName_132 (inr_b rfl) ?_
    exact a_bret C X (Or.inr rfl) dX8_isName_133 hf
  by_cases hc104 : x0 = 104
  · refine a_lk C 132 dX8_isName_1 (by decide +kernel) (by rw [hc104] <;> rfl) rfl ?_
    have hf := hf132 (Or.inr (Or.inr (Or.inr (Or.inr (Or.inr (Or.inr (Or.inl hc104)))))))
    refine a_iconst C dX8_isName_132 (inr_b rfl) ?_
    exact a_bret C X (Or.inr rfl) dX8_isName_133 hf
  by_cases hc106 : x0 = 106
  · refine a_lk C 132 dX8_isName_1 (by decide +kernel) (by rw [hc106] <;> rfl) rfl ?_
    have hf := hf132 (Or.inr (Or.inr (Or.inr (Or.inr (Or.inr (Or.inr (Or.inr (Or.inl hc106))))))))
    refine a_iconst C dX8_isName_132 (inr_b rfl) ?_
    exact a_bret C X (Or.inr rfl) dX8_isName_133 hf
  by_cases hc110 : x0 = 110
  · refine a_lk C 132 dX8_isName_1 (by decide +kernel) (by rw [hc110] <;> rfl) rfl ?_
    have hf := hf132 (Or.inr (Or.inr (Or.inr (Or.inr (Or.inr (Or.inr (Or.inr (Or.inr (Or.inl hc110)))))))))
    refine a_iconst C dX8_isName_132 (inr_b rfl) ?_
    exact a_bret C X (Or.inr rfl) dX8_isName_133 hf
  by_cases hc111 : x0 = 111
  · refine a_lk C 132 dX8_isName_1 (by decide +kernel) (by rw [hc111] <;> rfl) rfl ?_
    have hf := hf132 (Or.inr (Or.inr (Or.inr (Or.inr (Or.inr (Or.inr (Or.inr (Or.inr (Or.inr (Or.inl hc111))))))))))
    refine a_iconst C dX8_isName_132 (inr_b rfl) ?_
    exact a_bret C X (Or.inr rfl) dX8_isName_133 hf
  by_cases hc112 : x0 = 112
  · refine a_lk C 132 dX8_isName_1 (by decide +kernel) (by rw [hc112] <;> rfl) rfl ?_
    have hf := hf132 (Or.inr (Or.inr (Or.inr (Or.inr (Or.inr (Or.inr (Or.inr (Or.inr (Or.inr (Or.inr (Or.inl hc112)))))))))))
    refine a_iconst C dX8_isName_132 (inr_b rfl) ?_
    exact a_bret C X (Or.inr rfl) dX8_isName_133 hf
  by_cases hc114 : x0 = 114
  · refine a_lk C 132 dX8_isName_1 (by decide +kernel) (by rw [hc114] <;> rfl) rfl ?_
    have hf := hf132 (Or.inr (Or.inr (Or.inr (Or.inr (Or.inr (Or.inr (Or.inr (Or.inr (Or.inr (Or.inr (Or.inr (Or.inl hc114))))))))))))
    refine a_iconst C dX8_isName_132 (inr_b rfl) ?_
    exact a_bret C X (Or.inr rfl) dX8_isName_133 hf
  by_cases hc115 : x0 = 115
  · refine a_lk C 132 dX8_isName_1 (by decide +kernel) (by rw [hc115] <;> rfl) rfl ?_
    have hf := hf132 (Or.inr (Or.inr (Or.inr (Or.inr (Or.inr (Or.inr (Or.inr (Or.inr (Or.inr (Or.inr (Or.inr (Or.inr (Or.inl hc115)))))))))))))
    refine a_iconst C dX8_isName_132 (inr_b rfl) ?_
    exact a_bret C X (Or.inr rfl) dX8_isName_133 hf
  by_cases hc119 : x0 = 119
  · refine a_lk C 132 dX8_isName_1 (by decide +kernel) (by rw [hc119] <;> rfl) rfl ?_
    have hf := hf132 (Or.inr (Or.inr (Or.inr (Or.inr (Or.inr (Or.inr (Or.inr (Or.inr (Or.inr (Or.inr (Or.inr (Or.inr (Or.inr (Or.inl hc119))))))))))))))
    refine a_iconst C dX8_isName_132 (inr_b rfl) ?_
    exact a_bret C X (Or.inr rfl) dX8_isName_133 hf
  by_cases hc120 : x0 = 120
  · refine a_lk C 132 dX8_isName_1 (by decide +kernel) (by rw [hc120] <;> rfl) rfl ?_
    have hf := hf132 (Or.inr (Or.inr (Or.inr (Or.inr (Or.inr (Or.inr (Or.inr (Or.inr (Or.inr (Or.inr (Or.inr (Or.inr (Or.inr (Or.inr hc120))))))))))))))
    refine a_iconst C dX8_isName_132 (inr_b rfl) ?_
    exact a_bret C X (Or.inr rfl) dX8_isName_133 hf
  refine a_lk C 134 dX8_isName_1 (by decide +kernel) (by simp [Op.lookupswitch.offset, hc42, Ne.symm hc42, hc43, Ne.symm hc43, hc45, Ne.symm hc45, hc98, Ne.symm hc98, hc100, Ne.symm hc100, hc103, Ne.symm hc103, hc104, Ne.symm hc104, hc106, Ne.symm hc106, hc110, Ne.symm hc110, hc111, Ne.symm hc111, hc112, Ne.symm hc112, hc114, Ne.symm hc114, hc115, Ne.symm hc115, hc119, Ne.symm hc119, hc120, Ne.symm hc120] <;> rfl) rfl ?_
  have hf := hfd ⟨hc42, hc43, hc45, hc98, hc100, hc103, hc104, hc106, hc110, hc111, hc112, hc114, hc115, hc119, hc120⟩
  refine a_iconst C dX8_isName_134 (inr_b rfl) ?_
  exact a_bret C X (Or.inl rfl) dX8_isName_135 hf
set_option maxRecDepth 20000 in
set_option maxHeartbeats 4000000 in
theorem sMd_figuresOf_18 {E : EE} {R : Int → Mem → Prop} (C : Cx shM 1 cX8_figuresOf RX8 0 0 E) (X : Rx shM (some .int) R E) (M : Mem) (hf : fMd_figuresOf_18  R M) : AW shM 1 E 18 [none] [] M := by
  refine a_iconst C dX8_figuresOf_18 (inr_b rfl) ?_
  refine a_goto C 39 dX8_figuresOf_19 rfl ?_
  exact a_iret C X dX8_figuresOf_39 hf
set_option maxRecDepth 20000 in
set_option maxHeartbeats 4000000 in
theorem sMd_figuresOf_34 {E : EE} {R : Int → Mem → Prop} (C : Cx shM 1 cX8_figuresOf RX8 0 0 E) (X : Rx shM (some .int) R E) (M : Mem) (hf : fMd_figuresOf_34  R M) : AW shM 1 E 34 [none] [] M := by
  refine a_iconst C dX8_figuresOf_34 (inr_b rfl) ?_
  refine a_goto C 39 dX8_figuresOf_35 rfl ?_
  exact a_iret C X dX8_figuresOf_39 hf
set_option maxRecDepth 20000 in
set_option maxHeartbeats 4000000 in
theorem cMd_figuresOf (x0 : Int) : Snd shM yX8_figuresOf cX8_figuresOf 1 (some .int) 0 0 [.inl x0] (fMd_figuresOf x0) := by
  refine Snd.of RX8 (by decide +kernel) rfl (Nat.le_of_ble_eq_true rfl) ?_
  intro E M R hf C X
  show AW shM 1 E 0 [some (.inl x0)] [] M
  refine a_iloadn C dX8_figuresOf_0 rfl ?_
  refine a_bipush C dX8_figuresOf_1 bp_110 ?_
  obtain ⟨hfa, hfb⟩ := hf
  refine a_icmp_eq C 18 dX8_figuresOf_3 rfl (fun hc => ?_) (fun hc => ?_)
  · have hf := hfa hc
    refine a_drop [false] (lv2 := [none]) rfl ?_
    exact sMd_figuresOf_18 C X   _ hf
  · have hf := hfb hc
    refine a_iloadn C dX8_figuresOf_6 rfl ?_
    refine a_bipush C dX8_figuresOf_7 bp_106 ?_
    obtain ⟨hfa, hfb⟩ := hf
    refine a_icmp_eq C 18 dX8_figuresOf_9 rfl (fun hc => ?_) (fun hc => ?_)
    · have hf := hfa hc
      refine a_drop [false] (lv2 := [none]) rfl ?_
      exact sMd_figuresOf_18 C X   _ hf
    · have hf := hfb hc
      refine a_iloadn C dX8_figuresOf_12 rfl ?_
      refine a_bipush C dX8_figuresOf_13 bp_98 ?_
      obtain ⟨hfa, hfb⟩ := hf
      refine a_icmp_ne C 22 dX8_figuresOf_15 rfl (fun hc => ?_) (fun hc => ?_)
      · have hf := hfa hc
        refine a_iloadn C dX8_figuresOf_22 rfl ?_
        refine a_bipush C dX8_figuresOf_23 bp_103 ?_
        obtain ⟨hfa, hfb⟩ := hf
        refine a_icmp_eq C 34 dX8_figuresOf_25 rfl (fun hc => ?_) (fun hc => ?_)
        · have hf := hfa hc
          refine a_drop [false] (lv2 := [none]) rfl ?_
          exact sMd_figuresOf_34 C X   _ hf
        · have hf := hfb hc
          refine a_iloadn C dX8_figuresOf_28 rfl ?_
          refine a_bipush C dX8_figuresOf_29 bp_115 ?_
          obtain ⟨hfa, hfb⟩ := hf
          refine a_icmp_ne C 38 dX8_figuresOf_31 rfl (fun hc => ?_) (fun hc => ?_)
          · have hf := hfa hc
            refine a_iconst C dX8_figuresOf_38 (inr_b rfl) ?_
            exact a_iret C X dX8_figuresOf_39 hf
          · have hf := hfb hc
            refine a_drop [false] (lv2 := [none]) rfl ?_
            exact sMd_figuresOf_34 C X   _ hf
      · have hf := hfb hc
        refine a_drop [false] (lv2 := [none]) rfl ?_
        exact sMd_figuresOf_18 C X   _ hf
set_option maxRecDepth 20000 in
set_option maxHeartbeats 4000000 in
theorem sMd_isFigure_28 {E : EE} {R : Int → Mem → Prop} (C : Cx shM 2 cX8_isFigure RX8 1 22 E) (X : Rx shM (some .boolean) R E) (M : Mem) (hf : fMd_isFigure_28  R M) : AW shM 2 E 28 [none, none] [] M := by
  refine a_iconst C dX8_isFigure_28 (inr_b rfl) ?_
  exact a_bret C X (Or.inl rfl) dX8_isFigure_29 hf
set_option maxRecDepth 20000 in
set_option maxHeartbeats 4000000 in
theorem cMd_isFigure (x1 : Int) : Snd shM yX8_isFigure cX8_isFigure 2 (some .boolean) 1 22 [.inr 0, .inl x1] (fMd_isFigure x1) := by
  refine Snd.of RX8 (by decide +kernel) rfl (Nat.le_of_ble_eq_true rfl) ?_
  intro E M R hf C X
  show AW shM 2 E 0 [some (.inr 0), some (.inl x1)] [] M
  refine a_iloadn C dX8_isFigure_0 rfl ?_
  refine a_aloadn C dX8_isFigure_1 rfl ?_
  refine a_getI C (kz := 9) fl_X8_118 rfl rfl rfl dX8_isFigure_2 ?_
  obtain ⟨hfa, hfb⟩ := hf
  refine a_icmp_ge C 28 dX8_isFigure_5 rfl (fun hc => ?_) (fun hc => ?_)
  · have hf := hfa hc
    refine a_drop [false, false] (lv2 := [none, none]) rfl ?_
    exact sMd_isFigure_28 C X   _ hf
  · have hf := hfb hc
    refine a_aloadn C dX8_isFigure_8 rfl ?_
    refine a_getR C 7 fl_X8_28 rfl rfl dX8_isFigure_9 ?_
    refine a_iloadn C dX8_isFigure_12 rfl ?_
    obtain ⟨hg, hf⟩ := hf
    refine a_iald C (n := 200) rfl hg dX8_isFigure_13 ?_
    refine a_bipush C dX8_isFigure_14 bp_48 ?_
    refine a_bipush C dX8_isFigure_16 bp_57 ?_
    refine a_callS C [.inl (M 7 x1), .inl 48, .inl 57] [] dX8_isFigure_18 (cMd_in _ _ _) ms_X8_in ln_X8_114 ⟨rfl, rfl, Nat.le_of_ble_eq_true rfl, Nat.le_of_ble_eq_true rfl, Nat.le_of_ble_eq_true rfl⟩ hf (fun r1 M1 hf => ?_)
    obtain ⟨hfa, hfb⟩ := hf
    refine a_if_eq C 28 dX8_isFigure_21 rfl (fun hc => ?_) (fun hc => ?_)
    · have hf := hfa hc
      refine a_drop [false, false] (lv2 := [none, none]) rfl ?_
      exact sMd_isFigure_28 C X   _ hf
    · have hf := hfb hc
      refine a_iconst C dX8_isFigure_24 (inr_b rfl) ?_
      refine a_goto C 29 dX8_isFigure_25 rfl ?_
      exact a_bret C X (Or.inr rfl) dX8_isFigure_29 hf
set_option maxRecDepth 20000 in
set_option maxHeartbeats 4000000 in
theorem sMd_reads_133 {E : EE} {R : Int → Mem → Prop} (C : Cx shM 5 cX8_reads RX8 2 43 E) (X : Rx shM (some .int) R E) (x2 : Int) (t0 : Int) (t1 : Int) (M : Mem) (hf : fMd_reads_133  R x2 t0 t1 M) : AW shM 5 E 133 [some (.inr 0), none, some (.inl x2), none, none] [.inl t0, .inl t1, .inr 9] M := by
  obtain ⟨hg, hf⟩ := hf
  refine a_iast C (n := 24) rfl hg dX8_reads_133 ?_
  refine a_aloadn C dX8_reads_134 rfl ?_
  refine a_getR C 10 fl_X8_37 rfl rfl dX8_reads_135 ?_
  refine a_aloadn C dX8_reads_138 rfl ?_
  refine a_getI C (kz := 10) fl_X8_108 rfl rfl rfl dX8_reads_139 ?_
  refine a_aloadn C dX8_reads_142 rfl ?_
  refine a_getI C (kz := 14) fl_X8_121 rfl rfl rfl dX8_reads_143 ?_
  obtain ⟨hg, hf⟩ := hf
  refine a_iast C (n := 24) rfl hg dX8_reads_146 ?_
  refine a_aloadn C dX8_reads_147 rfl ?_
  refine a_dup C dX8_reads_148 ?_
  refine a_getI C (kz := 10) fl_X8_108 rfl rfl rfl dX8_reads_149 ?_
  refine a_iconst C dX8_reads_152 (inr_b rfl) ?_
  refine a_iadd C dX8_reads_153 ?_
  refine a_putI C (kz := 10) fp_X8_108 rfl rfl rfl dX8_reads_154 ?_
  refine a_aloadn C dX8_reads_157 rfl ?_
  refine a_dup C dX8_reads_158 ?_
  refine a_getI C (kz := 14) fl_X8_121 rfl rfl rfl dX8_reads_159 ?_
  refine a_iloadn C dX8_reads_162 rfl ?_
  refine a_iconst C dX8_reads_163 (inr_b rfl) ?_
  refine a_iadd C dX8_reads_164 ?_
  refine a_iadd C dX8_reads_165 ?_
  refine a_putI C (kz := 14) fp_X8_121 rfl rfl rfl dX8_reads_166 ?_
  refine a_iconst C dX8_reads_169 (inr_b rfl) ?_
  exact a_iret C X dX8_reads_170 hf
set_option maxRecDepth 20000 in
set_option maxHeartbeats 4000000 in
theorem sMd_reads_105 {E : EE} {R : Int → Mem → Prop} (C : Cx shM 5 cX8_reads RX8 2 43 E) (X : Rx shM (some .int) R E) (x1 : Int) (x2 : Int) (x3 : Int) (M : Mem) (hf : fMd_reads_105  R x1 x2 x3 M) : AW shM 5 E 105 [some (.inr 0), some (.inl x1), some (.inl x2), some (.inl x3), none] [] M := by
  refine a_aloadn C dX8_reads_105 rfl ?_
  refine a_getR C 8 fl_X8_31 rfl rfl dX8_reads_106 ?_
  refine a_aloadn C dX8_reads_109 rfl ?_
  refine a_getI C (kz := 10) fl_X8_108 rfl rfl rfl dX8_reads_110 ?_
  refine a_iloadn C dX8_reads_113 rfl ?_
  obtain ⟨hg, hf⟩ := hf
  refine a_iast C (n := 24) rfl hg dX8_reads_114 ?_
  refine a_aloadn C dX8_reads_115 rfl ?_
  refine a_getR C 9 fl_X8_34 rfl rfl dX8_reads_116 ?_
  refine a_aloadn C dX8_reads_119 rfl ?_
  refine a_getI C (kz := 10) fl_X8_108 rfl rfl rfl dX8_reads_120 ?_
  refine a_iloadn C dX8_reads_123 rfl ?_
  obtain ⟨hfa, hfb⟩ := hf
  refine a_if_ne C 132 dX8_reads_124 rfl (fun hc => ?_) (fun hc => ?_)
  · have hf := hfa hc
    refine a_iloadn C dX8_reads_132 rfl ?_
    refine a_drop [true, false, true, false, true] (lv2 := [some (.inr 0), none, some (.inl x2), none, none]) rfl ?_
    exact sMd_reads_133 C X  _ _ _ _ hf
  · have hf := hfb hc
    refine a_bipush C dX8_reads_127 bp_m4 ?_
    refine a_goto C 133 dX8_reads_129 rfl ?_
    refine a_drop [true, false, true, false, true] (lv2 := [some (.inr 0), none, some (.inl x2), none, none]) rfl ?_
    exact sMd_reads_133 C X  _ _ _ _ hf
set_option maxRecDepth 20000 in
set_option maxHeartbeats 4000000 in
theorem sMd_reads_42 {E : EE} {R : Int → Mem → Prop} (C : Cx shM 5 cX8_reads RX8 2 43 E) (X : Rx shM (some .int) R E) : ∀ (n : Nat) (x1 : Int) (x2 : Int) (x3 : Int) (x4 : Int) (M : Mem), fMd_reads_42  R n x1 x2 x3 x4 M → AW shM 5 E 42 [some (.inr 0), some (.inl x1), some (.inl x2), some (.inl x3), some (.inl x4)] [] M := by
  intro n
  induction n with
  | zero => intro x1 x2 x3 x4 M hf; exact hf.elim
  | succ n hk42 =>
    intro x1 x2 x3 x4 M hf
    refine a_iload C dX8_reads_42 rfl ?_
    refine a_iloadn C dX8_reads_44 rfl ?_
    obtain ⟨hfa, hfb⟩ := hf
    refine a_icmp_gt C 92 dX8_reads_45 rfl (fun hc => ?_) (fun hc => ?_)
    · have hf := hfa hc
      refine a_iloadn C dX8_reads_92 rfl ?_
      refine a_iconst C dX8_reads_93 (inr_b rfl) ?_
      obtain ⟨hfa, hfb⟩ := hf
      refine a_icmp_ne C 105 dX8_reads_94 rfl (fun hc => ?_) (fun hc => ?_)
      · have hf := hfa hc
        refine a_drop [true, true, true, true, false] (lv2 := [some (.inr 0), some (.inl x1), some (.inl x2), some (.inl x3), none]) rfl ?_
        exact sMd_reads_105 C X  _ _ _ _ hf
      · have hf := hfb hc
        refine a_iloadn C dX8_reads_97 rfl ?_
        refine a_iconst C dX8_reads_98 (inr_b rfl) ?_
        obtain ⟨hfa, hfb⟩ := hf
        refine a_icmp_le C 105 dX8_reads_99 rfl (fun hc => ?_) (fun hc => ?_)
        · have hf := hfa hc
          refine a_drop [true, true, true, true, false] (lv2 := [some (.inr 0), some (.inl x1), some (.inl x2), some (.inl x3), none]) rfl ?_
          exact sMd_reads_105 C X  _ _ _ _ hf
        · have hf := hfb hc
          refine a_bipush C dX8_reads_102 bp_12 ?_
          exact a_iret C X dX8_reads_104 hf
    · have hf := hfb hc
      refine a_aloadn C dX8_reads_48 rfl ?_
      refine a_aloadn C dX8_reads_49 rfl ?_
      refine a_getI C (kz := 14) fl_X8_121 rfl rfl rfl dX8_reads_50 ?_
      refine a_iload C dX8_reads_53 rfl ?_
      refine a_iadd C dX8_reads_55 ?_
      refine a_callV C [.inl (wrap ((M 0 14) + x4))] [] dX8_reads_56 (cMd_isFigure _) mv_X8_isFigure ln_X8_132 rfl rfl ⟨rfl, rfl, Nat.le_of_ble_eq_true rfl, Nat.le_of_ble_eq_true rfl, Nat.le_of_ble_eq_true rfl⟩ hf (fun r3 M3 hf => ?_)
      obtain ⟨hfa, hfb⟩ := hf
      refine a_if_ne C 65 dX8_reads_59 rfl (fun hc => ?_) (fun hc => ?_)
      · have hf := hfa hc
        refine a_bipush C dX8_reads_65 bp_10 ?_
        refine a_iloadn C dX8_reads_67 rfl ?_
        refine a_imul C dX8_reads_68 ?_
        refine a_aloadn C dX8_reads_69 rfl ?_
        refine a_getR C 7 fl_X8_28 rfl rfl dX8_reads_70 ?_
        refine a_aloadn C dX8_reads_73 rfl ?_
        refine a_getI C (kz := 14) fl_X8_121 rfl rfl rfl dX8_reads_74 ?_
        refine a_iload C dX8_reads_77 rfl ?_
        refine a_iadd C dX8_reads_79 ?_
        obtain ⟨hg, hf⟩ := hf
        refine a_iald C (n := 200) rfl hg dX8_reads_80 ?_
        refine a_iadd C dX8_reads_81 ?_
        refine a_bipush C dX8_reads_82 bp_48 ?_
        refine a_isub C dX8_reads_84 ?_
        refine a_istoren C dX8_reads_85 (by decide) (lv2 := [some (.inr 0), some (.inl x1), some (.inl x2), some (.inl (wrap ((wrap ((wrap (10 * x3)) + (M3 7 (wrap ((M3 0 14) + x4))))) - 48))), some (.inl x4)]) rfl ?_
        refine a_iinc C dX8_reads_86 rfl (by decide) (lv2 := [some (.inr 0), some (.inl x1), some (.inl x2), some (.inl (wrap ((wrap ((wrap (10 * x3)) + (M3 7 (wrap ((M3 0 14) + x4))))) - 48))), some (.inl (wrap (x4 + 1)))]) rfl ?_
        refine a_goto C 42 dX8_reads_89 rfl ?_
        exact hk42 _ _ _ _ _ hf
      · have hf := hfb hc
        refine a_bipush C dX8_reads_62 bp_11 ?_
        exact a_iret C X dX8_reads_64 hf
set_option maxRecDepth 20000 in
set_option maxHeartbeats 4000000 in
theorem cMd_reads : Snd shM yX8_reads cX8_reads 5 (some .int) 2 43 [.inr 0] fMd_reads := by
  refine Snd.of RX8 (by decide +kernel) rfl (Nat.le_of_ble_eq_true rfl) ?_
  intro E M R hf C X
  show AW shM 5 E 0 [some (.inr 0), none, none, none, none] [] M
  refine a_aloadn C dX8_reads_0 rfl ?_
  refine a_getI C (kz := 10) fl_X8_108 rfl rfl rfl dX8_reads_1 ?_
  refine a_bipush C dX8_reads_4 bp_24 ?_
  obtain ⟨hfa, hfb⟩ := hf
  refine a_icmp_ne C 12 dX8_reads_6 rfl (fun hc => ?_) (fun hc => ?_)
  · have hf := hfa hc
    refine a_aloadn C dX8_reads_12 rfl ?_
    refine a_getR C 7 fl_X8_28 rfl rfl dX8_reads_13 ?_
    refine a_aloadn C dX8_reads_16 rfl ?_
    refine a_getI C (kz := 14) fl_X8_121 rfl rfl rfl dX8_reads_17 ?_
    obtain ⟨hg, hf⟩ := hf
    refine a_iald C (n := 200) rfl hg dX8_reads_20 ?_
    refine a_istoren C dX8_reads_21 (by decide) (lv2 := [some (.inr 0), some (.inl (M 7 (M 0 14))), none, none, none]) rfl ?_
    refine a_iloadn C dX8_reads_22 rfl ?_
    refine a_callS C [.inl (M 7 (M 0 14))] [] dX8_reads_23 (cMd_isName _) ms_X8_isName ln_X8_124 ⟨rfl, rfl, Nat.le_of_ble_eq_true rfl, Nat.le_of_ble_eq_true rfl, Nat.le_of_ble_eq_true rfl⟩ hf (fun r1 M1 hf => ?_)
    obtain ⟨hfa, hfb⟩ := hf
    refine a_if_ne C 32 dX8_reads_26 rfl (fun hc => ?_) (fun hc => ?_)
    · have hf := hfa hc
      refine a_iloadn C dX8_reads_32 rfl ?_
      refine a_callS C [.inl (M 7 (M 0 14))] [] dX8_reads_33 (cMd_figuresOf _) ms_X8_figuresOf ln_X8_128 ⟨rfl, rfl, Nat.le_of_ble_eq_true rfl, Nat.le_of_ble_eq_true rfl, Nat.le_of_ble_eq_true rfl⟩ hf (fun r2 M2 hf => ?_)
      refine a_istoren C dX8_reads_36 (by decide) (lv2 := [some (.inr 0), some (.inl (M 7 (M 0 14))), some (.inl r2), none, none]) rfl ?_
      refine a_iconst C dX8_reads_37 (inr_b rfl) ?_
      refine a_istoren C dX8_reads_38 (by decide) (lv2 := [some (.inr 0), some (.inl (M 7 (M 0 14))), some (.inl r2), some (.inl 0), none]) rfl ?_
      refine a_iconst C dX8_reads_39 (inr_b rfl) ?_
      refine a_istore C dX8_reads_40 (by decide) (lv2 := [some (.inr 0), some (.inl (M 7 (M 0 14))), some (.inl r2), some (.inl 0), some (.inl 1)]) rfl ?_
      obtain ⟨n4, hf⟩ := hf
      exact sMd_reads_42 C X  n4 _ _ _ _ _ hf
    · have hf := hfb hc
      refine a_bipush C dX8_reads_29 bp_10 ?_
      exact a_iret C X dX8_reads_31 hf
  · have hf := hfb hc
    refine a_bipush C dX8_reads_9 bp_13 ?_
    exact a_iret C X dX8_reads_11 hf
set_option maxRecDepth 20000 in
set_option maxHeartbeats 4000000 in
theorem sMd_finds_102 {E : EE} {R : Int → Mem → Prop} (C : Cx shM 2 cX8_finds RX8 3 67 E) (X : Rx shM (some .int) R E) {k53 : Int → Mem → Prop} (hk53 : ∀ (x1 : Int) (M : Mem), k53 x1 M → AW shM 2 E 53 [some (.inr 0), some (.inl x1)] [] M) (x1 : Int) (M : Mem) (hf : fMd_finds_102 k53 R x1 M) : AW shM 2 E 102 [some (.inr 0), some (.inl x1)] [] M := by
  refine a_iinc C dX8_finds_102 rfl (by decide) (lv2 := [some (.inr 0), some (.inl (wrap (x1 + 1)))]) rfl ?_
  refine a_goto C 53 dX8_finds_105 rfl ?_
  exact hk53 _ _ hf
set_option maxRecDepth 20000 in
set_option maxHeartbeats 4000000 in
theorem sMd_finds_53 {E : EE} {R : Int → Mem → Prop} (C : Cx shM 2 cX8_finds RX8 3 67 E) (X : Rx shM (some .int) R E) : ∀ (n : Nat) (x1 : Int) (M : Mem), fMd_finds_53  R n x1 M → AW shM 2 E 53 [some (.inr 0), some (.inl x1)] [] M := by
  intro n
  induction n with
  | zero => intro x1 M hf; exact hf.elim
  | succ n hk53 =>
    intro x1 M hf
    refine a_iloadn C dX8_finds_53 rfl ?_
    refine a_aloadn C dX8_finds_54 rfl ?_
    refine a_getI C (kz := 10) fl_X8_108 rfl rfl rfl dX8_finds_55 ?_
    obtain ⟨hfa, hfb⟩ := hf
    refine a_icmp_ge C 108 dX8_finds_58 rfl (fun hc => ?_) (fun hc => ?_)
    · have hf := hfa hc
      refine a_bipush C dX8_finds_108 bp_m4 ?_
      exact a_iret C X dX8_finds_110 hf
    · have hf := hfb hc
      refine a_aloadn C dX8_finds_61 rfl ?_
      refine a_getR C 8 fl_X8_31 rfl rfl dX8_finds_62 ?_
      refine a_iloadn C dX8_finds_65 rfl ?_
      obtain ⟨hg, hf⟩ := hf
      refine a_iald C (n := 24) rfl hg dX8_finds_66 ?_
      refine a_callS C [.inl (M 8 x1)] [] dX8_finds_67 (cMd_isJump _) ms_X8_isJump ln_X8_146 ⟨rfl, rfl, Nat.le_of_ble_eq_true rfl, Nat.le_of_ble_eq_true rfl, Nat.le_of_ble_eq_true rfl⟩ hf (fun r1 M1 hf => ?_)
      obtain ⟨hfa, hfb⟩ := hf
      refine a_if_eq C 102 dX8_finds_70 rfl (fun hc => ?_) (fun hc => ?_)
      · have hf := hfa hc
        exact sMd_finds_102 C X hk53 _ _ hf
      · have hf := hfb hc
        refine a_aloadn C dX8_finds_73 rfl ?_
        refine a_getR C 9 fl_X8_34 rfl rfl dX8_finds_74 ?_
        refine a_iloadn C dX8_finds_77 rfl ?_
        obtain ⟨hg, hf⟩ := hf
        refine a_iald C (n := 24) rfl hg dX8_finds_78 ?_
        refine a_aloadn C dX8_finds_79 rfl ?_
        refine a_getI C (kz := 10) fl_X8_108 rfl rfl rfl dX8_finds_80 ?_
        obtain ⟨hfa, hfb⟩ := hf
        refine a_icmp_lt C 102 dX8_finds_83 rfl (fun hc => ?_) (fun hc => ?_)
        · have hf := hfa hc
          exact sMd_finds_102 C X hk53 _ _ hf
        · have hf := hfb hc
          refine a_aloadn C dX8_finds_86 rfl ?_
          refine a_iconst C dX8_finds_87 (inr_b rfl) ?_
          refine a_bipush C dX8_finds_88 bp_14 ?_
          refine a_iconst C dX8_finds_90 (inr_b rfl) ?_
          refine a_callV C [.inl 1, .inl 14, .inl 0] [] dX8_finds_91 (cMd_refuses _ _ _) mv_X8_refuses ln_X8_142 rfl rfl ⟨rfl, rfl, Nat.le_of_ble_eq_true rfl, Nat.le_of_ble_eq_true rfl, Nat.le_of_ble_eq_true rfl⟩ hf (fun r2 M2 hf => ?_)
          refine a_pop C dX8_finds_94 ?_
          refine a_aloadn C dX8_finds_95 rfl ?_
          refine a_getR C 10 fl_X8_37 rfl rfl dX8_finds_96 ?_
          refine a_iloadn C dX8_finds_99 rfl ?_
          obtain ⟨hg, hf⟩ := hf
          refine a_iald C (n := 24) rfl hg dX8_finds_100 ?_
          exact a_iret C X dX8_finds_101 hf
set_option maxRecDepth 20000 in
set_option maxHeartbeats 4000000 in
theorem sMd_finds_15 {E : EE} {R : Int → Mem → Prop} (C : Cx shM 2 cX8_finds RX8 3 67 E) (X : Rx shM (some .int) R E) : ∀ (n : Nat) (M : Mem), fMd_finds_15  R n M → AW shM 2 E 15 [some (.inr 0), none] [] M := by
  intro n
  induction n with
  | zero => intro  M hf; exact hf.elim
  | succ n hk15 =>
    intro  M hf
    refine a_aloadn C dX8_finds_15 rfl ?_
    refine a_getI C (kz := 14) fl_X8_121 rfl rfl rfl dX8_finds_16 ?_
    refine a_aloadn C dX8_finds_19 rfl ?_
    refine a_getI C (kz := 9) fl_X8_118 rfl rfl rfl dX8_finds_20 ?_
    obtain ⟨hfa, hfb⟩ := hf
    refine a_icmp_ge C 51 dX8_finds_23 rfl (fun hc => ?_) (fun hc => ?_)
    · have hf := hfa hc
      refine a_iconst C dX8_finds_51 (inr_b rfl) ?_
      refine a_istoren C dX8_finds_52 (by decide) (lv2 := [some (.inr 0), some (.inl 0)]) rfl ?_
      obtain ⟨n3, hf⟩ := hf
      exact sMd_finds_53 C X  n3 _ _ hf
    · have hf := hfb hc
      refine a_aloadn C dX8_finds_26 rfl ?_
      refine a_callV C [] [] dX8_finds_27 (cMd_reads) mv_X8_reads ln_X8_138 rfl rfl ⟨rfl, rfl, Nat.le_of_ble_eq_true rfl, Nat.le_of_ble_eq_true rfl, Nat.le_of_ble_eq_true rfl⟩ hf (fun r4 M4 hf => ?_)
      refine a_istoren C dX8_finds_30 (by decide) (lv2 := [some (.inr 0), some (.inl r4)]) rfl ?_
      refine a_iloadn C dX8_finds_31 rfl ?_
      obtain ⟨hfa, hfb⟩ := hf
      refine a_if_le C 48 dX8_finds_32 rfl (fun hc => ?_) (fun hc => ?_)
      · have hf := hfa hc
        refine a_goto C 15 dX8_finds_48 rfl ?_
        refine a_drop [true, false] (lv2 := [some (.inr 0), none]) rfl ?_
        exact hk15  _ hf
      · have hf := hfb hc
        refine a_aloadn C dX8_finds_35 rfl ?_
        refine a_iconst C dX8_finds_36 (inr_b rfl) ?_
        refine a_iloadn C dX8_finds_37 rfl ?_
        refine a_iconst C dX8_finds_38 (inr_b rfl) ?_
        refine a_callV C [.inl 1, .inl r4, .inl 0] [] dX8_finds_39 (cMd_refuses _ _ _) mv_X8_refuses ln_X8_142 rfl rfl ⟨rfl, rfl, Nat.le_of_ble_eq_true rfl, Nat.le_of_ble_eq_true rfl, Nat.le_of_ble_eq_true rfl⟩ hf (fun r5 M5 hf => ?_)
        refine a_pop C dX8_finds_42 ?_
        refine a_aloadn C dX8_finds_43 rfl ?_
        refine a_getI C (kz := 14) fl_X8_121 rfl rfl rfl dX8_finds_44 ?_
        exact a_iret C X dX8_finds_47 hf
set_option maxRecDepth 20000 in
set_option maxHeartbeats 4000000 in
theorem cMd_finds : Snd shM yX8_finds cX8_finds 2 (some .int) 3 67 [.inr 0] fMd_finds := by
  refine Snd.of RX8 (by decide +kernel) rfl (Nat.le_of_ble_eq_true rfl) ?_
  intro E M R hf C X
  show AW shM 2 E 0 [some (.inr 0), none] [] M
  refine a_aloadn C dX8_finds_0 rfl ?_
  refine a_iconst C dX8_finds_1 (inr_b rfl) ?_
  refine a_putI C (kz := 10) fp_X8_108 rfl rfl rfl dX8_finds_2 ?_
  refine a_aloadn C dX8_finds_5 rfl ?_
  refine a_iconst C dX8_finds_6 (inr_b rfl) ?_
  refine a_putI C (kz := 14) fp_X8_121 rfl rfl rfl dX8_finds_7 ?_
  refine a_aloadn C dX8_finds_10 rfl ?_
  refine a_iconst C dX8_finds_11 (inr_b rfl) ?_
  refine a_putI C (kz := 16) fp_X8_135 rfl rfl rfl dX8_finds_12 ?_
  obtain ⟨n6, hf⟩ := hf
  exact sMd_finds_15 C X  n6  _ hf
set_option maxRecDepth 20000 in
set_option maxHeartbeats 4000000 in
theorem cMd_fault : Snd shM yX8_fault cX8_fault 1 (some .int) 4 88 [.inr 0] fMd_fault := by
  refine Snd.of RX8 (by decide +kernel) rfl (Nat.le_of_ble_eq_true rfl) ?_
  intro E M R hf C X
  show AW shM 1 E 0 [some (.inr 0)] [] M
  refine a_aloadn C dX8_fault_0 rfl ?_
  refine a_callV C [] [] dX8_fault_1 (cMd_finds) mv_X8_finds ln_X8_149 rfl rfl ⟨rfl, rfl, Nat.le_of_ble_eq_true rfl, Nat.le_of_ble_eq_true rfl, Nat.le_of_ble_eq_true rfl⟩ hf (fun r1 M1 hf => ?_)
  exact a_iret C X dX8_fault_4 hf
set_option maxRecDepth 20000 in
set_option maxHeartbeats 4000000 in
theorem cMd_lay : Snd shM yX8_lay cX8_lay 1 (some .int) 5 113 [.inr 0] fMd_lay := by
  refine Snd.of RX8 (by decide +kernel) rfl (Nat.le_of_ble_eq_true rfl) ?_
  intro E M R hf C X
  show AW shM 1 E 0 [some (.inr 0)] [] M
  refine a_aloadn C dX8_lay_0 rfl ?_
  refine a_callV C [] [] dX8_lay_1 (cMd_finds) mv_X8_finds ln_X8_149 rfl rfl ⟨rfl, rfl, Nat.le_of_ble_eq_true rfl, Nat.le_of_ble_eq_true rfl, Nat.le_of_ble_eq_true rfl⟩ hf (fun r1 M1 hf => ?_)
  refine a_bipush C dX8_lay_4 bp_m4 ?_
  obtain ⟨hfa, hfb⟩ := hf
  refine a_icmp_eq C 12 dX8_lay_6 rfl (fun hc => ?_) (fun hc => ?_)
  · have hf := hfa hc
    refine a_aloadn C dX8_lay_12 rfl ?_
    refine a_getI C (kz := 10) fl_X8_108 rfl rfl rfl dX8_lay_13 ?_
    obtain ⟨hfa, hfb⟩ := hf
    refine a_if_ne C 27 dX8_lay_16 rfl (fun hc => ?_) (fun hc => ?_)
    · have hf := hfa hc
      refine a_aloadn C dX8_lay_27 rfl ?_
      refine a_callV C [] [] dX8_lay_28 (cMd_findsDepths) mv_X8_findsDepths ln_X8_168 rfl rfl ⟨rfl, rfl, Nat.le_of_ble_eq_true rfl, Nat.le_of_ble_eq_true rfl, Nat.le_of_ble_eq_true rfl⟩ hf (fun r2 M2 hf => ?_)
      obtain ⟨hfa, hfb⟩ := hf
      refine a_if_ne C 37 dX8_lay_31 rfl (fun hc => ?_) (fun hc => ?_)
      · have hf := hfa hc
        refine a_aloadn C dX8_lay_37 rfl ?_
        refine a_callV C [] [] dX8_lay_38 (cMd_takesProgram) mv_X8_takesProgram ln_X8_111 rfl rfl ⟨rfl, rfl, Nat.le_of_ble_eq_true rfl, Nat.le_of_ble_eq_true rfl, Nat.le_of_ble_eq_true rfl⟩ hf (fun r3 M3 hf => ?_)
        refine a_aloadn C dX8_lay_41 rfl ?_
        refine a_getI C (kz := 3) fl_X8_172 rfl rfl rfl dX8_lay_42 ?_
        exact a_iret C X dX8_lay_45 hf
      · have hf := hfb hc
        refine a_bipush C dX8_lay_34 bp_m2 ?_
        exact a_iret C X dX8_lay_36 hf
    · have hf := hfb hc
      refine a_aloadn C dX8_lay_19 rfl ?_
      refine a_iconst C dX8_lay_20 (inr_b rfl) ?_
      refine a_iconst C dX8_lay_21 (inr_b rfl) ?_
      refine a_iconst C dX8_lay_22 (inr_b rfl) ?_
      refine a_callV C [.inl 2, .inl 0, .inl 0] [] dX8_lay_23 (cMd_refuses _ _ _) mv_X8_refuses ln_X8_142 rfl rfl ⟨rfl, rfl, Nat.le_of_ble_eq_true rfl, Nat.le_of_ble_eq_true rfl, Nat.le_of_ble_eq_true rfl⟩ hf (fun r4 M4 hf => ?_)
      exact a_iret C X dX8_lay_26 hf
  · have hf := hfb hc
    refine a_bipush C dX8_lay_9 bp_m2 ?_
    exact a_iret C X dX8_lay_11 hf
set_option maxRecDepth 20000 in
set_option maxHeartbeats 4000000 in
theorem cMd_cause (x1 : Int) : Snd shM yX8_cause cX8_cause 2 (some .int) 0 0 [.inr 0, .inl x1] (fMd_cause x1) := by
  refine Snd.of RX8 (by decide +kernel) rfl (Nat.le_of_ble_eq_true rfl) ?_
  intro E M R hf C X
  show AW shM 2 E 0 [some (.inr 0), some (.inl x1)] [] M
  refine a_iloadn C dX8_cause_0 rfl ?_
  obtain ⟨hfa, hfb⟩ := hf
  refine a_if_ge C 8 dX8_cause_1 rfl (fun hc => ?_) (fun hc => ?_)
  · have hf := hfa hc
    refine a_iloadn C dX8_cause_8 rfl ?_
    refine a_aloadn C dX8_cause_9 rfl ?_
    refine a_getI C (kz := 16) fl_X8_135 rfl rfl rfl dX8_cause_10 ?_
    obtain ⟨hfa, hfb⟩ := hf
    refine a_icmp_ge C 25 dX8_cause_13 rfl (fun hc => ?_) (fun hc => ?_)
    · have hf := hfa hc
      refine a_bipush C dX8_cause_25 bp_m4 ?_
      exact a_iret C X dX8_cause_27 hf
    · have hf := hfb hc
      refine a_aloadn C dX8_cause_16 rfl ?_
      refine a_getR C 11 fl_X8_40 rfl rfl dX8_cause_17 ?_
      refine a_iloadn C dX8_cause_20 rfl ?_
      obtain ⟨hg, hf⟩ := hf
      refine a_iald C (n := 3) rfl hg dX8_cause_21 ?_
      refine a_goto C 27 dX8_cause_22 rfl ?_
      exact a_iret C X dX8_cause_27 hf
  · have hf := hfb hc
    refine a_iconst C dX8_cause_4 (inr_b rfl) ?_
    refine a_goto C 27 dX8_cause_5 rfl ?_
    exact a_iret C X dX8_cause_27 hf
set_option maxRecDepth 20000 in
set_option maxHeartbeats 4000000 in
theorem cMd_isCode (x1 : Int) : Snd shM yX8_isCode cX8_isCode 2 (some .boolean) 1 22 [.inr 0, .inl x1] (fMd_isCode x1) := by
  refine Snd.of RX8 (by decide +kernel) rfl (Nat.le_of_ble_eq_true rfl) ?_
  intro E M R hf C X
  show AW shM 2 E 0 [some (.inr 0), some (.inl x1)] [] M
  refine a_iloadn C dX8_isCode_0 rfl ?_
  refine a_iconst C dX8_isCode_1 (inr_b rfl) ?_
  refine a_aloadn C dX8_isCode_2 rfl ?_
  refine a_getI C (kz := 3) fl_X8_172 rfl rfl rfl dX8_isCode_3 ?_
  refine a_iconst C dX8_isCode_6 (inr_b rfl) ?_
  refine a_isub C dX8_isCode_7 ?_
  refine a_callS C [.inl x1, .inl 0, .inl (wrap ((M 0 3) - 1))] [] dX8_isCode_8 (cMd_in _ _ _) ms_X8_in ln_X8_114 ⟨rfl, rfl, Nat.le_of_ble_eq_true rfl, Nat.le_of_ble_eq_true rfl, Nat.le_of_ble_eq_true rfl⟩ hf (fun r1 M1 hf => ?_)
  obtain ⟨hg, hf⟩ := hf
  exact a_bret C X hg dX8_isCode_11 hf
set_option maxRecDepth 20000 in
set_option maxHeartbeats 4000000 in
theorem cMd_code (x1 x2 : Int) : Snd shM yX8_code cX8_code 3 (some .int) 2 43 [.inr 0, .inl x1, .inl x2] (fMd_code x1 x2) := by
  refine Snd.of RX8 (by decide +kernel) rfl (Nat.le_of_ble_eq_true rfl) ?_
  intro E M R hf C X
  show AW shM 3 E 0 [some (.inr 0), some (.inl x1), some (.inl x2)] [] M
  refine a_aloadn C dX8_code_0 rfl ?_
  refine a_iloadn C dX8_code_1 rfl ?_
  refine a_callV C [.inl x1] [] dX8_code_2 (cMd_isCode _) mv_X8_isCode ln_X8_185 rfl rfl ⟨rfl, rfl, Nat.le_of_ble_eq_true rfl, Nat.le_of_ble_eq_true rfl, Nat.le_of_ble_eq_true rfl⟩ hf (fun r1 M1 hf => ?_)
  obtain ⟨hfa, hfb⟩ := hf
  refine a_if_ne C 10 dX8_code_5 rfl (fun hc => ?_) (fun hc => ?_)
  · have hf := hfa hc
    refine a_iloadn C dX8_code_10 rfl ?_
    obtain ⟨hf44, hf51, hf58, hf65, hf72, hfd⟩ := hf
    by_cases hc0 : x2 = 0
    · have hc := hc0
      refine a_tsIn C 44 0 hc dX8_code_11 ⟨by decide, by decide, rfl, rfl⟩ ?_
      have hf := hf44 (hc)
      refine a_aloadn C dX8_code_44 rfl ?_
      refine a_getR C 3 fl_X8_16 rfl rfl dX8_code_45 ?_
      refine a_iloadn C dX8_code_48 rfl ?_
      obtain ⟨hg, hf⟩ := hf
      refine a_iald C (n := 24) rfl hg dX8_code_49 ?_
      exact a_iret C X dX8_code_50 hf
    by_cases hc1 : x2 = 1
    · have hc := hc1
      refine a_tsIn C 51 1 hc dX8_code_11 ⟨by decide, by decide, rfl, rfl⟩ ?_
      have hf := hf51 (hc)
      refine a_aloadn C dX8_code_51 rfl ?_
      refine a_getR C 4 fl_X8_19 rfl rfl dX8_code_52 ?_
      refine a_iloadn C dX8_code_55 rfl ?_
      obtain ⟨hg, hf⟩ := hf
      refine a_iald C (n := 24) rfl hg dX8_code_56 ?_
      exact a_iret C X dX8_code_57 hf
    by_cases hc2 : x2 = 2
    · have hc := hc2
      refine a_tsIn C 58 2 hc dX8_code_11 ⟨by decide, by decide, rfl, rfl⟩ ?_
      have hf := hf58 (hc)
      refine a_aloadn C dX8_code_58 rfl ?_
      refine a_getR C 5 fl_X8_22 rfl rfl dX8_code_59 ?_
      refine a_iloadn C dX8_code_62 rfl ?_
      obtain ⟨hg, hf⟩ := hf
      refine a_iald C (n := 24) rfl hg dX8_code_63 ?_
      exact a_iret C X dX8_code_64 hf
    by_cases hc3 : x2 = 3
    · have hc := hc3
      refine a_tsIn C 65 3 hc dX8_code_11 ⟨by decide, by decide, rfl, rfl⟩ ?_
      have hf := hf65 (hc)
      refine a_aloadn C dX8_code_65 rfl ?_
      refine a_getR C 6 fl_X8_25 rfl rfl dX8_code_66 ?_
      refine a_iloadn C dX8_code_69 rfl ?_
      obtain ⟨hg, hf⟩ := hf
      refine a_iald C (n := 24) rfl hg dX8_code_70 ?_
      exact a_iret C X dX8_code_71 hf
    by_cases hc4 : x2 = 4
    · have hc := hc4
      refine a_tsIn C 72 4 hc dX8_code_11 ⟨by decide, by decide, rfl, rfl⟩ ?_
      have hf := hf72 (hc)
      refine a_aloadn C dX8_code_72 rfl ?_
      refine a_getR C 1 fl_X8_7 rfl rfl dX8_code_73 ?_
      refine a_iconst C dX8_code_76 (inr_b rfl) ?_
      refine a_iloadn C dX8_code_77 rfl ?_
      refine a_iadd C dX8_code_78 ?_
      obtain ⟨hg, hf⟩ := hf
      refine a_iald C (n := 28) rfl hg dX8_code_79 ?_
      exact a_iret C X dX8_code_80 hf
    have hco : x2 < 0 ∨ 4 < x2 := by omega
    refine a_tsOut C 81 dX8_code_11 hco rfl ?_
    have hf := hfd (by omega)
    refine a_iconst C dX8_code_81 (inr_b rfl) ?_
    exact a_iret C X dX8_code_82 hf
  · have hf := hfb hc
    refine a_iconst C dX8_code_8 (inr_b rfl) ?_
    exact a_iret C X dX8_code_9 hf
set_option maxRecDepth 20000 in
set_option maxHeartbeats 4000000 in
theorem cMd_forgets : Snd shM yX8_forgets cX8_forgets 1 none 0 0 [.inr 0] fMd_forgets := by
  refine Snd.of RX8 (by decide +kernel) rfl (Nat.le_of_ble_eq_true rfl) ?_
  intro E M R hf C X
  show AW shM 1 E 0 [some (.inr 0)] [] M
  refine a_aloadn C dX8_forgets_0 rfl ?_
  refine a_iconst C dX8_forgets_1 (inr_b rfl) ?_
  refine a_putZ C (kz := 43) fp_X8_178 (Or.inl rfl) rfl rfl rfl dX8_forgets_2 ?_
  refine a_aloadn C dX8_forgets_5 rfl ?_
  refine a_iconst C dX8_forgets_6 (inr_b rfl) ?_
  refine a_putZ C (kz := 31) fp_X8_182 (Or.inl rfl) rfl rfl rfl dX8_forgets_7 ?_
  refine a_aloadn C dX8_forgets_10 rfl ?_
  refine a_iconst C dX8_forgets_11 (inr_b rfl) ?_
  refine a_putZ C (kz := 27) fp_X8_191 (Or.inl rfl) rfl rfl rfl dX8_forgets_12 ?_
  exact a_vret C X dX8_forgets_15 hf
set_option maxRecDepth 20000 in
set_option maxHeartbeats 4000000 in
theorem sMd_notes_52 {E : EE} {R : Int → Mem → Prop} (C : Cx shM 2 cX8_notes RX8 1 20 E) (X : Rx shM none R E) : ∀ (n : Nat) (x1 : Int) (M : Mem), fMd_notes_52  R n x1 M → AW shM 2 E 52 [some (.inr 0), some (.inl x1)] [] M := by
  intro n
  induction n with
  | zero => intro x1 M hf; exact hf.elim
  | succ n hk52 =>
    intro x1 M hf
    refine a_iloadn C dX8_notes_52 rfl ?_
    refine a_bipush C dX8_notes_53 bp_28 ?_
    obtain ⟨hfa, hfb⟩ := hf
    refine a_icmp_ge C 84 dX8_notes_55 rfl (fun hc => ?_) (fun hc => ?_)
    · have hf := hfa hc
      refine a_aloadn C dX8_notes_84 rfl ?_
      refine a_dup C dX8_notes_85 ?_
      refine a_getI C (kz := 2) fl_X8_175 rfl rfl rfl dX8_notes_86 ?_
      refine a_iconst C dX8_notes_89 (inr_b rfl) ?_
      refine a_iadd C dX8_notes_90 ?_
      refine a_putI C (kz := 2) fp_X8_175 rfl rfl rfl dX8_notes_91 ?_
      refine a_aloadn C dX8_notes_94 rfl ?_
      refine a_callV C [] [] dX8_notes_95 (cMd_forgets) mv_X8_forgets ln_X8_188 rfl rfl ⟨rfl, rfl, Nat.le_of_ble_eq_true rfl, Nat.le_of_ble_eq_true rfl, Nat.le_of_ble_eq_true rfl⟩ hf (fun r1 M1 hf => ?_)
      exact a_vret C X dX8_notes_98 hf
    · have hf := hfb hc
      refine a_aloadn C dX8_notes_58 rfl ?_
      refine a_getR C 2 fl_X8_13 rfl rfl dX8_notes_59 ?_
      refine a_bipush C dX8_notes_62 bp_28 ?_
      refine a_aloadn C dX8_notes_64 rfl ?_
      refine a_getI C (kz := 2) fl_X8_175 rfl rfl rfl dX8_notes_65 ?_
      refine a_imul C dX8_notes_68 ?_
      refine a_iloadn C dX8_notes_69 rfl ?_
      refine a_iadd C dX8_notes_70 ?_
      refine a_aloadn C dX8_notes_71 rfl ?_
      refine a_getR C 1 fl_X8_7 rfl rfl dX8_notes_72 ?_
      refine a_iloadn C dX8_notes_75 rfl ?_
      obtain ⟨hg, hf⟩ := hf
      refine a_iald C (n := 28) rfl hg dX8_notes_76 ?_
      obtain ⟨hg, hf⟩ := hf
      refine a_iast C (n := 168) rfl hg dX8_notes_77 ?_
      refine a_iinc C dX8_notes_78 rfl (by decide) (lv2 := [some (.inr 0), some (.inl (wrap (x1 + 1)))]) rfl ?_
      refine a_goto C 52 dX8_notes_81 rfl ?_
      exact hk52 _ _ hf
set_option maxRecDepth 20000 in
set_option maxHeartbeats 4000000 in
theorem sMd_notes_50 {E : EE} {R : Int → Mem → Prop} (C : Cx shM 2 cX8_notes RX8 1 20 E) (X : Rx shM none R E) (M : Mem) (hf : fMd_notes_50  R M) : AW shM 2 E 50 [some (.inr 0), none] [] M := by
  refine a_iconst C dX8_notes_50 (inr_b rfl) ?_
  refine a_istoren C dX8_notes_51 (by decide) (lv2 := [some (.inr 0), some (.inl 0)]) rfl ?_
  obtain ⟨n2, hf⟩ := hf
  exact sMd_notes_52 C X  n2 _ _ hf
set_option maxRecDepth 20000 in
set_option maxHeartbeats 4000000 in
theorem sMd_notes_12 {E : EE} {R : Int → Mem → Prop} (C : Cx shM 2 cX8_notes RX8 1 20 E) (X : Rx shM none R E) : ∀ (n : Nat) (x1 : Int) (M : Mem), fMd_notes_12  R n x1 M → AW shM 2 E 12 [some (.inr 0), some (.inl x1)] [] M := by
  intro n
  induction n with
  | zero => intro x1 M hf; exact hf.elim
  | succ n hk12 =>
    intro x1 M hf
    refine a_iloadn C dX8_notes_12 rfl ?_
    refine a_sipush C dX8_notes_13 sp_168 ?_
    obtain ⟨hfa, hfb⟩ := hf
    refine a_icmp_ge C 40 dX8_notes_16 rfl (fun hc => ?_) (fun hc => ?_)
    · have hf := hfa hc
      refine a_aloadn C dX8_notes_40 rfl ?_
      refine a_dup C dX8_notes_41 ?_
      refine a_getI C (kz := 2) fl_X8_175 rfl rfl rfl dX8_notes_42 ?_
      refine a_iconst C dX8_notes_45 (inr_b rfl) ?_
      refine a_isub C dX8_notes_46 ?_
      refine a_putI C (kz := 2) fp_X8_175 rfl rfl rfl dX8_notes_47 ?_
      refine a_drop [true, false] (lv2 := [some (.inr 0), none]) rfl ?_
      exact sMd_notes_50 C X   _ hf
    · have hf := hfb hc
      refine a_aloadn C dX8_notes_19 rfl ?_
      refine a_getR C 2 fl_X8_13 rfl rfl dX8_notes_20 ?_
      refine a_iloadn C dX8_notes_23 rfl ?_
      refine a_bipush C dX8_notes_24 bp_28 ?_
      refine a_isub C dX8_notes_26 ?_
      refine a_aloadn C dX8_notes_27 rfl ?_
      refine a_getR C 2 fl_X8_13 rfl rfl dX8_notes_28 ?_
      refine a_iloadn C dX8_notes_31 rfl ?_
      obtain ⟨hg, hf⟩ := hf
      refine a_iald C (n := 168) rfl hg dX8_notes_32 ?_
      obtain ⟨hg, hf⟩ := hf
      refine a_iast C (n := 168) rfl hg dX8_notes_33 ?_
      refine a_iinc C dX8_notes_34 rfl (by decide) (lv2 := [some (.inr 0), some (.inl (wrap (x1 + 1)))]) rfl ?_
      refine a_goto C 12 dX8_notes_37 rfl ?_
      exact hk12 _ _ hf
set_option maxRecDepth 20000 in
set_option maxHeartbeats 4000000 in
theorem cMd_notes : Snd shM yX8_notes cX8_notes 2 none 1 20 [.inr 0] fMd_notes := by
  refine Snd.of RX8 (by decide +kernel) rfl (Nat.le_of_ble_eq_true rfl) ?_
  intro E M R hf C X
  show AW shM 2 E 0 [some (.inr 0), none] [] M
  refine a_aloadn C dX8_notes_0 rfl ?_
  refine a_getI C (kz := 2) fl_X8_175 rfl rfl rfl dX8_notes_1 ?_
  refine a_bipush C dX8_notes_4 bp_6 ?_
  obtain ⟨hfa, hfb⟩ := hf
  refine a_icmp_ne C 50 dX8_notes_6 rfl (fun hc => ?_) (fun hc => ?_)
  · have hf := hfa hc
    exact sMd_notes_50 C X   _ hf
  · have hf := hfb hc
    refine a_bipush C dX8_notes_9 bp_28 ?_
    refine a_istoren C dX8_notes_11 (by decide) (lv2 := [some (.inr 0), some (.inl 28)]) rfl ?_
    obtain ⟨n3, hf⟩ := hf
    exact sMd_notes_12 C X  n3 _ _ hf
set_option maxRecDepth 20000 in
set_option maxHeartbeats 4000000 in
theorem cMd_registers (x1 : Int) : Snd shM yX8_registers cX8_registers 3 (some .int) 2 41 [.inr 0, .inl x1] (fMd_registers x1) := by
  refine Snd.of RX8 (by decide +kernel) rfl (Nat.le_of_ble_eq_true rfl) ?_
  intro E M R hf C X
  show AW shM 3 E 0 [some (.inr 0), some (.inl x1), none] [] M
  refine a_iloadn C dX8_registers_0 rfl ?_
  refine a_iconst C dX8_registers_1 (inr_b rfl) ?_
  refine a_iconst C dX8_registers_2 (inr_b rfl) ?_
  refine a_callS C [.inl x1, .inl 1, .inl 3] [] dX8_registers_3 (cMd_in _ _ _) ms_X8_in ln_X8_114 ⟨rfl, rfl, Nat.le_of_ble_eq_true rfl, Nat.le_of_ble_eq_true rfl, Nat.le_of_ble_eq_true rfl⟩ hf (fun r1 M1 hf => ?_)
  obtain ⟨hfa, hfb⟩ := hf
  refine a_if_ne C 11 dX8_registers_6 rfl (fun hc => ?_) (fun hc => ?_)
  · have hf := hfa hc
    refine a_aloadn C dX8_registers_11 rfl ?_
    refine a_getR C 1 fl_X8_7 rfl rfl dX8_registers_12 ?_
    refine a_iconst C dX8_registers_15 (inr_b rfl) ?_
    refine a_iald C (n := 28) rfl (inb_b rfl) dX8_registers_16 ?_
    refine a_istoren C dX8_registers_17 (by decide) (lv2 := [some (.inr 0), some (.inl x1), some (.inl (M1 1 0))]) rfl ?_
    refine a_iloadn C dX8_registers_18 rfl ?_
    refine a_iloadn C dX8_registers_19 rfl ?_
    obtain ⟨hfa, hfb⟩ := hf
    refine a_icmp_ne C 26 dX8_registers_20 rfl (fun hc => ?_) (fun hc => ?_)
    · have hf := hfa hc
      refine a_aloadn C dX8_registers_26 rfl ?_
      refine a_callV C [] [] dX8_registers_27 (cMd_notes) mv_X8_notes ln_X8_194 rfl rfl ⟨rfl, rfl, Nat.le_of_ble_eq_true rfl, Nat.le_of_ble_eq_true rfl, Nat.le_of_ble_eq_true rfl⟩ hf (fun r2 M2 hf => ?_)
      refine a_aloadn C dX8_registers_30 rfl ?_
      refine a_getR C 1 fl_X8_7 rfl rfl dX8_registers_31 ?_
      refine a_iconst C dX8_registers_34 (inr_b rfl) ?_
      refine a_iloadn C dX8_registers_35 rfl ?_
      refine a_iast C (n := 28) rfl (inb_b rfl) dX8_registers_36 ?_
      refine a_iloadn C dX8_registers_37 rfl ?_
      exact a_iret C X dX8_registers_38 hf
    · have hf := hfb hc
      refine a_bipush C dX8_registers_23 bp_m2 ?_
      exact a_iret C X dX8_registers_25 hf
  · have hf := hfb hc
    refine a_iconst C dX8_registers_9 (inr_b rfl) ?_
    exact a_iret C X dX8_registers_10 hf
set_option maxRecDepth 20000 in
set_option maxHeartbeats 4000000 in
theorem cMd_costs (x1 x2 x3 : Int) : Snd shM yX8_costs cX8_costs 5 (some .int) 2 41 [.inr 0, .inl x1, .inl x2, .inl x3] (fMd_costs x1 x2 x3) := by
  refine Snd.of RX8 (by decide +kernel) rfl (Nat.le_of_ble_eq_true rfl) ?_
  intro E M R hf C X
  show AW shM 5 E 0 [some (.inr 0), some (.inl x1), some (.inl x2), some (.inl x3), none] [] M
  refine a_iloadn C dX8_costs_0 rfl ?_
  refine a_iconst C dX8_costs_1 (inr_b rfl) ?_
  refine a_bipush C dX8_costs_2 bp_9 ?_
  refine a_callS C [.inl x1, .inl 0, .inl 9] [] dX8_costs_4 (cMd_in _ _ _) ms_X8_in ln_X8_114 ⟨rfl, rfl, Nat.le_of_ble_eq_true rfl, Nat.le_of_ble_eq_true rfl, Nat.le_of_ble_eq_true rfl⟩ hf (fun r1 M1 hf => ?_)
  obtain ⟨hfa, hfb⟩ := hf
  refine a_if_eq C 30 dX8_costs_7 rfl (fun hc => ?_) (fun hc => ?_)
  · have hf := hfa hc
    refine a_iconst C dX8_costs_30 (inr_b rfl) ?_
    exact a_iret C X dX8_costs_31 hf
  · have hf := hfb hc
    refine a_iloadn C dX8_costs_10 rfl ?_
    refine a_iconst C dX8_costs_11 (inr_b rfl) ?_
    refine a_bipush C dX8_costs_12 bp_9 ?_
    refine a_callS C [.inl x2, .inl 0, .inl 9] [] dX8_costs_14 (cMd_in _ _ _) ms_X8_in ln_X8_114 ⟨rfl, rfl, Nat.le_of_ble_eq_true rfl, Nat.le_of_ble_eq_true rfl, Nat.le_of_ble_eq_true rfl⟩ hf (fun r2 M2 hf => ?_)
    obtain ⟨hfa, hfb⟩ := hf
    refine a_if_eq C 30 dX8_costs_17 rfl (fun hc => ?_) (fun hc => ?_)
    · have hf := hfa hc
      refine a_iconst C dX8_costs_30 (inr_b rfl) ?_
      exact a_iret C X dX8_costs_31 hf
    · have hf := hfb hc
      refine a_iloadn C dX8_costs_20 rfl ?_
      refine a_iconst C dX8_costs_21 (inr_b rfl) ?_
      refine a_bipush C dX8_costs_22 bp_9 ?_
      refine a_callS C [.inl x3, .inl 0, .inl 9] [] dX8_costs_24 (cMd_in _ _ _) ms_X8_in ln_X8_114 ⟨rfl, rfl, Nat.le_of_ble_eq_true rfl, Nat.le_of_ble_eq_true rfl, Nat.le_of_ble_eq_true rfl⟩ hf (fun r3 M3 hf => ?_)
      obtain ⟨hfa, hfb⟩ := hf
      refine a_if_ne C 32 dX8_costs_27 rfl (fun hc => ?_) (fun hc => ?_)
      · have hf := hfa hc
        refine a_bipush C dX8_costs_32 bp_100 ?_
        refine a_aloadn C dX8_costs_34 rfl ?_
        refine a_getR C 1 fl_X8_7 rfl rfl dX8_costs_35 ?_
        refine a_iconst C dX8_costs_38 (inr_b rfl) ?_
        refine a_iald C (n := 28) rfl (inb_b rfl) dX8_costs_39 ?_
        refine a_imul C dX8_costs_40 ?_
        refine a_bipush C dX8_costs_41 bp_10 ?_
        refine a_aloadn C dX8_costs_43 rfl ?_
        refine a_getR C 1 fl_X8_7 rfl rfl dX8_costs_44 ?_
        refine a_iconst C dX8_costs_47 (inr_b rfl) ?_
        refine a_iald C (n := 28) rfl (inb_b rfl) dX8_costs_48 ?_
        refine a_imul C dX8_costs_49 ?_
        refine a_iadd C dX8_costs_50 ?_
        refine a_aloadn C dX8_costs_51 rfl ?_
        refine a_getR C 1 fl_X8_7 rfl rfl dX8_costs_52 ?_
        refine a_iconst C dX8_costs_55 (inr_b rfl) ?_
        refine a_iald C (n := 28) rfl (inb_b rfl) dX8_costs_56 ?_
        refine a_iadd C dX8_costs_57 ?_
        refine a_istore C dX8_costs_58 (by decide) (lv2 := [some (.inr 0), some (.inl x1), some (.inl x2), some (.inl x3), some (.inl (wrap ((wrap ((wrap (100 * (M3 1 1))) + (wrap (10 * (M3 1 2))))) + (M3 1 3))))]) rfl ?_
        refine a_iload C dX8_costs_60 rfl ?_
        refine a_bipush C dX8_costs_62 bp_100 ?_
        refine a_iloadn C dX8_costs_64 rfl ?_
        refine a_imul C dX8_costs_65 ?_
        refine a_bipush C dX8_costs_66 bp_10 ?_
        refine a_iloadn C dX8_costs_68 rfl ?_
        refine a_imul C dX8_costs_69 ?_
        refine a_iadd C dX8_costs_70 ?_
        refine a_iloadn C dX8_costs_71 rfl ?_
        refine a_iadd C dX8_costs_72 ?_
        obtain ⟨hfa, hfb⟩ := hf
        refine a_icmp_ne C 79 dX8_costs_73 rfl (fun hc => ?_) (fun hc => ?_)
        · have hf := hfa hc
          refine a_aloadn C dX8_costs_79 rfl ?_
          refine a_callV C [] [] dX8_costs_80 (cMd_notes) mv_X8_notes ln_X8_194 rfl rfl ⟨rfl, rfl, Nat.le_of_ble_eq_true rfl, Nat.le_of_ble_eq_true rfl, Nat.le_of_ble_eq_true rfl⟩ hf (fun r4 M4 hf => ?_)
          refine a_aloadn C dX8_costs_83 rfl ?_
          refine a_getR C 1 fl_X8_7 rfl rfl dX8_costs_84 ?_
          refine a_iconst C dX8_costs_87 (inr_b rfl) ?_
          refine a_iloadn C dX8_costs_88 rfl ?_
          refine a_iast C (n := 28) rfl (inb_b rfl) dX8_costs_89 ?_
          refine a_aloadn C dX8_costs_90 rfl ?_
          refine a_getR C 1 fl_X8_7 rfl rfl dX8_costs_91 ?_
          refine a_iconst C dX8_costs_94 (inr_b rfl) ?_
          refine a_iloadn C dX8_costs_95 rfl ?_
          refine a_iast C (n := 28) rfl (inb_b rfl) dX8_costs_96 ?_
          refine a_aloadn C dX8_costs_97 rfl ?_
          refine a_getR C 1 fl_X8_7 rfl rfl dX8_costs_98 ?_
          refine a_iconst C dX8_costs_101 (inr_b rfl) ?_
          refine a_iloadn C dX8_costs_102 rfl ?_
          refine a_iast C (n := 28) rfl (inb_b rfl) dX8_costs_103 ?_
          refine a_iload C dX8_costs_104 rfl ?_
          exact a_iret C X dX8_costs_106 hf
        · have hf := hfb hc
          refine a_bipush C dX8_costs_76 bp_m2 ?_
          exact a_iret C X dX8_costs_78 hf
      · have hf := hfb hc
        refine a_iconst C dX8_costs_30 (inr_b rfl) ?_
        exact a_iret C X dX8_costs_31 hf
set_option maxRecDepth 20000 in
set_option maxHeartbeats 4000000 in
theorem cMd_weigh (x1 x2 : Int) : Snd shM yX8_weigh cX8_weigh 4 (some .int) 2 43 [.inr 0, .inl x1, .inl x2] (fMd_weigh x1 x2) := by
  refine Snd.of RX8 (by decide +kernel) rfl (Nat.le_of_ble_eq_true rfl) ?_
  intro E M R hf C X
  show AW shM 4 E 0 [some (.inr 0), some (.inl x1), some (.inl x2), none] [] M
  refine a_aloadn C dX8_weigh_0 rfl ?_
  refine a_iloadn C dX8_weigh_1 rfl ?_
  refine a_callV C [.inl x1] [] dX8_weigh_2 (cMd_isCode _) mv_X8_isCode ln_X8_185 rfl rfl ⟨rfl, rfl, Nat.le_of_ble_eq_true rfl, Nat.le_of_ble_eq_true rfl, Nat.le_of_ble_eq_true rfl⟩ hf (fun r1 M1 hf => ?_)
  obtain ⟨hfa, hfb⟩ := hf
  refine a_if_eq C 19 dX8_weigh_5 rfl (fun hc => ?_) (fun hc => ?_)
  · have hf := hfa hc
    refine a_iconst C dX8_weigh_19 (inr_b rfl) ?_
    exact a_iret C X dX8_weigh_20 hf
  · have hf := hfb hc
    refine a_iloadn C dX8_weigh_8 rfl ?_
    refine a_iconst C dX8_weigh_9 (inr_b rfl) ?_
    refine a_sipush C dX8_weigh_10 sp_999 ?_
    refine a_callS C [.inl x2, .inl 1, .inl 999] [] dX8_weigh_13 (cMd_in _ _ _) ms_X8_in ln_X8_114 ⟨rfl, rfl, Nat.le_of_ble_eq_true rfl, Nat.le_of_ble_eq_true rfl, Nat.le_of_ble_eq_true rfl⟩ hf (fun r2 M2 hf => ?_)
    obtain ⟨hfa, hfb⟩ := hf
    refine a_if_ne C 21 dX8_weigh_16 rfl (fun hc => ?_) (fun hc => ?_)
    · have hf := hfa hc
      refine a_aloadn C dX8_weigh_21 rfl ?_
      refine a_getR C 1 fl_X8_7 rfl rfl dX8_weigh_22 ?_
      refine a_iconst C dX8_weigh_25 (inr_b rfl) ?_
      refine a_iloadn C dX8_weigh_26 rfl ?_
      refine a_iadd C dX8_weigh_27 ?_
      obtain ⟨hg, hf⟩ := hf
      refine a_iald C (n := 28) rfl hg dX8_weigh_28 ?_
      refine a_istoren C dX8_weigh_29 (by decide) (lv2 := [some (.inr 0), some (.inl x1), some (.inl x2), some (.inl (M2 1 (wrap (4 + x1))))]) rfl ?_
      refine a_iloadn C dX8_weigh_30 rfl ?_
      refine a_iloadn C dX8_weigh_31 rfl ?_
      obtain ⟨hfa, hfb⟩ := hf
      refine a_icmp_ne C 38 dX8_weigh_32 rfl (fun hc => ?_) (fun hc => ?_)
      · have hf := hfa hc
        refine a_aloadn C dX8_weigh_38 rfl ?_
        refine a_callV C [] [] dX8_weigh_39 (cMd_notes) mv_X8_notes ln_X8_194 rfl rfl ⟨rfl, rfl, Nat.le_of_ble_eq_true rfl, Nat.le_of_ble_eq_true rfl, Nat.le_of_ble_eq_true rfl⟩ hf (fun r3 M3 hf => ?_)
        refine a_aloadn C dX8_weigh_42 rfl ?_
        refine a_getR C 1 fl_X8_7 rfl rfl dX8_weigh_43 ?_
        refine a_iconst C dX8_weigh_46 (inr_b rfl) ?_
        refine a_iloadn C dX8_weigh_47 rfl ?_
        refine a_iadd C dX8_weigh_48 ?_
        refine a_iloadn C dX8_weigh_49 rfl ?_
        obtain ⟨hg, hf⟩ := hf
        refine a_iast C (n := 28) rfl hg dX8_weigh_50 ?_
        refine a_iloadn C dX8_weigh_51 rfl ?_
        exact a_iret C X dX8_weigh_52 hf
      · have hf := hfb hc
        refine a_bipush C dX8_weigh_35 bp_m2 ?_
        exact a_iret C X dX8_weigh_37 hf
    · have hf := hfb hc
      refine a_iconst C dX8_weigh_19 (inr_b rfl) ?_
      exact a_iret C X dX8_weigh_20 hf
