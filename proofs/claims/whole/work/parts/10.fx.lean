def fStr_checkIndex (i n : Int) (M : Mem) (R : Int → Mem → Prop) : Prop := (0 ≤ i ∧ i < n) ∧ R 0 M
def fStr_coder_110 (M : Mem) (R : Int → Mem → Prop) : Prop := (((1 : Int) = 0 → R 1 M) ∧ (¬ (1 : Int) = 0 → R 0 M))
def fStr_length_110 (M : Mem) (R : Int → Mem → Prop) : Prop := fStr_coder_110 M (fun r1 M1 => R (b_ishr 31 r1) M1)
def fStr_isLatin1_110_17 (R : Int → Mem → Prop) (M : Mem) : Prop := R 0 M
def fStr_isLatin1_110 (M : Mem) (R : Int → Mem → Prop) : Prop := (((1 : Int) = 0 → fStr_isLatin1_110_17  R M) ∧ (¬ (1 : Int) = 0 → (((0 : Int) ≠ 0 → fStr_isLatin1_110_17  R M) ∧ ((0 : Int) = 0 → R 1 M))))
def fLat_charAt_120 (x1 : Int) (M : Mem) (R : Int → Mem → Prop) : Prop := fStr_checkIndex x1 31 M (fun r1 M1 => (inb x1 31 ∧ ((0 ≤ (b_i2c (b_iand (roV 110 x1) 255)) ∧ (b_i2c (b_iand (roV 110 x1) 255)) < 65536) ∧ R (b_i2c (b_iand (roV 110 x1) 255)) M1)))
def fStr_charAt_110 (x1 : Int) (M : Mem) (R : Int → Mem → Prop) : Prop := fStr_isLatin1_110 M (fun r1 M1 => ((r1 = 0 → False) ∧ (¬ r1 = 0 → fLat_charAt_120 x1 M1 (fun r2 M2 => ((0 ≤ r2 ∧ r2 < 65536) ∧ R r2 M2)))))
def fTe_append (x1 : Int) (M : Mem) (R : Int → Mem → Prop) : Prop := ((200 ≤ (M 1 1) → R 0 M) ∧ (¬ 200 ≤ (M 1 1) → (inb (M 1 1) 200 ∧ R 0 (mu (mu M 1 1 (wrap ((M 1 1) + 1))) 2 (M 1 1) x1))))
def fTe_empty (M : Mem) (R : Int → Mem → Prop) : Prop := R (M 1 1) (mu M 1 1 0)
def fPr_leads_p_22 (R : Int → Mem → Prop) (M : Mem) : Prop := R 1 M
def fPr_leads_p (x1 : Int) (M : Mem) (R : Int → Mem → Prop) : Prop := (inb x1 24 ∧ (((M 14 x1) = 11 → fPr_leads_p_22  R M) ∧ (¬ (M 14 x1) = 11 → (inb x1 24 ∧ (((M 14 x1) ≠ 12 → R 0 M) ∧ ((M 14 x1) = 12 → fPr_leads_p_22  R M))))))
def fCa_append (x1 : Int) (M : Mem) (R : Int → Mem → Prop) : Prop := ((3 ≤ (M 3 1) → R 0 M) ∧ (¬ 3 ≤ (M 3 1) → (inb (M 3 1) 3 ∧ R 0 (mu (mu M 3 1 (wrap ((M 3 1) + 1))) 4 (M 3 1) x1))))
def fPr_faulty (x0 x1 : Int) (M : Mem) (R : Int → Mem → Prop) : Prop := fCa_append 1 M (fun r1 M1 => fCa_append x1 M1 (fun r2 M2 => R x0 M2))
def fTe_letterAt_21 (R : Int → Mem → Prop) (M : Mem) : Prop := R 0 M
def fTe_letterAt (x1 : Int) (M : Mem) (R : Int → Mem → Prop) : Prop := ((x1 < 0 → fTe_letterAt_21  R M) ∧ (¬ x1 < 0 → (((M 1 1) ≤ x1 → fTe_letterAt_21  R M) ∧ (¬ (M 1 1) ≤ x1 → (inb x1 200 ∧ R (M 2 x1) M)))))
def fStr_isLatin1_111_17 (R : Int → Mem → Prop) (M : Mem) : Prop := R 0 M
def fStr_isLatin1_111 (M : Mem) (R : Int → Mem → Prop) : Prop := (((1 : Int) = 0 → fStr_isLatin1_111_17  R M) ∧ (¬ (1 : Int) = 0 → (((0 : Int) ≠ 0 → fStr_isLatin1_111_17  R M) ∧ ((0 : Int) = 0 → R 1 M))))
def fStr_coder_111 (M : Mem) (R : Int → Mem → Prop) : Prop := (((1 : Int) = 0 → R 1 M) ∧ (¬ (1 : Int) = 0 → R 0 M))
def fStr_length_111 (M : Mem) (R : Int → Mem → Prop) : Prop := fStr_coder_111 M (fun r1 M1 => R (b_ishr 15 r1) M1)
def fLat_canEncode_15 (R : Int → Mem → Prop) (M : Mem) : Prop := R 0 M
def fLat_canEncode (x0 : Int) (M : Mem) (R : Int → Mem → Prop) : Prop := ((x0 < 0 → fLat_canEncode_15  R M) ∧ (¬ x0 < 0 → ((255 < x0 → fLat_canEncode_15  R M) ∧ (¬ 255 < x0 → R 1 M))))
def fMath_max (x0 x1 : Int) (M : Mem) (R : Int → Mem → Prop) : Prop := ((x0 < x1 → R x1 M) ∧ (¬ x0 < x1 → R x0 M))
def fMath_min (x0 x1 : Int) (M : Mem) (R : Int → Mem → Prop) : Prop := ((x1 < x0 → R x1 M) ∧ (¬ x1 < x0 → R x0 M))
def fLat_indexOfChar_121_7 (R : Int → Mem → Prop) : Nat → Int → Int → Int → Mem → Prop
  | 0 => fun _ _ _ _ => False
  | n + 1 => fun x3 x4 x5 M => ((x3 ≤ x5 → R (-1) M) ∧ (¬ x3 ≤ x5 → (inb x5 15 ∧ (((roV 111 x5) ≠ x4 → (fLat_indexOfChar_121_7 R n) x3 x4 (wrap (x5 + 1)) M) ∧ ((roV 111 x5) = x4 → R x5 M)))))
def fLat_indexOfChar_121 (x1 x2 x3 : Int) (M : Mem) (R : Int → Mem → Prop) : Prop := ∃ n1, fLat_indexOfChar_121_7  R n1 x3 (b_i2b x1) x2 M
def fLat_indexOf_121 (x1 x2 x3 : Int) (M : Mem) (R : Int → Mem → Prop) : Prop := fLat_canEncode x1 M (fun r1 M1 => ((r1 ≠ 0 → fMath_max x2 0 M1 (fun r2 M2 => fMath_min x3 15 M2 (fun r3 M3 => ((r2 < r3 → fLat_indexOfChar_121 x1 r2 r3 M3 (fun r4 M4 => R r4 M4)) ∧ (¬ r2 < r3 → R (-1) M3))))) ∧ (r1 = 0 → R (-1) M1)))
def fStr_indexOf2_111 (x1 x2 : Int) (M : Mem) (R : Int → Mem → Prop) : Prop := fStr_isLatin1_111 M (fun r1 M1 => ((r1 = 0 → fStr_length_111 M1 (fun r2 M2 => False)) ∧ (¬ r1 = 0 → fStr_length_111 M1 (fun r3 M3 => fLat_indexOf_121 x1 x2 r3 M3 (fun r4 M4 => R r4 M4)))))
def fStr_indexOf_111 (x1 : Int) (M : Mem) (R : Int → Mem → Prop) : Prop := fStr_indexOf2_111 x1 0 M (fun r1 M1 => R r1 M1)
def fTe_hasDigitAt_24 (R : Int → Mem → Prop) (M : Mem) : Prop := R 0 M
def fTe_hasDigitAt (x1 : Int) (M : Mem) (R : Int → Mem → Prop) : Prop := fTe_letterAt x1 M (fun r1 M1 => ((r1 < 48 → fTe_hasDigitAt_24  R M1) ∧ (¬ r1 < 48 → fTe_letterAt x1 M1 (fun r2 M2 => ((57 < r2 → fTe_hasDigitAt_24  R M2) ∧ (¬ 57 < r2 → R 1 M2))))))
def fPr_parseInstruction_p_107 (R : Int → Mem → Prop) (x2 x3 x4 : Int) (M : Mem) : Prop := (inb (M 13 6) 24 ∧ (inb (M 13 6) 24 ∧ (inb (M 13 6) 24 ∧ R (-4) (mu (mu (mu (mu M 14 (M 13 6) x3) 15 (M 13 6) x4) 16 (M 13 6) x2) 13 6 (wrap ((M 13 6) + 1))))))
def fPr_parseInstruction_p_98 (R : Int → Mem → Prop) (x2 x3 x4 : Int) (M : Mem) : Prop := ((x4 < 4 → fPr_parseInstruction_p_107  R x2 x3 x4 M) ∧ (¬ x4 < 4 → R 12 M))
def fPr_parseInstruction_p_37 (R : Int → Mem → Prop) : Nat → Int → Int → Int → Int → Mem → Prop
  | 0 => fun _ _ _ _ _ => False
  | n + 1 => fun x2 x3 x4 x5 M => (inb x3 15 ∧ (((roV 102 x3) < x5 → ((x3 = 9 → fPr_parseInstruction_p_98  R x2 x3 x4 M) ∧ (¬ x3 = 9 → ((x3 ≠ 10 → fPr_parseInstruction_p_107  R x2 x3 x4 M) ∧ (x3 = 10 → fPr_parseInstruction_p_98  R x2 x3 x4 M))))) ∧ (¬ (roV 102 x3) < x5 → fTe_hasDigitAt (wrap (x2 + x5)) M (fun r3 M3 => ((r3 ≠ 0 → fTe_letterAt (wrap (x2 + x5)) M3 (fun r4 M4 => (fPr_parseInstruction_p_37 R n) x2 x3 (wrap ((wrap ((wrap (10 * x4)) + r4)) - 48)) (wrap (x5 + 1)) M4)) ∧ (r3 = 0 → R 11 M3))))))
def fPr_parseInstruction_p (x2 : Int) (M : Mem) (R : Int → Mem → Prop) : Prop := (((M 13 6) ≠ 24 → fTe_letterAt x2 M (fun r1 M1 => fStr_indexOf_111 (b_i2c r1) M1 (fun r2 M2 => ((0 ≤ r2 → ∃ n5, fPr_parseInstruction_p_37  R n5 x2 r2 0 1 M2) ∧ (¬ 0 ≤ r2 → R 10 M2))))) ∧ ((M 13 6) = 24 → R 13 M))
def fPr_parse_p_128 (k82 : Int → Mem → Prop) (R : Int → Mem → Prop) (x4 : Int) (M : Mem) : Prop := k82 (wrap (x4 + 1)) M
def fPr_parse_p_82 (R : Int → Mem → Prop) : Nat → Int → Mem → Prop
  | 0 => fun _ _ => False
  | n + 1 => fun x4 M => (((M 13 6) ≤ x4 → R (-4) M) ∧ (¬ (M 13 6) ≤ x4 → fPr_leads_p x4 M (fun r1 M1 => ((r1 = 0 → fPr_parse_p_128 (fPr_parse_p_82 R n) R x4 M1) ∧ (¬ r1 = 0 → (inb x4 24 ∧ (((M1 15 x4) < (M1 13 6) → fPr_parse_p_128 (fPr_parse_p_82 R n) R x4 M1) ∧ (¬ (M1 15 x4) < (M1 13 6) → (inb x4 24 ∧ fPr_faulty (M1 16 x4) 14 M1 (fun r2 M2 => R r2 M2))))))))))
def fPr_parse_p_79 (R : Int → Mem → Prop) (M : Mem) : Prop := ∃ n3, fPr_parse_p_82  R n3 0 M
def fPr_parse_p_15 (R : Int → Mem → Prop) : Nat → Int → Int → Mem → Prop
  | 0 => fun _ _ _ => False
  | n + 1 => fun x3 x4 M => ((24 < x4 → fPr_parse_p_79  R M) ∧ (¬ 24 < x4 → (((M 1 1) ≤ x3 → fPr_parse_p_79  R M) ∧ (¬ (M 1 1) ≤ x3 → fPr_parseInstruction_p x3 M (fun r4 M4 => ((r4 = (-4) → (inb (wrap ((M4 13 6) - 1)) 24 ∧ (inb (M4 14 (wrap ((M4 13 6) - 1))) 15 ∧ (fPr_parse_p_15 R n) (wrap (x3 + (wrap (1 + (roV 102 (M4 14 (wrap ((M4 13 6) - 1)))))))) (wrap (x4 + 1)) M4))) ∧ (¬ r4 = (-4) → fPr_faulty x3 r4 M4 (fun r5 M5 => R r5 M5))))))))
def fPr_parse_p (M : Mem) (R : Int → Mem → Prop) : Prop := ∃ n6, fPr_parse_p_15  R n6 0 0 (mu (mu M 3 1 0) 13 6 0)
def fPr_flawed (x0 x1 : Int) (M : Mem) (R : Int → Mem → Prop) : Prop := fCa_append 3 M (fun r1 M1 => fCa_append x0 M1 (fun r2 M2 => fCa_append (wrap (30 + x1)) M2 (fun r3 M3 => R 0 M3)))
def fPr_isReached_p (x1 : Int) (M : Mem) (R : Int → Mem → Prop) : Prop := (inb x1 24 ∧ (((M 17 x1) = (-4) → R 0 M) ∧ (¬ (M 17 x1) = (-4) → R 1 M)))
def fPr_nextToConsider_p_29 (k2 : Int → Mem → Prop) (R : Int → Mem → Prop) (x1 : Int) (M : Mem) : Prop := k2 (wrap (x1 + 1)) M
def fPr_nextToConsider_p_2 (R : Int → Mem → Prop) : Nat → Int → Mem → Prop
  | 0 => fun _ _ => False
  | n + 1 => fun x1 M => (((M 13 6) ≤ x1 → R (-4) M) ∧ (¬ (M 13 6) ≤ x1 → fPr_isReached_p x1 M (fun r1 M1 => ((r1 = 0 → fPr_nextToConsider_p_29 (fPr_nextToConsider_p_2 R n) R x1 M1) ∧ (¬ r1 = 0 → (inb x1 24 ∧ (((M1 18 x1) ≠ 0 → fPr_nextToConsider_p_29 (fPr_nextToConsider_p_2 R n) R x1 M1) ∧ ((M1 18 x1) = 0 → R x1 M1))))))))
def fPr_nextToConsider_p (M : Mem) (R : Int → Mem → Prop) : Prop := ∃ n2, fPr_nextToConsider_p_2  R n2 0 M
def fPr_falls_p_36 (R : Int → Mem → Prop) (M : Mem) : Prop := R 0 M
def fPr_falls_p (x1 : Int) (M : Mem) (R : Int → Mem → Prop) : Prop := (inb x1 24 ∧ (((M 14 x1) = 11 → fPr_falls_p_36  R M) ∧ (¬ (M 14 x1) = 11 → (inb x1 24 ∧ (((M 14 x1) = 14 → fPr_falls_p_36  R M) ∧ (¬ (M 14 x1) = 14 → (((M 13 6) ≤ (wrap (x1 + 1)) → fPr_falls_p_36  R M) ∧ (¬ (M 13 6) ≤ (wrap (x1 + 1)) → R 1 M))))))))
def fPr_accepts_p_15 (R : Int → Mem → Prop) (x1 x2 : Int) (M : Mem) : Prop := (inb x1 24 ∧ (((M 17 x1) ≠ x2 → R 0 M) ∧ ((M 17 x1) = x2 → R 1 M)))
def fPr_accepts_p (x1 x2 : Int) (M : Mem) (R : Int → Mem → Prop) : Prop := fPr_isReached_p x1 M (fun r1 M1 => ((r1 ≠ 0 → fPr_accepts_p_15  R x1 x2 M1) ∧ (r1 = 0 → (inb x1 24 ∧ fPr_accepts_p_15  R x1 x2 (mu M1 17 x1 x2)))))
def fPr_passOn_p_54 (R : Int → Mem → Prop) (x1 : Int) (M : Mem) : Prop := fPr_flawed 22 x1 M (fun r1 M1 => ((r1 = 0 ∨ r1 = 1) ∧ R r1 M1))
def fPr_passOn_p_158 (R : Int → Mem → Prop) (M : Mem) : Prop := R 1 M
def fPr_passOn_p_129 (R : Int → Mem → Prop) (x3 x4 : Int) (M : Mem) : Prop := (inb x4 24 ∧ fPr_accepts_p x4 x3 (mu M 19 x4 1) (fun r4 M4 => ((r4 ≠ 0 → fPr_passOn_p_158  R M4) ∧ (r4 = 0 → fPr_flawed 21 x4 M4 (fun r5 M5 => ((r5 = 0 → R 0 M5) ∧ (¬ r5 = 0 → fPr_passOn_p_158  R M5)))))))
def fPr_passOn_p_91 (R : Int → Mem → Prop) (x1 x3 : Int) (M : Mem) : Prop := fPr_leads_p x1 M (fun r3 M3 => ((r3 ≠ 0 → (inb x1 24 ∧ (inb (M3 15 x1) 24 ∧ (((M3 19 (M3 15 x1)) ≠ 0 → fPr_passOn_p_129  R x3 (M3 15 x1) M3) ∧ ((M3 19 (M3 15 x1)) = 0 → fPr_passOn_p_129  R x3 (M3 15 x1) (mu M3 13 8 (wrap ((M3 13 8) + 1)))))))) ∧ (r3 = 0 → R 1 M3)))
def fPr_passOn_p (x1 : Int) (M : Mem) (R : Int → Mem → Prop) : Prop := (inb x1 24 ∧ (inb x1 24 ∧ (inb (M 14 x1) 15 ∧ (inb x1 24 ∧ (inb (M 14 x1) 15 ∧ (inb x1 24 ∧ (inb x1 24 ∧ (inb (M 14 x1) 15 ∧ (((M 17 x1) < (roV 100 (M 14 x1)) → fPr_passOn_p_54  R x1 M) ∧ (¬ (M 17 x1) < (roV 100 (M 14 x1)) → (((wrap ((wrap ((M 17 x1) - (roV 100 (M 14 x1)))) + (roV 101 (M 14 x1)))) ≤ 12 → fPr_falls_p x1 M (fun r2 M2 => ((r2 = 0 → fPr_passOn_p_91  R x1 (wrap ((wrap ((M 17 x1) - (roV 100 (M 14 x1)))) + (roV 101 (M 14 x1)))) M2) ∧ (¬ r2 = 0 → fPr_accepts_p (wrap (x1 + 1)) (wrap ((wrap ((M 17 x1) - (roV 100 (M 14 x1)))) + (roV 101 (M 14 x1)))) M2 (fun r6 M6 => ((r6 ≠ 0 → fPr_passOn_p_91  R x1 (wrap ((wrap ((M 17 x1) - (roV 100 (M 14 x1)))) + (roV 101 (M 14 x1)))) M6) ∧ (r6 = 0 → fPr_flawed 21 (wrap (x1 + 1)) M6 (fun r7 M7 => ((r7 = 0 ∨ r7 = 1) ∧ R r7 M7))))))))) ∧ (¬ (wrap ((wrap ((M 17 x1) - (roV 100 (M 14 x1)))) + (roV 101 (M 14 x1)))) ≤ 12 → fPr_passOn_p_54  R x1 M))))))))))))
def fPr_findDepths_p_111 (R : Int → Mem → Prop) (M : Mem) : Prop := (((M 13 8) ≤ 2 → R 1 M) ∧ (¬ (M 13 8) ≤ 2 → fPr_flawed 23 (M 13 8) M (fun r1 M1 => ((r1 = 0 ∨ r1 = 1) ∧ R r1 M1))))
def fPr_findDepths_p_55 (R : Int → Mem → Prop) : Nat → Int → Mem → Prop
  | 0 => fun _ _ => False
  | n + 1 => fun x2 M => (((M 13 6) ≤ x2 → fPr_findDepths_p_111  R M) ∧ (¬ (M 13 6) ≤ x2 → fPr_nextToConsider_p M (fun r2 M2 => ((r2 ≠ (-4) → (inb r2 24 ∧ fPr_passOn_p r2 (mu (mu M2 18 r2 1) 13 7 (wrap ((M2 13 7) + 1))) (fun r3 M3 => ((r3 ≠ 0 → (fPr_findDepths_p_55 R n) (wrap (x2 + 1)) M3) ∧ (r3 = 0 → R 0 M3))))) ∧ (r2 = (-4) → fPr_findDepths_p_111  R M2)))))
def fPr_findDepths_p_2 (R : Int → Mem → Prop) : Nat → Int → Mem → Prop
  | 0 => fun _ _ => False
  | n + 1 => fun x2 M => ((24 ≤ x2 → ∃ n4, fPr_findDepths_p_55  R n4 0 (mu (mu (mu M 13 7 0) 13 8 0) 17 0 0)) ∧ (¬ 24 ≤ x2 → (inb x2 24 ∧ (inb x2 24 ∧ (inb x2 24 ∧ (fPr_findDepths_p_2 R n) (wrap (x2 + 1)) (mu (mu (mu M 17 x2 (-4)) 18 x2 0) 19 x2 0))))))
def fPr_findDepths_p (M : Mem) (R : Int → Mem → Prop) : Prop := ∃ n5, fPr_findDepths_p_2  R n5 0 M
def fMa_registerOf (x1 x2 : Int) (M : Mem) (R : Int → Mem → Prop) : Prop := (inb x1 16 ∧ R (wrap ((b_iand (b_ishr (M 9 x1) (wrap (2 * x2))) 3) - 1)) M)
def fMa_keeps_3 (R : Int → Mem → Prop) : Nat → Int → Int → Int → Int → Mem → Prop
  | 0 => fun _ _ _ _ _ => False
  | n + 1 => fun x1 x2 x3 x4 M => ((x2 ≤ x4 → R 0 M) ∧ (¬ x2 ≤ x4 → fMa_registerOf x1 x4 M (fun r1 M1 => ((r1 ≠ x3 → (fMa_keeps_3 R n) x1 x2 x3 (wrap (x4 + 1)) M1) ∧ (r1 = x3 → R 1 M1)))))
def fMa_keeps (x1 x2 x3 : Int) (M : Mem) (R : Int → Mem → Prop) : Prop := ∃ n2, fMa_keeps_3  R n2 x1 x2 x3 0 M
def fMa_goesRound_53 (k6 : Int → Int → Int → Int → Int → Mem → Prop) (R : Int → Mem → Prop) (x1 x2 x3 x4 x5 : Int) (M : Mem) : Prop := k6 x1 x2 x3 x4 (wrap (x5 + 1)) M
def fMa_goesRound_6 (R : Int → Mem → Prop) : Nat → Int → Int → Int → Int → Int → Mem → Prop
  | 0 => fun _ _ _ _ _ _ => False
  | n + 1 => fun x1 x2 x3 x4 x5 M => ((x3 ≤ x5 → ((x4 = 0 ∨ x4 = 1) ∧ R x4 M)) ∧ (¬ x3 ≤ x5 → fMa_registerOf x1 x5 M (fun r1 M1 => fMa_registerOf x2 x5 M1 (fun r2 M2 => ((r1 ≠ r2 → fMa_registerOf x2 x5 M2 (fun r3 M3 => fMa_keeps x1 x3 r3 M3 (fun r4 M4 => ((r4 ≠ 0 → fMa_goesRound_53 (fMa_goesRound_6 R n) R x1 x2 x3 1 x5 M4) ∧ (r4 = 0 → R 0 M4))))) ∧ (r1 = r2 → fMa_goesRound_53 (fMa_goesRound_6 R n) R x1 x2 x3 x4 x5 M2))))))
def fMa_goesRound (x1 x2 x3 : Int) (M : Mem) (R : Int → Mem → Prop) : Prop := ∃ n5, fMa_goesRound_6  R n5 x1 x2 x3 0 0 M
def fMa_cheapestPassage_160 (R : Int → Mem → Prop) (x4 x8 : Int) (M : Mem) : Prop := R (wrap (x4 + x8)) M
def fMa_cheapestPassage_77 (k51 : Int → Int → Int → Int → Int → Int → Mem → Prop) (R : Int → Mem → Prop) (x1 x2 x3 x4 x5 x6 : Int) (M : Mem) : Prop := k51 x1 x2 x3 x4 x5 (wrap (x6 + 1)) M
def fMa_cheapestPassage_51 (R : Int → Mem → Prop) : Nat → Int → Int → Int → Int → Int → Int → Mem → Prop
  | 0 => fun _ _ _ _ _ _ _ => False
  | n + 1 => fun x1 x2 x3 x4 x5 x6 M => ((x3 ≤ x6 → fMath_min (M 8 1) (wrap ((M 8 3) + (M 8 2))) M (fun r2 M2 => fMa_goesRound x1 x2 x3 M2 (fun r3 M3 => ((r3 ≠ 0 → (((M3 8 0) ≤ x3 → fMa_cheapestPassage_160  R x4 (wrap ((wrap ((M 8 3) + (M 8 2))) + (wrap ((wrap (x5 - 1)) * r2)))) M3) ∧ (¬ (M3 8 0) ≤ x3 → fMath_min (wrap ((wrap ((M 8 3) + (M 8 2))) + (wrap ((wrap (x5 - 1)) * r2)))) (wrap ((wrap (x5 + 1)) * (M3 8 1))) M3 (fun r4 M4 => fMa_cheapestPassage_160  R x4 r4 M4)))) ∧ (r3 = 0 → R (wrap (x4 + (wrap (x5 * r2)))) M3))))) ∧ (¬ x3 ≤ x6 → fMa_registerOf x1 x6 M (fun r5 M5 => fMa_registerOf x2 x6 M5 (fun r6 M6 => ((r5 = r6 → fMa_cheapestPassage_77 (fMa_cheapestPassage_51 R n) R x1 x2 x3 x4 x5 x6 M6) ∧ (¬ r5 = r6 → fMa_cheapestPassage_77 (fMa_cheapestPassage_51 R n) R x1 x2 x3 x4 (wrap (x5 + 1)) x6 M6))))))
def fMa_cheapestPassage (x1 x2 : Int) (M : Mem) (R : Int → Mem → Prop) : Prop := (inb x1 16 ∧ (inb x2 16 ∧ fMath_min (M 10 x1) (M 10 x2) M (fun r1 M1 => (inb x1 16 ∧ (inb x2 16 ∧ ∃ n7, fMa_cheapestPassage_51  R n7 x1 x2 r1 (wrap ((wrap ((M1 8 3) * (wrap ((M1 10 x1) - r1)))) + (wrap ((M1 8 2) * (wrap ((M1 10 x2) - r1)))))) 0 0 M1)))))
def fMath_floorMod (x0 x1 : Int) (M : Mem) (R : Int → Mem → Prop) : Prop := (x1 ≠ 0 ∧ ((0 ≤ (b_ixor x0 x1) → R (b_irem x0 x1) M) ∧ (¬ 0 ≤ (b_ixor x0 x1) → (((b_irem x0 x1) = 0 → R (b_irem x0 x1) M) ∧ (¬ (b_irem x0 x1) = 0 → R (wrap ((b_irem x0 x1) + x1)) M)))))
def fMa_holds_31 (R : Int → Mem → Prop) (M : Mem) : Prop := R 1 M
def fMa_holds (x0 x1 : Int) (M : Mem) (R : Int → Mem → Prop) : Prop := (((b_iand x0 3) = (wrap (x1 + 1)) → fMa_holds_31  R M) ∧ (¬ (b_iand x0 3) = (wrap (x1 + 1)) → (((b_iand (b_ishr x0 2) 3) = (wrap (x1 + 1)) → fMa_holds_31  R M) ∧ (¬ (b_iand (b_ishr x0 2) 3) = (wrap (x1 + 1)) → (((b_iand (b_ishr x0 4) 3) ≠ (wrap (x1 + 1)) → R 0 M) ∧ ((b_iand (b_ishr x0 4) 3) = (wrap (x1 + 1)) → fMa_holds_31  R M))))))
def fMa_push (x0 x1 : Int) (M : Mem) (R : Int → Mem → Prop) : Prop := R (b_ior (b_ishl x0 2) (wrap (x1 + 1))) M
def fMath_floorDiv (x0 x1 : Int) (M : Mem) (R : Int → Mem → Prop) : Prop := (x1 ≠ 0 ∧ ((0 ≤ (b_ixor x0 x1) → R (b_idiv x0 x1) M) ∧ (¬ 0 ≤ (b_ixor x0 x1) → (((wrap ((b_idiv x0 x1) * x1)) = x0 → R (b_idiv x0 x1) M) ∧ (¬ (wrap ((b_idiv x0 x1) * x1)) = x0 → R (wrap ((b_idiv x0 x1) - 1)) M)))))
def fMa_listState_8 (R : Int → Mem → Prop) : Nat → Int → Int → Int → Int → Mem → Prop
  | 0 => fun _ _ _ _ _ => False
  | n + 1 => fun x1 x3 x4 x5 M => ((x1 ≤ x5 → (((M 8 4) ≠ 16 → (inb (M 8 4) 16 ∧ (inb (M 8 4) 16 ∧ (inb x3 64 ∧ R 0 (mu (mu (mu (mu M 9 (M 8 4) x3) 10 (M 8 4) x1) 11 x3 (M 8 4)) 8 4 (wrap ((M 8 4) + 1))))))) ∧ ((M 8 4) = 16 → R 0 M))) ∧ (¬ x1 ≤ x5 → fMath_max (M 8 0) 1 M (fun r1 M1 => fMath_floorMod x4 r1 M1 (fun r2 M2 => fMa_holds x3 r2 M2 (fun r3 M3 => ((r3 = 0 → fMa_push x3 r2 M3 (fun r4 M4 => fMath_max (M4 8 0) 1 M4 (fun r5 M5 => fMath_floorDiv x4 r5 M5 (fun r6 M6 => (fMa_listState_8 R n) x1 r4 r6 (wrap (x5 + 1)) M6)))) ∧ (¬ r3 = 0 → R 0 M3)))))))
def fMa_listState (x1 x2 : Int) (M : Mem) (R : Int → Mem → Prop) : Prop := ∃ n7, fMa_listState_8  R n7 x1 0 x2 0 M
def fMa_listStates_19 (k9 : Int → Int → Mem → Prop) (R : Int → Mem → Prop) : Nat → Int → Int → Int → Mem → Prop
  | 0 => fun _ _ _ _ => False
  | n + 1 => fun x1 x2 x3 M => ((x1 ≤ x3 → k9 (wrap (x1 * (M 8 0))) (wrap (x2 + 1)) M) ∧ (¬ x1 ≤ x3 → fMa_listState x2 x3 M (fun r1 M1 => (fMa_listStates_19 k9 R n) x1 x2 (wrap (x3 + 1)) M1)))
def fMa_listStates_9 (R : Int → Mem → Prop) : Nat → Int → Int → Mem → Prop
  | 0 => fun _ _ _ => False
  | n + 1 => fun x1 x2 M => (((M 8 0) < x2 → R 0 M) ∧ (¬ (M 8 0) < x2 → ∃ n2, fMa_listStates_19 (fMa_listStates_9 R n) R n2 x1 x2 0 M))
def fMa_listStates (M : Mem) (R : Int → Mem → Prop) : Prop := ∃ n3, fMa_listStates_9  R n3 1 0 (mu M 8 4 0)
def fMa_equip_120 (k108 : Int → Mem → Prop) (R : Int → Mem → Prop) : Nat → Int → Int → Mem → Prop
  | 0 => fun _ _ _ => False
  | n + 1 => fun x4 x5 M => (((M 8 4) ≤ x5 → k108 (wrap (x4 + 1)) M) ∧ (¬ (M 8 4) ≤ x5 → fMa_cheapestPassage x4 x5 M (fun r1 M1 => (inb (wrap ((wrap (x4 * 16)) + x5)) 256 ∧ (fMa_equip_120 k108 R n) x4 (wrap (x5 + 1)) (mu M1 12 (wrap ((wrap (x4 * 16)) + x5)) r1)))))
def fMa_equip_108 (R : Int → Mem → Prop) : Nat → Int → Mem → Prop
  | 0 => fun _ _ => False
  | n + 1 => fun x4 M => (((M 8 4) ≤ x4 → R 0 M) ∧ (¬ (M 8 4) ≤ x4 → ∃ n2, fMa_equip_120 (fMa_equip_108 R n) R n2 x4 0 M))
def fMa_equip_105 (R : Int → Mem → Prop) (M : Mem) : Prop := ∃ n3, fMa_equip_108  R n3 0 M
def fMa_equip_65 (R : Int → Mem → Prop) (x2 : Int) (M : Mem) : Prop := ((x2 ≠ 0 → fMa_equip_105  R (mu (mu (mu (mu M 8 0 (M 5 0)) 8 1 (M 5 1)) 8 2 (M 5 2)) 8 3 (M 5 3))) ∧ (x2 = 0 → fMa_listStates (mu (mu (mu (mu M 8 0 (M 5 0)) 8 1 (M 5 1)) 8 2 (M 5 2)) 8 3 (M 5 3)) (fun r4 M4 => fMa_equip_105  R M4)))
def fMa_equip_55 (R : Int → Mem → Prop) (x2 t0 : Int) (M : Mem) : Prop := ((x2 = 0 → fMa_equip_65  R x2 M) ∧ (¬ x2 = 0 → ((t0 = 0 → fMa_equip_65  R x2 M) ∧ (¬ t0 = 0 → R 0 M))))
def fMa_equip_54 (R : Int → Mem → Prop) (x2 : Int) (M : Mem) : Prop := fMa_equip_55  R x2 0 M
def fMa_equip_16 (R : Int → Mem → Prop) (t0 : Int) (M : Mem) : Prop := (((M 8 1) ≠ (M 5 1) → fMa_equip_54  R t0 M) ∧ ((M 8 1) = (M 5 1) → (((M 8 2) ≠ (M 5 2) → fMa_equip_54  R t0 M) ∧ ((M 8 2) = (M 5 2) → (((M 8 3) ≠ (M 5 3) → fMa_equip_54  R t0 M) ∧ ((M 8 3) = (M 5 3) → fMa_equip_55  R t0 1 M))))))
def fMa_equip (M : Mem) (R : Int → Mem → Prop) : Prop := (((M 8 0) ≠ (M 5 0) → fMa_equip_16  R 0 M) ∧ ((M 8 0) = (M 5 0) → fMa_equip_16  R 1 M))
def fCh_forget (M : Mem) (R : Int → Mem → Prop) : Prop := R 0 (mu (mu M 27 17 0) 27 18 0)
def fSt_refresh (M : Mem) (R : Int → Mem → Prop) : Prop := fMa_equip M (fun r1 M1 => fCh_forget M1 (fun r2 M2 => R 0 (mu M2 40 7 0)))
def fArr_fill_6_5 (R : Int → Mem → Prop) : Nat → Int → Int → Int → Mem → Prop
  | 0 => fun _ _ _ _ => False
  | n + 1 => fun x1 x2 x3 M => ((x3 ≤ x2 → R 0 M) ∧ (¬ x3 ≤ x2 → (inb x2 24 ∧ (fArr_fill_6_5 R n) x1 (wrap (x2 + 1)) x3 (mu M 6 x2 x1))))
def fArr_fill_6 (x1 : Int) (M : Mem) (R : Int → Mem → Prop) : Prop := ∃ n1, fArr_fill_6_5  R n1 x1 0 24 M
def fSe_resetWeights (M : Mem) (R : Int → Mem → Prop) : Prop := fArr_fill_6 1 M (fun r1 M1 => R 0 M1)
def fSt_write (x1 : Int) (M : Mem) (R : Int → Mem → Prop) : Prop := ((x1 < 32 → R (-1) M) ∧ (¬ x1 < 32 → ((x1 ≤ 126 → (((M 1 1) ≠ 200 → fTe_append x1 M (fun r1 M1 => R (M1 1 1) M1)) ∧ ((M 1 1) = 200 → R (-3) M))) ∧ (¬ x1 ≤ 126 → R (-1) M))))
def fSt_wipe (M : Mem) (R : Int → Mem → Prop) : Prop := fTe_empty M (fun r1 M1 => R r1 M1)
def fPr_leads_d_22 (R : Int → Mem → Prop) (M : Mem) : Prop := R 1 M
def fPr_leads_d (x1 : Int) (M : Mem) (R : Int → Mem → Prop) : Prop := (inb x1 24 ∧ (((M 21 x1) = 11 → fPr_leads_d_22  R M) ∧ (¬ (M 21 x1) = 11 → (inb x1 24 ∧ (((M 21 x1) ≠ 12 → R 0 M) ∧ ((M 21 x1) = 12 → fPr_leads_d_22  R M))))))
def fPr_parseInstruction_d_107 (R : Int → Mem → Prop) (x2 x3 x4 : Int) (M : Mem) : Prop := (inb (M 20 6) 24 ∧ (inb (M 20 6) 24 ∧ (inb (M 20 6) 24 ∧ R (-4) (mu (mu (mu (mu M 21 (M 20 6) x3) 22 (M 20 6) x4) 23 (M 20 6) x2) 20 6 (wrap ((M 20 6) + 1))))))
def fPr_parseInstruction_d_98 (R : Int → Mem → Prop) (x2 x3 x4 : Int) (M : Mem) : Prop := ((x4 < 4 → fPr_parseInstruction_d_107  R x2 x3 x4 M) ∧ (¬ x4 < 4 → R 12 M))
def fPr_parseInstruction_d_37 (R : Int → Mem → Prop) : Nat → Int → Int → Int → Int → Mem → Prop
  | 0 => fun _ _ _ _ _ => False
  | n + 1 => fun x2 x3 x4 x5 M => (inb x3 15 ∧ (((roV 102 x3) < x5 → ((x3 = 9 → fPr_parseInstruction_d_98  R x2 x3 x4 M) ∧ (¬ x3 = 9 → ((x3 ≠ 10 → fPr_parseInstruction_d_107  R x2 x3 x4 M) ∧ (x3 = 10 → fPr_parseInstruction_d_98  R x2 x3 x4 M))))) ∧ (¬ (roV 102 x3) < x5 → fTe_hasDigitAt (wrap (x2 + x5)) M (fun r3 M3 => ((r3 ≠ 0 → fTe_letterAt (wrap (x2 + x5)) M3 (fun r4 M4 => (fPr_parseInstruction_d_37 R n) x2 x3 (wrap ((wrap ((wrap (10 * x4)) + r4)) - 48)) (wrap (x5 + 1)) M4)) ∧ (r3 = 0 → R 11 M3))))))
def fPr_parseInstruction_d (x2 : Int) (M : Mem) (R : Int → Mem → Prop) : Prop := (((M 20 6) ≠ 24 → fTe_letterAt x2 M (fun r1 M1 => fStr_indexOf_111 (b_i2c r1) M1 (fun r2 M2 => ((0 ≤ r2 → ∃ n5, fPr_parseInstruction_d_37  R n5 x2 r2 0 1 M2) ∧ (¬ 0 ≤ r2 → R 10 M2))))) ∧ ((M 20 6) = 24 → R 13 M))
def fPr_parse_d_128 (k82 : Int → Mem → Prop) (R : Int → Mem → Prop) (x4 : Int) (M : Mem) : Prop := k82 (wrap (x4 + 1)) M
def fPr_parse_d_82 (R : Int → Mem → Prop) : Nat → Int → Mem → Prop
  | 0 => fun _ _ => False
  | n + 1 => fun x4 M => (((M 20 6) ≤ x4 → R (-4) M) ∧ (¬ (M 20 6) ≤ x4 → fPr_leads_d x4 M (fun r1 M1 => ((r1 = 0 → fPr_parse_d_128 (fPr_parse_d_82 R n) R x4 M1) ∧ (¬ r1 = 0 → (inb x4 24 ∧ (((M1 22 x4) < (M1 20 6) → fPr_parse_d_128 (fPr_parse_d_82 R n) R x4 M1) ∧ (¬ (M1 22 x4) < (M1 20 6) → (inb x4 24 ∧ fPr_faulty (M1 23 x4) 14 M1 (fun r2 M2 => R r2 M2))))))))))
def fPr_parse_d_79 (R : Int → Mem → Prop) (M : Mem) : Prop := ∃ n3, fPr_parse_d_82  R n3 0 M
def fPr_parse_d_15 (R : Int → Mem → Prop) : Nat → Int → Int → Mem → Prop
  | 0 => fun _ _ _ => False
  | n + 1 => fun x3 x4 M => ((24 < x4 → fPr_parse_d_79  R M) ∧ (¬ 24 < x4 → (((M 1 1) ≤ x3 → fPr_parse_d_79  R M) ∧ (¬ (M 1 1) ≤ x3 → fPr_parseInstruction_d x3 M (fun r4 M4 => ((r4 = (-4) → (inb (wrap ((M4 20 6) - 1)) 24 ∧ (inb (M4 21 (wrap ((M4 20 6) - 1))) 15 ∧ (fPr_parse_d_15 R n) (wrap (x3 + (wrap (1 + (roV 102 (M4 21 (wrap ((M4 20 6) - 1)))))))) (wrap (x4 + 1)) M4))) ∧ (¬ r4 = (-4) → fPr_faulty x3 r4 M4 (fun r5 M5 => R r5 M5))))))))
def fPr_parse_d (M : Mem) (R : Int → Mem → Prop) : Prop := ∃ n6, fPr_parse_d_15  R n6 0 0 (mu (mu M 3 1 0) 20 6 0)
def fSt_fault (M : Mem) (R : Int → Mem → Prop) : Prop := fPr_parse_d M (fun r1 M1 => R r1 M1)
def fPr_isReached_d (x1 : Int) (M : Mem) (R : Int → Mem → Prop) : Prop := (inb x1 24 ∧ (((M 24 x1) = (-4) → R 0 M) ∧ (¬ (M 24 x1) = (-4) → R 1 M)))
def fPr_nextToConsider_d_29 (k2 : Int → Mem → Prop) (R : Int → Mem → Prop) (x1 : Int) (M : Mem) : Prop := k2 (wrap (x1 + 1)) M
def fPr_nextToConsider_d_2 (R : Int → Mem → Prop) : Nat → Int → Mem → Prop
  | 0 => fun _ _ => False
  | n + 1 => fun x1 M => (((M 20 6) ≤ x1 → R (-4) M) ∧ (¬ (M 20 6) ≤ x1 → fPr_isReached_d x1 M (fun r1 M1 => ((r1 = 0 → fPr_nextToConsider_d_29 (fPr_nextToConsider_d_2 R n) R x1 M1) ∧ (¬ r1 = 0 → (inb x1 24 ∧ (((M1 25 x1) ≠ 0 → fPr_nextToConsider_d_29 (fPr_nextToConsider_d_2 R n) R x1 M1) ∧ ((M1 25 x1) = 0 → R x1 M1))))))))
def fPr_nextToConsider_d (M : Mem) (R : Int → Mem → Prop) : Prop := ∃ n2, fPr_nextToConsider_d_2  R n2 0 M
def fPr_falls_d_36 (R : Int → Mem → Prop) (M : Mem) : Prop := R 0 M
def fPr_falls_d (x1 : Int) (M : Mem) (R : Int → Mem → Prop) : Prop := (inb x1 24 ∧ (((M 21 x1) = 11 → fPr_falls_d_36  R M) ∧ (¬ (M 21 x1) = 11 → (inb x1 24 ∧ (((M 21 x1) = 14 → fPr_falls_d_36  R M) ∧ (¬ (M 21 x1) = 14 → (((M 20 6) ≤ (wrap (x1 + 1)) → fPr_falls_d_36  R M) ∧ (¬ (M 20 6) ≤ (wrap (x1 + 1)) → R 1 M))))))))
def fPr_accepts_d_15 (R : Int → Mem → Prop) (x1 x2 : Int) (M : Mem) : Prop := (inb x1 24 ∧ (((M 24 x1) ≠ x2 → R 0 M) ∧ ((M 24 x1) = x2 → R 1 M)))
def fPr_accepts_d (x1 x2 : Int) (M : Mem) (R : Int → Mem → Prop) : Prop := fPr_isReached_d x1 M (fun r1 M1 => ((r1 ≠ 0 → fPr_accepts_d_15  R x1 x2 M1) ∧ (r1 = 0 → (inb x1 24 ∧ fPr_accepts_d_15  R x1 x2 (mu M1 24 x1 x2)))))
def fPr_passOn_d_54 (R : Int → Mem → Prop) (x1 : Int) (M : Mem) : Prop := fPr_flawed 22 x1 M (fun r1 M1 => ((r1 = 0 ∨ r1 = 1) ∧ R r1 M1))
def fPr_passOn_d_158 (R : Int → Mem → Prop) (M : Mem) : Prop := R 1 M
def fPr_passOn_d_129 (R : Int → Mem → Prop) (x3 x4 : Int) (M : Mem) : Prop := (inb x4 24 ∧ fPr_accepts_d x4 x3 (mu M 26 x4 1) (fun r4 M4 => ((r4 ≠ 0 → fPr_passOn_d_158  R M4) ∧ (r4 = 0 → fPr_flawed 21 x4 M4 (fun r5 M5 => ((r5 = 0 → R 0 M5) ∧ (¬ r5 = 0 → fPr_passOn_d_158  R M5)))))))
def fPr_passOn_d_91 (R : Int → Mem → Prop) (x1 x3 : Int) (M : Mem) : Prop := fPr_leads_d x1 M (fun r3 M3 => ((r3 ≠ 0 → (inb x1 24 ∧ (inb (M3 22 x1) 24 ∧ (((M3 26 (M3 22 x1)) ≠ 0 → fPr_passOn_d_129  R x3 (M3 22 x1) M3) ∧ ((M3 26 (M3 22 x1)) = 0 → fPr_passOn_d_129  R x3 (M3 22 x1) (mu M3 20 8 (wrap ((M3 20 8) + 1)))))))) ∧ (r3 = 0 → R 1 M3)))
def fPr_passOn_d (x1 : Int) (M : Mem) (R : Int → Mem → Prop) : Prop := (inb x1 24 ∧ (inb x1 24 ∧ (inb (M 21 x1) 15 ∧ (inb x1 24 ∧ (inb (M 21 x1) 15 ∧ (inb x1 24 ∧ (inb x1 24 ∧ (inb (M 21 x1) 15 ∧ (((M 24 x1) < (roV 100 (M 21 x1)) → fPr_passOn_d_54  R x1 M) ∧ (¬ (M 24 x1) < (roV 100 (M 21 x1)) → (((wrap ((wrap ((M 24 x1) - (roV 100 (M 21 x1)))) + (roV 101 (M 21 x1)))) ≤ 12 → fPr_falls_d x1 M (fun r2 M2 => ((r2 = 0 → fPr_passOn_d_91  R x1 (wrap ((wrap ((M 24 x1) - (roV 100 (M 21 x1)))) + (roV 101 (M 21 x1)))) M2) ∧ (¬ r2 = 0 → fPr_accepts_d (wrap (x1 + 1)) (wrap ((wrap ((M 24 x1) - (roV 100 (M 21 x1)))) + (roV 101 (M 21 x1)))) M2 (fun r6 M6 => ((r6 ≠ 0 → fPr_passOn_d_91  R x1 (wrap ((wrap ((M 24 x1) - (roV 100 (M 21 x1)))) + (roV 101 (M 21 x1)))) M6) ∧ (r6 = 0 → fPr_flawed 21 (wrap (x1 + 1)) M6 (fun r7 M7 => ((r7 = 0 ∨ r7 = 1) ∧ R r7 M7))))))))) ∧ (¬ (wrap ((wrap ((M 24 x1) - (roV 100 (M 21 x1)))) + (roV 101 (M 21 x1)))) ≤ 12 → fPr_passOn_d_54  R x1 M))))))))))))
def fPr_findDepths_d_111 (R : Int → Mem → Prop) (M : Mem) : Prop := (((M 20 8) ≤ 2 → R 1 M) ∧ (¬ (M 20 8) ≤ 2 → fPr_flawed 23 (M 20 8) M (fun r1 M1 => ((r1 = 0 ∨ r1 = 1) ∧ R r1 M1))))
def fPr_findDepths_d_55 (R : Int → Mem → Prop) : Nat → Int → Mem → Prop
  | 0 => fun _ _ => False
  | n + 1 => fun x2 M => (((M 20 6) ≤ x2 → fPr_findDepths_d_111  R M) ∧ (¬ (M 20 6) ≤ x2 → fPr_nextToConsider_d M (fun r2 M2 => ((r2 ≠ (-4) → (inb r2 24 ∧ fPr_passOn_d r2 (mu (mu M2 25 r2 1) 20 7 (wrap ((M2 20 7) + 1))) (fun r3 M3 => ((r3 ≠ 0 → (fPr_findDepths_d_55 R n) (wrap (x2 + 1)) M3) ∧ (r3 = 0 → R 0 M3))))) ∧ (r2 = (-4) → fPr_findDepths_d_111  R M2)))))
def fPr_findDepths_d_2 (R : Int → Mem → Prop) : Nat → Int → Mem → Prop
  | 0 => fun _ _ => False
  | n + 1 => fun x2 M => ((24 ≤ x2 → ∃ n4, fPr_findDepths_d_55  R n4 0 (mu (mu (mu M 20 7 0) 20 8 0) 24 0 0)) ∧ (¬ 24 ≤ x2 → (inb x2 24 ∧ (inb x2 24 ∧ (inb x2 24 ∧ (fPr_findDepths_d_2 R n) (wrap (x2 + 1)) (mu (mu (mu M 24 x2 (-4)) 25 x2 0) 26 x2 0))))))
def fPr_findDepths_d (M : Mem) (R : Int → Mem → Prop) : Prop := ∃ n5, fPr_findDepths_d_2  R n5 0 M
def fPr_become_2 (R : Int → Mem → Prop) : Nat → Int → Mem → Prop
  | 0 => fun _ _ => False
  | n + 1 => fun x2 M => ((24 ≤ x2 → R 0 (mu (mu (mu M 13 6 (M 20 6)) 13 7 (M 20 7)) 13 8 (M 20 8))) ∧ (¬ 24 ≤ x2 → (inb x2 24 ∧ (inb x2 24 ∧ (inb x2 24 ∧ (inb x2 24 ∧ (inb x2 24 ∧ (inb x2 24 ∧ (inb x2 24 ∧ (((M 26 x2) = 0 ∨ (M 26 x2) = 1) ∧ (inb x2 24 ∧ (fPr_become_2 R n) (wrap (x2 + 1)) (mu (mu (mu (mu M 14 x2 (M 21 x2)) 15 x2 (M 22 x2)) 17 x2 (M 24 x2)) 19 x2 (M 26 x2)))))))))))))
def fPr_become (M : Mem) (R : Int → Mem → Prop) : Prop := ∃ n1, fPr_become_2  R n1 0 M
def fSe_forgetChanges (M : Mem) (R : Int → Mem → Prop) : Prop := R 0 (mu M 5 5 0)
def fSt_lay (M : Mem) (R : Int → Mem → Prop) : Prop := fPr_parse_d M (fun r1 M1 => ((r1 = (-4) → (((M1 20 6) ≠ 0 → fPr_findDepths_d M1 (fun r2 M2 => ((r2 ≠ 0 → fPr_become M2 (fun r3 M3 => fSe_forgetChanges M3 (fun r4 M4 => fSe_resetWeights M4 (fun r5 M5 => fSt_refresh M5 (fun r6 M6 => R (M6 13 6) M6))))) ∧ (r2 = 0 → R (-2) M2)))) ∧ ((M1 20 6) = 0 → fCa_append 2 M1 (fun r7 M7 => R (-2) M7)))) ∧ (¬ r1 = (-4) → R (-2) M1)))
def fSt_cause (x1 : Int) (M : Mem) (R : Int → Mem → Prop) : Prop := ((0 ≤ x1 → (((M 3 1) ≤ x1 → R (-4) M) ∧ (¬ (M 3 1) ≤ x1 → (inb x1 3 ∧ R (M 4 x1) M)))) ∧ (¬ 0 ≤ x1 → R (-1) M))
def fSt_isInstruction_19 (R : Int → Mem → Prop) (M : Mem) : Prop := R 0 M
def fSt_isInstruction (x1 : Int) (M : Mem) (R : Int → Mem → Prop) : Prop := ((x1 < 0 → fSt_isInstruction_19  R M) ∧ (¬ x1 < 0 → (((M 13 6) ≤ x1 → fSt_isInstruction_19  R M) ∧ (¬ (M 13 6) ≤ x1 → R 1 M))))
def fLat_charAt_121 (x1 : Int) (M : Mem) (R : Int → Mem → Prop) : Prop := fStr_checkIndex x1 15 M (fun r1 M1 => (inb x1 15 ∧ ((0 ≤ (b_i2c (b_iand (roV 111 x1) 255)) ∧ (b_i2c (b_iand (roV 111 x1) 255)) < 65536) ∧ R (b_i2c (b_iand (roV 111 x1) 255)) M1)))
def fStr_charAt_111 (x1 : Int) (M : Mem) (R : Int → Mem → Prop) : Prop := fStr_isLatin1_111 M (fun r1 M1 => ((r1 = 0 → False) ∧ (¬ r1 = 0 → fLat_charAt_121 x1 M1 (fun r2 M2 => ((0 ≤ r2 ∧ r2 < 65536) ∧ R r2 M2)))))
def fSt_code (x1 x2 : Int) (M : Mem) (R : Int → Mem → Prop) : Prop := fSt_isInstruction x1 M (fun r1 M1 => ((r1 = 0 → R (-1) M1) ∧ (¬ r1 = 0 → ((x2 < 0 → R (-1) M1) ∧ (¬ x2 < 0 → ((x2 ≤ 4 → ((x2 = 0 → (inb x1 24 ∧ fStr_charAt_111 (M1 14 x1) M1 (fun r2 M2 => R r2 M2))) ∧ (x2 = 1 → (inb x1 24 ∧ (inb (M1 14 x1) 15 ∧ (((roV 102 (M1 14 x1)) ≤ 0 → R (-4) M1) ∧ (¬ (roV 102 (M1 14 x1)) ≤ 0 → (inb x1 24 ∧ R (M1 15 x1) M1)))))) ∧ (x2 = 2 → fPr_isReached_p x1 M1 (fun r3 M3 => ((r3 = 0 → R (-4) M3) ∧ (¬ r3 = 0 → (inb x1 24 ∧ R (M3 17 x1) M3))))) ∧ (x2 = 3 → (inb x1 24 ∧ (((M1 19 x1) = 0 → R 0 M1) ∧ (¬ (M1 19 x1) = 0 → R 1 M1)))) ∧ (x2 < 0 ∨ 3 < x2 → (inb x1 24 ∧ R (M1 6 x1) M1)))) ∧ (¬ x2 ≤ 4 → R (-1) M1)))))))
def fSe_remember_93 (R : Int → Mem → Prop) (t0 : Int) (M : Mem) : Prop := fMath_min (wrap ((M 5 5) + 1)) 6 (mu M 5 7 t0) (fun r1 M1 => R 0 (mu M1 5 5 r1))
def fSe_remember (M : Mem) (R : Int → Mem → Prop) : Prop := (inb (wrap ((M 5 7) * 28)) 168 ∧ (inb (wrap ((wrap ((M 5 7) * 28)) + 1)) 168 ∧ (inb (wrap ((wrap ((M 5 7) * 28)) + 2)) 168 ∧ (inb (wrap ((wrap ((M 5 7) * 28)) + 3)) 168 ∧ (((0 : Int) ≤ 0 ∧ (0 : Int) ≤ (wrap ((wrap ((M 5 7) * 28)) + 4)) ∧ (0 : Int) ≤ 24 ∧ ((0 + 24 : Int) ≤ ((24 : Nat) : Int)) ∧ (((wrap ((wrap ((M 5 7) * 28)) + 4)) + 24 : Int) ≤ ((168 : Nat) : Int))) ∧ ((6 ≤ (wrap ((M 5 7) + 1)) → fSe_remember_93  R 0 (mcopy (mu (mu (mu (mu M 7 (wrap ((M 5 7) * 28)) (M 5 0)) 7 (wrap ((wrap ((M 5 7) * 28)) + 1)) (M 5 1)) 7 (wrap ((wrap ((M 5 7) * 28)) + 2)) (M 5 2)) 7 (wrap ((wrap ((M 5 7) * 28)) + 3)) (M 5 3)) 6 0 7 (wrap ((wrap ((M 5 7) * 28)) + 4)) 24)) ∧ (¬ 6 ≤ (wrap ((M 5 7) + 1)) → fSe_remember_93  R (wrap ((M 5 7) + 1)) (mcopy (mu (mu (mu (mu M 7 (wrap ((M 5 7) * 28)) (M 5 0)) 7 (wrap ((wrap ((M 5 7) * 28)) + 1)) (M 5 1)) 7 (wrap ((wrap ((M 5 7) * 28)) + 2)) (M 5 2)) 7 (wrap ((wrap ((M 5 7) * 28)) + 3)) (M 5 3)) 6 0 7 (wrap ((wrap ((M 5 7) * 28)) + 4)) 24))))))))
def fSt_registers (x1 : Int) (M : Mem) (R : Int → Mem → Prop) : Prop := ((x1 < 1 → R (-1) M) ∧ (¬ x1 < 1 → ((x1 ≤ 3 → (((M 5 0) ≠ x1 → fSe_remember M (fun r1 M1 => fSt_refresh (mu M1 5 0 x1) (fun r2 M2 => R (M 5 0) M2))) ∧ ((M 5 0) = x1 → R (-2) M))) ∧ (¬ x1 ≤ 3 → R (-1) M))))
def fSt_isCost_14 (R : Int → Mem → Prop) (M : Mem) : Prop := R 0 M
def fSt_isCost (x0 : Int) (M : Mem) (R : Int → Mem → Prop) : Prop := ((x0 < 0 → fSt_isCost_14  R M) ∧ (¬ x0 < 0 → ((9 < x0 → fSt_isCost_14  R M) ∧ (¬ 9 < x0 → R 1 M))))
def fSt_costs_59 (R : Int → Mem → Prop) (x1 x2 x3 : Int) (M : Mem) : Prop := fSe_remember M (fun r4 M4 => fSt_refresh (mu (mu (mu M4 5 1 x1) 5 2 x2) 5 3 x3) (fun r5 M5 => R (wrap ((wrap ((wrap (100 * (M 5 1))) + (wrap (10 * (M 5 2))))) + (M 5 3))) M5))
def fSt_costs (x1 x2 x3 : Int) (M : Mem) (R : Int → Mem → Prop) : Prop := fSt_isCost x1 M (fun r1 M1 => ((r1 = 0 → R (-1) M1) ∧ (¬ r1 = 0 → fSt_isCost x2 M1 (fun r2 M2 => ((r2 = 0 → R (-1) M2) ∧ (¬ r2 = 0 → fSt_isCost x3 M2 (fun r3 M3 => ((r3 ≠ 0 → (((M3 5 1) ≠ x1 → fSt_costs_59  R x1 x2 x3 M3) ∧ ((M3 5 1) = x1 → (((M3 5 2) ≠ x2 → fSt_costs_59  R x1 x2 x3 M3) ∧ ((M3 5 2) = x2 → (((M3 5 3) ≠ x3 → fSt_costs_59  R x1 x2 x3 M3) ∧ ((M3 5 3) = x3 → R (-2) M3))))))) ∧ (r3 = 0 → R (-1) M3)))))))))
def fSt_weigh (x1 x2 : Int) (M : Mem) (R : Int → Mem → Prop) : Prop := fSt_isInstruction x1 M (fun r1 M1 => ((r1 = 0 → R (-1) M1) ∧ (¬ r1 = 0 → ((x2 < 1 → R (-1) M1) ∧ (¬ x2 < 1 → ((x2 ≤ 999 → (inb x1 24 ∧ (((M1 6 x1) ≠ x2 → fSe_remember M1 (fun r2 M2 => (inb x1 24 ∧ fSt_refresh (mu M2 6 x1 x2) (fun r3 M3 => R (M1 6 x1) M3)))) ∧ ((M1 6 x1) = x2 → R (-2) M1)))) ∧ (¬ x2 ≤ 999 → R (-1) M1)))))))
def fRu_weightOf (x1 : Int) (M : Mem) (R : Int → Mem → Prop) : Prop := (inb x1 24 ∧ fMath_min (wrap ((M 44 x1) + 1)) 999 M (fun r1 M1 => R r1 M1))
def fSt_profile_73 (R : Int → Mem → Prop) : Nat → Int → Int → Mem → Prop
  | 0 => fun _ _ _ => False
  | n + 1 => fun x1 x2 M => (((M 13 6) ≤ x2 → fSt_refresh M (fun r2 M2 => R x1 M2)) ∧ (¬ (M 13 6) ≤ x2 → fRu_weightOf x2 M (fun r3 M3 => (inb x2 24 ∧ (fSt_profile_73 R n) x1 (wrap (x2 + 1)) (mu M3 6 x2 r3)))))
def fSt_profile_51 (k17 : Int → Int → Mem → Prop) (R : Int → Mem → Prop) (x1 x2 : Int) (M : Mem) : Prop := k17 x1 (wrap (x2 + 1)) M
def fSt_profile_17 (R : Int → Mem → Prop) : Nat → Int → Int → Mem → Prop
  | 0 => fun _ _ _ => False
  | n + 1 => fun x1 x2 M => (((M 13 6) ≤ x2 → ((x1 ≠ 0 → fSe_remember M (fun r1 M1 => ∃ n4, fSt_profile_73  R n4 x1 0 M1)) ∧ (x1 = 0 → R (-2) M))) ∧ (¬ (M 13 6) ≤ x2 → (inb x2 24 ∧ fRu_weightOf x2 M (fun r5 M5 => (((M 6 x2) = r5 → fSt_profile_51 (fSt_profile_17 R n) R x1 x2 M5) ∧ (¬ (M 6 x2) = r5 → fSt_profile_51 (fSt_profile_17 R n) R (wrap (x1 + 1)) x2 M5))))))
def fSt_profile (M : Mem) (R : Int → Mem → Prop) : Prop := (((M 40 7) ≠ 0 → ∃ n6, fSt_profile_17  R n6 0 0 M) ∧ ((M 40 7) = 0 → R (-2) M))
def fSe_recall_18 (R : Int → Mem → Prop) (t0 : Int) (M : Mem) : Prop := (inb (wrap (t0 * 28)) 168 ∧ (inb (wrap ((wrap (t0 * 28)) + 1)) 168 ∧ (inb (wrap ((wrap (t0 * 28)) + 2)) 168 ∧ (inb (wrap ((wrap (t0 * 28)) + 3)) 168 ∧ (((0 : Int) ≤ (wrap ((wrap (t0 * 28)) + 4)) ∧ (0 : Int) ≤ 0 ∧ (0 : Int) ≤ 24 ∧ (((wrap ((wrap (t0 * 28)) + 4)) + 24 : Int) ≤ ((168 : Nat) : Int)) ∧ ((0 + 24 : Int) ≤ ((24 : Nat) : Int))) ∧ R 0 (mcopy (mu (mu (mu (mu (mu (mu M 5 7 t0) 5 5 (wrap ((M 5 5) - 1))) 5 0 (M 7 (wrap (t0 * 28)))) 5 1 (M 7 (wrap ((wrap (t0 * 28)) + 1)))) 5 2 (M 7 (wrap ((wrap (t0 * 28)) + 2)))) 5 3 (M 7 (wrap ((wrap (t0 * 28)) + 3)))) 7 (wrap ((wrap (t0 * 28)) + 4)) 6 0 24))))))
def fSe_recall (M : Mem) (R : Int → Mem → Prop) : Prop := (((M 5 7) ≤ 0 → fSe_recall_18  R 5 M) ∧ (¬ (M 5 7) ≤ 0 → fSe_recall_18  R (wrap ((M 5 7) - 1)) M))
def fSt_undo (M : Mem) (R : Int → Mem → Prop) : Prop := (((M 5 5) ≠ 0 → fSe_recall M (fun r1 M1 => fSt_refresh M1 (fun r2 M2 => R (M2 5 5) M2))) ∧ ((M 5 5) = 0 → R (-2) M))
def fSt_states (M : Mem) (R : Int → Mem → Prop) : Prop := R (M 8 4) M
def fSt_isState_19 (R : Int → Mem → Prop) (M : Mem) : Prop := R 0 M
def fSt_isState (x1 : Int) (M : Mem) (R : Int → Mem → Prop) : Prop := ((x1 < 0 → fSt_isState_19  R M) ∧ (¬ x1 < 0 → (((M 8 4) ≤ x1 → fSt_isState_19  R M) ∧ (¬ (M 8 4) ≤ x1 → R 1 M))))
def fMa_lengthOf (x1 : Int) (M : Mem) (R : Int → Mem → Prop) : Prop := (inb x1 16 ∧ R (M 10 x1) M)
def fSt_state (x1 x2 : Int) (M : Mem) (R : Int → Mem → Prop) : Prop := fSt_isState x1 M (fun r1 M1 => ((r1 = 0 → R (-1) M1) ∧ (¬ r1 = 0 → (((-1) ≤ x2 → fMa_lengthOf x1 M1 (fun r2 M2 => ((x2 ≠ (-1) → ((r2 ≤ x2 → R (-4) M2) ∧ (¬ r2 ≤ x2 → fMa_registerOf x1 x2 M2 (fun r3 M3 => R r3 M3)))) ∧ (x2 = (-1) → R r2 M2)))) ∧ (¬ (-1) ≤ x2 → R (-1) M1)))))
def fMa_passageCost (x1 x2 : Int) (M : Mem) (R : Int → Mem → Prop) : Prop := (inb (wrap ((wrap (x1 * 16)) + x2)) 256 ∧ R (M 12 (wrap ((wrap (x1 * 16)) + x2))) M)
def fSt_passage (x1 x2 : Int) (M : Mem) (R : Int → Mem → Prop) : Prop := fSt_isState x1 M (fun r1 M1 => ((r1 = 0 → R (-1) M1) ∧ (¬ r1 = 0 → fSt_isState x2 M1 (fun r2 M2 => ((r2 ≠ 0 → fMa_passageCost x1 x2 M2 (fun r3 M3 => R r3 M3)) ∧ (r2 = 0 → R (-1) M2))))))
def fMa_worksInRegisters_43 (R : Int → Mem → Prop) (M : Mem) : Prop := R 0 M
def fMa_worksInRegisters (x1 x2 : Int) (M : Mem) (R : Int → Mem → Prop) : Prop := (inb x2 16 ∧ (inb x1 15 ∧ (((M 10 x2) < (roV 100 x1) → fMa_worksInRegisters_43  R M) ∧ (¬ (M 10 x2) < (roV 100 x1) → (inb x2 16 ∧ (inb x1 15 ∧ (inb x1 15 ∧ (((M 8 0) < (wrap ((wrap ((M 10 x2) - (roV 100 x1))) + (roV 101 x1))) → fMa_worksInRegisters_43  R M) ∧ (¬ (M 8 0) < (wrap ((wrap ((M 10 x2) - (roV 100 x1))) + (roV 101 x1))) → R 1 M)))))))))
def fMa_hasVersion_13 (R : Int → Mem → Prop) (M : Mem) : Prop := R 1 M
def fMa_hasVersion (x1 x2 : Int) (M : Mem) (R : Int → Mem → Prop) : Prop := ((x2 = 0 → fMa_hasVersion_13  R M) ∧ (¬ x2 = 0 → fMa_worksInRegisters x1 x2 M (fun r1 M1 => ((r1 = 0 → R 0 M1) ∧ (¬ r1 = 0 → fMa_hasVersion_13  R M1)))))
def fMa_smallestFree_2 (R : Int → Mem → Prop) : Nat → Int → Int → Mem → Prop
  | 0 => fun _ _ _ => False
  | n + 1 => fun x0 x1 M => ((2 ≤ x1 → R 2 M) ∧ (¬ 2 ≤ x1 → fMa_holds x0 x1 M (fun r1 M1 => ((r1 ≠ 0 → (fMa_smallestFree_2 R n) x0 (wrap (x1 + 1)) M1) ∧ (r1 = 0 → R x1 M1)))))
def fMa_smallestFree (x0 : Int) (M : Mem) (R : Int → Mem → Prop) : Prop := ∃ n2, fMa_smallestFree_2  R n2 x0 0 M
def fMa_stateAfter_98 (R : Int → Mem → Prop) (x3 : Int) (M : Mem) : Prop := fMa_smallestFree x3 M (fun r2 M2 => fMa_push x3 r2 M2 (fun r3 M3 => (inb r3 64 ∧ R (M3 11 r3) M3)))
def fMa_stateAfter_112 (R : Int → Mem → Prop) (x1 x3 : Int) (M : Mem) : Prop := (inb x1 15 ∧ (inb x1 15 ∧ (((roV 101 x1) ≠ 0 → fMa_smallestFree (b_ishr x3 (wrap (2 * (roV 100 x1)))) M (fun r10 M10 => fMa_push (b_ishr x3 (wrap (2 * (roV 100 x1)))) r10 M10 (fun r11 M11 => (inb r11 64 ∧ R (M11 11 r11) M11)))) ∧ ((roV 101 x1) = 0 → (inb (b_ishr x3 (wrap (2 * (roV 100 x1)))) 64 ∧ R (M 11 (b_ishr x3 (wrap (2 * (roV 100 x1))))) M)))))
def fMa_stateAfter (x1 x2 : Int) (M : Mem) (R : Int → Mem → Prop) : Prop := fMa_worksInRegisters x1 x2 M (fun r1 M1 => ((r1 ≠ 0 → (inb x2 16 ∧ ((x1 = 4 ∨ x1 = 7 → fMa_stateAfter_98  R (M1 9 x2) M1) ∧ (x1 = 5 → fMa_registerOf x2 0 M1 (fun r4 M4 => fMa_push (b_ishr (M1 9 x2) 4) r4 M4 (fun r5 M5 => fMa_registerOf x2 1 M5 (fun r6 M6 => fMa_push r5 r6 M6 (fun r7 M7 => (inb r7 64 ∧ R (M7 11 r7) M7)))))) ∧ (x1 = 8 → fMa_registerOf x2 2 M1 (fun r8 M8 => fMa_push (b_iand (M1 9 x2) 15) r8 M8 (fun r9 M9 => (inb r9 64 ∧ R (M9 11 r9) M9)))) ∧ (x1 < 4 ∨ 8 < x1 ∨ x1 = 6 → fMa_stateAfter_112  R x1 (M1 9 x2) M1)))) ∧ (r1 = 0 → R 0 M1)))
def fMa_isPlain_23 (R : Int → Mem → Prop) (M : Mem) : Prop := R 0 M
def fMa_isPlain (x1 x2 : Int) (M : Mem) (R : Int → Mem → Prop) : Prop := ((x2 ≠ 0 → fMa_isPlain_23  R M) ∧ (x2 = 0 → ((x1 = 6 → fMa_isPlain_23  R M) ∧ (¬ x1 = 6 → fMa_worksInRegisters x1 x2 M (fun r1 M1 => ((r1 ≠ 0 → fMa_isPlain_23  R M1) ∧ (r1 = 0 → R 1 M1)))))))
def fMa_versionCost_47 (R : Int → Mem → Prop) (t0 : Int) (M : Mem) : Prop := ((t0 = 0 → R 0 M) ∧ (¬ t0 = 0 → R (M 8 1) M))
def fMa_versionCost_42 (R : Int → Mem → Prop) (M : Mem) : Prop := fMa_versionCost_47  R 1 M
def fMa_versionCost (x1 x2 : Int) (M : Mem) (R : Int → Mem → Prop) : Prop := fMa_isPlain x1 x2 M (fun r1 M1 => ((r1 = 0 → ((x1 = 4 → fMa_versionCost_42  R M1) ∧ (¬ x1 = 4 → ((x1 ≠ 7 → fMa_versionCost_47  R 0 M1) ∧ (x1 = 7 → fMa_versionCost_42  R M1))))) ∧ (¬ r1 = 0 → (inb x1 15 ∧ (inb x1 15 ∧ R (wrap ((wrap ((roV 100 x1) * (M1 8 2))) + (wrap ((roV 101 x1) * (M1 8 3))))) M1)))))
def fSt_version (x1 x2 x3 : Int) (M : Mem) (R : Int → Mem → Prop) : Prop := fSt_isInstruction x1 M (fun r1 M1 => ((r1 = 0 → R (-1) M1) ∧ (¬ r1 = 0 → fSt_isState x2 M1 (fun r2 M2 => ((r2 = 0 → R (-1) M2) ∧ (¬ r2 = 0 → ((x3 < 0 → R (-1) M2) ∧ (¬ x3 < 0 → ((x3 ≤ 2 → (inb x1 24 ∧ fMa_hasVersion (M2 14 x1) x2 M2 (fun r3 M3 => ((r3 ≠ 0 → ((x3 = 0 → fMa_stateAfter (M2 14 x1) x2 M3 (fun r4 M4 => R r4 M4)) ∧ (x3 = 1 → fMa_versionCost (M2 14 x1) x2 M3 (fun r5 M5 => R r5 M5)) ∧ (x3 ≠ 0 ∧ x3 ≠ 1 → fMa_isPlain (M2 14 x1) x2 M3 (fun r6 M6 => ((r6 = 0 → R 0 M6) ∧ (¬ r6 = 0 → R 1 M6)))))) ∧ (r3 = 0 → R (-4) M3))))) ∧ (¬ x3 ≤ 2 → R (-1) M2))))))))))
def fArr_fill_37_5 (R : Int → Mem → Prop) : Nat → Int → Int → Int → Mem → Prop
  | 0 => fun _ _ _ _ => False
  | n + 1 => fun x1 x2 x3 M => ((x3 ≤ x2 → R 0 M) ∧ (¬ x3 ≤ x2 → (inb x2 24 ∧ (fArr_fill_37_5 R n) x1 (wrap (x2 + 1)) x3 (mu M 37 x2 x1))))
def fArr_fill_37 (x1 : Int) (M : Mem) (R : Int → Mem → Prop) : Prop := ∃ n1, fArr_fill_37_5  R n1 x1 0 24 M
def fCh_listExit_8 (R : Int → Mem → Prop) : Nat → Int → Int → Int → Int → Mem → Prop
  | 0 => fun _ _ _ _ _ => False
  | n + 1 => fun x1 x2 x3 x4 M => (inb x1 24 ∧ (((M 31 x1) ≤ x4 → (inb x1 24 ∧ (inb x1 24 ∧ (inb (wrap (x3 + (M 31 x1))) 384 ∧ R 0 (mu (mu M 31 x1 (wrap ((M 31 x1) + 1))) 30 (wrap (x3 + (M 31 x1))) x2))))) ∧ (¬ (M 31 x1) ≤ x4 → (inb (wrap (x3 + x4)) 384 ∧ (((M 30 (wrap (x3 + x4))) ≠ x2 → (fCh_listExit_8 R n) x1 x2 x3 (wrap (x4 + 1)) M) ∧ ((M 30 (wrap (x3 + x4))) = x2 → R 0 M))))))
def fCh_listExit (x1 x2 : Int) (M : Mem) (R : Int → Mem → Prop) : Prop := ∃ n1, fCh_listExit_8  R n1 x1 x2 (wrap (x1 * 16)) 0 M
def fCh_listLegal_183 (k55 : Int → Int → Int → Int → Mem → Prop) (R : Int → Mem → Prop) (x1 x2 x3 x4 : Int) (M : Mem) : Prop := k55 x1 x2 x3 (wrap (x4 + 1)) M
def fCh_listLegal_55 (R : Int → Mem → Prop) : Nat → Int → Int → Int → Int → Mem → Prop
  | 0 => fun _ _ _ _ _ => False
  | n + 1 => fun x1 x2 x3 x4 M => ((x3 ≤ x4 → R 0 M) ∧ (¬ x3 ≤ x4 → fMa_lengthOf x4 M (fun r2 M2 => (inb x1 24 ∧ (((M2 17 x1) < r2 → fCh_listLegal_183 (fCh_listLegal_55 R n) R x1 x2 x3 x4 M2) ∧ (¬ (M2 17 x1) < r2 → fMa_hasVersion x2 x4 M2 (fun r3 M3 => ((r3 ≠ 0 → (inb x1 24 ∧ (inb x1 24 ∧ (inb (wrap ((wrap (x1 * 16)) + (M3 29 x1))) 384 ∧ fMa_stateAfter x2 x4 (mu (mu M3 29 x1 (wrap ((M3 29 x1) + 1))) 28 (wrap ((wrap (x1 * 16)) + (M3 29 x1))) x4) (fun r4 M4 => (inb (wrap ((wrap (x1 * 16)) + x4)) 384 ∧ (inb x1 24 ∧ fMa_versionCost x2 x4 (mu M4 32 (wrap ((wrap (x1 * 16)) + x4)) r4) (fun r5 M5 => (inb (wrap ((wrap (x1 * 16)) + x4)) 384 ∧ (inb (wrap ((wrap (x1 * 16)) + x4)) 384 ∧ fCh_listExit x1 (M5 32 (wrap ((wrap (x1 * 16)) + x4))) (mu M5 33 (wrap ((wrap (x1 * 16)) + x4)) (wrap ((M4 6 x1) * r5))) (fun r6 M6 => fCh_listLegal_183 (fCh_listLegal_55 R n) R x1 x2 x3 x4 M6))))))))))) ∧ (r3 = 0 → fCh_listLegal_183 (fCh_listLegal_55 R n) R x1 x2 x3 x4 M3)))))))))
def fCh_listLegal_51 (R : Int → Mem → Prop) (x1 x2 t0 : Int) (M : Mem) : Prop := ∃ n7, fCh_listLegal_55  R n7 x1 x2 t0 0 M
def fCh_listLegal (x1 : Int) (M : Mem) (R : Int → Mem → Prop) : Prop := (inb x1 24 ∧ (inb x1 24 ∧ fPr_isReached_p x1 (mu (mu M 29 x1 0) 31 x1 0) (fun r1 M1 => ((r1 ≠ 0 → (inb x1 24 ∧ ((x1 ≠ 0 → fCh_listLegal_51  R x1 (M1 14 x1) (M1 8 4) M1) ∧ (x1 = 0 → fCh_listLegal_51  R x1 (M1 14 x1) 1 M1)))) ∧ (r1 = 0 → R 0 M1)))))
def fCh_prepare_11 (R : Int → Mem → Prop) : Nat → Int → Mem → Prop
  | 0 => fun _ _ => False
  | n + 1 => fun x1 M => (((M 13 6) ≤ x1 → R 0 (mu M 37 0 0)) ∧ (¬ (M 13 6) ≤ x1 → fCh_listLegal x1 M (fun r2 M2 => (fCh_prepare_11 R n) (wrap (x1 + 1)) M2)))
def fCh_prepare (M : Mem) (R : Int → Mem → Prop) : Prop := fArr_fill_37 (-4) M (fun r1 M1 => ∃ n3, fCh_prepare_11  R n3 0 M1)
def fPr_targetFrom_p_2 (R : Int → Mem → Prop) : Nat → Int → Mem → Prop
  | 0 => fun _ _ => False
  | n + 1 => fun x2 M => (((M 13 6) ≤ x2 → R (-4) M) ∧ (¬ (M 13 6) ≤ x2 → (inb x2 24 ∧ (((M 19 x2) = 0 → (fPr_targetFrom_p_2 R n) (wrap (x2 + 1)) M) ∧ (¬ (M 19 x2) = 0 → R x2 M)))))
def fPr_targetFrom_p (x1 : Int) (M : Mem) (R : Int → Mem → Prop) : Prop := ∃ n1, fPr_targetFrom_p_2  R n1 x1 M
def fCh_pinCount (x1 : Int) (M : Mem) (R : Int → Mem → Prop) : Prop := ((x1 ≠ (-4) → (inb x1 24 ∧ R (M 29 x1) M)) ∧ (x1 = (-4) → R 1 M))
def fCh_pin (x1 x2 : Int) (M : Mem) (R : Int → Mem → Prop) : Prop := ((x1 = (-4) → R 0 M) ∧ (¬ x1 = (-4) → ((x2 = (-4) → R 0 M) ∧ (¬ x2 = (-4) → (inb (wrap ((wrap (x1 * 16)) + x2)) 384 ∧ (inb x1 24 ∧ R 0 (mu M 37 x1 (M 28 (wrap ((wrap (x1 * 16)) + x2))))))))))
def fCh_leading (x1 x2 : Int) (M : Mem) (R : Int → Mem → Prop) : Prop := fPr_leads_p x1 M (fun r1 M1 => ((r1 ≠ 0 → (inb x1 24 ∧ (inb x1 24 ∧ (inb (M1 15 x1) 24 ∧ (inb (wrap ((wrap (x2 * 16)) + (M1 37 (M1 15 x1)))) 256 ∧ R (wrap ((M1 6 x1) * (M1 12 (wrap ((wrap (x2 * 16)) + (M1 37 (M1 15 x1))))))) M1))))) ∧ (r1 = 0 → R 0 M1)))
def fCh_fallingTo (x1 x2 x3 : Int) (M : Mem) (R : Int → Mem → Prop) : Prop := (inb x1 24 ∧ (inb (wrap ((wrap (x2 * 16)) + x3)) 256 ∧ (inb (wrap ((wrap ((wrap (x1 + 1)) * 16)) + x3)) 384 ∧ R (wrap ((wrap ((M 6 x1) * (M 12 (wrap ((wrap (x2 * 16)) + x3))))) + (M 34 (wrap ((wrap ((wrap (x1 + 1)) * 16)) + x3))))) M)))
def fCh_falling_122 (k70 : Int → Int → Int → Int → Int → Int → Mem → Prop) (R : Int → Mem → Prop) (x3 x4 x5 x6 x7 x8 : Int) (M : Mem) : Prop := k70 x3 x4 x5 x6 x7 (wrap (x8 + 1)) M
def fCh_falling_70 (R : Int → Mem → Prop) : Nat → Int → Int → Int → Int → Int → Int → Mem → Prop
  | 0 => fun _ _ _ _ _ _ _ => False
  | n + 1 => fun x3 x4 x5 x6 x7 x8 M => ((x6 ≤ x8 → R x7 M) ∧ (¬ x6 ≤ x8 → (inb x8 384 ∧ (inb (wrap (x4 + (M 28 x8))) 256 ∧ (inb (wrap (x5 + (M 28 x8))) 384 ∧ ((x7 ≤ (wrap ((wrap (x3 * (M 12 (wrap (x4 + (M 28 x8)))))) + (M 34 (wrap (x5 + (M 28 x8)))))) → fCh_falling_122 (fCh_falling_70 R n) R x3 x4 x5 x6 x7 x8 M) ∧ (¬ x7 ≤ (wrap ((wrap (x3 * (M 12 (wrap (x4 + (M 28 x8)))))) + (M 34 (wrap (x5 + (M 28 x8)))))) → fCh_falling_122 (fCh_falling_70 R n) R x3 x4 x5 x6 (wrap ((wrap (x3 * (M 12 (wrap (x4 + (M 28 x8)))))) + (M 34 (wrap (x5 + (M 28 x8)))))) x8 M)))))))
def fCh_falling (x1 x2 : Int) (M : Mem) (R : Int → Mem → Prop) : Prop := (inb (wrap (x1 + 1)) 24 ∧ (((M 37 (wrap (x1 + 1))) = (-4) → (inb x1 24 ∧ (inb (wrap (x1 + 1)) 24 ∧ ∃ n1, fCh_falling_70  R n1 (M 6 x1) (wrap (x2 * 16)) (wrap ((wrap (x1 + 1)) * 16)) (wrap ((wrap ((wrap (x1 + 1)) * 16)) + (M 29 (wrap (x1 + 1))))) 1000000000 (wrap ((wrap (x1 + 1)) * 16)) M))) ∧ (¬ (M 37 (wrap (x1 + 1))) = (-4) → (inb (wrap (x1 + 1)) 24 ∧ fCh_fallingTo x1 x2 (M 37 (wrap (x1 + 1))) M (fun r2 M2 => R r2 M2)))))
def fCh_leaving (x1 x2 : Int) (M : Mem) (R : Int → Mem → Prop) : Prop := fPr_falls_p x1 M (fun r1 M1 => ((r1 = 0 → fCh_leading x1 x2 M1 (fun r2 M2 => R r2 M2)) ∧ (¬ r1 = 0 → fCh_leading x1 x2 M1 (fun r3 M3 => fCh_falling x1 x2 M3 (fun r4 M4 => R (wrap (r3 + r4)) M4)))))
def fCh_walkBack_181 (k10 : Int → Mem → Prop) (R : Int → Mem → Prop) (x1 : Int) (M : Mem) : Prop := k10 (wrap (x1 + (-1))) M
def fCh_walkBack_126 (k10 : Int → Mem → Prop) (R : Int → Mem → Prop) : Nat → Int → Int → Int → Mem → Prop
  | 0 => fun _ _ _ _ => False
  | n + 1 => fun x1 x2 x3 M => (inb x1 24 ∧ (((M 29 x1) ≤ x3 → fCh_walkBack_181 k10 R x1 M) ∧ (¬ (M 29 x1) ≤ x3 → (inb (wrap (x2 + x3)) 384 ∧ (inb (wrap (x2 + (M 28 (wrap (x2 + x3))))) 384 ∧ (inb (wrap (x2 + (M 28 (wrap (x2 + x3))))) 384 ∧ (inb (M 32 (wrap (x2 + (M 28 (wrap (x2 + x3)))))) 16 ∧ (inb (wrap (x2 + (M 28 (wrap (x2 + x3))))) 384 ∧ (fCh_walkBack_126 k10 R n) x1 x2 (wrap (x3 + 1)) (mu M 34 (wrap (x2 + (M 28 (wrap (x2 + x3))))) (wrap ((M 33 (wrap (x2 + (M 28 (wrap (x2 + x3)))))) + (M 38 (M 32 (wrap (x2 + (M 28 (wrap (x2 + x3))))))))))))))))))
def fCh_walkBack_82 (k10 : Int → Mem → Prop) (R : Int → Mem → Prop) : Nat → Int → Int → Int → Mem → Prop
  | 0 => fun _ _ _ _ => False
  | n + 1 => fun x1 x2 x3 M => (inb x1 24 ∧ (((M 31 x1) ≤ x3 → ∃ n2, fCh_walkBack_126 k10 R n2 x1 x2 0 M) ∧ (¬ (M 31 x1) ≤ x3 → (inb (wrap (x2 + x3)) 384 ∧ (inb (wrap (x2 + x3)) 384 ∧ fCh_leaving x1 (M 30 (wrap (x2 + x3))) M (fun r3 M3 => (inb (M 30 (wrap (x2 + x3))) 16 ∧ (fCh_walkBack_82 k10 R n) x1 x2 (wrap (x3 + 1)) (mu M3 38 (M 30 (wrap (x2 + x3))) r3))))))))
def fCh_walkBack_10 (R : Int → Mem → Prop) : Nat → Int → Mem → Prop
  | 0 => fun _ _ => False
  | n + 1 => fun x1 M => ((x1 < 0 → R 0 M) ∧ (¬ x1 < 0 → fPr_isReached_p x1 M (fun r1 M1 => ((r1 ≠ 0 → (inb x1 24 ∧ (((M1 37 x1) = (-4) → ∃ n4, fCh_walkBack_82 (fCh_walkBack_10 R n) R n4 x1 (wrap (x1 * 16)) 0 M1) ∧ (¬ (M1 37 x1) = (-4) → (inb x1 24 ∧ (inb (wrap ((wrap (x1 * 16)) + (M1 37 x1))) 384 ∧ (inb (wrap ((wrap (x1 * 16)) + (M1 37 x1))) 384 ∧ fCh_leaving x1 (M1 32 (wrap ((wrap (x1 * 16)) + (M1 37 x1)))) M1 (fun r5 M5 => (inb (wrap ((wrap (x1 * 16)) + (M1 37 x1))) 384 ∧ fCh_walkBack_181 (fCh_walkBack_10 R n) R x1 (mu M5 34 (wrap ((wrap (x1 * 16)) + (M1 37 x1))) (wrap ((M1 33 (wrap ((wrap (x1 * 16)) + (M1 37 x1)))) + r5)))))))))))) ∧ (r1 = 0 → fCh_walkBack_181 (fCh_walkBack_10 R n) R x1 M1)))))
def fCh_walkBack (M : Mem) (R : Int → Mem → Prop) : Prop := ∃ n6, fCh_walkBack_10  R n6 (wrap ((M 13 6) - 1)) M
def fCh_pick_150 (k2 : Int → Mem → Prop) (R : Int → Mem → Prop) (x1 : Int) (M : Mem) : Prop := k2 (wrap (x1 + 1)) M
def fCh_pick_144 (k87 : Int → Int → Int → Int → Mem → Prop) (R : Int → Mem → Prop) (x1 x2 x3 x4 : Int) (M : Mem) : Prop := k87 x1 x2 x3 (wrap (x4 + 1)) M
def fCh_pick_87 (k2 : Int → Mem → Prop) (R : Int → Mem → Prop) : Nat → Int → Int → Int → Int → Mem → Prop
  | 0 => fun _ _ _ _ _ => False
  | n + 1 => fun x1 x2 x3 x4 M => (inb x1 24 ∧ (((M 29 x1) ≤ x4 → fCh_pick_150 k2 R x1 M) ∧ (¬ (M 29 x1) ≤ x4 → (inb (wrap ((wrap (x1 * 16)) + x4)) 384 ∧ fCh_fallingTo (wrap (x1 - 1)) x2 (M 28 (wrap ((wrap (x1 * 16)) + x4))) M (fun r2 M2 => ((r2 < x3 → (inb x1 24 ∧ fCh_pick_144 (fCh_pick_87 k2 R n) R x1 x2 r2 x4 (mu M2 39 x1 (M 28 (wrap ((wrap (x1 * 16)) + x4)))))) ∧ (¬ r2 < x3 → fCh_pick_144 (fCh_pick_87 k2 R n) R x1 x2 x3 x4 M2)))))))
def fCh_pick_2 (R : Int → Mem → Prop) : Nat → Int → Mem → Prop
  | 0 => fun _ _ => False
  | n + 1 => fun x1 M => (((M 13 6) ≤ x1 → R 0 M) ∧ (¬ (M 13 6) ≤ x1 → (inb x1 24 ∧ fPr_isReached_p x1 (mu M 39 x1 0) (fun r1 M1 => ((r1 ≠ 0 → (inb x1 24 ∧ (((M1 37 x1) = (-4) → (inb (wrap (x1 - 1)) 24 ∧ (inb (wrap ((wrap ((wrap (x1 - 1)) * 16)) + (M1 39 (wrap (x1 - 1))))) 384 ∧ ∃ n3, fCh_pick_87 (fCh_pick_2 R n) R n3 x1 (M1 32 (wrap ((wrap ((wrap (x1 - 1)) * 16)) + (M1 39 (wrap (x1 - 1)))))) 1000000000 0 M1))) ∧ (¬ (M1 37 x1) = (-4) → (inb x1 24 ∧ (inb x1 24 ∧ fCh_pick_150 (fCh_pick_2 R n) R x1 (mu M1 39 x1 (M1 37 x1)))))))) ∧ (r1 = 0 → fCh_pick_150 (fCh_pick_2 R n) R x1 M1))))))
def fCh_pick (M : Mem) (R : Int → Mem → Prop) : Prop := ∃ n4, fCh_pick_2  R n4 0 M
def fPr_isHead_p_24 (R : Int → Mem → Prop) (M : Mem) : Prop := R 1 M
def fPr_isHead_p (x1 : Int) (M : Mem) (R : Int → Mem → Prop) : Prop := ((x1 = 0 → fPr_isHead_p_24  R M) ∧ (¬ x1 = 0 → fPr_isReached_p (wrap (x1 - 1)) M (fun r1 M1 => ((r1 = 0 → fPr_isHead_p_24  R M1) ∧ (¬ r1 = 0 → fPr_falls_p (wrap (x1 - 1)) M1 (fun r2 M2 => ((r2 ≠ 0 → R 0 M2) ∧ (r2 = 0 → fPr_isHead_p_24  R M2))))))))
def fCh_total_56 (k4 : Int → Int → Mem → Prop) (R : Int → Mem → Prop) (x1 x2 : Int) (M : Mem) : Prop := k4 x1 (wrap (x2 + 1)) M
def fCh_total_4 (R : Int → Mem → Prop) : Nat → Int → Int → Mem → Prop
  | 0 => fun _ _ _ => False
  | n + 1 => fun x1 x2 M => (((M 13 6) ≤ x2 → R x1 M) ∧ (¬ (M 13 6) ≤ x2 → fPr_isReached_p x2 M (fun r1 M1 => ((r1 = 0 → fCh_total_56 (fCh_total_4 R n) R x1 x2 M1) ∧ (¬ r1 = 0 → fPr_isHead_p x2 M1 (fun r2 M2 => ((r2 = 0 → fCh_total_56 (fCh_total_4 R n) R x1 x2 M2) ∧ (¬ r2 = 0 → (inb x2 24 ∧ (inb (wrap ((wrap (x2 * 16)) + (M2 37 x2))) 384 ∧ fCh_total_56 (fCh_total_4 R n) R (wrap (x1 + (M2 34 (wrap ((wrap (x2 * 16)) + (M2 37 x2)))))) x2 M2))))))))))
def fCh_total (M : Mem) (R : Int → Mem → Prop) : Prop := ∃ n3, fCh_total_4  R n3 0 0 M
def fCh_noteLeast_93 (k2 : Int → Int → Int → Mem → Prop) (R : Int → Mem → Prop) (x1 x2 x3 : Int) (M : Mem) : Prop := k2 x1 x2 (wrap (x3 + 1)) M
def fCh_noteLeast_50 (k2 : Int → Int → Int → Mem → Prop) (R : Int → Mem → Prop) (x1 x2 x3 x4 : Int) (M : Mem) : Prop := (inb (wrap ((wrap (x1 * 16)) + x4)) 384 ∧ (inb (wrap ((wrap (x1 * 16)) + x4)) 384 ∧ (inb (wrap ((wrap (x1 * 16)) + x4)) 384 ∧ fMath_min (M 36 (wrap ((wrap (x1 * 16)) + x4))) (wrap ((wrap (x2 + (M 35 (wrap ((wrap (x1 * 16)) + x4))))) + (M 34 (wrap ((wrap (x1 * 16)) + x4))))) M (fun r1 M1 => (inb (wrap ((wrap (x1 * 16)) + x4)) 384 ∧ fCh_noteLeast_93 k2 R x1 x2 x3 (mu M1 36 (wrap ((wrap (x1 * 16)) + x4)) r1))))))
def fCh_noteLeast_2 (R : Int → Mem → Prop) : Nat → Int → Int → Int → Mem → Prop
  | 0 => fun _ _ _ _ => False
  | n + 1 => fun x1 x2 x3 M => (inb x1 24 ∧ (((M 29 x1) ≤ x3 → R 0 M) ∧ (¬ (M 29 x1) ≤ x3 → (inb (wrap ((wrap (x1 * 16)) + x3)) 384 ∧ (inb x1 24 ∧ (((M 37 x1) = (-4) → fCh_noteLeast_50 (fCh_noteLeast_2 R n) R x1 x2 x3 (M 28 (wrap ((wrap (x1 * 16)) + x3))) M) ∧ (¬ (M 37 x1) = (-4) → (inb x1 24 ∧ (((M 37 x1) = (M 28 (wrap ((wrap (x1 * 16)) + x3))) → fCh_noteLeast_50 (fCh_noteLeast_2 R n) R x1 x2 x3 (M 28 (wrap ((wrap (x1 * 16)) + x3))) M) ∧ (¬ (M 37 x1) = (M 28 (wrap ((wrap (x1 * 16)) + x3))) → fCh_noteLeast_93 (fCh_noteLeast_2 R n) R x1 x2 x3 M))))))))))
def fCh_noteLeast (x1 x2 : Int) (M : Mem) (R : Int → Mem → Prop) : Prop := ∃ n2, fCh_noteLeast_2  R n2 x1 x2 0 M
def fArr_fill_38_5 (R : Int → Mem → Prop) : Nat → Int → Int → Int → Mem → Prop
  | 0 => fun _ _ _ _ => False
  | n + 1 => fun x1 x2 x3 M => ((x3 ≤ x2 → R 0 M) ∧ (¬ x3 ≤ x2 → (inb x2 16 ∧ (fArr_fill_38_5 R n) x1 (wrap (x2 + 1)) x3 (mu M 38 x2 x1))))
def fArr_fill_38 (x1 : Int) (M : Mem) (R : Int → Mem → Prop) : Prop := ∃ n1, fArr_fill_38_5  R n1 x1 0 16 M
def fCh_cheapestEntry_83 (k32 : Int → Int → Int → Int → Int → Mem → Prop) (R : Int → Mem → Prop) (x2 x3 x5 x6 x7 : Int) (M : Mem) : Prop := k32 x2 x3 x5 x6 (wrap (x7 + 1)) M
def fCh_cheapestEntry_32 (R : Int → Mem → Prop) : Nat → Int → Int → Int → Int → Int → Mem → Prop
  | 0 => fun _ _ _ _ _ _ => False
  | n + 1 => fun x2 x3 x5 x6 x7 M => ((x5 ≤ x7 → R x6 M) ∧ (¬ x5 ≤ x7 → (inb x7 384 ∧ (inb (M 30 x7) 16 ∧ (inb (wrap ((wrap ((M 30 x7) * 16)) + x2)) 256 ∧ ((x6 ≤ (wrap ((M 38 (M 30 x7)) + (wrap (x3 * (M 12 (wrap ((wrap ((M 30 x7) * 16)) + x2))))))) → fCh_cheapestEntry_83 (fCh_cheapestEntry_32 R n) R x2 x3 x5 x6 x7 M) ∧ (¬ x6 ≤ (wrap ((M 38 (M 30 x7)) + (wrap (x3 * (M 12 (wrap ((wrap ((M 30 x7) * 16)) + x2))))))) → fCh_cheapestEntry_83 (fCh_cheapestEntry_32 R n) R x2 x3 x5 (wrap ((M 38 (M 30 x7)) + (wrap (x3 * (M 12 (wrap ((wrap ((M 30 x7) * 16)) + x2))))))) x7 M)))))))
def fCh_cheapestEntry (x1 x2 : Int) (M : Mem) (R : Int → Mem → Prop) : Prop := (inb x1 24 ∧ (inb x1 24 ∧ ∃ n1, fCh_cheapestEntry_32  R n1 x2 (M 6 x1) (wrap ((wrap (x1 * 16)) + (M 31 x1))) 1000000000 (wrap (x1 * 16)) M))
def fCh_carryForth_200 (k134 : Int → Int → Int → Mem → Prop) (R : Int → Mem → Prop) (x1 x3 x4 : Int) (M : Mem) : Prop := k134 x1 x3 (wrap (x4 + 1)) M
def fCh_carryForth_184 (k134 : Int → Int → Int → Mem → Prop) (R : Int → Mem → Prop) (x1 x3 x4 x5 : Int) (M : Mem) : Prop := fCh_cheapestEntry x1 x5 M (fun r2 M2 => (inb (wrap (x3 + x5)) 384 ∧ fCh_carryForth_200 k134 R x1 x3 x4 (mu M2 35 (wrap (x3 + x5)) r2)))
def fCh_carryForth_134 (R : Int → Mem → Prop) : Nat → Int → Int → Int → Mem → Prop
  | 0 => fun _ _ _ _ => False
  | n + 1 => fun x1 x3 x4 M => (inb (wrap (x1 + 1)) 24 ∧ (((M 29 (wrap (x1 + 1))) ≤ x4 → R 0 M) ∧ (¬ (M 29 (wrap (x1 + 1))) ≤ x4 → (inb (wrap (x3 + x4)) 384 ∧ (inb (wrap (x1 + 1)) 24 ∧ (((M 37 (wrap (x1 + 1))) = (-4) → fCh_carryForth_184 (fCh_carryForth_134 R n) R x1 x3 x4 (M 28 (wrap (x3 + x4))) M) ∧ (¬ (M 37 (wrap (x1 + 1))) = (-4) → (inb (wrap (x1 + 1)) 24 ∧ (((M 37 (wrap (x1 + 1))) ≠ (M 28 (wrap (x3 + x4))) → fCh_carryForth_200 (fCh_carryForth_134 R n) R x1 x3 x4 M) ∧ ((M 37 (wrap (x1 + 1))) = (M 28 (wrap (x3 + x4))) → fCh_carryForth_184 (fCh_carryForth_134 R n) R x1 x3 x4 (M 28 (wrap (x3 + x4))) M))))))))))
def fCh_carryForth_120 (k16 : Int → Int → Int → Mem → Prop) (R : Int → Mem → Prop) (x1 x2 x3 : Int) (M : Mem) : Prop := k16 x1 x2 (wrap (x3 + 1)) M
def fCh_carryForth_61 (k16 : Int → Int → Int → Mem → Prop) (R : Int → Mem → Prop) (x1 x2 x3 x4 : Int) (M : Mem) : Prop := (inb (wrap (x2 + x4)) 384 ∧ (inb (wrap (x2 + x4)) 384 ∧ (inb (wrap (x2 + x4)) 384 ∧ fCh_leading x1 (M 32 (wrap (x2 + x4))) M (fun r4 M4 => (inb (M 32 (wrap (x2 + x4))) 16 ∧ fMath_min (M4 38 (M 32 (wrap (x2 + x4)))) (wrap ((wrap ((M 35 (wrap (x2 + x4))) + (M 33 (wrap (x2 + x4))))) + r4)) M4 (fun r5 M5 => (inb (M 32 (wrap (x2 + x4))) 16 ∧ fCh_carryForth_120 k16 R x1 x2 x3 (mu M5 38 (M 32 (wrap (x2 + x4))) r5))))))))
def fCh_carryForth_16 (R : Int → Mem → Prop) : Nat → Int → Int → Int → Mem → Prop
  | 0 => fun _ _ _ _ => False
  | n + 1 => fun x1 x2 x3 M => (inb x1 24 ∧ (((M 29 x1) ≤ x3 → ∃ n3, fCh_carryForth_134  R n3 x1 (wrap (x2 + 16)) 0 M) ∧ (¬ (M 29 x1) ≤ x3 → (inb (wrap (x2 + x3)) 384 ∧ (inb x1 24 ∧ (((M 37 x1) = (-4) → fCh_carryForth_61 (fCh_carryForth_16 R n) R x1 x2 x3 (M 28 (wrap (x2 + x3))) M) ∧ (¬ (M 37 x1) = (-4) → (inb x1 24 ∧ (((M 37 x1) = (M 28 (wrap (x2 + x3))) → fCh_carryForth_61 (fCh_carryForth_16 R n) R x1 x2 x3 (M 28 (wrap (x2 + x3))) M) ∧ (¬ (M 37 x1) = (M 28 (wrap (x2 + x3))) → fCh_carryForth_120 (fCh_carryForth_16 R n) R x1 x2 x3 M))))))))))
def fCh_carryForth (x1 : Int) (M : Mem) (R : Int → Mem → Prop) : Prop := fArr_fill_38 1000000000 M (fun r1 M1 => ∃ n6, fCh_carryForth_16  R n6 x1 (wrap (x1 * 16)) 0 M1)
def fCh_walkForth_93 (k4 : Int → Int → Int → Mem → Prop) (R : Int → Mem → Prop) (x1 x2 x3 : Int) (M : Mem) : Prop := k4 x1 x2 (wrap (x3 + 1)) M
def fCh_walkForth_71 (k4 : Int → Int → Int → Mem → Prop) (R : Int → Mem → Prop) (x1 x2 x3 : Int) (M : Mem) : Prop := fCh_noteLeast x3 x2 M (fun r3 M3 => fPr_falls_p x3 M3 (fun r4 M4 => ((r4 = 0 → fCh_walkForth_93 k4 R x1 x2 x3 M4) ∧ (¬ r4 = 0 → fCh_carryForth x3 M4 (fun r5 M5 => fCh_walkForth_93 k4 R x1 x2 x3 M5)))))
def fCh_walkForth_4 (R : Int → Mem → Prop) : Nat → Int → Int → Int → Mem → Prop
  | 0 => fun _ _ _ _ => False
  | n + 1 => fun x1 x2 x3 M => (((M 13 6) ≤ x3 → R 0 M) ∧ (¬ (M 13 6) ≤ x3 → fPr_isReached_p x3 M (fun r1 M1 => ((r1 ≠ 0 → fPr_isHead_p x3 M1 (fun r2 M2 => ((r2 = 0 → fCh_walkForth_71 (fCh_walkForth_4 R n) R x1 x2 x3 M2) ∧ (¬ r2 = 0 → (inb x3 24 ∧ (inb (wrap ((wrap (x3 * 16)) + (M2 37 x3))) 384 ∧ (inb (wrap ((wrap (x3 * 16)) + (M2 37 x3))) 384 ∧ fCh_walkForth_71 (fCh_walkForth_4 R n) R x1 (wrap (x1 - (M2 34 (wrap ((wrap (x3 * 16)) + (M2 37 x3)))))) x3 (mu M2 35 (wrap ((wrap (x3 * 16)) + (M2 37 x3))) 0)))))))) ∧ (r1 = 0 → fCh_walkForth_93 (fCh_walkForth_4 R n) R x1 x2 x3 M1)))))
def fCh_walkForth (x1 : Int) (M : Mem) (R : Int → Mem → Prop) : Prop := ∃ n6, fCh_walkForth_4  R n6 x1 0 0 M
def fCh_tryAllPins_131 (k61 : Int → Int → Int → Int → Int → Int → Int → Mem → Prop) (R : Int → Mem → Prop) (x1 x2 x3 x4 x5 x6 x7 : Int) (M : Mem) : Prop := k61 x1 x2 x3 x4 x5 x6 (wrap (x7 + 1)) M
def fCh_tryAllPins_105 (k61 : Int → Int → Int → Int → Int → Int → Int → Mem → Prop) (R : Int → Mem → Prop) (x1 x2 x3 x4 x5 x6 x7 x8 : Int) (M : Mem) : Prop := ((x8 < (M 27 16) → fCh_tryAllPins_131 k61 R x1 x2 x3 x6 x7 x6 x7 (mu M 27 16 x8)) ∧ (¬ x8 < (M 27 16) → fCh_tryAllPins_131 k61 R x1 x2 x3 x4 x5 x6 x7 M))
def fCh_tryAllPins_61 (k48 : Int → Int → Int → Int → Int → Int → Mem → Prop) (R : Int → Mem → Prop) : Nat → Int → Int → Int → Int → Int → Int → Int → Mem → Prop
  | 0 => fun _ _ _ _ _ _ _ _ => False
  | n + 1 => fun x1 x2 x3 x4 x5 x6 x7 M => fCh_pinCount x3 M (fun r8 M8 => ((r8 ≤ x7 → k48 x1 x2 x3 x4 x5 (wrap (x6 + 1)) M8) ∧ (¬ r8 ≤ x7 → fCh_pin x2 x6 M8 (fun r9 M9 => fCh_pin x3 x7 M9 (fun r10 M10 => fCh_walkBack M10 (fun r11 M11 => fCh_total M11 (fun r12 M12 => ((x1 = 0 → fCh_tryAllPins_105 (fCh_tryAllPins_61 k48 R n) R x1 x2 x3 x4 x5 x6 x7 r12 M12) ∧ (¬ x1 = 0 → fCh_walkForth r12 M12 (fun r13 M13 => fCh_tryAllPins_105 (fCh_tryAllPins_61 k48 R n) R x1 x2 x3 x4 x5 x6 x7 r12 M13))))))))))
def fCh_tryAllPins_48 (R : Int → Mem → Prop) : Nat → Int → Int → Int → Int → Int → Int → Mem → Prop
  | 0 => fun _ _ _ _ _ _ _ => False
  | n + 1 => fun x1 x2 x3 x4 x5 x6 M => fCh_pinCount x2 M (fun r3 M3 => ((r3 ≤ x6 → fCh_pin x2 x4 M3 (fun r4 M4 => fCh_pin x3 x5 M4 (fun r5 M5 => fCh_walkBack M5 (fun r6 M6 => fCh_pick M6 (fun r7 M7 => R 0 M7))))) ∧ (¬ r3 ≤ x6 → ∃ n14, fCh_tryAllPins_61 (fCh_tryAllPins_48 R n) R n14 x1 x2 x3 x4 x5 x6 0 M3)))
def fCh_tryAllPins_30 (R : Int → Mem → Prop) (x1 x2 t0 : Int) (M : Mem) : Prop := ∃ n15, fCh_tryAllPins_48  R n15 x1 x2 t0 (-4) (-4) 0 (mu M 27 16 1000000000)
def fCh_tryAllPins (x1 : Int) (M : Mem) (R : Int → Mem → Prop) : Prop := fPr_targetFrom_p 0 M (fun r1 M1 => ((r1 ≠ (-4) → fPr_targetFrom_p (wrap (r1 + 1)) M1 (fun r2 M2 => fCh_tryAllPins_30  R x1 r1 r2 M2)) ∧ (r1 = (-4) → fCh_tryAllPins_30  R x1 r1 (-4) M1)))
def fCh_choose (M : Mem) (R : Int → Mem → Prop) : Prop := (((M 27 17) = 0 → fCh_prepare M (fun r1 M1 => fCh_tryAllPins 0 M1 (fun r2 M2 => R 0 (mu M2 27 17 1)))) ∧ (¬ (M 27 17) = 0 → R 0 M))
def fSt_best (M : Mem) (R : Int → Mem → Prop) : Prop := fCh_choose M (fun r1 M1 => R (M1 27 16) M1)
def fSt_meets (x1 x2 : Int) (M : Mem) (R : Int → Mem → Prop) : Prop := fSt_isInstruction x1 M (fun r1 M1 => ((r1 = 0 → R (-1) M1) ∧ (¬ r1 = 0 → ((x2 < 0 → R (-1) M1) ∧ (¬ x2 < 0 → ((x2 ≤ 1 → fPr_isReached_p x1 M1 (fun r2 M2 => ((r2 ≠ 0 → fCh_choose M2 (fun r3 M3 => (inb x1 24 ∧ ((x2 ≠ 0 → (inb x1 24 ∧ fMa_stateAfter (M3 14 x1) (M3 39 x1) M3 (fun r4 M4 => R r4 M4))) ∧ (x2 = 0 → R (M3 39 x1) M3))))) ∧ (r2 = 0 → R (-4) M2)))) ∧ (¬ x2 ≤ 1 → R (-1) M1)))))))
def fArr_fill_36_5 (R : Int → Mem → Prop) : Nat → Int → Int → Int → Mem → Prop
  | 0 => fun _ _ _ _ => False
  | n + 1 => fun x1 x2 x3 M => ((x3 ≤ x2 → R 0 M) ∧ (¬ x3 ≤ x2 → (inb x2 384 ∧ (fArr_fill_36_5 R n) x1 (wrap (x2 + 1)) x3 (mu M 36 x2 x1))))
def fArr_fill_36 (x1 : Int) (M : Mem) (R : Int → Mem → Prop) : Prop := ∃ n1, fArr_fill_36_5  R n1 x1 0 384 M
def fCh_findLeast (M : Mem) (R : Int → Mem → Prop) : Prop := (((M 27 18) = 0 → fCh_prepare M (fun r1 M1 => fArr_fill_36 1000000000 M1 (fun r2 M2 => fCh_tryAllPins 1 M2 (fun r3 M3 => R 0 (mu (mu M3 27 17 1) 27 18 1))))) ∧ (¬ (M 27 18) = 0 → R 0 M))
def fCh_leastWith (x1 x2 : Int) (M : Mem) (R : Int → Mem → Prop) : Prop := (inb (wrap ((wrap (x1 * 16)) + x2)) 384 ∧ (((M 36 (wrap ((wrap (x1 * 16)) + x2))) ≠ 1000000000 → R (M 36 (wrap ((wrap (x1 * 16)) + x2))) M) ∧ ((M 36 (wrap ((wrap (x1 * 16)) + x2))) = 1000000000 → R (-4) M)))
def fSt_ifMeets (x1 x2 : Int) (M : Mem) (R : Int → Mem → Prop) : Prop := fSt_isInstruction x1 M (fun r1 M1 => ((r1 = 0 → R (-1) M1) ∧ (¬ r1 = 0 → fSt_isState x2 M1 (fun r2 M2 => ((r2 ≠ 0 → fPr_isReached_p x1 M2 (fun r3 M3 => ((r3 ≠ 0 → fCh_findLeast M3 (fun r4 M4 => fCh_leastWith x1 x2 M4 (fun r5 M5 => R r5 M5))) ∧ (r3 = 0 → R (-4) M3)))) ∧ (r2 = 0 → R (-1) M2))))))
def fArr_fill_42_5 (R : Int → Mem → Prop) : Nat → Int → Int → Int → Mem → Prop
  | 0 => fun _ _ _ _ => False
  | n + 1 => fun x1 x2 x3 M => ((x3 ≤ x2 → R 0 M) ∧ (¬ x3 ≤ x2 → (inb x2 4 ∧ (fArr_fill_42_5 R n) x1 (wrap (x2 + 1)) x3 (mu M 42 x2 x1))))
def fArr_fill_42 (x1 : Int) (M : Mem) (R : Int → Mem → Prop) : Prop := ∃ n1, fArr_fill_42_5  R n1 x1 0 4 M
def fArr_fill_44_5 (R : Int → Mem → Prop) : Nat → Int → Int → Int → Mem → Prop
  | 0 => fun _ _ _ _ => False
  | n + 1 => fun x1 x2 x3 M => ((x3 ≤ x2 → R 0 M) ∧ (¬ x3 ≤ x2 → (inb x2 24 ∧ (fArr_fill_44_5 R n) x1 (wrap (x2 + 1)) x3 (mu M 44 x2 x1))))
def fArr_fill_44 (x1 : Int) (M : Mem) (R : Int → Mem → Prop) : Prop := ∃ n1, fArr_fill_44_5  R n1 x1 0 24 M
def fRu_begin (M : Mem) (R : Int → Mem → Prop) : Prop := fArr_fill_42 0 M (fun r1 M1 => fArr_fill_44 0 M1 (fun r2 M2 => R 0 (mu (mu (mu (mu (mu (mu (mu (mu M2 40 7 1) 40 8 0) 40 9 0) 40 10 (M2 39 0)) 40 11 0) 40 12 0) 40 13 0) 40 14 0)))
def fSt_start (M : Mem) (R : Int → Mem → Prop) : Prop := fCh_choose M (fun r1 M1 => fRu_begin M1 (fun r2 M2 => R (M2 40 10) M2))
def fRu_push (x1 : Int) (M : Mem) (R : Int → Mem → Prop) : Prop := ((12 ≤ (M 40 11) → R 0 M) ∧ (¬ 12 ≤ (M 40 11) → (inb (M 40 11) 12 ∧ R 0 (mu (mu M 40 11 (wrap ((M 40 11) + 1))) 41 (M 40 11) x1))))
def fRu_pop (M : Mem) (R : Int → Mem → Prop) : Prop := (((M 40 11) ≤ 0 → R 0 M) ∧ (¬ (M 40 11) ≤ 0 → (inb (wrap ((M 40 11) - 1)) 12 ∧ R (M 41 (wrap ((M 40 11) - 1))) (mu M 40 11 (wrap ((M 40 11) - 1))))))
def fRu_calculate (x1 : Int) (M : Mem) (R : Int → Mem → Prop) : Prop := fRu_pop M (fun r1 M1 => fRu_pop M1 (fun r2 M2 => ((x1 ≠ 1 → ((x1 ≠ 2 → fRu_push (wrap (r2 * r1)) M2 (fun r3 M3 => R 0 M3)) ∧ (x1 = 2 → fRu_push (wrap (r2 - r1)) M2 (fun r4 M4 => R 0 M4)))) ∧ (x1 = 1 → fRu_push (wrap (r2 + r1)) M2 (fun r5 M5 => R 0 M5)))))
def fRu_rearrange_73 (R : Int → Mem → Prop) (x2 x3 : Int) (M : Mem) : Prop := fRu_push x2 M (fun r3 M3 => fRu_push x3 M3 (fun r4 M4 => R 0 M4))
def fRu_rearrange (x1 : Int) (M : Mem) (R : Int → Mem → Prop) : Prop := fRu_pop M (fun r1 M1 => ((x1 ≠ 6 → ((x1 ≠ 4 → fRu_pop M1 (fun r2 M2 => ((x1 ≠ 8 → ((x1 ≠ 7 → fRu_rearrange_73  R r1 r2 M2) ∧ (x1 = 7 → fRu_push r2 M2 (fun r5 M5 => fRu_rearrange_73  R r1 r2 M5)))) ∧ (x1 = 8 → fRu_pop M2 (fun r6 M6 => fRu_push r2 M6 (fun r7 M7 => fRu_push r1 M7 (fun r8 M8 => fRu_push r6 M8 (fun r9 M9 => R 0 M9)))))))) ∧ (x1 = 4 → fRu_push r1 M1 (fun r10 M10 => fRu_push r1 M10 (fun r11 M11 => R 0 M11))))) ∧ (x1 = 6 → R 0 M1)))
def fRu_execute_184 (R : Int → Mem → Prop) (x2 x4 : Int) (M : Mem) : Prop := fRu_calculate x2 M (fun r3 M3 => R x4 M3)
def fRu_execute_192 (R : Int → Mem → Prop) (x2 x4 : Int) (M : Mem) : Prop := fRu_rearrange x2 M (fun r8 M8 => R x4 M8)
def fRu_execute_29 (R : Int → Mem → Prop) (x2 x3 t0 : Int) (M : Mem) : Prop := ((x2 = 0 → fRu_push x3 M (fun r2 M2 => R t0 M2)) ∧ (x2 = 1 ∨ x2 = 2 ∨ x2 = 3 → fRu_execute_184  R x2 t0 M) ∧ (x2 = 9 → (inb x3 4 ∧ fRu_push (M 42 x3) M (fun r4 M4 => R t0 M4))) ∧ (x2 = 10 → fRu_pop M (fun r5 M5 => (inb x3 4 ∧ R t0 (mu M5 42 x3 r5)))) ∧ (x2 = 11 → R x3 M) ∧ (x2 = 12 → fRu_pop M (fun r6 M6 => ((r6 ≠ 0 → R t0 M6) ∧ (r6 = 0 → R x3 M6)))) ∧ (x2 = 13 → fRu_pop (mu M 40 12 (wrap ((M 40 12) + 1))) (fun r7 M7 => (inb (M 40 12) 16 ∧ R t0 (mu M7 43 (M 40 12) r7)))) ∧ (x2 = 14 → R t0 M) ∧ (x2 < 0 ∨ 14 < x2 ∨ x2 = 4 ∨ x2 = 5 ∨ x2 = 6 ∨ x2 = 7 ∨ x2 = 8 → fRu_execute_192  R x2 t0 M))
def fRu_execute (x1 x2 : Int) (M : Mem) (R : Int → Mem → Prop) : Prop := (inb x1 24 ∧ fPr_falls_p x1 M (fun r1 M1 => ((r1 = 0 → fRu_execute_29  R x2 (M 15 x1) (-4) M1) ∧ (¬ r1 = 0 → fRu_execute_29  R x2 (M 15 x1) (wrap (x1 + 1)) M1))))
def fRu_advance_110 (R : Int → Mem → Prop) (x3 x4 t0 : Int) (M : Mem) : Prop := ((t0 = 0 ∨ t0 = 1) ∧ ((t0 = 0 → (inb x3 24 ∧ fMa_passageCost x4 (M 39 x3) (mu (mu (mu M 40 8 t0) 40 9 x3) 40 10 (M 39 x3)) (fun r4 M4 => R 0 (mu M4 40 13 (wrap ((M 40 13) + r4)))))) ∧ (¬ t0 = 0 → R 0 (mu (mu M 40 8 t0) 40 10 x4))))
def fRu_advance_36 (R : Int → Mem → Prop) (x1 x2 : Int) (M : Mem) : Prop := fRu_execute x1 x2 M (fun r1 M1 => (inb x1 24 ∧ (inb x1 24 ∧ fMa_versionCost x2 (M1 40 10) (mu (mu M1 44 x1 (wrap ((M1 44 x1) + 1))) 40 14 (wrap ((M1 40 14) + 1))) (fun r2 M2 => fMa_stateAfter x2 (M2 40 10) (mu M2 40 13 (wrap ((M1 40 13) + r2))) (fun r3 M3 => ((r1 ≠ (-4) → fRu_advance_110  R r1 r3 0 M3) ∧ (r1 = (-4) → fRu_advance_110  R r1 r3 1 M3)))))))
def fRu_advance (M : Mem) (R : Int → Mem → Prop) : Prop := (inb (M 40 9) 24 ∧ (((M 14 (M 40 9)) ≠ 13 → fRu_advance_36  R (M 40 9) (M 14 (M 40 9)) M) ∧ ((M 14 (M 40 9)) = 13 → (((M 40 12) ≠ 16 → fRu_advance_36  R (M 40 9) (M 14 (M 40 9)) M) ∧ ((M 40 12) = 16 → R 0 (mu M 40 8 1))))))
def fSt_step_75 (R : Int → Mem → Prop) (x2 : Int) (M : Mem) : Prop := R (wrap ((M 40 14) - x2)) M
def fSt_step_47 (R : Int → Mem → Prop) : Nat → Int → Int → Int → Mem → Prop
  | 0 => fun _ _ _ _ => False
  | n + 1 => fun x1 x2 x3 M => ((x1 ≤ x3 → fSt_step_75  R x2 M) ∧ (¬ x1 ≤ x3 → (((M 40 8) ≠ 0 → fSt_step_75  R x2 M) ∧ ((M 40 8) = 0 → fRu_advance M (fun r1 M1 => (fSt_step_47 R n) x1 x2 (wrap (x3 + 1)) M1)))))
def fSt_step (x1 : Int) (M : Mem) (R : Int → Mem → Prop) : Prop := ((x1 < 1 → R (-1) M) ∧ (¬ x1 < 1 → ((x1 ≤ 500 → (((M 40 7) = 0 → R (-2) M) ∧ (¬ (M 40 7) = 0 → (((M 40 8) = 0 → ∃ n2, fSt_step_47  R n2 x1 (M 40 14) 0 M) ∧ (¬ (M 40 8) = 0 → R (-2) M))))) ∧ (¬ x1 ≤ 500 → R (-1) M))))
def fSt_now (x1 : Int) (M : Mem) (R : Int → Mem → Prop) : Prop := ((x1 < 0 → R (-1) M) ∧ (¬ x1 < 0 → ((x1 ≤ 5 → (((M 40 7) ≠ 0 → ((x1 = 0 → (((M 40 8) = 0 → R (M 40 9) M) ∧ (¬ (M 40 8) = 0 → R (-4) M))) ∧ (x1 = 1 → R (M 40 10) M) ∧ (x1 = 2 → R (M 40 11) M) ∧ (x1 = 3 → R (M 40 13) M) ∧ (x1 = 4 → R (M 40 14) M) ∧ (x1 < 0 ∨ 4 < x1 → R (M 40 12) M))) ∧ ((M 40 7) = 0 → R (-2) M))) ∧ (¬ x1 ≤ 5 → R (-1) M))))
def fRu_cellAt_28 (R : Int → Mem → Prop) (M : Mem) : Prop := R 0 M
def fRu_cellAt (x1 : Int) (M : Mem) (R : Int → Mem → Prop) : Prop := ((x1 < 0 → fRu_cellAt_28  R M) ∧ (¬ x1 < 0 → (((M 40 11) ≤ x1 → fRu_cellAt_28  R M) ∧ (¬ (M 40 11) ≤ x1 → (inb (wrap ((wrap ((M 40 11) - 1)) - x1)) 12 ∧ R (M 41 (wrap ((wrap ((M 40 11) - 1)) - x1))) M)))))
def fSt_shown (x0 : Int) (M : Mem) (R : Int → Mem → Prop) : Prop := fMath_floorMod x0 1000000000 M (fun r1 M1 => R r1 M1)
def fSt_cell (x1 : Int) (M : Mem) (R : Int → Mem → Prop) : Prop := ((0 ≤ x1 → (((M 40 7) ≠ 0 → (((M 40 11) ≤ x1 → R (-4) M) ∧ (¬ (M 40 11) ≤ x1 → fRu_cellAt x1 M (fun r1 M1 => fSt_shown r1 M1 (fun r2 M2 => R r2 M2))))) ∧ ((M 40 7) = 0 → R (-2) M))) ∧ (¬ 0 ≤ x1 → R (-1) M))
def fSt_register_47 (R : Int → Mem → Prop) : Nat → Int → Int → Int → Mem → Prop
  | 0 => fun _ _ _ _ => False
  | n + 1 => fun x1 x2 x3 M => ((x2 ≤ x3 → R (-4) M) ∧ (¬ x2 ≤ x3 → fMa_registerOf (M 40 10) x3 M (fun r2 M2 => ((r2 ≠ x1 → (fSt_register_47 R n) x1 x2 (wrap (x3 + 1)) M2) ∧ (r2 = x1 → fRu_cellAt x3 M2 (fun r3 M3 => fSt_shown r3 M3 (fun r4 M4 => R r4 M4)))))))
def fSt_register (x1 : Int) (M : Mem) (R : Int → Mem → Prop) : Prop := ((x1 < 0 → R (-1) M) ∧ (¬ x1 < 0 → ((x1 < (M 5 0) → (((M 40 7) ≠ 0 → fMa_lengthOf (M 40 10) M (fun r1 M1 => ∃ n5, fSt_register_47  R n5 x1 r1 0 M1)) ∧ ((M 40 7) = 0 → R (-2) M))) ∧ (¬ x1 < (M 5 0) → R (-1) M))))
def fSt_memory (x1 : Int) (M : Mem) (R : Int → Mem → Prop) : Prop := ((0 ≤ x1 → (((M 40 7) ≠ 0 → fMa_lengthOf (M 40 10) M (fun r1 M1 => (((wrap ((M 40 11) - r1)) ≤ x1 → R (-4) M1) ∧ (¬ (wrap ((M 40 11) - r1)) ≤ x1 → fRu_cellAt (wrap ((wrap ((M1 40 11) - 1)) - x1)) M1 (fun r2 M2 => fSt_shown r2 M2 (fun r3 M3 => R r3 M3)))))) ∧ ((M 40 7) = 0 → R (-2) M))) ∧ (¬ 0 ≤ x1 → R (-1) M))
def fSt_variable (x1 : Int) (M : Mem) (R : Int → Mem → Prop) : Prop := ((x1 < 0 → R (-1) M) ∧ (¬ x1 < 0 → ((x1 < 4 → (((M 40 7) ≠ 0 → (inb x1 4 ∧ fSt_shown (M 42 x1) M (fun r1 M1 => R r1 M1))) ∧ ((M 40 7) = 0 → R (-2) M))) ∧ (¬ x1 < 4 → R (-1) M))))
def fSt_out (x1 : Int) (M : Mem) (R : Int → Mem → Prop) : Prop := ((0 ≤ x1 → (((M 40 7) ≠ 0 → (((M 40 12) ≤ x1 → R (-4) M) ∧ (¬ (M 40 12) ≤ x1 → (inb x1 16 ∧ fSt_shown (M 43 x1) M (fun r1 M1 => R r1 M1))))) ∧ ((M 40 7) = 0 → R (-2) M))) ∧ (¬ 0 ≤ x1 → R (-1) M))
def fSt_went (x1 : Int) (M : Mem) (R : Int → Mem → Prop) : Prop := fSt_isInstruction x1 M (fun r1 M1 => ((r1 ≠ 0 → (((M1 40 7) ≠ 0 → (inb x1 24 ∧ R (M1 44 x1) M1)) ∧ ((M1 40 7) = 0 → R (-2) M1))) ∧ (r1 = 0 → R (-1) M1)))
def fSt_count (x1 : Int) (M : Mem) (R : Int → Mem → Prop) : Prop := ((x1 = 0 → R (M 13 6) M) ∧ (x1 = 1 → R (M 5 0) M) ∧ (x1 = 2 → R (M 5 1) M) ∧ (x1 = 3 → R (M 5 2) M) ∧ (x1 = 4 → R (M 5 3) M) ∧ (x1 = 5 → R (M 13 7) M) ∧ (x1 = 6 → R (M 13 8) M) ∧ (x1 = 7 → R (M 5 5) M) ∧ (x1 = 8 → R (M 1 1) M) ∧ (x1 = 9 → R (M 3 1) M) ∧ (x1 = 10 → (((M 40 7) = 0 → R 0 M) ∧ (¬ (M 40 7) = 0 → R 1 M))) ∧ (x1 < 0 ∨ 10 < x1 → R (-1) M))
