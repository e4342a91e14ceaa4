def shS : List Sh := [.inr (5, [none, none, none, none, some 1, none, some 2, none]), .inl (0, 24), .inl (0, 168)]
def fArr_fillS_5 (R : Int → Mem → Prop) : Nat → Int → Int → Int → Mem → Prop
  | 0 => fun _ _ _ _ => False
  | n + 1 => fun x1 x2 x3 M => ((x3 ≤ x2 → R 0 M) ∧ (¬ x3 ≤ x2 → (inb x2 24 ∧ (fArr_fillS_5 R n) x1 (wrap (x2 + 1)) x3 (mu M 1 x2 x1))))
def fArr_fillS (x1 : Int) (M : Mem) (R : Int → Mem → Prop) : Prop := ∃ n1, fArr_fillS_5  R n1 x1 0 24 M
def fSe_initT (M : Mem) (R : Int → Mem → Prop) : Prop := fArr_fillS 1 M (fun r1 M1 => R 0 M1)
def fSt_initT_118 (R : Int → Mem → Prop) : Nat → Int → Mem → Prop
  | 0 => fun _ _ => False
  | n + 1 => fun x1 M => fStr_length_110 M (fun r1 M1 => ((r1 ≤ x1 → fPr_parse_p M1 (fun r2 M2 => fPr_findDepths_p M2 (fun r3 M3 => fTe_empty M3 (fun r4 M4 => fSt_refresh M4 (fun r5 M5 => R 0 M5))))) ∧ (¬ r1 ≤ x1 → fStr_charAt_110 x1 M1 (fun r6 M6 => fTe_append r6 M6 (fun r7 M7 => (fSt_initT_118 R n) (wrap (x1 + 1)) M7)))))
def fSt_initT (M : Mem) (R : Int → Mem → Prop) : Prop := ∃ n8, fSt_initT_118  R n8 0 M
def fMd_initT (M : Mem) (R : Int → Mem → Prop) : Prop := fMd_lays 0 110 5 (mu (mu (mu (mu M 1 0 2) 1 1 1) 1 2 2) 1 3 2) (fun r1 M1 => fMd_lays 1 115 0 M1 (fun r2 M2 => fMd_lays 2 103 0 M2 (fun r3 M3 => fMd_lays 3 98 15 M3 (fun r4 M4 => fMd_lays 4 103 0 M4 (fun r5 M5 => fMd_lays 5 110 3 M5 (fun r6 M6 => fMd_lays 6 42 (-4) M6 (fun r7 M7 => fMd_lays 7 100 (-4) M7 (fun r8 M8 => fMd_lays 8 119 (-4) M8 (fun r9 M9 => fMd_lays 9 112 (-4) M9 (fun r10 M10 => fMd_lays 10 103 0 M10 (fun r11 M11 => fMd_lays 11 110 1 M11 (fun r12 M12 => fMd_lays 12 45 (-4) M12 (fun r13 M13 => fMd_lays 13 115 0 M13 (fun r14 M14 => fMd_lays 14 106 2 M14 (fun r15 M15 => fMd_lays 15 104 (-4) M15 (fun r16 M16 => fMd_takesProgram (mu M16 0 10 16) (fun r17 M17 => R 0 M17)))))))))))))))))
