def fMd_lays (x1 x2 x3 : Int) (M : Mem) (R : Int → Mem → Prop) : Prop := (inb x1 24 ∧ (inb x1 24 ∧ R 0 (mu (mu M 8 x1 x2) 9 x1 x3)))
def fMd_lowest_37 (R : Int → Mem → Prop) (x1 : Int) (M : Mem) : Prop := (((M 0 10) ≤ x1 → R (-4) M) ∧ (¬ (M 0 10) ≤ x1 → R x1 M))
def fMd_lowest_31 (k2 : Int → Mem → Prop) (R : Int → Mem → Prop) (x1 : Int) (M : Mem) : Prop := k2 (wrap (x1 + 1)) M
def fMd_lowest_2 (R : Int → Mem → Prop) : Nat → Int → Mem → Prop
  | 0 => fun _ _ => False
  | n + 1 => fun x1 M => (((M 0 10) ≤ x1 → fMd_lowest_37  R x1 M) ∧ (¬ (M 0 10) ≤ x1 → (inb x1 24 ∧ (((M 12 x1) = (-4) → fMd_lowest_31 (fMd_lowest_2 R n) R x1 M) ∧ (¬ (M 12 x1) = (-4) → (inb x1 24 ∧ (((M 13 x1) ≠ 1 → fMd_lowest_37  R x1 M) ∧ ((M 13 x1) = 1 → fMd_lowest_31 (fMd_lowest_2 R n) R x1 M))))))))
def fMd_lowest (M : Mem) (R : Int → Mem → Prop) : Prop := ∃ n1, fMd_lowest_2  R n1 0 M
def fMd_refuses_39 (R : Int → Mem → Prop) (t0 : Int) (M : Mem) : Prop := R (-2) (mu M 0 16 t0)
def fMd_refuses (x1 x2 x3 : Int) (M : Mem) (R : Int → Mem → Prop) : Prop := ((x2 ≠ 0 → ((x3 ≠ 0 → fMd_refuses_39  R 3 (mu (mu (mu M 11 0 x1) 11 1 x2) 11 2 x3)) ∧ (x3 = 0 → fMd_refuses_39  R 2 (mu (mu (mu M 11 0 x1) 11 1 x2) 11 2 x3)))) ∧ (x2 = 0 → fMd_refuses_39  R 1 (mu (mu (mu M 11 0 x1) 11 1 x2) 11 2 x3)))
def fMd_takes (x0 : Int) (M : Mem) (R : Int → Mem → Prop) : Prop := ((x0 = 98 ∨ x0 = 100 ∨ x0 = 112 ∨ x0 = 115 ∨ x0 = 119 → R 1 M) ∧ (x0 = 103 ∨ x0 = 104 ∨ x0 = 106 ∨ x0 = 110 → R 0 M) ∧ (x0 = 114 → R 3 M) ∧ (x0 < 98 ∨ 119 < x0 ∨ x0 = 99 ∨ x0 = 101 ∨ x0 = 102 ∨ x0 = 105 ∨ x0 = 107 ∨ x0 = 108 ∨ x0 = 109 ∨ x0 = 111 ∨ x0 = 113 ∨ x0 = 116 ∨ x0 = 117 ∨ x0 = 118 → R 2 M))
def fMd_comes (x0 : Int) (M : Mem) (R : Int → Mem → Prop) : Prop := ((x0 = 42 ∨ x0 = 43 ∨ x0 = 45 ∨ x0 = 103 ∨ x0 = 110 → R 1 M) ∧ (x0 = 100 ∨ x0 = 120 → R 2 M) ∧ (x0 = 111 ∨ x0 = 114 → R 3 M) ∧ (x0 ≠ 42 ∧ x0 ≠ 43 ∧ x0 ≠ 45 ∧ x0 ≠ 100 ∧ x0 ≠ 103 ∧ x0 ≠ 110 ∧ x0 ≠ 111 ∧ x0 ≠ 114 ∧ x0 ≠ 120 → R 0 M))
def fMd_isJump_12 (R : Int → Mem → Prop) (M : Mem) : Prop := R 1 M
def fMd_isJump (x0 : Int) (M : Mem) (R : Int → Mem → Prop) : Prop := ((x0 = 106 → fMd_isJump_12  R M) ∧ (¬ x0 = 106 → ((x0 ≠ 98 → R 0 M) ∧ (x0 = 98 → fMd_isJump_12  R M))))
def fMd_goesOn_r_47 (R : Int → Mem → Prop) (M : Mem) : Prop := R (-4) M
def fMd_goesOn_r (x2 x3 x4 : Int) (M : Mem) (R : Int → Mem → Prop) : Prop := ((x3 ≠ 1 → (inb x2 24 ∧ (((M 8 x2) = 106 → fMd_goesOn_r_47  R M) ∧ (¬ (M 8 x2) = 106 → (inb x2 24 ∧ (((M 8 x2) = 104 → fMd_goesOn_r_47  R M) ∧ (¬ (M 8 x2) = 104 → (((wrap (x2 + 1)) ≠ x4 → R (wrap (x2 + 1)) M) ∧ ((wrap (x2 + 1)) = x4 → fMd_goesOn_r_47  R M))))))))) ∧ (x3 = 1 → (inb x2 24 ∧ fMd_isJump (M 8 x2) M (fun r1 M1 => ((r1 = 0 → R (-4) M1) ∧ (¬ r1 = 0 → (inb x2 24 ∧ R (M1 9 x2) M1)))))))
def fMd_takesOne_58 (R : Int → Mem → Prop) (x1 : Int) (M : Mem) : Prop := fMd_refuses 3 22 (wrap (30 + x1)) M (fun r4 M4 => R 0 M4)
def fMd_takesOne_181 (k74 : Int → Int → Int → Mem → Prop) (R : Int → Mem → Prop) (x1 x2 x3 : Int) (M : Mem) : Prop := k74 x1 x2 (wrap (x3 + 1)) M
def fMd_takesOne_180 (k74 : Int → Int → Int → Mem → Prop) (R : Int → Mem → Prop) (x1 x2 x3 t0 t1 : Int) (M : Mem) : Prop := (inb t1 24 ∧ fMd_takesOne_181 k74 R x1 x2 x3 (mu M 14 t1 t0))
def fMd_takesOne_143 (k74 : Int → Int → Int → Mem → Prop) (R : Int → Mem → Prop) (x1 x2 x3 x4 : Int) (M : Mem) : Prop := ((x4 = (-4) → fMd_takesOne_181 k74 R x1 x2 x3 M) ∧ (¬ x4 = (-4) → (inb x4 24 ∧ ((x3 ≠ 1 → (inb x4 24 ∧ fMd_takesOne_180 k74 R x1 x2 x3 (M 14 x4) x4 (mu M 12 x4 x2))) ∧ (x3 = 1 → fMd_takesOne_180 k74 R x1 x2 x3 1 x4 (mu M 12 x4 x2))))))
def fMd_takesOne_74 (R : Int → Mem → Prop) : Nat → Int → Int → Int → Mem → Prop
  | 0 => fun _ _ _ _ => False
  | n + 1 => fun x1 x2 x3 M => ((2 ≤ x3 → R 1 M) ∧ (¬ 2 ≤ x3 → fMd_goesOn_r x1 x3 (M 0 10) M (fun r5 M5 => ((r5 = (-4) → fMd_takesOne_143 (fMd_takesOne_74 R n) R x1 x2 x3 r5 M5) ∧ (¬ r5 = (-4) → (inb r5 24 ∧ (((M5 12 r5) = (-4) → fMd_takesOne_143 (fMd_takesOne_74 R n) R x1 x2 x3 r5 M5) ∧ (¬ (M5 12 r5) = (-4) → (inb r5 24 ∧ (((M5 12 r5) = x2 → fMd_takesOne_143 (fMd_takesOne_74 R n) R x1 x2 x3 r5 M5) ∧ (¬ (M5 12 r5) = x2 → fMd_refuses 3 21 (wrap (30 + r5)) M5 (fun r6 M6 => R 0 M6))))))))))))
def fMd_takesOne (x1 : Int) (M : Mem) (R : Int → Mem → Prop) : Prop := (inb x1 24 ∧ (inb x1 24 ∧ (inb x1 24 ∧ fMd_takes (M 8 x1) (mu M 13 x1 1) (fun r1 M1 => (inb x1 24 ∧ fMd_comes (M1 8 x1) M1 (fun r2 M2 => (inb x1 24 ∧ (inb x1 24 ∧ fMd_takes (M2 8 x1) M2 (fun r3 M3 => (((M2 12 x1) < r3 → fMd_takesOne_58  R x1 M3) ∧ (¬ (M2 12 x1) < r3 → (((wrap ((wrap ((M 12 x1) - r1)) + r2)) ≤ 12 → ∃ n7, fMd_takesOne_74  R n7 x1 (wrap ((wrap ((M 12 x1) - r1)) + r2)) 0 M3) ∧ (¬ (wrap ((wrap ((M 12 x1) - r1)) + r2)) ≤ 12 → fMd_takesOne_58  R x1 M3)))))))))))))
def fMd_findsDepths_138 (R : Int → Mem → Prop) (M : Mem) : Prop := R 0 M
def fMd_findsDepths_125 (R : Int → Mem → Prop) (x1 x3 : Int) (M : Mem) : Prop := ((x1 = 0 → fMd_findsDepths_138  R M) ∧ (¬ x1 = 0 → ((2 < x3 → fMd_findsDepths_138  R M) ∧ (¬ 2 < x3 → R 1 M))))
def fMd_findsDepths_79 (R : Int → Mem → Prop) : Nat → Int → Int → Int → Mem → Prop
  | 0 => fun _ _ _ _ => False
  | n + 1 => fun x1 x3 x4 M => (((M 0 10) ≤ x4 → ((x1 = 0 → fMd_findsDepths_125  R x1 x3 M) ∧ (¬ x1 = 0 → ((x3 ≤ 2 → fMd_findsDepths_125  R x1 x3 M) ∧ (¬ x3 ≤ 2 → fMd_refuses 3 23 (wrap (30 + x3)) M (fun r2 M2 => fMd_findsDepths_125  R x1 x3 M2)))))) ∧ (¬ (M 0 10) ≤ x4 → (inb x4 24 ∧ (fMd_findsDepths_79 R n) x1 (wrap (x3 + (M 14 x4))) (wrap (x4 + 1)) M)))
def fMd_findsDepths_74 (R : Int → Mem → Prop) (x1 : Int) (M : Mem) : Prop := ∃ n3, fMd_findsDepths_79  R n3 x1 0 0 M
def fMd_findsDepths_50 (R : Int → Mem → Prop) : Nat → Int → Int → Mem → Prop
  | 0 => fun _ _ _ => False
  | n + 1 => fun x1 x2 M => ((x2 = (-4) → fMd_findsDepths_74  R x1 M) ∧ (¬ x2 = (-4) → ((x1 = 0 → fMd_findsDepths_74  R x1 M) ∧ (¬ x1 = 0 → fMd_takesOne x2 M (fun r4 M4 => fMd_lowest M4 (fun r5 M5 => (fMd_findsDepths_50 R n) r4 r5 M5))))))
def fMd_findsDepths_2 (R : Int → Mem → Prop) : Nat → Int → Mem → Prop
  | 0 => fun _ _ => False
  | n + 1 => fun x1 M => ((24 ≤ x1 → fMd_lowest (mu M 12 0 0) (fun r1 M1 => ∃ n6, fMd_findsDepths_50  R n6 1 r1 M1)) ∧ (¬ 24 ≤ x1 → (inb x1 24 ∧ (inb x1 24 ∧ (inb x1 24 ∧ (fMd_findsDepths_2 R n) (wrap (x1 + 1)) (mu (mu (mu M 12 x1 (-4)) 13 x1 0) 14 x1 0))))))
def fMd_findsDepths (M : Mem) (R : Int → Mem → Prop) : Prop := ∃ n7, fMd_findsDepths_2  R n7 0 M
def fMd_takesProgram_79 (R : Int → Mem → Prop) : Nat → Int → Mem → Prop
  | 0 => fun _ _ => False
  | n + 1 => fun x1 M => ((24 ≤ x1 → R 0 (mu (mu (mu M 0 2 0) 0 43 0) 0 31 0)) ∧ (¬ 24 ≤ x1 → (inb (wrap (4 + x1)) 28 ∧ (fMd_takesProgram_79 R n) (wrap (x1 + 1)) (mu M 1 (wrap (4 + x1)) 1))))
def fMd_takesProgram_15 (R : Int → Mem → Prop) : Nat → Int → Mem → Prop
  | 0 => fun _ _ => False
  | n + 1 => fun x1 M => (((M 0 3) ≤ x1 → ∃ n2, fMd_takesProgram_79  R n2 0 M) ∧ (¬ (M 0 3) ≤ x1 → (inb x1 24 ∧ (inb x1 24 ∧ (inb x1 24 ∧ (inb x1 24 ∧ (inb x1 24 ∧ (inb x1 24 ∧ (inb x1 24 ∧ (inb x1 24 ∧ (fMd_takesProgram_15 R n) (wrap (x1 + 1)) (mu (mu (mu (mu M 3 x1 (M 8 x1)) 4 x1 (M 9 x1)) 5 x1 (M 12 x1)) 6 x1 (M 14 x1))))))))))))
def fMd_takesProgram (M : Mem) (R : Int → Mem → Prop) : Prop := fMd_findsDepths M (fun r1 M1 => ∃ n3, fMd_takesProgram_15  R n3 0 (mu M1 0 3 (M1 0 10)))
def fMd_in_14 (R : Int → Mem → Prop) (M : Mem) : Prop := R 0 M
def fMd_in (x0 x1 x2 : Int) (M : Mem) (R : Int → Mem → Prop) : Prop := ((x0 < x1 → fMd_in_14  R M) ∧ (¬ x0 < x1 → ((x2 < x0 → fMd_in_14  R M) ∧ (¬ x2 < x0 → R 1 M))))
def fMd_write (x1 : Int) (M : Mem) (R : Int → Mem → Prop) : Prop := fMd_in x1 32 126 M (fun r1 M1 => ((r1 ≠ 0 → (((M1 0 9) ≠ 200 → (inb (M1 0 9) 200 ∧ R (wrap ((M1 0 9) + 1)) (mu (mu M1 7 (M1 0 9) x1) 0 9 (wrap ((M1 0 9) + 1))))) ∧ ((M1 0 9) = 200 → R (-3) M1))) ∧ (r1 = 0 → R (-1) M1)))
def fMd_wipe (M : Mem) (R : Int → Mem → Prop) : Prop := R (M 0 9) (mu M 0 9 0)
def fMd_isName (x0 : Int) (M : Mem) (R : Int → Mem → Prop) : Prop := ((x0 = 42 ∨ x0 = 43 ∨ x0 = 45 ∨ x0 = 98 ∨ x0 = 100 ∨ x0 = 103 ∨ x0 = 104 ∨ x0 = 106 ∨ x0 = 110 ∨ x0 = 111 ∨ x0 = 112 ∨ x0 = 114 ∨ x0 = 115 ∨ x0 = 119 ∨ x0 = 120 → R 1 M) ∧ (x0 ≠ 42 ∧ x0 ≠ 43 ∧ x0 ≠ 45 ∧ x0 ≠ 98 ∧ x0 ≠ 100 ∧ x0 ≠ 103 ∧ x0 ≠ 104 ∧ x0 ≠ 106 ∧ x0 ≠ 110 ∧ x0 ≠ 111 ∧ x0 ≠ 112 ∧ x0 ≠ 114 ∧ x0 ≠ 115 ∧ x0 ≠ 119 ∧ x0 ≠ 120 → R 0 M))
def fMd_figuresOf_18 (R : Int → Mem → Prop) (M : Mem) : Prop := R 2 M
def fMd_figuresOf_34 (R : Int → Mem → Prop) (M : Mem) : Prop := R 1 M
def fMd_figuresOf (x0 : Int) (M : Mem) (R : Int → Mem → Prop) : Prop := ((x0 = 110 → fMd_figuresOf_18  R M) ∧ (¬ x0 = 110 → ((x0 = 106 → fMd_figuresOf_18  R M) ∧ (¬ x0 = 106 → ((x0 ≠ 98 → ((x0 = 103 → fMd_figuresOf_34  R M) ∧ (¬ x0 = 103 → ((x0 ≠ 115 → R 0 M) ∧ (x0 = 115 → fMd_figuresOf_34  R M))))) ∧ (x0 = 98 → fMd_figuresOf_18  R M))))))
def fMd_isFigure_28 (R : Int → Mem → Prop) (M : Mem) : Prop := R 0 M
def fMd_isFigure (x1 : Int) (M : Mem) (R : Int → Mem → Prop) : Prop := (((M 0 9) ≤ x1 → fMd_isFigure_28  R M) ∧ (¬ (M 0 9) ≤ x1 → (inb x1 200 ∧ fMd_in (M 7 x1) 48 57 M (fun r1 M1 => ((r1 = 0 → fMd_isFigure_28  R M1) ∧ (¬ r1 = 0 → R 1 M1))))))
def fMd_reads_133 (R : Int → Mem → Prop) (x2 t0 t1 : Int) (M : Mem) : Prop := (inb t1 24 ∧ (inb (M 0 10) 24 ∧ R 0 (mu (mu (mu (mu M 9 t1 t0) 10 (M 0 10) (M 0 14)) 0 10 (wrap ((M 0 10) + 1))) 0 14 (wrap ((M 0 14) + (wrap (x2 + 1)))))))
def fMd_reads_105 (R : Int → Mem → Prop) (x1 x2 x3 : Int) (M : Mem) : Prop := (inb (M 0 10) 24 ∧ ((x2 ≠ 0 → fMd_reads_133  R x2 x3 (M 0 10) (mu M 8 (M 0 10) x1)) ∧ (x2 = 0 → fMd_reads_133  R x2 (-4) (M 0 10) (mu M 8 (M 0 10) x1))))
def fMd_reads_42 (R : Int → Mem → Prop) : Nat → Int → Int → Int → Int → Mem → Prop
  | 0 => fun _ _ _ _ _ => False
  | n + 1 => fun x1 x2 x3 x4 M => ((x2 < x4 → ((x2 ≠ 1 → fMd_reads_105  R x1 x2 x3 M) ∧ (x2 = 1 → ((x3 ≤ 3 → fMd_reads_105  R x1 x2 x3 M) ∧ (¬ x3 ≤ 3 → R 12 M))))) ∧ (¬ x2 < x4 → fMd_isFigure (wrap ((M 0 14) + x4)) M (fun r3 M3 => ((r3 ≠ 0 → (inb (wrap ((M3 0 14) + x4)) 200 ∧ (fMd_reads_42 R n) x1 x2 (wrap ((wrap ((wrap (10 * x3)) + (M3 7 (wrap ((M3 0 14) + x4))))) - 48)) (wrap (x4 + 1)) M3)) ∧ (r3 = 0 → R 11 M3)))))
def fMd_reads (M : Mem) (R : Int → Mem → Prop) : Prop := (((M 0 10) ≠ 24 → (inb (M 0 14) 200 ∧ fMd_isName (M 7 (M 0 14)) M (fun r1 M1 => ((r1 ≠ 0 → fMd_figuresOf (M 7 (M 0 14)) M1 (fun r2 M2 => ∃ n4, fMd_reads_42  R n4 (M 7 (M 0 14)) r2 0 1 M2)) ∧ (r1 = 0 → R 10 M1))))) ∧ ((M 0 10) = 24 → R 13 M))
def fMd_finds_102 (k53 : Int → Mem → Prop) (R : Int → Mem → Prop) (x1 : Int) (M : Mem) : Prop := k53 (wrap (x1 + 1)) M
def fMd_finds_53 (R : Int → Mem → Prop) : Nat → Int → Mem → Prop
  | 0 => fun _ _ => False
  | n + 1 => fun x1 M => (((M 0 10) ≤ x1 → R (-4) M) ∧ (¬ (M 0 10) ≤ x1 → (inb x1 24 ∧ fMd_isJump (M 8 x1) M (fun r1 M1 => ((r1 = 0 → fMd_finds_102 (fMd_finds_53 R n) R x1 M1) ∧ (¬ r1 = 0 → (inb x1 24 ∧ (((M1 9 x1) < (M1 0 10) → fMd_finds_102 (fMd_finds_53 R n) R x1 M1) ∧ (¬ (M1 9 x1) < (M1 0 10) → fMd_refuses 1 14 0 M1 (fun r2 M2 => (inb x1 24 ∧ R (M2 10 x1) M2)))))))))))
def fMd_finds_15 (R : Int → Mem → Prop) : Nat → Mem → Prop
  | 0 => fun _ => False
  | n + 1 => fun M => (((M 0 9) ≤ (M 0 14) → ∃ n3, fMd_finds_53  R n3 0 M) ∧ (¬ (M 0 9) ≤ (M 0 14) → fMd_reads M (fun r4 M4 => ((r4 ≤ 0 → (fMd_finds_15 R n) M4) ∧ (¬ r4 ≤ 0 → fMd_refuses 1 r4 0 M4 (fun r5 M5 => R (M5 0 14) M5))))))
def fMd_finds (M : Mem) (R : Int → Mem → Prop) : Prop := ∃ n6, fMd_finds_15  R n6 (mu (mu (mu M 0 10 0) 0 14 0) 0 16 0)
def fMd_fault (M : Mem) (R : Int → Mem → Prop) : Prop := fMd_finds M (fun r1 M1 => R r1 M1)
def fMd_lay (M : Mem) (R : Int → Mem → Prop) : Prop := fMd_finds M (fun r1 M1 => ((r1 = (-4) → (((M1 0 10) ≠ 0 → fMd_findsDepths M1 (fun r2 M2 => ((r2 ≠ 0 → fMd_takesProgram M2 (fun r3 M3 => R (M3 0 3) M3)) ∧ (r2 = 0 → R (-2) M2)))) ∧ ((M1 0 10) = 0 → fMd_refuses 2 0 0 M1 (fun r4 M4 => R r4 M4)))) ∧ (¬ r1 = (-4) → R (-2) M1)))
def fMd_cause (x1 : Int) (M : Mem) (R : Int → Mem → Prop) : Prop := ((0 ≤ x1 → (((M 0 16) ≤ x1 → R (-4) M) ∧ (¬ (M 0 16) ≤ x1 → (inb x1 3 ∧ R (M 11 x1) M)))) ∧ (¬ 0 ≤ x1 → R (-1) M))
def fMd_isCode (x1 : Int) (M : Mem) (R : Int → Mem → Prop) : Prop := fMd_in x1 0 (wrap ((M 0 3) - 1)) M (fun r1 M1 => ((r1 = 0 ∨ r1 = 1) ∧ R r1 M1))
def fMd_code (x1 x2 : Int) (M : Mem) (R : Int → Mem → Prop) : Prop := fMd_isCode x1 M (fun r1 M1 => ((r1 ≠ 0 → ((x2 = 0 → (inb x1 24 ∧ R (M1 3 x1) M1)) ∧ (x2 = 1 → (inb x1 24 ∧ R (M1 4 x1) M1)) ∧ (x2 = 2 → (inb x1 24 ∧ R (M1 5 x1) M1)) ∧ (x2 = 3 → (inb x1 24 ∧ R (M1 6 x1) M1)) ∧ (x2 = 4 → (inb (wrap (4 + x1)) 28 ∧ R (M1 1 (wrap (4 + x1))) M1)) ∧ (x2 < 0 ∨ 4 < x2 → R (-1) M1))) ∧ (r1 = 0 → R (-1) M1)))
def fMd_forgets (M : Mem) (R : Int → Mem → Prop) : Prop := R 0 (mu (mu (mu M 0 43 0) 0 31 0) 0 27 0)
def fMd_notes_52 (R : Int → Mem → Prop) : Nat → Int → Mem → Prop
  | 0 => fun _ _ => False
  | n + 1 => fun x1 M => ((28 ≤ x1 → fMd_forgets (mu M 0 2 (wrap ((M 0 2) + 1))) (fun r1 M1 => R 0 M1)) ∧ (¬ 28 ≤ x1 → (inb x1 28 ∧ (inb (wrap ((wrap (28 * (M 0 2))) + x1)) 168 ∧ (fMd_notes_52 R n) (wrap (x1 + 1)) (mu M 2 (wrap ((wrap (28 * (M 0 2))) + x1)) (M 1 x1))))))
def fMd_notes_50 (R : Int → Mem → Prop) (M : Mem) : Prop := ∃ n2, fMd_notes_52  R n2 0 M
def fMd_notes_12 (R : Int → Mem → Prop) : Nat → Int → Mem → Prop
  | 0 => fun _ _ => False
  | n + 1 => fun x1 M => ((168 ≤ x1 → fMd_notes_50  R (mu M 0 2 (wrap ((M 0 2) - 1)))) ∧ (¬ 168 ≤ x1 → (inb x1 168 ∧ (inb (wrap (x1 - 28)) 168 ∧ (fMd_notes_12 R n) (wrap (x1 + 1)) (mu M 2 (wrap (x1 - 28)) (M 2 x1))))))
def fMd_notes (M : Mem) (R : Int → Mem → Prop) : Prop := (((M 0 2) ≠ 6 → fMd_notes_50  R M) ∧ ((M 0 2) = 6 → ∃ n3, fMd_notes_12  R n3 28 M))
def fMd_registers (x1 : Int) (M : Mem) (R : Int → Mem → Prop) : Prop := fMd_in x1 1 3 M (fun r1 M1 => ((r1 ≠ 0 → (((M1 1 0) ≠ x1 → fMd_notes M1 (fun r2 M2 => R (M1 1 0) (mu M2 1 0 x1))) ∧ ((M1 1 0) = x1 → R (-2) M1))) ∧ (r1 = 0 → R (-1) M1)))
def fMd_costs (x1 x2 x3 : Int) (M : Mem) (R : Int → Mem → Prop) : Prop := fMd_in x1 0 9 M (fun r1 M1 => ((r1 = 0 → R (-1) M1) ∧ (¬ r1 = 0 → fMd_in x2 0 9 M1 (fun r2 M2 => ((r2 = 0 → R (-1) M2) ∧ (¬ r2 = 0 → fMd_in x3 0 9 M2 (fun r3 M3 => ((r3 ≠ 0 → (((wrap ((wrap ((wrap (100 * (M3 1 1))) + (wrap (10 * (M3 1 2))))) + (M3 1 3))) ≠ (wrap ((wrap ((wrap (100 * x1)) + (wrap (10 * x2)))) + x3)) → fMd_notes M3 (fun r4 M4 => R (wrap ((wrap ((wrap (100 * (M3 1 1))) + (wrap (10 * (M3 1 2))))) + (M3 1 3))) (mu (mu (mu M4 1 1 x1) 1 2 x2) 1 3 x3))) ∧ ((wrap ((wrap ((wrap (100 * (M3 1 1))) + (wrap (10 * (M3 1 2))))) + (M3 1 3))) = (wrap ((wrap ((wrap (100 * x1)) + (wrap (10 * x2)))) + x3)) → R (-2) M3))) ∧ (r3 = 0 → R (-1) M3)))))))))
def fMd_weigh (x1 x2 : Int) (M : Mem) (R : Int → Mem → Prop) : Prop := fMd_isCode x1 M (fun r1 M1 => ((r1 = 0 → R (-1) M1) ∧ (¬ r1 = 0 → fMd_in x2 1 999 M1 (fun r2 M2 => ((r2 ≠ 0 → (inb (wrap (4 + x1)) 28 ∧ (((M2 1 (wrap (4 + x1))) ≠ x2 → fMd_notes M2 (fun r3 M3 => (inb (wrap (4 + x1)) 28 ∧ R (M2 1 (wrap (4 + x1))) (mu M3 1 (wrap (4 + x1)) x2)))) ∧ ((M2 1 (wrap (4 + x1))) = x2 → R (-2) M2)))) ∧ (r2 = 0 → R (-1) M2))))))
def fMd_weightOf (x0 : Int) (M : Mem) (R : Int → Mem → Prop) : Prop := ((x0 ≤ 998 → R (wrap (x0 + 1)) M) ∧ (¬ x0 ≤ 998 → R 999 M))
def fMd_profile_66 (R : Int → Mem → Prop) : Nat → Int → Int → Mem → Prop
  | 0 => fun _ _ _ => False
  | n + 1 => fun x1 x2 M => (((M 0 3) ≤ x2 → R x1 M) ∧ (¬ (M 0 3) ≤ x2 → (inb x2 24 ∧ fMd_weightOf (M 30 x2) M (fun r2 M2 => (inb (wrap (4 + x2)) 28 ∧ (fMd_profile_66 R n) x1 (wrap (x2 + 1)) (mu M2 1 (wrap (4 + x2)) r2))))))
def fMd_profile_45 (k4 : Int → Int → Mem → Prop) (R : Int → Mem → Prop) (x2 t0 t1 : Int) (M : Mem) : Prop := k4 (wrap (t1 + t0)) (wrap (x2 + 1)) M
def fMd_profile_44 (k4 : Int → Int → Mem → Prop) (R : Int → Mem → Prop) (x2 t0 : Int) (M : Mem) : Prop := fMd_profile_45 k4 R x2 0 t0 M
def fMd_profile_4 (R : Int → Mem → Prop) : Nat → Int → Int → Mem → Prop
  | 0 => fun _ _ _ => False
  | n + 1 => fun x1 x2 M => (((M 0 3) ≤ x2 → ((x1 ≠ 0 → fMd_notes M (fun r1 M1 => ∃ n3, fMd_profile_66  R n3 x1 0 M1)) ∧ (x1 = 0 → R (-2) M))) ∧ (¬ (M 0 3) ≤ x2 → (((M 0 43) = 0 → fMd_profile_44 (fMd_profile_4 R n) R x2 x1 M) ∧ (¬ (M 0 43) = 0 → (inb x2 24 ∧ fMd_weightOf (M 30 x2) M (fun r4 M4 => (inb (wrap (4 + x2)) 28 ∧ ((r4 = (M4 1 (wrap (4 + x2))) → fMd_profile_44 (fMd_profile_4 R n) R x2 x1 M4) ∧ (¬ r4 = (M4 1 (wrap (4 + x2))) → fMd_profile_45 (fMd_profile_4 R n) R x2 1 x1 M4)))))))))
def fMd_profile (M : Mem) (R : Int → Mem → Prop) : Prop := ∃ n5, fMd_profile_4  R n5 0 0 M
def fMd_undo_22 (R : Int → Mem → Prop) : Nat → Int → Mem → Prop
  | 0 => fun _ _ => False
  | n + 1 => fun x1 M => ((28 ≤ x1 → fMd_forgets M (fun r1 M1 => R (M1 0 2) M1)) ∧ (¬ 28 ≤ x1 → (inb (wrap ((wrap (28 * (M 0 2))) + x1)) 168 ∧ (inb x1 28 ∧ (fMd_undo_22 R n) (wrap (x1 + 1)) (mu M 1 x1 (M 2 (wrap ((wrap (28 * (M 0 2))) + x1))))))))
def fMd_undo (M : Mem) (R : Int → Mem → Prop) : Prop := (((M 0 2) ≠ 0 → ∃ n2, fMd_undo_22  R n2 0 (mu M 0 2 (wrap ((M 0 2) - 1)))) ∧ ((M 0 2) = 0 → R (-2) M))
def fMd_adds (x1 x2 x3 x4 : Int) (M : Mem) (R : Int → Mem → Prop) : Prop := (inb (M 0 20) 16 ∧ (inb (wrap (3 * (M 0 20))) 48 ∧ (inb (wrap ((wrap (3 * (M 0 20))) + 1)) 48 ∧ (inb (wrap ((wrap (3 * (M 0 20))) + 2)) 48 ∧ R 0 (mu (mu (mu (mu (mu M 15 (M 0 20) x1) 16 (wrap (3 * (M 0 20))) x2) 16 (wrap ((wrap (3 * (M 0 20))) + 1)) x3) 16 (wrap ((wrap (3 * (M 0 20))) + 2)) x4) 0 20 (wrap ((M 0 20) + 1)))))))
def fMd_laysStates_135 (k103 : Int → Int → Int → Int → Mem → Prop) (R : Int → Mem → Prop) (x1 x2 x3 x4 : Int) (M : Mem) : Prop := k103 x1 x2 x3 (wrap (x4 + 1)) M
def fMd_laysStates_103 (k95 : Int → Int → Int → Mem → Prop) (R : Int → Mem → Prop) : Nat → Int → Int → Int → Int → Mem → Prop
  | 0 => fun _ _ _ _ _ => False
  | n + 1 => fun x1 x2 x3 x4 M => ((x1 ≤ x4 → k95 x1 x2 (wrap (x3 + 1)) M) ∧ (¬ x1 ≤ x4 → ((x2 = x3 → fMd_laysStates_135 (fMd_laysStates_103 k95 R n) R x1 x2 x3 x4 M) ∧ (¬ x2 = x3 → ((x2 = x4 → fMd_laysStates_135 (fMd_laysStates_103 k95 R n) R x1 x2 x3 x4 M) ∧ (¬ x2 = x4 → ((x3 = x4 → fMd_laysStates_135 (fMd_laysStates_103 k95 R n) R x1 x2 x3 x4 M) ∧ (¬ x3 = x4 → fMd_adds 3 x2 x3 x4 M (fun r2 M2 => fMd_laysStates_135 (fMd_laysStates_103 k95 R n) R x1 x2 x3 x4 M2)))))))))
def fMd_laysStates_95 (k88 : Int → Int → Mem → Prop) (R : Int → Mem → Prop) : Nat → Int → Int → Int → Mem → Prop
  | 0 => fun _ _ _ _ => False
  | n + 1 => fun x1 x2 x3 M => ((x1 ≤ x3 → k88 x1 (wrap (x2 + 1)) M) ∧ (¬ x1 ≤ x3 → ∃ n3, fMd_laysStates_103 (fMd_laysStates_95 k88 R n) R n3 x1 x2 x3 0 M))
def fMd_laysStates_88 (R : Int → Mem → Prop) : Nat → Int → Int → Mem → Prop
  | 0 => fun _ _ _ => False
  | n + 1 => fun x1 x2 M => ((x1 ≤ x2 → R 0 M) ∧ (¬ x1 ≤ x2 → ∃ n4, fMd_laysStates_95 (fMd_laysStates_88 R n) R n4 x1 x2 0 M))
def fMd_laysStates_74 (k55 : Int → Int → Int → Mem → Prop) (R : Int → Mem → Prop) (x1 x2 x3 : Int) (M : Mem) : Prop := k55 x1 x2 (wrap (x3 + 1)) M
def fMd_laysStates_55 (k48 : Int → Int → Mem → Prop) (R : Int → Mem → Prop) : Nat → Int → Int → Int → Mem → Prop
  | 0 => fun _ _ _ _ => False
  | n + 1 => fun x1 x2 x3 M => ((x1 ≤ x3 → k48 x1 (wrap (x2 + 1)) M) ∧ (¬ x1 ≤ x3 → ((x2 = x3 → fMd_laysStates_74 (fMd_laysStates_55 k48 R n) R x1 x2 x3 M) ∧ (¬ x2 = x3 → fMd_adds 2 x2 x3 (-4) M (fun r6 M6 => fMd_laysStates_74 (fMd_laysStates_55 k48 R n) R x1 x2 x3 M6)))))
def fMd_laysStates_48 (R : Int → Mem → Prop) : Nat → Int → Int → Mem → Prop
  | 0 => fun _ _ _ => False
  | n + 1 => fun x1 x2 M => ((x1 ≤ x2 → ∃ n5, fMd_laysStates_88  R n5 x1 0 M) ∧ (¬ x1 ≤ x2 → ∃ n7, fMd_laysStates_55 (fMd_laysStates_48 R n) R n7 x1 x2 0 M))
def fMd_laysStates_25 (R : Int → Mem → Prop) : Nat → Int → Int → Mem → Prop
  | 0 => fun _ _ _ => False
  | n + 1 => fun x1 x2 M => ((x1 ≤ x2 → ∃ n8, fMd_laysStates_48  R n8 x1 0 M) ∧ (¬ x1 ≤ x2 → fMd_adds 1 x2 (-4) (-4) M (fun r9 M9 => (fMd_laysStates_25 R n) x1 (wrap (x2 + 1)) M9)))
def fMd_laysStates (M : Mem) (R : Int → Mem → Prop) : Prop := fMd_adds 0 (-4) (-4) (-4) (mu M 0 20 0) (fun r1 M1 => ∃ n10, fMd_laysStates_25  R n10 (M 1 0) 0 M1)
def fMd_states (M : Mem) (R : Int → Mem → Prop) : Prop := fMd_laysStates M (fun r1 M1 => R (M1 0 20) M1)
def fMd_isState (x1 : Int) (M : Mem) (R : Int → Mem → Prop) : Prop := fMd_laysStates M (fun r1 M1 => fMd_in x1 0 (wrap ((M1 0 20) - 1)) M1 (fun r2 M2 => ((r2 = 0 ∨ r2 = 1) ∧ R r2 M2)))
def fMd_state (x1 x2 : Int) (M : Mem) (R : Int → Mem → Prop) : Prop := fMd_isState x1 M (fun r1 M1 => ((r1 = 0 → R (-1) M1) ∧ (¬ r1 = 0 → (((-1) ≤ x2 → ((x2 ≠ (-1) → (inb x1 16 ∧ (((M1 15 x1) ≤ x2 → R (-4) M1) ∧ (¬ (M1 15 x1) ≤ x2 → (inb (wrap ((wrap (3 * x1)) + x2)) 48 ∧ R (M1 16 (wrap ((wrap (3 * x1)) + x2))) M1))))) ∧ (x2 = (-1) → (inb x1 16 ∧ R (M1 15 x1) M1)))) ∧ (¬ (-1) ≤ x2 → R (-1) M1)))))
def fMd_hasOf (x0 x1 : Int) (M : Mem) (R : Int → Mem → Prop) : Prop := R (b_iand (b_ishr x0 (wrap (2 * x1))) 3) M
def fMd_nearer_25 (R : Int → Mem → Prop) (t0 t1 : Int) (M : Mem) : Prop := (inb t1 512 ∧ R 0 (mu M 19 t1 t0))
def fMd_nearer (x1 x2 : Int) (M : Mem) (R : Int → Mem → Prop) : Prop := (inb x1 512 ∧ (((M 19 x1) ≤ x2 → (inb x1 512 ∧ fMd_nearer_25  R (M 19 x1) x1 M)) ∧ (¬ (M 19 x1) ≤ x2 → fMd_nearer_25  R x2 x1 M)))
def fMd_with (x0 x1 x2 : Int) (M : Mem) (R : Int → Mem → Prop) : Prop := R (b_ior (b_iand x0 (b_ixor (b_ishl 3 (wrap (2 * x1))) (-1))) (b_ishl x2 (wrap (2 * x1)))) M
def fMd_goesBehind_142 (k9 : Int → Int → Int → Mem → Prop) (R : Int → Mem → Prop) (x1 x2 x3 : Int) (M : Mem) : Prop := k9 x1 x2 (wrap (x3 + 1)) M
def fMd_goesBehind_105 (k65 : Int → Int → Int → Int → Mem → Prop) (R : Int → Mem → Prop) (x1 x2 x3 x4 : Int) (M : Mem) : Prop := k65 x1 x2 x3 (wrap (x4 + 1)) M
def fMd_goesBehind_65 (k9 : Int → Int → Int → Mem → Prop) (R : Int → Mem → Prop) : Nat → Int → Int → Int → Int → Mem → Prop
  | 0 => fun _ _ _ _ _ => False
  | n + 1 => fun x1 x2 x3 x4 M => ((3 ≤ x4 → fMd_hasOf x1 x3 M (fun r1 M1 => ((r1 ≤ 0 → fMd_goesBehind_142 k9 R x1 x2 x3 M1) ∧ (¬ r1 ≤ 0 → fMd_hasOf x1 x3 M1 (fun r2 M2 => fMd_nearer (b_ior x1 (b_ishl 1 (wrap (5 + r2)))) (wrap (x2 + (M2 1 3))) M2 (fun r3 M3 => fMd_goesBehind_142 k9 R x1 x2 x3 M3)))))) ∧ (¬ 3 ≤ x4 → (((b_iand (b_ishr x1 (wrap (6 + x4))) 1) ≠ 1 → fMd_goesBehind_105 (fMd_goesBehind_65 k9 R n) R x1 x2 x3 x4 M) ∧ ((b_iand (b_ishr x1 (wrap (6 + x4))) 1) = 1 → fMd_with x1 x3 (wrap (x4 + 1)) M (fun r4 M4 => fMd_nearer r4 (wrap (x2 + (M4 1 2))) M4 (fun r5 M5 => fMd_goesBehind_105 (fMd_goesBehind_65 k9 R n) R x1 x2 x3 x4 M5))))))
def fMd_goesBehind_22 (k9 : Int → Int → Int → Mem → Prop) (R : Int → Mem → Prop) : Nat → Int → Int → Int → Int → Mem → Prop
  | 0 => fun _ _ _ _ _ => False
  | n + 1 => fun x1 x2 x3 x4 M => (((M 1 0) ≤ x4 → ∃ n6, fMd_goesBehind_65 k9 R n6 x1 x2 x3 0 M) ∧ (¬ (M 1 0) ≤ x4 → fMd_hasOf x1 x4 M (fun r7 M7 => fMd_with x1 x3 r7 M7 (fun r8 M8 => fMd_nearer r8 (wrap (x2 + (M8 1 1))) M8 (fun r9 M9 => (fMd_goesBehind_22 k9 R n) x1 x2 x3 (wrap (x4 + 1)) M9)))))
def fMd_goesBehind_9 (R : Int → Mem → Prop) : Nat → Int → Int → Int → Mem → Prop
  | 0 => fun _ _ _ _ => False
  | n + 1 => fun x1 x2 x3 M => (((M 1 0) ≤ x3 → R 0 M) ∧ (¬ (M 1 0) ≤ x3 → ∃ n10, fMd_goesBehind_22 (fMd_goesBehind_9 R n) R n10 x1 x2 x3 0 M))
def fMd_goesBehind (x1 : Int) (M : Mem) (R : Int → Mem → Prop) : Prop := (inb x1 512 ∧ ∃ n11, fMd_goesBehind_9  R n11 x1 (M 19 x1) 0 M)
def fMd_laysFrom_167 (k111 : Int → Int → Mem → Prop) (R : Int → Mem → Prop) (x4 t0 : Int) (M : Mem) : Prop := k111 t0 (wrap (x4 + 1)) M
def fMd_laysFrom_166 (k111 : Int → Int → Mem → Prop) (R : Int → Mem → Prop) (x3 x4 : Int) (M : Mem) : Prop := fMd_laysFrom_167 k111 R x4 x3 M
def fMd_laysFrom_161 (k111 : Int → Int → Mem → Prop) (R : Int → Mem → Prop) (x4 : Int) (M : Mem) : Prop := fMd_laysFrom_167 k111 R x4 x4 M
def fMd_laysFrom_111 (k90 : Int → Mem → Prop) (R : Int → Mem → Prop) : Nat → Int → Int → Mem → Prop
  | 0 => fun _ _ _ => False
  | n + 1 => fun x3 x4 M => ((512 ≤ x4 → k90 x3 M) ∧ (¬ 512 ≤ x4 → (inb x4 512 ∧ (((M 20 x4) ≠ 0 → fMd_laysFrom_166 (fMd_laysFrom_111 k90 R n) R x3 x4 M) ∧ ((M 20 x4) = 0 → (inb x4 512 ∧ ((1000000000 ≤ (M 19 x4) → fMd_laysFrom_166 (fMd_laysFrom_111 k90 R n) R x3 x4 M) ∧ (¬ 1000000000 ≤ (M 19 x4) → ((x3 < 0 → fMd_laysFrom_161 (fMd_laysFrom_111 k90 R n) R x4 M) ∧ (¬ x3 < 0 → (inb x4 512 ∧ (inb x3 512 ∧ (((M 19 x3) ≤ (M 19 x4) → fMd_laysFrom_166 (fMd_laysFrom_111 k90 R n) R x3 x4 M) ∧ (¬ (M 19 x3) ≤ (M 19 x4) → fMd_laysFrom_161 (fMd_laysFrom_111 k90 R n) R x4 M))))))))))))))
def fMd_laysFrom_90 (R : Int → Mem → Prop) : Nat → Int → Mem → Prop
  | 0 => fun _ _ => False
  | n + 1 => fun x3 M => ((x3 < 0 → R 0 M) ∧ (¬ x3 < 0 → (inb x3 512 ∧ fMd_goesBehind x3 (mu M 20 x3 1) (fun r1 M1 => ∃ n2, fMd_laysFrom_111 (fMd_laysFrom_90 R n) R n2 (-1) 0 M1))))
def fMd_laysFrom_74 (k51 : Int → Int → Mem → Prop) (R : Int → Mem → Prop) (x2 x3 t0 t1 : Int) (M : Mem) : Prop := (inb t1 512 ∧ (inb x3 512 ∧ k51 x2 (wrap (x3 + 1)) (mu (mu M 19 t1 t0) 20 x3 0)))
def fMd_laysFrom_51 (R : Int → Mem → Prop) : Nat → Int → Int → Mem → Prop
  | 0 => fun _ _ _ => False
  | n + 1 => fun x2 x3 M => ((512 ≤ x3 → ∃ n3, fMd_laysFrom_90  R n3 x2 M) ∧ (¬ 512 ≤ x3 → ((x3 ≠ x2 → fMd_laysFrom_74 (fMd_laysFrom_51 R n) R x2 x3 1000000000 x3 M) ∧ (x3 = x2 → fMd_laysFrom_74 (fMd_laysFrom_51 R n) R x2 x3 0 x3 M))))
def fMd_laysFrom_6 (R : Int → Mem → Prop) : Nat → Int → Int → Int → Mem → Prop
  | 0 => fun _ _ _ _ => False
  | n + 1 => fun x1 x2 x3 M => (inb x1 16 ∧ (((M 15 x1) ≤ x3 → ∃ n4, fMd_laysFrom_51  R n4 x2 0 M) ∧ (¬ (M 15 x1) ≤ x3 → (inb (wrap ((wrap (3 * x1)) + x3)) 48 ∧ fMd_with x2 (M 16 (wrap ((wrap (3 * x1)) + x3))) (wrap (x3 + 1)) M (fun r5 M5 => (fMd_laysFrom_6 R n) x1 (b_iand r5 (b_ixor (b_ishl 1 (wrap (6 + x3))) (-1))) (wrap (x3 + 1)) M5)))))
def fMd_laysFrom (x1 : Int) (M : Mem) (R : Int → Mem → Prop) : Prop := ∃ n6, fMd_laysFrom_6  R n6 x1 448 0 M
def fMd_isAt_69 (k5 : Int → Int → Int → Int → Mem → Prop) (R : Int → Mem → Prop) (x1 x2 x4 t0 : Int) (M : Mem) : Prop := k5 x1 x2 t0 (wrap (x4 + 1)) M
def fMd_isAt_68 (k5 : Int → Int → Int → Int → Mem → Prop) (R : Int → Mem → Prop) (x1 x2 x4 : Int) (M : Mem) : Prop := fMd_isAt_69 k5 R x1 x2 x4 0 M
def fMd_isAt_64 (k5 : Int → Int → Int → Int → Mem → Prop) (R : Int → Mem → Prop) (x1 x2 x4 : Int) (M : Mem) : Prop := fMd_isAt_69 k5 R x1 x2 x4 1 M
def fMd_isAt_5 (R : Int → Mem → Prop) : Nat → Int → Int → Int → Int → Mem → Prop
  | 0 => fun _ _ _ _ _ => False
  | n + 1 => fun x1 x2 x3 x4 M => ((3 ≤ x4 → ((x3 = 0 ∨ x3 = 1) ∧ R x3 M)) ∧ (¬ 3 ≤ x4 → ((x3 = 0 → fMd_isAt_68 (fMd_isAt_5 R n) R x1 x2 x4 M) ∧ (¬ x3 = 0 → (inb x2 16 ∧ (((M 15 x2) ≤ x4 → (((b_iand (b_ishr x1 (wrap (6 + x4))) 1) ≠ 1 → fMd_isAt_68 (fMd_isAt_5 R n) R x1 x2 x4 M) ∧ ((b_iand (b_ishr x1 (wrap (6 + x4))) 1) = 1 → fMd_isAt_64 (fMd_isAt_5 R n) R x1 x2 x4 M))) ∧ (¬ (M 15 x2) ≤ x4 → (inb (wrap ((wrap (3 * x2)) + x4)) 48 ∧ fMd_hasOf x1 (M 16 (wrap ((wrap (3 * x2)) + x4))) M (fun r1 M1 => ((r1 ≠ (wrap (x4 + 1)) → fMd_isAt_68 (fMd_isAt_5 R n) R x1 x2 x4 M1) ∧ (r1 = (wrap (x4 + 1)) → fMd_isAt_64 (fMd_isAt_5 R n) R x1 x2 x4 M1)))))))))))
def fMd_isAt (x1 x2 : Int) (M : Mem) (R : Int → Mem → Prop) : Prop := ∃ n2, fMd_isAt_5  R n2 x1 x2 1 0 M
def fMd_laysPassages_88 (k48 : Int → Int → Int → Int → Mem → Prop) (R : Int → Mem → Prop) (x1 x2 x4 t0 : Int) (M : Mem) : Prop := k48 x1 x2 t0 (wrap (x4 + 1)) M
def fMd_laysPassages_87 (k48 : Int → Int → Int → Int → Mem → Prop) (R : Int → Mem → Prop) (x1 x2 x3 x4 : Int) (M : Mem) : Prop := fMd_laysPassages_88 k48 R x1 x2 x4 x3 M
def fMd_laysPassages_48 (k34 : Int → Int → Mem → Prop) (R : Int → Mem → Prop) : Nat → Int → Int → Int → Int → Mem → Prop
  | 0 => fun _ _ _ _ _ => False
  | n + 1 => fun x1 x2 x3 x4 M => ((512 ≤ x4 → (inb (wrap ((wrap (16 * x1)) + x2)) 256 ∧ k34 x1 (wrap (x2 + 1)) (mu M 18 (wrap ((wrap (16 * x1)) + x2)) x3))) ∧ (¬ 512 ≤ x4 → (inb x4 512 ∧ ((x3 ≤ (M 19 x4) → fMd_laysPassages_87 (fMd_laysPassages_48 k34 R n) R x1 x2 x3 x4 M) ∧ (¬ x3 ≤ (M 19 x4) → fMd_isAt x4 x2 M (fun r3 M3 => ((r3 = 0 → fMd_laysPassages_87 (fMd_laysPassages_48 k34 R n) R x1 x2 x3 x4 M3) ∧ (¬ r3 = 0 → (inb x4 512 ∧ fMd_laysPassages_88 (fMd_laysPassages_48 k34 R n) R x1 x2 x4 (M3 19 x4) M3)))))))))
def fMd_laysPassages_34 (k19 : Int → Mem → Prop) (R : Int → Mem → Prop) : Nat → Int → Int → Mem → Prop
  | 0 => fun _ _ _ => False
  | n + 1 => fun x1 x2 M => (((M 0 20) ≤ x2 → k19 (wrap (x1 + 1)) M) ∧ (¬ (M 0 20) ≤ x2 → ∃ n4, fMd_laysPassages_48 (fMd_laysPassages_34 k19 R n) R n4 x1 x2 1000000000 0 M))
def fMd_laysPassages_19 (R : Int → Mem → Prop) : Nat → Int → Mem → Prop
  | 0 => fun _ _ => False
  | n + 1 => fun x1 M => (((M 0 20) ≤ x1 → R 0 M) ∧ (¬ (M 0 20) ≤ x1 → fMd_laysFrom x1 M (fun r2 M2 => ∃ n5, fMd_laysPassages_34 (fMd_laysPassages_19 R n) R n5 x1 0 M2)))
def fMd_laysPassages (M : Mem) (R : Int → Mem → Prop) : Prop := fMd_laysStates M (fun r1 M1 => (((M1 0 27) = 0 → ∃ n6, fMd_laysPassages_19  R n6 0 (mu M1 0 27 1)) ∧ (¬ (M1 0 27) = 0 → R 0 M1)))
def fMd_passage (x1 x2 : Int) (M : Mem) (R : Int → Mem → Prop) : Prop := fMd_isState x1 M (fun r1 M1 => ((r1 = 0 → R (-1) M1) ∧ (¬ r1 = 0 → fMd_isState x2 M1 (fun r2 M2 => ((r2 ≠ 0 → fMd_laysPassages M2 (fun r3 M3 => (inb (wrap ((wrap (16 * x1)) + x2)) 256 ∧ R (M3 18 (wrap ((wrap (16 * x1)) + x2))) M3))) ∧ (r2 = 0 → R (-1) M2))))))
def fMd_stateOf_72 (k3 : Int → Int → Int → Int → Int → Mem → Prop) (R : Int → Mem → Prop) (x1 x2 x3 x4 x5 : Int) (M : Mem) : Prop := k3 x1 x2 x3 x4 (wrap (x5 + 1)) M
def fMd_stateOf_51 (k3 : Int → Int → Int → Int → Int → Mem → Prop) (R : Int → Mem → Prop) (x1 x2 x3 x4 x5 : Int) (M : Mem) : Prop := ((x1 ≤ 2 → R x5 M) ∧ (¬ x1 ≤ 2 → (inb (wrap ((wrap (3 * x5)) + 2)) 48 ∧ (((M 16 (wrap ((wrap (3 * x5)) + 2))) = x4 → R x5 M) ∧ (¬ (M 16 (wrap ((wrap (3 * x5)) + 2))) = x4 → fMd_stateOf_72 k3 R x1 x2 x3 x4 x5 M)))))
def fMd_stateOf_31 (k3 : Int → Int → Int → Int → Int → Mem → Prop) (R : Int → Mem → Prop) (x1 x2 x3 x4 x5 : Int) (M : Mem) : Prop := ((x1 ≤ 1 → fMd_stateOf_51 k3 R x1 x2 x3 x4 x5 M) ∧ (¬ x1 ≤ 1 → (inb (wrap ((wrap (3 * x5)) + 1)) 48 ∧ (((M 16 (wrap ((wrap (3 * x5)) + 1))) ≠ x3 → fMd_stateOf_72 k3 R x1 x2 x3 x4 x5 M) ∧ ((M 16 (wrap ((wrap (3 * x5)) + 1))) = x3 → fMd_stateOf_51 k3 R x1 x2 x3 x4 x5 M)))))
def fMd_stateOf_3 (R : Int → Mem → Prop) : Nat → Int → Int → Int → Int → Int → Mem → Prop
  | 0 => fun _ _ _ _ _ _ => False
  | n + 1 => fun x1 x2 x3 x4 x5 M => (inb x5 16 ∧ (((M 15 x5) ≠ x1 → fMd_stateOf_72 (fMd_stateOf_3 R n) R x1 x2 x3 x4 x5 M) ∧ ((M 15 x5) = x1 → ((x1 ≤ 0 → fMd_stateOf_31 (fMd_stateOf_3 R n) R x1 x2 x3 x4 x5 M) ∧ (¬ x1 ≤ 0 → (inb (wrap (3 * x5)) 48 ∧ (((M 16 (wrap (3 * x5))) ≠ x2 → fMd_stateOf_72 (fMd_stateOf_3 R n) R x1 x2 x3 x4 x5 M) ∧ ((M 16 (wrap (3 * x5))) = x2 → fMd_stateOf_31 (fMd_stateOf_3 R n) R x1 x2 x3 x4 x5 M))))))))
def fMd_stateOf (x1 x2 x3 x4 : Int) (M : Mem) (R : Int → Mem → Prop) : Prop := ∃ n1, fMd_stateOf_3  R n1 x1 x2 x3 x4 0 M
def fMd_turnsRegisters_68 (R : Int → Mem → Prop) (t0 : Int) (M : Mem) : Prop := R 0 (mu M 0 23 t0)
def fMd_turnsRegisters (x1 x2 : Int) (M : Mem) (R : Int → Mem → Prop) : Prop := (inb (wrap (3 * x2)) 48 ∧ (inb (wrap ((wrap (3 * x2)) + 1)) 48 ∧ (inb (wrap ((wrap (3 * x2)) + 2)) 48 ∧ ((x1 ≠ 120 → fMd_stateOf 3 (M 16 (wrap ((wrap (3 * x2)) + 2))) (M 16 (wrap (3 * x2))) (M 16 (wrap ((wrap (3 * x2)) + 1))) M (fun r1 M1 => fMd_turnsRegisters_68  R r1 M1)) ∧ (x1 = 120 → (inb x2 16 ∧ fMd_stateOf (M 15 x2) (M 16 (wrap ((wrap (3 * x2)) + 1))) (M 16 (wrap (3 * x2))) (M 16 (wrap ((wrap (3 * x2)) + 2))) M (fun r2 M2 => fMd_turnsRegisters_68  R r2 M2)))))))
def fMd_freeIn_35 (k12 : Int → Int → Int → Int → Mem → Prop) (R : Int → Mem → Prop) (x1 x3 x4 t0 t1 : Int) (M : Mem) : Prop := k12 x1 (wrap (t1 + t0)) x3 (wrap (x4 + 1)) M
def fMd_freeIn_12 (k4 : Int → Int → Int → Mem → Prop) (R : Int → Mem → Prop) : Nat → Int → Int → Int → Int → Mem → Prop
  | 0 => fun _ _ _ _ _ => False
  | n + 1 => fun x1 x2 x3 x4 M => ((x1 ≤ x4 → k4 x1 x2 (wrap (x3 + 1)) M) ∧ (¬ x1 ≤ x4 → (inb x4 3 ∧ (((M 17 x4) ≠ x2 → fMd_freeIn_35 (fMd_freeIn_12 k4 R n) R x1 x3 x4 0 x2 M) ∧ ((M 17 x4) = x2 → fMd_freeIn_35 (fMd_freeIn_12 k4 R n) R x1 x3 x4 1 x2 M)))))
def fMd_freeIn_4 (R : Int → Mem → Prop) : Nat → Int → Int → Int → Mem → Prop
  | 0 => fun _ _ _ _ => False
  | n + 1 => fun x1 x2 x3 M => ((x1 ≤ x3 → R x2 M) ∧ (¬ x1 ≤ x3 → ∃ n1, fMd_freeIn_12 (fMd_freeIn_4 R n) R n1 x1 x2 x3 0 M))
def fMd_freeIn (x1 : Int) (M : Mem) (R : Int → Mem → Prop) : Prop := ∃ n2, fMd_freeIn_4  R n2 x1 0 0 M
def fMd_leavesRest (x1 x2 : Int) (M : Mem) (R : Int → Mem → Prop) : Prop := ((x2 ≠ 0 → fMd_freeIn x1 M (fun r1 M1 => fMd_stateOf (wrap (x1 + 1)) r1 (M1 17 0) (M1 17 1) M1 (fun r2 M2 => R 0 (mu M2 0 23 r2)))) ∧ (x2 = 0 → fMd_stateOf x1 (M 17 0) (M 17 1) (M 17 2) M (fun r3 M3 => R 0 (mu M3 0 23 r3))))
def fMd_hasVersion_234 (R : Int → Mem → Prop) (x5 t0 : Int) (M : Mem) : Prop := ((x5 ≠ 0 → R 0 (mu (mu M 0 24 t0) 0 23 0)) ∧ (x5 = 0 → R 1 (mu (mu M 0 24 t0) 0 23 0)))
def fMd_hasVersion_201 (R : Int → Mem → Prop) (x3 x4 x5 t0 : Int) (M : Mem) : Prop := ((t0 = 0 ∨ t0 = 1) ∧ ((t0 = 0 → fMd_hasVersion_234  R x5 0 (mu M 0 25 t0)) ∧ (¬ t0 = 0 → fMd_hasVersion_234  R x5 (wrap ((wrap ((M 1 2) * x3)) + (wrap ((M 1 3) * x4)))) (mu M 0 25 t0))))
def fMd_hasVersion_200 (R : Int → Mem → Prop) (x3 x4 x5 : Int) (M : Mem) : Prop := fMd_hasVersion_201  R x3 x4 x5 0 M
def fMd_hasVersion_184 (R : Int → Mem → Prop) (x1 x3 x4 x5 : Int) (M : Mem) : Prop := ((x5 ≠ 0 → fMd_hasVersion_200  R x3 x4 x5 M) ∧ (x5 = 0 → ((x1 = 112 → fMd_hasVersion_200  R x3 x4 x5 M) ∧ (¬ x1 = 112 → fMd_hasVersion_201  R x3 x4 x5 1 M))))
def fMd_hasVersion_154 (R : Int → Mem → Prop) (x1 x2 : Int) (M : Mem) : Prop := fMd_turnsRegisters x1 x2 M (fun r3 M3 => R 1 M3)
def fMd_hasVersion_179 (R : Int → Mem → Prop) (t0 t1 : Int) (M : Mem) : Prop := fMd_leavesRest t1 t0 M (fun r4 M4 => R 1 M4)
def fMd_hasVersion_135 (k94 : Int → Int → Int → Int → Int → Int → Mem → Prop) (R : Int → Mem → Prop) (x1 x2 x4 x5 x6 x7 t0 t1 : Int) (M : Mem) : Prop := (inb t1 3 ∧ k94 x1 x2 x4 x5 x6 (wrap (x7 + 1)) (mu M 17 t1 t0))
def fMd_hasVersion_94 (R : Int → Mem → Prop) : Nat → Int → Int → Int → Int → Int → Int → Mem → Prop
  | 0 => fun _ _ _ _ _ _ _ => False
  | n + 1 => fun x1 x2 x4 x5 x6 x7 M => ((3 ≤ x7 → ((x1 = 120 → fMd_hasVersion_154  R x1 x2 M) ∧ (¬ x1 = 120 → ((x1 ≠ 114 → ((x4 ≤ 0 → fMd_hasVersion_179  R 0 (wrap (x5 - x6)) M) ∧ (¬ x4 ≤ 0 → fMd_hasVersion_179  R 1 (wrap (x5 - x6)) M))) ∧ (x1 = 114 → fMd_hasVersion_154  R x1 x2 M))))) ∧ (¬ 3 ≤ x7 → ((x5 ≤ (wrap (x7 + x6)) → fMd_hasVersion_135 (fMd_hasVersion_94 R n) R x1 x2 x4 x5 x6 x7 (-4) x7 M) ∧ (¬ x5 ≤ (wrap (x7 + x6)) → (inb (wrap ((wrap ((wrap (3 * x2)) + x7)) + x6)) 48 ∧ fMd_hasVersion_135 (fMd_hasVersion_94 R n) R x1 x2 x4 x5 x6 x7 (M 16 (wrap ((wrap ((wrap (3 * x2)) + x7)) + x6))) x7 M)))))
def fMd_hasVersion_89 (R : Int → Mem → Prop) (x1 x2 x4 x5 t0 : Int) (M : Mem) : Prop := ∃ n5, fMd_hasVersion_94  R n5 x1 x2 x4 x5 t0 0 M
def fMd_hasVersion_84 (R : Int → Mem → Prop) (x1 x2 x4 x5 : Int) (M : Mem) : Prop := fMd_hasVersion_89  R x1 x2 x4 x5 0 M
def fMd_hasVersion_47 (R : Int → Mem → Prop) (x1 x2 x3 x4 x5 t0 : Int) (M : Mem) : Prop := ((x5 < x3 → fMd_hasVersion_184  R x1 x3 x4 x5 (mu M 0 24 t0)) ∧ (¬ x5 < x3 → (((M 1 0) < (wrap ((wrap (x5 - x3)) + x4)) → fMd_hasVersion_184  R x1 x3 x4 x5 (mu M 0 24 t0)) ∧ (¬ (M 1 0) < (wrap ((wrap (x5 - x3)) + x4)) → ((x1 = 100 → fMd_hasVersion_84  R x1 x2 x4 x5 (mu M 0 24 t0)) ∧ (¬ x1 = 100 → ((x1 ≠ 111 → fMd_hasVersion_89  R x1 x2 x4 x5 x3 (mu M 0 24 t0)) ∧ (x1 = 111 → fMd_hasVersion_84  R x1 x2 x4 x5 (mu M 0 24 t0)))))))))
def fMd_hasVersion_37 (R : Int → Mem → Prop) (x1 x2 x3 x4 x5 : Int) (M : Mem) : Prop := fMd_hasVersion_47  R x1 x2 x3 x4 x5 (M 1 1) M
def fMd_hasVersion (x1 x2 : Int) (M : Mem) (R : Int → Mem → Prop) : Prop := fMd_takes x1 M (fun r1 M1 => fMd_comes x1 M1 (fun r2 M2 => (inb x2 16 ∧ ((x1 = 100 → fMd_hasVersion_37  R x1 x2 r1 r2 (M2 15 x2) (mu M2 0 25 0)) ∧ (¬ x1 = 100 → ((x1 ≠ 111 → fMd_hasVersion_47  R x1 x2 r1 r2 (M2 15 x2) 0 (mu M2 0 25 0)) ∧ (x1 = 111 → fMd_hasVersion_37  R x1 x2 r1 r2 (M2 15 x2) (mu M2 0 25 0))))))))
def fMd_version (x1 x2 x3 : Int) (M : Mem) (R : Int → Mem → Prop) : Prop := fMd_isCode x1 M (fun r1 M1 => ((r1 = 0 → R (-1) M1) ∧ (¬ r1 = 0 → fMd_isState x2 M1 (fun r2 M2 => ((r2 = 0 → R (-1) M2) ∧ (¬ r2 = 0 → fMd_in x3 0 2 M2 (fun r3 M3 => ((r3 ≠ 0 → (inb x1 24 ∧ fMd_hasVersion (M3 3 x1) x2 M3 (fun r4 M4 => ((r4 ≠ 0 → ((x3 ≠ 0 → ((x3 ≠ 1 → (((M4 0 25) = 0 → R 0 M4) ∧ (¬ (M4 0 25) = 0 → R 1 M4))) ∧ (x3 = 1 → R (M4 0 24) M4))) ∧ (x3 = 0 → R (M4 0 23) M4))) ∧ (r4 = 0 → R (-4) M4))))) ∧ (r3 = 0 → R (-1) M3)))))))))
def fMd_laysVersions_156 (k51 : Int → Int → Mem → Prop) (R : Int → Mem → Prop) (x1 x2 t0 t1 : Int) (M : Mem) : Prop := (inb t1 384 ∧ (inb (wrap ((wrap (16 * x1)) + x2)) 384 ∧ k51 x1 (wrap (x2 + 1)) (mu (mu M 22 t1 t0) 23 (wrap ((wrap (16 * x1)) + x2)) (M 0 24))))
def fMd_laysVersions_154 (k51 : Int → Int → Mem → Prop) (R : Int → Mem → Prop) (x1 x2 t0 : Int) (M : Mem) : Prop := fMd_laysVersions_156 k51 R x1 x2 (-4) t0 M
def fMd_laysVersions_114 (k51 : Int → Int → Mem → Prop) (R : Int → Mem → Prop) (x1 x2 t0 : Int) (M : Mem) : Prop := (inb x1 24 ∧ fMd_hasVersion (M 3 x1) x2 M (fun r2 M2 => ((t0 = 0 → fMd_laysVersions_154 k51 R x1 x2 (wrap ((wrap (16 * x1)) + x2)) M2) ∧ (¬ t0 = 0 → ((r2 = 0 → fMd_laysVersions_154 k51 R x1 x2 (wrap ((wrap (16 * x1)) + x2)) M2) ∧ (¬ r2 = 0 → fMd_laysVersions_156 k51 R x1 x2 (M2 0 23) (wrap ((wrap (16 * x1)) + x2)) M2))))))
def fMd_laysVersions_113 (k51 : Int → Int → Mem → Prop) (R : Int → Mem → Prop) (x1 x2 : Int) (M : Mem) : Prop := fMd_laysVersions_114 k51 R x1 x2 0 M
def fMd_laysVersions_109 (k51 : Int → Int → Mem → Prop) (R : Int → Mem → Prop) (x1 x2 : Int) (M : Mem) : Prop := fMd_laysVersions_114 k51 R x1 x2 1 M
def fMd_laysVersions_93 (k51 : Int → Int → Mem → Prop) (R : Int → Mem → Prop) (x1 x2 : Int) (M : Mem) : Prop := (((M 0 40) ≠ x1 → fMd_laysVersions_109 k51 R x1 x2 M) ∧ ((M 0 40) = x1 → ((x2 ≠ (M 0 41) → fMd_laysVersions_113 k51 R x1 x2 M) ∧ (x2 = (M 0 41) → fMd_laysVersions_109 k51 R x1 x2 M))))
def fMd_laysVersions_51 (k11 : Int → Mem → Prop) (R : Int → Mem → Prop) : Nat → Int → Int → Mem → Prop
  | 0 => fun _ _ _ => False
  | n + 1 => fun x1 x2 M => (((M 0 20) ≤ x2 → k11 (wrap (x1 + 1)) M) ∧ (¬ (M 0 20) ≤ x2 → (inb x1 24 ∧ (((M 5 x1) = (-4) → fMd_laysVersions_113 (fMd_laysVersions_51 k11 R n) R x1 x2 M) ∧ (¬ (M 5 x1) = (-4) → (inb x2 16 ∧ (inb x1 24 ∧ (((M 5 x1) < (M 15 x2) → fMd_laysVersions_113 (fMd_laysVersions_51 k11 R n) R x1 x2 M) ∧ (¬ (M 5 x1) < (M 15 x2) → ((0 < x1 → fMd_laysVersions_93 (fMd_laysVersions_51 k11 R n) R x1 x2 M) ∧ (¬ 0 < x1 → ((x2 ≠ 0 → fMd_laysVersions_113 (fMd_laysVersions_51 k11 R n) R x1 x2 M) ∧ (x2 = 0 → fMd_laysVersions_93 (fMd_laysVersions_51 k11 R n) R x1 x2 M)))))))))))))
def fMd_laysVersions_49 (k11 : Int → Mem → Prop) (R : Int → Mem → Prop) (x1 : Int) (M : Mem) : Prop := ∃ n3, fMd_laysVersions_51 k11 R n3 x1 0 M
def fMd_laysVersions_11 (R : Int → Mem → Prop) : Nat → Int → Mem → Prop
  | 0 => fun _ _ => False
  | n + 1 => fun x1 M => (((M 0 3) ≤ x1 → R 0 M) ∧ (¬ (M 0 3) ≤ x1 → (inb x1 24 ∧ (((M 6 x1) ≠ 1 → fMd_laysVersions_49 (fMd_laysVersions_11 R n) R x1 M) ∧ ((M 6 x1) = 1 → (inb (M 0 37) 2 ∧ fMd_laysVersions_49 (fMd_laysVersions_11 R n) R x1 (mu (mu M 25 (M 0 37) x1) 0 37 (wrap ((M 0 37) + 1)))))))))
def fMd_laysVersions (M : Mem) (R : Int → Mem → Prop) : Prop := fMd_laysPassages M (fun r1 M1 => ∃ n4, fMd_laysVersions_11  R n4 0 (mu M1 0 37 0))
def fMd_goesOn_l_47 (R : Int → Mem → Prop) (M : Mem) : Prop := R (-4) M
def fMd_goesOn_l (x2 x3 x4 : Int) (M : Mem) (R : Int → Mem → Prop) : Prop := ((x3 ≠ 1 → (inb x2 24 ∧ (((M 3 x2) = 106 → fMd_goesOn_l_47  R M) ∧ (¬ (M 3 x2) = 106 → (inb x2 24 ∧ (((M 3 x2) = 104 → fMd_goesOn_l_47  R M) ∧ (¬ (M 3 x2) = 104 → (((wrap (x2 + 1)) ≠ x4 → R (wrap (x2 + 1)) M) ∧ ((wrap (x2 + 1)) = x4 → fMd_goesOn_l_47  R M))))))))) ∧ (x3 = 1 → (inb x2 24 ∧ fMd_isJump (M 3 x2) M (fun r1 M1 => ((r1 = 0 → R (-4) M1) ∧ (¬ r1 = 0 → (inb x2 24 ∧ R (M1 4 x2) M1)))))))
def fMd_onTo_121 (k13 : Int → Int → Int → Int → Int → Mem → Prop) (R : Int → Mem → Prop) (x1 x2 x3 x4 x5 : Int) (M : Mem) : Prop := k13 x1 x2 x3 x4 (wrap (x5 + 1)) M
def fMd_onTo_119 (k13 : Int → Int → Int → Int → Int → Mem → Prop) (R : Int → Mem → Prop) (x1 x2 x3 x5 t0 : Int) (M : Mem) : Prop := fMd_onTo_121 k13 R x1 x2 x3 t0 x5 M
def fMd_onTo_102 (k13 : Int → Int → Int → Int → Int → Mem → Prop) (R : Int → Mem → Prop) (x1 x2 x3 x4 x5 x6 t0 : Int) (M : Mem) : Prop := ((x4 ≤ x6 → fMd_onTo_119 k13 R x1 x2 x3 x5 x4 (mu M 0 42 t0)) ∧ (¬ x4 ≤ x6 → fMd_onTo_119 k13 R x1 x2 x3 x5 x6 (mu M 0 42 t0)))
def fMd_onTo_13 (R : Int → Mem → Prop) : Nat → Int → Int → Int → Int → Int → Mem → Prop
  | 0 => fun _ _ _ _ _ _ => False
  | n + 1 => fun x1 x2 x3 x4 x5 M => (((M 0 20) ≤ x5 → R x4 M) ∧ (¬ (M 0 20) ≤ x5 → (inb (wrap ((wrap (16 * x1)) + x5)) 384 ∧ (((M 22 (wrap ((wrap (16 * x1)) + x5))) = (-4) → fMd_onTo_121 (fMd_onTo_13 R n) R x1 x2 x3 x4 x5 M) ∧ (¬ (M 22 (wrap ((wrap (16 * x1)) + x5))) = (-4) → (inb (wrap ((wrap (16 * x1)) + x5)) 384 ∧ ((1000000000 ≤ (M 24 (wrap ((wrap (16 * x1)) + x5))) → fMd_onTo_121 (fMd_onTo_13 R n) R x1 x2 x3 x4 x5 M) ∧ (¬ 1000000000 ≤ (M 24 (wrap ((wrap (16 * x1)) + x5))) → (inb (wrap ((wrap (16 * x2)) + x5)) 256 ∧ (inb (wrap ((wrap (16 * x1)) + x5)) 384 ∧ ((x4 ≤ (wrap ((wrap (x3 * (M 18 (wrap ((wrap (16 * x2)) + x5))))) + (M 24 (wrap ((wrap (16 * x1)) + x5))))) → fMd_onTo_102 (fMd_onTo_13 R n) R x1 x2 x3 x4 x5 (wrap ((wrap (x3 * (M 18 (wrap ((wrap (16 * x2)) + x5))))) + (M 24 (wrap ((wrap (16 * x1)) + x5))))) (M 0 42) M) ∧ (¬ x4 ≤ (wrap ((wrap (x3 * (M 18 (wrap ((wrap (16 * x2)) + x5))))) + (M 24 (wrap ((wrap (16 * x1)) + x5))))) → fMd_onTo_102 (fMd_onTo_13 R n) R x1 x2 x3 x4 x5 (wrap ((wrap (x3 * (M 18 (wrap ((wrap (16 * x2)) + x5))))) + (M 24 (wrap ((wrap (16 * x1)) + x5))))) x5 M))))))))))))
def fMd_onTo (x1 x2 x3 : Int) (M : Mem) (R : Int → Mem → Prop) : Prop := ∃ n1, fMd_onTo_13  R n1 x1 x2 x3 1000000000 0 (mu M 0 42 (-4))
def fMd_leastOf_78 (R : Int → Mem → Prop) (x1 x3 x4 x5 : Int) (M : Mem) : Prop := fMd_goesOn_l x1 0 (M 0 3) M (fun r2 M2 => ((r2 ≠ (-4) → (inb r2 24 ∧ (((M2 6 r2) ≠ 1 → fMd_onTo r2 x4 x3 M2 (fun r3 M3 => ((r3 ≠ 1000000000 → R (wrap (x5 + r3)) M3) ∧ (r3 = 1000000000 → R 1000000000 M3)))) ∧ ((M2 6 r2) = 1 → (inb r2 24 ∧ (inb (wrap ((wrap (16 * x4)) + (M2 26 r2))) 256 ∧ R (wrap (x5 + (wrap (x3 * (M2 18 (wrap ((wrap (16 * x4)) + (M2 26 r2)))))))) M2)))))) ∧ (r2 = (-4) → R x5 M2)))
def fMd_leastOf (x1 x2 : Int) (M : Mem) (R : Int → Mem → Prop) : Prop := (inb (wrap (4 + x1)) 28 ∧ (inb (wrap ((wrap (16 * x1)) + x2)) 384 ∧ (inb (wrap ((wrap (16 * x1)) + x2)) 384 ∧ (inb x1 24 ∧ fMd_isJump (M 3 x1) M (fun r1 M1 => ((r1 = 0 → fMd_leastOf_78  R x1 (M 1 (wrap (4 + x1))) (M 22 (wrap ((wrap (16 * x1)) + x2))) (wrap ((M 1 (wrap (4 + x1))) * (M 23 (wrap ((wrap (16 * x1)) + x2))))) M1) ∧ (¬ r1 = 0 → (inb x1 24 ∧ (inb (M1 4 x1) 24 ∧ (inb (wrap ((wrap (16 * (M 22 (wrap ((wrap (16 * x1)) + x2))))) + (M1 26 (M1 4 x1)))) 256 ∧ fMd_leastOf_78  R x1 (M 1 (wrap (4 + x1))) (M 22 (wrap ((wrap (16 * x1)) + x2))) (wrap ((wrap ((M 1 (wrap (4 + x1))) * (M 23 (wrap ((wrap (16 * x1)) + x2))))) + (wrap ((M 1 (wrap (4 + x1))) * (M1 18 (wrap ((wrap (16 * (M 22 (wrap ((wrap (16 * x1)) + x2))))) + (M1 26 (M1 4 x1))))))))) M1))))))))))
def fMd_total_148 (k80 : Int → Int → Mem → Prop) (R : Int → Mem → Prop) (x2 t0 : Int) (M : Mem) : Prop := k80 t0 (wrap (x2 + 1)) M
def fMd_total_127 (k80 : Int → Int → Mem → Prop) (R : Int → Mem → Prop) (x2 : Int) (M : Mem) : Prop := fMd_total_148 k80 R x2 1000000000 M
def fMd_total_80 (R : Int → Mem → Prop) : Nat → Int → Int → Mem → Prop
  | 0 => fun _ _ _ => False
  | n + 1 => fun x1 x2 M => (((M 0 37) ≤ x2 → R x1 M) ∧ (¬ (M 0 37) ≤ x2 → (inb x2 2 ∧ (inb x2 2 ∧ (inb (M 25 x2) 24 ∧ (inb (wrap ((wrap (16 * (M 25 x2))) + (M 26 (M 25 x2)))) 384 ∧ ((x1 = 1000000000 → fMd_total_127 (fMd_total_80 R n) R x2 M) ∧ (¬ x1 = 1000000000 → (((M 24 (wrap ((wrap (16 * (M 25 x2))) + (M 26 (M 25 x2))))) ≠ 1000000000 → (inb x2 2 ∧ (((M 25 x2) ≠ 0 → fMd_total_148 (fMd_total_80 R n) R x2 (wrap (x1 + (M 24 (wrap ((wrap (16 * (M 25 x2))) + (M 26 (M 25 x2))))))) M) ∧ ((M 25 x2) = 0 → fMd_total_148 (fMd_total_80 R n) R x2 x1 M)))) ∧ ((M 24 (wrap ((wrap (16 * (M 25 x2))) + (M 26 (M 25 x2))))) = 1000000000 → fMd_total_127 (fMd_total_80 R n) R x2 M))))))))))
def fMd_total_58 (k13 : Int → Int → Mem → Prop) (R : Int → Mem → Prop) (x1 x2 t0 t1 : Int) (M : Mem) : Prop := (inb t1 384 ∧ k13 x1 (wrap (x2 + 1)) (mu M 24 t1 t0))
def fMd_total_13 (k7 : Int → Mem → Prop) (R : Int → Mem → Prop) : Nat → Int → Int → Mem → Prop
  | 0 => fun _ _ _ => False
  | n + 1 => fun x1 x2 M => (((M 0 20) ≤ x2 → k7 (wrap (x1 + (-1))) M) ∧ (¬ (M 0 20) ≤ x2 → (inb (wrap ((wrap (16 * x1)) + x2)) 384 ∧ (((M 22 (wrap ((wrap (16 * x1)) + x2))) ≠ (-4) → fMd_leastOf x1 x2 M (fun r2 M2 => fMd_total_58 (fMd_total_13 k7 R n) R x1 x2 r2 (wrap ((wrap (16 * x1)) + x2)) M2)) ∧ ((M 22 (wrap ((wrap (16 * x1)) + x2))) = (-4) → fMd_total_58 (fMd_total_13 k7 R n) R x1 x2 1000000000 (wrap ((wrap (16 * x1)) + x2)) M)))))
def fMd_total_7 (R : Int → Mem → Prop) : Nat → Int → Mem → Prop
  | 0 => fun _ _ => False
  | n + 1 => fun x1 M => ((x1 < 0 → ∃ n1, fMd_total_80  R n1 (M 24 0) 0 M) ∧ (¬ x1 < 0 → ∃ n3, fMd_total_13 (fMd_total_7 R n) R n3 x1 0 M))
def fMd_total (M : Mem) (R : Int → Mem → Prop) : Prop := ∃ n4, fMd_total_7  R n4 (wrap ((M 0 3) - 1)) M
def fMd_search_251 (R : Int → Mem → Prop) (x1 x3 : Int) (M : Mem) : Prop := (((M 0 37) ≤ 1 → R x1 M) ∧ (¬ (M 0 37) ≤ 1 → (inb (M 25 1) 24 ∧ R x1 (mu M 26 (M 25 1) x3))))
def fMd_search_220 (k37 : Int → Int → Int → Int → Int → Mem → Prop) (R : Int → Mem → Prop) (x1 x2 x3 x4 x5 : Int) (M : Mem) : Prop := k37 x1 x2 x3 x4 (wrap (x5 + 1)) M
def fMd_search_219 (k37 : Int → Int → Int → Int → Int → Mem → Prop) (R : Int → Mem → Prop) (x2 x3 x4 x5 t0 : Int) (M : Mem) : Prop := fMd_search_220 k37 R t0 x2 x3 x4 x5 M
def fMd_search_206 (k37 : Int → Int → Int → Int → Int → Mem → Prop) (R : Int → Mem → Prop) (x1 x2 x4 x5 x7 t0 : Int) (M : Mem) : Prop := ((x1 ≤ x7 → fMd_search_219 k37 R x2 t0 x4 x5 x1 M) ∧ (¬ x1 ≤ x7 → fMd_search_219 k37 R x2 t0 x4 x5 x7 M))
def fMd_search_193 (k37 : Int → Int → Int → Int → Int → Mem → Prop) (R : Int → Mem → Prop) (x1 x3 x4 x5 x7 t0 : Int) (M : Mem) : Prop := ((x1 ≤ x7 → fMd_search_206 k37 R x1 t0 x4 x5 x7 x3 M) ∧ (¬ x1 ≤ x7 → fMd_search_206 k37 R x1 t0 x4 x5 x7 x5 M))
def fMd_search_175 (k37 : Int → Int → Int → Int → Int → Mem → Prop) (R : Int → Mem → Prop) (x1 x2 x3 x4 x5 : Int) (M : Mem) : Prop := fMd_total M (fun r2 M2 => ((x1 ≤ r2 → fMd_search_193 k37 R x1 x3 x4 x5 r2 x2 M2) ∧ (¬ x1 ≤ r2 → fMd_search_193 k37 R x1 x3 x4 x5 r2 x4 M2)))
def fMd_search_153 (k37 : Int → Int → Int → Int → Int → Mem → Prop) (R : Int → Mem → Prop) (x1 x2 x3 x4 x5 t0 t1 : Int) (M : Mem) : Prop := (inb t1 24 ∧ (((M 0 37) ≤ 1 → fMd_search_175 k37 R x1 x2 x3 x4 x5 (mu M 26 t1 t0)) ∧ (¬ (M 0 37) ≤ 1 → (inb (M 25 1) 24 ∧ fMd_search_175 k37 R x1 x2 x3 x4 x5 (mu (mu M 26 t1 t0) 26 (M 25 1) x5)))))
def fMd_search_123 (k37 : Int → Int → Int → Int → Int → Mem → Prop) (R : Int → Mem → Prop) (x1 x2 x3 x4 x5 t0 : Int) (M : Mem) : Prop := ((t0 = 0 → fMd_search_220 k37 R x1 x2 x3 x4 x5 M) ∧ (¬ t0 = 0 → (((M 0 37) ≤ 0 → fMd_search_153 k37 R x1 x2 x3 x4 x5 0 (M 25 0) M) ∧ (¬ (M 0 37) ≤ 0 → fMd_search_153 k37 R x1 x2 x3 x4 x5 x4 (M 25 0) M))))
def fMd_search_118 (k37 : Int → Int → Int → Int → Int → Mem → Prop) (R : Int → Mem → Prop) (x1 x2 x3 x4 x5 : Int) (M : Mem) : Prop := fMd_search_123 k37 R x1 x2 x3 x4 x5 1 M
def fMd_search_122 (k37 : Int → Int → Int → Int → Int → Mem → Prop) (R : Int → Mem → Prop) (x1 x2 x3 x4 x5 : Int) (M : Mem) : Prop := fMd_search_123 k37 R x1 x2 x3 x4 x5 0 M
def fMd_search_88 (k37 : Int → Int → Int → Int → Int → Mem → Prop) (R : Int → Mem → Prop) (x1 x2 x3 x4 x5 : Int) (M : Mem) : Prop := (((M 0 37) < 2 → fMd_search_118 k37 R x1 x2 x3 x4 x5 M) ∧ (¬ (M 0 37) < 2 → (inb (wrap ((wrap (16 * (M 25 1))) + x5)) 384 ∧ (((M 22 (wrap ((wrap (16 * (M 25 1))) + x5))) = (-4) → fMd_search_122 k37 R x1 x2 x3 x4 x5 M) ∧ (¬ (M 22 (wrap ((wrap (16 * (M 25 1))) + x5))) = (-4) → fMd_search_118 k37 R x1 x2 x3 x4 x5 M)))))
def fMd_search_55 (k14 : Int → Int → Int → Int → Mem → Prop) (k37 : Int → Int → Int → Int → Int → Mem → Prop) (R : Int → Mem → Prop) (x1 x2 x3 x4 x5 t0 t1 : Int) (M : Mem) : Prop := ((t0 ≤ t1 → k14 x1 x2 x3 (wrap (x4 + 1)) M) ∧ (¬ t0 ≤ t1 → (((M 0 37) < 1 → fMd_search_88 k37 R x1 x2 x3 x4 x5 M) ∧ (¬ (M 0 37) < 1 → (inb (wrap ((wrap (16 * (M 25 0))) + x4)) 384 ∧ (((M 22 (wrap ((wrap (16 * (M 25 0))) + x4))) = (-4) → fMd_search_122 k37 R x1 x2 x3 x4 x5 M) ∧ (¬ (M 22 (wrap ((wrap (16 * (M 25 0))) + x4))) = (-4) → fMd_search_88 k37 R x1 x2 x3 x4 x5 M)))))))
def fMd_search_37 (k14 : Int → Int → Int → Int → Mem → Prop) (R : Int → Mem → Prop) : Nat → Int → Int → Int → Int → Int → Mem → Prop
  | 0 => fun _ _ _ _ _ _ => False
  | n + 1 => fun x1 x2 x3 x4 x5 M => (((M 0 37) ≤ 1 → fMd_search_55 k14 (fMd_search_37 k14 R n) R x1 x2 x3 x4 x5 1 x5 M) ∧ (¬ (M 0 37) ≤ 1 → fMd_search_55 k14 (fMd_search_37 k14 R n) R x1 x2 x3 x4 x5 (M 0 20) x5 M))
def fMd_search_31 (k14 : Int → Int → Int → Int → Mem → Prop) (R : Int → Mem → Prop) (x1 x2 x3 x4 t0 t1 : Int) (M : Mem) : Prop := ((t0 ≤ t1 → (((M 0 37) ≤ 0 → fMd_search_251  R x1 x3 M) ∧ (¬ (M 0 37) ≤ 0 → (inb (M 25 0) 24 ∧ fMd_search_251  R x1 x3 (mu M 26 (M 25 0) x2))))) ∧ (¬ t0 ≤ t1 → ∃ n3, fMd_search_37 k14 R n3 x1 x2 x3 x4 0 M))
def fMd_search_14 (R : Int → Mem → Prop) : Nat → Int → Int → Int → Int → Mem → Prop
  | 0 => fun _ _ _ _ _ => False
  | n + 1 => fun x1 x2 x3 x4 M => (((M 0 37) ≤ 0 → fMd_search_31 (fMd_search_14 R n) R x1 x2 x3 x4 1 x4 M) ∧ (¬ (M 0 37) ≤ 0 → fMd_search_31 (fMd_search_14 R n) R x1 x2 x3 x4 (M 0 20) x4 M))
def fMd_search (M : Mem) (R : Int → Mem → Prop) : Prop := fMd_laysVersions M (fun r1 M1 => ∃ n4, fMd_search_14  R n4 1000000000 0 0 0 M1)
def fMd_follows_28 (R : Int → Mem → Prop) : Nat → Int → Int → Mem → Prop
  | 0 => fun _ _ _ => False
  | n + 1 => fun x3 x4 M => ((x4 = (-4) → R 0 M) ∧ (¬ x4 = (-4) → (inb x4 24 ∧ (((M 6 x4) ≠ 0 → R 0 M) ∧ ((M 6 x4) = 0 → (inb x3 24 ∧ (inb (wrap ((wrap (16 * x3)) + (M 21 x3))) 384 ∧ (inb (wrap (4 + x3)) 28 ∧ fMd_onTo x4 (M 22 (wrap ((wrap (16 * x3)) + (M 21 x3)))) (M 1 (wrap (4 + x3))) M (fun r2 M2 => (inb x4 24 ∧ fMd_goesOn_l x4 0 (M2 0 3) (mu M2 21 x4 (M2 0 42)) (fun r3 M3 => (fMd_follows_28 R n) x4 r3 M3)))))))))))
def fMd_follows (x1 x2 : Int) (M : Mem) (R : Int → Mem → Prop) : Prop := (inb x1 24 ∧ fMd_goesOn_l x1 0 (M 0 3) (mu M 21 x1 x2) (fun r1 M1 => ∃ n4, fMd_follows_28  R n4 x1 r1 M1))
def fMd_laysBest_55 (R : Int → Mem → Prop) : Nat → Int → Mem → Prop
  | 0 => fun _ _ => False
  | n + 1 => fun x1 M => (((M 0 37) ≤ x1 → R 0 (mu M 0 31 1)) ∧ (¬ (M 0 37) ≤ x1 → (inb x1 2 ∧ (inb x1 2 ∧ (inb (M 25 x1) 24 ∧ fMd_follows (M 25 x1) (M 26 (M 25 x1)) M (fun r4 M4 => (fMd_laysBest_55 R n) (wrap (x1 + 1)) M4))))))
def fMd_laysBest_27 (R : Int → Mem → Prop) : Nat → Int → Mem → Prop
  | 0 => fun _ _ => False
  | n + 1 => fun x1 M => ((24 ≤ x1 → fMd_follows 0 0 M (fun r3 M3 => ∃ n5, fMd_laysBest_55  R n5 0 M3)) ∧ (¬ 24 ≤ x1 → (inb x1 24 ∧ (fMd_laysBest_27 R n) (wrap (x1 + 1)) (mu M 21 x1 (-4)))))
def fMd_laysBest (M : Mem) (R : Int → Mem → Prop) : Prop := (((M 0 31) = 0 → fMd_search M (fun r1 M1 => fMd_total (mu M1 0 32 r1) (fun r2 M2 => ∃ n6, fMd_laysBest_27  R n6 0 M2))) ∧ (¬ (M 0 31) = 0 → fMd_laysStates M (fun r7 M7 => R 0 M7)))
def fMd_best (M : Mem) (R : Int → Mem → Prop) : Prop := fMd_laysBest M (fun r1 M1 => R (M1 0 32) M1)
def fMd_meets (x1 x2 : Int) (M : Mem) (R : Int → Mem → Prop) : Prop := fMd_isCode x1 M (fun r1 M1 => ((r1 = 0 → R (-1) M1) ∧ (¬ r1 = 0 → fMd_in x2 0 1 M1 (fun r2 M2 => ((r2 ≠ 0 → fMd_laysBest M2 (fun r3 M3 => (inb x1 24 ∧ (((M3 5 x1) ≠ (-4) → (inb x1 24 ∧ (inb x1 24 ∧ fMd_hasVersion (M3 3 x1) (M3 21 x1) M3 (fun r4 M4 => ((x2 ≠ 0 → R (M4 0 23) M4) ∧ (x2 = 0 → (inb x1 24 ∧ R (M4 21 x1) M4))))))) ∧ ((M3 5 x1) = (-4) → R (-4) M3))))) ∧ (r2 = 0 → R (-1) M2))))))
def fMd_ifMeets (x1 x2 : Int) (M : Mem) (R : Int → Mem → Prop) : Prop := fMd_isCode x1 M (fun r1 M1 => ((r1 = 0 → R (-1) M1) ∧ (¬ r1 = 0 → fMd_isState x2 M1 (fun r2 M2 => ((r2 ≠ 0 → (inb x1 24 ∧ (((M2 5 x1) ≠ (-4) → fMd_search (mu (mu M2 0 40 x1) 0 41 x2) (fun r3 M3 => ((r3 ≠ 1000000000 → R r3 (mu M3 0 40 (-4))) ∧ (r3 = 1000000000 → R (-4) (mu M3 0 40 (-4)))))) ∧ ((M2 5 x1) = (-4) → R (-4) M2)))) ∧ (r2 = 0 → R (-1) M2))))))
def fMd_start_66 (R : Int → Mem → Prop) : Nat → Int → Mem → Prop
  | 0 => fun _ _ => False
  | n + 1 => fun x1 M => ((24 ≤ x1 → R (M 0 46) M) ∧ (¬ 24 ≤ x1 → (inb x1 24 ∧ (fMd_start_66 R n) (wrap (x1 + 1)) (mu M 30 x1 0))))
def fMd_start_46 (R : Int → Mem → Prop) : Nat → Int → Mem → Prop
  | 0 => fun _ _ => False
  | n + 1 => fun x1 M => ((4 ≤ x1 → ∃ n2, fMd_start_66  R n2 0 M) ∧ (¬ 4 ≤ x1 → (inb x1 4 ∧ (fMd_start_46 R n) (wrap (x1 + 1)) (mu M 29 x1 0))))
def fMd_start (M : Mem) (R : Int → Mem → Prop) : Prop := fMd_laysBest M (fun r1 M1 => ∃ n3, fMd_start_46  R n3 0 (mu (mu (mu (mu (mu (mu (mu (mu M1 0 43 1) 0 44 0) 0 45 0) 0 46 0) 0 48 0) 0 49 0) 0 50 0) 0 52 0))
def fMd_pops (M : Mem) (R : Int → Mem → Prop) : Prop := (inb (wrap ((M 0 48) - 1)) 16 ∧ R (M 27 (wrap ((M 0 48) - 1))) (mu M 0 48 (wrap ((M 0 48) - 1))))
def fMd_pushes (x1 : Int) (M : Mem) (R : Int → Mem → Prop) : Prop := (inb (M 0 48) 16 ∧ R 0 (mu (mu M 27 (M 0 48) x1) 0 48 (wrap ((M 0 48) + 1))))
def fMd_reckons_38 (R : Int → Mem → Prop) (t0 : Int) (M : Mem) : Prop := fMd_pushes t0 M (fun r3 M3 => R 0 M3)
def fMd_reckons (x1 : Int) (M : Mem) (R : Int → Mem → Prop) : Prop := fMd_pops M (fun r1 M1 => fMd_pops M1 (fun r2 M2 => ((x1 ≠ 43 → ((x1 ≠ 45 → fMd_reckons_38  R (wrap (r2 * r1)) M2) ∧ (x1 = 45 → fMd_reckons_38  R (wrap (r2 - r1)) M2))) ∧ (x1 = 43 → fMd_reckons_38  R (wrap (r2 + r1)) M2))))
def fMd_rolls_17 (R : Int → Mem → Prop) : Nat → Int → Int → Mem → Prop
  | 0 => fun _ _ _ => False
  | n + 1 => fun x3 x4 M => (((M 0 48) ≤ (wrap (x4 + 1)) → (inb (wrap ((M 0 48) - 1)) 16 ∧ R 0 (mu M 27 (wrap ((M 0 48) - 1)) x3))) ∧ (¬ (M 0 48) ≤ (wrap (x4 + 1)) → (inb (wrap (x4 + 1)) 16 ∧ (inb x4 16 ∧ (fMd_rolls_17 R n) x3 (wrap (x4 + 1)) (mu M 27 x4 (M 27 (wrap (x4 + 1))))))))
def fMd_rolls (x1 : Int) (M : Mem) (R : Int → Mem → Prop) : Prop := (inb (wrap ((M 0 48) - x1)) 16 ∧ ∃ n1, fMd_rolls_17  R n1 (M 27 (wrap ((M 0 48) - x1))) (wrap ((M 0 48) - x1)) M)
def fMd_does_137 (R : Int → Mem → Prop) (x2 : Int) (M : Mem) : Prop := fMd_reckons x2 M (fun r1 M1 => R 0 M1)
def fMd_does (x1 : Int) (M : Mem) (R : Int → Mem → Prop) : Prop := (inb x1 24 ∧ (((M 3 x1) = 42 ∨ (M 3 x1) = 43 ∨ (M 3 x1) = 45 → fMd_does_137  R (M 3 x1) M) ∧ ((M 3 x1) = 98 → fMd_pops M (fun r2 M2 => ((r2 ≠ 0 → R 0 M2) ∧ (r2 = 0 → R 1 M2)))) ∧ ((M 3 x1) = 100 → (inb (wrap ((M 0 48) - 1)) 16 ∧ fMd_pushes (M 27 (wrap ((M 0 48) - 1))) M (fun r3 M3 => R 0 M3))) ∧ ((M 3 x1) = 103 → (inb x1 24 ∧ (inb (M 4 x1) 4 ∧ fMd_pushes (M 29 (M 4 x1)) M (fun r4 M4 => R 0 M4)))) ∧ ((M 3 x1) = 110 → (inb x1 24 ∧ fMd_pushes (M 4 x1) M (fun r5 M5 => R 0 M5))) ∧ ((M 3 x1) = 111 → (inb (wrap ((M 0 48) - 2)) 16 ∧ fMd_pushes (M 27 (wrap ((M 0 48) - 2))) M (fun r6 M6 => R 0 M6))) ∧ ((M 3 x1) = 112 → fMd_pops M (fun r7 M7 => R 0 M7)) ∧ ((M 3 x1) = 114 → fMd_rolls 3 M (fun r8 M8 => R 0 M8)) ∧ ((M 3 x1) = 115 → (inb x1 24 ∧ fMd_pops M (fun r9 M9 => (inb (M 4 x1) 4 ∧ R 0 (mu M9 29 (M 4 x1) r9))))) ∧ ((M 3 x1) = 119 → fMd_pops M (fun r10 M10 => (inb (M 0 52) 16 ∧ R 0 (mu (mu M10 28 (M 0 52) r10) 0 52 (wrap ((M10 0 52) + 1)))))) ∧ ((M 3 x1) = 120 → fMd_rolls 2 M (fun r11 M11 => R 0 M11)) ∧ ((M 3 x1) ≠ 42 ∧ (M 3 x1) ≠ 43 ∧ (M 3 x1) ≠ 45 ∧ (M 3 x1) ≠ 98 ∧ (M 3 x1) ≠ 100 ∧ (M 3 x1) ≠ 103 ∧ (M 3 x1) ≠ 110 ∧ (M 3 x1) ≠ 111 ∧ (M 3 x1) ≠ 112 ∧ (M 3 x1) ≠ 114 ∧ (M 3 x1) ≠ 115 ∧ (M 3 x1) ≠ 119 ∧ (M 3 x1) ≠ 120 → (((M 3 x1) ≠ 106 → R 0 M) ∧ ((M 3 x1) = 106 → R 1 M)))))
def fMd_stepsOnce_167 (R : Int → Mem → Prop) (t0 : Int) (M : Mem) : Prop := R 0 (mu M 0 46 t0)
def fMd_stepsOnce_146 (R : Int → Mem → Prop) (x2 : Int) (M : Mem) : Prop := (((M 0 44) = 0 → (inb (M 0 45) 24 ∧ fMd_stepsOnce_167  R (M 21 (M 0 45)) M)) ∧ (¬ (M 0 44) = 0 → fMd_stepsOnce_167  R x2 M))
def fMd_stepsOnce_108 (R : Int → Mem → Prop) (x2 t0 : Int) (M : Mem) : Prop := ((t0 = 0 ∨ t0 = 1) ∧ ((t0 ≠ 0 → fMd_stepsOnce_146  R x2 (mu M 0 44 t0)) ∧ (t0 = 0 → (inb (M 0 45) 24 ∧ (inb (wrap ((wrap (16 * x2)) + (M 21 (M 0 45)))) 256 ∧ fMd_stepsOnce_146  R x2 (mu (mu M 0 44 t0) 0 49 (wrap ((M 0 49) + (M 18 (wrap ((wrap (16 * x2)) + (M 21 (M 0 45)))))))))))))
def fMd_stepsOnce_83 (R : Int → Mem → Prop) (x2 t0 t1 : Int) (M : Mem) : Prop := fMd_goesOn_l t1 t0 (M 0 3) M (fun r3 M3 => ((r3 ≠ (-4) → fMd_stepsOnce_108  R x2 0 (mu M3 0 45 r3)) ∧ (r3 = (-4) → fMd_stepsOnce_108  R x2 1 (mu M3 0 45 r3))))
def fMd_stepsOnce (M : Mem) (R : Int → Mem → Prop) : Prop := (inb (M 0 45) 24 ∧ fMd_hasVersion (M 3 (M 0 45)) (M 0 46) M (fun r1 M1 => (inb (M 0 45) 24 ∧ (inb (M 0 45) 24 ∧ fMd_does (M 0 45) (mu (mu (mu M1 0 49 (wrap ((M1 0 49) + (M1 0 24)))) 0 50 (wrap ((M1 0 50) + 1))) 30 (M 0 45) (wrap ((M1 30 (M 0 45)) + 1))) (fun r2 M2 => ((r2 = 0 → fMd_stepsOnce_83  R (M1 0 23) 0 (M 0 45) M2) ∧ (¬ r2 = 0 → fMd_stepsOnce_83  R (M1 0 23) 1 (M 0 45) M2)))))))
def fMd_step_85 (k36 : Int → Int → Mem → Prop) (R : Int → Mem → Prop) (x1 x2 : Int) (M : Mem) : Prop := fMd_stepsOnce M (fun r3 M3 => k36 x1 (wrap (x2 + 1)) M3)
def fMd_step_36 (R : Int → Mem → Prop) : Nat → Int → Int → Mem → Prop
  | 0 => fun _ _ _ => False
  | n + 1 => fun x1 x2 M => ((x1 ≤ x2 → R x2 M) ∧ (¬ x1 ≤ x2 → (((M 0 44) ≠ 0 → R x2 M) ∧ ((M 0 44) = 0 → (inb (M 0 45) 24 ∧ (((M 3 (M 0 45)) ≠ 119 → fMd_step_85 (fMd_step_36 R n) R x1 x2 M) ∧ ((M 3 (M 0 45)) = 119 → (((M 0 52) ≠ 16 → fMd_step_85 (fMd_step_36 R n) R x1 x2 M) ∧ ((M 0 52) = 16 → (fMd_step_36 R n) x1 x2 (mu (mu M 0 44 1) 0 45 (-4)))))))))))
def fMd_step (x1 : Int) (M : Mem) (R : Int → Mem → Prop) : Prop := fMd_in x1 1 500 M (fun r1 M1 => ((r1 ≠ 0 → (((M1 0 43) = 0 → R (-2) M1) ∧ (¬ (M1 0 43) = 0 → (((M1 0 44) = 0 → fMd_laysStates M1 (fun r2 M2 => ∃ n4, fMd_step_36  R n4 x1 0 M2)) ∧ (¬ (M1 0 44) = 0 → R (-2) M1))))) ∧ (r1 = 0 → R (-1) M1)))
def fMd_now (x1 : Int) (M : Mem) (R : Int → Mem → Prop) : Prop := fMd_in x1 0 5 M (fun r1 M1 => ((r1 ≠ 0 → (((M1 0 43) ≠ 0 → ((x1 = 0 → R (M1 0 45) M1) ∧ (x1 = 1 → R (M1 0 46) M1) ∧ (x1 = 2 → R (M1 0 48) M1) ∧ (x1 = 3 → R (M1 0 49) M1) ∧ (x1 = 4 → R (M1 0 50) M1) ∧ (x1 < 0 ∨ 4 < x1 → R (M1 0 52) M1))) ∧ ((M1 0 43) = 0 → R (-2) M1))) ∧ (r1 = 0 → R (-1) M1)))
def fMd_modulo (x0 : Int) (M : Mem) (R : Int → Mem → Prop) : Prop := ((0 ≤ (b_irem x0 1000000000) → R (b_irem x0 1000000000) M) ∧ (¬ 0 ≤ (b_irem x0 1000000000) → R (wrap ((b_irem x0 1000000000) + 1000000000)) M))
def fMd_cell (x1 : Int) (M : Mem) (R : Int → Mem → Prop) : Prop := ((0 ≤ x1 → (((M 0 43) ≠ 0 → (((M 0 48) ≤ x1 → R (-4) M) ∧ (¬ (M 0 48) ≤ x1 → (inb (wrap ((wrap ((M 0 48) - 1)) - x1)) 16 ∧ fMd_modulo (M 27 (wrap ((wrap ((M 0 48) - 1)) - x1))) M (fun r1 M1 => R r1 M1))))) ∧ ((M 0 43) = 0 → R (-2) M))) ∧ (¬ 0 ≤ x1 → R (-1) M))
def fMd_register_34 (R : Int → Mem → Prop) : Nat → Int → Int → Mem → Prop
  | 0 => fun _ _ _ => False
  | n + 1 => fun x1 x2 M => (inb (M 0 46) 16 ∧ (((M 15 (M 0 46)) ≤ x2 → R (-4) M) ∧ (¬ (M 15 (M 0 46)) ≤ x2 → (inb (wrap ((wrap (3 * (M 0 46))) + x2)) 48 ∧ (((M 16 (wrap ((wrap (3 * (M 0 46))) + x2))) ≠ x1 → (fMd_register_34 R n) x1 (wrap (x2 + 1)) M) ∧ ((M 16 (wrap ((wrap (3 * (M 0 46))) + x2))) = x1 → (inb (wrap ((wrap ((M 0 48) - 1)) - x2)) 16 ∧ fMd_modulo (M 27 (wrap ((wrap ((M 0 48) - 1)) - x2))) M (fun r3 M3 => R r3 M3))))))))
def fMd_register (x1 : Int) (M : Mem) (R : Int → Mem → Prop) : Prop := fMd_in x1 0 (wrap ((M 1 0) - 1)) M (fun r1 M1 => ((r1 ≠ 0 → (((M1 0 43) ≠ 0 → fMd_laysStates M1 (fun r2 M2 => ∃ n4, fMd_register_34  R n4 x1 0 M2)) ∧ ((M1 0 43) = 0 → R (-2) M1))) ∧ (r1 = 0 → R (-1) M1)))
def fMd_memory (x1 : Int) (M : Mem) (R : Int → Mem → Prop) : Prop := ((0 ≤ x1 → (((M 0 43) ≠ 0 → fMd_laysStates M (fun r1 M1 => (inb (M1 0 46) 16 ∧ (((wrap ((M1 0 48) - (M1 15 (M1 0 46)))) ≤ x1 → R (-4) M1) ∧ (¬ (wrap ((M1 0 48) - (M1 15 (M1 0 46)))) ≤ x1 → (inb x1 16 ∧ fMd_modulo (M1 27 x1) M1 (fun r2 M2 => R r2 M2))))))) ∧ ((M 0 43) = 0 → R (-2) M))) ∧ (¬ 0 ≤ x1 → R (-1) M))
def fMd_variable (x1 : Int) (M : Mem) (R : Int → Mem → Prop) : Prop := fMd_in x1 0 3 M (fun r1 M1 => ((r1 ≠ 0 → (((M1 0 43) = 0 → R (-2) M1) ∧ (¬ (M1 0 43) = 0 → (inb x1 4 ∧ fMd_modulo (M1 29 x1) M1 (fun r2 M2 => R r2 M2))))) ∧ (r1 = 0 → R (-1) M1)))
def fMd_out (x1 : Int) (M : Mem) (R : Int → Mem → Prop) : Prop := ((0 ≤ x1 → (((M 0 43) ≠ 0 → (((M 0 52) ≤ x1 → R (-4) M) ∧ (¬ (M 0 52) ≤ x1 → (inb x1 16 ∧ fMd_modulo (M 28 x1) M (fun r1 M1 => R r1 M1))))) ∧ ((M 0 43) = 0 → R (-2) M))) ∧ (¬ 0 ≤ x1 → R (-1) M))
def fMd_went (x1 : Int) (M : Mem) (R : Int → Mem → Prop) : Prop := fMd_isCode x1 M (fun r1 M1 => ((r1 ≠ 0 → (((M1 0 43) = 0 → R (-2) M1) ∧ (¬ (M1 0 43) = 0 → (inb x1 24 ∧ R (M1 30 x1) M1)))) ∧ (r1 = 0 → R (-1) M1)))
def fMd_count_65 (R : Int → Mem → Prop) (x1 : Int) (M : Mem) : Prop := (inb (wrap (x1 - 1)) 28 ∧ R (M 1 (wrap (x1 - 1))) M)
def fMd_count_101 (k76 : Int → Int → Mem → Prop) (R : Int → Mem → Prop) (x3 t0 t1 : Int) (M : Mem) : Prop := k76 (wrap (t1 + t0)) (wrap (x3 + 1)) M
def fMd_count_76 (R : Int → Mem → Prop) : Nat → Int → Int → Mem → Prop
  | 0 => fun _ _ _ => False
  | n + 1 => fun x2 x3 M => (((M 0 3) ≤ x3 → R x2 M) ∧ (¬ (M 0 3) ≤ x3 → (inb x3 24 ∧ (((M 5 x3) ≠ (-4) → fMd_count_101 (fMd_count_76 R n) R x3 1 x2 M) ∧ ((M 5 x3) = (-4) → fMd_count_101 (fMd_count_76 R n) R x3 0 x2 M)))))
def fMd_count_113 (R : Int → Mem → Prop) : Nat → Int → Int → Mem → Prop
  | 0 => fun _ _ _ => False
  | n + 1 => fun x2 x3 M => (((M 0 3) ≤ x3 → R x2 M) ∧ (¬ (M 0 3) ≤ x3 → (inb x3 24 ∧ (fMd_count_113 R n) (wrap (x2 + (M 6 x3))) (wrap (x3 + 1)) M)))
def fMd_count (x1 : Int) (M : Mem) (R : Int → Mem → Prop) : Prop := ((x1 = 0 → R (M 0 3) M) ∧ (x1 = 1 ∨ x1 = 2 ∨ x1 = 3 ∨ x1 = 4 → fMd_count_65  R x1 M) ∧ (x1 = 5 → ∃ n1, fMd_count_76  R n1 0 0 M) ∧ (x1 = 6 → ∃ n2, fMd_count_113  R n2 0 0 M) ∧ (x1 = 7 → R (M 0 2) M) ∧ (x1 = 8 → R (M 0 9) M) ∧ (x1 = 9 → R (M 0 16) M) ∧ (x1 = 10 → (((M 0 43) = 0 → R 0 M) ∧ (¬ (M 0 43) = 0 → R 1 M))) ∧ (x1 < 0 ∨ 10 < x1 → R (-1) M))
