/-! PURE WORDS: states, versions, transitions, choices -/
theorem wrapI {z : Int} (h1 : -2147483648 ≤ z) (h2 : z < 2147483648) : wrap z = z := wrap_id ⟨h1, h2⟩
theorem mu_same (M : Mem) (c : Nat) (i v : Int) : mu M c i v c i = v := by unfold mu; rw [if_pos ⟨rfl, rfl⟩]
theorem mu_cell {M : Mem} {c d : Nat} {i v j : Int} (h : d ≠ c) : mu M c i v d j = M d j := by unfold mu; rw [if_neg (fun q => h q.1)]
theorem mu_place {M : Mem} {c d : Nat} {i v j : Int} (h : j ≠ i) : mu M c i v d j = M d j := by unfold mu; rw [if_neg (fun q => h q.2)]
theorem mu_fun {M : Mem} {c d : Nat} {i v : Int} (h : d ≠ c) : mu M c i v d = M d := by funext j; exact mu_cell h
/-- the states of R registers -/
def stT (R : Int) : List (List Int) :=
  if R = 1 then [[], [0]]
  else if R = 2 then [[], [0], [1], [0, 1], [1, 0]]
  else [[], [0], [1], [2], [0, 1], [0, 2], [1, 0], [1, 2], [2, 0], [2, 1], [0, 1, 2], [0, 2, 1], [1, 0, 2], [1, 2, 0], [2, 0, 1], [2, 1, 0]]
def nS (R : Int) : Int := (stT R).length
def stQ (R s : Int) : List Int := (stT R).getD s.toNat []
def stL (R s : Int) : Int := (stQ R s).length
def stR (R s i : Int) : Int := (stQ R s).getD i.toNat (-4)
def stP (R s : Int) : Int := (stQ R s).foldr (fun r a => 4 * a + r + 1) 0
def stX (R : Int) (q : List Int) : Int := (stT R).idxOf q
def tk (k : Int) : Int := roV 100 k
def cm (k : Int) : Int := roV 101 k
def dg (k : Int) : Int := roV 102 k
def sg (k : Int) : Int := roV 111 k
/-- versions -/
def wk (R k s : Int) : Bool := decide (tk k ≤ stL R s) && decide (stL R s - tk k + cm k ≤ R)
def hasV (R k s : Int) : Bool := decide (s = 0) || wk R k s
def freeR (q : List Int) : Int := if 0 ∈ q then (if 1 ∈ q then 2 else 1) else 0
def seqA (k : Int) (q : List Int) : List Int :=
  if k = 5 then q.getD 1 0 :: q.getD 0 0 :: q.drop 2
  else if k = 8 then q.getD 2 0 :: q.getD 0 0 :: [q.getD 1 0]
  else if k = 4 ∨ k = 7 then freeR q :: q
  else if cm k = 0 then q.drop (tk k).toNat
  else freeR (q.drop (tk k).toNat) :: q.drop (tk k).toNat
def aft (R k s : Int) : Int := if wk R k s then stX R (seqA k (stQ R s)) else 0
def plainV (R k s : Int) : Bool := decide (s = 0) && decide (k ≠ 6) && !(wk R k s)
def vc (R mv ld st k s : Int) : Int := if plainV R k s then tk k * ld + cm k * st else if k = 4 ∨ k = 7 then mv else 0
/-- transitions -/
def df (r s t i : Int) : Int := if stR r s i = stR r t i then 0 else 1
def cntFrom (r s t : Int) : Nat → Int → Int
  | 0, _ => 0
  | m + 1, i => df r s t i + cntFrom r s t m (i + 1)
def keepsFrom (r s x : Int) : Nat → Int → Int
  | 0, _ => 0
  | m + 1, i => if stR r s i = x then 1 else keepsFrom r s x m (i + 1)
def roundFrom (r s t kept : Int) : Nat → Int → Int → Int
  | 0, _, f => f
  | m + 1, i, f => if stR r s i = stR r t i then roundFrom r s t kept m (i + 1) f else if keepsFrom r s (stR r t i) kept.toNat 0 = 0 then 0 else roundFrom r s t kept m (i + 1) 1
def keptN (r s t : Int) : Int := min (stL r s) (stL r t)
def unP (r ld st s t : Int) : Int := st * (stL r s - keptN r s t) + ld * (stL r t - keptN r s t)
def ndP (r s t : Int) : Int := cntFrom r s t (keptN r s t).toNat 0
def rdP (r s t : Int) : Int := roundFrom r s t (keptN r s t) (keptN r s t).toNat 0 0
def pP (r mv ld st s t : Int) : Int :=
  if rdP r s t ≠ 0 then unP r ld st s t + (if r ≤ keptN r s t then st + ld + (ndP r s t - 1) * min mv (st + ld) else min (st + ld + (ndP r s t - 1) * min mv (st + ld)) ((ndP r s t + 1) * mv))
  else unP r ld st s t + ndP r s t * min mv (st + ld)
/-- the least of g over the states below N that may be taken; FAR: none -/
def FAR : Int := 1000000000
def mnF (ok : Int → Bool) (g : Int → Int) : Nat → Int
  | 0 => FAR
  | n + 1 => if ok n && decide (g n < mnF ok g n) then g n else mnF ok g n
/-- the first at which it is taken -/
def amF (ok : Int → Bool) (g : Int → Int) : Nat → Int
  | 0 => -4
  | n + 1 => if ok n && decide (g n < mnF ok g n) then n else amF ok g n
def fallsK (n i k : Int) : Bool := decide (k ≠ 11) && decide (k ≠ 14) && decide (i + 1 < n)
def leadsK (k : Int) : Bool := decide (k = 11) || decide (k = 12)
def sumT (f : Int → Int) : Nat → Int
  | 0 => 0
  | j + 1 => sumT f j + f j
