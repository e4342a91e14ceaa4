/-! THE ABSTRACT LAYER: ints as Int (wrapped), cells by number, memory as a function; AW: the machine at a pc with abstract locals, stack and memory comes to Q. -/
abbrev AV : Type := Int ⊕ Nat
abbrev Mem : Type := Nat → Int → Int
abbrev Sh : Type := (Nat × Nat) ⊕ (Nat × List (Option Nat))
abbrev EE : Type := Program × Launch × Env × Room × State × MethodId × Array Value × List Frame × Method × Code × (State → Prop) × (Nat → Nat) × (Nat → ClassId) × va_G × Nat × Nat
def inR (z : Int) : Prop := -2147483648 ≤ z ∧ z < 2147483648
def wrap (z : Int) : Int := (Int32.ofInt z).toInt
theorem wrap_eq (z : Int) : wrap z = (z + 2147483648) % 4294967296 - 2147483648 := by
  unfold wrap
  rw [Int32.toInt_ofInt]
  unfold Int.bmod
  have h : ((Int32.size : Nat) : Int) = 4294967296 := by decide
  rw [h]
  dsimp only; split <;> omega
theorem wrap_inR (z : Int) : inR (wrap z) := by rw [wrap_eq]; unfold inR; omega
theorem wrap_id {z : Int} (h : inR z) : wrap z = z := by rw [wrap_eq]; unfold inR at h; omega
theorem ofInt_wrap (z : Int) : Int32.ofInt (wrap z) = Int32.ofInt z := by unfold wrap; exact Int32.ofInt_toInt _
theorem tio {z : Int} (h : inR z) : (Int32.ofInt z).toInt = z := wrap_id h
theorem of_add (x y : Int) : Int32.ofInt x + Int32.ofInt y = Int32.ofInt (wrap (x + y)) := by rw [ofInt_wrap, Int32.ofInt_add]
theorem of_sub (x y : Int) : Int32.ofInt x - Int32.ofInt y = Int32.ofInt (wrap (x - y)) := by rw [ofInt_wrap, Int32.ofInt_sub]
theorem of_mul (x y : Int) : Int32.ofInt x * Int32.ofInt y = Int32.ofInt (wrap (x * y)) := by rw [ofInt_wrap, Int32.ofInt_mul]
theorem of_lt {x y : Int} (hx : inR x) (hy : inR y) : Int32.ofInt x < Int32.ofInt y ↔ x < y := by rw [Int32.lt_iff_toInt_lt, tio hx, tio hy]
theorem of_le {x y : Int} (hx : inR x) (hy : inR y) : Int32.ofInt x ≤ Int32.ofInt y ↔ x ≤ y := by rw [Int32.le_iff_toInt_le, tio hx, tio hy]
theorem of_eq {x y : Int} (hx : inR x) (hy : inR y) : Int32.ofInt x = Int32.ofInt y ↔ x = y := by
  constructor
  · intro h
    have := congrArg Int32.toInt h
    rwa [tio hx, tio hy] at this
  · intro h; rw [h]
theorem of_clamp {z : Int} (h : inR z) : (Int32.ofInt z).toNatClampNeg = z.toNat := by
  show (Int32.ofInt z).toInt.toNat = z.toNat
  rw [tio h]
def inb (i : Int) (n : Nat) : Prop := 0 ≤ i ∧ i < n
theorem vp_in_of_inb {i : Int} {n : Nat} (hr : inR i) (h : inb i n) : vp_in (Int32.ofInt i) n := by
  rw [vp_in_iff, tio hr]; exact h
def mu (M : Mem) (c : Nat) (i v : Int) : Mem := fun d j => if d = c ∧ j = i then v else M d j
def rM (M : Mem) : Prop := ∀ c i, inR (M c i)
def rV : AV → Prop
  | .inl z => inR z
  | .inr _ => True
def rS (st : List AV) : Prop := ∀ v ∈ st, rV v
def rL (lv : List (Option AV)) : Prop := ∀ v, some v ∈ lv → rV v
theorem rM_mu {M : Mem} {c : Nat} {i v : Int} (h : rM M) (hv : inR v) : rM (mu M c i v) := by
  intro d j; unfold mu; split
  · exact hv
  · exact h d j
def cv (ad : Nat → Nat) : AV → Value
  | .inl z => .int (Int32.ofInt z)
  | .inr c => .ref (ad c)
theorem cv_cat (ad : Nat → Nat) (v : AV) : (cv ad v).category = 1 := by cases v <;> rfl
def sF (ad : Nat → Nat) (M : Mem) (c : Nat) (j : Nat) : Option Nat → Value
  | none => .int (Int32.ofInt (M c j))
  | some d => .ref (ad d)
def sE (ad : Nat → Nat) (cA : Nat → ClassId) (M : Mem) (c : Nat) : Sh → va_E
  | .inl (t, n) => .inl (cA t, n, .inl (fun i => Int32.ofInt (M c i)))
  | .inr (ci, fs) => .inr (ci, fs.mapIdx (sF ad M c))
def sW (sh : List Sh) (ad : Nat → Nat) (cA : Nat → ClassId) (M : Mem) : va_W := sh.mapIdx (fun c s => (ad c, sE ad cA M c s))
theorem sW_at {sh : List Sh} {ad : Nat → Nat} {cA : Nat → ClassId} {M : Mem} {c : Nat} {x : Sh} (h : sh[c]? = some x) : (sW sh ad cA M)[c]? = some (ad c, sE ad cA M c x) := by
  unfold sW; rw [List.getElem?_mapIdx, h]; rfl
theorem sW_inv {sh : List Sh} {ad : Nat → Nat} {cA : Nat → ClassId} {M : Mem} {k : Nat} {q : Nat × va_E} (h : (sW sh ad cA M)[k]? = some q) : ∃ x, sh[k]? = some x ∧ q = (ad k, sE ad cA M k x) := by
  unfold sW at h; rw [List.getElem?_mapIdx] at h
  cases hx : sh[k]? with
  | none => rw [hx] at h; cases h
  | some x => rw [hx] at h; exact ⟨x, rfl, (Option.some.inj h).symm⟩
def Ap (sh : List Sh) (ad : Nat → Nat) : Prop := ∀ i j, i < sh.length → j < sh.length → ad i = ad j → i = j
def aS (sh : List Sh) (ad : Nat → Nat) : Nat → Prop := fun q => ∃ k, k < sh.length ∧ q = ad k
theorem sW_D {sh : List Sh} {ad : Nat → Nat} {cA : Nat → ClassId} {M : Mem} (h : Ap sh ad) : va_D (aS sh ad) (sW sh ad cA M) := by
  refine ⟨fun i j p q hi hj e => ?_, fun k q hk => ?_⟩
  · obtain ⟨x, h1, rfl⟩ := sW_inv hi
    obtain ⟨y, h2, rfl⟩ := sW_inv hj
    exact h i j (List.getElem?_eq_some_iff.mp h1).1 (List.getElem?_eq_some_iff.mp h2).1 e
  · obtain ⟨x, h1, rfl⟩ := sW_inv hk
    exact ⟨k, (List.getElem?_eq_some_iff.mp h1).1, rfl⟩
theorem sE_off {ad : Nat → Nat} {cA : Nat → ClassId} {M : Mem} {c d : Nat} {i v : Int} {x : Sh} (h : d ≠ c) : sE ad cA (mu M c i v) d x = sE ad cA M d x := by
  have hm : ∀ j, mu M c i v d j = M d j := fun j => by unfold mu; rw [if_neg (fun q => h q.1)]
  rcases x with ⟨t, n⟩ | ⟨ci, fs⟩
  · show Sum.inl _ = Sum.inl _
    simp only [hm]
  · show Sum.inr _ = Sum.inr _
    have : sF ad (mu M c i v) d = sF ad M d := by funext j o; cases o <;> simp [sF, hm]
    rw [this]
/-- an array's store -/
theorem sW_arr {sh : List Sh} {ad : Nat → Nat} {cA : Nat → ClassId} {M : Mem} {c t n : Nat} {i v : Int} (h : sh[c]? = some (.inl (t, n))) (hi : 0 ≤ i) :
    (sW sh ad cA M).set c (ad c, .inl (cA t, n, .inl (upd (fun i => Int32.ofInt (M c i)) i.toNat (Int32.ofInt v)))) = sW sh ad cA (mu M c i v) := by
  apply List.ext_getElem?
  intro k
  have hl : c < (sW sh ad cA M).length := by unfold sW; rw [List.length_mapIdx]; exact (List.getElem?_eq_some_iff.mp h).1
  by_cases hk : k = c
  · subst hk
    rw [List.getElem?_set_self hl, sW_at h]
    refine congrArg some (congrArg (Prod.mk (ad k)) ?_)
    show Sum.inl _ = Sum.inl _
    refine congrArg Sum.inl (congrArg (Prod.mk (cA t)) (congrArg (Prod.mk n) (congrArg Sum.inl ?_)))
    funext j
    by_cases hj : j = i.toNat
    · subst hj
      rw [pk_us]
      have : ((i.toNat : Nat) : Int) = i := Int.toNat_of_nonneg hi
      rw [this]; unfold mu; rw [if_pos ⟨rfl, rfl⟩]
    · rw [pk_un hj]; unfold mu; rw [if_neg (fun q => hj (by omega))]
  · rw [List.getElem?_set_ne (Ne.symm hk)]
    cases hx : sh[k]? with
    | none => unfold sW; rw [List.getElem?_mapIdx, List.getElem?_mapIdx, hx]; rfl
    | some x => rw [sW_at hx, sW_at hx, sE_off hk]
/-- a field's store -/
theorem sW_fld {sh : List Sh} {ad : Nat → Nat} {cA : Nat → ClassId} {M : Mem} {c ci k0 : Nat} {fs : List (Option Nat)} {v : Int} (h : sh[c]? = some (.inr (ci, fs))) (hk0 : fs[k0]? = some none) :
    (sW sh ad cA M).set c (ad c, .inr (ci, (fs.mapIdx (sF ad M c)).set k0 (.int (Int32.ofInt v)))) = sW sh ad cA (mu M c k0 v) := by
  apply List.ext_getElem?
  intro k
  have hl : c < (sW sh ad cA M).length := by unfold sW; rw [List.length_mapIdx]; exact (List.getElem?_eq_some_iff.mp h).1
  by_cases hk : k = c
  · subst hk
    rw [List.getElem?_set_self hl, sW_at h]
    refine congrArg some (congrArg (Prod.mk (ad k)) ?_)
    show Sum.inr _ = Sum.inr _
    refine congrArg Sum.inr (congrArg (Prod.mk ci) ?_)
    apply List.ext_getElem?
    intro j
    have hl2 : k0 < (fs.mapIdx (sF ad M k)).length := by rw [List.length_mapIdx]; exact (List.getElem?_eq_some_iff.mp hk0).1
    by_cases hj : j = k0
    · subst hj
      rw [List.getElem?_set_self hl2, List.getElem?_mapIdx, hk0]
      show some _ = some (sF ad _ k j none)
      unfold sF mu; rw [if_pos ⟨rfl, rfl⟩]
    · rw [List.getElem?_set_ne (Ne.symm hj), List.getElem?_mapIdx, List.getElem?_mapIdx]
      cases fs[j]? with
      | none => rfl
      | some o =>
        show some _ = some _
        cases o with
        | none => unfold sF mu; rw [if_neg (fun q => hj (by omega))]
        | some d => rfl
  · rw [List.getElem?_set_ne (Ne.symm hk)]
    cases hx : sh[k]? with
    | none => unfold sW; rw [List.getElem?_mapIdx, List.getElem?_mapIdx, hx]; rfl
    | some x => rw [sW_at hx, sW_at hx, sE_off hk]
/-! locals -/
def lvl (ad : Nat → Nat) : Nat → List (Option AV) → List (Nat × Value)
  | _, [] => []
  | n, none :: t => lvl ad (n + 1) t
  | n, some v :: t => (n, cv ad v) :: lvl ad (n + 1) t
theorem lvl_mem {ad : Nat → Nat} {q : Nat × Value} : ∀ (lv : List (Option AV)) (n : Nat), q ∈ lvl ad n lv ↔ ∃ (j : Nat) (w : AV), q = (n + j, cv ad w) ∧ lv[j]? = some (some w) := by
  intro lv
  induction lv with
  | nil => intro n; simp [lvl]
  | cons o t ih =>
    intro n
    have step : (∃ (j : Nat) (w : AV), q = (n + 1 + j, cv ad w) ∧ t[j]? = some (some w)) ↔ ∃ (j : Nat) (w : AV), q = (n + (j + 1), cv ad w) ∧ (o :: t)[j + 1]? = some (some w) := by
      constructor
      · rintro ⟨j, w, h1, h2⟩; exact ⟨j, w, by rw [h1]; congr 1; omega, by simpa using h2⟩
      · rintro ⟨j, w, h1, h2⟩; exact ⟨j, w, by rw [h1]; congr 1; omega, by simpa using h2⟩
    cases o with
    | none =>
      show q ∈ lvl ad (n + 1) t ↔ _
      rw [ih (n + 1), step]
      constructor
      · rintro ⟨j, w, h⟩; exact ⟨j + 1, w, h⟩
      · rintro ⟨j, w, h1, h2⟩
        cases j with
        | zero => simp at h2
        | succ j => exact ⟨j, w, h1, h2⟩
    | some v =>
      show q ∈ (n, cv ad v) :: lvl ad (n + 1) t ↔ _
      rw [List.mem_cons, ih (n + 1), step]
      constructor
      · rintro (h | ⟨j, w, h⟩)
        · exact ⟨0, v, h, rfl⟩
        · exact ⟨j + 1, w, h⟩
      · rintro ⟨j, w, h1, h2⟩
        cases j with
        | zero =>
          have hw : v = w := by simpa using h2
          subst hw
          exact Or.inl h1
        | succ j => exact Or.inr ⟨j, w, h1, h2⟩
def LH (ad : Nat → Nat) (ls : Array Slot) (nL : Nat) (lv : List (Option AV)) : Prop := lv_has ls nL (lvl ad 0 lv)
theorem LH.at {ad : Nat → Nat} {ls : Array Slot} {nL : Nat} {lv : List (Option AV)} (h : LH ad ls nL lv) {k : Nat} {v : AV} (hk : lv[k]? = some (some v)) : ls[k]? = some (.val (cv ad v)) :=
  h.2.2 (k, cv ad v) ((lvl_mem lv 0).mpr ⟨k, v, by rw [Nat.zero_add], hk⟩)
theorem LH.put {ad : Nat → Nat} {ls : Array Slot} {nL k : Nat} {lv : List (Option AV)} {v : AV} (h : lv_has ls nL ((k, cv ad v) :: (lvl ad 0 lv).filter (fun q => !(q.1 == k) && !(q.1 + 1 == k && q.2.category == 2)))) : LH ad ls nL (lv.set k (some v)) := by
  refine ⟨h.1, h.2.1, fun q hq => ?_⟩
  obtain ⟨j, w, rfl, hj⟩ := (lvl_mem _ 0).mp hq
  rw [Nat.zero_add]
  by_cases hjk : j = k
  · subst hjk
    have hl : j < lv.length := by
      have := (List.getElem?_eq_some_iff.mp hj).1
      simpa using this
    rw [List.getElem?_set_self hl] at hj
    cases hj
    exact h.2.2 _ List.mem_cons_self
  · rw [List.getElem?_set_ne (Ne.symm hjk)] at hj
    refine h.2.2 (j, cv ad w) (List.mem_cons_of_mem _ (List.mem_filter.mpr ⟨(lvl_mem lv 0).mpr ⟨j, w, by rw [Nat.zero_add], hj⟩, ?_⟩))
    have hc : (cv ad w).category = 1 := cv_cat ad w
    simp [hjk, hc]
theorem rL_set {lv : List (Option AV)} {k : Nat} {v : AV} (h : rL lv) (hv : rV v) : rL (lv.set k (some v)) := by
  intro w hw
  rcases List.mem_or_eq_of_mem_set hw with h1 | h1
  · exact h w h1
  · cases h1; exact hv
theorem rL_at {lv : List (Option AV)} {k : Nat} {v : AV} (h : rL lv) (hk : lv[k]? = some (some v)) : rV v := h v (List.mem_of_getElem? hk)
theorem rS_cons {v : AV} {st : List AV} : rS (v :: st) ↔ rV v ∧ rS st := by
  constructor
  · intro h; exact ⟨h v List.mem_cons_self, fun w hw => h w (List.mem_cons_of_mem _ hw)⟩
  · rintro ⟨h1, h2⟩ w hw
    rcases List.mem_cons.mp hw with rfl | hw
    · exact h1
    · exact h2 w hw
