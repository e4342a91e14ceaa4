/-! the words that all contracts share; what is read only; contracts; rows of the abstract layer -/
def gT : List Cond := lw_tbl.filter goodWord
theorem gI {w : Cond} (i : Nat) (h : lw_tbl[i]? = some w) (g : goodWord w = true) : w ∈ gT := List.mem_filter.mpr ⟨List.mem_of_getElem? h, g⟩
theorem gT_good {w : Cond} (h : w ∈ gT) : (w.onTables && w.keeps) = true ∨ ∃ ty, w = .arrayClass ty := good_of_word (List.mem_filter.mp h).2
def tkL : List Int := [0, 2, 2, 2, 1, 2, 1, 2, 3, 0, 1, 0, 1, 1, 0]
def cmL : List Int := [1, 1, 1, 1, 2, 2, 0, 3, 3, 1, 0, 0, 0, 0, 0]
def dgL : List Int := [2, 0, 0, 0, 0, 0, 0, 0, 0, 1, 1, 2, 2, 0, 0]
def fpL : List Int := [110, 48, 53, 115, 48, 103, 48, 98, 49, 53, 103, 48, 110, 48, 51, 42, 100, 119, 112, 103, 48, 110, 48, 49, 45, 115, 48, 106, 48, 50, 104]
def sgL : List Int := [110, 43, 45, 42, 100, 120, 112, 111, 114, 103, 115, 106, 98, 119, 104]
/-- read-only rows by the number of their cell -/
def roL (c : Nat) : List Int := if c = 100 then tkL else if c = 101 then cmL else if c = 102 then dgL else if c = 110 then fpL else sgL
def roV (c : Nat) (i : Int) : Int := (roL c).getD i.toNat 0
def roN (c : Nat) : String := if c = 100 then "TAKES" else if c = 101 then "COMES" else "DIGITS"
def isRo (c : Nat) : Prop := c = 100 ∨ c = 101 ∨ c = 102
def tmS (i : Nat) : Term := if i = 0 then .string "StackStates" 65 else .string "StackStates" 121
def lenS : List Nat := [31, 15]
def bytS : List (List Int32) := [fpL.map Int32.ofInt, sgL.map Int32.ofInt]
def RO (ad : Nat → Nat) (A : Nat → Prop) (U : State) (H : Heap) : Prop :=
  (∀ c, isRo c → va_Z "StackStates" (roN c) "[I" (.ref (ad c)) A U H ∧ va_T .int (ad c) 15 (fun j => .int (Int32.ofInt (roV c j))) A U H) ∧
  vk_S 2 lenS bytS (fun i => ad (110 + i)) (fun i => ad (120 + i)) A U H ∧
  (vk_R "StackStates" 65 "n05s0g0b15g0n03*dwpg0n01-s0j02h" (ad 110) U ∧ vk_R "StackStates" 121 "n+-*dxporgsjbwh" (ad 111) U ∧ vk_R "StackStates$Program" 68 "n+-*dxporgsjbwh" (ad 111) U) ∧
  (va_Nw (.fieldLinkNest "StackStates$Machine" 91 "StackStates" "TAKES" "[I" "StackStates") U ∧ va_Nw (.fieldLinkNest "StackStates$Machine" 94 "StackStates" "COMES" "[I" "StackStates") U ∧
   va_Nw (.fieldLinkNest "StackStates$Program" 97 "StackStates" "TAKES" "[I" "StackStates") U ∧ va_Nw (.fieldLinkNest "StackStates$Program" 100 "StackStates" "COMES" "[I" "StackStates") U ∧ va_Nw (.fieldLinkNest "StackStates$Program" 57 "StackStates" "DIGITS" "[I" "StackStates") U) ∧
  va_Z "java/lang/String" "COMPACT_STRINGS" "Z" (.int 1) A U H ∧ va_Zq "jdk/internal/util/Preconditions" "SIOOBE_FORMATTER" "Ljava/util/function/BiFunction;" A U H
theorem RO.same {ad : Nat → Nat} {A : Nat → Prop} {u U : State} {H : Heap} (hv : U.vm = u.vm) (h : RO ad A u H) : RO ad A U H := by
  have ha : u.vm.Alike U.vm := hv ▸ Vm.Alike.refl u.vm
  obtain ⟨h1, h2, ⟨h3, h4, h5⟩, ⟨h6, h7, h8, h9, h10⟩, h11, h12⟩ := h
  exact ⟨fun c hc => ⟨(h1 c hc).1.moved ha, (h1 c hc).2.moved ha⟩, h2.moved ha, ⟨h3.same hv, h4.same hv, h5.same hv⟩, ⟨va_Nw.same rfl hv.symm h6, va_Nw.same rfl hv.symm h7, va_Nw.same rfl hv.symm h8, va_Nw.same rfl hv.symm h9, va_Nw.same rfl hv.symm h10⟩, h11.moved ha, h12.moved ha⟩
theorem RO.warm {ad : Nat → Nat} {A : Nat → Prop} {s U : State} {H : Heap} (hW : s.WarmedH U.vm) (h : RO ad A s H) : RO ad A U H := by
  have ha : s.vm.Alike U.vm := hW.alike
  obtain ⟨h1, h2, ⟨h3, h4, h5⟩, ⟨h6, h7, h8, h9, h10⟩, h11, h12⟩ := h
  exact ⟨fun c hc => ⟨(h1 c hc).1.moved ha, (h1 c hc).2.moved ha⟩, h2.moved ha, ⟨h3.warm hW, h4.warm hW, h5.warm hW⟩, ⟨va_Nw.warmF hW h6, va_Nw.warmF hW h7, va_Nw.warmF hW h8, va_Nw.warmF hW h9, va_Nw.warmF hW h10⟩, h11.moved ha, h12.moved ha⟩
theorem RO.kept {ad : Nat → Nat} {A : Nat → Prop} {U : State} {H H1 : Heap} (h : RO ad A U H) (hq : ∀ a : Nat, a < H.size → ¬ A a → H1[a]? = H[a]?) : RO ad A U H1 :=
  ⟨fun c hc => ⟨(h.1 c hc).1.kept hq, (h.1 c hc).2.kept hq⟩, h.2.1.kept hq, h.2.2.1, h.2.2.2.1, h.2.2.2.2.1.kept hq, h.2.2.2.2.2.kept hq⟩
theorem RO.narrow {ad : Nat → Nat} {A B : Nat → Prop} {U : State} {H : Heap} (h : RO ad A U H) (hAB : ∀ q, B q → A q) : RO ad B U H :=
  ⟨fun c hc => ⟨(h.1 c hc).1.narrow hAB, (h.1 c hc).2.narrow hAB⟩, h.2.1.narrow hAB, h.2.2.1, h.2.2.2.1, h.2.2.2.2.1.narrow hAB, h.2.2.2.2.2.narrow hAB⟩
def tyS (cA : Nat → ClassId) : List (ClassId × FieldType) := [(cA 0, .int), (cA 1, .boolean)]
def retV (ret : Option FieldType) (r : Int) : Option Value := match ret with
  | none => none
  | some _ => some (.int (Int32.ofInt r))
def retA (ret : Option FieldType) (r : Int) : List AV := match ret with
  | none => []
  | some _ => [.inl r]
/-- a method's start: the cells of sh hold M -/
def PX (sh : List Sh) (D : va_G) (ad : Nat → Nat) (cA : Nat → ClassId) (as : List AV) (M : Mem) : Array Value → State → Prop :=
  va_Pc (as.map (cv ad)) (fun U => va_P D vwCl (sW sh ad cA M) U.heap ∧ va_K D vwCl (tyS cA) U ∧ Ap sh ad ∧ RO ad (aS sh ad) U U.heap)
/-- a method's end -/
def QX (sh : List Sh) (D : va_G) (ad : Nat → Nat) (cA : Nat → ClassId) (ret : Option FieldType) (R' : Int → Mem → Prop) : Array Value → State → Outcome → State → Prop :=
  fun _ st oc t => ∃ (r : Int) (M' : Mem), oc = .returned (retV ret r) ∧ R' r M' ∧ inR r ∧ rM M' ∧ va_P D vwCl (sW sh ad cA M') t.heap ∧ va_F (aS sh ad) st t
/-- a contract: F is what the method does -/
def Snd (sh : List Sh) (y : MethodName) (bytes : ByteArray) (maxL : Nat) (ret : Option FieldType) (fr lo : Nat) (as : List AV) (F : Mem → (Int → Mem → Prop) → Prop) : Prop :=
  ∀ (l : Launch) (D : va_G) (ad : Nat → Nat) (cA : Nat → ClassId) (M : Mem) (R' : Int → Mem → Prop), F M R' → rM M → rS as →
    Met l y (.code y bytes maxL ret :: gT) { frames := fr, cells := 0, slots := 0, locals := lo } (PX sh D ad cA as M) (QX sh D ad cA ret R') 0 0 (aS sh ad)
def Cx (sh : List Sh) (nL : Nat) (cc : ByteArray) (own : String) (fr lo : Nat) (E : EE) : Prop := match E with
  | (p, _, _, R, s, m, args, _, meth, c, _, ad, cA, D, kc, ks) => p.tables.exec = Jvm.exec ∧ c.code = cc ∧ c.maxLocals = nL ∧ s.vm.findClass own = some m.cls ∧ (∀ w ∈ gT, w.before args s = true) ∧ va_K D vwCl (tyS cA) s ∧ Ap sh ad ∧ RO ad (aS sh ad) s s.heap ∧ meth.locks = false ∧ R = { frames := fr, cells := kc, slots := ks, locals := lo }
def Rx (sh : List Sh) (ret : Option FieldType) (R' : Int → Mem → Prop) (E : EE) : Prop := match E with
  | (_, _, _, _, s, _, args, below, meth, _, Q, ad, cA, D, kc, ks) => meth.sig.returnType = ret ∧ Q = MQ below (QX sh D ad cA ret R') args s kc ks (aS sh ad)
def AW (sh : List Sh) (nL : Nat) (E : EE) (pc : Nat) (lv : List (Option AV)) (st : List AV) (M : Mem) : Prop := match E with
  | (p, l, e, R, s, m, args, below, meth, c, Q, ad, cA, D, kc, ks) => ∀ (H : Heap) (locs : List Loc) (ls : Array Slot), va_P D vwCl (sW sh ad cA M) H → va_S (aS sh ad) s.heap H locs → LH ad ls nL lv → rM M → rL lv → rS st →
      W p l e R s m args below meth c H locs kc ks Q (F0 m pc ls (st.map (cv ad)))
def inRb (z : Int) : Bool := decide (-2147483648 ≤ z) && decide (z < 2147483648)
theorem inr_b {z : Int} (h : inRb z = true) : inR z := by
  unfold inRb at h; simp only [Bool.and_eq_true, decide_eq_true_eq] at h; exact h
def inbb (i : Int) (n : Nat) : Bool := decide (0 ≤ i) && decide (i < n)
theorem inb_b {i : Int} {n : Nat} (h : inbb i n = true) : inb i n := by
  unfold inbb at h; simp only [Bool.and_eq_true, decide_eq_true_eq] at h; exact h
section Rows
variable {sh : List Sh} {nL : Nat} {cc : ByteArray} {own : String} {fr lo : Nat} {E : EE} {pc : Nat} {lv : List (Option AV)} {st : List AV} {M : Mem}
theorem a_iconst (C : Cx sh nL cc own fr lo E) {n : Int} (hd : decode cc pc = .ok (.iconst n, 1)) (hn : inR n) (k : AW sh nL E (pc + 1) lv (.inl n :: st) M) : AW sh nL E pc lv st M := by
  obtain ⟨p, l, e, R, s, m, args, below, meth, c, Q, ad, cA, D, kc, ks⟩ := E
  obtain ⟨hx, hb, -⟩ := C
  intro H locs ls hP hS hL h1 h2 h3
  exact lv_iconst hx hb hd rfl (k H locs ls hP hS hL h1 h2 (rS_cons.mpr ⟨hn, h3⟩))
theorem a_bipush (C : Cx sh nL cc own fr lo E) {n : Int} (hd : decode cc pc = .ok (.bipush n, 2)) (hn : (Int8.ofInt n).toInt32 = Int32.ofInt n ∧ inR n) (k : AW sh nL E (pc + 2) lv (.inl n :: st) M) : AW sh nL E pc lv st M := by
  obtain ⟨p, l, e, R, s, m, args, below, meth, c, Q, ad, cA, D, kc, ks⟩ := E
  obtain ⟨hx, hb, -⟩ := C
  intro H locs ls hP hS hL h1 h2 h3
  exact lv_bipush hx hb hd hn.1 (k H locs ls hP hS hL h1 h2 (rS_cons.mpr ⟨hn.2, h3⟩))
theorem a_sipush (C : Cx sh nL cc own fr lo E) {n : Int} (hd : decode cc pc = .ok (.sipush n, 3)) (hn : (Int16.ofInt n).toInt32 = Int32.ofInt n ∧ inR n) (k : AW sh nL E (pc + 3) lv (.inl n :: st) M) : AW sh nL E pc lv st M := by
  obtain ⟨p, l, e, R, s, m, args, below, meth, c, Q, ad, cA, D, kc, ks⟩ := E
  obtain ⟨hx, hb, -⟩ := C
  intro H locs ls hP hS hL h1 h2 h3
  exact lv_sipush hx hb hd hn.1 (k H locs ls hP hS hL h1 h2 (rS_cons.mpr ⟨hn.2, h3⟩))
theorem a_ldc (C : Cx sh nL cc own fr lo E) {n : Int} {i : Nat} (hd : decode cc pc = .ok (.ldc i, 2)) (hw : Cond.constant own i (Int32.ofInt n) ∈ gT) (hn : inR n) (k : AW sh nL E (pc + 2) lv (.inl n :: st) M) : AW sh nL E pc lv st M := by
  obtain ⟨p, l, e, R, s, m, args, below, meth, c, Q, ad, cA, D, kc, ks⟩ := E
  obtain ⟨hx, hb, -, ho, ht, -⟩ := C
  intro H locs ls hP hS hL h1 h2 h3
  exact lv_ldc hx hb ho (ht _ hw) hd (k H locs ls hP hS hL h1 h2 (rS_cons.mpr ⟨hn, h3⟩))
theorem a_ldcw (C : Cx sh nL cc own fr lo E) {n : Int} {i : Nat} (hd : decode cc pc = .ok (.ldc_w i, 3)) (hw : Cond.constant own i (Int32.ofInt n) ∈ gT) (hn : inR n) (k : AW sh nL E (pc + 3) lv (.inl n :: st) M) : AW sh nL E pc lv st M := by
  obtain ⟨p, l, e, R, s, m, args, below, meth, c, Q, ad, cA, D, kc, ks⟩ := E
  obtain ⟨hx, hb, -, ho, ht, -⟩ := C
  intro H locs ls hP hS hL h1 h2 h3
  exact lv_ldcw hx hb ho (ht _ hw) hd (k H locs ls hP hS hL h1 h2 (rS_cons.mpr ⟨hn, h3⟩))
theorem a_iloadn (C : Cx sh nL cc own fr lo E) {k : Fin 4} {x : Int} (hd : decode cc pc = .ok (.iload_n k, 1)) (hl : lv[(k : Nat)]? = some (some (.inl x))) (kk : AW sh nL E (pc + 1) lv (.inl x :: st) M) : AW sh nL E pc lv st M := by
  obtain ⟨p, l, e, R, s, m, args, below, meth, c, Q, ad, cA, D, kc, ks⟩ := E
  obtain ⟨hx, hb, -⟩ := C
  intro H locs ls hP hS hL h1 h2 h3
  exact lv_iload_n hx hb hd rfl (hL.at hl) (kk H locs ls hP hS hL h1 h2 (rS_cons.mpr ⟨rL_at h2 hl, h3⟩))
theorem a_iload (C : Cx sh nL cc own fr lo E) {k : Nat} {x : Int} (hd : decode cc pc = .ok (.iload k, 2)) (hl : lv[k]? = some (some (.inl x))) (kk : AW sh nL E (pc + 2) lv (.inl x :: st) M) : AW sh nL E pc lv st M := by
  obtain ⟨p, l, e, R, s, m, args, below, meth, c, Q, ad, cA, D, kc, ks⟩ := E
  obtain ⟨hx, hb, -⟩ := C
  intro H locs ls hP hS hL h1 h2 h3
  exact lv_iload hx hb hd (hL.at hl) (kk H locs ls hP hS hL h1 h2 (rS_cons.mpr ⟨rL_at h2 hl, h3⟩))
theorem a_aloadn (C : Cx sh nL cc own fr lo E) {k : Fin 4} {x : Nat} (hd : decode cc pc = .ok (.aload_n k, 1)) (hl : lv[(k : Nat)]? = some (some (.inr x))) (kk : AW sh nL E (pc + 1) lv (.inr x :: st) M) : AW sh nL E pc lv st M := by
  obtain ⟨p, l, e, R, s, m, args, below, meth, c, Q, ad, cA, D, kc, ks⟩ := E
  obtain ⟨hx, hb, -⟩ := C
  intro H locs ls hP hS hL h1 h2 h3
  exact lv_aload_n hx hb hd rfl (hL.at hl) (kk H locs ls hP hS hL h1 h2 (rS_cons.mpr ⟨trivial, h3⟩))
theorem a_aload (C : Cx sh nL cc own fr lo E) {k : Nat} {x : Nat} (hd : decode cc pc = .ok (.aload k, 2)) (hl : lv[k]? = some (some (.inr x))) (kk : AW sh nL E (pc + 2) lv (.inr x :: st) M) : AW sh nL E pc lv st M := by
  obtain ⟨p, l, e, R, s, m, args, below, meth, c, Q, ad, cA, D, kc, ks⟩ := E
  obtain ⟨hx, hb, -⟩ := C
  intro H locs ls hP hS hL h1 h2 h3
  exact lv_aload hx hb hd (hL.at hl) (kk H locs ls hP hS hL h1 h2 (rS_cons.mpr ⟨trivial, h3⟩))
theorem a_istoren (C : Cx sh nL cc own fr lo E) {k : Fin 4} {x : Int} (hd : decode cc pc = .ok (.istore_n k, 1)) (hk : (k : Nat) < nL) {lv2 : List (Option AV)} (h2l : lv.set k (some (.inl x)) = lv2) (kk : AW sh nL E (pc + 1) lv2 st M) : AW sh nL E pc lv (.inl x :: st) M := by
  obtain ⟨p, l, e, R, s, m, args, below, meth, c, Q, ad, cA, D, kc, ks⟩ := E
  subst h2l
  obtain ⟨hx, hb, -⟩ := C
  intro H locs ls hP hS hL h1 h2 h3
  obtain ⟨h4, h5⟩ := rS_cons.mp h3
  exact lv_istore_n hx hb hd rfl hL hk rfl (fun ls' hl' => kk H locs ls' hP hS (LH.put (v := .inl x) hl') h1 (rL_set h2 h4) h5)
theorem a_istore (C : Cx sh nL cc own fr lo E) {k : Nat} {x : Int} (hd : decode cc pc = .ok (.istore k, 2)) (hk : k < nL) {lv2 : List (Option AV)} (h2l : lv.set k (some (.inl x)) = lv2) (kk : AW sh nL E (pc + 2) lv2 st M) : AW sh nL E pc lv (.inl x :: st) M := by
  obtain ⟨p, l, e, R, s, m, args, below, meth, c, Q, ad, cA, D, kc, ks⟩ := E
  subst h2l
  obtain ⟨hx, hb, -⟩ := C
  intro H locs ls hP hS hL h1 h2 h3
  obtain ⟨h4, h5⟩ := rS_cons.mp h3
  exact lv_istore hx hb hd hL hk rfl (fun ls' hl' => kk H locs ls' hP hS (LH.put (v := .inl x) hl') h1 (rL_set h2 h4) h5)
theorem a_astoren (C : Cx sh nL cc own fr lo E) {k : Fin 4} {x : Nat} (hd : decode cc pc = .ok (.astore_n k, 1)) (hk : (k : Nat) < nL) {lv2 : List (Option AV)} (h2l : lv.set k (some (.inr x)) = lv2) (kk : AW sh nL E (pc + 1) lv2 st M) : AW sh nL E pc lv (.inr x :: st) M := by
  obtain ⟨p, l, e, R, s, m, args, below, meth, c, Q, ad, cA, D, kc, ks⟩ := E
  subst h2l
  obtain ⟨hx, hb, -⟩ := C
  intro H locs ls hP hS hL h1 h2 h3
  obtain ⟨h4, h5⟩ := rS_cons.mp h3
  exact lv_astore_n hx hb hd rfl hL hk rfl (fun ls' hl' => kk H locs ls' hP hS (LH.put (v := .inr x) hl') h1 (rL_set h2 h4) h5)
theorem a_iinc (C : Cx sh nL cc own fr lo E) {k : Nat} {n x : Int} (hd : decode cc pc = .ok (.iinc k n, 3)) (hl : lv[k]? = some (some (.inl x))) (hk : k < nL) {lv2 : List (Option AV)} (h2l : lv.set k (some (.inl (wrap (x + n)))) = lv2) (kk : AW sh nL E (pc + 3) lv2 st M) : AW sh nL E pc lv st M := by
  obtain ⟨p, l, e, R, s, m, args, below, meth, c, Q, ad, cA, D, kc, ks⟩ := E
  subst h2l
  obtain ⟨hx, hb, -⟩ := C
  intro H locs ls hP hS hL h1 h2 h3
  obtain ⟨j, hj⟩ := List.getElem?_of_mem ((lvl_mem (ad := ad) (q := (k, cv ad (.inl x))) lv 0).mpr ⟨k, .inl x, by rw [Nat.zero_add], hl⟩)
  exact lv_iinc hx hb hd hL hj (of_add x n) hk rfl (fun ls' hl' => kk H locs ls' hP hS (LH.put (v := .inl (wrap (x + n))) hl') h1 (rL_set h2 (wrap_inR _)) h3)
theorem a_iadd (C : Cx sh nL cc own fr lo E) {x y : Int} (hd : decode cc pc = .ok (.iadd, 1)) (kk : AW sh nL E (pc + 1) lv (.inl (wrap (x + y)) :: st) M) : AW sh nL E pc lv (.inl y :: .inl x :: st) M := by
  obtain ⟨p, l, e, R, s, m, args, below, meth, c, Q, ad, cA, D, kc, ks⟩ := E
  obtain ⟨hx, hb, -⟩ := C
  intro H locs ls hP hS hL h1 h2 h3
  refine lv_iadd hx hb hd ?_
  rw [of_add]
  exact kk H locs ls hP hS hL h1 h2 (rS_cons.mpr ⟨wrap_inR _, (rS_cons.mp (rS_cons.mp h3).2).2⟩)
theorem a_isub (C : Cx sh nL cc own fr lo E) {x y : Int} (hd : decode cc pc = .ok (.isub, 1)) (kk : AW sh nL E (pc + 1) lv (.inl (wrap (x - y)) :: st) M) : AW sh nL E pc lv (.inl y :: .inl x :: st) M := by
  obtain ⟨p, l, e, R, s, m, args, below, meth, c, Q, ad, cA, D, kc, ks⟩ := E
  obtain ⟨hx, hb, -⟩ := C
  intro H locs ls hP hS hL h1 h2 h3
  refine lv_isub hx hb hd ?_
  rw [of_sub]
  exact kk H locs ls hP hS hL h1 h2 (rS_cons.mpr ⟨wrap_inR _, (rS_cons.mp (rS_cons.mp h3).2).2⟩)
theorem a_imul (C : Cx sh nL cc own fr lo E) {x y : Int} (hd : decode cc pc = .ok (.imul, 1)) (kk : AW sh nL E (pc + 1) lv (.inl (wrap (x * y)) :: st) M) : AW sh nL E pc lv (.inl y :: .inl x :: st) M := by
  obtain ⟨p, l, e, R, s, m, args, below, meth, c, Q, ad, cA, D, kc, ks⟩ := E
  obtain ⟨hx, hb, -⟩ := C
  intro H locs ls hP hS hL h1 h2 h3
  refine lv_imul hx hb hd ?_
  rw [of_mul]
  exact kk H locs ls hP hS hL h1 h2 (rS_cons.mpr ⟨wrap_inR _, (rS_cons.mp (rS_cons.mp h3).2).2⟩)
theorem toInt_inR (x : Int32) : inR x.toInt := by have := wrap_inR x.toInt; rwa [wrap, Int32.ofInt_toInt] at this
def b_iand (x y : Int) : Int := (Int32.ofInt x &&& Int32.ofInt y).toInt
theorem a_iand (C : Cx sh nL cc own fr lo E) {x y : Int} (hd : decode cc pc = .ok (.iand, 1)) (kk : AW sh nL E (pc + 1) lv (.inl (b_iand x y) :: st) M) : AW sh nL E pc lv (.inl y :: .inl x :: st) M := by
  obtain ⟨p, l, e, R, s, m, args, below, meth, c, Q, ad, cA, D, kc, ks⟩ := E
  obtain ⟨hx, hb, -⟩ := C
  intro H locs ls hP hS hL h1 h2 h3
  refine lv_iand hx hb hd ?_
  have h := kk H locs ls hP hS hL h1 h2 (rS_cons.mpr ⟨toInt_inR _, (rS_cons.mp (rS_cons.mp h3).2).2⟩)
  simp only [List.map_cons, cv, b_iand, Int32.ofInt_toInt] at h
  exact h
def b_ior (x y : Int) : Int := (Int32.ofInt x ||| Int32.ofInt y).toInt
theorem a_ior (C : Cx sh nL cc own fr lo E) {x y : Int} (hd : decode cc pc = .ok (.ior, 1)) (kk : AW sh nL E (pc + 1) lv (.inl (b_ior x y) :: st) M) : AW sh nL E pc lv (.inl y :: .inl x :: st) M := by
  obtain ⟨p, l, e, R, s, m, args, below, meth, c, Q, ad, cA, D, kc, ks⟩ := E
  obtain ⟨hx, hb, -⟩ := C
  intro H locs ls hP hS hL h1 h2 h3
  refine lv_ior hx hb hd ?_
  have h := kk H locs ls hP hS hL h1 h2 (rS_cons.mpr ⟨toInt_inR _, (rS_cons.mp (rS_cons.mp h3).2).2⟩)
  simp only [List.map_cons, cv, b_ior, Int32.ofInt_toInt] at h
  exact h
def b_ixor (x y : Int) : Int := (Int32.ofInt x ^^^ Int32.ofInt y).toInt
theorem a_ixor (C : Cx sh nL cc own fr lo E) {x y : Int} (hd : decode cc pc = .ok (.ixor, 1)) (kk : AW sh nL E (pc + 1) lv (.inl (b_ixor x y) :: st) M) : AW sh nL E pc lv (.inl y :: .inl x :: st) M := by
  obtain ⟨p, l, e, R, s, m, args, below, meth, c, Q, ad, cA, D, kc, ks⟩ := E
  obtain ⟨hx, hb, -⟩ := C
  intro H locs ls hP hS hL h1 h2 h3
  refine lv_ixor hx hb hd ?_
  have h := kk H locs ls hP hS hL h1 h2 (rS_cons.mpr ⟨toInt_inR _, (rS_cons.mp (rS_cons.mp h3).2).2⟩)
  simp only [List.map_cons, cv, b_ixor, Int32.ofInt_toInt] at h
  exact h
def b_ishl (x y : Int) : Int := (Int32.ofInt x <<< (Int32.ofInt y &&& 31)).toInt
theorem a_ishl (C : Cx sh nL cc own fr lo E) {x y : Int} (hd : decode cc pc = .ok (.ishl, 1)) (kk : AW sh nL E (pc + 1) lv (.inl (b_ishl x y) :: st) M) : AW sh nL E pc lv (.inl y :: .inl x :: st) M := by
  obtain ⟨p, l, e, R, s, m, args, below, meth, c, Q, ad, cA, D, kc, ks⟩ := E
  obtain ⟨hx, hb, -⟩ := C
  intro H locs ls hP hS hL h1 h2 h3
  refine lv_ishl hx hb hd ?_
  have h := kk H locs ls hP hS hL h1 h2 (rS_cons.mpr ⟨toInt_inR _, (rS_cons.mp (rS_cons.mp h3).2).2⟩)
  simp only [List.map_cons, cv, b_ishl, Int32.ofInt_toInt] at h
  exact h
def b_ishr (x y : Int) : Int := (Int32.ofInt x >>> (Int32.ofInt y &&& 31)).toInt
theorem a_ishr (C : Cx sh nL cc own fr lo E) {x y : Int} (hd : decode cc pc = .ok (.ishr, 1)) (kk : AW sh nL E (pc + 1) lv (.inl (b_ishr x y) :: st) M) : AW sh nL E pc lv (.inl y :: .inl x :: st) M := by
  obtain ⟨p, l, e, R, s, m, args, below, meth, c, Q, ad, cA, D, kc, ks⟩ := E
  obtain ⟨hx, hb, -⟩ := C
  intro H locs ls hP hS hL h1 h2 h3
  refine lv_ishr hx hb hd ?_
  have h := kk H locs ls hP hS hL h1 h2 (rS_cons.mpr ⟨toInt_inR _, (rS_cons.mp (rS_cons.mp h3).2).2⟩)
  simp only [List.map_cons, cv, b_ishr, Int32.ofInt_toInt] at h
  exact h
def b_idiv (x y : Int) : Int := (Int32.ofInt x / Int32.ofInt y).toInt
theorem a_idiv (C : Cx sh nL cc own fr lo E) {x y : Int} (hd : decode cc pc = .ok (.idiv, 1)) (hy : y ≠ 0) (kk : AW sh nL E (pc + 1) lv (.inl (b_idiv x y) :: st) M) : AW sh nL E pc lv (.inl y :: .inl x :: st) M := by
  obtain ⟨p, l, e, R, s, m, args, below, meth, c, Q, ad, cA, D, kc, ks⟩ := E
  obtain ⟨hx, hb, -⟩ := C
  intro H locs ls hP hS hL h1 h2 h3
  have hy0 : ¬ Int32.ofInt y = 0 := fun q => hy ((of_eq (y := 0) (rS_cons.mp h3).1 (by unfold inR; omega)).mp q)
  refine lv_idiv hx hb hd hy0 ?_
  have h := kk H locs ls hP hS hL h1 h2 (rS_cons.mpr ⟨toInt_inR _, (rS_cons.mp (rS_cons.mp h3).2).2⟩)
  simp only [List.map_cons, cv, b_idiv, Int32.ofInt_toInt] at h
  exact h
def b_irem (x y : Int) : Int := (Int32.ofInt x - Int32.ofInt x / Int32.ofInt y * Int32.ofInt y).toInt
theorem a_irem (C : Cx sh nL cc own fr lo E) {x y : Int} (hd : decode cc pc = .ok (.irem, 1)) (hy : y ≠ 0) (kk : AW sh nL E (pc + 1) lv (.inl (b_irem x y) :: st) M) : AW sh nL E pc lv (.inl y :: .inl x :: st) M := by
  obtain ⟨p, l, e, R, s, m, args, below, meth, c, Q, ad, cA, D, kc, ks⟩ := E
  obtain ⟨hx, hb, -⟩ := C
  intro H locs ls hP hS hL h1 h2 h3
  have hy0 : ¬ Int32.ofInt y = 0 := fun q => hy ((of_eq (y := 0) (rS_cons.mp h3).1 (by unfold inR; omega)).mp q)
  refine lv_irem hx hb hd hy0 ?_
  have h := kk H locs ls hP hS hL h1 h2 (rS_cons.mpr ⟨toInt_inR _, (rS_cons.mp (rS_cons.mp h3).2).2⟩)
  simp only [List.map_cons, cv, b_irem, Int32.ofInt_toInt] at h
  exact h
def b_i2c (x : Int) : Int := ((Int32.ofInt x).toUInt32 % 65536).toInt32.toInt
theorem a_i2c (C : Cx sh nL cc own fr lo E) {x : Int} (hd : decode cc pc = .ok (.i2c, 1)) (kk : AW sh nL E (pc + 1) lv (.inl (b_i2c x) :: st) M) : AW sh nL E pc lv (.inl x :: st) M := by
  obtain ⟨p, l, e, R, s, m, args, below, meth, c, Q, ad, cA, D, kc, ks⟩ := E
  obtain ⟨hx, hb, -⟩ := C
  intro H locs ls hP hS hL h1 h2 h3
  refine lv_i2c hx hb hd rfl ?_
  have h := kk H locs ls hP hS hL h1 h2 (rS_cons.mpr ⟨toInt_inR _, (rS_cons.mp h3).2⟩)
  simp only [List.map_cons, cv, b_i2c, Int32.ofInt_toInt] at h
  exact h
theorem a_dup (C : Cx sh nL cc own fr lo E) {va : AV} (hd : decode cc pc = .ok (.dup, 1)) (kk : AW sh nL E (pc + 1) lv (va :: va :: st) M) : AW sh nL E pc lv (va :: st) M := by
  obtain ⟨p, l, e, R, s, m, args, below, meth, c, Q, ad, cA, D, kc, ks⟩ := E
  obtain ⟨hx, hb, -⟩ := C
  intro H locs ls hP hS hL h1 h2 h3
  obtain ⟨g0, h3⟩ := rS_cons.mp h3
  exact lv_dup hx hb hd (cv_cat ad _) (kk H locs ls hP hS hL h1 h2 (rS_cons.mpr ⟨g0, (rS_cons.mpr ⟨g0, h3⟩)⟩))
theorem a_pop (C : Cx sh nL cc own fr lo E) {va : AV} (hd : decode cc pc = .ok (.pop, 1)) (kk : AW sh nL E (pc + 1) lv (st) M) : AW sh nL E pc lv (va :: st) M := by
  obtain ⟨p, l, e, R, s, m, args, below, meth, c, Q, ad, cA, D, kc, ks⟩ := E
  obtain ⟨hx, hb, -⟩ := C
  intro H locs ls hP hS hL h1 h2 h3
  obtain ⟨g0, h3⟩ := rS_cons.mp h3
  exact lv_pop hx hb hd (cv_cat ad _) (kk H locs ls hP hS hL h1 h2 h3)
theorem a_dup_x1 (C : Cx sh nL cc own fr lo E) {va vb : AV} (hd : decode cc pc = .ok (.dup_x1, 1)) (kk : AW sh nL E (pc + 1) lv (va :: vb :: va :: st) M) : AW sh nL E pc lv (va :: vb :: st) M := by
  obtain ⟨p, l, e, R, s, m, args, below, meth, c, Q, ad, cA, D, kc, ks⟩ := E
  obtain ⟨hx, hb, -⟩ := C
  intro H locs ls hP hS hL h1 h2 h3
  obtain ⟨g0, h3⟩ := rS_cons.mp h3
  obtain ⟨g1, h3⟩ := rS_cons.mp h3
  exact lv_dup_x1 hx hb hd (cv_cat ad _) (cv_cat ad _) (kk H locs ls hP hS hL h1 h2 (rS_cons.mpr ⟨g0, (rS_cons.mpr ⟨g1, (rS_cons.mpr ⟨g0, h3⟩)⟩)⟩))
theorem a_dup_x2 (C : Cx sh nL cc own fr lo E) {va vb vd : AV} (hd : decode cc pc = .ok (.dup_x2, 1)) (kk : AW sh nL E (pc + 1) lv (va :: vb :: vd :: va :: st) M) : AW sh nL E pc lv (va :: vb :: vd :: st) M := by
  obtain ⟨p, l, e, R, s, m, args, below, meth, c, Q, ad, cA, D, kc, ks⟩ := E
  obtain ⟨hx, hb, -⟩ := C
  intro H locs ls hP hS hL h1 h2 h3
  obtain ⟨g0, h3⟩ := rS_cons.mp h3
  obtain ⟨g1, h3⟩ := rS_cons.mp h3
  obtain ⟨g2, h3⟩ := rS_cons.mp h3
  exact lv_dup_x2 hx hb hd (cv_cat ad _) (cv_cat ad _) (cv_cat ad _) (kk H locs ls hP hS hL h1 h2 (rS_cons.mpr ⟨g0, (rS_cons.mpr ⟨g1, (rS_cons.mpr ⟨g2, (rS_cons.mpr ⟨g0, h3⟩)⟩)⟩)⟩))
theorem a_dup2 (C : Cx sh nL cc own fr lo E) {va vb : AV} (hd : decode cc pc = .ok (.dup2, 1)) (kk : AW sh nL E (pc + 1) lv (va :: vb :: va :: vb :: st) M) : AW sh nL E pc lv (va :: vb :: st) M := by
  obtain ⟨p, l, e, R, s, m, args, below, meth, c, Q, ad, cA, D, kc, ks⟩ := E
  obtain ⟨hx, hb, -⟩ := C
  intro H locs ls hP hS hL h1 h2 h3
  obtain ⟨g0, h3⟩ := rS_cons.mp h3
  obtain ⟨g1, h3⟩ := rS_cons.mp h3
  exact lv_dup2_11 hx hb hd (cv_cat ad _) (cv_cat ad _) (kk H locs ls hP hS hL h1 h2 (rS_cons.mpr ⟨g0, (rS_cons.mpr ⟨g1, (rS_cons.mpr ⟨g0, (rS_cons.mpr ⟨g1, h3⟩)⟩)⟩)⟩))
theorem a_if_eq (C : Cx sh nL cc own fr lo E) {x : Int} {off : Int} (tgt : Nat) (hd : decode cc pc = .ok (.ifCond .eq off, 3)) (ht : (pc : Int) + off = (tgt : Int)) (kt : (x = 0) → AW sh nL E tgt lv st M) (kf : ¬ (x = 0) → AW sh nL E (pc + 3) lv st M) : AW sh nL E pc lv (.inl x :: st) M := by
  obtain ⟨p, l, e, R, s, m, args, below, meth, c, Q, ad, cA, D, kc, ks⟩ := E
  obtain ⟨hx, hb, -⟩ := C
  intro H locs ls hP hS hL h1 h2 h3
  obtain ⟨gx, h3⟩ := rS_cons.mp h3
  have gy : inR 0 := by unfold inR; omega
  have hi := (of_eq (x := x) (y := 0) gx gy)
  exact lv_if_eq hx hb hd ht (fun q => kt (hi.mp q) H locs ls hP hS hL h1 h2 h3) (fun q => kf (fun z => q (hi.mpr z)) H locs ls hP hS hL h1 h2 h3)
theorem a_icmp_eq (C : Cx sh nL cc own fr lo E) {x y : Int} {off : Int} (tgt : Nat) (hd : decode cc pc = .ok (.if_icmp .eq off, 3)) (ht : (pc : Int) + off = (tgt : Int)) (kt : (x = y) → AW sh nL E tgt lv st M) (kf : ¬ (x = y) → AW sh nL E (pc + 3) lv st M) : AW sh nL E pc lv (.inl y :: .inl x :: st) M := by
  obtain ⟨p, l, e, R, s, m, args, below, meth, c, Q, ad, cA, D, kc, ks⟩ := E
  obtain ⟨hx, hb, -⟩ := C
  intro H locs ls hP hS hL h1 h2 h3
  obtain ⟨gy, h3⟩ := rS_cons.mp h3
  obtain ⟨gx, h3⟩ := rS_cons.mp h3
  have hi := (of_eq (x := x) (y := y) gx gy)
  exact lv_icmp_eq hx hb hd ht (fun q => kt (hi.mp q) H locs ls hP hS hL h1 h2 h3) (fun q => kf (fun z => q (hi.mpr z)) H locs ls hP hS hL h1 h2 h3)
theorem a_if_ne (C : Cx sh nL cc own fr lo E) {x : Int} {off : Int} (tgt : Nat) (hd : decode cc pc = .ok (.ifCond .ne off, 3)) (ht : (pc : Int) + off = (tgt : Int)) (kt : (x ≠ 0) → AW sh nL E tgt lv st M) (kf : (x = 0) → AW sh nL E (pc + 3) lv st M) : AW sh nL E pc lv (.inl x :: st) M := by
  obtain ⟨p, l, e, R, s, m, args, below, meth, c, Q, ad, cA, D, kc, ks⟩ := E
  obtain ⟨hx, hb, -⟩ := C
  intro H locs ls hP hS hL h1 h2 h3
  obtain ⟨gx, h3⟩ := rS_cons.mp h3
  have gy : inR 0 := by unfold inR; omega
  have hi := (of_eq (x := x) (y := 0) gx gy)
  exact lv_if_ne hx hb hd ht (fun q => kt (fun z => q (hi.mpr z)) H locs ls hP hS hL h1 h2 h3) (fun q => kf (hi.mp q) H locs ls hP hS hL h1 h2 h3)
theorem a_icmp_ne (C : Cx sh nL cc own fr lo E) {x y : Int} {off : Int} (tgt : Nat) (hd : decode cc pc = .ok (.if_icmp .ne off, 3)) (ht : (pc : Int) + off = (tgt : Int)) (kt : (x ≠ y) → AW sh nL E tgt lv st M) (kf : (x = y) → AW sh nL E (pc + 3) lv st M) : AW sh nL E pc lv (.inl y :: .inl x :: st) M := by
  obtain ⟨p, l, e, R, s, m, args, below, meth, c, Q, ad, cA, D, kc, ks⟩ := E
  obtain ⟨hx, hb, -⟩ := C
  intro H locs ls hP hS hL h1 h2 h3
  obtain ⟨gy, h3⟩ := rS_cons.mp h3
  obtain ⟨gx, h3⟩ := rS_cons.mp h3
  have hi := (of_eq (x := x) (y := y) gx gy)
  exact lv_icmp_ne hx hb hd ht (fun q => kt (fun z => q (hi.mpr z)) H locs ls hP hS hL h1 h2 h3) (fun q => kf (hi.mp q) H locs ls hP hS hL h1 h2 h3)
theorem a_if_lt (C : Cx sh nL cc own fr lo E) {x : Int} {off : Int} (tgt : Nat) (hd : decode cc pc = .ok (.ifCond .lt off, 3)) (ht : (pc : Int) + off = (tgt : Int)) (kt : (x < 0) → AW sh nL E tgt lv st M) (kf : ¬ (x < 0) → AW sh nL E (pc + 3) lv st M) : AW sh nL E pc lv (.inl x :: st) M := by
  obtain ⟨p, l, e, R, s, m, args, below, meth, c, Q, ad, cA, D, kc, ks⟩ := E
  obtain ⟨hx, hb, -⟩ := C
  intro H locs ls hP hS hL h1 h2 h3
  obtain ⟨gx, h3⟩ := rS_cons.mp h3
  have gy : inR 0 := by unfold inR; omega
  have hi := (of_lt (x := x) (y := 0) gx gy)
  exact lv_if_lt hx hb hd ht (fun q => kt (hi.mp q) H locs ls hP hS hL h1 h2 h3) (fun q => kf (fun z => q (hi.mpr z)) H locs ls hP hS hL h1 h2 h3)
theorem a_icmp_lt (C : Cx sh nL cc own fr lo E) {x y : Int} {off : Int} (tgt : Nat) (hd : decode cc pc = .ok (.if_icmp .lt off, 3)) (ht : (pc : Int) + off = (tgt : Int)) (kt : (x < y) → AW sh nL E tgt lv st M) (kf : ¬ (x < y) → AW sh nL E (pc + 3) lv st M) : AW sh nL E pc lv (.inl y :: .inl x :: st) M := by
  obtain ⟨p, l, e, R, s, m, args, below, meth, c, Q, ad, cA, D, kc, ks⟩ := E
  obtain ⟨hx, hb, -⟩ := C
  intro H locs ls hP hS hL h1 h2 h3
  obtain ⟨gy, h3⟩ := rS_cons.mp h3
  obtain ⟨gx, h3⟩ := rS_cons.mp h3
  have hi := (of_lt (x := x) (y := y) gx gy)
  exact lv_icmp_lt hx hb hd ht (fun q => kt (hi.mp q) H locs ls hP hS hL h1 h2 h3) (fun q => kf (fun z => q (hi.mpr z)) H locs ls hP hS hL h1 h2 h3)
theorem a_if_ge (C : Cx sh nL cc own fr lo E) {x : Int} {off : Int} (tgt : Nat) (hd : decode cc pc = .ok (.ifCond .ge off, 3)) (ht : (pc : Int) + off = (tgt : Int)) (kt : (0 ≤ x) → AW sh nL E tgt lv st M) (kf : ¬ (0 ≤ x) → AW sh nL E (pc + 3) lv st M) : AW sh nL E pc lv (.inl x :: st) M := by
  obtain ⟨p, l, e, R, s, m, args, below, meth, c, Q, ad, cA, D, kc, ks⟩ := E
  obtain ⟨hx, hb, -⟩ := C
  intro H locs ls hP hS hL h1 h2 h3
  obtain ⟨gx, h3⟩ := rS_cons.mp h3
  have gy : inR 0 := by unfold inR; omega
  have hi := (of_le (x := 0) (y := x) gy gx)
  exact lv_if_ge hx hb hd ht (fun q => kt (hi.mp q) H locs ls hP hS hL h1 h2 h3) (fun q => kf (fun z => q (hi.mpr z)) H locs ls hP hS hL h1 h2 h3)
theorem a_icmp_ge (C : Cx sh nL cc own fr lo E) {x y : Int} {off : Int} (tgt : Nat) (hd : decode cc pc = .ok (.if_icmp .ge off, 3)) (ht : (pc : Int) + off = (tgt : Int)) (kt : (y ≤ x) → AW sh nL E tgt lv st M) (kf : ¬ (y ≤ x) → AW sh nL E (pc + 3) lv st M) : AW sh nL E pc lv (.inl y :: .inl x :: st) M := by
  obtain ⟨p, l, e, R, s, m, args, below, meth, c, Q, ad, cA, D, kc, ks⟩ := E
  obtain ⟨hx, hb, -⟩ := C
  intro H locs ls hP hS hL h1 h2 h3
  obtain ⟨gy, h3⟩ := rS_cons.mp h3
  obtain ⟨gx, h3⟩ := rS_cons.mp h3
  have hi := (of_le (x := y) (y := x) gy gx)
  exact lv_icmp_ge hx hb hd ht (fun q => kt (hi.mp q) H locs ls hP hS hL h1 h2 h3) (fun q => kf (fun z => q (hi.mpr z)) H locs ls hP hS hL h1 h2 h3)
theorem a_if_gt (C : Cx sh nL cc own fr lo E) {x : Int} {off : Int} (tgt : Nat) (hd : decode cc pc = .ok (.ifCond .gt off, 3)) (ht : (pc : Int) + off = (tgt : Int)) (kt : (0 < x) → AW sh nL E tgt lv st M) (kf : ¬ (0 < x) → AW sh nL E (pc + 3) lv st M) : AW sh nL E pc lv (.inl x :: st) M := by
  obtain ⟨p, l, e, R, s, m, args, below, meth, c, Q, ad, cA, D, kc, ks⟩ := E
  obtain ⟨hx, hb, -⟩ := C
  intro H locs ls hP hS hL h1 h2 h3
  obtain ⟨gx, h3⟩ := rS_cons.mp h3
  have gy : inR 0 := by unfold inR; omega
  have hi := (of_lt (x := 0) (y := x) gy gx)
  exact lv_if_gt hx hb hd ht (fun q => kt (hi.mp q) H locs ls hP hS hL h1 h2 h3) (fun q => kf (fun z => q (hi.mpr z)) H locs ls hP hS hL h1 h2 h3)
theorem a_icmp_gt (C : Cx sh nL cc own fr lo E) {x y : Int} {off : Int} (tgt : Nat) (hd : decode cc pc = .ok (.if_icmp .gt off, 3)) (ht : (pc : Int) + off = (tgt : Int)) (kt : (y < x) → AW sh nL E tgt lv st M) (kf : ¬ (y < x) → AW sh nL E (pc + 3) lv st M) : AW sh nL E pc lv (.inl y :: .inl x :: st) M := by
  obtain ⟨p, l, e, R, s, m, args, below, meth, c, Q, ad, cA, D, kc, ks⟩ := E
  obtain ⟨hx, hb, -⟩ := C
  intro H locs ls hP hS hL h1 h2 h3
  obtain ⟨gy, h3⟩ := rS_cons.mp h3
  obtain ⟨gx, h3⟩ := rS_cons.mp h3
  have hi := (of_lt (x := y) (y := x) gy gx)
  exact lv_icmp_gt hx hb hd ht (fun q => kt (hi.mp q) H locs ls hP hS hL h1 h2 h3) (fun q => kf (fun z => q (hi.mpr z)) H locs ls hP hS hL h1 h2 h3)
theorem a_if_le (C : Cx sh nL cc own fr lo E) {x : Int} {off : Int} (tgt : Nat) (hd : decode cc pc = .ok (.ifCond .le off, 3)) (ht : (pc : Int) + off = (tgt : Int)) (kt : (x ≤ 0) → AW sh nL E tgt lv st M) (kf : ¬ (x ≤ 0) → AW sh nL E (pc + 3) lv st M) : AW sh nL E pc lv (.inl x :: st) M := by
  obtain ⟨p, l, e, R, s, m, args, below, meth, c, Q, ad, cA, D, kc, ks⟩ := E
  obtain ⟨hx, hb, -⟩ := C
  intro H locs ls hP hS hL h1 h2 h3
  obtain ⟨gx, h3⟩ := rS_cons.mp h3
  have gy : inR 0 := by unfold inR; omega
  have hi := (of_le (x := x) (y := 0) gx gy)
  exact lv_if_le hx hb hd ht (fun q => kt (hi.mp q) H locs ls hP hS hL h1 h2 h3) (fun q => kf (fun z => q (hi.mpr z)) H locs ls hP hS hL h1 h2 h3)
theorem a_icmp_le (C : Cx sh nL cc own fr lo E) {x y : Int} {off : Int} (tgt : Nat) (hd : decode cc pc = .ok (.if_icmp .le off, 3)) (ht : (pc : Int) + off = (tgt : Int)) (kt : (x ≤ y) → AW sh nL E tgt lv st M) (kf : ¬ (x ≤ y) → AW sh nL E (pc + 3) lv st M) : AW sh nL E pc lv (.inl y :: .inl x :: st) M := by
  obtain ⟨p, l, e, R, s, m, args, below, meth, c, Q, ad, cA, D, kc, ks⟩ := E
  obtain ⟨hx, hb, -⟩ := C
  intro H locs ls hP hS hL h1 h2 h3
  obtain ⟨gy, h3⟩ := rS_cons.mp h3
  obtain ⟨gx, h3⟩ := rS_cons.mp h3
  have hi := (of_le (x := x) (y := y) gx gy)
  exact lv_icmp_le hx hb hd ht (fun q => kt (hi.mp q) H locs ls hP hS hL h1 h2 h3) (fun q => kf (fun z => q (hi.mpr z)) H locs ls hP hS hL h1 h2 h3)
theorem a_goto (C : Cx sh nL cc own fr lo E) {off : Int} (tgt : Nat) (hd : decode cc pc = .ok (.goto off, 3)) (ht : (pc : Int) + off = (tgt : Int)) (kk : AW sh nL E tgt lv st M) : AW sh nL E pc lv st M := by
  obtain ⟨p, l, e, R, s, m, args, below, meth, c, Q, ad, cA, D, kc, ks⟩ := E
  obtain ⟨hx, hb, -⟩ := C
  intro H locs ls hP hS hL h1 h2 h3
  exact lv_goto hx hb hd ht (kk H locs ls hP hS hL h1 h2 h3)
end Rows
