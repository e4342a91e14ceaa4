/-! THE CLAIM OUT OF ONE WALK OF THE LAW'S BODY. Your part is whole_start (and what it stands on); all else here is the same for every law, but numbers. -/
def R_law : String := "StackStatesLaw"
def lw_P (b : Addr) (xs : List Int32) (args : Array Value) (s : State) : Prop := args = #[.ref b] ∧ s.IntsAt b xs ∧ xs.length ≤ 2048 ∧ (Jvm.Cond.and given_1 narrow_1).before args s = true
def lw_Q (_ : Array Value) (s : State) (o : Outcome) (t : State) : Prop := o = .returned (some (.int 1)) ∧ Framed s o t [] 76 7275
def lw_Z (below : List Frame) (a : Array Value) (s : State) : State → Prop := fun t => ∃ o, t.status = .running ∧ Ended t below o ∧ lw_Q a s o t
/-- the law's own end, with 1 on the stack, nothing written that was there before, its room as the claim has it -/
theorem lw_ret {p : Program} {l : Launch} {e : Env} {s : State} {m : MethodId} {below : List Frame} {meth : Method} {c : Code} {b : Nat} (hx : p.tables.exec = Jvm.exec) (hb : c.code = code) (hr : meth.sig.returnType = ret) (hlocks : meth.locks = false) {pc : Nat} {H : Heap} {ls : Array Slot} (hdg : decode code pc = .ok (.ireturn, 1)) : W p l e room_1 s m #[Value.ref b] below meth c H [] 76 7275 (lw_Z below #[Value.ref b] s) (F0 m pc ls [.int 1]) := by
  intro T hT X
  obtain ⟨fs, hret, hrun, hended, hW, hframe⟩ := X.leave (v := some (.int 1)) (hlocks := hlocks) (fun h => by rw [hr] at h; cases h)
  have hmeth' : T.vm.method? m = some meth := X.method'
  refine ⟨T.setFrames fs, ?_, .returned (some (.int 1)), hrun, hended, rfl, ⟨_, rfl⟩, hW, hframe⟩
  jvm_step X.here [X.here.top, hx, hb, hdg, hmeth', hr, ret, narrow_b1]
  (try refine ⟨rfl, ?_⟩); (try refine ⟨rfl, ?_⟩)
  first | (intro acts; rw [hret _ acts rfl rfl rfl]) | rw [hret _ _ rfl rfl rfl]
  exact Steps.refl _
/-- what holds at the law's entry: the machine, the code, the tables' words (any of lw_tbl by 'hts w (by decide +kernel)'), the script of L ints xs at the cell b, what the Statement gives of the start (any of its parts by flat_of_before) -/
def lw_At (p : Program) (s : State) (m : MethodId) (meth : Method) (c : Code) (b L : Nat) (xs : Nat → Int32) : Prop :=
  p.tables.exec = Jvm.exec ∧ c.code = code ∧ meth.sig.returnType = ret ∧ c.maxLocals = 4 ∧ s.vm.findClass R_law = some m.cls ∧ (∀ w ∈ lw_tbl, w.before #[Value.ref b] s = true) ∧ va_X b L xs s s.heap ∧ b < s.heap.size ∧ meth.locks = false ∧ (Jvm.Cond.and given_1 narrow_1).before #[Value.ref b] s = true
/-! the law's rows: both worlds side by side -/
abbrev EL : Type := Program × Launch × Env × State × MethodId × List Frame × Method × Code × Nat × Nat × (Nat → Int32) × va_G × (Nat → ClassId) × (Nat → Nat) × (Nat → Nat)
def LWo (sh : List Sh) (ad : Nat → Nat) (s : State) : Prop := Ap sh ad ∧ RO ad (aS sh ad) s s.heap ∧ ∀ q, aS sh ad q → s.heap.size ≤ q
def LC (E : EL) : Prop := match E with
  | (p, _, _, s, m, _, meth, c, b, L, xs, D, cA, adx, adm) => p.tables.exec = Jvm.exec ∧ c.code = code ∧ meth.sig.returnType = ret ∧ c.maxLocals = 4 ∧ s.vm.findClass R_law = some m.cls ∧ (∀ w ∈ gT, w.before #[Value.ref b] s = true) ∧ va_X b L xs s s.heap ∧ b < s.heap.size ∧ meth.locks = false ∧ va_K D vwCl (tyS cA) s ∧ LWo shX adx s ∧ LWo shM adm s ∧ (∀ q, aS shX adx q → aS shM adm q → False) ∧ L ≤ 2048
def LW (E : EL) (pc : Nat) (i : Int) (st : List Value) (X Y : Mem) : Prop := match E with
  | (p, l, e, s, m, below, meth, c, b, _, _, D, cA, adx, adm) => ∀ (H : Heap) (ls : Array Slot), va_P D vwCl (sW shX adx cA X) H → va_P D vwCl (sW shM adm cA Y) H → (s.heap.size ≤ H.size ∧ ∀ q : Nat, q < s.heap.size → H[q]? = s.heap[q]?) → lv_has ls 4 [(0, .ref b), (1, .ref (adx 0)), (2, .ref (adm 0)), (3, .int (Int32.ofInt i))] → rM X → rM Y → W p l e room_1 s m #[Value.ref b] below meth c H [] 76 7275 (lw_Z below #[Value.ref b] s) (F0 m pc ls st)
def elB (E : EL) : Nat := E.2.2.2.2.2.2.2.2.1
def elL (E : EL) : Nat := E.2.2.2.2.2.2.2.2.2.1
def elV (E : EL) (i : Int) : Int := (E.2.2.2.2.2.2.2.2.2.2.1 i.toNat).toInt
def elX (E : EL) : Nat → Nat := E.2.2.2.2.2.2.2.2.2.2.2.2.2.1
def elM (E : EL) : Nat → Nat := E.2.2.2.2.2.2.2.2.2.2.2.2.2.2
theorem inR_toInt (x : Int32) : inR x.toInt := by
  have h : Int32.ofInt x.toInt = x := Int32.ofInt_toInt x
  have := wrap_inR x.toInt
  unfold wrap at this
  rw [h] at this
  exact this
theorem elV_in {E : EL} (i : Int) : inR (elV E i) := inR_toInt _
section LR
variable {E : EL} {pc : Nat} {i : Int} {st : List Value} {X Y : Mem}
theorem l_al1 (C : LC E) (hd : decode code pc = .ok (.aload_n 1, 1)) (k : LW E (pc + 1) i (.ref (elX E 0) :: st) X Y) : LW E pc i st X Y := by
  obtain ⟨p, l, e, s, m, below, meth, c, b, L, xs, D, cA, adx, adm⟩ := E
  obtain ⟨hx, hb, -⟩ := C
  intro H ls h1 h2 h3 h4 h5 h6
  exact lv_aload_n hx hb hd rfl (lv_at h4 1 rfl) (k H ls h1 h2 h3 h4 h5 h6)
theorem l_al2 (C : LC E) (hd : decode code pc = .ok (.aload_n 2, 1)) (k : LW E (pc + 1) i (.ref (elM E 0) :: st) X Y) : LW E pc i st X Y := by
  obtain ⟨p, l, e, s, m, below, meth, c, b, L, xs, D, cA, adx, adm⟩ := E
  obtain ⟨hx, hb, -⟩ := C
  intro H ls h1 h2 h3 h4 h5 h6
  exact lv_aload_n hx hb hd rfl (lv_at h4 2 rfl) (k H ls h1 h2 h3 h4 h5 h6)
/-- script[i + k] -/
theorem l_arg (C : LC E) (k : Nat) (hi : 0 ≤ i ∧ i + k < elL E) (d0 : decode code pc = .ok (.aload_n 0, 1)) (d1 : decode code (pc + 1) = .ok (.iload_n 3, 1)) (d2 : decode code (pc + 1 + 1) = .ok (.iconst k, 1)) (d3 : decode code (pc + 1 + 1 + 1) = .ok (.iadd, 1)) (d4 : decode code (pc + 1 + 1 + 1 + 1) = .ok (.iaload, 1)) (kk : LW E (pc + 1 + 1 + 1 + 1 + 1) i (.int (Int32.ofInt (elV E (i + k))) :: st) X Y) : LW E pc i st X Y := by
  obtain ⟨p, l, e, s, m, below, meth, c, b, L, xs, D, cA, adx, adm⟩ := E
  obtain ⟨hx, hb, hr, hml, ho, ht, hX, hbl, hlk, hK, hwx, hwm, hdis, hL⟩ := C
  have hi : 0 ≤ i ∧ i + k < (L : Int) := hi
  have hin : inR (i + k) := by unfold inR; omega
  intro H ls h1 h2 h3 h4 h5 h6
  refine lv_aload_n hx hb d0 rfl (lv_at h4 0 rfl) ?_
  refine lv_iload_n hx hb d1 rfl (lv_at h4 3 rfl) ?_
  refine lv_iconst hx hb d2 rfl ?_
  refine lv_iadd hx hb d3 ?_
  rw [of_add, wrap_id hin]
  refine va_sld (A := fun q => s.heap.size ≤ q) hx hb hX hbl (Nat.not_le.mpr hbl) ⟨h3.1, fun q q1 _ => h3.2 q q1, fun q hq => absurd hq List.not_mem_nil⟩ (vp_in_of_inb hin ⟨by omega, hi.2⟩) d4 ?_
  rw [of_clamp hin, show xs (i + k).toNat = Int32.ofInt (xs (i + k).toNat).toInt from (Int32.ofInt_toInt _).symm]
  exact kk H ls h1 h2 h3 h4 h5 h6
end LR
section Calls
variable {p : Program} {l : Launch} {e : Env} {R : Room} {s : State} {m : MethodId} {args : Array Value} {below : List Frame} {meth : Method} {c : Code} {H : Heap} {Q : State → Prop} {kc ks : Nat}
theorem l_run {sh : List Sh} {D : va_G} {ad : Nat → Nat} {cA : Nat → ClassId} {ret : Option FieldType} {Rr : Int → Mem → Prop} {a : Array Value} {pc : Nat} {ls : Array Slot} {st0 rest : List Value}
    (hr : va_Run p l e R s m args below meth c H [] kc ks 0 0 (F0 m pc ls st0) rest (QX sh D ad cA ret Rr a) (aS sh ad)) (hf : ∀ q, aS sh ad q → s.heap.size ≤ q)
    (kk : ∀ (r : Int) (M' : Mem) (H1 : Heap), Rr r M' → inR r → rM M' → va_P D vwCl (sW sh ad cA M') H1 → H.size ≤ H1.size → (∀ q : Nat, q < H.size → ¬ aS sh ad q → H1[q]? = H[q]?) → W p l e R s m args below meth c H1 [] kc ks Q (F0 m (pc + 3) ls ((retV ret r).toList ++ rest))) : W p l e R s m args below meth c H [] kc ks Q (F0 m pc ls st0) := by
  intro T hT X
  obtain ⟨v, st₀, t, T', L, h0, X', hL, e1, e2, ⟨r, M', hv, hp, hr1, hr2, hw, hz, hk⟩, st⟩ := hr T hT X
  cases hv
  rw [h0] at hz hk
  obtain ⟨t2, a1, b1⟩ := kk r M' t.heap hp hr1 hr2 hw hz hk T' e1 (Stand.forget X' (fun q hq => hf _ (hL q hq)))
  exact ⟨t2, st t2 a1, b1⟩
end Calls
theorem l_keep {sh sh2 : List Sh} {ad ad2 : Nat → Nat} {D : va_G} {cA : Nat → ClassId} {M2 : Mem} {H H1 : Heap} (hP : va_P D vwCl (sW sh2 ad2 cA M2) H) (hk : ∀ q : Nat, q < H.size → ¬ aS sh ad q → H1[q]? = H[q]?) (hdis : ∀ q, aS sh ad q → aS sh2 ad2 q → False) : va_P D vwCl (sW sh2 ad2 cA M2) H1 := hP.kept (fun k q hq => by
  refine hk q.1 (hP k q hq).lt (fun z => hdis _ z ?_)
  obtain ⟨x, g1, rfl⟩ := sW_inv hq
  exact ⟨k, (List.getElem?_eq_some_iff.mp g1).1, rfl⟩)
section LR
variable {E : EL} {pc : Nat} {i : Int} {st : List Value} {X Y : Mem}
theorem l_callX (C : LC E) {y : MethodName} {bytes : ByteArray} {maxL n j f2 l2 : Nat} {F : Mem → (Int → Mem → Prop) → Prop} (as : List AV) (rest : List Value) (hd : decode code pc = .ok (.invokevirtual j, 3)) (hM : Snd shX y bytes maxL (some .int) f2 l2 (.inr 0 :: as) F) (hy : MWv y bytes maxL (some .int) n) (hl : Cond.methodLink R_law j y ∈ gT) (hc : y.cls = RX7) (hn : as.length = n ∧ f2 + 1 ≤ 12 ∧ 8 + (maxL + 11) + l2 ≤ 460) (hrest : ((rest.map fun v => v.category).sum) ≤ 8) (ha : rS as) (hst : st = (as.map (cv (elX E))).reverse ++ .ref (elX E 0) :: rest) {R1 : Int → Mem → Prop} (k : F X R1) (kk : ∀ r X', R1 r X' → LW E (pc + 3) i (.int (Int32.ofInt r) :: rest) X' Y) : LW E pc i st X Y := by
  obtain ⟨p, l, e, s, m, below, meth, c, b, L, xs, D, cA, adx, adm⟩ := E
  obtain ⟨hx, hb, hr, hml, ho, ht, hX, hbl, hlk, hK, hwx, hwm, hdis, hL⟩ := C
  have hst : st = (as.map (cv adx)).reverse ++ .ref (adx 0) :: rest := hst
  obtain ⟨hA, hRO, hf⟩ := hwx
  obtain ⟨n1, n3, n4⟩ := hn
  subst hst
  intro H ls h1 h2 h3 h4 h5 h6
  have hS : va_S (aS shX adx) s.heap H [] := ⟨h3.1, fun q q1 _ => h3.2 q q1, fun q hq => absurd hq List.not_mem_nil⟩
  have ha' : rS (.inr 0 :: as) := rS_cons.mpr ⟨trivial, ha⟩
  have hcl : vwCl[7]? = some (y.cls, TX7, 8) := by rw [hc]; rfl
  obtain ⟨fs, hs0⟩ : ∃ fs, shX[0]? = some (.inr (7, fs)) := ⟨_, rfl⟩
  refine l_run (rest := rest) (va_runV (C := y.cls) (b := adx 0) (As := as.map (cv adx)) (Ts := gT) ⟨hx, hb, hml, ho, ht⟩ (hM l D adx cA X _ k h5 ha') ⟨hy.1.cb (fr := 12) (lo := 460) (kc := 76) (ks := 7275) ht hl n3 n4, ht _ hy.2.1, ht _ hy.2.2⟩ ⟨PX.blind, va_recv hK h1 hcl (sW_at hs0), PX.mk h1 hK hA hRO hS⟩ rfl (by rw [List.length_map]; exact n1) h4.1 rfl (lv_room hrest) hd ⟨Nat.le_refl _, Nat.le_refl _⟩) hf (fun r X' H1 q1 q2 q3 q4 q5 q6 => ?_)
  exact kk r X' q1 H1 ls q4 (l_keep h2 q6 hdis) ⟨Nat.le_trans h3.1 q5, fun q hq => by rw [q6 q (Nat.lt_of_lt_of_le hq h3.1) (fun z => by have := hf q z; omega)]; exact h3.2 q hq⟩ h4 q3 h6
theorem l_callM (C : LC E) {y : MethodName} {bytes : ByteArray} {maxL n j f2 l2 : Nat} {F : Mem → (Int → Mem → Prop) → Prop} (as : List AV) (rest : List Value) (hd : decode code pc = .ok (.invokevirtual j, 3)) (hM : Snd shM y bytes maxL (some .int) f2 l2 (.inr 0 :: as) F) (hy : MWv y bytes maxL (some .int) n) (hl : Cond.methodLink R_law j y ∈ gT) (hc : y.cls = RX8) (hn : as.length = n ∧ f2 + 1 ≤ 12 ∧ 8 + (maxL + 11) + l2 ≤ 460) (hrest : ((rest.map fun v => v.category).sum) ≤ 8) (ha : rS as) (hst : st = (as.map (cv (elM E))).reverse ++ .ref (elM E 0) :: rest) {R1 : Int → Mem → Prop} (k : F Y R1) (kk : ∀ r Y', R1 r Y' → LW E (pc + 3) i (.int (Int32.ofInt r) :: rest) X Y') : LW E pc i st X Y := by
  obtain ⟨p, l, e, s, m, below, meth, c, b, L, xs, D, cA, adx, adm⟩ := E
  obtain ⟨hx, hb, hr, hml, ho, ht, hX, hbl, hlk, hK, hwx, hwm, hdis, hL⟩ := C
  have hst : st = (as.map (cv adm)).reverse ++ .ref (adm 0) :: rest := hst
  obtain ⟨hA, hRO, hf⟩ := hwm
  obtain ⟨n1, n3, n4⟩ := hn
  subst hst
  intro H ls h1 h2 h3 h4 h5 h6
  have hS : va_S (aS shM adm) s.heap H [] := ⟨h3.1, fun q q1 _ => h3.2 q q1, fun q hq => absurd hq List.not_mem_nil⟩
  have ha' : rS (.inr 0 :: as) := rS_cons.mpr ⟨trivial, ha⟩
  have hcl : vwCl[8]? = some (y.cls, TX8, 55) := by rw [hc]; rfl
  obtain ⟨fs, hs0⟩ : ∃ fs, shM[0]? = some (.inr (8, fs)) := ⟨_, rfl⟩
  refine l_run (rest := rest) (va_runV (C := y.cls) (b := adm 0) (As := as.map (cv adm)) (Ts := gT) ⟨hx, hb, hml, ho, ht⟩ (hM l D adm cA Y _ k h6 ha') ⟨hy.1.cb (fr := 12) (lo := 460) (kc := 76) (ks := 7275) ht hl n3 n4, ht _ hy.2.1, ht _ hy.2.2⟩ ⟨PX.blind, va_recv hK h2 hcl (sW_at hs0), PX.mk h2 hK hA hRO hS⟩ rfl (by rw [List.length_map]; exact n1) h4.1 rfl (lv_room hrest) hd ⟨Nat.le_refl _, Nat.le_refl _⟩) hf (fun r Y' H1 q1 q2 q3 q4 q5 q6 => ?_)
  exact kk r Y' q1 H1 ls (l_keep h1 q6 (fun q z1 z2 => hdis q z2 z1)) q4 ⟨Nat.le_trans h3.1 q5, fun q hq => by rw [q6 q (Nat.lt_of_lt_of_le hq h3.1) (fun z => by have := hf q z; omega)]; exact h3.2 q hq⟩ h4 h5 q3
theorem l_eq (C : LC E) {a : Int32} {off : Int} {tgt : Nat} (hd : decode code pc = .ok (.if_icmp .eq off, 3)) (htg : (pc : Int) + off = (tgt : Int)) (k : LW E tgt i [] X Y) : LW E pc i [.int a, .int a] X Y := by
  obtain ⟨p, l, e, s, m, below, meth, c, b, L, xs, D, cA, adx, adm⟩ := E
  obtain ⟨hx, hb, -⟩ := C
  intro H ls h1 h2 h3 h4 h5 h6
  exact lv_icmp_eq hx hb hd htg (fun _ => k H ls h1 h2 h3 h4 h5 h6) (fun z => absurd rfl z)
theorem l_next (C : LC E) (hi : 0 ≤ i ∧ i ≤ 4000) (k : LW E 18 (i + 4) [] X Y) : LW E 824 i [] X Y := by
  obtain ⟨p, l, e, s, m, below, meth, c, b, L, xs, D, cA, adx, adm⟩ := E
  obtain ⟨hx, hb, -⟩ := C
  intro H ls h1 h2 h3 h4 h5 h6
  have hin : inR (i + 4) := by unfold inR; omega
  refine lv_iinc (k := 3) (v := Int32.ofInt (i + 4)) hx hb dL_law_824 h4 rfl (by rw [of_add, wrap_id hin]) (by decide) rfl (fun ls' h4' => ?_)
  refine lv_goto (tgt := 18) hx hb dL_law_827 (by decide) ?_
  exact k H ls' h1 h2 h3 (lv_sub h4' [1, 2, 3, 0] rfl) h5 h6
theorem l_end (C : LC E) : LW E 830 i [] X Y := by
  obtain ⟨p, l, e, s, m, below, meth, c, b, L, xs, D, cA, adx, adm⟩ := E
  obtain ⟨hx, hb, hr, hml, ho, ht, hX, hbl, hlk, -⟩ := C
  intro H ls h1 h2 h3 h4 h5 h6
  refine lv_iconst (v := 1) hx hb dL_law_830 (by decide) ?_
  exact lw_ret hx hb hr hlk dL_law_831
theorem l_head (C : LC E) (hi : 0 ≤ i ∧ i ≤ 4000) (kt : (elL E : Int) - 4 < i → LW E 830 i [] X Y) (kf : i ≤ (elL E : Int) - 4 → LW E 26 i [] X Y) : LW E 18 i [] X Y := by
  obtain ⟨p, l, e, s, m, below, meth, c, b, L, xs, D, cA, adx, adm⟩ := E
  obtain ⟨hx, hb, hr, hml, ho, ht, hX, hbl, hlk, hK, hwx, hwm, hdis, hL⟩ := C
  have kt : (L : Int) - 4 < i → LW _ 830 i [] X Y := kt
  have kf : i ≤ (L : Int) - 4 → LW _ 26 i [] X Y := kf
  intro H ls h1 h2 h3 h4 h5 h6
  have hin : inR i := by unfold inR; omega
  have hin2 : inR ((L : Int) - 4) := by unfold inR; omega
  refine lv_iload_n hx hb dL_law_18 rfl (lv_at h4 3 rfl) ?_
  refine lv_aload_n hx hb dL_law_19 rfl (lv_at h4 0 rfl) ?_
  refine va_slen (A := fun q => s.heap.size ≤ q) hx hb hX hbl (Nat.not_le.mpr hbl) ⟨h3.1, fun q q1 _ => h3.2 q q1, fun q hq => absurd hq List.not_mem_nil⟩ dL_law_20 ?_
  refine lv_iconst (v := Int32.ofInt 4) hx hb dL_law_21 rfl ?_
  refine lv_isub hx hb dL_law_22 ?_
  rw [show Int32.ofNat L = Int32.ofInt (L : Int) from Int32.ofInt_eq_ofNat.symm, of_sub, wrap_id hin2]
  refine lv_icmp_gt (tgt := 830) hx hb dL_law_23 (by decide) (fun z => ?_) (fun z => ?_)
  · exact kt ((of_lt hin2 hin).mp z) H ls h1 h2 h3 h4 h5 h6
  · exact kf (Int.not_lt.mp (fun q => z ((of_lt hin2 hin).mpr q))) H ls h1 h2 h3 h4 h5 h6
end LR
