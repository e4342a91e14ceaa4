/-! contracts: entry and calls -/
theorem lvl_none (ad : Nat → Nat) : ∀ (k n : Nat), lvl ad n (List.replicate k none) = [] := by
  intro k
  induction k with
  | zero => intro n; rfl
  | succ k ih => intro n; rw [List.replicate_succ]; exact ih (n + 1)
theorem lvl_args (ad : Nat → Nat) (k : Nat) : ∀ (as : List AV) (n : Nat), lvl ad n (as.map some ++ List.replicate k none) = lv_args n (as.map (cv ad)) := by
  intro as
  induction as with
  | nil => intro n; exact lvl_none ad k n
  | cons a t ih =>
    intro n
    show (n, cv ad a) :: lvl ad (n + 1) (t.map some ++ List.replicate k none) = (n, cv ad a) :: lv_args (if (cv ad a).category = 2 then n + 2 else n + 1) (t.map (cv ad))
    rw [ih (n + 1), if_neg (by rw [cv_cat]; decide)]
theorem sl_len (ad : Nat → Nat) : ∀ as : List AV, (lg_sl (as.map (cv ad))).length = as.length := by
  intro as
  induction as with
  | nil => rfl
  | cons a t ih =>
    have h : (cv ad a).category = 1 := cv_cat ad a
    unfold lg_sl at ih ⊢
    rw [List.map_cons, List.flatMap_cons, List.length_append, ih, if_neg (by rw [h]; decide), List.length_cons, List.length_cons, List.length_nil]
    omega
theorem Met.ofWF {l : Launch} {y : MethodName} {ws ws' : List Cond} {rm : Room} {Pc : Array Value → State → Prop} {Qc : Array Value → State → Outcome → State → Prop} {mc ms : Nat} {free : Addr → Prop} {cc : ByteArray} {maxL : Nat} {ret : Option FieldType}
    (hy : plainFor y = true) (hw : ws = Cond.code y cc maxL ret :: ws')
    (body : ∀ p e s m args below meth c s₁, BodyLoose p l y (headSpec ws rm) cc maxL ret e s m args below meth c s₁ → c.maxLocals = maxL → Pc args s →
      W p l e (headSpec ws rm).room s m args below meth c s.heap [] 0 0 (MQ below Qc args s mc ms free) (entryFrame m args maxL)) : Met l y ws rm Pc Qc mc ms free := by
  refine MetFree.of_bodySF (code := cc) (maxLocals := maxL) (ret := ret) hy ?_ ?_
  · intro args s m h hn
    obtain ⟨meth, c, h1, h2, h3, h4, h5, h6, -, -⟩ := Cond.code_spec hn (atoms_spec (ws := ws) h _ (by rw [hw]; exact List.mem_cons_self))
    exact ⟨meth, c, h1, h2, h3, h4, h5, h6⟩
  · intro p e s m args below meth c s₁ B hml hP _
    have hh0 : s₁.heap = s.heap := by rw [B.state]; rfl
    obtain ⟨t, a1, o, b1, b2, b3⟩ := body p e s m args below meth c s₁ B hml hP s₁ hh0 (Stand.of_body B)
    exact ⟨t, o, a1, b1, b2, ⟨b3.1, b3.2⟩⟩
theorem Snd.of {sh : List Sh} {y : MethodName} {bytes : ByteArray} {maxL : Nat} {ret : Option FieldType} {fr lo : Nat} {as : List AV} {F : Mem → (Int → Mem → Prop) → Prop} (own : String) (hy : plainFor y = true) (hown : y.cls = own) (hlen : as.length ≤ maxL)
    (body : ∀ (E : EE) (M : Mem) (R' : Int → Mem → Prop), F M R' → Cx sh maxL bytes own fr lo E → Rx sh ret R' E → AW sh maxL E 0 (as.map some ++ List.replicate (maxL - as.length) none) [] M) : Snd sh y bytes maxL ret fr lo as F := by
  intro l D ad cA M R' hF hM hA
  refine Met.ofWF (cc := bytes) (maxL := maxL) (ret := ret) hy rfl ?_
  intro p e s m args below meth c s₁ B hml hv
  obtain ⟨rfl, hP, hK, hAp, hRO⟩ := hv
  have hts := atoms_spec (ws := .code y bytes maxL ret :: gT) B.pre
  have ho : s.vm.findClass own = some m.cls := hown ▸ findClass_of_methodNamed B.named
  have hl := lv_entry (as.map (cv ad)) (n := maxL) (by rw [sl_len]; exact hlen)
  rw [lg_entry_eq]
  generalize (lg_sl (as.map (cv ad)) ++ List.replicate (maxL - (lg_sl (as.map (cv ad))).length) Slot.unset).toArray = ls at hl ⊢
  have k := body (p, l, e, { frames := fr, cells := 0, slots := 0, locals := lo }, s, m, (as.map (cv ad)).toArray, below, meth, c, MQ below (QX sh D ad cA ret R') (as.map (cv ad)).toArray s 0 0 (aS sh ad), ad, cA, D, 0, 0) M R' hF
    ⟨B.exec, B.bytes, hml, ho, fun w hw => hts w (List.mem_cons_of_mem _ hw), hK, hAp, hRO, B.notSynchronized, rfl⟩ ⟨B.returns, rfl⟩
  refine k s.heap [] ls hP va_S.rf ?_ hM ?_ (fun v hv => absurd hv List.not_mem_nil)
  · unfold LH; rw [lvl_args]; exact hl
  · intro v hv
    rcases List.mem_append.mp hv with h | h
    · obtain ⟨a, h1, h2⟩ := List.mem_map.mp h
      cases h2
      exact hA _ h1
    · cases (List.eq_of_mem_replicate h)
/-- what is known of a method that is called -/
def MW (y : MethodName) (bytes : ByteArray) (maxL : Nat) (ret : Option FieldType) (n : Nat) : Prop :=
  Cond.code y bytes maxL ret ∈ gT ∧ Cond.initialized y.cls ∈ gT ∧ (y.cls ≠ "java/lang/invoke/MethodHandle" ∧ y.cls ≠ "java/lang/invoke/VarHandle") ∧ (parseMethodDescriptor y.desc).map (fun d => d.parameters.length) = some n
def MWv (y : MethodName) (bytes : ByteArray) (maxL : Nat) (ret : Option FieldType) (n : Nat) : Prop := MW y bytes maxL ret n ∧ Cond.instanceMethod y ∈ gT ∧ Cond.selects y.cls y y ∈ gT
def MWs (y : MethodName) (bytes : ByteArray) (maxL : Nat) (ret : Option FieldType) (n : Nat) : Prop := MW y bytes maxL ret n ∧ Cond.static y ∈ gT
theorem MW.cb {y : MethodName} {bytes : ByteArray} {maxL : Nat} {ret : Option FieldType} {n fr lo kc ks f2 l2 i : Nat} {own : String} {s : State} {args : Array Value} (h : MW y bytes maxL ret n) (ht : ∀ w ∈ gT, w.before args s = true) (hl : Cond.methodLink own i y ∈ gT) (hf : f2 + 1 ≤ fr) (hlo : 8 + (maxL + 11) + l2 ≤ lo) :
    CallB { frames := fr, cells := kc, slots := ks, locals := lo } s args own i y bytes maxL ret (.code y bytes maxL ret :: gT) { frames := f2, cells := 0, slots := 0, locals := l2 } 0 0 n := by
  obtain ⟨h1, h2, h3, h4⟩ := h
  refine ⟨rfl, rfl, hf, hlo, ?_, List.mem_cons_self, ht _ h1, ht _ h2, h3, fun sig hs => ?_, ht _ hl⟩
  · intro w hw a' U hW
    have hw' : w ∈ gT := (List.mem_cons.mp hw).elim (fun q => q ▸ h1) id
    exact word_at hW (gT_good hw') (ht w hw')
  · rw [hs] at h4; exact (Option.some.inj h4).symm
theorem PX.blind {sh : List Sh} {D : va_G} {ad : Nat → Nat} {cA : Nat → ClassId} {as : List AV} {M : Mem} : FrameBlind (PX sh D ad cA as M) := by
  intro a U g mk h
  obtain ⟨h0, h1, h2, h3, h4⟩ := h
  exact ⟨h0, h1, va_K.moved (u := U) (U := U.calling g mk a) (Vm.Alike.refl U.vm) h2, h3, RO.same (u := U) (U := U.calling g mk a) rfl h4⟩
theorem PX.mk {sh : List Sh} {D : va_G} {ad : Nat → Nat} {cA : Nat → ClassId} {as : List AV} {M : Mem} {s : State} {H : Heap} {locs : List Loc} (hP : va_P D vwCl (sW sh ad cA M) H) (hK : va_K D vwCl (tyS cA) s) (hA : Ap sh ad) (hRO : RO ad (aS sh ad) s s.heap) (hS : va_S (aS sh ad) s.heap H locs) : ∀ U : State, U.heap = H → s.WarmedH U.vm → PX sh D ad cA as M (as.map (cv ad)).toArray U := by
  intro U hU hW
  exact ⟨rfl, by rw [hU]; exact hP, va_K.moved hW.alike hK, hA, by rw [hU]; exact (hRO.warm hW).kept hS.2.1⟩
theorem cats_len (ad : Nat → Nat) : ∀ st : List AV, ((st.map (cv ad)).map fun v => v.category).sum = st.length := by
  intro st
  induction st with
  | nil => rfl
  | cons a t ih => rw [List.map_cons, List.map_cons, List.sum_cons, ih, cv_cat, List.length_cons]; omega
theorem ret_stack (ad : Nat → Nat) (ret : Option FieldType) (r : Int) (rest : List AV) : (retV ret r).toList ++ rest.map (cv ad) = (retA ret r ++ rest).map (cv ad) := by
  cases ret <;> rfl
section Calls
variable {p : Program} {l : Launch} {e : Env} {R : Room} {s : State} {m : MethodId} {args : Array Value} {below : List Frame} {meth : Method} {c : Code} {H : Heap} {locs : List Loc} {Q : State → Prop} {kc ks : Nat}
theorem a_run {sh : List Sh} {D : va_G} {ad : Nat → Nat} {cA : Nat → ClassId} {ret : Option FieldType} {Rr : Int → Mem → Prop} {a : Array Value} {pc : Nat} {ls : Array Slot} {st0 rest : List Value}
    (hr : va_Run p l e R s m args below meth c H locs kc ks 0 0 (F0 m pc ls st0) rest (QX sh D ad cA ret Rr a) (aS sh ad)) (hS : va_S (aS sh ad) s.heap H locs)
    (kk : ∀ (r : Int) (M' : Mem) (H1 : Heap) (locs1 : List Loc), Rr r M' → inR r → rM M' → va_P D vwCl (sW sh ad cA M') H1 → va_S (aS sh ad) s.heap H1 locs1 → W p l e R s m args below meth c H1 locs1 kc ks Q (F0 m (pc + 3) ls ((retV ret r).toList ++ rest))) : W p l e R s m args below meth c H locs kc ks Q (F0 m pc ls st0) := by
  intro T hT X
  obtain ⟨v, st₀, t, T', L, h0, X', hL, e1, e2, ⟨r, M', hv, hp, hr1, hr2, hw, hz, hk⟩, st⟩ := hr T hT X
  cases hv
  rw [h0] at hz hk
  obtain ⟨t2, a1, b1⟩ := kk r M' T'.heap (locs ++ L) hp hr1 hr2 (by rw [e1]; exact hw)
    ⟨Nat.le_trans hS.1 (by rw [e1]; exact hz), fun q h1 h2 => by rw [e1, hk q (Nat.lt_of_lt_of_le h1 hS.1) h2]; exact hS.2.1 q h1 h2, fun q hq => by
      rcases List.mem_append.mp hq with h | h
      · exact hS.2.2 q h
      · exact hL q h⟩ T' rfl X'
  exact ⟨t2, st t2 a1, b1⟩
end Calls
section Rows
variable {sh : List Sh} {nL : Nat} {cc : ByteArray} {own : String} {fr lo : Nat} {E : EE} {pc : Nat} {lv : List (Option AV)} {M : Mem}
theorem a_callS (C : Cx sh nL cc own fr lo E) {y : MethodName} {bytes : ByteArray} {maxL : Nat} {ret : Option FieldType} {n i f2 l2 : Nat} {F : Mem → (Int → Mem → Prop) → Prop} (as rest : List AV) {st : List AV}
    (hd : decode cc pc = .ok (.invokestatic i, 3)) (hM : Snd sh y bytes maxL ret f2 l2 as F) (hy : MWs y bytes maxL ret n) (hl : Cond.methodLink own i y ∈ gT) (hn : as.length = n ∧ st = as.reverse ++ rest ∧ rest.length ≤ 8 ∧ f2 + 1 ≤ fr ∧ 8 + (maxL + 11) + l2 ≤ lo)
    {R1 : Int → Mem → Prop} (k : F M R1) (kk : ∀ r M', R1 r M' → AW sh nL E (pc + 3) lv (retA ret r ++ rest) M') : AW sh nL E pc lv st M := by
  obtain ⟨p, l, e, R, s, m, args, below, meth, c, Q, ad, cA, D, kc, ks⟩ := E
  obtain ⟨hx, hb, hml, ho, ht, hK, hA, hRO, hlk, rfl⟩ := C
  obtain ⟨n1, rfl, n2, n3, n4⟩ := hn
  intro H locs ls hP hS hL h1 h2 h3
  have ha : rS as := fun v hv => h3 v (List.mem_append_left _ (List.mem_reverse.mpr hv))
  have hr : rS rest := fun v hv => h3 v (List.mem_append_right _ hv)
  refine a_run (rest := rest.map (cv ad)) (va_runS (As := as.map (cv ad)) (Ts := gT) ⟨hx, hb, hml, ho, ht⟩ (hM l D ad cA M _ k h1 ha) ⟨hy.1.cb ht hl n3 n4, ht _ hy.2⟩ ⟨PX.blind, PX.mk hP hK hA hRO hS⟩ rfl (by rw [List.length_map]; exact n1) hL.1 (by simp) (by show 2 * 0 + _ ≤ 8; rw [cats_len]; omega) hd ⟨Nat.le_refl _, Nat.le_refl _⟩) hS (fun r M' H1 locs1 hq q1 q2 q3 q4 => ?_)
  rw [ret_stack]
  refine kk r M' hq H1 locs1 ls q3 q4 hL q2 h2 (fun v hv => ?_)
  rcases List.mem_append.mp hv with h | h
  · cases ret with
    | none => exact absurd h List.not_mem_nil
    | some t => rw [List.mem_singleton.mp h]; exact q1
  · exact hr v h
theorem a_callV (C : Cx sh nL cc own fr lo E) {y : MethodName} {bytes : ByteArray} {maxL : Nat} {ret : Option FieldType} {n i f2 l2 cell ci N : Nat} {T : u_T} {fs : List (Option Nat)} {F : Mem → (Int → Mem → Prop) → Prop} (as rest : List AV) {st : List AV}
    (hd : decode cc pc = .ok (.invokevirtual i, 3)) (hM : Snd sh y bytes maxL ret f2 l2 (.inr cell :: as) F) (hy : MWv y bytes maxL ret n) (hl : Cond.methodLink own i y ∈ gT) (hs : sh[cell]? = some (.inr (ci, fs))) (hc : vwCl[ci]? = some (y.cls, T, N)) (hn : as.length = n ∧ st = as.reverse ++ .inr cell :: rest ∧ rest.length ≤ 8 ∧ f2 + 1 ≤ fr ∧ 8 + (maxL + 11) + l2 ≤ lo)
    {R1 : Int → Mem → Prop} (k : F M R1) (kk : ∀ r M', R1 r M' → AW sh nL E (pc + 3) lv (retA ret r ++ rest) M') : AW sh nL E pc lv st M := by
  obtain ⟨p, l, e, R, s, m, args, below, meth, c, Q, ad, cA, D, kc, ks⟩ := E
  obtain ⟨hx, hb, hml, ho, ht, hK, hA, hRO, hlk, rfl⟩ := C
  obtain ⟨n1, rfl, n2, n3, n4⟩ := hn
  intro H locs ls hP hS hL h1 h2 h3
  have ha : rS (.inr cell :: as) := rS_cons.mpr ⟨trivial, fun v hv => h3 v (List.mem_append_left _ (List.mem_reverse.mpr hv))⟩
  have hr : rS rest := fun v hv => h3 v (List.mem_append_right _ (List.mem_cons_of_mem _ hv))
  refine a_run (rest := rest.map (cv ad)) (va_runV (C := y.cls) (b := ad cell) (As := as.map (cv ad)) (Ts := gT) ⟨hx, hb, hml, ho, ht⟩ (hM l D ad cA M _ k h1 ha) ⟨hy.1.cb ht hl n3 n4, ht _ hy.2.1, ht _ hy.2.2⟩ ⟨PX.blind, va_recv hK hP hc (sW_at hs), PX.mk hP hK hA hRO hS⟩ rfl (by rw [List.length_map]; exact n1) hL.1 (by simp [cv]) (by show 2 * 0 + _ ≤ 8; rw [cats_len]; omega) hd ⟨Nat.le_refl _, Nat.le_refl _⟩) hS (fun r M' H1 locs1 hq q1 q2 q3 q4 => ?_)
  rw [ret_stack]
  refine kk r M' hq H1 locs1 ls q3 q4 hL q2 h2 (fun v hv => ?_)
  rcases List.mem_append.mp hv with h | h
  · cases ret with
    | none => exact absurd h List.not_mem_nil
    | some t => rw [List.mem_singleton.mp h]; exact q1
  · exact hr v h
/-- a call on a String constant -/
theorem a_callK (C : Cx sh nL cc own fr lo E) {y : MethodName} {bytes : ByteArray} {maxL : Nat} {ret : Option FieldType} {n i f2 l2 : Nat} {F : Mem → (Int → Mem → Prop) → Prop} (cell : Nat) (as rest : List AV) {st : List AV}
    (hd : decode cc pc = .ok (.invokevirtual i, 3)) (hM : Snd sh y bytes maxL ret f2 l2 (.inr cell :: as) F) (hy : MWv y bytes maxL ret n) (hl : Cond.methodLink own i y ∈ gT) (hk : (cell = 110 ∨ cell = 111) ∧ y.cls = "java/lang/String") (hn : as.length = n ∧ st = as.reverse ++ .inr cell :: rest ∧ rest.length ≤ 8 ∧ f2 + 1 ≤ fr ∧ 8 + (maxL + 11) + l2 ≤ lo)
    {R1 : Int → Mem → Prop} (k : F M R1) (kk : ∀ r M', R1 r M' → AW sh nL E (pc + 3) lv (retA ret r ++ rest) M') : AW sh nL E pc lv st M := by
  obtain ⟨p, l, e, R, s, m, args, below, meth, c, Q, ad, cA, D, kc, ks⟩ := E
  obtain ⟨hx, hb, hml, ho, ht, hK, hA, hRO, hlk, rfl⟩ := C
  obtain ⟨n1, rfl, n2, n3, n4⟩ := hn
  intro H locs ls hP hS hL h1 h2 h3
  have ha : rS (.inr cell :: as) := rS_cons.mpr ⟨trivial, fun v hv => h3 v (List.mem_append_left _ (List.mem_reverse.mpr hv))⟩
  have hr : rS rest := fun v hv => h3 v (List.mem_append_right _ (List.mem_cons_of_mem _ hv))
  have hrec : ∃ cellB : Cell, H[ad cell]? = some cellB ∧ cellB.vm.isStatics = false ∧ s.vm.findClass y.cls = some cellB.cls := by
    rw [hk.2]
    rcases hk.1 with rfl | rfl
    · exact vk_recv (i := 0) hRO.2.1 (by decide) hS
    · exact vk_recv (i := 1) hRO.2.1 (by decide) hS
  refine a_run (rest := rest.map (cv ad)) (va_runV (C := y.cls) (b := ad cell) (As := as.map (cv ad)) (Ts := gT) ⟨hx, hb, hml, ho, ht⟩ (hM l D ad cA M _ k h1 ha) ⟨hy.1.cb ht hl n3 n4, ht _ hy.2.1, ht _ hy.2.2⟩ ⟨PX.blind, hrec, PX.mk hP hK hA hRO hS⟩ rfl (by rw [List.length_map]; exact n1) hL.1 (by simp [cv]) (by show 2 * 0 + _ ≤ 8; rw [cats_len]; omega) hd ⟨Nat.le_refl _, Nat.le_refl _⟩) hS (fun r M' H1 locs1 hq q1 q2 q3 q4 => ?_)
  rw [ret_stack]
  refine kk r M' hq H1 locs1 ls q3 q4 hL q2 h2 (fun v hv => ?_)
  rcases List.mem_append.mp hv with h | h
  · cases ret with
    | none => exact absurd h List.not_mem_nil
    | some t => rw [List.mem_singleton.mp h]; exact q1
  · exact hr v h
/-- locals that are no more needed -/
def dropL : List Bool → List (Option AV) → List (Option AV)
  | [], t => t
  | _ :: _, [] => []
  | true :: bs, o :: t => o :: dropL bs t
  | false :: bs, _ :: t => none :: dropL bs t
theorem dropL_at : ∀ (bs : List Bool) (lv : List (Option AV)) (k : Nat) (v : AV), (dropL bs lv)[k]? = some (some v) → lv[k]? = some (some v)
  | [], _, _, _, h => h
  | _ :: _, [], _, _, h => h
  | true :: bs, o :: t, 0, v, h => h
  | true :: bs, o :: t, k + 1, v, h => dropL_at bs t k v h
  | false :: bs, o :: t, 0, v, h => by simp [dropL] at h
  | false :: bs, o :: t, k + 1, v, h => dropL_at bs t k v h
theorem a_drop (bs : List Bool) {lv2 : List (Option AV)} {st : List AV} (h : dropL bs lv = lv2) (k : AW sh nL E pc lv2 st M) : AW sh nL E pc lv st M := by
  obtain ⟨p, l, e, R, s, m, args, below, meth, c, Q, ad, cA, D, kc, ks⟩ := E
  subst h
  intro H locs ls hP hS hL h1 h2 h3
  refine k H locs ls hP hS ⟨hL.1, hL.2.1, fun q hq => ?_⟩ h1 (fun v hv => ?_) h3
  · obtain ⟨j, w, rfl, hj⟩ := (lvl_mem _ 0).mp hq
    exact hL.2.2 _ ((lvl_mem lv 0).mpr ⟨j, w, rfl, dropL_at _ _ _ _ hj⟩)
  · obtain ⟨j, hj⟩ := List.getElem?_of_mem hv
    exact h2 v (List.mem_of_getElem? (dropL_at _ _ _ _ hj))
/-- System.arraycopy between two int arrays -/
def mcopy (M : Mem) (c0 : Nat) (sp : Int) (c1 : Nat) (dp n : Int) : Mem := fun d j => if d = c1 ∧ dp ≤ j ∧ j < dp + n then M c0 (sp + (j - dp)) else M d j
theorem a_copy (C : Cx sh nL cc own fr lo E) {i c0 c1 n0 n1 : Nat} {sp dp n : Int} {st : List AV} (hd : decode cc pc = .ok (.invokestatic i, 3)) (hl : Cond.methodLink own i arraycopyName ∈ gT) (hw : Cond.native arraycopyName ∈ gT ∧ Cond.static arraycopyName ∈ gT ∧ Cond.initialized "java/lang/System" ∈ gT)
    (hs0 : sh[c0]? = some (.inl (0, n0))) (hs1 : sh[c1]? = some (.inl (0, n1))) (hb0 : 0 ≤ sp ∧ 0 ≤ dp ∧ 0 ≤ n ∧ sp + n ≤ n0 ∧ dp + n ≤ n1) (hr : st.length ≤ 4 ∧ 1 ≤ fr ∧ 24 ≤ lo)
    (kk : AW sh nL E (pc + 3) lv st (mcopy M c0 sp c1 dp n)) : AW sh nL E pc lv (.inl n :: .inl dp :: .inr c1 :: .inl sp :: .inr c0 :: st) M := by
  obtain ⟨p, l, e, R, s, m, args, below, meth, c, Q, ad, cA, D, kc, ks⟩ := E
  obtain ⟨hx, hb, hml, ho, ht, hK, hA, hRO, hlk, rfl⟩ := C
  intro H locs ls hP hS hL h1 h2 h3
  obtain ⟨gn, h3⟩ := rS_cons.mp h3
  obtain ⟨gd, h3⟩ := rS_cons.mp h3
  obtain ⟨-, h3⟩ := rS_cons.mp h3
  obtain ⟨gs, h3⟩ := rS_cons.mp h3
  obtain ⟨-, h3⟩ := rS_cons.mp h3
  have gn' : inR n := gn
  have gd' : inR dp := gd
  have gs' : inR sp := gs
  have z0 : inR 0 := by unfold inR; decide
  obtain ⟨b1, b2, b3, b4, b5⟩ := hb0
  refine va_copyi hx hb (by rw [hml]; exact hL.1.symm) ho (ht _ hl) (ht _ hw.1) (ht _ hw.2.1) (ht _ hw.2.2) hK hP (sW_D hA) hS c0 c1 0 0 (sW_at hs0) (sW_at hs1) rfl rfl rfl
    (fun q => absurd ((of_lt (y := 0) gs' z0).mp q) (by omega)) (fun q => absurd ((of_lt (y := 0) gd' z0).mp q) (by omega)) (fun q => absurd ((of_lt (y := 0) gn' z0).mp q) (by omega))
    (by rw [of_clamp gs', of_clamp gn']; omega) (by rw [of_clamp gd', of_clamp gn']; omega) (fun _ _ => rfl) hr.2.1 (by rw [cats_len]; have : nativeFrameWords "java/lang/System" "arraycopy" 5 = 7 := by decide +kernel
                                                                                                                        rw [this]; show _ ≤ lo; omega) hd (fun H1 locs1 hP1 _ hS1 => ?_)
  rw [of_clamp gs', of_clamp gd', of_clamp gn'] at hP1
  have key : (sW sh ad cA M).set c1 (ad c1, .inl (cA 0, n1, .inl (va_cpy (fun i => Int32.ofInt (M c0 i)) (fun i => Int32.ofInt (M c1 i)) sp.toNat dp.toNat n.toNat))) = sW sh ad cA (mcopy M c0 sp c1 dp n) := by
    apply List.ext_getElem?
    intro k
    have hl : c1 < (sW sh ad cA M).length := by unfold sW; rw [List.length_mapIdx]; exact (List.getElem?_eq_some_iff.mp hs1).1
    by_cases hk : k = c1
    · subst hk
      rw [List.getElem?_set_self hl, sW_at hs1]
      refine congrArg some (congrArg (Prod.mk (ad k)) ?_)
      show Sum.inl _ = Sum.inl _
      refine congrArg Sum.inl (congrArg (Prod.mk (cA 0)) (congrArg (Prod.mk n1) (congrArg Sum.inl ?_)))
      funext j
      unfold va_cpy mcopy
      by_cases hj : dp.toNat ≤ j ∧ j < dp.toNat + n.toNat
      · rw [if_pos hj, if_pos ⟨rfl, by omega, by omega⟩]
        have e1 : ((sp.toNat + (j - dp.toNat) : Nat) : Int) = sp + ((j : Int) - dp) := by omega
        show Int32.ofInt (M c0 ((sp.toNat + (j - dp.toNat) : Nat) : Int)) = _
        rw [e1]
      · rw [if_neg hj, if_neg (fun q => hj ⟨by omega, by omega⟩)]
    · rw [List.getElem?_set_ne (Ne.symm hk)]
      cases hx : sh[k]? with
      | none => unfold sW; rw [List.getElem?_mapIdx, List.getElem?_mapIdx, hx]; rfl
      | some x =>
        rw [sW_at hx, sW_at hx]
        have hm : ∀ j, mcopy M c0 sp c1 dp n k j = M k j := fun j => by unfold mcopy; rw [if_neg (fun q => hk q.1)]
        refine congrArg some (congrArg (Prod.mk (ad k)) ?_)
        rcases x with ⟨t, n⟩ | ⟨ci, fs⟩
        · show Sum.inl _ = Sum.inl _
          simp only [hm]
        · show Sum.inr _ = Sum.inr _
          have : sF ad (mcopy M c0 sp c1 dp n) k = sF ad M k := by funext j o; cases o <;> simp [sF, hm]
          rw [this]
  refine kk H1 locs1 ls (by rw [← key]; exact hP1) hS1 hL (fun d j => ?_) h2 h3
  unfold mcopy; split
  · exact h1 _ _
  · exact h1 _ _
end Rows
