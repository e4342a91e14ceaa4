/-! constructors: the world grows -/
abbrev EK : Type := Program × Launch × Env × Room × State × MethodId × Array Value × List Frame × Method × Code × (State → Prop) × (Nat → Nat) × (Nat → ClassId) × va_G × va_W
def NX (U : State) : Prop := va_Nw (.methodLinkNest RX7 9 yX6_init RX7) U ∧ va_Nw (.methodLinkNest RX7 18 yX0_init RX7) U ∧ va_Nw (.methodLinkNest RX7 32 yX2_init RX7) U ∧ va_Nw (.methodLinkNest RX7 39 yX3_init RX7) U
theorem NX.same {u U : State} (h : u.vm = U.vm) (k : NX u) : NX U := ⟨va_Nw.same rfl h k.1, va_Nw.same rfl h k.2.1, va_Nw.same rfl h k.2.2.1, va_Nw.same rfl h k.2.2.2⟩
theorem NX.warm {s U : State} (hW : s.WarmedH U.vm) (k : NX s) : NX U := ⟨va_Nw.warmM hW k.1, va_Nw.warmM hW k.2.1, va_Nw.warmM hW k.2.2.1, va_Nw.warmM hW k.2.2.2⟩
def aW (ws : va_W) : Nat → Prop := fun q => ∃ (k : Nat) (e : va_E), ws[k]? = some (q, e)
def KD (pre : va_W) (sz : Nat) (ws : va_W) : Prop := va_D (va_A pre sz) ws ∧ (∀ (k : Nat) (x : Nat × va_E), ws[k]? = some x → pre.length ≤ k → sz ≤ x.1) ∧ ∀ (k : Nat) (x : Nat × va_E), pre[k]? = some x → ∃ e, ws[k]? = some (x.1, e)
def KC (cc : ByteArray) (nL : Nat) (own : String) (E : EK) : Prop := match E with
  | (p, _, _, _, s, m, args, _, meth, c, _, ad0, cA, D, pre) => p.tables.exec = Jvm.exec ∧ c.code = cc ∧ c.maxLocals = nL ∧ s.vm.findClass own = some m.cls ∧ (∀ w ∈ gT, w.before args s = true) ∧ va_K D vwCl (tyS cA) s ∧ meth.name = "<init>" ∧ meth.locks = false ∧ meth.sig.returnType = none ∧ RO ad0 (va_A pre s.heap.size) s s.heap ∧ NX s
def KW (nL : Nat) (E : EK) (kc ks pc : Nat) (lv : List (Nat × Value)) (st : List Value) (ws : va_W) : Prop := match E with
  | (p, l, e, R, s, m, args, below, meth, c, Q, _, _, D, pre) => ∀ (H : Heap) (locs : List Loc) (ls : Array Slot), va_P D vwCl ws H → KD pre s.heap.size ws → va_S (aW ws) s.heap H locs → lv_has ls nL lv → W p l e R s m args below meth c H locs kc ks Q (F0 m pc ls st)
def ER (E : EK) : Room := E.2.2.2.1
def ECA (E : EK) : Nat → ClassId := E.2.2.2.2.2.2.2.2.2.2.2.2.1
theorem va_S.wk {A B : Nat → Prop} {H0 H : Heap} {locs : List Loc} (h : va_S A H0 H locs) (hs : ∀ q, A q → B q) : va_S B H0 H locs := ⟨h.1, fun q h1 h2 => h.2.1 q h1 (fun z => h2 (hs q z)), fun l hl => hs _ (h.2.2 l hl)⟩
theorem aW_set {ws : va_W} {q0 a : Nat} {e e' : va_E} (he : ws[q0]? = some (a, e)) (q : Nat) : aW ws q → aW (ws.set q0 (a, e')) q := by
  rintro ⟨k, x, hk⟩
  by_cases h : k = q0
  · subst h
    rw [he] at hk
    cases hk
    exact ⟨k, e', by rw [List.getElem?_set_self (List.getElem?_eq_some_iff.mp he).1]⟩
  · exact ⟨k, x, by rw [List.getElem?_set_ne (Ne.symm h)]; exact hk⟩
theorem KD.set {pre ws : va_W} {sz q0 a : Nat} {e e' : va_E} (h : KD pre sz ws) (he : ws[q0]? = some (a, e)) : KD pre sz (ws.set q0 (a, e')) := by
  refine ⟨h.1.set he, fun k x hk hp => ?_, fun k x hk => ?_⟩
  · by_cases z : k = q0
    · subst z
      rw [List.getElem?_set_self (List.getElem?_eq_some_iff.mp he).1] at hk
      cases hk
      exact (h.2.1 k (a, e) he hp : sz ≤ a)
    · rw [List.getElem?_set_ne (Ne.symm z)] at hk
      exact h.2.1 k x hk hp
  · obtain ⟨e2, h2⟩ := h.2.2 k x hk
    by_cases z : k = q0
    · subst z
      rw [he] at h2
      cases h2
      exact ⟨e', by rw [List.getElem?_set_self (List.getElem?_eq_some_iff.mp he).1]⟩
    · exact ⟨e2, by rw [List.getElem?_set_ne (Ne.symm z)]; exact h2⟩
theorem aW_D {A : Nat → Prop} {ws : va_W} (h : va_D A ws) : va_D (aW ws) ws := ⟨h.1, fun k q hk => ⟨k, q.2, hk⟩⟩
theorem aW_app {ws w2 : va_W} {q : Nat} : aW ws q → aW (ws ++ w2) q := by
  rintro ⟨k, x, hk⟩
  exact ⟨k, x, by rw [List.getElem?_append_left (List.getElem?_eq_some_iff.mp hk).1]; exact hk⟩
/-- a new cell -/
theorem KD.push {pre ws : va_W} {sz q : Nat} {e : va_E} (hl : pre.length ≤ ws.length) (h : KD pre sz ws) (hD : va_D (fun q => aW ws q ∨ sz ≤ q) (ws ++ [(q, e)])) : KD pre sz (ws ++ [(q, e)]) := by
  have hq : (ws ++ [(q, e)])[ws.length]? = some (q, e) := by simp
  have fresh : sz ≤ q := by
    rcases hD.2 ws.length (q, e) hq with z | z
    · obtain ⟨k, x, hk⟩ := z
      have hkl := (List.getElem?_eq_some_iff.mp hk).1
      have := hD.1 k ws.length (q, x) (q, e) (by rw [List.getElem?_append_left hkl]; exact hk) hq rfl
      omega
    · exact z
  refine ⟨⟨hD.1, fun k x hk => ?_⟩, fun k x hk hp => ?_, fun k x hk => ?_⟩
  · by_cases z : k < ws.length
    · rw [List.getElem?_append_left z] at hk
      exact h.1.2 k x hk
    · have : k < (ws ++ [(q, e)]).length := (List.getElem?_eq_some_iff.mp hk).1
      have ek : k = ws.length := by simp at this; omega
      rw [ek, hq] at hk
      cases hk
      exact Or.inr fresh
  · by_cases z : k < ws.length
    · rw [List.getElem?_append_left z] at hk
      exact h.2.1 k x hk hp
    · have : k < (ws ++ [(q, e)]).length := (List.getElem?_eq_some_iff.mp hk).1
      have ek : k = ws.length := by simp at this; omega
      rw [ek, hq] at hk
      cases hk
      exact fresh
  · obtain ⟨e2, h2⟩ := h.2.2 k x hk
    exact ⟨e2, by rw [List.getElem?_append_left (List.getElem?_eq_some_iff.mp h2).1]; exact h2⟩
theorem S_push {ws : va_W} {q : Nat} {e : va_E} {H0 H H1 : Heap} {locs : List Loc} (hS : va_S (aW ws) H0 H locs) (hS1 : va_S (fun q => aW ws q ∨ H0.size ≤ q) H0 H1 locs) : va_S (aW (ws ++ [(q, e)])) H0 H1 locs :=
  ⟨hS1.1, fun x h1 h2 => hS1.2.1 x h1 (fun z => by rcases z with z | z; exact h2 (aW_app z); omega), fun l hl => aW_app (hS.2.2 l hl)⟩
def FF (own : String) (i ci k : Nat) : Prop := ∃ C T N ty, CI ci C T N ty ∧ k < N ∧ Cond.fieldLink own i (T k).1 (T k).2.1 (T k).2.2.1 ∈ gT ∧ (T k).2.2.2 = true ∧ (T k).1 = own ∧ ∀ a : Nat, narrow (ty k) (.ref a) = .ref a ∧ fits (ty k) (.ref a) = true
def FNw (own : String) (i ci N : Nat) (fs : List Value) : Prop := ∃ C T ty, CI ci C T N ty ∧ Cond.classLink own i C ∈ gT ∧ Cond.instantiable C N ∈ gT ∧ Cond.initialized C ∈ gT ∧ ∀ j, j < N → defaultValue (ty j) = vp_V fs j
section K
variable {nL : Nat} {cc : ByteArray} {own : String} {E : EK} {kc ks pc : Nat} {lv : List (Nat × Value)} {st : List Value} {ws : va_W}
theorem k_aload (C : KC cc nL own E) {i : Fin 4} {x : Nat} (j : Nat) (hd : decode cc pc = .ok (.aload_n i, 1)) (hl : lv[j]? = some ((i : Nat), .ref x)) (k : KW nL E kc ks (pc + 1) lv (.ref x :: st) ws) : KW nL E kc ks pc lv st ws := by
  obtain ⟨p, l, e, R, s, m, args, below, meth, c, Q, ad0, cA, D, pre⟩ := E
  obtain ⟨hx, hb, -⟩ := C
  intro H locs ls h1 h2 h3 h4
  exact lv_aload_n hx hb hd rfl (lv_at h4 j hl) (k H locs ls h1 h2 h3 h4)
theorem k_iconst (C : KC cc nL own E) {n : Int} {v : Int32} (hd : decode cc pc = .ok (.iconst n, 1)) (hv : Int32.ofInt n = v) (k : KW nL E kc ks (pc + 1) lv (.int v :: st) ws) : KW nL E kc ks pc lv st ws := by
  obtain ⟨p, l, e, R, s, m, args, below, meth, c, Q, ad0, cA, D, pre⟩ := E
  obtain ⟨hx, hb, -⟩ := C
  intro H locs ls h1 h2 h3 h4
  exact lv_iconst hx hb hd hv (k H locs ls h1 h2 h3 h4)
theorem k_bipush (C : KC cc nL own E) {n : Int} {v : Int32} (hd : decode cc pc = .ok (.bipush n, 2)) (hv : (Int8.ofInt n).toInt32 = v) (k : KW nL E kc ks (pc + 2) lv (.int v :: st) ws) : KW nL E kc ks pc lv st ws := by
  obtain ⟨p, l, e, R, s, m, args, below, meth, c, Q, ad0, cA, D, pre⟩ := E
  obtain ⟨hx, hb, -⟩ := C
  intro H locs ls h1 h2 h3 h4
  exact lv_bipush hx hb hd hv (k H locs ls h1 h2 h3 h4)
theorem k_sipush (C : KC cc nL own E) {n : Int} {v : Int32} (hd : decode cc pc = .ok (.sipush n, 3)) (hv : (Int16.ofInt n).toInt32 = v) (k : KW nL E kc ks (pc + 3) lv (.int v :: st) ws) : KW nL E kc ks pc lv st ws := by
  obtain ⟨p, l, e, R, s, m, args, below, meth, c, Q, ad0, cA, D, pre⟩ := E
  obtain ⟨hx, hb, -⟩ := C
  intro H locs ls h1 h2 h3 h4
  exact lv_sipush hx hb hd hv (k H locs ls h1 h2 h3 h4)
theorem k_dup (C : KC cc nL own E) {x : Nat} (hd : decode cc pc = .ok (.dup, 1)) (k : KW nL E kc ks (pc + 1) lv (.ref x :: .ref x :: st) ws) : KW nL E kc ks pc lv (.ref x :: st) ws := by
  obtain ⟨p, l, e, R, s, m, args, below, meth, c, Q, ad0, cA, D, pre⟩ := E
  obtain ⟨hx, hb, -⟩ := C
  intro H locs ls h1 h2 h3 h4
  exact lv_dup hx hb hd rfl (k H locs ls h1 h2 h3 h4)
theorem k_obj (C : KC cc nL own E) {i a : Nat} (hd : decode cc pc = .ok (.invokespecial i, 3)) (hw : Cond.methodLink own i objectInit ∈ gT ∧ Cond.instanceMethod objectInit ∈ gT ∧ Cond.code objectInit ⟨#[0xb1]⟩ 1 none ∈ gT) (hr : 1 ≤ (ER E).frames ∧ 12 ≤ (ER E).locals) (k : KW nL E kc ks (pc + 3) lv [] ws) : KW nL E kc ks pc lv [.ref a] ws := by
  obtain ⟨p, l, e, R, s, m, args, below, meth, c, Q, ad0, cA, D, pre⟩ := E
  obtain ⟨hx, hb, hml, ho, ht, -⟩ := C
  intro H locs ls h1 h2 h3 h4
  exact W.objInit hx hb ho (ht _ hw.1) (ht _ hw.2.1) (ht _ hw.2.2) rfl (by rw [hml]; exact h4.1) rfl hd hr.1 hr.2 (k H locs ls h1 h2 h3 h4)
theorem k_newI (C : KC cc nL own E) {n : Int32} (N : Nat) (hd : decode cc pc = .ok (.newarray .int, 2)) (hw : Cond.arrayClass .int ∈ gT) (hn : ¬ n < 0) (hN : n.toNatClampNeg = N) (hb0 : N * componentBytes .int ≤ 536870912) (hr : kc + 1 ≤ (ER E).cells ∧ ks + N ≤ (ER E).slots) (hl : E.2.2.2.2.2.2.2.2.2.2.2.2.2.2.length ≤ ws.length)
    (k : ∀ q, KW nL E (kc + 1) (ks + N) (pc + 2) lv (.ref q :: st) (ws ++ [(q, .inl (ECA E 0, N, .inl (fun _ => 0)))])) : KW nL E kc ks pc lv (.int n :: st) ws := by
  obtain ⟨p, l, e, R, s, m, args, below, meth, c, Q, ad0, cA, D, pre⟩ := E
  obtain ⟨hx, hb, hml, ho, ht, hK, -⟩ := C
  intro H locs ls h1 h2 h3 h4
  refine va_newa (atype := .int) (A := fun q => aW ws q ∨ s.heap.size ≤ q) (a0 := (N, .inl (fun _ => 0))) hx hb (ht _ hw) rfl hK h1 ((aW_D h2.1).weaken (fun _ _ _ h => Or.inl h)) (h3.wk (fun _ h => Or.inl h)) (fun _ h => Or.inr h) (fun _ => rfl) hn hN hb0 hr.1 hr.2 hd (fun q cB H1 hK1 hP1 hD1 hS1 => ?_)
  have e1 : cB = cA 0 := by
    have g1 := (hK1.2 2 (cB, .int) rfl).2
    have g2 := (hK.2 0 (cA 0, .int) rfl).2
    exact Option.some.inj (Eq.trans (Eq.symm g1) g2)
  rw [e1] at hP1 hD1
  exact k q H1 locs ls hP1 (h2.push hl hD1) (S_push h3 hS1) h4
theorem k_newZ (C : KC cc nL own E) {n : Int32} (N : Nat) (hd : decode cc pc = .ok (.newarray .boolean, 2)) (hw : Cond.arrayClass .boolean ∈ gT) (hn : ¬ n < 0) (hN : n.toNatClampNeg = N) (hb0 : N * componentBytes .boolean ≤ 536870912) (hr : kc + 1 ≤ (ER E).cells ∧ ks + N ≤ (ER E).slots) (hl : E.2.2.2.2.2.2.2.2.2.2.2.2.2.2.length ≤ ws.length)
    (k : ∀ q, KW nL E (kc + 1) (ks + N) (pc + 2) lv (.ref q :: st) (ws ++ [(q, .inl (ECA E 1, N, .inl (fun _ => 0)))])) : KW nL E kc ks pc lv (.int n :: st) ws := by
  obtain ⟨p, l, e, R, s, m, args, below, meth, c, Q, ad0, cA, D, pre⟩ := E
  obtain ⟨hx, hb, hml, ho, ht, hK, -⟩ := C
  intro H locs ls h1 h2 h3 h4
  refine va_newa (atype := .boolean) (A := fun q => aW ws q ∨ s.heap.size ≤ q) (a0 := (N, .inl (fun _ => 0))) hx hb (ht _ hw) rfl hK h1 ((aW_D h2.1).weaken (fun _ _ _ h => Or.inl h)) (h3.wk (fun _ h => Or.inl h)) (fun _ h => Or.inr h) (fun _ => rfl) hn hN hb0 hr.1 hr.2 hd (fun q cB H1 hK1 hP1 hD1 hS1 => ?_)
  have e1 : cB = cA 1 := by
    have g1 := (hK1.2 2 (cB, .boolean) rfl).2
    have g2 := (hK.2 1 (cA 1, .boolean) rfl).2
    exact Option.some.inj (Eq.trans (Eq.symm g1) g2)
  rw [e1] at hP1 hD1
  exact k q H1 locs ls hP1 (h2.push hl hD1) (S_push h3 hS1) h4
theorem k_new (C : KC cc nL own E) {i ci N : Nat} (fs : List Value) (hf : FNw own i ci N fs) (hd : decode cc pc = .ok (.new i, 3)) (hr : kc + 1 ≤ (ER E).cells ∧ ks + N ≤ (ER E).slots) (hl : E.2.2.2.2.2.2.2.2.2.2.2.2.2.2.length ≤ ws.length)
    (k : ∀ q, KW nL E (kc + 1) (ks + N) (pc + 3) lv (.ref q :: st) (ws ++ [(q, .inr (ci, fs))])) : KW nL E kc ks pc lv st ws := by
  obtain ⟨p, l, e, R, s, m, args, below, meth, c, Q, ad0, cA, D, pre⟩ := E
  obtain ⟨hx, hb, hml, ho, ht, hK, -⟩ := C
  obtain ⟨Cn, T, ty, ⟨c1, c2, c3, c4⟩, w1, w2, w3, hfs⟩ := hf
  intro H locs ls h1 h2 h3 h4
  refine va_new (A := fun q => aW ws q ∨ s.heap.size ≤ q) hx hb ht c2 ty c3 ho (ht _ w1) (ht _ w2) (ht _ w3) hK h1 ((aW_D h2.1).weaken (fun _ _ _ h => Or.inl h)) (h3.wk (fun _ h => Or.inl h)) (fun _ h => Or.inr h) c1 hfs hr.1 hr.2 hd (fun q H1 hP1 hD1 hS1 => ?_)
  exact k q H1 locs ls hP1 (h2.push hl hD1) (S_push h3 hS1) h4
theorem k_putF (C : KC cc nL own E) {i ci k a x : Nat} {fs : List Value} (q0 : Nat) (hf : FF own i ci k) (he : ws[q0]? = some (a, .inr (ci, fs))) (hl : k < fs.length) (hd : decode cc pc = .ok (.putfield i, 3)) (kk : KW nL E kc ks (pc + 3) lv st (ws.set q0 (a, .inr (ci, fs.set k (.ref x))))) : KW nL E kc ks pc lv (.ref x :: .ref a :: st) ws := by
  obtain ⟨p, l, e, R, s, m, args, below, meth, c, Q, ad0, cA, D, pre⟩ := E
  obtain ⟨hx, hb, hml, ho, ht, hK, hin, -⟩ := C
  obtain ⟨Cn, T, N, ty, ⟨c1, c2, c3, c4⟩, hkN, w1, f1, f2, f3⟩ := hf
  intro H locs ls h1 h2 h3 h4
  refine va_putF (D := D) (A := aW ws) hx hb ht c2 ty c3 c4 ho hK h1 (aW_D h2.1) h3 q0 he c1 k hkN (ht _ w1) (fun _ h => h) f1 hin f2 (c3 k hkN) (f3 x).1 (f3 x).2 hl hd (fun H1 locs1 hP1 hD1 hS1 => ?_)
  exact kk H1 locs1 ls hP1 (h2.set he) (hS1.wk (aW_set he)) h4
theorem k_putI (C : KC cc nL own E) {i ci k a : Nat} {v : Int32} {fs : List Value} (q0 : Nat) (hf : FP own i ci k .int) (he : ws[q0]? = some (a, .inr (ci, fs))) (hl : k < fs.length) (hd : decode cc pc = .ok (.putfield i, 3)) (kk : KW nL E kc ks (pc + 3) lv st (ws.set q0 (a, .inr (ci, fs.set k (.int v))))) : KW nL E kc ks pc lv (.int v :: .ref a :: st) ws := by
  obtain ⟨p, l, e, R, s, m, args, below, meth, c, Q, ad0, cA, D, pre⟩ := E
  obtain ⟨hx, hb, hml, ho, ht, hK, hin, -⟩ := C
  obtain ⟨Cn, T, N, ty, ⟨c1, c2, c3, c4⟩, hkN, w1, f1, f2⟩ := hf
  intro H locs ls h1 h2 h3 h4
  refine va_put (D := D) (A := aW ws) (ty := .int) hx hb ht c2 ty c3 c4 ho hK h1 (aW_D h2.1) h3 q0 he c1 k hkN (ht _ w1) (fun _ h => h) f1 (by rw [c3 k hkN, f2]) rfl rfl hl hd (fun H1 locs1 hP1 hD1 hS1 => ?_)
  exact kk H1 locs1 ls hP1 (h2.set he) (hS1.wk (aW_set he)) h4
theorem k_putZ (C : KC cc nL own E) {i ci k a : Nat} {fs : List Value} (q0 : Nat) (hf : FP own i ci k .boolean) (he : ws[q0]? = some (a, .inr (ci, fs))) (hl : k < fs.length) (hd : decode cc pc = .ok (.putfield i, 3)) (kk : KW nL E kc ks (pc + 3) lv st (ws.set q0 (a, .inr (ci, fs.set k (.int 0))))) : KW nL E kc ks pc lv (.int 0 :: .ref a :: st) ws := by
  obtain ⟨p, l, e, R, s, m, args, below, meth, c, Q, ad0, cA, D, pre⟩ := E
  obtain ⟨hx, hb, hml, ho, ht, hK, hin, -⟩ := C
  obtain ⟨Cn, T, N, ty, ⟨c1, c2, c3, c4⟩, hkN, w1, f1, f2⟩ := hf
  intro H locs ls h1 h2 h3 h4
  refine va_put (D := D) (A := aW ws) (ty := .boolean) (v := .int 0) hx hb ht c2 ty c3 c4 ho hK h1 (aW_D h2.1) h3 q0 he c1 k hkN (ht _ w1) (fun _ h => h) f1 (by rw [c3 k hkN, f2]) (by decide) (by decide) hl hd (fun H1 locs1 hP1 hD1 hS1 => ?_)
  exact kk H1 locs1 ls hP1 (h2.set he) (hS1.wk (aW_set he)) h4
theorem k_getR (C : KC cc nL own E) {i ci k a x : Nat} {fs : List Value} (q0 : Nat) (hf : FL own i ci k) (he : ws[q0]? = some (a, .inr (ci, fs))) (hv : fs[k]? = some (.ref x)) (hd : decode cc pc = .ok (.getfield i, 3)) (kk : KW nL E kc ks (pc + 3) lv (.ref x :: st) ws) : KW nL E kc ks pc lv (.ref a :: st) ws := by
  obtain ⟨p, l, e, R, s, m, args, below, meth, c, Q, ad0, cA, D, pre⟩ := E
  obtain ⟨hx, hb, hml, ho, ht, hK, hin, -⟩ := C
  obtain ⟨Cn, T, N, ty, ⟨c1, c2, c3, c4⟩, hkN, w1⟩ := hf
  intro H locs ls h1 h2 h3 h4
  exact va_get (D := D) hx hb ht c2 ho hK h1 q0 he c1 k hkN (ht _ w1) (fun _ h => h) hv hd (kk H locs ls h1 h2 h3 h4)
end K
