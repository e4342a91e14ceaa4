/-! constructors: contracts, calls, and over to the abstract layer -/
def KPc (ad0 : Nat → Nat) (cA : Nat → ClassId) (D : va_G) (as : List Value) (pre : va_W) (sz : Nat) : Array Value → State → Prop :=
  va_Pc as (fun U => U.heap.size = sz ∧ va_P D vwCl pre U.heap ∧ va_K D vwCl (tyS cA) U ∧ va_D (fun _ => True) pre ∧ RO ad0 (va_A pre sz) U U.heap ∧ NX U)
def KQc (D : va_G) (pre : va_W) (post : List Nat → va_W → Prop) (sz : Nat) : Array Value → State → Outcome → State → Prop :=
  va_Qv (fun _ : Unit => True) (fun _ t => ∃ (qs : List Nat) (w : va_W), post qs w ∧ va_P D vwCl w t.heap ∧ KD pre sz w) (va_A pre sz)
def Kon (y : MethodName) (bytes : ByteArray) (maxL fr lo mc ms : Nat) (as : List Value) (pre : va_W) (post : (Nat → ClassId) → List Nat → va_W → Prop) : Prop :=
  ∀ (l : Launch) (ad0 : Nat → Nat) (cA : Nat → ClassId) (D : va_G) (sz : Nat), Met l y (.code y bytes maxL none :: gT) { frames := fr, cells := mc, slots := ms, locals := lo } (KPc ad0 cA D as pre sz) (KQc D pre (post cA) sz) mc ms (va_A pre sz)
def KRet (mc ms : Nat) (post : (Nat → ClassId) → List Nat → va_W → Prop) (E : EK) : Prop := match E with
  | (_, _, _, _, s, _, args, below, _, _, Q, _, cA, D, pre) => Q = MQ below (KQc D pre (post cA) s.heap.size) args s mc ms (va_A pre s.heap.size)
theorem Kon.of {y : MethodName} {bytes : ByteArray} {maxL fr lo mc ms : Nat} {as : List Value} {pre : va_W} {post : (Nat → ClassId) → List Nat → va_W → Prop} (own : String) (hy : plainFor y = true) (hown : y.cls = own) (hnm : y.name = "<init>") (hlen : (lg_sl as).length ≤ maxL)
    (body : ∀ E : EK, KC bytes maxL own E → ER E = { frames := fr, cells := mc, slots := ms, locals := lo } → E.2.2.2.2.2.2.2.2.2.2.2.2.2.2 = pre → KRet mc ms post E → KW maxL E 0 0 0 (lv_args 0 as) [] pre) : Kon y bytes maxL fr lo mc ms as pre post := by
  intro l ad0 cA D sz
  refine Met.ofWF (cc := bytes) (maxL := maxL) (ret := none) hy rfl ?_
  intro p e s m args below meth c s₁ B hml hv
  obtain ⟨rfl, hsz, hP, hK, hD, hRO, hN⟩ := hv
  have hts := atoms_spec (ws := .code y bytes maxL none :: gT) B.pre
  have ho : s.vm.findClass own = some m.cls := hown ▸ findClass_of_methodNamed B.named
  have hin : meth.name = "<init>" := by rw [← hnm]; exact (name_of_methodNamed B.named B.method).1
  have hl := lv_entry as (n := maxL) hlen
  rw [lg_entry_eq]
  generalize (lg_sl as ++ List.replicate (maxL - (lg_sl as).length) Slot.unset).toArray = ls at hl ⊢
  subst hsz
  have k := body (p, l, e, { frames := fr, cells := mc, slots := ms, locals := lo }, s, m, as.toArray, below, meth, c, MQ below (KQc D pre (post cA) s.heap.size) as.toArray s mc ms (va_A pre s.heap.size), ad0, cA, D, pre)
    ⟨B.exec, B.bytes, hml, ho, fun w hw => hts w (List.mem_cons_of_mem _ hw), hK, hin, B.notSynchronized, B.returns, hRO, hN⟩ rfl rfl rfl
  exact k s.heap [] ls hP ⟨hD.self, fun k x hk hp => absurd (List.getElem?_eq_some_iff.mp hk).1 (by omega), fun k x hk => ⟨x.2, hk⟩⟩ va_S.rf hl
section K
variable {nL : Nat} {cc : ByteArray} {own : String} {E : EK} {kc ks pc : Nat} {lv : List (Nat × Value)} {st : List Value} {ws : va_W}
theorem k_ret (C : KC cc nL own E) {mc ms : Nat} {post : (Nat → ClassId) → List Nat → va_W → Prop} (hR : KRet mc ms post E) (qs : List Nat) (hp : post (ECA E) qs ws) (hc : kc ≤ mc ∧ ks ≤ ms) (hd : decode cc pc = .ok (.return_, 1)) : KW nL E kc ks pc lv [] ws := by
  obtain ⟨p, l, e, R, s, m, args, below, meth, c, Q, ad0, cA, D, pre⟩ := E
  obtain ⟨hx, hb, hml, ho, ht, hK, hin, hlk, hrt, hRO, hN⟩ := C
  have hR : Q = MQ below (KQc D pre (post cA) s.heap.size) args s mc ms (va_A pre s.heap.size) := hR
  subst hR
  intro H locs ls h1 h2 h3 h4
  have h3' : va_S (va_A pre s.heap.size) s.heap H locs := h3.wk (fun q hq => by obtain ⟨k, x, hk⟩ := hq; exact h2.1.2 k _ hk)
  refine W.widen (k := mc) (n := ms) hc.1 hc.2 ?_
  exact W.vret hx hb hrt (fun t ht' _ => ⟨⟨(), rfl, trivial, qs, ws, hp, by rw [ht']; exact h1, h2⟩, h3'.F ht'⟩) h3'.2.2 hd hlk
end K
section Calls
variable {p : Program} {l : Launch} {e : Env} {R : Room} {s : State} {m : MethodId} {args : Array Value} {below : List Frame} {meth : Method} {c : Code} {H : Heap} {locs : List Loc} {Q : State → Prop} {kc ks mc ms : Nat}
theorem k_run {A1 : Nat → Prop} {free : Addr → Prop} {B : Unit → State → Prop} {a : Array Value} {pc : Nat} {ls : Array Slot} {st0 rest : List Value}
    (hr : va_Run p l e R s m args below meth c H locs kc ks mc ms (F0 m pc ls st0) rest (va_Qv (fun _ : Unit => True) B A1 a) free) (hf : ∀ q, free q → s.heap.size ≤ q)
    (kk : ∀ (t : State), B () t → H.size ≤ t.heap.size → (∀ q : Nat, q < H.size → ¬ A1 q → t.heap[q]? = H[q]?) → W p l e R s m args below meth c t.heap locs (kc + mc) (ks + ms) Q (F0 m (pc + 3) ls rest)) : W p l e R s m args below meth c H locs kc ks Q (F0 m pc ls st0) := by
  intro T hT X
  obtain ⟨v, st₀, t, T', L, h0, X', hL, e1, e2, ⟨⟨u, hv, hp, hb⟩, hz, hk⟩, st⟩ := hr T hT X
  cases hv
  rw [h0] at hz hk
  obtain ⟨t2, a1, b1⟩ := kk t hb hz hk T' e1 (Stand.forget X' (fun q hq => hf _ (hL q hq)))
  exact ⟨t2, st t2 a1, b1⟩
end Calls
/-- the words of a constructor that is called -/
def MWi (y : MethodName) (bytes : ByteArray) (maxL n : Nat) : Prop := MW y bytes maxL none n ∧ Cond.instanceMethod y ∈ gT ∧ y.name = "<init>"
theorem KPc.blind {ad0 : Nat → Nat} {cA : Nat → ClassId} {D : va_G} {as : List Value} {pre : va_W} {sz : Nat} : FrameBlind (KPc ad0 cA D as pre sz) := by
  intro a U g mk h
  obtain ⟨h0, h1, h2, h3, h4, h5, h6⟩ := h
  exact ⟨h0, h1, h2, va_K.moved (u := U) (U := U.calling g mk a) (Vm.Alike.refl U.vm) h3, h4, RO.same (u := U) (U := U.calling g mk a) rfl h5, NX.same (u := U) (U := U.calling g mk a) rfl h6⟩
theorem W_words {y : MethodName} {bytes : ByteArray} {maxL : Nat} {s : State} {args : Array Value} (h1 : Cond.code y bytes maxL none ∈ gT) (ht : ∀ w ∈ gT, w.before args s = true) : ∀ w ∈ (Cond.code y bytes maxL none :: gT), ∀ (a' : Array Value) (U : State), s.WarmedH U.vm → w.before a' U = true := by
  intro w hw a' U hW
  have hw' : w ∈ gT := (List.mem_cons.mp hw).elim (fun q => q ▸ h1) id
  exact word_at hW (gT_good hw') (ht w hw')
section K
variable {nL : Nat} {cc : ByteArray} {own : String} {E : EK} {kc ks pc : Nat} {lv : List (Nat × Value)} {ws : va_W}
theorem at_idx {ws w : va_W} {is : List Nat} (hs : is.map (fun i => ws[i]?) = w.map some) (k : Nat) (q : Nat × va_E) (hq : w[k]? = some q) : ∃ i, is[k]? = some i ∧ ws[i]? = some q := by
  have h1 : (is.map (fun i => ws[i]?))[k]? = some (some q) := by rw [hs, List.getElem?_map, hq]; rfl
  rw [List.getElem?_map] at h1
  cases hi : is[k]? with
  | none => rw [hi] at h1; cases h1
  | some i => rw [hi] at h1; exact ⟨i, rfl, Option.some.inj h1⟩
theorem idx_at {ws w : va_W} {is : List Nat} (hs : is.map (fun i => ws[i]?) = w.map some) (k i : Nat) (hk : is[k]? = some i) : ∃ q, w[k]? = some q ∧ ws[i]? = some q := by
  have h1 : (is.map (fun i => ws[i]?))[k]? = some (ws[i]?) := by rw [List.getElem?_map, hk]; rfl
  rw [hs, List.getElem?_map] at h1
  cases hq : w[k]? with
  | none => rw [hq] at h1; cases h1
  | some q => rw [hq] at h1; exact ⟨q, rfl, (Option.some.inj h1).symm⟩
/-- behind a call of a constructor -/
theorem k_join {pre0 pre ws wr w1 : va_W} {D : va_G} {H0 H H1 : Heap} {locs : List Loc} (hP : va_P D vwCl ws H) (hD : KD pre0 H0.size ws) (hS : va_S (aW ws) H0 H locs) (isC isR : List Nat) (hC : isC.map (fun i => ws[i]?) = pre.map some) (hR : isR.map (fun i => ws[i]?) = wr.map some) (hn : va_nd isR = true) (hdis : ∀ i ∈ isR, i ∉ isC) (hfr : ∀ i ∈ isC, pre0.length ≤ i) (hrr : ∀ i ∈ isR.drop pre0.length, pre0.length ≤ i) (hid : ∀ k, k < pre0.length → isR[k]? = some k) (hcov : ∀ i, i < ws.length → i ∈ isR ∨ i ∈ isC)
    (hz : H.size ≤ H1.size) (hk : ∀ q : Nat, q < H.size → ¬ va_A pre H.size q → H1[q]? = H[q]?) (hP1 : va_P D vwCl w1 H1) (hD1 : KD pre H.size w1) : va_P D vwCl (wr ++ w1) H1 ∧ KD pre0 H0.size (wr ++ w1) ∧ va_S (aW (wr ++ w1)) H0 H1 locs := by
  have preF : ∀ (k : Nat) (x : Nat × va_E), pre[k]? = some x → H0.size ≤ x.1 := fun k x hx => by
    obtain ⟨i, h1, h2⟩ := at_idx hC k x hx
    exact hD.2.1 i x h2 (hfr i (List.mem_of_getElem? h1))
  have freeF : ∀ q, va_A pre H.size q → H0.size ≤ q := fun q hq => by
    rcases hq with ⟨k, x, hx⟩ | hq
    · exact preF k _ hx
    · exact Nat.le_trans hS.1 hq
  have hF : ∀ q, va_A pre H.size q → va_A pre0 H0.size q := fun q hq => Or.inr (freeF q hq)
  obtain ⟨g1, g2⟩ := va_join hP hD.1 isC isR hC hR hn hdis hk hF hP1 hD1.1
  have inR : ∀ (i : Nat) (x : Nat × va_E), ws[i]? = some x → i ∈ isR → aW (wr ++ w1) x.1 := fun i x hx hi => by
    obtain ⟨k, hk'⟩ := List.getElem?_of_mem hi
    obtain ⟨q, q1, q2⟩ := idx_at hR k i hk'
    rw [hx] at q2
    cases q2
    exact aW_app ⟨k, x.2, q1⟩
  have lenR : isR.length = wr.length := by have := congrArg List.length hR; simpa using this
  refine ⟨g1, ⟨g2, fun k x hx hp => ?_, fun k x hx => ?_⟩, Nat.le_trans hS.1 hz, fun q h1 h2 => ?_, fun q hq => ?_⟩
  · by_cases z : k < wr.length
    · rw [List.getElem?_append_left z] at hx
      obtain ⟨i, i1, i2⟩ := at_idx hR k x hx
      refine hD.2.1 i x i2 (hrr i ?_)
      refine List.mem_of_getElem? (i := k - pre0.length) ?_
      rw [List.getElem?_drop, show pre0.length + (k - pre0.length) = k by omega]; exact i1
    · rw [List.getElem?_append_right (by omega)] at hx
      exact freeF x.1 (hD1.1.2 _ x hx)
  · obtain ⟨e2, h2⟩ := hD.2.2 k x hx
    have hkl := (List.getElem?_eq_some_iff.mp hx).1
    obtain ⟨y, y1, y2⟩ := idx_at hR k k (hid k hkl)
    rw [h2] at y2
    cases y2
    exact ⟨e2, by rw [List.getElem?_append_left (List.getElem?_eq_some_iff.mp y1).1]; exact y1⟩
  · rw [hk q (Nat.lt_of_lt_of_le h1 hS.1) (fun z => by have := freeF q z; omega)]
    refine hS.2.1 q h1 (fun z => h2 ?_)
    obtain ⟨i, x, hx⟩ := z
    rcases hcov i (List.getElem?_eq_some_iff.mp hx).1 with w | w
    · exact inR i _ hx w
    · have := hD.2.1 i _ hx (hfr i w)
      have : H0.size ≤ q := this
      omega
  · obtain ⟨i, x, hx⟩ := hS.2.2 q hq
    rcases hcov i (List.getElem?_eq_some_iff.mp hx).1 with w | w
    · exact inR i _ hx w
    · obtain ⟨k, hk'⟩ := List.getElem?_of_mem w
      obtain ⟨y, y1, y2⟩ := idx_at hC k i hk'
      rw [hx] at y2
      cases y2
      obtain ⟨e2, h2⟩ := hD1.2.2 k _ y1
      refine ⟨wr.length + k, e2, ?_⟩
      rw [List.getElem?_append_right (by omega), show wr.length + k - wr.length = k by omega]; exact h2
/-- a call of a constructor of a nest mate that is private (host given), or of another -/
theorem k_ctor (C : KC cc nL own E) {y : MethodName} {bytes : ByteArray} {maxL n i f2 l2 mc ms b : Nat} {As rest : List Value} {pre wr : va_W} {post : (Nat → ClassId) → List Nat → va_W → Prop} (hd : decode cc pc = .ok (.invokespecial i, 3)) (hM : Kon y bytes maxL f2 l2 mc ms (.ref b :: As) pre post) (hy : MWi y bytes maxL n)
    (hl : Cond.methodLink own i y ∈ gT ∨ ∃ host, ∀ U, NX U → va_Nw (.methodLinkNest own i y host) U) (hn : As.length = n ∧ f2 + 1 ≤ (ER E).frames ∧ 8 + (maxL + 11) + l2 ≤ (ER E).locals ∧ kc + mc ≤ (ER E).cells ∧ ks + ms ≤ (ER E).slots) (hst : ((rest.map fun v => v.category).sum) ≤ 8)
    (isC isR : List Nat) (hC : isC.map (fun i => ws[i]?) = pre.map some) (hR : isR.map (fun i => ws[i]?) = wr.map some) (hnd : va_nd isR = true ∧ va_nd isC = true) (hdis : ∀ i ∈ isR, i ∉ isC) (hp0 : E.2.2.2.2.2.2.2.2.2.2.2.2.2.2.length = 1) (hfr : ∀ i ∈ isC, 1 ≤ i) (hrr : ∀ i ∈ isR.drop 1, 1 ≤ i) (hid : isR[0]? = some 0) (hcov : ∀ i, i < ws.length → i ∈ isR ∨ i ∈ isC)
    (k : ∀ qs w, post (ECA E) qs w → KW nL E (kc + mc) (ks + ms) (pc + 3) lv rest (wr ++ w)) : KW nL E kc ks pc lv (As.reverse ++ .ref b :: rest) ws := by
  obtain ⟨p, l, e, R, s, m, args, below, meth, c, Q, ad0, cA, D, pre0⟩ := E
  obtain ⟨hx, hb, hml, ho, ht, hK, hin, hlk, hrt, hRO, hN⟩ := C
  have hp0 : pre0.length = 1 := hp0
  obtain ⟨n1, n2, n3, n4, n5⟩ := hn
  intro H locs ls h1 h2 h3 h4
  obtain ⟨⟨w1, w2, w3, w4⟩, w5, w6⟩ := hy
  have preF : ∀ (k : Nat) (x : Nat × va_E), pre[k]? = some x → s.heap.size ≤ x.1 := fun k x hx => by
    obtain ⟨i, h1', h2'⟩ := at_idx hC k x hx
    exact h2.2.1 i x h2' (by rw [hp0]; exact hfr i (List.mem_of_getElem? h1'))
  have freeF : ∀ q, va_A pre H.size q → s.heap.size ≤ q := fun q hq => by
    rcases hq with ⟨k, x, hx⟩ | hq
    · exact preF k _ hx
    · exact Nat.le_trans h3.1 hq
  have hPc : va_P D vwCl pre H := fun k x hx => by
    obtain ⟨i, i1, i2⟩ := at_idx hC k x hx
    exact h1 i x i2
  have hDc : va_D (fun _ => True) pre := (h2.1.sub isC hnd.2 hC).weaken (fun _ _ _ _ => trivial)
  have hS' : va_S (va_A pre0 s.heap.size) s.heap H locs := h3.wk (fun q hq => by obtain ⟨k, x, hk⟩ := hq; exact h2.1.2 k _ hk)
  have hpre : ∀ U : State, U.heap = H → s.WarmedH U.vm → KPc ad0 cA D (.ref b :: As) pre H.size (.ref b :: As : List Value).toArray U := fun U hU hW =>
    ⟨rfl, by rw [hU], by rw [hU]; exact hPc, va_K.moved hW.alike hK, hDc, by rw [hU]; exact ((hRO.warm hW).kept hS'.2.1).narrow (fun q hq => Or.inr (freeF q hq)), hN.warm hW⟩
  have fin : ∀ t : State, (∃ (qs : List Nat) (w : va_W), post cA qs w ∧ va_P D vwCl w t.heap ∧ KD pre H.size w) → H.size ≤ t.heap.size → (∀ q : Nat, q < H.size → ¬ va_A pre H.size q → t.heap[q]? = H[q]?) → W p l e R s m args below meth c t.heap locs (kc + mc) (ks + ms) Q (F0 m (pc + 3) ls rest) := by
    intro t hB hz hkk
    obtain ⟨qs, w, q1, q2, q3⟩ := hB
    obtain ⟨r1, r2, r3⟩ := k_join h1 h2 h3 isC isR hC hR hnd.1 hdis (by rw [hp0]; exact hfr) (by rw [hp0]; exact hrr) (by rw [hp0]; intro k hk; rw [show k = 0 by omega]; exact hid) hcov hz hkk q2 q3
    exact k qs w q1 t.heap locs ls r1 r2 r3 h4
  have hlen : ∀ sig, parseMethodDescriptor y.desc = some sig → n = sig.parameters.length := fun sig hs => by rw [hs] at w4; exact (Option.some.inj w4).symm
  rcases hl with hl | ⟨host, hl⟩
  · refine k_run (B := fun _ t => ∃ (qs : List Nat) (w : va_W), post cA qs w ∧ va_P D vwCl w t.heap ∧ KD pre H.size w) (va_runI (Ts := gT) ⟨hx, hb, hml, ho, ht⟩ (hM l ad0 cA D H.size) ⟨⟨rfl, rfl, n2, n3, W_words w1 ht, List.mem_cons_self, ht _ w1, ht _ w2, w3, hlen, ht _ hl⟩, w6, ht _ w5⟩ ⟨KPc.blind, hpre⟩ rfl n1 h4.1 rfl (lv_room hst) hd ⟨n4, n5⟩) freeF (fun t hB hz hkk => fin t hB hz hkk)
  · refine k_run (B := fun _ t => ∃ (qs : List Nat) (w : va_W), post cA qs w ∧ va_P D vwCl w t.heap ∧ KD pre H.size w) (va_runIN (Ts := gT) (host := host) ⟨hx, hb, hml, ho, ht⟩ (hM l ad0 cA D H.size) ⟨⟨⟨rfl, rfl, n2, n3, W_words w1 ht, List.mem_cons_self⟩, ht _ w1, ht _ w2, w3, hlen, va_Nw.use rfl (hl s hN)⟩, w6, ht _ w5⟩ ⟨KPc.blind, hpre⟩ rfl n1 h4.1 rfl (lv_room hst) hd ⟨n4, n5⟩) freeF (fun t hB hz hkk => fin t hB hz hkk)
end K
