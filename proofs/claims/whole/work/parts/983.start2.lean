/-! the law's start -/
theorem mil_X7 : MWi yX7_init cX7_init 2 0 := ⟨⟨gI 95 (by decide +kernel) rfl, gI 74 (by decide +kernel) rfl, ⟨by decide +kernel, by decide +kernel⟩, by decide +kernel⟩, gI 94 (by decide +kernel) rfl, rfl⟩
theorem mil_X8 : MWi yX8_init cX8_init 1 0 := ⟨⟨gI 980 (by decide +kernel) rfl, gI 89 (by decide +kernel) rfl, ⟨by decide +kernel, by decide +kernel⟩, by decide +kernel⟩, gI 979 (by decide +kernel) rfl, rfl⟩
theorem lil_X7 : Cond.methodLink R_law 9 yX7_init ∈ gT := gI 93 (by decide +kernel) rfl
theorem lil_X8 : Cond.methodLink R_law 12 yX8_init ∈ gT := gI 978 (by decide +kernel) rfl
theorem zq_swX (zl : List Nat) (a a' : Nat → Nat) (cA : Nat → ClassId) (M : Mem) : sW shX (zqA zl a) cA M = sW shX (zqA zl a') cA M := by rw [sW_X, sW_X]; rfl
theorem zq_swM (zl : List Nat) (a a' : Nat → Nat) (cA : Nat → ClassId) (M : Mem) : sW shM (zqA zl a) cA M = sW shM (zqA zl a') cA M := by rw [sW_M, sW_M]; rfl
section Calls
variable {p : Program} {l : Launch} {e : Env} {s : State} {m : MethodId} {below : List Frame} {meth : Method} {c : Code} {b : Nat} {H : Heap} {Q : State → Prop} {kc ks mc ms : Nat}
theorem l_ctor {D : va_G} {cA : Nat → ClassId} {ad0 : Nat → Nat} (hx : p.tables.exec = Jvm.exec) (hb : c.code = code) (hml : c.maxLocals = 4) (ho : s.vm.findClass R_law = some m.cls) (ht : ∀ w ∈ gT, w.before #[Value.ref b] s = true) (hK : va_K D vwCl (tyS cA) s) (hRO : RO ad0 (fun q : Nat => s.heap.size ≤ q) s s.heap) (hNX : NX s)
    {y : MethodName} {bytes : ByteArray} {maxL f2 l2 pc j q0 ci : Nat} {fs : List Value} {post : (Nat → ClassId) → List Nat → va_W → Prop} (hM : Kon y bytes maxL f2 l2 mc ms [.ref q0] [(q0, .inr (ci, fs))] post) (hy : MWi y bytes maxL 0) (hl : Cond.methodLink R_law j y ∈ gT) {ls : Array Slot} (hf : s.heap.size ≤ q0) (hP : va_P D vwCl [(q0, .inr (ci, fs))] H) (hfr : s.heap.size ≤ H.size ∧ ∀ q : Nat, q < s.heap.size → H[q]? = s.heap[q]?) (hls : ls.size = 4) (hn : f2 + 1 ≤ 12 ∧ 8 + (maxL + 11) + l2 ≤ 460 ∧ kc + mc ≤ 76 ∧ ks + ms ≤ 7275) (hd : decode code pc = .ok (.invokespecial j, 3))
    (kk : ∀ (H1 : Heap) (qs : List Nat) (w : va_W), post cA qs w → va_P D vwCl w H1 → KD [(q0, .inr (ci, fs))] H.size w → H.size ≤ H1.size → (∀ q : Nat, q < H.size → q ≠ q0 → H1[q]? = H[q]?) → W p l e room_1 s m #[Value.ref b] below meth c H1 [] (kc + mc) (ks + ms) Q (F0 m (pc + 3) ls [.ref q0])) : W p l e room_1 s m #[Value.ref b] below meth c H [] kc ks Q (F0 m pc ls [.ref q0, .ref q0]) := by
  obtain ⟨n2, n3, n4, n5⟩ := hn
  obtain ⟨⟨w1, w2, w3, w4⟩, w5, w6⟩ := hy
  have at0 : ∀ (k : Nat) (x : Nat × va_E), ([(q0, .inr (ci, fs))] : va_W)[k]? = some x → k = 0 ∧ x.1 = q0 := fun k x hk => by
    have hz : k < 1 := (List.getElem?_eq_some_iff.mp hk).1
    have e0 : k = 0 := by omega
    subst e0
    cases hk
    exact ⟨rfl, rfl⟩
  have freeF : ∀ q, va_A [(q0, .inr (ci, fs))] H.size q → s.heap.size ≤ q := fun q hq => by
    rcases hq with ⟨k, x, hk⟩ | hq
    · have := (at0 k _ hk).2
      have : q = q0 := this
      omega
    · exact Nat.le_trans hfr.1 hq
  have hDc : va_D (fun _ => True) ([(q0, .inr (ci, fs))] : va_W) := ⟨fun i j p q hi hj _ => by rw [(at0 i p hi).1, (at0 j q hj).1], fun _ _ _ => trivial⟩
  have hlen : ∀ sig, parseMethodDescriptor y.desc = some sig → 0 = sig.parameters.length := fun sig hs => by rw [hs] at w4; exact (Option.some.inj w4).symm
  have hpre : ∀ U : State, U.heap = H → s.WarmedH U.vm → KPc ad0 cA D [.ref q0] [(q0, .inr (ci, fs))] H.size ([.ref q0] : List Value).toArray U := fun U hU hW =>
    ⟨rfl, by rw [hU], by rw [hU]; exact hP, va_K.moved hW.alike hK, hDc, by rw [hU]; exact ((hRO.warm hW).kept (fun a ha _ => hfr.2 a ha)).narrow freeF, hNX.warm hW⟩
  refine k_run (B := fun _ t => ∃ (qs : List Nat) (w : va_W), post cA qs w ∧ va_P D vwCl w t.heap ∧ KD [(q0, .inr (ci, fs))] H.size w) (va_runI (As := []) (rest := [.ref q0]) (Ts := gT) ⟨hx, hb, hml, ho, ht⟩ (hM l ad0 cA D H.size) ⟨⟨rfl, rfl, n2, n3, W_words w1 ht, List.mem_cons_self, ht _ w1, ht _ w2, w3, hlen, ht _ hl⟩, w6, ht _ w5⟩ ⟨KPc.blind, hpre⟩ rfl rfl hls rfl (lv_room (Nat.le_of_ble_eq_true rfl)) hd ⟨n4, n5⟩) freeF (fun t hB hz hkk => ?_)
  obtain ⟨qs, w, q1, q2, q3⟩ := hB
  refine kk t.heap qs w q1 q2 q3 hz (fun q hq hne => hkk q hq (fun z => ?_))
  rcases z with ⟨k, x, hk⟩ | z
  · exact hne (at0 k _ hk).2
  · omega
end Calls
/-- what a world is worth behind its constructor -/
theorem world_of {sh : List Sh} {ad : Nat → Nat} {cA : Nat → ClassId} {M : Mem} {D : va_G} {q0 sz ci : Nat} {fs : List Value} {H : Heap} (hP : va_P D vwCl (sW sh ad cA M) H) (h : KD [(q0, .inr (ci, fs))] sz (sW sh ad cA M)) : Ap sh ad ∧ (∀ q, aS sh ad q → q = q0 ∨ sz ≤ q) ∧ ∀ q, aS sh ad q → q < H.size := by
  refine ⟨fun i j hi hj hij => h.1.1 i j _ _ (sW_at (List.getElem?_eq_getElem hi)) (sW_at (List.getElem?_eq_getElem hj)) hij, fun q hq => ?_, fun q hq => ?_⟩
  · obtain ⟨k, k1, rfl⟩ := hq
    rcases h.1.2 k _ (sW_at (List.getElem?_eq_getElem k1)) with ⟨j, x, hj⟩ | z
    · refine Or.inl ?_
      have hz : j < 1 := (List.getElem?_eq_some_iff.mp hj).1
      have e0 : j = 0 := by omega
      subst e0
      cases hj
      rfl
    · exact Or.inr z
  · obtain ⟨k, k1, rfl⟩ := hq
    exact (hP k _ (sW_at (List.getElem?_eq_getElem k1))).lt
