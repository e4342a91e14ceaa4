/-! rows of the abstract layer: fields, arrays, statics, switches, returns -/
def CI (ci : Nat) (C : String) (T : u_T) (N : Nat) (ty : Nat → FieldType) : Prop := vwCl[ci]? = some (C, T, N) ∧ (∀ w ∈ u_ws C T N, w ∈ gT) ∧ (∀ k, k < N → parseFieldDescriptor (T k).2.2.1 = some (ty k)) ∧ ∀ a, a < N → ∀ b, b < N → a ≠ b → (T a).2.1 ≠ (T b).2.1
def FL (own : String) (i ci k : Nat) : Prop := ∃ C T N ty, CI ci C T N ty ∧ k < N ∧ Cond.fieldLink own i (T k).1 (T k).2.1 (T k).2.2.1 ∈ gT
def FP (own : String) (i ci k : Nat) (t : FieldType) : Prop := ∃ C T N ty, CI ci C T N ty ∧ k < N ∧ Cond.fieldLink own i (T k).1 (T k).2.1 (T k).2.2.1 ∈ gT ∧ (T k).2.2.2 = false ∧ ty k = t
theorem b01_nar {v : Int} (h : v = 0 ∨ v = 1) : narrow .boolean (.int (Int32.ofInt v)) = .int (Int32.ofInt v) ∧ fits .boolean (.int (Int32.ofInt v)) = true ∧ vp_nar .boolean (Int32.ofInt v) = Int32.ofInt v := by
  rcases h with rfl | rfl <;> decide
section Rows
variable {sh : List Sh} {nL : Nat} {cc : ByteArray} {own : String} {fr lo : Nat} {E : EE} {pc : Nat} {lv : List (Option AV)} {st : List AV} {M : Mem}
theorem a_getI (C : Cx sh nL cc own fr lo E) {i ci k c : Nat} {kz : Int} {fs : List (Option Nat)} (hf : FL own i ci k) (hs : sh[c]? = some (.inr (ci, fs))) (hk : fs[k]? = some none) (hz : (k : Int) = kz) (hd : decode cc pc = .ok (.getfield i, 3)) (kk : AW sh nL E (pc + 3) lv (.inl (M c kz) :: st) M) : AW sh nL E pc lv (.inr c :: st) M := by
  obtain ⟨p, l, e, R, s, m, args, below, meth, c0, Q, ad, cA, D, kc, ks⟩ := E
  obtain ⟨hx, hb, hml, ho, ht, hK, -⟩ := C
  obtain ⟨Cn, T, N, ty, ⟨g1, g2, g3, g4⟩, g5, g6⟩ := hf
  subst hz
  intro H locs ls hP hS hL h1 h2 h3
  refine va_get (v := .int (Int32.ofInt (M c k))) hx hb ht g2 ho hK hP c (sW_at hs) g1 k g5 (ht _ g6) (fun _ h => h) ?_ hd (kk H locs ls hP hS hL h1 h2 (rS_cons.mpr ⟨h1 _ _, (rS_cons.mp h3).2⟩))
  rw [List.getElem?_mapIdx, hk]; rfl
theorem a_getR (C : Cx sh nL cc own fr lo E) {i ci k c : Nat} (d : Nat) {fs : List (Option Nat)} (hf : FL own i ci k) (hs : sh[c]? = some (.inr (ci, fs))) (hk : fs[k]? = some (some d)) (hd : decode cc pc = .ok (.getfield i, 3)) (kk : AW sh nL E (pc + 3) lv (.inr d :: st) M) : AW sh nL E pc lv (.inr c :: st) M := by
  obtain ⟨p, l, e, R, s, m, args, below, meth, c0, Q, ad, cA, D, kc, ks⟩ := E
  obtain ⟨hx, hb, hml, ho, ht, hK, -⟩ := C
  obtain ⟨Cn, T, N, ty, ⟨g1, g2, g3, g4⟩, g5, g6⟩ := hf
  intro H locs ls hP hS hL h1 h2 h3
  refine va_get (v := .ref (ad d)) hx hb ht g2 ho hK hP c (sW_at hs) g1 k g5 (ht _ g6) (fun _ h => h) ?_ hd (kk H locs ls hP hS hL h1 h2 (rS_cons.mpr ⟨trivial, (rS_cons.mp h3).2⟩))
  rw [List.getElem?_mapIdx, hk]; rfl
theorem a_put (C : Cx sh nL cc own fr lo E) {i ci k c : Nat} {kz v : Int} {t : FieldType} {fs : List (Option Nat)} (hf : FP own i ci k t) (hn : narrow t (.int (Int32.ofInt v)) = .int (Int32.ofInt v) ∧ fits t (.int (Int32.ofInt v)) = true) (hs : sh[c]? = some (.inr (ci, fs))) (hk : fs[k]? = some none) (hz : (k : Int) = kz) (hd : decode cc pc = .ok (.putfield i, 3)) (kk : AW sh nL E (pc + 3) lv st (mu M c kz v)) : AW sh nL E pc lv (.inl v :: .inr c :: st) M := by
  obtain ⟨p, l, e, R, s, m, args, below, meth, c0, Q, ad, cA, D, kc, ks⟩ := E
  obtain ⟨hx, hb, hml, ho, ht, hK, hA, -⟩ := C
  obtain ⟨Cn, T, N, ty, ⟨g1, g2, g3, g4⟩, g5, g6, g7, g8⟩ := hf
  subst hz
  intro H locs ls hP hS hL h1 h2 h3
  obtain ⟨hv, h3⟩ := rS_cons.mp h3
  obtain ⟨-, h3⟩ := rS_cons.mp h3
  refine va_put (ty := t) hx hb ht g2 ty g3 g4 ho hK hP (sW_D hA) hS c (sW_at hs) g1 k g5 (ht _ g6) (fun _ h => h) g7 (by rw [g3 k g5, g8]) hn.1 hn.2 (by rw [List.length_mapIdx]; exact (List.getElem?_eq_some_iff.mp hk).1) hd (fun H1 locs1 hP1 _ hS1 => ?_)
  have e1 := sW_fld (ad := ad) (cA := cA) (M := M) (v := v) hs hk
  exact kk H1 locs1 ls (by rw [← e1]; exact hP1) hS1 hL (rM_mu h1 hv) h2 h3
theorem a_putI (C : Cx sh nL cc own fr lo E) {i ci k c : Nat} {kz v : Int} {fs : List (Option Nat)} (hf : FP own i ci k .int) (hs : sh[c]? = some (.inr (ci, fs))) (hk : fs[k]? = some none) (hz : (k : Int) = kz) (hd : decode cc pc = .ok (.putfield i, 3)) (kk : AW sh nL E (pc + 3) lv st (mu M c kz v)) : AW sh nL E pc lv (.inl v :: .inr c :: st) M :=
  a_put C hf ⟨rfl, rfl⟩ hs hk hz hd kk
theorem a_putZ (C : Cx sh nL cc own fr lo E) {i ci k c : Nat} {kz v : Int} {fs : List (Option Nat)} (hf : FP own i ci k .boolean) (hv : v = 0 ∨ v = 1) (hs : sh[c]? = some (.inr (ci, fs))) (hk : fs[k]? = some none) (hz : (k : Int) = kz) (hd : decode cc pc = .ok (.putfield i, 3)) (kk : AW sh nL E (pc + 3) lv st (mu M c kz v)) : AW sh nL E pc lv (.inl v :: .inr c :: st) M :=
  a_put C hf ⟨(b01_nar hv).1, (b01_nar hv).2.1⟩ hs hk hz hd kk
theorem a_iald (C : Cx sh nL cc own fr lo E) {c n : Nat} {i : Int} (hs : sh[c]? = some (.inl (0, n))) (hi : inb i n) (hd : decode cc pc = .ok (.iaload, 1)) (kk : AW sh nL E (pc + 1) lv (.inl (M c i) :: st) M) : AW sh nL E pc lv (.inl i :: .inr c :: st) M := by
  obtain ⟨p, l, e, R, s, m, args, below, meth, c0, Q, ad, cA, D, kc, ks⟩ := E
  obtain ⟨hx, hb, hml, ho, ht, hK, hA, -⟩ := C
  intro H locs ls hP hS hL h1 h2 h3
  obtain ⟨hv, h3⟩ := rS_cons.mp h3
  obtain ⟨-, h3⟩ := rS_cons.mp h3
  have hv' : inR i := hv
  refine va_iald (n := n) hx hb hK hP c 0 (sW_at hs) rfl (vp_in_of_inb hv hi) hd ?_
  rw [of_clamp hv']
  have e1 : ((i.toNat : Nat) : Int) = i := Int.toNat_of_nonneg hi.1
  rw [e1]
  exact kk H locs ls hP hS hL h1 h2 (rS_cons.mpr ⟨h1 _ _, h3⟩)
theorem a_iast (C : Cx sh nL cc own fr lo E) {c n : Nat} {i v : Int} (hs : sh[c]? = some (.inl (0, n))) (hi : inb i n) (hd : decode cc pc = .ok (.iastore, 1)) (kk : AW sh nL E (pc + 1) lv st (mu M c i v)) : AW sh nL E pc lv (.inl v :: .inl i :: .inr c :: st) M := by
  obtain ⟨p, l, e, R, s, m, args, below, meth, c0, Q, ad, cA, D, kc, ks⟩ := E
  obtain ⟨hx, hb, hml, ho, ht, hK, hA, -⟩ := C
  intro H locs ls hP hS hL h1 h2 h3
  obtain ⟨hv, h3⟩ := rS_cons.mp h3
  obtain ⟨hir, h3⟩ := rS_cons.mp h3
  obtain ⟨-, h3⟩ := rS_cons.mp h3
  have hir' : inR i := hir
  refine va_iast (n := n) hx hb hK hP (sW_D hA) hS c 0 (sW_at hs) rfl (vp_in_of_inb hir hi) hd (fun H1 locs1 hP1 _ hS1 => ?_)
  rw [of_clamp hir'] at hP1
  have e1 := sW_arr (ad := ad) (cA := cA) (M := M) (v := v) hs hi.1
  exact kk H1 locs1 ls (by rw [← e1]; exact hP1) hS1 hL (rM_mu h1 hv) h2 h3
theorem a_zald (C : Cx sh nL cc own fr lo E) {c n : Nat} {i : Int} (hs : sh[c]? = some (.inl (1, n))) (hi : inb i n) (hd : decode cc pc = .ok (.baload, 1)) (kk : AW sh nL E (pc + 1) lv (.inl (M c i) :: st) M) : AW sh nL E pc lv (.inl i :: .inr c :: st) M := by
  obtain ⟨p, l, e, R, s, m, args, below, meth, c0, Q, ad, cA, D, kc, ks⟩ := E
  obtain ⟨hx, hb, hml, ho, ht, hK, hA, -⟩ := C
  intro H locs ls hP hS hL h1 h2 h3
  obtain ⟨hv, h3⟩ := rS_cons.mp h3
  obtain ⟨-, h3⟩ := rS_cons.mp h3
  have hv' : inR i := hv
  refine va_zald (n := n) hx hb hK hP c 1 (sW_at hs) rfl (vp_in_of_inb hv hi) hd ?_
  rw [of_clamp hv']
  have e1 : ((i.toNat : Nat) : Int) = i := Int.toNat_of_nonneg hi.1
  rw [e1]
  exact kk H locs ls hP hS hL h1 h2 (rS_cons.mpr ⟨h1 _ _, h3⟩)
theorem a_zast (C : Cx sh nL cc own fr lo E) {c n : Nat} {i v : Int} (hs : sh[c]? = some (.inl (1, n))) (hv01 : v = 0 ∨ v = 1) (hi : inb i n) (hd : decode cc pc = .ok (.bastore, 1)) (kk : AW sh nL E (pc + 1) lv st (mu M c i v)) : AW sh nL E pc lv (.inl v :: .inl i :: .inr c :: st) M := by
  obtain ⟨p, l, e, R, s, m, args, below, meth, c0, Q, ad, cA, D, kc, ks⟩ := E
  obtain ⟨hx, hb, hml, ho, ht, hK, hA, -⟩ := C
  intro H locs ls hP hS hL h1 h2 h3
  obtain ⟨hv, h3⟩ := rS_cons.mp h3
  obtain ⟨hir, h3⟩ := rS_cons.mp h3
  obtain ⟨-, h3⟩ := rS_cons.mp h3
  have hir' : inR i := hir
  refine va_zast (n := n) hx hb hK hP (sW_D hA) hS c 1 (sW_at hs) rfl (vp_in_of_inb hir hi) hd (fun H1 locs1 hP1 _ hS1 => ?_)
  rw [of_clamp hir', (b01_nar hv01).2.2] at hP1
  have e1 := sW_arr (ad := ad) (cA := cA) (M := M) (v := v) hs hi.1
  exact kk H1 locs1 ls (by rw [← e1]; exact hP1) hS1 hL (rM_mu h1 hv) h2 h3
theorem a_alen (C : Cx sh nL cc own fr lo E) {c t n : Nat} (nz : Int) {ty : FieldType} (hs : sh[c]? = some (.inl (t, n))) (hty : [FieldType.int, FieldType.boolean][t]? = some ty) (hz : (n : Int) = nz) (hr : inR nz) (hd : decode cc pc = .ok (.arraylength, 1)) (kk : AW sh nL E (pc + 1) lv (.inl nz :: st) M) : AW sh nL E pc lv (.inr c :: st) M := by
  obtain ⟨p, l, e, R, s, m, args, below, meth, c0, Q, ad, cA, D, kc, ks⟩ := E
  obtain ⟨hx, hb, hml, ho, ht, hK, hA, -⟩ := C
  subst hz
  intro H locs ls hP hS hL h1 h2 h3
  obtain ⟨-, h3⟩ := rS_cons.mp h3
  have hT : (tyS cA)[t]? = some (cA t, ty) := by
    match t, hty with
    | 0, h => cases h; rfl
    | 1, h => cases h; rfl
    | t + 2, h => simp at h
  exact va_alen hx hb hK hP c t (sW_at hs) hT rfl hd (kk H locs ls hP hS hL h1 h2 (rS_cons.mpr ⟨hr, h3⟩))
theorem roV_inR (c : Nat) (i : Int) : inR (roV c i) := by
  have key : ∀ l : List Int, (∀ z ∈ l, inR z) → inR (l.getD i.toNat 0) := by
    intro l h
    by_cases hi : i.toNat < l.length
    · rw [List.getD_eq_getElem?_getD, List.getElem?_eq_getElem hi]; exact h _ (List.getElem_mem hi)
    · rw [List.getD_eq_getElem?_getD, List.getElem?_eq_none (by omega)]; exact (by unfold inR; decide)
  unfold roV roL
  split
  · exact key _ (by unfold inR tkL; decide)
  split
  · exact key _ (by unfold inR cmL; decide)
  split
  · exact key _ (by unfold inR dgL; decide)
  split
  · exact key _ (by unfold inR fpL; decide)
  · exact key _ (by unfold inR sgL; decide)
theorem a_ti (C : Cx sh nL cc own fr lo E) {c : Nat} {i : Int} (hc : isRo c) (hi : inb i 15) (hd : decode cc pc = .ok (.iaload, 1)) (kk : AW sh nL E (pc + 1) lv (.inl (roV c i) :: st) M) : AW sh nL E pc lv (.inl i :: .inr c :: st) M := by
  obtain ⟨p, l, e, R, s, m, args, below, meth, c0, Q, ad, cA, D, kc, ks⟩ := E
  obtain ⟨hx, hb, hml, ho, ht, hK, hA, hRO, -⟩ := C
  intro H locs ls hP hS hL h1 h2 h3
  obtain ⟨hv, h3⟩ := rS_cons.mp h3
  obtain ⟨-, h3⟩ := rS_cons.mp h3
  have hv' : inR i := hv
  have e1 : ((i.toNat : Nat) : Int) = i := Int.toNat_of_nonneg hi.1
  refine va_ti hx hb (hRO.1 c hc).2 hS (vp_in_of_inb hv hi) (v := .int (Int32.ofInt (roV c i))) ?_ hd (kk H locs ls hP hS hL h1 h2 (rS_cons.mpr ⟨roV_inR _ _, h3⟩))
  rw [of_clamp hv', e1]
theorem a_gsN (C : Cx sh nL cc own fr lo E) {i : Nat} (c : Nat) (hc : isRo c) (hl : ∀ ad A U H, RO ad A U H → va_Nw (.fieldLinkNest own i "StackStates" (roN c) "[I" "StackStates") U) (hd : decode cc pc = .ok (.getstatic i, 3)) (kk : AW sh nL E (pc + 3) lv (.inr c :: st) M) : AW sh nL E pc lv st M := by
  obtain ⟨p, l, e, R, s, m, args, below, meth, c0, Q, ad, cA, D, kc, ks⟩ := E
  obtain ⟨hx, hb, hml, ho, ht, hK, hA, hRO, -⟩ := C
  intro H locs ls hP hS hL h1 h2 h3
  exact va_getsN hx hb (hRO.1 c hc).1 hS ho (va_Nw.use rfl (hl _ _ _ _ hRO)) (fun _ h => h) hd (kk H locs ls hP hS hL h1 h2 (rS_cons.mpr ⟨trivial, h3⟩))
theorem a_gsO (C : Cx sh nL cc own fr lo E) {i : Nat} (c : Nat) (hc : isRo c) (hl : Cond.fieldLink own i "StackStates" (roN c) "[I" ∈ gT) (hd : decode cc pc = .ok (.getstatic i, 3)) (kk : AW sh nL E (pc + 3) lv (.inr c :: st) M) : AW sh nL E pc lv st M := by
  obtain ⟨p, l, e, R, s, m, args, below, meth, c0, Q, ad, cA, D, kc, ks⟩ := E
  obtain ⟨hx, hb, hml, ho, ht, hK, hA, hRO, -⟩ := C
  intro H locs ls hP hS hL h1 h2 h3
  exact va_gets hx hb (hRO.1 c hc).1 hS ho (ht _ hl) (fun _ h => h) hd (kk H locs ls hP hS hL h1 h2 (rS_cons.mpr ⟨trivial, h3⟩))
theorem a_ldcS (C : Cx sh nL cc own fr lo E) {i : Nat} {tx : String} (c : Nat) (hl : ∀ ad A U H, RO ad A U H → vk_R own i tx (ad c) U) (hd : decode cc pc = .ok (.ldc i, 2)) (kk : AW sh nL E (pc + 2) lv (.inr c :: st) M) : AW sh nL E pc lv st M := by
  obtain ⟨p, l, e, R, s, m, args, below, meth, c0, Q, ad, cA, D, kc, ks⟩ := E
  obtain ⟨hx, hb, hml, ho, ht, hK, hA, hRO, -⟩ := C
  intro H locs ls hP hS hL h1 h2 h3
  exact va_ldcS hx hb ho (hl _ _ _ _ hRO) hd (kk H locs ls hP hS hL h1 h2 (rS_cons.mpr ⟨trivial, h3⟩))
theorem a_tsIn (C : Cx sh nL cc own fr lo E) {x dflt l0 h0 off : Int} {offs : Array Int} {len : Nat} (tgt : Nat) (z : Int) (hxz : x = z) (hd : decode cc pc = .ok (.tableswitch dflt l0 h0 offs, len)) (hi : ¬ z < l0 ∧ ¬ h0 < z ∧ offs[(z - l0).toNat]? = some off ∧ (pc : Int) + off = (tgt : Int)) (kk : AW sh nL E tgt lv st M) : AW sh nL E pc lv (.inl x :: st) M := by
  obtain ⟨p, l, e, R, s, m, args, below, meth, c0, Q, ad, cA, D, kc, ks⟩ := E
  obtain ⟨hx, hb, hml, ho, ht, hK, hA, hRO, -⟩ := C
  subst hxz
  intro H locs ls hP hS hL h1 h2 h3
  obtain ⟨hv, h3⟩ := rS_cons.mp h3
  have e1 : (Int32.ofInt x).toInt = x := tio hv
  exact lv_tableIn hx hb hd (by rw [e1]; exact hi.1) (by rw [e1]; exact hi.2.1) (by rw [e1]; exact hi.2.2.1) hi.2.2.2 (kk H locs ls hP hS hL h1 h2 h3)
theorem a_tsOut (C : Cx sh nL cc own fr lo E) {x dflt l0 h0 : Int} {offs : Array Int} {len : Nat} (tgt : Nat) (hd : decode cc pc = .ok (.tableswitch dflt l0 h0 offs, len)) (hi : x < l0 ∨ h0 < x) (htg : (pc : Int) + dflt = (tgt : Int)) (kk : AW sh nL E tgt lv st M) : AW sh nL E pc lv (.inl x :: st) M := by
  obtain ⟨p, l, e, R, s, m, args, below, meth, c0, Q, ad, cA, D, kc, ks⟩ := E
  obtain ⟨hx, hb, hml, ho, ht, hK, hA, hRO, -⟩ := C
  intro H locs ls hP hS hL h1 h2 h3
  obtain ⟨hv, h3⟩ := rS_cons.mp h3
  have e1 : (Int32.ofInt x).toInt = x := tio hv
  exact lv_tableOut hx hb hd (by rw [e1]; exact hi) htg (kk H locs ls hP hS hL h1 h2 h3)
theorem a_lk (C : Cx sh nL cc own fr lo E) {x dflt off : Int} {ps : Array (Int × Int)} {len : Nat} (tgt : Nat) (hd : decode cc pc = .ok (.lookupswitch dflt ps, len)) (hp : (ps.toList.zip (ps.toList.drop 1)).all (fun (a, next) => a.1 < next.1) = true) (hoff : Op.lookupswitch.offset ps.toList dflt x = off) (htg : (pc : Int) + off = (tgt : Int)) (kk : AW sh nL E tgt lv st M) : AW sh nL E pc lv (.inl x :: st) M := by
  obtain ⟨p, l, e, R, s, m, args, below, meth, c0, Q, ad, cA, D, kc, ks⟩ := E
  obtain ⟨hx, hb, hml, ho, ht, hK, hA, hRO, -⟩ := C
  intro H locs ls hP hS hL h1 h2 h3
  obtain ⟨hv, h3⟩ := rS_cons.mp h3
  have e1 : (Int32.ofInt x).toInt = x := tio hv
  exact lv_lookup hx hb hd hp (by rw [e1]; exact hoff) htg (kk H locs ls hP hS hL h1 h2 h3)
theorem a_iret (C : Cx sh nL cc own fr lo E) {R' : Int → Mem → Prop} (X : Rx sh (some .int) R' E) {x : Int} (hd : decode cc pc = .ok (.ireturn, 1)) (h : R' x M) : AW sh nL E pc lv [.inl x] M := by
  obtain ⟨p, l, e, R, s, m, args, below, meth, c0, Q, ad, cA, D, kc, ks⟩ := E
  obtain ⟨hx, hb, hml, ho, ht, hK, hA, hRO, hlk, -⟩ := C
  obtain ⟨x1, rfl⟩ := X
  intro H locs ls hP hS hL h1 h2 h3
  exact W.iret hx hb x1 (fun t htt _ => ⟨x, M, rfl, h, (rS_cons.mp h3).1, h1, by rw [htt]; exact hP, hS.F htt⟩) hS.2.2 hd hlk
theorem a_zret (C : Cx sh nL cc own fr lo E) {R' : Int → Mem → Prop} {ty : FieldType} (X : Rx sh (some ty) R' E) {x : Int} (hn : narrow ty (.int (Int32.ofInt x)) = .int (Int32.ofInt x)) (hd : decode cc pc = .ok (.ireturn, 1)) (h : R' x M) : AW sh nL E pc lv [.inl x] M := by
  obtain ⟨p, l, e, R, s, m, args, below, meth, c0, Q, ad, cA, D, kc, ks⟩ := E
  obtain ⟨hx, hb, hml, ho, ht, hK, hA, hRO, hlk, -⟩ := C
  obtain ⟨x1, rfl⟩ := X
  intro H locs ls hP hS hL h1 h2 h3
  exact W.zret hx hb x1 hn (fun t htt _ => ⟨x, M, rfl, h, (rS_cons.mp h3).1, h1, by rw [htt]; exact hP, hS.F htt⟩) hS.2.2 hd hlk
theorem a_bret (C : Cx sh nL cc own fr lo E) {R' : Int → Mem → Prop} (X : Rx sh (some .boolean) R' E) {x : Int} (hn : x = 0 ∨ x = 1) (hd : decode cc pc = .ok (.ireturn, 1)) (h : R' x M) : AW sh nL E pc lv [.inl x] M := a_zret C X (b01_nar hn).1 hd h
theorem a_vret (C : Cx sh nL cc own fr lo E) {R' : Int → Mem → Prop} (X : Rx sh none R' E) (hd : decode cc pc = .ok (.return_, 1)) (h : R' 0 M) : AW sh nL E pc lv [] M := by
  obtain ⟨p, l, e, R, s, m, args, below, meth, c0, Q, ad, cA, D, kc, ks⟩ := E
  obtain ⟨hx, hb, hml, ho, ht, hK, hA, hRO, hlk, -⟩ := C
  obtain ⟨x1, rfl⟩ := X
  intro H locs ls hP hS hL h1 h2 h3
  exact W.vret hx hb x1 (fun t htt _ => ⟨0, M, rfl, h, by unfold inR; decide, h1, by rw [htt]; exact hP, hS.F htt⟩) hS.2.2 hd hlk
/-! the String constants -/
theorem a_sval (C : Cx sh nL cc own fr lo E) {i c : Nat} (d : Nat) (hc : c = 110 ∧ d = 120 ∨ c = 111 ∧ d = 121) (hl : Cond.fieldLink own i "java/lang/String" "value" "[B" ∈ gT) (hd : decode cc pc = .ok (.getfield i, 3)) (kk : AW sh nL E (pc + 3) lv (.inr d :: st) M) : AW sh nL E pc lv (.inr c :: st) M := by
  obtain ⟨p, l, e, R, s, m, args, below, meth, c0, Q, ad, cA, D, kc, ks⟩ := E
  obtain ⟨hx, hb, hml, ho, ht, hK, hA, hRO, -⟩ := C
  intro H locs ls hP hS hL h1 h2 h3
  have k := kk H locs ls hP hS hL h1 h2 (rS_cons.mpr ⟨trivial, (rS_cons.mp h3).2⟩)
  rcases hc with ⟨rfl, rfl⟩ | ⟨rfl, rfl⟩
  · exact vk_getf hx hb (hRO.2.1.1 0 (by decide)).2.2.1 hS ho (ht _ hl) (fun _ h => h) hd k
  · exact vk_getf hx hb (hRO.2.1.1 1 (by decide)).2.2.1 hS ho (ht _ hl) (fun _ h => h) hd k
theorem a_scod (C : Cx sh nL cc own fr lo E) {i c : Nat} (hc : c = 110 ∨ c = 111) (hl : Cond.fieldLink own i "java/lang/String" "coder" "B" ∈ gT) (hd : decode cc pc = .ok (.getfield i, 3)) (kk : AW sh nL E (pc + 3) lv (.inl 0 :: st) M) : AW sh nL E pc lv (.inr c :: st) M := by
  obtain ⟨p, l, e, R, s, m, args, below, meth, c0, Q, ad, cA, D, kc, ks⟩ := E
  obtain ⟨hx, hb, hml, ho, ht, hK, hA, hRO, -⟩ := C
  intro H locs ls hP hS hL h1 h2 h3
  have k := kk H locs ls hP hS hL h1 h2 (rS_cons.mpr ⟨inr_b rfl, (rS_cons.mp h3).2⟩)
  rcases hc with rfl | rfl
  · exact vk_getf hx hb (hRO.2.1.1 0 (by decide)).2.1 hS ho (ht _ hl) (fun _ h => h) hd k
  · exact vk_getf hx hb (hRO.2.1.1 1 (by decide)).2.1 hS ho (ht _ hl) (fun _ h => h) hd k
theorem a_scs (C : Cx sh nL cc own fr lo E) {i : Nat} (hl : Cond.fieldLink own i "java/lang/String" "COMPACT_STRINGS" "Z" ∈ gT) (hd : decode cc pc = .ok (.getstatic i, 3)) (kk : AW sh nL E (pc + 3) lv (.inl 1 :: st) M) : AW sh nL E pc lv st M := by
  obtain ⟨p, l, e, R, s, m, args, below, meth, c0, Q, ad, cA, D, kc, ks⟩ := E
  obtain ⟨hx, hb, hml, ho, ht, hK, hA, hRO, -⟩ := C
  intro H locs ls hP hS hL h1 h2 h3
  exact va_gets hx hb hRO.2.2.2.2.1 hS ho (ht _ hl) (fun _ h => h) hd (kk H locs ls hP hS hL h1 h2 (rS_cons.mpr ⟨inr_b rfl, h3⟩))
theorem bytS_at (k : Nat) (i : Nat) : (bytS.getD k []).getD i 0 = Int32.ofInt (if k < 2 then roV (110 + k) i else 0) := by
  have key : ∀ l : List Int, (l.map Int32.ofInt).getD i 0 = Int32.ofInt (l.getD i 0) := by
    intro l
    rw [List.getD_eq_getElem?_getD, List.getD_eq_getElem?_getD, List.getElem?_map]
    cases l[i]? <;> rfl
  match k with
  | 0 => exact key fpL
  | 1 => exact key sgL
  | k + 2 =>
    have h1 : bytS.getD (k + 2) [] = [] := by
      rw [List.getD_eq_getElem?_getD, List.getElem?_eq_none (by show 2 ≤ k + 2; omega)]; rfl
    rw [h1, if_neg (by omega)]; rfl
theorem a_slen (C : Cx sh nL cc own fr lo E) {c : Nat} {nz : Int} (hc : c = 120 ∧ nz = 31 ∨ c = 121 ∧ nz = 15) (hd : decode cc pc = .ok (.arraylength, 1)) (kk : AW sh nL E (pc + 1) lv (.inl nz :: st) M) : AW sh nL E pc lv (.inr c :: st) M := by
  obtain ⟨p, l, e, R, s, m, args, below, meth, c0, Q, ad, cA, D, kc, ks⟩ := E
  obtain ⟨hx, hb, hml, ho, ht, hK, hA, hRO, -⟩ := C
  intro H locs ls hP hS hL h1 h2 h3
  have hz : inR nz := by rcases hc with ⟨-, rfl⟩ | ⟨-, rfl⟩ <;> exact inr_b rfl
  have k := kk H locs ls hP hS hL h1 h2 (rS_cons.mpr ⟨hz, (rS_cons.mp h3).2⟩)
  rcases hc with ⟨rfl, rfl⟩ | ⟨rfl, rfl⟩
  · exact va_tlen hx hb (hRO.2.1.1 0 (by decide)).2.2.2 hS rfl hd k
  · exact va_tlen hx hb (hRO.2.1.1 1 (by decide)).2.2.2 hS rfl hd k
theorem a_sb (C : Cx sh nL cc own fr lo E) {c n : Nat} {i : Int} (hc : c = 120 ∧ n = 31 ∨ c = 121 ∧ n = 15) (hi : inb i n) (hd : decode cc pc = .ok (.baload, 1)) (kk : AW sh nL E (pc + 1) lv (.inl (roV (c - 10) i) :: st) M) : AW sh nL E pc lv (.inl i :: .inr c :: st) M := by
  obtain ⟨p, l, e, R, s, m, args, below, meth, c0, Q, ad, cA, D, kc, ks⟩ := E
  obtain ⟨hx, hb, hml, ho, ht, hK, hA, hRO, -⟩ := C
  intro H locs ls hP hS hL h1 h2 h3
  obtain ⟨hv, h3⟩ := rS_cons.mp h3
  obtain ⟨-, h3⟩ := rS_cons.mp h3
  have hv' : inR i := hv
  have e1 : ((i.toNat : Nat) : Int) = i := Int.toNat_of_nonneg hi.1
  have k := kk H locs ls hP hS hL h1 h2 (rS_cons.mpr ⟨roV_inR _ _, h3⟩)
  rcases hc with ⟨rfl, rfl⟩ | ⟨rfl, rfl⟩
  · refine va_tb hx hb (hRO.2.1.1 0 (by decide)).2.2.2 hS (vp_in_of_inb hv hi) (v := .int (Int32.ofInt (roV 110 i))) ?_ hd k
    rw [of_clamp hv', bytS_at, if_pos (by decide), e1]
  · refine va_tb hx hb (hRO.2.1.1 1 (by decide)).2.2.2 hS (vp_in_of_inb hv hi) (v := .int (Int32.ofInt (roV 111 i))) ?_ hd k
    rw [of_clamp hv', bytS_at, if_pos (by decide), e1]
def b_i2b (x : Int) : Int := (Int32.ofInt x).toInt8.toInt32.toInt
theorem a_i2b (C : Cx sh nL cc own fr lo E) {x : Int} (hd : decode cc pc = .ok (.i2b, 1)) (kk : AW sh nL E (pc + 1) lv (.inl (b_i2b x) :: st) M) : AW sh nL E pc lv (.inl x :: st) M := by
  obtain ⟨p, l, e, R, s, m, args, below, meth, c, Q, ad, cA, D, kc, ks⟩ := E
  obtain ⟨hx, hb, -⟩ := C
  intro H locs ls hP hS hL h1 h2 h3
  refine lv_i2b hx hb hd rfl ?_
  have h := kk H locs ls hP hS hL h1 h2 (rS_cons.mpr ⟨toInt_inR _, (rS_cons.mp h3).2⟩)
  simp only [List.map_cons, cv, b_i2b, Int32.ofInt_toInt] at h
  exact h
theorem a_cret (C : Cx sh nL cc own fr lo E) {R' : Int → Mem → Prop} (X : Rx sh (some .char) R' E) {x : Int} (hn : 0 ≤ x ∧ x < 65536) (hd : decode cc pc = .ok (.ireturn, 1)) (h : R' x M) : AW sh nL E pc lv [.inl x] M := by
  refine a_zret C X ?_ hd h
  obtain ⟨q, rfl⟩ := Int.eq_ofNat_of_zero_le hn.1
  exact (pk_charN (q := q) (by omega)).1
end Rows
