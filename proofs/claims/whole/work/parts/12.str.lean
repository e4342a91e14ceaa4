/-! String.checkIndex, whose last argument is a reference or null that nobody looks at -/
set_option maxHeartbeats 4000000 in
theorem met_checkIndex (l : Launch) (i n : Int32) (w : Value) (hw : w.category = 1) (h0 : ¬ i < 0) (h1 : i < n) : Met l yJ3_checkIndex_8e157 (.code yJ3_checkIndex_8e157 cJ3_checkIndex_8e157 3 (some .int) :: gT) { frames := 0, cells := 0, slots := 0, locals := 0 } (fun v _ => v = ([.int i, .int n, w] : List Value).toArray) (QcRead i) 0 0 (fun _ => False) := by
  refine Met.ofWF (cc := cJ3_checkIndex_8e157) (maxL := 3) (ret := some .int) (by decide +kernel) rfl ?_
  intro p e s m args below meth c s₁ B hml hv
  subst hv
  have hx := B.exec
  have hb := B.bytes
  have hr := B.returns
  have hlocks := B.notSynchronized
  have hlen : (lg_sl [.int i, .int n, w]).length = 3 := by
    unfold lg_sl
    rw [List.flatMap_cons, List.flatMap_cons, List.flatMap_cons, if_neg (show ¬ (Value.int i).category = 2 from by show ¬ (1 = 2); decide), if_neg (show ¬ (Value.int n).category = 2 from by show ¬ (1 = 2); decide), if_neg (by rw [hw]; decide)]
    rfl
  have hl := lv_entry ([.int i, .int n, w]) (n := 3) (by rw [hlen]; exact Nat.le_refl _)
  rw [lg_entry_eq]
  generalize (lg_sl [.int i, .int n, w] ++ List.replicate (3 - (lg_sl [.int i, .int n, w]).length) Slot.unset).toArray = ls at hl ⊢
  have hl0 : ls[0]? = some (.val (.int i)) := lv_at hl 0 rfl
  have hl1 : ls[1]? = some (.val (.int n)) := lv_at hl 1 rfl
  refine lv_iload_n hx hb dJ3_checkIndex_8e157_0 rfl hl0 ?_
  refine lv_if_lt (tgt := 9) hx hb dJ3_checkIndex_8e157_1 (by decide) (fun q => absurd q h0) (fun _ => ?_)
  refine lv_iload_n hx hb dJ3_checkIndex_8e157_4 rfl hl0 ?_
  refine lv_iload_n hx hb dJ3_checkIndex_8e157_5 rfl hl1 ?_
  refine lv_icmp_lt (tgt := 16) hx hb dJ3_checkIndex_8e157_6 (by decide) (fun _ => ?_) (fun q => absurd h1 q)
  refine lv_iload_n hx hb dJ3_checkIndex_8e157_16 rfl hl0 ?_
  exact W.iret (Qc := QcRead i) hx hb hr (fun t ht hW => ⟨rfl, ht⟩) (fun q h => absurd h List.not_mem_nil) dJ3_checkIndex_8e157_17 hlocks
set_option maxHeartbeats 4000000 in
theorem cStr_checkIndex {sh : List Sh} (i n : Int) : Snd sh yJ0_checkIndex_df160 cJ0_checkIndex_df160 2 none 1 22 [.inl i, .inl n] (fStr_checkIndex i n) := by
  refine Snd.of RJ0 (by decide +kernel) rfl (Nat.le_of_ble_eq_true rfl) ?_
  intro E M R hf C X
  show AW sh 2 E 0 [some (.inl i), some (.inl n)] [] M
  obtain ⟨hin, hf⟩ := hf
  have K : AW sh 2 E 8 [some (.inl i), some (.inl n)] [.inl i] M := a_pop C dJ0_checkIndex_df160_8 (a_vret C X dJ0_checkIndex_df160_9 hf)
  refine a_iloadn C dJ0_checkIndex_df160_0 rfl ?_
  refine a_iloadn C dJ0_checkIndex_df160_1 rfl ?_
  obtain ⟨p, l, e, R, s, m, args, below, meth, c, Q, ad, cA, D, kc, ks⟩ := E
  obtain ⟨hx, hb, hml, ho, ht, hK, hA, hRO, hlk, rfl⟩ := C
  intro H locs ls hP hS hL h1 h2 h3
  obtain ⟨gn, h3⟩ := rS_cons.mp h3
  obtain ⟨gi, h3⟩ := rS_cons.mp h3
  have gi' : inR i := gi
  have gn' : inR n := gn
  have a0 : ¬ Int32.ofInt i < 0 := fun q => absurd ((of_lt (y := 0) gi' (inr_b rfl)).mp q) (by omega)
  have a1 : Int32.ofInt i < Int32.ofInt n := (of_lt gi' gn').mpr hin.2
  have fin : ∀ w : Value, w.category = 1 → W p l e { frames := 1, cells := kc, slots := ks, locals := 22 } s m args below meth c H locs kc ks Q (F0 m 5 ls [w, .int (Int32.ofInt n), .int (Int32.ofInt i)]) := by
    intro w hw
    refine W.callR (r := Int32.ofInt i) (rest := []) (W.runS (As := [.int (Int32.ofInt i), .int (Int32.ofInt n), w]) (Ts := gT) ⟨hx, hb, hml, ho, ht⟩ (met_checkIndex l (Int32.ofInt i) (Int32.ofInt n) w hw a0 a1) ⟨ms_J3_checkIndex_8e157.1.cb ht ln_J0_1059 (Nat.le_refl _) (Nat.le_refl _), ht _ ms_J3_checkIndex_8e157.2⟩ preEq rfl rfl hL.1 rfl (by show 2 * 0 + 0 ≤ 8; decide) dJ0_checkIndex_df160_5 ⟨Nat.le_refl _, Nat.le_refl _⟩) ?_
    exact K H locs ls hP hS hL h1 h2 (rS_cons.mpr ⟨gi, h3⟩)
  rcases hRO.2.2.2.2.2 with hz | ⟨t, hz⟩
  · exact va_gets hx hb hz hS ho (ht _ fs_J0_1053) (fun _ h => h) dJ0_checkIndex_df160_2 (fin .null rfl)
  · exact va_gets hx hb hz hS ho (ht _ fs_J0_1053) (fun _ h => h) dJ0_checkIndex_df160_2 (fin (.ref t) rfl)
