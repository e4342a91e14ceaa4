/-! what the search for depths keeps -/
def VF (n kk : Int) (k nu dep con tg : Int → Int) (q8 : Int) : Prop :=
  kk = sumT con n.toNat ∧ q8 = sumT tg n.toNat ∧ (∀ i, 0 ≤ i → i < 24 → (con i = 0 ∨ con i = 1) ∧ (tg i = 0 ∨ tg i = 1)) ∧ dep 0 = 0 ∧ (∀ i, 0 ≤ i → i < n → dep i ≠ -4 → 0 ≤ dep i ∧ dep i ≤ 12) ∧
  (∀ i, 0 ≤ i → i < n → con i = 1 → dep i ≠ -4 ∧ tk (k i) ≤ dep i ∧ dep i - tk (k i) + cm (k i) ≤ 12 ∧ (fallsK n i (k i) = true → dep (i + 1) = dep i - tk (k i) + cm (k i)) ∧ (leadsK (k i) = true → dep (nu i) = dep i - tk (k i) + cm (k i) ∧ tg (nu i) = 1)) ∧
  (∀ i, 0 ≤ i → i < n → tg i = 1 → dep i ≠ -4) ∧ (∀ i, 0 < i → i < n → dep i ≠ -4 → tg i = 1 ∨ (con (i - 1) = 1 ∧ fallsK n (i - 1) (k (i - 1)) = true))
section F
variable {n i kk q8 a b a' b' v : Int} {k nu dep dep' con con' tg : Int → Int}
theorem dpN_keep {K t j : Int} (h : FN n i K t dep) (hj : dep j ≠ -4) : dpN n i K t dep j = dep j := by
  obtain ⟨hA, hB, hC⟩ := h
  unfold dpN
  by_cases q : (fallsK n i K = true ∧ j = i + 1) ∨ (leadsK K = true ∧ j = t)
  · rw [if_pos q]
    have fb : fallsK n i K = true → dep (i + 1) ≠ -4 → dep (i + 1) = dep i - tk K + cm K := fun f d => by
      by_cases e : dep (i + 1) = dep i - tk K + cm K
      · exact e
      · exact absurd ⟨f, d, e⟩ hB
    rcases q with ⟨q1, q2⟩ | ⟨q1, q2⟩
    · rw [q2] at hj ⊢; exact (fb q1 hj).symm
    · rw [q2] at hj ⊢
      by_cases w : fallsK n i K = true ∧ t = i + 1
      · rw [w.2] at hj ⊢; exact (fb w.1 hj).symm
      · by_cases e : dep t = dep i - tk K + cm K
        · exact e.symm
        · exact absurd ⟨q1, w, hj, e⟩ hC
  · rw [if_neg q]
theorem sumT_le1 {f : Int → Int} {m : Nat} (h : ∀ j : Nat, j < m → f j = 0 ∨ f j = 1) : 0 ≤ sumT f m ∧ sumT f m ≤ m := by
  have a := sumT_nonneg (f := f) (n := m) (fun j hj => by have := h j hj; omega)
  have b := sumT_le (f := f) (b := 1) (n := m) (fun j hj => by have := h j hj; omega)
  exact ⟨a, by omega⟩
theorem VF.step (hn : 1 ≤ n ∧ n ≤ 24) (hk : ∀ i, 0 ≤ i → i < n → (0 ≤ k i ∧ k i < 15) ∧ (leadsK (k i) = true → 0 ≤ nu i ∧ nu i < n)) (h : VF n kk k nu dep con tg q8) (hv : 0 ≤ v ∧ v < n) (hd : dep v ≠ -4) (hc : con v = 0) (hF : FN n v (k v) (nu v) dep) :
    VF n (kk + 1) k nu (dpN n v (k v) (nu v) dep) (fun j => if j = v then 1 else con j) (tgN (k v) (nu v) tg) (q8 + (if leadsK (k v) = true ∧ tg (nu v) = 0 then 1 else 0)) := by
  obtain ⟨h1, h2, h3, h4, h5, h6, h7, h8⟩ := h
  have keep : ∀ {j}, dep j ≠ -4 → dpN n v (k v) (nu v) dep j = dep j := fun hj => dpN_keep hF hj
  have tc := tk_cm (hk v hv.1 hv.2).1
  have hdv := h5 v hv.1 hv.2 hd
  have hA : tk (k v) ≤ dep v ∧ dep v - tk (k v) + cm (k v) ≤ 12 := by
    have := hF.1
    unfold FA at this
    omega
  have tgE : ∀ {j}, tg j = 1 → tgN (k v) (nu v) tg j = 1 := fun {j} hj => by
    unfold tgN
    by_cases q : leadsK (k v) = true ∧ j = nu v
    · rw [if_pos q]
    · rw [if_neg q]; exact hj
  refine ⟨?_, ?_, fun i i0 i1 => ⟨?_, ?_⟩, ?_, fun i i0 i1 hi => ?_, fun i i0 i1 hi => ?_, fun i i0 i1 hi => ?_, fun i i0 i1 hi => ?_⟩
  · have := sumT_one (f := fun j => if j = v then 1 else con j) (g := con) (j := v.toNat) (n := n.toNat) (by omega) (fun j hj hne => by show (if (j : Int) = v then 1 else con j) = con j; rw [if_neg (by omega)])
    rw [this, h1, show ((v.toNat : Nat) : Int) = v by omega, hc]
    rw [if_pos rfl]; omega
  · by_cases q : leadsK (k v) = true
    · have ht := (hk v hv.1 hv.2).2 q
      have t01 := (h3 (nu v) ht.1 (by omega)).2
      have := sumT_one (f := tgN (k v) (nu v) tg) (g := tg) (j := (nu v).toNat) (n := n.toNat) (by omega) (fun j hj hne => by unfold tgN; rw [if_neg (by omega)])
      rw [this, h2, show (((nu v).toNat : Nat) : Int) = nu v by omega]
      have e : tgN (k v) (nu v) tg (nu v) = 1 := by unfold tgN; rw [if_pos ⟨q, rfl⟩]
      rw [e]
      by_cases w : tg (nu v) = 0
      · rw [if_pos ⟨q, w⟩]; omega
      · rw [if_neg (fun u => w u.2)]; omega
    · rw [if_neg (fun u => q u.1), h2, Int.add_zero]
      refine sumT_congr (fun j hj => ?_)
      unfold tgN; rw [if_neg (fun u => q u.1)]
  · show (if i = v then 1 else con i) = 0 ∨ (if i = v then 1 else con i) = 1
    by_cases q : i = v
    · rw [if_pos q]; exact Or.inr rfl
    · rw [if_neg q]; exact (h3 i i0 i1).1
  · unfold tgN
    by_cases q : leadsK (k v) = true ∧ i = nu v
    · rw [if_pos q]; exact Or.inr rfl
    · rw [if_neg q]; exact (h3 i i0 i1).2
  · rw [keep (by rw [h4]; decide)]; exact h4
  · unfold dpN at hi ⊢
    by_cases q : (fallsK n v (k v) = true ∧ i = v + 1) ∨ (leadsK (k v) = true ∧ i = nu v)
    · rw [if_pos q]; omega
    · rw [if_neg q] at hi ⊢; exact h5 i i0 i1 hi
  · have hi' : (if i = v then 1 else con i) = 1 := hi
    by_cases q : i = v
    · rw [q, keep hd]
      refine ⟨hd, hA.1, hA.2, fun f => ?_, fun l => ⟨?_, ?_⟩⟩
      · unfold dpN; rw [if_pos (Or.inl ⟨f, rfl⟩)]
      · unfold dpN; rw [if_pos (Or.inr ⟨l, rfl⟩)]
      · unfold tgN; rw [if_pos ⟨l, rfl⟩]
    · rw [if_neg q] at hi'
      obtain ⟨c1, c2, c3, c4, c5⟩ := h6 i i0 i1 hi'
      have tci := tk_cm (hk i i0 i1).1
      rw [keep c1]
      refine ⟨c1, c2, c3, fun f => ?_, fun l => ⟨?_, tgE (c5 l).2⟩⟩
      · rw [keep (by rw [c4 f]; omega)]; exact c4 f
      · rw [keep (by rw [(c5 l).1]; omega)]; exact (c5 l).1
  · unfold tgN at hi
    by_cases q : leadsK (k v) = true ∧ i = nu v
    · unfold dpN; rw [if_pos (Or.inr q)]; omega
    · rw [if_neg q] at hi
      have := h7 i i0 i1 hi
      rw [keep this]; exact this
  · show _ ∨ ((if i - 1 = v then 1 else con (i - 1)) = 1 ∧ _)
    by_cases q : dep i = -4
    · unfold dpN at hi
      by_cases w : leadsK (k v) = true ∧ i = nu v
      · exact Or.inl (by unfold tgN; rw [if_pos w])
      · by_cases u : fallsK n v (k v) = true ∧ i = v + 1
        · have : i - 1 = v := by omega
          exact Or.inr ⟨by rw [if_pos this], by rw [this]; exact u.1⟩
        · rw [if_neg (fun y => by rcases y with y | y; exact u y; exact w y)] at hi
          exact absurd q hi
    · rcases h8 i i0 i1 q with y | y
      · exact Or.inl (tgE y)
      · refine Or.inr ⟨?_, y.2⟩
        by_cases z : i - 1 = v
        · rw [if_pos z]
        · rw [if_neg z]; exact y.1
theorem FLw_not (h : FLw n i (k i) (nu i) dep a b) : ¬ FN n i (k i) (nu i) dep := by
  intro q
  rcases h with h | h | h
  · exact q.1 h.1
  · exact q.2.1 h.2.1
  · exact q.2.2 h.2.2.1
theorem FLw_unique {K t : Int} (h : FLw n i K t dep a b) (h' : FLw n i K t dep a' b') : a = a' ∧ b = b' := by
  rcases h with ⟨h1, h2, h3⟩ | ⟨h1, h2, h3, h4⟩ | ⟨h1, h2, h3, h4, h5⟩ <;> rcases h' with ⟨g1, g2, g3⟩ | ⟨g1, g2, g3, g4⟩ | ⟨g1, g2, g3, g4, g5⟩
  · exact ⟨by rw [h2, g2], by rw [h3, g3]⟩
  · exact absurd h1 g1
  · exact absurd h1 g1
  · exact absurd g1 h1
  · exact ⟨by rw [h3, g3], by rw [h4, g4]⟩
  · exact absurd h2 g2
  · exact absurd g1 h1
  · exact absurd g2 h2
  · exact ⟨by rw [h4, g4], by rw [h5, g5]⟩
theorem F_congr {K t : Int} (hn : n ≤ 24) (hi : 0 ≤ i ∧ i < n) (ht : leadsK K = true → 0 ≤ t ∧ t < n) (he : ∀ j, 0 ≤ j → j < 24 → dep j = dep' j) : (FA K dep i ↔ FA K dep' i) ∧ (FB n i K dep ↔ FB n i K dep') ∧ (FC n i K t dep ↔ FC n i K t dep') := by
  have e0 := he i hi.1 (by omega)
  refine ⟨by unfold FA; rw [e0], ?_, ?_⟩
  · unfold FB
    by_cases f : fallsK n i K = true
    · have := (fallsK_iff.mp f).2.2
      rw [e0, he (i + 1) (by omega) (by omega)]
    · exact ⟨fun q => absurd q.1 f, fun q => absurd q.1 f⟩
  · unfold FC
    by_cases l : leadsK K = true
    · have := ht l
      rw [e0, he t (by omega) (by omega)]
    · exact ⟨fun q => absurd q.1 l, fun q => absurd q.1 l⟩
theorem FLw_congr {K t : Int} (hn : n ≤ 24) (hi : 0 ≤ i ∧ i < n) (ht : leadsK K = true → 0 ≤ t ∧ t < n) (he : ∀ j, 0 ≤ j → j < 24 → dep j = dep' j) (h : FLw n i K t dep a b) : FLw n i K t dep' a b := by
  obtain ⟨p1, p2, p3⟩ := F_congr hn hi ht he
  unfold FLw at h ⊢
  rw [← p1, ← p2, ← p3]; exact h
theorem FN_congr {K t : Int} (hn : n ≤ 24) (hi : 0 ≤ i ∧ i < n) (ht : leadsK K = true → 0 ≤ t ∧ t < n) (he : ∀ j, 0 ≤ j → j < 24 → dep j = dep' j) (h : FN n i K t dep) : FN n i K t dep' := by
  obtain ⟨p1, p2, p3⟩ := F_congr hn hi ht he
  unfold FN at h ⊢
  rw [← p1, ← p2, ← p3]; exact h
theorem isLow_congr (hn : n ≤ 24) (he : ∀ j, 0 ≤ j → j < 24 → dep j = dep' j) (hc : ∀ j, 0 ≤ j → j < 24 → con j = con' j) (h : isLow n dep con v) : isLow n dep' con' v := by
  rcases h with ⟨a1, a2⟩ | ⟨a1, a2, a3, a4, a5⟩
  · exact Or.inl ⟨a1, fun j j0 j1 => by rw [← he j j0 (by omega), ← hc j j0 (by omega)]; exact a2 j j0 j1⟩
  · exact Or.inr ⟨a1, a2, by rw [← he v a1 (by omega)]; exact a3, by rw [← hc v a1 (by omega)]; exact a4, fun j j0 j1 => by rw [← he j j0 (by omega), ← hc j j0 (by omega)]; exact a5 j j0 j1⟩
/-- a sum of few -/
theorem sum_few {f : Int → Int} : ∀ (m : Nat), (∀ j : Nat, j < m → f j = 0 ∨ f j = 1) → sumT f m ≤ 2 → ∃ nt t1 t2 : Int, (nt = 0 ∨ nt = 1 ∨ nt = 2) ∧ nt = sumT f m ∧ (1 ≤ nt → 0 ≤ t1 ∧ t1 < m ∧ f t1 = 1) ∧ (nt = 2 → t1 < t2 ∧ t2 < m ∧ f t2 = 1) ∧ ∀ i : Int, 0 ≤ i → i < m → f i = 1 → (1 ≤ nt ∧ i = t1) ∨ (nt = 2 ∧ i = t2) := by
  intro m
  induction m with
  | zero => intro _ _; exact ⟨0, 0, 0, Or.inl rfl, rfl, fun z => by omega, fun z => by omega, fun i i0 i1 => by omega⟩
  | succ m ih =>
    intro h hs
    have hm := h m (by omega)
    have e : sumT f (m + 1) = sumT f m + f m := rfl
    have b := sumT_le1 (f := f) (m := m) (fun j hj => h j (by omega))
    obtain ⟨nt, t1, t2, n1, n2, n3, n4, n5⟩ := ih (fun j hj => h j (by omega)) (by omega)
    rcases hm with z | z
    · refine ⟨nt, t1, t2, n1, by rw [e, z, n2]; omega, fun q => ?_, fun q => ?_, fun i i0 i1 fi => ?_⟩
      · have := n3 q; exact ⟨this.1, by omega, this.2.2⟩
      · have := n4 q; exact ⟨this.1, by omega, this.2.2⟩
      · by_cases y : i = m
        · rw [y, z] at fi; exact absurd fi (by decide)
        · exact n5 i i0 (by omega) fi
    · rw [e, z] at hs
      rcases n1 with q | q | q
      · refine ⟨1, m, 0, Or.inr (Or.inl rfl), by rw [e, z]; omega, fun _ => ⟨by omega, by omega, z⟩, fun w => by omega, fun i i0 i1 fi => ?_⟩
        by_cases y : i = m
        · exact Or.inl ⟨by omega, y⟩
        · have := n5 i i0 (by omega) fi; omega
      · have := n3 (by omega)
        refine ⟨2, t1, m, Or.inr (Or.inr rfl), by rw [e, z]; omega, fun _ => ⟨this.1, by omega, this.2.2⟩, fun _ => ⟨this.2.1, by omega, z⟩, fun i i0 i1 fi => ?_⟩
        by_cases y : i = m
        · exact Or.inr ⟨rfl, y⟩
        · have := n5 i i0 (by omega) fi
          exact Or.inl ⟨by omega, by omega⟩
      · omega
/-- the program is as it must be -/
theorem VF.fin {r mv ld st : Int} {w : Int → Int} (hr : 1 ≤ r ∧ r ≤ 3) (hmv : 0 ≤ mv ∧ mv ≤ 9) (hld : 0 ≤ ld ∧ ld ≤ 9) (hst : 0 ≤ st ∧ st ≤ 9) (hw : ∀ i, 0 ≤ i → i < n → 1 ≤ w i ∧ w i ≤ 999) (hn : 1 ≤ n ∧ n ≤ 24) (hk : ∀ i, 0 ≤ i → i < n → (0 ≤ k i ∧ k i < 15) ∧ (leadsK (k i) = true → 0 ≤ nu i ∧ nu i < n))
    (h : VF n kk k nu dep con tg q8) (hl : isLow n dep con (-4)) (h2 : q8 ≤ 2) : VP ((r, mv, ld, st), n, k, nu, dep, tg, w) ∧ DR ((r, mv, ld, st), n, k, nu, dep, tg, w) ∧ (∃ nt t1 t2, TG ((r, mv, ld, st), n, k, nu, dep, tg, w) nt t1 t2) ∧ kk = sumT (fun i => if dep i ≠ -4 then 1 else 0) n.toNat := by
  obtain ⟨h1, h2', h3, h4, h5, h6, h7, h8⟩ := h
  have hlow : ∀ j, 0 ≤ j → j < n → dep j ≠ -4 → con j = 1 := fun j j0 j1 hj => by
    rcases hl with ⟨-, q⟩ | q
    · rcases q j j0 j1 with z | z
      · exact absurd z hj
      · rcases (h3 j j0 (by omega)).1 with y | y
        · exact absurd y z
        · exact y
    · have := q.1; omega
  refine ⟨⟨hr, hmv, hld, hst, hn, fun i i0 i1 => (hk i i0 i1).1, hw, h5, h4, fun i i0 i1 hi l => ?_, fun i i0 i1 hi f => ?_, h7, fun i i0 i1 hi ht => ?_⟩, fun i i0 i1 hi => ?_, ?_, ?_⟩
  · have := h6 i i0 i1 (hlow i i0 i1 hi)
    have hh := (hk i i0 i1).2 l
    exact ⟨hh.1, hh.2, (this.2.2.2.2 l).2⟩
  · have := h6 i i0 i1 (hlow i i0 i1 hi)
    have tc := tk_cm (hk i i0 i1).1
    have e : dep (i + 1) = dep i - tk (k i) + cm (k i) := this.2.2.2.1 f
    show dep (i + 1) ≠ -4
    rw [e]
    have := this.2.1
    omega
  · rcases h8 i i0 i1 hi with z | z
    · exact absurd z ht
    · exact ⟨(h6 (i - 1) (by omega) (by have : i < n := i1; omega) z.1).1, z.2⟩
  · have := h6 i i0 i1 (hlow i i0 i1 hi)
    exact ⟨this.2.1, this.2.2.1, this.2.2.2.1, fun l => (this.2.2.2.2 l).1⟩
  · obtain ⟨nt, t1, t2, n1, n2, n3, n4, n5⟩ := sum_few (f := tg) n.toNat (fun j hj => (h3 j (by omega) (by omega)).2) (by omega)
    refine ⟨nt, t1, t2, n1, fun q => ?_, fun q => ?_, fun i i0 i1 fi => n5 i i0 (by have : i < n := i1; omega) fi⟩
    · have := n3 q
      exact ⟨this.1, by show t1 < n; omega, this.2.2⟩
    · have := n4 q
      exact ⟨this.1, by show t2 < n; omega, this.2.2⟩
  · rw [h1]
    refine sumT_congr (fun j hj => ?_)
    show con j = if dep j ≠ -4 then 1 else 0
    by_cases z : dep j = -4
    · rw [if_neg (fun q => q z)]
      rcases (h3 j (by omega) (by omega)).1 with y | y
      · exact y
      · exact absurd z (h6 j (by omega) (by omega) y).1
    · rw [if_pos z]; exact hlow j (by omega) (by omega) z
end F
