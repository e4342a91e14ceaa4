/-! constructors: over to the abstract layer -/
def EAD (E : EK) : Nat → Nat := E.2.2.2.2.2.2.2.2.2.2.2.1
def toE (E : EK) (ad : Nat → Nat) (kc ks : Nat) : EE := match E with
  | (p, l, e, R, s, m, args, below, meth, c, Q, _, cA, D, _) => (p, l, e, R, s, m, args, below, meth, c, Q, ad, cA, D, kc, ks)
def KDE (E : EK) (w : va_W) : Prop := match E with
  | (_, _, _, _, s, _, _, _, _, _, _, _, _, _, pre) => KD pre s.heap.size w
theorem RO.congr {ad ad' : Nat → Nat} {A : Nat → Prop} {U : State} {H : Heap} (h : RO ad A U H) (he : ∀ k, 100 ≤ k → ad' k = ad k) : RO ad' A U H := by
  obtain ⟨h1, h2, ⟨h3, h4, h5⟩, h6, h7, h8⟩ := h
  have e2 : (fun i => ad' (110 + i)) = (fun i => ad (110 + i)) := funext (fun i => he _ (by omega))
  have e3 : (fun i => ad' (120 + i)) = (fun i => ad (120 + i)) := funext (fun i => he _ (by omega))
  refine ⟨fun c hc => ?_, by rw [e2, e3]; exact h2, ⟨by rw [he 110 (by omega)]; exact h3, by rw [he 111 (by omega)]; exact h4, by rw [he 111 (by omega)]; exact h5⟩, h6, h7, h8⟩
  have : 100 ≤ c := by rcases hc with rfl | rfl | rfl <;> omega
  rw [he c this]; exact h1 c hc
theorem KD_sW {pre : va_W} {sz : Nat} {sh : List Sh} {ad : Nat → Nat} {cA : Nat → ClassId} {M M' : Mem} (h : KD pre sz (sW sh ad cA M)) : KD pre sz (sW sh ad cA M') := by
  have key : ∀ (k : Nat) (x : Nat × va_E), (sW sh ad cA M')[k]? = some x → ∃ y, (sW sh ad cA M)[k]? = some (x.1, y) := fun k x hx => by
    obtain ⟨q, h1, rfl⟩ := sW_inv hx
    exact ⟨_, sW_at h1⟩
  refine ⟨⟨fun i j p q hp hq e => ?_, fun k q hq => ?_⟩, fun k x hx hp => ?_, fun k x hx => ?_⟩
  · obtain ⟨y1, g1⟩ := key i p hp
    obtain ⟨y2, g2⟩ := key j q hq
    exact h.1.1 i j _ _ g1 g2 e
  · obtain ⟨y, g⟩ := key k q hq
    exact h.1.2 k (q.1, y) g
  · obtain ⟨y, g⟩ := key k x hx
    exact h.2.1 k (x.1, y) g hp
  · obtain ⟨e, he⟩ := h.2.2 k x hx
    obtain ⟨q, h1, h2⟩ := sW_inv he
    refine ⟨sE ad cA M' k q, ?_⟩
    rw [sW_at h1]
    have : x.1 = ad k := congrArg Prod.fst h2
    rw [this]
section K
variable {nL : Nat} {cc : ByteArray} {own : String} {E : EK} {kc ks pc : Nat} {lv : List (Nat × Value)} {st : List Value} {ws : va_W}
theorem KW.ofAW (C : KC cc nL own E) {sh : List Sh} {ad : Nat → Nat} {M : Mem} {lv' : List (Option AV)} {st' : List AV} {fr lo : Nat} (hws : ws = sW sh ad (ECA E) M) (had : ∀ k, 100 ≤ k → ad k = EAD E k) (hR : ER E = { frames := fr, cells := kc, slots := ks, locals := lo }) (hlv : lv = lvl ad 0 lv') (hst : st = st'.map (cv ad)) (hM : rM M) (hrl : rL lv') (hrs : rS st')
    (k : (∀ M', KDE E (sW sh ad (ECA E) M')) → Cx sh nL cc own fr lo (toE E ad kc ks) → AW sh nL (toE E ad kc ks) pc lv' st' M) : KW nL E kc ks pc lv st ws := by
  obtain ⟨p, l, e, R, s, m, args, below, meth, c, Q, ad0, cA, D, pre⟩ := E
  obtain ⟨hx, hb, hml, ho, ht, hK, hin, hlk, hrt, hRO, hN⟩ := C
  have hws : ws = sW sh ad cA M := hws
  have had : ∀ k, 100 ≤ k → ad k = ad0 k := had
  have hR : R = { frames := fr, cells := kc, slots := ks, locals := lo } := hR
  subst hws; subst hlv; subst hst
  intro H locs ls h1 h2 h3 h4
  have hAp : Ap sh ad := fun i j hi hj hij => h2.1.1 i j _ _ (sW_at (List.getElem?_eq_getElem hi)) (sW_at (List.getElem?_eq_getElem hj)) hij
  have sub : ∀ q, aS sh ad q → aW (sW sh ad cA M) q := fun q hq => by
    obtain ⟨k, k1, rfl⟩ := hq
    exact ⟨k, _, sW_at (List.getElem?_eq_getElem k1)⟩
  have sup : ∀ q, aW (sW sh ad cA M) q → aS sh ad q := fun q hq => by
    obtain ⟨k, x, hk⟩ := hq
    obtain ⟨y, g1, g2⟩ := sW_inv hk
    exact ⟨k, (List.getElem?_eq_some_iff.mp g1).1, congrArg Prod.fst g2⟩
  have hRO' : RO ad (aS sh ad) s s.heap := (hRO.congr had).narrow (fun q hq => by obtain ⟨k, x, hk⟩ := sub q hq; exact h2.1.2 k _ hk)
  exact k (fun M' => KD_sW h2) ⟨hx, hb, hml, ho, ht, hK, hAp, hRO', hlk, hR⟩ H locs ls h1 (h3.wk sup) h4 hM hrl hrs
theorem a_retK {sh : List Sh} {ad : Nat → Nat} {fr lo mc ms : Nat} {post : (Nat → ClassId) → List Nat → va_W → Prop} (C : KC cc nL own E) (hKD : ∀ M', KDE E (sW sh ad (ECA E) M')) (hR : KRet mc ms post E) {M : Mem} {lv' : List (Option AV)} (hp : rM M → ∃ qs, post (ECA E) qs (sW sh ad (ECA E) M)) (hd : decode cc pc = .ok (.return_, 1)) : AW sh nL (toE E ad mc ms) pc lv' [] M := by
  obtain ⟨p, l, e, R, s, m, args, below, meth, c, Q, ad0, cA, D, pre⟩ := E
  obtain ⟨hx, hb, hml, ho, ht, hK, hin, hlk, hrt, hRO, hN⟩ := C
  have hR : Q = MQ below (KQc D pre (post cA) s.heap.size) args s mc ms (va_A pre s.heap.size) := hR
  subst hR
  have h2 : KD pre s.heap.size (sW sh ad cA M) := hKD M
  intro H locs ls h1 h3 h4 g1 g2 g3
  obtain ⟨qs, hp⟩ := hp g1
  have h3' : va_S (va_A pre s.heap.size) s.heap H locs := h3.wk (fun q hq => by
    obtain ⟨k, k1, rfl⟩ := hq
    exact h2.1.2 k _ (sW_at (List.getElem?_eq_getElem k1)))
  exact W.vret hx hb hrt (fun t ht' _ => ⟨⟨(), rfl, trivial, qs, _, hp, by rw [ht']; exact h1, h2⟩, h3'.F ht'⟩) h3'.2.2 hd hlk
end K
