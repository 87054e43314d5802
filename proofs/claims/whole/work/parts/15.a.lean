/-! ===== move ===== -/
section MOV
variable {G : Prop} {tl np nf ns no p : Nat} {σ τ : St}
def recP (τ : St) (p : Nat) : Nat × Bool × Int32 → Rec := recT (τ.1 5) (τ.1 10) (τ.1 11) (τ.1 12) (τ.1 8 p)
theorem hand_t (h : RelX G tl np nf ns no σ τ) (hp : p < np) {Q : St → Prop} (q : ∀ τ', SM τ τ' → τ'.1 0 36 = nI (movT nf τ p).length → (∀ j x, (movT nf τ p)[j]? = some x → τ'.1 28 j = (recP τ p x).1 ∧ τ'.1 29 j = (recP τ p x).2.1 ∧ τ'.1 30 j = (recP τ p x).2.2.1 ∧ τ'.1 31 j = (recP τ p x).2.2.2.1 ∧ τ'.1 32 j = (recP τ p x).2.2.2.2.1 ∧ τ'.1 33 j = (recP τ p x).2.2.2.2.2) → Q τ') : w_X11_hand (nI p) τ Q := by
  refine handM h hp (fun τ' s m => q τ' s ?_ (fun j x hx => ?_))
  · have := m.1
    rw [List.length_map] at this
    exact this
  · refine m.2 j (recP τ p x) ?_
    have hx' : (mvs (τ.1 10) (τ.1 11) (τ.1 6 p) (handL (τ.1 12) (τ.1 15) nf (nI p)))[j]? = some x := hx
    rw [List.getElem?_map, hx']
    rfl
theorem live_of_on (h : RelX G tl np nf ns no σ τ) {f : Nat} (hf : f < nf) (hp : p < np) (ho : τ.1 15 f = nI p) : τ.1 14 f = 0 := by
  obtain ⟨-, -, -, ⟨p0, -⟩, -, -, -, ⟨-, -, -, r3⟩, -⟩ := h
  refine Classical.byContradiction (fun z => ?_)
  have := r3 f hf z
  rw [ho] at this
  exact m1ne p (by omega) this
theorem wayT_ix (w : Nat → Int32) {a b : Int32} (ha : inR a 0 7) (hb : inR b 0 7) : ∃ j, j < 64 ∧ wayT w a b = w j := by
  obtain ⟨x, hx, rfl⟩ := fld ha
  obtain ⟨y, hy, rfl⟩ := fld hb
  refine ⟨8 * x + y, by omega, ?_⟩
  unfold wayT
  rw [n_clamp (by omega), n_clamp (by omega)]
theorem way_pos (h : RelX G tl np nf ns no σ τ) {a b : Int32} (ha : inR a 0 7) (hb : inR b 0 7) : wayT (τ.1 5) a b = 0 ∨ (¬ wayT (τ.1 5) a b ≤ 0 ∧ inR (wayT (τ.1 5) a b) 10 600) := by
  obtain ⟨j, hj, e⟩ := wayT_ix (τ.1 5) ha hb
  rw [e]
  rcases h.2.2.1.2.1 j hj with z | z
  · exact Or.inl z
  · refine Or.inr ⟨fun y => ?_, z⟩
    rw [i_le, show (0 : Int32).toInt = 0 from rfl] at y
    have := z.1
    omega
theorem flown_way (h : RelX G tl np nf ns no σ τ) {f : Nat} (hf : f < nf) (hc : τ.1 14 f = 0) : ¬ wayT (τ.1 5) (τ.1 10 f) (τ.1 11 f) ≤ 0 ∧ ¬ wayT (τ.1 5) (τ.1 10 f) (τ.1 11 f) = 0 := by
  obtain ⟨g1, g2, -⟩ := h.2.2.2.2.1.2.2.2.2.2.2.2.2.2.2.2.2 f hf
  have hne : ¬ wayT (τ.1 5) (τ.1 10 f) (τ.1 11 f) = 0 := h.2.2.2.2.2.1 f hf hc
  rcases way_pos h g1 g2 with z | z
  · exact absurd z hne
  · exact ⟨z.1, hne⟩
theorem flown5 (h : RelX G tl np nf ns no σ τ) {f : Nat} (hf : f < nf) {Q : Int32 → St → Prop} (q : Q (wayT (τ.1 5) (τ.1 10 f) (τ.1 11 f)) σ) : w_X6_minutesOf (nI f) σ Q := by
  have hR := h
  obtain ⟨-, -, -, -, ⟨f0, f1, -, f3, f4, -, -, -, -, -, -, -, f12⟩, -⟩ := h
  unfold w_X6_minutesOf
  refine X1_fromOf_t f1 hf f0 (X1_toOf_t f1 hf f0 ?_)
  rw [f3, f4]
  exact mins_w hR (f12 f hf).1 (f12 f hf).2.1 q
theorem six (x : Int32) : x = 0 ∨ x = 1 ∨ x = 2 ∨ x = 3 ∨ x = 4 ∨ (¬ x = 0 ∧ ¬ x = 1 ∧ ¬ x = 2 ∧ ¬ x = 3 ∧ ¬ x = 4) := by
  by_cases h0 : x = 0
  · exact Or.inl h0
  · by_cases h1 : x = 1
    · exact Or.inr (Or.inl h1)
    · by_cases h2 : x = 2
      · exact Or.inr (Or.inr (Or.inl h2))
      · by_cases h3 : x = 3
        · exact Or.inr (Or.inr (Or.inr (Or.inl h3)))
        · by_cases h4 : x = 4
          · exact Or.inr (Or.inr (Or.inr (Or.inr (Or.inl h4))))
          · exact Or.inr (Or.inr (Or.inr (Or.inr (Or.inr ⟨h0, h1, h2, h3, h4⟩))))
theorem nd (a b : Int32) (h : decide (a = b) = false) : ¬ a = b := of_decide_eq_false h
theorem sim_move (a1 a2 a3 : Int32) {σ τ : St} (h : Rel σ τ) : w_X10_move a1 a2 a3 σ (fun r σ' => w_X11_move a1 a2 a3 τ (fun r' τ' => r = r' ∧ Rel σ' τ')) := by
  have hR := h
  obtain ⟨tl, np, nf, ns, no, h⟩ := h
  have p0 := h.2.2.2.1.1
  have p1 := h.2.2.2.1.2.1
  have p2 := h.2.2.2.1.2.2.1
  obtain ⟨f0, f1, f2, f3, f4, f5, f6, f7, f8, f9, f10, f11, f12⟩ := h.2.2.2.2.1
  have r0 := h.2.2.2.2.2.2.2.1.1
  unfold w_X10_move
  rcases (ix_or a1 np (by omega)).symm with hx | ⟨p, hp, rfl⟩
  · refine flightAt_out h hx (bt rfl (legAt_out h hx (cf rfl ?_)))
    unfold w_X11_move
    exact lies_out p2 hx (by omega) (c0 ⟨rfl, hR⟩)
  have hM16 := movT_16 h hp
  -- the reference, at a move that is there
  have mod : ∀ (j : Nat) (x : Nat × Bool × Int32) (Q : Int32 → St → Prop), (movT nf τ p)[j]? = some x → a2 = nI j → (∀ τ', SM τ τ' → (∀ s0, ((recP τ p x).2.1 = (recP τ p x).2.1 → True) → ((wayT (τ.1 5) (recP τ p x).2.1 (recP τ p x).2.2.1 ≤ 0 ∧ s0 = 0) ∨ (¬ wayT (τ.1 5) (recP τ p x).2.1 (recP τ p x).2.2.1 ≤ 0 ∧ s0 = 1)) → (a3 = 0 → Q (recP τ p x).1 τ') ∧ (a3 = 1 → Q (recP τ p x).2.1 τ') ∧ (a3 = 2 → Q (recP τ p x).2.2.1 τ') ∧ (a3 = 3 → ((s0 = (0 : Int32) → Q (-1) τ') ∧ (¬ s0 = 0 → Q (recP τ p x).2.2.2.1 τ'))) ∧ (a3 = 4 → ((s0 = 0 → Q (-1) τ') ∧ (¬ s0 = 0 → Q (recP τ p x).2.2.2.2.1 τ'))) ∧ ((¬ a3 = 0 ∧ ¬ a3 = 1 ∧ ¬ a3 = 2 ∧ ¬ a3 = 3 ∧ ¬ a3 = 4) → Q (-1) τ'))) → inR (recP τ p x).2.1 0 7 → inR (recP τ p x).2.2.1 0 7 → w_X11_move (nI p) a2 a3 τ Q := by
    intro j x Q hj hx q i1 i2
    subst hx
    have hjl : j < (movT nf τ p).length := (List.getElem?_eq_some_iff.mp hj).1
    unfold w_X11_move
    refine lies_ix p2 hp (by omega) (c1 (hand_t h hp (fun τ' s1 s2 s3 => ?_)))
    obtain ⟨m1, m2, m3, m4, m5, m6⟩ := s3 j x hj
    have hv : vp_in (nI j) 16 := vp_in_nI (by omega) (by omega)
    have ec := n_clamp (show j < 2 ^ 31 by omega)
    refine lies_ix s2 hjl (by omega) (c1 ⟨hv, hv, ?_⟩)
    rw [ec, m2, m3]
    have J : ∀ s0, ((wayT (τ.1 5) (recP τ p x).2.1 (recP τ p x).2.2.1 ≤ 0 ∧ s0 = 0) ∨ (¬ wayT (τ.1 5) (recP τ p x).2.1 (recP τ p x).2.2.1 ≤ 0 ∧ s0 = 1)) → w_X11_move_61 Q (nI j) a3 s0 τ' := by
      intro s0 hs0
      obtain ⟨t0, t1, t2, t3, t4, t5⟩ := q τ' s1 s0 (fun _ => trivial) hs0
      unfold w_X11_move_61
      rw [ec, m1, m2, m3, m4, m5]
      exact ⟨fun e => ⟨hv, t0 e⟩, fun e => ⟨hv, t1 e⟩, fun e => ⟨hv, t2 e⟩, fun e => ⟨(t3 e).1, fun z => ⟨hv, (t3 e).2 z⟩⟩, fun e => ⟨(t4 e).1, fun z => ⟨hv, (t4 e).2 z⟩⟩, t5⟩
    exact minsM_w s1 i1 i2 ⟨fun z => J 0 (Or.inl ⟨z, rfl⟩), fun z => J 1 (Or.inr ⟨z, rfl⟩)⟩
  have same : ∀ τ', SM τ τ' → Rel σ τ' := fun τ' s => ⟨tl, np, nf, ns, no, h.scratch (SC.rf σ) s⟩
  refine flightAt_t h hp (fun j f a hj hx => ?_) (fun hno => ?_)
  · -- a flight
    obtain ⟨g1, g2, g3, -⟩ := movT_fl h hp hj
    obtain ⟨b1', b2', -⟩ := f12 f g1
    have hfw := flown_way h g1 (live_of_on h g1 hp g2)
    refine bf (m1ne f (by omega)) ?_
    unfold w_X10_flownMove
    have er : recP τ p (f, false, a) = (nI f, τ.1 10 f, τ.1 11 f, τ.1 12 f, τ.1 12 f + wayT (τ.1 5) (τ.1 10 f) (τ.1 11 f), nI f) := rfl
    have fin : ∀ v : Int32, (∀ τ', SM τ τ' → (a3 = 0 → v = nI f) ∧ (a3 = 1 → v = τ.1 10 f) ∧ (a3 = 2 → v = τ.1 11 f) ∧ (a3 = 3 → v = τ.1 12 f) ∧ (a3 = 4 → v = τ.1 12 f + wayT (τ.1 5) (τ.1 10 f) (τ.1 11 f)) ∧ ((¬ a3 = 0 ∧ ¬ a3 = 1 ∧ ¬ a3 = 2 ∧ ¬ a3 = 3 ∧ ¬ a3 = 4) → v = -1)) → w_X11_move (nI p) a2 a3 τ (fun r' τ' => v = r' ∧ Rel σ τ') := by
      intro v hv
      refine mod j (f, false, a) _ hj hx (fun τ' s s0 _ hs0 => ?_) b1' b2'
      obtain ⟨v0, v1, v2, v3, v4, v5⟩ := hv τ' s
      have hs1 : s0 = 1 := by
        rcases hs0 with ⟨z, -⟩ | ⟨-, z⟩
        · exact absurd z hfw.1
        · exact z
      subst hs1
      rw [er]
      exact ⟨fun e => ⟨v0 e, same τ' s⟩, fun e => ⟨v1 e, same τ' s⟩, fun e => ⟨v2 e, same τ' s⟩, fun e => ⟨fun z => absurd z n10, fun _ => ⟨v3 e, same τ' s⟩⟩, fun e => ⟨fun z => absurd z n10, fun _ => ⟨v4 e, same τ' s⟩⟩, fun e => ⟨v5 e, same τ' s⟩⟩
    refine ⟨fun e => fin _ (fun _ _ => ?_), fun e => X1_fromOf_t f1 g1 f0 (fin _ (fun _ _ => ?_)), fun e => X1_toOf_t f1 g1 f0 (fin _ (fun _ _ => ?_)), fun e => X1_startOf_t f1 g1 f0 (fin _ (fun _ _ => ?_)), fun e => X1_startOf_t f1 g1 f0 (flown5 h g1 (fin _ (fun _ _ => ?_))), fun e => fin _ (fun _ _ => ?_)⟩
    · subst e; exact ⟨fun _ => rfl, fun z => absurd z (by decide), fun z => absurd z (by decide), fun z => absurd z (by decide), fun z => absurd z (by decide), fun z => absurd rfl z.1⟩
    · subst e; exact ⟨fun z => absurd z (by decide), fun _ => congrFun f3 f, fun z => absurd z (by decide), fun z => absurd z (by decide), fun z => absurd z (by decide), fun z => absurd rfl z.2.1⟩
    · subst e; exact ⟨fun z => absurd z (by decide), fun z => absurd z (by decide), fun _ => congrFun f4 f, fun z => absurd z (by decide), fun z => absurd z (by decide), fun z => absurd rfl z.2.2.1⟩
    · subst e; exact ⟨fun z => absurd z (by decide), fun z => absurd z (by decide), fun z => absurd z (by decide), fun _ => congrFun f5 f, fun z => absurd z (by decide), fun z => absurd rfl z.2.2.2.1⟩
    · subst e; exact ⟨fun z => absurd z (by decide), fun z => absurd z (by decide), fun z => absurd z (by decide), fun z => absurd z (by decide), fun _ => by rw [f5], fun z => absurd rfl z.2.2.2.2⟩
    · exact ⟨fun z => absurd z e.1, fun z => absurd z e.2.1, fun z => absurd z e.2.2.1, fun z => absurd z e.2.2.2.1, fun z => absurd z e.2.2.2.2, fun _ => rfl⟩
  · refine bt rfl (legAt_t h hp (fun j f a hj hx => ?_) (fun hno2 => ?_))
    · -- an empty leg
      obtain ⟨g1, g2, g3, g4, g5⟩ := movT_leg h hp hj
      have hpi := plT_in h hp g1 g2
      obtain ⟨b1', b2', -⟩ := f12 f g1
      refine ct (m1ne f (by omega)) ?_
      subst g3
      have er : recP τ p (f, true, plT nf τ f) = (-1, plT nf τ f, τ.1 10 f, (τ.1 12 f - τ.1 8 p) - legMn nf τ f, τ.1 12 f - τ.1 8 p, nI f) := rfl
      have hlp : legMn nf τ f = 0 ∨ ¬ legMn nf τ f ≤ 0 := (way_pos h hpi b1').imp id (fun z => z.1)
      have hl0 : (legMn nf τ f : Int32) = 0 → legMn nf τ f ≤ 0 := fun z => by rw [z]; decide
      have fin : ∀ v : Int32, ((a3 = 0 → v = -1) ∧ (a3 = 1 → v = plT nf τ f) ∧ (a3 = 2 → v = τ.1 10 f) ∧ (a3 = 3 → legMn nf τ f = 0 → v = -1) ∧ (a3 = 3 → ¬ legMn nf τ f = 0 → v = (τ.1 12 f - τ.1 8 p) - legMn nf τ f) ∧ (a3 = 4 → legMn nf τ f = 0 → v = -1) ∧ (a3 = 4 → ¬ legMn nf τ f = 0 → v = τ.1 12 f - τ.1 8 p) ∧ ((¬ a3 = 0 ∧ ¬ a3 = 1 ∧ ¬ a3 = 2 ∧ ¬ a3 = 3 ∧ ¬ a3 = 4) → v = -1)) → w_X11_move (nI p) a2 a3 τ (fun r' τ' => v = r' ∧ Rel σ τ') := by
        intro v hv
        obtain ⟨v0, v1, v2, v3, v3', v4, v4', v5⟩ := hv
        refine mod j _ _ hj hx (fun τ' s s0 _ hs0 => ?_) hpi b1'
        rw [er] at hs0 ⊢
        have hs : (legMn nf τ f = 0 ∧ s0 = 0) ∨ (¬ legMn nf τ f = 0 ∧ s0 = 1) := by
          rcases hs0 with ⟨z, z2⟩ | ⟨z, z2⟩
          · exact Or.inl ⟨hlp.elim id (fun y => absurd z y), z2⟩
          · exact Or.inr ⟨fun y => z (hl0 y), z2⟩
        refine ⟨fun e => ⟨v0 e, same τ' s⟩, fun e => ⟨v1 e, same τ' s⟩, fun e => ⟨v2 e, same τ' s⟩, fun e => ?_, fun e => ?_, fun e => ⟨v5 e, same τ' s⟩⟩
        · rcases hs with ⟨z, rfl⟩ | ⟨z, rfl⟩
          · exact ⟨fun _ => ⟨v3 e z, same τ' s⟩, fun y => absurd rfl y⟩
          · exact ⟨fun y => absurd y n10, fun _ => ⟨v3' e z, same τ' s⟩⟩
        · rcases hs with ⟨z, rfl⟩ | ⟨z, rfl⟩
          · exact ⟨fun _ => ⟨v4 e z, same τ' s⟩, fun y => absurd rfl y⟩
          · exact ⟨fun y => absurd y n10, fun _ => ⟨v4' e z, same τ' s⟩⟩
      have J53 : (a3 = 3 ∨ a3 = 4) → ¬ legMn nf τ f = 0 → w_X10_emptyMove_53 (fun r_8 σ_7 => w_X11_move (nI p) a2 a3 τ (fun r' τ' => r_8 = r' ∧ Rel σ_7 τ')) (nI f) a3 (legMn nf τ f) σ := by
        intro e hz
        unfold w_X10_emptyMove_53
        refine X1_startOf_t f1 g1 f0 (X6_planeOf_t f1 g1 f0 ?_)
        rw [r0 f g1, g2]
        refine X4_turnOf_t p1 hp p0 ?_
        rw [f5, h.2.2.2.1.2.2.2.2.2.1]
        rcases e with e | e
        · subst e
          exact ct (by decide) (fin _ ⟨fun z => absurd z (by decide), fun z => absurd z (by decide), fun z => absurd z (by decide), fun _ z => absurd z hz, fun _ _ => rfl, fun z => absurd z (by decide), fun z => absurd z (by decide), fun z => absurd rfl z.2.2.2.1⟩)
        · subst e
          exact cf rfl (fin _ ⟨fun z => absurd z (by decide), fun z => absurd z (by decide), fun z => absurd z (by decide), fun z => absurd z (by decide), fun z => absurd z (by decide), fun _ z => absurd z hz, fun _ _ => rfl, fun z => absurd rfl z.2.2.2.2⟩)
      unfold w_X10_emptyMove
      refine ⟨fun e1 => ⟨fun e2 => legMin_t h g1 (fun _ => ⟨fun z => ?_, fun z => ⟨fun e3 => J53 (Or.inl e3) z, fun e3 => ⟨fun e4 => J53 (Or.inr e4) z, fun e4 => ?_⟩⟩⟩) (fun n => absurd g4 n), fun e2 => X1_fromOf_t f1 g1 f0 ?_⟩, fun e1 => plA_t h g1 hp g2 ?_⟩
      · exact fin _ ⟨fun _ => rfl, fun y => absurd y e1, fun y => absurd y e2, fun _ _ => rfl, fun _ y => absurd z y, fun _ _ => rfl, fun _ y => absurd z y, fun _ => rfl⟩
      · exact fin _ ⟨fun _ => rfl, fun y => absurd y e1, fun y => absurd y e2, fun y => absurd y e3, fun y => absurd y e3, fun y => absurd y e4, fun y => absurd y e4, fun _ => rfl⟩
      · subst e2
        exact fin _ ⟨fun y => absurd y (by decide), fun y => absurd y (by decide), fun _ => congrFun f3 f, fun y => absurd y (by decide), fun y => absurd y (by decide), fun y => absurd y (by decide), fun y => absurd y (by decide), fun y => absurd rfl y.2.2.1⟩
      · subst e1
        exact fin _ ⟨fun y => absurd y (by decide), fun _ => rfl, fun y => absurd y (by decide), fun y => absurd y (by decide), fun y => absurd y (by decide), fun y => absurd y (by decide), fun y => absurd y (by decide), fun y => absurd rfl y.2.1⟩
    · -- no such move
      refine cf rfl ?_
      unfold w_X11_move
      refine lies_ix p2 hp (by omega) (c1 (hand_t h hp (fun τ' s1 s2 s3 => ?_)))
      have hout : outR a2 (movT nf τ p).length := by
        rcases ix_or a2 (movT nf τ p).length (by omega) with ⟨j, hj, e⟩ | hx
        · exfalso
          obtain ⟨x, hx⟩ : ∃ x, (movT nf τ p)[j]? = some x := ⟨_, List.getElem?_eq_getElem hj⟩
          obtain ⟨f, k, a⟩ := x
          cases k with
          | true => exact hno2 j f a hx e
          | false => exact hno j f a hx e
        · exact hx
      exact lies_out s2 hout (by omega) (c0 ⟨rfl, same τ' s1⟩)
end MOV
