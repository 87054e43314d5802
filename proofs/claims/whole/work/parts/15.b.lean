/-! ===== offers whose leg is lost break ===== -/
def brkF (K : Nat → Bool) (i : Nat) (st : Nat → Int32) : Nat → Int32 := fun o => if o < i ∧ (st o = 0 ∨ st o = 1) ∧ K o = false then 3 else st o
theorem brkF_0 {K : Nat → Bool} {st : Nat → Int32} : brkF K 0 st = st := by
  funext o
  unfold brkF
  rw [if_neg (fun h => absurd h.1 (Nat.not_lt_zero o))]
theorem brkF_y {K : Nat → Bool} {n : Nat} {st : Nat → Int32} (h1 : st n = 0 ∨ st n = 1) (h2 : K n = false) : upd (brkF K n st) n 3 = brkF K (n + 1) st := by
  funext o
  unfold brkF upd
  by_cases ho : o = n
  · subst ho
    rw [if_pos rfl, if_pos ⟨by omega, h1, h2⟩]
  · rw [if_neg ho]
    have e : (o < n + 1) = (o < n) := propext ⟨fun h => by omega, fun h => by omega⟩
    simp only [e]
theorem brkF_n {K : Nat → Bool} {n : Nat} {st : Nat → Int32} (h : ¬ ((st n = 0 ∨ st n = 1) ∧ K n = false)) : brkF K n st = brkF K (n + 1) st := by
  funext o
  unfold brkF
  by_cases ho : o = n
  · subst ho
    rw [if_neg (fun z => absurd z.1 (by omega)), if_neg (fun z => h z.2)]
  · have e : (o < n + 1) = (o < n) := propext ⟨fun h => by omega, fun h => by omega⟩
    simp only [e]
theorem brkF_at {K : Nat → Bool} {n : Nat} {st : Nat → Int32} : brkF K n st n = st n := if_neg (fun z => absurd z.1 (by omega))
theorem brkF_st {K : Nat → Bool} {i o : Nat} {st : Nat → Int32} (h : inR (st o) 0 3) : inR (brkF K i st o) 0 3 ∧ (stand (brkF K i st o) → stand (st o)) := by
  unfold brkF
  split
  · exact ⟨⟨by decide, by decide⟩, fun z => by rcases z with z | z <;> exact absurd z (by decide)⟩
  · exact ⟨h, id⟩
/-- the leg of offer o is a leg of the plan at hand -/
def keptB (nf : Nat) (τ : St) (o : Nat) : Bool := decide (τ.1 15 (τ.1 26 o).toNatClampNeg = τ.1 23 o ∧ plT nf τ (τ.1 26 o).toNatClampNeg ≠ τ.1 10 (τ.1 26 o).toNatClampNeg ∧ plT nf τ (τ.1 26 o).toNatClampNeg = τ.1 24 o)
section BRK
variable {G : Prop} {tl np nf ns no : Nat} {σ τ : St}
theorem RelX.st (h : RelX G tl np nf ns no σ τ) (f : Nat → Int32) (hf : ∀ o, o < no → inR (f o) 0 3 ∧ (stand (f o) → stand (τ.1 19 o))) : RelX G tl np nf ns no (sc σ 38 f) (sc τ 19 f) := by
  obtain ⟨h1, h2, h3, h4, h5, h6, h7, h8, h9, h10⟩ := h
  exact ⟨h1, h2, h3, h4, h5, h6, h7, h8, h9.st rfl h9.2.2.2.2.2.2.2.2.2.1 hf, h10⟩
theorem isSt_t (h : RelX G tl np nf ns no σ τ) {o : Nat} (ho : o < no) {Q : Int32 → St → Prop} (q1 : σ.1 38 o = 0 ∨ σ.1 38 o = 1 → Q 1 σ) (q0 : ¬ (σ.1 38 o = 0 ∨ σ.1 38 o = 1) → Q 0 σ) : w_X3_isStanding (nI o) σ Q := by
  obtain ⟨o0, o1, -⟩ := h.2.2.2.2.2.2.2.2.1
  unfold w_X3_isStanding
  exact X3_stateOf_t o1 ho o0 ⟨fun z => q1 (Or.inl z), fun z => X3_stateOf_t o1 ho o0 ⟨fun z2 => q0 (fun y => y.elim z z2), fun z2 => q1 (Or.inr z2)⟩⟩
theorem breakC (h : RelX G tl np nf ns no σ τ) {Q : St → Prop} (q : Q (sc σ 38 (brkF (keptB nf τ) no (σ.1 38)))) : w_X3_breakLost σ Q := by
  have hR := h
  obtain ⟨o0, o1, o2, o3, o4, o5, o6, o7, o8, o9, o10, o11, o12⟩ := h.2.2.2.2.2.2.2.2.1
  obtain ⟨f0, f1, f2, f3, -⟩ := h.2.2.2.2.1
  have p0 := h.2.2.2.1.1
  have r0 := h.2.2.2.2.2.2.2.1.1
  unfold w_X3_breakLost
  have loop : ∀ k i, i + k = no → w_X3_breakLost_2 Q (k + 1) (nI i) (sc σ 38 (brkF (keptB nf τ) i (σ.1 38))) := by
    intro k
    induction k with
    | zero =>
      intro i hi
      obtain rfl : i = no := by omega
      refine bt ?_ q
      show σ.1 10 7 ≤ nI i
      rw [o1, nI_leI (by omega) (by omega)]; omega
    | succ k ih =>
      intro i hi
      have hi2 : i < no := by omega
      have nx := ih (i + 1) (by omega)
      rw [← nI_1] at nx
      have hRi : RelX G tl np nf ns no (sc σ 38 (brkF (keptB nf τ) i (σ.1 38))) (sc τ 19 (brkF (keptB nf τ) i (σ.1 38))) := by
        refine hR.st _ (fun o ho => ?_)
        have := brkF_st (K := keptB nf τ) (i := i) (o := o) (st := σ.1 38) (by rw [o3]; exact (o10 o ho).1)
        rw [o3] at this ⊢
        exact this
      have hv : vp_in (nI i) 40 := vp_in_nI (by omega) (by omega)
      have ec := n_clamp (show i < 2 ^ 31 by omega)
      obtain ⟨x1, x2, ⟨p, hp, ep⟩, ⟨f, hf, ef⟩, x5⟩ := o10 i hi2
      have e41 : (sc σ 38 (brkF (keptB nf τ) i (σ.1 38))).1 41 i = nI f := by show σ.1 41 i = _; rw [o6]; exact ef
      have e40 : (sc σ 38 (brkF (keptB nf τ) i (σ.1 38))).1 40 i = nI p := by show σ.1 40 i = _; rw [o5]; exact ep
      have e39 : (sc σ 38 (brkF (keptB nf τ) i (σ.1 38))).1 39 i = τ.1 24 i := by show σ.1 39 i = _; rw [o4]
      have e30 : (sc σ 38 (brkF (keptB nf τ) i (σ.1 38))).1 30 f = τ.1 15 f := r0 f hf
      have eK : keptB nf τ i = decide (τ.1 15 f = nI p ∧ plT nf τ f ≠ τ.1 10 f ∧ plT nf τ f = τ.1 24 i) := by unfold keptB; rw [ef, ep, n_clamp (by omega)]
      have J58 : ∀ s0 : Int32, (s0 = 0 → keptB nf τ i = false) → (¬ s0 = 0 → ¬ keptB nf τ i = false) → w_X3_breakLost_58 Q (fun x2 σ => w_X3_breakLost_2 Q (k + 1) x2 σ) (nI i) s0 (sc σ 38 (brkF (keptB nf τ) i (σ.1 38))) := by
        intro s0 g1 g2
        unfold w_X3_breakLost_58
        have e38 : (sc σ 38 (brkF (keptB nf τ) i (σ.1 38))).1 38 i = σ.1 38 i := brkF_at
        refine isSt_t hRi hi2 (fun z => ?_) (fun z => ?_)
        · rw [e38] at z
          refine bf n10 ⟨fun y => ?_, fun y => ⟨hv, ?_⟩⟩
          · rw [brkF_n (fun w => g2 y w.2)]; exact nx
          · rintro _ rfl
            rw [ec, sc_wr, brkF_y z (g1 y)]; exact nx
        · rw [e38] at z
          refine bt rfl ?_
          rw [brkF_n (fun w => z w.1)]; exact nx
      have J57 : ¬ (τ.1 15 f = nI p ∧ plT nf τ f ≠ τ.1 10 f ∧ plT nf τ f = τ.1 24 i) → w_X3_breakLost_57 Q (fun x2 σ => w_X3_breakLost_2 Q (k + 1) x2 σ) (nI i) (sc σ 38 (brkF (keptB nf τ) i (σ.1 38))) := by
        intro g
        unfold w_X3_breakLost_57
        exact J58 0 (fun _ => by rw [eK]; exact decide_eq_false g) (fun y => absurd rfl y)
      refine bf ?_ ⟨hv, ?_⟩
      · show ¬ σ.1 10 7 ≤ nI i
        rw [o1, nI_leI (by omega) (by omega)]; omega
      rw [ec, e41]
      refine X6_planeOf_t (n := nf) f1 hf f0 ⟨hv, ?_⟩
      rw [e40, e30]
      refine ⟨fun z => J57 (fun g => z g.1), fun z => hasLeg_t hRi hf (fun hl => bf n10 ?_) (fun hl => bt rfl (J57 (fun g => hl ⟨?_, g.2.1⟩)))⟩
      · refine plA_t hRi hf hp z ⟨hv, ?_⟩
        rw [e39]
        exact ⟨fun y => J57 (fun g => y g.2.2), fun y => J58 1 (fun w => absurd w n10) (fun _ => by rw [eK, decide_eq_true ⟨z, hl.2, y⟩]; decide)⟩
      · show τ.1 15 f ≠ -1
        rw [z]; exact m1ne p (by omega)
  have := loop no 0 (by omega)
  rw [brkF_0, sc_id] at this
  exact ⟨no + 1, this⟩
theorem plT_sm {τ τ' : St} (hS : SM τ τ') (f : Nat) : plT nf τ' f = plT nf τ f := by
  unfold plT
  rw [hS.1 6 (by omega) (by omega), hS.1 11 (by omega) (by omega), hS.1 15 (by omega) (by omega), hS.1 12 (by omega) (by omega)]
theorem movT_sm {τ τ' : St} (hS : SM τ τ') (p : Nat) : movT nf τ' p = movT nf τ p := by
  unfold movT
  rw [hS.1 6 (by omega) (by omega), hS.1 11 (by omega) (by omega), hS.1 15 (by omega) (by omega), hS.1 12 (by omega) (by omega), hS.1 10 (by omega) (by omega)]
theorem recP_sm {τ τ' : St} (hS : SM τ τ') (p : Nat) : recP τ' p = recP τ p := by
  unfold recP
  rw [hS.1 5 (by omega) (by omega), hS.1 10 (by omega) (by omega), hS.1 11 (by omega) (by omega), hS.1 12 (by omega) (by omega), hS.1 8 (by omega) (by omega)]
theorem binds_t {o : Nat} (ho : o < 40) {Q : Int32 → St → Prop} (q1 : τ.1 19 o = 0 ∨ τ.1 19 o = 1 → Q 1 τ) (q0 : ¬ (τ.1 19 o = 0 ∨ τ.1 19 o = 1) → Q 0 τ) : w_X11_binds (nI o) τ Q := by
  have hv : vp_in (nI o) 40 := vp_in_nI (by omega) (by omega)
  unfold w_X11_binds
  rw [n_clamp (by omega)]
  exact ⟨hv, fun z => q1 (Or.inl z), fun z => ⟨hv, fun z2 => q0 (fun y => y.elim z z2), fun z2 => q1 (Or.inr z2)⟩⟩
/-- whether move i of the chain in the arrays is the leg of offer o -/
theorem isLeg_t {τ' : St} {p o j : Nat} {x : Nat × Bool × Int32} (ho : o < 40) (hj : j < 16) (hx1 : x.1 < 20) (hm : τ'.1 28 j = (recP τ p x).1 ∧ τ'.1 29 j = (recP τ p x).2.1 ∧ τ'.1 30 j = (recP τ p x).2.2.1 ∧ τ'.1 33 j = (recP τ p x).2.2.2.2.2) {Q : Int32 → St → Prop} (q1 : x.2.1 = true → nI x.1 = τ'.1 26 o → x.2.2 = τ'.1 24 o → τ.1 10 x.1 = τ'.1 25 o → Q 1 τ') (q0 : ¬ (x.2.1 = true ∧ nI x.1 = τ'.1 26 o ∧ x.2.2 = τ'.1 24 o ∧ τ.1 10 x.1 = τ'.1 25 o) → Q 0 τ') : w_X11_isLeg (nI o) (nI j) τ' Q := by
  have hv : vp_in (nI o) 40 := vp_in_nI (by omega) (by omega)
  have hvj : vp_in (nI j) 16 := vp_in_nI (by omega) (by omega)
  obtain ⟨m1, m2, m3, m4⟩ := hm
  obtain ⟨f, b, a⟩ := x
  unfold w_X11_isLeg
  rw [n_clamp (by omega), n_clamp (by omega), m1, m2, m3, m4]
  cases b with
  | false =>
    refine ⟨hvj, ct ?_ (q0 (fun z => Bool.noConfusion z.1))⟩
    show ¬ nI f = -1
    exact m1ne f (by have : f < 20 := hx1; omega)
  | true =>
    refine ⟨hvj, cf rfl ⟨hvj, hv, fun z => q0 (fun y => z y.2.1), fun z => ⟨hvj, hv, fun z2 => q0 (fun y => z2 y.2.2.1), fun z2 => ⟨hvj, hv, fun z3 => q0 (fun y => z3 y.2.2.2), fun z3 => q1 rfl z z2 z3⟩⟩⟩⟩
theorem hasLegM {h : RelX G tl np nf ns no σ τ} {o : Nat} (ho : o < no) {Q : Int32 → St → Prop} (q1 : keptB nf τ o = true → ∀ τ', SM τ τ' → Q 1 τ') (q0 : keptB nf τ o = false → ∀ τ', SM τ τ' → Q 0 τ') : w_X11_hasLeg (nI o) τ Q := by
  obtain ⟨o0, o1, o2, o3, o4, o5, o6, o7, o8, o9, o10, o11, o12⟩ := h.2.2.2.2.2.2.2.2.1
  have f0 := h.2.2.2.2.1.1
  have p0 := h.2.2.2.1.1
  obtain ⟨x1, x2, ⟨p, hp, ep⟩, ⟨f, hf, ef⟩, x5⟩ := o10 o ho
  have hM := movT_16 h hp
  unfold w_X11_hasLeg
  rw [n_clamp (by omega), ep]
  refine ⟨vp_in_nI (by omega) (by omega), hand_t h hp (fun τ' s1 s2 s3 => ?_)⟩
  have eK : keptB nf τ o = decide (τ.1 15 f = nI p ∧ plT nf τ f ≠ τ.1 10 f ∧ plT nf τ f = τ.1 24 o) := by unfold keptB; rw [ef, ep, n_clamp (by omega)]
  have e26 : τ'.1 26 o = nI f := by rw [s1.1 26 (by omega) (by omega)]; exact ef
  have e24 : τ'.1 24 o = τ.1 24 o := by rw [s1.1 24 (by omega) (by omega)]
  have e25 : τ'.1 25 o = τ.1 10 f := by rw [s1.1 25 (by omega) (by omega), x5, ef, n_clamp (by omega)]
  have yes : ∀ (j : Nat) (a : Int32), (movT nf τ p)[j]? = some (f, true, a) → a = τ.1 24 o → keptB nf τ o = true := by
    intro j a hj ha
    obtain ⟨g1, g2, g3, g4, -⟩ := movT_leg h hp hj
    rw [eK]
    exact decide_eq_true ⟨g2, g4.2, by rw [← g3]; exact ha⟩
  have loop : ∀ k i, i + k = (movT nf τ p).length → (∀ j x, j < i → (movT nf τ p)[j]? = some x → ¬ (x.2.1 = true ∧ x.1 = f ∧ x.2.2 = τ.1 24 o)) → w_X11_hasLeg_12 Q (k + 1) (nI o) (nI i) τ' := by
    intro k
    induction k with
    | zero =>
      intro i hi hno
      refine bt (by rw [s2, nI_leI (by omega) (by omega)]; omega) (q0 ?_ τ' s1)
      rw [eK]
      refine decide_eq_false (fun g => ?_)
      obtain ⟨j, hj⟩ := movT_ex h hp hf g.1 ⟨by rw [g.1]; exact m1ne p (by omega), g.2.1⟩
      exact hno j _ (by have := (List.getElem?_eq_some_iff.mp hj).1; omega) hj ⟨rfl, rfl, g.2.2⟩
    | succ k ih =>
      intro i hi hno
      obtain ⟨x, hx⟩ : ∃ x, (movT nf τ p)[i]? = some x := ⟨_, List.getElem?_eq_getElem (by omega)⟩
      obtain ⟨m1, m2, m3, m4, m5, m6⟩ := s3 i x hx
      have hxn : x.1 < nf := (handL_mem.mp (mvs_mem _ _ _ hx)).1
      refine bf (by rw [s2, nI_leI (by omega) (by omega)]; omega) (isLeg_t (τ := τ) (p := p) (x := x) (by omega) (by omega) (by omega) ⟨m1, m2, m3, m6⟩ (fun y1 y2 y3 y4 => bf n10 ?_) (fun y => bt rfl ?_))
      · rw [e26] at y2
        have y2' : x.1 = f := (nI_eq (by omega) (by omega)).mp y2
        obtain ⟨xf, xb, xa⟩ := x
        dsimp only at y1 y2' y3
        subst y1
        subst y2'
        exact q1 (yes i xa hx (by rw [y3, e24])) τ' s1
      · rw [nI_1]
        refine ih (i + 1) (by omega) (fun j z hj hz hzz => ?_)
        by_cases e : j = i
        · subst e
          rw [hx] at hz
          cases hz
          refine y ⟨hzz.1, by rw [e26, hzz.2.1], by rw [e24]; exact hzz.2.2, by rw [e25, hzz.2.1]⟩
        · exact hno j z (by omega) hz hzz
  exact ⟨(movT nf τ p).length + 1, loop _ 0 (by omega) (fun j x hj => absurd hj (by omega))⟩
theorem keptB_sm {τ τ' : St} (hS : SM τ τ') (o : Nat) : keptB nf τ' o = keptB nf τ o := by
  unfold keptB
  rw [plT_sm hS, hS.1 15 (by omega) (by omega), hS.1 26 (by omega) (by omega), hS.1 23 (by omega) (by omega), hS.1 10 (by omega) (by omega), hS.1 24 (by omega) (by omega)]
theorem breakM (h : RelX G tl np nf ns no σ τ) {Q : St → Prop} (q : ∀ τ', SM (sc τ 19 (brkF (keptB nf τ) no (τ.1 19))) τ' → Q τ') : w_X11_breaks τ Q := by
  have hR := h
  obtain ⟨o0, o1, o2, o3, o4, o5, o6, o7, o8, o9, o10, o11, o12⟩ := h.2.2.2.2.2.2.2.2.1
  unfold w_X11_breaks
  have loop : ∀ k i τ', i + k = no → SM (sc τ 19 (brkF (keptB nf τ) i (τ.1 19))) τ' → w_X11_breaks_2 Q (k + 1) (nI i) τ' := by
    intro k
    induction k with
    | zero =>
      intro i τ' hi hS
      obtain rfl : i = no := by omega
      refine bt ?_ (q τ' hS)
      rw [hS.2 25 (by omega) (by omega) (by omega) (by omega)]
      show τ.1 0 25 ≤ nI i
      rw [o2, nI_leI (by omega) (by omega)]; omega
    | succ k ih =>
      intro i τ' hi hS
      have hi2 : i < no := by omega
      have hRi : RelX G tl np nf ns no (sc σ 38 (brkF (keptB nf τ) i (τ.1 19))) (sc τ 19 (brkF (keptB nf τ) i (τ.1 19))) := hR.st _ (fun o ho => brkF_st (o10 o ho).1)
      have hRt := hRi.scratch (SC.rf _) hS
      have eK : keptB nf τ' i = keptB nf τ i := keptB_sm hS i
      have e19 : τ'.1 19 i = τ.1 19 i := by
        rw [hS.1 19 (by omega) (by omega)]
        show brkF (keptB nf τ) i (τ.1 19) i = _
        exact brkF_at
      refine bf ?_ (binds_t (by omega) (fun z => bf n10 (hasLegM (h := hRt) hi2 (fun y τ2 s2 => ct n10 ?_) (fun y τ2 s2 => cf rfl ⟨vp_in_nI (by omega) (by omega), ?_⟩))) (fun z => bt rfl ?_))
      · rw [hS.2 25 (by omega) (by omega) (by omega) (by omega)]
        show ¬ τ.1 0 25 ≤ nI i
        rw [o2, nI_leI (by omega) (by omega)]; omega
      · rw [nI_1]
        refine ih (i + 1) τ2 (by omega) ?_
        rw [← brkF_n (fun w => by rw [eK] at y; rw [y] at w; exact absurd w.2 (by decide))]
        exact hS.tr s2
      · rintro _ rfl
        rw [nI_1, n_clamp (by omega)]
        refine ih (i + 1) _ (by omega) ?_
        rw [e19] at z
        rw [← brkF_y z (by rw [← eK]; exact y)]
        have s3 := hS.tr s2
        refine ⟨fun c h1 h2 => ?_, fun j a1 a2 a3 a4 => s3.2 j a1 a2 a3 a4⟩
        by_cases e : c = 19
        · subst e
          show upd (τ2.1 19) i 3 = upd (brkF (keptB nf τ) i (τ.1 19)) i 3
          rw [s3.1 19 (by omega) (by omega)]
          rfl
        · show (if c = 19 then _ else τ2.1 c) = if c = 19 then _ else τ.1 c
          rw [if_neg e, if_neg e, s3.1 c h1 h2]
          show (if c = 19 then _ else τ.1 c) = _
          rw [if_neg e]
      · rw [nI_1]
        refine ih (i + 1) τ' (by omega) ?_
        rw [e19] at z
        rw [← brkF_n (fun w => z w.1)]
        exact hS
  refine ⟨no + 1, loop no 0 τ (by omega) ?_⟩
  rw [brkF_0, sc_id]
  exact SM.rf τ
/-- both break; then all standing offers are legs at hand -/
theorem break_rel (h : RelX G tl np nf ns no σ τ) {τ' : St} (hS : SM (sc τ 19 (brkF (keptB nf τ) no (τ.1 19))) τ') : Rel (sc σ 38 (brkF (keptB nf τ) no (σ.1 38))) τ' := by
  have hR := h
  obtain ⟨h1, h2, h3, h4, h5, h6, h7, h8, h9, h10⟩ := h
  have h9' := h9
  obtain ⟨o0, o1, o2, o3, o4, o5, o6, o7, o8, o9, o10, o11, o12⟩ := h9
  have key : RelX True tl np nf ns no (sc σ 38 (brkF (keptB nf τ) no (σ.1 38))) (sc τ 19 (brkF (keptB nf τ) no (τ.1 19))) := by
    refine ⟨h1, h2, h3, h4, h5, h6, h7, h8, ⟨o0, o1, o2, ?_, o4, o5, o6, o7, o8, o9, fun o ho => ⟨(brkF_st (o10 o ho).1).1, (o10 o ho).2⟩, fun _ o ho hs => ?_, fun o o' ho ho' hs hs' => o12 o o' ho ho' ((brkF_st (o10 o ho).1).2 hs) ((brkF_st (o10 o' ho').1).2 hs')⟩, h10⟩
    · show brkF (keptB nf τ) no (σ.1 38) = brkF (keptB nf τ) no (τ.1 19)
      rw [o3]
    · have hs1 : stand (brkF (keptB nf τ) no (τ.1 19) o) := hs
      have hK : keptB nf τ o = true := by
        cases hk : keptB nf τ o with
        | true => rfl
        | false =>
          exfalso
          have e : brkF (keptB nf τ) no (τ.1 19) o = 3 := if_pos ⟨ho, (brkF_st (o10 o ho).1).2 hs1, hk⟩
          rw [e] at hs1
          rcases hs1 with z | z <;> exact absurd z (by decide)
      have := of_decide_eq_true hK
      exact ⟨this.1, this.2.2, fun z => this.2.1 (this.2.2.trans z)⟩
  exact ⟨tl, np, nf, ns, no, key.scratch (SC.rf _) hS⟩
end BRK
