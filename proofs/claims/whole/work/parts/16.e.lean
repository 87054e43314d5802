/-! ===== bill ===== -/
def nn64 (v : Int64) : Int64 := if v < 0 then 0 else v
theorem nn64_m {v : Int64} {Q : Int64 → Prop} (q : Q (nn64 v)) : (0 ≤ lg_cmp v 0 → Q v) ∧ (¬ 0 ≤ lg_cmp v 0 → Q 0) := by
  unfold nn64 at q
  refine ⟨fun z => ?_, fun z => ?_⟩
  · have := (lg_cmp_ge v 0).mp z
    rw [if_neg (by rw [Int64.lt_iff_toInt_lt]; rw [Int64.le_iff_toInt_le] at this; omega)] at q
    exact q
  · have hn : ¬ (0 : Int64) ≤ v := fun y => z ((lg_cmp_ge v 0).mpr y)
    rw [if_pos (by rw [Int64.lt_iff_toInt_lt]; rw [Int64.le_iff_toInt_le] at hn; omega)] at q
    exact q
theorem add64 {x y : Int32} (hx : inR x (-100000) 100000) (hy : inR y (-100000) 100000) : (x + y).toInt64 = x.toInt64 + y.toInt64 := by
  rw [← Int64.toInt_inj, lg_i2l_add, Jvm.Kit.i64_of_i32, i_add hx hy]
section BIL
variable {tl np nf ns no : Nat} {σ τ : St}
theorem takenC (h : RelX True tl np nf ns no σ τ) {f : Nat} {Q : Int32 → St → Prop} (q1 : ∀ o, o < no → τ.1 19 o = 1 → τ.1 26 o = nI f → Q (τ.1 20 o) σ) (q0 : (∀ o, o < no → τ.1 19 o = 1 → τ.1 26 o ≠ nI f) → Q 0 σ) : w_X3_takenPrice (nI f) σ Q := by
  obtain ⟨o0, o1, o2, o3, o4, o5, o6, o7, -⟩ := h.2.2.2.2.2.2.2.2.1
  unfold w_X3_takenPrice
  have loop : ∀ k i, i + k = no → (∀ o, o < i → τ.1 19 o = 1 → τ.1 26 o ≠ nI f) → w_X3_takenPrice_2 Q (k + 1) (nI f) (nI i) σ := by
    intro k
    induction k with
    | zero =>
      intro i hi hno
      obtain rfl : i = no := by omega
      exact bt (by rw [o1, nI_leI (by omega) (by omega)]; omega) (q0 hno)
    | succ k ih =>
      intro i hi hno
      have hv : vp_in (nI i) 40 := vp_in_nI (by omega) (by omega)
      have nx : (τ.1 19 i = 1 → τ.1 26 i ≠ nI f) → w_X3_takenPrice_2 Q (k + 1) (nI f) (nI i + 1) σ := fun z => by
        rw [nI_1]
        refine ih (i + 1) (by omega) (fun o ho hs => ?_)
        by_cases e : o = i
        · subst e; exact z hs
        · exact hno o (by omega) hs
      refine bf (by rw [o1, nI_leI (by omega) (by omega)]; omega) ⟨hv, ?_⟩
      rw [n_clamp (by omega), o6, o3, o7]
      exact ⟨fun z => nx (fun _ => z), fun z => ⟨hv, fun y => nx (fun w => absurd w y), fun y => ⟨hv, q1 i (by omega) y z⟩⟩⟩
  exact ⟨no + 1, loop no 0 (by omega) (fun o ho => absurd ho (Nat.not_lt_zero o))⟩
/-- the reference takes the half of the price off -/
theorem offM (h : RelX True tl np nf ns no σ τ) {τ' : St} (hS : SM τ τ') {p f j : Nat} (hp : p < np) (hj : (movT nf τ p)[j]? = some (f, true, plT nf τ f)) (hm : τ'.1 28 j = (recP τ p (f, true, plT nf τ f)).1 ∧ τ'.1 29 j = (recP τ p (f, true, plT nf τ f)).2.1 ∧ τ'.1 30 j = (recP τ p (f, true, plT nf τ f)).2.2.1 ∧ τ'.1 33 j = (recP τ p (f, true, plT nf τ f)).2.2.2.2.2) {Q : Int64 → St → Prop} {K : Int32 → Int32 → Int64 → Int32 → St → Prop} {v : Int64} {x1 : Int32}
    (q1 : ∀ o, o < no → τ.1 19 o = 1 → τ.1 26 o = nI f → K x1 (nI p) (v - (τ.1 20 o / 2).toInt64) (nI j + 1) τ') (q0 : (∀ o, o < no → τ.1 19 o = 1 → τ.1 26 o ≠ nI f) → K x1 (nI p) v (nI j + 1) τ') : ∃ nn : Nat, w_X11_bill_143 Q K nn x1 (nI p) v (nI j) 0 τ' := by
  obtain ⟨o0, o1, o2, o3, o4, o5, o6, o7, o8, o9, o10, o11, o12⟩ := h.2.2.2.2.2.2.2.2.1
  have f0 := h.2.2.2.2.1.1
  have hM := movT_16 h hp
  have hjl : j < (movT nf τ p).length := (List.getElem?_eq_some_iff.mp hj).1
  obtain ⟨g1, g2, -, g4, -⟩ := movT_leg h hp hj
  have S := fun c h1 h2 => hS.1 c h1 h2
  have c25 : τ'.1 0 25 = nI no := by rw [hS.2 25 (by omega) (by omega) (by omega) (by omega)]; exact o2
  -- offer o is taken and of this flight, or not
  have step : ∀ (i n : Nat) (w : Int64), i < no → (τ.1 19 i = 1 → τ.1 26 i = nI f → w_X11_bill_143 Q K n x1 (nI p) (w - (τ.1 20 i / 2).toInt64) (nI j) (nI (i + 1)) τ') → (¬ (τ.1 19 i = 1 ∧ τ.1 26 i = nI f) → w_X11_bill_143 Q K n x1 (nI p) w (nI j) (nI (i + 1)) τ') → w_X11_bill_143 Q K (n + 1) x1 (nI p) w (nI j) (nI i) τ' := by
    intro i n w hi k1 k0
    have hv : vp_in (nI i) 40 := vp_in_nI (by omega) (by omega)
    have k0' : ¬ (τ.1 19 i = 1 ∧ τ.1 26 i = nI f) → w_X11_bill_143 Q K n x1 (nI p) (w - 0) (nI j) (nI i + 1) τ' := fun z => by
      rw [nI_1, Int64.sub_zero]; exact k0 z
    refine bf (by rw [c25, nI_leI (by omega) (by omega)]; omega) ⟨hv, ?_⟩
    rw [n_clamp (by omega), S 19 (by omega) (by omega), S 23 (by omega) (by omega)]
    refine ⟨fun z => k0' (fun y => z y.1), fun z => ⟨hv, fun z2 => k0' (fun y => ?_), fun z2 => isLeg_t (τ := τ) (p := p) (x := (f, true, plT nf τ f)) (by omega) (by omega) (by show f < 20; omega) hm (fun _ y2 _ _ => bf n10 ⟨hv, ?_⟩) (fun y => bt rfl (k0' (fun w2 => y ⟨rfl, ?_, ?_, ?_⟩)))⟩⟩
    · obtain ⟨w1, -, -⟩ := o11 trivial i hi (Or.inr z)
      rw [y.2, n_clamp (by omega)] at w1
      exact z2 (w1.symm.trans g2)
    · rintro _ rfl
      rw [S 26 (by omega) (by omega)] at y2
      rw [nI_1, S 20 (by omega) (by omega)]
      exact k1 z y2.symm
    · rw [S 26 (by omega) (by omega)]; exact w2.2.symm
    · obtain ⟨-, w3, -⟩ := o11 trivial i hi (Or.inr z)
      rw [w2.2, n_clamp (by omega)] at w3
      rw [S 24 (by omega) (by omega)]
      exact w3
    · obtain ⟨-, -, -, -, w3⟩ := o10 i hi
      rw [w2.2, n_clamp (by omega)] at w3
      rw [S 25 (by omega) (by omega)]
      exact w3.symm
  have fin : ∀ w : Int64, K x1 (nI p) w (nI j + 1) τ' → w_X11_bill_143 Q K 1 x1 (nI p) w (nI j) (nI no) τ' := fun w k => bt (by rw [c25, nI_leI (by omega) (by omega)]; omega) k
  by_cases hex : ∃ o, o < no ∧ τ.1 19 o = 1 ∧ τ.1 26 o = nI f
  · obtain ⟨o, ho, e1, e2⟩ := hex
    have k := q1 o ho e1 e2
    have uniq : ∀ i, i < no → τ.1 19 i = 1 → τ.1 26 i = nI f → i = o := fun i hi y1 y2 => o12 i o hi ho (Or.inr y1) (Or.inr e1) (y2.trans e2.symm)
    have loop2 : ∀ d i, i + d = no → o < i → w_X11_bill_143 Q K (d + 1) x1 (nI p) (v - (τ.1 20 o / 2).toInt64) (nI j) (nI i) τ' := by
      intro d
      induction d with
      | zero => intro i hi hoi; obtain rfl : i = no := by omega
                exact fin _ k
      | succ d ih =>
        intro i hi hoi
        exact step i _ _ (by omega) (fun y1 y2 => absurd (uniq i (by omega) y1 y2) (by omega)) (fun _ => ih (i + 1) (by omega) (by omega))
    have loop1 : ∀ d i, i + d = no → i ≤ o → w_X11_bill_143 Q K (d + 1) x1 (nI p) v (nI j) (nI i) τ' := by
      intro d
      induction d with
      | zero => intro i hi hoi; omega
      | succ d ih =>
        intro i hi hoi
        refine step i _ _ (by omega) (fun y1 y2 => ?_) (fun y => ?_)
        · have := uniq i (by omega) y1 y2
          subst this
          exact loop2 d (i + 1) (by omega) (by omega)
        · refine ih (i + 1) (by omega) ?_
          rcases Nat.lt_or_ge i o with z | z
          · omega
          · have : i = o := by omega
            subst this
            exact absurd ⟨e1, e2⟩ y
    exact ⟨no + 1, loop1 no 0 (by omega) (by omega)⟩
  · have hn : ∀ o, o < no → τ.1 19 o = 1 → τ.1 26 o ≠ nI f := fun o ho y1 y2 => hex ⟨o, ho, y1, y2⟩
    have k := q0 hn
    have loop : ∀ d i, i + d = no → w_X11_bill_143 Q K (d + 1) x1 (nI p) v (nI j) (nI i) τ' := by
      intro d
      induction d with
      | zero => intro i hi; obtain rfl : i = no := by omega
                exact fin _ k
      | succ d ih =>
        intro i hi
        exact step i _ _ (by omega) (fun y1 y2 => absurd y2 (hn i (by omega) y1)) (fun _ => ih (i + 1) (by omega))
    exact ⟨no + 1, loop no 0 (by omega)⟩
/-- the reference's bill of a flown flight -/
theorem billM (h : RelX True tl np nf ns no σ τ) {p f : Nat} (hp : p < np) (hf : f < nf) (ho : τ.1 15 f = nI p) {Q : Int64 → St → Prop}
    (qn : ¬ hasLg nf τ f → ∀ τ', SM τ τ' → Q (nn64 ((τ.1 9 p).toInt64 * (wayT (τ.1 5) (τ.1 10 f) (τ.1 11 f)).toInt64)) τ')
    (qz : hasLg nf τ f → legMn nf τ f = 0 → ∀ τ', SM τ τ' → Q (-1) τ')
    (q0 : hasLg nf τ f → ¬ legMn nf τ f = 0 → (∀ o, o < no → τ.1 19 o = 1 → τ.1 26 o ≠ nI f) → ∀ τ', SM τ τ' → Q (nn64 ((τ.1 9 p).toInt64 * (wayT (τ.1 5) (τ.1 10 f) (τ.1 11 f)).toInt64 + (τ.1 9 p).toInt64 * (legMn nf τ f).toInt64)) τ')
    (q1 : hasLg nf τ f → ¬ legMn nf τ f = 0 → ∀ o, o < no → τ.1 19 o = 1 → τ.1 26 o = nI f → ∀ τ', SM τ τ' → Q (nn64 ((τ.1 9 p).toInt64 * (wayT (τ.1 5) (τ.1 10 f) (τ.1 11 f)).toInt64 + (τ.1 9 p).toInt64 * (legMn nf τ f).toInt64 - (τ.1 20 o / 2).toInt64)) τ') : w_X11_bill (nI f) τ Q := by
  obtain ⟨f0, f1, f2, f3, f4, f5, f6, f7, f8, f9, f10, f11, f12⟩ := h.2.2.2.2.1
  have p0 := h.2.2.2.1.1
  obtain ⟨b1', b2', -⟩ := f12 f hf
  have hM := movT_16 h hp
  have hvf : vp_in (nI f) 20 := vp_in_nI (by omega) (by omega)
  have ecf := n_clamp (show f < 2 ^ 31 by omega)
  have ecp := n_clamp (show p < 2 ^ 31 by omega)
  have hvp : vp_in (nI p) 4 := vp_in_nI (by omega) (by omega)
  unfold w_X11_bill
  refine isFl_t f2 hf f0 (bf n10 ⟨hvf, ?_⟩)
  rw [ecf, ho]
  refine ct (m1ne p (by omega)) ⟨hvf, hand_t h hp (fun τ' s1 s2 s3 => ⟨hvp, hvf, hvf, ?_⟩)⟩
  rw [s1.1 10 (by omega) (by omega), s1.1 11 (by omega) (by omega), s1.1 9 (by omega) (by omega), ecp]
  refine minsM_w s1 b1' b2' ?_
  rintro _ rfl
  -- moves that are not the leg of f are passed
  have skip : ∀ (i n : Nat) (w : Int64) (x : Nat × Bool × Int32), (movT nf τ p)[i]? = some x → ¬ (x.1 = f ∧ x.2.1 = true) → w_X11_bill_63 Q n (nI f) (nI p) w (nI (i + 1)) τ' → w_X11_bill_63 Q (n + 1) (nI f) (nI p) w (nI i) τ' := by
    intro i n w x hx hne k
    have hil : i < (movT nf τ p).length := (List.getElem?_eq_some_iff.mp hx).1
    have hxn : x.1 < nf := (handL_mem.mp (mvs_mem _ _ _ hx)).1
    obtain ⟨m1, m2, m3, m4, m5, m6⟩ := s3 i x hx
    have hv : vp_in (nI i) 16 := vp_in_nI (by omega) (by omega)
    rw [← nI_1] at k
    refine bf (by rw [s2, nI_leI (by omega) (by omega)]; omega) ⟨hv, ?_⟩
    rw [n_clamp (by omega), m1, m6]
    obtain ⟨g, b, a⟩ := x
    cases b with
    | false => exact ct (m1ne g (by have : g < nf := hxn; omega)) k
    | true =>
      refine cf rfl ⟨hv, fun z => ?_, fun _ => k⟩
      have : g = f := (nI_eq (by have : g < nf := hxn; omega) (by omega)).mp z
      exact absurd ⟨this, rfl⟩ hne
  have fin : ∀ (w : Int64), Q (nn64 w) τ' → w_X11_bill_63 Q 1 (nI f) (nI p) w (nI (movT nf τ p).length) τ' := fun w q => bt (by rw [s2, nI_leI (by omega) (by omega)]; omega) (nn64_m (Q := fun v => Q v τ') q)
  have tail : ∀ (w : Int64), Q (nn64 w) τ' → ∀ d i, i + d = (movT nf τ p).length → (∀ j x, i ≤ j → (movT nf τ p)[j]? = some x → ¬ (x.1 = f ∧ x.2.1 = true)) → w_X11_bill_63 Q (d + 1) (nI f) (nI p) w (nI i) τ' := by
    intro w q d
    induction d with
    | zero => intro i hi _; obtain rfl : i = (movT nf τ p).length := by omega
              exact fin w q
    | succ d ih =>
      intro i hi hno
      obtain ⟨x, hx⟩ : ∃ x, (movT nf τ p)[i]? = some x := ⟨_, List.getElem?_eq_getElem (by omega)⟩
      exact skip i _ w x hx (hno i x (Nat.le_refl i) hx) (ih (i + 1) (by omega) (fun j x hj => hno j x (by omega)))
  by_cases hl : hasLg nf τ f
  · obtain ⟨j, hj⟩ := movT_ex h hp hf ho hl
    have hjl : j < (movT nf τ p).length := (List.getElem?_eq_some_iff.mp hj).1
    have hpi := plT_in h hp hf ho
    have uq : ∀ i x, (movT nf τ p)[i]? = some x → (x.1 = f ∧ x.2.1 = true) → i = j := by
      intro i x hx e
      obtain ⟨g, b, a⟩ := x
      obtain ⟨e1, e2⟩ := e
      dsimp only at e1 e2
      subst e1
      subst e2
      exact mvs_uniq _ _ i j (handL_nodup _ _ _ _) hx hj
    obtain ⟨m1, m2, m3, m4, m5, m6⟩ := s3 j _ hj
    have hv : vp_in (nI j) 16 := vp_in_nI (by omega) (by omega)
    have at_j : ∀ n, (movT nf τ p).length ≤ j + 1 + n → w_X11_bill_63 Q (n + 2) (nI f) (nI p) ((τ.1 9 p).toInt64 * (wayT (τ.1 5) (τ.1 10 f) (τ.1 11 f)).toInt64) (nI j) τ' → True := fun _ _ _ => trivial
    have J : ∀ d, j + 1 + d = (movT nf τ p).length → w_X11_bill_63 Q (d + 2) (nI f) (nI p) ((τ.1 9 p).toInt64 * (wayT (τ.1 5) (τ.1 10 f) (τ.1 11 f)).toInt64) (nI j) τ' := by
      intro d hd
      refine bf (by rw [s2, nI_leI (by omega) (by omega)]; omega) ⟨hv, ?_⟩
      rw [n_clamp (by omega), m1, m6, m2, m3]
      refine cf rfl ⟨hv, fun _ => ⟨hv, hv, minsM_w s1 hpi b1' ⟨fun z => ⟨hvp, ?_⟩, fun z => qz hl z τ' s1⟩⟩, fun z => absurd rfl z⟩
      rintro _ rfl
      rw [s1.1 9 (by omega) (by omega), ecp]
      have tl2 := fun w q => tail w q d (j + 1) (by omega) (fun i x hi hx e => absurd (uq i x hx e) (by omega))
      refine offM h s1 hp hj ⟨m1, m2, m3, m6⟩ (fun o w1 w2 w3 => ?_) (fun w => ?_)
      · rw [nI_1]; exact tl2 _ (q1 hl z o w1 w2 w3 τ' s1)
      · rw [nI_1]; exact tl2 _ (q0 hl z w τ' s1)
    have head : ∀ e i, i + e = j → w_X11_bill_63 Q (e + ((movT nf τ p).length - j - 1) + 2) (nI f) (nI p) ((τ.1 9 p).toInt64 * (wayT (τ.1 5) (τ.1 10 f) (τ.1 11 f)).toInt64) (nI i) τ' := by
      intro e
      induction e with
      | zero =>
        intro i hi
        obtain rfl : i = j := by omega
        rw [Nat.zero_add]
        exact J _ (by omega)
      | succ e ih =>
        intro i hi
        obtain ⟨x, hx⟩ : ∃ x, (movT nf τ p)[i]? = some x := ⟨_, List.getElem?_eq_getElem (by omega)⟩
        have nx := ih (i + 1) (by omega)
        rw [show e + 1 + ((movT nf τ p).length - j - 1) + 2 = (e + ((movT nf τ p).length - j - 1) + 2) + 1 by omega]
        exact skip i _ _ x hx (fun y => absurd (uq i x hx y) (by omega)) nx
    exact ⟨_, head j 0 (by omega)⟩
  · refine ⟨_, tail _ (qn hl τ' s1) (movT nf τ p).length 0 (by omega) (fun j x _ hx e => hl ?_)⟩
    obtain ⟨g, b, a⟩ := x
    obtain ⟨e1, e2⟩ := e
    dsimp only at e1 e2
    subst e1
    subst e2
    exact (movT_leg h hp hx).2.2.2.1
theorem sim_bill (a1 : Int32) {σ τ : St} (h : Rel σ τ) : w_X10_bill a1 σ (fun r σ' => w_X11_bill a1 τ (fun r' τ' => r = r' ∧ Rel σ' τ')) := by
  have hR := h
  obtain ⟨tl, np, nf, ns, no, h⟩ := h
  obtain ⟨f0, f1, f2, f3, f4, f5, f6, f7, f8, f9, f10, f11, f12⟩ := h.2.2.2.2.1
  obtain ⟨p0, p1, p2, p3, p4, p5, p6, p7⟩ := h.2.2.2.1
  obtain ⟨o0, o1, o2, o3, o4, o5, o6, o7, o8, o9, o10, o11, o12⟩ := h.2.2.2.2.2.2.2.2.1
  obtain ⟨r0, r1, r2, r3⟩ := h.2.2.2.2.2.2.2.1
  have same : ∀ τ', SM τ τ' → Rel σ τ' := fun τ' s => ⟨tl, np, nf, ns, no, h.scratch (SC.rf σ) s⟩
  unfold w_X10_bill
  rcases ix_or a1 nf (by omega) with ⟨f, hf, rfl⟩ | hx
  · have hvf : vp_in (nI f) 20 := vp_in_nI (by omega) (by omega)
    refine X6_planeOf_t f1 hf f0 ?_
    rw [r0 f hf]
    rcases r2 f hf with e | ⟨p, hp, e⟩
    · refine cf e ?_
      unfold w_X11_bill
      refine isFl_t f2 hf f0 (bf n10 ⟨hvf, ?_⟩)
      rw [n_clamp (by omega)]
      exact cf e ⟨rfl, hR⟩
    · have hne : ¬ τ.1 15 f = -1 := by rw [e]; exact m1ne p (by omega)
      obtain ⟨b1', b2', -⟩ := f12 f hf
      have hpi := plT_in h hp hf e
      have i1 := (way_in h b1' b2').wd (c := -100000) (d := 100000) (by omega) (by omega)
      have i2 : inR (legMn nf τ f) (-100000) 100000 := (way_in h hpi b1').wd (by omega) (by omega)
      refine ct hne (flown5 h hf (hasLeg_t h hf (fun hl => bf n10 ?_) (fun hl => bt rfl ?_)))
      · refine legMin_t h hf (fun _ => ⟨fun z => ?_, fun z => billM h hp hf e (fun n => absurd hl n) (fun _ _ τ' s => ⟨rfl, same τ' s⟩) (fun _ n => absurd z n) (fun _ n => absurd z n)⟩) (fun n => absurd hl n)
        unfold w_X10_bill_62
        rw [e]
        refine X4_rateOf_t p1 hp p0 (takenC h (fun o w1 w2 w3 => ?_) (fun w => ?_))
        · refine billM h hp hf e (fun n => absurd hl n) (fun _ y => absurd y z) (fun _ _ n => absurd w3 (n o w1 w2)) (fun _ _ o' w1' w2' w3' τ' s => ⟨?_, same τ' s⟩)
          have eo : o' = o := o12 o' o w1' w1 (Or.inr w2') (Or.inr w2) (w3'.trans w3.symm)
          rw [p6, add64 i1 i2, Int64.mul_add, eo]
          rfl
        · refine billM h hp hf e (fun n => absurd hl n) (fun _ y => absurd y z) (fun _ _ n τ' s => ⟨?_, same τ' s⟩) (fun _ _ o' w1' w2' w3' => absurd w3' (w o' w1' w2'))
          rw [p6, add64 i1 i2, Int64.mul_add, show ((0 : Int32) / 2).toInt64 = 0 from rfl, Int64.sub_zero]
          rfl
      · unfold w_X10_bill_62
        rw [e]
        refine X4_rateOf_t p1 hp p0 (takenC h (fun o w1 w2 w3 => ?_) (fun w => ?_))
        · obtain ⟨y1, y2, y3⟩ := o11 trivial o w1 (Or.inr w2)
          rw [w3, n_clamp (by omega)] at y1 y2 y3
          exact absurd ⟨hne, fun z => y3 (y2.symm.trans z)⟩ hl
        · refine billM h hp hf e (fun _ τ' s => ⟨?_, same τ' s⟩) (fun y => absurd y hl) (fun y => absurd y hl) (fun y => absurd y hl)
          rw [p6, show ((0 : Int32) / 2).toInt64 = 0 from rfl, Int64.sub_zero]
          rfl
  · refine X6_planeOf_f f1 hx (cf rfl ?_)
    unfold w_X11_bill
    exact isFl_f f2 hx f0 (bt rfl ⟨rfl, hR⟩)
end BIL
