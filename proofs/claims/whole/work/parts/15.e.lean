section OFF
variable {G : Prop} {tl np nf ns no : Nat} {σ τ : St}
theorem offer_yes {a3 a4 : Int32} {p j f : Nat} {Q : Int32 → St → Prop} (h : RelX G tl np nf ns no σ τ) (hno : no < 40) (hp : p < np) (hj : (movT nf τ p)[j]? = some (f, true, plT nf τ f)) (g3 : inR a3 0 1000000) (g4 : inR a4 (τ.1 0 2).toInt 10079) (hh : ∀ o, o < no → (τ.1 19 o = 0 ∨ τ.1 19 o = 1) → τ.1 26 o ≠ nI f)
    (q : ∀ τ', (∀ k, 0 < k → k < 19 → τ'.1 k = τ.1 k) → (∀ j, j ≠ 6 → j ≠ 7 → j ≠ 34 → j ≠ 36 → j ≠ 25 → τ'.1 0 j = τ.1 0 j) → τ'.1 0 25 = τ.1 0 25 + 1 → τ'.1 19 = upd (τ.1 19) no 0 → τ'.1 20 = upd (τ.1 20) no a3 → τ'.1 21 = upd (τ.1 21) no a4 → τ'.1 22 = upd (τ.1 22) no (-1) → τ'.1 23 = upd (τ.1 23) no (nI p) → τ'.1 24 = upd (τ.1 24) no (plT nf τ f) → τ'.1 25 = upd (τ.1 25) no (τ.1 10 f) → τ'.1 26 = upd (τ.1 26) no (nI f) → Q (nI no) τ') : w_X11_offer (nI p) (nI j) a3 a4 τ Q := by
  have hR := h
  obtain ⟨o0, o1, o2, -⟩ := h.2.2.2.2.2.2.2.2.1
  have p0 := h.2.2.2.1.1
  have p2 := h.2.2.2.1.2.2.1
  have f0 := h.2.2.2.2.1.1
  unfold w_X11_offer
  refine bf (i_ne 40 o2 (by omega) (by omega) (by omega)) (lies_ix p2 hp (by omega) (b1 (lies_t g3 (b1 (lies_t g4 (c1 (hand_t hR hp (fun τ' s1 s2 s3 => ?_))))))))
  have hM := movT_16 hR hp
  have hjl : j < (movT nf τ p).length := (List.getElem?_eq_some_iff.mp hj).1
  obtain ⟨m1, m2, m3, m4, m5, m6⟩ := s3 j _ hj
  obtain ⟨e1f, -, -, -, -⟩ := movT_leg hR hp hj
  have hvj : vp_in (nI j) 16 := vp_in_nI (by omega) (by omega)
  have ecj := n_clamp (show j < 2 ^ 31 by omega)
  have S := fun c h1 h2 => s1.1 c h1 h2
  have c25 : τ'.1 0 25 = nI no := by rw [s1.2 25 (by omega) (by omega) (by omega) (by omega)]; exact o2
  refine lies_ix s2 hjl (by omega) (b1 ⟨hvj, ?_⟩)
  rw [ecj, m1]
  refine bt rfl ?_
  have fin : w_X11_offer_84 Q 1 (nI p) (nI j) a3 a4 (nI no) τ' := by
    have hv : vp_in (τ'.1 0 25) 40 := by rw [c25]; exact vp_in_nI hno (by omega)
    have c := show (τ'.1 0 25).toNatClampNeg = no by rw [c25, n_clamp (by omega)]
    refine bt (by rw [c25, nI_leI (by omega) (by omega)]; omega) ⟨hv, ?_⟩
    rintro t1 e1
    refine ⟨by rw [e1]; exact hv, ?_⟩
    rintro t2 e2
    refine ⟨by rw [e2, e1]; exact hv, ?_⟩
    rintro t3 e3
    refine ⟨by rw [e3, e2, e1]; exact hv, ?_⟩
    rintro t4 e4
    refine ⟨by rw [e4, e3, e2, e1]; exact hv, ?_⟩
    rintro t5 e5
    refine ⟨hvj, by rw [e5, e4, e3, e2, e1]; exact hv, ?_⟩
    rintro t6 e6
    refine ⟨hvj, by rw [e6, e5, e4, e3, e2, e1]; exact hv, ?_⟩
    rintro t7 e7
    refine ⟨hvj, by rw [e7, e6, e5, e4, e3, e2, e1]; exact hv, ?_⟩
    rintro t8 e8 t9 e9
    have k25 : t9.1 0 25 = τ.1 0 25 + 1 := by
      rw [e9, e8, e7, e6, e5, e4, e3, e2, e1]
      show τ'.1 0 25 + 1 = _
      rw [c25, o2]
    have er : t9.1 0 25 - 1 = nI no := by rw [k25, o2, nI_1, nI_pred]
    rw [er]
    refine q t9 (fun k x1 x2 => ?_) (fun j x1 x2 x3 x4 x5 => ?_) k25 ?_ ?_ ?_ ?_ ?_ ?_ ?_ ?_
    · rw [← S k x1 (by omega), e9, e8, e7, e6, e5, e4, e3, e2, e1]
      show (if k = 0 then _ else if k = 26 then _ else if k = 25 then _ else if k = 24 then _ else if k = 23 then _ else if k = 22 then _ else if k = 21 then _ else if k = 20 then _ else if k = 19 then _ else τ'.1 k) = _
      rw [if_neg (by omega), if_neg (by omega), if_neg (by omega), if_neg (by omega), if_neg (by omega), if_neg (by omega), if_neg (by omega), if_neg (by omega), if_neg (by omega)]
    · rw [← s1.2 j x1 x2 x3 x4, e9, e8, e7, e6, e5, e4, e3, e2, e1]
      show upd (τ'.1 0) 25 _ j = _
      exact upd_ne x5
    · rw [e9, e8, e7, e6, e5, e4, e3, e2, e1, ← S 19 (by omega) (by omega), ← c]; rfl
    · rw [e9, e8, e7, e6, e5, e4, e3, e2, e1, ← S 20 (by omega) (by omega), ← c]; rfl
    · rw [e9, e8, e7, e6, e5, e4, e3, e2, e1, ← S 21 (by omega) (by omega), ← c]; rfl
    · rw [e9, e8, e7, e6, e5, e4, e3, e2, e1, ← S 22 (by omega) (by omega), ← c]; rfl
    · rw [e9, e8, e7, e6, e5, e4, e3, e2, e1, ← S 23 (by omega) (by omega), ← c]; rfl
    · rw [e9, e8, e7, e6, e5, e4, e3, e2, e1, ← S 24 (by omega) (by omega), ← c]
      show upd (τ'.1 24) _ (τ'.1 29 (nI j).toNatClampNeg) = _
      rw [ecj, m2]; rfl
    · rw [e9, e8, e7, e6, e5, e4, e3, e2, e1, ← S 25 (by omega) (by omega), ← c]
      show upd (τ'.1 25) _ (τ'.1 30 (nI j).toNatClampNeg) = _
      rw [ecj, m3]; rfl
    · rw [e9, e8, e7, e6, e5, e4, e3, e2, e1, ← S 26 (by omega) (by omega), ← c]
      show upd (τ'.1 26) _ (τ'.1 33 (nI j).toNatClampNeg) = _
      rw [ecj, m6]; rfl
  have loop : ∀ k i, i + k = no → w_X11_offer_84 Q (k + 1) (nI p) (nI j) a3 a4 (nI i) τ' := by
    intro k
    induction k with
    | zero =>
      intro i hi
      obtain rfl : i = no := by omega
      exact fin
    | succ k ih =>
      intro i hi
      have nx := ih (i + 1) (by omega)
      rw [← nI_1] at nx
      refine bf (by rw [c25, nI_leI (by omega) (by omega)]; omega) (binds_t (by omega) (fun z => bf n10 ⟨vp_in_nI (by omega) (by omega), fun _ => nx, fun _ => isLeg_t (τ := τ) (p := p) (x := (f, true, plT nf τ f)) (by omega) (by omega) (by show f < 20; omega) ⟨m1, m2, m3, m6⟩ (fun _ y _ _ => ?_) (fun _ => bt rfl nx)⟩) (fun _ => bt rfl nx))
      rw [S 26 (by omega) (by omega)] at y
      rw [S 19 (by omega) (by omega)] at z
      exact absurd y.symm (hh i (by omega) z)
  exact ⟨no + 1, loop no 0 (by omega)⟩
theorem sim_offer (a1 a2 a3 a4 : Int32) {σ τ : St} (h : Rel σ τ) : w_X10_offer a1 a2 a3 a4 σ (fun r σ' => w_X11_offer a1 a2 a3 a4 τ (fun r' τ' => r = r' ∧ Rel σ' τ')) := by
  obtain ⟨tl, np, nf, ns, no, h⟩ := h
  have same : ∀ τ', SM τ τ' → ((-1 : Int32) = -1 ∧ Rel σ τ') := fun τ' s => ⟨rfl, tl, np, nf, ns, no, h.scratch (SC.rf σ) s⟩
  obtain ⟨o0, o1, o2, o3, o4, o5, o6, o7, o8, o9, o10, o11, o12⟩ := h.2.2.2.2.2.2.2.2.1
  obtain ⟨n1, n2⟩ := h.2.2.2.2.2.2.2.2.2
  have p0 := h.2.2.2.1.1
  have f0 := h.2.2.2.2.1.1
  unfold w_X10_offer
  rcases (ix_or a1 np (by omega)).symm with hx | ⟨p, hp, rfl⟩
  · refine legAt_out h hx (bt rfl (offer_no h same (fun p j f hp e => ?_)))
    exfalso
    rw [e] at hx
    rcases hx with hx | hx
    · exact nI_pos (by omega) hx
    · rw [nI_leI (by omega) (by omega)] at hx; omega
  have pinj : ∀ p', p' < np → nI p = nI p' → p = p' := fun p' h' e => (nI_eq (by omega) (by omega)).mp e
  refine legAt_t h hp (fun j f a hj hx => ?_) (fun hno => bt rfl (offer_no h same (fun p' j f hp' e hj e2 => ?_)))
  · subst hx
    obtain ⟨g1, g2, g3, g4, g5⟩ := movT_leg h hp hj
    subst g3
    have uniq : ∀ p' j' f', p' < np → nI p = nI p' → (movT nf τ p')[j']? = some (f', true, plT nf τ f') → nI j = nI j' → f' = f ∧ p' = p := by
      intro p' j' f' hp' e hj' e2
      have e3 := pinj p' hp' e
      subst e3
      have l1 := movT_lt h hj
      have l2 := movT_lt h hj'
      have e4 : j = j' := (nI_eq (by omega) (by omega)).mp e2
      subst e4
      rw [hj] at hj'
      cases hj'
      exact ⟨rfl, rfl⟩
    refine bf (m1ne f (by omega)) (isWithin_w (fun h3 => c1 (isMinute_w (fun h4 => b1 ⟨fun h5 => ?_, fun h5 => ?_⟩) (fun n => b0 ?_))) (fun n => c0 ?_))
    · refine offer_no h same (fun p' j' f' _ _ _ _ _ y _ => absurd y.1 ?_)
      rw [n1, i_lt] at h5
      omega
    · have hin : inR a4 (τ.1 0 2).toInt 10079 := ⟨by rw [n1, i_lt] at h5; omega, h4.2⟩
      refine isHeld_t h (fun ⟨o, ho, y1, y2⟩ => bf n10 (offer_no h same (fun p' j' f' hp' e hj' e2 _ _ _ => ?_))) (fun hh => bt rfl (plA_t h g1 hp g2 ?_))
      · obtain ⟨e3, e4⟩ := uniq p' j' f' hp' e hj' e2
        subst e3
        subst e4
        obtain ⟨z1, z2, z3⟩ := o11 trivial o ho y2
        obtain ⟨-, -, -, -, z5⟩ := o10 o ho
        rw [y1, n_clamp (by omega)] at z1 z2 z3 z5
        exact ⟨o, ho, y2, by rw [← z1]; exact g2, y1, z2.symm, z5⟩
      · by_cases h40 : no < 40
        · refine addC o1 h40 (fun σ' c0' c1' c38 c39 c40 c41 c42 c43 c44 => ?_)
          refine offer_yes h h40 hp hj h3 hin hh (fun τ' d0 d1 d25 d19 d20 d21 d22 d23 d24 d25' d26 => ⟨rfl, tl, np, nf, ns, no + 1, h.off c0' d0 d1 ?_⟩)
          rw [c1', c38, c39, c40, c41, c42, c43, c44, d25, d19, d20, d21, d22, d23, d24, d25', d26]
          exact h.2.2.2.2.2.2.2.2.1.add h40 hp g1 f0 g2 rfl g4.2 h3 hh
        · unfold w_X3_add
          refine bf (by rw [o1, show (40 : Int32) = nI 40 from rfl, nI_ltI (by omega) (by omega)]; exact h40) (offer_no h same (fun p' j' f' _ _ _ _ _ _ y => absurd y h40))
    · exact offer_no h same (fun p' j' f' _ _ _ _ _ y _ => absurd ⟨by have := y.1; have := n2.1; omega, y.2⟩ n)
    · exact offer_no h same (fun p' j' f' _ _ _ _ y _ _ => absurd y n)
  · exfalso
    have e3 := pinj p' hp' e
    subst e3
    exact hno j f _ hj e2
end OFF
