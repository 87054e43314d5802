/-! ===== offer ===== -/
section OFF
variable {G : Prop} {tl np nf ns no : Nat} {σ τ : St}
theorem RelX.off {no' : Nat} {σ' τ' : St} (h : RelX G tl np nf ns no σ τ) (hc : ∀ k, k ≠ 10 → ¬ (38 ≤ k ∧ k ≤ 44) → σ'.1 k = σ.1 k) (hm : ∀ k, 0 < k → k < 19 → τ'.1 k = τ.1 k) (hz : ∀ j, j ≠ 6 → j ≠ 7 → j ≠ 34 → j ≠ 36 → j ≠ 25 → τ'.1 0 j = τ.1 0 j) (hO : ROf G np nf no' (σ'.1 10 7) (σ'.1 38) (σ'.1 39) (σ'.1 40) (σ'.1 41) (σ'.1 42) (σ'.1 43) (σ'.1 44) (τ'.1 0 25) (τ'.1 19) (τ'.1 20) (τ'.1 21) (τ'.1 22) (τ'.1 23) (τ'.1 24) (τ'.1 25) (τ'.1 26) (τ.1 6) (τ.1 10) (τ.1 11) (τ.1 12) (τ.1 15)) : RelX G tl np nf ns no' σ' τ' := by
  obtain ⟨h1, h2, h3, h4, h5, h6, h7, h8, h9, h10⟩ := h
  unfold RelX
  rw [hc 1 (by omega) (by omega), hc 11 (by omega) (by omega), hc 12 (by omega) (by omega), hc 13 (by omega) (by omega), hc 14 (by omega) (by omega), hc 15 (by omega) (by omega), hc 16 (by omega) (by omega), hc 4 (by omega) (by omega), hc 17 (by omega) (by omega), hc 18 (by omega) (by omega), hc 19 (by omega) (by omega), hc 20 (by omega) (by omega), hc 5 (by omega) (by omega), hc 21 (by omega) (by omega), hc 22 (by omega) (by omega), hc 23 (by omega) (by omega), hc 24 (by omega) (by omega), hc 25 (by omega) (by omega), hc 26 (by omega) (by omega), hc 6 (by omega) (by omega), hc 27 (by omega) (by omega), hc 28 (by omega) (by omega), hc 29 (by omega) (by omega), hc 30 (by omega) (by omega), hc 0 (by omega) (by omega)]
  rw [hm 1 (by omega) (by omega), hm 2 (by omega) (by omega), hm 3 (by omega) (by omega), hm 4 (by omega) (by omega), hm 5 (by omega) (by omega), hm 6 (by omega) (by omega), hm 7 (by omega) (by omega), hm 8 (by omega) (by omega), hm 9 (by omega) (by omega), hm 10 (by omega) (by omega), hm 11 (by omega) (by omega), hm 12 (by omega) (by omega), hm 13 (by omega) (by omega), hm 14 (by omega) (by omega), hm 15 (by omega) (by omega), hm 16 (by omega) (by omega), hm 17 (by omega) (by omega), hm 18 (by omega) (by omega)]
  rw [hz 1 (by omega) (by omega) (by omega) (by omega) (by omega), hz 9 (by omega) (by omega) (by omega) (by omega) (by omega), hz 14 (by omega) (by omega) (by omega) (by omega) (by omega), hz 21 (by omega) (by omega) (by omega) (by omega) (by omega), hz 2 (by omega) (by omega) (by omega) (by omega) (by omega)]
  exact ⟨h1, h2, h3, h4, h5, h6, h7, h8, hO, h10⟩
theorem ROf.add {s : Int32} {st pc pl fl pr ti cl : Nat → Int32} {ms : Int32} {mst mpr mti mcl mlp mlf mlt mfl : Nat → Int32} {home fr to start on : Nat → Int32} (H : ROf G np nf no s st pc pl fl pr ti cl ms mst mpr mti mcl mlp mlf mlt mfl home fr to start on) (hno : no < 40) {p f : Nat} {place price till : Int32} (hp : p < np) (hf : f < nf) (hf20 : nf ≤ 20) (ho : on f = nI p) (hpl : plAhead home to on (ordL start nf) f = place) (hne : place ≠ fr f) (hpr : inR price 0 1000000) (hheld : ∀ o, o < no → stand (mst o) → mfl o ≠ nI f) : ROf G np nf (no + 1) (s + 1) (upd st no 0) (upd pc no place) (upd pl no (nI p)) (upd fl no (nI f)) (upd pr no price) (upd ti no till) (upd cl no (-1)) (ms + 1) (upd mst no 0) (upd mpr no price) (upd mti no till) (upd mcl no (-1)) (upd mlp no (nI p)) (upd mlf no place) (upd mlt no (fr f)) (upd mfl no (nI f)) home fr to start on := by
  obtain ⟨o0, o1, o2, o3, o4, o5, o6, o7, o8, o9, o10, o11, o12⟩ := H
  refine ⟨hno, by rw [o1, nI_1], by rw [o2, nI_1], by rw [o3], by rw [o4], by rw [o5], by rw [o6], by rw [o7], by rw [o8], by rw [o9], fun o h => ?_, fun hG o h hs => ?_, fun o o' h h' hs hs' he => ?_⟩
  · by_cases e : o = no
    · subst e
      simp only [upd_eq]
      refine ⟨⟨by decide, by decide⟩, hpr, ⟨p, hp, rfl⟩, ⟨f, hf, rfl⟩, ?_⟩
      rw [n_clamp (by omega)]
    · simp only [upd_ne e]
      exact o10 o (by omega)
  · by_cases e : o = no
    · subst e
      simp only [upd_eq]
      rw [n_clamp (by omega)]
      exact ⟨ho, hpl, hne⟩
    · simp only [upd_ne e] at hs ⊢
      exact o11 hG o (by omega) hs
  · by_cases e : o = no
    · by_cases e' : o' = no
      · omega
      · subst e
        simp only [upd_eq, upd_ne e'] at hs' he
        exact absurd he.symm (hheld o' (by omega) hs')
    · by_cases e' : o' = no
      · subst e'
        simp only [upd_eq, upd_ne e] at hs he
        exact absurd he (hheld o (by omega) hs)
      · simp only [upd_ne e, upd_ne e'] at hs hs' he
        exact o12 o o' (by omega) (by omega) hs hs' he
theorem addC {x1 x2 x3 x4 x5 : Int32} {Q : Int32 → St → Prop} (hs : σ.1 10 7 = nI no) (hno : no < 40) (q : ∀ σ', (∀ k, k ≠ 10 → ¬ (38 ≤ k ∧ k ≤ 44) → σ'.1 k = σ.1 k) → σ'.1 10 7 = σ.1 10 7 + 1 → σ'.1 38 = upd (σ.1 38) no 0 → σ'.1 39 = upd (σ.1 39) no x1 → σ'.1 40 = upd (σ.1 40) no x2 → σ'.1 41 = upd (σ.1 41) no x3 → σ'.1 42 = upd (σ.1 42) no x4 → σ'.1 43 = upd (σ.1 43) no x5 → σ'.1 44 = upd (σ.1 44) no (-1) → Q (nI no) σ') : w_X3_add x1 x2 x3 x4 x5 σ Q := by
  unfold w_X3_add
  have hv : vp_in (σ.1 10 7) 40 := by rw [hs]; exact vp_in_nI hno (by omega)
  have c := show (σ.1 10 7).toNatClampNeg = no by rw [hs, n_clamp (by omega)]
  refine bt (by rw [hs, show (40 : Int32) = nI 40 from rfl, nI_ltI (by omega) (by omega)]; omega) ⟨hv, ?_⟩
  rintro s1 e1
  refine ⟨by rw [e1]; exact hv, ?_⟩
  rintro s2 e2
  refine ⟨by rw [e2, e1]; exact hv, ?_⟩
  rintro s3 e3
  refine ⟨by rw [e3, e2, e1]; exact hv, ?_⟩
  rintro s4 e4
  refine ⟨by rw [e4, e3, e2, e1]; exact hv, ?_⟩
  rintro s5 e5
  refine ⟨by rw [e5, e4, e3, e2, e1]; exact hv, ?_⟩
  rintro s6 e6
  refine ⟨by rw [e6, e5, e4, e3, e2, e1]; exact hv, ?_⟩
  rintro s7 e7 s8 e8
  have k7 : s8.1 10 7 = σ.1 10 7 + 1 := by rw [e8, e7, e6, e5, e4, e3, e2, e1]; rfl
  have er : s8.1 10 7 - 1 = nI no := by rw [k7, hs, nI_1, nI_pred]
  rw [er]
  refine q s8 (fun k g1 g2 => ?_) k7 ?_ ?_ ?_ ?_ ?_ ?_ ?_
  · rw [e8, e7, e6, e5, e4, e3, e2, e1]
    show (if k = 10 then _ else if k = 44 then _ else if k = 43 then _ else if k = 42 then _ else if k = 41 then _ else if k = 40 then _ else if k = 39 then _ else if k = 38 then _ else σ.1 k) = _
    rw [if_neg g1, if_neg (by omega), if_neg (by omega), if_neg (by omega), if_neg (by omega), if_neg (by omega), if_neg (by omega), if_neg (by omega)]
  all_goals rw [e8, e7, e6, e5, e4, e3, e2, e1, ← c]; rfl
theorem isHeld_t (h : RelX G tl np nf ns no σ τ) {f : Nat} {Q : Int32 → St → Prop} (q1 : (∃ o, o < no ∧ τ.1 26 o = nI f ∧ (τ.1 19 o = 0 ∨ τ.1 19 o = 1)) → Q 1 σ) (q0 : (∀ o, o < no → (τ.1 19 o = 0 ∨ τ.1 19 o = 1) → τ.1 26 o ≠ nI f) → Q 0 σ) : w_X3_isHeld (nI f) σ Q := by
  have hR := h
  obtain ⟨o0, o1, o2, o3, o4, o5, o6, -⟩ := h.2.2.2.2.2.2.2.2.1
  unfold w_X3_isHeld
  have loop : ∀ k i, i + k = no → (∀ o, o < i → (τ.1 19 o = 0 ∨ τ.1 19 o = 1) → τ.1 26 o ≠ nI f) → w_X3_isHeld_2 Q (k + 1) (nI f) (nI i) σ := by
    intro k
    induction k with
    | zero =>
      intro i hi hno
      obtain rfl : i = no := by omega
      exact bt (by rw [o1, nI_leI (by omega) (by omega)]; omega) (q0 hno)
    | succ k ih =>
      intro i hi hno
      have nx : ((τ.1 19 i = 0 ∨ τ.1 19 i = 1) → τ.1 26 i ≠ nI f) → w_X3_isHeld_2 Q (k + 1) (nI f) (nI i + 1) σ := fun z => by
        rw [nI_1]
        refine ih (i + 1) (by omega) (fun o ho hs => ?_)
        by_cases e : o = i
        · subst e; exact z hs
        · exact hno o (by omega) hs
      refine bf (by rw [o1, nI_leI (by omega) (by omega)]; omega) ⟨vp_in_nI (by omega) (by omega), ?_⟩
      rw [n_clamp (by omega), o6]
      refine ⟨fun z => nx (fun _ => z), fun z => isSt_t hR (by omega) (fun y => bf n10 (q1 ⟨i, by omega, z, by rw [← o3]; exact y⟩)) (fun y => bt rfl (nx (fun w => absurd (by rw [o3]; exact w) y)))⟩
  exact ⟨no + 1, loop no 0 (by omega) (fun o ho => absurd ho (Nat.not_lt_zero o))⟩
theorem offer_no {a1 a2 a3 a4 : Int32} {Q : Int32 → St → Prop} (h : RelX G tl np nf ns no σ τ) (hq : ∀ τ', SM τ τ' → Q (-1) τ') (hn : ∀ p j f, p < np → a1 = nI p → (movT nf τ p)[j]? = some (f, true, plT nf τ f) → a2 = nI j → inR a3 0 1000000 → inR a4 (τ.1 0 2).toInt 10079 → no < 40 → ∃ o, o < no ∧ (τ.1 19 o = 0 ∨ τ.1 19 o = 1) ∧ τ.1 23 o = nI p ∧ τ.1 26 o = nI f ∧ τ.1 24 o = plT nf τ f ∧ τ.1 25 o = τ.1 10 f) : w_X11_offer a1 a2 a3 a4 τ Q := by
  have hR := h
  have q := hq τ (SM.rf τ)
  obtain ⟨o0, o1, o2, o3, o4, o5, o6, o7, o8, o9, o10, o11, o12⟩ := h.2.2.2.2.2.2.2.2.1
  have p0 := h.2.2.2.1.1
  have p2 := h.2.2.2.1.2.2.1
  have f0 := h.2.2.2.2.1.1
  unfold w_X11_offer
  refine ⟨fun _ => q, fun n40 => ?_⟩
  have hno : no < 40 := by
    have : no ≠ 40 := fun e => n40 (by rw [o2, e]; rfl)
    omega
  rcases (ix_or a1 np (by omega)).symm with hx | ⟨p, hp, rfl⟩
  · exact lies_out p2 hx (by omega) (b0 q)
  refine lies_ix p2 hp (by omega) (b1 (lies_w (fun g3 => b1 (lies_w (fun g4 => c1 (hand_t hR hp (fun τ' s1 s2 s3 => ?_))) (fun _ => c0 q))) (fun _ => b0 q)))
  have hM := movT_16 hR hp
  have q' := hq τ' s1
  rcases (ix_or a2 (movT nf τ p).length (by omega)).symm with hx | ⟨j, hj, rfl⟩
  · exact lies_out s2 hx (by omega) (b0 q')
  obtain ⟨x, hx⟩ : ∃ x, (movT nf τ p)[j]? = some x := ⟨_, List.getElem?_eq_getElem hj⟩
  obtain ⟨m1, m2, m3, m4, m5, m6⟩ := s3 j x hx
  have hxn : x.1 < nf := (handL_mem.mp (mvs_mem _ _ _ hx)).1
  refine lies_ix s2 hj (by omega) (b1 ⟨vp_in_nI (by omega) (by omega), ?_⟩)
  rw [n_clamp (by omega), m1]
  obtain ⟨f, b, a⟩ := x
  cases b with
  | false => exact bf (m1ne f (by have : f < nf := hxn; omega)) q'
  | true =>
    refine bt rfl ?_
    obtain ⟨g1, g2, g3', g4', -⟩ := movT_leg hR hp hx
    obtain ⟨ow, w1, w2, w3, w4, w5, w6⟩ := hn p j f hp rfl (by rw [← g3']; exact hx) rfl g3 g4 hno
    have loop : ∀ k i, i + k = no → i ≤ ow → w_X11_offer_84 Q (k + 1) (nI p) (nI j) a3 a4 (nI i) τ' := by
      intro k
      induction k with
      | zero => intro i hi hio; omega
      | succ k ih =>
        intro i hi hio
        have S := fun c h1 h2 => s1.1 c h1 h2
        have nx : i ≠ ow → w_X11_offer_84 Q (k + 1) (nI p) (nI j) a3 a4 (nI i + 1) τ' := fun z => by rw [nI_1]; exact ih (i + 1) (by omega) (by omega)
        refine bf (by rw [s1.2 25 (by omega) (by omega) (by omega) (by omega), o2, nI_leI (by omega) (by omega)]; omega) (binds_t (by omega) (fun z => bf n10 ⟨vp_in_nI (by omega) (by omega), ?_⟩) (fun z => bt rfl (nx (fun e => ?_))))
        · rw [n_clamp (by omega), S 23 (by omega) (by omega)]
          refine ⟨fun y => nx (fun e => y (by rw [e]; exact w3)), fun y => isLeg_t (τ := τ) (p := p) (x := (f, true, a)) (by omega) (by omega) (by have : f < nf := hxn; show f < 20; omega) ⟨m1, m2, m3, m6⟩ (fun _ _ _ _ => bf n10 q') (fun y2 => bt rfl (nx (fun e => ?_)))⟩
          subst e
          refine y2 ⟨rfl, ?_, ?_, ?_⟩
          · rw [S 26 (by omega) (by omega)]; exact w4.symm
          · rw [S 24 (by omega) (by omega)]; exact g3'.trans w5.symm
          · rw [S 25 (by omega) (by omega)]; exact w6.symm
        · subst e
          rw [S 19 (by omega) (by omega)] at z
          exact z w2
    exact ⟨no + 1, loop no 0 (by omega) (by omega)⟩
end OFF
