/-! ===== the reference finds the best way; plan, replan ===== -/
theorem mov_congr {np n : Nat} {b : Nat → Int32} {a a' : Nat → Nat} (h : ∀ k, k < n → a k = a' k) : mov np b a n = mov np b a' n := sumN_congr n (fun k hk => by rw [h k hk])
/-- w0 is no worse than w -/
def KL (x1 : Int32) (np : Nat) (τ : St) (row : List Nat) (w0 w : Nat) : Prop :=
  flw np (dgt np row.length w) row.length < flw np (dgt np row.length w0) row.length ∨ (flw np (dgt np row.length w) row.length = flw np (dgt np row.length w0) row.length ∧ (mmT x1 np τ row (dgt np row.length w0) < mmT x1 np τ row (dgt np row.length w) ∨ (mmT x1 np τ row (dgt np row.length w0) = mmT x1 np τ row (dgt np row.length w) ∧ (emp (Ep τ row) np (dgt np row.length w0) row.length < emp (Ep τ row) np (dgt np row.length w) row.length ∨ (emp (Ep τ row) np (dgt np row.length w0) row.length = emp (Ep τ row) np (dgt np row.length w) row.length ∧ w0 ≤ w)))))
section FND
variable {G : Prop} {tl np nf ns no : Nat} {σ τ : St} {row : List Nat} {mw : Nat}
theorem mmT_le {x1 : Int32} {a : Nat → Nat} : mmT x1 np τ row a ≤ row.length := by
  have := sumN_le (g := g9 x1 np τ row a) (g' := fun _ => 1) row.length (fun k _ => by unfold g9; split; omega; exact mvd_le)
  rw [sumN_const, Nat.mul_one] at this
  exact this
theorem flw_le {a : Nat → Nat} {n : Nat} : flw np a n ≤ n := by
  have := sumN_le (g := fun k => if a k < np then 1 else 0) (g' := fun _ => 1) n (fun k _ => by split <;> omega)
  rw [sumN_const, Nat.mul_one] at this
  exact this
/-- the reference enters the best way -/
theorem enterM (h : RelX G tl np nf ns no σ τ) (hr : RowOk nf τ row) {a : Nat → Nat} (ha : ∀ k, k < row.length → a k ≤ np) {τ0 : St} (hB : MB ns np τ row τ0) (hb : ∀ k, k < row.length → τ0.1 36 k = nI (a k)) {Q : Int32 → St → Prop}
    (q : ∀ τ2, (∀ k, 0 < k → k < 27 → k ≠ 15 → τ2.1 k = τ.1 k) → (∀ j, j ≠ 6 → j ≠ 7 → j ≠ 34 → j ≠ 36 → τ2.1 0 j = τ.1 0 j) → (∀ k, k < row.length → τ2.1 15 (row.getD k 0) = encA np (a k)) → (∀ f, f ∉ row → τ2.1 15 f = τ.1 15 f) → w_X11_breaks τ2 (fun τ3 => Q (nI (mov np (plN τ row) a row.length)) τ3)) : ∃ nn : Nat, w_X11_finds_372 Q nn 0 0 τ0 := by
  have p0 := h.2.2.2.1.1
  have f0 := h.2.2.2.2.1.1
  have hl := hr.1
  have r2 := h.2.2.2.2.2.2.2.1.2.2.1
  obtain ⟨b1', b2', b3', b4', b5', -⟩ := hB
  have loop : ∀ (d j : Nat) (τ1 : St), j + d = row.length → (∀ k, k ≠ 15 → τ1.1 k = τ0.1 k) → (∀ k, k < j → τ1.1 15 (row.getD k 0) = encA np (a k)) → (∀ f, (∀ k, k < j → f ≠ row.getD k 0) → τ1.1 15 f = τ.1 15 f) → w_X11_finds_372 Q (d + 1) (nI (sumN (fun k => mvd (plN τ row) (dg np (a k)) k) j)) (nI j) τ1 := by
    intro d
    induction d with
    | zero =>
      intro j τ1 hj c1 e1 e2
      obtain rfl : j = row.length := by omega
      refine bt (by rw [c1 0 (by omega), b3', nI_leI (by omega) (by omega)]; omega) (q τ1 (fun k h1 h2 h3 => ?_) (fun j h1 h2 h3 h4 => ?_) e1 (fun f hf => e2 f (fun k hk e => hf ?_)))
      · rw [c1 k h3]; exact b1'.1 k h1 h2
      · rw [c1 0 (by omega)]; exact b1'.2 j h1 h2 h3 h4
      · rw [e]; exact getD_mem hk
    | succ d ih =>
      intro j τ1 hj c1 e1 e2
      have hjl : j < row.length := by omega
      have hv : vp_in (nI j) 8 := vp_in_nI (by omega) (by omega)
      have hg := (row_at hr hjl).1
      have hvg : vp_in (nI (row.getD j 0)) 20 := vp_in_nI (by omega) (by omega)
      have ecj := n_clamp (show j < 2 ^ 31 by omega)
      have ecg := n_clamp (show row.getD j 0 < 2 ^ 31 by omega)
      have haj := ha j hjl
      have eon : τ1.1 15 (row.getD j 0) = plN τ row j := e2 _ (fun k hk e => by have := getD_inj hr.2.2 hjl (by omega) e; omega)
      have e27 : τ1.1 27 j = nI (row.getD j 0) := by rw [c1 27 (by omega)]; exact b4' j hjl
      have es : sumN (fun k => mvd (plN τ row) (dg np (a k)) k) (j + 1) = sumN (fun k => mvd (plN τ row) (dg np (a k)) k) j + mvd (plN τ row) (dg np (a j)) j := rfl
      have J448 : ∀ (s0 : Int32) (s1 : Nat), s0 = encA np (a j) → s1 = mvd (plN τ row) (dg np (a j)) j → w_X11_finds_448 Q (fun x6 x7 σ => w_X11_finds_372 Q (d + 1) x6 x7 σ) (nI j) s0 (nI (sumN (fun k => mvd (plN τ row) (dg np (a k)) k) j)) (nI s1) τ1 := by
        intro s0 s1 hs0 hs1
        unfold w_X11_finds_448
        rw [ecj, e27, ecg, nI_add, nI_1, hs1, ← es]
        refine ⟨hv, hvg, ?_⟩
        rintro _ rfl
        refine ih (j + 1) _ (by omega) (fun k hk => ?_) (fun k hk => ?_) (fun f hf => ?_)
        · rw [← c1 k hk]; exact if_neg hk
        · show upd (τ1.1 15) (row.getD j 0) s0 _ = _
          by_cases e : k = j
          · subst e; rw [upd_eq]; exact hs0
          · rw [upd_ne (fun z => e (getD_inj hr.2.2 (by omega) hjl z))]; exact e1 k (by omega)
        · show upd (τ1.1 15) (row.getD j 0) s0 f = _
          rw [upd_ne (hf j (by omega))]; exact e2 f (fun k hk => hf k (by omega))
      have J406 : ∀ s0 : Int32, s0 = encA np (a j) → w_X11_finds_406 Q (fun x6 x7 σ => w_X11_finds_372 Q (d + 1) x6 x7 σ) (nI (sumN (fun k => mvd (plN τ row) (dg np (a k)) k) j)) (nI j) s0 τ1 := by
        intro s0 hs0
        unfold w_X11_finds_406 w_X11_finds_447
        rw [ecj, e27, ecg, eon]
        refine ⟨hv, hvg, fun z => J448 s0 0 hs0 ?_, fun z => ⟨hv, hvg, fun y => J448 s0 0 hs0 ?_, fun y => J448 s0 1 hs0 ?_⟩⟩
        · unfold mvd; rw [if_pos (Or.inl z)]
        · have hne : ¬ a j = np := fun e => by
            rw [hs0] at y
            unfold encA at y
            rw [if_pos e] at y
            exact z y
          unfold mvd dg
          rw [if_neg hne, if_pos]
          refine Or.inr ?_
          rw [y, hs0]
          unfold encA
          rw [if_neg hne]
        · unfold mvd
          rw [if_neg]
          rintro (u | u)
          · exact z u
          · unfold dg at u
            by_cases e : a j = np
            · rw [if_pos e] at u
              rcases r2 _ hg with r | ⟨p, hp, r⟩
              · exact z r
              · have r' : plN τ row j = nI p := r
                rw [r', nI_eq (by omega) (by omega)] at u
                omega
            · rw [if_neg e] at u
              refine y ?_
              rw [u, hs0]
              unfold encA
              rw [if_neg e]
      refine bf (by rw [c1 0 (by omega), b3', nI_leI (by omega) (by omega)]; omega) ⟨hv, ?_⟩
      rw [ecj, c1 36 (by omega), hb j hjl, c1 0 (by omega), b2']
      have ea : nI (a j) = nI np ↔ a j = np := nI_eq (by omega) (by omega)
      refine ⟨fun z => ⟨hv, J406 _ ?_⟩, fun z => J406 _ ?_⟩
      · unfold encA; rw [if_neg (fun e => z (ea.mpr e))]
      · unfold encA; rw [if_pos (ea.mp z)]
  refine ⟨row.length + 1, loop row.length 0 τ0 (by omega) (fun _ _ => rfl) (fun k hk => absurd hk (Nat.not_lt_zero k)) (fun f _ => ?_)⟩
  rw [b5']
theorem findsM (h : RelX G tl np nf ns no σ τ) {x : Int32} (hx : (x = 0 ∧ mw = 0) ∨ (x = 1 ∧ mw = 1000000000000)) (hrow : rowL (τ.1 12) (τ.1 14) nf = row) (hr : RowOk nf τ row) {Q : Int32 → St → Prop}
    (q : ∀ a τ2, best ns mw np τ row a → (∀ k, 0 < k → k < 27 → k ≠ 15 → τ2.1 k = τ.1 k) → (∀ j, j ≠ 6 → j ≠ 7 → j ≠ 34 → j ≠ 36 → τ2.1 0 j = τ.1 0 j) → (∀ k, k < row.length → τ2.1 15 (row.getD k 0) = encA np (a k)) → (∀ f, f ∉ row → τ2.1 15 f = τ.1 15 f) → w_X11_breaks τ2 (fun τ3 => Q (nI (mov np (plN τ row) a row.length)) τ3)) : w_X11_finds x τ Q := by
  obtain ⟨p0, p1, p2, -⟩ := h.2.2.2.1
  have hl := hr.1
  have h5 := pow5 (n := row.length) p0 hl
  have hE := Ep_le h hr
  have hx1 : x = 0 ∨ x = 1 := hx.elim (fun z => Or.inl z.1) (fun z => Or.inr z.1)
  have hmw2 : mw = 0 ∨ mw = 1000000000000 := by rcases hx with z | z <;> omega
  have eml : ∀ a : Nat → Nat, emp (Ep τ row) np a row.length ≤ 4800 := fun a => by have := emp_le (a := a) hE; omega
  have kl_key : ∀ w0 w, w0 < (np + 1) ^ row.length → w < (np + 1) ^ row.length → KL x np τ row w0 w → keyLe mw row.length np (plN τ row) (Ep τ row) (dgt np row.length w0) (dgt np row.length w) := by
    intro w0 w hw0 hw hk
    have e0 := rowB_dgt hw0 row.length (Nat.le_refl _)
    have e1 := rowB_dgt hw row.length (Nat.le_refl _)
    rw [Nat.sub_self, Nat.pow_zero, Nat.div_one] at e0 e1
    unfold KL at hk
    unfold keyLe
    rw [e0, e1]
    rcases hx with ⟨z1, z2⟩ | ⟨z1, z2⟩
    · subst z1
      subst z2
      have m0 : ∀ a, mmT 0 np τ row a = 0 := fun a => sumN_zero _ (fun j _ => if_pos rfl)
      rw [m0, m0] at hk
      rw [Nat.zero_mul, Nat.zero_mul]
      omega
    · subst z1
      subst z2
      have m1 : ∀ a, mmT 1 np τ row a = mov np (plN τ row) a row.length := fun a => sumN_congr _ (fun j _ => if_neg n10)
      rw [m1, m1] at hk
      omega
  unfold w_X11_finds
  refine worksM h hrow hr (fun τ1 s1 a1 a2 hC => ?_)
  have hB1 : MB ns np τ row τ1 := ⟨s1, by rw [s1.2 9 (by omega) (by omega) (by omega) (by omega)]; exact p2, a1, a2, s1.1 15 (by omega) (by omega), hC⟩
  -- all ways in turn
  have ways : ∀ (d w : Nat) (x3 x4 x5 : Int32) (τ2 : St), w + d = (np + 1) ^ row.length → MB ns np τ row τ2 → ((x3 = -1 ∧ ∀ w', w' < w → ¬ goodM ns np τ row (dgt np row.length w')) ∨ (∃ w0, w0 < w ∧ goodM ns np τ row (dgt np row.length w0) ∧ x3 = nI (flw np (dgt np row.length w0) row.length) ∧ x4 = nI (mmT x np τ row (dgt np row.length w0)) ∧ x5 = nI (emp (Ep τ row) np (dgt np row.length w0) row.length) ∧ (∀ k, k < row.length → τ2.1 36 k = nI (dgt np row.length w0 k)) ∧ ∀ w', w' < w → goodM ns np τ row (dgt np row.length w') → KL x np τ row w0 w')) → w_X11_finds_42 Q (d + 1) x (nI ((np + 1) ^ row.length)) x3 x4 x5 (nI w) τ2 := by
    intro d
    induction d with
    | zero =>
      intro w x3 x4 x5 τ2 hw hB hI
      obtain rfl : w = (np + 1) ^ row.length := by omega
      refine bt (by rw [nI_leI (by omega) (by omega)]; omega) ?_
      rcases hI with ⟨-, hno⟩ | ⟨w0, v0, v1, v2, v3, v4, v5, v6⟩
      · exfalso
        have a0 : ∀ k, k < row.length → (fun _ : Nat => np) k ≤ np := fun _ _ => Nat.le_refl np
        refine hno (rowB np (fun _ => np) row.length) (rowB_lt _ a0) (fun q hq => ?_)
        rw [setO_congr (dgt_rowB p0 a0)]
        have : setO (fun _ => np) row.length q = 0 := by
          refine bits_eq setO_lt (Nat.two_pow_pos _) (fun j _ => ?_)
          rw [setO_bit, Nat.zero_testBit]
          exact decide_eq_false (fun z => by have := z.2; omega)
        rw [this]
        unfold Fp fitP
        rw [pick_0]
        exact trivial
      · refine enterM h hr (a := dgt np row.length w0) (fun _ _ => dgt_le) hB v5 (fun τ3 c1 c2 c3 c4 => q (dgt np row.length w0) τ3 ⟨fun _ _ => dgt_le, v1, fun a' y1 y2 => ?_⟩ c1 c2 c3 c4)
        have ed := dgt_rowB p0 y1
        have hlt := rowB_lt row.length y1
        have hg : goodM ns np τ row (dgt np row.length (rowB np a' row.length)) := fun q hq => by
          rw [setO_congr ed]; exact y2 q hq
        have := le_T (b := plN τ row) hmw2 p0 hl hE (fun _ _ => dgt_le) (fun _ _ => dgt_le) (kl_key w0 _ v0 hlt (v6 _ hlt hg))
        rw [Vl_congr ed] at this
        exact this
    | succ d ih =>
      intro w x3 x4 x5 τ2 hw hB hI
      have hwl : w < (np + 1) ^ row.length := by omega
      have hfl := flw_le (np := np) (a := dgt np row.length w) (n := row.length)
      have hml := mmT_le (x1 := x) (np := np) (τ := τ) (row := row) (a := dgt np row.length w)
      have hel := eml (dgt np row.length w)
      refine bf (by rw [nI_leI (by omega) (by omega)]; omega) (evalW h hr hB hx1 hwl (fun hg hb τ3 hB3 h36 => ?_) (fun hn τ3 hB3 h36 => ?_))
      · rw [nI_1]
        refine ih (w + 1) _ _ _ τ3 (by omega) hB3 (Or.inr ⟨w, by omega, hg, rfl, rfl, rfl, h36, fun w' hw' hg' => ?_⟩)
        by_cases e : w' = w
        · subst e
          exact Or.inr ⟨rfl, Or.inr ⟨rfl, Or.inr ⟨rfl, Nat.le_refl _⟩⟩⟩
        · rcases hI with ⟨-, hno⟩ | ⟨w0, v0, v1, v2, v3, v4, v5, v6⟩
          · exact absurd hg' (hno w' (by omega))
          · have k0 := v6 w' (by omega) hg'
            have hfl0 := flw_le (np := np) (a := dgt np row.length w0) (n := row.length)
            have hml0 := mmT_le (x1 := x) (np := np) (τ := τ) (row := row) (a := dgt np row.length w0)
            have hel0 := eml (dgt np row.length w0)
            obtain ⟨c1, c2⟩ := hb
            rw [v2, nI_ltI (by omega) (by omega)] at c1
            rw [v2, v3, v4, nI_eq (by omega) (by omega), nI_ltI (by omega) (by omega), nI_eq (by omega) (by omega), nI_ltI (by omega) (by omega)] at c2
            unfold KL at k0 ⊢
            by_cases e1 : flw np (dgt np row.length w) row.length = flw np (dgt np row.length w0) row.length
            · obtain ⟨c3, c4⟩ := c2 e1
              by_cases e2 : mmT x np τ row (dgt np row.length w) = mmT x np τ row (dgt np row.length w0)
              · have := c4 e2
                omega
              · omega
            · omega
      · rw [nI_1]
        refine ih (w + 1) _ _ _ τ3 (by omega) hB3 ?_
        rcases hI with ⟨z, hno⟩ | ⟨w0, v0, v1, v2, v3, v4, v5, v6⟩
        · refine Or.inl ⟨z, fun w' hw' => ?_⟩
          by_cases e : w' = w
          · subst e
            intro hg
            refine hn ⟨hg, fun y => ?_, fun y => ?_⟩
            · rw [z, i_lt, nI_toInt (by omega), show (-1 : Int32).toInt = -1 from rfl] at y
              omega
            · rw [z] at y
              exact absurd y (m1ne _ (by omega))
          · exact hno w' (by omega)
        · refine Or.inr ⟨w0, by omega, v1, v2, v3, v4, fun k hk => by rw [h36]; exact v5 k hk, fun w' hw' hg' => ?_⟩
          by_cases e : w' = w
          · subst e
            have hfl0 := flw_le (np := np) (a := dgt np row.length w0) (n := row.length)
            have hml0 := mmT_le (x1 := x) (np := np) (τ := τ) (row := row) (a := dgt np row.length w0)
            have hel0 := eml (dgt np row.length w0)
            have hn2 := fun y => hn ⟨hg', y⟩
            rw [v2, v3, v4, nI_ltI (by omega) (by omega), nI_eq (by omega) (by omega), nI_ltI (by omega) (by omega), nI_eq (by omega) (by omega), nI_ltI (by omega) (by omega)] at hn2
            unfold KL
            by_cases e0 : flw np (dgt np row.length w') row.length < flw np (dgt np row.length w0) row.length
            · exact Or.inl e0
            · by_cases e1 : flw np (dgt np row.length w') row.length = flw np (dgt np row.length w0) row.length
              · refine Or.inr ⟨e1, ?_⟩
                by_cases e2 : mmT x np τ row (dgt np row.length w0) < mmT x np τ row (dgt np row.length w')
                · exact Or.inl e2
                · by_cases e3 : mmT x np τ row (dgt np row.length w') = mmT x np τ row (dgt np row.length w0)
                  · refine Or.inr ⟨e3.symm, ?_⟩
                    by_cases e4 : emp (Ep τ row) np (dgt np row.length w') row.length < emp (Ep τ row) np (dgt np row.length w0) row.length
                    · exact absurd ⟨e0, fun _ => ⟨e2, fun _ => e4⟩⟩ hn2
                    · omega
                  · exact absurd ⟨e0, fun _ => ⟨e2, fun y => absurd y e3⟩⟩ hn2
              · exact absurd ⟨e0, fun y => absurd y e1⟩ hn2
          · exact v6 w' (by omega) hg'
  have pows : ∀ (d k : Nat), k + d = row.length → w_X11_finds_8 Q (d + 1) x (nI ((np + 1) ^ k)) (nI k) τ1 := by
    intro d
    induction d with
    | zero =>
      intro k hk
      obtain rfl : k = row.length := by omega
      exact bt (by rw [a1, nI_leI (by omega) (by omega)]; omega) ⟨_, ways ((np + 1) ^ row.length) 0 (-1) 0 0 τ1 (by omega) hB1 (Or.inl ⟨rfl, fun w' hw' => absurd hw' (Nat.not_lt_zero w')⟩)⟩
    | succ d ih =>
      intro k hk
      refine bf (by rw [a1, nI_leI (by omega) (by omega)]; omega) ?_
      rw [hB1.2.1, nI_1, nI_1, pk_mul, ← Nat.pow_succ]
      exact ih (k + 1) (by omega)
  exact ⟨row.length + 1, pows row.length 0 (by omega)⟩
theorem best_uniq (h : RelX G tl np nf ns no σ τ) (hr : RowOk nf τ row) (hmw : mw = 0 ∨ mw = 1000000000000) {a a' : Nat → Nat} (h1 : best ns mw np τ row a) (h2 : best ns mw np τ row a') : ∀ k, k < row.length → a k = a' k := by
  refine T_inj (b := plN τ row) hmw h.2.2.2.1.1 hr.1 (Ep_le h hr) h1.1 h2.1 ?_
  have := h1.2.2 a' h2.1 h2.2.1
  have := h2.2.2 a h1.1 h1.2.1
  omega
/-- both entered the same -/
theorem entered (h : RelX G tl np nf ns no σ τ) (hrow : rowL (τ.1 12) (τ.1 14) nf = row) (hr : RowOk nf τ row) {a : Nat → Nat} (ha : ∀ k, k < row.length → a k ≤ np) {σ' τ' : St} (c1 : ∀ k, k ≠ 8 → k ≠ 9 → k ≠ 30 → ¬ (31 ≤ k ∧ k ≤ 37) → σ'.1 k = σ.1 k) (c2 : ∀ k, k < row.length → σ'.1 30 (row.getD k 0) = encA np (a k)) (c3 : ∀ f, f ∉ row → σ'.1 30 f = σ.1 30 f) (d1 : ∀ k, 0 < k → k < 27 → k ≠ 15 → τ'.1 k = τ.1 k) (d2 : ∀ j, j ≠ 6 → j ≠ 7 → j ≠ 34 → j ≠ 36 → τ'.1 0 j = τ.1 0 j) (d3 : ∀ k, k < row.length → τ'.1 15 (row.getD k 0) = encA np (a k)) (d4 : ∀ f, f ∉ row → τ'.1 15 f = τ.1 15 f) : RelX False tl np nf ns no σ' τ' := by
  have p0 := h.2.2.2.1.1
  have f0 := h.2.2.2.2.1.1
  obtain ⟨h1, h2, h3, h4, h5, h6, h7, ⟨r0, r1, r2, r3⟩, ⟨o0, o1, o2, o3, o4, o5, o6, o7, o8, o9, o10, o11, o12⟩, h10⟩ := h
  have hat : ∀ f, f ∈ row → ∃ k, k < row.length ∧ row.getD k 0 = f := by
    intro f hf
    obtain ⟨k, hk, e⟩ := List.getElem_of_mem hf
    exact ⟨k, hk, by rw [List.getD_eq_getElem?_getD, List.getElem?_eq_getElem hk, Option.getD_some]; exact e⟩
  have key : RRo np nf (σ'.1 30) (τ'.1 15) (τ.1 14) := by
    refine ⟨fun j hj => ?_, fun j hj hj2 => ?_, fun j hj => ?_, fun j hj hc => ?_⟩
    · by_cases hm : j ∈ row
      · obtain ⟨k, hk, e⟩ := hat j hm
        rw [← e, c2 k hk, d3 k hk]
      · rw [c3 j hm, d4 j hm]; exact r0 j hj
    · have hm : j ∉ row := fun z => by have := (hr.2.1 j z).1; omega
      rw [c3 j hm]; exact r1 j hj hj2
    · by_cases hm : j ∈ row
      · obtain ⟨k, hk, e⟩ := hat j hm
        rw [← e, d3 k hk]
        have := ha k hk
        unfold encA
        by_cases ee : a k = np
        · rw [if_pos ee]; exact Or.inl rfl
        · rw [if_neg ee]; exact Or.inr ⟨a k, by omega, rfl⟩
      · rw [d4 j hm]; exact r2 j hj
    · have hm : j ∉ row := fun z => hc (hr.2.1 j z).2
      rw [d4 j hm]; exact r3 j hj hc
  unfold RelX
  rw [c1 1 (by omega) (by omega) (by omega) (by omega), c1 11 (by omega) (by omega) (by omega) (by omega), c1 12 (by omega) (by omega) (by omega) (by omega), c1 13 (by omega) (by omega) (by omega) (by omega), c1 14 (by omega) (by omega) (by omega) (by omega), c1 15 (by omega) (by omega) (by omega) (by omega), c1 16 (by omega) (by omega) (by omega) (by omega), c1 4 (by omega) (by omega) (by omega) (by omega), c1 17 (by omega) (by omega) (by omega) (by omega), c1 18 (by omega) (by omega) (by omega) (by omega), c1 19 (by omega) (by omega) (by omega) (by omega), c1 20 (by omega) (by omega) (by omega) (by omega), c1 5 (by omega) (by omega) (by omega) (by omega), c1 21 (by omega) (by omega) (by omega) (by omega), c1 22 (by omega) (by omega) (by omega) (by omega), c1 23 (by omega) (by omega) (by omega) (by omega), c1 24 (by omega) (by omega) (by omega) (by omega), c1 25 (by omega) (by omega) (by omega) (by omega), c1 26 (by omega) (by omega) (by omega) (by omega), c1 6 (by omega) (by omega) (by omega) (by omega), c1 27 (by omega) (by omega) (by omega) (by omega), c1 28 (by omega) (by omega) (by omega) (by omega), c1 29 (by omega) (by omega) (by omega) (by omega), c1 10 (by omega) (by omega) (by omega) (by omega), c1 38 (by omega) (by omega) (by omega) (by omega), c1 39 (by omega) (by omega) (by omega) (by omega), c1 40 (by omega) (by omega) (by omega) (by omega), c1 41 (by omega) (by omega) (by omega) (by omega), c1 42 (by omega) (by omega) (by omega) (by omega), c1 43 (by omega) (by omega) (by omega) (by omega), c1 44 (by omega) (by omega) (by omega) (by omega), c1 0 (by omega) (by omega) (by omega) (by omega)]
  rw [d1 1 (by omega) (by omega) (by omega), d1 2 (by omega) (by omega) (by omega), d1 3 (by omega) (by omega) (by omega), d1 4 (by omega) (by omega) (by omega), d1 5 (by omega) (by omega) (by omega), d1 6 (by omega) (by omega) (by omega), d1 7 (by omega) (by omega) (by omega), d1 8 (by omega) (by omega) (by omega), d1 9 (by omega) (by omega) (by omega), d1 10 (by omega) (by omega) (by omega), d1 11 (by omega) (by omega) (by omega), d1 12 (by omega) (by omega) (by omega), d1 13 (by omega) (by omega) (by omega), d1 14 (by omega) (by omega) (by omega), d1 16 (by omega) (by omega) (by omega), d1 17 (by omega) (by omega) (by omega), d1 18 (by omega) (by omega) (by omega), d1 19 (by omega) (by omega) (by omega), d1 20 (by omega) (by omega) (by omega), d1 21 (by omega) (by omega) (by omega), d1 22 (by omega) (by omega) (by omega), d1 23 (by omega) (by omega) (by omega), d1 24 (by omega) (by omega) (by omega), d1 25 (by omega) (by omega) (by omega), d1 26 (by omega) (by omega) (by omega)]
  rw [d2 1 (by omega) (by omega) (by omega) (by omega), d2 9 (by omega) (by omega) (by omega) (by omega), d2 14 (by omega) (by omega) (by omega) (by omega), d2 21 (by omega) (by omega) (by omega) (by omega), d2 25 (by omega) (by omega) (by omega) (by omega), d2 2 (by omega) (by omega) (by omega) (by omega)]
  exact ⟨h1, h2, h3, h4, h5, h6, h7, key, ⟨o0, o1, o2, o3, o4, o5, o6, o7, o8, o9, o10, fun hG => hG.elim, o12⟩, h10⟩
end FND
theorem row_ok {G : Prop} {tl np nf ns no : Nat} {σ τ : St} (h : RelX G tl np nf ns no σ τ) : RowOk nf τ (rowL (τ.1 12) (τ.1 14) nf) := ⟨by rw [rowL_len]; exact h.2.2.2.2.1.2.2.2.2.2.2.2.2.2.2.1, fun g hg => rowL_mem.mp hg, rowL_nodup _ _ _⟩
