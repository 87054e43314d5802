/-! ===== the reference: all ways are tried ===== -/
theorem or_bit2 : ∀ k, k < 8 → ∀ Z, Z < 256 → Z % 2 ^ (k + 1) = 0 → nI Z ||| (1 <<< (nI k &&& 31)) = nI (Z + 2 ^ k) := by decide +kernel
/-- the reference's cells while it tries -/
def MB (ns np : Nat) (τ : St) (row : List Nat) (τ' : St) : Prop := SM τ τ' ∧ τ'.1 0 9 = nI np ∧ τ'.1 0 34 = nI row.length ∧ (∀ k, k < row.length → τ'.1 27 k = nI (row.getD k 0)) ∧ τ'.1 15 = τ.1 15 ∧ ∀ p S, p < np → S < 2 ^ row.length → CI ns τ row τ' p S
theorem MB.w {ns np : Nat} {τ : St} {row : List Nat} {τ' : St} (h : MB ns np τ row τ') {k j : Nat} {v : Int32} (hk : 35 ≤ k) : MB ns np τ row (wr τ' k j v) := by
  obtain ⟨h1, h2, h3, h4, h5, h6⟩ := h
  have e : ∀ c, c < 35 → (wr τ' k j v).1 c = τ'.1 c := fun c hc => if_neg (by omega)
  refine ⟨SM_wrk (by omega) h1, by rw [e 0 (by omega)]; exact h2, by rw [e 0 (by omega)]; exact h3, fun k hk => by rw [e 27 (by omega)]; exact h4 k hk, by rw [e 15 (by omega)]; exact h5, fun p S hp hS => ?_⟩
  unfold CI
  rw [e 34 (by omega)]
  exact h6 p S hp hS
def goodM (ns np : Nat) (τ : St) (row : List Nat) (a : Nat → Nat) : Prop := ∀ q, q < np → Fp ns τ row q (setO a row.length q)
def g9 (x1 : Int32) (np : Nat) (τ : St) (row : List Nat) (a : Nat → Nat) (k : Nat) : Nat := if x1 = 0 then 0 else mvd (plN τ row) (dg np (a k)) k
def mmT (x1 : Int32) (np : Nat) (τ : St) (row : List Nat) (a : Nat → Nat) : Nat := sumN (g9 x1 np τ row a) row.length
section FND
variable {G : Prop} {tl np nf ns no : Nat} {σ τ : St} {row : List Nat}
theorem isMovedM (h : RelX G tl np nf ns no σ τ) (hr : RowOk nf τ row) {τ' : St} (hB : MB ns np τ row τ') {a : Nat → Nat} {k : Nat} (hk : k < row.length) (ha : a k ≤ np) (hd : τ'.1 35 k = nI (a k)) {Q : Int32 → St → Prop} (q : Q (nI (mvd (plN τ row) (dg np (a k)) k)) τ') : w_X11_isMoved (nI k) τ' Q := by
  obtain ⟨h1, h2, h3, h4, h5, h6⟩ := hB
  have p0 := h.2.2.2.1.1
  have f0 := h.2.2.2.2.1.1
  have hl := hr.1
  have hg := (row_at hr hk).1
  have hv : vp_in (nI k) 8 := vp_in_nI (by omega) (by omega)
  have hv2 : vp_in (nI (row.getD k 0)) 20 := vp_in_nI (by omega) (by omega)
  have r2 := h.2.2.2.2.2.2.2.1.2.2.1 _ hg
  unfold w_X11_isMoved
  rw [n_clamp (by omega), h4 k hk, n_clamp (by omega), h5, hd, h2]
  have eb : τ.1 15 (row.getD k 0) = plN τ row k := rfl
  rw [eb] at r2 ⊢
  unfold mvd at q
  refine ⟨hv, hv2, fun z => ?_, fun z => ⟨hv, hv2, hv, fun y => ⟨hv, ?_⟩, fun y => ?_⟩⟩
  · rw [if_pos (Or.inl z)] at q; exact q
  · have hne : a k ≠ np := fun w => y (by rw [w])
    have hdg : dg np (a k) = a k := by unfold dg; rw [if_neg hne]
    rw [hdg] at q
    unfold w_X11_isMoved_49
    refine ⟨fun w => ?_, fun w => ?_⟩
    · rw [if_pos (Or.inr w)] at q; exact q
    · rw [if_neg (fun u => u.elim z w)] at q; exact q
  · have hk2 : a k = np := (nI_eq (by omega) (by omega)).mp y
    have hdg : dg np (a k) = 9 := by unfold dg; rw [if_pos hk2]
    rw [hdg] at q
    unfold w_X11_isMoved_49
    refine bf z ?_
    have hn9 : ¬ (plN τ row k = -1 ∨ plN τ row k = nI 9) := by
      rintro (u | u)
      · exact z u
      · rcases r2 with r2 | ⟨p, hp, r2⟩
        · exact z r2
        · rw [r2, nI_eq (by omega) (by omega)] at u
          omega
    rw [if_neg hn9] at q
    exact q
/-- one way: its digits, its sets, its costs -/
theorem evalW (h : RelX G tl np nf ns no σ τ) (hr : RowOk nf τ row) {τ0 : St} (hB : MB ns np τ row τ0) {x1 x2 x3 x4 x5 : Int32} (hx1 : x1 = 0 ∨ x1 = 1) {w : Nat} (hw : w < (np + 1) ^ row.length) {Q : Int32 → St → Prop} {K : Int32 → Int32 → Int32 → Int32 → Int32 → Int32 → St → Prop}
    (kb : goodM ns np τ row (dgt np row.length w) → (¬ nI (flw np (dgt np row.length w) row.length) < x3 ∧ (nI (flw np (dgt np row.length w) row.length) = x3 → ¬ x4 < nI (mmT x1 np τ row (dgt np row.length w)) ∧ (nI (mmT x1 np τ row (dgt np row.length w)) = x4 → nI (emp (Ep τ row) np (dgt np row.length w) row.length) < x5))) → ∀ τ2, MB ns np τ row τ2 → (∀ k, k < row.length → τ2.1 36 k = nI (dgt np row.length w k)) → K x1 x2 (nI (flw np (dgt np row.length w) row.length)) (nI (mmT x1 np τ row (dgt np row.length w))) (nI (emp (Ep τ row) np (dgt np row.length w) row.length)) (nI w + 1) τ2)
    (ks : ¬ (goodM ns np τ row (dgt np row.length w) ∧ (¬ nI (flw np (dgt np row.length w) row.length) < x3 ∧ (nI (flw np (dgt np row.length w) row.length) = x3 → ¬ x4 < nI (mmT x1 np τ row (dgt np row.length w)) ∧ (nI (mmT x1 np τ row (dgt np row.length w)) = x4 → nI (emp (Ep τ row) np (dgt np row.length w) row.length) < x5)))) → ∀ τ2, MB ns np τ row τ2 → τ2.1 36 = τ0.1 36 → K x1 x2 x3 x4 x5 (nI w + 1) τ2) :
    ∃ nn : Nat, w_X11_finds_64 Q K nn x1 x2 x3 x4 x5 (nI w) (nI w) 0 0 0 0 τ0 := by
  have p0 := h.2.2.2.1.1
  have hl := hr.1
  have h5 := pow5 (n := row.length) p0 hl
  have h2n := pow_le8 hl
  have hal : ∀ k, dgt np row.length w k ≤ np := fun k => dgt_le
  have hadef : ∀ k, dgt np row.length w k = w / (np + 1) ^ (row.length - 1 - k) % (np + 1) := fun k => rfl
  generalize hA : dgt np row.length w = a at *
  -- the copy of the best
  have copy : ∀ τ1 : St, MB ns np τ row τ1 → (∀ k, k < row.length → τ1.1 35 k = nI (a k)) → ∀ y1 y2 y3 : Int32, (∀ τ2, MB ns np τ row τ2 → (∀ k, k < row.length → τ2.1 36 k = nI (a k)) → K x1 x2 y1 y2 y3 (nI w + 1) τ2) → w_X11_finds_317 Q K x1 x2 (nI w) y1 y2 y3 τ1 := by
    intro τ1 hB1 hd y1 y2 y3 k
    unfold w_X11_finds_317
    have loop : ∀ (d j : Nat) (τ2 : St), j + d = row.length → MB ns np τ row τ2 → (∀ k, k < row.length → τ2.1 35 k = nI (a k)) → (∀ k, k < j → τ2.1 36 k = nI (a k)) → w_X11_finds_331 Q K (d + 1) x1 x2 y1 y2 y3 (nI w) (nI j) τ2 := by
      intro d
      induction d with
      | zero =>
        intro j τ2 hj hB2 hd2 hb
        obtain rfl : j = row.length := by omega
        exact bt (by rw [hB2.2.2.1, nI_leI (by omega) (by omega)]; omega) (k τ2 hB2 hb)
      | succ d ih =>
        intro j τ2 hj hB2 hd2 hb
        have hv : vp_in (nI j) 8 := vp_in_nI (by omega) (by omega)
        refine bf (by rw [hB2.2.2.1, nI_leI (by omega) (by omega)]; omega) ⟨hv, hv, ?_⟩
        rintro _ rfl
        rw [n_clamp (by omega), nI_1]
        refine ih (j + 1) _ (by omega) (hB2.w (by omega)) hd2 (fun k hk => ?_)
        show upd (τ2.1 36) j (τ2.1 35 j) k = _
        by_cases e : k = j
        · subst e; rw [upd_eq]; exact hd2 k (by omega)
        · rw [upd_ne e]; exact hb k (by omega)
    exact ⟨row.length + 1, loop row.length 0 τ1 (by omega) hB1 hd (fun k hk => absurd hk (Nat.not_lt_zero k))⟩
  -- the planes
  have planes : ∀ τ1 : St, MB ns np τ row τ1 → τ1.1 36 = τ0.1 36 → (∀ k, k < row.length → τ1.1 35 k = nI (a k)) → (∀ q, q < np → τ1.1 37 q = nI (setO a row.length q)) → ∃ nn : Nat, w_X11_finds_215 Q K nn x1 x2 x3 x4 x5 (nI w) (nI (flw np a row.length)) (nI (mmT x1 np τ row a)) 0 1 0 τ1 := by
    intro τ1 hB1 h36 hd hs
    have loop : ∀ (d p : Nat) (x10 x11 : Int32), p + d = np → ((x11 = 1 ∧ (∀ q, q < p → Fp ns τ row q (setO a row.length q)) ∧ x10 = nI (sumN (fun q => Ep τ row q (setO a row.length q)) p)) ∨ (x11 = 0 ∧ ¬ goodM ns np τ row a)) → w_X11_finds_215 Q K (d + 1) x1 x2 x3 x4 x5 (nI w) (nI (flw np a row.length)) (nI (mmT x1 np τ row a)) x10 x11 (nI p) τ1 := by
      intro d
      induction d with
      | zero =>
        intro p x10 x11 hp hI
        obtain rfl : p = np := by omega
        refine bt (by rw [hB1.2.1, nI_leI (by omega) (by omega)]; omega) ?_
        rcases hI with ⟨e1, e2, e3⟩ | ⟨e1, e2⟩
        · subst e1
          have e3' : x10 = nI (emp (Ep τ row) p a row.length) := e3
          subst e3'
          refine bf n10 ⟨fun z => ks (fun y => y.2.1 z) τ1 hB1 h36, fun z => ⟨fun z2 => copy τ1 hB1 hd _ _ _ (kb e2 ⟨z, fun y => absurd y z2⟩), fun z2 => ⟨fun z3 => ks (fun y => (y.2.2 z2).1 z3) τ1 hB1 h36, fun z3 => ⟨fun z4 => copy τ1 hB1 hd _ _ _ (kb e2 ⟨z, fun _ => ⟨z3, fun y => absurd y z4⟩⟩), fun z4 => ⟨fun z5 => copy τ1 hB1 hd _ _ _ (kb e2 ⟨z, fun _ => ⟨z3, fun _ => z5⟩⟩), fun z5 => ks (fun y => z5 ((y.2.2 z2).2 z4)) τ1 hB1 h36⟩⟩⟩⟩⟩
        · exact bt e1 (ks (fun y => e2 y.1) τ1 hB1 h36)
      | succ d ih =>
        intro p x10 x11 hp hI
        have hpn : p < np := by omega
        have hso : setO a row.length p < 2 ^ row.length := setO_lt
        have hc := hB1.2.2.2.2.2 p _ hpn hso
        refine bf (by rw [hB1.2.1, nI_leI (by omega) (by omega)]; omega) ⟨vp_in_nI (by omega) (by omega), ?_⟩
        rw [n_clamp (by omega), hs p hpn, show (256 : Int32) = nI 256 from rfl, pk_mul, nI_add, n_clamp (by omega)]
        refine ⟨vp_in_nI (by omega) (by omega), ?_⟩
        rintro _ rfl
        unfold w_X11_finds_260 w_X11_finds_261
        rw [nI_1]
        rcases hI with ⟨e1, e2, e3⟩ | ⟨e1, e2⟩
        · subst e1
          refine bf n10 ⟨fun z => ?_, fun z => ?_⟩
          · refine ih (p + 1) _ _ (by omega) (Or.inr ⟨rfl, fun y => ?_⟩)
            rw [hc.1 (y p hpn)] at z
            have hb := Ep_le h hr p _ hpn hso
            have hb2 := csum_le (g := fun _ => 1) (S := setO a row.length p) (c := 1) row.length (fun _ _ => Nat.le_refl 1)
            exact m1ne _ (by omega) z
          · have hF : Fp ns τ row p (setO a row.length p) := Classical.byContradiction (fun y => z (hc.2 y))
            rw [hc.1 hF]
            refine ih (p + 1) _ _ (by omega) (Or.inl ⟨rfl, fun q hq => ?_, ?_⟩)
            · by_cases e : q = p
              · subst e; exact hF
              · exact e2 q (by omega)
            · rw [e3, nI_add]; rfl
        · exact bt e1 (ih (p + 1) _ _ (by omega) (Or.inr ⟨rfl, e2⟩))
    exact ⟨np + 1, loop np 0 0 1 (by omega) (Or.inl ⟨rfl, fun q hq => absurd hq (Nat.not_lt_zero q), rfl⟩)⟩
  -- the digits
  have digits : ∀ (j : Nat) (τ1 : St) (s8 s9 : Nat), j ≤ row.length → MB ns np τ row τ1 → τ1.1 36 = τ0.1 36 → (∀ k, j ≤ k → k < row.length → τ1.1 35 k = nI (a k)) → (∀ q, q < np → ∃ Z t, τ1.1 37 q = nI Z ∧ Z + bitS (fun k => a k = q) j = setO a row.length q ∧ Z = 2 ^ j * t) → s8 + sumN (fun k => if a k < np then 1 else 0) j = flw np a row.length → s9 + sumN (g9 x1 np τ row a) j = mmT x1 np τ row a → w_X11_finds_95 Q K (j + 1) x1 x2 x3 x4 x5 (nI w) (nI (w / (np + 1) ^ (row.length - j))) (nI s8) (nI s9) 0 (nI j - 1) τ1 := by
    intro j
    induction j with
    | zero =>
      intro τ1 s8 s9 hj hB1 h36 hd hs e8 e9
      refine bt (by decide) ?_
      have e8' : s8 = flw np a row.length := e8
      have e9' : s9 = mmT x1 np τ row a := e9
      rw [e8', e9']
      refine planes τ1 hB1 h36 (fun k hk => hd k (Nat.zero_le k) hk) (fun q hq => ?_)
      obtain ⟨Z, t, z1, z2, -⟩ := hs q hq
      have z2' : Z = setO a row.length q := z2
      rw [z1, z2']
    | succ j ih =>
      intro τ1 s8 s9 hj hB1 h36 hd hs e8 e9
      have hv : vp_in (nI j) 8 := vp_in_nI (by omega) (by omega)
      have ecj := n_clamp (show j < 2 ^ 31 by omega)
      have hwl : w / (np + 1) ^ (row.length - (j + 1)) ≤ w := Nat.div_le_self _ _
      have hL : (np + 1) ^ (row.length - (j + 1)) * (np + 1) = (np + 1) ^ (row.length - j) := by
        rw [← Nat.pow_succ]; congr 1; omega
      have eD : w / (np + 1) ^ (row.length - (j + 1)) % (np + 1) = a j := by
        rw [hadef j, show row.length - 1 - j = row.length - (j + 1) by omega]
      have eL : w / (np + 1) ^ (row.length - (j + 1)) / (np + 1) = w / (np + 1) ^ (row.length - j) := by
        rw [Nat.div_div_eq_div_mul, hL]
      have hne : ¬ nI (np + 1) = 0 := by rw [show (0 : Int32) = nI 0 from rfl, nI_eq (by omega) (by omega)]; omega
      have haj := hal j
      rw [nI_pred]
      refine bf (nI_pos (by omega)) ?_
      rw [hB1.2.1, nI_1]
      refine ⟨hne, hv, ?_⟩
      rw [nI_rem (by omega) (by omega) (by omega), eD, ecj]
      rintro τ2 e2
      have hB2 : MB ns np τ row τ2 := by rw [e2]; exact hB1.w (by omega)
      have k35 : τ2.1 35 = upd (τ1.1 35) j (nI (a j)) := by rw [e2]; rfl
      have k35j : τ2.1 35 j = nI (a j) := by rw [k35, upd_eq]
      have k37 : τ2.1 37 = τ1.1 37 := by rw [e2]; rfl
      have k36 : τ2.1 36 = τ0.1 36 := by rw [← h36, e2]; rfl
      have kd : ∀ k, j ≤ k → k < row.length → τ2.1 35 k = nI (a k) := by
        intro k h1 h2
        rw [k35]
        by_cases e : k = j
        · subst e; rw [upd_eq]
        · rw [upd_ne e]; exact hd k (by omega) h2
      rw [hB2.2.1, nI_1, nI_div (by omega) (by omega) (by omega), eL, k35j]
      have e8s : sumN (fun k => if a k < np then 1 else 0) (j + 1) = sumN (fun k => if a k < np then 1 else 0) j + (if a j < np then 1 else 0) := rfl
      have e9s : sumN (g9 x1 np τ row a) (j + 1) = sumN (g9 x1 np τ row a) j + g9 x1 np τ row a j := rfl
      rw [e8s] at e8
      rw [e9s] at e9
      -- what follows the digit
      have J160 : ∀ τ3 : St, MB ns np τ row τ3 → τ3.1 36 = τ0.1 36 → (∀ k, j ≤ k → k < row.length → τ3.1 35 k = nI (a k)) → (∀ q, q < np → ∃ Z t, τ3.1 37 q = nI Z ∧ Z + bitS (fun k => a k = q) j = setO a row.length q ∧ Z = 2 ^ j * t) → w_X11_finds_160 Q K (fun x1 x2 x3 x4 x5 x6 x7 x8 x9 x10 x11 σ => w_X11_finds_95 Q K (j + 1) x1 x2 x3 x4 x5 x6 x7 x8 x9 x10 x11 σ) x1 x2 x3 x4 x5 (nI w) (nI (w / (np + 1) ^ (row.length - j))) (nI s8) (nI s9) 0 (nI j) τ3 := by
        intro τ3 hB3 i36 i35 i37
        unfold w_X11_finds_160
        have hd3 := i35 j (Nat.le_refl j) (by omega)
        rw [ecj, hB3.2.1, hd3, nI_leI (by omega) (by omega)]
        have J181 : ∀ s1 : Nat, s1 = (if a j < np then 1 else 0) → w_X11_finds_181 Q K (fun x1 x2 x3 x4 x5 x6 x7 x8 x9 x10 x11 σ => w_X11_finds_95 Q K (j + 1) x1 x2 x3 x4 x5 x6 x7 x8 x9 x10 x11 σ) x1 x2 x3 x4 x5 (nI w) (nI (w / (np + 1) ^ (row.length - j))) (nI s9) 0 (nI j) (nI s8) (nI s1) τ3 := by
          intro s1 hs1
          unfold w_X11_finds_181
          rw [nI_add, pk_m1_eq]
          refine ⟨fun z => ?_, fun z => isMovedM h hr hB3 (by omega) haj hd3 ?_⟩
          · have hz : g9 x1 np τ row a j = 0 := if_pos z
            rw [show (0 : Int32) = nI 0 from rfl, nI_add, Nat.add_zero]
            exact ih τ3 (s8 + s1) s9 (by omega) hB3 i36 i35 i37 (by omega) (by omega)
          · have hz : g9 x1 np τ row a j = mvd (plN τ row) (dg np (a j)) j := if_neg z
            rw [nI_add]
            exact ih τ3 (s8 + s1) _ (by omega) hB3 i36 i35 i37 (by omega) (by omega)
        exact ⟨hv, fun z => J181 0 (by rw [if_neg (by omega)]), fun z => J181 1 (by rw [if_pos (by omega)])⟩
      have bst : ∀ q, bitS (fun k => a k = q) (j + 1) = bitS (fun k => a k = q) j + (if a j = q then 2 ^ j else 0) := fun q => rfl
      have step : ∀ q, q < np → ∃ Z t, τ1.1 37 q = nI Z ∧ Z + (bitS (fun k => a k = q) j + (if a j = q then 2 ^ j else 0)) = setO a row.length q ∧ Z = 2 ^ (j + 1) * t := fun q hq => by
        obtain ⟨Z, t, z1, z2, z3⟩ := hs q hq
        rw [bst q] at z2
        exact ⟨Z, t, z1, z2, z3⟩
      refine ⟨hne, hv, fun z => ?_, fun z => ?_⟩
      · rw [nI_leI (by omega) (by omega)] at z
        refine J160 τ2 hB2 k36 kd (fun q hq => ?_)
        obtain ⟨Z, t, z1, z2, z3⟩ := step q hq
        rw [if_neg (by omega), Nat.add_zero] at z2
        exact ⟨Z, 2 * t, by rw [k37]; exact z1, z2, by rw [z3, Nat.pow_succ, Nat.mul_assoc]⟩
      · rw [nI_leI (by omega) (by omega)] at z
        have hva : vp_in (nI (a j)) 4 := vp_in_nI (by omega) (by omega)
        refine ⟨hv, hva, hva, ?_⟩
        rw [n_clamp (show a j < 2 ^ 31 by omega), k37]
        obtain ⟨Z, t, z1, z2, z3⟩ := step (a j) (by omega)
        rw [if_pos rfl] at z2
        have hso : setO a row.length (a j) < 2 ^ row.length := setO_lt
        have h2j := Nat.two_pow_pos j
        have hZ : Z < 256 := by omega
        rw [z1, or_bit2 j (by omega) Z hZ (by rw [z3]; exact Nat.mul_mod_right _ _)]
        rintro τ3 e3
        refine J160 τ3 (by rw [e3]; exact hB2.w (by omega)) (by rw [e3]; exact k36) (fun k h1 h2 => by rw [e3]; exact kd k h1 h2) (fun q hq => ?_)
        have k37' : τ3.1 37 = upd (τ1.1 37) (a j) (nI (Z + 2 ^ j)) := by
          rw [e3, ← k37]; rfl
        by_cases e : q = a j
        · subst e
          refine ⟨Z + 2 ^ j, 2 * t + 1, by rw [k37', upd_eq], by omega, ?_⟩
          rw [z3, Nat.pow_succ, Nat.mul_assoc, Nat.mul_add, Nat.mul_one]
        · obtain ⟨Y, u, y1, y2, y3⟩ := step q hq
          rw [if_neg (fun y => e y.symm), Nat.add_zero] at y2
          exact ⟨Y, 2 * u, by rw [k37', upd_ne e]; exact y1, y2, by rw [y3, Nat.pow_succ, Nat.mul_assoc]⟩
  -- the sets are empty first
  have zero : ∀ (d p : Nat) (τ1 : St), p + d = np → MB ns np τ row τ1 → τ1.1 36 = τ0.1 36 → (∀ q, q < p → τ1.1 37 q = nI 0) → w_X11_finds_64 Q K (d + 1) x1 x2 x3 x4 x5 (nI w) (nI w) 0 0 0 (nI p) τ1 := by
    intro d
    induction d with
    | zero =>
      intro p τ1 hp hB1 h36 hs
      obtain rfl : p = np := by omega
      refine bt (by rw [hB1.2.1, nI_leI (by omega) (by omega)]; omega) ⟨row.length + 1, ?_⟩
      rw [hB1.2.2.1]
      have := digits row.length τ1 0 0 (Nat.le_refl _) hB1 h36 (fun k h1 h2 => by omega) (fun q hq => ⟨0, 0, hs q hq, Nat.zero_add _, by rw [Nat.mul_zero]⟩) (Nat.zero_add _) (Nat.zero_add _)
      rw [Nat.sub_self, Nat.pow_zero, Nat.div_one] at this
      exact this
    | succ d ih =>
      intro p τ1 hp hB1 h36 hs
      refine bf (by rw [hB1.2.1, nI_leI (by omega) (by omega)]; omega) ⟨vp_in_nI (by omega) (by omega), ?_⟩
      rintro _ rfl
      rw [n_clamp (by omega), nI_1]
      refine ih (p + 1) _ (by omega) (hB1.w (by omega)) h36 (fun q hq => ?_)
      show upd (τ1.1 37) p 0 q = _
      by_cases e : q = p
      · subst e; rw [upd_eq]; rfl
      · rw [upd_ne e]; exact hs q (by omega)
  exact ⟨np + 1, zero np 0 τ0 (by omega) hB rfl (fun q hq => absurd hq (Nat.not_lt_zero q))⟩
end FND
