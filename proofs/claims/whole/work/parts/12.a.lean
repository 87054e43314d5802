/-! ===== law: a text is read alike ===== -/
def digs (gb : Nat → Nat) (n : Nat) : Nat → Nat → Nat → Nat × Nat
  | 0, p, v => (p, v)
  | k + 1, p, v => if p < n ∧ 48 ≤ gb p ∧ gb p ≤ 57 then digs gb n k (p + 1) (v * 10 + (gb p - 48)) else (p, v)
theorem digs_ge (gb : Nat → Nat) (n : Nat) : ∀ k p v, p ≤ (digs gb n k p v).1 ∧ (digs gb n k p v).1 ≤ p + k
  | 0, p, v => by unfold digs; omega
  | k + 1, p, v => by
    unfold digs
    split
    · have := digs_ge gb n k (p + 1) (v * 10 + (gb p - 48)); omega
    · dsimp only; omega
theorem digs_le (gb : Nat → Nat) (n : Nat) : ∀ k p v, p ≤ n → (digs gb n k p v).1 ≤ n
  | 0, p, v, h => by unfold digs; exact h
  | k + 1, p, v, h => by
    unfold digs
    split
    · exact digs_le gb n k (p + 1) _ (by omega)
    · exact h
theorem digs_v (gb : Nat → Nat) (n : Nat) : ∀ k p v a, v < 10 ^ a → (digs gb n k p v).2 < 10 ^ (a + ((digs gb n k p v).1 - p))
  | 0, p, v, a, h => by unfold digs; simpa using h
  | k + 1, p, v, a, h => by
    unfold digs
    split
    · have h1 := digs_v gb n k (p + 1) (v * 10 + (gb p - 48)) (a + 1) (by rw [Nat.pow_succ]; omega)
      have h2 := (digs_ge gb n k (p + 1) (v * 10 + (gb p - 48))).1
      rw [show a + ((digs gb n k (p + 1) (v * 10 + (gb p - 48))).1 - p) = a + 1 + ((digs gb n k (p + 1) (v * 10 + (gb p - 48))).1 - (p + 1)) by omega]
      exact h1
    · dsimp only; rw [Nat.sub_self]; exact h
def parse (gb : Nat → Nat) (n : Nat) : Nat → Nat → Int32 → Int32 → Nat × Int32 × Int32
  | 0, _, rd, rr => (0, rd, rr)
  | m + 1, p, rd, rr =>
    if p < n ∧ (gb p = 100 ∨ gb p = 114) then
      if (digs gb n 5 (p + 1) 0).1 = p + 1 then (200 + (p + 1), rd, rr)
      else if (digs gb n 5 (p + 1) 0).1 = p + 6 ∨ (gb p = 100 ∧ (digs gb n 5 (p + 1) 0).2 < 60) then (300 + (p + 1), rd, rr)
      else if (digs gb n 5 (p + 1) 0).1 = n then (0, if gb p = 100 then nI (digs gb n 5 (p + 1) 0).2 else rd, if gb p = 100 then rr else nI (digs gb n 5 (p + 1) 0).2)
      else if gb (digs gb n 5 (p + 1) 0).1 = 59 then parse gb n m ((digs gb n 5 (p + 1) 0).1 + 1) (if gb p = 100 then nI (digs gb n 5 (p + 1) 0).2 else rd) (if gb p = 100 then rr else nI (digs gb n 5 (p + 1) 0).2)
      else (400 + (digs gb n 5 (p + 1) 0).1, if gb p = 100 then nI (digs gb n 5 (p + 1) 0).2 else rd, if gb p = 100 then rr else nI (digs gb n 5 (p + 1) 0).2)
    else (100 + p, rd, rr)
def c2 (σ σ' : St) : Prop := ∀ k, k ≠ 2 → σ'.1 k = σ.1 k
theorem c2.tr {a b c : St} (h1 : c2 a b) (h2 : c2 b c) : c2 a c := fun k e => (h2 k e).trans (h1 k e)
theorem c2_wr {σ : St} {j : Nat} {v : Int32} : c2 σ (wr σ 2 j v) := fun k h => if_neg h
/-- the tape, as numbers -/
def TP (tl n : Nat) (gb : Nat → Nat) (σ : St) : Prop := σ.1 1 1 = nI tl ∧ n ≤ tl ∧ tl ≤ 40 ∧ ∀ j, σ.1 11 j = nI (gb j) ∧ gb j < 256
theorem TP.c2 {tl n : Nat} {gb : Nat → Nat} {σ σ' : St} (h : TP tl n gb σ) (hc : c2 σ σ') : TP tl n gb σ' := by
  unfold TP at h ⊢
  rw [hc 1 (by decide), hc 11 (by decide)]
  exact h
theorem at_C {tl n p : Nat} {gb : Nat → Nat} {σ : St} {Q : Int32 → St → Prop} (h : TP tl n gb σ) (hp : p ≤ n) (q1 : p < n → Q (nI (gb p)) σ) (q0 : p = n → Q (-1) σ) : w_X8_at (nI p) (nI n) σ Q := by
  obtain ⟨h1, h2, h3, h4⟩ := h
  unfold w_X8_at
  refine bf (nI_pos (by omega)) ⟨fun z => q0 ?_, fun z => ?_⟩
  · rw [nI_leI (by omega) (by omega)] at z; omega
  · rw [nI_leI (by omega) (by omega)] at z
    refine bf (by rw [h1, nI_leI (by omega) (by omega)]; omega) ⟨vp_in_nI (by omega) (by omega), ?_⟩
    rw [n_clamp (by omega), (h4 p).1]
    exact q1 (by omega)
theorem rdNum {tl n : Nat} {gb : Nat → Nat} {Q : Int32 → St → Prop} : ∀ (k c v p : Nat) (σ : St), TP tl n gb σ → c + k = 5 → p ≤ n → σ.1 2 6 = nI p → (∀ σ', c2 σ σ' → σ'.1 2 6 = nI (digs gb n k p v).1 → σ'.1 2 4 = σ.1 2 4 → σ'.1 2 5 = σ.1 2 5 → Q (nI (digs gb n k p v).2) σ') → w_X2_readNumber_5 Q (k + 1) (nI n) (nI v) (nI c) σ := by
  intro k
  induction k with
  | zero =>
    intro c v p σ hT hc hp hs q
    refine bt ?_ (q σ (fun _ _ => rfl) hs rfl rfl)
    rw [show (4 : Int32) = nI 4 from rfl, nI_ltI (by omega) (by omega)]; omega
  | succ k ih =>
    intro c v p σ hT hc hp hs q
    refine bf (by rw [show (4 : Int32) = nI 4 from rfl, nI_ltI (by omega) (by omega)]; omega) ?_
    rw [hs]
    have hl : tl ≤ 40 := hT.2.2.1
    have hnl := hT.2.1
    refine at_C hT hp (fun hlt => ?_) (fun he => ?_)
    · have hb := (hT.2.2.2 p).2
      have e48 : nI (gb p) < 48 ↔ gb p < 48 := by rw [show (48 : Int32) = nI 48 from rfl, nI_ltI (by omega) (by omega)]
      have e57 : nI (gb p) ≤ 57 ↔ gb p ≤ 57 := by rw [show (57 : Int32) = nI 57 from rfl, nI_leI (by omega) (by omega)]
      refine ⟨fun z => ?_, fun z => ⟨fun z2 => ?_, fun z2 => ?_⟩⟩
      · have hd : digs gb n (k + 1) p v = (p, v) := by unfold digs; exact if_neg (fun y => by have := e48.mp z; omega)
        rw [hd] at q
        exact q σ (fun _ _ => rfl) hs rfl rfl
      · have hd : digs gb n (k + 1) p v = digs gb n k (p + 1) (v * 10 + (gb p - 48)) := by
          conv => lhs; unfold digs
          exact if_pos ⟨hlt, by have : ¬ gb p < 48 := fun y => z (e48.mpr y); omega, e57.mp z2⟩
        rintro _ rfl
        have hge : 48 ≤ gb p := by have : ¬ gb p < 48 := fun y => z (e48.mpr y); omega
        rw [show (10 : Int32) = nI 10 from rfl, show (48 : Int32) = nI 48 from rfl, pk_mul, pk_sub hge, nI_add, nI_1]
        refine ih (c + 1) _ (p + 1) _ (hT.c2 c2_wr) (by omega) (by omega) ?_ (fun σ' g1 g2 g3 g4 => ?_)
        · show σ.1 2 6 + 1 = _
          rw [hs, nI_1]
        · rw [hd] at q
          exact q σ' (c2_wr.tr g1) g2 g3 g4
      · have hd : digs gb n (k + 1) p v = (p, v) := by unfold digs; exact if_neg (fun y => z2 (e57.mpr y.2.2))
        rw [hd] at q
        exact q σ (fun _ _ => rfl) hs rfl rfl
    · have hd : digs gb n (k + 1) p v = (p, v) := by unfold digs; exact if_neg (fun y => by omega)
      rw [hd] at q
      exact bt (by decide) (q σ (fun _ _ => rfl) hs rfl rfl)
theorem p104 : (10 : Nat) ^ 4 = 10000 := by decide
theorem readC {tl n : Nat} {gb : Nat → Nat} {Q : Int32 → St → Prop} : ∀ (m i p : Nat) (σ : St), TP tl n gb σ → p ≤ n → 3 * i ≤ p → n < p + m → σ.1 2 6 = nI p → (∀ σ', c2 σ σ' → σ'.1 2 4 = (parse gb n m p (σ.1 2 4) (σ.1 2 5)).2.1 → σ'.1 2 5 = (parse gb n m p (σ.1 2 4) (σ.1 2 5)).2.2 → Q (nI (parse gb n m p (σ.1 2 4) (σ.1 2 5)).1) σ') → w_X2_read_17 Q m (nI n) (nI i) σ := by
  intro m
  induction m with
  | zero => intro i p σ hT hp hi hm; exact absurd hm (by omega)
  | succ m ih =>
    intro i p σ hT hp hi hm hs q
    have hl : tl ≤ 40 := hT.2.2.1
    have hnl := hT.2.1
    refine bf (nI_nlt (by omega) (by omega)) ?_
    unfold w_X2_readClause
    rw [hs]
    refine at_C hT hp (fun hlt => ?_) (fun he => ?_)
    · have hb := (hT.2.2.2 p).2
      have E : ∀ x, x < 2 ^ 31 → (nI (gb p) = nI x ↔ gb p = x) := fun x hx => nI_eq (by omega) hx
      have J : gb p = 100 ∨ gb p = 114 → w_X2_readClause_30 (fun r_3 σ_2 => (r_3 = 0 → (w_X8_at (σ_2.1 2 6) (nI n) σ_2 (fun r_6 σ_5 => (¬ r_6 = ((-1)) → ((r_6 = 59 → (∀ σ_9 : St, σ_9 = wr σ_5 2 6 ((σ_5.1 2 6) + 1) → (w_X2_read_17 Q m (nI n) (nI i + 1) σ_9))) ∧ (¬ r_6 = 59 → (Q (400 + (σ_5.1 2 6)) σ_5)))) ∧ (r_6 = ((-1)) → (Q 0 σ_5))))) ∧ (¬ r_3 = 0 → (Q r_3 σ_2))) (nI n) (nI (gb p)) σ := by
        intro hdr
        unfold w_X2_readClause_30
        rintro σ1 rfl
        have e1 : (wr σ 2 6 (σ.1 2 6 + 1)).1 2 6 = nI (p + 1) := by show σ.1 2 6 + 1 = _; rw [hs, nI_1]
        have hTe : TP tl n gb (wr σ 2 6 (σ.1 2 6 + 1)) := hT.c2 c2_wr
        have hc1 : c2 σ (wr σ 2 6 (σ.1 2 6 + 1)) := c2_wr
        have hd4 : (wr σ 2 6 (σ.1 2 6 + 1)).1 2 4 = σ.1 2 4 := rfl
        have hd5 : (wr σ 2 6 (σ.1 2 6 + 1)).1 2 5 = σ.1 2 5 := rfl
        generalize wr σ 2 6 (σ.1 2 6 + 1) = σ1 at e1 hTe hc1 hd4 hd5 ⊢
        have hD := digs_ge gb n 5 (p + 1) 0
        have hDn := digs_le gb n 5 (p + 1) 0 (by omega)
        have hDv := digs_v gb n 5 (p + 1) 0 0 (by decide)
        unfold w_X2_readNumber
        refine ⟨6, rdNum 5 0 0 (p + 1) σ1 hTe (by omega) (by omega) e1 (fun σ2 g1 g2 g3 g4 => ?_)⟩
        rw [g2, e1]
        unfold parse at q
        rw [if_pos ⟨hlt, hdr⟩] at q
        have ED : ∀ x, x < 2 ^ 31 → (nI (digs gb n 5 (p + 1) 0).1 = nI x ↔ (digs gb n 5 (p + 1) 0).1 = x) := fun x hx => nI_eq (by omega) hx
        have hcc : c2 σ σ2 := hc1.tr g1
        refine ⟨fun z => ?_, fun z => ?_⟩
        · have z' : ¬ (digs gb n 5 (p + 1) 0).1 = p + 1 := fun y => z ((ED _ (by omega)).mpr y)
          rw [if_neg z'] at q
          have hT2 : TP tl n gb σ2 := hTe.c2 g1
          -- the number's place in the text
          have K84 : ∀ s0 : Nat, (s0 = 0 ∨ s0 = 60) → (s0 = 60 ↔ gb p = 100) → w_X2_readClause_84 (fun r_3 σ_2 => (r_3 = 0 → (w_X8_at (σ_2.1 2 6) (nI n) σ_2 (fun r_6 σ_5 => (¬ r_6 = ((-1)) → ((r_6 = 59 → (∀ σ_9 : St, σ_9 = wr σ_5 2 6 ((σ_5.1 2 6) + 1) → (w_X2_read_17 Q m (nI n) (nI i + 1) σ_9))) ∧ (¬ r_6 = 59 → (Q (400 + (σ_5.1 2 6)) σ_5)))) ∧ (r_6 = ((-1)) → (Q 0 σ_5))))) ∧ (¬ r_3 = 0 → (Q r_3 σ_2))) (nI (gb p)) (nI (p + 1)) (nI (digs gb n 5 (p + 1) 0).2) (nI s0) σ2 := by
            intro s0 hs0 hs1
            unfold w_X2_readClause_84
            rw [g2, pk_sub hD.1]
            have q300 : ((digs gb n 5 (p + 1) 0).1 = p + 6 ∨ (gb p = 100 ∧ (digs gb n 5 (p + 1) 0).2 < 60)) → ((300 + nI (p + 1) = 0 → (w_X8_at (σ2.1 2 6) (nI n) σ2 (fun r_6 σ_5 => (¬ r_6 = ((-1)) → ((r_6 = 59 → (∀ σ_9 : St, σ_9 = wr σ_5 2 6 ((σ_5.1 2 6) + 1) → (w_X2_read_17 Q m (nI n) (nI i + 1) σ_9))) ∧ (¬ r_6 = 59 → (Q (400 + (σ_5.1 2 6)) σ_5)))) ∧ (r_6 = ((-1)) → (Q 0 σ_5))))) ∧ (¬ 300 + nI (p + 1) = 0 → (Q (300 + nI (p + 1)) σ2))) := by
              intro hy
              rw [if_pos hy] at q
              rw [show (300 : Int32) = nI 300 from rfl, nI_add]
              exact bf (nI_ne0 (by omega) (by omega)) (q σ2 hcc (g3.trans hd4) (g4.trans hd5))
            refine ⟨fun y => q300 (Or.inl ?_), fun y => ?_⟩
            · rw [show (4 : Int32) = nI 4 from rfl, nI_ltI (by omega) (by omega)] at y; omega
            · rw [show (4 : Int32) = nI 4 from rfl, nI_ltI (by omega) (by omega)] at y
              have hv : (digs gb n 5 (p + 1) 0).2 < 10000 := by
                refine Nat.lt_of_lt_of_le hDv ?_
                rw [← p104]
                exact Nat.pow_le_pow_right (by omega) (by omega)
              refine isWithin_w (fun hin => c1 ?_) (fun hin => c0 (q300 (Or.inr ?_)))
              · have hok : ¬ ((digs gb n 5 (p + 1) 0).1 = p + 6 ∨ (gb p = 100 ∧ (digs gb n 5 (p + 1) 0).2 < 60)) := by
                  rintro (y2 | ⟨y2, y3⟩)
                  · omega
                  · have := hin.1
                    rw [nI_toInt (by omega), nI_toInt (by omega)] at this
                    have := hs1.mpr y2
                    omega
                rw [if_neg hok] at q
                have fin : ∀ σ3 : St, c2 σ σ3 → σ3.1 2 6 = nI (digs gb n 5 (p + 1) 0).1 → σ3.1 2 4 = (if gb p = 100 then nI (digs gb n 5 (p + 1) 0).2 else σ.1 2 4) → σ3.1 2 5 = (if gb p = 100 then σ.1 2 5 else nI (digs gb n 5 (p + 1) 0).2) → w_X8_at (σ3.1 2 6) (nI n) σ3 (fun r_6 σ_5 => (¬ r_6 = ((-1)) → ((r_6 = 59 → (∀ σ_9 : St, σ_9 = wr σ_5 2 6 ((σ_5.1 2 6) + 1) → (w_X2_read_17 Q m (nI n) (nI i + 1) σ_9))) ∧ (¬ r_6 = 59 → (Q (400 + (σ_5.1 2 6)) σ_5)))) ∧ (r_6 = ((-1)) → (Q 0 σ_5))) := by
                  intro σ3 k1 k2 k3 k4
                  rw [k2]
                  refine at_C (hT.c2 k1) hDn (fun l1 => ?_) (fun l1 => ?_)
                  · have hb2 := (hT.2.2.2 (digs gb n 5 (p + 1) 0).1).2
                    refine ct (m1ne _ (by omega)) ?_
                    rw [if_neg (by omega)] at q
                    have e59 : nI (gb (digs gb n 5 (p + 1) 0).1) = 59 ↔ gb (digs gb n 5 (p + 1) 0).1 = 59 := by rw [show (59 : Int32) = nI 59 from rfl, nI_eq (by omega) (by omega)]
                    refine ⟨fun l2 => ?_, fun l2 => ?_⟩
                    · rw [if_pos (e59.mp l2)] at q
                      rintro _ rfl
                      rw [nI_1]
                      refine ih (i + 1) ((digs gb n 5 (p + 1) 0).1 + 1) _ ((hT.c2 k1).c2 c2_wr) (by omega) (by omega) (by omega) ?_ (fun σ4 j1 j2 j3 => ?_)
                      · show σ3.1 2 6 + 1 = _
                        rw [k2, nI_1]
                      · have w4 : (wr σ3 2 6 (σ3.1 2 6 + 1)).1 2 4 = σ3.1 2 4 := rfl
                        have w5 : (wr σ3 2 6 (σ3.1 2 6 + 1)).1 2 5 = σ3.1 2 5 := rfl
                        rw [w4, w5, k3, k4] at j2 j3 ⊢
                        exact q σ4 ((k1.tr c2_wr).tr j1) j2 j3
                    · rw [if_neg (fun y => l2 (e59.mpr y))] at q
                      rw [k2, show (400 : Int32) = nI 400 from rfl, nI_add]
                      exact q σ3 k1 k3 k4
                  · rw [if_pos l1] at q
                    exact cf rfl (q σ3 k1 k3 k4)
                refine ⟨fun y2 => ?_, fun y2 => ?_⟩
                · have y3 : ¬ gb p = 100 := fun e => y2 ((E 100 (by omega)).mpr e)
                  rintro _ rfl
                  exact bt rfl (fin _ (hcc.tr c2_wr) g2 (by rw [if_neg y3]; exact g3.trans hd4) (by rw [if_neg y3]; rfl))
                · have y3 : gb p = 100 := (E 100 (by omega)).mp y2
                  rintro _ rfl
                  exact bt rfl (fin _ (hcc.tr c2_wr) g2 (by rw [if_pos y3]; rfl) (by rw [if_pos y3]; exact g4.trans hd5))
              · have h1 : ¬ (nI s0).toInt ≤ (nI (digs gb n 5 (p + 1) 0).2).toInt := by
                  intro y2
                  refine hin ⟨y2, ?_⟩
                  rw [nI_toInt (by omega), show (9999 : Int32).toInt = 9999 from rfl]
                  omega
                rw [nI_toInt (by omega), nI_toInt (by omega)] at h1
                rcases hs0 with rfl | rfl
                · omega
                · exact ⟨hs1.mp rfl, by omega⟩
          exact ⟨fun y => K84 0 (Or.inl rfl) ⟨fun y2 => absurd y2 (by decide), fun y2 => absurd ((E 100 (by omega)).mpr y2) y⟩, fun y => K84 60 (Or.inr rfl) ⟨fun _ => (E 100 (by omega)).mp y, fun _ => rfl⟩⟩
        · rw [if_pos ((ED _ (by omega)).mp z)] at q
          rw [show (200 : Int32) = nI 200 from rfl, (ED _ (by omega)).mp z, nI_add]
          exact bf (nI_ne0 (by omega) (by omega)) (q σ2 hcc (g3.trans hd4) (g4.trans hd5))
      refine ⟨fun z => J (Or.inl ((E 100 (by omega)).mp z)), fun z => ⟨fun z2 => J (Or.inr ((E 114 (by omega)).mp z2)), fun z2 => ?_⟩⟩
      unfold parse at q
      rw [if_neg (fun y => y.2.elim (fun y => z ((E 100 (by omega)).mpr y)) (fun y => z2 ((E 114 (by omega)).mpr y)))] at q
      rw [hs, show (100 : Int32) = nI 100 from rfl, nI_add]
      exact bf (nI_ne0 (by omega) (by omega)) (q σ (fun _ _ => rfl) rfl rfl)
    · refine bf (by decide) (bf (by decide) ?_)
      unfold parse at q
      rw [if_neg (fun y => by omega)] at q
      rw [hs, show (100 : Int32) = nI 100 from rfl, nI_add]
      exact bf (nI_ne0 (by omega) (by omega)) (q σ (fun _ _ => rfl) rfl rfl)
