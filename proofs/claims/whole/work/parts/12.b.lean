def m67 (τ τ' : St) : Prop := (∀ k, k ≠ 0 → τ'.1 k = τ.1 k) ∧ ∀ j, j ≠ 6 → j ≠ 7 → τ'.1 0 j = τ.1 0 j
theorem m67.rf (τ : St) : m67 τ τ := ⟨fun _ _ => rfl, fun _ _ _ => rfl⟩
theorem m67.tr {a b c : St} (h1 : m67 a b) (h2 : m67 b c) : m67 a c := ⟨fun k e => (h2.1 k e).trans (h1.1 k e), fun j e1 e2 => (h2.2 j e1 e2).trans (h1.2 j e1 e2)⟩
theorem m67_6 {τ : St} {v : Int32} : m67 τ (wr τ 0 6 v) := ⟨fun k h => if_neg h, fun j h1 h2 => upd_ne h1⟩
theorem m67_7 {τ : St} {v : Int32} : m67 τ (wr τ 0 7 v) := ⟨fun k h => if_neg h, fun j h1 h2 => upd_ne h2⟩
def TM (n : Nat) (gb : Nat → Nat) (τ : St) : Prop := n ≤ 40 ∧ ∀ j, τ.1 1 j &&& 255 = nI (gb j) ∧ gb j < 256
theorem TM.m67 {n : Nat} {gb : Nat → Nat} {τ τ' : St} (h : TM n gb τ) (hc : m67 τ τ') : TM n gb τ' := by
  unfold TM at h ⊢
  rw [hc.1 1 (by decide)]
  exact h
theorem at_M {n p : Nat} {gb : Nat → Nat} {τ : St} {Q : Int32 → St → Prop} (h : TM n gb τ) (hp : p ≤ n) (q1 : p < n → Q (nI (gb p)) τ) (q0 : p = n → Q 0 τ) : w_X11_at (nI p) (nI n) τ Q := by
  obtain ⟨h1, h4⟩ := h
  unfold w_X11_at
  refine ⟨fun z => q0 ?_, fun z => ⟨?_, ?_⟩⟩
  · rw [nI_leI (by omega) (by omega)] at z; omega
  · rw [nI_leI (by omega) (by omega)] at z; exact vp_in_nI (by omega) (by omega)
  · rw [nI_leI (by omega) (by omega)] at z
    rw [n_clamp (by omega), (h4 p).1]
    exact q1 (by omega)
theorem lies_dg {b : Nat} {Q : Int32 → Prop} (hb : b < 256) (q1 : 48 ≤ b → b ≤ 57 → Q 1) (q0 : ¬ (48 ≤ b ∧ b ≤ 57) → Q 0) : w_X11_lies (nI b) 48 57 Q := by
  refine lies_w (fun h => ?_) (fun h => ?_)
  · obtain ⟨h1, h2⟩ := h
    rw [nI_toInt (by omega), show (48 : Int32).toInt = 48 from rfl] at h1
    rw [nI_toInt (by omega), show (57 : Int32).toInt = 57 from rfl] at h2
    exact q1 (by omega) (by omega)
  · refine q0 (fun h2 => h ⟨?_, ?_⟩)
    · rw [nI_toInt (by omega), show (48 : Int32).toInt = 48 from rfl]; omega
    · rw [nI_toInt (by omega), show (57 : Int32).toInt = 57 from rfl]; omega
theorem lies_0 {Q : Int32 → Prop} (q0 : Q 0) : w_X11_lies 0 48 57 Q := bt (by decide) q0
theorem rd77 {n first : Nat} {gb : Nat → Nat} {Q : Int32 → St → Prop} {K : Int32 → Int32 → Int32 → St → Prop} {x3 x4 : Int32} {τ : St} (hT : TM n gb τ) : ∀ (k c v : Nat), c + k = 5 → first + c ≤ n → w_X11_reads_124 Q K (nI n) (nI (digs gb n k (first + c) v).1) x3 x4 (nI first) (nI (digs gb n k (first + c) v).2) τ → w_X11_reads_77 Q K (k + 1) (nI n) (nI (first + c)) x3 x4 (nI first) (nI v) τ := by
  intro k
  have hn := hT.1
  induction k with
  | zero =>
    intro c v hc hp q
    have q' : w_X11_reads_124 Q K (nI n) (nI (first + c)) x3 x4 (nI first) (nI v) τ := q
    refine at_M hT hp (fun h1 => lies_dg (hT.2 _).2 (fun h2 h3 => b1 (bt ?_ q')) (fun _ => b0 q')) (fun _ => lies_0 (b0 q'))
    rw [show (5 : Int32) = nI 5 from rfl, nI_add, nI_leI (by omega) (by omega)]; omega
  | succ k ih =>
    intro c v hc hp q
    have hno : ¬ (first + c < n ∧ 48 ≤ gb (first + c) ∧ gb (first + c) ≤ 57) → w_X11_reads_124 Q K (nI n) (nI (first + c)) x3 x4 (nI first) (nI v) τ := by
      intro h
      have hd : digs gb n (k + 1) (first + c) v = (first + c, v) := by unfold digs; exact if_neg h
      rw [hd] at q
      exact q
    refine at_M hT hp (fun h1 => lies_dg (hT.2 _).2 (fun h2 h3 => b1 (bf ?_ ?_)) (fun h2 => b0 (hno (fun y => h2 y.2)))) (fun h1 => lies_0 (b0 (hno (fun y => by omega))))
    · rw [show (5 : Int32) = nI 5 from rfl, nI_add, nI_leI (by omega) (by omega)]; omega
    · refine at_M hT hp (fun _ => ?_) (fun y => by omega)
      rw [show (10 : Int32) = nI 10 from rfl, show (48 : Int32) = nI 48 from rfl, pk_mul, nI_add, pk_sub (by omega), nI_1, show 10 * v + gb (first + c) - 48 = v * 10 + (gb (first + c) - 48) by omega]
      have hd : digs gb n (k + 1) (first + c) v = digs gb n k (first + (c + 1)) (v * 10 + (gb (first + c) - 48)) := by
        conv => lhs; unfold digs
        exact if_pos ⟨h1, h2, h3⟩
      rw [hd] at q
      exact ih (c + 1) _ (by omega) (by omega) q
theorem readM {n : Nat} {gb : Nat → Nat} {Q : Int32 → St → Prop} : ∀ (m i p : Nat) (τ : St), TM n gb τ → p ≤ n → 3 * i ≤ p → n < p + m → (∀ τ', m67 τ τ' → τ'.1 0 6 = (parse gb n m p (τ.1 0 6) (τ.1 0 7)).2.1 → τ'.1 0 7 = (parse gb n m p (τ.1 0 6) (τ.1 0 7)).2.2 → Q (nI (parse gb n m p (τ.1 0 6) (τ.1 0 7)).1) τ') → w_X11_reads_14 Q m (nI n) (nI p) (nI i) τ := by
  intro m
  induction m with
  | zero => intro i p τ hT hp hi hm; exact absurd hm (by omega)
  | succ m ih =>
    intro i p τ hT hp hi hm q
    have hn := hT.1
    refine bf (nI_nlt (by omega) (by omega)) ?_
    refine at_M hT hp (fun hlt => ?_) (fun he => ?_)
    · have hb := (hT.2 p).2
      have E : ∀ x, x < 2 ^ 31 → (nI (gb p) = nI x ↔ gb p = x) := fun x hx => nI_eq (by omega) hx
      have J : gb p = 100 ∨ gb p = 114 → w_X11_reads_46 Q (fun x1 x2 x3 σ => w_X11_reads_14 Q m x1 x2 x3 σ) (nI n) (nI p) (nI i) (nI (gb p)) τ := by
        intro hdr
        unfold w_X11_reads_46
        rw [nI_1]
        have hD := digs_ge gb n 5 (p + 1) 0
        have hDn := digs_le gb n 5 (p + 1) 0 (by omega)
        unfold parse at q
        rw [if_pos ⟨hlt, hdr⟩] at q
        have no : ¬ (p + 1 < n ∧ 48 ≤ gb (p + 1) ∧ gb (p + 1) ≤ 57) → Q (200 + nI (p + 1)) τ := by
          intro h
          have hd : digs gb n 5 (p + 1) 0 = (p + 1, 0) := by unfold digs; exact if_neg h
          rw [hd, if_pos rfl] at q
          rw [show (200 : Int32) = nI 200 from rfl, nI_add]
          exact q τ (m67.rf τ) rfl rfl
        refine at_M hT (by omega) (fun h1 => lies_dg (hT.2 _).2 (fun h2 h3 => c1 ⟨6, ?_⟩) (fun h2 => c0 (no (fun y => h2 y.2)))) (fun h1 => lies_0 (c0 (no (fun y => by omega))))
        have hgt : ¬ (digs gb n 5 (p + 1) 0).1 = p + 1 := by
          have hd : digs gb n 5 (p + 1) 0 = digs gb n 4 (p + 1 + 1) (0 * 10 + (gb (p + 1) - 48)) := by
            conv => lhs; unfold digs
            exact if_pos ⟨h1, h2, h3⟩
          rw [hd]
          have := digs_ge gb n 4 (p + 1 + 1) (0 * 10 + (gb (p + 1) - 48))
          omega
        have hDv := digs_v gb n 5 (p + 1) 0 0 (by decide)
        rw [if_neg hgt] at q
        refine rd77 (first := p + 1) hT 5 0 0 (by omega) (by omega) ?_
        rw [Nat.add_zero]
        unfold w_X11_reads_124
        have e5 : nI (p + 1) + 5 = nI (p + 6) := by rw [show (5 : Int32) = nI 5 from rfl, nI_add]
        rw [e5]
        have ED : ∀ x, x < 2 ^ 31 → (nI (digs gb n 5 (p + 1) 0).1 = nI x ↔ (digs gb n 5 (p + 1) 0).1 = x) := fun x hx => nI_eq (by omega) hx
        have hvb : (digs gb n 5 (p + 1) 0).2 < 100000 := by
          refine Nat.lt_of_lt_of_le hDv ?_
          rw [show (100000 : Nat) = 10 ^ 5 by decide]
          exact Nat.pow_le_pow_right (by omega) (by omega)
        have q300 : ((digs gb n 5 (p + 1) 0).1 = p + 6 ∨ (gb p = 100 ∧ (digs gb n 5 (p + 1) 0).2 < 60)) → Q (300 + nI (p + 1)) τ := by
          intro hy
          rw [if_pos hy] at q
          rw [show (300 : Int32) = nI 300 from rfl, nI_add]
          exact q τ (m67.rf τ) rfl rfl
        have fin : ¬ ((digs gb n 5 (p + 1) 0).1 = p + 6 ∨ (gb p = 100 ∧ (digs gb n 5 (p + 1) 0).2 < 60)) → w_X11_reads_153 Q (fun x1 x2 x3 σ => w_X11_reads_14 Q m x1 x2 x3 σ) (nI n) (nI (digs gb n 5 (p + 1) 0).1) (nI i) (nI (gb p)) (nI (digs gb n 5 (p + 1) 0).2) τ := by
          intro hok
          rw [if_neg hok] at q
          have f175 : ∀ τ3 : St, m67 τ τ3 → τ3.1 0 6 = (if gb p = 100 then nI (digs gb n 5 (p + 1) 0).2 else τ.1 0 6) → τ3.1 0 7 = (if gb p = 100 then τ.1 0 7 else nI (digs gb n 5 (p + 1) 0).2) → w_X11_reads_175 Q (fun x1 x2 x3 σ => w_X11_reads_14 Q m x1 x2 x3 σ) (nI n) (nI (digs gb n 5 (p + 1) 0).1) (nI i) τ3 := by
            intro τ3 k1 k3 k4
            unfold w_X11_reads_175
            refine ⟨fun l1 => ?_, fun l1 => ?_⟩
            · have l1' : ¬ (digs gb n 5 (p + 1) 0).1 = n := fun y => l1 (by rw [y])
              rw [if_neg l1'] at q
              refine at_M (hT.m67 k1) hDn (fun _ => ?_) (fun y => absurd y l1')
              have hb2 := (hT.2 (digs gb n 5 (p + 1) 0).1).2
              have e59 : nI (gb (digs gb n 5 (p + 1) 0).1) = 59 ↔ gb (digs gb n 5 (p + 1) 0).1 = 59 := by rw [show (59 : Int32) = nI 59 from rfl, nI_eq (by omega) (by omega)]
              refine ⟨fun l2 => ?_, fun l2 => ?_⟩
              · rw [if_pos (e59.mp l2)] at q
                rw [nI_1, nI_1]
                refine ih (i + 1) ((digs gb n 5 (p + 1) 0).1 + 1) τ3 (hT.m67 k1) (by omega) (by omega) (by omega) (fun τ4 j1 j2 j3 => ?_)
                rw [k3, k4] at j2 j3 ⊢
                exact q τ4 (k1.tr j1) j2 j3
              · rw [if_neg (fun y => l2 (e59.mpr y))] at q
                rw [show (400 : Int32) = nI 400 from rfl, nI_add]
                exact q τ3 k1 k3 k4
            · rw [if_pos ((ED _ (by omega)).mp l1)] at q
              exact q τ3 k1 k3 k4
          unfold w_X11_reads_153
          refine ⟨fun y2 => ?_, fun y2 => ?_⟩
          · have y3 : ¬ gb p = 100 := fun e => y2 ((E 100 (by omega)).mpr e)
            rintro _ rfl
            exact f175 _ m67_7 (by rw [if_neg y3]; rfl) (by rw [if_neg y3]; rfl)
          · have y3 : gb p = 100 := (E 100 (by omega)).mp y2
            rintro _ rfl
            exact f175 _ m67_6 (by rw [if_pos y3]; rfl) (by rw [if_pos y3]; rfl)
        refine ⟨fun z => q300 (Or.inl ((ED _ (by omega)).mp z)), fun z => ⟨fun z2 => fin ?_, fun z2 => ⟨fun z3 => fin ?_, fun z3 => q300 (Or.inr ⟨(E 100 (by omega)).mp z2, ?_⟩)⟩⟩⟩
        · rintro (y | ⟨y, -⟩)
          · exact z ((ED _ (by omega)).mpr y)
          · exact z2 ((E 100 (by omega)).mpr y)
        · rintro (y | ⟨-, y⟩)
          · exact z ((ED _ (by omega)).mpr y)
          · rw [show (60 : Int32) = nI 60 from rfl, nI_leI (by omega) (by omega)] at z3; omega
        · rw [show (60 : Int32) = nI 60 from rfl, nI_leI (by omega) (by omega)] at z3; omega
      refine ⟨fun z => J (Or.inl ((E 100 (by omega)).mp z)), fun z => ⟨fun z2 => J (Or.inr ((E 114 (by omega)).mp z2)), fun z2 => ?_⟩⟩
      unfold parse at q
      rw [if_neg (fun y => y.2.elim (fun y => z ((E 100 (by omega)).mpr y)) (fun y => z2 ((E 114 (by omega)).mpr y)))] at q
      rw [show (100 : Int32) = nI 100 from rfl, nI_add]
      exact q τ (m67.rf τ) rfl rfl
    · refine bf (by decide) (bf (by decide) ?_)
      unfold parse at q
      rw [if_neg (fun y => by omega)] at q
      rw [show (100 : Int32) = nI 100 from rfl, nI_add]
      exact q τ (m67.rf τ) rfl rfl
-- the texts in force
theorem enactC {σ : St} {day : Nat} {Q : St → Prop} (hd : day < 7) (q : ∀ σ', (∀ k, k ≠ 12 → k ≠ 13 → k ≠ 14 → k ≠ 15 → σ'.1 k = σ.1 k) → σ'.1 12 = upd (σ.1 12) day (σ.1 2 4) → σ'.1 13 = upd (σ.1 13) day (σ.1 2 5) → (∀ d, d < 7 → σ'.1 14 d = lawN 840 (upd (σ.1 12) day (σ.1 2 4)) (d + 1)) → (∀ d, d < 7 → σ'.1 15 d = lawN 600 (upd (σ.1 13) day (σ.1 2 5)) (d + 1)) → Q σ') : w_X2_enact (nI day) σ Q := by
  unfold w_X2_enact
  have hv : vp_in (nI day) 7 := vp_in_nI (by omega) (by omega)
  have loop : ∀ (k i : Nat) (σ' : St), i + k = 7 → (∀ k, k ≠ 12 → k ≠ 13 → k ≠ 14 → k ≠ 15 → σ'.1 k = σ.1 k) → σ'.1 12 = upd (σ.1 12) day (σ.1 2 4) → σ'.1 13 = upd (σ.1 13) day (σ.1 2 5) → (∀ d, d < i → σ'.1 14 d = lawN 840 (upd (σ.1 12) day (σ.1 2 4)) (d + 1)) → (∀ d, d < i → σ'.1 15 d = lawN 600 (upd (σ.1 13) day (σ.1 2 5)) (d + 1)) → w_X2_enact_39 Q (k + 1) (lawN 840 (upd (σ.1 12) day (σ.1 2 4)) i) (lawN 600 (upd (σ.1 13) day (σ.1 2 5)) i) (nI i) σ' := by
    intro k
    induction k with
    | zero =>
      intro i σ' hi e0 e1 e2 e3 e4
      obtain rfl : i = 7 := by omega
      exact bt (by decide) (q σ' e0 e1 e2 e3 e4)
    | succ k ih =>
      intro i σ' hi e0 e1 e2 e3 e4
      have hv : vp_in (nI i) 7 := vp_in_nI (by omega) (by omega)
      have ec := n_clamp (show i < 2 ^ 31 by omega)
      refine bf (by rw [show (7 : Int32) = nI 7 from rfl, nI_leI (by omega) (by omega)]; omega) ⟨hv, ?_⟩
      rw [ec, e1]
      have l1 : lawN 840 (upd (σ.1 12) day (σ.1 2 4)) (i + 1) = if upd (σ.1 12) day (σ.1 2 4) i = -1 then lawN 840 (upd (σ.1 12) day (σ.1 2 4)) i else upd (σ.1 12) day (σ.1 2 4) i := rfl
      have l2 : lawN 600 (upd (σ.1 13) day (σ.1 2 5)) (i + 1) = if upd (σ.1 13) day (σ.1 2 5) i = -1 then lawN 600 (upd (σ.1 13) day (σ.1 2 5)) i else upd (σ.1 13) day (σ.1 2 5) i := rfl
      have J91 : w_X2_enact_91 Q (fun x2 x3 x4 σ => w_X2_enact_39 Q (k + 1) x2 x3 x4 σ) (lawN 840 (upd (σ.1 12) day (σ.1 2 4)) (i + 1)) (nI i) (lawN 600 (upd (σ.1 13) day (σ.1 2 5)) (i + 1)) σ' := by
        unfold w_X2_enact_91
        rw [ec]
        refine ⟨hv, ?_⟩
        rintro _ rfl
        refine ⟨hv, ?_⟩
        rintro _ rfl
        rw [nI_1]
        refine ih (i + 1) _ (by omega) (fun k h1 h2 h3 h4 => ?_) e1 e2 (fun d hd => ?_) (fun d hd => ?_)
        · show (if k = 15 then _ else if k = 14 then _ else σ'.1 k) = _
          rw [if_neg h4, if_neg h3, e0 k h1 h2 h3 h4]
        · show upd (σ'.1 14) i _ d = _
          by_cases e : d = i
          · subst e; exact upd_eq
          · rw [upd_ne e]; exact e3 d (by omega)
        · show upd (σ'.1 15) i _ d = _
          by_cases e : d = i
          · subst e; exact upd_eq
          · rw [upd_ne e]; exact e4 d (by omega)
      have J68 : w_X2_enact_68 Q (fun x2 x3 x4 σ => w_X2_enact_39 Q (k + 1) x2 x3 x4 σ) (lawN 600 (upd (σ.1 13) day (σ.1 2 5)) i) (nI i) (lawN 840 (upd (σ.1 12) day (σ.1 2 4)) (i + 1)) σ' := by
        unfold w_X2_enact_68
        rw [ec, e2]
        refine ⟨hv, fun z => ⟨hv, ?_⟩, fun z => ?_⟩
        · rw [l2, if_neg z] at J91; exact J91
        · rw [l2, if_pos z] at J91; exact J91
      refine ⟨fun z => ⟨hv, ?_⟩, fun z => ?_⟩
      · rw [l1, if_neg z] at J68; exact J68
      · rw [l1, if_pos z] at J68; exact J68
  refine isDay_t (inR_ix (n := 6) (by omega) (by omega)) (c1 ⟨hv, ?_⟩)
  rw [n_clamp (by omega)]
  rintro _ rfl
  refine ⟨hv, ?_⟩
  rintro _ rfl
  refine ⟨8, loop 7 0 _ (by omega) (fun k h1 h2 h3 h4 => ?_) rfl rfl (fun d hd => absurd hd (by omega)) (fun d hd => absurd hd (by omega))⟩
  show (if k = 13 then _ else if k = 12 then _ else σ.1 k) = _
  rw [if_neg h2, if_neg h1]
theorem and255 (x : Int32) : ∃ m, m < 256 ∧ x &&& 255 = nI m := by
  refine ⟨(x &&& 255).toBitVec.toNat, ?_, ?_⟩
  · rw [Int32.toBitVec_and, BitVec.toNat_and]
    exact Nat.lt_of_le_of_lt Nat.and_le_right (by decide)
  · apply Int32.toBitVec_inj.mp
    show _ = BitVec.ofNat 32 _
    rw [BitVec.ofNat_toNat]
    simp
theorem RelX.law {G : Prop} {tl np nf ns no : Nat} {σ σ' τ τ' : St} (h : RelX G tl np nf ns no σ τ) (hc : ∀ k, k ≠ 12 → k ≠ 13 → k ≠ 14 → k ≠ 15 → σ'.1 k = σ.1 k) (hm : ∀ k, k ≠ 2 → k ≠ 3 → k ≠ 4 → τ'.1 k = τ.1 k) (hL : RLw (σ'.1 12) (σ'.1 13) (σ'.1 14) (σ'.1 15) (τ'.1 2) (τ'.1 3) (τ'.1 4)) : RelX G tl np nf ns no σ' τ' := by
  obtain ⟨h1, h2, h3⟩ := h
  refine ⟨?_, hL, ?_⟩
  · rw [hc 1 (by decide) (by decide) (by decide) (by decide), hc 11 (by decide) (by decide) (by decide) (by decide), hm 0 (by decide) (by decide) (by decide), hm 1 (by decide) (by decide) (by decide)]
    exact h1
  · rw [hc 16 (by decide) (by decide) (by decide) (by decide), hc 4 (by decide) (by decide) (by decide) (by decide), hc 17 (by decide) (by decide) (by decide) (by decide), hc 18 (by decide) (by decide) (by decide) (by decide), hc 19 (by decide) (by decide) (by decide) (by decide), hc 20 (by decide) (by decide) (by decide) (by decide), hc 5 (by decide) (by decide) (by decide) (by decide), hc 21 (by decide) (by decide) (by decide) (by decide), hc 22 (by decide) (by decide) (by decide) (by decide), hc 23 (by decide) (by decide) (by decide) (by decide), hc 24 (by decide) (by decide) (by decide) (by decide), hc 25 (by decide) (by decide) (by decide) (by decide), hc 26 (by decide) (by decide) (by decide) (by decide), hc 6 (by decide) (by decide) (by decide) (by decide), hc 27 (by decide) (by decide) (by decide) (by decide), hc 28 (by decide) (by decide) (by decide) (by decide), hc 29 (by decide) (by decide) (by decide) (by decide), hc 30 (by decide) (by decide) (by decide) (by decide), hc 10 (by decide) (by decide) (by decide) (by decide), hc 38 (by decide) (by decide) (by decide) (by decide), hc 39 (by decide) (by decide) (by decide) (by decide), hc 40 (by decide) (by decide) (by decide) (by decide), hc 41 (by decide) (by decide) (by decide) (by decide), hc 42 (by decide) (by decide) (by decide) (by decide), hc 43 (by decide) (by decide) (by decide) (by decide), hc 44 (by decide) (by decide) (by decide) (by decide), hc 0 (by decide) (by decide) (by decide) (by decide)]
    rw [hm 0 (by decide) (by decide) (by decide), hm 5 (by decide) (by decide) (by decide), hm 6 (by decide) (by decide) (by decide), hm 7 (by decide) (by decide) (by decide), hm 8 (by decide) (by decide) (by decide), hm 9 (by decide) (by decide) (by decide), hm 10 (by decide) (by decide) (by decide), hm 11 (by decide) (by decide) (by decide), hm 12 (by decide) (by decide) (by decide), hm 13 (by decide) (by decide) (by decide), hm 14 (by decide) (by decide) (by decide), hm 15 (by decide) (by decide) (by decide), hm 16 (by decide) (by decide) (by decide), hm 17 (by decide) (by decide) (by decide), hm 18 (by decide) (by decide) (by decide), hm 19 (by decide) (by decide) (by decide), hm 20 (by decide) (by decide) (by decide), hm 21 (by decide) (by decide) (by decide), hm 22 (by decide) (by decide) (by decide), hm 23 (by decide) (by decide) (by decide), hm 24 (by decide) (by decide) (by decide), hm 25 (by decide) (by decide) (by decide), hm 26 (by decide) (by decide) (by decide)]
    exact h3
theorem parse_le (gb : Nat → Nat) (n : Nat) : ∀ m p rd rr, p ≤ n → (parse gb n m p rd rr).1 ≤ 401 + n
  | 0, p, rd, rr, h => by unfold parse; exact Nat.zero_le _
  | m + 1, p, rd, rr, h => by
    unfold parse
    have hDn := digs_le gb n 5 (p + 1) 0
    split
    · have := hDn (by omega)
      split
      · dsimp only; omega
      · split
        · dsimp only; omega
        · split
          · exact Nat.zero_le _
          · split
            · exact parse_le gb n m _ _ _ (by omega)
            · dsimp only; omega
    · dsimp only; omega
theorem sim_law (a1 a2 : Int32) {σ τ : St} (h : Rel σ τ) : w_X10_law a1 a2 σ (fun r σ' => w_X11_law a1 a2 τ (fun r' τ' => r = r' ∧ Rel σ' τ')) := by
  have hR := h
  obtain ⟨tl, np, nf, ns, no, h⟩ := h
  obtain ⟨t0, t1, t2, t3⟩ := h.1
  obtain ⟨l0, l1, l2, l3, l4⟩ := h.2.1
  have mno : ¬ (inR a1 0 6 ∧ ¬ a2 < 0 ∧ a2 ≤ nI tl) → w_X11_law a1 a2 τ (fun r' τ' => -1 = r' ∧ Rel σ τ') := by
    intro hn
    unfold w_X11_law
    refine lies_w (fun g1 => b1 ⟨fun _ => ⟨rfl, hR⟩, fun g2 => ⟨fun g3 => absurd ⟨g1, g2, by rw [t2] at g3; exact g3⟩ hn, fun _ => ⟨rfl, hR⟩⟩⟩) (fun _ => b0 ⟨rfl, hR⟩)
  unfold w_X10_law
  refine isDay_w (fun g1 => b1 ⟨fun z => mno (fun y => y.2.1 z), fun g2 => ?_⟩) (fun n => b0 (mno (fun y => n y.1)))
  unfold w_X8_length
  refine ⟨fun g3 => ?_, fun z => mno (fun y => z (by rw [t1]; exact y.2.2))⟩
  rw [t1] at g3
  obtain ⟨n, hn, rfl⟩ := nI_of g2
  have hntl : n ≤ tl := (nI_leI (by omega) (by omega)).mp g3
  obtain ⟨day, hday, rfl⟩ := inR_N (n := 6) g1 (by omega)
  have hgb : ∃ gb : Nat → Nat, ∀ j, σ.1 11 j = nI (gb j) ∧ gb j < 256 := by
    refine ⟨fun j => Classical.choose (and255 (τ.1 1 j)), fun j => ?_⟩
    have := Classical.choose_spec (and255 (τ.1 1 j))
    exact ⟨(t3 j).trans this.2, this.1⟩
  obtain ⟨gb, hgb⟩ := hgb
  unfold w_X2_read
  rintro _ rfl _ rfl _ rfl
  refine ⟨n + 1, readC (tl := tl) (gb := gb) (n + 1) 0 0 _ ⟨t1, hntl, by omega, hgb⟩ (by omega) (by omega) (by omega) rfl (fun σ1 k1 k2 k3 => ?_)⟩
  have k2' : σ1.1 2 4 = (parse gb n (n + 1) 0 (-1) (-1)).2.1 := k2
  have k3' : σ1.1 2 5 = (parse gb n (n + 1) 0 (-1) (-1)).2.2 := k3
  have k1' : ∀ k, k ≠ 2 → σ1.1 k = σ.1 k := fun k hk => by
    rw [k1 k hk]
    show (if k = 2 then _ else if k = 2 then _ else if k = 2 then _ else σ.1 k) = _
    rw [if_neg hk, if_neg hk, if_neg hk]
  show w_X8_wipe σ1 (fun σ_9 => (¬ nI (parse gb n (n + 1) 0 (-1) (-1)).1 = 0 → (w_X11_law (nI day) (nI n) τ (fun r' τ' => nI (parse gb n (n + 1) 0 (-1) (-1)).1 = r' ∧ Rel σ_9 τ'))) ∧ (nI (parse gb n (n + 1) 0 (-1) (-1)).1 = 0 → (w_X2_enact (nI day) σ_9 (fun σ_11 => w_X11_law (nI day) (nI n) τ (fun r' τ' => nI (parse gb n (n + 1) 0 (-1) (-1)).1 = r' ∧ Rel σ_11 τ')))))
  unfold w_X8_wipe
  rintro _ rfl
  have hpb := parse_le gb n (n + 1) 0 (-1) (-1) (by omega)
  generalize hpr : parse gb n (n + 1) 0 (-1) (-1) = pr at k2' k3' hpb ⊢
  obtain ⟨cd, rd, rr⟩ := pr
  dsimp only at k2' k3' hpb ⊢
  -- both tapes are empty now
  have hE : RelX True 0 np nf ns no (wr σ 1 1 0) (wr τ 0 1 0) := h.tape (fun k x y => if_neg x) (fun k x y => if_neg x) (fun j x => upd_ne x) ⟨Or.inl rfl, rfl, rfl, t3⟩
  have hSC : SC (wr σ 1 1 0) (wr σ1 1 1 0) := by
    intro k e1 e2 e3 e4
    show (if k = 1 then upd (σ1.1 k) 1 0 else σ1.1 k) = if k = 1 then upd (σ.1 k) 1 0 else σ.1 k
    rw [k1' k e1]
  have mod : ∀ Q : Int32 → St → Prop, (∀ τ', SM (wr τ 0 1 0) τ' → τ'.1 0 6 = rd → τ'.1 0 7 = rr → (nI cd ≤ 0 → vp_in (nI day) 7 ∧ ∀ σ_9 : St, σ_9 = wr τ' 2 (nI day).toNatClampNeg (1 &&& 1) → (vp_in (nI day) 7 ∧ (∀ σ_10 : St, σ_10 = wr σ_9 3 (nI day).toNatClampNeg (σ_9.1 0 6) → (vp_in (nI day) 7 ∧ (∀ σ_11 : St, σ_11 = wr σ_10 4 (nI day).toNatClampNeg (σ_10.1 0 7) → (Q 0 σ_11)))))) ∧ (¬ nI cd ≤ 0 → Q (nI cd) τ')) → w_X11_law (nI day) (nI n) τ Q := by
    intro Q q
    unfold w_X11_law
    refine lies_t (inR_ix (n := 6) (by omega) (by omega)) (b1 (bf g2 (bt (by rw [t2]; exact g3) ?_)))
    rintro _ rfl
    unfold w_X11_reads
    rintro _ rfl _ rfl
    refine ⟨n + 1, readM (gb := gb) (n + 1) 0 0 _ ⟨by omega, fun j => ⟨(t3 j).symm.trans (hgb j).1, (hgb j).2⟩⟩ (by omega) (by omega) (by omega) (fun τ' j1 j2 j3 => ?_)⟩
    have j2' : τ'.1 0 6 = (parse gb n (n + 1) 0 (-1) (-1)).2.1 := j2
    have j3' : τ'.1 0 7 = (parse gb n (n + 1) 0 (-1) (-1)).2.2 := j3
    have j4 : SM (wr τ 0 1 0) τ' := by
      refine ⟨fun k e1 e2 => ?_, fun j e1 e2 e3 e4 => ?_⟩
      · rw [j1.1 k (by omega)]
        show (if k = 0 then _ else if k = 0 then _ else (wr τ 0 1 0).1 k) = _
        rw [if_neg (by omega), if_neg (by omega)]
      · rw [j1.2 j e1 e2]
        show upd (upd ((wr τ 0 1 0).1 0) 6 (-1)) 7 (-1) j = _
        rw [upd_ne e2, upd_ne e1]
    show (nI (parse gb n (n + 1) 0 (-1) (-1)).1 ≤ 0 → _) ∧ (¬ nI (parse gb n (n + 1) 0 (-1) (-1)).1 ≤ 0 → Q (nI (parse gb n (n + 1) 0 (-1) (-1)).1) τ')
    rw [hpr] at j2' j3' ⊢
    exact q τ' j4 j2' j3'
  have ecd : nI cd = 0 ↔ cd = 0 := nI_eq (b := 0) (by omega) (by omega)
  have eld : nI cd ≤ 0 ↔ cd ≤ 0 := nI_leI (b := 0) (by omega) (by omega)
  refine ⟨fun z => ?_, fun z => ?_⟩
  · have z' : ¬ cd ≤ 0 := fun y => z (ecd.mpr (by omega))
    refine mod _ (fun τ' y1 y2 y3 => bf (fun y => z' (eld.mp y)) ⟨rfl, 0, np, nf, ns, no, hE.scratch hSC y1⟩)
  · have z' : cd = 0 := ecd.mp z
    refine enactC (by omega) (fun σ2 e0 e1 e2 e3 e4 => ?_)
    refine mod _ (fun τ' y1 y2 y3 => bt (eld.mpr (by omega)) ?_)
    have hv : vp_in (nI day) 7 := vp_in_nI (by omega) (by omega)
    refine ⟨hv, ?_⟩
    rintro _ rfl
    refine ⟨hv, ?_⟩
    rintro _ rfl
    refine ⟨hv, ?_⟩
    rintro _ rfl
    rw [n_clamp (by omega)]
    have h1 := hE.scratch hSC y1
    obtain ⟨v0, v1, v2, v3, v4⟩ := h1.2.1
    have a4 : (wr σ1 1 1 0).1 2 4 = rd := k2'
    have a5 : (wr σ1 1 1 0).1 2 5 = rr := k3'
    rw [a4] at e1 e3
    rw [a5] at e2 e4
    refine ⟨z, 0, np, nf, ns, no, h1.law e0 (fun k x1 x2 x3 => ?_) ⟨?_, ?_, ?_, ?_, ?_⟩⟩
    · show (if k = 4 then _ else if k = 3 then _ else if k = 2 then _ else τ'.1 k) = _
      rw [if_neg x3, if_neg x2, if_neg x1]
    · rw [e1, v0]
      show _ = upd (τ'.1 3) day (τ'.1 0 6)
      rw [y2]
    · rw [e2, v1]
      show _ = upd (τ'.1 4) day (τ'.1 0 7)
      rw [y3]
    · intro d hd hz
      have hz' : upd (τ'.1 2) day (1 &&& 1) d = 0 := hz
      show upd (τ'.1 3) day (τ'.1 0 6) d = -1 ∧ upd (τ'.1 4) day (τ'.1 0 7) d = -1
      by_cases e : d = day
      · subst e
        rw [upd_eq] at hz'
        exact absurd hz' (by decide)
      · rw [upd_ne e] at hz'
        rw [upd_ne e, upd_ne e]
        exact v2 d hd hz'
    · intro d hd
      rw [e3 d hd, v0]
      show _ = lawN 840 (upd (τ'.1 3) day (τ'.1 0 6)) (d + 1)
      rw [y2]
    · intro d hd
      rw [e4 d hd, v1]
      show _ = lawN 600 (upd (τ'.1 4) day (τ'.1 0 7)) (d + 1)
      rw [y3]
