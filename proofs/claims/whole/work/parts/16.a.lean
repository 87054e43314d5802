/-! ===== whether a chain fits ===== -/
def stormB (ns : Nat) (τ : St) (fl m : Int32) : Bool := (List.range ns).any (fun k => decide (τ.1 16 k = fl ∧ ¬ m < τ.1 17 k ∧ ¬ τ.1 18 k ≤ m))
def dayN (d : Int32) : Nat := d.toInt.toNat / 1440
def dutyL (τ : St) (d : Int32) : Int32 := lawN 840 (τ.1 3) (dayN d + 1)
def restL (τ : St) (d : Int32) : Int32 := lawN 600 (τ.1 4) (dayN d + 1)
/-- when the duty began that a move belongs to -/
def nxD (τ : St) (s : Int32 × Int32) (r : Rec) : Int32 := if s.1 = -1 then r.2.2.2.1 else if r.2.2.2.1 - s.2 < restL τ s.1 then s.1 else r.2.2.2.1
def nxt (τ : St) (s : Int32 × Int32) (r : Rec) : Int32 × Int32 := (nxD τ s r, r.2.2.2.2.1)
def okM (ns : Nat) (τ : St) (p : Nat) (s : Int32 × Int32) (r : Rec) : Prop :=
  wayT (τ.1 5) r.2.1 r.2.2.1 ≠ 0 ∧ ¬ r.2.2.2.1 < 0 ∧ r.2.2.2.2.1 < 10080 ∧ (r.1 = -1 ∨ τ.1 13 r.1.toNatClampNeg ≤ τ.1 7 p) ∧ (s.1 = -1 ∨ s.2 + τ.1 8 p ≤ r.2.2.2.1) ∧ stormB ns τ r.2.1 r.2.2.2.1 = false ∧ stormB ns τ r.2.2.1 r.2.2.2.2.1 = false ∧ r.2.2.2.2.1 - nxD τ s r ≤ dutyL τ (nxD τ s r)
def fitL (ns : Nat) (τ : St) (p : Nat) : Int32 × Int32 → List Rec → Prop
  | _, [] => True
  | s, r :: L => okM ns τ p s r ∧ fitL ns τ p (nxt τ s r) L
def finL (τ : St) : Int32 × Int32 → List Rec → Int32 × Int32
  | s, [] => s
  | s, r :: L => finL τ (nxt τ s r) L
theorem fitL_app {ns : Nat} {τ : St} {p : Nat} : ∀ (A B : List Rec) (s : Int32 × Int32), fitL ns τ p s (A ++ B) ↔ fitL ns τ p s A ∧ fitL ns τ p (finL τ s A) B
  | [], B, s => by simp [fitL, finL]
  | r :: A, B, s => by
    show okM ns τ p s r ∧ fitL ns τ p (nxt τ s r) (A ++ B) ↔ (okM ns τ p s r ∧ fitL ns τ p (nxt τ s r) A) ∧ fitL ns τ p (finL τ (nxt τ s r) A) B
    rw [fitL_app A B, and_assoc]
theorem finL_app {τ : St} : ∀ (A B : List Rec) (s : Int32 × Int32), finL τ s (A ++ B) = finL τ (finL τ s A) B
  | [], B, s => rfl
  | r :: A, B, s => by
    show finL τ (nxt τ s r) (A ++ B) = finL τ (finL τ (nxt τ s r) A) B
    exact finL_app A B _
theorem day_t {d : Int32} (h : inR d 0 10079) : dayN d < 7 ∧ d / 1440 = nI (dayN d) := by
  obtain ⟨j, hj, rfl⟩ := inR_N (n := 10079) h (by omega)
  have e : (nI j).toInt.toNat = j := by rw [nI_toInt (by omega)]; omega
  unfold dayN
  rw [e]
  refine ⟨by omega, ?_⟩
  rw [i_eq, lg_idiv_nonneg (by rw [nI_toInt (by omega)]; omega) (by decide), nI_toInt (by omega), nI_toInt (by omega)]
  rw [show (1440 : Int32).toInt = 1440 from rfl]
  omega
/-- a move that is well told -/
def goodR (nf : Nat) (r : Rec) : Prop := inR r.2.1 0 7 ∧ inR r.2.2.1 0 7 ∧ (r.1 = -1 ∨ ∃ f, f < nf ∧ r.1 = nI f) ∧ r.2.2.2.1.toInt ≤ r.2.2.2.2.1.toInt
section FIT
variable {G : Prop} {tl np nf ns no : Nat} {σ τ : St}
theorem shuts_t (h : RelX G tl np nf ns no σ τ) {fl m : Int32} {Q : Int32 → St → Prop} (q1 : stormB ns τ fl m = true → Q 1 σ) (q0 : stormB ns τ fl m = false → Q 0 σ) : w_X7_shuts fl m σ Q := by
  obtain ⟨s0, s1, s2, s3, s4, s5, s6⟩ := h.2.2.2.2.2.2.1
  unfold w_X7_shuts
  have loop : ∀ k i, i + k = ns → (∀ j, j < i → ¬ (τ.1 16 j = fl ∧ ¬ m < τ.1 17 j ∧ ¬ τ.1 18 j ≤ m)) → w_X7_shuts_2 Q (k + 1) fl m (nI i) σ := by
    intro k
    induction k with
    | zero =>
      intro i hi hno
      obtain rfl : i = ns := by omega
      refine bt (by rw [s1, nI_leI (by omega) (by omega)]; omega) (q0 ?_)
      unfold stormB
      rw [List.any_eq_false]
      intro j hj
      have := hno j (List.mem_range.mp hj)
      simpa using this
    | succ k ih =>
      intro i hi hno
      have hv : vp_in (nI i) 20 := vp_in_nI (by omega) (by omega)
      have nx : ¬ (τ.1 16 i = fl ∧ ¬ m < τ.1 17 i ∧ ¬ τ.1 18 i ≤ m) → w_X7_shuts_2 Q (k + 1) fl m (nI i + 1) σ := by
        intro z
        rw [nI_1]
        refine ih (i + 1) (by omega) (fun j hj => ?_)
        by_cases e : j = i
        · subst e; exact z
        · exact hno j (by omega)
      refine bf (by rw [s1, nI_leI (by omega) (by omega)]; omega) ⟨hv, ?_⟩
      rw [n_clamp (by omega), s3, s4, s5]
      refine ⟨fun z => nx (fun y => z y.1), fun z => ⟨hv, fun z2 => nx (fun y => y.2.1 z2), fun z2 => ⟨hv, fun z3 => nx (fun y => y.2.2 z3), fun z3 => q1 ?_⟩⟩⟩
      unfold stormB
      rw [List.any_eq_true]
      exact ⟨i, List.mem_range.mpr (by omega), decide_eq_true ⟨z, z2, z3⟩⟩
  exact ⟨ns + 1, loop ns 0 (by omega) (fun j hj => absurd hj (Nat.not_lt_zero j))⟩
theorem isStorm_t (h : RelX G tl np nf ns no σ τ) {τ' : St} (hS : SM τ τ') {fl m : Int32} {Q : Int32 → St → Prop} (q1 : stormB ns τ fl m = true → Q 1 τ') (q0 : stormB ns τ fl m = false → Q 0 τ') : w_X11_isStorm fl m τ' Q := by
  obtain ⟨s0, s1, s2, s3, s4, s5, s6⟩ := h.2.2.2.2.2.2.1
  unfold w_X11_isStorm
  have c21 : τ'.1 0 21 = nI ns := by rw [hS.2 21 (by omega) (by omega) (by omega) (by omega)]; exact s2
  have loop : ∀ k i, i + k = ns → (∀ j, j < i → ¬ (τ.1 16 j = fl ∧ ¬ m < τ.1 17 j ∧ ¬ τ.1 18 j ≤ m)) → w_X11_isStorm_2 Q (k + 1) fl m (nI i) τ' := by
    intro k
    induction k with
    | zero =>
      intro i hi hno
      obtain rfl : i = ns := by omega
      refine bt (by rw [c21, nI_leI (by omega) (by omega)]; omega) (q0 ?_)
      unfold stormB
      rw [List.any_eq_false]
      intro j hj
      have := hno j (List.mem_range.mp hj)
      simpa using this
    | succ k ih =>
      intro i hi hno
      have hv : vp_in (nI i) 20 := vp_in_nI (by omega) (by omega)
      have nx : ¬ (τ.1 16 i = fl ∧ ¬ m < τ.1 17 i ∧ ¬ τ.1 18 i ≤ m) → w_X11_isStorm_2 Q (k + 1) fl m (nI i + 1) τ' := by
        intro z
        rw [nI_1]
        refine ih (i + 1) (by omega) (fun j hj => ?_)
        by_cases e : j = i
        · subst e; exact z
        · exact hno j (by omega)
      refine bf (by rw [c21, nI_leI (by omega) (by omega)]; omega) ⟨hv, ?_⟩
      rw [n_clamp (by omega), hS.1 16 (by omega) (by omega), hS.1 17 (by omega) (by omega), hS.1 18 (by omega) (by omega)]
      obtain ⟨t1, t2⟩ := s6 i (by omega)
      have em : (τ.1 18 i - 1).toInt = (τ.1 18 i).toInt - 1 := by
        obtain ⟨j, hj, ej⟩ := inR_N (x := τ.1 18 i) (n := 10080) ⟨by have := t2.1; omega, t2.2⟩ (by omega)
        have j1 : 1 ≤ j := by
          have := t2.1
          rw [ej, nI_toInt (by omega)] at this
          omega
        rw [ej, show (1 : Int32) = nI 1 from rfl, pk_sub_toInt (by omega) (by omega), nI_toInt (by omega)]
        omega
      refine ⟨fun z => nx (fun y => z y.1), fun z => ⟨hv, hv, lies_w (fun y => bf n10 (q1 ?_)) (fun y => bt rfl (nx (fun w => y ⟨?_, ?_⟩)))⟩⟩
      · unfold stormB
        rw [List.any_eq_true]
        refine ⟨i, List.mem_range.mpr (by omega), decide_eq_true ⟨z, ?_, ?_⟩⟩
        · rw [i_lt]; have := y.1; omega
        · rw [i_le]; have := y.2; rw [em] at this; omega
      · have := w.2.1; rw [i_lt] at this; omega
      · have := w.2.2; rw [i_le] at this; rw [em]; omega
  exact ⟨ns + 1, loop ns 0 (by omega) (fun j hj => absurd hj (Nat.not_lt_zero j))⟩
/-- cell 8 alone may differ, but not the plane's seats and turn -/
def SC8 (σ σ' : St) : Prop := (∀ k, k ≠ 8 → σ'.1 k = σ.1 k) ∧ σ'.2 = σ.2 ∧ σ'.1 8 5 = σ.1 8 5 ∧ σ'.1 8 6 = σ.1 8 6
theorem SC8.rf (σ : St) : SC8 σ σ := ⟨fun _ _ => rfl, rfl, rfl, rfl⟩
theorem SC8.tr {a b c : St} (h1 : SC8 a b) (h2 : SC8 b c) : SC8 a c := ⟨fun k e => (h2.1 k e).trans (h1.1 k e), h2.2.1.trans h1.2.1, h2.2.2.1.trans h1.2.2.1, h2.2.2.2.trans h1.2.2.2⟩
theorem SC8.sc {a b : St} (h : SC8 a b) : SC a b := fun k _ h2 _ _ => h.1 k h2
theorem SC8.w {a : St} {j : Nat} {v : Int32} (h5 : j ≠ 5) (h6 : j ≠ 6) : SC8 a (wr a 8 j v) := ⟨fun k e => if_neg e, rfl, upd_ne (by omega), upd_ne (by omega)⟩
theorem RelX.c8 (h : RelX G tl np nf ns no σ τ) {σ' : St} (h8 : SC8 σ σ') : RelX G tl np nf ns no σ' τ := h.scratch h8.sc (SM.rf τ)
theorem dutyC (h : RelX G tl np nf ns no σ τ) {d : Int32} (hd : inR d 0 10079) {Q : Int32 → St → Prop} (q : Q (dutyL τ d) σ) : w_X2_dutyOn (d / 1440) σ Q := by
  obtain ⟨e1, e2⟩ := day_t hd
  rw [e2]
  refine dutyOnC e1 ?_
  rw [h.2.1.2.2.2.1 _ e1]
  exact q
theorem restC (h : RelX G tl np nf ns no σ τ) {d : Int32} (hd : inR d 0 10079) {Q : Int32 → St → Prop} (q : Q (restL τ d) σ) : w_X2_restOn (d / 1440) σ Q := by
  obtain ⟨e1, e2⟩ := day_t hd
  rw [e2]
  refine restOnC e1 ?_
  rw [h.2.1.2.2.2.2 _ e1]
  exact q
theorem dutyM (h : RelX G tl np nf ns no σ τ) {τ' : St} (hS : SM τ τ') {d : Int32} (hd : inR d 0 10079) {Q : Int32 → St → Prop} (q : Q (dutyL τ d) τ') : w_X11_dutyOn (d / 1440) τ' Q := by
  obtain ⟨e1, e2⟩ := day_t hd
  rw [e2]
  refine dutyOnM e1 (fun k hk z => ?_) ?_
  · rw [hS.1 3 (by omega) (by omega)]
    rw [hS.1 2 (by omega) (by omega)] at z
    exact (h.2.1.2.2.1 k hk z).1
  · rw [hS.1 3 (by omega) (by omega)]
    exact q
theorem restM (h : RelX G tl np nf ns no σ τ) {τ' : St} (hS : SM τ τ') {d : Int32} (hd : inR d 0 10079) {Q : Int32 → St → Prop} (q : Q (restL τ d) τ') : w_X11_restOn (d / 1440) τ' Q := by
  obtain ⟨e1, e2⟩ := day_t hd
  rw [e2]
  refine restOnM e1 (fun k hk z => ?_) ?_
  · rw [hS.1 4 (by omega) (by omega)]
    rw [hS.1 2 (by omega) (by omega)] at z
    exact (h.2.1.2.2.1 k hk z).2
  · rw [hS.1 4 (by omega) (by omega)]
    exact q
/-- what a move must keep, but for its way and its seats -/
def goM (ns : Nat) (τ : St) (p : Nat) (s : Int32 × Int32) (r : Rec) : Prop :=
  ¬ r.2.2.2.1 < 0 ∧ r.2.2.2.2.1 < 10080 ∧ (s.1 = -1 ∨ s.2 + τ.1 8 p ≤ r.2.2.2.1) ∧ stormB ns τ r.2.1 r.2.2.2.1 = false ∧ stormB ns τ r.2.2.1 r.2.2.2.2.1 = false ∧ r.2.2.2.2.1 - nxD τ s r ≤ dutyL τ (nxD τ s r)
theorem i_nlt {x y : Int32} : ¬ x < y ↔ y ≤ x := by rw [i_lt, i_le]; omega
theorem i_nle {x y : Int32} : ¬ x ≤ y ↔ y < x := by rw [i_lt, i_le]; omega
theorem goes_t (h : RelX G tl np nf ns no σ τ) {p : Nat} {r : Rec} {s : Int32 × Int32} (hr : r.2.2.2.1.toInt ≤ r.2.2.2.2.1.toInt) (h6 : σ.1 8 6 = τ.1 8 p) (h7 : σ.1 8 7 = r.2.1) (h8 : σ.1 8 8 = s.2) (h9 : σ.1 8 9 = s.1) (hd : s.1 = -1 ∨ inR s.1 0 10079) {Q : Int32 → St → Prop}
    (q1 : goM ns τ p s r → inR (nxD τ s r) 0 10079 → ∀ σ', SC8 σ σ' → σ'.1 8 7 = r.2.2.1 → σ'.1 8 8 = r.2.2.2.2.1 → σ'.1 8 9 = nxD τ s r → Q 1 σ') (q0 : ¬ goM ns τ p s r → ∀ σ', SC8 σ σ' → Q 0 σ') : w_X0_goes r.2.2.1 r.2.2.2.1 r.2.2.2.2.1 σ Q := by
  obtain ⟨fl, a, b, bg, en, ah⟩ := r
  obtain ⟨d, e⟩ := s
  dsimp only at *
  have z80 : (10080 : Int32).toInt = 10080 := rfl
  have z0 : (0 : Int32).toInt = 0 := rfl
  have J114 : ∀ (σ1 : St), SC8 σ σ1 → inR (nxD τ (d, e) (fl, a, b, bg, en, ah)) 0 10079 → σ1.1 8 9 = nxD τ (d, e) (fl, a, b, bg, en, ah) → (¬ bg < 0 ∧ en < 10080 ∧ (d = -1 ∨ e + τ.1 8 p ≤ bg) ∧ stormB ns τ a bg = false ∧ stormB ns τ b en = false) → w_X0_goes_114 Q b en σ1 := by
    intro σ1 s1 hin e9 hc
    unfold w_X0_goes_114
    rintro _ rfl _ rfl
    have s3 : SC8 σ (wr (wr σ1 8 7 b) 8 8 en) := (s1.tr (SC8.w (by omega) (by omega))).tr (SC8.w (by omega) (by omega))
    have e9' : (wr (wr σ1 8 7 b) 8 8 en).1 8 9 = nxD τ (d, e) (fl, a, b, bg, en, ah) := e9
    rw [e9']
    refine dutyC (h.c8 s3) hin ⟨fun y => q0 (fun g => ?_) _ s3, fun y => q1 ⟨hc.1, hc.2.1, hc.2.2.1, hc.2.2.2.1, hc.2.2.2.2, i_nlt.mp y⟩ hin _ s3 rfl rfl e9'⟩
    exact absurd y (i_nlt.mpr g.2.2.2.2.2)
  have J109 : nxD τ (d, e) (fl, a, b, bg, en, ah) = bg → (¬ bg < 0 ∧ en < 10080 ∧ (d = -1 ∨ e + τ.1 8 p ≤ bg) ∧ stormB ns τ a bg = false ∧ stormB ns τ b en = false) → w_X0_goes_109 Q b bg en σ := by
    intro hn hc
    unfold w_X0_goes_109
    rintro _ rfl
    refine J114 _ (SC8.w (by omega) (by omega)) ?_ (by rw [hn]; rfl) hc
    rw [hn]
    have h1 := hc.1
    have h2 := hc.2.1
    rw [i_lt, z0] at h1
    rw [i_lt, z80] at h2
    exact ⟨by omega, by omega⟩
  have J51 : ∀ x4 : Int32, ((¬ x4 = 0 ∧ d = -1) ∨ (x4 = 0 ∧ ¬ d = -1)) → (¬ bg < 0 ∧ en < 10080 ∧ (d = -1 ∨ e + τ.1 8 p ≤ bg)) → w_X0_goes_51 Q b bg en x4 σ := by
    intro x4 hx hc
    unfold w_X0_goes_51
    rw [h7]
    refine shuts_t h (fun y => ct n10 (q0 (fun g => ?_) _ (SC8.rf σ))) (fun y => cf rfl (shuts_t h (fun y2 => bf n10 (q0 (fun g => ?_) _ (SC8.rf σ))) (fun y2 => bt rfl ?_)))
    · have := g.2.2.2.1; dsimp only at this; rw [y] at this; cases this
    · have := g.2.2.2.2.1; dsimp only at this; rw [y2] at this; cases this
    · rcases hx with ⟨x1, x2⟩ | ⟨x1, x2⟩
      · exact ct x1 (J109 (if_pos x2) ⟨hc.1, hc.2.1, hc.2.2, y, y2⟩)
      · have hdi : inR d 0 10079 := hd.elim (fun z => absurd z x2) id
        rw [h8, h9]
        refine cf x1 (restC h hdi ⟨fun y3 => ?_, fun y3 => J109 ?_ ⟨hc.1, hc.2.1, hc.2.2, y, y2⟩⟩)
        · have en1 : nxD τ (d, e) (fl, a, b, bg, en, ah) = d := by
            unfold nxD
            rw [if_neg x2, if_pos y3]
          exact J114 σ (SC8.rf σ) (by rw [en1]; exact hdi) (by rw [en1]; exact h9) ⟨hc.1, hc.2.1, hc.2.2, y, y2⟩
        · unfold nxD
          rw [if_neg x2, if_neg y3]
  have J13 : ∀ x4 : Int32, ((¬ x4 = 0 ∧ d = -1) ∨ (x4 = 0 ∧ ¬ d = -1)) → w_X0_goes_13 Q b bg en x4 σ := by
    intro x4 hx
    unfold w_X0_goes_13
    refine isMinute_w (fun m1 => b1 (isMinute_w (fun m2 => c1 ?_) (fun m2 => c0 (q0 (fun g => m2 ?_) _ (SC8.rf σ))))) (fun m1 => b0 (q0 (fun g => m1 ?_) _ (SC8.rf σ)))
    · have c1' : ¬ bg < 0 := by rw [i_lt, z0]; have := m1.1; omega
      have c2' : en < 10080 := by rw [i_lt, z80]; have := m2.2; omega
      rw [h8, h6]
      rcases hx with ⟨x1, x2⟩ | ⟨x1, x2⟩
      · exact ct x1 (J51 x4 (Or.inl ⟨x1, x2⟩) ⟨c1', c2', Or.inl x2⟩)
      · exact cf x1 ⟨fun y => J51 x4 (Or.inr ⟨x1, x2⟩) ⟨c1', c2', Or.inr y⟩, fun y => q0 (fun g => g.2.2.1.elim x2 y) _ (SC8.rf σ)⟩
    · have g1 := g.1
      have g2 := g.2.1
      dsimp only at g1 g2
      rw [i_lt, z0] at g1
      rw [i_lt, z80] at g2
      exact ⟨by omega, by omega⟩
    · have g1 := g.1
      have g2 := g.2.1
      dsimp only at g1 g2
      rw [i_lt, z0] at g1
      rw [i_lt, z80] at g2
      exact ⟨by omega, by omega⟩
  unfold w_X0_goes
  rw [h9]
  exact ⟨fun z => J13 0 (Or.inr ⟨rfl, z⟩), fun z => J13 1 (Or.inl ⟨n10, z⟩)⟩
end FIT
