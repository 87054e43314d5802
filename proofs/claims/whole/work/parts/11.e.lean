/-! ===== rule, way ===== -/
theorem dutyOnM_loop {τ : St} {Q : Int32 → St → Prop} {day : Nat} (hd : day < 7) (hi : ∀ d, d < 7 → τ.1 2 d = 0 → τ.1 3 d = -1) (q : Q (lawN 840 (τ.1 3) (day + 1)) τ) : ∀ k i, i + k = day + 1 → w_X11_dutyOn_6 Q (k + 1) (nI day) (lawN 840 (τ.1 3) i) (nI i) τ := by
  intro k
  induction k with
  | zero =>
    intro i hik
    obtain rfl : i = day + 1 := by omega
    exact bt (nI_lt (by omega) (by omega)) q
  | succ k ih =>
    intro i hik
    have nx := ih (i + 1) (by omega)
    rw [← nI_1] at nx
    have hv : vp_in (nI i) 7 := vp_in_nI (by omega) (by omega)
    have ec := n_clamp (show i < 2 ^ 31 by omega)
    refine bf (nI_nlt (by omega) (by omega)) ⟨hv, ?_⟩
    rw [ec]
    have e : lawN 840 (τ.1 3) (i + 1) = if τ.1 3 i = -1 then lawN 840 (τ.1 3) i else τ.1 3 i := rfl
    refine ⟨fun z => ?_, fun _ => ⟨hv, fun z => ?_, fun z => ⟨hv, ?_⟩⟩⟩
    · rw [e, if_pos (hi i (by omega) z)] at nx; exact nx
    · rw [e, if_pos z] at nx; exact nx
    · rw [e, if_neg z] at nx; exact nx
theorem dutyOnM {τ : St} {Q : Int32 → St → Prop} {day : Nat} (hd : day < 7) (hi : ∀ d, d < 7 → τ.1 2 d = 0 → τ.1 3 d = -1) (q : Q (lawN 840 (τ.1 3) (day + 1)) τ) : w_X11_dutyOn (nI day) τ Q := ⟨day + 1 + 1, dutyOnM_loop hd hi q (day + 1) 0 (by omega)⟩
theorem dutyOnC {σ : St} {Q : Int32 → St → Prop} {day : Nat} (hd : day < 7) (q : Q (σ.1 14 day) σ) : w_X2_dutyOn (nI day) σ Q := by
  unfold w_X2_dutyOn
  refine bf (nI_pos (by omega)) (bf ?_ ⟨vp_in_nI (by omega) (by omega), ?_⟩)
  · rw [show (7 : Int32) = nI 7 from rfl, nI_leI (by omega) (by omega)]; omega
  · rw [n_clamp (by omega)]; exact q
theorem dutyOnC_f {σ : St} {Q : Int32 → St → Prop} {x : Int32} (hx : outR x 7) (q : Q (-1) σ) : w_X2_dutyOn x σ Q := by
  unfold w_X2_dutyOn
  exact ⟨fun _ => q, fun h => ⟨fun _ => q, fun h2 => absurd hx (fun z => z.elim h h2)⟩⟩
theorem restOnM_loop {τ : St} {Q : Int32 → St → Prop} {day : Nat} (hd : day < 7) (hi : ∀ d, d < 7 → τ.1 2 d = 0 → τ.1 4 d = -1) (q : Q (lawN 600 (τ.1 4) (day + 1)) τ) : ∀ k i, i + k = day + 1 → w_X11_restOn_6 Q (k + 1) (nI day) (lawN 600 (τ.1 4) i) (nI i) τ := by
  intro k
  induction k with
  | zero =>
    intro i hik
    obtain rfl : i = day + 1 := by omega
    exact bt (nI_lt (by omega) (by omega)) q
  | succ k ih =>
    intro i hik
    have nx := ih (i + 1) (by omega)
    rw [← nI_1] at nx
    have hv : vp_in (nI i) 7 := vp_in_nI (by omega) (by omega)
    have ec := n_clamp (show i < 2 ^ 31 by omega)
    refine bf (nI_nlt (by omega) (by omega)) ⟨hv, ?_⟩
    rw [ec]
    have e : lawN 600 (τ.1 4) (i + 1) = if τ.1 4 i = -1 then lawN 600 (τ.1 4) i else τ.1 4 i := rfl
    refine ⟨fun z => ?_, fun _ => ⟨hv, fun z => ?_, fun z => ⟨hv, ?_⟩⟩⟩
    · rw [e, if_pos (hi i (by omega) z)] at nx; exact nx
    · rw [e, if_pos z] at nx; exact nx
    · rw [e, if_neg z] at nx; exact nx
theorem restOnM {τ : St} {Q : Int32 → St → Prop} {day : Nat} (hd : day < 7) (hi : ∀ d, d < 7 → τ.1 2 d = 0 → τ.1 4 d = -1) (q : Q (lawN 600 (τ.1 4) (day + 1)) τ) : w_X11_restOn (nI day) τ Q := ⟨day + 1 + 1, restOnM_loop hd hi q (day + 1) 0 (by omega)⟩
theorem restOnC {σ : St} {Q : Int32 → St → Prop} {day : Nat} (hd : day < 7) (q : Q (σ.1 15 day) σ) : w_X2_restOn (nI day) σ Q := by
  unfold w_X2_restOn
  refine bf (nI_pos (by omega)) (bf ?_ ⟨vp_in_nI (by omega) (by omega), ?_⟩)
  · rw [show (7 : Int32) = nI 7 from rfl, nI_leI (by omega) (by omega)]; omega
  · rw [n_clamp (by omega)]; exact q
theorem restOnC_f {σ : St} {Q : Int32 → St → Prop} {x : Int32} (hx : outR x 7) (q : Q (-1) σ) : w_X2_restOn x σ Q := by
  unfold w_X2_restOn
  exact ⟨fun _ => q, fun h => ⟨fun _ => q, fun h2 => absurd hx (fun z => z.elim h h2)⟩⟩
theorem inR_out {x : Int32} {n : Nat} (hn : n + 1 < 2 ^ 31) (hx : outR x (n + 1)) : ¬ inR x 0 n := by
  intro h
  obtain ⟨j, hj, rfl⟩ := inR_N h (by omega)
  rcases hx with hx | hx
  · exact nI_pos (by omega) hx
  · rw [nI_leI (by omega) (by omega)] at hx; omega
theorem inR_ix {f n : Nat} (hn : n < 2 ^ 31) (hf : f ≤ n) : inR (nI f) 0 n := ⟨by rw [nI_toInt (by omega)]; omega, by rw [nI_toInt (by omega)]; omega⟩
theorem sim_rule (a1 a2 : Int32) {σ τ : St} (h : Rel σ τ) : w_X10_rule a1 a2 σ (fun r σ' => w_X11_rule a1 a2 τ (fun r' τ' => r = r' ∧ Rel σ' τ')) := by
  have hR := h
  obtain ⟨tl, np, nf, ns, no, hT, ⟨l0, l1, l2, l3, l4⟩, hW, hP, hF, hWF, hS, hR0, hO, hN⟩ := h
  unfold w_X10_rule w_X11_rule
  rcases ix_or a1 7 (by omega) with ⟨d, hd, rfl⟩ | hx
  · have hin : inR (nI d) 0 6 := inR_ix (n := 6) (by omega) (by omega)
    refine ⟨fun n0 => ⟨fun n1 => lies_t hin (c1 (ct n0 (ct n1 ⟨rfl, hR⟩))), fun n1 => restOnC hd (lies_t hin (c1 (ct n0 (cf n1 (restOnM hd (fun d hd z => (l2 d hd z).2) ⟨l4 d hd, hR⟩)))))⟩, fun n0 => dutyOnC hd (lies_t hin (c1 (cf n0 (dutyOnM hd (fun d hd z => (l2 d hd z).1) ⟨l3 d hd, hR⟩))))⟩
  · have q : w_X11_lies a1 0 6 (fun r_1 => (¬ r_1 = 0 → ((¬ a2 = 0 → ((¬ a2 = 1 → ((-1 : Int32) = (-1) ∧ Rel σ τ)) ∧ (a2 = 1 → (w_X11_restOn a1 τ (fun r_6 σ_5 => (-1) = r_6 ∧ Rel σ σ_5))))) ∧ (a2 = 0 → (w_X11_dutyOn a1 τ (fun r_8 σ_7 => (-1) = r_8 ∧ Rel σ σ_7))))) ∧ (r_1 = 0 → ((-1 : Int32) = (-1) ∧ Rel σ τ))) := lies_f (inR_out (n := 6) (by omega) hx) (c0 ⟨rfl, hR⟩)
    exact ⟨fun _ => ⟨fun _ => q, fun _ => restOnC_f hx q⟩, fun _ => dutyOnC_f hx q⟩
-- way
def goes2 (fr to mc : Nat → Int32) (a b : Int32) (f : Nat) : Prop := mc f = 0 ∧ ((fr f = a ∧ to f = b) ∨ (fr f = b ∧ to f = a))
theorem anyB_loop {σ : St} {Q : Int32 → St → Prop} {a b : Int32} {nf : Nat} (hs : σ.1 5 6 = nI nf) (hn : nf ≤ 20) : ∀ k i, i + k = nf → ((∃ f, i ≤ f ∧ f < nf ∧ goes2 (σ.1 21) (σ.1 22) (σ.1 25) a b f) → Q 1 σ) → ((∀ f, i ≤ f → f < nf → ¬ goes2 (σ.1 21) (σ.1 22) (σ.1 25) a b f) → Q 0 σ) → w_X1_anyBetween_2 Q (k + 1) a b (nI i) σ := by
  intro k
  induction k with
  | zero =>
    intro i hik h1 h0
    refine bt ?_ (h0 (fun f hf hf2 => by omega))
    rw [hs, nI_leI (by omega) (by omega)]; omega
  | succ k ih =>
    intro i hik h1 h0
    have hv : vp_in (nI i) 20 := vp_in_nI (by omega) (by omega)
    have ec := n_clamp (show i < 2 ^ 31 by omega)
    have nx : ¬ goes2 (σ.1 21) (σ.1 22) (σ.1 25) a b i → w_X1_anyBetween_2 Q (k + 1) a b (nI i + 1) σ := by
      intro hg
      rw [nI_1]
      refine ih (i + 1) (by omega) (fun ⟨f, hf, h2, h3⟩ => h1 ⟨f, by omega, h2, h3⟩) (fun hall => h0 (fun f hf h2 h3 => ?_))
      by_cases e : f = i
      · subst e; exact hg h3
      · exact hall f (by omega) h2 h3
    refine bf (by rw [hs, nI_leI (by omega) (by omega)]; omega) ⟨hv, ?_⟩
    have J62 : ∀ x4 s0 : Int32, (¬ x4 = 0 → ((σ.1 21 i = a ∧ σ.1 22 i = b) ∨ (σ.1 21 i = b ∧ σ.1 22 i = a))) → (x4 = 0 → ¬ s0 = 0 → ((σ.1 21 i = a ∧ σ.1 22 i = b) ∨ (σ.1 21 i = b ∧ σ.1 22 i = a))) → (x4 = 0 → s0 = 0 → ¬ ((σ.1 21 i = a ∧ σ.1 22 i = b) ∨ (σ.1 21 i = b ∧ σ.1 22 i = a))) → w_X1_anyBetween_62 Q (fun x1 x2 x3 σ => w_X1_anyBetween_2 Q (k + 1) x1 x2 x3 σ) a b (nI i) x4 s0 σ := by
      intro x4 s0 g1 g2 g3
      unfold w_X1_anyBetween_62
      rw [ec]
      refine ⟨hv, fun z => nx (fun g => z g.1), fun z => ⟨fun y => h1 ⟨i, by omega, by omega, z, g1 y⟩, fun y => ⟨fun y2 => nx (fun g => g3 y y2 g.2), fun y2 => h1 ⟨i, by omega, by omega, z, g2 y y2⟩⟩⟩⟩
    have J35 : ∀ x4 : Int32, (¬ x4 = 0 → σ.1 21 i = a ∧ σ.1 22 i = b) → (x4 = 0 → ¬ (σ.1 21 i = a ∧ σ.1 22 i = b)) → w_X1_anyBetween_35 Q (fun x1 x2 x3 σ => w_X1_anyBetween_2 Q (k + 1) x1 x2 x3 σ) a b (nI i) x4 σ := by
      intro x4 g1 g2
      unfold w_X1_anyBetween_35 w_X1_anyBetween_61
      rw [ec]
      refine ⟨hv, fun z => J62 x4 0 (fun y => Or.inl (g1 y)) (fun _ y => absurd rfl y) (fun y _ g => g.elim (g2 y) (fun g => z g.1)), fun z => ⟨hv, fun z2 => J62 x4 0 (fun y => Or.inl (g1 y)) (fun _ y => absurd rfl y) (fun y _ g => g.elim (g2 y) (fun g => z2 g.2)), fun z2 => J62 x4 1 (fun y => Or.inl (g1 y)) (fun _ _ => Or.inr ⟨z, z2⟩) (fun _ y => absurd y n10)⟩⟩
    unfold w_X1_anyBetween_34
    rw [ec]
    refine ⟨fun z => J35 0 (fun y => absurd rfl y) (fun _ g => z g.1), fun z => ⟨hv, fun z2 => J35 0 (fun y => absurd rfl y) (fun _ g => z2 g.2), fun z2 => J35 1 (fun _ => ⟨z, z2⟩) (fun y => absurd y n10)⟩⟩
theorem wayM_loop {τ : St} {Q : Int32 → St → Prop} {a b : Int32} {nf : Nat} (hs : τ.1 0 14 = nI nf) (hn : nf ≤ 20) : ∀ k i, i + k = nf → ((∃ f, i ≤ f ∧ f < nf ∧ goes2 (τ.1 10) (τ.1 11) (τ.1 14) a b f) → Q 0 τ) → ((∀ f, i ≤ f → f < nf → ¬ goes2 (τ.1 10) (τ.1 11) (τ.1 14) a b f) → w_X11_way_104 Q a b 0 τ) → w_X11_way_29 Q (k + 1) a b 0 (nI i) τ := by
  intro k
  induction k with
  | zero =>
    intro i hik h1 h0
    refine bt ?_ (h0 (fun f hf hf2 => by omega))
    rw [hs, nI_leI (by omega) (by omega)]; omega
  | succ k ih =>
    intro i hik h1 h0
    have hv : vp_in (nI i) 20 := vp_in_nI (by omega) (by omega)
    have ec := n_clamp (show i < 2 ^ 31 by omega)
    have nx : ¬ goes2 (τ.1 10) (τ.1 11) (τ.1 14) a b i → w_X11_way_29 Q (k + 1) a b 0 (nI i + 1) τ := by
      intro hg
      rw [nI_1]
      refine ih (i + 1) (by omega) (fun ⟨f, hf, h2, h3⟩ => h1 ⟨f, by omega, h2, h3⟩) (fun hall => h0 (fun f hf h2 h3 => ?_))
      by_cases e : f = i
      · subst e; exact hg h3
      · exact hall f (by omega) h2 h3
    refine bf (by rw [hs, nI_leI (by omega) (by omega)]; omega) (cf rfl ⟨hv, ?_⟩)
    rw [ec]
    have J : ¬ (τ.1 10 i = a ∧ τ.1 11 i = b) → τ.1 14 i = 0 → w_X11_way_74 Q (fun x1 x2 x3 x4 σ => w_X11_way_29 Q (k + 1) x1 x2 x3 x4 σ) a b 0 (nI i) τ := by
      intro g1 g0
      unfold w_X11_way_74
      rw [ec]
      exact ⟨hv, fun z => nx (fun g => g.2.elim g1 (fun g => z g.1)), fun z => ⟨hv, fun z2 => nx (fun g => g.2.elim g1 (fun g => z2 g.2)), fun z2 => h1 ⟨i, by omega, by omega, g0, Or.inr ⟨z, z2⟩⟩⟩⟩
    exact ⟨fun z => nx (fun g => z g.1), fun z => ⟨hv, fun z2 => J (fun g => z2 g.1) z, fun z2 => ⟨hv, fun z3 => h1 ⟨i, by omega, by omega, z, Or.inl ⟨z2, z3⟩⟩, fun z3 => J (fun g => z3 g.2) z⟩⟩⟩

