/-! ===== the class: where a plane is, its moves ===== -/
theorem tW_filter {P : Nat → Bool} {f : Nat} (hP : P f = true) : ∀ L : List Nat, (L.takeWhile (fun g => decide (g ≠ f))).filter P = (L.filter P).takeWhile (fun g => decide (g ≠ f))
  | [] => rfl
  | g :: L => by
    by_cases e : g = f
    · subst e
      rw [List.takeWhile_cons, if_neg (by simp), List.filter_cons, if_pos hP, List.takeWhile_cons, if_neg (by simp)]
      rfl
    · rw [List.takeWhile_cons, if_pos (by simpa using e), List.filter_cons, List.filter_cons]
      by_cases hg : P g = true
      · rw [if_pos hg, if_pos hg, List.takeWhile_cons, if_pos (by simpa using e), tW_filter hP L]
      · rw [if_neg hg, if_neg hg, tW_filter hP L]
theorem tW_split {f : Nat} : ∀ (A B : List Nat), f ∉ A → (A ++ f :: B).takeWhile (fun g => decide (g ≠ f)) = A
  | [], B, _ => by rw [List.nil_append, List.takeWhile_cons, if_neg (by simp)]
  | g :: A, B, h => by
    have hg : g ≠ f := fun e => h (by rw [e]; exact List.mem_cons_self)
    rw [List.cons_append, List.takeWhile_cons, if_pos (by simpa using hg), tW_split A B (fun z => h (List.mem_cons_of_mem _ z))]
theorem handL_nodup (st on : Nat → Int32) (nf : Nat) (p : Int32) : (handL st on nf p).Nodup := List.Pairwise.filter _ (ordL_nodup st nf)
theorem handL_mem {st on : Nat → Int32} {nf : Nat} {p : Int32} {f : Nat} : f ∈ handL st on nf p ↔ (f < nf ∧ on f = p) := by
  unfold handL
  rw [List.mem_filter, ordL_mem, decide_eq_true_eq]
theorem nodup_split {A B : List Nat} {f : Nat} (h : (A ++ f :: B).Nodup) : f ∉ A := by
  intro hm
  have := (List.nodup_append.mp h).2.2 f hm f List.mem_cons_self
  exact this rfl
theorem plA_split {home to on st : Nat → Int32} {nf : Nat} {A B : List Nat} {f : Nat} (h : handL st on nf (on f) = A ++ f :: B) : plAhead home to on (ordL st nf) f = endP to (home (on f).toNatClampNeg) A := by
  unfold plAhead
  rw [tW_filter (P := fun g => decide (on g = on f)) (by simp)]
  show endP to _ ((handL st on nf (on f)).takeWhile _) = _
  rw [h, tW_split A B]
  have := handL_nodup st on nf (on f)
  rw [h] at this
  exact nodup_split this
theorem endP_in {to : Nat → Int32} {nf : Nat} (ht : ∀ g, g < nf → inR (to g) 0 7) : ∀ (L : List Nat) (a : Int32), inR a 0 7 → (∀ g ∈ L, g < nf) → inR (endP to a L) 0 7
  | [], a, ha, _ => ha
  | g :: L, a, _, h => by
    rw [endP]
    exact endP_in ht L _ (ht g (h g List.mem_cons_self)) (fun x hx => h x (List.mem_cons_of_mem _ hx))
theorem endP_app (to : Nat → Int32) : ∀ (A B : List Nat) (a : Int32), endP to a (A ++ B) = endP to (endP to a A) B
  | [], B, a => rfl
  | g :: A, B, a => by rw [List.cons_append, endP, endP, endP_app to A B]
theorem inOrder_t {G : Prop} {tl np nf ns no i : Nat} {σ τ : St} {Q : Int32 → St → Prop} (h : RelX G tl np nf ns no σ τ) (hi : i < nf) (q : Q (nI ((ordL (τ.1 12) nf).getD i 0)) σ) : w_X1_inOrder (nI i) σ Q := by
  obtain ⟨-, -, -, -, ⟨f0, f1, -, -, -, -, -, -, -, -, -, f11, -⟩, -⟩ := h
  unfold w_X1_inOrder
  refine bf (nI_pos (by omega)) (bf ?_ ⟨vp_in_nI (by omega) (by omega), ?_⟩)
  · rw [f1, nI_leI (by omega) (by omega)]; omega
  · rw [n_clamp (by omega), f11 i hi]; exact q
theorem drop_step {L : List Nat} {i g : Nat} {R : List Nat} (h : L.drop i = g :: R) : L[i]? = some g ∧ L.getD i 0 = g ∧ L.drop (i + 1) = R ∧ L.take (i + 1) = L.take i ++ [g] := by
  have h1 : L[i]? = some g := by
    have := congrArg (fun l => l[0]?) h
    simpa using this
  refine ⟨h1, by rw [List.getD_eq_getElem?_getD, h1]; rfl, ?_, by rw [List.take_succ, h1]; rfl⟩
  have := congrArg (fun l => l.drop 1) h
  simpa using this
theorem plA_t {G : Prop} {tl np nf ns no f p : Nat} {σ τ : St} {Q : Int32 → St → Prop} (h : RelX G tl np nf ns no σ τ) (hf : f < nf) (hp : p < np) (ho : τ.1 15 f = nI p) (q : Q (plAhead (τ.1 6) (τ.1 11) (τ.1 15) (ordL (τ.1 12) nf) f) σ) : w_X6_placeAhead (nI f) σ Q := by
  have hR := h
  obtain ⟨-, -, -, ⟨p0, p1, -, p3, -⟩, ⟨f0, f1, -, -, f4, -⟩, -, -, ⟨r0, -⟩, -⟩ := h
  have hlen := ordL_len (τ.1 12) nf
  unfold plAhead at q
  rw [ho, n_clamp (by omega)] at q
  unfold w_X6_placeAhead
  refine X6_planeOf_t f1 hf f0 ?_
  rw [r0 f hf, ho]
  refine X4_homeOf_t p1 hp p0 ?_
  rw [p3]
  refine ⟨nf + 1, ?_⟩
  have loop : ∀ (L : List Nat) (i : Nat) (a : Int32), i + L.length = nf → (ordL (τ.1 12) nf).drop i = L → Q (endP (τ.1 11) a ((L.takeWhile (fun g => decide (g ≠ f))).filter (fun g => decide (τ.1 15 g = nI p)))) σ → w_X6_placeAhead_18 Q (L.length + 1) (nI f) (nI p) a (nI i) σ := by
    intro L
    induction L with
    | nil =>
      intro i a hi hd q
      unfold w_X6_placeAhead_18 w_X1_size
      refine bt (by rw [f1]; exact nI_le (by simp at hi; omega) (by simp at hi; omega)) ?_
      exact ct (m1ne p (by omega)) q
    | cons g L ih =>
      intro i a hi hd q
      rw [List.length_cons] at hi
      obtain ⟨d1, d2, d3, -⟩ := drop_step hd
      have hg : g < nf := (ordL_mem (τ.1 12) g nf).mp (List.mem_of_getElem? d1)
      unfold w_X6_placeAhead_18 w_X1_size
      refine bf (by rw [f1, nI_leI (by omega) (by omega)]; omega) (inOrder_t hR (by omega) ?_)
      rw [d2]
      have egf : nI g = nI f ↔ g = f := nI_eq (by omega) (by omega)
      rw [List.takeWhile_cons] at q
      refine ⟨fun z => ?_, fun z => ?_⟩
      · have z' : g ≠ f := fun e => z (egf.mpr e)
        rw [if_pos (by simpa using z'), List.filter_cons] at q
        refine X6_planeOf_t f1 hg f0 ?_
        rw [r0 g hg, nI_1]
        refine ⟨fun y => ?_, fun y => X1_toOf_t f1 hg f0 ?_⟩
        · rw [if_neg (by simpa using y)] at q
          exact ih (i + 1) a (by omega) d3 q
        · rw [if_pos (by simpa using y), endP] at q
          rw [f4]
          exact ih (i + 1) _ (by omega) d3 q
      · rw [if_neg (by simpa using egf.mp z)] at q
        exact ct (m1ne p (by omega)) q
  have := loop (ordL (τ.1 12) nf) 0 (τ.1 6 p) (by omega) rfl q
  rw [hlen] at this
  exact this
def plT (nf : Nat) (τ : St) (f : Nat) : Int32 := plAhead (τ.1 6) (τ.1 11) (τ.1 15) (ordL (τ.1 12) nf) f
def hasLg (nf : Nat) (τ : St) (f : Nat) : Prop := τ.1 15 f ≠ -1 ∧ plT nf τ f ≠ τ.1 10 f
theorem hasLeg_t {G : Prop} {tl np nf ns no f : Nat} {σ τ : St} {Q : Int32 → St → Prop} (h : RelX G tl np nf ns no σ τ) (hf : f < nf) (q1 : hasLg nf τ f → Q 1 σ) (q0 : ¬ hasLg nf τ f → Q 0 σ) : w_X6_hasLeg (nI f) σ Q := by
  have hR := h
  obtain ⟨-, -, -, -, ⟨f0, f1, -, f3, -⟩, -, -, ⟨r0, -, r2, -⟩, -⟩ := h
  unfold w_X6_hasLeg
  refine X6_planeOf_t f1 hf f0 ?_
  rw [r0 f hf]
  rcases r2 f hf with e | ⟨p, hp, e⟩
  · exact bt e (q0 (fun z => z.1 e))
  · have hp4 : p < 2 ^ 31 := by have := hR.2.2.2.1.1; omega
    have hne : ¬ τ.1 15 f = -1 := by rw [e]; exact m1ne p hp4
    refine bf hne (plA_t hR hf hp e (X1_fromOf_t f1 hf f0 ?_))
    rw [f3]
    exact ⟨fun z => q0 (fun y => y.2 z), fun z => q1 ⟨hne, z⟩⟩
theorem hasLeg_out {nf : Nat} {σ : St} {x : Int32} {Q : Int32 → St → Prop} (hs : σ.1 5 6 = nI nf) (hx : outR x nf) (q0 : Q 0 σ) : w_X6_hasLeg x σ Q := by
  unfold w_X6_hasLeg
  exact X6_planeOf_f hs hx (bt rfl q0)
/-- the moves of plane p by the plan at hand -/
def movT (nf : Nat) (τ : St) (p : Nat) : List (Nat × Bool × Int32) := mvs (τ.1 10) (τ.1 11) (τ.1 6 p) (handL (τ.1 12) (τ.1 15) nf (nI p))
theorem filter_app1 {P : Nat → Bool} {A : List Nat} {g : Nat} : (A ++ [g]).filter P = A.filter P ++ (if P g = true then [g] else []) := by
  rw [List.filter_append, List.filter_cons, List.filter_nil]
/-- in the order, the place ahead of a flight of p is where p's chain so far ends -/
theorem plA_at {G : Prop} {tl np nf ns no i g p : Nat} {σ τ : St} (h : RelX G tl np nf ns no σ τ) (hp : p < np) {R : List Nat} (hd : (ordL (τ.1 12) nf).drop i = g :: R) (ho : τ.1 15 g = nI p) : plT nf τ g = endP (τ.1 11) (τ.1 6 p) (((ordL (τ.1 12) nf).take i).filter (fun f => decide (τ.1 15 f = nI p))) := by
  have p0 := h.2.2.2.1.1
  have hsp : handL (τ.1 12) (τ.1 15) nf (τ.1 15 g) = ((ordL (τ.1 12) nf).take i).filter (fun f => decide (τ.1 15 f = nI p)) ++ g :: R.filter (fun f => decide (τ.1 15 f = nI p)) := by
    unfold handL
    rw [ho]
    conv => lhs; rw [← List.take_append_drop i (ordL (τ.1 12) nf), List.filter_append, hd, List.filter_cons, if_pos (by simpa using ho)]
  unfold plT
  rw [plA_split hsp, ho, n_clamp (by omega)]
theorem flightAt_t {G : Prop} {tl np nf ns no p : Nat} {σ τ : St} {x : Int32} {Q : Int32 → St → Prop} (h : RelX G tl np nf ns no σ τ) (hp : p < np) (q1 : ∀ j f a, (movT nf τ p)[j]? = some (f, false, a) → x = nI j → Q (nI f) σ) (q0 : (∀ j f a, (movT nf τ p)[j]? = some (f, false, a) → x ≠ nI j) → Q (-1) σ) : w_X6_flightAt (nI p) x σ Q := by
  have hR := h
  obtain ⟨-, -, -, ⟨p0, p1, -⟩, ⟨f0, f1, -⟩, -, -, ⟨r0, -⟩, -⟩ := h
  have hlen := ordL_len (τ.1 12) nf
  unfold w_X6_flightAt
  refine ⟨nf + 1, ?_⟩
  have loop : ∀ (L : List Nat) (i c : Nat), i + L.length = nf → (ordL (τ.1 12) nf).drop i = L → c + 2 * L.length ≤ 40 →
      (∀ j f a, (mvs (τ.1 10) (τ.1 11) (endP (τ.1 11) (τ.1 6 p) (((ordL (τ.1 12) nf).take i).filter (fun f => decide (τ.1 15 f = nI p)))) (L.filter (fun f => decide (τ.1 15 f = nI p))))[j]? = some (f, false, a) → x = nI (c + j) → Q (nI f) σ) →
      ((∀ j f a, (mvs (τ.1 10) (τ.1 11) (endP (τ.1 11) (τ.1 6 p) (((ordL (τ.1 12) nf).take i).filter (fun f => decide (τ.1 15 f = nI p)))) (L.filter (fun f => decide (τ.1 15 f = nI p))))[j]? = some (f, false, a) → x ≠ nI (c + j)) → Q (-1) σ) →
      w_X6_flightAt_5 Q (L.length + 1) (nI p) x (nI c) (nI i) σ := by
    intro L
    induction L with
    | nil =>
      intro i c hi hd hc q1 q0
      unfold w_X6_flightAt_5 w_X1_size
      exact bt (by rw [f1]; exact nI_le (by simp at hi; omega) (by simp at hi; omega)) (q0 (fun j f a hj => by simp [mvs] at hj))
    | cons g L ih =>
      intro i c hi hd hc q1 q0
      rw [List.length_cons] at hi hc
      obtain ⟨d1, d2, d3, d4⟩ := drop_step hd
      have hg : g < nf := (ordL_mem (τ.1 12) g nf).mp (List.mem_of_getElem? d1)
      have nx := ih (i + 1)
      rw [d4, filter_app1] at nx
      unfold w_X6_flightAt_5 w_X1_size
      refine bf (by rw [f1, nI_leI (by omega) (by omega)]; omega) (inOrder_t hR (by omega) (X4_has_t p1 hp p0 (b1 ?_)))
      rw [d2]
      refine X6_planeOf_t f1 hg f0 ?_
      rw [r0 g hg]
      rw [List.filter_cons] at q1 q0
      refine ⟨fun z => ?_, fun z => ?_⟩
      · have hdec : ¬ decide (τ.1 15 g = nI p) = true := by simpa using z
        rw [if_neg hdec] at q1 q0
        rw [if_neg hdec, List.append_nil] at nx
        rw [nI_1]
        exact nx c (by omega) d3 (by omega) q1 q0
      · have hdec : decide (τ.1 15 g = nI p) = true := by simpa using z
        have hpl := plA_at hR hp hd z
        rw [if_pos hdec] at q1 q0
        rw [if_pos hdec, endP_app] at nx
        have nx2 : ∀ c : Nat, _ → _ → _ → _ → _ → w_X6_flightAt_5 Q (L.length + 1) (nI p) x (nI c) (nI (i + 1)) σ := nx
        rw [← hpl] at q1 q0
        have hne : ¬ τ.1 15 g = -1 := by rw [z]; exact m1ne p (by omega)
        have em : ∀ a, mvs (τ.1 10) (τ.1 11) a (g :: L.filter (fun f => decide (τ.1 15 f = nI p))) = if a = τ.1 10 g then (g, false, τ.1 10 g) :: mvs (τ.1 10) (τ.1 11) (τ.1 11 g) (L.filter (fun f => decide (τ.1 15 f = nI p))) else (g, true, a) :: (g, false, τ.1 10 g) :: mvs (τ.1 10) (τ.1 11) (τ.1 11 g) (L.filter (fun f => decide (τ.1 15 f = nI p))) := fun a => by conv => lhs; unfold mvs
        rw [em] at q1 q0
        refine hasLeg_t hR hg (fun hl => bf n10 ?_) (fun hl => bt rfl ?_)
        · rw [if_neg hl.2] at q1 q0
          unfold w_X6_flightAt_64
          rw [show (1 : Int32) = nI 1 from rfl, nI_add]
          refine ⟨fun y => ?_, fun y => q1 1 g _ rfl y.symm⟩
          rw [nI_add, nI_add]
          refine nx (c + 2) (by omega) d3 (by omega) (fun j f a hj hx => q1 (j + 2) f a hj (by rw [hx]; congr 1; omega)) (fun hall => q0 (fun j f a hj hx => ?_))
          match j, hj with
          | 0, hj => cases hj
          | 1, hj => exact y hx.symm
          | j + 2, hj => exact hall j f a hj (by rw [hx]; congr 1; omega)
        · have hl' : plT nf τ g = τ.1 10 g := Classical.byContradiction (fun y => hl ⟨hne, y⟩)
          rw [if_pos hl'] at q1 q0
          unfold w_X6_flightAt_64
          rw [show (0 : Int32) = nI 0 from rfl, nI_add, Nat.add_zero]
          refine ⟨fun y => ?_, fun y => q1 0 g _ rfl y.symm⟩
          rw [nI_1, nI_1]
          refine nx (c + 1) (by omega) d3 (by omega) (fun j f a hj hx => q1 (j + 1) f a hj (by rw [hx]; congr 1; omega)) (fun hall => q0 (fun j f a hj hx => ?_))
          match j, hj with
          | 0, hj => exact y hx.symm
          | j + 1, hj => exact hall j f a hj (by rw [hx]; congr 1; omega)
  have := loop (ordL (τ.1 12) nf) 0 0 (by omega) rfl (by omega) (fun j f a hj hx => q1 j f a hj (by rw [hx, Nat.zero_add])) (fun hall => q0 (fun j f a hj hx => hall j f a hj (by rw [hx, Nat.zero_add])))
  rw [hlen] at this
  exact this
theorem flightAt_out {G : Prop} {tl np nf ns no : Nat} {σ τ : St} {p x : Int32} {Q : Int32 → St → Prop} (h : RelX G tl np nf ns no σ τ) (hp : outR p np) (q0 : Q (-1) σ) : w_X6_flightAt p x σ Q := by
  have hR := h
  obtain ⟨-, -, -, ⟨p0, p1, -⟩, ⟨f0, f1, -⟩, -⟩ := h
  unfold w_X6_flightAt
  have loop : ∀ k i, i + k = nf → w_X6_flightAt_5 Q (k + 1) p x 0 (nI i) σ := by
    intro k
    induction k with
    | zero =>
      intro i hi
      unfold w_X6_flightAt_5 w_X1_size
      exact bt (by rw [f1, nI_leI (by omega) (by omega)]; omega) q0
    | succ k ih =>
      intro i hi
      unfold w_X6_flightAt_5 w_X1_size
      refine bf (by rw [f1, nI_leI (by omega) (by omega)]; omega) (inOrder_t hR (by omega) (X4_has_f p1 hp (b0 ?_)))
      rw [nI_1]
      exact ih (i + 1) (by omega)
  exact ⟨nf + 1, loop nf 0 (by omega)⟩
