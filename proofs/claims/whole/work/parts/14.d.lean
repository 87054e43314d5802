/-! ===== facts of moves; legAt ===== -/
theorem mvs_cons (fr to : Nat → Int32) (a : Int32) (f : Nat) (L : List Nat) : mvs fr to a (f :: L) = if a = fr f then (f, false, fr f) :: mvs fr to (to f) L else (f, true, a) :: (f, false, fr f) :: mvs fr to (to f) L := by
  conv => lhs; unfold mvs
theorem mvs_leg {fr to : Nat → Int32} {f : Nat} {b : Int32} : ∀ (L : List Nat) (a : Int32) (j : Nat), (mvs fr to a L)[j]? = some (f, true, b) → ∃ A B, L = A ++ f :: B ∧ b = endP to a A ∧ b ≠ fr f ∧ (mvs fr to a L)[j + 1]? = some (f, false, fr f)
  | [], a, j, h => by simp [mvs] at h
  | g :: L, a, j, h => by
    rw [mvs_cons] at h ⊢
    by_cases e : a = fr g
    · rw [if_pos e] at h ⊢
      cases j with
      | zero => cases h
      | succ j =>
        obtain ⟨A, B, h1, h2, h3, h4⟩ := mvs_leg L (to g) j h
        exact ⟨g :: A, B, by rw [h1]; rfl, h2, h3, h4⟩
    · rw [if_neg e] at h ⊢
      match j, h with
      | 0, h =>
        cases h
        exact ⟨[], L, rfl, rfl, e, rfl⟩
      | 1, h => cases h
      | j + 2, h =>
        obtain ⟨A, B, h1, h2, h3, h4⟩ := mvs_leg L (to g) j h
        exact ⟨g :: A, B, by rw [h1]; rfl, h2, h3, h4⟩
theorem mvs_fl {fr to : Nat → Int32} {f : Nat} {b : Int32} : ∀ (L : List Nat) (a : Int32) (j : Nat), (mvs fr to a L)[j]? = some (f, false, b) → ∃ A B, L = A ++ f :: B ∧ b = fr f ∧ (endP to a A ≠ fr f → ∃ j', j = j' + 1 ∧ (mvs fr to a L)[j']? = some (f, true, endP to a A))
  | [], a, j, h => by simp [mvs] at h
  | g :: L, a, j, h => by
    rw [mvs_cons] at h ⊢
    by_cases e : a = fr g
    · rw [if_pos e] at h ⊢
      cases j with
      | zero =>
        cases h
        exact ⟨[], L, rfl, rfl, fun z => absurd e z⟩
      | succ j =>
        obtain ⟨A, B, h1, h2, h3⟩ := mvs_fl L (to g) j h
        refine ⟨g :: A, B, by rw [h1]; rfl, h2, fun z => ?_⟩
        obtain ⟨j', e1, e2⟩ := h3 z
        exact ⟨j' + 1, by omega, e2⟩
    · rw [if_neg e] at h ⊢
      match j, h with
      | 0, h => cases h
      | 1, h =>
        cases h
        exact ⟨[], L, rfl, rfl, fun _ => ⟨0, rfl, rfl⟩⟩
      | j + 2, h =>
        obtain ⟨A, B, h1, h2, h3⟩ := mvs_fl L (to g) j h
        refine ⟨g :: A, B, by rw [h1]; rfl, h2, fun z => ?_⟩
        obtain ⟨j', e1, e2⟩ := h3 z
        exact ⟨j' + 2, by omega, e2⟩
theorem mvs_ex {fr to : Nat → Int32} {f : Nat} {B : List Nat} : ∀ (A : List Nat) (a : Int32), endP to a A ≠ fr f → ∃ j : Nat, (mvs fr to a (A ++ f :: B))[j]? = some (f, true, endP to a A)
  | [], a, h => by
    refine ⟨0, ?_⟩
    have h' : ¬ a = fr f := h
    rw [List.nil_append, mvs_cons, if_neg h']
    rfl
  | g :: A, a, h => by
    obtain ⟨j, hj⟩ := mvs_ex (B := B) A (to g) h
    rw [List.cons_append, mvs_cons]
    by_cases e : a = fr g
    · rw [if_pos e]; exact ⟨j + 1, hj⟩
    · rw [if_neg e]; exact ⟨j + 2, hj⟩
theorem mvs_mem {fr to : Nat → Int32} {x : Nat × Bool × Int32} : ∀ (L : List Nat) (a : Int32) (j : Nat), (mvs fr to a L)[j]? = some x → x.1 ∈ L
  | [], a, j, h => by simp [mvs] at h
  | g :: L, a, j, h => by
    rw [mvs_cons] at h
    by_cases e : a = fr g
    · rw [if_pos e] at h
      cases j with
      | zero => cases h; exact List.mem_cons_self
      | succ j => exact List.mem_cons_of_mem _ (mvs_mem L (to g) j h)
    · rw [if_neg e] at h
      match j, h with
      | 0, h => cases h; exact List.mem_cons_self
      | 1, h => cases h; exact List.mem_cons_self
      | j + 2, h => exact List.mem_cons_of_mem _ (mvs_mem L (to g) j h)
theorem mvs_uniq {fr to : Nat → Int32} {f : Nat} {b b' : Int32} {k : Bool} : ∀ (L : List Nat) (a : Int32) (i j : Nat), L.Nodup → (mvs fr to a L)[i]? = some (f, k, b) → (mvs fr to a L)[j]? = some (f, k, b') → i = j
  | [], a, i, j, _, h, _ => by simp [mvs] at h
  | g :: L, a, i, j, hn, h, h' => by
    have hn2 := List.nodup_cons.mp hn
    have nm : ∀ i b k, (mvs fr to (to g) L)[i]? = some (g, k, b) → False := fun i b k z => hn2.1 (mvs_mem L (to g) i z)
    rw [mvs_cons] at h h'
    by_cases e : a = fr g
    · rw [if_pos e] at h h'
      match i, j, h, h' with
      | 0, 0, _, _ => rfl
      | 0, j + 1, h, h' => cases h; exact absurd h' (fun z => nm _ _ _ z)
      | i + 1, 0, h, h' => cases h'; exact absurd h (fun z => nm _ _ _ z)
      | i + 1, j + 1, h, h' => rw [mvs_uniq L (to g) i j hn2.2 h h']
    · rw [if_neg e] at h h'
      match i, j, h, h' with
      | 0, 0, _, _ => rfl
      | 0, 1, h, h' => cases h; cases h'
      | 1, 0, h, h' => cases h; cases h'
      | 1, 1, _, _ => rfl
      | 0, j + 2, h, h' => cases h; exact absurd h' (fun z => nm _ _ _ z)
      | 1, j + 2, h, h' => cases h; exact absurd h' (fun z => nm _ _ _ z)
      | i + 2, 0, h, h' => cases h'; exact absurd h (fun z => nm _ _ _ z)
      | i + 2, 1, h, h' => cases h'; exact absurd h (fun z => nm _ _ _ z)
      | i + 2, j + 2, h, h' => rw [mvs_uniq L (to g) i j hn2.2 h h']
section MOV
variable {G : Prop} {tl np nf ns no p : Nat} {σ τ : St}
theorem movT_split (h : RelX G tl np nf ns no σ τ) (hp : p < np) {A B : List Nat} {f : Nat} (e : handL (τ.1 12) (τ.1 15) nf (nI p) = A ++ f :: B) : f < nf ∧ τ.1 15 f = nI p ∧ plT nf τ f = endP (τ.1 11) (τ.1 6 p) A := by
  have p0 := h.2.2.2.1.1
  have hm : f ∈ handL (τ.1 12) (τ.1 15) nf (nI p) := by rw [e]; exact List.mem_append_right _ List.mem_cons_self
  obtain ⟨h1, h2⟩ := handL_mem.mp hm
  refine ⟨h1, h2, ?_⟩
  rw [← h2] at e
  unfold plT
  rw [plA_split e, h2, n_clamp (by omega)]
theorem movT_leg (h : RelX G tl np nf ns no σ τ) (hp : p < np) {j f : Nat} {a : Int32} (hj : (movT nf τ p)[j]? = some (f, true, a)) : f < nf ∧ τ.1 15 f = nI p ∧ a = plT nf τ f ∧ hasLg nf τ f ∧ (movT nf τ p)[j + 1]? = some (f, false, τ.1 10 f) := by
  have p0 := h.2.2.2.1.1
  obtain ⟨A, B, e1, e2, e3, e4⟩ := mvs_leg _ _ _ hj
  obtain ⟨g1, g2, g3⟩ := movT_split h hp e1
  exact ⟨g1, g2, e2.trans g3.symm, ⟨by rw [g2]; exact m1ne p (by omega), by rw [g3, ← e2]; exact e3⟩, e4⟩
theorem movT_fl (h : RelX G tl np nf ns no σ τ) (hp : p < np) {j f : Nat} {a : Int32} (hj : (movT nf τ p)[j]? = some (f, false, a)) : f < nf ∧ τ.1 15 f = nI p ∧ a = τ.1 10 f ∧ (hasLg nf τ f → ∃ j', j = j' + 1 ∧ (movT nf τ p)[j']? = some (f, true, plT nf τ f)) := by
  obtain ⟨A, B, e1, e2, e3⟩ := mvs_fl _ _ _ hj
  obtain ⟨g1, g2, g3⟩ := movT_split h hp e1
  refine ⟨g1, g2, e2, fun hl => ?_⟩
  obtain ⟨j', e4, e5⟩ := e3 (by rw [← g3]; exact hl.2)
  exact ⟨j', e4, by rw [g3]; exact e5⟩
theorem movT_ex (h : RelX G tl np nf ns no σ τ) (hp : p < np) {f : Nat} (hf : f < nf) (ho : τ.1 15 f = nI p) (hl : hasLg nf τ f) : ∃ j : Nat, (movT nf τ p)[j]? = some (f, true, plT nf τ f) := by
  have hm : f ∈ handL (τ.1 12) (τ.1 15) nf (nI p) := handL_mem.mpr ⟨hf, ho⟩
  obtain ⟨A, B, e⟩ := List.append_of_mem hm
  obtain ⟨-, -, g3⟩ := movT_split h hp e
  unfold movT
  rw [e, g3]
  exact mvs_ex A _ (by rw [← g3]; exact hl.2)
theorem handL_len (st on : Nat → Int32) (nf : Nat) (p : Int32) : (handL st on nf p).length ≤ nf := by
  unfold handL
  refine Nat.le_trans (List.length_filter_le _ _) ?_
  rw [ordL_len]
  exact Nat.le_refl _
theorem movT_lt (h : RelX G tl np nf ns no σ τ) {j : Nat} {x : Nat × Bool × Int32} (hj : (movT nf τ p)[j]? = some x) : j < 40 := by
  have f0 := h.2.2.2.2.1.1
  have h1 := (List.getElem?_eq_some_iff.mp hj).1
  have h2 := mvs_len (τ.1 10) (τ.1 11) (handL (τ.1 12) (τ.1 15) nf (nI p)) (τ.1 6 p)
  have h3 := handL_len (τ.1 12) (τ.1 15) nf (nI p)
  have h4 : (movT nf τ p).length = (mvs (τ.1 10) (τ.1 11) (τ.1 6 p) (handL (τ.1 12) (τ.1 15) nf (nI p))).length := rfl
  omega
theorem i_canc {x : Int32} {j : Nat} (h : x + 1 = nI (j + 1)) : x = nI j := by
  rw [← nI_1] at h
  have := congrArg (fun z => z - 1) h
  simpa using this
theorem handL_8 (h : RelX G tl np nf ns no σ τ) (hp : p < np) : (handL (τ.1 12) (τ.1 15) nf (nI p)).length ≤ 8 := by
  obtain ⟨-, -, -, ⟨p0, -⟩, ⟨f0, -, f2, -, -, -, -, -, -, -, f10, -⟩, -, -, ⟨-, -, -, r3⟩, -⟩ := h
  have hfil : (rowL (τ.1 12) (τ.1 14) nf).filter (fun f => decide (τ.1 15 f = nI p)) = handL (τ.1 12) (τ.1 15) nf (nI p) := by
    unfold handL
    rw [rowL_eq, List.filter_filter]
    refine List.filter_congr (fun x hx => ?_)
    have hx2 := (ordL_mem (τ.1 12) x nf).mp hx
    by_cases e : τ.1 15 x = nI p
    · have hm0 : τ.1 14 x = 0 := by
        refine Classical.byContradiction (fun z => ?_)
        have := r3 x hx2 z
        rw [e] at this
        exact m1ne p (by omega) this
      simp [e, hm0]
    · simp [e]
  rw [← hfil]
  refine Nat.le_trans (List.length_filter_le _ _) ?_
  rw [rowL_len]
  exact f10
theorem movT_16 (h : RelX G tl np nf ns no σ τ) (hp : p < np) : (movT nf τ p).length ≤ 16 := by
  have h2 := mvs_len (τ.1 10) (τ.1 11) (handL (τ.1 12) (τ.1 15) nf (nI p)) (τ.1 6 p)
  have h3 := handL_8 h hp
  have h4 : (movT nf τ p).length = (mvs (τ.1 10) (τ.1 11) (τ.1 6 p) (handL (τ.1 12) (τ.1 15) nf (nI p))).length := rfl
  omega
theorem legAt_t (h : RelX G tl np nf ns no σ τ) (hp : p < np) {x : Int32} {Q : Int32 → St → Prop} (q1 : ∀ j f a, (movT nf τ p)[j]? = some (f, true, a) → x = nI j → Q (nI f) σ) (q0 : (∀ j f a, (movT nf τ p)[j]? = some (f, true, a) → x ≠ nI j) → Q (-1) σ) : w_X6_legAt (nI p) x σ Q := by
  obtain ⟨f0, f1, -⟩ := h.2.2.2.2.1
  have q10 : (∀ j f a, (movT nf τ p)[j]? = some (f, true, a) → x ≠ nI j) → w_X6_legAt_22 Q (-1) σ := fun hh => by
    unfold w_X6_legAt_22
    exact hasLeg_out f1 (out_m1 nf) (b0 (q0 hh))
  unfold w_X6_legAt
  refine isWithin_w (fun z => b1 (flightAt_t h hp (fun j f a hj hx => ?_) (fun hall => q10 (fun j f a hj hx => ?_)))) (fun z => b0 (q10 (fun j f a hj hx => ?_)))
  · obtain ⟨g1, g2, g3, g4⟩ := movT_fl h hp hj
    unfold w_X6_legAt_22
    refine hasLeg_t h g1 (fun hl => bf n10 ?_) (fun hl => bt rfl (q0 (fun j2 f2 a2 hj2 hx2 => ?_)))
    · obtain ⟨j', e1, e2⟩ := g4 hl
      subst e1
      exact q1 j' f _ e2 (i_canc hx)
    · obtain ⟨-, -, -, k4, k5⟩ := movT_leg h hp hj2
      have l1 := movT_lt h hj2
      have l2 := movT_lt h hj
      rw [hx2, nI_1] at hx
      have : j2 + 1 = j := (nI_eq (by omega) (by omega)).mp hx
      subst this
      rw [k5] at hj
      cases hj
      exact hl k4
  · obtain ⟨-, -, -, -, k5⟩ := movT_leg h hp hj
    exact hall (j + 1) f _ k5 (by rw [hx, nI_1])
  · have l1 := (List.getElem?_eq_some_iff.mp hj).1
    have l2 := movT_16 h hp
    refine z ?_
    have e0 : (0 : Int32).toInt = 0 := rfl
    have e15 : (15 : Int32).toInt = 15 := rfl
    rw [hx, e0, e15]
    unfold inR
    rw [nI_toInt (by omega)]
    omega
theorem legAt_out (h : RelX G tl np nf ns no σ τ) {pp x : Int32} (hp : outR pp np) {Q : Int32 → St → Prop} (q0 : Q (-1) σ) : w_X6_legAt pp x σ Q := by
  obtain ⟨f0, f1, -⟩ := h.2.2.2.2.1
  have q10 : w_X6_legAt_22 Q (-1) σ := by
    unfold w_X6_legAt_22
    exact hasLeg_out f1 (out_m1 nf) (b0 q0)
  unfold w_X6_legAt
  exact isWithin_w (fun _ => b1 (flightAt_out h hp q10)) (fun _ => b0 q10)
/-- the minutes of the leg ahead of a flight -/
def legMn (nf : Nat) (τ : St) (f : Nat) : Int32 := wayT (τ.1 5) (plT nf τ f) (τ.1 10 f)
theorem plT_in (h : RelX G tl np nf ns no σ τ) (hp : p < np) {f : Nat} (hf : f < nf) (ho : τ.1 15 f = nI p) : inR (plT nf τ f) 0 7 := by
  have hm : f ∈ handL (τ.1 12) (τ.1 15) nf (nI p) := handL_mem.mpr ⟨hf, ho⟩
  obtain ⟨A, B, e⟩ := List.append_of_mem hm
  obtain ⟨-, -, g3⟩ := movT_split h hp e
  rw [g3]
  obtain ⟨-, -, -, ⟨-, -, -, -, -, -, -, p7⟩, ⟨-, -, -, -, -, -, -, -, -, -, -, -, f12⟩, -⟩ := h
  refine endP_in (nf := nf) (fun g hg => (f12 g hg).2.1) A _ (p7 p hp).1 (fun g hg => ?_)
  have : g ∈ handL (τ.1 12) (τ.1 15) nf (nI p) := by rw [e]; exact List.mem_append_left _ hg
  exact (handL_mem.mp this).1
theorem mins_w (h : RelX G tl np nf ns no σ τ) {a b : Int32} (ha : inR a 0 7) (hb : inR b 0 7) {Q : Int32 → St → Prop} (q : Q (wayT (τ.1 5) a b) σ) : w_X9_minutes a b σ Q := by
  obtain ⟨x, hx, rfl⟩ := fld ha
  obtain ⟨y, hy, rfl⟩ := fld hb
  unfold wayT at q
  rw [n_clamp (by omega), n_clamp (by omega)] at q
  refine mins_t hx hy ?_
  rw [h.2.2.1.1]
  exact q
theorem minsM_w {τ' : St} (hS : SM τ τ') {a b : Int32} (ha : inR a 0 7) (hb : inR b 0 7) {Q : Int32 → St → Prop} (q : Q (wayT (τ.1 5) a b) τ') : w_X11_minutes a b τ' Q := by
  obtain ⟨x, hx, rfl⟩ := fld ha
  obtain ⟨y, hy, rfl⟩ := fld hb
  unfold wayT at q
  rw [n_clamp (by omega), n_clamp (by omega)] at q
  refine minsM_t hx hy ?_
  rw [hS.1 5 (by omega) (by omega)]
  exact q
theorem legMin_t (h : RelX G tl np nf ns no σ τ) {f : Nat} (hf : f < nf) {Q : Int32 → St → Prop} (q1 : hasLg nf τ f → Q (legMn nf τ f) σ) (q0 : ¬ hasLg nf τ f → Q 0 σ) : w_X6_legMinutes (nI f) σ Q := by
  have hR := h
  obtain ⟨-, -, -, -, ⟨f0, f1, -, f3, -, -, -, -, -, -, -, -, f12⟩, -, -, ⟨-, -, r2, -⟩, -⟩ := h
  unfold w_X6_legMinutes
  refine hasLeg_t hR hf (fun hl => bf n10 ?_) (fun hl => bt rfl (q0 hl))
  rcases r2 f hf with e | ⟨p, hp, e⟩
  · exact absurd e hl.1
  · refine plA_t hR hf hp e (X1_fromOf_t f1 hf f0 ?_)
    rw [f3]
    exact mins_w hR (plT_in hR hp hf e) (f12 f hf).1 (q1 hl)
end MOV
