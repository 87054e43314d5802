/-! ===== getters by index ===== -/
def outR (x : Int32) (n : Nat) : Prop := x < 0 ∨ nI n ≤ x
theorem ix_or (x : Int32) (n : Nat) (hn : n < 2 ^ 31) : (∃ j, j < n ∧ x = nI j) ∨ outR x n := by
  rcases pk_ix x hn with h | h | h
  · exact Or.inr (Or.inl h)
  · exact Or.inr (Or.inr h)
  · exact Or.inl h
theorem lies_ix {f n : Nat} {Q : Int32 → Prop} {m : Int32} (hm : m = nI n) (hf : f < n) (hn : n < 2 ^ 30) (q : Q 1) : w_X11_lies (nI f) 0 (m - 1) Q := by
  refine lies_t ⟨?_, ?_⟩ q
  · rw [nI_toInt (by omega)]; show (0 : Int) ≤ _; omega
  · rw [hm, nI_toInt (by omega), show (1 : Int32) = nI 1 from rfl, pk_sub_toInt (by omega) (by omega)]; omega
theorem lies_out {x : Int32} {n : Nat} {Q : Int32 → Prop} {m : Int32} (hm : m = nI n) (hx : outR x n) (hn : n < 2 ^ 30) (q : Q 0) : w_X11_lies x 0 (m - 1) Q := by
  refine lies_f (fun h => ?_) q
  obtain ⟨h1, h2⟩ := h
  rw [hm, show (1 : Int32) = nI 1 from rfl, pk_sub_toInt (by omega) (by omega)] at h2
  rw [show (0 : Int32).toInt = 0 from rfl] at h1
  rcases hx with hx | hx
  · rw [i_lt, show (0 : Int32).toInt = 0 from rfl] at hx; omega
  · rw [i_le, nI_toInt (by omega)] at hx; omega
theorem m1ne (n : Nat) (h : n < 2 ^ 31) : ¬ nI n = -1 := by
  rw [i_eq, nI_toInt h, show (-1 : Int32).toInt = -1 from rfl]; omega
theorem out_m1 (n : Nat) : outR (-1) n := Or.inl (by decide)
theorem X1_has_t {σ : St} {f n : Nat} {Q : Int32 → St → Prop} (hs : σ.1 5 6 = nI n) (hf : f < n) (hn : n ≤ 20) (q : Q 1 σ) : w_X1_has (nI f) σ Q := by
  unfold w_X1_has
  refine bf (nI_pos (by omega)) (bf ?_ q)
  rw [hs, nI_leI (by omega) (by omega)]; omega
theorem X1_has_f {σ : St} {x : Int32} {n : Nat} {Q : Int32 → St → Prop} (hs : σ.1 5 6 = nI n) (hx : outR x n) (q : Q 0 σ) : w_X1_has x σ Q := by
  unfold w_X1_has
  refine ⟨fun _ => q, fun h => ⟨fun _ => q, fun h2 => ?_⟩⟩
  rw [hs] at h2
  exact absurd hx (fun z => z.elim h h2)
theorem X4_has_t {σ : St} {f n : Nat} {Q : Int32 → St → Prop} (hs : σ.1 4 4 = nI n) (hf : f < n) (hn : n ≤ 4) (q : Q 1 σ) : w_X4_has (nI f) σ Q := by
  unfold w_X4_has
  refine bf (nI_pos (by omega)) (bf ?_ q)
  rw [hs, nI_leI (by omega) (by omega)]; omega
theorem X4_has_f {σ : St} {x : Int32} {n : Nat} {Q : Int32 → St → Prop} (hs : σ.1 4 4 = nI n) (hx : outR x n) (q : Q 0 σ) : w_X4_has x σ Q := by
  unfold w_X4_has
  refine ⟨fun _ => q, fun h => ⟨fun _ => q, fun h2 => ?_⟩⟩
  rw [hs] at h2
  exact absurd hx (fun z => z.elim h h2)
theorem X3_has_t {σ : St} {f n : Nat} {Q : Int32 → St → Prop} (hs : σ.1 10 7 = nI n) (hf : f < n) (hn : n ≤ 40) (q : Q 1 σ) : w_X3_has (nI f) σ Q := by
  unfold w_X3_has
  refine bf (nI_pos (by omega)) (bf ?_ q)
  rw [hs, nI_leI (by omega) (by omega)]; omega
theorem X3_has_f {σ : St} {x : Int32} {n : Nat} {Q : Int32 → St → Prop} (hs : σ.1 10 7 = nI n) (hx : outR x n) (q : Q 0 σ) : w_X3_has x σ Q := by
  unfold w_X3_has
  refine ⟨fun _ => q, fun h => ⟨fun _ => q, fun h2 => ?_⟩⟩
  rw [hs] at h2
  exact absurd hx (fun z => z.elim h h2)
theorem X1_fromOf_t {σ : St} {f n : Nat} {Q : Int32 → St → Prop} (hs : σ.1 5 6 = nI n) (hf : f < n) (hn : n ≤ 20) (q : Q (σ.1 21 f) σ) : w_X1_fromOf (nI f) σ Q := by
  unfold w_X1_fromOf
  refine X1_has_t hs hf hn (b1 ⟨vp_in_nI (by omega) (by omega), ?_⟩)
  rw [n_clamp (by omega)]; exact q
theorem X1_fromOf_f {σ : St} {x : Int32} {n : Nat} {Q : Int32 → St → Prop} (hs : σ.1 5 6 = nI n) (hx : outR x n) (q : Q (-1) σ) : w_X1_fromOf x σ Q := by
  unfold w_X1_fromOf
  exact X1_has_f hs hx (b0 q)
theorem X1_toOf_t {σ : St} {f n : Nat} {Q : Int32 → St → Prop} (hs : σ.1 5 6 = nI n) (hf : f < n) (hn : n ≤ 20) (q : Q (σ.1 22 f) σ) : w_X1_toOf (nI f) σ Q := by
  unfold w_X1_toOf
  refine X1_has_t hs hf hn (b1 ⟨vp_in_nI (by omega) (by omega), ?_⟩)
  rw [n_clamp (by omega)]; exact q
theorem X1_toOf_f {σ : St} {x : Int32} {n : Nat} {Q : Int32 → St → Prop} (hs : σ.1 5 6 = nI n) (hx : outR x n) (q : Q (-1) σ) : w_X1_toOf x σ Q := by
  unfold w_X1_toOf
  exact X1_has_f hs hx (b0 q)
theorem X1_startOf_t {σ : St} {f n : Nat} {Q : Int32 → St → Prop} (hs : σ.1 5 6 = nI n) (hf : f < n) (hn : n ≤ 20) (q : Q (σ.1 23 f) σ) : w_X1_startOf (nI f) σ Q := by
  unfold w_X1_startOf
  refine X1_has_t hs hf hn (b1 ⟨vp_in_nI (by omega) (by omega), ?_⟩)
  rw [n_clamp (by omega)]; exact q
theorem X1_startOf_f {σ : St} {x : Int32} {n : Nat} {Q : Int32 → St → Prop} (hs : σ.1 5 6 = nI n) (hx : outR x n) (q : Q (-1) σ) : w_X1_startOf x σ Q := by
  unfold w_X1_startOf
  exact X1_has_f hs hx (b0 q)
theorem X1_seatsOf_t {σ : St} {f n : Nat} {Q : Int32 → St → Prop} (hs : σ.1 5 6 = nI n) (hf : f < n) (hn : n ≤ 20) (q : Q (σ.1 24 f) σ) : w_X1_seatsOf (nI f) σ Q := by
  unfold w_X1_seatsOf
  refine X1_has_t hs hf hn (b1 ⟨vp_in_nI (by omega) (by omega), ?_⟩)
  rw [n_clamp (by omega)]; exact q
theorem X1_seatsOf_f {σ : St} {x : Int32} {n : Nat} {Q : Int32 → St → Prop} (hs : σ.1 5 6 = nI n) (hx : outR x n) (q : Q (-1) σ) : w_X1_seatsOf x σ Q := by
  unfold w_X1_seatsOf
  exact X1_has_f hs hx (b0 q)
theorem X6_planeOf_t {σ : St} {f n : Nat} {Q : Int32 → St → Prop} (hs : σ.1 5 6 = nI n) (hf : f < n) (hn : n ≤ 20) (q : Q (σ.1 30 f) σ) : w_X6_planeOf (nI f) σ Q := by
  unfold w_X6_planeOf
  refine X1_has_t hs hf hn (b1 ⟨vp_in_nI (by omega) (by omega), ?_⟩)
  rw [n_clamp (by omega)]; exact q
theorem X6_planeOf_f {σ : St} {x : Int32} {n : Nat} {Q : Int32 → St → Prop} (hs : σ.1 5 6 = nI n) (hx : outR x n) (q : Q (-1) σ) : w_X6_planeOf x σ Q := by
  unfold w_X6_planeOf
  exact X1_has_f hs hx (b0 q)
theorem X4_homeOf_t {σ : St} {f n : Nat} {Q : Int32 → St → Prop} (hs : σ.1 4 4 = nI n) (hf : f < n) (hn : n ≤ 4) (q : Q (σ.1 17 f) σ) : w_X4_homeOf (nI f) σ Q := by
  unfold w_X4_homeOf
  refine X4_has_t hs hf hn (b1 ⟨vp_in_nI (by omega) (by omega), ?_⟩)
  rw [n_clamp (by omega)]; exact q
theorem X4_homeOf_f {σ : St} {x : Int32} {n : Nat} {Q : Int32 → St → Prop} (hs : σ.1 4 4 = nI n) (hx : outR x n) (q : Q (-1) σ) : w_X4_homeOf x σ Q := by
  unfold w_X4_homeOf
  exact X4_has_f hs hx (b0 q)
theorem X4_seatsOf_t {σ : St} {f n : Nat} {Q : Int32 → St → Prop} (hs : σ.1 4 4 = nI n) (hf : f < n) (hn : n ≤ 4) (q : Q (σ.1 18 f) σ) : w_X4_seatsOf (nI f) σ Q := by
  unfold w_X4_seatsOf
  refine X4_has_t hs hf hn (b1 ⟨vp_in_nI (by omega) (by omega), ?_⟩)
  rw [n_clamp (by omega)]; exact q
theorem X4_seatsOf_f {σ : St} {x : Int32} {n : Nat} {Q : Int32 → St → Prop} (hs : σ.1 4 4 = nI n) (hx : outR x n) (q : Q (-1) σ) : w_X4_seatsOf x σ Q := by
  unfold w_X4_seatsOf
  exact X4_has_f hs hx (b0 q)
theorem X4_turnOf_t {σ : St} {f n : Nat} {Q : Int32 → St → Prop} (hs : σ.1 4 4 = nI n) (hf : f < n) (hn : n ≤ 4) (q : Q (σ.1 19 f) σ) : w_X4_turnOf (nI f) σ Q := by
  unfold w_X4_turnOf
  refine X4_has_t hs hf hn (b1 ⟨vp_in_nI (by omega) (by omega), ?_⟩)
  rw [n_clamp (by omega)]; exact q
theorem X4_turnOf_f {σ : St} {x : Int32} {n : Nat} {Q : Int32 → St → Prop} (hs : σ.1 4 4 = nI n) (hx : outR x n) (q : Q (-1) σ) : w_X4_turnOf x σ Q := by
  unfold w_X4_turnOf
  exact X4_has_f hs hx (b0 q)
theorem X4_rateOf_t {σ : St} {f n : Nat} {Q : Int32 → St → Prop} (hs : σ.1 4 4 = nI n) (hf : f < n) (hn : n ≤ 4) (q : Q (σ.1 20 f) σ) : w_X4_rateOf (nI f) σ Q := by
  unfold w_X4_rateOf
  refine X4_has_t hs hf hn (b1 ⟨vp_in_nI (by omega) (by omega), ?_⟩)
  rw [n_clamp (by omega)]; exact q
theorem X4_rateOf_f {σ : St} {x : Int32} {n : Nat} {Q : Int32 → St → Prop} (hs : σ.1 4 4 = nI n) (hx : outR x n) (q : Q (-1) σ) : w_X4_rateOf x σ Q := by
  unfold w_X4_rateOf
  exact X4_has_f hs hx (b0 q)
theorem X3_stateOf_t {σ : St} {f n : Nat} {Q : Int32 → St → Prop} (hs : σ.1 10 7 = nI n) (hf : f < n) (hn : n ≤ 40) (q : Q (σ.1 38 f) σ) : w_X3_stateOf (nI f) σ Q := by
  unfold w_X3_stateOf
  refine X3_has_t hs hf hn (b1 ⟨vp_in_nI (by omega) (by omega), ?_⟩)
  rw [n_clamp (by omega)]; exact q
theorem X3_stateOf_f {σ : St} {x : Int32} {n : Nat} {Q : Int32 → St → Prop} (hs : σ.1 10 7 = nI n) (hx : outR x n) (q : Q (-1) σ) : w_X3_stateOf x σ Q := by
  unfold w_X3_stateOf
  exact X3_has_f hs hx (b0 q)
theorem X3_priceOf_t {σ : St} {f n : Nat} {Q : Int32 → St → Prop} (hs : σ.1 10 7 = nI n) (hf : f < n) (hn : n ≤ 40) (q : Q (σ.1 42 f) σ) : w_X3_priceOf (nI f) σ Q := by
  unfold w_X3_priceOf
  refine X3_has_t hs hf hn (b1 ⟨vp_in_nI (by omega) (by omega), ?_⟩)
  rw [n_clamp (by omega)]; exact q
theorem X3_priceOf_f {σ : St} {x : Int32} {n : Nat} {Q : Int32 → St → Prop} (hs : σ.1 10 7 = nI n) (hx : outR x n) (q : Q (-1) σ) : w_X3_priceOf x σ Q := by
  unfold w_X3_priceOf
  exact X3_has_f hs hx (b0 q)
theorem X3_tillOf_t {σ : St} {f n : Nat} {Q : Int32 → St → Prop} (hs : σ.1 10 7 = nI n) (hf : f < n) (hn : n ≤ 40) (q : Q (σ.1 43 f) σ) : w_X3_tillOf (nI f) σ Q := by
  unfold w_X3_tillOf
  refine X3_has_t hs hf hn (b1 ⟨vp_in_nI (by omega) (by omega), ?_⟩)
  rw [n_clamp (by omega)]; exact q
theorem X3_tillOf_f {σ : St} {x : Int32} {n : Nat} {Q : Int32 → St → Prop} (hs : σ.1 10 7 = nI n) (hx : outR x n) (q : Q (-1) σ) : w_X3_tillOf x σ Q := by
  unfold w_X3_tillOf
  exact X3_has_f hs hx (b0 q)
theorem X3_clientOf_t {σ : St} {f n : Nat} {Q : Int32 → St → Prop} (hs : σ.1 10 7 = nI n) (hf : f < n) (hn : n ≤ 40) (q : Q (σ.1 44 f) σ) : w_X3_clientOf (nI f) σ Q := by
  unfold w_X3_clientOf
  refine X3_has_t hs hf hn (b1 ⟨vp_in_nI (by omega) (by omega), ?_⟩)
  rw [n_clamp (by omega)]; exact q
theorem X3_clientOf_f {σ : St} {x : Int32} {n : Nat} {Q : Int32 → St → Prop} (hs : σ.1 10 7 = nI n) (hx : outR x n) (q : Q (-1) σ) : w_X3_clientOf x σ Q := by
  unfold w_X3_clientOf
  exact X3_has_f hs hx (b0 q)
theorem X3_planeOf_t {σ : St} {f n : Nat} {Q : Int32 → St → Prop} (hs : σ.1 10 7 = nI n) (hf : f < n) (hn : n ≤ 40) (q : Q (σ.1 40 f) σ) : w_X3_planeOf (nI f) σ Q := by
  unfold w_X3_planeOf
  refine X3_has_t hs hf hn (b1 ⟨vp_in_nI (by omega) (by omega), ?_⟩)
  rw [n_clamp (by omega)]; exact q
theorem X3_planeOf_f {σ : St} {x : Int32} {n : Nat} {Q : Int32 → St → Prop} (hs : σ.1 10 7 = nI n) (hx : outR x n) (q : Q (-1) σ) : w_X3_planeOf x σ Q := by
  unfold w_X3_planeOf
  exact X3_has_f hs hx (b0 q)
theorem X3_flightOf_t {σ : St} {f n : Nat} {Q : Int32 → St → Prop} (hs : σ.1 10 7 = nI n) (hf : f < n) (hn : n ≤ 40) (q : Q (σ.1 41 f) σ) : w_X3_flightOf (nI f) σ Q := by
  unfold w_X3_flightOf
  refine X3_has_t hs hf hn (b1 ⟨vp_in_nI (by omega) (by omega), ?_⟩)
  rw [n_clamp (by omega)]; exact q
theorem X3_flightOf_f {σ : St} {x : Int32} {n : Nat} {Q : Int32 → St → Prop} (hs : σ.1 10 7 = nI n) (hx : outR x n) (q : Q (-1) σ) : w_X3_flightOf x σ Q := by
  unfold w_X3_flightOf
  exact X3_has_f hs hx (b0 q)
theorem isFl_t {τ : St} {f n : Nat} {Q : Int32 → St → Prop} (hs : τ.1 0 14 = nI n) (hf : f < n) (hn : n ≤ 20) (q : Q 1 τ) : w_X11_isFlight (nI f) τ Q := by
  unfold w_X11_isFlight
  exact lies_ix hs hf (by omega) ⟨Or.inr rfl, q⟩
theorem isFl_f {τ : St} {x : Int32} {n : Nat} {Q : Int32 → St → Prop} (hs : τ.1 0 14 = nI n) (hx : outR x n) (hn : n ≤ 20) (q : Q 0 τ) : w_X11_isFlight x τ Q := by
  unfold w_X11_isFlight
  exact lies_out hs hx (by omega) ⟨Or.inl rfl, q⟩
theorem isLive_t {σ : St} {f n : Nat} {Q : Int32 → St → Prop} (hs : σ.1 5 6 = nI n) (hf : f < n) (hn : n ≤ 20) (q1 : σ.1 25 f = 0 → Q 1 σ) (q0 : ¬ σ.1 25 f = 0 → Q 0 σ) : w_X1_isLive (nI f) σ Q := by
  unfold w_X1_isLive
  refine X1_has_t hs hf hn (b1 ⟨vp_in_nI (by omega) (by omega), ?_⟩)
  rw [n_clamp (by omega)]
  exact ⟨q0, q1⟩
theorem isLive_f {σ : St} {x : Int32} {n : Nat} {Q : Int32 → St → Prop} (hs : σ.1 5 6 = nI n) (hx : outR x n) (q0 : Q 0 σ) : w_X1_isLive x σ Q := by
  unfold w_X1_isLive
  exact X1_has_f hs hx (b0 q0)
-- fields as numbers
theorem fld {x : Int32} (h : inR x 0 7) : ∃ j, j < 8 ∧ x = nI j := by
  obtain ⟨j, hj, e⟩ := inR_N (n := 7) h (by omega)
  exact ⟨j, by omega, e⟩
theorem ixw (a b : Nat) : nI a * 8 + nI b = nI (8 * a + b) := by
  rw [show (8 : Int32) = nI 8 from rfl, pk_mul, nI_add, Nat.mul_comm]
theorem ixm (a b : Nat) : 8 * nI a + nI b = nI (8 * a + b) := by
  rw [show (8 : Int32) = nI 8 from rfl, pk_mul, nI_add]
/-- minutes between two fields -/
theorem mins_t {σ : St} {a b : Nat} {Q : Int32 → St → Prop} (ha : a < 8) (hb : b < 8) (q : Q (σ.1 16 (8 * a + b)) σ) : w_X9_minutes (nI a) (nI b) σ Q := by
  unfold w_X9_minutes
  have e : ∀ x : Nat, x < 8 → inR (nI x) 0 7 := fun x hx => ⟨by rw [nI_toInt (by omega)]; omega, by rw [nI_toInt (by omega)]; omega⟩
  refine isField_t (e a ha) (b1 (isField_t (e b hb) (b1 ?_)))
  rw [ixw]
  refine ⟨vp_in_nI (by omega) (by omega), ?_⟩
  rw [n_clamp (by omega)]; exact q
theorem minsM_t {τ : St} {a b : Nat} {Q : Int32 → St → Prop} (ha : a < 8) (hb : b < 8) (q : Q (τ.1 5 (8 * a + b)) τ) : w_X11_minutes (nI a) (nI b) τ Q := by
  unfold w_X11_minutes
  rw [ixm]
  refine ⟨vp_in_nI (by omega) (by omega), ?_⟩
  rw [n_clamp (by omega)]; exact q
theorem mins_f {σ : St} {x y : Int32} {Q : Int32 → St → Prop} (h : ¬ (inR x 0 7 ∧ inR y 0 7)) (q : Q 0 σ) : w_X9_minutes x y σ Q := by
  unfold w_X9_minutes
  exact isField_w (fun h1 => b1 (isField_w (fun h2 => absurd ⟨h1, h2⟩ h) (fun _ => b0 q))) (fun _ => b0 q)
