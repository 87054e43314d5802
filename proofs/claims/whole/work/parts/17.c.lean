/-! ===== the class's planner: chains weighed ===== -/
def l64 (n : Nat) : Int64 := Int64.ofNat n
theorem l64_add (a b : Nat) : l64 a + l64 b = l64 (a + b) := (Int64.ofNat_add a b).symm
theorem l64_mul (a b : Nat) : l64 a * l64 b = l64 (a * b) := (Int64.ofNat_mul a b).symm
theorem l64_toInt {n : Nat} (h : n < 2 ^ 63) : (l64 n).toInt = n := lg_ofNat_toInt h
theorem l64_lt {a b : Nat} (ha : a < 2 ^ 63) (hb : b < 2 ^ 63) : l64 a < l64 b ↔ a < b := by rw [Int64.lt_iff_toInt_lt, l64_toInt ha, l64_toInt hb]; omega
theorem l64_le {a b : Nat} (ha : a < 2 ^ 63) (hb : b < 2 ^ 63) : l64 a ≤ l64 b ↔ a ≤ b := by rw [Int64.le_iff_toInt_le, l64_toInt ha, l64_toInt hb]; omega
theorem nI_64 {j : Nat} (h : j < 2 ^ 31) : (nI j).toInt64 = l64 j := by
  rw [← Int64.toInt_inj, Jvm.Kit.i64_of_i32, nI_toInt h, l64_toInt (by omega)]
theorem shl_1 : ∀ k, k < 9 → (1 : Int32) <<< (nI k &&& 31) = nI (2 ^ k) := by decide +kernel
theorem pow_le8 {n : Nat} (h : n ≤ 8) : (2 : Nat) ^ n ≤ 256 := by
  have : (2 : Nat) ^ n ≤ 2 ^ 8 := Nat.pow_le_pow_right (by omega) h
  have : (2 : Nat) ^ 8 = 256 := by decide
  omega
theorem pick_add {S : Nat} : ∀ (L : List Nat) (k S : Nat), k < L.length → S < 2 ^ k → pick L (S + 2 ^ k) = pick L S ++ [L.getD k 0]
  | [], k, S, h, _ => absurd h (Nat.not_lt_zero k)
  | f :: L, 0, S, h, hS => by
    have : S = 0 := by have : (2 : Nat) ^ 0 = 1 := rfl; omega
    subst this
    have e1 : pick (f :: L) (0 + 2 ^ 0) = f :: pick L 0 := rfl
    have e2 : pick (f :: L) 0 = pick L 0 := rfl
    have z : ∀ L : List Nat, pick L 0 = [] := by
      intro L
      induction L with
      | nil => rfl
      | cons g L ih => exact ih
    rw [e1, e2, z L]
    rfl
  | f :: L, k + 1, S, h, hS => by
    have hb : (S + 2 ^ (k + 1)).testBit 0 = S.testBit 0 := by
      rw [Nat.testBit_zero, Nat.testBit_zero, Nat.pow_succ]
      congr 2
      omega
    have hsh : (S + 2 ^ (k + 1)) >>> 1 = (S >>> 1) + 2 ^ k := by
      rw [Nat.shiftRight_eq_div_pow, Nat.shiftRight_eq_div_pow, Nat.pow_succ, Nat.pow_one]
      omega
    have hs1 : S >>> 1 < 2 ^ k := by
      rw [Nat.pow_succ] at hS
      rw [Nat.shiftRight_eq_div_pow]
      omega
    have ih := pick_add (S := 0) L k (S >>> 1) (by simpa using h) hs1
    show (if (S + 2 ^ (k + 1)).testBit 0 = true then f :: pick L ((S + 2 ^ (k + 1)) >>> 1) else pick L ((S + 2 ^ (k + 1)) >>> 1)) = (if S.testBit 0 = true then f :: pick L (S >>> 1) else pick L (S >>> 1)) ++ [(f :: L).getD (k + 1) 0]
    rw [hb, hsh, ih]
    split <;> rfl
theorem csum_ext {g : Nat → Nat} {S k : Nat} (hS : S < 2 ^ k) : ∀ n, k ≤ n → csum g S n = csum g S k
  | 0, h => by have : k = 0 := by omega
               subst this; rfl
  | n + 1, h => by
    by_cases e : k = n + 1
    · subst e; rfl
    · have ih := csum_ext (g := g) hS n (by omega)
      have : csum g S (n + 1) = csum g S n + (if S.testBit n = true then g n else 0) := rfl
      rw [this, ih, bit_ge hS (by omega), if_neg (by decide)]
      omega
theorem csum_add {g : Nat → Nat} {S k n : Nat} (hS : S < 2 ^ k) (hk : k < n) : csum g (S + 2 ^ k) n = csum g S n + g k := by
  have h2 : S + 2 ^ k < 2 ^ (k + 1) := by rw [Nat.pow_succ]; omega
  rw [csum_ext h2 n hk, csum_ext hS n (by omega)]
  have e : csum g (S + 2 ^ k) (k + 1) = csum g (S + 2 ^ k) k + (if (S + 2 ^ k).testBit k = true then g k else 0) := rfl
  have b : (S + 2 ^ k).testBit k = true := by
    rw [Nat.add_comm, Nat.testBit_two_pow_add_eq, bit_ge hS (Nat.le_refl k)]; rfl
  rw [e, b, if_pos rfl]
  congr 1
  unfold csum
  refine sumN_congr k (fun j hj => ?_)
  rw [Nat.add_comm S, Nat.testBit_two_pow_add_gt hj]
theorem csum_le {g : Nat → Nat} {S c : Nat} : ∀ n, (∀ k, k < n → g k ≤ c) → csum g S n ≤ n * c := by
  intro n h
  have := sumN_le (g := fun k => if S.testBit k = true then g k else 0) (g' := fun _ => c) n (fun k hk => by have := h k hk; split <;> omega)
  rw [sumN_const] at this
  exact this
/-- the flights at hand, in order, and the plan's rows -/
def plN (τ : St) (row : List Nat) (k : Nat) : Int32 := τ.1 15 (row.getD k 0)
def Fp (ns : Nat) (τ : St) (row : List Nat) (p S : Nat) : Prop := fitP ns τ p (pick row S)
def Ep (τ : St) (row : List Nat) (p S : Nat) : Nat := legsN τ (τ.1 6 p) (pick row S)
def Cp (mw : Nat) (τ : St) (row : List Nat) (p S : Nat) : Nat := csum (own mw row.length (plN τ row) p) S row.length + Ep τ row p S * 100000000
def stP (τ : St) (row : List Nat) (p S : Nat) : Int32 × Int32 := finL τ (-1, 0) (recsF τ p (τ.1 6 p) (pick row S))
def plP (τ : St) (row : List Nat) (p S : Nat) : Int32 := endP (τ.1 11) (τ.1 6 p) (pick row S)
theorem legsN_app {τ : St} : ∀ (A B : List Nat) (a : Int32), legsN τ a (A ++ B) = legsN τ a A + legsN τ (endP (τ.1 11) a A) B
  | [], B, a => by show legsN τ a B = 0 + legsN τ a B; omega
  | f :: A, B, a => by
    show legN τ a f + legsN τ (τ.1 11 f) (A ++ B) = legN τ a f + legsN τ (τ.1 11 f) A + legsN τ (endP (τ.1 11) (τ.1 11 f) A) B
    rw [legsN_app A B]; omega
theorem own_le {mw n : Nat} {b : Nat → Int32} {q k : Nat} (hmw : mw ≤ 1000000000000) (h8 : n ≤ 8) (hq : q ≤ 9) : own mw n b q k ≤ 1000100000000 := by
  unfold own
  have h1 : mvd b q k * mw ≤ 1 * mw := Nat.mul_le_mul_right _ mvd_le
  have h2 : (10 : Nat) ^ (n - 1 - k) ≤ 10 ^ 7 := Nat.pow_le_pow_right (by omega) (by omega)
  have h3 : q * 10 ^ (n - 1 - k) ≤ 9 * 10 ^ 7 := Nat.mul_le_mul hq h2
  have : (10 : Nat) ^ 7 = 10000000 := by decide
  omega
section PLN
variable {G : Prop} {tl np nf ns no : Nat} {σ τ : St} {row : List Nat} {mw : Nat}
/-- what is known of the flights at hand -/
def RowOk (nf : Nat) (τ : St) (row : List Nat) : Prop := row.length ≤ 8 ∧ (∀ g ∈ row, g < nf ∧ τ.1 14 g = 0) ∧ row.Nodup
theorem row_at (hr : RowOk nf τ row) {k : Nat} (hk : k < row.length) : row.getD k 0 < nf ∧ τ.1 14 (row.getD k 0) = 0 := hr.2.1 _ (getD_mem hk)
theorem pick_lt (hr : RowOk nf τ row) {S g : Nat} (h : g ∈ pick row S) : g < nf := (hr.2.1 g (pick_mem row S h)).1
theorem legsN_le (h : RelX G tl np nf ns no σ τ) : ∀ (L : List Nat) (a : Int32), inR a 0 7 → (∀ g ∈ L, g < nf) → legsN τ a L ≤ 600 * L.length
  | [], a, _, _ => by show (0 : Nat) ≤ _; omega
  | f :: L, a, ha, hL => by
    have hf := hL f List.mem_cons_self
    have h1 := (legN_eq h hf ha).2
    have h2 := legsN_le h L (τ.1 11 f) (h.2.2.2.2.1.2.2.2.2.2.2.2.2.2.2.2.2 f hf).2.1 (fun g hg => hL g (List.mem_cons_of_mem _ hg))
    show legN τ a f + legsN τ (τ.1 11 f) L ≤ _
    rw [List.length_cons]
    omega
theorem Cp_lt (h : RelX G tl np nf ns no σ τ) (hr : RowOk nf τ row) (hmw : mw ≤ 1000000000000) {p S : Nat} (hp : p < np) : Cp mw τ row p S ≤ 9000000000000 := by
  obtain ⟨p0, -, -, -, -, -, -, p7⟩ := h.2.2.2.1
  have h1 := csum_le (g := own mw row.length (plN τ row) p) (S := S) (c := 1000100000000) row.length (fun k _ => own_le hmw hr.1 (by omega))
  have h2 := legsN_le h (pick row S) (τ.1 6 p) (p7 p hp).1 (fun g hg => pick_lt hr hg)
  have h3 := pick_len row S
  have h4 := hr.1
  unfold Cp Ep
  have h5 : row.length * 1000100000000 ≤ 8 * 1000100000000 := Nat.mul_le_mul_right _ h4
  omega
theorem Fp_add (h : RelX G tl np nf ns no σ τ) {p S k : Nat} (hk : k < row.length) (hS : S < 2 ^ k) : (Fp ns τ row p (S + 2 ^ k) ↔ (Fp ns τ row p S ∧ fitL ns τ p (stP τ row p S) (recsF τ p (plP τ row p S) [row.getD k 0]))) ∧ stP τ row p (S + 2 ^ k) = finL τ (stP τ row p S) (recsF τ p (plP τ row p S) [row.getD k 0]) ∧ plP τ row p (S + 2 ^ k) = τ.1 11 (row.getD k 0) ∧ Cp mw τ row p (S + 2 ^ k) = Cp mw τ row p S + own mw row.length (plN τ row) p k + legN τ (plP τ row p S) (row.getD k 0) * 100000000 := by
  have e := pick_add (S := 0) row k S hk hS
  refine ⟨?_, ?_, ?_, ?_⟩
  · unfold Fp fitP stP plP
    rw [e, recsF_app, fitL_app]
  · unfold stP plP
    rw [e, recsF_app, finL_app]
  · unfold plP
    rw [e, endP_app]
    rfl
  · unfold Cp Ep plP
    rw [e, legsN_app, csum_add hS hk]
    have : legsN τ (endP (τ.1 11) (τ.1 6 p) (pick row S)) [row.getD k 0] = legN τ (endP (τ.1 11) (τ.1 6 p) (pick row S)) (row.getD k 0) := Nat.add_zero _
    rw [this, Nat.add_mul]
    omega
theorem plP_in (h : RelX G tl np nf ns no σ τ) (hr : RowOk nf τ row) {p S : Nat} (hp : p < np) : inR (plP τ row p S) 0 7 := by
  obtain ⟨-, -, -, -, -, -, -, p7⟩ := h.2.2.2.1
  exact endP_in (nf := nf) (fun g hg => (h.2.2.2.2.1.2.2.2.2.2.2.2.2.2.2.2.2 g hg).2.1) _ _ (p7 p hp).1 (fun g hg => pick_lt hr hg)
theorem fin_in {p : Nat} : ∀ (l : List Rec) (s : Int32 × Int32), (∀ r ∈ l, goodR nf r) → (s.1 = -1 ∨ inR s.1 0 10079) → fitL ns τ p s l → ((finL τ s l).1 = -1 ∨ inR (finL τ s l).1 0 10079)
  | [], s, _, hs, _ => hs
  | r :: l, s, hg, hs, hf => by
    obtain ⟨g1, g2, g3, g4⟩ := hg r List.mem_cons_self
    exact fin_in l (nxt τ s r) (fun x hx => hg x (List.mem_cons_of_mem _ hx)) (Or.inr (nxD_in hs hf.1.2.1 hf.1.2.2.1 g4)) hf.2
theorem stP_in (h : RelX G tl np nf ns no σ τ) (hr : RowOk nf τ row) {p S : Nat} (hp : p < np) (hF : Fp ns τ row p S) : (stP τ row p S).1 = -1 ∨ inR (stP τ row p S).1 0 10079 := by
  obtain ⟨-, -, -, -, -, -, -, p7⟩ := h.2.2.2.1
  exact fin_in _ _ (goodR_all h hp _ _ (p7 p hp).1 (fun g hg => pick_lt hr hg)) (Or.inl rfl) hF
/-- the planner's own cells -/
def PL (σ : St) (row : List Nat) (mw : Nat) : Prop := σ.1 9 11 = nI row.length ∧ (∀ k, k < row.length → σ.1 31 k = nI (row.getD k 0)) ∧ (∀ k, k < row.length → σ.2 32 k = l64 (10 ^ (row.length - 1 - k))) ∧ σ.2 9 12 = l64 mw
def SP (σ σ' : St) : Prop := (∀ k, k ≠ 8 → k ≠ 35 → k ≠ 36 → k ≠ 37 → σ'.1 k = σ.1 k) ∧ ∀ k, k ≠ 33 → k ≠ 34 → σ'.2 k = σ.2 k
theorem SP.rf (σ : St) : SP σ σ := ⟨fun _ _ _ _ _ => rfl, fun _ _ _ => rfl⟩
theorem SP.tr {a b c : St} (h1 : SP a b) (h2 : SP b c) : SP a c := ⟨fun k e1 e2 e3 e4 => (h2.1 k e1 e2 e3 e4).trans (h1.1 k e1 e2 e3 e4), fun k e1 e2 => (h2.2 k e1 e2).trans (h1.2 k e1 e2)⟩
theorem SD.sp {a b : St} (h : SD a b) : SP a b := ⟨fun k e _ _ _ => h.1 k e, fun k _ _ => by rw [h.2]⟩
theorem SP.sc {a b : St} (h : SP a b) : SC a b := fun k _ h2 _ h4 => h.1 k h2 (by omega) (by omega) (by omega)
theorem PL.sp {σ' : St} (h : PL σ row mw) (hs : SP σ σ') : PL σ' row mw := by
  obtain ⟨h1, h2, h3, h4⟩ := h
  refine ⟨?_, fun k hk => ?_, fun k hk => ?_, ?_⟩
  · rw [hs.1 9 (by omega) (by omega) (by omega) (by omega)]; exact h1
  · rw [hs.1 31 (by omega) (by omega) (by omega) (by omega)]; exact h2 k hk
  · rw [hs.2 32 (by omega) (by omega)]; exact h3 k hk
  · rw [hs.2 9 (by omega) (by omega)]; exact h4
theorem RelX.sp (h : RelX G tl np nf ns no σ τ) {σ' : St} (hd : SP σ σ') : RelX G tl np nf ns no σ' τ := h.scratch hd.sc (SM.rf τ)
theorem ownC (h : RelX G tl np nf ns no σ τ) (hr : RowOk nf τ row) (hP : PL σ row mw) {k q : Nat} (hk : k < row.length) (hq : q ≤ 9) {Q : Int64 → St → Prop} (r : Q (l64 (own mw row.length (plN τ row) q k)) σ) : w_X5_ownCost (nI k) (nI q) σ Q := by
  obtain ⟨h1, h2, h3, h4⟩ := hP
  obtain ⟨f0, f1, -⟩ := h.2.2.2.2.1
  have r0 := h.2.2.2.2.2.2.2.1.1
  have hl := hr.1
  have hv : vp_in (nI k) 8 := vp_in_nI (by omega) (by omega)
  have hf := (row_at hr hk).1
  have ec := n_clamp (show k < 2 ^ 31 by omega)
  unfold w_X5_ownCost
  rw [ec, h2 k hk]
  refine ⟨hv, X6_planeOf_t f1 hf f0 ?_⟩
  rw [r0 _ hf]
  have J : ∀ m : Nat, m = mvd (plN τ row) q k * mw → w_X5_ownCost_32 Q (nI k) (nI q) (l64 m) σ := by
    intro m hm
    unfold w_X5_ownCost_32
    refine ⟨hv, ?_⟩
    rw [ec, h3 k hk, nI_64 (by omega), l64_mul, l64_add, hm]
    exact r
  have J31 : (plN τ row k = -1 ∨ plN τ row k = nI q) → w_X5_ownCost_31 Q (nI k) (nI q) σ := by
    intro z
    unfold w_X5_ownCost_31
    refine J 0 ?_
    unfold mvd
    rw [if_pos z, Nat.zero_mul]
  refine ⟨fun z => J31 (Or.inl z), fun z => ⟨fun y => J31 (Or.inr y), fun y => ?_⟩⟩
  rw [h4]
  refine J mw ?_
  unfold mvd
  rw [if_neg (fun w => w.elim z y), Nat.one_mul]
theorem keepC {S : Nat} {v : Int64} (hS : S < 256) {Q : St → Prop} (r : ∀ σ', SP σ σ' → σ'.1 8 = σ.1 8 → σ'.2 34 = σ.2 34 → σ'.2 33 = vp_updL (σ.2 33) S v → σ'.1 35 = upd (σ.1 35) S (σ.1 8 7) → σ'.1 36 = upd (σ.1 36) S (σ.1 8 8) → σ'.1 37 = upd (σ.1 37) S (σ.1 8 9) → Q σ') : w_X5_keep (nI S) v σ Q := by
  have hv : vp_in (nI S) 256 := vp_in_nI hS (by omega)
  have ec := n_clamp (show S < 2 ^ 31 by omega)
  unfold w_X5_keep w_X0_place w_X0_ended w_X0_dutyBegan
  rw [ec]
  refine ⟨hv, ?_⟩
  rintro s1 e1
  refine ⟨hv, ?_⟩
  rintro s2 e2
  refine ⟨hv, ?_⟩
  rintro s3 e3
  refine ⟨hv, ?_⟩
  rintro s4 e4
  refine r s4 ⟨fun k h1 h2 h3 h4 => ?_, fun k h1 h2 => ?_⟩ ?_ ?_ ?_ ?_ ?_ ?_
  · rw [e4, e3, e2, e1]
    show (if k = 37 then _ else if k = 36 then _ else if k = 35 then _ else σ.1 k) = _
    rw [if_neg h4, if_neg h3, if_neg h2]
  · rw [e4, e3, e2, e1]
    show (if k = 33 then _ else σ.2 k) = _
    rw [if_neg h1]
  · rw [e4, e3, e2, e1]; rfl
  · rw [e4, e3, e2, e1]; rfl
  · rw [e4, e3, e2, e1]; rfl
  · rw [e4, e3, e2, e1]; rfl
  · rw [e4, e3, e2, e1]; rfl
  · rw [e4, e3, e2, e1]; rfl
/-- the costs and the states of the sets below N, for plane p -/
def WI (ns mw : Nat) (τ : St) (row : List Nat) (p : Nat) (σ : St) (S : Nat) : Prop := (Fp ns τ row p S → σ.2 33 S = l64 (Cp mw τ row p S) ∧ σ.1 35 S = plP τ row p S ∧ σ.1 36 S = (stP τ row p S).2 ∧ σ.1 37 S = (stP τ row p S).1) ∧ (¬ Fp ns τ row p S → σ.2 33 S = l64 10000000000000000)
theorem behindC (h : RelX G tl np nf ns no σ τ) (hr : RowOk nf τ row) (hmw : mw ≤ 1000000000000) (hP : PL σ row mw) {p k S : Nat} (hp : p < np) (hk : k < row.length) (hS : S < 2 ^ k) (h5 : σ.1 8 5 = τ.1 7 p) (h6 : σ.1 8 6 = τ.1 8 p) (hW : WI ns mw τ row p σ S) {Q : Int64 → St → Prop}
    (q1 : Fp ns τ row p (S + 2 ^ k) → ∀ σ', SC8 σ σ' → σ'.1 8 7 = plP τ row p (S + 2 ^ k) → σ'.1 8 8 = (stP τ row p (S + 2 ^ k)).2 → σ'.1 8 9 = (stP τ row p (S + 2 ^ k)).1 → Q (l64 (Cp mw τ row p (S + 2 ^ k))) σ') (q0 : ¬ Fp ns τ row p (S + 2 ^ k) → ∀ σ', SC8 σ σ' → Q (l64 10000000000000000) σ') : w_X5_costBehind (nI S) (nI k) (l64 (own mw row.length (plN τ row) p k)) σ Q := by
  have hl := hr.1
  have h2k : (2 : Nat) ^ k ≤ 256 := pow_le8 (by omega)
  have hv : vp_in (nI S) 256 := vp_in_nI (by omega) (by omega)
  have ec := n_clamp (show S < 2 ^ 31 by omega)
  obtain ⟨a1, a2, a3, a4⟩ := Fp_add (mw := mw) (p := p) h hk hS
  obtain ⟨g1, g2⟩ := row_at hr hk
  have cl := Cp_lt (S := S) h hr hmw hp
  unfold w_X5_costBehind
  rw [ec]
  refine ⟨hv, fun z => ?_, fun z => ?_⟩
  · have hF : Fp ns τ row p S := by
      refine Classical.byContradiction (fun y => ?_)
      rw [hW.2 y] at z
      have := (lg_cmp_lt _ _).mp z
      exact absurd this (by decide)
    obtain ⟨w1, w2, w3, w4⟩ := hW.1 hF
    refine ⟨hv, hv, hv, ?_⟩
    unfold w_X0_resume
    rw [w2, w3, w4]
    rintro _ rfl _ rfl _ rfl
    have s8 : SC8 σ (wr (wr (wr σ 8 7 (plP τ row p S)) 8 8 (stP τ row p S).2) 8 9 (stP τ row p S).1) := ((SC8.w (by omega) (by omega)).tr (SC8.w (by omega) (by omega))).tr (SC8.w (by omega) (by omega))
    have hP' := hP.sp s8.sd.sp
    refine ⟨vp_in_nI (by omega) (by omega), ?_⟩
    rw [n_clamp (show k < 2 ^ 31 by omega), hP'.2.1 k hk]
    refine join_t (h.c8 s8) hp g1 g2 (a := plP τ row p S) (s := stP τ row p S) (s8.2.2.1.trans h5) (s8.2.2.2.trans h6) rfl (plP_in h hr hp) rfl rfl (stP_in h hr hp hF) (fun y hin σ' c8 v7 v8 v9 => ct (legC_ne h g1 (plP_in h hr hp)).2 ⟨hv, ?_⟩) (fun y σ' c8 => cf rfl (q0 (fun w => y (a1.mp w).2) σ' (s8.tr c8)))
    obtain ⟨b1, b2⟩ := legN_eq h g1 (plP_in (S := S) h hr hp)
    have e33 : σ'.2 33 S = l64 (Cp mw τ row p S) := by rw [c8.2.1]; exact w1
    rw [e33, b1, nI_64 (by omega), show (100000000 : Int64) = l64 100000000 from rfl, l64_mul, l64_add, l64_add, ← a4]
    refine q1 (a1.mpr ⟨hF, y⟩) σ' (s8.tr c8) ?_ ?_ ?_
    · rw [a3]; exact v7
    · rw [a2]; exact v8
    · rw [a2]; exact v9
  · refine q0 (fun w => z ?_) σ (SC8.rf σ)
    have hF := (a1.mp w).1
    rw [(hW.1 hF).1, lg_cmp_lt, show (10000000000000000 : Int64) = l64 10000000000000000 from rfl, l64_lt (by omega) (by omega)]
    omega
theorem vp_updL_eq {f : Nat → Int64} {k : Nat} {v : Int64} : vp_updL f k v k = v := if_pos rfl
theorem vp_updL_ne {f : Nat → Int64} {k j : Nat} {v : Int64} (h : j ≠ k) : vp_updL f k v j = f j := if_neg h
theorem weighC (h : RelX G tl np nf ns no σ τ) (hr : RowOk nf τ row) (hmw : mw ≤ 1000000000000) (hP : PL σ row mw) {p : Nat} (hp : p < np) {Q : St → Prop} (q : ∀ σ', SP σ σ' → σ'.2 34 = σ.2 34 → (∀ S, S < 2 ^ row.length → WI ns mw τ row p σ' S) → Q σ') : w_X5_weighChains (nI p) σ Q := by
  have hl := hr.1
  have p0 := h.2.2.2.1.1
  unfold w_X5_weighChains
  refine begin_t h hp (fun σ1 c1 k5 k6 k7 k8 k9 => keepC (S := 0) (by omega) (fun σ2 c2 e8 e34 e33 e35 e36 e37 => ⟨row.length + 1, ?_⟩))
  have s12 := c1.sp.tr c2
  have w0 : WI ns mw τ row p σ2 0 := by
    have hz : ∀ L : List Nat, pick L 0 = [] := by
      intro L
      induction L with
      | nil => rfl
      | cons g L ih => exact ih
    have hc : Cp mw τ row p 0 = 0 := by
      unfold Cp Ep
      rw [hz]
      have : csum (own mw row.length (plN τ row) p) 0 row.length = 0 := sumN_zero _ (fun j _ => by rw [Nat.zero_testBit]; rfl)
      have t2 : legsN τ (τ.1 6 p) [] = 0 := rfl
      rw [this, t2]
    refine ⟨fun _ => ⟨?_, ?_, ?_, ?_⟩, fun n => absurd ?_ n⟩
    · rw [e33, vp_updL_eq, hc]; rfl
    · rw [e35, upd_eq, k7]; unfold plP; rw [hz]; rfl
    · rw [e36, upd_eq, k8]; unfold stP; rw [hz]; rfl
    · rw [e37, upd_eq, k9]; unfold stP; rw [hz]; rfl
    · unfold Fp fitP; rw [hz]; exact trivial
  have outer : ∀ (d k : Nat) (σ3 : St), k + d = row.length → SP σ σ3 → σ3.2 34 = σ.2 34 → σ3.1 8 5 = τ.1 7 p → σ3.1 8 6 = τ.1 8 p → (∀ S, S < 2 ^ k → WI ns mw τ row p σ3 S) → w_X5_weighChains_16 Q (d + 1) (nI p) (nI k) σ3 := by
    intro d
    induction d with
    | zero =>
      intro k σ3 hk s3 t34 t5 t6 hW
      obtain rfl : k = row.length := by omega
      refine bt ?_ (q σ3 s3 t34 hW)
      rw [(hP.sp s3).1, nI_leI (by omega) (by omega)]; omega
    | succ d ih =>
      intro k σ3 hk s3 t34 t5 t6 hW
      have hkl : k < row.length := by omega
      have h2k : (2 : Nat) ^ (k + 1) ≤ 256 := pow_le8 (by omega)
      have h2s : (2 : Nat) ^ (k + 1) = 2 ^ k + 2 ^ k := by rw [Nat.pow_succ]; omega
      have hP3 := hP.sp s3
      refine bf (by rw [hP3.1, nI_leI (by omega) (by omega)]; omega) (ownC (h.sp s3) hr hP3 hkl (by omega) ⟨2 ^ k + 1, ?_⟩)
      rw [shl_1 k (by omega)]
      have inner : ∀ (e S : Nat) (σ4 : St), S + e = 2 ^ k → SP σ σ4 → σ4.2 34 = σ.2 34 → σ4.1 8 5 = τ.1 7 p → σ4.1 8 6 = τ.1 8 p → (∀ S', S' < 2 ^ k + S → WI ns mw τ row p σ4 S') → w_X5_weighChains_39 Q (fun x1 x2 σ => w_X5_weighChains_16 Q (d + 1) x1 x2 σ) (e + 1) (nI p) (nI k) (nI (2 ^ k)) (l64 (own mw row.length (plN τ row) p k)) (nI S) σ4 := by
        intro e
        induction e with
        | zero =>
          intro S σ4 hS s4 u34 u5 u6 hW4
          obtain rfl : S = 2 ^ k := by omega
          refine bt (by rw [nI_leI (by omega) (by omega)]; omega) ?_
          rw [nI_1]
          exact ih (k + 1) σ4 (by omega) s4 u34 u5 u6 (fun S' hS' => hW4 S' (by omega))
        | succ e ihe =>
          intro S σ4 hS s4 u34 u5 u6 hW4
          have hlt : S < 2 ^ k := by omega
          refine bf (by rw [nI_leI (by omega) (by omega)]; omega) ?_
          have fin : ∀ (v : Int64) (σ5 : St), SC8 σ4 σ5 → (Fp ns τ row p (S + 2 ^ k) → v = l64 (Cp mw τ row p (S + 2 ^ k)) ∧ σ5.1 8 7 = plP τ row p (S + 2 ^ k) ∧ σ5.1 8 8 = (stP τ row p (S + 2 ^ k)).2 ∧ σ5.1 8 9 = (stP τ row p (S + 2 ^ k)).1) → (¬ Fp ns τ row p (S + 2 ^ k) → v = l64 10000000000000000) → w_X5_keep (nI S + nI (2 ^ k)) v σ5 (fun σ_4 => w_X5_weighChains_39 Q (fun x1 x2 σ => w_X5_weighChains_16 Q (d + 1) x1 x2 σ) (e + 1) (nI p) (nI k) (nI (2 ^ k)) (l64 (own mw row.length (plN τ row) p k)) (nI S + 1) σ_4) := by
            intro v σ5 c5 hy hn
            rw [nI_add, nI_1]
            refine keepC (by omega) (fun σ6 c6 e8 e34 e33 e35 e36 e37 => ?_)
            refine ihe (S + 1) σ6 (by omega) ((s4.tr c5.sd.sp).tr c6) ?_ ?_ ?_ (fun S' hS' => ?_)
            · rw [e34, c5.2.1]; exact u34
            · rw [e8, c5.2.2.1]; exact u5
            · rw [e8, c5.2.2.2]; exact u6
            · by_cases ee : S' = S + 2 ^ k
              · subst ee
                refine ⟨fun y => ?_, fun y => ?_⟩
                · obtain ⟨y1, y2, y3, y4⟩ := hy y
                  rw [e33, e35, e36, e37, vp_updL_eq, upd_eq, upd_eq, upd_eq]
                  exact ⟨y1, y2, y3, y4⟩
                · rw [e33, vp_updL_eq]; exact hn y
              · have := hW4 S' (by omega)
                unfold WI at this ⊢
                rw [e33, e35, e36, e37, vp_updL_ne ee, upd_ne ee, upd_ne ee, upd_ne ee, c5.2.1, c5.1 35 (by omega), c5.1 36 (by omega), c5.1 37 (by omega)]
                exact this
          refine behindC (h.sp s4) hr hmw (hP.sp s4) hp hkl hlt u5 u6 (hW4 S (by omega)) (fun y σ5 c5 v7 v8 v9 => fin _ σ5 c5 (fun _ => ⟨rfl, v7, v8, v9⟩) (fun n => absurd y n)) (fun y σ5 c5 => fin _ σ5 c5 (fun n => absurd n y) (fun _ => rfl))
      exact inner (2 ^ k) 0 σ3 (by omega) s3 t34 t5 t6 (fun S' hS' => hW S' (by omega))
  refine outer row.length 0 σ2 (by omega) s12 ?_ ?_ ?_ (fun S hS => ?_)
  · rw [e34, c1.2]
  · rw [e8]; exact k5
  · rw [e8]; exact k6
  · have : S = 0 := by have : (2 : Nat) ^ 0 = 1 := rfl; omega
    subst this
    exact w0
end PLN
