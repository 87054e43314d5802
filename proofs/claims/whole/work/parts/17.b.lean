/-! ===== what a plan is weighed by ===== -/
def dg (np x : Nat) : Nat := if x = np then 9 else x
def mvd (b : Nat → Int32) (q k : Nat) : Nat := if b k = -1 ∨ b k = nI q then 0 else 1
def own (mw n : Nat) (b : Nat → Int32) (q k : Nat) : Nat := mvd b q k * mw + q * 10 ^ (n - 1 - k)
def csum (g : Nat → Nat) (S n : Nat) : Nat := sumN (fun k => if S.testBit k = true then g k else 0) n
def CfD (mw n np : Nat) (b : Nat → Int32) (E : Nat → Nat → Nat) (q S : Nat) : Nat := if q < np then csum (own mw n b q) S n + E q S * 100000000 else csum (fun k => 100000000000000 + own mw n b 9 k) S n
def unfl (np : Nat) (a : Nat → Nat) (n : Nat) : Nat := sumN (fun k => if a k = np then 1 else 0) n
def flw (np : Nat) (a : Nat → Nat) (n : Nat) : Nat := sumN (fun k => if a k < np then 1 else 0) n
def mov (np : Nat) (b : Nat → Int32) (a : Nat → Nat) (n : Nat) : Nat := sumN (fun k => mvd b (dg np (a k)) k) n
def emp (E : Nat → Nat → Nat) (np : Nat) (a : Nat → Nat) (n : Nat) : Nat := sumN (fun q => E q (setO a n q)) np
def rowV (np : Nat) (a : Nat → Nat) : Nat → Nat
  | 0 => 0
  | j + 1 => 10 * rowV np a j + dg np (a j)
def rowB (np : Nat) (a : Nat → Nat) : Nat → Nat
  | 0 => 0
  | j + 1 => (np + 1) * rowB np a j + a j
theorem sumN_pick {G : Nat → Nat} {x : Nat} : ∀ m, x < m → sumN (fun q => if x = q then G q else 0) m = G x
  | 0, h => absurd h (Nat.not_lt_zero x)
  | m + 1, h => by
    rw [sumN]
    by_cases e : x = m
    · subst e
      rw [if_pos rfl, sumN_zero x (fun j hj => if_neg (by omega))]; omega
    · rw [if_neg e, sumN_pick m (by omega)]; omega
theorem csum_set {g : Nat → Nat} {a : Nat → Nat} {n q : Nat} : csum g (setO a n q) n = sumN (fun k => if a k = q then g k else 0) n := by
  unfold csum
  refine sumN_congr n (fun k hk => ?_)
  rw [setO_bit]
  by_cases e : a k = q
  · rw [if_pos e, if_pos (decide_eq_true ⟨hk, e⟩)]
  · rw [if_neg e, if_neg (fun z => e (of_decide_eq_true z).2)]
theorem csum_all {G : Nat → Nat → Nat} {a : Nat → Nat} {n m : Nat} (h : ∀ k, k < n → a k < m) : sumN (fun q => csum (G q) (setO a n q) n) m = sumN (fun k => G (a k) k) n := by
  rw [sumN_congr m (fun q _ => csum_set (g := G q) (a := a) (n := n) (q := q)), ← sumN_swap (fun q k => if a k = q then G q k else 0) m n]
  refine sumN_congr n (fun k hk => ?_)
  exact sumN_pick (G := fun q => G q k) m (h k hk)
theorem row_sum {np : Nat} {a : Nat → Nat} : ∀ n, sumN (fun k => dg np (a k) * 10 ^ (n - 1 - k)) n = rowV np a n
  | 0 => rfl
  | n + 1 => by
    rw [sumN, rowV, ← row_sum n, ← sumN_mul]
    have e : sumN (fun k => dg np (a k) * 10 ^ (n + 1 - 1 - k)) n = sumN (fun k => 10 * (dg np (a k) * 10 ^ (n - 1 - k))) n := by
      refine sumN_congr n (fun k hk => ?_)
      rw [show n + 1 - 1 - k = (n - 1 - k) + 1 by omega, Nat.pow_succ, ← Nat.mul_assoc, Nat.mul_comm 10]
    rw [e, show n + 1 - 1 - n = 0 by omega, Nat.pow_zero, Nat.mul_one]
theorem T_eq {mw n np : Nat} {b : Nat → Int32} {E : Nat → Nat → Nat} {a : Nat → Nat} (h : ∀ k, k < n → a k ≤ np) : Vl (CfD mw n np b E) n a (np + 1) = 100000000000000 * unfl np a n + mw * mov np b a n + 100000000 * emp E np a n + rowV np a n := by
  have e1 : Vl (CfD mw n np b E) n a (np + 1) = sumN (fun q => csum (fun k => if q < np then own mw n b q k else 100000000000000 + own mw n b 9 k) (setO a n q) n) (np + 1) + 100000000 * emp E np a n := by
    unfold Vl emp
    rw [sumN, sumN, ← sumN_mul]
    have l1 : CfD mw n np b E np (setO a n np) = csum (fun k => if np < np then own mw n b np k else 100000000000000 + own mw n b 9 k) (setO a n np) n := by
      unfold CfD
      rw [if_neg (Nat.lt_irrefl np)]
      unfold csum
      refine sumN_congr n (fun k _ => ?_)
      dsimp only
      rw [if_neg (Nat.lt_irrefl np)]
    have l2 : sumN (fun q => CfD mw n np b E q (setO a n q)) np = sumN (fun q => csum (fun k => if q < np then own mw n b q k else 100000000000000 + own mw n b 9 k) (setO a n q) n + 100000000 * E q (setO a n q)) np := by
      refine sumN_congr np (fun q hq => ?_)
      unfold CfD
      rw [if_pos hq, Nat.mul_comm 100000000]
      congr 1
      unfold csum
      refine sumN_congr n (fun k _ => ?_)
      dsimp only
      rw [if_pos hq]
    rw [l1, l2, sumN_add]
    omega
  rw [e1, csum_all (G := fun q k => if q < np then own mw n b q k else 100000000000000 + own mw n b 9 k) (fun k hk => by have := h k hk; omega)]
  have e2 : sumN (fun k => if a k < np then own mw n b (a k) k else 100000000000000 + own mw n b 9 k) n = sumN (fun k => (100000000000000 * (if a k = np then 1 else 0) + mw * mvd b (dg np (a k)) k) + dg np (a k) * 10 ^ (n - 1 - k)) n := by
    refine sumN_congr n (fun k hk => ?_)
    have := h k hk
    unfold own dg
    by_cases e : a k = np
    · rw [if_neg (by omega), if_pos e, if_pos e, Nat.mul_comm (mvd b 9 k)]; omega
    · rw [if_pos (by omega), if_neg e, if_neg e, Nat.mul_comm (mvd b (a k) k)]; omega
  rw [e2, sumN_add, sumN_add, sumN_mul, sumN_mul, row_sum]
  unfold unfl mov
  omega
theorem dg_le {np x : Nat} (h4 : np ≤ 4) (h : x ≤ np) : dg np x ≤ 9 := by unfold dg; split <;> omega
theorem dg_inj {np x y : Nat} (h4 : np ≤ 4) (hx : x ≤ np) (hy : y ≤ np) (e : dg np x = dg np y) : x = y := by
  unfold dg at e
  split at e <;> split at e <;> omega
theorem dg_mono {np x y : Nat} (h4 : np ≤ 4) (hx : x ≤ np) (hy : y ≤ np) (e : x < y) : dg np x < dg np y := by
  unfold dg
  split <;> split <;> omega
theorem rowV_lt {np : Nat} {a : Nat → Nat} (h4 : np ≤ 4) : ∀ n, (∀ k, k < n → a k ≤ np) → rowV np a n < 10 ^ n
  | 0, _ => by show (0 : Nat) < 1; omega
  | n + 1, h => by
    have := rowV_lt h4 n (fun k hk => h k (by omega))
    have := dg_le h4 (h n (by omega))
    rw [rowV, Nat.pow_succ]
    omega
theorem rowV_inj {np : Nat} {a b : Nat → Nat} (h4 : np ≤ 4) : ∀ n, (∀ k, k < n → a k ≤ np) → (∀ k, k < n → b k ≤ np) → rowV np a n = rowV np b n → ∀ k, k < n → a k = b k
  | 0, _, _, _ => fun k hk => absurd hk (Nat.not_lt_zero k)
  | n + 1, ha, hb, e => by
    have la := dg_le h4 (ha n (by omega))
    have lb := dg_le h4 (hb n (by omega))
    rw [rowV, rowV] at e
    intro k hk
    by_cases hkn : k = n
    · subst hkn
      exact dg_inj h4 (ha k (by omega)) (hb k (by omega)) (by omega)
    · exact rowV_inj h4 n (fun k hk => ha k (by omega)) (fun k hk => hb k (by omega)) (by omega) k (by omega)
theorem rowB_cmp {np : Nat} {a b : Nat → Nat} (h4 : np ≤ 4) : ∀ n, (∀ k, k < n → a k ≤ np) → (∀ k, k < n → b k ≤ np) → (rowB np a n = rowB np b n → rowV np a n = rowV np b n) ∧ (rowB np a n < rowB np b n → rowV np a n < rowV np b n)
  | 0, _, _ => ⟨fun _ => rfl, fun h => absurd h (Nat.lt_irrefl _)⟩
  | n + 1, ha, hb => by
    have ih := rowB_cmp h4 n (fun k hk => ha k (by omega)) (fun k hk => hb k (by omega))
    have xa := ha n (by omega)
    have xb := hb n (by omega)
    have la := dg_le h4 xa
    have lb := dg_le h4 xb
    have cmp : ∀ A B x y : Nat, x ≤ np → y ≤ np → A < B → (np + 1) * A + x < (np + 1) * B + y := by
      intro A B x y hx hy hAB
      have : (np + 1) * (A + 1) ≤ (np + 1) * B := Nat.mul_le_mul_left _ (by omega)
      rw [Nat.mul_add] at this
      omega
    rw [rowB, rowB, rowV, rowV]
    rcases Nat.lt_trichotomy (rowB np a n) (rowB np b n) with z | z | z
    · have c := cmp _ _ _ _ xa xb z
      have := ih.2 z
      exact ⟨fun e => by omega, fun _ => by omega⟩
    · have e0 := ih.1 z
      rw [z, e0]
      refine ⟨fun e => ?_, fun e => ?_⟩
      · rw [show a n = b n by omega]
      · have := dg_mono h4 xa xb (by omega)
        omega
    · have c := cmp _ _ _ _ xb xa z
      exact ⟨fun e => by omega, fun e => by omega⟩
theorem flw_unfl {np : Nat} {a : Nat → Nat} {n : Nat} (h : ∀ k, k < n → a k ≤ np) : flw np a n + unfl np a n = n := by
  unfold flw unfl
  rw [← sumN_add]
  have : sumN (fun k => (if a k < np then 1 else 0) + (if a k = np then 1 else 0)) n = sumN (fun _ => 1) n := by
    refine sumN_congr n (fun k hk => ?_)
    have := h k hk
    by_cases e : a k = np
    · rw [if_neg (by omega), if_pos e]
    · rw [if_pos (by omega), if_neg e]
  rw [this, sumN_const, Nat.mul_one]
theorem mvd_le {b : Nat → Int32} {q k : Nat} : mvd b q k ≤ 1 := by unfold mvd; split <;> omega
theorem mov_le {np : Nat} {b : Nat → Int32} {a : Nat → Nat} {n : Nat} : mov np b a n ≤ n := by
  have := sumN_le (g := fun k => mvd b (dg np (a k)) k) (g' := fun _ => 1) n (fun k _ => mvd_le)
  rw [sumN_const, Nat.mul_one] at this
  exact this
theorem emp_le {E : Nat → Nat → Nat} {np n : Nat} {a : Nat → Nat} (hE : ∀ q S, q < np → S < 2 ^ n → E q S ≤ 600 * csum (fun _ => 1) S n) : emp E np a n ≤ 600 * n := by
  have e1 : emp E np a n ≤ sumN (fun q => 600 * csum (fun _ => 1) (setO a n q) n) np := sumN_le np (fun q hq => hE q _ hq setO_lt)
  rw [sumN_mul] at e1
  have e2 : sumN (fun q => csum (fun _ => 1) (setO a n q) n) np ≤ n := by
    rw [sumN_congr np (fun q _ => csum_set (g := fun _ => 1) (a := a) (n := n) (q := q)), ← sumN_swap (fun q k => if a k = q then 1 else 0) np n]
    have := sumN_le (g := fun k => sumN (fun q => if a k = q then 1 else 0) np) (g' := fun _ => 1) n (fun k _ => ?_)
    · rw [sumN_const, Nat.mul_one] at this
      exact this
    · by_cases e : a k < np
      · rw [sumN_pick (G := fun _ => 1) np e]; exact Nat.le_refl _
      · rw [sumN_zero np (fun j hj => if_neg (by omega))]; omega
  have := Nat.mul_le_mul_left 600 e2
  omega
/-- the parts of a plan's weight -/
def Parts (mw n np : Nat) (b : Nat → Int32) (E : Nat → Nat → Nat) (a : Nat → Nat) : Prop :=
  Vl (CfD mw n np b E) n a (np + 1) = 100000000000000 * unfl np a n + mw * mov np b a n + 100000000 * emp E np a n + rowV np a n ∧ flw np a n + unfl np a n = n ∧ mov np b a n ≤ 8 ∧ emp E np a n ≤ 4800 ∧ rowV np a n < 100000000
theorem parts {mw n np : Nat} {b : Nat → Int32} {E : Nat → Nat → Nat} {a : Nat → Nat} (h4 : np ≤ 4) (h8 : n ≤ 8) (hE : ∀ q S, q < np → S < 2 ^ n → E q S ≤ 600 * csum (fun _ => 1) S n) (h : ∀ k, k < n → a k ≤ np) : Parts mw n np b E a := by
  refine ⟨T_eq h, flw_unfl h, Nat.le_trans mov_le h8, ?_, ?_⟩
  · have := emp_le (a := a) hE
    omega
  · have := rowV_lt h4 n h
    have h10 : (10 : Nat) ^ n ≤ 10 ^ 8 := Nat.pow_le_pow_right (by omega) h8
    have : (10 : Nat) ^ 8 = 100000000 := by decide
    omega
def keyLe (mw n np : Nat) (b : Nat → Int32) (E : Nat → Nat → Nat) (a0 a : Nat → Nat) : Prop := flw np a n < flw np a0 n ∨ (flw np a n = flw np a0 n ∧ (mw * mov np b a0 n < mw * mov np b a n ∨ (mw * mov np b a0 n = mw * mov np b a n ∧ (emp E np a0 n < emp E np a n ∨ (emp E np a0 n = emp E np a n ∧ rowB np a0 n ≤ rowB np a n)))))
theorem le_T {mw n np : Nat} {b : Nat → Int32} {E : Nat → Nat → Nat} {a0 a : Nat → Nat} (hmw : mw = 0 ∨ mw = 1000000000000) (h4 : np ≤ 4) (h8 : n ≤ 8) (hE : ∀ q S, q < np → S < 2 ^ n → E q S ≤ 600 * csum (fun _ => 1) S n) (h0 : ∀ k, k < n → a0 k ≤ np) (h : ∀ k, k < n → a k ≤ np) (hk : keyLe mw n np b E a0 a) : Vl (CfD mw n np b E) n a0 (np + 1) ≤ Vl (CfD mw n np b E) n a (np + 1) := by
  obtain ⟨t0, u0, m0, e0, r0⟩ := parts (mw := mw) (b := b) h4 h8 hE h0
  obtain ⟨t1, u1, m1, e1, r1⟩ := parts (mw := mw) (b := b) h4 h8 hE h
  rw [t0, t1]
  have hrow : rowB np a0 n ≤ rowB np a n → rowV np a0 n ≤ rowV np a n := fun z => by
    have c := rowB_cmp h4 n h0 h
    rcases Nat.lt_or_ge (rowB np a0 n) (rowB np a n) with y | y
    · have := c.2 y; omega
    · have := c.1 (by omega); omega
  unfold keyLe at hk
  rcases hmw with rfl | rfl
  · rw [Nat.zero_mul, Nat.zero_mul] at hk ⊢
    rcases hk with z | ⟨z, y | ⟨-, x | ⟨x, w⟩⟩⟩
    · omega
    · omega
    · omega
    · have := hrow w; omega
  · rcases hk with z | ⟨z, y | ⟨y, x | ⟨x, w⟩⟩⟩
    · omega
    · omega
    · omega
    · have := hrow w; omega
theorem T_inj {mw n np : Nat} {b : Nat → Int32} {E : Nat → Nat → Nat} {a0 a : Nat → Nat} (hmw : mw = 0 ∨ mw = 1000000000000) (h4 : np ≤ 4) (h8 : n ≤ 8) (hE : ∀ q S, q < np → S < 2 ^ n → E q S ≤ 600 * csum (fun _ => 1) S n) (h0 : ∀ k, k < n → a0 k ≤ np) (h : ∀ k, k < n → a k ≤ np) (e : Vl (CfD mw n np b E) n a0 (np + 1) = Vl (CfD mw n np b E) n a (np + 1)) : ∀ k, k < n → a0 k = a k := by
  obtain ⟨t0, u0, m0, e0, r0⟩ := parts (mw := mw) (b := b) h4 h8 hE h0
  obtain ⟨t1, u1, m1, e1, r1⟩ := parts (mw := mw) (b := b) h4 h8 hE h
  rw [t0, t1] at e
  refine rowV_inj h4 n h0 h ?_
  rcases hmw with rfl | rfl <;> omega
