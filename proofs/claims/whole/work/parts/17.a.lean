/-! ===== sets of flights as bits, the least sum over all ways to share them out ===== -/
theorem sumN_mul (c : Nat) (g : Nat → Nat) : ∀ n, sumN (fun k => c * g k) n = c * sumN g n
  | 0 => rfl
  | n + 1 => by rw [sumN, sumN, sumN_mul c g n, Nat.mul_add]
theorem sumN_le {g g' : Nat → Nat} : ∀ n, (∀ j, j < n → g j ≤ g' j) → sumN g n ≤ sumN g' n
  | 0, _ => Nat.le_refl _
  | n + 1, h => by
    have := sumN_le n (fun j hj => h j (by omega))
    have := h n (by omega)
    rw [sumN, sumN]; omega
theorem sumN_const (c : Nat) : ∀ n, sumN (fun _ => c) n = n * c
  | 0 => by rw [sumN, Nat.zero_mul]
  | n + 1 => by rw [sumN, sumN_const c n, Nat.add_mul, Nat.one_mul]
def bitS (P : Nat → Prop) [DecidablePred P] : Nat → Nat := sumN (fun k => if P k then 2 ^ k else 0)
theorem bitS_lt (P : Nat → Prop) [DecidablePred P] : ∀ n, bitS P n < 2 ^ n
  | 0 => by show (0 : Nat) < 1; omega
  | n + 1 => by
    have := bitS_lt P n
    show bitS P n + (if P n then 2 ^ n else 0) < 2 ^ (n + 1)
    rw [Nat.pow_succ]
    split <;> omega
theorem bitS_bit (P : Nat → Prop) [DecidablePred P] (j : Nat) : ∀ n, (bitS P n).testBit j = decide (j < n ∧ P j)
  | 0 => by
    show (0 : Nat).testBit j = _
    rw [Nat.zero_testBit]
    symm
    exact decide_eq_false (fun h => absurd h.1 (Nat.not_lt_zero j))
  | n + 1 => by
    have ih := bitS_bit P j n
    have hlt := bitS_lt P n
    have e : bitS P (n + 1) = bitS P n + (if P n then 2 ^ n else 0) := rfl
    rw [e]
    by_cases hp : P n
    · rw [if_pos hp, Nat.add_comm]
      rcases Nat.lt_trichotomy j n with hj | hj | hj
      · rw [Nat.testBit_two_pow_add_gt hj, ih]
        by_cases hq : P j
        · rw [decide_eq_true ⟨hj, hq⟩, decide_eq_true ⟨by omega, hq⟩]
        · rw [decide_eq_false (fun z => hq z.2), decide_eq_false (fun z => hq z.2)]
      · subst hj
        rw [Nat.testBit_two_pow_add_eq, Nat.testBit_lt_two_pow hlt]
        symm
        exact decide_eq_true ⟨by omega, hp⟩
      · rw [Nat.testBit_lt_two_pow, decide_eq_false (fun z => by omega)]
        have : (2 : Nat) ^ (n + 1) ≤ 2 ^ j := Nat.pow_le_pow_right (by omega) (by omega)
        rw [Nat.pow_succ] at this
        omega
    · rw [if_neg hp, Nat.add_zero, ih]
      by_cases hj : j = n
      · subst hj
        rw [decide_eq_false (fun z => by omega), decide_eq_false (fun z => hp z.2)]
      · by_cases hq : j < n ∧ P j
        · rw [decide_eq_true hq, decide_eq_true ⟨by omega, hq.2⟩]
        · rw [decide_eq_false hq, decide_eq_false (fun z => hq ⟨by omega, z.2⟩)]
/-- those that go to q -/
def setO (a : Nat → Nat) (n q : Nat) : Nat := bitS (fun k => a k = q) n
theorem setO_bit {a : Nat → Nat} {n q j : Nat} : (setO a n q).testBit j = decide (j < n ∧ a j = q) := bitS_bit _ j n
theorem setO_lt {a : Nat → Nat} {n q : Nat} : setO a n q < 2 ^ n := bitS_lt _ n
theorem bit_ge {S n j : Nat} (h : S < 2 ^ n) (hj : n ≤ j) : S.testBit j = false := by
  refine Nat.testBit_lt_two_pow (Nat.lt_of_lt_of_le h ?_)
  exact Nat.pow_le_pow_right (by omega) hj
theorem bits_eq {S S' n : Nat} (h : S < 2 ^ n) (h' : S' < 2 ^ n) (e : ∀ j, j < n → S.testBit j = S'.testBit j) : S = S' := by
  refine Nat.eq_of_testBit_eq (fun j => ?_)
  by_cases hj : j < n
  · exact e j hj
  · rw [bit_ge h (by omega), bit_ge h' (by omega)]
theorem sub_bit {s S j : Nat} (h : s &&& S = s) (hj : s.testBit j = true) : S.testBit j = true := by
  rw [← h, Nat.testBit_and, Bool.and_eq_true] at hj
  exact hj.2
theorem sub_le {s S : Nat} (h : s &&& S = s) : s ≤ S := by rw [← h]; exact Nat.and_le_right
def MinS (U : Nat) (c d : Nat → Nat) (S v : Nat) : Prop := v ≤ U ∧ (v = U ∨ ∃ s, s &&& S = s ∧ c s < U ∧ v = c s + d (S ^^^ s)) ∧ ∀ s, s &&& S = s → c s < U → v ≤ c s + d (S ^^^ s)
def Vl (Cf : Nat → Nat → Nat) (n : Nat) (a : Nat → Nat) (p : Nat) : Nat := sumN (fun q => Cf q (setO a n q)) p
def goodA (F : Nat → Nat → Prop) (n : Nat) (a : Nat → Nat) (p : Nat) : Prop := ∀ q, q < p → F q (setO a n q)
def asg (n p S : Nat) (a : Nat → Nat) : Prop := ∀ k, k < n → (S.testBit k = true ↔ a k < p)
def InvP (U : Nat) (F : Nat → Nat → Prop) (Cf : Nat → Nat → Nat) (n p S v : Nat) : Prop :=
  v ≤ U ∧ (v = U ∨ ∃ a, asg n p S a ∧ goodA F n a p ∧ v = Vl Cf n a p) ∧ ∀ a, asg n p S a → goodA F n a p → v ≤ Vl Cf n a p
def InvL (U : Nat) (F : Nat → Nat → Prop) (Cf : Nat → Nat → Nat) (n p : Nat) (d : Nat → Nat) : Prop := ∀ S, S < 2 ^ n → InvP U F Cf n p S (d S)
theorem InvL.zero {U : Nat} {F : Nat → Nat → Prop} {Cf : Nat → Nat → Nat} {n : Nat} {d : Nat → Nat} (h0 : d 0 = 0) (h1 : ∀ S, 0 < S → S < 2 ^ n → d S = U) : InvL U F Cf n 0 d := by
  intro S hS
  by_cases e : S = 0
  · subst e
    refine ⟨by omega, Or.inr ⟨fun _ => 0, fun k hk => ?_, fun q hq => absurd hq (Nat.not_lt_zero q), h0⟩, fun a _ _ => by omega⟩
    rw [Nat.zero_testBit]
    exact ⟨fun z => Bool.noConfusion z, fun z => absurd z (Nat.not_lt_zero _)⟩
  · have hd := h1 S (by omega) hS
    refine ⟨by omega, Or.inl hd, fun a ha _ => absurd ?_ e⟩
    refine bits_eq hS (Nat.two_pow_pos n) (fun j hj => ?_)
    rw [Nat.zero_testBit]
    cases hb : S.testBit j with
    | false => rfl
    | true => exact absurd ((ha j hj).mp hb) (Nat.not_lt_zero _)
theorem InvL.stepP {U : Nat} {F : Nat → Nat → Prop} {Cf : Nat → Nat → Nat} {n p : Nat} {c d : Nat → Nat} (h : InvL U F Cf n p d) (hF : ∀ S, S < 2 ^ n → (F p S → c S = Cf p S ∧ Cf p S < U) ∧ (¬ F p S → c S = U)) {S v : Nat} (hS : S < 2 ^ n) (hm : MinS U c d S v) : InvP U F Cf n (p + 1) S v := by
  obtain ⟨m1, m2, m3⟩ := hm
  have xlt : ∀ s, s &&& S = s → s < 2 ^ n ∧ (S ^^^ s) < 2 ^ n := fun s hs => ⟨Nat.lt_of_le_of_lt (sub_le hs) hS, Nat.xor_lt_two_pow hS (Nat.lt_of_le_of_lt (sub_le hs) hS)⟩
  refine ⟨m1, ?_, fun a ha hg => ?_⟩
  · rcases m2 with e | ⟨s, hs, hc, hv⟩
    · exact Or.inl e
    · obtain ⟨l1, l2⟩ := xlt s hs
      obtain ⟨i1, i2, -⟩ := h (S ^^^ s) l2
      rcases i2 with e | ⟨a', ha', hg', hd'⟩
      · refine Or.inl ?_
        rw [e] at hv
        omega
      · have hFs : F p s := Classical.byContradiction (fun z => by have := (hF s l1).2 z; omega)
        have hcs := ((hF s l1).1 hFs).1
        refine Or.inr ⟨fun k => if s.testBit k = true then p else if S.testBit k = true then a' k else p + 1, fun k hk => ?_, ?_, ?_⟩
        · dsimp only
          by_cases b1 : s.testBit k = true
          · rw [if_pos b1]
            exact ⟨fun _ => by omega, fun _ => sub_bit hs b1⟩
          · rw [if_neg b1]
            by_cases b2 : S.testBit k = true
            · rw [if_pos b2]
              have : (S ^^^ s).testBit k = true := by
                rw [Nat.testBit_xor, b2]
                cases hb : s.testBit k with
                | false => rfl
                | true => exact absurd hb b1
              have := (ha' k hk).mp this
              exact ⟨fun _ => by omega, fun _ => b2⟩
            · rw [if_neg b2]
              exact ⟨fun z => absurd z b2, fun z => by omega⟩
        all_goals
          have e1 : ∀ q, q < p → setO (fun k => if s.testBit k = true then p else if S.testBit k = true then a' k else p + 1) n q = setO a' n q := by
            intro q hq
            refine bits_eq setO_lt setO_lt (fun j hj => ?_)
            rw [setO_bit, setO_bit]
            have hx := ha' j hj
            rw [Nat.testBit_xor] at hx
            by_cases b1 : s.testBit j = true
            · rw [if_pos b1]
              have b2 := sub_bit hs b1
              rw [b1, b2] at hx
              have : ¬ a' j < p := fun z => Bool.noConfusion (hx.mpr z)
              rw [decide_eq_false (fun z => by omega), decide_eq_false (fun z => by omega)]
            · have b1' : s.testBit j = false := by
                cases hb : s.testBit j with
                | false => rfl
                | true => exact absurd hb b1
              rw [if_neg b1]
              by_cases b2 : S.testBit j = true
              · rw [if_pos b2]
              · have b2' : S.testBit j = false := by
                  cases hb : S.testBit j with
                  | false => rfl
                  | true => exact absurd hb b2
                rw [if_neg b2]
                rw [b1', b2'] at hx
                have : ¬ a' j < p := fun z => Bool.noConfusion (hx.mpr z)
                rw [decide_eq_false (fun z => by omega), decide_eq_false (fun z => by omega)]
          have e2 : setO (fun k => if s.testBit k = true then p else if S.testBit k = true then a' k else p + 1) n p = s := by
            refine bits_eq setO_lt l1 (fun j hj => ?_)
            rw [setO_bit]
            have hx := ha' j hj
            rw [Nat.testBit_xor] at hx
            by_cases b1 : s.testBit j = true
            · rw [if_pos b1, b1]
              exact decide_eq_true ⟨hj, rfl⟩
            · have b1' : s.testBit j = false := by
                cases hb : s.testBit j with
                | false => rfl
                | true => exact absurd hb b1
              rw [if_neg b1, b1']
              by_cases b2 : S.testBit j = true
              · rw [if_pos b2]
                rw [b1', b2] at hx
                have := hx.mp rfl
                exact decide_eq_false (fun z => by omega)
              · rw [if_neg b2]
                exact decide_eq_false (fun z => by omega)
        · intro q hq
          by_cases e : q = p
          · subst e; rw [e2]; exact hFs
          · rw [e1 q (by omega)]; exact hg' q (by omega)
        · unfold Vl at hd' ⊢
          rw [sumN, e2, sumN_congr p (fun q hq => by rw [e1 q hq]), hv, hcs, hd']
          omega
  · have hs : setO a n p &&& S = setO a n p := by
      refine Nat.eq_of_testBit_eq (fun j => ?_)
      rw [Nat.testBit_and]
      cases hb : (setO a n p).testBit j with
      | false => rfl
      | true =>
        rw [setO_bit] at hb
        obtain ⟨z1, z2⟩ := of_decide_eq_true hb
        rw [(ha j z1).mpr (by omega)]; rfl
    obtain ⟨l1, l2⟩ := xlt _ hs
    have hFs := hg p (by omega)
    obtain ⟨c1, c2⟩ := (hF _ l1).1 hFs
    have hle := m3 _ hs (by rw [c1]; exact c2)
    have ha2 : asg n p (S ^^^ setO a n p) a := by
      intro k hk
      rw [Nat.testBit_xor, setO_bit]
      have := ha k hk
      by_cases e : a k = p
      · rw [decide_eq_true ⟨hk, e⟩, this.mpr (by omega)]
        exact ⟨fun z => Bool.noConfusion z, fun z => by omega⟩
      · rw [decide_eq_false (fun z => e z.2), Bool.xor_false, this]
        constructor <;> intro _ <;> omega
    have := (h _ l2).2.2 a ha2 (fun q hq => hg q (by omega))
    unfold Vl at this ⊢
    rw [sumN]
    omega
theorem InvL.step {U : Nat} {F : Nat → Nat → Prop} {Cf : Nat → Nat → Nat} {n p : Nat} {c d d' : Nat → Nat} (h : InvL U F Cf n p d) (hF : ∀ S, S < 2 ^ n → (F p S → c S = Cf p S ∧ Cf p S < U) ∧ (¬ F p S → c S = U)) (hm : ∀ S, S < 2 ^ n → MinS U c d S (d' S)) : InvL U F Cf n (p + 1) d' := fun S hS => h.stepP hF hS (hm S hS)
/-- all that is below a part of a set, and is in the set, is not above the next part -/
theorem sub_next : ∀ (m S : Nat), S < 2 ^ m → ∀ p s, p &&& S = p → s &&& S = s → s < p → s ≤ (p - 1) &&& S := by
  intro m
  induction m with
  | zero =>
    intro S hS p s hp hs hlt
    have := sub_le hp
    omega
  | succ m ih =>
    intro S hS p s hp hs hlt
    have dv : ∀ a b : Nat, (a &&& b) / 2 = (a / 2) &&& (b / 2) := fun a b => by
      have := Nat.shiftRight_and_distrib (a := a) (b := b) (i := 1)
      simpa [Nat.shiftRight_eq_div_pow] using this
    have md : ∀ a b : Nat, (a &&& b) % 2 = (a % 2) &&& (b % 2) := fun a b => Nat.and_mod_two_pow (a := a) (b := b) (n := 1)
    have hp1 : (p / 2) &&& (S / 2) = p / 2 := by rw [← dv, hp]
    have hp2 : (p % 2) &&& (S % 2) = p % 2 := by rw [← md, hp]
    have hs1 : (s / 2) &&& (S / 2) = s / 2 := by rw [← dv, hs]
    have hs2 : (s % 2) &&& (S % 2) = s % 2 := by rw [← md, hs]
    have k1 := dv (p - 1) S
    have k2 := md (p - 1) S
    have hsl := sub_le hs2
    rcases Nat.mod_two_eq_zero_or_one p with e | e
    · have hp0 : 0 < p / 2 := by omega
      have i1 : (p - 1) / 2 = p / 2 - 1 := by omega
      have i2 : (p - 1) % 2 = 1 := by omega
      have := ih (S / 2) (by rw [Nat.pow_succ] at hS; omega) (p / 2) (s / 2) hp1 hs1 (by omega)
      rw [i1] at k1
      rw [i2] at k2
      have k3 : 1 &&& (S % 2) = S % 2 := by
        rcases Nat.mod_two_eq_zero_or_one S with z | z <;> rw [z] <;> rfl
      rw [k3] at k2
      omega
    · have i1 : (p - 1) / 2 = p / 2 := by omega
      rw [i1, hp1] at k1
      omega
theorem and_sub (x S : Nat) : (x &&& S) &&& S = x &&& S := by rw [Nat.and_assoc, Nat.and_self]
