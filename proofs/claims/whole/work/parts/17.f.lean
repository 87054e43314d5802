/-! ===== the reference: what chains cost ===== -/
theorem nI_sub {a b : Nat} (h : b ≤ a) : nI a - nI b = nI (a - b) := by
  have e : nI (a - b) + nI b = nI a := by rw [nI_add]; congr 1; omega
  rw [← e, Int32.add_sub_cancel]
theorem nI_div {a m : Nat} (ha : a < 2 ^ 31) (hm : m < 2 ^ 31) (h0 : 0 < m) : nI a / nI m = nI (a / m) := by
  have hle : a / m ≤ a := Nat.div_le_self a m
  rw [i_eq, lg_idiv_nonneg (by rw [nI_toInt ha]; omega) (by rw [nI_toInt hm]; omega), nI_toInt ha, nI_toInt hm, nI_toInt (by omega)]
  omega
theorem nI_rem {a m : Nat} (ha : a < 2 ^ 31) (hm : m < 2 ^ 31) (h0 : 0 < m) : nI a - nI a / nI m * nI m = nI (a % m) := by
  have hle : a / m * m ≤ a := Nat.div_mul_le_self a m
  rw [nI_div ha hm h0, pk_mul, nI_sub hle]
  congr 1
  have := Nat.div_add_mod a m
  rw [Nat.mul_comm] at this
  omega
section WRK
variable {G : Prop} {tl np nf ns no : Nat} {σ τ : St} {row : List Nat}
def CI (ns : Nat) (τ : St) (row : List Nat) (τ' : St) (q S : Nat) : Prop := (Fp ns τ row q S → τ'.1 34 (256 * q + S) = nI (Ep τ row q S)) ∧ (¬ Fp ns τ row q S → τ'.1 34 (256 * q + S) = -1)
theorem worksM (h : RelX G tl np nf ns no σ τ) (hrow : rowL (τ.1 12) (τ.1 14) nf = row) (hr : RowOk nf τ row) {Q : St → Prop} (q : ∀ τ', SM τ τ' → τ'.1 0 34 = nI row.length → (∀ k, k < row.length → τ'.1 27 k = nI (row.getD k 0)) → (∀ p S, p < np → S < 2 ^ row.length → CI ns τ row τ' p S) → Q τ') : w_X11_works τ Q := by
  obtain ⟨p0, p1, p2, p3, p4, p5, p6, p7⟩ := h.2.2.2.1
  have hl := hr.1
  have h2n := pow_le8 hl
  unfold w_X11_works
  refine ordersM h (fun τ1 s1 a1 a2 => ?_)
  rw [hrow] at a1 a2
  have outer : ∀ (d p : Nat) (τ2 : St), p + d = np → SM τ τ2 → τ2.1 0 34 = nI row.length → (∀ k, k < row.length → τ2.1 27 k = nI (row.getD k 0)) → (∀ p' S, p' < p → S < 2 ^ row.length → CI ns τ row τ2 p' S) → w_X11_works_6 Q (d + 1) (nI p) τ2 := by
    intro d
    induction d with
    | zero =>
      intro p τ2 hp s2 b1' b2' hC
      obtain rfl : p = np := by omega
      exact bt (by rw [s2.2 9 (by omega) (by omega) (by omega) (by omega), p2, nI_leI (by omega) (by omega)]; omega) (q τ2 s2 b1' b2' hC)
    | succ d ih =>
      intro p τ2 hp s2 b1' b2' hC
      have hpn : p < np := by omega
      refine bf (by rw [s2.2 9 (by omega) (by omega) (by omega) (by omega), p2, nI_leI (by omega) (by omega)]; omega) ⟨2 ^ row.length + 1, ?_⟩
      have inner : ∀ (e S : Nat) (τ3 : St), S + e = 2 ^ row.length → SM τ τ3 → τ3.1 0 34 = nI row.length → (∀ k, k < row.length → τ3.1 27 k = nI (row.getD k 0)) → (∀ p' S', p' < p → S' < 2 ^ row.length → CI ns τ row τ3 p' S') → (∀ S', S' < S → CI ns τ row τ3 p S') → w_X11_works_16 Q (fun x1 σ => w_X11_works_6 Q (d + 1) x1 σ) (e + 1) (nI p) (nI S) τ3 := by
        intro e
        induction e with
        | zero =>
          intro S τ3 hS s3 b1' b2' hC hD
          obtain rfl : S = 2 ^ row.length := by omega
          refine bt (by rw [b1', shl_1 _ (by omega), nI_leI (by omega) (by omega)]; omega) ?_
          rw [nI_1]
          refine ih (p + 1) τ3 (by omega) s3 b1' b2' (fun p' S' hp' hS' => ?_)
          by_cases ee : p' = p
          · subst ee; exact hD S' hS'
          · exact hC p' S' (by omega) hS'
        | succ e ihe =>
          intro S τ3 hS s3 b1' b2' hC hD
          have hSl : S < 2 ^ row.length := by omega
          refine bf (by rw [b1', shl_1 _ (by omega), nI_leI (by omega) (by omega)]; omega) (chainsM h s3 hl (fun g hg => (hr.2.1 g hg).1) b1' b2' hpn (by omega) (fun τ4 c4 m4 => ?_))
          have s4 := CH.sm s3 c4
          have m4' : MH τ4 (recsF τ p (τ.1 6 p) (pick row S)) := m4
          have hpk := pick_len row S
          have hrl : (recsF τ p (τ.1 6 p) (pick row S)).length ≤ 16 := by
            have := mvs_len (τ.1 10) (τ.1 11) (pick row S) (τ.1 6 p)
            unfold recsF
            rw [List.length_map]
            omega
          have fin : ∀ v : Int32, ((Fp ns τ row p S → v = nI (Ep τ row p S)) ∧ (¬ Fp ns τ row p S → v = -1)) → w_X11_works_59 Q (fun x1 σ => w_X11_works_6 Q (d + 1) x1 σ) (fun x1 x2 σ => w_X11_works_16 Q (fun x1 σ => w_X11_works_6 Q (d + 1) x1 σ) (e + 1) x1 x2 σ) (nI p) (nI S) ((256 * nI p) + nI S) v τ4 := by
            intro v hv
            unfold w_X11_works_59
            rw [show (256 : Int32) = nI 256 from rfl, pk_mul, nI_add]
            refine ⟨vp_in_nI (by omega) (by omega), ?_⟩
            rintro _ rfl
            rw [n_clamp (by omega), nI_1]
            have keep : ∀ p' S', 256 * p' + S' ≠ 256 * p + S → CI ns τ row τ3 p' S' → CI ns τ row (wr τ4 34 (256 * p + S) v) p' S' := by
              intro p' S' hne hc
              unfold CI at hc ⊢
              have : (wr τ4 34 (256 * p + S) v).1 34 (256 * p' + S') = τ3.1 34 (256 * p' + S') := by
                show upd (τ4.1 34) (256 * p + S) v (256 * p' + S') = _
                rw [upd_ne hne, c4.1 34 (by omega) (by omega)]
              rw [this]
              exact hc
            refine ihe (S + 1) _ (by omega) (SM_wrk (by omega) s4) ?_ (fun k hk => ?_) (fun p' S' hp' hS' => ?_) (fun S' hS' => ?_)
            · show τ4.1 0 34 = _
              rw [c4.2 34 (by omega)]; exact b1'
            · show τ4.1 27 k = _
              rw [c4.1 27 (by omega) (by omega)]; exact b2' k hk
            · exact keep p' S' (by omega) (hC p' S' hp' hS')
            · by_cases ee : S' = S
              · subst ee
                unfold CI
                have : (wr τ4 34 (256 * p + S') v).1 34 (256 * p + S') = v := upd_eq
                rw [this]
                exact hv
              · exact keep p S' (by omega) (hD S' (by omega))
          refine holds_t h s4 hpn m4' hrl (goodR_all h hpn _ _ (p7 p hpn).1 (fun g hg => pick_lt hr hg)) (fun y => bf n10 (emptyM h s4 hpn (p7 p hpn).1 (fun g hg => pick_lt hr hg) m4' hrl (fin _ ⟨fun _ => rfl, fun n => absurd y n⟩))) (fun y => bt rfl (fin _ ⟨fun n => absurd n y, fun _ => rfl⟩))
      exact inner (2 ^ row.length) 0 τ2 (by omega) s2 b1' b2' hC (fun S' hS' => absurd hS' (Nat.not_lt_zero S'))
  exact ⟨np + 1, outer np 0 τ1 (by omega) s1 a1 a2 (fun p' S hp' => absurd hp' (Nat.not_lt_zero p'))⟩
end WRK
/-! ===== all ways as numbers ===== -/
def dgt (np n w k : Nat) : Nat := w / (np + 1) ^ (n - 1 - k) % (np + 1)
theorem dgt_le {np n w k : Nat} : dgt np n w k ≤ np := by
  have : dgt np n w k < np + 1 := Nat.mod_lt _ (by omega)
  omega
theorem rowB_dgt {np n w : Nat} (hw : w < (np + 1) ^ n) : ∀ j, j ≤ n → rowB np (dgt np n w) j = w / (np + 1) ^ (n - j)
  | 0, _ => by
    rw [Nat.sub_zero, Nat.div_eq_of_lt hw]; rfl
  | j + 1, hj => by
    have ih := rowB_dgt hw j (by omega)
    rw [rowB, ih]
    unfold dgt
    have e1 : n - j = (n - (j + 1)) + 1 := by omega
    have e2 : n - 1 - j = n - (j + 1) := by omega
    rw [e1, e2, Nat.pow_succ, ← Nat.div_div_eq_div_mul]
    exact Nat.div_add_mod _ _
theorem rowB_lt {np : Nat} {a : Nat → Nat} : ∀ n, (∀ k, k < n → a k ≤ np) → rowB np a n < (np + 1) ^ n
  | 0, _ => by show (0 : Nat) < 1; omega
  | n + 1, h => by
    have ih := rowB_lt n (fun k hk => h k (by omega))
    have := h n (by omega)
    rw [rowB, Nat.pow_succ]
    have e : (np + 1) * (rowB np a n + 1) ≤ (np + 1) * (np + 1) ^ n := Nat.mul_le_mul_left _ ih
    rw [Nat.mul_add, Nat.mul_comm (np + 1) ((np + 1) ^ n)] at e
    omega
theorem dgt_rowB {np n : Nat} {a : Nat → Nat} (h4 : np ≤ 4) (h : ∀ k, k < n → a k ≤ np) : ∀ k, k < n → dgt np n (rowB np a n) k = a k := by
  have e := rowB_dgt (rowB_lt n h) n (Nat.le_refl n)
  rw [Nat.sub_self, Nat.pow_zero, Nat.div_one] at e
  have := (rowB_cmp h4 n (fun k _ => dgt_le) h).1 e
  exact rowV_inj h4 n (fun k _ => dgt_le) h this
theorem setO_congr {a a' : Nat → Nat} {n q : Nat} (h : ∀ k, k < n → a k = a' k) : setO a n q = setO a' n q := by
  refine bits_eq setO_lt setO_lt (fun j hj => ?_)
  rw [setO_bit, setO_bit, h j hj]
theorem Vl_congr {Cf : Nat → Nat → Nat} {n m : Nat} {a a' : Nat → Nat} (h : ∀ k, k < n → a k = a' k) : Vl Cf n a m = Vl Cf n a' m := by
  unfold Vl
  exact sumN_congr m (fun q _ => by rw [setO_congr h])
theorem pow5 {np n : Nat} (h4 : np ≤ 4) (h8 : n ≤ 8) : (np + 1) ^ n ≤ 390625 := by
  have h1 : (np + 1) ^ n ≤ 5 ^ n := Nat.pow_le_pow_left (by omega) n
  have h2 : (5 : Nat) ^ n ≤ 5 ^ 8 := Nat.pow_le_pow_right (by omega) h8
  have : (5 : Nat) ^ 8 = 390625 := by decide
  omega
