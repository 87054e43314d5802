/-! ===== the class's planner: the plan is found and entered ===== -/
def encA (np x : Nat) : Int32 := if x = np then -1 else nI x
theorem l64_mod {R m : Nat} (hR : R < 2 ^ 63) (hm : m < 2 ^ 63) (h0 : 0 < m) : l64 R - l64 R / l64 m * l64 m = l64 (R % m) := by
  have hlt : R % m < m := Nat.mod_lt R h0
  rw [← Int64.toInt_inj, Jvm.Kit.i64_rem_nonneg (by rw [l64_toInt hR]; omega), l64_toInt hR, l64_toInt hm, l64_toInt (by omega)]
  omega
theorem l64_div {R m : Nat} (hR : R < 2 ^ 63) (hm : m < 2 ^ 63) (h0 : 0 < m) : l64 R / l64 m = l64 (R / m) := by
  have hle : R / m ≤ R := Nat.div_le_self R m
  rw [← Int64.toInt_inj, lg_ldiv_nonneg (by rw [l64_toInt hR]; omega) (by rw [l64_toInt hm]; omega), l64_toInt hR, l64_toInt hm, l64_toInt (by omega)]
  omega
theorem l64_32 {m : Nat} (h : m < 2 ^ 31) : (l64 m).toInt32 = nI m := by
  rw [i_eq, Jvm.Kit.i32_of_i64 (by rw [l64_toInt (by omega)]; omega) (by rw [l64_toInt (by omega)]; omega), l64_toInt (by omega), nI_toInt h]
theorem getD_inj {L : List Nat} (h : L.Nodup) {i j : Nat} (hi : i < L.length) (hj : j < L.length) (e : L.getD i 0 = L.getD j 0) : i = j := by
  rw [List.getD_eq_getElem?_getD, List.getD_eq_getElem?_getD, List.getElem?_eq_getElem hi, List.getElem?_eq_getElem hj, Option.getD_some, Option.getD_some] at e
  exact (List.getElem_inj h).mp e
theorem sumN_head (g : Nat → Nat) : ∀ n, sumN g (n + 1) = g 0 + sumN (fun k => g (k + 1)) n
  | 0 => by rw [sumN, sumN, sumN]; omega
  | n + 1 => by
    rw [sumN, sumN_head g n, sumN]
    omega
theorem pick_count : ∀ (L : List Nat) (S : Nat), (pick L S).length = csum (fun _ => 1) S L.length
  | [], S => rfl
  | f :: L, S => by
    have e : csum (fun _ => 1) S (L.length + 1) = (if S.testBit 0 = true then 1 else 0) + csum (fun _ => 1) (S >>> 1) L.length := by
      unfold csum
      rw [sumN_head]
      congr 1
      refine sumN_congr _ (fun k _ => ?_)
      rw [Nat.testBit_shiftRight, Nat.add_comm 1 k]
    rw [List.length_cons, e, ← pick_count L (S >>> 1)]
    show (if S.testBit 0 = true then f :: pick L (S >>> 1) else pick L (S >>> 1)).length = _
    split
    · rw [List.length_cons]; omega
    · omega
section PLN
variable {G : Prop} {tl np nf ns no : Nat} {σ τ : St} {row : List Nat} {mw : Nat}
theorem Ep_le (h : RelX G tl np nf ns no σ τ) (hr : RowOk nf τ row) : ∀ q S, q < np → S < 2 ^ row.length → Ep τ row q S ≤ 600 * csum (fun _ => 1) S row.length := by
  intro q S hq _
  obtain ⟨-, -, -, -, -, -, -, p7⟩ := h.2.2.2.1
  rw [← pick_count]
  exact legsN_le h _ _ (p7 q hq).1 (fun g hg => pick_lt hr hg)
theorem enterC (h : RelX G tl np nf ns no σ τ) (hr : RowOk nf τ row) (hP : PL σ row mw) {a : Nat → Nat} (ha : ∀ k, k < row.length → a k ≤ np) {Q : St → Prop} (q : ∀ σ', (∀ k, k ≠ 30 → σ'.1 k = σ.1 k) → (∀ k, k < row.length → σ'.1 30 (row.getD k 0) = encA np (a k)) → (∀ f, f ∉ row → σ'.1 30 f = σ.1 30 f) → Q σ') : w_X5_enter (l64 (rowV np a row.length)) σ Q := by
  obtain ⟨f0, f1, -⟩ := h.2.2.2.2.1
  have p0 := h.2.2.2.1.1
  have hl := hr.1
  unfold w_X5_enter
  have loop : ∀ (j : Nat) (σ1 : St), j ≤ row.length → (∀ k, k ≠ 30 → σ1.1 k = σ.1 k) → (∀ k, j ≤ k → k < row.length → σ1.1 30 (row.getD k 0) = encA np (a k)) → (∀ f, (∀ k, j ≤ k → k < row.length → f ≠ row.getD k 0) → σ1.1 30 f = σ.1 30 f) → w_X5_enter_10 Q (j + 1) (l64 (rowV np a j)) (nI j - 1) σ1 := by
    intro j
    induction j with
    | zero =>
      intro σ1 hj c1 e1 e2
      refine bt (by decide) (q σ1 c1 (fun k hk => e1 k (Nat.zero_le k) hk) (fun f hf => e2 f (fun k _ hk e => hf ?_)))
      rw [e]; exact getD_mem hk
    | succ j ih =>
      intro σ1 hj c1 e1 e2
      have hja := ha j (by omega)
      have hdg := dg_le p0 hja
      have hR := rowV_lt p0 (j + 1) (fun k hk => ha k (by omega))
      have h10 : (10 : Nat) ^ (j + 1) ≤ 10 ^ 8 := Nat.pow_le_pow_right (by omega) (by omega)
      have h108 : (10 : Nat) ^ 8 = 100000000 := by decide
      have er : rowV np a (j + 1) = 10 * rowV np a j + dg np (a j) := rfl
      have em : rowV np a (j + 1) % 10 = dg np (a j) := by omega
      have ed : rowV np a (j + 1) / 10 = rowV np a j := by omega
      have hg := (row_at hr (show j < row.length by omega)).1
      have e31 : σ1.1 31 j = nI (row.getD j 0) := by rw [c1 31 (by omega)]; exact hP.2.1 j (by omega)
      rw [nI_pred]
      refine bf (nI_pos (by omega)) ⟨vp_in_nI (by omega) (by omega), ?_⟩
      rw [show (10 : Int64) = l64 10 from rfl, l64_mod (by omega) (by omega) (by omega), l64_div (by omega) (by omega) (by omega), em, ed, l64_32 (by omega), n_clamp (by omega), e31]
      have J : ∀ s2 : Int32, s2 = encA np (a j) → w_X5_enter_53 Q (fun x3 x5 σ => w_X5_enter_10 Q (j + 1) x3 x5 σ) (l64 (rowV np a j)) (nI j) (nI (row.getD j 0)) s2 σ1 := by
        intro s2 hs2
        unfold w_X5_enter_53 w_X6_assign
        refine X1_has_t (n := nf) (by rw [c1 5 (by omega)]; exact f1) hg f0 (b1 ⟨vp_in_nI (by omega) (by omega), ?_⟩)
        rintro _ rfl
        rw [n_clamp (by omega), pk_m1_eq]
        refine ih _ (by omega) (fun k hk => ?_) (fun k h1 h2 => ?_) (fun f hf => ?_)
        · rw [← c1 k hk]; exact if_neg hk
        · show upd (σ1.1 30) (row.getD j 0) s2 _ = _
          by_cases e : k = j
          · subst e; rw [upd_eq]; exact hs2
          · rw [upd_ne (fun z => e (getD_inj hr.2.2 h2 (by omega) z))]
            exact e1 k (by omega) h2
        · show upd (σ1.1 30) (row.getD j 0) s2 f = _
          rw [upd_ne (hf j (Nat.le_refl j) (by omega))]
          exact e2 f (fun k h1 h2 => hf k (by omega) h2)
      have e9 : nI (dg np (a j)) = 9 ↔ a j = np := by
        rw [show (9 : Int32) = nI 9 from rfl, nI_eq (by omega) (by omega)]
        unfold dg
        constructor
        · intro z; split at z <;> omega
        · intro z; rw [if_pos z]
      refine ⟨fun z => J _ ?_, fun z => J _ ?_⟩
      · have hne : ¬ a j = np := fun y => z (e9.mpr y)
        unfold encA dg
        rw [if_neg hne, if_neg hne]
      · unfold encA
        rw [if_pos (e9.mp z)]
  refine ⟨row.length + 1, ?_⟩
  rw [hP.1]
  exact loop row.length σ (Nat.le_refl _) (fun _ _ => rfl) (fun k h1 h2 => by omega) (fun _ _ => rfl)
/-- what the best plan is -/
def best (ns mw np : Nat) (τ : St) (row : List Nat) (a : Nat → Nat) : Prop :=
  (∀ k, k < row.length → a k ≤ np) ∧ (∀ q, q < np → Fp ns τ row q (setO a row.length q)) ∧ ∀ a', (∀ k, k < row.length → a' k ≤ np) → (∀ q, q < np → Fp ns τ row q (setO a' row.length q)) → Vl (CfD mw row.length np (plN τ row) (Ep τ row)) row.length a (np + 1) ≤ Vl (CfD mw row.length np (plN τ row) (Ep τ row)) row.length a' (np + 1)
theorem pick_0 (L : List Nat) : pick L 0 = [] := by
  induction L with
  | nil => rfl
  | cons g L ih => exact ih
theorem full_bit {n k : Nat} (hk : k < n) : (2 ^ n - 1).testBit k = true := by
  rw [Nat.testBit_two_pow_sub_one]
  exact decide_eq_true hk
theorem settleC (h : RelX G tl np nf ns no σ τ) {x : Int32} (hx : (x = 0 ∧ mw = 0) ∨ (x = 1 ∧ mw = 1000000000000)) {Q : Int32 → St → Prop} (q : ∀ a σ', best ns mw np τ (rowL (τ.1 12) (τ.1 14) nf) a → (∀ k, k ≠ 8 → k ≠ 9 → k ≠ 30 → ¬ (31 ≤ k ∧ k ≤ 37) → σ'.1 k = σ.1 k) → (∀ k, k < (rowL (τ.1 12) (τ.1 14) nf).length → σ'.1 30 ((rowL (τ.1 12) (τ.1 14) nf).getD k 0) = encA np (a k)) → (∀ f, f ∉ rowL (τ.1 12) (τ.1 14) nf → σ'.1 30 f = σ.1 30 f) → Q (nI (Vl (CfD mw (rowL (τ.1 12) (τ.1 14) nf).length np (plN τ (rowL (τ.1 12) (τ.1 14) nf)) (Ep τ (rowL (τ.1 12) (τ.1 14) nf))) (rowL (τ.1 12) (τ.1 14) nf).length a (np + 1) % 100000000000000 / 1000000000000)) σ') : w_X5_settle x σ Q := by
  obtain ⟨f0, f1, f2, f3, f4, f5, f6, f7, f8, f9, f10, f11, f12⟩ := h.2.2.2.2.1
  obtain ⟨p0, p1, -⟩ := h.2.2.2.1
  have hr : RowOk nf τ (rowL (τ.1 12) (τ.1 14) nf) := ⟨by rw [rowL_len]; exact f10, fun g hg => rowL_mem.mp hg, rowL_nodup _ _ _⟩
  have hmw : mw ≤ 1000000000000 := by rcases hx with z | z <;> omega
  have hmw2 : mw = 0 ∨ mw = 1000000000000 := by rcases hx with z | z <;> omega
  have J : w_X5_settle_12 Q (l64 mw) σ := by
    unfold w_X5_settle_12
    rintro _ rfl
    have hσ : RelX G tl np nf ns no (wl σ 9 12 (l64 mw)) τ := h
    refine lineC (mw := mw) hσ ?_ (fun σ1 c1 hP1 l0 l1 => ?_)
    · exact (vp_updL_eq : vp_updL (σ.2 9) 12 (l64 mw) 12 = l64 mw)
    generalize hrow : rowL (τ.1 12) (τ.1 14) nf = row at *
    have hl := hr.1
    have h2n := pow_le8 hl
    have h2p := Nat.two_pow_pos row.length
    have h1 : RelX G tl np nf ns no σ1 τ := h.scratch (fun k e2 e8 e9 e31 => c1 k e9 (by omega)) (SM.rf τ)
    -- over the planes
    have fin : ∀ (σ2 : St) (d : Nat → Nat), SP σ1 σ2 → (∀ S, S < 2 ^ row.length → σ2.2 34 S = l64 (d S)) → InvL 10000000000000000 (fun q S => q < np → Fp ns τ row q S) (CfD mw row.length np (plN τ row) (Ep τ row)) row.length np d → w_X5_weighUnflown σ2 (fun σ_4 => w_X5_leastOf ((1 <<< ((σ_4.1 9 11) &&& 31)) - 1) σ_4 (fun r_6 σ_5 => w_X5_enter (r_6 - r_6 / 100000000 * 100000000) σ_5 (fun σ_7 => Q (((r_6 - r_6 / 100000000000000 * 100000000000000) / 1000000000000).toInt32) σ_7))) := by
      intro σ2 d s2 hd hI
      have h2 := h1.sp s2
      have hP2 := hP1.sp s2
      refine unflC h2 hr hP2 (fun σ3 s3 e34 e33 => ?_)
      have hP3 := hP2.sp s3.sp
      rw [hP3.1, shl_1 row.length (by omega)]
      have e1 : nI (2 ^ row.length) - 1 = nI (2 ^ row.length - 1) := by
        conv => lhs; rw [show 2 ^ row.length = (2 ^ row.length - 1) + 1 by omega]
        exact nI_pred _
      rw [e1]
      have c9 : ∀ S, csum (fun k => 100000000000000 + own mw row.length (plN τ row) 9 k) S row.length ≤ 810000000000000 := by
        intro S
        have := csum_le (g := fun k => 100000000000000 + own mw row.length (plN τ row) 9 k) (S := S) (c := 101000100000000) row.length (fun k _ => by have := own_le (b := plN τ row) (k := k) hmw hl (Nat.le_refl 9); omega)
        have h5 : row.length * 101000100000000 ≤ 8 * 101000100000000 := Nat.mul_le_mul_right _ hl
        omega
      refine leastC (c := fun S => csum (fun k => 100000000000000 + own mw row.length (plN τ row) 9 k) S row.length) (d := d) (by omega) (fun s hs => ⟨e33 s (by omega), by have := c9 s; omega⟩) (fun s hs => ⟨by rw [e34]; exact hd s (by omega), (hI s (by omega)).1⟩) (fun v hv => ?_)
      have hcf : ∀ S, CfD mw row.length np (plN τ row) (Ep τ row) np S = csum (fun k => 100000000000000 + own mw row.length (plN τ row) 9 k) S row.length := fun S => by unfold CfD; rw [if_neg (Nat.lt_irrefl np)]
      obtain ⟨i1, i2, i3⟩ := hI.stepP (c := fun S => csum (fun k => 100000000000000 + own mw row.length (plN τ row) 9 k) S row.length) (fun S hS => ⟨fun _ => ⟨(hcf S).symm, by rw [hcf S]; have := c9 S; omega⟩, fun n => absurd (fun y => absurd y (Nat.lt_irrefl np)) n⟩) (show 2 ^ row.length - 1 < 2 ^ row.length by omega) hv
      have hasg : ∀ a : Nat → Nat, asg row.length (np + 1) (2 ^ row.length - 1) a ↔ ∀ k, k < row.length → a k ≤ np := by
        intro a
        constructor
        · intro z k hk
          have := (z k hk).mp (full_bit hk)
          omega
        · intro z k hk
          have := z k hk
          exact ⟨fun _ => by omega, fun _ => full_bit hk⟩
      have hgd : ∀ a : Nat → Nat, goodA (fun q S => q < np → Fp ns τ row q S) row.length a (np + 1) ↔ ∀ q, q < np → Fp ns τ row q (setO a row.length q) := fun a => ⟨fun z q hq => z q (by omega) hq, fun z q _ hq => z q hq⟩
      have hE := Ep_le h2 hr
      have tlt : ∀ a : Nat → Nat, (∀ k, k < row.length → a k ≤ np) → Vl (CfD mw row.length np (plN τ row) (Ep τ row)) row.length a (np + 1) < 10000000000000000 := by
        intro a ha
        obtain ⟨t, u, m, e, r⟩ := parts (mw := mw) (b := plN τ row) p0 hl hE ha
        rw [t]
        have : mw * mov np (plN τ row) a row.length ≤ 1000000000000 * 8 := Nat.mul_le_mul hmw m
        omega
      have hv2 : ∃ a, (∀ k, k < row.length → a k ≤ np) ∧ (∀ q, q < np → Fp ns τ row q (setO a row.length q)) ∧ v = Vl (CfD mw row.length np (plN τ row) (Ep τ row)) row.length a (np + 1) := by
        rcases i2 with e | ⟨a, z1, z2, z3⟩
        · exfalso
          have a0 : ∀ k, k < row.length → (fun _ : Nat => np) k ≤ np := fun _ _ => Nat.le_refl np
          have := i3 (fun _ => np) ((hasg _).mpr a0) ((hgd _).mpr (fun q hq => ?_))
          · have := tlt _ a0
            omega
          · have : setO (fun _ => np) row.length q = 0 := by
              refine bits_eq setO_lt h2p (fun j _ => ?_)
              rw [setO_bit, Nat.zero_testBit]
              exact decide_eq_false (fun z => by have := z.2; omega)
            rw [this]
            unfold Fp fitP
            rw [pick_0]
            exact trivial
        · exact ⟨a, (hasg a).mp z1, (hgd a).mp z2, z3⟩
      obtain ⟨a, z1, z2, z3⟩ := hv2
      have hb : best ns mw np τ row a := ⟨z1, z2, fun a' y1 y2 => by rw [← z3]; exact i3 a' ((hasg a').mpr y1) ((hgd a').mpr y2)⟩
      have hlt := tlt a z1
      obtain ⟨t, u, m, e, r⟩ := parts (mw := mw) (b := plN τ row) p0 hl hE z1
      have hmod : v % 100000000 = rowV np a row.length := by
        rw [z3, t]
        rcases hmw2 with y | y <;> rw [y] <;> omega
      rw [show (100000000 : Int64) = l64 100000000 from rfl, show (100000000000000 : Int64) = l64 100000000000000 from rfl, show (1000000000000 : Int64) = l64 1000000000000 from rfl, l64_mod (by omega) (by omega) (by omega), l64_mod (by omega) (by omega) (by omega), l64_div (by omega) (by omega) (by omega), l64_32 (by omega), hmod]
      refine enterC (h2.sp s3.sp) hr hP3 z1 (fun σ4 k30 k1 k2 => ?_)
      rw [z3]
      have f3 : ∀ k, k ≠ 8 → k ≠ 9 → ¬ (31 ≤ k ∧ k ≤ 37) → σ3.1 k = σ.1 k := fun k y1 y2 y3 => by
        rw [s3.1, s2.1 k y1 (by omega) (by omega) (by omega)]
        exact c1 k y2 (by omega)
      refine q a σ4 hb (fun k y1 y2 y3 y4 => ?_) k1 (fun f hf => ?_)
      · rw [k30 k y3]; exact f3 k y1 y2 y4
      · rw [k2 f hf, f3 30 (by omega) (by omega) (by omega)]
    have loop : ∀ (e p : Nat) (σ2 : St) (d : Nat → Nat), p + e = np → SP σ1 σ2 → (∀ S, S < 2 ^ row.length → σ2.2 34 S = l64 (d S)) → InvL 10000000000000000 (fun q S => q < np → Fp ns τ row q S) (CfD mw row.length np (plN τ row) (Ep τ row)) row.length p d → w_X5_settle_21 Q (e + 1) (nI p) σ2 := by
      intro e
      induction e with
      | zero =>
        intro p σ2 d hp s2 hd hI
        obtain rfl : p = np := by omega
        unfold w_X5_settle_21 w_X4_size
        exact bt (by rw [(h1.sp s2).2.2.2.1.2.1, nI_leI (by omega) (by omega)]; omega) (fin σ2 d s2 hd hI)
      | succ e ih =>
        intro p σ2 d hp s2 hd hI
        have hpn : p < np := by omega
        have h2 := h1.sp s2
        have hP2 := hP1.sp s2
        unfold w_X5_settle_21 w_X4_size
        refine bf (by rw [h2.2.2.2.1.2.1, nI_leI (by omega) (by omega)]; omega) (weighC h2 hr hmw hP2 hpn (fun σ3 s3 e34 hW => ?_))
        obtain ⟨c, hc⟩ : ∃ c : Nat → Nat, ∀ S, (Fp ns τ row p S → c S = Cp mw τ row p S) ∧ (¬ Fp ns τ row p S → c S = 10000000000000000) := ⟨fun S => @ite _ (Fp ns τ row p S) (Classical.propDecidable _) (Cp mw τ row p S) 10000000000000000, fun S => ⟨fun y => if_pos y, fun y => if_neg y⟩⟩
        have hcl : ∀ S, Cp mw τ row p S ≤ 9000000000000 := fun S => Cp_lt h2 hr hmw hpn
        have hP3 := hP2.sp s3
        refine addC2 (c := c) (d := d) hl hP3.1 (fun S hS => ?_) (fun S hS => ⟨by rw [e34]; exact hd S hS, (hI S hS).1⟩) (fun σ4 d' s4 hd' => ?_)
        · by_cases y : Fp ns τ row p S
          · rw [((hW S hS).1 y).1, (hc S).1 y]
            exact ⟨rfl, by have := hcl S; omega⟩
          · rw [(hW S hS).2 y, (hc S).2 y]
            exact ⟨rfl, Nat.le_refl _⟩
        · rw [nI_1]
          refine ih (p + 1) σ4 d' (by omega) ((s2.tr s3).tr s4.sp) (fun S hS => (hd' S hS).1) (hI.step (c := c) (fun S hS => ?_) (fun S hS => (hd' S hS).2))
          have hcf : CfD mw row.length np (plN τ row) (Ep τ row) p S = Cp mw τ row p S := by unfold CfD Cp; rw [if_pos hpn]
          rw [hcf]
          refine ⟨fun y => ⟨(hc S).1 (y hpn), by have := hcl S; omega⟩, fun y => (hc S).2 (fun w => y (fun _ => w))⟩
    refine ⟨np + 1, loop np 0 σ1 (fun S => if S = 0 then 0 else 10000000000000000) (by omega) (SP.rf σ1) (fun S hS => ?_) (InvL.zero (if_pos rfl) (fun S h0 _ => if_neg (by omega)))⟩
    by_cases e : S = 0
    · subst e; rw [if_pos rfl]; exact l0
    · rw [if_neg e]; exact l1 S (by omega) (by omega)
  unfold w_X5_settle
  rcases hx with ⟨rfl, rfl⟩ | ⟨rfl, rfl⟩
  · exact ⟨fun _ => J, fun n => absurd rfl n⟩
  · exact ⟨fun n => absurd n n10, fun _ => J⟩
end PLN
