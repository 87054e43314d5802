/-! ===== the class's planner: the least over sets ===== -/
theorem bv_nI (n : Nat) : (nI n).toBitVec = BitVec.ofNat 32 n := rfl
theorem nI_and {a b : Nat} (ha : a < 2 ^ 32) (hb : b < 2 ^ 32) : nI a &&& nI b = nI (a &&& b) := by
  apply Int32.toBitVec_inj.mp
  rw [Int32.toBitVec_and, bv_nI, bv_nI, bv_nI]
  apply BitVec.eq_of_toNat_eq
  rw [BitVec.toNat_and, BitVec.toNat_ofNat, BitVec.toNat_ofNat, BitVec.toNat_ofNat, Nat.mod_eq_of_lt ha, Nat.mod_eq_of_lt hb, Nat.mod_eq_of_lt (Nat.lt_of_le_of_lt Nat.and_le_left ha)]
theorem nI_xor {a b : Nat} (ha : a < 2 ^ 32) (hb : b < 2 ^ 32) : nI a ^^^ nI b = nI (a ^^^ b) := by
  apply Int32.toBitVec_inj.mp
  rw [Int32.toBitVec_xor, bv_nI, bv_nI, bv_nI]
  apply BitVec.eq_of_toNat_eq
  rw [BitVec.toNat_xor, BitVec.toNat_ofNat, BitVec.toNat_ofNat, BitVec.toNat_ofNat, Nat.mod_eq_of_lt ha, Nat.mod_eq_of_lt hb, Nat.mod_eq_of_lt (Nat.xor_lt_two_pow ha hb)]
theorem xor_sub {s S : Nat} (h : s &&& S = s) : (S ^^^ s) &&& S = S ^^^ s := by
  refine Nat.eq_of_testBit_eq (fun j => ?_)
  rw [Nat.testBit_and, Nat.testBit_xor]
  cases hb : s.testBit j with
  | false => cases S.testBit j <;> rfl
  | true => rw [sub_bit h hb]; rfl
theorem leastC {σ : St} {c d : Nat → Nat} {S : Nat} (hS : S < 256) (hc : ∀ s, s ≤ S → σ.2 33 s = l64 (c s) ∧ c s ≤ 10000000000000000) (hd : ∀ s, s ≤ S → σ.2 34 s = l64 (d s) ∧ d s ≤ 10000000000000000) {Q : Int64 → St → Prop} (q : ∀ v, MinS 10000000000000000 c d S v → Q (l64 v) σ) : w_X5_leastOf (nI S) σ Q := by
  unfold w_X5_leastOf
  have hS9 : S < 2 ^ 9 := by have : (2 : Nat) ^ 9 = 512 := by decide
                             omega
  have loop : ∀ (m part cnt v : Nat), part ≤ m → part &&& S = part → cnt + part ≤ S → (v ≤ 10000000000000000 ∧ (v = 10000000000000000 ∨ ∃ s, s &&& S = s ∧ c s < 10000000000000000 ∧ v = c s + d (S ^^^ s)) ∧ ∀ s, s &&& S = s → part < s → c s < 10000000000000000 → v ≤ c s + d (S ^^^ s)) → w_X5_leastOf_10 Q (m + 1) (nI S) (l64 v) (nI part) (nI cnt) σ := by
    intro m
    induction m with
    | zero =>
      intro part cnt v hm hp hcnt hv
      obtain rfl : part = 0 := by omega
      obtain ⟨c1, c2⟩ := hc 0 (by omega)
      have hx : S ^^^ 0 = S := Nat.xor_zero S
      obtain ⟨d1, d2⟩ := hd S (Nat.le_refl S)
      have J : ∀ w : Nat, (w ≤ 10000000000000000 ∧ (w = 10000000000000000 ∨ ∃ s, s &&& S = s ∧ c s < 10000000000000000 ∧ w = c s + d (S ^^^ s)) ∧ ∀ s, s &&& S = s → 0 ≤ s → c s < 10000000000000000 → w ≤ c s + d (S ^^^ s)) → ∀ K, w_X5_leastOf_52 Q K (nI S) (l64 w) (nI 0) (nI cnt) σ := fun w hw K => ⟨fun n => absurd rfl n, fun _ => q w ⟨hw.1, hw.2.1, fun s hs => hw.2.2 s hs (Nat.zero_le s)⟩⟩
      refine bf (by rw [nI_ltI (by omega) (by omega)]; omega) ⟨vp_in_nI (by omega) (by omega), ?_⟩
      rw [n_clamp (by omega), c1, lg_cmp_ge, show (10000000000000000 : Int64) = l64 10000000000000000 from rfl, l64_le (by omega) (by omega)]
      refine ⟨fun z => J v ⟨hv.1, hv.2.1, fun s hs _ hcs => ?_⟩ _, fun z => ⟨vp_in_nI (by omega) (by omega), ?_⟩⟩
      · rcases Nat.eq_zero_or_pos s with e | e
        · subst e; omega
        · exact hv.2.2 s hs e hcs
      · rw [nI_xor (by omega) (by omega), hx, n_clamp (by omega), d1]
        refine ⟨vp_in_nI (by omega) (by omega), ?_⟩
        rintro _ rfl
        rw [l64_add]
        by_cases hlt : c 0 + d S < v
        · rw [if_pos ((l64_lt (by omega) (by omega)).mpr hlt)]
          refine J (c 0 + d S) ⟨by omega, Or.inr ⟨0, hp, by omega, by rw [hx]⟩, fun s hs _ hcs => ?_⟩ _
          rcases Nat.eq_zero_or_pos s with e | e
          · subst e; rw [hx]; omega
          · have := hv.2.2 s hs e hcs; omega
        · rw [if_neg (fun y => hlt ((l64_lt (by omega) (by omega)).mp y))]
          refine J v ⟨hv.1, hv.2.1, fun s hs _ hcs => ?_⟩ _
          rcases Nat.eq_zero_or_pos s with e | e
          · subst e; rw [hx]; omega
          · exact hv.2.2 s hs e hcs
    | succ m ih =>
      intro part cnt v hm hp hcnt hv
      have hple := sub_le hp
      obtain ⟨c1, c2⟩ := hc part hple
      have hxs := sub_le (xor_sub hp)
      obtain ⟨d1, d2⟩ := hd (S ^^^ part) hxs
      have J : ∀ w : Nat, (w ≤ 10000000000000000 ∧ (w = 10000000000000000 ∨ ∃ s, s &&& S = s ∧ c s < 10000000000000000 ∧ w = c s + d (S ^^^ s)) ∧ ∀ s, s &&& S = s → part ≤ s → c s < 10000000000000000 → w ≤ c s + d (S ^^^ s)) → w_X5_leastOf_52 Q (fun x1 x2 x4 x5 σ => w_X5_leastOf_10 Q (m + 1) x1 x2 x4 x5 σ) (nI S) (l64 w) (nI part) (nI cnt) σ := by
        intro w hw
        refine ⟨fun n => ?_, fun z => q w ⟨hw.1, hw.2.1, fun s hs hcs => ?_⟩⟩
        · have hpos : 0 < part := by
            rcases Nat.eq_zero_or_pos part with e | e
            · subst e; exact absurd rfl n
            · exact e
          have e1 : nI part - 1 = nI (part - 1) := by
            conv => lhs; rw [show part = (part - 1) + 1 by omega]
            exact nI_pred _
          rw [e1, nI_and (by omega) (by omega), nI_1]
          have hle : (part - 1) &&& S ≤ part - 1 := Nat.and_le_left
          refine ih ((part - 1) &&& S) (cnt + 1) w (by omega) (and_sub _ _) (by omega) ⟨hw.1, hw.2.1, fun s hs hlt hcs => hw.2.2 s hs ?_ hcs⟩
          rcases Nat.lt_or_ge s part with y | y
          · have := sub_next 9 S hS9 part s hp hs y
            omega
          · exact y
        · have : part = 0 := (nI_eq (by omega) (by omega)).mp z
          exact hw.2.2 s hs (by omega) hcs
      refine bf (by rw [nI_ltI (by omega) (by omega)]; omega) ⟨vp_in_nI (by omega) (by omega), ?_⟩
      rw [n_clamp (by omega), c1, lg_cmp_ge, show (10000000000000000 : Int64) = l64 10000000000000000 from rfl, l64_le (by omega) (by omega)]
      refine ⟨fun z => J v ⟨hv.1, hv.2.1, fun s hs hle hcs => ?_⟩, fun z => ⟨vp_in_nI (by omega) (by omega), ?_⟩⟩
      · by_cases e : s = part
        · subst e; omega
        · exact hv.2.2 s hs (by omega) hcs
      · rw [nI_xor (by omega) (by omega), n_clamp (by omega), d1]
        refine ⟨vp_in_nI (by omega) (by omega), ?_⟩
        rintro _ rfl
        rw [l64_add]
        by_cases hlt : c part + d (S ^^^ part) < v
        · rw [if_pos ((l64_lt (by omega) (by omega)).mpr hlt)]
          refine J _ ⟨by omega, Or.inr ⟨part, hp, by omega, rfl⟩, fun s hs hle hcs => ?_⟩
          by_cases e : s = part
          · subst e; omega
          · have := hv.2.2 s hs (by omega) hcs; omega
        · rw [if_neg (fun y => hlt ((l64_lt (by omega) (by omega)).mp y))]
          refine J v ⟨hv.1, hv.2.1, fun s hs hle hcs => ?_⟩
          by_cases e : s = part
          · subst e; omega
          · exact hv.2.2 s hs (by omega) hcs
  refine ⟨S + 1, loop S S 0 10000000000000000 (Nat.le_refl S) (Nat.and_self S) (by omega) ⟨Nat.le_refl _, Or.inl rfl, fun s hs hlt => ?_⟩⟩
  have := sub_le hs
  omega
/-- only the costs by set (33) or what is least (34) -/
def SL (σ σ' : St) : Prop := σ'.1 = σ.1 ∧ ∀ k, k ≠ 33 → k ≠ 34 → σ'.2 k = σ.2 k
theorem SL.sp {a b : St} (h : SL a b) : SP a b := ⟨fun k _ _ _ _ => by rw [h.1], h.2⟩
theorem SL.tr {a b c : St} (h1 : SL a b) (h2 : SL b c) : SL a c := ⟨h2.1.trans h1.1, fun k e1 e2 => (h2.2 k e1 e2).trans (h1.2 k e1 e2)⟩
theorem SL.rf (σ : St) : SL σ σ := ⟨rfl, fun _ _ _ => rfl⟩
theorem SL.w33 {σ : St} {j : Nat} {v : Int64} : SL σ (wl σ 33 j v) := ⟨rfl, fun k h1 _ => if_neg h1⟩
theorem SL.w34 {σ : St} {j : Nat} {v : Int64} : SL σ (wl σ 34 j v) := ⟨rfl, fun k _ h2 => if_neg h2⟩
theorem addC2 {σ : St} {c d : Nat → Nat} {n : Nat} (hn : n ≤ 8) (hm : σ.1 9 11 = nI n) (hc : ∀ s, s < 2 ^ n → σ.2 33 s = l64 (c s) ∧ c s ≤ 10000000000000000) (hd : ∀ s, s < 2 ^ n → σ.2 34 s = l64 (d s) ∧ d s ≤ 10000000000000000) {Q : St → Prop} (q : ∀ (σ' : St) (d' : Nat → Nat), SL σ σ' → (∀ s, s < 2 ^ n → σ'.2 34 s = l64 (d' s) ∧ MinS 10000000000000000 c d s (d' s)) → Q σ') : w_X5_addWeighed σ Q := by
  have h2 := pow_le8 hn
  have h2p := Nat.two_pow_pos n
  unfold w_X5_addWeighed
  rintro _ rfl
  have loop : ∀ (m : Nat) (σ1 : St) (D : Nat → Nat), m ≤ 2 ^ n → SL σ σ1 → σ1.2 33 = σ.2 33 → (∀ s, s < 2 ^ n → σ1.2 34 s = l64 (D s)) → (∀ s, s < m → D s = d s) → (∀ s, m ≤ s → s < 2 ^ n → MinS 10000000000000000 c d s (D s)) → w_X5_addWeighed_9 Q (m + 1) (nI m - 1) σ1 := by
    intro m
    induction m with
    | zero =>
      intro σ1 D hm1 hs h33 hD h1 h3
      exact bt (by decide) (q σ1 D hs (fun s hs2 => ⟨hD s hs2, h3 s (Nat.zero_le s) hs2⟩))
    | succ m ih =>
      intro σ1 D hm1 hs h33 hD h1 h3
      rw [nI_pred]
      refine bf (nI_pos (by omega)) (leastC (c := c) (d := d) (by omega) (fun s hs2 => ?_) (fun s hs2 => ?_) (fun v hv => ⟨vp_in_nI (by omega) (by omega), ?_⟩))
      · rw [h33]; exact hc s (by omega)
      · refine ⟨?_, (hd s (by omega)).2⟩
        rw [hD s (by omega), h1 s (by omega)]
      · rintro _ rfl
        rw [n_clamp (by omega), pk_m1_eq]
        refine ih _ (fun s => if s = m then v else D s) (by omega) (hs.tr SL.w34) ?_ (fun s hs2 => ?_) (fun s hs2 => ?_) (fun s hs2 hs3 => ?_)
        · rw [← h33]; rfl
        · show vp_updL (σ1.2 34) m (l64 v) s = _
          by_cases e : s = m
          · subst e; rw [vp_updL_eq, if_pos rfl]
          · rw [vp_updL_ne e, if_neg e]; exact hD s hs2
        · rw [if_neg (by omega)]; exact h1 s (by omega)
        · by_cases e : s = m
          · subst e; rw [if_pos rfl]; exact hv
          · rw [if_neg e]; exact h3 s (by omega) hs3
  refine ⟨2 ^ n + 1, ?_⟩
  rw [hm, shl_1 n (by omega)]
  exact loop (2 ^ n) σ d (Nat.le_refl _) (SL.rf σ) rfl (fun s hs => (hd s hs).1) (fun _ _ => rfl) (fun s h1 h2 => by omega)
section PLN
variable {G : Prop} {tl np nf ns no : Nat} {σ τ : St} {row : List Nat} {mw : Nat}
theorem unflC (h : RelX G tl np nf ns no σ τ) (hr : RowOk nf τ row) (hP : PL σ row mw) {Q : St → Prop} (q : ∀ σ', SL σ σ' → σ'.2 34 = σ.2 34 → (∀ S, S < 2 ^ row.length → σ'.2 33 S = l64 (csum (fun k => 100000000000000 + own mw row.length (plN τ row) 9 k) S row.length)) → Q σ') : w_X5_weighUnflown σ Q := by
  have hl := hr.1
  unfold w_X5_weighUnflown
  refine ⟨vp_in_nI (n := 0) (by omega) (by omega), ?_⟩
  rintro _ rfl
  refine ⟨row.length + 1, ?_⟩
  have c0 : ∀ g : Nat → Nat, csum g 0 row.length = 0 := fun g => sumN_zero _ (fun j _ => by rw [Nat.zero_testBit]; rfl)
  have outer : ∀ (d k : Nat) (σ3 : St), k + d = row.length → SL σ σ3 → σ3.2 34 = σ.2 34 → (∀ S, S < 2 ^ k → σ3.2 33 S = l64 (csum (fun k => 100000000000000 + own mw row.length (plN τ row) 9 k) S row.length)) → w_X5_weighUnflown_9 Q (d + 1) (nI k) σ3 := by
    intro d
    induction d with
    | zero =>
      intro k σ3 hk s3 t34 hW
      obtain rfl : k = row.length := by omega
      exact bt (by rw [(hP.sp s3.sp).1, nI_leI (by omega) (by omega)]; omega) (q σ3 s3 t34 hW)
    | succ d ih =>
      intro k σ3 hk s3 t34 hW
      have hkl : k < row.length := by omega
      have h2k : (2 : Nat) ^ (k + 1) ≤ 256 := pow_le8 (by omega)
      have h2s : (2 : Nat) ^ (k + 1) = 2 ^ k + 2 ^ k := by rw [Nat.pow_succ]; omega
      have hP3 := hP.sp s3.sp
      refine bf (by rw [hP3.1, nI_leI (by omega) (by omega)]; omega) (ownC (q := 9) (h.sp s3.sp) hr hP3 hkl (by omega) ⟨2 ^ k + 1, ?_⟩)
      rw [shl_1 k (by omega), show (100000000000000 : Int64) = l64 100000000000000 from rfl, l64_add]
      have inner : ∀ (e S : Nat) (σ4 : St), S + e = 2 ^ k → SL σ σ4 → σ4.2 34 = σ.2 34 → (∀ S', S' < 2 ^ k + S → σ4.2 33 S' = l64 (csum (fun k => 100000000000000 + own mw row.length (plN τ row) 9 k) S' row.length)) → w_X5_weighUnflown_36 Q (fun x1 σ => w_X5_weighUnflown_9 Q (d + 1) x1 σ) (e + 1) (nI k) (nI (2 ^ k)) (l64 (100000000000000 + own mw row.length (plN τ row) 9 k)) (nI S) σ4 := by
        intro e
        induction e with
        | zero =>
          intro S σ4 hS s4 u34 hW4
          obtain rfl : S = 2 ^ k := by omega
          refine bt (by rw [nI_leI (by omega) (by omega)]; omega) ?_
          rw [nI_1]
          exact ih (k + 1) σ4 (by omega) s4 u34 (fun S' hS' => hW4 S' (by omega))
        | succ e ihe =>
          intro S σ4 hS s4 u34 hW4
          have hlt : S < 2 ^ k := by omega
          refine bf (by rw [nI_leI (by omega) (by omega)]; omega) ⟨vp_in_nI (by omega) (by omega), ?_⟩
          rw [nI_add]
          refine ⟨vp_in_nI (by omega) (by omega), ?_⟩
          rintro _ rfl
          rw [n_clamp (by omega), n_clamp (by omega), hW4 S (by omega), l64_add, nI_1]
          refine ihe (S + 1) _ (by omega) (s4.tr SL.w33) ?_ (fun S' hS' => ?_)
          · rw [← u34]; rfl
          · show vp_updL (σ4.2 33) (S + 2 ^ k) _ S' = _
            by_cases ee : S' = S + 2 ^ k
            · subst ee
              rw [vp_updL_eq, csum_add hlt hkl]
            · rw [vp_updL_ne ee]; exact hW4 S' (by omega)
      exact inner (2 ^ k) 0 σ3 (by omega) s3 t34 (fun S' hS' => hW S' (by omega))
  refine outer row.length 0 _ (by omega) SL.w33 rfl (fun S hS => ?_)
  have : S = 0 := by have : (2 : Nat) ^ 0 = 1 := rfl; omega
  subst this
  show vp_updL (σ.2 33) (0 : Int32).toNatClampNeg 0 0 = _
  rw [show (0 : Int32).toNatClampNeg = 0 from rfl, vp_updL_eq, c0]
  rfl
/-- lined up: the flights that are not cancelled, in order -/
theorem lineC (h : RelX G tl np nf ns no σ τ) (hmv : σ.2 9 12 = l64 mw) {Q : St → Prop} (q : ∀ σ', (∀ k, k ≠ 9 → k ≠ 31 → σ'.1 k = σ.1 k) → PL σ' (rowL (τ.1 12) (τ.1 14) nf) mw → σ'.2 34 0 = l64 0 → (∀ S, 0 < S → S < 256 → σ'.2 34 S = l64 10000000000000000) → Q σ') : w_X5_lineUp σ Q := by
  obtain ⟨f0, f1, f2, f3, f4, f5, f6, f7, f8, f9, f10, f11, f12⟩ := h.2.2.2.2.1
  have hlen := ordL_len (τ.1 12) nf
  have hrl : (rowL (τ.1 12) (τ.1 14) nf).length ≤ 8 := by rw [rowL_len]; exact f10
  unfold w_X5_lineUp
  rintro _ rfl
  -- what stands behind the lines
  have fin : ∀ σ1 : St, (∀ k, k ≠ 9 → k ≠ 31 → σ1.1 k = σ.1 k) → σ1.2 9 12 = l64 mw → σ1.1 9 11 = nI (rowL (τ.1 12) (τ.1 14) nf).length → (∀ k, k < (rowL (τ.1 12) (τ.1 14) nf).length → σ1.1 31 k = nI ((rowL (τ.1 12) (τ.1 14) nf).getD k 0)) → ∃ nn : Nat, w_X5_lineUp_82 Q nn 1 (σ1.1 9 11 - 1) σ1 := by
    intro σ1 c1 v1 m1 l1
    generalize hrow : rowL (τ.1 12) (τ.1 14) nf = row at *
    rw [m1]
    have sets : ∀ (d S : Nat) (σ2 : St), S + d = 256 → 0 < S → σ2.1 = σ1.1 → σ2.2 9 12 = l64 mw → (∀ k, k < row.length → σ2.2 32 k = l64 (10 ^ (row.length - 1 - k))) → σ2.2 34 0 = l64 0 → (∀ S', 0 < S' → S' < S → σ2.2 34 S' = l64 10000000000000000) → w_X5_lineUp_114 Q (d + 1) (nI S) σ2 := by
      intro d
      induction d with
      | zero =>
        intro S σ2 hS hp e1 e2 e3 e4 e5
        obtain rfl : S = 256 := by omega
        refine bt (by decide) (q σ2 (fun k h1 h2 => by rw [e1]; exact c1 k h1 h2) ⟨by rw [e1]; exact m1, fun k hk => by rw [e1]; exact l1 k hk, e3, e2⟩ e4 e5)
      | succ d ih =>
        intro S σ2 hS hp e1 e2 e3 e4 e5
        refine bf (by rw [show (256 : Int32) = nI 256 from rfl, nI_leI (by omega) (by omega)]; omega) ⟨vp_in_nI (by omega) (by omega), ?_⟩
        rintro _ rfl
        rw [n_clamp (by omega), nI_1]
        refine ih (S + 1) _ (by omega) (by omega) e1 e2 e3 ?_ (fun S' h1 h2 => ?_)
        · show vp_updL (σ2.2 34) S _ 0 = _
          rw [vp_updL_ne (by omega)]; exact e4
        · show vp_updL (σ2.2 34) S _ S' = _
          by_cases e : S' = S
          · subst e; rw [vp_updL_eq]; rfl
          · rw [vp_updL_ne e]; exact e5 S' h1 (by omega)
    have digs : ∀ (j : Nat) (σ2 : St), j ≤ row.length → σ2.1 = σ1.1 → σ2.2 9 12 = l64 mw → (∀ k, j ≤ k → k < row.length → σ2.2 32 k = l64 (10 ^ (row.length - 1 - k))) → w_X5_lineUp_82 Q (j + 1) (l64 (10 ^ (row.length - j))) (nI j - 1) σ2 := by
      intro j
      induction j with
      | zero =>
        intro σ2 hj e1 e2 e3
        refine bt (by decide) ⟨vp_in_nI (n := 0) (by omega) (by omega), ?_⟩
        rintro _ rfl
        refine ⟨256, sets 255 1 _ (by omega) (by omega) e1 e2 (fun k hk => e3 k (Nat.zero_le k) hk) ?_ (fun S' h1 h2 => by omega)⟩
        show vp_updL (σ2.2 34) (0 : Int32).toNatClampNeg 0 0 = _
        rw [show (0 : Int32).toNatClampNeg = 0 from rfl, vp_updL_eq]; rfl
      | succ j ih =>
        intro σ2 hj e1 e2 e3
        rw [nI_pred]
        refine bf (nI_pos (by omega)) ⟨vp_in_nI (by omega) (by omega), ?_⟩
        rintro _ rfl
        rw [n_clamp (by omega), pk_m1_eq, show (10 : Int64) = l64 10 from rfl, l64_mul]
        have ep : 10 ^ (row.length - (j + 1)) * 10 = 10 ^ (row.length - j) := by
          rw [show row.length - j = (row.length - (j + 1)) + 1 by omega, Nat.pow_succ]
        rw [ep]
        refine ih _ (by omega) e1 e2 (fun k h1 h2 => ?_)
        show vp_updL (σ2.2 32) j _ k = _
        by_cases e : k = j
        · subst e; rw [vp_updL_eq, show row.length - 1 - k = row.length - (k + 1) by omega]
        · rw [vp_updL_ne e]; exact e3 k (by omega) h2
    have := digs row.length σ1 (Nat.le_refl _) rfl v1 (fun k h1 h2 => by omega)
    rw [Nat.sub_self, Nat.pow_zero] at this
    exact ⟨row.length + 1, this⟩
  have loop : ∀ (L : List Nat) (i : Nat) (σ1 : St), i + L.length = nf → (ordL (τ.1 12) nf).drop i = L → (∀ k, k ≠ 9 → k ≠ 31 → σ1.1 k = σ.1 k) → σ1.2 9 12 = l64 mw → σ1.1 9 11 = nI (((ordL (τ.1 12) nf).take i).filter (fun f => decide (τ.1 14 f = 0))).length → (∀ k, k < (((ordL (τ.1 12) nf).take i).filter (fun f => decide (τ.1 14 f = 0))).length → σ1.1 31 k = nI ((((ordL (τ.1 12) nf).take i).filter (fun f => decide (τ.1 14 f = 0))).getD k 0)) → w_X5_lineUp_7 Q (L.length + 1) (nI i) σ1 := by
    intro L
    induction L with
    | nil =>
      intro i σ1 hi hd c1 v1 m1 l1
      have hi' : i = nf := by simpa using hi
      have ht : (ordL (τ.1 12) nf).take i = ordL (τ.1 12) nf := List.take_of_length_le (by omega)
      rw [ht, ← rowL_eq] at m1 l1
      unfold w_X5_lineUp_7 w_X1_size
      exact bt (by rw [c1 5 (by omega) (by omega), f1]; exact nI_le (by omega) (by omega)) (fin σ1 c1 v1 m1 l1)
    | cons g L ih =>
      intro i σ1 hi hd c1 v1 m1 l1
      rw [List.length_cons] at hi
      obtain ⟨d1, d2, d3, d4⟩ := drop_step hd
      have hg : g < nf := (ordL_mem (τ.1 12) g nf).mp (List.mem_of_getElem? d1)
      have hsc : SC σ σ1 := fun k _ _ h9 h31 => c1 k h9 (by omega)
      have h1 := h.scratch hsc (SM.rf τ)
      have nx := ih (i + 1)
      rw [d4, filter_app1] at nx
      unfold w_X5_lineUp_7 w_X1_size
      refine bf (by rw [c1 5 (by omega) (by omega), f1, nI_leI (by omega) (by omega)]; omega) (inOrder_t h1 (by omega) ?_)
      rw [d2]
      refine isLive_t (n := nf) h1.2.2.2.2.1.2.1 hg f0 (fun z => bf n10 ?_) (fun z => bt rfl ?_)
      · rw [h1.2.2.2.2.1.2.2.2.2.2.2.2.1] at z
        have hz : decide (τ.1 14 g = 0) = true := decide_eq_true z
        rw [if_pos hz, List.length_append] at nx
        have hlt : (((ordL (τ.1 12) nf).take i).filter (fun f => decide (τ.1 14 f = 0))).length < 8 := by
          have e1 : rowL (τ.1 12) (τ.1 14) nf = ((ordL (τ.1 12) nf).take i).filter (fun f => decide (τ.1 14 f = 0)) ++ ((ordL (τ.1 12) nf).drop i).filter (fun f => decide (τ.1 14 f = 0)) := by
            rw [← List.filter_append, List.take_append_drop, rowL_eq]
          rw [hd, List.filter_cons, if_pos hz] at e1
          have := congrArg List.length e1
          rw [List.length_append, List.length_cons] at this
          omega
        rw [m1]
        refine bf (by rw [show (8 : Int32) = nI 8 from rfl, nI_leI (by omega) (by omega)]; omega) ⟨vp_in_nI hlt (by omega), ?_⟩
        rintro s2 e2 s3 e3
        rw [n_clamp (by omega)] at e2
        rw [nI_1]
        have k31 : s3.1 31 = upd (σ1.1 31) (((ordL (τ.1 12) nf).take i).filter (fun f => decide (τ.1 14 f = 0))).length (nI g) := by rw [e3, e2]; rfl
        have k9 : s3.1 9 11 = nI ((((ordL (τ.1 12) nf).take i).filter (fun f => decide (τ.1 14 f = 0))).length + 1) := by
          rw [e3, e2]
          show σ1.1 9 11 + 1 = _
          rw [m1, nI_1]
        refine nx s3 (by omega) d3 (fun k g1 g2 => ?_) ?_ k9 (fun k hk => ?_)
        · rw [e3, e2]
          show (if k = 9 then _ else if k = 31 then _ else σ1.1 k) = _
          rw [if_neg g1, if_neg g2]; exact c1 k g1 g2
        · rw [e3, e2]; exact v1
        · rw [k31]
          by_cases e : k = (((ordL (τ.1 12) nf).take i).filter (fun f => decide (τ.1 14 f = 0))).length
          · rw [e, upd_eq, List.getD_eq_getElem?_getD, List.getElem?_append_right (Nat.le_refl _), Nat.sub_self]; rfl
          · have hk2 : k < (((ordL (τ.1 12) nf).take i).filter (fun f => decide (τ.1 14 f = 0))).length := by
              have : [g].length = 1 := rfl
              omega
            rw [upd_ne e, List.getD_eq_getElem?_getD, List.getElem?_append_left hk2, ← List.getD_eq_getElem?_getD]
            exact l1 k hk2
      · rw [h1.2.2.2.2.1.2.2.2.2.2.2.2.1] at z
        rw [if_neg (by simpa using z), List.append_nil] at nx
        rw [nI_1]
        exact nx σ1 (by omega) d3 c1 v1 m1 l1
  have := loop (ordL (τ.1 12) nf) 0 (wr σ 9 11 0) (by omega) rfl (fun k h1 _ => if_neg h1) hmv rfl (fun k hk => absurd hk (Nat.not_lt_zero k))
  rw [hlen] at this
  exact ⟨nf + 1, this⟩
end PLN
