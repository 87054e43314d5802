/-! ===== the reference: orders ===== -/
def rowL (key mc : Nat → Int32) : Nat → List Nat
  | 0 => []
  | n + 1 => if mc n = 0 then insF key n (rowL key mc n) else rowL key mc n
theorem insF_head {key : Nat → Int32} {n : Nat} {L : List Nat} (h : ∀ g ∈ L, key n < key g) : insF key n L = n :: L := by
  cases L with
  | nil => rfl
  | cons g L => unfold insF; rw [if_pos (h g List.mem_cons_self)]
theorem filter_ins {key : Nat → Int32} {P : Nat → Bool} {n : Nat} : ∀ L : List Nat, srt key L → (insF key n L).filter P = if P n = true then insF key n (L.filter P) else L.filter P
  | [], _ => by
    unfold insF
    by_cases h : P n = true <;> simp [h, insF]
  | g :: L, hs => by
    have h1 := List.pairwise_cons.mp hs
    have ih := filter_ins (P := P) (n := n) L h1.2
    conv => lhs; unfold insF
    by_cases hlt : key n < key g
    · rw [if_pos hlt, List.filter_cons]
      by_cases hp : P n = true
      · rw [if_pos hp, if_pos hp]
        refine (insF_head (fun x hx => ?_)).symm
        rcases List.mem_cons.mp (List.mem_filter.mp hx).1 with e | e
        · rw [e]; exact hlt
        · have := h1.1 x e
          rw [i_lt] at this hlt ⊢
          omega
      · rw [if_neg hp, if_neg hp]
    · rw [if_neg hlt, List.filter_cons, ih]
      by_cases hg : P g = true
      · rw [if_pos hg, List.filter_cons, if_pos hg]
        by_cases hp : P n = true
        · rw [if_pos hp, if_pos hp]
          conv => rhs; unfold insF
          rw [if_neg hlt]
        · rw [if_neg hp, if_neg hp]
      · rw [if_neg hg, List.filter_cons, if_neg hg]
theorem rowL_eq (key mc : Nat → Int32) : ∀ n, rowL key mc n = (ordL key n).filter (fun f => decide (mc f = 0))
  | 0 => rfl
  | n + 1 => by
    rw [rowL, ordL, filter_ins _ (ordL_srt key n), rowL_eq key mc n]
    by_cases h : mc n = 0 <;> simp [h]
theorem rowL_len (key mc : Nat → Int32) : ∀ n, (rowL key mc n).length = liveN mc n
  | 0 => rfl
  | n + 1 => by
    rw [rowL, liveN]
    split
    · rw [insF_len, rowL_len key mc n]
    · rw [rowL_len key mc n]; rfl
theorem rowL_mem {key mc : Nat → Int32} {n x : Nat} : x ∈ rowL key mc n ↔ (x < n ∧ mc x = 0) := by
  rw [rowL_eq, List.mem_filter, ordL_mem, decide_eq_true_eq]
theorem rowL_srt (key mc : Nat → Int32) (n : Nat) : srt key (rowL key mc n) := by
  rw [rowL_eq]
  exact List.Pairwise.filter _ (ordL_srt key n)
theorem rowL_nodup (key mc : Nat → Int32) (n : Nat) : (rowL key mc n).Nodup := by
  rw [rowL_eq]
  exact List.Pairwise.filter _ (ordL_nodup key n)
theorem liveN_mono (mc : Nat → Int32) : ∀ n m, n ≤ m → liveN mc n ≤ liveN mc m := by
  intro n m h
  induction m with
  | zero => have : n = 0 := by omega
            subst this; exact Nat.le_refl _
  | succ m ih =>
    by_cases e : n = m + 1
    · subst e; exact Nat.le_refl _
    · have := ih (by omega)
      rw [liveN]; omega
theorem getD_mem {L : List Nat} {i : Nat} (h : i < L.length) : L.getD i 0 ∈ L := by
  rw [List.getD_eq_getElem?_getD, List.getElem?_eq_getElem h, Option.getD_some]
  exact List.getElem_mem h
theorem SM_wr34 {τ0 τ : St} {v : Int32} (h : SM τ0 τ) : SM τ0 (wr τ 0 34 v) := ⟨fun k h1 h2 => by rw [← h.1 k h1 h2]; exact if_neg (by omega), fun j e1 e2 e3 e4 => by rw [← h.2 j e1 e2 e3 e4]; exact upd_ne e3⟩
theorem SM_wr36 {τ0 τ : St} {v : Int32} (h : SM τ0 τ) : SM τ0 (wr τ 0 36 v) := ⟨fun k h1 h2 => by rw [← h.1 k h1 h2]; exact if_neg (by omega), fun j e1 e2 e3 e4 => by rw [← h.2 j e1 e2 e3 e4]; exact upd_ne e4⟩
theorem SM_wrk {τ0 τ : St} {k j : Nat} {v : Int32} (hk : 27 ≤ k) (h : SM τ0 τ) : SM τ0 (wr τ k j v) := ⟨fun a h1 h2 => by rw [← h.1 a h1 h2]; exact if_neg (by omega), fun j e1 e2 e3 e4 => by rw [← h.2 j e1 e2 e3 e4]; show (if (0 : Nat) = k then _ else τ.1 0) j = _; rw [if_neg (by omega)]⟩
theorem SM_sck {τ0 τ : St} {k : Nat} {f : Nat → Int32} (hk : 27 ≤ k) (h : SM τ0 τ) : SM τ0 (sc τ k f) := ⟨fun a h1 h2 => by rw [← h.1 a h1 h2]; exact if_neg (by omega), fun j e1 e2 e3 e4 => by rw [← h.2 j e1 e2 e3 e4]; show (if (0 : Nat) = k then _ else τ.1 0) j = _; rw [if_neg (by omega)]⟩
/-- the new flight goes to its place in the row -/
theorem ins32 {τ0 τ : St} {f : Nat} {L : List Nat} {Q : St → Prop} {K : Int32 → St → Prop} (hS : SM τ0 τ) (hf : f < 20) (hL : L.length < 8) (hm : ∀ g ∈ L, g < 20) (hs : srt (τ0.1 12) L) (hr : ∀ i, i < L.length → τ.1 27 i = nI (L.getD i 0)) (hc : τ.1 0 34 = nI L.length)
    (q : ∀ τ', SM τ0 τ' → τ'.1 0 34 = nI (L.length + 1) → (∀ i, i < L.length + 1 → τ'.1 27 i = nI ((insF (τ0.1 12) f L).getD i 0)) → K (nI f + 1) τ') : ∃ nn : Nat, w_X11_orders_32 Q K nn (nI f) (τ.1 0 34) τ := by
  have fin : ∀ (a : Nat) (o' : Nat → Int32), a ≤ L.length → (∀ j, j < a → o' j = nI (L.getD j 0)) → (∀ j, a < j → j ≤ L.length → o' j = nI (L.getD (j - 1) 0)) → (∀ j, a ≤ j → j < L.length → τ0.1 12 f < τ0.1 12 (L.getD j 0)) → (a = 0 ∨ ¬ τ0.1 12 f < τ0.1 12 (L.getD (a - 1) 0)) → w_X11_orders_78 Q K (nI f) (nI a) (sc τ 27 o') := by
    intro a o' ha h1 h2 h3 h4
    unfold w_X11_orders_78
    refine ⟨vp_in_nI (by omega) (by omega), ?_⟩
    rintro _ rfl _ rfl
    rw [n_clamp (by omega), sc_wr]
    have hle : ∀ i, i < a → ¬ τ0.1 12 f < τ0.1 12 (L.getD i 0) := by
      intro i hi
      rcases h4 with h4 | h4
      · omega
      · by_cases e : i = a - 1
        · rw [e]; exact h4
        · have := srt_getD hs (i := i) (j := a - 1) (by omega) (by omega)
          intro z
          rw [i_lt] at z h4 this
          omega
    refine q _ (SM_wr34 (SM_sck (by omega) hS)) ?_ (fun i hi => ?_)
    · show τ.1 0 34 + 1 = _
      rw [hc, nI_1]
    · show upd o' a (nI f) i = _
      rw [insF_split (τ0.1 12) f L a (by omega) hle (fun hl => h3 a (Nat.le_refl a) (by omega)), split_getD (by omega)]
      by_cases g1 : i < a
      · rw [if_pos g1, upd_ne (by omega)]; exact h1 i g1
      · rw [if_neg g1]
        by_cases g2 : i = a
        · subst g2; rw [if_pos rfl, upd_eq]
        · rw [if_neg g2, upd_ne g2]; exact h2 i (by omega) (by omega)
  have key : ∀ j, τ.1 12 j = τ0.1 12 j := fun j => by rw [hS.1 12 (by omega) (by omega)]
  have loop : ∀ (a : Nat) (o' : Nat → Int32), a ≤ L.length → (∀ j, j < a → o' j = nI (L.getD j 0)) → (∀ j, a < j → j ≤ L.length → o' j = nI (L.getD (j - 1) 0)) → (∀ j, a ≤ j → j < L.length → τ0.1 12 f < τ0.1 12 (L.getD j 0)) → w_X11_orders_32 Q K (a + 1) (nI f) (nI a) (sc τ 27 o') := by
    intro a
    induction a with
    | zero =>
      intro o' ha h1 h2 h3
      exact bt (by decide) (fin 0 o' ha h1 h2 h3 (Or.inl rfl))
    | succ a ih =>
      intro o' ha h1 h2 h3
      have hgm := hm _ (getD_mem (L := L) (i := a) (by omega))
      refine bf (nI_nle (by omega) (by omega)) ?_
      rw [nI_pred, n_clamp (show a < 2 ^ 31 by omega)]
      have eo : (sc τ 27 o').1 27 a = nI (L.getD a 0) := h1 a (by omega)
      rw [eo, n_clamp (by omega), n_clamp (by omega)]
      have hv : vp_in (nI a) 8 := vp_in_nI (by omega) (by omega)
      have e12 : (sc τ 27 o').1 12 = τ.1 12 := rfl
      rw [e12, key, key]
      refine ⟨hv, vp_in_nI hgm (by omega), vp_in_nI hf (by omega), fun z => ?_, fun z => ⟨hv, vp_in_nI (by omega) (by omega), ?_⟩⟩
      · refine fin (a + 1) o' ha h1 h2 h3 (Or.inr (fun y => ?_))
        rw [i_le] at z
        rw [i_lt] at y
        have : (a + 1 - 1) = a := rfl
        rw [this] at y
        omega
      · rintro _ rfl
        rw [n_clamp (by omega), sc_wr, pk_m1_eq, nI_pred]
        refine ih _ (by omega) (fun j hj => ?_) (fun j hj hj2 => ?_) (fun j hj hj2 => ?_)
        · rw [upd_ne (by omega)]; exact h1 j (by omega)
        · by_cases e : j = a + 1
          · subst e; rw [upd_eq]; rfl
          · rw [upd_ne e]; exact h2 j (by omega) hj2
        · by_cases e : j = a
          · subst e
            rw [i_le] at z
            rw [i_lt]
            omega
          · exact h3 j (by omega) hj2
  refine ⟨L.length + 1, ?_⟩
  have := loop L.length (τ.1 27) (Nat.le_refl _) hr (fun j h1 h2 => by omega) (fun j h1 h2 => by omega)
  rw [sc_id] at this
  rw [hc]
  exact this
theorem ordersM {G : Prop} {tl np nf ns no : Nat} {σ τ : St} {Q : St → Prop} (h : RelX G tl np nf ns no σ τ) (q : ∀ τ', SM τ τ' → τ'.1 0 34 = nI (rowL (τ.1 12) (τ.1 14) nf).length → (∀ k, k < (rowL (τ.1 12) (τ.1 14) nf).length → τ'.1 27 k = nI ((rowL (τ.1 12) (τ.1 14) nf).getD k 0)) → Q τ') : w_X11_orders τ Q := by
  obtain ⟨-, -, -, -, ⟨f0, -, f2, -, -, -, -, -, -, -, f10, -⟩, -⟩ := h
  unfold w_X11_orders
  rintro _ rfl
  have loop : ∀ (k i : Nat) (τ' : St), i + k = nf → SM τ τ' → τ'.1 0 34 = nI (rowL (τ.1 12) (τ.1 14) i).length → (∀ k, k < (rowL (τ.1 12) (τ.1 14) i).length → τ'.1 27 k = nI ((rowL (τ.1 12) (τ.1 14) i).getD k 0)) → w_X11_orders_7 Q (k + 1) (nI i) τ' := by
    intro k
    induction k with
    | zero =>
      intro i τ' hi hS h1 h2
      obtain rfl : i = nf := by omega
      refine bt ?_ (q τ' hS h1 h2)
      rw [hS.2 14 (by omega) (by omega) (by omega) (by omega), f2, nI_leI (by omega) (by omega)]; omega
    | succ k ih =>
      intro i τ' hi hS h1 h2
      refine bf ?_ ⟨vp_in_nI (by omega) (by omega), ?_⟩
      · rw [hS.2 14 (by omega) (by omega) (by omega) (by omega), f2, nI_leI (by omega) (by omega)]; omega
      rw [n_clamp (by omega), hS.1 14 (by omega) (by omega)]
      have e : rowL (τ.1 12) (τ.1 14) (i + 1) = if τ.1 14 i = 0 then insF (τ.1 12) i (rowL (τ.1 12) (τ.1 14) i) else rowL (τ.1 12) (τ.1 14) i := rfl
      refine ⟨fun z => ?_, fun z => ?_⟩
      · rw [if_pos z] at e
        have hlen : (rowL (τ.1 12) (τ.1 14) i).length < 8 := by
          have a1 := rowL_len (τ.1 12) (τ.1 14) (i + 1)
          have a2 := liveN_mono (τ.1 14) (i + 1) nf (by omega)
          rw [e, insF_len] at a1
          omega
        refine ins32 hS (by omega) hlen (fun g hg => by have := (rowL_mem.mp hg).1; omega) (rowL_srt _ _ _) h2 h1 (fun τ2 g1 g2 g3 => ?_)
        rw [nI_1]
        refine ih (i + 1) τ2 (by omega) g1 ?_ ?_
        · rw [e, insF_len]; exact g2
        · rw [e, insF_len]; exact g3
      · rw [if_neg z] at e
        rw [nI_1]
        exact ih (i + 1) τ' (by omega) hS (by rw [e]; exact h1) (by rw [e]; exact h2)
  exact ⟨nf + 1, loop nf 0 _ (by omega) (SM_wr34 (SM.rf τ)) rfl (fun k hk => absurd hk (Nat.not_lt_zero k))⟩
