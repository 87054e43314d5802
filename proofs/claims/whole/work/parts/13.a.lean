/-! ===== the order of flights ===== -/
theorem pk_m1_eq {x : Int32} : x + (-1) = x - 1 := by rw [Int32.sub_eq_add_neg]
theorem insF_len (key : Nat → Int32) (f : Nat) : ∀ L : List Nat, (insF key f L).length = L.length + 1
  | [] => rfl
  | g :: L => by
    unfold insF
    split
    · rfl
    · rw [List.length_cons, insF_len key f L, List.length_cons]
theorem ordL_len (key : Nat → Int32) : ∀ n, (ordL key n).length = n
  | 0 => rfl
  | n + 1 => by rw [ordL, insF_len, ordL_len key n]
theorem insF_mem (key : Nat → Int32) (f x : Nat) : ∀ L : List Nat, x ∈ insF key f L ↔ (x = f ∨ x ∈ L)
  | [] => by simp [insF]
  | g :: L => by
    unfold insF
    split
    · simp
    · rw [List.mem_cons, insF_mem key f x L, List.mem_cons]
      constructor
      · rintro (h | h | h)
        · exact Or.inr (Or.inl h)
        · exact Or.inl h
        · exact Or.inr (Or.inr h)
      · rintro (h | h | h)
        · exact Or.inr (Or.inl h)
        · exact Or.inl h
        · exact Or.inr (Or.inr h)
theorem ordL_mem (key : Nat → Int32) (x : Nat) : ∀ n, x ∈ ordL key n ↔ x < n
  | 0 => by simp [ordL]
  | n + 1 => by
    rw [ordL, insF_mem, ordL_mem key x n]
    omega
theorem insF_nodup (key : Nat → Int32) (f : Nat) : ∀ L : List Nat, L.Nodup → f ∉ L → (insF key f L).Nodup
  | [], _, _ => by simp [insF]
  | g :: L, h, hf => by
    unfold insF
    split
    · exact List.nodup_cons.mpr ⟨hf, h⟩
    · have h1 := List.nodup_cons.mp h
      refine List.nodup_cons.mpr ⟨fun hm => ?_, insF_nodup key f L h1.2 (fun z => hf (List.mem_cons_of_mem _ z))⟩
      rcases (insF_mem key f g L).mp hm with e | e
      · exact hf (by rw [e]; exact List.mem_cons_self)
      · exact h1.1 e
theorem ordL_nodup (key : Nat → Int32) : ∀ n, (ordL key n).Nodup
  | 0 => List.nodup_nil
  | n + 1 => insF_nodup key n _ (ordL_nodup key n) (fun h => by have := (ordL_mem key n n).mp h; omega)
def srt (key : Nat → Int32) (L : List Nat) : Prop := L.Pairwise (fun x y => ¬ key y < key x)
theorem insF_srt (key : Nat → Int32) (f : Nat) : ∀ L : List Nat, srt key L → srt key (insF key f L)
  | [], _ => by simp [insF, srt]
  | g :: L, h => by
    unfold insF
    have h1 := List.pairwise_cons.mp h
    split
    · rename_i hlt
      refine List.pairwise_cons.mpr ⟨fun x hx => ?_, h⟩
      rcases List.mem_cons.mp hx with e | e
      · subst e
        intro z
        rw [i_lt] at z hlt
        omega
      · have := h1.1 x e
        intro z
        rw [i_lt] at z hlt this
        omega
    · rename_i hlt
      refine List.pairwise_cons.mpr ⟨fun x hx => ?_, insF_srt key f L h1.2⟩
      rcases (insF_mem key f x L).mp hx with e | e
      · subst e; exact hlt
      · exact h1.1 x e
theorem ordL_srt (key : Nat → Int32) : ∀ n, srt key (ordL key n)
  | 0 => List.Pairwise.nil
  | n + 1 => insF_srt key n _ (ordL_srt key n)
theorem insF_congr (key key' : Nat → Int32) (f : Nat) (hf : key f = key' f) : ∀ L : List Nat, (∀ g ∈ L, key g = key' g) → insF key f L = insF key' f L
  | [], _ => rfl
  | g :: L, h => by
    unfold insF
    rw [hf, h g List.mem_cons_self, insF_congr key key' f hf L (fun x hx => h x (List.mem_cons_of_mem _ hx))]
theorem ordL_congr (key key' : Nat → Int32) : ∀ n, (∀ j, j < n → key j = key' j) → ordL key n = ordL key' n
  | 0, _ => rfl
  | n + 1, h => by
    rw [ordL, ordL, ordL_congr key key' n (fun j hj => h j (by omega))]
    exact insF_congr key key' n (h n (by omega)) _ (fun g hg => h g (by have := (ordL_mem key' g n).mp hg; omega))
theorem insF_split (key : Nat → Int32) (f : Nat) : ∀ (L : List Nat) (a : Nat), a ≤ L.length → (∀ i, i < a → ¬ key f < key (L.getD i 0)) → (a < L.length → key f < key (L.getD a 0)) → insF key f L = L.take a ++ f :: L.drop a
  | [], a, ha, _, _ => by
    have : a = 0 := by simpa using ha
    subst this
    rfl
  | g :: L, a, ha, h1, h2 => by
    unfold insF
    cases a with
    | zero =>
      rw [if_pos (by have := h2 (by simp); simpa using this)]
      rfl
    | succ a =>
      rw [if_neg (by have := h1 0 (by omega); simpa using this)]
      rw [insF_split key f L a (by simpa using ha) (fun i hi => by have := h1 (i + 1) (by omega); simpa using this) (fun hl => by have := h2 (by simpa using hl); simpa using this)]
      rfl
theorem split_getD {L : List Nat} {a f i : Nat} (ha : a ≤ L.length) : (L.take a ++ f :: L.drop a).getD i 0 = if i < a then L.getD i 0 else if i = a then f else L.getD (i - 1) 0 := by
  have hl : (L.take a).length = a := by rw [List.length_take]; omega
  simp only [List.getD_eq_getElem?_getD]
  by_cases h1 : i < a
  · rw [if_pos h1, List.getElem?_append_left (by omega), List.getElem?_take, if_pos h1]
  · rw [if_neg h1, List.getElem?_append_right (by omega), hl]
    by_cases h2 : i = a
    · subst h2
      rw [if_pos rfl, Nat.sub_self]
      rfl
    · rw [if_neg h2, show i - a = (i - a - 1) + 1 by omega, List.getElem?_cons_succ, List.getElem?_drop, show a + (i - a - 1) = i - 1 by omega]
theorem srt_getD {key : Nat → Int32} {L : List Nat} (h : srt key L) {i j : Nat} (hij : i < j) (hj : j < L.length) : ¬ key (L.getD j 0) < key (L.getD i 0) := by
  have := (List.pairwise_iff_getElem.mp h) i j (by omega) hj hij
  simp only [List.getD_eq_getElem?_getD, List.getElem?_eq_getElem hj, List.getElem?_eq_getElem (show i < L.length by omega), Option.getD_some]
  exact this
theorem ordL_getD_lt (key : Nat → Int32) {n i : Nat} (hi : i < n) : (ordL key n).getD i 0 < n := by
  have hl := ordL_len key n
  rw [List.getD_eq_getElem?_getD, List.getElem?_eq_getElem (by omega), Option.getD_some]
  exact (ordL_mem key _ n).mp (List.getElem_mem _)
/-- the class lines the new flight up -/
theorem lineUpC {σ : St} {nf : Nat} {s : Int32} {Q : St → Prop} (hnf : nf < 20) (hs : σ.1 5 6 = nI nf) (hst : σ.1 23 nf = s) (ho : ∀ i, i < nf → σ.1 26 i = nI ((ordL (σ.1 23) nf).getD i 0))
    (q : ∀ o', (∀ i, i < nf + 1 → o' i = nI ((ordL (σ.1 23) (nf + 1)).getD i 0)) → Q (sc σ 26 o')) : w_X1_lineUp (nI nf) s σ Q := by
  unfold w_X1_lineUp
  have hlen := ordL_len (σ.1 23) nf
  have fin : ∀ (a : Nat) (o' : Nat → Int32), a ≤ nf → (∀ j, j < a → o' j = nI ((ordL (σ.1 23) nf).getD j 0)) → (∀ j, a < j → j ≤ nf → o' j = nI ((ordL (σ.1 23) nf).getD (j - 1) 0)) → (∀ j, a ≤ j → j < nf → s < σ.1 23 ((ordL (σ.1 23) nf).getD j 0)) → (a = 0 ∨ ¬ s < σ.1 23 ((ordL (σ.1 23) nf).getD (a - 1) 0)) → w_X1_lineUp_55 Q (nI nf) (nI a) (sc σ 26 o') := by
    intro a o' ha h1 h2 h3 h4
    unfold w_X1_lineUp_55
    refine ⟨vp_in_nI (by omega) (by omega), ?_⟩
    rintro _ rfl
    rw [n_clamp (by omega), sc_wr]
    refine q _ (fun i hi => ?_)
    have hle : ∀ i, i < a → ¬ σ.1 23 nf < σ.1 23 ((ordL (σ.1 23) nf).getD i 0) := by
      intro i hi
      rw [hst]
      rcases h4 with h4 | h4
      · omega
      · by_cases e : i = a - 1
        · rw [e]; exact h4
        · have := srt_getD (ordL_srt (σ.1 23) nf) (i := i) (j := a - 1) (by omega) (by omega)
          intro z
          rw [i_lt] at z h4 this
          omega
    have e := insF_split (σ.1 23) nf (ordL (σ.1 23) nf) a (by omega) hle (fun hl => by rw [hst]; exact h3 a (Nat.le_refl a) (by omega))
    rw [show ordL (σ.1 23) (nf + 1) = insF (σ.1 23) nf (ordL (σ.1 23) nf) from rfl, e, split_getD (by omega)]
    by_cases g1 : i < a
    · rw [if_pos g1, upd_ne (by omega)]; exact h1 i g1
    · rw [if_neg g1]
      by_cases g2 : i = a
      · subst g2; rw [if_pos rfl, upd_eq]
      · rw [if_neg g2, upd_ne g2]; exact h2 i (by omega) (by omega)
  have loop : ∀ (a : Nat) (o' : Nat → Int32), a ≤ nf → (∀ j, j < a → o' j = nI ((ordL (σ.1 23) nf).getD j 0)) → (∀ j, a < j → j ≤ nf → o' j = nI ((ordL (σ.1 23) nf).getD (j - 1) 0)) → (∀ j, a ≤ j → j < nf → s < σ.1 23 ((ordL (σ.1 23) nf).getD j 0)) → w_X1_lineUp_7 Q (a + 1) (nI nf) s (nI a) (nI a - 1) (sc σ 26 o') := by
    intro a
    induction a with
    | zero =>
      intro o' ha h1 h2 h3
      exact bt (by decide) (fin 0 o' ha h1 h2 h3 (Or.inl rfl))
    | succ a ih =>
      intro o' ha h1 h2 h3
      rw [nI_pred]
      have hv : vp_in (nI a) 20 := vp_in_nI (by omega) (by omega)
      have ec := n_clamp (show a < 2 ^ 31 by omega)
      refine bf (nI_pos (by omega)) ⟨hv, ?_⟩
      rw [ec]
      have eo : (sc σ 26 o').1 26 a = nI ((ordL (σ.1 23) nf).getD a 0) := h1 a (by omega)
      rw [eo]
      have hg := ordL_getD_lt (σ.1 23) (n := nf) (i := a) (by omega)
      refine X1_startOf_t (n := nf) hs hg (by omega) ⟨fun z => ⟨hv, ?_, ?_⟩, fun z => ?_⟩
      · rw [nI_1]; exact vp_in_nI (by omega) (by omega)
      · rintro _ rfl
        rw [nI_1, n_clamp (by omega), sc_wr, pk_m1_eq]
        have e1 : (sc σ 26 o').1 26 a = o' a := rfl
        rw [e1]
        refine ih _ (by omega) (fun j hj => ?_) (fun j hj hj2 => ?_) (fun j hj hj2 => ?_)
        · rw [upd_ne (by omega)]; exact h1 j (by omega)
        · by_cases e : j = a + 1
          · subst e; rw [upd_eq, h1 a (by omega)]; rfl
          · rw [upd_ne e]; exact h2 j (by omega) hj2
        · by_cases e : j = a
          · subst e; exact z
          · exact h3 j (by omega) hj2
      · exact fin (a + 1) o' ha h1 h2 h3 (Or.inr z)
  refine ⟨nf + 1, ?_⟩
  have := loop nf (σ.1 26) (Nat.le_refl nf) ho (fun j h1 h2 => by omega) (fun j h1 h2 => by omega)
  rw [sc_id] at this
  exact this
