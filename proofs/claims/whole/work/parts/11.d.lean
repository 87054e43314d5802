/-! ===== take, clock, rule ===== -/
def sc (σ : St) (k : Nat) (f : Nat → Int32) : St := (fun a => if a = k then f else σ.1 a, σ.2)
theorem sc_wr (σ : St) (k : Nat) (f : Nat → Int32) (j : Nat) (v : Int32) : wr (sc σ k f) k j v = sc σ k (upd f j v) := by
  refine Prod.ext ?_ rfl
  funext a
  show (if a = k then upd (if a = k then f else σ.1 a) j v else if a = k then f else σ.1 a) = if a = k then upd f j v else σ.1 a
  by_cases h : a = k <;> simp [h]
theorem sc_id (σ : St) (k : Nat) : sc σ k (σ.1 k) = σ := by
  refine Prod.ext ?_ rfl
  funext a
  show (if a = k then σ.1 k else σ.1 a) = σ.1 a
  by_cases h : a = k <;> simp [h]
theorem wr_sc (σ : St) (k j : Nat) (v : Int32) : wr σ k j v = sc σ k (upd (σ.1 k) j v) := by
  have := sc_wr σ k (σ.1 k) j v
  rwa [sc_id] at this
theorem sc_sc (σ : St) (k : Nat) (f g : Nat → Int32) : sc (sc σ k f) k g = sc σ k g := by
  refine Prod.ext ?_ rfl
  funext a
  show (if a = k then g else if a = k then f else σ.1 a) = if a = k then g else σ.1 a
  by_cases h : a = k <;> simp [h]
theorem ROf.st {G : Prop} {np nf no : Nat} {s : Int32} {st pc pl fl pr ti cl : Nat → Int32} {ms : Int32} {mst mpr mti mcl mlp mlf mlt mfl : Nat → Int32} {home fr to start on : Nat → Int32} (H : ROf G np nf no s st pc pl fl pr ti cl ms mst mpr mti mcl mlp mlf mlt mfl home fr to start on) {st' mst' cl' mcl' : Nat → Int32} (e1 : st' = mst') (e2 : cl' = mcl') (h : ∀ o, o < no → inR (mst' o) 0 3 ∧ (stand (mst' o) → stand (mst o))) : ROf G np nf no s st' pc pl fl pr ti cl' ms mst' mpr mti mcl' mlp mlf mlt mfl home fr to start on := by
  obtain ⟨o0, o1, o2, o3, o4, o5, o6, o7, o8, o9, o10, o11, o12⟩ := H
  exact ⟨o0, o1, o2, e1, o4, o5, o6, o7, o8, e2, fun o ho => ⟨(h o ho).1, (o10 o ho).2⟩, fun hG o ho hs => o11 hG o ho ((h o ho).2 hs), fun o o' ho ho' hs hs' => o12 o o' ho ho' ((h o ho).2 hs) ((h o' ho').2 hs')⟩
theorem take_no {a1 a2 : Int32} {τ : St} {no : Nat} {Q : Int32 → St → Prop} (hno : no ≤ 40) (o2 : τ.1 0 25 = nI no) (h : ¬ (inR a2 0 99 ∧ ∃ o, o < no ∧ a1 = nI o ∧ τ.1 19 o = 0)) (q : Q 0 τ) : w_X11_take a1 a2 τ Q := by
  unfold w_X11_take
  rcases ix_or a1 no (by omega) with ⟨f, hf, rfl⟩ | hx
  · refine lies_ix o2 hf (by omega) (b1 ⟨vp_in_nI (by omega) (by omega), fun _ => q, fun z => ?_⟩)
    rw [n_clamp (by omega)] at z
    exact lies_f (fun y => h ⟨y, f, hf, rfl, z⟩) (c0 q)
  · exact lies_out o2 hx (by omega) (b0 q)
theorem sim_take (a1 a2 : Int32) {σ τ : St} (h : Rel σ τ) : w_X10_take a1 a2 σ (fun r σ' => w_X11_take a1 a2 τ (fun r' τ' => r = r' ∧ Rel σ' τ')) := by
  have hR := h
  obtain ⟨tl, np, nf, ns, no, hT, hL, hW, hP, hF, hWF, hS, hR0, hO, hN⟩ := h
  have hO0 := hO
  obtain ⟨o0, o1, o2, o3, o4, o5, o6, o7, o8, o9, o10, o11, o12⟩ := hO
  unfold w_X10_take
  refine isWithin_w (fun h2 => b1 ?_) (fun n => b0 (take_no o0 o2 (fun z => n z.1) ⟨rfl, hR⟩))
  rcases ix_or a1 no (by omega) with ⟨f, hf, rfl⟩ | hx
  · refine X3_stateOf_t o1 hf o0 ⟨fun z => ?_, fun z => take_no o0 o2 (fun y => ?_) ⟨rfl, hR⟩⟩
    · unfold w_X3_sell
      have hv : vp_in (nI f) 40 := vp_in_nI (by omega) (by omega)
      have ec := n_clamp (show f < 2 ^ 31 by omega)
      refine X3_has_t o1 hf o0 (b1 ⟨hv, ?_⟩)
      rintro _ rfl
      refine ⟨hv, ?_⟩
      rintro _ rfl
      unfold w_X11_take
      have zm : τ.1 19 f = 0 := by rw [← o3]; exact z
      refine lies_ix o2 hf (by omega) (b1 ⟨hv, cf (by rw [ec]; exact zm) (lies_t h2 (c1 ⟨hv, ?_⟩))⟩)
      rintro _ rfl
      refine ⟨hv, ?_⟩
      rintro _ rfl
      refine ⟨rfl, tl, np, nf, ns, no, hT, hL, hW, hP, hF, hWF, hS, hR0, ?_, hN⟩
      refine hO0.st (mst' := upd (τ.1 19) (nI f).toNatClampNeg 1) (mcl' := upd (τ.1 22) (nI f).toNatClampNeg a2) ?_ ?_ (fun o ho => ?_)
      · show upd (σ.1 38) (nI f).toNatClampNeg 1 = _
        rw [o3]
      · show upd (σ.1 44) (nI f).toNatClampNeg a2 = _
        rw [o9]
      · rw [ec]
        by_cases ho' : o = f
        · subst ho'
          rw [upd_eq]
          exact ⟨⟨by decide, by decide⟩, fun _ => Or.inl zm⟩
        · rw [upd_ne ho']
          exact ⟨(o10 o ho).1, id⟩
    · obtain ⟨-, o, ho, e, z2⟩ := y
      have : f = o := (nI_eq (by omega) (by omega)).mp e
      subst this
      exact z (by rw [o3]; exact z2)
  · refine X3_stateOf_f o1 hx (bf (by decide) (take_no o0 o2 (fun y => ?_) ⟨rfl, hR⟩))
    obtain ⟨-, o, ho, e, -⟩ := y
    rw [e] at hx
    rcases hx with hx | hx
    · exact nI_pos (by omega) hx
    · rw [nI_leI (by omega) (by omega)] at hx; omega
-- clock
def lapF (n : Nat) (now : Int32) (st ti : Nat → Int32) : Nat → Int32 := fun o => if o < n ∧ st o = 0 ∧ ¬ now ≤ ti o then 2 else st o
theorem lapF_0 {now : Int32} {st ti : Nat → Int32} : lapF 0 now st ti = st := by
  funext o
  unfold lapF
  rw [if_neg (fun h => absurd h.1 (Nat.not_lt_zero o))]
theorem lapF_y {n : Nat} {now : Int32} {st ti : Nat → Int32} (h1 : st n = 0) (h2 : ¬ now ≤ ti n) : upd (lapF n now st ti) n 2 = lapF (n + 1) now st ti := by
  funext o
  unfold lapF upd
  by_cases ho : o = n
  · subst ho
    rw [if_pos rfl, if_pos ⟨by omega, h1, h2⟩]
  · rw [if_neg ho]
    have e : (o < n + 1) = (o < n) := propext ⟨fun h => by omega, fun h => by omega⟩
    simp only [e]
theorem lapF_n {n : Nat} {now : Int32} {st ti : Nat → Int32} (h : ¬ (st n = 0 ∧ ¬ now ≤ ti n)) : lapF n now st ti = lapF (n + 1) now st ti := by
  funext o
  unfold lapF
  by_cases ho : o = n
  · subst ho
    rw [if_neg (fun z => absurd z.1 (by omega)), if_neg (fun z => h z.2)]
  · have e : (o < n + 1) = (o < n) := propext ⟨fun h => by omega, fun h => by omega⟩
    simp only [e]
theorem lapF_at {n : Nat} {now : Int32} {st ti : Nat → Int32} : lapF n now st ti n = st n := if_neg (fun z => absurd z.1 (by omega))
theorem lapC {σ : St} {no : Nat} {now : Int32} {Q : St → Prop} (hs : σ.1 10 7 = nI no) (hno : no ≤ 40) (q : Q (sc σ 38 (lapF no now (σ.1 38) (σ.1 43)))) : ∀ d i, i + d = no → w_X3_lapseBehind_2 Q (d + 1) now (nI i) (sc σ 38 (lapF i now (σ.1 38) (σ.1 43))) := by
  intro d
  induction d with
  | zero =>
    intro i hi
    obtain rfl : i = no := by omega
    refine ⟨fun _ => q, fun h => absurd ?_ h⟩
    show σ.1 10 7 ≤ nI i
    rw [hs, nI_leI (by omega) (by omega)]
    omega
  | succ d ih =>
    intro i hi
    have hv : vp_in (nI i) 40 := vp_in_nI (by omega) (by omega)
    have ec := n_clamp (show i < 2 ^ 31 by omega)
    have nx := ih (i + 1) (by omega)
    rw [← nI_1] at nx
    refine ⟨fun h => absurd (show nI no ≤ nI i by rw [← hs]; exact h) (by rw [nI_leI (by omega) (by omega)]; omega), fun _ => ⟨hv, fun z => ?_, fun z => ⟨hv, fun z2 => ?_, fun z2 => ⟨hv, ?_⟩⟩⟩⟩
    · rw [lapF_n (fun y => z (by rw [ec]; show lapF i now _ _ i = 0; rw [lapF_at]; exact y.1))]
      exact nx
    · rw [lapF_n (fun y => y.2 (by rw [ec] at z2; exact z2))]
      exact nx
    · rintro _ rfl
      rw [ec, sc_wr, lapF_y]
      · exact nx
      · rw [ec] at z
        rw [← lapF_at (n := i) (now := now) (st := σ.1 38) (ti := σ.1 43)]
        exact z
      · rw [ec] at z2
        exact z2
theorem lapM {τ : St} {no : Nat} {Q : Int32 → St → Prop} (hs : τ.1 0 25 = nI no) (hno : no ≤ 40) (q : Q 1 (sc τ 19 (lapF no (τ.1 0 2) (τ.1 19) (τ.1 21)))) : ∀ d i, i + d = no → w_X11_clock_23 Q (d + 1) (nI i) (sc τ 19 (lapF i (τ.1 0 2) (τ.1 19) (τ.1 21))) := by
  intro d
  induction d with
  | zero =>
    intro i hi
    obtain rfl : i = no := by omega
    refine ⟨fun _ => q, fun h => absurd ?_ h⟩
    show τ.1 0 25 ≤ nI i
    rw [hs, nI_leI (by omega) (by omega)]
    omega
  | succ d ih =>
    intro i hi
    have hv : vp_in (nI i) 40 := vp_in_nI (by omega) (by omega)
    have ec := n_clamp (show i < 2 ^ 31 by omega)
    have nx := ih (i + 1) (by omega)
    rw [← nI_1] at nx
    refine ⟨fun h => absurd (show nI no ≤ nI i by rw [← hs]; exact h) (by rw [nI_leI (by omega) (by omega)]; omega), fun _ => ⟨hv, fun z => ?_, fun z => ⟨hv, fun z2 => ?_, fun z2 => ⟨hv, ?_⟩⟩⟩⟩
    · rw [lapF_n (fun y => z (by rw [ec]; show lapF i _ _ _ i = 0; rw [lapF_at]; exact y.1))]
      exact nx
    · rw [lapF_n (fun y => y.2 (by rw [ec] at z2; exact z2))]
      exact nx
    · rintro _ rfl
      rw [ec, sc_wr, lapF_y]
      · exact nx
      · rw [ec] at z
        rw [← lapF_at (n := i) (now := τ.1 0 2) (st := τ.1 19) (ti := τ.1 21)]
        exact z
      · rw [ec] at z2
        exact z2
theorem sim_clock (a1 : Int32) {σ τ : St} (h : Rel σ τ) : w_X10_clock a1 σ (fun r σ' => w_X11_clock a1 τ (fun r' τ' => r = r' ∧ Rel σ' τ')) := by
  have hR := h
  obtain ⟨tl, np, nf, ns, no, hT, hL, hW, hP, hF, hWF, hS, hR0, hO, ⟨n1, n2⟩⟩ := h
  have hO0 := hO
  obtain ⟨o0, o1, o2, o3, o4, o5, o6, o7, o8, o9, o10, o11, o12⟩ := hO
  have mno : ¬ (inR a1 0 10079 ∧ τ.1 0 2 ≤ a1) → w_X11_clock a1 τ (fun r' τ' => 0 = r' ∧ Rel σ τ') := by
    intro hn
    unfold w_X11_clock
    refine lies_f (fun z => hn ⟨⟨?_, z.2⟩, ?_⟩) (c0 ⟨rfl, hR⟩)
    · have := n2.1; have := z.1; omega
    · rw [i_le]; exact z.1
  unfold w_X10_clock
  refine isMinute_w (fun h1 => b1 ⟨fun h2 => ?_, fun h2 => mno (fun z => h2 (by rw [n1]; exact z.2))⟩) (fun n => b0 (mno (fun z => n z.1)))
  rintro _ rfl
  unfold w_X3_lapseBehind
  refine ⟨no + 1, ?_⟩
  have e0 : wr σ 0 9 a1 = sc (wr σ 0 9 a1) 38 (lapF 0 a1 ((wr σ 0 9 a1).1 38) ((wr σ 0 9 a1).1 43)) := by rw [lapF_0, sc_id]
  have key := lapC (σ := wr σ 0 9 a1) (now := a1) (Q := fun σ_5 => w_X11_clock a1 τ (fun r' τ' => 1 = r' ∧ Rel σ_5 τ')) o1 o0 ?_ no 0 (by omega)
  · rw [← e0] at key
    exact key
  · unfold w_X11_clock
    refine lies_t ⟨?_, h1.2⟩ (c1 ?_)
    · rw [n1, i_le] at h2; exact h2
    rintro _ rfl
    refine ⟨no + 1, ?_⟩
    have e1 : wr τ 0 2 a1 = sc (wr τ 0 2 a1) 19 (lapF 0 ((wr τ 0 2 a1).1 0 2) ((wr τ 0 2 a1).1 19) ((wr τ 0 2 a1).1 21)) := by rw [lapF_0, sc_id]
    have key := lapM (τ := wr τ 0 2 a1) (Q := fun r' τ' => 1 = r' ∧ Rel (sc (wr σ 0 9 a1) 38 (lapF no a1 ((wr σ 0 9 a1).1 38) ((wr σ 0 9 a1).1 43))) τ') o2 o0 ?_ no 0 (by omega)
    · rw [← e1] at key
      exact key
    · refine ⟨rfl, tl, np, nf, ns, no, hT, hL, hW, hP, hF, hWF, hS, hR0, ?_, ⟨rfl, h1⟩⟩
      refine hO0.st (mst' := lapF no a1 (τ.1 19) (τ.1 21)) ?_ o9 (fun o ho => ?_)
      · show lapF no a1 (σ.1 38) (σ.1 43) = _
        rw [o3, o8]
      · unfold lapF
        split
        · exact ⟨⟨by decide, by decide⟩, fun z => by rcases z with z | z <;> exact absurd z (by decide)⟩
        · exact ⟨(o10 o ho).1, id⟩
