/-! ===== both settle, both break the same offers; plan, replan ===== -/
section FNE
variable {G : Prop} {tl np nf ns no : Nat} {σ τ : St} {mw : Nat}
theorem bothP (h : RelX G tl np nf ns no σ τ) {x : Int32} (hx : (x = 0 ∧ mw = 0) ∨ (x = 1 ∧ mw = 1000000000000)) {P : Int32 → St → Prop}
    (q : ∀ (r m : Int32) (σ3 τ3 : St), (x = 1 → r = m) → Rel σ3 τ3 → (∀ R : Int32 → St → Prop, (∀ τ', SM τ3 τ' → R m τ') → w_X11_finds x τ R) → P r σ3) : w_X5_settle x σ (fun r σ1 => w_X3_breakLost σ1 (fun σ3 => P r σ3)) := by
  have hr := row_ok h
  have p0 := h.2.2.2.1.1
  have hmw2 : mw = 0 ∨ mw = 1000000000000 := by rcases hx with z | z <;> omega
  have r0 := h.2.2.2.2.2.2.2.1.1
  refine settleC (mw := mw) h hx (fun a σ1 hb c1 c2 c3 => ?_)
  generalize hrow : rowL (τ.1 12) (τ.1 14) nf = row at *
  have hl := hr.1
  have hE := Ep_le h hr
  have hat : ∀ f, f ∈ row → ∃ k, k < row.length ∧ row.getD k 0 = f := by
    intro f hf
    obtain ⟨k, hk, e⟩ := List.getElem_of_mem hf
    exact ⟨k, hk, by rw [List.getD_eq_getElem?_getD, List.getElem?_eq_getElem hk, Option.getD_some]; exact e⟩
  -- the reference's cells with the plan at hand
  obtain ⟨on, e1, e2⟩ : ∃ on : Nat → Int32, (∀ k, k < row.length → on (row.getD k 0) = encA np (a k)) ∧ ∀ f, f ∉ row → on f = τ.1 15 f := by
    refine ⟨fun f => if f < nf then σ1.1 30 f else τ.1 15 f, fun k hk => ?_, fun f hf => ?_⟩
    · show (if row.getD k 0 < nf then _ else _) = _
      rw [if_pos (row_at hr hk).1]
      exact c2 k hk
    · show (if f < nf then _ else _) = _
      by_cases hfn : f < nf
      · rw [if_pos hfn, c3 f hf]
        exact r0 f hfn
      · rw [if_neg hfn]
  have hX : RelX False tl np nf ns no σ1 (sc τ 15 on) := entered h hrow hr hb.1 c1 c2 c3 (fun k _ _ h3 => if_neg h3) (fun j _ _ _ _ => rfl) e1 e2
  refine breakC hX (q _ (nI (mov np (plN τ row) a row.length)) _ (sc (sc τ 15 on) 19 (brkF (keptB nf (sc τ 15 on)) no ((sc τ 15 on).1 19))) (fun hx1 => ?_) (break_rel hX (SM.rf _)) (fun R k => ?_))
  · congr 1
    obtain ⟨t, u, m, e, r⟩ := parts (mw := mw) (b := plN τ row) p0 hl hE hb.1
    rw [t]
    rcases hx with ⟨z, -⟩ | ⟨z, z2⟩
    · rw [z] at hx1
      exact absurd hx1 (by decide)
    · rw [z2]
      omega
  · refine findsM (mw := mw) h hx hrow hr (fun a' τ2 hb' d1 d2 d3 d4 => ?_)
    have hu := best_uniq h hr hmw2 hb hb'
    have hX2 : RelX False tl np nf ns no σ1 τ2 := entered h hrow hr hb.1 c1 c2 c3 d1 d2 (fun k hk => by rw [d3 k hk, hu k hk]) d4
    have hS : SM (sc τ 15 on) τ2 := by
      refine ⟨fun k h1 h2 => ?_, fun j b1 b2 b3 b4 => d2 j b1 b2 b3 b4⟩
      by_cases e : k = 15
      · subst e
        funext f
        show τ2.1 15 f = on f
        by_cases hf : f ∈ row
        · obtain ⟨k, hk, ek⟩ := hat f hf
          rw [← ek, d3 k hk, e1 k hk, hu k hk]
        · rw [d4 f hf, e2 f hf]
      · rw [d1 k h1 h2 e]
        exact (if_neg e).symm
    refine breakM hX2 (fun τ3 s3 => ?_)
    rw [← mov_congr hu]
    refine k τ3 (SM.tr ?_ s3)
    have eK : keptB nf τ2 = keptB nf (sc τ 15 on) := funext (fun o => keptB_sm hS o)
    rw [eK, hS.1 19 (by omega) (by omega)]
    refine ⟨fun c h1 h2 => ?_, fun j b1 b2 b3 b4 => hS.2 j b1 b2 b3 b4⟩
    show (if c = 19 then _ else τ2.1 c) = if c = 19 then _ else (sc τ 15 on).1 c
    by_cases e : c = 19
    · rw [if_pos e, if_pos e]
    · rw [if_neg e, if_neg e, hS.1 c h1 h2]
end FNE
theorem sim_plan {σ τ : St} (h : Rel σ τ) : w_X10_plan σ (fun r σ' => w_X11_plan τ (fun r' τ' => r = r' ∧ Rel σ' τ')) := by
  obtain ⟨tl, np, nf, ns, no, h⟩ := h
  unfold w_X10_plan
  refine bothP (mw := 0) (P := fun _ σ3 => w_X6_flown σ3 (fun r σ' => w_X11_plan τ (fun r' τ' => r = r' ∧ Rel σ' τ'))) h (Or.inl ⟨rfl, rfl⟩) (fun r m σ3 τ3 _ hR hF => ?_)
  obtain ⟨tl', np', nf', ns', no', h3⟩ := hR
  refine flownC h3 ?_
  unfold w_X11_plan
  refine hF _ (fun τ' s => ?_)
  refine flownM (nf := nf') (on := τ3.1 15) ?_ h3.2.2.2.2.1.1 (s.1 15 (by omega) (by omega)) ⟨rfl, tl', np', nf', ns', no', h3.scratch (SC.rf _) s⟩
  rw [s.2 14 (by omega) (by omega) (by omega) (by omega)]
  exact h3.2.2.2.2.1.2.2.1
theorem sim_replan {σ τ : St} (h : Rel σ τ) : w_X10_replan σ (fun r σ' => w_X11_replan τ (fun r' τ' => r = r' ∧ Rel σ' τ')) := by
  obtain ⟨tl, np, nf, ns, no, h⟩ := h
  unfold w_X10_replan
  refine bothP (mw := 1000000000000) (P := fun r σ3 => w_X11_replan τ (fun r' τ' => r = r' ∧ Rel σ3 τ')) h (Or.inr ⟨rfl, rfl⟩) (fun r m σ3 τ3 e hR hF => ?_)
  unfold w_X11_replan
  exact hF _ (fun τ' s => ⟨e rfl, hR.scratch (SC.rf _) s⟩)
