/-! ===== on, told, look, take ===== -/
theorem sim_on (a1 : Int32) {σ τ : St} (h : Rel σ τ) : w_X10_on a1 σ (fun r σ' => w_X11_on a1 τ (fun r' τ' => r = r' ∧ Rel σ' τ')) := by
  have hR := h
  obtain ⟨tl, np, nf, ns, no, hT, hL, hW, hP, ⟨f0, f1, f2, -⟩, hWF, hS, hR0, hO, hN⟩ := h
  unfold w_X10_on w_X11_on
  rcases ix_or a1 nf (by omega) with ⟨f, hf, rfl⟩ | hx
  · refine X6_planeOf_t f1 hf f0 (isFl_t f2 hf f0 (b1 ⟨vp_in_nI (by omega) (by omega), ?_, hR⟩))
    rw [n_clamp (by omega)]
    exact hR0.1 f hf
  · exact X6_planeOf_f f1 hx (isFl_f f2 hx f0 (b0 ⟨rfl, hR⟩))
theorem sim_told (a1 a2 : Int32) {σ τ : St} (h : Rel σ τ) : w_X10_told a1 a2 σ (fun r σ' => w_X11_told a1 a2 τ (fun r' τ' => r = r' ∧ Rel σ' τ')) := by
  have hR := h
  obtain ⟨tl, np, nf, ns, no, hT, hL, hW, hP, hF, hWF, hS, hR0, ⟨o0, o1, o2, o3, o4, o5, o6, o7, o8, o9, -⟩, hN⟩ := h
  have n01 : ¬ (1 : Int32) = 0 := by decide
  have key : ∀ v : Int32, (∀ Q : Int32 → St → Prop, (∃ f, f < no ∧ a1 = nI f) → w_X11_told a1 a2 τ (fun r' τ' => v = r' ∧ Rel σ τ')) → True := fun _ _ => trivial
  unfold w_X10_told w_X11_told
  rcases ix_or a1 no (by omega) with ⟨f, hf, rfl⟩ | hx
  · have hv : vp_in (nI f) 40 := vp_in_nI (by omega) (by omega)
    have ec := n_clamp (show f < 2 ^ 31 by omega)
    refine ⟨fun e => X3_stateOf_t o1 hf o0 ?_, fun e => X3_priceOf_t o1 hf o0 ?_, fun e => X3_tillOf_t o1 hf o0 ?_, fun e => X3_clientOf_t o1 hf o0 ?_, fun e => X3_planeOf_t o1 hf o0 ?_, fun e => X3_flightOf_t o1 hf o0 ?_, fun e => ?_⟩
    all_goals refine lies_ix o2 hf (by omega) (c1 ?_)
    all_goals rw [ec]
    · subst e; exact ⟨fun _ => ⟨hv, congrFun o3 f, hR⟩, fun n => absurd n (by decide), fun n => absurd n (by decide), fun n => absurd n (by decide), fun n => absurd n (by decide), fun n => absurd n (by decide), fun n => absurd rfl n.1⟩
    · subst e; exact ⟨fun n => absurd n (by decide), fun _ => ⟨hv, congrFun o7 f, hR⟩, fun n => absurd n (by decide), fun n => absurd n (by decide), fun n => absurd n (by decide), fun n => absurd n (by decide), fun n => absurd rfl n.2.1⟩
    · subst e; exact ⟨fun n => absurd n (by decide), fun n => absurd n (by decide), fun _ => ⟨hv, congrFun o8 f, hR⟩, fun n => absurd n (by decide), fun n => absurd n (by decide), fun n => absurd n (by decide), fun n => absurd rfl n.2.2.1⟩
    · subst e; exact ⟨fun n => absurd n (by decide), fun n => absurd n (by decide), fun n => absurd n (by decide), fun _ => ⟨hv, congrFun o9 f, hR⟩, fun n => absurd n (by decide), fun n => absurd n (by decide), fun n => absurd rfl n.2.2.2.1⟩
    · subst e; exact ⟨fun n => absurd n (by decide), fun n => absurd n (by decide), fun n => absurd n (by decide), fun n => absurd n (by decide), fun _ => ⟨hv, congrFun o5 f, hR⟩, fun n => absurd n (by decide), fun n => absurd rfl n.2.2.2.2.1⟩
    · subst e; exact ⟨fun n => absurd n (by decide), fun n => absurd n (by decide), fun n => absurd n (by decide), fun n => absurd n (by decide), fun n => absurd n (by decide), fun _ => ⟨hv, congrFun o6 f, hR⟩, fun n => absurd rfl n.2.2.2.2.2⟩
    · exact ⟨fun n => absurd n e.1, fun n => absurd n e.2.1, fun n => absurd n e.2.2.1, fun n => absurd n e.2.2.2.1, fun n => absurd n e.2.2.2.2.1, fun n => absurd n e.2.2.2.2.2, fun _ => ⟨rfl, hR⟩⟩
  · have q : w_X11_lies a1 0 (τ.1 0 25 - 1) (fun r_1 => (¬ r_1 = 0 → ((a2 = 0 → (vp_in a1 40 ∧ ((-1) = (τ.1 19 a1.toNatClampNeg) ∧ Rel σ τ))) ∧ (a2 = 1 → (vp_in a1 40 ∧ ((-1) = (τ.1 20 a1.toNatClampNeg) ∧ Rel σ τ))) ∧ (a2 = 2 → (vp_in a1 40 ∧ ((-1) = (τ.1 21 a1.toNatClampNeg) ∧ Rel σ τ))) ∧ (a2 = 3 → (vp_in a1 40 ∧ ((-1) = (τ.1 22 a1.toNatClampNeg) ∧ Rel σ τ))) ∧ (a2 = 4 → (vp_in a1 40 ∧ ((-1) = (τ.1 23 a1.toNatClampNeg) ∧ Rel σ τ))) ∧ (a2 = 5 → (vp_in a1 40 ∧ ((-1) = (τ.1 26 a1.toNatClampNeg) ∧ Rel σ τ))) ∧ ((¬ a2 = 0 ∧ ¬ a2 = 1 ∧ ¬ a2 = 2 ∧ ¬ a2 = 3 ∧ ¬ a2 = 4 ∧ ¬ a2 = 5) → ((-1 : Int32) = (-1) ∧ Rel σ τ)))) ∧ (r_1 = 0 → ((-1 : Int32) = (-1) ∧ Rel σ τ))) := lies_out o2 hx (by omega) (c0 ⟨rfl, hR⟩)
    exact ⟨fun _ => X3_stateOf_f o1 hx q, fun _ => X3_priceOf_f o1 hx q, fun _ => X3_tillOf_f o1 hx q, fun _ => X3_clientOf_f o1 hx q, fun _ => X3_planeOf_f o1 hx q, fun _ => X3_flightOf_f o1 hx q, fun _ => q⟩
theorem sim_look (a1 a2 : Int32) {σ τ : St} (h : Rel σ τ) : w_X10_look a1 a2 σ (fun r σ' => w_X11_look a1 a2 τ (fun r' τ' => r = r' ∧ Rel σ' τ')) := by
  have hR := h
  obtain ⟨tl, np, nf, ns, no, hT, hL, hW, hP, ⟨f0, f1, f2, f3, f4, f5, f6, f7, f8, f9, f10, f11, f12⟩, hWF, hS, hR0, hO, hN⟩ := h
  unfold w_X10_look w_X11_look
  rcases ix_or a1 nf (by omega) with ⟨f, hf, rfl⟩ | hx
  · have hv : vp_in (nI f) 20 := vp_in_nI (by omega) (by omega)
    have ec := n_clamp (show f < 2 ^ 31 by omega)
    obtain ⟨⟨x, hx, ex⟩, ⟨y, hy, ey⟩⟩ := And.intro (fld (f12 f hf).1) (fld (f12 f hf).2.1)
    refine X1_has_t f1 hf f0 (c1 ⟨fun e => X1_fromOf_t f1 hf f0 ?_, fun e => X1_toOf_t f1 hf f0 ?_, fun e => X1_startOf_t f1 hf f0 ?_, fun e => X1_seatsOf_t f1 hf f0 ?_, fun e => isLive_t f1 hf f0 (fun z => b1 ?_) (fun z => b0 ?_), fun e => ?_, fun e => ?_⟩)
    · subst e; refine isFl_t f2 hf f0 (c1 ?_); rw [ec]; exact ⟨fun _ => ⟨hv, congrFun f3 f, hR⟩, fun n => absurd n (by decide), fun n => absurd n (by decide), fun n => absurd n (by decide), fun n => absurd n (by decide), fun n => absurd n (by decide), fun n => absurd rfl n.1⟩
    · subst e; refine isFl_t f2 hf f0 (c1 ?_); rw [ec]; exact ⟨fun n => absurd n (by decide), fun _ => ⟨hv, congrFun f4 f, hR⟩, fun n => absurd n (by decide), fun n => absurd n (by decide), fun n => absurd n (by decide), fun n => absurd n (by decide), fun n => absurd rfl n.2.1⟩
    · subst e; refine isFl_t f2 hf f0 (c1 ?_); rw [ec]; exact ⟨fun n => absurd n (by decide), fun n => absurd n (by decide), fun _ => ⟨hv, congrFun f5 f, hR⟩, fun n => absurd n (by decide), fun n => absurd n (by decide), fun n => absurd n (by decide), fun n => absurd rfl n.2.2.1⟩
    · subst e; refine isFl_t f2 hf f0 (c1 ?_); rw [ec]; exact ⟨fun n => absurd n (by decide), fun n => absurd n (by decide), fun n => absurd n (by decide), fun _ => ⟨hv, congrFun f6 f, hR⟩, fun n => absurd n (by decide), fun n => absurd n (by decide), fun n => absurd rfl n.2.2.2.1⟩
    · subst e; refine isFl_t f2 hf f0 (c1 ?_); rw [ec]; exact ⟨fun n => absurd n (by decide), fun n => absurd n (by decide), fun n => absurd n (by decide), fun n => absurd n (by decide), fun _ => ⟨hv, bt (by rw [← f7]; exact z) ⟨rfl, hR⟩⟩, fun n => absurd n (by decide), fun n => absurd rfl n.2.2.2.2.1⟩
    · subst e; refine isFl_t f2 hf f0 (c1 ?_); rw [ec]; exact ⟨fun n => absurd n (by decide), fun n => absurd n (by decide), fun n => absurd n (by decide), fun n => absurd n (by decide), fun _ => ⟨hv, bf (by rw [← f7]; exact z) ⟨rfl, hR⟩⟩, fun n => absurd n (by decide), fun n => absurd rfl n.2.2.2.2.1⟩
    · subst e
      unfold w_X6_minutesOf
      refine X1_fromOf_t f1 hf f0 (X1_toOf_t f1 hf f0 ?_)
      rw [f3, f4, ex, ey]
      refine mins_t hx hy (isFl_t f2 hf f0 (c1 ?_)); rw [ec]; exact ⟨fun n => absurd n (by decide), fun n => absurd n (by decide), fun n => absurd n (by decide), fun n => absurd n (by decide), fun n => absurd n (by decide), fun _ => ⟨hv, hv, by rw [ex, ey]; exact minsM_t hx hy ⟨congrFun hW.1 _, hR⟩⟩, fun n => absurd rfl n.2.2.2.2.2⟩
    · refine isFl_t f2 hf f0 (c1 ?_); rw [ec]; exact ⟨fun n => absurd n e.1, fun n => absurd n e.2.1, fun n => absurd n e.2.2.1, fun n => absurd n e.2.2.2.1, fun n => absurd n e.2.2.2.2.1, fun n => absurd n e.2.2.2.2.2, fun _ => ⟨rfl, hR⟩⟩
  · exact X1_has_f f1 hx (c0 (isFl_f f2 hx f0 (c0 ⟨rfl, hR⟩)))
