/-! ===== cancel ===== -/
theorem liveN_upd {mc : Nat → Int32} {f : Nat} {v : Int32} (h0 : mc f = 0) (hv : v ≠ 0) : ∀ n, liveN (upd mc f v) n + (if f < n then 1 else 0) = liveN mc n
  | 0 => by simp [liveN]
  | n + 1 => by
    have ih := liveN_upd h0 hv n
    rw [liveN, liveN]
    by_cases e : n = f
    · subst e
      rw [upd_eq, if_neg hv, if_pos h0, if_pos (by omega)]
      rw [if_neg (by omega)] at ih
      omega
    · rw [upd_ne e]
      by_cases hl : f < n
      · rw [if_pos hl] at ih
        rw [if_pos (show f < n + 1 by omega)]
        omega
      · rw [if_neg hl] at ih
        rw [if_neg (show ¬ f < n + 1 by omega)]
        omega
theorem sim_cancel (a1 : Int32) {σ τ : St} (h : Rel σ τ) : w_X10_cancel a1 σ (fun r σ' => w_X11_cancel a1 τ (fun r' τ' => r = r' ∧ Rel σ' τ')) := by
  have hR := h
  obtain ⟨tl, np, nf, ns, no, h⟩ := h
  obtain ⟨h1, h2, h3, h4, ⟨f0, f1, f2, f3, f4, f5, f6, f7, f8, f9, f10, f11, f12⟩, h6, h7, ⟨r0, r1, r2, r3⟩, ⟨o0, o1, o2, o3, o4, o5, o6, o7, o8, o9, o10, o11, o12⟩, h10⟩ := h
  unfold w_X10_cancel
  rcases ix_or a1 nf (by omega) with ⟨f, hf, rfl⟩ | hx
  · have hv : vp_in (nI f) 20 := vp_in_nI (by omega) (by omega)
    have ec := n_clamp (show f < 2 ^ 31 by omega)
    refine isLive_t f1 hf f0 (fun z => c1 ?_) (fun z => c0 ?_)
    · have zm : τ.1 14 f = 0 := by rw [← f7]; exact z
      unfold w_X1_strike
      refine isLive_t f1 hf f0 (fun _ => b1 ⟨hv, ?_⟩) (fun n => absurd z n)
      rintro _ rfl _ rfl
      unfold w_X6_assign
      refine X1_has_t (n := nf) f1 hf f0 (b1 ⟨hv, ?_⟩)
      rintro _ rfl
      rw [ec]
      have hlv := liveN_upd (v := 1) zm n10 nf
      rw [if_pos hf] at hlv
      have key : RelX False tl np nf ns no (wr (wr (wr σ 25 f (1 &&& 1)) 5 7 ((wr σ 25 f (1 &&& 1)).1 5 7 - 1)) 30 f (-1)) (wr (wr τ 14 f (1 &&& 1)) 15 f (-1)) := by
        refine ⟨h1, h2, h3, h4, ⟨f0, f1, f2, f3, f4, f5, f6, ?_, fun j hj => ?_, ?_, ?_, f11, fun j hj => ?_⟩, fun j hj hc => ?_, h7, ⟨fun j hj => ?_, fun j hj hj2 => ?_, fun j hj => ?_, fun j hj hc => ?_⟩, ⟨o0, o1, o2, o3, o4, o5, o6, o7, o8, o9, o10, fun hG => hG.elim, o12⟩, h10⟩
        · show upd (σ.1 25) f _ = upd (τ.1 14) f _
          rw [f7]
        · show upd (τ.1 14) f _ j = 0
          rw [upd_ne (by omega)]; exact f8 j hj
        · show σ.1 5 7 - 1 = nI (liveN (upd (τ.1 14) f 1) nf)
          rw [f9, ← hlv, nI_pred]
        · show liveN (upd (τ.1 14) f 1) nf ≤ 8
          omega
        · obtain ⟨g1, g2, g3, g4, g5, g6⟩ := f12 j hj
          refine ⟨g1, g2, g3, g4, g5, ?_⟩
          show upd (τ.1 14) f 1 j = 0 ∨ upd (τ.1 14) f 1 j = 1
          by_cases e : j = f
          · subst e; exact Or.inr upd_eq
          · rw [upd_ne e]; exact g6
        · have hc' : upd (τ.1 14) f 1 j = 0 := hc
          by_cases e : j = f
          · subst e; rw [upd_eq] at hc'; exact absurd hc' n10
          · rw [upd_ne e] at hc'; exact h6 j hj hc'
        · show upd (σ.1 30) f (-1) j = upd (τ.1 15) f (-1) j
          by_cases e : j = f
          · subst e; rw [upd_eq, upd_eq]
          · rw [upd_ne e, upd_ne e]; exact r0 j hj
        · show upd (σ.1 30) f (-1) j = -1
          rw [upd_ne (by omega)]; exact r1 j hj hj2
        · show upd (τ.1 15) f (-1) j = -1 ∨ ∃ p, p < np ∧ upd (τ.1 15) f (-1) j = nI p
          by_cases e : j = f
          · subst e; exact Or.inl upd_eq
          · rw [upd_ne e]; exact r2 j hj
        · have hc' : upd (τ.1 14) f 1 j ≠ 0 := hc
          show upd (τ.1 15) f (-1) j = -1
          by_cases e : j = f
          · subst e; exact upd_eq
          · rw [upd_ne e] at hc' ⊢; exact r3 j hj hc'
      refine breakC key ?_
      unfold w_X11_cancel
      refine isFl_t f2 hf f0 (b1 ⟨hv, bt (by rw [ec]; exact zm) ⟨hv, ?_⟩⟩)
      rintro _ rfl
      refine ⟨hv, ?_⟩
      rintro _ rfl
      rw [ec]
      exact breakM key (fun τ' s => ⟨rfl, break_rel key s⟩)
    · unfold w_X11_cancel
      refine isFl_t f2 hf f0 (b1 ⟨hv, bf (by rw [ec, ← f7]; exact z) ⟨rfl, hR⟩⟩)
  · refine isLive_f f1 hx (c0 ?_)
    unfold w_X11_cancel
    exact isFl_f f2 hx f0 (b0 ⟨rfl, hR⟩)
/-! ===== the start ===== -/
theorem lawN_none {v : Int32} {f : Nat → Int32} : ∀ n, (∀ j, j < n → f j = -1) → lawN v f n = v
  | 0, _ => rfl
  | n + 1, h => by rw [lawN, if_pos (h n (by omega)), lawN_none n (fun j hj => h j (by omega))]
theorem mod_z (k : Nat) (h3 : k ≠ 3) (h4 : k ≠ 4) : (modSt 7).1 k = fun _ => 0 := by
  funext j
  show (if j < 7 then (if k = 3 ∨ k = 4 then -1 else 0) else 0) = (0 : Int32)
  split
  · rw [if_neg (by omega)]
  · rfl
theorem mod_n (k : Nat) (h : k = 3 ∨ k = 4) : (modSt 7).1 k = fun j => if j < 7 then -1 else 0 := by
  funext j
  show (if j < 7 then (if k = 3 ∨ k = 4 then -1 else 0) else 0) = _
  rw [if_pos h]
theorem rel_init : Rel elSt (modSt 7) := by
  refine ⟨0, 0, 0, 0, 0, ⟨Or.inl rfl, rfl, rfl, fun j => ?_⟩, ⟨?_, ?_, fun d hd _ => ?_, fun d hd => ?_, fun d hd => ?_⟩, ⟨?_, fun j hj => Or.inl ?_, fun k hk => ?_⟩, ⟨by omega, rfl, rfl, ?_, ?_, ?_, ?_, fun p hp => absurd hp (Nat.not_lt_zero p)⟩, ⟨by omega, rfl, rfl, ?_, ?_, ?_, ?_, ?_, fun j hj => ?_, rfl, by simp [liveN], fun i hi => absurd hi (Nat.not_lt_zero i), fun i hi => absurd hi (Nat.not_lt_zero i)⟩, fun j hj => absurd hj (Nat.not_lt_zero j), ⟨by omega, rfl, rfl, ?_, ?_, ?_, fun k hk => absurd hk (Nat.not_lt_zero k)⟩, ⟨fun i hi => absurd hi (Nat.not_lt_zero i), fun j _ hj => ?_, fun i hi => absurd hi (Nat.not_lt_zero i), fun i hi => absurd hi (Nat.not_lt_zero i)⟩, ⟨by omega, rfl, rfl, ?_, ?_, ?_, ?_, ?_, ?_, ?_, fun i hi => absurd hi (Nat.not_lt_zero i), fun _ i hi => absurd hi (Nat.not_lt_zero i), fun i j hi => absurd hi (Nat.not_lt_zero i)⟩, ⟨rfl, by decide, by decide⟩⟩
  · rw [mod_z 1 (by omega) (by omega)]
    show (0 : Int32) = 0 &&& 255
    decide
  · rw [mod_n 3 (by omega)]; rfl
  · rw [mod_n 4 (by omega)]; rfl
  · rw [mod_n 3 (by omega), mod_n 4 (by omega)]
    exact ⟨if_pos hd, if_pos hd⟩
  · rw [mod_n 3 (by omega), lawN_none _ (fun j hj => if_pos (by omega))]
    show (if d < 7 then _ else _) = _
    rw [if_pos hd]; rfl
  · rw [mod_n 4 (by omega), lawN_none _ (fun j hj => if_pos (by omega))]
    show (if d < 7 then _ else _) = _
    rw [if_pos hd]; rfl
  · rw [mod_z 5 (by omega) (by omega)]; rfl
  · rw [mod_z 5 (by omega) (by omega)]
  · rw [mod_z 5 (by omega) (by omega)]
  · rw [mod_z 6 (by omega) (by omega)]; rfl
  · rw [mod_z 7 (by omega) (by omega)]; rfl
  · rw [mod_z 8 (by omega) (by omega)]; rfl
  · rw [mod_z 9 (by omega) (by omega)]; rfl
  · rw [mod_z 10 (by omega) (by omega)]; rfl
  · rw [mod_z 11 (by omega) (by omega)]; rfl
  · rw [mod_z 12 (by omega) (by omega)]; rfl
  · rw [mod_z 13 (by omega) (by omega)]; rfl
  · rw [mod_z 14 (by omega) (by omega)]; rfl
  · rw [mod_z 14 (by omega) (by omega)]
  · rw [mod_z 16 (by omega) (by omega)]; rfl
  · rw [mod_z 17 (by omega) (by omega)]; rfl
  · rw [mod_z 18 (by omega) (by omega)]; rfl
  · show (if j < 20 then _ else _) = _
    rw [if_pos hj]; rfl
  · rw [mod_z 19 (by omega) (by omega)]; rfl
  · rw [mod_z 24 (by omega) (by omega)]; rfl
  · rw [mod_z 23 (by omega) (by omega)]; rfl
  · rw [mod_z 26 (by omega) (by omega)]; rfl
  · rw [mod_z 20 (by omega) (by omega)]; rfl
  · rw [mod_z 21 (by omega) (by omega)]; rfl
  · rw [mod_z 22 (by omega) (by omega)]; rfl
