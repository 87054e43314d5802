/-! ===== way, feed ===== -/
theorem areTwo_w {a b : Int32} {Q : Int32 → Prop} (h1 : inR a 0 7 → inR b 0 7 → ¬ a = b → Q 1) (h0 : ¬ (inR a 0 7 ∧ inR b 0 7 ∧ ¬ a = b) → Q 0) : w_X11_areTwo a b Q := by
  unfold w_X11_areTwo
  exact lies_w (fun g1 => b1 (lies_w (fun g2 => b1 ⟨fun g3 => h0 (fun z => z.2.2 g3), fun g3 => h1 g1 g2 g3⟩) (fun g2 => b0 (h0 (fun z => g2 z.2.1))))) (fun g1 => b0 (h0 (fun z => g1 z.1)))
theorem put_t {σ : St} {x y : Nat} {m : Int32} {Q : St → Prop} (hx : x < 8) (hy : y < 8) (q : Q (sc σ 16 (upd (upd (σ.1 16) (8 * x + y) m) (8 * y + x) m))) : w_X9_put (nI x) (nI y) m σ Q := by
  unfold w_X9_put
  refine isField_t (inR_ix (n := 7) (by omega) (by omega)) (b1 (isField_t (inR_ix (n := 7) (by omega) (by omega)) (b1 ?_)))
  rw [ixw, ixw, n_clamp (by omega), n_clamp (by omega)]
  refine ⟨vp_in_nI (by omega) (by omega), ?_⟩
  rintro _ rfl
  refine ⟨vp_in_nI (by omega) (by omega), ?_⟩
  rintro _ rfl
  rw [wr_sc σ 16, sc_wr]
  exact q
theorem put_m {τ : St} {x y : Nat} {m : Int32} {Q : Int32 → St → Prop} (hx : x < 8) (hy : y < 8) (q : Q 1 (sc τ 5 (upd (upd (τ.1 5) (8 * x + y) m) (8 * y + x) m))) : w_X11_way_104 Q (nI x) (nI y) m τ := by
  unfold w_X11_way_104
  rw [ixm, ixm, n_clamp (by omega), n_clamp (by omega)]
  refine ⟨vp_in_nI (by omega) (by omega), ?_⟩
  rintro _ rfl
  refine ⟨vp_in_nI (by omega) (by omega), ?_⟩
  rintro _ rfl
  rw [wr_sc τ 5, sc_wr]
  exact q
theorem upd_or {f : Nat → Int32} {k j : Nat} {v : Int32} : upd f k v j = v ∨ (j ≠ k ∧ upd f k v j = f j) := by
  by_cases h : j = k
  · subst h; exact Or.inl upd_eq
  · exact Or.inr ⟨h, upd_ne h⟩
theorem sim_way (a1 a2 a3 : Int32) {σ τ : St} (h : Rel σ τ) : w_X10_way a1 a2 a3 σ (fun r σ' => w_X11_way a1 a2 a3 τ (fun r' τ' => r = r' ∧ Rel σ' τ')) := by
  have hR := h
  obtain ⟨tl, np, nf, ns, no, hT, hL, ⟨w0, w1, w2⟩, hP, hF, hWF, hS, hR0, hO, hN⟩ := h
  have hF0 := hF
  obtain ⟨f0, f1, f2, f3, f4, f5, f6, f7, f8, f9, f10, f11, f12⟩ := hF
  have mno : ¬ (inR a1 0 7 ∧ inR a2 0 7 ∧ ¬ a1 = a2) → w_X11_way a1 a2 a3 τ (fun r' τ' => 0 = r' ∧ Rel σ τ') := by
    intro hn
    unfold w_X11_way
    exact areTwo_w (fun g1 g2 g3 => absurd ⟨g1, g2, g3⟩ hn) (fun _ => b0 ⟨rfl, hR⟩)
  unfold w_X10_way
  refine isField_w (fun h1 => b1 (isField_w (fun h2 => b1 ⟨fun h3 => ?_, fun h3 => mno (fun z => z.2.2 h3)⟩) (fun n => b0 (mno (fun z => n z.2.1))))) (fun n => b0 (mno (fun z => n z.1)))
  obtain ⟨x, hx, rfl⟩ := fld h1
  obtain ⟨y, hy, rfl⟩ := fld h2
  have hxy : x ≠ y := fun e => h3 (by rw [e])
  have fin : (a3 = 0 ∨ inR a3 10 600) → (a3 = 0 → ∀ f, f < nf → ¬ goes2 (τ.1 10) (τ.1 11) (τ.1 14) (nI x) (nI y) f) → Rel (sc σ 16 (upd (upd (σ.1 16) (8 * x + y) a3) (8 * y + x) a3)) (sc τ 5 (upd (upd (τ.1 5) (8 * x + y) a3) (8 * y + x) a3)) := by
    intro hm hno
    refine ⟨tl, np, nf, ns, no, hT, hL, ⟨?_, ?_, ?_⟩, hP, hF0, ?_, hS, hR0, hO, hN⟩
    · show upd (upd (σ.1 16) (8 * x + y) a3) (8 * y + x) a3 = upd (upd (τ.1 5) (8 * x + y) a3) (8 * y + x) a3
      rw [w0]
    · intro j hj
      show upd (upd (τ.1 5) (8 * x + y) a3) (8 * y + x) a3 j = 0 ∨ inR (upd (upd (τ.1 5) (8 * x + y) a3) (8 * y + x) a3 j) 10 600
      rcases upd_or (f := upd (τ.1 5) (8 * x + y) a3) (k := 8 * y + x) (j := j) (v := a3) with e | ⟨-, e⟩
      · rw [e]; exact hm
      · rw [e]
        rcases upd_or (f := τ.1 5) (k := 8 * x + y) (j := j) (v := a3) with e | ⟨-, e⟩
        · rw [e]; exact hm
        · rw [e]; exact w1 j hj
    · intro k hk
      show upd (upd (τ.1 5) (8 * x + y) a3) (8 * y + x) a3 (9 * k) = 0
      rw [upd_ne (by omega), upd_ne (by omega)]
      exact w2 k hk
    · intro j hj hc
      show upd (upd (τ.1 5) (8 * x + y) a3) (8 * y + x) a3 (8 * (τ.1 10 j).toNatClampNeg + (τ.1 11 j).toNatClampNeg) ≠ 0
      obtain ⟨u, hu, eu⟩ := fld (f12 j hj).1
      obtain ⟨v, hv, ev⟩ := fld (f12 j hj).2.1
      have old := hWF j hj hc
      rw [eu, ev, n_clamp (by omega), n_clamp (by omega)] at old ⊢
      by_cases hz : a3 = 0
      · have hg := hno hz j hj
        have g1 : ¬ (u = x ∧ v = y) := fun e => hg ⟨hc, Or.inl ⟨by rw [eu, e.1], by rw [ev, e.2]⟩⟩
        have g2 : ¬ (u = y ∧ v = x) := fun e => hg ⟨hc, Or.inr ⟨by rw [eu, e.1], by rw [ev, e.2]⟩⟩
        rw [upd_ne (by omega), upd_ne (by omega)]
        exact old
      · rcases upd_or (f := upd (τ.1 5) (8 * x + y) a3) (k := 8 * y + x) (j := 8 * u + v) (v := a3) with e | ⟨-, e⟩
        · rw [e]; exact hz
        · rw [e]
          rcases upd_or (f := τ.1 5) (k := 8 * x + y) (j := 8 * u + v) (v := a3) with e | ⟨-, e⟩
          · rw [e]; exact hz
          · rw [e]; exact old
  have hany : goes2 (σ.1 21) (σ.1 22) (σ.1 25) = goes2 (τ.1 10) (τ.1 11) (τ.1 14) := by rw [f3, f4, f7]
  refine ⟨fun hz => ?_, fun hz => ?_⟩
  · refine isWithin_w (fun hm => c1 ?_) (fun hm => c0 ?_)
    · unfold w_X10_way_53
      refine put_t hx hy ?_
      unfold w_X11_way
      refine areTwo_w (fun _ _ _ => b1 (bf hz (lies_t hm (c1 ⟨1, ?_⟩)))) (fun n => absurd ⟨h1, h2, h3⟩ n)
      have q := put_m (τ := τ) (m := a3) (Q := fun r' τ' => 1 = r' ∧ Rel (sc σ 16 (upd (upd (σ.1 16) (8 * x + y) a3) (8 * y + x) a3)) τ') hx hy ⟨rfl, fin (Or.inr hm) (fun z => absurd z hz)⟩
      exact ⟨fun _ => q, fun _ => ct hz q⟩
    · unfold w_X11_way
      exact areTwo_w (fun _ _ _ => b1 (bf hz (lies_f hm (c0 ⟨rfl, hR⟩)))) (fun n => absurd ⟨h1, h2, h3⟩ n)
  · subst hz
    unfold w_X1_anyBetween
    refine ⟨nf + 1, anyB_loop f1 f0 nf 0 (by omega) (fun hex => ?_) (fun hall => ?_)⟩
    · refine bf n10 ?_
      unfold w_X11_way
      refine areTwo_w (fun _ _ _ => b1 (bt rfl ⟨nf + 1, wayM_loop f2 f0 nf 0 (by omega) (fun _ => ⟨rfl, hR⟩) (fun hall => ?_)⟩)) (fun n => absurd ⟨h1, h2, h3⟩ n)
      obtain ⟨f, g1, g2, g3⟩ := hex
      rw [hany] at g3
      exact absurd g3 (hall f g1 g2)
    · refine bt rfl ?_
      unfold w_X10_way_53
      refine put_t hx hy ?_
      unfold w_X11_way
      refine areTwo_w (fun _ _ _ => b1 (bt rfl ⟨nf + 1, wayM_loop f2 f0 nf 0 (by omega) (fun hex => ?_) (fun hall => ?_)⟩)) (fun n => absurd ⟨h1, h2, h3⟩ n)
      · obtain ⟨f, g1, g2, g3⟩ := hex
        rw [← hany] at g3
        exact absurd g3 (hall f g1 g2)
      · exact put_m hx hy ⟨rfl, fin (Or.inl rfl) (fun _ f hf => hall f (Nat.zero_le f) hf)⟩
-- feed
def fedC (v : Int32) (k : Nat) : Int32 := (v.toUInt32 >>> ((nI (24 - 8 * k)).toUInt32 &&& Int32.toUInt32 31)).toInt32 &&& 255
def fedM (v : Int32) (k : Nat) : Int32 := ((v >>> (nI (24 - 8 * k) &&& 31)).toInt8.toInt32).toInt8.toInt32
