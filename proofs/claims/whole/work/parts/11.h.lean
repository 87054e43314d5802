theorem byte_eq (n : Nat) (hn : n ≤ 24) (v : Int32) : ((v.toUInt32 >>> ((nI n).toUInt32 &&& Int32.toUInt32 31)).toInt32 &&& 255) = (((v >>> (nI n &&& 31)).toInt8.toInt32).toInt8.toInt32) &&& 255 := by
  rw [bp_b, bp_b]
  apply b_ext
  intro i hi
  rw [b_and, b_and, b_255]
  by_cases h : i < 8
  · rw [b_ushr n (by omega), b_sshr n (by omega) v hi, if_pos (by omega)]
  · rw [decide_eq_false h, Bool.and_false, Bool.and_false]
/-- four bytes more, the class's way -/
theorem write_t {σ : St} {t : Nat} {v : Int32} {Q : St → Prop} (hs : σ.1 1 1 = nI t) (ht : t + 4 ≤ 40)
    (q : ∀ σ', σ'.1 1 1 = nI (t + 4) → (∀ k, k ≠ 1 → k ≠ 11 → σ'.1 k = σ.1 k) → σ'.1 11 = upd (upd (upd (upd (σ.1 11) t ((v.toUInt32 >>> ((nI 24).toUInt32 &&& Int32.toUInt32 31)).toInt32 &&& 255)) (t + 1) ((v.toUInt32 >>> ((nI 16).toUInt32 &&& Int32.toUInt32 31)).toInt32 &&& 255)) (t + 2) ((v.toUInt32 >>> ((nI 8).toUInt32 &&& Int32.toUInt32 31)).toInt32 &&& 255)) (t + 3) ((v.toUInt32 >>> ((nI 0).toUInt32 &&& Int32.toUInt32 31)).toInt32 &&& 255) → Q σ') : w_X8_write v σ Q := by
  have step : ∀ (n : Nat) (x2 : Int32) (σ : St) (t : Nat), t < 40 → σ.1 1 1 = nI t → ¬ x2 < 0 → (∀ σ', σ'.1 1 1 = nI (t + 1) → (∀ k, k ≠ 1 → k ≠ 11 → σ'.1 k = σ.1 k) → σ'.1 11 = upd (σ.1 11) t ((v.toUInt32 >>> (x2.toUInt32 &&& Int32.toUInt32 31)).toInt32 &&& 255) → w_X8_write_3 Q n v (x2 + (-8)) σ') → w_X8_write_3 Q (n + 1) v x2 σ := by
    intro n x2 σ t ht hs hx k
    refine bf hx (bf ?_ ⟨by rw [hs]; exact vp_in_nI (by omega) (by omega), ?_⟩)
    · rw [hs, show (40 : Int32) = nI 40 from rfl, nI_leI (by omega) (by omega)]; omega
    rintro _ rfl _ rfl
    refine k _ ?_ ?_ ?_
    · show σ.1 1 1 + 1 = _
      rw [hs, nI_1]
    · intro k h1 h2
      show (if k = 1 then _ else (if k = 11 then _ else σ.1 k)) = _
      rw [if_neg h1, if_neg h2]
    · show upd (σ.1 11) (σ.1 1 1).toNatClampNeg _ = _
      rw [hs, n_clamp (by omega)]
  unfold w_X8_write
  refine ⟨5, step 4 24 σ t (by omega) hs (by decide) (fun s1 a1 b1 c1 => ?_)⟩
  refine step 3 _ s1 (t + 1) (by omega) a1 (by decide) (fun s2 a2 b2 c2 => ?_)
  refine step 2 _ s2 (t + 2) (by omega) a2 (by decide) (fun s3 a3 b3 c3 => ?_)
  refine step 1 _ s3 (t + 3) (by omega) a3 (by decide) (fun s4 a4 b4 c4 => ?_)
  refine bt (by decide) (q s4 a4 (fun k h1 h2 => by rw [b4 k h1 h2, b3 k h1 h2, b2 k h1 h2, b1 k h1 h2]) ?_)
  rw [c4, c3, c2, c1]
  rfl
theorem push_t {τ : St} {t : Nat} {v : Int32} {Q : St → Prop} (hs : τ.1 0 1 = nI t) (ht : t + 4 ≤ 40)
    (q : ∀ τ', τ'.1 0 1 = nI (t + 4) → (∀ k, k ≠ 0 → k ≠ 1 → τ'.1 k = τ.1 k) → (∀ j, j ≠ 1 → τ'.1 0 j = τ.1 0 j) → τ'.1 1 = upd (upd (upd (upd (τ.1 1) t ((v >>> (nI 24 &&& 31)).toInt8.toInt32).toInt8.toInt32) (t + 1) ((v >>> (nI 16 &&& 31)).toInt8.toInt32).toInt8.toInt32) (t + 2) ((v >>> (nI 8 &&& 31)).toInt8.toInt32).toInt8.toInt32) (t + 3) ((v >>> (nI 0 &&& 31)).toInt8.toInt32).toInt8.toInt32 → Q τ') : w_X11_push v τ Q := by
  have step : ∀ (n : Nat) (x2 : Int32) (τ : St) (t : Nat), t < 40 → τ.1 0 1 = nI t → ¬ x2 < 0 → (∀ τ', τ'.1 0 1 = nI (t + 1) → (∀ k, k ≠ 0 → k ≠ 1 → τ'.1 k = τ.1 k) → (∀ j, j ≠ 1 → τ'.1 0 j = τ.1 0 j) → τ'.1 1 = upd (τ.1 1) t ((v >>> (x2 &&& 31)).toInt8.toInt32).toInt8.toInt32 → w_X11_push_3 Q n v (x2 + (-8)) τ') → w_X11_push_3 Q (n + 1) v x2 τ := by
    intro n x2 τ t ht hs hx k
    refine bf hx ⟨by rw [hs]; exact vp_in_nI (by omega) (by omega), ?_⟩
    rintro _ rfl _ rfl
    refine k _ ?_ ?_ ?_ ?_
    · show τ.1 0 1 + 1 = _
      rw [hs, nI_1]
    · intro k h1 h2
      show (if k = 0 then _ else (if k = 1 then _ else τ.1 k)) = _
      rw [if_neg h1, if_neg h2]
    · intro j hj
      show upd (τ.1 0) 1 _ j = _
      exact upd_ne hj
    · show upd (τ.1 1) (τ.1 0 1).toNatClampNeg _ = _
      rw [hs, n_clamp (by omega)]
  unfold w_X11_push
  refine ⟨5, step 4 24 τ t (by omega) hs (by decide) (fun s1 a1 b1 d1 c1 => ?_)⟩
  refine step 3 _ s1 (t + 1) (by omega) a1 (by decide) (fun s2 a2 b2 d2 c2 => ?_)
  refine step 2 _ s2 (t + 2) (by omega) a2 (by decide) (fun s3 a3 b3 d3 c3 => ?_)
  refine step 1 _ s3 (t + 3) (by omega) a3 (by decide) (fun s4 a4 b4 d4 c4 => ?_)
  refine bt (by decide) (q s4 a4 (fun k h1 h2 => by rw [b4 k h1 h2, b3 k h1 h2, b2 k h1 h2, b1 k h1 h2]) (fun j hj => by rw [d4 j hj, d3 j hj, d2 j hj, d1 j hj]) ?_)
  rw [c4, c3, c2, c1]
  rfl
def tapeR (b d : Nat → Int32) : Prop := ∀ j, b j = d j &&& 255
theorem tapeR.upd {b d : Nat → Int32} (h : tapeR b d) (t n : Nat) (hn : n ≤ 24) (v : Int32) : tapeR (upd b t ((v.toUInt32 >>> ((nI n).toUInt32 &&& Int32.toUInt32 31)).toInt32 &&& 255)) (upd d t ((v >>> (nI n &&& 31)).toInt8.toInt32).toInt8.toInt32) := by
  intro j
  by_cases e : j = t
  · subst e; rw [upd_eq, upd_eq]; exact byte_eq n hn v
  · rw [upd_ne e, upd_ne e]; exact h j
theorem RelX.tape {G : Prop} {tl tl' np nf ns no : Nat} {σ σ' τ τ' : St} (h : RelX G tl np nf ns no σ τ) (hc : ∀ k, k ≠ 1 → k ≠ 11 → σ'.1 k = σ.1 k) (hm : ∀ k, k ≠ 0 → k ≠ 1 → τ'.1 k = τ.1 k) (hz : ∀ j, j ≠ 1 → τ'.1 0 j = τ.1 0 j) (hT : RT tl' (σ'.1 1 1) (σ'.1 11) (τ'.1 0 1) (τ'.1 1)) : RelX G tl' np nf ns no σ' τ' := by
  refine ⟨hT, ?_⟩
  rw [hc 12 (by decide) (by decide), hc 13 (by decide) (by decide), hc 14 (by decide) (by decide), hc 15 (by decide) (by decide), hc 16 (by decide) (by decide), hc 4 (by decide) (by decide), hc 17 (by decide) (by decide), hc 18 (by decide) (by decide), hc 19 (by decide) (by decide), hc 20 (by decide) (by decide), hc 5 (by decide) (by decide), hc 21 (by decide) (by decide), hc 22 (by decide) (by decide), hc 23 (by decide) (by decide), hc 24 (by decide) (by decide), hc 25 (by decide) (by decide), hc 26 (by decide) (by decide), hc 6 (by decide) (by decide), hc 27 (by decide) (by decide), hc 28 (by decide) (by decide), hc 29 (by decide) (by decide), hc 30 (by decide) (by decide), hc 10 (by decide) (by decide), hc 38 (by decide) (by decide), hc 39 (by decide) (by decide), hc 40 (by decide) (by decide), hc 41 (by decide) (by decide), hc 42 (by decide) (by decide), hc 43 (by decide) (by decide), hc 44 (by decide) (by decide), hc 0 (by decide) (by decide)]
  rw [hz 9 (by decide), hz 14 (by decide), hz 21 (by decide), hz 25 (by decide), hz 2 (by decide)]
  rw [hm 2 (by decide) (by decide), hm 3 (by decide) (by decide), hm 4 (by decide) (by decide), hm 5 (by decide) (by decide), hm 6 (by decide) (by decide), hm 7 (by decide) (by decide), hm 8 (by decide) (by decide), hm 9 (by decide) (by decide), hm 10 (by decide) (by decide), hm 11 (by decide) (by decide), hm 12 (by decide) (by decide), hm 13 (by decide) (by decide), hm 14 (by decide) (by decide), hm 15 (by decide) (by decide), hm 16 (by decide) (by decide), hm 17 (by decide) (by decide), hm 18 (by decide) (by decide), hm 19 (by decide) (by decide), hm 20 (by decide) (by decide), hm 21 (by decide) (by decide), hm 22 (by decide) (by decide), hm 23 (by decide) (by decide), hm 24 (by decide) (by decide), hm 25 (by decide) (by decide), hm 26 (by decide) (by decide)]
  exact h.2
def u4C (b : Nat → Int32) (t : Nat) (v : Int32) : Nat → Int32 := upd (upd (upd (upd b t ((v.toUInt32 >>> ((nI 24).toUInt32 &&& Int32.toUInt32 31)).toInt32 &&& 255)) (t + 1) ((v.toUInt32 >>> ((nI 16).toUInt32 &&& Int32.toUInt32 31)).toInt32 &&& 255)) (t + 2) ((v.toUInt32 >>> ((nI 8).toUInt32 &&& Int32.toUInt32 31)).toInt32 &&& 255)) (t + 3) ((v.toUInt32 >>> ((nI 0).toUInt32 &&& Int32.toUInt32 31)).toInt32 &&& 255)
def u4M (d : Nat → Int32) (t : Nat) (v : Int32) : Nat → Int32 := upd (upd (upd (upd d t ((v >>> (nI 24 &&& 31)).toInt8.toInt32).toInt8.toInt32) (t + 1) ((v >>> (nI 16 &&& 31)).toInt8.toInt32).toInt8.toInt32) (t + 2) ((v >>> (nI 8 &&& 31)).toInt8.toInt32).toInt8.toInt32) (t + 3) ((v >>> (nI 0 &&& 31)).toInt8.toInt32).toInt8.toInt32
theorem tapeR.u4 {b d b' d' : Nat → Int32} (h : tapeR b d) {t : Nat} {v : Int32} (e1 : b' = u4C b t v) (e2 : d' = u4M d t v) : tapeR b' d' := by
  rw [e1, e2]
  exact (((h.upd t 24 (by omega) v).upd (t + 1) 16 (by omega) v).upd (t + 2) 8 (by omega) v).upd (t + 3) 0 (by omega) v
theorem sim_feed (a1 a2 a3 a4 a5 : Int32) {σ τ : St} (h : Rel σ τ) : w_X10_feed a1 a2 a3 a4 a5 σ (fun r σ' => w_X11_feed a1 a2 a3 a4 a5 τ (fun r' τ' => r = r' ∧ Rel σ' τ')) := by
  have hR := h
  obtain ⟨tl, np, nf, ns, no, h⟩ := h
  obtain ⟨t0, t1, t2, t3⟩ := h.1
  unfold w_X10_feed w_X8_hasRoom
  have ea : σ.1 1 1 + 20 = nI (tl + 20) := by rw [t1, show (20 : Int32) = nI 20 from rfl, nI_add]
  have em : τ.1 0 1 + 20 = nI (tl + 20) := by rw [t2, show (20 : Int32) = nI 20 from rfl, nI_add]
  have e40 : nI (tl + 20) ≤ 40 ↔ tl + 20 ≤ 40 := by rw [show (40 : Int32) = nI 40 from rfl, nI_leI (by omega) (by omega)]
  have e41 : 40 < nI (tl + 20) ↔ 40 < tl + 20 := by rw [show (40 : Int32) = nI 40 from rfl, nI_ltI (by omega) (by omega)]
  rw [ea]
  refine ⟨fun hc => c0 ?_, fun hc => c1 ?_⟩
  · unfold w_X11_feed
    rw [em]
    exact bf (fun z => absurd (e40.mp z) (by have := e41.mp hc; omega)) ⟨rfl, hR⟩
  · have hlt : tl + 20 ≤ 40 := by
      have : ¬ 40 < tl + 20 := fun z => hc (e41.mpr z)
      omega
    refine write_t t1 (by omega) (fun s1 p1 k1 d1 => write_t p1 (by omega) (fun s2 p2 k2 d2 => write_t p2 (by omega) (fun s3 p3 k3 d3 => write_t p3 (by omega) (fun s4 p4 k4 d4 => write_t p4 (by omega) (fun s5 p5 k5 d5 => ?_)))))
    unfold w_X8_length w_X11_feed
    rw [em]
    refine bt (e40.mpr hlt) ?_
    refine push_t t2 (by omega) (fun m1 q1 l1 z1 g1 => push_t q1 (by omega) (fun m2 q2 l2 z2 g2 => push_t q2 (by omega) (fun m3 q3 l3 z3 g3 => push_t q3 (by omega) (fun m4 q4 l4 z4 g4 => push_t q4 (by omega) (fun m5 q5 l5 z5 g5 => ?_)))))
    refine ⟨by rw [p5, q5], tl + 20, np, nf, ns, no, h.tape (fun k x y => ?_) (fun k x y => ?_) (fun j x => ?_) ⟨by omega, p5, q5, ?_⟩⟩
    · rw [k5 k x y, k4 k x y, k3 k x y, k2 k x y, k1 k x y]
    · rw [l5 k x y, l4 k x y, l3 k x y, l2 k x y, l1 k x y]
    · rw [z5 j x, z4 j x, z3 j x, z2 j x, z1 j x]
    · have r0 : tapeR (σ.1 11) (τ.1 1) := t3
      exact ((((r0.u4 d1 g1).u4 d2 g2).u4 d3 g3).u4 d4 g4).u4 d5 g5
