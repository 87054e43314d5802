/-! ===== flight ===== -/
theorem thereM {τ : St} {nf : Nat} {Q : Int32 → St → Prop} (hs : τ.1 0 14 = nI nf) (hn : nf ≤ 20) (q : Q (nI (liveN (τ.1 14) nf)) τ) : w_X11_there τ Q := by
  unfold w_X11_there
  have loop : ∀ k i, i + k = nf → w_X11_there_4 Q (k + 1) (nI (liveN (τ.1 14) i)) (nI i) τ := by
    intro k
    induction k with
    | zero =>
      intro i hi
      obtain rfl : i = nf := by omega
      exact bt (by rw [hs, nI_leI (by omega) (by omega)]; omega) q
    | succ k ih =>
      intro i hi
      have nx := ih (i + 1) (by omega)
      rw [← nI_1] at nx
      refine bf (by rw [hs, nI_leI (by omega) (by omega)]; omega) ⟨vp_in_nI (by omega) (by omega), ?_⟩
      rw [n_clamp (by omega)]
      have e : liveN (τ.1 14) (i + 1) = liveN (τ.1 14) i + (if τ.1 14 i = 0 then 1 else 0) := rfl
      refine ⟨fun z => ?_, fun z => ?_⟩
      · rw [e, if_pos z, ← nI_1] at nx; exact nx
      · rw [e, if_neg z, ← nI_add] at nx; exact nx
  exact ⟨nf + 1, loop nf 0 (by omega)⟩
theorem ahead_ins {key : Nat → Int32} {n f : Nat} {P : Nat → Bool} (hn : n ≠ f) (hP : P n = false) : ∀ L : List Nat, ((insF key n L).takeWhile (fun g => decide (g ≠ f))).filter P = (L.takeWhile (fun g => decide (g ≠ f))).filter P
  | [] => by
    simp only [insF, List.takeWhile_cons, List.takeWhile_nil, decide_eq_true hn, if_true, List.filter_cons, hP, List.filter_nil]
    rfl
  | g :: L => by
    unfold insF
    split
    · rw [List.takeWhile_cons, if_pos (decide_eq_true hn), List.filter_cons, if_neg (by rw [hP]; decide)]
    · by_cases hg : g = f
      · rw [List.takeWhile_cons, List.takeWhile_cons, if_neg (by simp [hg])]
        simp [hg]
      · rw [List.takeWhile_cons, List.takeWhile_cons, if_pos (decide_eq_true hg)]
        simp only [if_pos (decide_eq_true hg), List.filter_cons, ahead_ins hn hP L]
theorem tW_sub {f : Nat} {L : List Nat} {x : Nat} (h : x ∈ L.takeWhile (fun g => decide (g ≠ f))) : x ∈ L := (List.takeWhile_sublist _).subset h
theorem plAhead_congr {home to to' on on' : Nat → Int32} {L : List Nat} {f : Nat} (h1 : ∀ g ∈ L, to g = to' g) (h2 : ∀ g ∈ L, on g = on' g) (h3 : on f = on' f) : plAhead home to on L f = plAhead home to' on' L f := by
  unfold plAhead
  rw [h3]
  have e : (L.takeWhile (fun g => decide (g ≠ f))).filter (fun g => decide (on g = on' f)) = (L.takeWhile (fun g => decide (g ≠ f))).filter (fun g => decide (on' g = on' f)) := by
    refine List.filter_congr (fun x hx => ?_)
    rw [h2 x (tW_sub hx)]
  rw [e]
  exact endP_congr _ _ (fun g hg => h1 g (tW_sub (List.mem_filter.mp hg).1))
theorem ROf.flight {G : Prop} {np nf no : Nat} {s : Int32} {st pc pl fl pr ti cl : Nat → Int32} {ms : Int32} {mst mpr mti mcl mlp mlf mlt mfl : Nat → Int32} {home fr to start on fr' to' start' on' : Nat → Int32} (H : ROf G np nf no s st pc pl fl pr ti cl ms mst mpr mti mcl mlp mlf mlt mfl home fr to start on) (hf : ∀ j, j < nf → fr' j = fr j) (ht : ∀ j, j < nf → to' j = to j) (hs : ∀ j, j < nf → start' j = start j) (ho : ∀ j, j < nf → on' j = on j) (hn : on' nf = -1) (h4 : np ≤ 4) (h20 : nf ≤ 20) : ROf G np (nf + 1) no s st pc pl fl pr ti cl ms mst mpr mti mcl mlp mlf mlt mfl home fr' to' start' on' := by
  obtain ⟨o0, o1, o2, o3, o4, o5, o6, o7, o8, o9, o10, o11, o12⟩ := H
  refine ⟨o0, o1, o2, o3, o4, o5, o6, o7, o8, o9, fun o h => ?_, fun hG o h hst => ?_, o12⟩
  · obtain ⟨x1, x2, x3, ⟨f, hf1, ef⟩, x5⟩ := o10 o h
    refine ⟨x1, x2, x3, ⟨f, by omega, ef⟩, ?_⟩
    rw [x5, ef, n_clamp (by omega), hf f hf1]
  · obtain ⟨y1, y2, y3⟩ := o11 hG o h hst
    obtain ⟨x1, x2, ⟨p, hp, ep⟩, ⟨f, hf1, ef⟩, x5⟩ := o10 o h
    rw [ef, n_clamp (by omega)] at y1 y2 y3 ⊢
    refine ⟨by rw [ho f hf1]; exact y1, ?_, by rw [hf f hf1]; exact y3⟩
    rw [← y2]
    have e1 : ordL start' (nf + 1) = insF start' nf (ordL start nf) := by rw [ordL, ordL_congr start' start nf hs]
    have e2 : plAhead home to' on' (ordL start' (nf + 1)) f = plAhead home to' on' (ordL start nf) f := by
      unfold plAhead
      rw [e1, ahead_ins (P := fun g => decide (on' g = on' f)) (by omega) ?_]
      rw [hn, ho f hf1, y1, ep]
      exact decide_eq_false (fun z => m1ne p (by omega) z.symm)
    rw [e2]
    exact plAhead_congr (fun g hg => ht g ((ordL_mem start g nf).mp hg)) (fun g hg => ho g ((ordL_mem start g nf).mp hg)) (ho f hf1)
theorem liveN_congr {mc mc' : Nat → Int32} : ∀ n, (∀ j, j < n → mc j = mc' j) → liveN mc n = liveN mc' n
  | 0, _ => rfl
  | n + 1, h => by rw [liveN, liveN, liveN_congr n (fun j hj => h j (by omega)), h n (by omega)]
theorem flight_no {a1 a2 a3 a4 : Int32} {τ : St} {nf : Nat} {Q : Int32 → St → Prop} (hs : τ.1 0 14 = nI nf) (hn : nf ≤ 20) (h : ¬ (inR a1 0 7 ∧ inR a2 0 7 ∧ ¬ a1 = a2 ∧ τ.1 5 (8 * a1.toNatClampNeg + a2.toNatClampNeg) ≠ 0 ∧ inR a3 0 10079 ∧ inR a4 1 30 ∧ nf < 20 ∧ liveN (τ.1 14) nf ≠ 8)) (hl : liveN (τ.1 14) nf ≤ 8) (q : Q (-1) τ) : w_X11_flight a1 a2 a3 a4 τ Q := by
  unfold w_X11_flight
  refine areTwo_w (fun h1 h2 h3 => b1 ?_) (fun _ => b0 q)
  obtain ⟨x, hx, rfl⟩ := fld h1
  obtain ⟨y, hy, rfl⟩ := fld h2
  rw [n_clamp (by omega), n_clamp (by omega)] at h
  refine minsM_t hx hy ⟨fun _ => q, fun h4 => lies_w (fun h5 => b1 (lies_w (fun h6 => b1 ⟨fun _ => q, fun h7 => thereM hs hn ⟨fun h8 => absurd ⟨h1, h2, h3, h4, h5, h6, ?_, fun e => h8 (by rw [e]; rfl)⟩ h, fun _ => q⟩⟩) (fun _ => b0 q))) (fun _ => b0 q)⟩
  have : nf ≠ 20 := fun e => h7 (by rw [hs, e]; rfl)
  omega
theorem sim_flight (a1 a2 a3 a4 : Int32) {σ τ : St} (h : Rel σ τ) : w_X10_flight a1 a2 a3 a4 σ (fun r σ' => w_X11_flight a1 a2 a3 a4 τ (fun r' τ' => r = r' ∧ Rel σ' τ')) := by
  have hR := h
  obtain ⟨tl, np, nf, ns, no, hT, hL, ⟨w0, w1, w2⟩, hP, ⟨f0, f1, f2, f3, f4, f5, f6, f7, f8, f9, f10, f11, f12⟩, hWF, hS, ⟨r0, r1, r2, r3⟩, hO, hN⟩ := h
  have hp4 : np ≤ 4 := hP.1
  unfold w_X10_flight
  by_cases hab : ¬ (inR a1 0 7 ∧ inR a2 0 7)
  · exact mins_f hab (b0 (flight_no f2 f0 (fun z => hab ⟨z.1, z.2.1⟩) f10 ⟨rfl, hR⟩))
  obtain ⟨h1, h2⟩ := Classical.not_not.mp hab
  obtain ⟨x, hx, rfl⟩ := fld h1
  obtain ⟨y, hy, rfl⟩ := fld h2
  have ex := n_clamp (show x < 2 ^ 31 by omega)
  have ey := n_clamp (show y < 2 ^ 31 by omega)
  refine mins_t hx hy ⟨fun z => flight_no f2 f0 (fun k => k.2.2.2.1 (by rw [ex, ey, ← w0]; exact z)) f10 ⟨rfl, hR⟩, fun h4 => isMinute_w (fun h5 => b1 (isWithin_w (fun h6 => c1 ?_) (fun n => c0 (flight_no f2 f0 (fun k => n k.2.2.2.2.2.1) f10 ⟨rfl, hR⟩)))) (fun n => b0 (flight_no f2 f0 (fun k => n k.2.2.2.2.1) f10 ⟨rfl, hR⟩))⟩
  have h4m : τ.1 5 (8 * x + y) ≠ 0 := by rw [← w0]; exact h4
  have hxy : ¬ nI x = nI y := by
    intro e
    have e2 : x = y := (nI_eq (by omega) (by omega)).mp e
    subst e2
    apply h4m
    have := w2 x hx
    rwa [show 9 * x = 8 * x + x by omega] at this
  unfold w_X1_add
  refine ⟨fun z => flight_no f2 f0 (fun k => ?_) f10 ⟨rfl, hR⟩, fun z => ⟨fun h8 => ?_, fun z2 => flight_no f2 f0 (fun k => k.2.2.2.2.2.2.2 ?_) f10 ⟨rfl, hR⟩⟩⟩
  · rw [f1, show (20 : Int32) = nI 20 from rfl, nI_leI (by omega) (by omega)] at z
    have := k.2.2.2.2.2.2.1
    omega
  rotate_left
  · rw [f9, show (8 : Int32) = nI 8 from rfl, nI_ltI (by omega) (by omega)] at z2
    omega
  have hnf : nf < 20 := by
    rw [f1, show (20 : Int32) = nI 20 from rfl, nI_leI (by omega) (by omega)] at z
    omega
  have hlv : liveN (τ.1 14) nf < 8 := by
    rw [f9, show (8 : Int32) = nI 8 from rfl, nI_ltI (by omega) (by omega)] at h8
    exact h8
  have hv : vp_in (σ.1 5 6) 20 := by rw [f1]; exact vp_in_nI hnf (by omega)
  have hm : vp_in (τ.1 0 14) 20 := by rw [f2]; exact vp_in_nI hnf (by omega)
  refine ⟨hv, ?_⟩
  rintro s1 e1
  refine ⟨by rw [e1]; exact hv, ?_⟩
  rintro s2 e2
  refine ⟨by rw [e2, e1]; exact hv, ?_⟩
  rintro s3 e3
  refine ⟨by rw [e3, e2, e1]; exact hv, ?_⟩
  rintro s4 e4
  refine ⟨by rw [e4, e3, e2, e1]; exact hv, ?_⟩
  rintro s5 e5
  have k56 : s5.1 5 6 = nI nf := by rw [e5, e4, e3, e2, e1]; exact f1
  have k57 : s5.1 5 7 = nI (liveN (τ.1 14) nf) := by rw [e5, e4, e3, e2, e1]; exact f9
  have k21 : s5.1 21 = upd (σ.1 21) nf (nI x) := by rw [e5, e4, e3, e2, e1]; show upd (σ.1 21) (σ.1 5 6).toNatClampNeg _ = _; rw [f1, n_clamp (by omega)]
  have k22 : s5.1 22 = upd (σ.1 22) nf (nI y) := by rw [e5, e4, e3, e2, e1]; show upd (σ.1 22) (σ.1 5 6).toNatClampNeg _ = _; rw [f1, n_clamp (by omega)]
  have k23 : s5.1 23 = upd (σ.1 23) nf a3 := by rw [e5, e4, e3, e2, e1]; show upd (σ.1 23) (σ.1 5 6).toNatClampNeg _ = _; rw [f1, n_clamp (by omega)]
  have k24 : s5.1 24 = upd (σ.1 24) nf a4 := by rw [e5, e4, e3, e2, e1]; show upd (σ.1 24) (σ.1 5 6).toNatClampNeg _ = _; rw [f1, n_clamp (by omega)]
  have k25 : s5.1 25 = upd (σ.1 25) nf (0 &&& 1) := by rw [e5, e4, e3, e2, e1]; show upd (σ.1 25) (σ.1 5 6).toNatClampNeg _ = _; rw [f1, n_clamp (by omega)]
  have k26 : s5.1 26 = σ.1 26 := by rw [e5, e4, e3, e2, e1]; rfl
  have ko : ∀ k, k ≠ 21 → k ≠ 22 → k ≠ 23 → k ≠ 24 → k ≠ 25 → s5.1 k = σ.1 k := by
    intro k g1 g2 g3 g4 g5
    rw [e5, e4, e3, e2, e1]
    show (if k = 25 then _ else if k = 24 then _ else if k = 23 then _ else if k = 22 then _ else if k = 21 then _ else σ.1 k) = _
    rw [if_neg g5, if_neg g4, if_neg g3, if_neg g2, if_neg g1]
  clear e1 e2 e3 e4 e5
  rw [k56]
  have hkey : ∀ j, j < nf → s5.1 23 j = τ.1 12 j := fun j hj => by rw [k23, upd_ne (by omega), f5]
  refine lineUpC hnf k56 (by rw [k23, upd_eq]) (fun i hi => ?_) (fun o' ho' => ?_)
  · rw [k26, f11 i hi, ordL_congr (s5.1 23) (τ.1 12) nf hkey]
  rintro _ rfl _ rfl
  unfold w_X11_flight
  refine areTwo_w (fun _ _ _ => b1 (minsM_t hx hy (bf h4m (lies_t h5 (b1 (lies_t h6 (b1 (bf (i_ne 20 f2 (by omega) (by omega) (by omega)) (thereM f2 f0 (ct (i_ne 8 rfl (by omega) (by omega) (by omega)) ⟨hm, ?_⟩)))))))))) (fun n => absurd ⟨h1, h2, hxy⟩ n)
  rintro t1 e1
  refine ⟨by rw [e1]; exact hm, ?_⟩
  rintro t2 e2
  refine ⟨by rw [e2, e1]; exact hm, ?_⟩
  rintro t3 e3
  refine ⟨by rw [e3, e2, e1]; exact hm, ?_⟩
  rintro t4 e4
  refine ⟨by rw [e4, e3, e2, e1]; exact hm, ?_⟩
  rintro t5 e5
  have j14 : t5.1 0 14 = nI nf := by rw [e5, e4, e3, e2, e1]; exact f2
  have j0 : ∀ j, t5.1 0 j = τ.1 0 j := by intro j; rw [e5, e4, e3, e2, e1]; rfl
  have j10 : t5.1 10 = upd (τ.1 10) nf (nI x) := by rw [e5, e4, e3, e2, e1]; show upd (τ.1 10) (τ.1 0 14).toNatClampNeg _ = _; rw [f2, n_clamp (by omega)]
  have j11 : t5.1 11 = upd (τ.1 11) nf (nI y) := by rw [e5, e4, e3, e2, e1]; show upd (τ.1 11) (τ.1 0 14).toNatClampNeg _ = _; rw [f2, n_clamp (by omega)]
  have j12 : t5.1 12 = upd (τ.1 12) nf a3 := by rw [e5, e4, e3, e2, e1]; show upd (τ.1 12) (τ.1 0 14).toNatClampNeg _ = _; rw [f2, n_clamp (by omega)]
  have j13 : t5.1 13 = upd (τ.1 13) nf a4 := by rw [e5, e4, e3, e2, e1]; show upd (τ.1 13) (τ.1 0 14).toNatClampNeg _ = _; rw [f2, n_clamp (by omega)]
  have j15 : t5.1 15 = upd (τ.1 15) nf (-1) := by rw [e5, e4, e3, e2, e1]; show upd (τ.1 15) (τ.1 0 14).toNatClampNeg _ = _; rw [f2, n_clamp (by omega)]
  have jo : ∀ k, k ≠ 10 → k ≠ 11 → k ≠ 12 → k ≠ 13 → k ≠ 15 → t5.1 k = τ.1 k := by
    intro k g1 g2 g3 g4 g5
    rw [e5, e4, e3, e2, e1]
    show (if k = 15 then _ else if k = 13 then _ else if k = 12 then _ else if k = 11 then _ else if k = 10 then _ else τ.1 k) = _
    rw [if_neg g5, if_neg g4, if_neg g3, if_neg g2, if_neg g1]
  clear e1 e2 e3 e4 e5
  rintro _ rfl
  refine ⟨?_, ?_⟩
  · show (s5.1 5 6 + 1) - 1 = (t5.1 0 14 + 1) - 1
    rw [k56, j14]
  refine ⟨tl, np, nf + 1, ns, no, ?_⟩
  unfold RelX
  have C : ∀ k, k ≠ 5 → k ≠ 26 → (wr (wr (sc s5 26 o') 5 6 ((sc s5 26 o').1 5 6 + 1)) 5 7 ((wr (sc s5 26 o') 5 6 ((sc s5 26 o').1 5 6 + 1)).1 5 7 + 1)).1 k = s5.1 k := by
    intro k g1 g2
    show (if k = 5 then _ else if k = 5 then _ else if k = 26 then _ else s5.1 k) = _
    rw [if_neg g1, if_neg g1, if_neg g2]
  have C5 : (wr (wr (sc s5 26 o') 5 6 ((sc s5 26 o').1 5 6 + 1)) 5 7 ((wr (sc s5 26 o') 5 6 ((sc s5 26 o').1 5 6 + 1)).1 5 7 + 1)).1 5 6 = nI (nf + 1) := by
    show s5.1 5 6 + 1 = _
    rw [k56, nI_1]
  have C7 : (wr (wr (sc s5 26 o') 5 6 ((sc s5 26 o').1 5 6 + 1)) 5 7 ((wr (sc s5 26 o') 5 6 ((sc s5 26 o').1 5 6 + 1)).1 5 7 + 1)).1 5 7 = nI (liveN (τ.1 14) nf + 1) := by
    show s5.1 5 7 + 1 = _
    rw [k57, nI_1]
  have C26 : (wr (wr (sc s5 26 o') 5 6 ((sc s5 26 o').1 5 6 + 1)) 5 7 ((wr (sc s5 26 o') 5 6 ((sc s5 26 o').1 5 6 + 1)).1 5 7 + 1)).1 26 = o' := rfl
  generalize wr (wr (sc s5 26 o') 5 6 ((sc s5 26 o').1 5 6 + 1)) 5 7 ((wr (sc s5 26 o') 5 6 ((sc s5 26 o').1 5 6 + 1)).1 5 7 + 1) = S at C C5 C7 C26 ⊢
  have CC : ∀ k, k ≠ 5 → k ≠ 26 → k ≠ 21 → k ≠ 22 → k ≠ 23 → k ≠ 24 → k ≠ 25 → S.1 k = σ.1 k := fun k a b c d e f g => (C k a b).trans (ko k c d e f g)
  have T0 : ∀ j, j ≠ 14 → (wr t5 0 14 (t5.1 0 14 + 1)).1 0 j = τ.1 0 j := fun j hj => by
    show upd (t5.1 0) 14 _ j = _
    rw [upd_ne hj, j0]
  have T14 : (wr t5 0 14 (t5.1 0 14 + 1)).1 0 14 = nI (nf + 1) := by
    show t5.1 0 14 + 1 = _
    rw [j14, nI_1]
  have TT : ∀ k, k ≠ 0 → (wr t5 0 14 (t5.1 0 14 + 1)).1 k = t5.1 k := fun k hk => if_neg hk
  generalize wr t5 0 14 (t5.1 0 14 + 1) = T at T0 T14 TT ⊢
  have TU : ∀ k, k ≠ 0 → k ≠ 10 → k ≠ 11 → k ≠ 12 → k ≠ 13 → k ≠ 15 → T.1 k = τ.1 k := fun k a b c d e f => (TT k a).trans (jo k b c d e f)
  have d7 : ∀ k, (k = 0 ∨ k = 1 ∨ k = 4 ∨ k = 6 ∨ k = 10 ∨ k = 11 ∨ k = 12 ∨ k = 13 ∨ k = 14 ∨ k = 15 ∨ k = 16 ∨ k = 17 ∨ k = 18 ∨ k = 19 ∨ k = 20 ∨ k = 27 ∨ k = 28 ∨ k = 29 ∨ k = 30 ∨ 38 ≤ k) → S.1 k = σ.1 k := fun k hk => CC k (by omega) (by omega) (by omega) (by omega) (by omega) (by omega) (by omega)
  rw [d7 0 (by omega), d7 1 (by omega), d7 4 (by omega), d7 6 (by omega), d7 10 (by omega), d7 11 (by omega), d7 12 (by omega), d7 13 (by omega), d7 14 (by omega), d7 15 (by omega), d7 16 (by omega), d7 17 (by omega), d7 18 (by omega), d7 19 (by omega), d7 20 (by omega), d7 27 (by omega), d7 28 (by omega), d7 29 (by omega), d7 30 (by omega), d7 38 (by omega), d7 39 (by omega), d7 40 (by omega), d7 41 (by omega), d7 42 (by omega), d7 43 (by omega), d7 44 (by omega)]
  rw [C5, C7, C26, C 21 (by omega) (by omega), C 22 (by omega) (by omega), C 23 (by omega) (by omega), C 24 (by omega) (by omega), C 25 (by omega) (by omega), k21, k22, k23, k24, k25]
  have u : ∀ k, (0 < k ∧ k < 10 ∨ k = 14 ∨ 15 < k) → T.1 k = τ.1 k := fun k hk => TU k (by omega) (by omega) (by omega) (by omega) (by omega) (by omega)
  rw [T14, T0 1 (by omega), T0 2 (by omega), T0 9 (by omega), T0 21 (by omega), T0 25 (by omega), u 1 (by omega), u 2 (by omega), u 3 (by omega), u 4 (by omega), u 5 (by omega), u 6 (by omega), u 7 (by omega), u 8 (by omega), u 9 (by omega), u 14 (by omega), u 16 (by omega), u 17 (by omega), u 18 (by omega), u 19 (by omega), u 20 (by omega), u 21 (by omega), u 22 (by omega), u 23 (by omega), u 24 (by omega), u 25 (by omega), u 26 (by omega), TT 10 (by omega), TT 11 (by omega), TT 12 (by omega), TT 13 (by omega), TT 15 (by omega), j10, j11, j12, j13, j15]
  have eL : liveN (τ.1 14) (nf + 1) = liveN (τ.1 14) nf + 1 := by
    show liveN (τ.1 14) nf + (if τ.1 14 nf = 0 then 1 else 0) = _
    rw [if_pos (f8 nf (Nat.le_refl nf))]
  have in8 : ∀ z, z < 8 → inR (nI z) 0 7 := fun z hz => inR_ix (n := 7) (by omega) (by omega)
  refine ⟨hT, hL, ⟨w0, w1, w2⟩, hP, ⟨by omega, rfl, rfl, by rw [f3], by rw [f4], by rw [f5], by rw [f6], ?_, fun j hj => f8 j (by omega), by rw [eL], by omega, fun i hi => ?_, fun j hj => ?_⟩, fun j hj hc => ?_, hS, ⟨fun j hj => ?_, fun j hj hj2 => r1 j (by omega) hj2, fun j hj => ?_, fun j hj hc => ?_⟩, hO.flight (fun j hj => upd_ne (by omega)) (fun j hj => upd_ne (by omega)) (fun j hj => upd_ne (by omega)) (fun j hj => upd_ne (by omega)) upd_eq hp4 f0, hN⟩
  · rw [f7]
    funext j
    by_cases e : j = nf
    · subst e; rw [upd_eq, f8 j (Nat.le_refl j)]; rfl
    · exact upd_ne e
  · rw [ho' i hi, k23, f5]
  · by_cases e : j = nf
    · subst e
      simp only [upd_eq]
      exact ⟨in8 x hx, in8 y hy, hxy, h5, h6, Or.inl (f8 j (Nat.le_refl j))⟩
    · simp only [upd_ne e]
      exact f12 j (by omega)
  · by_cases e : j = nf
    · subst e
      simp only [upd_eq]
      rw [ex, ey]
      exact h4m
    · simp only [upd_ne e]
      exact hWF j (by omega) hc
  · by_cases e : j = nf
    · subst e; rw [upd_eq]; exact r1 j (Nat.le_refl j) hnf
    · rw [upd_ne e]; exact r0 j (by omega)
  · by_cases e : j = nf
    · subst e; rw [upd_eq]; exact Or.inl rfl
    · rw [upd_ne e]; exact r2 j (by omega)
  · by_cases e : j = nf
    · subst e; exact absurd (f8 j (Nat.le_refl j)) hc
    · rw [upd_ne e]; exact r3 j (by omega) hc
