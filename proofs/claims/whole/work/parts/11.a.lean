/-! ===== the plain methods ===== -/
theorem isWithin_t {x a b : Int32} {Q : Int32 → Prop} (h : inR x a.toInt b.toInt) (q : Q 1) : w_X10_isWithin x a b Q := isWithin_w (fun _ => q) (fun n => absurd h n)
theorem lies_t {x a b : Int32} {Q : Int32 → Prop} (h : inR x a.toInt b.toInt) (q : Q 1) : w_X11_lies x a b Q := lies_w (fun _ => q) (fun n => absurd h n)
theorem lies_f {x a b : Int32} {Q : Int32 → Prop} (h : ¬ inR x a.toInt b.toInt) (q : Q 0) : w_X11_lies x a b Q := lies_w (fun n => absurd n h) (fun _ => q)
theorem isField_t {x : Int32} {Q : Int32 → Prop} (h : inR x 0 7) (q : Q 1) : w_X10_isField x Q := isField_w (fun _ => q) (fun n => absurd h n)
theorem isField_f {x : Int32} {Q : Int32 → Prop} (h : ¬ inR x 0 7) (q : Q 0) : w_X10_isField x Q := isField_w (fun n => absurd n h) (fun _ => q)
theorem isMinute_t {x : Int32} {Q : Int32 → Prop} (h : inR x 0 10079) (q : Q 1) : w_X10_isMinute x Q := isMinute_w (fun _ => q) (fun n => absurd h n)
theorem isMinute_f {x : Int32} {Q : Int32 → Prop} (h : ¬ inR x 0 10079) (q : Q 0) : w_X10_isMinute x Q := isMinute_w (fun n => absurd n h) (fun _ => q)
theorem isDay_t {x : Int32} {Q : Int32 → Prop} (h : inR x 0 6) (q : Q 1) : w_X10_isDay x Q := isDay_w (fun _ => q) (fun n => absurd h n)
theorem i_ne {x : Int32} {n : Nat} (k : Nat) (h : x = nI n) (hk : n ≠ k) (h1 : n < 2 ^ 31) (h2 : k < 2 ^ 31) : ¬ x = nI k := by rw [h, nI_eq h1 h2]; exact hk
theorem RRo.mono {np nf : Nat} {pl on mc : Nat → Int32} (h : RRo np nf pl on mc) : RRo (np + 1) nf pl on mc := ⟨h.1, h.2.1, fun j hj => (h.2.2.1 j hj).imp id (fun ⟨p, h1, h2⟩ => ⟨p, by omega, h2⟩), h.2.2.2⟩
theorem upd_ne {f : Nat → Int32} {k j : Nat} {x : Int32} (h : j ≠ k) : upd f k x j = f j := if_neg h
theorem upd_eq {f : Nat → Int32} {k : Nat} {x : Int32} : upd f k x k = x := if_pos rfl
theorem endP_congr {to to' : Nat → Int32} : ∀ (L : List Nat) (a : Int32), (∀ g ∈ L, to g = to' g) → endP to a L = endP to' a L
  | [], _, _ => rfl
  | g :: L, a, h => by rw [endP, endP, h g List.mem_cons_self]; exact endP_congr L _ (fun x hx => h x (List.mem_cons_of_mem _ hx))
/-- RPl with one plane more -/
theorem RPl.add {np : Nat} {s : Int32} {h se t r : Nat → Int32} {mp : Int32} {mh ms mt mr : Nat → Int32} (H : RPl np s h se t r mp mh ms mt mr) (hn : np < 4) {a1 a2 a3 a4 : Int32} (h1 : inR a1 0 7) (h2 : inR a2 1 30) (h3 : inR a3 0 180) (h4 : inR a4 1 1000) : RPl (np + 1) (s + 1) (upd h s.toNatClampNeg a1) (upd se s.toNatClampNeg a2) (upd t s.toNatClampNeg a3) (upd r s.toNatClampNeg a4) (mp + 1) (upd mh mp.toNatClampNeg a1) (upd ms mp.toNatClampNeg a2) (upd mt mp.toNatClampNeg a3) (upd mr mp.toNatClampNeg a4) := by
  obtain ⟨e0, e1, e2, e3, e4, e5, e6, e7⟩ := H
  subst e1 e2 e3 e4 e5 e6
  refine ⟨hn, nI_1 np, nI_1 np, rfl, rfl, rfl, rfl, fun p hp => ?_⟩
  rw [n_clamp (by omega)]
  by_cases hq : p = np
  · subst hq
    simp only [upd_eq]
    exact ⟨h1, h2, h3, h4⟩
  · simp only [upd_ne hq]
    exact e7 p (by omega)
theorem plAhead_home {home home' to on : Nat → Int32} {L : List Nat} {f : Nat} (h : home (on f).toNatClampNeg = home' (on f).toNatClampNeg) : plAhead home to on L f = plAhead home' to on L f := by unfold plAhead; rw [h]
theorem ROf.plane {G : Prop} {np nf no : Nat} {s : Int32} {st pc pl fl pr ti cl : Nat → Int32} {ms : Int32} {mst mpr mti mcl mlp mlf mlt mfl : Nat → Int32} {home home' fr to start on : Nat → Int32} (H : ROf G np nf no s st pc pl fl pr ti cl ms mst mpr mti mcl mlp mlf mlt mfl home fr to start on) (hh : ∀ p, p < np → home' p = home p) (hnp : np ≤ 4) : ROf G (np + 1) nf no s st pc pl fl pr ti cl ms mst mpr mti mcl mlp mlf mlt mfl home' fr to start on := by
  obtain ⟨o0, o1, o2, o3, o4, o5, o6, o7, o8, o9, o10, o11, o12⟩ := H
  refine ⟨o0, o1, o2, o3, o4, o5, o6, o7, o8, o9, fun o ho => ?_, fun hG o ho hs => ?_, o12⟩
  · obtain ⟨x1, x2, ⟨p, hp, ep⟩, x4, x5⟩ := o10 o ho
    exact ⟨x1, x2, ⟨p, by omega, ep⟩, x4, x5⟩
  · obtain ⟨x1, x2, x3⟩ := o11 hG o ho hs
    refine ⟨x1, ?_, x3⟩
    rw [← x2]
    refine plAhead_home ?_
    obtain ⟨-, -, ⟨p, hp, ep⟩, -⟩ := o10 o ho
    rw [x1, ep, n_clamp (by omega)]
    exact hh p hp
theorem plane_no {a1 a2 a3 a4 : Int32} {τ : St} {Q : Int32 → St → Prop} (h : ¬ (¬ τ.1 0 9 = 4 ∧ inR a1 0 7 ∧ inR a2 1 30 ∧ inR a3 0 180 ∧ inR a4 1 1000)) (q : Q (-1) τ) : w_X11_plane a1 a2 a3 a4 τ Q := by
  unfold w_X11_plane
  refine ⟨fun _ => q, fun n4 => lies_w (fun h1 => b1 (lies_w (fun h2 => b1 (lies_w (fun h3 => b1 (lies_w (fun h4 => c1 ?_) (fun _ => c0 q))) (fun _ => b0 q))) (fun _ => b0 q))) (fun _ => b0 q)⟩
  exact absurd ⟨n4, h1, h2, h3, h4⟩ h
theorem sim_plane (a1 a2 a3 a4 : Int32) {σ τ : St} (h : Rel σ τ) : w_X10_plane a1 a2 a3 a4 σ (fun r σ' => w_X11_plane a1 a2 a3 a4 τ (fun r' τ' => r = r' ∧ Rel σ' τ')) := by
  have hR := h
  obtain ⟨tl, np, nf, ns, no, hT, hL, hW, hP, hF, hWF, hS, hR0, hO, hN⟩ := h
  have hP0 := hP
  obtain ⟨p0, p1, p2, p3, p4, p5, p6, p7⟩ := hP
  unfold w_X10_plane
  refine isField_w (fun h1 => b1 (isWithin_w (fun h2 => c1 (isWithin_w (fun h3 => b1 (isWithin_w (fun h4 => c1 ?_) (fun n => c0 (plane_no (fun z => n z.2.2.2.2) ⟨rfl, hR⟩)))) (fun n => b0 (plane_no (fun z => n z.2.2.2.1) ⟨rfl, hR⟩)))) (fun n => c0 (plane_no (fun z => n z.2.2.1) ⟨rfl, hR⟩)))) (fun n => b0 (plane_no (fun z => n z.2.1) ⟨rfl, hR⟩))
  unfold w_X4_add
  refine ⟨fun hlt => ?_, fun hlt => plane_no (fun z => z.1 ?_) ⟨rfl, hR⟩⟩
  · have hnp : np < 4 := by
      rw [p1] at hlt
      exact (nI_ltI (b := 4) (by omega) (by omega)).mp hlt
    have hv : vp_in (σ.1 4 4) 4 := by rw [p1]; exact vp_in_nI hnp (by omega)
    have hm : vp_in (τ.1 0 9) 4 := by rw [p2]; exact vp_in_nI hnp (by omega)
    refine ⟨hv, ?_⟩
    rintro _ rfl
    refine ⟨hv, ?_⟩
    rintro _ rfl
    refine ⟨hv, ?_⟩
    rintro _ rfl
    refine ⟨hv, ?_⟩
    rintro _ rfl _ rfl
    unfold w_X11_plane
    refine bf (i_ne 4 p2 (by omega) (by omega) (by omega)) (lies_t h1 (b1 (lies_t h2 (b1 (lies_t h3 (b1 (lies_t h4 (c1 ?_))))))))
    refine ⟨hm, ?_⟩
    rintro _ rfl
    refine ⟨hm, ?_⟩
    rintro _ rfl
    refine ⟨hm, ?_⟩
    rintro _ rfl
    refine ⟨hm, ?_⟩
    rintro _ rfl _ rfl
    refine ⟨?_, tl, np + 1, nf, ns, no, hT, hL, hW, hP0.add hnp h1 h2 h3 h4, hF, hWF, hS, hR0.mono, ?_, hN⟩
    · show (σ.1 4 4 + 1) - 1 = (τ.1 0 9 + 1) - 1
      rw [p1, p2]
    · refine hO.plane (fun p hp => ?_) (by omega)
      show upd (τ.1 6) (τ.1 0 9).toNatClampNeg a1 p = _
      rw [p2, n_clamp (by omega)]
      exact upd_ne (by omega)
  · have hle : ¬ np < 4 := fun z => hlt (by rw [p1]; exact (nI_ltI (b := 4) (by omega) (by omega)).mpr z)
    rw [p2, show np = 4 by omega]
    rfl
-- storms
theorem RSm.add {ns : Nat} {s : Int32} {a b c : Nat → Int32} {ms : Int32} {a' b' c' : Nat → Int32} (H : RSm ns s a b c ms a' b' c') (hn : ns < 20) {x1 x2 x3 : Int32} (h2 : inR x2 0 10079) (h3 : inR x3 1 10080) : RSm (ns + 1) (s + 1) (upd a s.toNatClampNeg x1) (upd b s.toNatClampNeg x2) (upd c s.toNatClampNeg x3) (ms + 1) (upd a' ms.toNatClampNeg x1) (upd b' ms.toNatClampNeg x2) (upd c' ms.toNatClampNeg x3) := by
  obtain ⟨e0, e1, e2, e3, e4, e5, e6⟩ := H
  subst e1 e2 e3 e4 e5
  refine ⟨hn, nI_1 ns, nI_1 ns, rfl, rfl, rfl, fun p hp => ?_⟩
  rw [n_clamp (by omega)]
  by_cases hq : p = ns
  · subst hq
    simp only [upd_eq]
    exact ⟨h2, h3⟩
  · simp only [upd_ne hq]
    exact e6 p (by omega)
theorem plus1 {x : Int32} (h : inR x 0 10079) : (x + 1).toInt = x.toInt + 1 := by
  obtain ⟨j, hj, rfl⟩ := inR_N (n := 10079) h (by omega)
  rw [nI_1, nI_toInt (by omega), nI_toInt (by omega)]
  rfl
theorem storm_no {a1 a2 a3 : Int32} {τ : St} {Q : Int32 → St → Prop} (h : ¬ (¬ τ.1 0 21 = 20 ∧ inR a1 0 7 ∧ inR a2 0 10079 ∧ inR a3 (a2 + 1).toInt 10080)) (q : Q (-1) τ) : w_X11_storm a1 a2 a3 τ Q := by
  unfold w_X11_storm
  refine ⟨fun _ => q, fun n4 => lies_w (fun h1 => b1 (lies_w (fun h2 => b1 (lies_w (fun h3 => c1 ?_) (fun _ => c0 q))) (fun _ => b0 q))) (fun _ => b0 q)⟩
  exact absurd ⟨n4, h1, h2, h3⟩ h
theorem sim_storm (a1 a2 a3 : Int32) {σ τ : St} (h : Rel σ τ) : w_X10_storm a1 a2 a3 σ (fun r σ' => w_X11_storm a1 a2 a3 τ (fun r' τ' => r = r' ∧ Rel σ' τ')) := by
  have hR := h
  obtain ⟨tl, np, nf, ns, no, hT, hL, hW, hP, hF, hWF, hS, hR0, hO, hN⟩ := h
  have hS0 := hS
  obtain ⟨p0, p1, p2, p3, p4, p5, p6⟩ := hS
  unfold w_X10_storm
  refine isField_w (fun h1 => b1 (isMinute_w (fun h2 => b1 (isWithin_w (fun h3 => c1 ?_) (fun n => c0 (storm_no (fun z => n z.2.2.2) ⟨rfl, hR⟩)))) (fun n => b0 (storm_no (fun z => n z.2.2.1) ⟨rfl, hR⟩)))) (fun n => b0 (storm_no (fun z => n z.2.1) ⟨rfl, hR⟩))
  unfold w_X7_add
  refine ⟨fun hlt => ?_, fun hlt => storm_no (fun z => z.1 ?_) ⟨rfl, hR⟩⟩
  · have hnp : ns < 20 := by
      rw [p1] at hlt
      exact (nI_ltI (b := 20) (by omega) (by omega)).mp hlt
    have hv : vp_in (σ.1 6 3) 20 := by rw [p1]; exact vp_in_nI hnp (by omega)
    have hm : vp_in (τ.1 0 21) 20 := by rw [p2]; exact vp_in_nI hnp (by omega)
    have h3' : inR a3 1 10080 := by
      have := h3.1
      rw [plus1 h2] at this
      exact ⟨by have := h2.1; omega, h3.2⟩
    refine ⟨hv, ?_⟩
    rintro _ rfl
    refine ⟨hv, ?_⟩
    rintro _ rfl
    refine ⟨hv, ?_⟩
    rintro _ rfl _ rfl
    unfold w_X11_storm
    refine bf (i_ne 20 p2 (by omega) (by omega) (by omega)) (lies_t h1 (b1 (lies_t h2 (b1 (lies_t h3 (c1 ?_))))))
    refine ⟨hm, ?_⟩
    rintro _ rfl
    refine ⟨hm, ?_⟩
    rintro _ rfl
    refine ⟨hm, ?_⟩
    rintro _ rfl _ rfl
    refine ⟨?_, tl, np, nf, ns + 1, no, hT, hL, hW, hP, hF, hWF, hS0.add hnp h2 h3', hR0, hO, hN⟩
    show (σ.1 6 3 + 1) - 1 = (τ.1 0 21 + 1) - 1
    rw [p1, p2]
  · have hle : ¬ ns < 20 := fun z => hlt (by rw [p1]; exact (nI_ltI (b := 20) (by omega) (by omega)).mpr z)
    rw [p2, show ns = 20 by omega]
    rfl
