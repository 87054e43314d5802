/-! ===== the relation between the class's cells (σ) and the reference's (τ) ===== -/
def inR (x : Int32) (a b : Int) : Prop := a ≤ x.toInt ∧ x.toInt ≤ b
/-- what is in force behind the first n days, out of what the texts told (f; -1: nothing) -/
def lawN (v : Int32) (f : Nat → Int32) : Nat → Int32
  | 0 => v
  | n + 1 => if f n = -1 then lawN v f n else f n
/-- behind all that do not start later -/
def insF (key : Nat → Int32) (f : Nat) : List Nat → List Nat
  | [] => [f]
  | g :: L => if key f < key g then f :: g :: L else g :: insF key f L
def ordL (key : Nat → Int32) : Nat → List Nat
  | 0 => []
  | n + 1 => insF key n (ordL key n)
/-- how many of the first n are not cancelled -/
def liveN (mc : Nat → Int32) : Nat → Nat
  | 0 => 0
  | n + 1 => liveN mc n + (if mc n = 0 then 1 else 0)
def endP (to : Nat → Int32) (a : Int32) : List Nat → Int32
  | [] => a
  | g :: L => endP to (to g) L
/-- where the plane of flight f is ahead of f and of its leg -/
def plAhead (home to on : Nat → Int32) (L : List Nat) (f : Nat) : Int32 := endP to (home (on f).toNatClampNeg) ((L.takeWhile (fun g => decide (g ≠ f))).filter (fun g => decide (on g = on f)))
def RT (tl : Nat) (a : Int32) (b : Nat → Int32) (c : Int32) (d : Nat → Int32) : Prop := (tl = 0 ∨ tl = 20 ∨ tl = 40) ∧ a = nI tl ∧ c = nI tl ∧ ∀ j, b j = d j &&& 255
def RLw (a12 a13 a14 a15 b2 b3 b4 : Nat → Int32) : Prop := a12 = b3 ∧ a13 = b4 ∧ (∀ d, d < 7 → b2 d = 0 → b3 d = -1 ∧ b4 d = -1) ∧ (∀ d, d < 7 → a14 d = lawN 840 b3 (d + 1)) ∧ ∀ d, d < 7 → a15 d = lawN 600 b4 (d + 1)
def RWy (a b : Nat → Int32) : Prop := a = b ∧ (∀ j, j < 64 → b j = 0 ∨ inR (b j) 10 600) ∧ ∀ k, k < 8 → b (9 * k) = 0
def RPl (np : Nat) (s : Int32) (h se t r : Nat → Int32) (mp : Int32) (mh ms mt mr : Nat → Int32) : Prop := np ≤ 4 ∧ s = nI np ∧ mp = nI np ∧ h = mh ∧ se = ms ∧ t = mt ∧ r = mr ∧ ∀ p, p < np → inR (mh p) 0 7 ∧ inR (ms p) 1 30 ∧ inR (mt p) 0 180 ∧ inR (mr p) 1 1000
def RFl (nf : Nat) (s lv : Int32) (f t st se k o : Nat → Int32) (mf : Int32) (mfr mto mst mw mc : Nat → Int32) : Prop := nf ≤ 20 ∧ s = nI nf ∧ mf = nI nf ∧ f = mfr ∧ t = mto ∧ st = mst ∧ se = mw ∧ k = mc ∧ (∀ j, nf ≤ j → mc j = 0) ∧ lv = nI (liveN mc nf) ∧ liveN mc nf ≤ 8 ∧ (∀ i, i < nf → o i = nI ((ordL mst nf).getD i 0)) ∧ ∀ j, j < nf → inR (mfr j) 0 7 ∧ inR (mto j) 0 7 ∧ mfr j ≠ mto j ∧ inR (mst j) 0 10079 ∧ inR (mw j) 1 30 ∧ (mc j = 0 ∨ mc j = 1)
def RWf (nf : Nat) (w mfr mto mc : Nat → Int32) : Prop := ∀ j, j < nf → mc j = 0 → w (8 * (mfr j).toNatClampNeg + (mto j).toNatClampNeg) ≠ 0
def RSm (ns : Nat) (s : Int32) (a b c : Nat → Int32) (ms : Int32) (a' b' c' : Nat → Int32) : Prop := ns ≤ 20 ∧ s = nI ns ∧ ms = nI ns ∧ a = a' ∧ b = b' ∧ c = c' ∧ ∀ k, k < ns → inR (b' k) 0 10079 ∧ inR (c' k) 1 10080
def RRo (np nf : Nat) (pl on mc : Nat → Int32) : Prop := (∀ j, j < nf → pl j = on j) ∧ (∀ j, nf ≤ j → j < 20 → pl j = -1) ∧ (∀ j, j < nf → on j = -1 ∨ ∃ p, p < np ∧ on j = nI p) ∧ ∀ j, j < nf → mc j ≠ 0 → on j = -1
def stand (x : Int32) : Prop := x = 0 ∨ x = 1
def ROf (G : Prop) (np nf no : Nat) (s : Int32) (st pc pl fl pr ti cl : Nat → Int32) (ms : Int32) (mst mpr mti mcl mlp mlf mlt mfl : Nat → Int32) (home fr to start on : Nat → Int32) : Prop :=
  no ≤ 40 ∧ s = nI no ∧ ms = nI no ∧ st = mst ∧ pc = mlf ∧ pl = mlp ∧ fl = mfl ∧ pr = mpr ∧ ti = mti ∧ cl = mcl ∧
  (∀ o, o < no → inR (mst o) 0 3 ∧ inR (mpr o) 0 1000000 ∧ (∃ p, p < np ∧ mlp o = nI p) ∧ (∃ f, f < nf ∧ mfl o = nI f) ∧ mlt o = fr (mfl o).toNatClampNeg) ∧
  (G → ∀ o, o < no → stand (mst o) → on (mfl o).toNatClampNeg = mlp o ∧ plAhead home to on (ordL start nf) (mfl o).toNatClampNeg = mlf o ∧ mlf o ≠ fr (mfl o).toNatClampNeg) ∧
  ∀ o o', o < no → o' < no → stand (mst o) → stand (mst o') → mfl o = mfl o' → o = o'
def RNo (a b : Int32) : Prop := a = b ∧ inR b 0 10079
def RelX (G : Prop) (tl np nf ns no : Nat) (σ τ : St) : Prop :=
  RT tl (σ.1 1 1) (σ.1 11) (τ.1 0 1) (τ.1 1) ∧
  RLw (σ.1 12) (σ.1 13) (σ.1 14) (σ.1 15) (τ.1 2) (τ.1 3) (τ.1 4) ∧
  RWy (σ.1 16) (τ.1 5) ∧
  RPl np (σ.1 4 4) (σ.1 17) (σ.1 18) (σ.1 19) (σ.1 20) (τ.1 0 9) (τ.1 6) (τ.1 7) (τ.1 8) (τ.1 9) ∧
  RFl nf (σ.1 5 6) (σ.1 5 7) (σ.1 21) (σ.1 22) (σ.1 23) (σ.1 24) (σ.1 25) (σ.1 26) (τ.1 0 14) (τ.1 10) (τ.1 11) (τ.1 12) (τ.1 13) (τ.1 14) ∧
  RWf nf (τ.1 5) (τ.1 10) (τ.1 11) (τ.1 14) ∧
  RSm ns (σ.1 6 3) (σ.1 27) (σ.1 28) (σ.1 29) (τ.1 0 21) (τ.1 16) (τ.1 17) (τ.1 18) ∧
  RRo np nf (σ.1 30) (τ.1 15) (τ.1 14) ∧
  ROf G np nf no (σ.1 10 7) (σ.1 38) (σ.1 39) (σ.1 40) (σ.1 41) (σ.1 42) (σ.1 43) (σ.1 44) (τ.1 0 25) (τ.1 19) (τ.1 20) (τ.1 21) (τ.1 22) (τ.1 23) (τ.1 24) (τ.1 25) (τ.1 26) (τ.1 6) (τ.1 10) (τ.1 11) (τ.1 12) (τ.1 15) ∧
  RNo (σ.1 0 9) (τ.1 0 2)
def Rel (σ τ : St) : Prop := ∃ tl np nf ns no : Nat, RelX True tl np nf ns no σ τ
-- scratch cells may differ
def SC (σ σ' : St) : Prop := ∀ k, k ≠ 2 → k ≠ 8 → k ≠ 9 → ¬ (31 ≤ k ∧ k ≤ 37) → σ'.1 k = σ.1 k
def SM (τ τ' : St) : Prop := (∀ k, 0 < k → k < 27 → τ'.1 k = τ.1 k) ∧ ∀ j, j ≠ 6 → j ≠ 7 → j ≠ 34 → j ≠ 36 → τ'.1 0 j = τ.1 0 j
theorem SC.rf (σ : St) : SC σ σ := fun _ _ _ _ _ => rfl
theorem SC.tr {a b c : St} (h1 : SC a b) (h2 : SC b c) : SC a c := fun k e1 e2 e3 e4 => (h2 k e1 e2 e3 e4).trans (h1 k e1 e2 e3 e4)
theorem SM.rf (τ : St) : SM τ τ := ⟨fun _ _ _ => rfl, fun _ _ _ _ _ => rfl⟩
theorem SM.tr {a b c : St} (h1 : SM a b) (h2 : SM b c) : SM a c := ⟨fun k e1 e2 => (h2.1 k e1 e2).trans (h1.1 k e1 e2), fun j e1 e2 e3 e4 => (h2.2 j e1 e2 e3 e4).trans (h1.2 j e1 e2 e3 e4)⟩
theorem RelX.scratch {G : Prop} {tl np nf ns no : Nat} {σ σ' τ τ' : St} (h : RelX G tl np nf ns no σ τ) (hc : SC σ σ') (hm : SM τ τ') : RelX G tl np nf ns no σ' τ' := by
  unfold RelX at h ⊢
  have c := fun k => hc k
  have m := fun k => hm.1 k
  have z := fun j => hm.2 j
  rw [c 1 (by decide) (by decide) (by decide) (by decide), c 11 (by decide) (by decide) (by decide) (by decide), c 12 (by decide) (by decide) (by decide) (by decide), c 13 (by decide) (by decide) (by decide) (by decide), c 14 (by decide) (by decide) (by decide) (by decide), c 15 (by decide) (by decide) (by decide) (by decide), c 16 (by decide) (by decide) (by decide) (by decide), c 4 (by decide) (by decide) (by decide) (by decide), c 17 (by decide) (by decide) (by decide) (by decide), c 18 (by decide) (by decide) (by decide) (by decide), c 19 (by decide) (by decide) (by decide) (by decide), c 20 (by decide) (by decide) (by decide) (by decide), c 5 (by decide) (by decide) (by decide) (by decide), c 21 (by decide) (by decide) (by decide) (by decide), c 22 (by decide) (by decide) (by decide) (by decide), c 23 (by decide) (by decide) (by decide) (by decide), c 24 (by decide) (by decide) (by decide) (by decide), c 25 (by decide) (by decide) (by decide) (by decide), c 26 (by decide) (by decide) (by decide) (by decide), c 6 (by decide) (by decide) (by decide) (by decide), c 27 (by decide) (by decide) (by decide) (by decide), c 28 (by decide) (by decide) (by decide) (by decide), c 29 (by decide) (by decide) (by decide) (by decide), c 30 (by decide) (by decide) (by decide) (by decide), c 10 (by decide) (by decide) (by decide) (by decide), c 38 (by decide) (by decide) (by decide) (by decide), c 39 (by decide) (by decide) (by decide) (by decide), c 40 (by decide) (by decide) (by decide) (by decide), c 41 (by decide) (by decide) (by decide) (by decide), c 42 (by decide) (by decide) (by decide) (by decide), c 43 (by decide) (by decide) (by decide) (by decide), c 44 (by decide) (by decide) (by decide) (by decide), c 0 (by decide) (by decide) (by decide) (by decide)]
  rw [z 1 (by decide) (by decide) (by decide) (by decide), z 9 (by decide) (by decide) (by decide) (by decide), z 14 (by decide) (by decide) (by decide) (by decide), z 21 (by decide) (by decide) (by decide) (by decide), z 25 (by decide) (by decide) (by decide) (by decide), z 2 (by decide) (by decide) (by decide) (by decide)]
  rw [m 1 (by decide) (by decide), m 2 (by decide) (by decide), m 3 (by decide) (by decide), m 4 (by decide) (by decide), m 5 (by decide) (by decide), m 6 (by decide) (by decide), m 7 (by decide) (by decide), m 8 (by decide) (by decide), m 9 (by decide) (by decide), m 10 (by decide) (by decide), m 11 (by decide) (by decide), m 12 (by decide) (by decide), m 13 (by decide) (by decide), m 14 (by decide) (by decide), m 15 (by decide) (by decide), m 16 (by decide) (by decide), m 17 (by decide) (by decide), m 18 (by decide) (by decide), m 19 (by decide) (by decide), m 20 (by decide) (by decide), m 21 (by decide) (by decide), m 22 (by decide) (by decide), m 23 (by decide) (by decide), m 24 (by decide) (by decide), m 25 (by decide) (by decide), m 26 (by decide) (by decide)]
  exact h
theorem Rel.scratch {σ σ' τ τ' : St} (h : Rel σ τ) (hc : SC σ σ') (hm : SM τ τ') : Rel σ' τ' := by
  obtain ⟨tl, np, nf, ns, no, h⟩ := h
  exact ⟨tl, np, nf, ns, no, h.scratch hc hm⟩
-- numbers
theorem i_lt {x y : Int32} : x < y ↔ x.toInt < y.toInt := Int32.lt_iff_toInt_lt
theorem i_le {x y : Int32} : x ≤ y ↔ x.toInt ≤ y.toInt := Int32.le_iff_toInt_le
theorem i_eq {x y : Int32} : x = y ↔ x.toInt = y.toInt := Int32.toInt_inj.symm
theorem inR_N {x : Int32} {n : Nat} (h : inR x 0 n) (hn : n < 2 ^ 31) : ∃ j, j ≤ n ∧ x = nI j := by
  obtain ⟨j, hj, rfl⟩ := nI_of (x := x) (by rw [i_lt]; exact Int.not_lt.mpr h.1)
  refine ⟨j, ?_, rfl⟩
  have := h.2
  rw [nI_toInt hj] at this
  omega
theorem n_clamp {n : Nat} (h : n < 2 ^ 31) : (nI n).toNatClampNeg = n := nI_clamp h
-- statics
theorem isWithin_w {x a b : Int32} {Q : Int32 → Prop} (h1 : inR x a.toInt b.toInt → Q 1) (h0 : ¬ inR x a.toInt b.toInt → Q 0) : w_X10_isWithin x a b Q := by
  refine ⟨fun h => h0 (fun z => ?_), fun h => ⟨fun h2 => h0 (fun z => ?_), fun h2 => h1 ?_⟩⟩ <;> simp only [i_lt, inR] at * <;> omega
theorem lies_w {x a b : Int32} {Q : Int32 → Prop} (h1 : inR x a.toInt b.toInt → Q 1) (h0 : ¬ inR x a.toInt b.toInt → Q 0) : w_X11_lies x a b Q := by
  refine ⟨fun h => h0 (fun z => ?_), fun h => ⟨fun h2 => h0 (fun z => ?_), fun h2 => h1 ?_⟩⟩ <;> simp only [i_lt, inR] at * <;> omega
theorem isField_w {x : Int32} {Q : Int32 → Prop} (h1 : inR x 0 7 → Q 1) (h0 : ¬ inR x 0 7 → Q 0) : w_X10_isField x Q := by
  have e0 : (0 : Int32).toInt = 0 := rfl
  have e8 : (8 : Int32).toInt = 8 := rfl
  refine ⟨fun h => h0 (fun z => ?_), fun h => ⟨fun h2 => h0 (fun z => ?_), fun h2 => h1 ?_⟩⟩ <;> simp only [i_lt, i_le, inR, e0, e8] at * <;> omega
theorem isDay_w {x : Int32} {Q : Int32 → Prop} (h1 : inR x 0 6 → Q 1) (h0 : ¬ inR x 0 6 → Q 0) : w_X10_isDay x Q := by
  have e0 : (0 : Int32).toInt = 0 := rfl
  have e8 : (7 : Int32).toInt = 7 := rfl
  refine ⟨fun h => h0 (fun z => ?_), fun h => ⟨fun h2 => h0 (fun z => ?_), fun h2 => h1 ?_⟩⟩ <;> simp only [i_lt, i_le, inR, e0, e8] at * <;> omega
theorem isMinute_w {x : Int32} {Q : Int32 → Prop} (h1 : inR x 0 10079 → Q 1) (h0 : ¬ inR x 0 10079 → Q 0) : w_X10_isMinute x Q := by
  have e0 : (0 : Int32).toInt = 0 := rfl
  have e8 : (10080 : Int32).toInt = 10080 := rfl
  refine ⟨fun h => h0 (fun z => ?_), fun h => ⟨fun h2 => h0 (fun z => ?_), fun h2 => h1 ?_⟩⟩ <;> simp only [i_lt, i_le, inR, e0, e8] at * <;> omega
-- branches on an answer
theorem n10 : ¬ (1 : Int32) = 0 := by decide
theorem b1 {A B : Prop} (b : B) : ((1 : Int32) = 0 → A) ∧ (¬ (1 : Int32) = 0 → B) := ⟨fun h => absurd h n10, fun _ => b⟩
theorem b0 {A B : Prop} (a : A) : ((0 : Int32) = 0 → A) ∧ (¬ (0 : Int32) = 0 → B) := ⟨fun _ => a, fun h => absurd rfl h⟩
theorem c1 {A B : Prop} (a : A) : (¬ (1 : Int32) = 0 → A) ∧ ((1 : Int32) = 0 → B) := ⟨fun _ => a, fun h => absurd h n10⟩
theorem c0 {A B : Prop} (b : B) : (¬ (0 : Int32) = 0 → A) ∧ ((0 : Int32) = 0 → B) := ⟨fun h => absurd rfl h, fun _ => b⟩
theorem bt {c A B : Prop} (h : c) (a : A) : (c → A) ∧ (¬ c → B) := ⟨fun _ => a, fun n => absurd h n⟩
theorem bf {c A B : Prop} (h : ¬ c) (b : B) : (c → A) ∧ (¬ c → B) := ⟨fun n => absurd n h, fun _ => b⟩
theorem ct {c A B : Prop} (h : ¬ c) (a : A) : (¬ c → A) ∧ (c → B) := ⟨fun _ => a, fun n => absurd n h⟩
theorem cf {c A B : Prop} (h : c) (b : B) : (¬ c → A) ∧ (c → B) := ⟨fun n => absurd h n, fun _ => b⟩
