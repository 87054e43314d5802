/-! ===== fits ===== -/
def SD (σ σ' : St) : Prop := (∀ k, k ≠ 8 → σ'.1 k = σ.1 k) ∧ σ'.2 = σ.2
theorem SD.rf (σ : St) : SD σ σ := ⟨fun _ _ => rfl, rfl⟩
theorem SD.tr {a b c : St} (h1 : SD a b) (h2 : SD b c) : SD a c := ⟨fun k e => (h2.1 k e).trans (h1.1 k e), h2.2.trans h1.2⟩
theorem SD.sc {a b : St} (h : SD a b) : SC a b := fun k _ h2 _ _ => h.1 k h2
theorem SC8.sd {a b : St} (h : SC8 a b) : SD a b := ⟨h.1, h.2.1⟩
theorem SD.w {a : St} {j : Nat} {v : Int32} : SD a (wr a 8 j v) := ⟨fun k e => if_neg e, rfl⟩
/-- plane p's chain of these flights fits -/
def fitP (ns : Nat) (τ : St) (p : Nat) (L : List Nat) : Prop := fitL ns τ p (-1, 0) (recsF τ p (τ.1 6 p) L)
section FIT
variable {G : Prop} {tl np nf ns no : Nat} {σ τ : St}
theorem RelX.sd (h : RelX G tl np nf ns no σ τ) {σ' : St} (hd : SD σ σ') : RelX G tl np nf ns no σ' τ := h.scratch hd.sc (SM.rf τ)
theorem begin_t (h : RelX G tl np nf ns no σ τ) {p : Nat} (hp : p < np) {Q : St → Prop} (q : ∀ σ', SD σ σ' → σ'.1 8 5 = τ.1 7 p → σ'.1 8 6 = τ.1 8 p → σ'.1 8 7 = τ.1 6 p → σ'.1 8 8 = 0 → σ'.1 8 9 = -1 → Q σ') : w_X0_begin (nI p) σ Q := by
  obtain ⟨p0, p1, p2, p3, p4, p5, p6, p7⟩ := h.2.2.2.1
  unfold w_X0_begin w_X0_resume
  refine X4_seatsOf_t p1 hp p0 ?_
  rintro _ rfl
  refine X4_turnOf_t (n := np) p1 hp p0 ?_
  rintro _ rfl
  refine X4_homeOf_t (n := np) p1 hp p0 ?_
  rintro _ rfl _ rfl _ rfl
  refine q _ ((((SD.w.tr SD.w).tr SD.w).tr SD.w).tr SD.w) ?_ ?_ ?_ rfl rfl
  · show σ.1 18 p = _
    rw [p4]
  · show σ.1 19 p = _
    rw [p5]
  · show σ.1 17 p = _
    rw [p3]
theorem holdsC (h : RelX G tl np nf ns no σ τ) {Q : Int32 → St → Prop} (q1 : (∀ p, p < np → fitP ns τ p (handL (τ.1 12) (τ.1 15) nf (nI p))) → ∀ σ', SD σ σ' → Q 1 σ') (q0 : ¬ (∀ p, p < np → fitP ns τ p (handL (τ.1 12) (τ.1 15) nf (nI p))) → ∀ σ', SD σ σ' → Q 0 σ') : w_X5_holds σ Q := by
  obtain ⟨p0, p1, p2, p3, p4, p5, p6, p7⟩ := h.2.2.2.1
  obtain ⟨f0, f1, f2, f3, f4, f5, f6, f7, f8, f9, f10, f11, f12⟩ := h.2.2.2.2.1
  have r0 := h.2.2.2.2.2.2.2.1.1
  have hlen := ordL_len (τ.1 12) nf
  unfold w_X5_holds
  have loop : ∀ (k i : Nat) (σ1 : St), i + k = np → SD σ σ1 → (∀ p, p < i → fitP ns τ p (handL (τ.1 12) (τ.1 15) nf (nI p))) → w_X5_holds_2 Q (k + 1) (nI i) σ1 := by
    intro k
    induction k with
    | zero =>
      intro i σ1 hi hs hall
      obtain rfl : i = np := by omega
      unfold w_X5_holds_2 w_X4_size
      exact bt (by rw [hs.1 4 (by omega), p1, nI_leI (by omega) (by omega)]; omega) (q1 hall σ1 hs)
    | succ k ih =>
      intro i σ1 hi hs hall
      have hin : i < np := by omega
      unfold w_X5_holds_2 w_X4_size
      refine bf (by rw [hs.1 4 (by omega), p1, nI_leI (by omega) (by omega)]; omega) (begin_t (h.sd hs) hin (fun σ2 c2 k5 k6 k7 k8 k9 => ⟨nf + 1, ?_⟩))
      have inner : ∀ (L : List Nat) (n : Nat) (a : Int32) (s : Int32 × Int32) (σ3 : St), n + L.length = nf → (ordL (τ.1 12) nf).drop n = L → SD σ σ3 → σ3.1 8 5 = τ.1 7 i → σ3.1 8 6 = τ.1 8 i → σ3.1 8 7 = a → σ3.1 8 8 = s.2 → σ3.1 8 9 = s.1 → inR a 0 7 → (s.1 = -1 ∨ inR s.1 0 10079) → (fitL ns τ i s (recsF τ i a (L.filter (fun f => decide (τ.1 15 f = nI i)))) ↔ fitP ns τ i (handL (τ.1 12) (τ.1 15) nf (nI i))) → w_X5_holds_23 Q (fun x1 σ => w_X5_holds_2 Q (k + 1) x1 σ) (L.length + 1) (nI i) (nI n) σ3 := by
        intro L
        induction L with
        | nil =>
          intro n a s σ3 hn hd hs3 g5 g6 g7 g8 g9 ga gd hiff
          unfold w_X5_holds_23 w_X1_size
          refine bt (by rw [hs3.1 5 (by omega), f1]; exact nI_le (by simp at hn; omega) (by simp at hn; omega)) ?_
          rw [nI_1]
          refine ih (i + 1) σ3 (by omega) hs3 (fun p hp => ?_)
          by_cases e : p = i
          · subst e; exact hiff.mp trivial
          · exact hall p (by omega)
        | cons g L ihL =>
          intro n a s σ3 hn hd hs3 g5 g6 g7 g8 g9 ga gd hiff
          rw [List.length_cons] at hn
          obtain ⟨d1, d2, d3, -⟩ := drop_step hd
          have hg : g < nf := (ordL_mem (τ.1 12) g nf).mp (List.mem_of_getElem? d1)
          have h3 := h.sd hs3
          unfold w_X5_holds_23 w_X1_size
          refine bf (by rw [hs3.1 5 (by omega), f1, nI_leI (by omega) (by omega)]; omega) (inOrder_t h3 (by omega) ?_)
          rw [d2]
          refine X6_planeOf_t (n := nf) h3.2.2.2.2.1.2.1 hg f0 ?_
          rw [h3.2.2.2.2.2.2.2.1.1 g hg, nI_1]
          rw [List.filter_cons] at hiff
          refine ⟨fun z => ?_, fun z => ?_⟩
          · rw [if_neg (by simpa using z)] at hiff
            exact ihL (n + 1) a s σ3 (by omega) d3 hs3 g5 g6 g7 g8 g9 ga gd hiff
          · rw [if_pos (by simpa using z), recsF_cons, fitL_app] at hiff
            refine join_t h3 hin hg (live_of_on h hg hin z) g5 g6 g7 ga g8 g9 gd (fun y hin2 σ4 c4 w7 w8 w9 => ct (legC_ne h hg ga).2 ?_) (fun y σ4 c4 => cf rfl (q0 (fun gg => y ?_) σ4 (hs3.tr c4.sd)))
            · refine ihL (n + 1) (τ.1 11 g) _ σ4 (by omega) d3 (hs3.tr c4.sd) (by rw [c4.2.2.1]; exact g5) (by rw [c4.2.2.2]; exact g6) w7 w8 w9 (f12 g hg).2.1 (Or.inr hin2) ?_
              rw [← hiff]
              exact ⟨fun w => ⟨y, w⟩, fun w => w.2⟩
            · exact (hiff.mpr (gg i hin)).1
      have := inner (ordL (τ.1 12) nf) 0 (τ.1 6 i) (-1, 0) σ2 (by omega) rfl (hs.tr c2) k5 k6 k7 k8 k9 (p7 i hin).1 (Or.inl rfl) Iff.rfl
      rw [hlen] at this
      exact this
  exact ⟨np + 1, loop np 0 σ (by omega) (SD.rf σ) (fun p hp => absurd hp (Nat.not_lt_zero p))⟩
theorem recP_eq (p : Nat) : recT (τ.1 5) (τ.1 10) (τ.1 11) (τ.1 12) (τ.1 8 p) = recP τ p := rfl
theorem fitL_sm {τ' : St} (hS : SM τ τ') {p : Nat} : ∀ (l : List Rec) (s : Int32 × Int32), fitL ns τ' p s l ↔ fitL ns τ p s l := by
  have e1 : ∀ s r, nxD τ' s r = nxD τ s r := fun s r => by
    unfold nxD restL
    rw [hS.1 4 (by omega) (by omega)]
  have e2 : ∀ s r, nxt τ' s r = nxt τ s r := fun s r => by
    unfold nxt
    rw [e1]
  have e3 : ∀ s r, okM ns τ' p s r ↔ okM ns τ p s r := fun s r => by
    unfold okM stormB dutyL
    rw [e1, hS.1 5 (by omega) (by omega), hS.1 13 (by omega) (by omega), hS.1 7 (by omega) (by omega), hS.1 8 (by omega) (by omega), hS.1 16 (by omega) (by omega), hS.1 17 (by omega) (by omega), hS.1 18 (by omega) (by omega), hS.1 3 (by omega) (by omega)]
  intro l
  induction l with
  | nil => intro s; exact Iff.rfl
  | cons r l ih =>
    intro s
    show okM ns τ' p s r ∧ fitL ns τ' p (nxt τ' s r) l ↔ okM ns τ p s r ∧ fitL ns τ p (nxt τ s r) l
    rw [e3, e2, ih]
theorem fitsM (h : RelX G tl np nf ns no σ τ) {Q : Int32 → St → Prop} (q1 : (∀ p, p < np → fitP ns τ p (handL (τ.1 12) (τ.1 15) nf (nI p))) → ∀ τ', SM τ τ' → Q 1 τ') (q0 : ¬ (∀ p, p < np → fitP ns τ p (handL (τ.1 12) (τ.1 15) nf (nI p))) → ∀ τ', SM τ τ' → Q 0 τ') : w_X11_fits τ Q := by
  obtain ⟨p0, p1, p2, p3, p4, p5, p6, p7⟩ := h.2.2.2.1
  unfold w_X11_fits
  have loop : ∀ (k i : Nat) (τ1 : St), i + k = np → SM τ τ1 → (∀ p, p < i → fitP ns τ p (handL (τ.1 12) (τ.1 15) nf (nI p))) → w_X11_fits_2 Q (k + 1) (nI i) τ1 := by
    intro k
    induction k with
    | zero =>
      intro i τ1 hi hs hall
      obtain rfl : i = np := by omega
      exact bt (by rw [hs.2 9 (by omega) (by omega) (by omega) (by omega), p2, nI_leI (by omega) (by omega)]; omega) (q1 hall τ1 hs)
    | succ k ih =>
      intro i τ1 hi hs hall
      have hin : i < np := by omega
      have h1 := h.scratch (SC.rf σ) hs
      refine bf (by rw [hs.2 9 (by omega) (by omega) (by omega) (by omega), p2, nI_leI (by omega) (by omega)]; omega) (handM h1 hin (fun τ2 s2 m2 => ?_))
      have s02 := hs.tr s2
      rw [recP_eq (τ := τ1) i, recP_sm hs] at m2
      have m2' : MH τ2 (recsF τ i (τ.1 6 i) (handL (τ.1 12) (τ.1 15) nf (nI i))) := by
        have := m2
        rw [hs.1 10 (by omega) (by omega), hs.1 11 (by omega) (by omega), hs.1 6 (by omega) (by omega), hs.1 12 (by omega) (by omega), hs.1 15 (by omega) (by omega)] at this
        exact this
      refine holds_t h s02 hin m2' ?_ (goodR_all h hin _ _ (p7 i hin).1 (fun g hg => (handL_mem.mp hg).1)) (fun y => ct n10 ?_) (fun y => cf rfl (q0 (fun gg => y (gg i hin)) τ2 s02))
      · have := movT_16 h hin
        unfold movT at this
        unfold recsF
        rw [List.length_map]
        exact this
      · rw [nI_1]
        refine ih (i + 1) τ2 (by omega) s02 (fun p hp => ?_)
        by_cases e : p = i
        · subst e; exact y
        · exact hall p (by omega)
  exact ⟨np + 1, loop np 0 τ (by omega) (SM.rf τ) (fun p hp => absurd hp (Nat.not_lt_zero p))⟩
theorem sim_fits {σ τ : St} (h : Rel σ τ) : w_X10_fits σ (fun r σ' => w_X11_fits τ (fun r' τ' => r = r' ∧ Rel σ' τ')) := by
  obtain ⟨tl, np, nf, ns, no, h⟩ := h
  unfold w_X10_fits
  refine holdsC h (fun y σ' c => bf n10 (fitsM h (fun _ τ' s => ⟨rfl, tl, np, nf, ns, no, h.scratch c.sc s⟩) (fun z => absurd y z))) (fun y σ' c => bt rfl (fitsM h (fun z => absurd z y) (fun _ τ' s => ⟨rfl, tl, np, nf, ns, no, h.scratch c.sc s⟩)))
end FIT
