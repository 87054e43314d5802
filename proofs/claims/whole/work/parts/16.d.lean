/-! ===== count ===== -/
def sumN (g : Nat → Nat) : Nat → Nat
  | 0 => 0
  | n + 1 => sumN g n + g n
theorem sumN_congr {g g' : Nat → Nat} : ∀ n, (∀ j, j < n → g j = g' j) → sumN g n = sumN g' n
  | 0, _ => rfl
  | n + 1, h => by rw [sumN, sumN, sumN_congr n (fun j hj => h j (by omega)), h n (by omega)]
theorem sumN_add (g g' : Nat → Nat) : ∀ n, sumN (fun j => g j + g' j) n = sumN g n + sumN g' n
  | 0 => rfl
  | n + 1 => by rw [sumN, sumN, sumN, sumN_add g g' n]; omega
theorem sumN_zero {g : Nat → Nat} : ∀ n, (∀ j, j < n → g j = 0) → sumN g n = 0
  | 0, _ => rfl
  | n + 1, h => by rw [sumN, sumN_zero n (fun j hj => h j (by omega)), h n (by omega)]
theorem sumN_one {v q : Nat} : ∀ n, q < n → sumN (fun p => if p = q then v else 0) n = v
  | 0, h => absurd h (Nat.not_lt_zero q)
  | n + 1, h => by
    rw [sumN]
    by_cases e : n = q
    · subst e
      rw [if_pos rfl, sumN_zero n (fun j hj => if_neg (by omega))]; omega
    · rw [if_neg e, sumN_one n (by omega)]; omega
theorem sumN_swap (g : Nat → Nat → Nat) (m : Nat) : ∀ n, sumN (fun j => sumN (fun p => g p j) m) n = sumN (fun p => sumN (g p) n) m
  | 0 => by rw [sumN]; exact (sumN_zero m (fun j _ => rfl)).symm
  | n + 1 => by
    rw [sumN, sumN_swap g m n, ← sumN_add]
    rfl
theorem sum_ins (g : Nat → Nat) (key : Nat → Int32) (f : Nat) : ∀ L : List Nat, ((insF key f L).map g).sum = g f + (L.map g).sum
  | [] => by simp [insF]
  | x :: L => by
    unfold insF
    split
    · simp
    · rw [List.map_cons, List.sum_cons, sum_ins g key f L, List.map_cons, List.sum_cons]; omega
theorem sum_ord (g : Nat → Nat) (key : Nat → Int32) : ∀ n, ((ordL key n).map g).sum = sumN g n
  | 0 => rfl
  | n + 1 => by rw [ordL, sum_ins, sum_ord g key n, sumN]; omega
theorem sum_filter (g : Nat → Nat) (P : Nat → Bool) : ∀ L : List Nat, ((L.filter P).map g).sum = (L.map (fun f => if P f = true then g f else 0)).sum
  | [] => rfl
  | x :: L => by
    rw [List.filter_cons, List.map_cons, List.sum_cons, ← sum_filter g P L]
    split
    · rw [List.map_cons, List.sum_cons]
    · omega
/-- minutes of empty legs, as numbers -/
def legN (τ : St) (a : Int32) (f : Nat) : Nat := (legC τ a f).toInt.toNat
def legsN (τ : St) : Int32 → List Nat → Nat
  | _, [] => 0
  | a, f :: L => legN τ a f + legsN τ (τ.1 11 f) L
def lgN (nf : Nat) (τ : St) (f : Nat) : Nat := if τ.1 15 f = -1 then 0 else legN τ (plT nf τ f) f
section CNT
variable {G : Prop} {tl np nf ns no : Nat} {σ τ : St}
theorem legN_eq (h : RelX G tl np nf ns no σ τ) {f : Nat} (hf : f < nf) {a : Int32} (ha : inR a 0 7) : legC τ a f = nI (legN τ a f) ∧ legN τ a f ≤ 600 := by
  obtain ⟨j, hj, e⟩ := inR_N (n := 600) (legC_ne h hf ha).1 (by omega)
  unfold legN
  rw [e, nI_toInt (by omega)]
  exact ⟨by congr 1, by omega⟩
/-- the sum over the moves in the arrays -/
theorem emptyM (h : RelX G tl np nf ns no σ τ) {τ' : St} (hS : SM τ τ') {p : Nat} {L : List Nat} {a : Int32} (hp : p < np) (ha : inR a 0 7) (hL : ∀ g ∈ L, g < nf) (hM : MH τ' (recsF τ p a L)) (hl : (recsF τ p a L).length ≤ 16) {Q : Int32 → St → Prop} (q : Q (nI (legsN τ a L)) τ') : w_X11_emptyMinutes τ' Q := by
  have f0 := h.2.2.2.2.1.1
  unfold w_X11_emptyMinutes
  have step1 : ∀ (i n : Nat) (r : Rec) (x : Nat), (recsF τ p a L)[i]? = some r → i < 16 → r.1 = -1 → inR r.2.1 0 7 → inR r.2.2.1 0 7 → w_X11_emptyMinutes_4 Q n (nI x + wayT (τ.1 5) r.2.1 r.2.2.1) (nI i + 1) τ' → w_X11_emptyMinutes_4 Q (n + 1) (nI x) (nI i) τ' := by
    intro i n r x hr hi e u1 u2 k
    have hil := (List.getElem?_eq_some_iff.mp hr).1
    obtain ⟨m1, m2, m3, -⟩ := hM.2 i r hr
    have hv : vp_in (nI i) 16 := vp_in_nI (by omega) (by omega)
    refine bf (by rw [hM.1, nI_leI (by omega) (by omega)]; omega) ⟨hv, ?_⟩
    rw [n_clamp (by omega), m1, m2, m3]
    exact cf e ⟨hv, hv, minsM_w hS u1 u2 k⟩
  have step0 : ∀ (i n : Nat) (r : Rec) (x : Nat), (recsF τ p a L)[i]? = some r → i < 16 → ¬ r.1 = -1 → w_X11_emptyMinutes_4 Q n (nI x) (nI i + 1) τ' → w_X11_emptyMinutes_4 Q (n + 1) (nI x) (nI i) τ' := by
    intro i n r x hr hi e k
    have hil := (List.getElem?_eq_some_iff.mp hr).1
    obtain ⟨m1, -⟩ := hM.2 i r hr
    have hv : vp_in (nI i) 16 := vp_in_nI (by omega) (by omega)
    refine bf (by rw [hM.1, nI_leI (by omega) (by omega)]; omega) ⟨hv, ?_⟩
    rw [n_clamp (by omega), m1]
    refine ct e ?_
    rw [show (0 : Int32) = nI 0 from rfl, nI_add, Nat.add_zero]
    exact k
  have loop : ∀ (B : List Nat) (b : Int32) (i x : Nat), inR b 0 7 → (∀ g ∈ B, g < nf) → (recsF τ p a L).drop i = recsF τ p b B → i ≤ 16 → Q (nI (x + legsN τ b B)) τ' → w_X11_emptyMinutes_4 Q ((recsF τ p b B).length + 1) (nI x) (nI i) τ' := by
    intro B
    induction B with
    | nil =>
      intro b i x hb hB hd hi q
      have hz : recsF τ p b [] = [] := rfl
      rw [hz] at hd ⊢
      have hle : (recsF τ p a L).length ≤ i := List.drop_eq_nil_iff.mp hd
      exact bt (by rw [hM.1]; exact nI_le (by omega) (by omega)) q
    | cons f B ih =>
      intro b i x hb hB hd hi q
      have hf := hB f List.mem_cons_self
      obtain ⟨g1, g2, -⟩ := h.2.2.2.2.1.2.2.2.2.2.2.2.2.2.2.2.2 f hf
      rw [recsF_cons] at hd ⊢
      have hfl : ¬ (recP τ p (f, false, τ.1 10 f)).1 = -1 := m1ne f (by omega)
      have hlb := (legN_eq h hf hb).1
      have hq : legsN τ b (f :: B) = legN τ b f + legsN τ (τ.1 11 f) B := rfl
      rw [hq] at q
      by_cases e : b = τ.1 10 f
      · have e1 : recsF τ p b [f] = [recP τ p (f, false, τ.1 10 f)] := by
          unfold recsF
          rw [mvs_cons, if_pos e]; rfl
        rw [e1] at hd ⊢
        have hz : legN τ b f = 0 := by
          unfold legN legC
          rw [if_pos e]; rfl
        have hr : (recsF τ p a L)[i]? = some (recP τ p (f, false, τ.1 10 f)) := by
          have := congrArg (fun l => l[0]?) hd
          simpa using this
        have hil := (List.getElem?_eq_some_iff.mp hr).1
        refine step0 i _ _ x hr (by omega) hfl ?_
        rw [nI_1]
        refine ih (τ.1 11 f) (i + 1) x g2 (fun g hg => hB g (List.mem_cons_of_mem _ hg)) ?_ (by omega) (by rw [hz, Nat.zero_add] at q; exact q)
        have := congrArg (fun l => l.drop 1) hd
        simpa using this
      · have e1 : recsF τ p b [f] = [recP τ p (f, true, b), recP τ p (f, false, τ.1 10 f)] := by
          unfold recsF
          rw [mvs_cons, if_neg e]; rfl
        rw [e1] at hd ⊢
        have hr : (recsF τ p a L)[i]? = some (recP τ p (f, true, b)) := by
          have := congrArg (fun l => l[0]?) hd
          simpa using this
        have hr2 : (recsF τ p a L)[i + 1]? = some (recP τ p (f, false, τ.1 10 f)) := by
          have := congrArg (fun l => l[1]?) hd
          simpa using this
        have hil := (List.getElem?_eq_some_iff.mp hr2).1
        refine step1 i _ _ x hr (by omega) rfl hb g1 ?_
        have hw : wayT (τ.1 5) b (τ.1 10 f) = nI (legN τ b f) := by
          rw [← hlb]; unfold legC; rw [if_neg e]
        show w_X11_emptyMinutes_4 Q _ (nI x + wayT (τ.1 5) b (τ.1 10 f)) (nI i + 1) τ'
        rw [hw, nI_add, nI_1]
        refine step0 (i + 1) _ _ _ hr2 (by omega) hfl ?_
        rw [nI_1]
        refine ih (τ.1 11 f) (i + 2) (x + legN τ b f) g2 (fun g hg => hB g (List.mem_cons_of_mem _ hg)) ?_ (by omega) (by rw [Nat.add_assoc]; exact q)
        have := congrArg (fun l => l.drop 2) hd
        simpa using this
  exact ⟨_, loop L a 0 0 ha hL rfl (by omega) (by rw [Nat.zero_add]; exact q)⟩
theorem legs_hand (h : RelX G tl np nf ns no σ τ) {p : Nat} (hp : p < np) : ∀ (B A : List Nat), handL (τ.1 12) (τ.1 15) nf (nI p) = A ++ B → legsN τ (endP (τ.1 11) (τ.1 6 p) A) B = (B.map (lgN nf τ)).sum
  | [], A, _ => rfl
  | f :: B, A, e => by
    obtain ⟨g1, g2, g3⟩ := movT_split h hp e
    have p0 := h.2.2.2.1.1
    have nx := legs_hand h hp B (A ++ [f]) (by rw [e, List.append_assoc]; rfl)
    rw [endP_app] at nx
    rw [List.map_cons, List.sum_cons, ← nx]
    show legN τ _ f + _ = lgN nf τ f + _
    have hne : ¬ τ.1 15 f = -1 := by rw [g2]; exact m1ne p (by omega)
    unfold lgN
    rw [if_neg hne, g3]
    rfl
theorem emptyC (h : RelX G tl np nf ns no σ τ) {Q : Int32 → St → Prop} (q : Q (nI (sumN (lgN nf τ) nf)) σ) : w_X6_emptyMinutes σ Q := by
  obtain ⟨f0, f1, f2, f3, f4, f5, f6, f7, f8, f9, f10, f11, f12⟩ := h.2.2.2.2.1
  have r2 := h.2.2.2.2.2.2.2.1.2.2.1
  unfold w_X6_emptyMinutes
  have loop : ∀ k i, i + k = nf → w_X6_emptyMinutes_4 Q (k + 1) (nI (sumN (lgN nf τ) i)) (nI i) σ := by
    intro k
    induction k with
    | zero =>
      intro i hi
      obtain rfl : i = nf := by omega
      unfold w_X6_emptyMinutes_4 w_X1_size
      exact bt (by rw [f1, nI_leI (by omega) (by omega)]; omega) q
    | succ k ih =>
      intro i hi
      have hin : i < nf := by omega
      have nx := ih (i + 1) (by omega)
      rw [sumN, ← nI_add, ← nI_1] at nx
      unfold w_X6_emptyMinutes_4 w_X1_size
      refine bf (by rw [f1, nI_leI (by omega) (by omega)]; omega) (legMin_t h hin (fun y => ?_) (fun y => ?_))
      · rcases r2 i hin with e | ⟨p, hp, e⟩
        · exact absurd e y.1
        · have hl := (legN_eq h hin (plT_in h hp hin e)).1
          have : legMn nf τ i = nI (lgN nf τ i) := by
            unfold lgN
            rw [if_neg y.1, ← hl]
            unfold legC
            rw [if_neg y.2]; rfl
          rw [this]
          exact nx
      · have : lgN nf τ i = 0 := by
          unfold lgN
          by_cases e : τ.1 15 i = -1
          · rw [if_pos e]
          · rw [if_neg e]
            have hpl : plT nf τ i = τ.1 10 i := Classical.byContradiction (fun z => y ⟨e, z⟩)
            unfold legN legC
            rw [if_pos hpl]; rfl
        rw [this] at nx
        exact nx
  exact ⟨nf + 1, loop nf 0 (by omega)⟩
theorem sum_planes (h : RelX G tl np nf ns no σ τ) : sumN (fun p => ((handL (τ.1 12) (τ.1 15) nf (nI p)).map (lgN nf τ)).sum) np = sumN (lgN nf τ) nf := by
  have p0 := h.2.2.2.1.1
  have r2 := h.2.2.2.2.2.2.2.1.2.2.1
  have e1 : ∀ p, ((handL (τ.1 12) (τ.1 15) nf (nI p)).map (lgN nf τ)).sum = sumN (fun f => if τ.1 15 f = nI p then lgN nf τ f else 0) nf := by
    intro p
    unfold handL
    rw [sum_filter, sum_ord]
    refine sumN_congr nf (fun j _ => ?_)
    by_cases e : τ.1 15 j = nI p <;> simp [e]
  rw [sumN_congr np (fun p _ => e1 p), ← sumN_swap (fun p f => if τ.1 15 f = nI p then lgN nf τ f else 0) np nf]
  refine sumN_congr nf (fun f hf => ?_)
  rcases r2 f hf with e | ⟨q, hq, e⟩
  · have hz : lgN nf τ f = 0 := by unfold lgN; rw [if_pos e]
    rw [hz]
    exact sumN_zero np (fun j _ => by split <;> rfl)
  · rw [← sumN_one (v := lgN nf τ f) np hq]
    refine sumN_congr np (fun p hp => ?_)
    have : (τ.1 15 f = nI p) ↔ p = q := by
      rw [e, nI_eq (by omega) (by omega)]
      exact eq_comm
    by_cases z : p = q
    · rw [if_pos z, if_pos (this.mpr z), sumN_one np hq]
    · rw [if_neg z, if_neg (fun y => z (this.mp y))]
theorem emptyM_all (h : RelX G tl np nf ns no σ τ) {Q : Int32 → St → Prop} (q : ∀ τ', SM τ τ' → Q (nI (sumN (lgN nf τ) nf)) τ') : ∃ nn : Nat, w_X11_count_74 Q nn 0 0 τ := by
  obtain ⟨p0, p1, p2, p3, p4, p5, p6, p7⟩ := h.2.2.2.1
  rw [← sum_planes h] at q
  have loop : ∀ (k i : Nat) (τ1 : St), i + k = np → SM τ τ1 → w_X11_count_74 Q (k + 1) (nI (sumN (fun p => ((handL (τ.1 12) (τ.1 15) nf (nI p)).map (lgN nf τ)).sum) i)) (nI i) τ1 := by
    intro k
    induction k with
    | zero =>
      intro i τ1 hi hs
      obtain rfl : i = np := by omega
      exact bt (by rw [hs.2 9 (by omega) (by omega) (by omega) (by omega), p2, nI_leI (by omega) (by omega)]; omega) (q τ1 hs)
    | succ k ih =>
      intro i τ1 hi hs
      have hin : i < np := by omega
      have h1 := h.scratch (SC.rf σ) hs
      refine bf (by rw [hs.2 9 (by omega) (by omega) (by omega) (by omega), p2, nI_leI (by omega) (by omega)]; omega) (handM h1 hin (fun τ2 s2 m2 => ?_))
      have s02 := hs.tr s2
      rw [recP_eq (τ := τ1) i, recP_sm hs] at m2
      have m2' : MH τ2 (recsF τ i (τ.1 6 i) (handL (τ.1 12) (τ.1 15) nf (nI i))) := by
        have := m2
        rw [hs.1 10 (by omega) (by omega), hs.1 11 (by omega) (by omega), hs.1 6 (by omega) (by omega), hs.1 12 (by omega) (by omega), hs.1 15 (by omega) (by omega)] at this
        exact this
      refine emptyM h s02 hin (p7 i hin).1 (fun g hg => (handL_mem.mp hg).1) m2' ?_ ?_
      · have := movT_16 h hin
        unfold movT at this
        unfold recsF
        rw [List.length_map]
        exact this
      · rw [nI_1, nI_add]
        have e := legs_hand h hin (handL (τ.1 12) (τ.1 15) nf (nI i)) [] rfl
        have e' : legsN τ (τ.1 6 i) (handL (τ.1 12) (τ.1 15) nf (nI i)) = ((handL (τ.1 12) (τ.1 15) nf (nI i)).map (lgN nf τ)).sum := e
        rw [e']
        exact ih (i + 1) τ2 (by omega) s02
  exact ⟨np + 1, loop np 0 τ (by omega) (SM.rf τ)⟩
/-- how many are flown -/
def flN (on : Nat → Int32) : Nat → Nat := sumN (fun f => if on f = -1 then 0 else 1)
theorem flownC (h : RelX G tl np nf ns no σ τ) {Q : Int32 → St → Prop} (q : Q (nI (flN (τ.1 15) nf)) σ) : w_X6_flown σ Q := by
  obtain ⟨f0, f1, -⟩ := h.2.2.2.2.1
  have r0 := h.2.2.2.2.2.2.2.1.1
  unfold w_X6_flown
  have loop : ∀ k i, i + k = nf → w_X6_flown_4 Q (k + 1) (nI (flN (τ.1 15) i)) (nI i) σ := by
    intro k
    induction k with
    | zero =>
      intro i hi
      obtain rfl : i = nf := by omega
      unfold w_X6_flown_4 w_X1_size
      exact bt (by rw [f1, nI_leI (by omega) (by omega)]; omega) q
    | succ k ih =>
      intro i hi
      have hin : i < nf := by omega
      have nx := ih (i + 1) (by omega)
      have e : flN (τ.1 15) (i + 1) = flN (τ.1 15) i + (if τ.1 15 i = -1 then 0 else 1) := rfl
      rw [e, ← nI_add, ← nI_1] at nx
      unfold w_X6_flown_4 w_X1_size
      refine bf (by rw [f1, nI_leI (by omega) (by omega)]; omega) (X6_planeOf_t f1 hin f0 ?_)
      rw [r0 i hin]
      refine ⟨fun z => ?_, fun z => ?_⟩
      · rw [if_neg z] at nx; exact nx
      · rw [if_pos z] at nx; exact nx
  exact ⟨nf + 1, loop nf 0 (by omega)⟩
theorem flownM {τ' : St} {on : Nat → Int32} (h14 : τ'.1 0 14 = nI nf) (hn : nf ≤ 20) (h15 : τ'.1 15 = on) {Q : Int32 → St → Prop} (q : Q (nI (flN on nf)) τ') : w_X11_flown τ' Q := by
  unfold w_X11_flown
  have loop : ∀ k i, i + k = nf → w_X11_flown_4 Q (k + 1) (nI (flN on i)) (nI i) τ' := by
    intro k
    induction k with
    | zero =>
      intro i hi
      obtain rfl : i = nf := by omega
      exact bt (by rw [h14, nI_leI (by omega) (by omega)]; omega) q
    | succ k ih =>
      intro i hi
      have hin : i < nf := by omega
      have nx := ih (i + 1) (by omega)
      have e : flN on (i + 1) = flN on i + (if on i = -1 then 0 else 1) := rfl
      rw [e, ← nI_add, ← nI_1] at nx
      refine bf (by rw [h14, nI_leI (by omega) (by omega)]; omega) ⟨vp_in_nI (by omega) (by omega), ?_⟩
      rw [h15, n_clamp (by omega)]
      refine ⟨fun z => ?_, fun z => ?_⟩
      · rw [if_neg z] at nx; exact nx
      · rw [if_pos z] at nx; exact nx
  exact ⟨nf + 1, loop nf 0 (by omega)⟩
end CNT
theorem sim_count (a1 : Int32) {σ τ : St} (h : Rel σ τ) : w_X10_count a1 σ (fun r σ' => w_X11_count a1 τ (fun r' τ' => r = r' ∧ Rel σ' τ')) := by
  have hR := h
  obtain ⟨tl, np, nf, ns, no, h⟩ := h
  obtain ⟨f0, f1, f2, f3, f4, f5, f6, f7, f8, f9, f10, f11, f12⟩ := h.2.2.2.2.1
  unfold w_X10_count w_X11_count
  have nd : ∀ {a b : Int32}, a1 = a → decide (a = b) = false → ¬ a1 = b := fun e d y => absurd (e.symm.trans y) (of_decide_eq_false d)
  refine ⟨fun e => ?_, fun e => ?_, fun e => ?_, fun e => flownC h ?_, fun e => emptyC h ?_, fun e => ?_, fun e => ?_, fun e => ?_, fun e => ?_, fun e => ?_⟩
  · exact ⟨fun _ => ⟨by rw [h.2.2.2.1.2.1, h.2.2.2.1.2.2.1], hR⟩, fun y => absurd y (nd e rfl), fun y => absurd y (nd e rfl), fun y => absurd y (nd e rfl), fun y => absurd y (nd e rfl), fun y => absurd y (nd e rfl), fun y => absurd y (nd e rfl), fun y => absurd y (nd e rfl), fun y => absurd y (nd e rfl), fun y => absurd e y.1⟩
  · exact ⟨fun y => absurd y (nd e rfl), fun _ => ⟨by rw [f1, f2], hR⟩, fun y => absurd y (nd e rfl), fun y => absurd y (nd e rfl), fun y => absurd y (nd e rfl), fun y => absurd y (nd e rfl), fun y => absurd y (nd e rfl), fun y => absurd y (nd e rfl), fun y => absurd y (nd e rfl), fun y => absurd e y.2.1⟩
  · exact ⟨fun y => absurd y (nd e rfl), fun y => absurd y (nd e rfl), fun _ => thereM f2 f0 ⟨f9, hR⟩, fun y => absurd y (nd e rfl), fun y => absurd y (nd e rfl), fun y => absurd y (nd e rfl), fun y => absurd y (nd e rfl), fun y => absurd y (nd e rfl), fun y => absurd y (nd e rfl), fun y => absurd e y.2.2.1⟩
  · exact ⟨fun y => absurd y (nd e rfl), fun y => absurd y (nd e rfl), fun y => absurd y (nd e rfl), fun _ => flownM f2 f0 rfl ⟨rfl, hR⟩, fun y => absurd y (nd e rfl), fun y => absurd y (nd e rfl), fun y => absurd y (nd e rfl), fun y => absurd y (nd e rfl), fun y => absurd y (nd e rfl), fun y => absurd e y.2.2.2.1⟩
  · exact ⟨fun y => absurd y (nd e rfl), fun y => absurd y (nd e rfl), fun y => absurd y (nd e rfl), fun y => absurd y (nd e rfl), fun _ => emptyM_all h (fun τ' s => ⟨rfl, tl, np, nf, ns, no, h.scratch (SC.rf σ) s⟩), fun y => absurd y (nd e rfl), fun y => absurd y (nd e rfl), fun y => absurd y (nd e rfl), fun y => absurd y (nd e rfl), fun y => absurd e y.2.2.2.2.1⟩
  · exact ⟨fun y => absurd y (nd e rfl), fun y => absurd y (nd e rfl), fun y => absurd y (nd e rfl), fun y => absurd y (nd e rfl), fun y => absurd y (nd e rfl), fun _ => ⟨by rw [h.2.2.2.2.2.2.1.2.1, h.2.2.2.2.2.2.1.2.2.1], hR⟩, fun y => absurd y (nd e rfl), fun y => absurd y (nd e rfl), fun y => absurd y (nd e rfl), fun y => absurd e y.2.2.2.2.2.1⟩
  · exact ⟨fun y => absurd y (nd e rfl), fun y => absurd y (nd e rfl), fun y => absurd y (nd e rfl), fun y => absurd y (nd e rfl), fun y => absurd y (nd e rfl), fun y => absurd y (nd e rfl), fun _ => ⟨by rw [h.2.2.2.2.2.2.2.2.1.2.1, h.2.2.2.2.2.2.2.2.1.2.2.1], hR⟩, fun y => absurd y (nd e rfl), fun y => absurd y (nd e rfl), fun y => absurd e y.2.2.2.2.2.2.1⟩
  · exact ⟨fun y => absurd y (nd e rfl), fun y => absurd y (nd e rfl), fun y => absurd y (nd e rfl), fun y => absurd y (nd e rfl), fun y => absurd y (nd e rfl), fun y => absurd y (nd e rfl), fun y => absurd y (nd e rfl), fun _ => ⟨h.2.2.2.2.2.2.2.2.2.1, hR⟩, fun y => absurd y (nd e rfl), fun y => absurd e y.2.2.2.2.2.2.2.1⟩
  · exact ⟨fun y => absurd y (nd e rfl), fun y => absurd y (nd e rfl), fun y => absurd y (nd e rfl), fun y => absurd y (nd e rfl), fun y => absurd y (nd e rfl), fun y => absurd y (nd e rfl), fun y => absurd y (nd e rfl), fun y => absurd y (nd e rfl), fun _ => ⟨by rw [h.1.2.1, h.1.2.2.1], hR⟩, fun y => absurd e y.2.2.2.2.2.2.2.2⟩
  · exact ⟨fun y => absurd y e.1, fun y => absurd y e.2.1, fun y => absurd y e.2.2.1, fun y => absurd y e.2.2.2.1, fun y => absurd y e.2.2.2.2.1, fun y => absurd y e.2.2.2.2.2.1, fun y => absurd y e.2.2.2.2.2.2.1, fun y => absurd y e.2.2.2.2.2.2.2.1, fun y => absurd y e.2.2.2.2.2.2.2.2, fun _ => ⟨rfl, hR⟩⟩
