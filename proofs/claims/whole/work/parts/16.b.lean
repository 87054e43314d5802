/-! ===== a flight joins a chain; the reference's chain ===== -/
theorem i_sub {x y : Int32} (hx : inR x (-100000) 100000) (hy : inR y (-100000) 100000) : (x - y).toInt = x.toInt - y.toInt := by
  obtain ⟨a, b⟩ := hx
  obtain ⟨c, d⟩ := hy
  exact Jvm.Kit.i32_sub (by omega) (by omega)
theorem i_add {x y : Int32} (hx : inR x (-100000) 100000) (hy : inR y (-100000) 100000) : (x + y).toInt = x.toInt + y.toInt := by
  obtain ⟨a, b⟩ := hx
  obtain ⟨c, d⟩ := hy
  exact Jvm.Kit.i32_add (by omega) (by omega)
theorem inR.wd {x : Int32} {a b c d : Int} (h : inR x a b) (h1 : c ≤ a) (h2 : b ≤ d) : inR x c d := ⟨by have := h.1; omega, by have := h.2; omega⟩
def legC (τ : St) (a : Int32) (f : Nat) : Int32 := if a = τ.1 10 f then 0 else wayT (τ.1 5) a (τ.1 10 f)
def recsF (τ : St) (p : Nat) (a : Int32) (L : List Nat) : List Rec := (mvs (τ.1 10) (τ.1 11) a L).map (recP τ p)
theorem recsF_cons {τ : St} {p : Nat} {a : Int32} {f : Nat} {L : List Nat} : recsF τ p a (f :: L) = recsF τ p a [f] ++ recsF τ p (τ.1 11 f) L := by
  unfold recsF
  rw [mvs_cons, mvs_cons]
  split <;> rfl
theorem recsF_app {τ : St} {p : Nat} : ∀ (A B : List Nat) (a : Int32), recsF τ p a (A ++ B) = recsF τ p a A ++ recsF τ p (endP (τ.1 11) a A) B
  | [], B, a => rfl
  | f :: A, B, a => by
    rw [List.cons_append, recsF_cons, recsF_app A B, ← List.append_assoc, ← recsF_cons]
    rfl
section FIT
variable {G : Prop} {tl np nf ns no : Nat} {σ τ : St}
theorem way_in (h : RelX G tl np nf ns no σ τ) {a b : Int32} (ha : inR a 0 7) (hb : inR b 0 7) : inR (wayT (τ.1 5) a b) 0 600 := by
  rcases way_pos h ha hb with e | ⟨-, e⟩
  · rw [e]; exact ⟨by decide, by decide⟩
  · exact e.wd (by omega) (by omega)
theorem goodR_leg (h : RelX G tl np nf ns no σ τ) {p f : Nat} (hp : p < np) (hf : f < nf) {a : Int32} (ha : inR a 0 7) : goodR nf (recP τ p (f, true, a)) := by
  obtain ⟨g1, g2, g3, g4, g5, g6⟩ := h.2.2.2.2.1.2.2.2.2.2.2.2.2.2.2.2.2 f hf
  obtain ⟨-, -, t1, -⟩ := h.2.2.2.1.2.2.2.2.2.2.2 p hp
  have hw := way_in h ha g1
  refine ⟨ha, g1, Or.inl rfl, ?_⟩
  show ((τ.1 12 f - τ.1 8 p) - wayT (τ.1 5) a (τ.1 10 f)).toInt ≤ (τ.1 12 f - τ.1 8 p).toInt
  have e1 := i_sub (x := τ.1 12 f) (y := τ.1 8 p) (g4.wd (by omega) (by omega)) (t1.wd (by omega) (by omega))
  have e2 : inR (τ.1 12 f - τ.1 8 p) (-100000) 100000 := by
    obtain ⟨a1, a2⟩ := g4
    obtain ⟨b1, b2⟩ := t1
    constructor <;> rw [e1] <;> omega
  rw [i_sub e2 (hw.wd (by omega) (by omega))]
  have := hw.1
  omega
theorem goodR_fl (h : RelX G tl np nf ns no σ τ) {p f : Nat} (hf : f < nf) {a : Int32} : goodR nf (recP τ p (f, false, a)) := by
  obtain ⟨g1, g2, g3, g4, g5, g6⟩ := h.2.2.2.2.1.2.2.2.2.2.2.2.2.2.2.2.2 f hf
  have hw := way_in h g1 g2
  refine ⟨g1, g2, Or.inr ⟨f, hf, rfl⟩, ?_⟩
  show (τ.1 12 f).toInt ≤ (τ.1 12 f + wayT (τ.1 5) (τ.1 10 f) (τ.1 11 f)).toInt
  rw [i_add (g4.wd (by omega) (by omega)) (hw.wd (by omega) (by omega))]
  have := hw.1
  omega
theorem goodR_all (h : RelX G tl np nf ns no σ τ) {p : Nat} (hp : p < np) : ∀ (L : List Nat) (a : Int32), inR a 0 7 → (∀ g ∈ L, g < nf) → ∀ r ∈ recsF τ p a L, goodR nf r
  | [], a, _, _ => fun r hr => by simp [recsF, mvs] at hr
  | f :: L, a, ha, hL => by
    intro r hr
    have hf := hL f List.mem_cons_self
    have g2 := (h.2.2.2.2.1.2.2.2.2.2.2.2.2.2.2.2.2 f hf).2.1
    rw [recsF_cons] at hr
    rcases List.mem_append.mp hr with hr | hr
    · unfold recsF at hr
      rw [mvs_cons] at hr
      split at hr
      · rw [List.map_cons, List.mem_cons] at hr
        rcases hr with e | e
        · rw [e]; exact goodR_fl h hf
        · simp [mvs] at e
      · rw [List.map_cons, List.map_cons, List.mem_cons, List.mem_cons] at hr
        rcases hr with e | e | e
        · rw [e]; exact goodR_leg h hp hf ha
        · rw [e]; exact goodR_fl h hf
        · simp [mvs] at e
    · exact goodR_all h hp L _ g2 (fun g hg => hL g (List.mem_cons_of_mem _ hg)) r hr
theorem okM_go {p : Nat} {s : Int32 × Int32} {r : Rec} (hw : wayT (τ.1 5) r.2.1 r.2.2.1 ≠ 0) (hs : r.1 = -1 ∨ τ.1 13 r.1.toNatClampNeg ≤ τ.1 7 p) : okM ns τ p s r ↔ goM ns τ p s r := by
  unfold okM goM
  constructor
  · rintro ⟨-, h2, h3, -, h5⟩; exact ⟨h2, h3, h5⟩
  · rintro ⟨h2, h3, h5⟩; exact ⟨hw, h2, h3, hs, h5⟩
theorem nxD_in {s : Int32 × Int32} {r : Rec} (hd : s.1 = -1 ∨ inR s.1 0 10079) (h1 : ¬ r.2.2.2.1 < 0) (h2 : r.2.2.2.2.1 < 10080) (h3 : r.2.2.2.1.toInt ≤ r.2.2.2.2.1.toInt) : inR (nxD τ s r) 0 10079 := by
  have hb : inR r.2.2.2.1 0 10079 := by
    rw [i_lt, show (0 : Int32).toInt = 0 from rfl] at h1
    rw [i_lt, show (10080 : Int32).toInt = 10080 from rfl] at h2
    exact ⟨by omega, by omega⟩
  unfold nxD
  split
  · exact hb
  · rename_i z
    split
    · exact hd.elim (fun y => absurd y z) id
    · exact hb
/-- the class joins flight f -/
theorem join_t (h : RelX G tl np nf ns no σ τ) {p f : Nat} (hp : p < np) (hf : f < nf) (hc : τ.1 14 f = 0) {a : Int32} {s : Int32 × Int32} (h5 : σ.1 8 5 = τ.1 7 p) (h6 : σ.1 8 6 = τ.1 8 p) (h7 : σ.1 8 7 = a) (ha : inR a 0 7) (h8 : σ.1 8 8 = s.2) (h9 : σ.1 8 9 = s.1) (hd : s.1 = -1 ∨ inR s.1 0 10079) {Q : Int32 → St → Prop}
    (q1 : fitL ns τ p s (recsF τ p a [f]) → inR (finL τ s (recsF τ p a [f])).1 0 10079 → ∀ σ', SC8 σ σ' → σ'.1 8 7 = τ.1 11 f → σ'.1 8 8 = (finL τ s (recsF τ p a [f])).2 → σ'.1 8 9 = (finL τ s (recsF τ p a [f])).1 → Q (legC τ a f) σ') (q0 : ¬ fitL ns τ p s (recsF τ p a [f]) → ∀ σ', SC8 σ σ' → Q (-1) σ') : w_X0_join (nI f) σ Q := by
  obtain ⟨f0, f1, f2, f3, f4, f5, f6, f7, f8, f9, f10, f11, f12⟩ := h.2.2.2.2.1
  obtain ⟨g1, g2, g3, g4, g5, g6⟩ := f12 f hf
  have hfw := (flown_way h hf hc).2
  have gf := goodR_fl (p := p) (a := τ.1 10 f) h hf
  have gl := goodR_leg h hp hf ha
  have seat : (recP τ p (f, false, τ.1 10 f)).1.toNatClampNeg = f := n_clamp (by omega)
  have e1 : a = τ.1 10 f → recsF τ p a [f] = [recP τ p (f, false, τ.1 10 f)] := fun e => by
    unfold recsF
    rw [mvs_cons, if_pos e]; rfl
  have e2 : ¬ a = τ.1 10 f → recsF τ p a [f] = [recP τ p (f, true, a), recP τ p (f, false, τ.1 10 f)] := fun e => by
    unfold recsF
    rw [mvs_cons, if_neg e]; rfl
  -- the flight itself
  have J90 : ∀ (σ1 : St) (s1 : Int32 × Int32) (v : Int32), SC8 σ σ1 → σ1.1 8 7 = τ.1 10 f → σ1.1 8 8 = s1.2 → σ1.1 8 9 = s1.1 → (s1.1 = -1 ∨ inR s1.1 0 10079) → (goM ns τ p s1 (recP τ p (f, false, τ.1 10 f)) → inR (nxD τ s1 (recP τ p (f, false, τ.1 10 f))) 0 10079 → ∀ σ', SC8 σ σ' → σ'.1 8 7 = τ.1 11 f → σ'.1 8 8 = (nxt τ s1 (recP τ p (f, false, τ.1 10 f))).2 → σ'.1 8 9 = (nxt τ s1 (recP τ p (f, false, τ.1 10 f))).1 → Q v σ') → (¬ goM ns τ p s1 (recP τ p (f, false, τ.1 10 f)) → ∀ σ', SC8 σ σ' → Q (-1) σ') → w_X0_join_90 Q (nI f) (τ.1 10 f) (τ.1 12 f) v σ1 := by
    intro σ1 s1 v c1 k7 k8 k9 kd r1 r0
    have h1 := h.c8 c1
    unfold w_X0_join_90
    refine X1_toOf_t (n := nf) h1.2.2.2.2.1.2.1 hf f0 ?_
    rw [h1.2.2.2.2.1.2.2.2.2.1]
    refine mins_w h1 g1 g2 ?_
    refine goes_t (r := recP τ p (f, false, τ.1 10 f)) (p := p) (s := s1) h1 gf.2.2.2 (by rw [c1.2.2.2]; exact h6) k7 k8 k9 kd (fun y hin σ' c2 w7 w8 w9 => bf n10 (r1 y hin σ' (c1.tr c2) w7 w8 w9)) (fun y σ' c2 => bt rfl (r0 y σ' (c1.tr c2)))
  unfold w_X0_join
  refine X1_seatsOf_t f1 hf f0 ?_
  rw [f6, h5]
  refine ⟨fun hs => X1_fromOf_t f1 hf f0 (X1_startOf_t f1 hf f0 ?_), fun hs => q0 (fun g => hs ?_) σ (SC8.rf σ)⟩
  · rw [f3, f5, h7]
    have okf : ∀ s1, okM ns τ p s1 (recP τ p (f, false, τ.1 10 f)) ↔ goM ns τ p s1 (recP τ p (f, false, τ.1 10 f)) := fun s1 => okM_go hfw (Or.inr (by rw [seat]; exact hs))
    refine ⟨fun e => ?_, fun e => ?_⟩
    · have el : legC τ a f = 0 := if_pos e
      rw [e1 e] at q1 q0
      rw [el] at q1
      refine J90 σ s 0 (SC8.rf σ) (h7.trans e) h8 h9 hd (fun y hin σ' c2 w7 w8 w9 => q1 ⟨(okf s).mpr y, trivial⟩ hin σ' c2 w7 w8 w9) (fun y σ' c2 => q0 (fun g => y ((okf s).mp g.1)) σ' c2)
    · have el : legC τ a f = wayT (τ.1 5) a (τ.1 10 f) := if_neg e
      rw [e2 e] at q1 q0
      rw [el] at q1
      refine mins_w h ha g1 ⟨fun z => q0 (fun g => g.1.1 z) σ (SC8.rf σ), fun z => ?_⟩
      have okl : okM ns τ p s (recP τ p (f, true, a)) ↔ goM ns τ p s (recP τ p (f, true, a)) := okM_go z (Or.inl rfl)
      rw [h6]
      refine goes_t (r := recP τ p (f, true, a)) (p := p) (s := s) h gl.2.2.2 h6 h7 h8 h9 hd (fun y hin σ1 c1 w7 w8 w9 => ct n10 ?_) (fun y σ1 c1 => cf rfl (q0 (fun g => y (okl.mp g.1)) σ1 c1))
      refine J90 σ1 (nxt τ s (recP τ p (f, true, a))) _ c1 w7 w8 w9 (Or.inr hin) (fun y2 hin2 σ' c2 v7 v8 v9 => q1 ⟨okl.mpr y, (okf _).mpr y2, trivial⟩ hin2 σ' c2 v7 v8 v9) (fun y2 σ' c2 => q0 (fun g => y2 ((okf _).mp g.2.1)) σ' c2)
  · have key : ∀ s1, okM ns τ p s1 (recP τ p (f, false, τ.1 10 f)) → τ.1 13 f ≤ τ.1 7 p := by
      intro s1 g
      have := g.2.2.2.1
      rw [seat] at this
      exact this.elim (fun z => absurd z (m1ne f (by omega))) id
    by_cases e : a = τ.1 10 f
    · rw [e1 e] at g; exact key _ g.1
    · rw [e2 e] at g; exact key _ g.2.1
theorem legC_ne (h : RelX G tl np nf ns no σ τ) {f : Nat} (hf : f < nf) {a : Int32} (ha : inR a 0 7) : inR (legC τ a f) 0 600 ∧ ¬ legC τ a f = -1 := by
  obtain ⟨g1, -⟩ := h.2.2.2.2.1.2.2.2.2.2.2.2.2.2.2.2.2 f hf
  have : inR (legC τ a f) 0 600 := by
    unfold legC
    split
    · exact ⟨by decide, by decide⟩
    · exact way_in h ha g1
  refine ⟨this, fun e => ?_⟩
  rw [e] at this
  exact absurd this.1 (by decide)
/-- the reference's chain in the arrays -/
theorem holds_t (h : RelX G tl np nf ns no σ τ) {τ' : St} (hS : SM τ τ') {p : Nat} (hp : p < np) {l : List Rec} (hM : MH τ' l) (hl : l.length ≤ 16) (hg : ∀ r ∈ l, goodR nf r) {Q : Int32 → St → Prop} (q1 : fitL ns τ p (-1, 0) l → Q 1 τ') (q0 : ¬ fitL ns τ p (-1, 0) l → Q 0 τ') : w_X11_holds (nI p) τ' Q := by
  have f0 := h.2.2.2.2.1.1
  have p0 := h.2.2.2.1.1
  have hvp : vp_in (nI p) 4 := vp_in_nI (by omega) (by omega)
  have ecp := n_clamp (show p < 2 ^ 31 by omega)
  unfold w_X11_holds
  have loop : ∀ (L : List Rec) (i fi : Nat) (s : Int32 × Int32), i + L.length = l.length → l.drop i = L → ((i = 0 ∧ fi = 0 ∧ s = (-1, 0)) ∨ (0 < i ∧ fi < i ∧ inR s.1 0 10079 ∧ τ'.1 31 fi = s.1 ∧ τ'.1 32 (i - 1) = s.2)) → (fitL ns τ p s L → Q 1 τ') → (¬ fitL ns τ p s L → Q 0 τ') → w_X11_holds_4 Q (L.length + 1) (nI p) (nI fi) (nI i) τ' := by
    intro L
    induction L with
    | nil =>
      intro i fi s hi hd hinv q1 q0
      refine bt ?_ (q1 trivial)
      rw [hM.1]
      exact nI_le (by simp at hi; omega) (by simp at hi; omega)
    | cons r L ih =>
      intro i fi s hi hd hinv q1 q0
      rw [List.length_cons] at hi
      have hr : l[i]? = some r := by
        have := congrArg (fun l => l[0]?) hd
        simpa using this
      have hdn : l.drop (i + 1) = L := by
        have := congrArg (fun l => l.drop 1) hd
        simpa using this
      obtain ⟨m1, m2, m3, m4, m5, m6⟩ := hM.2 i r hr
      obtain ⟨u1, u2, u3, u4⟩ := hg r (List.mem_of_getElem? hr)
      have hvi : vp_in (nI i) 16 := vp_in_nI (by omega) (by omega)
      have hvf : vp_in (nI fi) 16 := vp_in_nI (by rcases hinv with z | z <;> omega) (by rcases hinv with z | z <;> omega)
      have eci := n_clamp (show i < 2 ^ 31 by omega)
      have ecf := n_clamp (show fi < 2 ^ 31 by rcases hinv with z | z <;> omega)
      have hd1 : s.1 = -1 ∨ inR s.1 0 10079 := hinv.elim (fun z => Or.inl (by rw [z.2.2])) (fun z => Or.inr z.2.2.1)
      have i0 : nI i ≤ 0 ↔ i = 0 := by rw [show (0 : Int32) = nI 0 from rfl, nI_leI (by omega) (by omega)]; omega
      have s1m : 0 < i → ¬ s.1 = -1 := fun hpos => by
        rcases hinv with z | z
        · omega
        · intro e; have := z.2.2.1.1; rw [e] at this; exact absurd this (by decide)
      have s1z : i = 0 → s.1 = -1 := fun hz => by
        rcases hinv with z | z
        · rw [z.2.2]
        · omega
      have J194 : ∀ fj : Nat, fj ≤ i → τ'.1 31 fj = nxD τ s r → (¬ r.2.2.2.1 < 0 ∧ r.2.2.2.2.1 < 10080) → (r.2.2.2.2.1 - nxD τ s r ≤ dutyL τ (nxD τ s r) → okM ns τ p s r) → w_X11_holds_194 Q (fun x1 x2 x3 σ => w_X11_holds_4 Q (L.length + 1) x1 x2 x3 σ) (nI p) (nI fj) (nI i) τ' := by
        intro fj hfj e31 hb hok
        have hin := nxD_in (τ := τ) hd1 hb.1 hb.2 u4
        unfold w_X11_holds_194
        have ecj := n_clamp (show fj < 2 ^ 31 by omega)
        have hvj : vp_in (nI fj) 16 := vp_in_nI (by omega) (by omega)
        rw [ecj, eci, e31, m5]
        refine ⟨hvi, hvj, hvj, dutyM h hS hin ⟨fun y => ?_, fun y => q0 (fun g => y g.1.2.2.2.2.2.2.2)⟩⟩
        rw [nI_1]
        refine ih (i + 1) fj (nxt τ s r) (by omega) hdn (Or.inr ⟨by omega, by omega, hin, e31, m5⟩) (fun g => q1 ⟨hok y, g⟩) (fun g => q0 (fun g2 => g g2.2))
      have J116 : (wayT (τ.1 5) r.2.1 r.2.2.1 ≠ 0 ∧ ¬ r.2.2.2.1 < 0 ∧ r.2.2.2.2.1 < 10080 ∧ (r.1 = -1 ∨ τ.1 13 r.1.toNatClampNeg ≤ τ.1 7 p) ∧ (s.1 = -1 ∨ s.2 + τ.1 8 p ≤ r.2.2.2.1)) → w_X11_holds_116 Q (fun x1 x2 x3 σ => w_X11_holds_4 Q (L.length + 1) x1 x2 x3 σ) (nI p) (nI fi) (nI i) τ' := by
        intro hc
        unfold w_X11_holds_116
        rw [eci, m2, m4]
        refine ⟨hvi, hvi, isStorm_t h hS (fun y => ct n10 (q0 (fun g => ?_))) (fun y => cf rfl ⟨hvi, hvi, ?_⟩)⟩
        · have := g.1.2.2.2.2.2.1; rw [y] at this; cases this
        · rw [m3, m5]
          refine isStorm_t h hS (fun y2 => bf n10 (q0 (fun g => ?_))) (fun y2 => bt rfl ?_)
          · have := g.1.2.2.2.2.2.2.1; rw [y2] at this; cases this
          · have hok : r.2.2.2.2.1 - nxD τ s r ≤ dutyL τ (nxD τ s r) → okM ns τ p s r := fun y3 => ⟨hc.1, hc.2.1, hc.2.2.1, hc.2.2.2.1, hc.2.2.2.2, y, y2, y3⟩
            refine ⟨fun z => ?_, fun z => ?_⟩
            · have hz := i0.mp z
              have hnx : nxD τ s r = r.2.2.2.1 := if_pos (s1z hz)
              have hfi : fi = i := by rcases hinv with w | w <;> omega
              rw [hfi]
              exact J194 i (Nat.le_refl i) (by rw [hnx]; exact m4) ⟨hc.2.1, hc.2.2.1⟩ hok
            · have hpos : 0 < i := by rcases Nat.eq_zero_or_pos i with w | w; exact absurd (i0.mpr w) z; exact w
              rcases hinv with w | ⟨-, w2, w3, w4, w5⟩
              · omega
              · have e1 : nI i - 1 = nI (i - 1) := by
                  conv => lhs; rw [show i = (i - 1) + 1 by omega]
                  exact nI_pred _
                rw [e1, n_clamp (show i - 1 < 2 ^ 31 by omega), ecf, w4, w5, m4]
                refine ⟨hvi, vp_in_nI (by omega) (by omega), hvf, restM h hS w3 ⟨fun y3 => ?_, fun y3 => ?_⟩⟩
                · have hnx : nxD τ s r = s.1 := by
                    unfold nxD
                    rw [if_neg (s1m hpos), if_pos y3]
                  exact J194 fi (by omega) (by rw [hnx]; exact w4) ⟨hc.2.1, hc.2.2.1⟩ hok
                · have hnx : nxD τ s r = r.2.2.2.1 := by
                    unfold nxD
                    rw [if_neg (s1m hpos), if_neg y3]
                  exact J194 i (Nat.le_refl i) (by rw [hnx]; exact m4) ⟨hc.2.1, hc.2.2.1⟩ hok
      have J86 : (wayT (τ.1 5) r.2.1 r.2.2.1 ≠ 0 ∧ ¬ r.2.2.2.1 < 0 ∧ r.2.2.2.2.1 < 10080 ∧ (r.1 = -1 ∨ τ.1 13 r.1.toNatClampNeg ≤ τ.1 7 p)) → w_X11_holds_86 Q (fun x1 x2 x3 σ => w_X11_holds_4 Q (L.length + 1) x1 x2 x3 σ) (nI p) (nI fi) (nI i) τ' := by
        intro hc
        unfold w_X11_holds_86
        refine ⟨fun z => J116 ⟨hc.1, hc.2.1, hc.2.2.1, hc.2.2.2, Or.inl (s1z (i0.mp z))⟩, fun z => ?_⟩
        have hpos : 0 < i := by rcases Nat.eq_zero_or_pos i with w | w; exact absurd (i0.mpr w) z; exact w
        rcases hinv with w | ⟨-, w2, w3, w4, w5⟩
        · omega
        · have e1 : nI i - 1 = nI (i - 1) := by
            conv => lhs; rw [show i = (i - 1) + 1 by omega]
            exact nI_pred _
          rw [e1, n_clamp (show i - 1 < 2 ^ 31 by omega), eci, ecp, w5, m4, hS.1 8 (by omega) (by omega)]
          exact ⟨hvi, vp_in_nI (by omega) (by omega), hvp, fun y => J116 ⟨hc.1, hc.2.1, hc.2.2.1, hc.2.2.2, Or.inr y⟩, fun y => q0 (fun g => g.1.2.2.2.2.1.elim (s1m hpos) y)⟩
      refine bf (by rw [hM.1, nI_leI (by omega) (by omega)]; omega) ⟨hvi, hvi, ?_⟩
      rw [eci, m2, m3]
      refine minsM_w hS u1 u2 ⟨fun z => q0 (fun g => g.1.1 z), fun z => ⟨hvi, ?_⟩⟩
      rw [m4]
      refine ⟨fun z2 => q0 (fun g => g.1.2.1 z2), fun z2 => ⟨hvi, ?_⟩⟩
      rw [m5]
      refine ⟨fun z3 => ⟨hvi, ?_⟩, fun z3 => q0 (fun g => z3 g.1.2.2.1)⟩
      rw [m1]
      refine ⟨fun z4 => J86 ⟨z, z2, z3, Or.inl z4⟩, fun z4 => ⟨hvi, ?_⟩⟩
      obtain ⟨f, hf, ef⟩ := u3.elim (fun w => absurd w z4) id
      rw [ecp, hS.1 13 (by omega) (by omega), hS.1 7 (by omega) (by omega)]
      exact ⟨by rw [ef]; exact vp_in_nI (by omega) (by omega), hvp, fun z5 => J86 ⟨z, z2, z3, Or.inr z5⟩, fun z5 => q0 (fun g => g.1.2.2.2.1.elim z4 z5)⟩
  exact ⟨l.length + 1, loop l 0 0 (-1, 0) (by omega) rfl (Or.inl ⟨rfl, rfl, rfl⟩) q1 q0⟩
end FIT
