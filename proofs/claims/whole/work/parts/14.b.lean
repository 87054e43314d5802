/-! ===== the reference: moves of a chain ===== -/
abbrev Rec : Type := Int32 × Int32 × Int32 × Int32 × Int32 × Int32
def mvs (fr to : Nat → Int32) : Int32 → List Nat → List (Nat × Bool × Int32)
  | _, [] => []
  | a, f :: L => if a = fr f then (f, false, fr f) :: mvs fr to (to f) L else (f, true, a) :: (f, false, fr f) :: mvs fr to (to f) L
def wayT (w : Nat → Int32) (a b : Int32) : Int32 := w (8 * a.toNatClampNeg + b.toNatClampNeg)
def recT (w fr to st : Nat → Int32) (tn : Int32) (x : Nat × Bool × Int32) : Rec :=
  if x.2.1 = true then (-1, x.2.2, fr x.1, (st x.1 - tn) - wayT w x.2.2 (fr x.1), st x.1 - tn, nI x.1) else (nI x.1, fr x.1, to x.1, st x.1, st x.1 + wayT w (fr x.1) (to x.1), nI x.1)
def MH (τ : St) (l : List Rec) : Prop := τ.1 0 36 = nI l.length ∧ ∀ i x, l[i]? = some x → τ.1 28 i = x.1 ∧ τ.1 29 i = x.2.1 ∧ τ.1 30 i = x.2.2.1 ∧ τ.1 31 i = x.2.2.2.1 ∧ τ.1 32 i = x.2.2.2.2.1 ∧ τ.1 33 i = x.2.2.2.2.2
def CH (τ τ' : St) : Prop := (∀ k, k ≠ 0 → ¬ (28 ≤ k ∧ k ≤ 33) → τ'.1 k = τ.1 k) ∧ ∀ j, j ≠ 36 → τ'.1 0 j = τ.1 0 j
theorem CH.rf (τ : St) : CH τ τ := ⟨fun _ _ _ => rfl, fun _ _ => rfl⟩
theorem CH.tr {a b c : St} (h1 : CH a b) (h2 : CH b c) : CH a c := ⟨fun k e1 e2 => (h2.1 k e1 e2).trans (h1.1 k e1 e2), fun j e => (h2.2 j e).trans (h1.2 j e)⟩
theorem CH.sm {τ0 a b : St} (h0 : SM τ0 a) (h : CH a b) : SM τ0 b := h0.tr ⟨fun k h1 h2 => h.1 k (by omega) (by omega), fun j e1 e2 e3 e4 => h.2 j e4⟩
theorem CH36 {τ : St} {v : Int32} : CH τ (wr τ 0 36 v) := ⟨fun k h _ => if_neg h, fun j h => upd_ne h⟩
theorem addsM {τ : St} {l : List Rec} {x1 x2 x3 x4 x5 x6 : Int32} {Q : St → Prop} (hM : MH τ l) (hl : l.length < 16) (q : ∀ τ', CH τ τ' → MH τ' (l ++ [(x1, x2, x3, x4, x5, x6)]) → Q τ') : w_X11_adds x1 x2 x3 x4 x5 x6 τ Q := by
  obtain ⟨h0, h1⟩ := hM
  unfold w_X11_adds
  have hv : vp_in (τ.1 0 36) 16 := by rw [h0]; exact vp_in_nI hl (by omega)
  refine ⟨hv, ?_⟩
  rintro s1 e1
  refine ⟨by rw [e1]; exact hv, ?_⟩
  rintro s2 e2
  refine ⟨by rw [e2, e1]; exact hv, ?_⟩
  rintro s3 e3
  refine ⟨by rw [e3, e2, e1]; exact hv, ?_⟩
  rintro s4 e4
  refine ⟨by rw [e4, e3, e2, e1]; exact hv, ?_⟩
  rintro s5 e5
  refine ⟨by rw [e5, e4, e3, e2, e1]; exact hv, ?_⟩
  rintro s6 e6 s7 e7
  have c36 : (τ.1 0 36).toNatClampNeg = l.length := by rw [h0, n_clamp (by omega)]
  have k28 : s7.1 28 = upd (τ.1 28) l.length x1 := by rw [e7, e6, e5, e4, e3, e2, e1, ← c36]; rfl
  have k29 : s7.1 29 = upd (τ.1 29) l.length x2 := by rw [e7, e6, e5, e4, e3, e2, e1, ← c36]; rfl
  have k30 : s7.1 30 = upd (τ.1 30) l.length x3 := by rw [e7, e6, e5, e4, e3, e2, e1, ← c36]; rfl
  have k31 : s7.1 31 = upd (τ.1 31) l.length x4 := by rw [e7, e6, e5, e4, e3, e2, e1, ← c36]; rfl
  have k32 : s7.1 32 = upd (τ.1 32) l.length x5 := by rw [e7, e6, e5, e4, e3, e2, e1, ← c36]; rfl
  have k33 : s7.1 33 = upd (τ.1 33) l.length x6 := by rw [e7, e6, e5, e4, e3, e2, e1, ← c36]; rfl
  have k36 : s7.1 0 36 = nI (l.length + 1) := by rw [e7, e6, e5, e4, e3, e2, e1, ← nI_1, ← h0]; rfl
  have kj : ∀ j, j ≠ 36 → s7.1 0 j = τ.1 0 j := by
    intro j hj
    rw [e7, e6, e5, e4, e3, e2, e1]
    show upd (τ.1 0) 36 _ j = _
    exact upd_ne hj
  have kk : ∀ k, k ≠ 0 → ¬ (28 ≤ k ∧ k ≤ 33) → s7.1 k = τ.1 k := by
    intro k g1 g2
    rw [e7, e6, e5, e4, e3, e2, e1]
    show (if k = 0 then _ else if k = 33 then _ else if k = 32 then _ else if k = 31 then _ else if k = 30 then _ else if k = 29 then _ else if k = 28 then _ else τ.1 k) = _
    rw [if_neg g1, if_neg (by omega), if_neg (by omega), if_neg (by omega), if_neg (by omega), if_neg (by omega), if_neg (by omega)]
  refine q s7 ⟨kk, kj⟩ ⟨by rw [k36, List.length_append]; rfl, fun i x hx => ?_⟩
  rw [k28, k29, k30, k31, k32, k33]
  by_cases hi : i < l.length
  · rw [List.getElem?_append_left hi] at hx
    simp only [upd_ne (show i ≠ l.length by omega)]
    exact h1 i x hx
  · have hil : i = l.length := by
      have := (List.getElem?_eq_some_iff.mp hx).1
      rw [List.length_append] at this
      simp at this
      omega
    subst hil
    rw [List.getElem?_append_right (Nat.le_refl _), Nat.sub_self] at hx
    cases hx
    simp only [upd_eq]
    exact ⟨trivial, trivial, trivial, trivial, trivial, trivial⟩
def pick : List Nat → Nat → List Nat
  | [], _ => []
  | f :: L, S => if S.testBit 0 = true then f :: pick L (S >>> 1) else pick L (S >>> 1)
theorem bit_t : ∀ S, S < 256 → ∀ k, k < 8 → (((nI S >>> (nI k &&& 31)) &&& 1 = 0) ↔ S.testBit k = false) := by decide +kernel
theorem pick_mem {x : Nat} : ∀ (L : List Nat) (S : Nat), x ∈ pick L S → x ∈ L
  | [], S, h => h
  | f :: L, S, h => by
    unfold pick at h
    split at h
    · rcases List.mem_cons.mp h with e | e
      · rw [e]; exact List.mem_cons_self
      · exact List.mem_cons_of_mem _ (pick_mem L _ e)
    · exact List.mem_cons_of_mem _ (pick_mem L _ h)
theorem mvs_len (fr to : Nat → Int32) : ∀ (L : List Nat) (a : Int32), (mvs fr to a L).length ≤ 2 * L.length
  | [], a => by simp [mvs]
  | f :: L, a => by
    unfold mvs
    have := mvs_len fr to L (to f)
    split <;> simp only [List.length_cons] <;> omega
theorem pick_len : ∀ (L : List Nat) (S : Nat), (pick L S).length ≤ L.length
  | [], S => Nat.le_refl _
  | f :: L, S => by
    unfold pick
    have := pick_len L (S >>> 1)
    split <;> simp only [List.length_cons] <;> omega
theorem chainsM {G : Prop} {tl np nf ns no : Nat} {σ τ0 τ : St} {Q : St → Prop} (h : RelX G tl np nf ns no σ τ0) (hS : SM τ0 τ) {row : List Nat} (hrl : row.length ≤ 8) (hrm : ∀ g ∈ row, g < nf) (h34 : τ.1 0 34 = nI row.length) (h27 : ∀ k, k < row.length → τ.1 27 k = nI (row.getD k 0)) {p S : Nat} (hp : p < np) (hSb : S < 256)
    (q : ∀ τ', CH τ τ' → MH τ' ((mvs (τ0.1 10) (τ0.1 11) (τ0.1 6 p) (pick row S)).map (recT (τ0.1 5) (τ0.1 10) (τ0.1 11) (τ0.1 12) (τ0.1 8 p))) → Q τ') : w_X11_chains (nI p) (nI S) τ Q := by
  obtain ⟨-, -, -, ⟨p0, -, -, -, -, -, -, p7⟩, ⟨f0, -, f2, -, -, -, -, -, -, -, -, -, f12⟩, -⟩ := h
  have hv4 : vp_in (nI p) 4 := vp_in_nI (by omega) (by omega)
  unfold w_X11_chains
  rintro _ rfl
  refine ⟨hv4, row.length + 1, ?_⟩
  have PP : ∀ τ', CH τ τ' → ∀ c, 0 < c → c < 27 → τ'.1 c = τ0.1 c := fun τ' hC c h1 h2 => (hC.1 c (by omega) (by omega)).trans (hS.1 c h1 h2)
  have loop : ∀ (L : List Nat) (k : Nat) (a : Int32) (l0 : List Rec) (τ' : St), k + L.length = row.length → row.drop k = L → inR a 0 7 → CH τ τ' → MH τ' l0 → l0.length + 2 * L.length ≤ 16 → (∀ τ2, CH τ τ2 → MH τ2 (l0 ++ (mvs (τ0.1 10) (τ0.1 11) a (pick L (S >>> k))).map (recT (τ0.1 5) (τ0.1 10) (τ0.1 11) (τ0.1 12) (τ0.1 8 p))) → Q τ2) → w_X11_chains_15 Q (L.length + 1) (nI p) (nI S) a (nI k) τ' := by
    intro L
    induction L with
    | nil =>
      intro k a l0 τ' hk hd ha hC hM hlen q
      refine bt ?_ (q τ' hC (by simpa [pick, mvs] using hM))
      rw [hC.2 34 (by omega), h34]
      exact nI_le (by simp at hk; omega) (by simp at hk; omega)
    | cons f L ih =>
      intro k a l0 τ' hk hd ha hC hM hlen q
      rw [List.length_cons] at hk hlen
      have hrk : row[k]? = some f := by
        have := congrArg (fun l => l[0]?) hd
        simpa using this
      have hf : row.getD k 0 = f := by rw [List.getD_eq_getElem?_getD, hrk]; rfl
      have hdn : row.drop (k + 1) = L := by
        have := congrArg (fun l => l.drop 1) hd
        simpa using this
      have hfn : f < nf := hrm f (List.mem_of_getElem? hrk)
      have hb : (S >>> k).testBit 0 = S.testBit k := by rw [Nat.testBit_shiftRight, Nat.add_zero]
      have hsh : S >>> k >>> 1 = S >>> (k + 1) := rfl
      have hbit := bit_t S hSb k (by omega)
      have P := PP τ' hC
      refine bf ?_ ⟨fun z => ?_, fun z => ?_⟩
      · rw [hC.2 34 (by omega), h34]
        rw [nI_leI (by omega) (by omega)]; omega
      · have hbt : S.testBit k = true := by
          cases hh : S.testBit k with
          | true => rfl
          | false => exact absurd (hbit.mpr hh) z
        have hpk : pick (f :: L) (S >>> k) = f :: pick L (S >>> (k + 1)) := by
          show (if (S >>> k).testBit 0 = true then f :: pick L (S >>> k >>> 1) else pick L (S >>> k >>> 1)) = _
          rw [hb, if_pos hbt, hsh]
        rw [hpk] at q
        have e27 : τ'.1 27 (nI k).toNatClampNeg = nI f := by
          rw [n_clamp (by omega), hC.1 27 (by omega) (by omega), h27 k (by omega), hf]
        rw [e27, n_clamp (show f < 2 ^ 31 by omega), n_clamp (show p < 2 ^ 31 by omega), P 12 (by omega) (by omega), P 8 (by omega) (by omega), P 10 (by omega) (by omega)]
        have hvf : vp_in (nI f) 20 := vp_in_nI (by omega) (by omega)
        obtain ⟨g1, g2, -, -, -⟩ := f12 f hfn
        obtain ⟨x, hx, ex⟩ := fld g1
        obtain ⟨y, hy, ey⟩ := fld g2
        have J : ∀ (l1 : List Rec) (τ2 : St), CH τ τ2 → MH τ2 l1 → l1.length + 1 + 2 * L.length ≤ 16 → (∀ τ3, CH τ τ3 → MH τ3 (l1 ++ (recT (τ0.1 5) (τ0.1 10) (τ0.1 11) (τ0.1 12) (τ0.1 8 p) (f, false, τ0.1 10 f)) :: (mvs (τ0.1 10) (τ0.1 11) (τ0.1 11 f) (pick L (S >>> (k + 1)))).map (recT (τ0.1 5) (τ0.1 10) (τ0.1 11) (τ0.1 12) (τ0.1 8 p))) → Q τ3) → w_X11_chains_104 Q (fun x1 x2 x3 x4 σ => w_X11_chains_15 Q (L.length + 1) x1 x2 x3 x4 σ) (nI p) (nI S) (nI k) (nI f) τ2 := by
          intro l1 τ2 hC2 hM2 hl1 q2
          have P2 := PP τ2 hC2
          unfold w_X11_chains_104
          rw [n_clamp (show f < 2 ^ 31 by omega), P2 10 (by omega) (by omega), P2 11 (by omega) (by omega), P2 12 (by omega) (by omega)]
          refine ⟨hvf, hvf, hvf, hvf, hvf, hvf, ?_⟩
          have hm : ∀ Qq : Int32 → St → Prop, Qq (wayT (τ0.1 5) (τ0.1 10 f) (τ0.1 11 f)) τ2 → w_X11_minutes (τ0.1 10 f) (τ0.1 11 f) τ2 Qq := by
            intro Qq hq
            unfold wayT at hq
            rw [ex, ey] at hq ⊢
            rw [n_clamp (by omega), n_clamp (by omega)] at hq
            refine minsM_t hx hy ?_
            rw [P2 5 (by omega) (by omega)]
            exact hq
          refine hm _ (addsM hM2 (by omega) (fun τ3 c3 m3 => ⟨hvf, ?_⟩))
          have hC3 := hC2.tr c3
          rw [PP τ3 hC3 11 (by omega) (by omega), nI_1]
          refine ih (k + 1) (τ0.1 11 f) _ τ3 (by omega) hdn g2 hC3 m3 (by rw [List.length_append]; simp; omega) (fun τ4 c4 m4 => q2 τ4 c4 ?_)
          rw [List.append_assoc] at m4
          exact m4
        refine ⟨vp_in_nI (by omega) (by omega), hvf, hv4, ?_⟩
        rintro v rfl
        refine ⟨hvf, fun e => ?_, fun e => ⟨hvf, hvf, ?_⟩⟩
        · refine J l0 τ' hC hM (by omega) (fun τ3 c3 m3 => q τ3 c3 ?_)
          have em : mvs (τ0.1 10) (τ0.1 11) a (f :: pick L (S >>> (k + 1))) = (f, false, τ0.1 10 f) :: mvs (τ0.1 10) (τ0.1 11) (τ0.1 11 f) (pick L (S >>> (k + 1))) := by
            conv => lhs; unfold mvs
            rw [if_pos e]
          rw [em]
          exact m3
        · obtain ⟨u, hu, eu⟩ := fld ha
          have hm : ∀ Qq : Int32 → St → Prop, Qq (wayT (τ0.1 5) a (τ0.1 10 f)) τ' → w_X11_minutes a (τ0.1 10 f) τ' Qq := by
            intro Qq hq
            unfold wayT at hq
            rw [ex, eu] at hq ⊢
            rw [n_clamp (by omega), n_clamp (by omega)] at hq
            refine minsM_t hu hx ?_
            rw [P 5 (by omega) (by omega)]
            exact hq
          refine hm _ (addsM hM (by omega) (fun τ3 c3 m3 => J _ τ3 (hC.tr c3) m3 (by rw [List.length_append]; simp; omega) (fun τ4 c4 m4 => q τ4 c4 ?_)))
          have em : mvs (τ0.1 10) (τ0.1 11) a (f :: pick L (S >>> (k + 1))) = (f, true, a) :: (f, false, τ0.1 10 f) :: mvs (τ0.1 10) (τ0.1 11) (τ0.1 11 f) (pick L (S >>> (k + 1))) := by
            conv => lhs; unfold mvs
            rw [if_neg e]
          rw [em]
          rw [List.append_assoc] at m4
          exact m4
      · have hbf : S.testBit k = false := hbit.mp z
        have hpk : pick (f :: L) (S >>> k) = pick L (S >>> (k + 1)) := by
          show (if (S >>> k).testBit 0 = true then f :: pick L (S >>> k >>> 1) else pick L (S >>> k >>> 1)) = _
          rw [hb, if_neg (by rw [hbf]; decide), hsh]
        rw [hpk] at q
        rw [nI_1]
        exact ih (k + 1) a l0 τ' (by omega) hdn ha hC hM (by omega) q
  have e6 : (wr τ 0 36 0).1 6 (nI p).toNatClampNeg = τ0.1 6 p := by
    show τ.1 6 _ = _
    rw [hS.1 6 (by omega) (by omega), n_clamp (by omega)]
  rw [e6]
  refine loop row 0 _ [] _ (by omega) rfl (p7 p hp).1 CH36 ⟨rfl, fun i x hx => by simp at hx⟩ (by simp; omega) (fun τ2 c2 m2 => q τ2 c2 ?_)
  exact m2
-- a set of bits out of a list
def setB (P : Nat → Bool) : List Nat → Nat
  | [] => 0
  | f :: L => (if P f = true then 1 else 0) + 2 * setB P L
theorem setB_lt (P : Nat → Bool) : ∀ L : List Nat, setB P L < 2 ^ L.length
  | [] => by simp [setB]
  | f :: L => by
    have := setB_lt P L
    unfold setB
    rw [List.length_cons, Nat.pow_succ]
    split <;> omega
theorem setB_app (P : Nat → Bool) (x : Nat) : ∀ L : List Nat, setB P (L ++ [x]) = setB P L + (if P x = true then 2 ^ L.length else 0)
  | [] => by
    unfold setB setB
    simp
  | f :: L => by
    rw [List.cons_append]
    unfold setB
    rw [setB_app P x L, List.length_cons, Nat.pow_succ]
    split <;> split <;> omega
theorem pick_set (P : Nat → Bool) : ∀ L : List Nat, pick L (setB P L) = L.filter P
  | [] => rfl
  | f :: L => by
    unfold pick setB
    rw [List.filter_cons]
    by_cases h : P f = true
    · rw [if_pos h, if_pos h]
      have e1 : (1 + 2 * setB P L).testBit 0 = true := by rw [Nat.testBit_zero]; simp
      have e2 : (1 + 2 * setB P L) >>> 1 = setB P L := by rw [Nat.shiftRight_eq_div_pow]; omega
      rw [if_pos e1, e2, pick_set P L]
    · rw [if_neg h, if_neg h]
      have e1 : ¬ (0 + 2 * setB P L).testBit 0 = true := by rw [Nat.testBit_zero]; simp
      have e2 : (0 + 2 * setB P L) >>> 1 = setB P L := by rw [Nat.shiftRight_eq_div_pow]; omega
      rw [if_neg e1, e2, pick_set P L]
theorem or_bit : ∀ k, k < 8 → ∀ S, S < 2 ^ k → nI S ||| (1 <<< (nI k &&& 31)) = nI (S + 2 ^ k) := by decide +kernel
theorem or_0 (x : Int32) : x ||| 0 = x := by
  apply Int32.toBitVec_inj.mp
  rw [Int32.toBitVec_or]
  simp
/-- the chain of a plane by the plan at hand -/
def handL (st on : Nat → Int32) (nf : Nat) (p : Int32) : List Nat := (ordL st nf).filter (fun f => decide (on f = p))
theorem handM {G : Prop} {tl np nf ns no : Nat} {σ τ : St} {Q : St → Prop} (h : RelX G tl np nf ns no σ τ) {p : Nat} (hp : p < np)
    (q : ∀ τ', SM τ τ' → MH τ' ((mvs (τ.1 10) (τ.1 11) (τ.1 6 p) (handL (τ.1 12) (τ.1 15) nf (nI p))).map (recT (τ.1 5) (τ.1 10) (τ.1 11) (τ.1 12) (τ.1 8 p))) → Q τ') : w_X11_hand (nI p) τ Q := by
  have hR := h
  obtain ⟨-, -, -, ⟨p0, -⟩, ⟨f0, -, f2, -, -, -, -, -, -, -, f10, -⟩, -, -, ⟨-, -, -, r3⟩, -⟩ := h
  unfold w_X11_hand
  refine ordersM hR (fun τ1 s1 a1 a2 => ?_)
  have hlen : (rowL (τ.1 12) (τ.1 14) nf).length ≤ 8 := by rw [rowL_len]; exact f10
  have hmem : ∀ g ∈ rowL (τ.1 12) (τ.1 14) nf, g < nf := fun g hg => (rowL_mem.mp hg).1
  have hfil : (rowL (τ.1 12) (τ.1 14) nf).filter (fun f => decide (τ.1 15 f = nI p)) = handL (τ.1 12) (τ.1 15) nf (nI p) := by
    unfold handL
    rw [rowL_eq, List.filter_filter]
    refine List.filter_congr (fun x hx => ?_)
    have hx2 := (ordL_mem (τ.1 12) x nf).mp hx
    by_cases e : τ.1 15 x = nI p
    · have hm0 : τ.1 14 x = 0 := by
        refine Classical.byContradiction (fun z => ?_)
        have := r3 x hx2 z
        rw [e] at this
        exact m1ne p (by omega) this
      simp [e, hm0]
    · simp [e]
  generalize rowL (τ.1 12) (τ.1 14) nf = row at hlen hmem hfil a1 a2
  have loop : ∀ (k i : Nat), i + k = row.length → w_X11_hand_8 Q (k + 1) (nI p) (nI (setB (fun f => decide (τ.1 15 f = nI p)) (row.take i))) (nI i) τ1 := by
    intro k
    induction k with
    | zero =>
      intro i hi
      have : row.take i = row := List.take_of_length_le (by omega)
      rw [this]
      have hlt := setB_lt (fun f => decide (τ.1 15 f = nI p)) row
      have h256 : (2 : Nat) ^ row.length ≤ 2 ^ 8 := Nat.pow_le_pow_right (by omega) hlen
      refine bt (by rw [a1, nI_leI (by omega) (by omega)]; omega) (chainsM hR s1 hlen hmem a1 a2 hp (by omega) (fun τ2 c2 m2 => q τ2 (CH.sm s1 c2) ?_))
      rw [pick_set, hfil] at m2
      exact m2
    | succ k ih =>
      intro i hi
      have nx := ih (i + 1) (by omega)
      have hrk : row[i]? = some (row.getD i 0) := by
        rw [List.getD_eq_getElem?_getD, List.getElem?_eq_getElem (by omega)]; rfl
      have htk : row.take (i + 1) = row.take i ++ [row.getD i 0] := by
        rw [List.take_succ, hrk]; rfl
      have hl : (row.take i).length = i := by rw [List.length_take]; omega
      have hg := hmem _ (getD_mem (L := row) (i := i) (by omega))
      rw [htk, setB_app, hl, ← nI_1] at nx
      refine bf (by rw [a1, nI_leI (by omega) (by omega)]; omega) ⟨vp_in_nI (by omega) (by omega), ?_⟩
      rw [n_clamp (by omega), a2 i (by omega), n_clamp (by omega), s1.1 15 (by omega) (by omega)]
      refine ⟨vp_in_nI (by omega) (by omega), fun z => ?_, fun z => ?_⟩
      · rw [if_neg (by simpa using z), Nat.add_zero] at nx
        rw [or_0]; exact nx
      · rw [if_pos (by simpa using z)] at nx
        have hlt := setB_lt (fun f => decide (τ.1 15 f = nI p)) (row.take i)
        rw [hl] at hlt
        rw [or_bit i (by omega) _ hlt]; exact nx
  exact ⟨row.length + 1, loop row.length 0 (by omega)⟩
