/-! ===== base: the state of an object's cells, the layout, the world, the rows over it ===== -/
abbrev St : Type := (Nat → Nat → Int32) × (Nat → Nat → Int64)
abbrev Fdx : Type := Nat ⊕ Bool
abbrev Lay : Type := (Nat × Nat) ⊕ (Nat × List Fdx)
def wr (σ : St) (k j : Nat) (v : Int32) : St := (fun a => if a = k then upd (σ.1 a) j v else σ.1 a, σ.2)
def wl (σ : St) (k j : Nat) (v : Int64) : St := (σ.1, fun a => if a = k then vp_updL (σ.2 a) j v else σ.2 a)
def fval (q : Nat → Nat) (σ : St) (k j : Nat) (f : Fdx) : Value := match f with
  | .inl a => .ref (q a)
  | .inr false => .int (σ.1 k j)
  | .inr true => .long (σ.2 k j)
def cval (cs : Nat → ClassId) (q : Nat → Nat) (σ : St) (k : Nat) (x : Lay) : va_E := match x with
  | .inl (t, n) => .inl (cs t, n, if t = 3 then .inr (.inl (σ.2 k)) else .inl (σ.1 k))
  | .inr (ci, fs) => .inr (ci, fs.mapIdx (fun j f => fval q σ k j f))
def wd (cs : Nat → ClassId) (L : List Lay) (q : Nat → Nat) (σ : St) : va_W := L.mapIdx (fun k x => (q k, cval cs q σ k x))
theorem wd_at {cs : Nat → ClassId} {L : List Lay} {q : Nat → Nat} {σ : St} {k : Nat} {x : Lay} (h : L[k]? = some x) : (wd cs L q σ)[k]? = some (q k, cval cs q σ k x) := by
  unfold wd
  rw [List.getElem?_mapIdx, h]
  rfl
theorem wd_inv {cs : Nat → ClassId} {L : List Lay} {q : Nat → Nat} {σ : St} {k : Nat} {e : Nat × va_E} (h : (wd cs L q σ)[k]? = some e) : ∃ x, L[k]? = some x ∧ e = (q k, cval cs q σ k x) := by
  unfold wd at h
  rw [List.getElem?_mapIdx] at h
  cases hx : L[k]? with
  | none => rw [hx] at h; cases h
  | some x => rw [hx] at h; exact ⟨x, rfl, (Option.some.inj h).symm⟩
theorem wd_set {cs : Nat → ClassId} {L : List Lay} {q : Nat → Nat} {σ σ' : St} {k : Nat} {x0 : Lay} {e : va_E} (hk : L[k]? = some x0) (hself : cval cs q σ' k x0 = e) (hoth : ∀ (j : Nat) (x : Lay), j ≠ k → cval cs q σ' j x = cval cs q σ j x) : (wd cs L q σ).set k (q k, e) = wd cs L q σ' := by
  apply List.ext_getElem?
  intro j
  rw [List.getElem?_set]
  by_cases hj : k = j
  · subst hj
    have hl : k < (wd cs L q σ).length := by
      have := (List.getElem?_eq_some_iff.mp (wd_at (cs := cs) (q := q) (σ := σ) hk)).1
      exact this
    rw [if_pos rfl, if_pos hl, wd_at hk, hself]
  · rw [if_neg hj]
    cases hx : L[j]? with
    | none =>
      unfold wd
      rw [List.getElem?_mapIdx, List.getElem?_mapIdx, hx]
      rfl
    | some x => rw [wd_at hx, wd_at hx, hoth j x (fun h => hj h.symm)]
theorem cval_wr {cs : Nat → ClassId} {q : Nat → Nat} {σ : St} {k j : Nat} {v : Int32} (a : Nat) (x : Lay) (h : a ≠ k) : cval cs q (wr σ k j v) a x = cval cs q σ a x := by
  have e1 : (wr σ k j v).1 a = σ.1 a := if_neg h
  have e2 : (wr σ k j v).2 = σ.2 := rfl
  rcases x with ⟨t, n⟩ | ⟨ci, fs⟩
  · simp only [cval, e1, e2]
  · simp only [cval]
    refine congrArg (fun z => Sum.inr (ci, z)) (congrArg (fun g => List.mapIdx g fs) ?_)
    funext i f
    rcases f with f | f | f <;> simp only [fval, e1, e2]
theorem cval_wl {cs : Nat → ClassId} {q : Nat → Nat} {σ : St} {k j : Nat} {v : Int64} (a : Nat) (x : Lay) (h : a ≠ k) : cval cs q (wl σ k j v) a x = cval cs q σ a x := by
  have e1 : (wl σ k j v).2 a = σ.2 a := if_neg h
  have e2 : (wl σ k j v).1 = σ.1 := rfl
  rcases x with ⟨t, n⟩ | ⟨ci, fs⟩
  · simp only [cval, e1, e2]
  · simp only [cval]
    refine congrArg (fun z => Sum.inr (ci, z)) (congrArg (fun g => List.mapIdx g fs) ?_)
    funext i f
    rcases f with f | f | f <;> simp only [fval, e1, e2]
theorem wr_self (σ : St) (k j : Nat) (v : Int32) : (wr σ k j v).1 k = upd (σ.1 k) j v := if_pos rfl
theorem wl_self (σ : St) (k j : Nat) (v : Int64) : (wl σ k j v).2 k = vp_updL (σ.2 k) j v := if_pos rfl
theorem wd_puti {cs : Nat → ClassId} {L : List Lay} {q : Nat → Nat} {σ : St} {k ci j : Nat} {fs : List Fdx} {v : Int32} (hL : L[k]? = some (.inr (ci, fs))) (hf : fs[j]? = some (.inr false)) : (wd cs L q σ).set k (q k, .inr (ci, (fs.mapIdx (fun j f => fval q σ k j f)).set j (.int v))) = wd cs L q (wr σ k j v) := by
  refine wd_set hL ?_ (fun a x h => cval_wr a x h)
  simp only [cval]
  congr 2
  apply List.ext_getElem?
  intro i
  rw [List.getElem?_set, List.getElem?_mapIdx, List.getElem?_mapIdx, List.length_mapIdx]
  by_cases hi : j = i
  · subst hi
    have hl := (List.getElem?_eq_some_iff.mp hf).1
    rw [if_pos rfl, if_pos hl, hf]
    simp [fval, wr, upd]
  · rw [if_neg hi]
    cases hx : fs[i]? with
    | none => rfl
    | some f =>
      rcases f with f | f | f <;> simp only [Option.map_some, fval, wr, upd, if_true, if_neg (fun h : i = j => hi h.symm)]
theorem wd_putl {cs : Nat → ClassId} {L : List Lay} {q : Nat → Nat} {σ : St} {k ci j : Nat} {fs : List Fdx} {v : Int64} (hL : L[k]? = some (.inr (ci, fs))) (hf : fs[j]? = some (.inr true)) : (wd cs L q σ).set k (q k, .inr (ci, (fs.mapIdx (fun j f => fval q σ k j f)).set j (.long v))) = wd cs L q (wl σ k j v) := by
  refine wd_set hL ?_ (fun a x h => cval_wl a x h)
  simp only [cval]
  congr 2
  apply List.ext_getElem?
  intro i
  rw [List.getElem?_set, List.getElem?_mapIdx, List.getElem?_mapIdx, List.length_mapIdx]
  by_cases hi : j = i
  · subst hi
    have hl := (List.getElem?_eq_some_iff.mp hf).1
    rw [if_pos rfl, if_pos hl, hf]
    simp [fval, wl, vp_updL]
  · rw [if_neg hi]
    cases hx : fs[i]? with
    | none => rfl
    | some f =>
      rcases f with f | f | f <;> simp only [Option.map_some, fval, wl, vp_updL, if_true, if_neg (fun h : i = j => hi h.symm)]
theorem wd_sti {cs : Nat → ClassId} {L : List Lay} {q : Nat → Nat} {σ : St} {k t n i : Nat} {v : Int32} (hL : L[k]? = some (.inl (t, n))) (ht : t ≠ 3) : (wd cs L q σ).set k (q k, .inl (cs t, n, .inl (upd (σ.1 k) i v))) = wd cs L q (wr σ k i v) :=
  wd_set hL (by simp only [cval, if_neg ht, wr_self]) (fun a x h => cval_wr a x h)
theorem wd_stl {cs : Nat → ClassId} {L : List Lay} {q : Nat → Nat} {σ : St} {k n i : Nat} {v : Int64} (hL : L[k]? = some (.inl (3, n))) : (wd cs L q σ).set k (q k, .inl (cs 3, n, .inr (.inl (vp_updL (σ.2 k) i v)))) = wd cs L q (wl σ k i v) :=
  wd_set hL (by simp only [cval, if_true, wl_self]) (fun a x h => cval_wl a x h)
theorem wd_D {cs : Nat → ClassId} {L : List Lay} {q : Nat → Nat} {σ σ' : St} {A : Nat → Prop} (h : va_D A (wd cs L q σ)) : va_D A (wd cs L q σ') := by
  refine ⟨fun i j a b hi hj hab => ?_, fun k a hk => ?_⟩
  · obtain ⟨x, hx, rfl⟩ := wd_inv hi
    obtain ⟨y, hy, rfl⟩ := wd_inv hj
    exact h.1 i j _ _ (wd_at hx) (wd_at hy) hab
  · obtain ⟨x, hx, rfl⟩ := wd_inv hk
    exact h.2 k (q k, cval cs q σ k x) (wd_at hx)
def tys (cs : Nat → ClassId) : List (ClassId × FieldType) := [(cs 0, .int), (cs 1, .boolean), (cs 2, .byte), (cs 3, .long)]
/-- the addresses of a world, and all from sz on -/
def Ar (L : List Lay) (q : Nat → Nat) (sz : Nat) : Nat → Prop := fun a => (∃ k, k < L.length ∧ a = q k) ∨ sz ≤ a
theorem Ar_D {cs : Nat → ClassId} {L : List Lay} {q : Nat → Nat} {σ : St} {A : Nat → Prop} {sz : Nat} (h : va_D A (wd cs L q σ)) : va_D (Ar L q sz) (wd cs L q σ) := by
  refine ⟨h.1, fun k a hk => ?_⟩
  obtain ⟨x, hx, rfl⟩ := wd_inv hk
  exact Or.inl ⟨k, (List.getElem?_eq_some_iff.mp hx).1, rfl⟩
theorem Ar_le {cs : Nat → ClassId} {L : List Lay} {q : Nat → Nat} {σ : St} {A : Nat → Prop} {sz : Nat} (h : va_D A (wd cs L q σ)) (hs : ∀ a, sz ≤ a → A a) : ∀ a, Ar L q sz a → A a := by
  intro a ha
  rcases ha with ⟨k, hk, rfl⟩ | ha
  · exact h.2 k (q k, _) (wd_at (List.getElem?_eq_getElem hk))
  · exact hs a ha
-- the words: those of the tables that a call hands on
def gw : List Cond := lw_tbl.filter goodWord
theorem gw_of {i : Nat} {w : Cond} (h : lw_tbl[i]? = some w) (hg : goodWord w = true) : w ∈ gw := List.mem_filter.mpr ⟨List.mem_of_getElem? h, hg⟩
theorem gw_good {w : Cond} (h : w ∈ gw) : goodWord w = true := (List.mem_filter.mp h).2
theorem gw_in {ws : List Cond} (h : ∀ w ∈ ws, w ∈ gw) : GoodIn gw ws := fun w hw => ⟨h w hw, good_of_word (gw_good (h w hw))⟩
def NW (U : State) : Prop := ∀ q ∈ nestL, va_Nw (.methodLinkNest q.1 q.2.1 q.2.2.1 q.2.2.2) U
theorem NW.warm {s U : State} (hW : s.WarmedH U.vm) (h : NW s) : NW U := fun q hq => va_Nw.warmM hW (h q hq)
theorem NW.same {u U : State} (hv : u.vm = U.vm) (h : NW u) : NW U := fun q hq => va_Nw.same rfl hv (h q hq)
-- the context of a method's walk
def CX (p : Program) (R : Room) (s : State) (m : MethodId) (args : Array Value) (meth : Method) (c : Code) (cc : ByteArray) (nL : Nat) (own : String) (fr lo : Nat) (D : va_G) (cs : Nat → ClassId) : Prop :=
  p.tables.exec = Jvm.exec ∧ c.code = cc ∧ c.maxLocals = nL ∧ s.vm.findClass own = some m.cls ∧ (∀ w ∈ gw, w.before args s = true) ∧ va_K D vwCl (tys cs) s ∧ NW s ∧ fr ≤ R.frames ∧ lo ≤ R.locals
def OK (D : va_G) (cs : Nat → ClassId) (L : List Lay) (q : Nat → Nat) (s : State) (σ : St) (H : Heap) (locs : List Loc) : Prop :=
  va_P D vwCl (wd cs L q σ) H ∧ va_D (Ar L q s.heap.size) (wd cs L q σ) ∧ va_S (Ar L q s.heap.size) s.heap H locs
def RI (p : Program) (l : Launch) (e : Env) (R : Room) (s : State) (m : MethodId) (args : Array Value) (below : List Frame) (meth : Method) (c : Code) (cc : ByteArray) (D : va_G) (cs : Nat → ClassId) (L : List Lay) (q : Nat → Nat) (ty : FieldType) (Q : Int32 → St → Prop) (E : State → Prop) : Prop :=
  ∀ (r : Int32) (σ : St) (H : Heap) (locs : List Loc) (pc : Nat) (ls : Array Slot), narrow ty (.int r) = .int r → OK D cs L q s σ H locs → Q r σ → decode cc pc = .ok (.ireturn, 1) → W p l e R s m args below meth c H locs 0 0 E (F0 m pc ls [.int r])
def RLx (p : Program) (l : Launch) (e : Env) (R : Room) (s : State) (m : MethodId) (args : Array Value) (below : List Frame) (meth : Method) (c : Code) (cc : ByteArray) (D : va_G) (cs : Nat → ClassId) (L : List Lay) (q : Nat → Nat) (Q : Int64 → St → Prop) (E : State → Prop) : Prop :=
  ∀ (r : Int64) (σ : St) (H : Heap) (locs : List Loc) (pc : Nat) (ls : Array Slot), OK D cs L q s σ H locs → Q r σ → decode cc pc = .ok (.lreturn, 1) → W p l e R s m args below meth c H locs 0 0 E (F0 m pc ls [.long r])
def RV (p : Program) (l : Launch) (e : Env) (R : Room) (s : State) (m : MethodId) (args : Array Value) (below : List Frame) (meth : Method) (c : Code) (cc : ByteArray) (D : va_G) (cs : Nat → ClassId) (L : List Lay) (q : Nat → Nat) (Q : St → Prop) (E : State → Prop) : Prop :=
  ∀ (σ : St) (H : Heap) (locs : List Loc) (pc : Nat) (ls : Array Slot), OK D cs L q s σ H locs → Q σ → decode cc pc = .ok (.return_, 1) → W p l e R s m args below meth c H locs 0 0 E (F0 m pc ls [])
def RS (p : Program) (l : Launch) (e : Env) (R : Room) (s : State) (m : MethodId) (args : Array Value) (below : List Frame) (meth : Method) (c : Code) (cc : ByteArray) (ty : FieldType) (Q : Int32 → Prop) (E : State → Prop) : Prop :=
  ∀ (r : Int32) (pc : Nat) (ls : Array Slot), narrow ty (.int r) = .int r → Q r → decode cc pc = .ok (.ireturn, 1) → W p l e R s m args below meth c s.heap [] 0 0 E (F0 m pc ls [.int r])
-- a field's words, for reading and for writing
def FL (own : String) (idx ci j : Nat) : Prop := ∃ (C : String) (T : u_T) (N : Nat), vwCl[ci]? = some (C, T, N) ∧ (∀ w ∈ u_ws C T N, w ∈ gw) ∧ j < N ∧ Cond.fieldLink own idx (T j).1 (T j).2.1 (T j).2.2.1 ∈ gw
def FP (own : String) (idx ci j : Nat) (ty : FieldType) : Prop := ∃ (C : String) (T : u_T) (N : Nat) (ty0 : Nat → FieldType), vwCl[ci]? = some (C, T, N) ∧ (∀ w ∈ u_ws C T N, w ∈ gw) ∧ j < N ∧ Cond.fieldLink own idx (T j).1 (T j).2.1 (T j).2.2.1 ∈ gw ∧ (∀ k, k < N → parseFieldDescriptor (T k).2.2.1 = some (ty0 k)) ∧ (∀ a, a < N → ∀ b, b < N → a ≠ b → (T a).2.1 ≠ (T b).2.1) ∧ (T j).2.2.2 = false ∧ parseFieldDescriptor (T j).2.2.1 = some ty
-- a call's words
def MV (own : String) (idx : Nat) (C : String) (y : MethodName) (b : ByteArray) (nL : Nat) (ret : Option FieldType) (n : Nat) : Prop :=
  Cond.methodLink own idx y ∈ gw ∧ Cond.instanceMethod y ∈ gw ∧ Cond.selects C y y ∈ gw ∧ Cond.initialized C ∈ gw ∧ Cond.code y b nL ret ∈ gw ∧ (y.cls = C ∧ y.cls ≠ "java/lang/invoke/MethodHandle" ∧ y.cls ≠ "java/lang/invoke/VarHandle" ∧ (parseMethodDescriptor y.desc).map (fun d => d.parameters.length) = some n)
def MS (own : String) (idx : Nat) (y : MethodName) (b : ByteArray) (nL : Nat) (ret : Option FieldType) (n : Nat) : Prop :=
  Cond.methodLink own idx y ∈ gw ∧ Cond.static y ∈ gw ∧ Cond.initialized own ∈ gw ∧ Cond.code y b nL ret ∈ gw ∧ (y.cls = own ∧ y.cls ≠ "java/lang/invoke/MethodHandle" ∧ y.cls ≠ "java/lang/invoke/VarHandle" ∧ (parseMethodDescriptor y.desc).map (fun d => d.parameters.length) = some n)
def MN (own : String) (idx : Nat) (y : MethodName) (host : String) (b : ByteArray) (nL : Nat) (ret : Option FieldType) (n : Nat) : Prop :=
  (own, idx, y, host) ∈ nestL ∧ Cond.static y ∈ gw ∧ Cond.initialized y.cls ∈ gw ∧ Cond.code y b nL ret ∈ gw ∧ (y.cls ≠ "java/lang/invoke/MethodHandle" ∧ y.cls ≠ "java/lang/invoke/VarHandle" ∧ (parseMethodDescriptor y.desc).map (fun d => d.parameters.length) = some n)
theorem gV {own : String} {idx : Nat} {C : String} {y : MethodName} {b : ByteArray} {nL : Nat} {ret : Option FieldType} {n : Nat} (h : MV own idx C y b nL ret n) : GoodIn gw (wsV own idx C y (.code y b nL ret :: gw)) := by
  refine gw_in fun w hw => ?_
  simp only [wsV, List.cons_append, List.nil_append, List.mem_cons] at hw
  rcases hw with rfl | rfl | rfl | rfl | rfl | hw
  · exact h.1
  · exact h.2.1
  · exact h.2.2.1
  · exact h.2.2.2.1
  · exact h.2.2.2.2.1
  · exact hw
theorem gS {own : String} {idx : Nat} {y : MethodName} {b : ByteArray} {nL : Nat} {ret : Option FieldType} {n : Nat} (h : MS own idx y b nL ret n) : GoodIn gw (wsS own idx y (.code y b nL ret :: gw)) := by
  refine gw_in fun w hw => ?_
  simp only [wsS, List.cons_append, List.nil_append, List.mem_cons] at hw
  rcases hw with rfl | rfl | rfl | rfl | hw
  · exact h.1
  · exact h.2.1
  · exact h.2.2.1
  · exact h.2.2.2.1
  · exact hw
theorem gC {y : MethodName} {b : ByteArray} {nL : Nat} {ret : Option FieldType} (h : Cond.code y b nL ret ∈ gw) : GoodIn gw (.code y b nL ret :: gw) := by
  refine gw_in fun w hw => ?_
  rcases List.mem_cons.mp hw with rfl | hw
  · exact h
  · exact hw
