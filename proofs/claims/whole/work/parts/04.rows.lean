/-! ===== the rows of the walk over a world ===== -/
section ROWS
variable {p : Program} {l : Launch} {e : Env} {R : Room} {s : State} {m : MethodId} {args : Array Value} {below : List Frame} {meth : Method} {c : Code} {H : Heap} {locs : List Loc} {E : State → Prop} {cells slots : Nat}
variable {cc : ByteArray} {nL : Nat} {own : String} {fr lo : Nat} {D : va_G} {cs : Nat → ClassId} {L : List Lay} {q : Nat → Nat} {σ : St} {pc : Nat} {ls : Array Slot} {rest : List Value}
theorem r_get (C : CX p R s m args meth c cc nL own fr lo D cs) (O : OK D cs L q s σ H locs) {k ci j idx : Nat} {fs : List Fdx} {f : Fdx} {v : Value} (F : FL own idx ci j) (hL : L[k]? = some (.inr (ci, fs))) (hf : fs[j]? = some f) (hv : fval q σ k j f = v) (hd : decode cc pc = .ok (.getfield idx, 3))
    (kk : W p l e R s m args below meth c H locs cells slots E (F0 m (pc + 3) ls (v :: rest))) : W p l e R s m args below meth c H locs cells slots E (F0 m pc ls (.ref (q k) :: rest)) := by
  obtain ⟨hx, hb, hml, hown, hts, hK, hN, hfr, hlo⟩ := C
  obtain ⟨hP, hD, hS⟩ := O
  obtain ⟨Cn, T, N, hc, hin, hj, hlk⟩ := F
  exact va_get hx hb hts hin hown hK hP k (wd_at hL) hc j hj (hts _ hlk) (fun _ h => h) (by rw [List.getElem?_mapIdx, hf]; simp only [Option.map_some, hv]) hd kk
theorem r_puti (C : CX p R s m args meth c cc nL own fr lo D cs) (O : OK D cs L q s σ H locs) {k ci j idx : Nat} {fs : List Fdx} {x : Int32} (F : FP own idx ci j .int) (hL : L[k]? = some (.inr (ci, fs))) (hf : fs[j]? = some (.inr false)) (hd : decode cc pc = .ok (.putfield idx, 3))
    (kk : ∀ (H : Heap) (locs : List Loc) (σ' : St), σ' = wr σ k j x → OK D cs L q s σ' H locs → W p l e R s m args below meth c H locs cells slots E (F0 m (pc + 3) ls rest)) : W p l e R s m args below meth c H locs cells slots E (F0 m pc ls (.int x :: .ref (q k) :: rest)) := by
  obtain ⟨hx, hb, hml, hown, hts, hK, hN, hfr, hlo⟩ := C
  obtain ⟨hP, hD, hS⟩ := O
  obtain ⟨Cn, T, N, ty0, hc, hin, hj, hlk, hty, hnm, hfin, hdd⟩ := F
  refine va_put (ty := .int) hx hb hts hin ty0 hty hnm hown hK hP hD hS k (wd_at hL) hc j hj (hts _ hlk) (fun _ h => h) hfin hdd (vp_nar_int x) rfl (by rw [List.length_mapIdx]; exact (List.getElem?_eq_some_iff.mp hf).1) hd (fun H1 locs1 hP1 hD1 hS1 => ?_)
  rw [wd_puti hL hf] at hP1 hD1
  exact kk H1 locs1 _ rfl ⟨hP1, hD1, hS1⟩
theorem r_putl (C : CX p R s m args meth c cc nL own fr lo D cs) (O : OK D cs L q s σ H locs) {k ci j idx : Nat} {fs : List Fdx} {x : Int64} (F : FP own idx ci j .long) (hL : L[k]? = some (.inr (ci, fs))) (hf : fs[j]? = some (.inr true)) (hd : decode cc pc = .ok (.putfield idx, 3))
    (kk : ∀ (H : Heap) (locs : List Loc) (σ' : St), σ' = wl σ k j x → OK D cs L q s σ' H locs → W p l e R s m args below meth c H locs cells slots E (F0 m (pc + 3) ls rest)) : W p l e R s m args below meth c H locs cells slots E (F0 m pc ls (.long x :: .ref (q k) :: rest)) := by
  obtain ⟨hx, hb, hml, hown, hts, hK, hN, hfr, hlo⟩ := C
  obtain ⟨hP, hD, hS⟩ := O
  obtain ⟨Cn, T, N, ty0, hc, hin, hj, hlk, hty, hnm, hfin, hdd⟩ := F
  refine va_put (ty := .long) hx hb hts hin ty0 hty hnm hown hK hP hD hS k (wd_at hL) hc j hj (hts _ hlk) (fun _ h => h) hfin hdd rfl rfl (by rw [List.length_mapIdx]; exact (List.getElem?_eq_some_iff.mp hf).1) hd (fun H1 locs1 hP1 hD1 hS1 => ?_)
  rw [wd_putl hL hf] at hP1 hD1
  exact kk H1 locs1 _ rfl ⟨hP1, hD1, hS1⟩
theorem r_iald (C : CX p R s m args meth c cc nL own fr lo D cs) (O : OK D cs L q s σ H locs) {k n : Nat} {i : Int32} (hL : L[k]? = some (.inl (0, n))) (hi : vp_in i n) (hd : decode cc pc = .ok (.iaload, 1))
    (kk : W p l e R s m args below meth c H locs cells slots E (F0 m (pc + 1) ls (.int (σ.1 k i.toNatClampNeg) :: rest))) : W p l e R s m args below meth c H locs cells slots E (F0 m pc ls (.int i :: .ref (q k) :: rest)) :=
  va_iald C.1 C.2.1 C.2.2.2.2.2.1 O.1 k 0 (wd_at hL) rfl hi hd kk
theorem r_zald (C : CX p R s m args meth c cc nL own fr lo D cs) (O : OK D cs L q s σ H locs) {k n : Nat} {i : Int32} (hL : L[k]? = some (.inl (1, n))) (hi : vp_in i n) (hd : decode cc pc = .ok (.baload, 1))
    (kk : W p l e R s m args below meth c H locs cells slots E (F0 m (pc + 1) ls (.int (σ.1 k i.toNatClampNeg) :: rest))) : W p l e R s m args below meth c H locs cells slots E (F0 m pc ls (.int i :: .ref (q k) :: rest)) :=
  va_zald C.1 C.2.1 C.2.2.2.2.2.1 O.1 k 1 (wd_at hL) rfl hi hd kk
theorem r_bald (C : CX p R s m args meth c cc nL own fr lo D cs) (O : OK D cs L q s σ H locs) {k n : Nat} {i : Int32} (hL : L[k]? = some (.inl (2, n))) (hi : vp_in i n) (hd : decode cc pc = .ok (.baload, 1))
    (kk : W p l e R s m args below meth c H locs cells slots E (F0 m (pc + 1) ls (.int (σ.1 k i.toNatClampNeg) :: rest))) : W p l e R s m args below meth c H locs cells slots E (F0 m pc ls (.int i :: .ref (q k) :: rest)) :=
  va_bald C.1 C.2.1 C.2.2.2.2.2.1 O.1 k 2 (wd_at hL) rfl hi hd kk
theorem r_lald (C : CX p R s m args meth c cc nL own fr lo D cs) (O : OK D cs L q s σ H locs) {k n : Nat} {i : Int32} (hL : L[k]? = some (.inl (3, n))) (hi : vp_in i n) (hd : decode cc pc = .ok (.laload, 1))
    (kk : W p l e R s m args below meth c H locs cells slots E (F0 m (pc + 1) ls (.long (σ.2 k i.toNatClampNeg) :: rest))) : W p l e R s m args below meth c H locs cells slots E (F0 m pc ls (.int i :: .ref (q k) :: rest)) :=
  va_lald C.1 C.2.1 C.2.2.2.2.2.1 O.1 k 3 (wd_at hL) rfl hi hd kk
theorem r_iast (C : CX p R s m args meth c cc nL own fr lo D cs) (O : OK D cs L q s σ H locs) {k n : Nat} {i x : Int32} (hL : L[k]? = some (.inl (0, n))) (hi : vp_in i n) (hd : decode cc pc = .ok (.iastore, 1))
    (kk : ∀ (H : Heap) (locs : List Loc) (σ' : St), σ' = wr σ k i.toNatClampNeg x → OK D cs L q s σ' H locs → W p l e R s m args below meth c H locs cells slots E (F0 m (pc + 1) ls rest)) : W p l e R s m args below meth c H locs cells slots E (F0 m pc ls (.int x :: .int i :: .ref (q k) :: rest)) := by
  refine va_iast C.1 C.2.1 C.2.2.2.2.2.1 O.1 O.2.1 O.2.2 k 0 (wd_at hL) rfl hi hd (fun H1 locs1 hP1 hD1 hS1 => ?_)
  rw [wd_sti hL (by decide)] at hP1 hD1
  exact kk H1 locs1 _ rfl ⟨hP1, hD1, hS1⟩
theorem r_zast (C : CX p R s m args meth c cc nL own fr lo D cs) (O : OK D cs L q s σ H locs) {k n : Nat} {i x : Int32} (hL : L[k]? = some (.inl (1, n))) (hi : vp_in i n) (hd : decode cc pc = .ok (.bastore, 1))
    (kk : ∀ (H : Heap) (locs : List Loc) (σ' : St), σ' = wr σ k i.toNatClampNeg (x &&& 1) → OK D cs L q s σ' H locs → W p l e R s m args below meth c H locs cells slots E (F0 m (pc + 1) ls rest)) : W p l e R s m args below meth c H locs cells slots E (F0 m pc ls (.int x :: .int i :: .ref (q k) :: rest)) := by
  refine va_zast C.1 C.2.1 C.2.2.2.2.2.1 O.1 O.2.1 O.2.2 k 1 (wd_at hL) rfl hi hd (fun H1 locs1 hP1 hD1 hS1 => ?_)
  rw [wd_sti hL (by decide)] at hP1 hD1
  exact kk H1 locs1 _ rfl ⟨hP1, hD1, hS1⟩
theorem r_bast (C : CX p R s m args meth c cc nL own fr lo D cs) (O : OK D cs L q s σ H locs) {k n : Nat} {i x : Int32} (hL : L[k]? = some (.inl (2, n))) (hi : vp_in i n) (hd : decode cc pc = .ok (.bastore, 1))
    (kk : ∀ (H : Heap) (locs : List Loc) (σ' : St), σ' = wr σ k i.toNatClampNeg x.toInt8.toInt32 → OK D cs L q s σ' H locs → W p l e R s m args below meth c H locs cells slots E (F0 m (pc + 1) ls rest)) : W p l e R s m args below meth c H locs cells slots E (F0 m pc ls (.int x :: .int i :: .ref (q k) :: rest)) := by
  refine va_bast C.1 C.2.1 C.2.2.2.2.2.1 O.1 O.2.1 O.2.2 k 2 (wd_at hL) rfl hi hd (fun H1 locs1 hP1 hD1 hS1 => ?_)
  rw [wd_sti hL (by decide)] at hP1 hD1
  exact kk H1 locs1 _ rfl ⟨hP1, hD1, hS1⟩
theorem r_last (C : CX p R s m args meth c cc nL own fr lo D cs) (O : OK D cs L q s σ H locs) {k n : Nat} {i : Int32} {x : Int64} (hL : L[k]? = some (.inl (3, n))) (hi : vp_in i n) (hd : decode cc pc = .ok (.lastore, 1))
    (kk : ∀ (H : Heap) (locs : List Loc) (σ' : St), σ' = wl σ k i.toNatClampNeg x → OK D cs L q s σ' H locs → W p l e R s m args below meth c H locs cells slots E (F0 m (pc + 1) ls rest)) : W p l e R s m args below meth c H locs cells slots E (F0 m pc ls (.long x :: .int i :: .ref (q k) :: rest)) := by
  refine va_last C.1 C.2.1 C.2.2.2.2.2.1 O.1 O.2.1 O.2.2 k 3 (wd_at hL) rfl hi hd (fun H1 locs1 hP1 hD1 hS1 => ?_)
  rw [wd_stl hL] at hP1 hD1
  exact kk H1 locs1 _ rfl ⟨hP1, hD1, hS1⟩
end ROWS
-- contracts
def Pre (L : List Lay) (o : Nat) (as : (Nat → Nat) → List Value) (D : va_G) (cs : Nat → ClassId) (q : Nat → Nat) (σ : St) (sz : Nat) (X : Prop) : Array Value → State → Prop :=
  va_Pc (.ref (q o) :: as q) (fun U => U.heap.size = sz ∧ va_P D vwCl (wd cs L q σ) U.heap ∧ va_K D vwCl (tys cs) U ∧ NW U ∧ va_D (fun _ => True) (wd cs L q σ) ∧ X)
theorem Pre_blind {L : List Lay} {o : Nat} {as : (Nat → Nat) → List Value} {D : va_G} {cs : Nat → ClassId} {q : Nat → Nat} {σ : St} {sz : Nat} {X : Prop} : FrameBlind (Pre L o as D cs q σ sz X) := by
  intro a U g mk h
  obtain ⟨h0, h1, h2, h3, h4, h5, h6⟩ := h
  exact ⟨h0, h1, h2, va_K.moved (u := U) (U := U.calling g mk a) (Vm.Alike.refl U.vm) h3, NW.same rfl h4, h5, h6⟩
def rmO (fr lo : Nat) : Room := { frames := fr, cells := 0, slots := 0, locals := lo }
def MetI (l : Launch) (y : MethodName) (b : ByteArray) (nL : Nat) (ret : FieldType) (fr lo : Nat) (L : List Lay) (o : Nat) (as : (Nat → Nat) → List Value) (w : St → (Int32 → St → Prop) → Prop) : Prop :=
  ∀ (D : va_G) (cs : Nat → ClassId) (q : Nat → Nat) (σ : St) (sz : Nat) (Q : Int32 → St → Prop), Met l y (.code y b nL (some ret) :: gw) (rmO fr lo) (Pre L o as D cs q σ sz (w σ Q)) (va_Qi Q (fun σ' t => va_P D vwCl (wd cs L q σ') t.heap) (Ar L q sz)) 0 0 (Ar L q sz)
def MetL (l : Launch) (y : MethodName) (b : ByteArray) (nL : Nat) (fr lo : Nat) (L : List Lay) (o : Nat) (as : (Nat → Nat) → List Value) (w : St → (Int64 → St → Prop) → Prop) : Prop :=
  ∀ (D : va_G) (cs : Nat → ClassId) (q : Nat → Nat) (σ : St) (sz : Nat) (Q : Int64 → St → Prop), Met l y (.code y b nL (some .long) :: gw) (rmO fr lo) (Pre L o as D cs q σ sz (w σ Q)) (va_Ql Q (fun σ' t => va_P D vwCl (wd cs L q σ') t.heap) (Ar L q sz)) 0 0 (Ar L q sz)
def MetV (l : Launch) (y : MethodName) (b : ByteArray) (nL : Nat) (fr lo : Nat) (L : List Lay) (o : Nat) (as : (Nat → Nat) → List Value) (w : St → (St → Prop) → Prop) : Prop :=
  ∀ (D : va_G) (cs : Nat → ClassId) (q : Nat → Nat) (σ : St) (sz : Nat) (Q : St → Prop), Met l y (.code y b nL none :: gw) (rmO fr lo) (Pre L o as D cs q σ sz (w σ Q)) (va_Qv Q (fun σ' t => va_P D vwCl (wd cs L q σ') t.heap) (Ar L q sz)) 0 0 (Ar L q sz)
def MetS (l : Launch) (y : MethodName) (b : ByteArray) (nL : Nat) (ret : FieldType) (fr lo : Nat) (as : List Value) (w : (Int32 → Prop) → Prop) : Prop :=
  ∀ Q : Int32 → Prop, Met l y (.code y b nL (some ret) :: gw) (rmO fr lo) (va_Pc as (fun U => w Q)) (vp_Si Q) 0 0 (fun _ => False)
section MAKE
variable {l : Launch} {y : MethodName} {b : ByteArray} {nL fr lo : Nat} {L : List Lay} {o : Nat} {as : (Nat → Nat) → List Value} {own : String} {ret : FieldType}
theorem mk_I {w : St → (Int32 → St → Prop) → Prop} (hy : plainName y.cls = true) (ho : y.cls = own) (hn : ∀ q, (lg_sl (.ref (q o) :: as q)).length ≤ nL)
    (body : ∀ {p : Program} {e : Env} {R : Room} {s : State} {m : MethodId} {args : Array Value} {below : List Frame} {meth : Method} {c : Code} {H : Heap} {locs : List Loc} {E : State → Prop} {D : va_G} {cs : Nat → ClassId} {q : Nat → Nat} {σ : St} {ls : Array Slot} {Q : Int32 → St → Prop}, CX p R s m args meth c b nL own fr lo D cs → RI p l e R s m args below meth c b D cs L q ret Q E → OK D cs L q s σ H locs → lv_has ls nL (lv_args 0 (.ref (q o) :: as q)) → w σ Q → W p l e R s m args below meth c H locs 0 0 E (F0 m 0 ls [])) : MetI l y b nL ret fr lo L o as w := by
  intro D cs q σ sz Q
  refine Met.ofW (cc := b) (maxL := nL) (ret := some ret) hy rfl ?_
  intro p e s m args below meth c s₁ B hml hv
  obtain ⟨rfl, hsz, hP, hK, hN, hD0, hw⟩ := hv
  have hts0 := atoms_spec (ws := .code y b nL (some ret) :: gw) B.pre
  have hown : s.vm.findClass y.cls = some m.cls := findClass_of_methodNamed B.named
  rw [ho] at hown
  have hl := lv_entry (.ref (q o) :: as q) (n := nL) (hn q)
  rw [lg_entry_eq]
  generalize (lg_sl (.ref (q o) :: as q) ++ List.replicate (nL - (lg_sl (.ref (q o) :: as q)).length) Slot.unset).toArray = ls at hl ⊢
  subst hsz
  have hlocks := B.notSynchronized
  have hr := B.returns
  have hx := B.exec
  have hb := B.bytes
  refine body ⟨hx, hb, hml, hown, fun w h => hts0 w (List.mem_cons_of_mem _ h), hK, hN, Nat.le_refl fr, Nat.le_refl lo⟩ ?_ ⟨hP, Ar_D hD0, va_S.rf⟩ hl hw
  intro r σ' H locs pc ls' hnar hO hQ hdg
  exact W.zret hx hb hr hnar (fun t ht hW => ⟨⟨r, σ', rfl, hQ, by show va_P D vwCl (wd cs L q σ') t.heap; rw [ht]; exact hO.1⟩, hO.2.2.F ht⟩) hO.2.2.2.2 hdg
theorem mk_L {w : St → (Int64 → St → Prop) → Prop} (hy : plainName y.cls = true) (ho : y.cls = own) (hn : ∀ q, (lg_sl (.ref (q o) :: as q)).length ≤ nL)
    (body : ∀ {p : Program} {e : Env} {R : Room} {s : State} {m : MethodId} {args : Array Value} {below : List Frame} {meth : Method} {c : Code} {H : Heap} {locs : List Loc} {E : State → Prop} {D : va_G} {cs : Nat → ClassId} {q : Nat → Nat} {σ : St} {ls : Array Slot} {Q : Int64 → St → Prop}, CX p R s m args meth c b nL own fr lo D cs → RLx p l e R s m args below meth c b D cs L q Q E → OK D cs L q s σ H locs → lv_has ls nL (lv_args 0 (.ref (q o) :: as q)) → w σ Q → W p l e R s m args below meth c H locs 0 0 E (F0 m 0 ls [])) : MetL l y b nL fr lo L o as w := by
  intro D cs q σ sz Q
  refine Met.ofW (cc := b) (maxL := nL) (ret := some .long) hy rfl ?_
  intro p e s m args below meth c s₁ B hml hv
  obtain ⟨rfl, hsz, hP, hK, hN, hD0, hw⟩ := hv
  have hts0 := atoms_spec (ws := .code y b nL (some .long) :: gw) B.pre
  have hown : s.vm.findClass y.cls = some m.cls := findClass_of_methodNamed B.named
  rw [ho] at hown
  have hl := lv_entry (.ref (q o) :: as q) (n := nL) (hn q)
  rw [lg_entry_eq]
  generalize (lg_sl (.ref (q o) :: as q) ++ List.replicate (nL - (lg_sl (.ref (q o) :: as q)).length) Slot.unset).toArray = ls at hl ⊢
  subst hsz
  have hlocks := B.notSynchronized
  have hr := B.returns
  have hx := B.exec
  have hb := B.bytes
  refine body ⟨hx, hb, hml, hown, fun w h => hts0 w (List.mem_cons_of_mem _ h), hK, hN, Nat.le_refl fr, Nat.le_refl lo⟩ ?_ ⟨hP, Ar_D hD0, va_S.rf⟩ hl hw
  intro r σ' H locs pc ls' hO hQ hdg
  exact W.lret hx hb hr (fun t ht hW => ⟨⟨r, σ', rfl, hQ, by show va_P D vwCl (wd cs L q σ') t.heap; rw [ht]; exact hO.1⟩, hO.2.2.F ht⟩) hO.2.2.2.2 hdg
theorem mk_V {w : St → (St → Prop) → Prop} (hy : plainName y.cls = true) (ho : y.cls = own) (hn : ∀ q, (lg_sl (.ref (q o) :: as q)).length ≤ nL)
    (body : ∀ {p : Program} {e : Env} {R : Room} {s : State} {m : MethodId} {args : Array Value} {below : List Frame} {meth : Method} {c : Code} {H : Heap} {locs : List Loc} {E : State → Prop} {D : va_G} {cs : Nat → ClassId} {q : Nat → Nat} {σ : St} {ls : Array Slot} {Q : St → Prop}, CX p R s m args meth c b nL own fr lo D cs → RV p l e R s m args below meth c b D cs L q Q E → OK D cs L q s σ H locs → lv_has ls nL (lv_args 0 (.ref (q o) :: as q)) → w σ Q → W p l e R s m args below meth c H locs 0 0 E (F0 m 0 ls [])) : MetV l y b nL fr lo L o as w := by
  intro D cs q σ sz Q
  refine Met.ofW (cc := b) (maxL := nL) (ret := none) hy rfl ?_
  intro p e s m args below meth c s₁ B hml hv
  obtain ⟨rfl, hsz, hP, hK, hN, hD0, hw⟩ := hv
  have hts0 := atoms_spec (ws := .code y b nL none :: gw) B.pre
  have hown : s.vm.findClass y.cls = some m.cls := findClass_of_methodNamed B.named
  rw [ho] at hown
  have hl := lv_entry (.ref (q o) :: as q) (n := nL) (hn q)
  rw [lg_entry_eq]
  generalize (lg_sl (.ref (q o) :: as q) ++ List.replicate (nL - (lg_sl (.ref (q o) :: as q)).length) Slot.unset).toArray = ls at hl ⊢
  subst hsz
  have hlocks := B.notSynchronized
  have hr := B.returns
  have hx := B.exec
  have hb := B.bytes
  refine body ⟨hx, hb, hml, hown, fun w h => hts0 w (List.mem_cons_of_mem _ h), hK, hN, Nat.le_refl fr, Nat.le_refl lo⟩ ?_ ⟨hP, Ar_D hD0, va_S.rf⟩ hl hw
  intro σ' H locs pc ls' hO hQ hdg
  exact W.vret hx hb hr (fun t ht hW => ⟨⟨σ', rfl, hQ, by show va_P D vwCl (wd cs L q σ') t.heap; rw [ht]; exact hO.1⟩, hO.2.2.F ht⟩) hO.2.2.2.2 hdg
theorem mk_S {as : List Value} {w : (Int32 → Prop) → Prop} (hy : plainName y.cls = true) (ho : y.cls = own) (hn : (lg_sl as).length ≤ nL)
    (body : ∀ {p : Program} {e : Env} {R : Room} {s : State} {m : MethodId} {args : Array Value} {below : List Frame} {meth : Method} {c : Code} {E : State → Prop} {ls : Array Slot} {Q : Int32 → Prop}, p.tables.exec = Jvm.exec → c.code = b → c.maxLocals = nL → s.vm.findClass own = some m.cls → (∀ w ∈ gw, w.before args s = true) → fr ≤ R.frames → lo ≤ R.locals → RS p l e R s m args below meth c b ret Q E → lv_has ls nL (lv_args 0 as) → w Q → W p l e R s m args below meth c s.heap [] 0 0 E (F0 m 0 ls [])) : MetS l y b nL ret fr lo as w := by
  intro Q
  refine Met.ofW (cc := b) (maxL := nL) (ret := some ret) hy rfl ?_
  intro p e s m args below meth c s₁ B hml hv
  obtain ⟨rfl, hw⟩ := hv
  have hts0 := atoms_spec (ws := .code y b nL (some ret) :: gw) B.pre
  have hown : s.vm.findClass y.cls = some m.cls := findClass_of_methodNamed B.named
  rw [ho] at hown
  have hl := lv_entry as (n := nL) hn
  rw [lg_entry_eq]
  generalize (lg_sl as ++ List.replicate (nL - (lg_sl as).length) Slot.unset).toArray = ls at hl ⊢
  have hlocks := B.notSynchronized
  have hr := B.returns
  have hx := B.exec
  have hb := B.bytes
  refine body hx hb hml hown (fun w h => hts0 w (List.mem_cons_of_mem _ h)) (Nat.le_refl fr) (Nat.le_refl lo) ?_ hl hw
  intro r pc ls' hnar hQ hdg
  exact W.zret hx hb hr hnar (fun t ht hW => ⟨r, rfl, hQ, ht⟩) (fun _ h => by cases h) hdg
end MAKE
section CALLS
variable {p : Program} {l : Launch} {e : Env} {R : Room} {s : State} {m : MethodId} {args : Array Value} {below : List Frame} {meth : Method} {c : Code} {H : Heap} {locs : List Loc} {E : State → Prop}
variable {cc : ByteArray} {nL : Nat} {own : String} {fr lo : Nat} {D : va_G} {cs : Nat → ClassId} {L : List Lay} {q : Nat → Nat} {σ : St} {pc : Nat} {ls : Array Slot} {rest st : List Value} {lv : List (Nat × Value)}
variable {y : MethodName} {b : ByteArray} {nL' fr' lo' o idx n ci : Nat} {fs : List Fdx} {Cn : String} {as : (Nat → Nat) → List Value} {ret : FieldType}
theorem r_callI {w : St → (Int32 → St → Prop) → Prop} {Q : Int32 → St → Prop} (C : CX p R s m args meth c cc nL own fr lo D cs) (O : OK D cs L q s σ H locs) (hl : lv_has ls nL lv) (hM : MetI l y b nL' ret fr' lo' L o as w) (hm : MV own idx Cn y b nL' (some ret) n) (hroom : fr' + 1 ≤ fr ∧ 8 + (nL' + 11) + lo' ≤ lo) (hL : L[o]? = some (.inr (ci, fs))) (hc : (vwCl[ci]?).map (fun z => z.1) = some Cn) (hn : (as q).length = n) (hst : st = (as q).reverse ++ .ref (q o) :: rest) (hrs : (rest.map fun v => v.category).sum ≤ 8) (hw : w σ Q) (hd : decode cc pc = .ok (.invokevirtual idx, 3))
    (kk : ∀ (r : Int32) (σ' : St) (H : Heap) (locs : List Loc), OK D cs L q s σ' H locs → Q r σ' → W p l e R s m args below meth c H locs 0 0 E (F0 m (pc + 3) ls (.int r :: rest))) : W p l e R s m args below meth c H locs 0 0 E (F0 m pc ls st) := by
  obtain ⟨hx, hb, hml, hown, hts, hK, hN, hfr, hlo⟩ := C
  obtain ⟨hP, hD, hS⟩ := O
  have hA : ∀ a, Ar L q H.size a → Ar L q s.heap.size a := Ar_le hD (fun a h => Or.inr (Nat.le_trans hS.1 h))
  obtain ⟨z, hz, hz2⟩ := Option.map_eq_some_iff.mp hc
  have hrec := va_recv (q0 := o) hK hP hz (wd_at hL)
  rw [hz2] at hrec
  refine va_calli (va_runV (As := as q) (rest := rest) ⟨hx, hb, hml, hown, hts⟩ (hM D cs q σ H.size Q) (cwV n hts (gV hm) rfl rfl rfl hm.2.2.2.2.2 ⟨Nat.le_trans hroom.1 hfr, Nat.le_trans hroom.2 hlo⟩) ⟨Pre_blind, hrec, fun U hU hW => ⟨rfl, by rw [hU], by rw [hU]; exact hP, va_K.moved hW.alike hK, NW.warm hW hN, hD.weaken (fun _ _ _ _ => trivial), hw⟩⟩ rfl hn hl.1 hst (lv_room hrs) hd ⟨Nat.zero_le _, Nat.zero_le _⟩) hS (fun a _ h => hA a h) hA (fun r σ' t H1 locs1 ht hvm hq hB hz hk hS1 => ?_)
  exact kk r σ' H1 locs1 ⟨by rw [← ht]; exact hB, wd_D hD, hS1⟩ hq
theorem r_callL {w : St → (Int64 → St → Prop) → Prop} {Q : Int64 → St → Prop} (C : CX p R s m args meth c cc nL own fr lo D cs) (O : OK D cs L q s σ H locs) (hl : lv_has ls nL lv) (hM : MetL l y b nL' fr' lo' L o as w) (hm : MV own idx Cn y b nL' (some .long) n) (hroom : fr' + 1 ≤ fr ∧ 8 + (nL' + 11) + lo' ≤ lo) (hL : L[o]? = some (.inr (ci, fs))) (hc : (vwCl[ci]?).map (fun z => z.1) = some Cn) (hn : (as q).length = n) (hst : st = (as q).reverse ++ .ref (q o) :: rest) (hrs : (rest.map fun v => v.category).sum ≤ 8) (hw : w σ Q) (hd : decode cc pc = .ok (.invokevirtual idx, 3))
    (kk : ∀ (r : Int64) (σ' : St) (H : Heap) (locs : List Loc), OK D cs L q s σ' H locs → Q r σ' → W p l e R s m args below meth c H locs 0 0 E (F0 m (pc + 3) ls (.long r :: rest))) : W p l e R s m args below meth c H locs 0 0 E (F0 m pc ls st) := by
  obtain ⟨hx, hb, hml, hown, hts, hK, hN, hfr, hlo⟩ := C
  obtain ⟨hP, hD, hS⟩ := O
  have hA : ∀ a, Ar L q H.size a → Ar L q s.heap.size a := Ar_le hD (fun a h => Or.inr (Nat.le_trans hS.1 h))
  obtain ⟨z, hz, hz2⟩ := Option.map_eq_some_iff.mp hc
  have hrec := va_recv (q0 := o) hK hP hz (wd_at hL)
  rw [hz2] at hrec
  refine va_calll (va_runV (As := as q) (rest := rest) ⟨hx, hb, hml, hown, hts⟩ (hM D cs q σ H.size Q) (cwV n hts (gV hm) rfl rfl rfl hm.2.2.2.2.2 ⟨Nat.le_trans hroom.1 hfr, Nat.le_trans hroom.2 hlo⟩) ⟨Pre_blind, hrec, fun U hU hW => ⟨rfl, by rw [hU], by rw [hU]; exact hP, va_K.moved hW.alike hK, NW.warm hW hN, hD.weaken (fun _ _ _ _ => trivial), hw⟩⟩ rfl hn hl.1 hst (lv_room hrs) hd ⟨Nat.zero_le _, Nat.zero_le _⟩) hS (fun a _ h => hA a h) hA (fun r σ' t H1 locs1 ht hvm hq hB hz hk hS1 => ?_)
  exact kk r σ' H1 locs1 ⟨by rw [← ht]; exact hB, wd_D hD, hS1⟩ hq
theorem r_callV {w : St → (St → Prop) → Prop} {Q : St → Prop} (C : CX p R s m args meth c cc nL own fr lo D cs) (O : OK D cs L q s σ H locs) (hl : lv_has ls nL lv) (hM : MetV l y b nL' fr' lo' L o as w) (hm : MV own idx Cn y b nL' none n) (hroom : fr' + 1 ≤ fr ∧ 8 + (nL' + 11) + lo' ≤ lo) (hL : L[o]? = some (.inr (ci, fs))) (hc : (vwCl[ci]?).map (fun z => z.1) = some Cn) (hn : (as q).length = n) (hst : st = (as q).reverse ++ .ref (q o) :: rest) (hrs : (rest.map fun v => v.category).sum ≤ 8) (hw : w σ Q) (hd : decode cc pc = .ok (.invokevirtual idx, 3))
    (kk : ∀ (σ' : St) (H : Heap) (locs : List Loc), OK D cs L q s σ' H locs → Q σ' → W p l e R s m args below meth c H locs 0 0 E (F0 m (pc + 3) ls rest)) : W p l e R s m args below meth c H locs 0 0 E (F0 m pc ls st) := by
  obtain ⟨hx, hb, hml, hown, hts, hK, hN, hfr, hlo⟩ := C
  obtain ⟨hP, hD, hS⟩ := O
  have hA : ∀ a, Ar L q H.size a → Ar L q s.heap.size a := Ar_le hD (fun a h => Or.inr (Nat.le_trans hS.1 h))
  obtain ⟨z, hz, hz2⟩ := Option.map_eq_some_iff.mp hc
  have hrec := va_recv (q0 := o) hK hP hz (wd_at hL)
  rw [hz2] at hrec
  refine va_callv (va_runV (As := as q) (rest := rest) ⟨hx, hb, hml, hown, hts⟩ (hM D cs q σ H.size Q) (cwV n hts (gV hm) rfl rfl rfl hm.2.2.2.2.2 ⟨Nat.le_trans hroom.1 hfr, Nat.le_trans hroom.2 hlo⟩) ⟨Pre_blind, hrec, fun U hU hW => ⟨rfl, by rw [hU], by rw [hU]; exact hP, va_K.moved hW.alike hK, NW.warm hW hN, hD.weaken (fun _ _ _ _ => trivial), hw⟩⟩ rfl hn hl.1 hst (lv_room hrs) hd ⟨Nat.zero_le _, Nat.zero_le _⟩) hS (fun a _ h => hA a h) hA (fun σ' t H1 locs1 ht hvm hq hB hz hk hS1 => ?_)
  exact kk σ' H1 locs1 ⟨by rw [← ht]; exact hB, wd_D hD, hS1⟩ hq
theorem r_stat {as : List Value} {w : (Int32 → Prop) → Prop} {Q : Int32 → Prop} (hx : p.tables.exec = Jvm.exec) (hb : c.code = cc) (hml : c.maxLocals = nL) (hown : s.vm.findClass own = some m.cls) (hts : ∀ w ∈ gw, w.before args s = true) (hfr : fr ≤ R.frames) (hlo : lo ≤ R.locals) (hl : lv_has ls nL lv) (hM : MetS l y b nL' ret fr' lo' as w) (hm : MS own idx y b nL' (some ret) n) (hroom : fr' + 1 ≤ fr ∧ 8 + (nL' + 11) + lo' ≤ lo) (hn : as.length = n) (hst : st = as.reverse ++ rest) (hrs : (rest.map fun v => v.category).sum ≤ 8) (hw : w Q) (hd : decode cc pc = .ok (.invokestatic idx, 3))
    (kk : ∀ r : Int32, Q r → W p l e R s m args below meth c H locs 0 0 E (F0 m (pc + 3) ls (.int r :: rest))) : W p l e R s m args below meth c H locs 0 0 E (F0 m pc ls st) :=
  vp_callSi (W.runS (As := as) (rest := rest) ⟨hx, hb, hml, hown, hts⟩ (hM Q) (cwS n hts (gS hm) rfl rfl rfl hm.2.2.2.2 ⟨Nat.le_trans hroom.1 hfr, Nat.le_trans hroom.2 hlo⟩) ⟨fun _ _ _ _ h => h, fun U hU hW => ⟨rfl, hw⟩⟩ rfl hn hl.1 hst (lv_room hrs) hd ⟨Nat.zero_le _, Nat.zero_le _⟩) kk
theorem r_callS {as : List Value} {w : (Int32 → Prop) → Prop} {Q : Int32 → Prop} (C : CX p R s m args meth c cc nL own fr lo D cs) (hl : lv_has ls nL lv) (hM : MetS l y b nL' ret fr' lo' as w) (hm : MS own idx y b nL' (some ret) n) (hroom : fr' + 1 ≤ fr ∧ 8 + (nL' + 11) + lo' ≤ lo) (hn : as.length = n) (hst : st = as.reverse ++ rest) (hrs : (rest.map fun v => v.category).sum ≤ 8) (hw : w Q) (hd : decode cc pc = .ok (.invokestatic idx, 3))
    (kk : ∀ r : Int32, Q r → W p l e R s m args below meth c H locs 0 0 E (F0 m (pc + 3) ls (.int r :: rest))) : W p l e R s m args below meth c H locs 0 0 E (F0 m pc ls st) := by
  obtain ⟨hx, hb, hml, hown, hts, hK, hN, hfr, hlo⟩ := C
  exact r_stat hx hb hml hown hts hfr hlo hl hM hm hroom hn hst hrs hw hd kk
theorem r_callN {as : List Value} {host : String} {w : (Int32 → Prop) → Prop} {Q : Int32 → Prop} (C : CX p R s m args meth c cc nL own fr lo D cs) (hl : lv_has ls nL lv) (hM : MetS l y b nL' ret fr' lo' as w) (hm : MN own idx y host b nL' (some ret) n) (hroom : fr' + 1 ≤ fr ∧ 8 + (nL' + 11) + lo' ≤ lo) (hn : as.length = n) (hst : st = as.reverse ++ rest) (hrs : (rest.map fun v => v.category).sum ≤ 8) (hw : w Q) (hd : decode cc pc = .ok (.invokestatic idx, 3))
    (kk : ∀ r : Int32, Q r → W p l e R s m args below meth c H locs 0 0 E (F0 m (pc + 3) ls (.int r :: rest))) : W p l e R s m args below meth c H locs 0 0 E (F0 m pc ls st) := by
  obtain ⟨hx, hb, hml, hown, hts, hK, hN, hfr, hlo⟩ := C
  have run := va_runSN (locs := locs) (meth := meth) (below := below) (e := e) (H := H) (cells := 0) (slots := 0) (g := F0 m pc ls st) (As := as) (rest := rest) ⟨hx, hb, hml, hown, hts⟩ (hM Q) ⟨va_cnB n hts (gC hm.2.2.2.1) rfl rfl rfl (hN _ hm.1) (hts _ hm.2.2.1) hm.2.2.2.2 ⟨Nat.le_trans hroom.1 hfr, Nat.le_trans hroom.2 hlo⟩, hts _ hm.2.1, trivial⟩ ⟨fun _ _ _ _ h => h, fun U hU hW => ⟨rfl, hw⟩⟩ rfl hn hl.1 hst (lv_room hrs) hd ⟨Nat.zero_le _, Nat.zero_le _⟩
  refine vp_callSi (post := Q) (a := as.toArray) (fun T hT X => ?_) kk
  obtain ⟨v, st₀, t, T', L, h0, X', hL, e1, e2, hq, st⟩ := run T hT X
  exact ⟨v, st₀, t, T', L, h0, X', hL, e1, hq, st⟩
end CALLS
theorem nar_z {r : Int32} (h : r = 0 ∨ r = 1) : narrow .boolean (.int r) = .int r := by
  rcases h with rfl | rfl <;> rfl
theorem sw_out {x : Int32} (hi : Nat) (hhi : hi < 2 ^ 31) (h : ∀ k, k ≤ hi → ¬ x = nI k) : x.toInt < 0 ∨ (hi : Int) < x.toInt := by
  rcases Int.lt_or_le x.toInt 0 with h1 | h1
  · exact Or.inl h1
  · rcases Int.lt_or_le (hi : Int) x.toInt with h2 | h2
    · exact Or.inr h2
    · exfalso
      obtain ⟨j, hj, rfl⟩ := nI_of (x := x) (by rw [Int32.lt_iff_toInt_lt]; exact Int.not_lt.mpr h1)
      rw [nI_toInt hj] at h2
      exact h j (by omega) rfl
