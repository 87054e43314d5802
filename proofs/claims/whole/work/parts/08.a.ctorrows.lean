/-! ===== rows for constructors: cells come one by one, in a list ===== -/
theorem to_wd {cs : Nat → ClassId} {L : List Lay} {q : Nat → Nat} {σ : St} {ws : va_W} (hl : ws.length = L.length) (h : ∀ (k : Nat) (x : Lay), L[k]? = some x → ws[k]? = some (q k, cval cs q σ k x)) : ws = wd cs L q σ := by
  apply List.ext_getElem?
  intro k
  cases hx : L[k]? with
  | none =>
    have h1 : L.length ≤ k := List.getElem?_eq_none_iff.mp hx
    have h2 : ws[k]? = none := List.getElem?_eq_none_iff.mpr (by omega)
    rw [h2]
    unfold wd
    rw [List.getElem?_mapIdx, hx]
    rfl
  | some x => rw [h k x hx, wd_at hx]
theorem S_mono {A B : Nat → Prop} {H0 H : Heap} {locs : List Loc} (h : ∀ a, A a → B a) (hS : va_S A H0 H locs) : va_S B H0 H locs := ⟨hS.1, fun a h1 h2 => hS.2.1 a h1 (fun z => h2 (h a z)), fun x hx => h _ (hS.2.2 x hx)⟩
def zst : St := (fun _ _ => 0, fun _ _ => 0)
def FF (own : String) (idx ci j : Nat) (ty : FieldType) : Prop := ∃ (C : String) (T : u_T) (N : Nat) (ty0 : Nat → FieldType), vwCl[ci]? = some (C, T, N) ∧ (∀ w ∈ u_ws C T N, w ∈ gw) ∧ j < N ∧ Cond.fieldLink own idx (T j).1 (T j).2.1 (T j).2.2.1 ∈ gw ∧ (∀ k, k < N → parseFieldDescriptor (T k).2.2.1 = some (ty0 k)) ∧ (∀ a, a < N → ∀ b, b < N → a ≠ b → (T a).2.1 ≠ (T b).2.1) ∧ (T j).2.2.2 = true ∧ (T j).1 = own ∧ parseFieldDescriptor (T j).2.2.1 = some ty
def KX (p : Program) (R : Room) (s : State) (m : MethodId) (args : Array Value) (meth : Method) (c : Code) (cc : ByteArray) (nL : Nat) (own : String) (rm : Room) (D : va_G) (cs : Nat → ClassId) (A : Nat → Prop) : Prop :=
  p.tables.exec = Jvm.exec ∧ c.code = cc ∧ c.maxLocals = nL ∧ s.vm.findClass own = some m.cls ∧ (∀ w ∈ gw, w.before args s = true) ∧ va_K D vwCl (tys cs) s ∧ NW s ∧ meth.name = "<init>" ∧ R = rm ∧ ∀ a, s.heap.size ≤ a → A a
def MetN (l : Launch) (y : MethodName) (b : ByteArray) (nL : Nat) (rm : Room) (ci : Nat) (dflt : List Value) (L : List Lay) (as : List Value) (mc ms : Nat) (post : Nat → (Nat → Nat) × St → Prop) : Prop :=
  ∀ (D : va_G) (cs : Nat → ClassId) (h sz : Nat), Met l y (.code y b nL none :: gw) rm (va_Pc (.ref h :: as) (fun U => U.heap.size = sz ∧ va_P D vwCl [(h, .inr (ci, dflt))] U.heap ∧ va_K D vwCl (tys cs) U ∧ NW U ∧ va_D (fun _ => True) [(h, .inr (ci, dflt))])) (va_Qv (post h) (fun (u : (Nat → Nat) × St) (t : State) => va_P D vwCl (wd cs L u.1 u.2) t.heap ∧ va_D (va_A [(h, .inr (ci, dflt))] sz) (wd cs L u.1 u.2)) (va_A [(h, .inr (ci, dflt))] sz)) mc ms (va_A [(h, .inr (ci, dflt))] sz)
theorem mk_N {l : Launch} {y : MethodName} {b : ByteArray} {nL : Nat} {rm : Room} {ci : Nat} {dflt : List Value} {L : List Lay} {as : List Value} {mc ms : Nat} {post : Nat → (Nat → Nat) × St → Prop} {own : String} (hy : plainName y.cls = true) (ho : y.cls = own) (hin : y.name = "<init>") (hn : ∀ h, (lg_sl (.ref h :: as)).length ≤ nL)
    (body : ∀ {p : Program} {e : Env} {R : Room} {s : State} {m : MethodId} {args : Array Value} {below : List Frame} {meth : Method} {c : Code} {E : State → Prop} {D : va_G} {cs : Nat → ClassId} {A : Nat → Prop} {h : Nat} {ls : Array Slot}, KX p R s m args meth c b nL own rm D cs A → (∀ a, A a ↔ (a = h ∨ s.heap.size ≤ a)) → va_P D vwCl [(h, .inr (ci, dflt))] s.heap → va_D A [(h, .inr (ci, dflt))] → lv_has ls nL (lv_args 0 (.ref h :: as)) →
      (∀ (u : (Nat → Nat) × St) (H : Heap) (locs : List Loc) (pc : Nat) (ls : Array Slot), post h u → va_P D vwCl (wd cs L u.1 u.2) H → va_D A (wd cs L u.1 u.2) → va_S A s.heap H locs → decode b pc = .ok (.return_, 1) → W p l e R s m args below meth c H locs mc ms E (F0 m pc ls [])) → W p l e R s m args below meth c s.heap [] 0 0 E (F0 m 0 ls [])) : MetN l y b nL rm ci dflt L as mc ms post := by
  intro D cs h sz
  refine Met.ofW (cc := b) (maxL := nL) (ret := none) hy rfl ?_
  intro p e s m args below meth c s₁ B hml hv
  obtain ⟨rfl, hsz, hP, hK, hN, hD0⟩ := hv
  have hts0 := atoms_spec (ws := .code y b nL none :: gw) B.pre
  have hown : s.vm.findClass y.cls = some m.cls := findClass_of_methodNamed B.named
  rw [ho] at hown
  have hl := lv_entry (.ref h :: as) (n := nL) (hn h)
  rw [lg_entry_eq]
  generalize (lg_sl (.ref h :: as) ++ List.replicate (nL - (lg_sl (.ref h :: as)).length) Slot.unset).toArray = ls at hl ⊢
  subst hsz
  have hlocks := B.notSynchronized
  have hr := B.returns
  have hx := B.exec
  have hb := B.bytes
  have hnm : meth.name = "<init>" := ((name_of_methodNamed B.named B.method).1).trans hin
  have hAi : ∀ a, va_A [(h, .inr (ci, dflt))] s.heap.size a ↔ (a = h ∨ s.heap.size ≤ a) := by
    intro a
    constructor
    · rintro (⟨k, x, hk⟩ | hk)
      · cases k with
        | zero => cases hk; exact Or.inl rfl
        | succ k => cases hk
      · exact Or.inr hk
    · rintro (rfl | hk)
      · exact Or.inl ⟨0, _, rfl⟩
      · exact Or.inr hk
  refine body (A := va_A [(h, .inr (ci, dflt))] s.heap.size) ⟨hx, hb, hml, hown, fun w h => hts0 w (List.mem_cons_of_mem _ h), hK, hN, hnm, rfl, fun a ha => Or.inr ha⟩ hAi hP hD0.self hl ?_
  intro u H locs pc ls' hp hP1 hD1 hS1 hdg
  exact W.vret hx hb hr (fun t ht hW => ⟨⟨u, rfl, hp, by rw [ht]; exact hP1, hD1⟩, hS1.F ht⟩) hS1.2.2 hdg
section CTOR
variable {p : Program} {l : Launch} {e : Env} {R : Room} {s : State} {m : MethodId} {args : Array Value} {below : List Frame} {meth : Method} {c : Code} {H : Heap} {locs : List Loc} {E : State → Prop} {cells slots : Nat}
variable {cc : ByteArray} {nL : Nat} {own : String} {rm : Room} {D : va_G} {cs : Nat → ClassId} {A : Nat → Prop} {ws : va_W} {pc : Nat} {ls : Array Slot} {rest st : List Value} {lv : List (Nat × Value)}
theorem k_newa (C : KX p R s m args meth c cc nL own rm D cs A) (hP : va_P D vwCl ws H) (hD : va_D A ws) (hS : va_S A s.heap H locs) {atype : ArrayType} {ty : FieldType} (t : Nat) (harr : Cond.arrayClass ty ∈ gw) (hty : newarray.typeOf atype = ty) (htt : (tys cs)[t]? = some (cs t, ty)) (hra : ∀ x y : ClassId, va_RA s x ty → va_RA s y ty → x = y) {n : Int32} {N : Nat} {a0 : vp_A} (ha : ∀ cA : ClassId, vp_cell cA a0 = arrV cA N (fun _ => defaultValue ty)) (hn : ¬ n < 0) (hN : n.toNatClampNeg = N) (hbytes : N * componentBytes ty ≤ 536870912) (hcells : cells + 1 ≤ R.cells) (hslots : slots + N ≤ R.slots) (hdg : decode cc pc = .ok (.newarray atype, 2))
    (kk : ∀ (a : Nat) (H : Heap), va_P D vwCl (ws ++ [(a, .inl (cs t, a0))]) H → va_D A (ws ++ [(a, .inl (cs t, a0))]) → va_S A s.heap H locs → W p l e R s m args below meth c H locs (cells + 1) (slots + N) E (F0 m (pc + 2) ls (.ref a :: rest))) : W p l e R s m args below meth c H locs cells slots E (F0 m pc ls (.int n :: rest)) := by
  obtain ⟨hx, hb, hml, hown, hts, hK, hN', hin, hR, hA⟩ := C
  refine va_newa hx hb (by rw [hty]; exact hts _ harr) hty hK hP hD hS hA ha hn hN hbytes hcells hslots hdg (fun a cA H1 hK1 hP1 hD1 hS1 => ?_)
  have h1 := (hK1.2 4 (cA, ty) rfl).2
  have h2 := (hK.2 t _ htt).2
  have h3 := hra _ _ h1 h2
  subst h3
  exact kk a H1 hP1 hD1 hS1
theorem k_putF (C : KX p R s m args meth c cc nL own rm D cs A) (hP : va_P D vwCl ws H) (hD : va_D A ws) (hS : va_S A s.heap H locs) {idx ci j a : Nat} {ty : FieldType} {fs : List Value} {v : Value} (F : FF own idx ci j ty) (i : Nat) (he : ws[i]? = some (a, .inr (ci, fs))) (hn : narrow ty v = v) (hfit : fits ty v = true) (hl : j < fs.length) (hd : decode cc pc = .ok (.putfield idx, 3))
    (kk : ∀ (H : Heap) (locs : List Loc), va_P D vwCl (ws.set i (a, .inr (ci, fs.set j v))) H → va_D A (ws.set i (a, .inr (ci, fs.set j v))) → va_S A s.heap H locs → W p l e R s m args below meth c H locs cells slots E (F0 m (pc + 3) ls rest)) : W p l e R s m args below meth c H locs cells slots E (F0 m pc ls (v :: .ref a :: rest)) := by
  obtain ⟨hx, hb, hml, hown, hts, hK, hN', hin, hR, hA⟩ := C
  obtain ⟨Cn, T, N, ty0, hc, hi, hj, hlk, hty, hnm, hfin, hdecl, hdd⟩ := F
  exact va_putF hx hb hts hi ty0 hty hnm hown hK hP hD hS i he hc j hj (hts _ hlk) (fun _ h => h) hfin hin hdecl hdd hn hfit hl hd kk
theorem k_put (C : KX p R s m args meth c cc nL own rm D cs A) (hP : va_P D vwCl ws H) (hD : va_D A ws) (hS : va_S A s.heap H locs) {idx ci j a : Nat} {ty : FieldType} {fs : List Value} {v : Value} (F : FP own idx ci j ty) (i : Nat) (he : ws[i]? = some (a, .inr (ci, fs))) (hn : narrow ty v = v) (hfit : fits ty v = true) (hl : j < fs.length) (hd : decode cc pc = .ok (.putfield idx, 3))
    (kk : ∀ (H : Heap) (locs : List Loc), va_P D vwCl (ws.set i (a, .inr (ci, fs.set j v))) H → va_D A (ws.set i (a, .inr (ci, fs.set j v))) → va_S A s.heap H locs → W p l e R s m args below meth c H locs cells slots E (F0 m (pc + 3) ls rest)) : W p l e R s m args below meth c H locs cells slots E (F0 m pc ls (v :: .ref a :: rest)) := by
  obtain ⟨hx, hb, hml, hown, hts, hK, hN', hin, hR, hA⟩ := C
  obtain ⟨Cn, T, N, ty0, hc, hi, hj, hlk, hty, hnm, hfin, hdd⟩ := F
  exact va_put hx hb hts hi ty0 hty hnm hown hK hP hD hS i he hc j hj (hts _ hlk) (fun _ h => h) hfin hdd hn hfit hl hd kk
theorem k_get (C : KX p R s m args meth c cc nL own rm D cs A) (hP : va_P D vwCl ws H) {idx ci j a : Nat} {fs : List Value} {v : Value} (F : FL own idx ci j) (i : Nat) (he : ws[i]? = some (a, .inr (ci, fs))) (hv : fs[j]? = some v) (hd : decode cc pc = .ok (.getfield idx, 3))
    (kk : W p l e R s m args below meth c H locs cells slots E (F0 m (pc + 3) ls (v :: rest))) : W p l e R s m args below meth c H locs cells slots E (F0 m pc ls (.ref a :: rest)) := by
  obtain ⟨hx, hb, hml, hown, hts, hK, hN', hin, hR, hA⟩ := C
  obtain ⟨Cn, T, N, hc, hi, hj, hlk⟩ := F
  exact va_get hx hb hts hi hown hK hP i he hc j hj (hts _ hlk) (fun _ h => h) hv hd kk
def NX (own : String) (idx ci N : Nat) : Prop := ∃ (C : String) (T : u_T) (ty0 : Nat → FieldType), vwCl[ci]? = some (C, T, N) ∧ (∀ w ∈ u_ws C T N, w ∈ gw) ∧ (∀ k, k < N → parseFieldDescriptor (T k).2.2.1 = some (ty0 k)) ∧ Cond.classLink own idx C ∈ gw ∧ Cond.instantiable C N ∈ gw ∧ Cond.initialized C ∈ gw
theorem k_new (hx : p.tables.exec = Jvm.exec) (hb : c.code = cc) (hown : s.vm.findClass own = some m.cls) (hts : ∀ w ∈ gw, w.before args s = true) (hK : va_K D vwCl (tys cs) s) (hA : ∀ a, s.heap.size ≤ a → A a) (hP : va_P D vwCl ws H) (hD : va_D A ws) (hS : va_S A s.heap H locs) {C : String} {T : u_T} {ty0 : Nat → FieldType} {idx ci N : Nat} {fs : List Value} (hc : vwCl[ci]? = some (C, T, N)) (hi : ∀ w ∈ u_ws C T N, w ∈ gw) (hty : ∀ k, k < N → parseFieldDescriptor (T k).2.2.1 = some (ty0 k)) (h1 : Cond.classLink own idx C ∈ gw) (h2 : Cond.instantiable C N ∈ gw) (h3 : Cond.initialized C ∈ gw) (hfs : ∀ j, j < N → defaultValue (ty0 j) = vp_V fs j) (hcells : cells + 1 ≤ R.cells) (hslots : slots + N ≤ R.slots) (hd : decode cc pc = .ok (.new idx, 3))
    (kk : ∀ (a : Nat) (H : Heap), va_P D vwCl (ws ++ [(a, .inr (ci, fs))]) H → va_D A (ws ++ [(a, .inr (ci, fs))]) → va_S A s.heap H locs → W p l e R s m args below meth c H locs (cells + 1) (slots + N) E (F0 m (pc + 3) ls (.ref a :: rest))) : W p l e R s m args below meth c H locs cells slots E (F0 m pc ls rest) :=
  va_new hx hb hts hi ty0 hty hown (hts _ h1) (hts _ h2) (hts _ h3) hK hP hD hS hA hc hfs hcells hslots hd kk
variable {y : MethodName} {b : ByteArray} {nL' idx n ci mc ms a : Nat} {rm' : Room} {dflt : List Value} {L : List Lay} {as : List Value} {post : Nat → (Nat → Nat) × St → Prop} {wr' : va_W} {host : String}
theorem k_callI (hx : p.tables.exec = Jvm.exec) (hb : c.code = cc) (hml : c.maxLocals = nL) (hown : s.vm.findClass own = some m.cls) (hts : ∀ w ∈ gw, w.before args s = true) (hK : va_K D vwCl (tys cs) s) (hN : NW s) (hA : ∀ a, s.heap.size ≤ a → A a) (hP : va_P D vwCl ws H) (hD : va_D A ws) (hS : va_S A s.heap H locs) (hl : lv_has ls nL lv) (hM : MetN l y b nL' rm' ci dflt L as mc ms post) (hcode : Cond.code y b nL' none ∈ gw) (hini : Cond.initialized y.cls ∈ gw) (hlk : Cond.methodLink own idx y ∈ gw) (him : Cond.instanceMethod y ∈ gw) (hy1 : y.name = "<init>") (hyd : y.cls ≠ "java/lang/invoke/MethodHandle" ∧ y.cls ≠ "java/lang/invoke/VarHandle" ∧ (parseMethodDescriptor y.desc).map (fun d => d.parameters.length) = some n) (hrm : rm'.cells = mc ∧ rm'.slots = ms) (hroom : rm'.frames + 1 ≤ R.frames ∧ 8 + (nL' + 11) + rm'.locals ≤ R.locals) (hfit : cells + mc ≤ R.cells ∧ slots + ms ≤ R.slots) (i : Nat) (isR : List Nat) (he : ws[i]? = some (a, .inr (ci, dflt))) (hR : isR.map (fun i => ws[i]?) = wr'.map some) (hnd : va_nd isR = true) (hdis : ∀ j ∈ isR, j ∉ [i]) (hn : as.length = n) (hst : st = as.reverse ++ .ref a :: rest) (hrs : (rest.map fun v => v.category).sum ≤ 8) (hd : decode cc pc = .ok (.invokespecial idx, 3))
    (kk : ∀ (u : (Nat → Nat) × St) (H : Heap) (locs : List Loc), post a u → va_P D vwCl (wr' ++ wd cs L u.1 u.2) H → va_D A (wr' ++ wd cs L u.1 u.2) → va_S A s.heap H locs → W p l e R s m args below meth c H locs (cells + mc) (slots + ms) E (F0 m (pc + 3) ls rest)) : W p l e R s m args below meth c H locs cells slots E (F0 m pc ls st) := by
  have hC : [i].map (fun i => ws[i]?) = ([(a, .inr (ci, dflt))] : va_W).map some := by simp [he]
  have hFc := va_free hD hS hA [i] hC
  have hPc : va_P D vwCl [(a, .inr (ci, dflt))] H := hP.sub (ws' := [(a, .inr (ci, dflt))]) [i] (by simp [he])
  have hDc : va_D A [(a, .inr (ci, dflt))] := hD.sub (ws' := [(a, .inr (ci, dflt))]) [i] (by simp [va_nd]) hC
  refine va_callv (va_runI (As := as) (rest := rest) ⟨hx, hb, hml, hown, hts⟩ (hM D cs a H.size) (cwI n hts (gC hcode) rfl hrm.1 hrm.2 (hts _ hini) (hts _ hlk) (hts _ him) hy1 hyd hroom) ⟨fun a U g mk h => by obtain ⟨h0, h1, h2, h3, h4, h5⟩ := h; exact ⟨h0, h1, h2, va_K.moved (u := U) (U := U.calling g mk a) (Vm.Alike.refl U.vm) h3, NW.same rfl h4, h5⟩, fun U hU hW => ⟨rfl, by rw [hU], by rw [hU]; exact hPc, va_K.moved hW.alike hK, NW.warm hW hN, hDc.weaken (fun _ _ _ _ => trivial)⟩⟩ rfl hn hl.1 hst (lv_room hrs) hd hfit) hS (fun x _ h => hFc x h) hFc (fun u t H1 locs1 ht hvm hp hB hz hk hS1 => ?_)
  obtain ⟨hP1, hD1⟩ := hB
  rw [ht] at hP1
  obtain ⟨hP2, hD2⟩ := va_join hP hD [i] isR hC hR hnd hdis hk hFc hP1 hD1
  exact kk u H1 locs1 hp hP2 hD2 hS1
theorem k_callIN (hx : p.tables.exec = Jvm.exec) (hb : c.code = cc) (hml : c.maxLocals = nL) (hown : s.vm.findClass own = some m.cls) (hts : ∀ w ∈ gw, w.before args s = true) (hK : va_K D vwCl (tys cs) s) (hN : NW s) (hA : ∀ a, s.heap.size ≤ a → A a) (hP : va_P D vwCl ws H) (hD : va_D A ws) (hS : va_S A s.heap H locs) (hl : lv_has ls nL lv) (hM : MetN l y b nL' rm' ci dflt L as mc ms post) (hcode : Cond.code y b nL' none ∈ gw) (hini : Cond.initialized y.cls ∈ gw) (hlk : (own, idx, y, host) ∈ nestL) (him : Cond.instanceMethod y ∈ gw) (hy1 : y.name = "<init>") (hyd : y.cls ≠ "java/lang/invoke/MethodHandle" ∧ y.cls ≠ "java/lang/invoke/VarHandle" ∧ (parseMethodDescriptor y.desc).map (fun d => d.parameters.length) = some n) (hrm : rm'.cells = mc ∧ rm'.slots = ms) (hroom : rm'.frames + 1 ≤ R.frames ∧ 8 + (nL' + 11) + rm'.locals ≤ R.locals) (hfit : cells + mc ≤ R.cells ∧ slots + ms ≤ R.slots) (i : Nat) (isR : List Nat) (he : ws[i]? = some (a, .inr (ci, dflt))) (hR : isR.map (fun i => ws[i]?) = wr'.map some) (hnd : va_nd isR = true) (hdis : ∀ j ∈ isR, j ∉ [i]) (hn : as.length = n) (hst : st = as.reverse ++ .ref a :: rest) (hrs : (rest.map fun v => v.category).sum ≤ 8) (hd : decode cc pc = .ok (.invokespecial idx, 3))
    (kk : ∀ (u : (Nat → Nat) × St) (H : Heap) (locs : List Loc), post a u → va_P D vwCl (wr' ++ wd cs L u.1 u.2) H → va_D A (wr' ++ wd cs L u.1 u.2) → va_S A s.heap H locs → W p l e R s m args below meth c H locs (cells + mc) (slots + ms) E (F0 m (pc + 3) ls rest)) : W p l e R s m args below meth c H locs cells slots E (F0 m pc ls st) := by
  have hC : [i].map (fun i => ws[i]?) = ([(a, .inr (ci, dflt))] : va_W).map some := by simp [he]
  have hFc := va_free hD hS hA [i] hC
  have hPc : va_P D vwCl [(a, .inr (ci, dflt))] H := hP.sub (ws' := [(a, .inr (ci, dflt))]) [i] (by simp [he])
  have hDc : va_D A [(a, .inr (ci, dflt))] := hD.sub (ws' := [(a, .inr (ci, dflt))]) [i] (by simp [va_nd]) hC
  refine va_callv (va_runIN (As := as) (rest := rest) ⟨hx, hb, hml, hown, hts⟩ (hM D cs a H.size) ⟨va_cnB n hts (gC hcode) rfl hrm.1 hrm.2 (hN _ hlk) (hts _ hini) hyd hroom, hy1, hts _ him⟩ ⟨fun a U g mk h => by obtain ⟨h0, h1, h2, h3, h4, h5⟩ := h; exact ⟨h0, h1, h2, va_K.moved (u := U) (U := U.calling g mk a) (Vm.Alike.refl U.vm) h3, NW.same rfl h4, h5⟩, fun U hU hW => ⟨rfl, by rw [hU], by rw [hU]; exact hPc, va_K.moved hW.alike hK, NW.warm hW hN, hDc.weaken (fun _ _ _ _ => trivial)⟩⟩ rfl hn hl.1 hst (lv_room hrs) hd hfit) hS (fun x _ h => hFc x h) hFc (fun u t H1 locs1 ht hvm hp hB hz hk hS1 => ?_)
  obtain ⟨hP1, hD1⟩ := hB
  rw [ht] at hP1
  obtain ⟨hP2, hD2⟩ := va_join hP hD [i] isR hC hR hnd hdis hk hFc hP1 hD1
  exact kk u H1 locs1 hp hP2 hD2 hS1
end CTOR
theorem RA_I {s : State} : ∀ x y : ClassId, va_RA s x .int → va_RA s y .int → x = y := fun _ _ h1 h2 => Option.some.inj (h1.symm.trans h2)
theorem RA_Z {s : State} : ∀ x y : ClassId, va_RA s x .boolean → va_RA s y .boolean → x = y := fun _ _ h1 h2 => Option.some.inj (h1.symm.trans h2)
theorem RA_B {s : State} : ∀ x y : ClassId, va_RA s x .byte → va_RA s y .byte → x = y := fun _ _ h1 h2 => Option.some.inj (h1.symm.trans h2)
theorem RA_J {s : State} : ∀ x y : ClassId, va_RA s x .long → va_RA s y .long → x = y := fun _ _ h1 h2 => Option.some.inj (h1.symm.trans h2)
