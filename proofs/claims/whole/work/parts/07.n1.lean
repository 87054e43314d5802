section
variable {p : Program} {l : Launch} {e : Env} {R : Room} {s : State} {m : MethodId} {args : Array Value} {below : List Frame} {meth : Method} {c : Code} {E : State → Prop}
variable {D : va_G} {cs : Nat → ClassId} {q : Nat → Nat}
variable {Q : Int32 → Prop}
def w_X11_lies (x0 : Int32) (x1 : Int32) (x2 : Int32) (Q : Int32 → Prop) : Prop := (x0 < x1 → (Q 0)) ∧ (¬ x0 < x1 → ((x2 < x0 → (Q 0)) ∧ (¬ x2 < x0 → (Q 1))))
set_option maxHeartbeats 4000000 in
set_option maxRecDepth 100000 in
theorem b_X11_lies (hx : p.tables.exec = Jvm.exec) (hb : c.code = cX11_lies) (hml : c.maxLocals = 3) (hown : s.vm.findClass RX11 = some m.cls) (hts : ∀ w ∈ gw, w.before args s = true) (hfr : 0 ≤ R.frames) (hlo : 0 ≤ R.locals) (hE : RS p l e R s m args below meth c cX11_lies .boolean Q E) : ∀ (x0 : Int32) (x1 : Int32) (x2 : Int32) (ls : Array Slot), lv_has ls 3 [(0, .int x0), (1, .int x1), (2, .int x2)] → w_X11_lies x0 x1 x2 Q → W p l e R s m args below meth c s.heap [] 0 0 E (F0 m 0 ls []) := by
  intro x0 x1 x2 ls hl hf
  unfold w_X11_lies at hf
  refine lv_iload_n hx hb dX11_lies_0 rfl (lv_at hl 0 rfl) ?_
  refine lv_iload_n hx hb dX11_lies_1 rfl (lv_at hl 1 rfl) ?_
  refine lv_icmp_lt (tgt := 14) hx hb dX11_lies_2 (by decide) (fun c_1 => ?_) (fun c_1 => ?_)
  · have hf := hf.1 c_1
    refine lv_iconst (v := 0) hx hb dX11_lies_14 (by decide) ?_
    exact hE _ _ _ rfl hf dX11_lies_15
  · have hf := hf.2 c_1
    refine lv_iload_n hx hb dX11_lies_5 rfl (lv_at hl 0 rfl) ?_
    refine lv_iload_n hx hb dX11_lies_6 rfl (lv_at hl 2 rfl) ?_
    refine lv_icmp_gt (tgt := 14) hx hb dX11_lies_7 (by decide) (fun c_2 => ?_) (fun c_2 => ?_)
    · have hf := hf.1 c_2
      refine lv_iconst (v := 0) hx hb dX11_lies_14 (by decide) ?_
      exact hE _ _ _ rfl hf dX11_lies_15
    · have hf := hf.2 c_2
      refine lv_iconst (v := 1) hx hb dX11_lies_10 (by decide) ?_
      refine lv_goto (tgt := 15) hx hb dX11_lies_11 (by decide) ?_
      exact hE _ _ _ rfl hf dX11_lies_15
theorem c_X11_lies (l : Launch) (x0 : Int32) (x1 : Int32) (x2 : Int32) : MetS l yX11_lies cX11_lies 3 .boolean 0 0 [.int x0, .int x1, .int x2] (w_X11_lies x0 x1 x2) := mk_S (own := RX11) (by decide) rfl (Nat.le_of_ble_eq_true rfl) (fun hx hb hml hown hts hfr hlo hE hl hf => b_X11_lies hx hb hml hown hts hfr hlo hE x0 x1 x2 _ hl hf)
end
section
variable {p : Program} {l : Launch} {e : Env} {R : Room} {s : State} {m : MethodId} {args : Array Value} {below : List Frame} {meth : Method} {c : Code} {E : State → Prop}
variable {D : va_G} {cs : Nat → ClassId} {q : Nat → Nat}
variable {Q : St → Prop}
def w_X11_push_3 (Q : St → Prop) : Nat → Int32 → Int32 → St → Prop
  | 0, _, _, _ => False
  | n + 1, x1, x2, σ => (x2 < 0 → (Q σ)) ∧ (¬ x2 < 0 → (vp_in (σ.1 0 1) 40 ∧ (∀ σ_2 : St, σ_2 = wr σ 1 (σ.1 0 1).toNatClampNeg ((x1 >>> (x2 &&& 31)).toInt8.toInt32).toInt8.toInt32 → (∀ σ_3 : St, σ_3 = wr σ_2 0 1 ((σ_2.1 0 1) + 1) → (w_X11_push_3 Q n x1 (x2 + (-8)) σ_3)))))
set_option maxHeartbeats 4000000 in
set_option maxRecDepth 100000 in
theorem b_X11_push_3 (C : CX p R s m args meth c cX11_push 3 RX11 0 0 D cs) (hE : RV p l e R s m args below meth c cX11_push D cs LM q Q E) : ∀ n : Nat, ∀ (x1 : Int32) (x2 : Int32) (σ : St) (H : Heap) (locs : List Loc) (ls : Array Slot), OK D cs LM q s σ H locs → lv_has ls 3 [(0, .ref (q 0)), (1, .int x1), (2, .int x2)] → w_X11_push_3 Q n x1 x2 σ → W p l e R s m args below meth c H locs 0 0 E (F0 m 3 ls []) := by
  have hx := C.1
  have hb := C.2.1
  intro n
  induction n with
  | zero => intro x1 x2 σ H locs ls O hl hf; exact hf.elim
  | succ n ih =>
    intro x1 x2 σ H locs ls O hl hf
    unfold w_X11_push_3 at hf
    refine lv_iload_n hx hb dX11_push_3 rfl (lv_at hl 2 rfl) ?_
    refine lv_if_lt (tgt := 36) hx hb dX11_push_4 (by decide) (fun c_1 => ?_) (fun c_1 => ?_)
    · have hf := hf.1 c_1
      exact hE _ _ _ _ _ O hf dX11_push_36
    · have hf := hf.2 c_1
      refine lv_aload_n hx hb dX11_push_7 rfl (lv_at hl 0 rfl) ?_
      refine r_get C O (k := 0) (j := 0) (v := .ref (q 1)) fX11_7 rfl rfl rfl dX11_push_8 ?_
      refine lv_aload_n hx hb dX11_push_11 rfl (lv_at hl 0 rfl) ?_
      refine r_get C O (k := 0) (j := 1) (v := .int (σ.1 0 1)) fX11_123 rfl rfl rfl dX11_push_12 ?_
      refine lv_iload_n hx hb dX11_push_15 rfl (lv_at hl 1 rfl) ?_
      refine lv_iload_n hx hb dX11_push_16 rfl (lv_at hl 2 rfl) ?_
      refine lv_ishr hx hb dX11_push_17 ?_
      refine lv_i2b (v := (x1 >>> (x2 &&& 31)).toInt8.toInt32) hx hb dX11_push_18 rfl ?_
      refine r_bast C O (k := 1) rfl hf.1 dX11_push_19 (fun H locs σ_2 eσ_2 O => ?_)
      have hf := hf.2 σ_2 eσ_2
      refine lv_aload_n hx hb dX11_push_20 rfl (lv_at hl 0 rfl) ?_
      refine lv_dup hx hb dX11_push_21 rfl ?_
      refine r_get C O (k := 0) (j := 1) (v := .int (σ_2.1 0 1)) fX11_123 rfl rfl rfl dX11_push_22 ?_
      refine lv_iconst (v := 1) hx hb dX11_push_25 (by decide) ?_
      refine lv_iadd hx hb dX11_push_26 ?_
      refine r_puti C O (k := 0) pX11_123 rfl rfl dX11_push_27 (fun H locs σ_3 eσ_3 O => ?_)
      have hf := hf σ_3 eσ_3
      refine lv_iinc (v := x2 + (-8)) (lv' := [(2, .int (x2 + (-8))), (0, .ref (q 0)), (1, .int x1)]) hx hb dX11_push_30 hl (k := 2) rfl rfl (by decide) rfl (fun ls hl => ?_)
      refine lv_goto (tgt := 3) hx hb dX11_push_33 (by decide) ?_
      exact ih x1 (x2 + (-8)) σ_3 _ _ ls O (lv_sub hl [1, 2, 0] rfl) hf
def w_X11_push (x1 : Int32) (σ : St) (Q : St → Prop) : Prop := ∃ nn : Nat, w_X11_push_3 Q nn x1 24 σ
set_option maxHeartbeats 4000000 in
set_option maxRecDepth 100000 in
theorem b_X11_push (C : CX p R s m args meth c cX11_push 3 RX11 0 0 D cs) (hE : RV p l e R s m args below meth c cX11_push D cs LM q Q E) : ∀ (x1 : Int32) (σ : St) (H : Heap) (locs : List Loc) (ls : Array Slot), OK D cs LM q s σ H locs → lv_has ls 3 [(0, .ref (q 0)), (1, .int x1)] → w_X11_push x1 σ Q → W p l e R s m args below meth c H locs 0 0 E (F0 m 0 ls []) := by
  have hx := C.1
  have hb := C.2.1
  intro x1 σ H locs ls O hl hf
  unfold w_X11_push at hf
  refine lv_bipush (v := 24) hx hb dX11_push_0 (by decide) ?_
  refine lv_istore_n (lv' := [(2, .int 24), (0, .ref (q 0)), (1, .int x1)]) hx hb dX11_push_2 rfl hl (by decide) rfl (fun ls hl => ?_)
  obtain ⟨nn, hf⟩ := hf
  exact b_X11_push_3 C hE nn x1 24 σ _ _ ls O (lv_sub hl [1, 2, 0] rfl) hf
theorem c_X11_push (l : Launch) (x1 : Int32) : MetV l yX11_push cX11_push 3 0 0 LM 0 (fun q => [.int x1]) (w_X11_push x1) := mk_V (own := RX11) (by decide) rfl (fun q => Nat.le_of_ble_eq_true rfl) (fun C hE O hl hf => b_X11_push C hE x1 _ _ _ _ O hl hf)
end
section
variable {p : Program} {l : Launch} {e : Env} {R : Room} {s : State} {m : MethodId} {args : Array Value} {below : List Frame} {meth : Method} {c : Code} {E : State → Prop}
variable {D : va_G} {cs : Nat → ClassId} {q : Nat → Nat}
variable {Q : Int32 → St → Prop}
def w_X11_feed (x1 : Int32) (x2 : Int32) (x3 : Int32) (x4 : Int32) (x5 : Int32) (σ : St) (Q : Int32 → St → Prop) : Prop := (((σ.1 0 1) + 20) ≤ 40 → (w_X11_push x1 σ (fun σ_2 => w_X11_push x2 σ_2 (fun σ_3 => w_X11_push x3 σ_3 (fun σ_4 => w_X11_push x4 σ_4 (fun σ_5 => w_X11_push x5 σ_5 (fun σ_6 => Q (σ_6.1 0 1) σ_6))))))) ∧ (¬ ((σ.1 0 1) + 20) ≤ 40 → (Q ((-1)) σ))
set_option maxHeartbeats 4000000 in
set_option maxRecDepth 100000 in
theorem b_X11_feed (C : CX p R s m args meth c cX11_feed 6 RX11 1 22 D cs) (hE : RI p l e R s m args below meth c cX11_feed D cs LM q .int Q E) : ∀ (x1 : Int32) (x2 : Int32) (x3 : Int32) (x4 : Int32) (x5 : Int32) (σ : St) (H : Heap) (locs : List Loc) (ls : Array Slot), OK D cs LM q s σ H locs → lv_has ls 6 [(0, .ref (q 0)), (1, .int x1), (2, .int x2), (3, .int x3), (4, .int x4), (5, .int x5)] → w_X11_feed x1 x2 x3 x4 x5 σ Q → W p l e R s m args below meth c H locs 0 0 E (F0 m 0 ls []) := by
  have hx := C.1
  have hb := C.2.1
  intro x1 x2 x3 x4 x5 σ H locs ls O hl hf
  unfold w_X11_feed at hf
  refine lv_aload_n hx hb dX11_feed_0 rfl (lv_at hl 0 rfl) ?_
  refine r_get C O (k := 0) (j := 1) (v := .int (σ.1 0 1)) fX11_123 rfl rfl rfl dX11_feed_1 ?_
  refine lv_bipush (v := 20) hx hb dX11_feed_4 (by decide) ?_
  refine lv_iadd hx hb dX11_feed_6 ?_
  refine lv_bipush (v := 40) hx hb dX11_feed_7 (by decide) ?_
  refine lv_icmp_le (tgt := 14) hx hb dX11_feed_9 (by decide) (fun c_1 => ?_) (fun c_1 => ?_)
  · have hf := hf.1 c_1
    refine lv_aload_n hx hb dX11_feed_14 rfl (lv_at hl 0 rfl) ?_
    refine lv_iload_n hx hb dX11_feed_15 rfl (lv_at hl 1 rfl) ?_
    refine r_callV C O hl (c_X11_push l x1) mX11_127 (by decide) rfl rfl rfl rfl (Nat.le_of_ble_eq_true rfl) hf dX11_feed_16 (fun σ_2 H locs O hf => ?_)
    refine lv_aload_n hx hb dX11_feed_19 rfl (lv_at hl 0 rfl) ?_
    refine lv_iload_n hx hb dX11_feed_20 rfl (lv_at hl 2 rfl) ?_
    refine r_callV C O hl (c_X11_push l x2) mX11_127 (by decide) rfl rfl rfl rfl (Nat.le_of_ble_eq_true rfl) hf dX11_feed_21 (fun σ_3 H locs O hf => ?_)
    refine lv_aload_n hx hb dX11_feed_24 rfl (lv_at hl 0 rfl) ?_
    refine lv_iload_n hx hb dX11_feed_25 rfl (lv_at hl 3 rfl) ?_
    refine r_callV C O hl (c_X11_push l x3) mX11_127 (by decide) rfl rfl rfl rfl (Nat.le_of_ble_eq_true rfl) hf dX11_feed_26 (fun σ_4 H locs O hf => ?_)
    refine lv_aload_n hx hb dX11_feed_29 rfl (lv_at hl 0 rfl) ?_
    refine lv_iload hx hb dX11_feed_30 (lv_at hl 4 rfl) ?_
    refine r_callV C O hl (c_X11_push l x4) mX11_127 (by decide) rfl rfl rfl rfl (Nat.le_of_ble_eq_true rfl) hf dX11_feed_32 (fun σ_5 H locs O hf => ?_)
    refine lv_aload_n hx hb dX11_feed_35 rfl (lv_at hl 0 rfl) ?_
    refine lv_iload hx hb dX11_feed_36 (lv_at hl 5 rfl) ?_
    refine r_callV C O hl (c_X11_push l x5) mX11_127 (by decide) rfl rfl rfl rfl (Nat.le_of_ble_eq_true rfl) hf dX11_feed_38 (fun σ_6 H locs O hf => ?_)
    refine lv_aload_n hx hb dX11_feed_41 rfl (lv_at hl 0 rfl) ?_
    refine r_get C O (k := 0) (j := 1) (v := .int (σ_6.1 0 1)) fX11_123 rfl rfl rfl dX11_feed_42 ?_
    exact hE _ _ _ _ _ _ (vp_nar_int _) O hf dX11_feed_45
  · have hf := hf.2 c_1
    refine lv_iconst (v := (-1)) hx hb dX11_feed_12 (by decide) ?_
    exact hE _ _ _ _ _ _ (vp_nar_int _) O hf dX11_feed_13
theorem c_X11_feed (l : Launch) (x1 : Int32) (x2 : Int32) (x3 : Int32) (x4 : Int32) (x5 : Int32) : MetI l yX11_feed cX11_feed 6 .int 1 22 LM 0 (fun q => [.int x1, .int x2, .int x3, .int x4, .int x5]) (w_X11_feed x1 x2 x3 x4 x5) := mk_I (own := RX11) (by decide) rfl (fun q => Nat.le_of_ble_eq_true rfl) (fun C hE O hl hf => b_X11_feed C hE x1 x2 x3 x4 x5 _ _ _ _ O hl hf)
end
section
variable {p : Program} {l : Launch} {e : Env} {R : Room} {s : State} {m : MethodId} {args : Array Value} {below : List Frame} {meth : Method} {c : Code} {E : State → Prop}
variable {D : va_G} {cs : Nat → ClassId} {q : Nat → Nat}
variable {Q : Int32 → St → Prop}
def w_X11_at (x1 : Int32) (x2 : Int32) (σ : St) (Q : Int32 → St → Prop) : Prop := (x2 ≤ x1 → (Q 0 σ)) ∧ (¬ x2 ≤ x1 → (vp_in x1 40 ∧ (Q ((σ.1 1 x1.toNatClampNeg) &&& 255) σ)))
set_option maxHeartbeats 4000000 in
set_option maxRecDepth 100000 in
theorem b_X11_at (C : CX p R s m args meth c cX11_at 3 RX11 0 0 D cs) (hE : RI p l e R s m args below meth c cX11_at D cs LM q .int Q E) : ∀ (x1 : Int32) (x2 : Int32) (σ : St) (H : Heap) (locs : List Loc) (ls : Array Slot), OK D cs LM q s σ H locs → lv_has ls 3 [(0, .ref (q 0)), (1, .int x1), (2, .int x2)] → w_X11_at x1 x2 σ Q → W p l e R s m args below meth c H locs 0 0 E (F0 m 0 ls []) := by
  have hx := C.1
  have hb := C.2.1
  intro x1 x2 σ H locs ls O hl hf
  unfold w_X11_at at hf
  refine lv_iload_n hx hb dX11_at_0 rfl (lv_at hl 1 rfl) ?_
  refine lv_iload_n hx hb dX11_at_1 rfl (lv_at hl 2 rfl) ?_
  refine lv_icmp_ge (tgt := 18) hx hb dX11_at_2 (by decide) (fun c_1 => ?_) (fun c_1 => ?_)
  · have hf := hf.1 c_1
    refine lv_iconst (v := 0) hx hb dX11_at_18 (by decide) ?_
    exact hE _ _ _ _ _ _ (vp_nar_int _) O hf dX11_at_19
  · have hf := hf.2 c_1
    refine lv_aload_n hx hb dX11_at_5 rfl (lv_at hl 0 rfl) ?_
    refine r_get C O (k := 0) (j := 0) (v := .ref (q 1)) fX11_7 rfl rfl rfl dX11_at_6 ?_
    refine lv_iload_n hx hb dX11_at_9 rfl (lv_at hl 1 rfl) ?_
    refine r_bald C O (k := 1) rfl hf.1 dX11_at_10 ?_
    have hf := hf.2
    refine lv_sipush (v := 255) hx hb dX11_at_11 (by decide) ?_
    refine lv_iand hx hb dX11_at_14 ?_
    refine lv_goto (tgt := 19) hx hb dX11_at_15 (by decide) ?_
    exact hE _ _ _ _ _ _ (vp_nar_int _) O hf dX11_at_19
theorem c_X11_at (l : Launch) (x1 : Int32) (x2 : Int32) : MetI l yX11_at cX11_at 3 .int 0 0 LM 0 (fun q => [.int x1, .int x2]) (w_X11_at x1 x2) := mk_I (own := RX11) (by decide) rfl (fun q => Nat.le_of_ble_eq_true rfl) (fun C hE O hl hf => b_X11_at C hE x1 x2 _ _ _ _ O hl hf)
end
section
variable {p : Program} {l : Launch} {e : Env} {R : Room} {s : State} {m : MethodId} {args : Array Value} {below : List Frame} {meth : Method} {c : Code} {E : State → Prop}
variable {D : va_G} {cs : Nat → ClassId} {q : Nat → Nat}
variable {Q : Int32 → St → Prop}
def w_X11_reads_175 (Q : Int32 → St → Prop) (K14 : Int32 → Int32 → Int32 → St → Prop) (x1 : Int32) (x2 : Int32) (x3 : Int32) (σ : St) : Prop := (¬ x2 = x1 → (w_X11_at x2 x1 σ (fun r_3 σ_2 => (r_3 = 59 → (K14 x1 (x2 + 1) (x3 + 1) σ_2)) ∧ (¬ r_3 = 59 → (Q (400 + x2) σ_2))))) ∧ (x2 = x1 → (Q 0 σ))
set_option maxHeartbeats 4000000 in
set_option maxRecDepth 100000 in
theorem b_X11_reads_175 (C : CX p R s m args meth c cX11_reads 7 RX11 1 22 D cs) (hE : RI p l e R s m args below meth c cX11_reads D cs LM q .int Q E) {K14 : Int32 → Int32 → Int32 → St → Prop} (hK14 : ∀ (x1 : Int32) (x2 : Int32) (x3 : Int32) (σ : St) (H : Heap) (locs : List Loc) (ls : Array Slot), OK D cs LM q s σ H locs → lv_has ls 7 [(0, .ref (q 0)), (1, .int x1), (2, .int x2), (3, .int x3)] → K14 x1 x2 x3 σ → W p l e R s m args below meth c H locs 0 0 E (F0 m 14 ls [])) : ∀ (x1 : Int32) (x2 : Int32) (x3 : Int32) (σ : St) (H : Heap) (locs : List Loc) (ls : Array Slot), OK D cs LM q s σ H locs → lv_has ls 7 [(0, .ref (q 0)), (1, .int x1), (2, .int x2), (3, .int x3)] → w_X11_reads_175 Q K14 x1 x2 x3 σ → W p l e R s m args below meth c H locs 0 0 E (F0 m 175 ls []) := by
  have hx := C.1
  have hb := C.2.1
  intro x1 x2 x3 σ H locs ls O hl hf
  unfold w_X11_reads_175 at hf
  refine lv_iload_n hx hb dX11_reads_175 rfl (lv_at hl 2 rfl) ?_
  refine lv_iload_n hx hb dX11_reads_176 rfl (lv_at hl 1 rfl) ?_
  refine lv_icmp_ne (tgt := 182) hx hb dX11_reads_177 (by decide) (fun c_1 => ?_) (fun c_1 => ?_)
  · have hf := hf.1 c_1
    refine lv_aload_n hx hb dX11_reads_182 rfl (lv_at hl 0 rfl) ?_
    refine lv_iload_n hx hb dX11_reads_183 rfl (lv_at hl 2 rfl) ?_
    refine lv_iload_n hx hb dX11_reads_184 rfl (lv_at hl 1 rfl) ?_
    refine r_callI C O hl (c_X11_at l x2 x1) mX11_137 (by decide) rfl rfl rfl rfl (Nat.le_of_ble_eq_true rfl) hf dX11_reads_185 (fun r_3 σ_2 H locs O hf => ?_)
    refine lv_bipush (v := 59) hx hb dX11_reads_188 (by decide) ?_
    refine lv_icmp_eq (tgt := 199) hx hb dX11_reads_190 (by decide) (fun c_4 => ?_) (fun c_4 => ?_)
    · have hf := hf.1 c_4
      refine lv_iinc (v := x2 + 1) (lv' := [(2, .int (x2 + 1)), (0, .ref (q 0)), (1, .int x1), (3, .int x3)]) hx hb dX11_reads_199 hl (k := 2) rfl rfl (by decide) rfl (fun ls hl => ?_)
      refine lv_iinc (v := x3 + 1) (lv' := [(3, .int (x3 + 1)), (2, .int (x2 + 1)), (0, .ref (q 0)), (1, .int x1)]) hx hb dX11_reads_202 hl (k := 3) rfl rfl (by decide) rfl (fun ls hl => ?_)
      refine lv_goto (tgt := 14) hx hb dX11_reads_205 (by decide) ?_
      exact hK14 x1 (x2 + 1) (x3 + 1) σ_2 _ _ ls O (lv_sub hl [2, 3, 1, 0] rfl) hf
    · have hf := hf.2 c_4
      refine lv_sipush (v := 400) hx hb dX11_reads_193 (by decide) ?_
      refine lv_iload_n hx hb dX11_reads_196 rfl (lv_at hl 2 rfl) ?_
      refine lv_iadd hx hb dX11_reads_197 ?_
      exact hE _ _ _ _ _ _ (vp_nar_int _) O hf dX11_reads_198
  · have hf := hf.2 c_1
    refine lv_iconst (v := 0) hx hb dX11_reads_180 (by decide) ?_
    exact hE _ _ _ _ _ _ (vp_nar_int _) O hf dX11_reads_181
def w_X11_reads_153 (Q : Int32 → St → Prop) (K14 : Int32 → Int32 → Int32 → St → Prop) (x1 : Int32) (x2 : Int32) (x3 : Int32) (x4 : Int32) (x6 : Int32) (σ : St) : Prop := (¬ x4 = 100 → (∀ σ_2 : St, σ_2 = wr σ 0 7 x6 → (w_X11_reads_175 Q K14 x1 x2 x3 σ_2))) ∧ (x4 = 100 → (∀ σ_3 : St, σ_3 = wr σ 0 6 x6 → (w_X11_reads_175 Q K14 x1 x2 x3 σ_3)))
set_option maxHeartbeats 4000000 in
set_option maxRecDepth 100000 in
theorem b_X11_reads_153 (C : CX p R s m args meth c cX11_reads 7 RX11 1 22 D cs) (hE : RI p l e R s m args below meth c cX11_reads D cs LM q .int Q E) {K14 : Int32 → Int32 → Int32 → St → Prop} (hK14 : ∀ (x1 : Int32) (x2 : Int32) (x3 : Int32) (σ : St) (H : Heap) (locs : List Loc) (ls : Array Slot), OK D cs LM q s σ H locs → lv_has ls 7 [(0, .ref (q 0)), (1, .int x1), (2, .int x2), (3, .int x3)] → K14 x1 x2 x3 σ → W p l e R s m args below meth c H locs 0 0 E (F0 m 14 ls [])) : ∀ (x1 : Int32) (x2 : Int32) (x3 : Int32) (x4 : Int32) (x6 : Int32) (σ : St) (H : Heap) (locs : List Loc) (ls : Array Slot), OK D cs LM q s σ H locs → lv_has ls 7 [(0, .ref (q 0)), (1, .int x1), (2, .int x2), (3, .int x3), (4, .int x4), (6, .int x6)] → w_X11_reads_153 Q K14 x1 x2 x3 x4 x6 σ → W p l e R s m args below meth c H locs 0 0 E (F0 m 153 ls []) := by
  have hx := C.1
  have hb := C.2.1
  intro x1 x2 x3 x4 x6 σ H locs ls O hl hf
  unfold w_X11_reads_153 at hf
  refine lv_iload hx hb dX11_reads_153 (lv_at hl 4 rfl) ?_
  refine lv_bipush (v := 100) hx hb dX11_reads_155 (by decide) ?_
  refine lv_icmp_ne (tgt := 169) hx hb dX11_reads_157 (by decide) (fun c_1 => ?_) (fun c_1 => ?_)
  · have hf := hf.1 c_1
    refine lv_aload_n hx hb dX11_reads_169 rfl (lv_at hl 0 rfl) ?_
    refine lv_iload hx hb dX11_reads_170 (lv_at hl 5 rfl) ?_
    refine r_puti C O (k := 0) pX11_134 rfl rfl dX11_reads_172 (fun H locs σ_2 eσ_2 O => ?_)
    have hf := hf σ_2 eσ_2
    exact b_X11_reads_175 C hE hK14 x1 x2 x3 σ_2 _ _ ls O (lv_sub hl [0, 1, 2, 3] rfl) hf
  · have hf := hf.2 c_1
    refine lv_aload_n hx hb dX11_reads_160 rfl (lv_at hl 0 rfl) ?_
    refine lv_iload hx hb dX11_reads_161 (lv_at hl 5 rfl) ?_
    refine r_puti C O (k := 0) pX11_131 rfl rfl dX11_reads_163 (fun H locs σ_3 eσ_3 O => ?_)
    have hf := hf σ_3 eσ_3
    refine lv_goto (tgt := 175) hx hb dX11_reads_166 (by decide) ?_
    exact b_X11_reads_175 C hE hK14 x1 x2 x3 σ_3 _ _ ls O (lv_sub hl [0, 1, 2, 3] rfl) hf
def w_X11_reads_124 (Q : Int32 → St → Prop) (K14 : Int32 → Int32 → Int32 → St → Prop) (x1 : Int32) (x2 : Int32) (x3 : Int32) (x4 : Int32) (x5 : Int32) (x6 : Int32) (σ : St) : Prop := (x2 = (x5 + 5) → (Q (300 + x5) σ)) ∧ (¬ x2 = (x5 + 5) → ((¬ x4 = 100 → (w_X11_reads_153 Q K14 x1 x2 x3 x4 x6 σ)) ∧ (x4 = 100 → ((60 ≤ x6 → (w_X11_reads_153 Q K14 x1 x2 x3 x4 x6 σ)) ∧ (¬ 60 ≤ x6 → (Q (300 + x5) σ))))))
set_option maxHeartbeats 4000000 in
set_option maxRecDepth 100000 in
theorem b_X11_reads_124 (C : CX p R s m args meth c cX11_reads 7 RX11 1 22 D cs) (hE : RI p l e R s m args below meth c cX11_reads D cs LM q .int Q E) {K14 : Int32 → Int32 → Int32 → St → Prop} (hK14 : ∀ (x1 : Int32) (x2 : Int32) (x3 : Int32) (σ : St) (H : Heap) (locs : List Loc) (ls : Array Slot), OK D cs LM q s σ H locs → lv_has ls 7 [(0, .ref (q 0)), (1, .int x1), (2, .int x2), (3, .int x3)] → K14 x1 x2 x3 σ → W p l e R s m args below meth c H locs 0 0 E (F0 m 14 ls [])) : ∀ (x1 : Int32) (x2 : Int32) (x3 : Int32) (x4 : Int32) (x5 : Int32) (x6 : Int32) (σ : St) (H : Heap) (locs : List Loc) (ls : Array Slot), OK D cs LM q s σ H locs → lv_has ls 7 [(0, .ref (q 0)), (1, .int x1), (2, .int x2), (3, .int x3), (4, .int x4), (5, .int x5), (6, .int x6)] → w_X11_reads_124 Q K14 x1 x2 x3 x4 x5 x6 σ → W p l e R s m args below meth c H locs 0 0 E (F0 m 124 ls []) := by
  have hx := C.1
  have hb := C.2.1
  intro x1 x2 x3 x4 x5 x6 σ H locs ls O hl hf
  unfold w_X11_reads_124 at hf
  refine lv_iload_n hx hb dX11_reads_124 rfl (lv_at hl 2 rfl) ?_
  refine lv_iload hx hb dX11_reads_125 (lv_at hl 5 rfl) ?_
  refine lv_iconst (v := 5) hx hb dX11_reads_127 (by decide) ?_
  refine lv_iadd hx hb dX11_reads_128 ?_
  refine lv_icmp_eq (tgt := 146) hx hb dX11_reads_129 (by decide) (fun c_1 => ?_) (fun c_1 => ?_)
  · have hf := hf.1 c_1
    refine lv_sipush (v := 300) hx hb dX11_reads_146 (by decide) ?_
    refine lv_iload hx hb dX11_reads_149 (lv_at hl 5 rfl) ?_
    refine lv_iadd hx hb dX11_reads_151 ?_
    exact hE _ _ _ _ _ _ (vp_nar_int _) O hf dX11_reads_152
  · have hf := hf.2 c_1
    refine lv_iload hx hb dX11_reads_132 (lv_at hl 4 rfl) ?_
    refine lv_bipush (v := 100) hx hb dX11_reads_134 (by decide) ?_
    refine lv_icmp_ne (tgt := 153) hx hb dX11_reads_136 (by decide) (fun c_2 => ?_) (fun c_2 => ?_)
    · have hf := hf.1 c_2
      exact b_X11_reads_153 C hE hK14 x1 x2 x3 x4 x6 σ _ _ ls O (lv_sub hl [0, 1, 2, 3, 4, 6] rfl) hf
    · have hf := hf.2 c_2
      refine lv_iload hx hb dX11_reads_139 (lv_at hl 6 rfl) ?_
      refine lv_bipush (v := 60) hx hb dX11_reads_141 (by decide) ?_
      refine lv_icmp_ge (tgt := 153) hx hb dX11_reads_143 (by decide) (fun c_3 => ?_) (fun c_3 => ?_)
      · have hf := hf.1 c_3
        exact b_X11_reads_153 C hE hK14 x1 x2 x3 x4 x6 σ _ _ ls O (lv_sub hl [0, 1, 2, 3, 4, 6] rfl) hf
      · have hf := hf.2 c_3
        refine lv_sipush (v := 300) hx hb dX11_reads_146 (by decide) ?_
        refine lv_iload hx hb dX11_reads_149 (lv_at hl 5 rfl) ?_
        refine lv_iadd hx hb dX11_reads_151 ?_
        exact hE _ _ _ _ _ _ (vp_nar_int _) O hf dX11_reads_152
def w_X11_reads_77 (Q : Int32 → St → Prop) (K14 : Int32 → Int32 → Int32 → St → Prop) : Nat → Int32 → Int32 → Int32 → Int32 → Int32 → Int32 → St → Prop
  | 0, _, _, _, _, _, _, _ => False
  | n + 1, x1, x2, x3, x4, x5, x6, σ => w_X11_at x2 x1 σ (fun r_2 σ_1 => w_X11_lies r_2 48 57 (fun r_3 => (r_3 = 0 → (w_X11_reads_124 Q K14 x1 x2 x3 x4 x5 x6 σ_1)) ∧ (¬ r_3 = 0 → (((x5 + 5) ≤ x2 → (w_X11_reads_124 Q K14 x1 x2 x3 x4 x5 x6 σ_1)) ∧ (¬ (x5 + 5) ≤ x2 → (w_X11_at x2 x1 σ_1 (fun r_7 σ_6 => w_X11_reads_77 Q K14 n x1 (x2 + 1) x3 x4 x5 (((10 * x6) + r_7) - 48) σ_6)))))))
set_option maxHeartbeats 4000000 in
set_option maxRecDepth 100000 in
theorem b_X11_reads_77 (C : CX p R s m args meth c cX11_reads 7 RX11 1 22 D cs) (hE : RI p l e R s m args below meth c cX11_reads D cs LM q .int Q E) {K14 : Int32 → Int32 → Int32 → St → Prop} (hK14 : ∀ (x1 : Int32) (x2 : Int32) (x3 : Int32) (σ : St) (H : Heap) (locs : List Loc) (ls : Array Slot), OK D cs LM q s σ H locs → lv_has ls 7 [(0, .ref (q 0)), (1, .int x1), (2, .int x2), (3, .int x3)] → K14 x1 x2 x3 σ → W p l e R s m args below meth c H locs 0 0 E (F0 m 14 ls [])) : ∀ n : Nat, ∀ (x1 : Int32) (x2 : Int32) (x3 : Int32) (x4 : Int32) (x5 : Int32) (x6 : Int32) (σ : St) (H : Heap) (locs : List Loc) (ls : Array Slot), OK D cs LM q s σ H locs → lv_has ls 7 [(0, .ref (q 0)), (1, .int x1), (2, .int x2), (3, .int x3), (4, .int x4), (5, .int x5), (6, .int x6)] → w_X11_reads_77 Q K14 n x1 x2 x3 x4 x5 x6 σ → W p l e R s m args below meth c H locs 0 0 E (F0 m 77 ls []) := by
  have hx := C.1
  have hb := C.2.1
  intro n
  induction n with
  | zero => intro x1 x2 x3 x4 x5 x6 σ H locs ls O hl hf; exact hf.elim
  | succ n ih =>
    intro x1 x2 x3 x4 x5 x6 σ H locs ls O hl hf
    unfold w_X11_reads_77 at hf
    refine lv_aload_n hx hb dX11_reads_77 rfl (lv_at hl 0 rfl) ?_
    refine lv_iload_n hx hb dX11_reads_78 rfl (lv_at hl 2 rfl) ?_
    refine lv_iload_n hx hb dX11_reads_79 rfl (lv_at hl 1 rfl) ?_
    refine r_callI C O hl (c_X11_at l x2 x1) mX11_137 (by decide) rfl rfl rfl rfl (Nat.le_of_ble_eq_true rfl) hf dX11_reads_80 (fun r_2 σ_1 H locs O hf => ?_)
    refine lv_bipush (v := 48) hx hb dX11_reads_83 (by decide) ?_
    refine lv_bipush (v := 57) hx hb dX11_reads_85 (by decide) ?_
    refine r_callS C hl (c_X11_lies l r_2 48 57) mX11_141 (by decide) rfl rfl (Nat.le_of_ble_eq_true rfl) hf dX11_reads_87 (fun r_3 hf => ?_)
    refine lv_if_eq (tgt := 124) hx hb dX11_reads_90 (by decide) (fun c_4 => ?_) (fun c_4 => ?_)
    · have hf := hf.1 c_4
      exact b_X11_reads_124 C hE hK14 x1 x2 x3 x4 x5 x6 σ_1 _ _ ls O (lv_sub hl [0, 1, 2, 3, 4, 5, 6] rfl) hf
    · have hf := hf.2 c_4
      refine lv_iload_n hx hb dX11_reads_93 rfl (lv_at hl 2 rfl) ?_
      refine lv_iload hx hb dX11_reads_94 (lv_at hl 5 rfl) ?_
      refine lv_iconst (v := 5) hx hb dX11_reads_96 (by decide) ?_
      refine lv_iadd hx hb dX11_reads_97 ?_
      refine lv_icmp_ge (tgt := 124) hx hb dX11_reads_98 (by decide) (fun c_5 => ?_) (fun c_5 => ?_)
      · have hf := hf.1 c_5
        exact b_X11_reads_124 C hE hK14 x1 x2 x3 x4 x5 x6 σ_1 _ _ ls O (lv_sub hl [0, 1, 2, 3, 4, 5, 6] rfl) hf
      · have hf := hf.2 c_5
        refine lv_bipush (v := 10) hx hb dX11_reads_101 (by decide) ?_
        refine lv_iload hx hb dX11_reads_103 (lv_at hl 6 rfl) ?_
        refine lv_imul hx hb dX11_reads_105 ?_
        refine lv_aload_n hx hb dX11_reads_106 rfl (lv_at hl 0 rfl) ?_
        refine lv_iload_n hx hb dX11_reads_107 rfl (lv_at hl 2 rfl) ?_
        refine lv_iload_n hx hb dX11_reads_108 rfl (lv_at hl 1 rfl) ?_
        refine r_callI C O hl (c_X11_at l x2 x1) mX11_137 (by decide) rfl rfl rfl rfl (Nat.le_of_ble_eq_true rfl) hf dX11_reads_109 (fun r_7 σ_6 H locs O hf => ?_)
        refine lv_iadd hx hb dX11_reads_112 ?_
        refine lv_bipush (v := 48) hx hb dX11_reads_113 (by decide) ?_
        refine lv_isub hx hb dX11_reads_115 ?_
        refine lv_istore (lv' := [(6, .int (((10 * x6) + r_7) - 48)), (0, .ref (q 0)), (1, .int x1), (2, .int x2), (3, .int x3), (4, .int x4), (5, .int x5)]) hx hb dX11_reads_116 hl (by decide) rfl (fun ls hl => ?_)
        refine lv_iinc (v := x2 + 1) (lv' := [(2, .int (x2 + 1)), (6, .int (((10 * x6) + r_7) - 48)), (0, .ref (q 0)), (1, .int x1), (3, .int x3), (4, .int x4), (5, .int x5)]) hx hb dX11_reads_118 hl (k := 3) rfl rfl (by decide) rfl (fun ls hl => ?_)
        refine lv_goto (tgt := 77) hx hb dX11_reads_121 (by decide) ?_
        exact ih x1 (x2 + 1) x3 x4 x5 (((10 * x6) + r_7) - 48) σ_6 _ _ ls O (lv_sub hl [2, 3, 0, 4, 5, 6, 1] rfl) hf
def w_X11_reads_46 (Q : Int32 → St → Prop) (K14 : Int32 → Int32 → Int32 → St → Prop) (x1 : Int32) (x2 : Int32) (x3 : Int32) (x4 : Int32) (σ : St) : Prop := w_X11_at (x2 + 1) x1 σ (fun r_2 σ_1 => w_X11_lies r_2 48 57 (fun r_3 => (¬ r_3 = 0 → (∃ nn : Nat, w_X11_reads_77 Q K14 nn x1 (x2 + 1) x3 x4 (x2 + 1) 0 σ_1)) ∧ (r_3 = 0 → (Q (200 + (x2 + 1)) σ_1))))
set_option maxHeartbeats 4000000 in
set_option maxRecDepth 100000 in
theorem b_X11_reads_46 (C : CX p R s m args meth c cX11_reads 7 RX11 1 22 D cs) (hE : RI p l e R s m args below meth c cX11_reads D cs LM q .int Q E) {K14 : Int32 → Int32 → Int32 → St → Prop} (hK14 : ∀ (x1 : Int32) (x2 : Int32) (x3 : Int32) (σ : St) (H : Heap) (locs : List Loc) (ls : Array Slot), OK D cs LM q s σ H locs → lv_has ls 7 [(0, .ref (q 0)), (1, .int x1), (2, .int x2), (3, .int x3)] → K14 x1 x2 x3 σ → W p l e R s m args below meth c H locs 0 0 E (F0 m 14 ls [])) : ∀ (x1 : Int32) (x2 : Int32) (x3 : Int32) (x4 : Int32) (σ : St) (H : Heap) (locs : List Loc) (ls : Array Slot), OK D cs LM q s σ H locs → lv_has ls 7 [(0, .ref (q 0)), (1, .int x1), (2, .int x2), (3, .int x3), (4, .int x4)] → w_X11_reads_46 Q K14 x1 x2 x3 x4 σ → W p l e R s m args below meth c H locs 0 0 E (F0 m 46 ls []) := by
  have hx := C.1
  have hb := C.2.1
  intro x1 x2 x3 x4 σ H locs ls O hl hf
  unfold w_X11_reads_46 at hf
  refine lv_iinc (v := x2 + 1) (lv' := [(2, .int (x2 + 1)), (0, .ref (q 0)), (1, .int x1), (3, .int x3), (4, .int x4)]) hx hb dX11_reads_46 hl (k := 2) rfl rfl (by decide) rfl (fun ls hl => ?_)
  refine lv_aload_n hx hb dX11_reads_49 rfl (lv_at hl 1 rfl) ?_
  refine lv_iload_n hx hb dX11_reads_50 rfl (lv_at hl 0 rfl) ?_
  refine lv_iload_n hx hb dX11_reads_51 rfl (lv_at hl 2 rfl) ?_
  refine r_callI C O hl (c_X11_at l (x2 + 1) x1) mX11_137 (by decide) rfl rfl rfl rfl (Nat.le_of_ble_eq_true rfl) hf dX11_reads_52 (fun r_2 σ_1 H locs O hf => ?_)
  refine lv_bipush (v := 48) hx hb dX11_reads_55 (by decide) ?_
  refine lv_bipush (v := 57) hx hb dX11_reads_57 (by decide) ?_
  refine r_callS C hl (c_X11_lies l r_2 48 57) mX11_141 (by decide) rfl rfl (Nat.le_of_ble_eq_true rfl) hf dX11_reads_59 (fun r_3 hf => ?_)
  refine lv_if_ne (tgt := 71) hx hb dX11_reads_62 (by decide) (fun c_4 => ?_) (fun c_4 => ?_)
  · have hf := hf.1 c_4
    refine lv_iload_n hx hb dX11_reads_71 rfl (lv_at hl 0 rfl) ?_
    refine lv_istore (lv' := [(5, .int (x2 + 1)), (2, .int (x2 + 1)), (0, .ref (q 0)), (1, .int x1), (3, .int x3), (4, .int x4)]) hx hb dX11_reads_72 hl (by decide) rfl (fun ls hl => ?_)
    refine lv_iconst (v := 0) hx hb dX11_reads_74 (by decide) ?_
    refine lv_istore (lv' := [(6, .int 0), (5, .int (x2 + 1)), (2, .int (x2 + 1)), (0, .ref (q 0)), (1, .int x1), (3, .int x3), (4, .int x4)]) hx hb dX11_reads_75 hl (by decide) rfl (fun ls hl => ?_)
    obtain ⟨nn, hf⟩ := hf
    exact b_X11_reads_77 C hE hK14 nn x1 (x2 + 1) x3 x4 (x2 + 1) 0 σ_1 _ _ ls O (lv_sub hl [3, 4, 2, 5, 6, 1, 0] rfl) hf
  · have hf := hf.2 c_4
    refine lv_sipush (v := 200) hx hb dX11_reads_65 (by decide) ?_
    refine lv_iload_n hx hb dX11_reads_68 rfl (lv_at hl 0 rfl) ?_
    refine lv_iadd hx hb dX11_reads_69 ?_
    exact hE _ _ _ _ _ _ (vp_nar_int _) O hf dX11_reads_70
def w_X11_reads_14 (Q : Int32 → St → Prop) : Nat → Int32 → Int32 → Int32 → St → Prop
  | 0, _, _, _, _ => False
  | n + 1, x1, x2, x3, σ => (x1 < x3 → (Q (100 + x2) σ)) ∧ (¬ x1 < x3 → (w_X11_at x2 x1 σ (fun r_3 σ_2 => (r_3 = 100 → (w_X11_reads_46 Q (fun x1 x2 x3 σ => w_X11_reads_14 Q n x1 x2 x3 σ) x1 x2 x3 r_3 σ_2)) ∧ (¬ r_3 = 100 → ((r_3 = 114 → (w_X11_reads_46 Q (fun x1 x2 x3 σ => w_X11_reads_14 Q n x1 x2 x3 σ) x1 x2 x3 r_3 σ_2)) ∧ (¬ r_3 = 114 → (Q (100 + x2) σ_2)))))))
set_option maxHeartbeats 4000000 in
set_option maxRecDepth 100000 in
theorem b_X11_reads_14 (C : CX p R s m args meth c cX11_reads 7 RX11 1 22 D cs) (hE : RI p l e R s m args below meth c cX11_reads D cs LM q .int Q E) : ∀ n : Nat, ∀ (x1 : Int32) (x2 : Int32) (x3 : Int32) (σ : St) (H : Heap) (locs : List Loc) (ls : Array Slot), OK D cs LM q s σ H locs → lv_has ls 7 [(0, .ref (q 0)), (1, .int x1), (2, .int x2), (3, .int x3)] → w_X11_reads_14 Q n x1 x2 x3 σ → W p l e R s m args below meth c H locs 0 0 E (F0 m 14 ls []) := by
  have hx := C.1
  have hb := C.2.1
  intro n
  induction n with
  | zero => intro x1 x2 x3 σ H locs ls O hl hf; exact hf.elim
  | succ n ih =>
    intro x1 x2 x3 σ H locs ls O hl hf
    unfold w_X11_reads_14 at hf
    refine lv_iload_n hx hb dX11_reads_14 rfl (lv_at hl 3 rfl) ?_
    refine lv_iload_n hx hb dX11_reads_15 rfl (lv_at hl 1 rfl) ?_
    refine lv_icmp_gt (tgt := 208) hx hb dX11_reads_16 (by decide) (fun c_1 => ?_) (fun c_1 => ?_)
    · have hf := hf.1 c_1
      refine lv_bipush (v := 100) hx hb dX11_reads_208 (by decide) ?_
      refine lv_iload_n hx hb dX11_reads_210 rfl (lv_at hl 2 rfl) ?_
      refine lv_iadd hx hb dX11_reads_211 ?_
      exact hE _ _ _ _ _ _ (vp_nar_int _) O hf dX11_reads_212
    · have hf := hf.2 c_1
      refine lv_aload_n hx hb dX11_reads_19 rfl (lv_at hl 0 rfl) ?_
      refine lv_iload_n hx hb dX11_reads_20 rfl (lv_at hl 2 rfl) ?_
      refine lv_iload_n hx hb dX11_reads_21 rfl (lv_at hl 1 rfl) ?_
      refine r_callI C O hl (c_X11_at l x2 x1) mX11_137 (by decide) rfl rfl rfl rfl (Nat.le_of_ble_eq_true rfl) hf dX11_reads_22 (fun r_3 σ_2 H locs O hf => ?_)
      refine lv_istore (lv' := [(4, .int r_3), (0, .ref (q 0)), (1, .int x1), (2, .int x2), (3, .int x3)]) hx hb dX11_reads_25 hl (by decide) rfl (fun ls hl => ?_)
      refine lv_iload hx hb dX11_reads_27 (lv_at hl 0 rfl) ?_
      refine lv_bipush (v := 100) hx hb dX11_reads_29 (by decide) ?_
      refine lv_icmp_eq (tgt := 46) hx hb dX11_reads_31 (by decide) (fun c_4 => ?_) (fun c_4 => ?_)
      · have hf := hf.1 c_4
        exact b_X11_reads_46 C hE ih x1 x2 x3 r_3 σ_2 _ _ ls O (lv_sub hl [1, 2, 3, 4, 0] rfl) hf
      · have hf := hf.2 c_4
        refine lv_iload hx hb dX11_reads_34 (lv_at hl 0 rfl) ?_
        refine lv_bipush (v := 114) hx hb dX11_reads_36 (by decide) ?_
        refine lv_icmp_eq (tgt := 46) hx hb dX11_reads_38 (by decide) (fun c_5 => ?_) (fun c_5 => ?_)
        · have hf := hf.1 c_5
          exact b_X11_reads_46 C hE ih x1 x2 x3 r_3 σ_2 _ _ ls O (lv_sub hl [1, 2, 3, 4, 0] rfl) hf
        · have hf := hf.2 c_5
          refine lv_bipush (v := 100) hx hb dX11_reads_41 (by decide) ?_
          refine lv_iload_n hx hb dX11_reads_43 rfl (lv_at hl 3 rfl) ?_
          refine lv_iadd hx hb dX11_reads_44 ?_
          exact hE _ _ _ _ _ _ (vp_nar_int _) O hf dX11_reads_45
def w_X11_reads (x1 : Int32) (σ : St) (Q : Int32 → St → Prop) : Prop := ∀ σ_1 : St, σ_1 = wr σ 0 6 ((-1)) → (∀ σ_2 : St, σ_2 = wr σ_1 0 7 ((-1)) → (∃ nn : Nat, w_X11_reads_14 Q nn x1 0 0 σ_2))
set_option maxHeartbeats 4000000 in
set_option maxRecDepth 100000 in
theorem b_X11_reads (C : CX p R s m args meth c cX11_reads 7 RX11 1 22 D cs) (hE : RI p l e R s m args below meth c cX11_reads D cs LM q .int Q E) : ∀ (x1 : Int32) (σ : St) (H : Heap) (locs : List Loc) (ls : Array Slot), OK D cs LM q s σ H locs → lv_has ls 7 [(0, .ref (q 0)), (1, .int x1)] → w_X11_reads x1 σ Q → W p l e R s m args below meth c H locs 0 0 E (F0 m 0 ls []) := by
  have hx := C.1
  have hb := C.2.1
  intro x1 σ H locs ls O hl hf
  unfold w_X11_reads at hf
  refine lv_aload_n hx hb dX11_reads_0 rfl (lv_at hl 0 rfl) ?_
  refine lv_iconst (v := (-1)) hx hb dX11_reads_1 (by decide) ?_
  refine r_puti C O (k := 0) pX11_131 rfl rfl dX11_reads_2 (fun H locs σ_1 eσ_1 O => ?_)
  have hf := hf σ_1 eσ_1
  refine lv_aload_n hx hb dX11_reads_5 rfl (lv_at hl 0 rfl) ?_
  refine lv_iconst (v := (-1)) hx hb dX11_reads_6 (by decide) ?_
  refine r_puti C O (k := 0) pX11_134 rfl rfl dX11_reads_7 (fun H locs σ_2 eσ_2 O => ?_)
  have hf := hf σ_2 eσ_2
  refine lv_iconst (v := 0) hx hb dX11_reads_10 (by decide) ?_
  refine lv_istore_n (lv' := [(2, .int 0), (0, .ref (q 0)), (1, .int x1)]) hx hb dX11_reads_11 rfl hl (by decide) rfl (fun ls hl => ?_)
  refine lv_iconst (v := 0) hx hb dX11_reads_12 (by decide) ?_
  refine lv_istore_n (lv' := [(3, .int 0), (2, .int 0), (0, .ref (q 0)), (1, .int x1)]) hx hb dX11_reads_13 rfl hl (by decide) rfl (fun ls hl => ?_)
  obtain ⟨nn, hf⟩ := hf
  exact b_X11_reads_14 C hE nn x1 0 0 σ_2 _ _ ls O (lv_sub hl [2, 3, 1, 0] rfl) hf
theorem c_X11_reads (l : Launch) (x1 : Int32) : MetI l yX11_reads cX11_reads 7 .int 1 22 LM 0 (fun q => [.int x1]) (w_X11_reads x1) := mk_I (own := RX11) (by decide) rfl (fun q => Nat.le_of_ble_eq_true rfl) (fun C hE O hl hf => b_X11_reads C hE x1 _ _ _ _ O hl hf)
end
section
variable {p : Program} {l : Launch} {e : Env} {R : Room} {s : State} {m : MethodId} {args : Array Value} {below : List Frame} {meth : Method} {c : Code} {E : State → Prop}
variable {D : va_G} {cs : Nat → ClassId} {q : Nat → Nat}
variable {Q : Int32 → St → Prop}
def w_X11_law (x1 : Int32) (x2 : Int32) (σ : St) (Q : Int32 → St → Prop) : Prop := w_X11_lies x1 0 6 (fun r_1 => (r_1 = 0 → (Q ((-1)) σ)) ∧ (¬ r_1 = 0 → ((x2 < 0 → (Q ((-1)) σ)) ∧ (¬ x2 < 0 → ((x2 ≤ (σ.1 0 1) → (∀ σ_5 : St, σ_5 = wr σ 0 1 0 → (w_X11_reads x2 σ_5 (fun r_7 σ_6 => (r_7 ≤ 0 → (vp_in x1 7 ∧ (∀ σ_9 : St, σ_9 = wr σ_6 2 x1.toNatClampNeg (1 &&& 1) → (vp_in x1 7 ∧ (∀ σ_10 : St, σ_10 = wr σ_9 3 x1.toNatClampNeg (σ_9.1 0 6) → (vp_in x1 7 ∧ (∀ σ_11 : St, σ_11 = wr σ_10 4 x1.toNatClampNeg (σ_10.1 0 7) → (Q 0 σ_11)))))))) ∧ (¬ r_7 ≤ 0 → (Q r_7 σ_6)))))) ∧ (¬ x2 ≤ (σ.1 0 1) → (Q ((-1)) σ)))))))
set_option maxHeartbeats 4000000 in
set_option maxRecDepth 100000 in
theorem b_X11_law (C : CX p R s m args meth c cX11_law 4 RX11 2 48 D cs) (hE : RI p l e R s m args below meth c cX11_law D cs LM q .int Q E) : ∀ (x1 : Int32) (x2 : Int32) (σ : St) (H : Heap) (locs : List Loc) (ls : Array Slot), OK D cs LM q s σ H locs → lv_has ls 4 [(0, .ref (q 0)), (1, .int x1), (2, .int x2)] → w_X11_law x1 x2 σ Q → W p l e R s m args below meth c H locs 0 0 E (F0 m 0 ls []) := by
  have hx := C.1
  have hb := C.2.1
  intro x1 x2 σ H locs ls O hl hf
  unfold w_X11_law at hf
  refine lv_iload_n hx hb dX11_law_0 rfl (lv_at hl 1 rfl) ?_
  refine lv_iconst (v := 0) hx hb dX11_law_1 (by decide) ?_
  refine lv_bipush (v := 6) hx hb dX11_law_2 (by decide) ?_
  refine r_callS C hl (c_X11_lies l x1 0 6) mX11_141 (by decide) rfl rfl (Nat.le_of_ble_eq_true rfl) hf dX11_law_4 (fun r_1 hf => ?_)
  refine lv_if_eq (tgt := 22) hx hb dX11_law_7 (by decide) (fun c_2 => ?_) (fun c_2 => ?_)
  · have hf := hf.1 c_2
    refine lv_iconst (v := (-1)) hx hb dX11_law_22 (by decide) ?_
    exact hE _ _ _ _ _ _ (vp_nar_int _) O hf dX11_law_23
  · have hf := hf.2 c_2
    refine lv_iload_n hx hb dX11_law_10 rfl (lv_at hl 2 rfl) ?_
    refine lv_if_lt (tgt := 22) hx hb dX11_law_11 (by decide) (fun c_3 => ?_) (fun c_3 => ?_)
    · have hf := hf.1 c_3
      refine lv_iconst (v := (-1)) hx hb dX11_law_22 (by decide) ?_
      exact hE _ _ _ _ _ _ (vp_nar_int _) O hf dX11_law_23
    · have hf := hf.2 c_3
      refine lv_iload_n hx hb dX11_law_14 rfl (lv_at hl 2 rfl) ?_
      refine lv_aload_n hx hb dX11_law_15 rfl (lv_at hl 0 rfl) ?_
      refine r_get C O (k := 0) (j := 1) (v := .int (σ.1 0 1)) fX11_123 rfl rfl rfl dX11_law_16 ?_
      refine lv_icmp_le (tgt := 24) hx hb dX11_law_19 (by decide) (fun c_4 => ?_) (fun c_4 => ?_)
      · have hf := hf.1 c_4
        refine lv_aload_n hx hb dX11_law_24 rfl (lv_at hl 0 rfl) ?_
        refine lv_iconst (v := 0) hx hb dX11_law_25 (by decide) ?_
        refine r_puti C O (k := 0) pX11_123 rfl rfl dX11_law_26 (fun H locs σ_5 eσ_5 O => ?_)
        have hf := hf σ_5 eσ_5
        refine lv_aload_n hx hb dX11_law_29 rfl (lv_at hl 0 rfl) ?_
        refine lv_iload_n hx hb dX11_law_30 rfl (lv_at hl 2 rfl) ?_
        refine r_callI C O hl (c_X11_reads l x2) mX11_145 (by decide) rfl rfl rfl rfl (Nat.le_of_ble_eq_true rfl) hf dX11_law_31 (fun r_7 σ_6 H locs O hf => ?_)
        refine lv_istore_n (lv' := [(3, .int r_7), (0, .ref (q 0)), (1, .int x1), (2, .int x2)]) hx hb dX11_law_34 rfl hl (by decide) rfl (fun ls hl => ?_)
        refine lv_iload_n hx hb dX11_law_35 rfl (lv_at hl 0 rfl) ?_
        refine lv_if_le (tgt := 41) hx hb dX11_law_36 (by decide) (fun c_8 => ?_) (fun c_8 => ?_)
        · have hf := hf.1 c_8
          refine lv_aload_n hx hb dX11_law_41 rfl (lv_at hl 1 rfl) ?_
          refine r_get C O (k := 0) (j := 3) (v := .ref (q 2)) fX11_13 rfl rfl rfl dX11_law_42 ?_
          refine lv_iload_n hx hb dX11_law_45 rfl (lv_at hl 2 rfl) ?_
          refine lv_iconst (v := 1) hx hb dX11_law_46 (by decide) ?_
          refine r_zast C O (k := 2) rfl hf.1 dX11_law_47 (fun H locs σ_9 eσ_9 O => ?_)
          have hf := hf.2 σ_9 eσ_9
          refine lv_aload_n hx hb dX11_law_48 rfl (lv_at hl 1 rfl) ?_
          refine r_get C O (k := 0) (j := 4) (v := .ref (q 3)) fX11_17 rfl rfl rfl dX11_law_49 ?_
          refine lv_iload_n hx hb dX11_law_52 rfl (lv_at hl 2 rfl) ?_
          refine lv_aload_n hx hb dX11_law_53 rfl (lv_at hl 1 rfl) ?_
          refine r_get C O (k := 0) (j := 6) (v := .int (σ_9.1 0 6)) fX11_131 rfl rfl rfl dX11_law_54 ?_
          refine r_iast C O (k := 3) rfl hf.1 dX11_law_57 (fun H locs σ_10 eσ_10 O => ?_)
          have hf := hf.2 σ_10 eσ_10
          refine lv_aload_n hx hb dX11_law_58 rfl (lv_at hl 1 rfl) ?_
          refine r_get C O (k := 0) (j := 5) (v := .ref (q 4)) fX11_21 rfl rfl rfl dX11_law_59 ?_
          refine lv_iload_n hx hb dX11_law_62 rfl (lv_at hl 2 rfl) ?_
          refine lv_aload_n hx hb dX11_law_63 rfl (lv_at hl 1 rfl) ?_
          refine r_get C O (k := 0) (j := 7) (v := .int (σ_10.1 0 7)) fX11_134 rfl rfl rfl dX11_law_64 ?_
          refine r_iast C O (k := 4) rfl hf.1 dX11_law_67 (fun H locs σ_11 eσ_11 O => ?_)
          have hf := hf.2 σ_11 eσ_11
          refine lv_iconst (v := 0) hx hb dX11_law_68 (by decide) ?_
          exact hE _ _ _ _ _ _ (vp_nar_int _) O hf dX11_law_69
        · have hf := hf.2 c_8
          refine lv_iload_n hx hb dX11_law_39 rfl (lv_at hl 0 rfl) ?_
          exact hE _ _ _ _ _ _ (vp_nar_int _) O hf dX11_law_40
      · have hf := hf.2 c_4
        refine lv_iconst (v := (-1)) hx hb dX11_law_22 (by decide) ?_
        exact hE _ _ _ _ _ _ (vp_nar_int _) O hf dX11_law_23
theorem c_X11_law (l : Launch) (x1 : Int32) (x2 : Int32) : MetI l yX11_law cX11_law 4 .int 2 48 LM 0 (fun q => [.int x1, .int x2]) (w_X11_law x1 x2) := mk_I (own := RX11) (by decide) rfl (fun q => Nat.le_of_ble_eq_true rfl) (fun C hE O hl hf => b_X11_law C hE x1 x2 _ _ _ _ O hl hf)
end
section
variable {p : Program} {l : Launch} {e : Env} {R : Room} {s : State} {m : MethodId} {args : Array Value} {below : List Frame} {meth : Method} {c : Code} {E : State → Prop}
variable {D : va_G} {cs : Nat → ClassId} {q : Nat → Nat}
variable {Q : Int32 → St → Prop}
def w_X11_dutyOn_6 (Q : Int32 → St → Prop) : Nat → Int32 → Int32 → Int32 → St → Prop
  | 0, _, _, _, _ => False
  | n + 1, x1, x2, x3, σ => (x1 < x3 → (Q x2 σ)) ∧ (¬ x1 < x3 → (vp_in x3 7 ∧ (((σ.1 2 x3.toNatClampNeg) = 0 → (w_X11_dutyOn_6 Q n x1 x2 (x3 + 1) σ)) ∧ (¬ (σ.1 2 x3.toNatClampNeg) = 0 → (vp_in x3 7 ∧ (((σ.1 3 x3.toNatClampNeg) = ((-1)) → (w_X11_dutyOn_6 Q n x1 x2 (x3 + 1) σ)) ∧ (¬ (σ.1 3 x3.toNatClampNeg) = ((-1)) → (vp_in x3 7 ∧ (w_X11_dutyOn_6 Q n x1 (σ.1 3 x3.toNatClampNeg) (x3 + 1) σ)))))))))
set_option maxHeartbeats 4000000 in
set_option maxRecDepth 100000 in
theorem b_X11_dutyOn_6 (C : CX p R s m args meth c cX11_dutyOn 4 RX11 0 0 D cs) (hE : RI p l e R s m args below meth c cX11_dutyOn D cs LM q .int Q E) : ∀ n : Nat, ∀ (x1 : Int32) (x2 : Int32) (x3 : Int32) (σ : St) (H : Heap) (locs : List Loc) (ls : Array Slot), OK D cs LM q s σ H locs → lv_has ls 4 [(0, .ref (q 0)), (1, .int x1), (2, .int x2), (3, .int x3)] → w_X11_dutyOn_6 Q n x1 x2 x3 σ → W p l e R s m args below meth c H locs 0 0 E (F0 m 6 ls []) := by
  have hx := C.1
  have hb := C.2.1
  intro n
  induction n with
  | zero => intro x1 x2 x3 σ H locs ls O hl hf; exact hf.elim
  | succ n ih =>
    intro x1 x2 x3 σ H locs ls O hl hf
    unfold w_X11_dutyOn_6 at hf
    refine lv_iload_n hx hb dX11_dutyOn_6 rfl (lv_at hl 3 rfl) ?_
    refine lv_iload_n hx hb dX11_dutyOn_7 rfl (lv_at hl 1 rfl) ?_
    refine lv_icmp_gt (tgt := 47) hx hb dX11_dutyOn_8 (by decide) (fun c_1 => ?_) (fun c_1 => ?_)
    · have hf := hf.1 c_1
      refine lv_iload_n hx hb dX11_dutyOn_47 rfl (lv_at hl 2 rfl) ?_
      exact hE _ _ _ _ _ _ (vp_nar_int _) O hf dX11_dutyOn_48
    · have hf := hf.2 c_1
      refine lv_aload_n hx hb dX11_dutyOn_11 rfl (lv_at hl 0 rfl) ?_
      refine r_get C O (k := 0) (j := 3) (v := .ref (q 2)) fX11_13 rfl rfl rfl dX11_dutyOn_12 ?_
      refine lv_iload_n hx hb dX11_dutyOn_15 rfl (lv_at hl 3 rfl) ?_
      refine r_zald C O (k := 2) rfl hf.1 dX11_dutyOn_16 ?_
      have hf := hf.2
      refine lv_if_eq (tgt := 39) hx hb dX11_dutyOn_17 (by decide) (fun c_2 => ?_) (fun c_2 => ?_)
      · have hf := hf.1 c_2
        refine lv_iload_n hx hb dX11_dutyOn_39 rfl (lv_at hl 2 rfl) ?_
        refine lv_istore_n (lv' := [(2, .int x2), (0, .ref (q 0)), (1, .int x1), (3, .int x3)]) hx hb dX11_dutyOn_40 rfl hl (by decide) rfl (fun ls hl => ?_)
        refine lv_iinc (v := x3 + 1) (lv' := [(3, .int (x3 + 1)), (2, .int x2), (0, .ref (q 0)), (1, .int x1)]) hx hb dX11_dutyOn_41 hl (k := 3) rfl rfl (by decide) rfl (fun ls hl => ?_)
        refine lv_goto (tgt := 6) hx hb dX11_dutyOn_44 (by decide) ?_
        exact ih x1 x2 (x3 + 1) σ _ _ ls O (lv_sub hl [2, 3, 1, 0] rfl) hf
      · have hf := hf.2 c_2
        refine lv_aload_n hx hb dX11_dutyOn_20 rfl (lv_at hl 0 rfl) ?_
        refine r_get C O (k := 0) (j := 4) (v := .ref (q 3)) fX11_17 rfl rfl rfl dX11_dutyOn_21 ?_
        refine lv_iload_n hx hb dX11_dutyOn_24 rfl (lv_at hl 3 rfl) ?_
        refine r_iald C O (k := 3) rfl hf.1 dX11_dutyOn_25 ?_
        have hf := hf.2
        refine lv_iconst (v := (-1)) hx hb dX11_dutyOn_26 (by decide) ?_
        refine lv_icmp_eq (tgt := 39) hx hb dX11_dutyOn_27 (by decide) (fun c_3 => ?_) (fun c_3 => ?_)
        · have hf := hf.1 c_3
          refine lv_iload_n hx hb dX11_dutyOn_39 rfl (lv_at hl 2 rfl) ?_
          refine lv_istore_n (lv' := [(2, .int x2), (0, .ref (q 0)), (1, .int x1), (3, .int x3)]) hx hb dX11_dutyOn_40 rfl hl (by decide) rfl (fun ls hl => ?_)
          refine lv_iinc (v := x3 + 1) (lv' := [(3, .int (x3 + 1)), (2, .int x2), (0, .ref (q 0)), (1, .int x1)]) hx hb dX11_dutyOn_41 hl (k := 3) rfl rfl (by decide) rfl (fun ls hl => ?_)
          refine lv_goto (tgt := 6) hx hb dX11_dutyOn_44 (by decide) ?_
          exact ih x1 x2 (x3 + 1) σ _ _ ls O (lv_sub hl [2, 3, 1, 0] rfl) hf
        · have hf := hf.2 c_3
          refine lv_aload_n hx hb dX11_dutyOn_30 rfl (lv_at hl 0 rfl) ?_
          refine r_get C O (k := 0) (j := 4) (v := .ref (q 3)) fX11_17 rfl rfl rfl dX11_dutyOn_31 ?_
          refine lv_iload_n hx hb dX11_dutyOn_34 rfl (lv_at hl 3 rfl) ?_
          refine r_iald C O (k := 3) rfl hf.1 dX11_dutyOn_35 ?_
          have hf := hf.2
          refine lv_goto (tgt := 40) hx hb dX11_dutyOn_36 (by decide) ?_
          refine lv_istore_n (lv' := [(2, .int (σ.1 3 x3.toNatClampNeg)), (0, .ref (q 0)), (1, .int x1), (3, .int x3)]) hx hb dX11_dutyOn_40 rfl hl (by decide) rfl (fun ls hl => ?_)
          refine lv_iinc (v := x3 + 1) (lv' := [(3, .int (x3 + 1)), (2, .int (σ.1 3 x3.toNatClampNeg)), (0, .ref (q 0)), (1, .int x1)]) hx hb dX11_dutyOn_41 hl (k := 3) rfl rfl (by decide) rfl (fun ls hl => ?_)
          refine lv_goto (tgt := 6) hx hb dX11_dutyOn_44 (by decide) ?_
          exact ih x1 (σ.1 3 x3.toNatClampNeg) (x3 + 1) σ _ _ ls O (lv_sub hl [2, 3, 1, 0] rfl) hf
def w_X11_dutyOn (x1 : Int32) (σ : St) (Q : Int32 → St → Prop) : Prop := ∃ nn : Nat, w_X11_dutyOn_6 Q nn x1 840 0 σ
set_option maxHeartbeats 4000000 in
set_option maxRecDepth 100000 in
theorem b_X11_dutyOn (C : CX p R s m args meth c cX11_dutyOn 4 RX11 0 0 D cs) (hE : RI p l e R s m args below meth c cX11_dutyOn D cs LM q .int Q E) : ∀ (x1 : Int32) (σ : St) (H : Heap) (locs : List Loc) (ls : Array Slot), OK D cs LM q s σ H locs → lv_has ls 4 [(0, .ref (q 0)), (1, .int x1)] → w_X11_dutyOn x1 σ Q → W p l e R s m args below meth c H locs 0 0 E (F0 m 0 ls []) := by
  have hx := C.1
  have hb := C.2.1
  intro x1 σ H locs ls O hl hf
  unfold w_X11_dutyOn at hf
  refine lv_sipush (v := 840) hx hb dX11_dutyOn_0 (by decide) ?_
  refine lv_istore_n (lv' := [(2, .int 840), (0, .ref (q 0)), (1, .int x1)]) hx hb dX11_dutyOn_3 rfl hl (by decide) rfl (fun ls hl => ?_)
  refine lv_iconst (v := 0) hx hb dX11_dutyOn_4 (by decide) ?_
  refine lv_istore_n (lv' := [(3, .int 0), (2, .int 840), (0, .ref (q 0)), (1, .int x1)]) hx hb dX11_dutyOn_5 rfl hl (by decide) rfl (fun ls hl => ?_)
  obtain ⟨nn, hf⟩ := hf
  exact b_X11_dutyOn_6 C hE nn x1 840 0 σ _ _ ls O (lv_sub hl [2, 3, 1, 0] rfl) hf
theorem c_X11_dutyOn (l : Launch) (x1 : Int32) : MetI l yX11_dutyOn cX11_dutyOn 4 .int 0 0 LM 0 (fun q => [.int x1]) (w_X11_dutyOn x1) := mk_I (own := RX11) (by decide) rfl (fun q => Nat.le_of_ble_eq_true rfl) (fun C hE O hl hf => b_X11_dutyOn C hE x1 _ _ _ _ O hl hf)
end
section
variable {p : Program} {l : Launch} {e : Env} {R : Room} {s : State} {m : MethodId} {args : Array Value} {below : List Frame} {meth : Method} {c : Code} {E : State → Prop}
variable {D : va_G} {cs : Nat → ClassId} {q : Nat → Nat}
variable {Q : Int32 → St → Prop}
def w_X11_restOn_6 (Q : Int32 → St → Prop) : Nat → Int32 → Int32 → Int32 → St → Prop
  | 0, _, _, _, _ => False
  | n + 1, x1, x2, x3, σ => (x1 < x3 → (Q x2 σ)) ∧ (¬ x1 < x3 → (vp_in x3 7 ∧ (((σ.1 2 x3.toNatClampNeg) = 0 → (w_X11_restOn_6 Q n x1 x2 (x3 + 1) σ)) ∧ (¬ (σ.1 2 x3.toNatClampNeg) = 0 → (vp_in x3 7 ∧ (((σ.1 4 x3.toNatClampNeg) = ((-1)) → (w_X11_restOn_6 Q n x1 x2 (x3 + 1) σ)) ∧ (¬ (σ.1 4 x3.toNatClampNeg) = ((-1)) → (vp_in x3 7 ∧ (w_X11_restOn_6 Q n x1 (σ.1 4 x3.toNatClampNeg) (x3 + 1) σ)))))))))
set_option maxHeartbeats 4000000 in
set_option maxRecDepth 100000 in
theorem b_X11_restOn_6 (C : CX p R s m args meth c cX11_restOn 4 RX11 0 0 D cs) (hE : RI p l e R s m args below meth c cX11_restOn D cs LM q .int Q E) : ∀ n : Nat, ∀ (x1 : Int32) (x2 : Int32) (x3 : Int32) (σ : St) (H : Heap) (locs : List Loc) (ls : Array Slot), OK D cs LM q s σ H locs → lv_has ls 4 [(0, .ref (q 0)), (1, .int x1), (2, .int x2), (3, .int x3)] → w_X11_restOn_6 Q n x1 x2 x3 σ → W p l e R s m args below meth c H locs 0 0 E (F0 m 6 ls []) := by
  have hx := C.1
  have hb := C.2.1
  intro n
  induction n with
  | zero => intro x1 x2 x3 σ H locs ls O hl hf; exact hf.elim
  | succ n ih =>
    intro x1 x2 x3 σ H locs ls O hl hf
    unfold w_X11_restOn_6 at hf
    refine lv_iload_n hx hb dX11_restOn_6 rfl (lv_at hl 3 rfl) ?_
    refine lv_iload_n hx hb dX11_restOn_7 rfl (lv_at hl 1 rfl) ?_
    refine lv_icmp_gt (tgt := 47) hx hb dX11_restOn_8 (by decide) (fun c_1 => ?_) (fun c_1 => ?_)
    · have hf := hf.1 c_1
      refine lv_iload_n hx hb dX11_restOn_47 rfl (lv_at hl 2 rfl) ?_
      exact hE _ _ _ _ _ _ (vp_nar_int _) O hf dX11_restOn_48
    · have hf := hf.2 c_1
      refine lv_aload_n hx hb dX11_restOn_11 rfl (lv_at hl 0 rfl) ?_
      refine r_get C O (k := 0) (j := 3) (v := .ref (q 2)) fX11_13 rfl rfl rfl dX11_restOn_12 ?_
      refine lv_iload_n hx hb dX11_restOn_15 rfl (lv_at hl 3 rfl) ?_
      refine r_zald C O (k := 2) rfl hf.1 dX11_restOn_16 ?_
      have hf := hf.2
      refine lv_if_eq (tgt := 39) hx hb dX11_restOn_17 (by decide) (fun c_2 => ?_) (fun c_2 => ?_)
      · have hf := hf.1 c_2
        refine lv_iload_n hx hb dX11_restOn_39 rfl (lv_at hl 2 rfl) ?_
        refine lv_istore_n (lv' := [(2, .int x2), (0, .ref (q 0)), (1, .int x1), (3, .int x3)]) hx hb dX11_restOn_40 rfl hl (by decide) rfl (fun ls hl => ?_)
        refine lv_iinc (v := x3 + 1) (lv' := [(3, .int (x3 + 1)), (2, .int x2), (0, .ref (q 0)), (1, .int x1)]) hx hb dX11_restOn_41 hl (k := 3) rfl rfl (by decide) rfl (fun ls hl => ?_)
        refine lv_goto (tgt := 6) hx hb dX11_restOn_44 (by decide) ?_
        exact ih x1 x2 (x3 + 1) σ _ _ ls O (lv_sub hl [2, 3, 1, 0] rfl) hf
      · have hf := hf.2 c_2
        refine lv_aload_n hx hb dX11_restOn_20 rfl (lv_at hl 0 rfl) ?_
        refine r_get C O (k := 0) (j := 5) (v := .ref (q 4)) fX11_21 rfl rfl rfl dX11_restOn_21 ?_
        refine lv_iload_n hx hb dX11_restOn_24 rfl (lv_at hl 3 rfl) ?_
        refine r_iald C O (k := 4) rfl hf.1 dX11_restOn_25 ?_
        have hf := hf.2
        refine lv_iconst (v := (-1)) hx hb dX11_restOn_26 (by decide) ?_
        refine lv_icmp_eq (tgt := 39) hx hb dX11_restOn_27 (by decide) (fun c_3 => ?_) (fun c_3 => ?_)
        · have hf := hf.1 c_3
          refine lv_iload_n hx hb dX11_restOn_39 rfl (lv_at hl 2 rfl) ?_
          refine lv_istore_n (lv' := [(2, .int x2), (0, .ref (q 0)), (1, .int x1), (3, .int x3)]) hx hb dX11_restOn_40 rfl hl (by decide) rfl (fun ls hl => ?_)
          refine lv_iinc (v := x3 + 1) (lv' := [(3, .int (x3 + 1)), (2, .int x2), (0, .ref (q 0)), (1, .int x1)]) hx hb dX11_restOn_41 hl (k := 3) rfl rfl (by decide) rfl (fun ls hl => ?_)
          refine lv_goto (tgt := 6) hx hb dX11_restOn_44 (by decide) ?_
          exact ih x1 x2 (x3 + 1) σ _ _ ls O (lv_sub hl [2, 3, 1, 0] rfl) hf
        · have hf := hf.2 c_3
          refine lv_aload_n hx hb dX11_restOn_30 rfl (lv_at hl 0 rfl) ?_
          refine r_get C O (k := 0) (j := 5) (v := .ref (q 4)) fX11_21 rfl rfl rfl dX11_restOn_31 ?_
          refine lv_iload_n hx hb dX11_restOn_34 rfl (lv_at hl 3 rfl) ?_
          refine r_iald C O (k := 4) rfl hf.1 dX11_restOn_35 ?_
          have hf := hf.2
          refine lv_goto (tgt := 40) hx hb dX11_restOn_36 (by decide) ?_
          refine lv_istore_n (lv' := [(2, .int (σ.1 4 x3.toNatClampNeg)), (0, .ref (q 0)), (1, .int x1), (3, .int x3)]) hx hb dX11_restOn_40 rfl hl (by decide) rfl (fun ls hl => ?_)
          refine lv_iinc (v := x3 + 1) (lv' := [(3, .int (x3 + 1)), (2, .int (σ.1 4 x3.toNatClampNeg)), (0, .ref (q 0)), (1, .int x1)]) hx hb dX11_restOn_41 hl (k := 3) rfl rfl (by decide) rfl (fun ls hl => ?_)
          refine lv_goto (tgt := 6) hx hb dX11_restOn_44 (by decide) ?_
          exact ih x1 (σ.1 4 x3.toNatClampNeg) (x3 + 1) σ _ _ ls O (lv_sub hl [2, 3, 1, 0] rfl) hf
def w_X11_restOn (x1 : Int32) (σ : St) (Q : Int32 → St → Prop) : Prop := ∃ nn : Nat, w_X11_restOn_6 Q nn x1 600 0 σ
set_option maxHeartbeats 4000000 in
set_option maxRecDepth 100000 in
theorem b_X11_restOn (C : CX p R s m args meth c cX11_restOn 4 RX11 0 0 D cs) (hE : RI p l e R s m args below meth c cX11_restOn D cs LM q .int Q E) : ∀ (x1 : Int32) (σ : St) (H : Heap) (locs : List Loc) (ls : Array Slot), OK D cs LM q s σ H locs → lv_has ls 4 [(0, .ref (q 0)), (1, .int x1)] → w_X11_restOn x1 σ Q → W p l e R s m args below meth c H locs 0 0 E (F0 m 0 ls []) := by
  have hx := C.1
  have hb := C.2.1
  intro x1 σ H locs ls O hl hf
  unfold w_X11_restOn at hf
  refine lv_sipush (v := 600) hx hb dX11_restOn_0 (by decide) ?_
  refine lv_istore_n (lv' := [(2, .int 600), (0, .ref (q 0)), (1, .int x1)]) hx hb dX11_restOn_3 rfl hl (by decide) rfl (fun ls hl => ?_)
  refine lv_iconst (v := 0) hx hb dX11_restOn_4 (by decide) ?_
  refine lv_istore_n (lv' := [(3, .int 0), (2, .int 600), (0, .ref (q 0)), (1, .int x1)]) hx hb dX11_restOn_5 rfl hl (by decide) rfl (fun ls hl => ?_)
  obtain ⟨nn, hf⟩ := hf
  exact b_X11_restOn_6 C hE nn x1 600 0 σ _ _ ls O (lv_sub hl [2, 3, 1, 0] rfl) hf
theorem c_X11_restOn (l : Launch) (x1 : Int32) : MetI l yX11_restOn cX11_restOn 4 .int 0 0 LM 0 (fun q => [.int x1]) (w_X11_restOn x1) := mk_I (own := RX11) (by decide) rfl (fun q => Nat.le_of_ble_eq_true rfl) (fun C hE O hl hf => b_X11_restOn C hE x1 _ _ _ _ O hl hf)
end
section
variable {p : Program} {l : Launch} {e : Env} {R : Room} {s : State} {m : MethodId} {args : Array Value} {below : List Frame} {meth : Method} {c : Code} {E : State → Prop}
variable {D : va_G} {cs : Nat → ClassId} {q : Nat → Nat}
variable {Q : Int32 → St → Prop}
def w_X11_rule (x1 : Int32) (x2 : Int32) (σ : St) (Q : Int32 → St → Prop) : Prop := w_X11_lies x1 0 6 (fun r_1 => (¬ r_1 = 0 → ((¬ x2 = 0 → ((¬ x2 = 1 → (Q ((-1)) σ)) ∧ (x2 = 1 → (w_X11_restOn x1 σ (fun r_6 σ_5 => Q r_6 σ_5))))) ∧ (x2 = 0 → (w_X11_dutyOn x1 σ (fun r_8 σ_7 => Q r_8 σ_7))))) ∧ (r_1 = 0 → (Q ((-1)) σ)))
set_option maxHeartbeats 4000000 in
set_option maxRecDepth 100000 in
theorem b_X11_rule (C : CX p R s m args meth c cX11_rule 3 RX11 1 23 D cs) (hE : RI p l e R s m args below meth c cX11_rule D cs LM q .int Q E) : ∀ (x1 : Int32) (x2 : Int32) (σ : St) (H : Heap) (locs : List Loc) (ls : Array Slot), OK D cs LM q s σ H locs → lv_has ls 3 [(0, .ref (q 0)), (1, .int x1), (2, .int x2)] → w_X11_rule x1 x2 σ Q → W p l e R s m args below meth c H locs 0 0 E (F0 m 0 ls []) := by
  have hx := C.1
  have hb := C.2.1
  intro x1 x2 σ H locs ls O hl hf
  unfold w_X11_rule at hf
  refine lv_iload_n hx hb dX11_rule_0 rfl (lv_at hl 1 rfl) ?_
  refine lv_iconst (v := 0) hx hb dX11_rule_1 (by decide) ?_
  refine lv_bipush (v := 6) hx hb dX11_rule_2 (by decide) ?_
  refine r_callS C hl (c_X11_lies l x1 0 6) mX11_141 (by decide) rfl rfl (Nat.le_of_ble_eq_true rfl) hf dX11_rule_4 (fun r_1 hf => ?_)
  refine lv_if_ne (tgt := 14) hx hb dX11_rule_7 (by decide) (fun c_2 => ?_) (fun c_2 => ?_)
  · have hf := hf.1 c_2
    refine lv_iload_n hx hb dX11_rule_14 rfl (lv_at hl 2 rfl) ?_
    refine lv_if_ne (tgt := 26) hx hb dX11_rule_15 (by decide) (fun c_3 => ?_) (fun c_3 => ?_)
    · have hf := hf.1 c_3
      refine lv_iload_n hx hb dX11_rule_26 rfl (lv_at hl 2 rfl) ?_
      refine lv_iconst (v := 1) hx hb dX11_rule_27 (by decide) ?_
      refine lv_icmp_ne (tgt := 39) hx hb dX11_rule_28 (by decide) (fun c_4 => ?_) (fun c_4 => ?_)
      · have hf := hf.1 c_4
        refine lv_iconst (v := (-1)) hx hb dX11_rule_39 (by decide) ?_
        exact hE _ _ _ _ _ _ (vp_nar_int _) O hf dX11_rule_40
      · have hf := hf.2 c_4
        refine lv_aload_n hx hb dX11_rule_31 rfl (lv_at hl 0 rfl) ?_
        refine lv_iload_n hx hb dX11_rule_32 rfl (lv_at hl 1 rfl) ?_
        refine r_callI C O hl (c_X11_restOn l x1) mX11_152 (by decide) rfl rfl rfl rfl (Nat.le_of_ble_eq_true rfl) hf dX11_rule_33 (fun r_6 σ_5 H locs O hf => ?_)
        refine lv_goto (tgt := 40) hx hb dX11_rule_36 (by decide) ?_
        exact hE _ _ _ _ _ _ (vp_nar_int _) O hf dX11_rule_40
    · have hf := hf.2 c_3
      refine lv_aload_n hx hb dX11_rule_18 rfl (lv_at hl 0 rfl) ?_
      refine lv_iload_n hx hb dX11_rule_19 rfl (lv_at hl 1 rfl) ?_
      refine r_callI C O hl (c_X11_dutyOn l x1) mX11_149 (by decide) rfl rfl rfl rfl (Nat.le_of_ble_eq_true rfl) hf dX11_rule_20 (fun r_8 σ_7 H locs O hf => ?_)
      refine lv_goto (tgt := 40) hx hb dX11_rule_23 (by decide) ?_
      exact hE _ _ _ _ _ _ (vp_nar_int _) O hf dX11_rule_40
  · have hf := hf.2 c_2
    refine lv_iconst (v := (-1)) hx hb dX11_rule_10 (by decide) ?_
    refine lv_goto (tgt := 40) hx hb dX11_rule_11 (by decide) ?_
    exact hE _ _ _ _ _ _ (vp_nar_int _) O hf dX11_rule_40
theorem c_X11_rule (l : Launch) (x1 : Int32) (x2 : Int32) : MetI l yX11_rule cX11_rule 3 .int 1 23 LM 0 (fun q => [.int x1, .int x2]) (w_X11_rule x1 x2) := mk_I (own := RX11) (by decide) rfl (fun q => Nat.le_of_ble_eq_true rfl) (fun C hE O hl hf => b_X11_rule C hE x1 x2 _ _ _ _ O hl hf)
end
section
variable {p : Program} {l : Launch} {e : Env} {R : Room} {s : State} {m : MethodId} {args : Array Value} {below : List Frame} {meth : Method} {c : Code} {E : State → Prop}
variable {D : va_G} {cs : Nat → ClassId} {q : Nat → Nat}
variable {Q : Int32 → St → Prop}
def w_X11_minutes (x1 : Int32) (x2 : Int32) (σ : St) (Q : Int32 → St → Prop) : Prop := vp_in ((8 * x1) + x2) 64 ∧ (Q (σ.1 5 ((8 * x1) + x2).toNatClampNeg) σ)
set_option maxHeartbeats 4000000 in
set_option maxRecDepth 100000 in
theorem b_X11_minutes (C : CX p R s m args meth c cX11_minutes 3 RX11 0 0 D cs) (hE : RI p l e R s m args below meth c cX11_minutes D cs LM q .int Q E) : ∀ (x1 : Int32) (x2 : Int32) (σ : St) (H : Heap) (locs : List Loc) (ls : Array Slot), OK D cs LM q s σ H locs → lv_has ls 3 [(0, .ref (q 0)), (1, .int x1), (2, .int x2)] → w_X11_minutes x1 x2 σ Q → W p l e R s m args below meth c H locs 0 0 E (F0 m 0 ls []) := by
  have hx := C.1
  have hb := C.2.1
  intro x1 x2 σ H locs ls O hl hf
  unfold w_X11_minutes at hf
  refine lv_aload_n hx hb dX11_minutes_0 rfl (lv_at hl 0 rfl) ?_
  refine r_get C O (k := 0) (j := 8) (v := .ref (q 5)) fX11_24 rfl rfl rfl dX11_minutes_1 ?_
  refine lv_bipush (v := 8) hx hb dX11_minutes_4 (by decide) ?_
  refine lv_iload_n hx hb dX11_minutes_6 rfl (lv_at hl 1 rfl) ?_
  refine lv_imul hx hb dX11_minutes_7 ?_
  refine lv_iload_n hx hb dX11_minutes_8 rfl (lv_at hl 2 rfl) ?_
  refine lv_iadd hx hb dX11_minutes_9 ?_
  refine r_iald C O (k := 5) rfl hf.1 dX11_minutes_10 ?_
  have hf := hf.2
  exact hE _ _ _ _ _ _ (vp_nar_int _) O hf dX11_minutes_11
theorem c_X11_minutes (l : Launch) (x1 : Int32) (x2 : Int32) : MetI l yX11_minutes cX11_minutes 3 .int 0 0 LM 0 (fun q => [.int x1, .int x2]) (w_X11_minutes x1 x2) := mk_I (own := RX11) (by decide) rfl (fun q => Nat.le_of_ble_eq_true rfl) (fun C hE O hl hf => b_X11_minutes C hE x1 x2 _ _ _ _ O hl hf)
end
section
variable {p : Program} {l : Launch} {e : Env} {R : Room} {s : State} {m : MethodId} {args : Array Value} {below : List Frame} {meth : Method} {c : Code} {E : State → Prop}
variable {D : va_G} {cs : Nat → ClassId} {q : Nat → Nat}
variable {Q : Int32 → Prop}
def w_X11_areTwo (x0 : Int32) (x1 : Int32) (Q : Int32 → Prop) : Prop := w_X11_lies x0 0 7 (fun r_1 => (r_1 = 0 → (Q 0)) ∧ (¬ r_1 = 0 → (w_X11_lies x1 0 7 (fun r_3 => (r_3 = 0 → (Q 0)) ∧ (¬ r_3 = 0 → ((x0 = x1 → (Q 0)) ∧ (¬ x0 = x1 → (Q 1))))))))
set_option maxHeartbeats 4000000 in
set_option maxRecDepth 100000 in
theorem b_X11_areTwo (hx : p.tables.exec = Jvm.exec) (hb : c.code = cX11_areTwo) (hml : c.maxLocals = 2) (hown : s.vm.findClass RX11 = some m.cls) (hts : ∀ w ∈ gw, w.before args s = true) (hfr : 1 ≤ R.frames) (hlo : 22 ≤ R.locals) (hE : RS p l e R s m args below meth c cX11_areTwo .boolean Q E) : ∀ (x0 : Int32) (x1 : Int32) (ls : Array Slot), lv_has ls 2 [(0, .int x0), (1, .int x1)] → w_X11_areTwo x0 x1 Q → W p l e R s m args below meth c s.heap [] 0 0 E (F0 m 0 ls []) := by
  intro x0 x1 ls hl hf
  unfold w_X11_areTwo at hf
  refine lv_iload_n hx hb dX11_areTwo_0 rfl (lv_at hl 0 rfl) ?_
  refine lv_iconst (v := 0) hx hb dX11_areTwo_1 (by decide) ?_
  refine lv_bipush (v := 7) hx hb dX11_areTwo_2 (by decide) ?_
  refine r_stat hx hb hml hown hts hfr hlo hl (c_X11_lies l x0 0 7) mX11_141 (by decide) rfl rfl (Nat.le_of_ble_eq_true rfl) hf dX11_areTwo_4 (fun r_1 hf => ?_)
  refine lv_if_eq (tgt := 29) hx hb dX11_areTwo_7 (by decide) (fun c_2 => ?_) (fun c_2 => ?_)
  · have hf := hf.1 c_2
    refine lv_iconst (v := 0) hx hb dX11_areTwo_29 (by decide) ?_
    exact hE _ _ _ rfl hf dX11_areTwo_30
  · have hf := hf.2 c_2
    refine lv_iload_n hx hb dX11_areTwo_10 rfl (lv_at hl 1 rfl) ?_
    refine lv_iconst (v := 0) hx hb dX11_areTwo_11 (by decide) ?_
    refine lv_bipush (v := 7) hx hb dX11_areTwo_12 (by decide) ?_
    refine r_stat hx hb hml hown hts hfr hlo hl (c_X11_lies l x1 0 7) mX11_141 (by decide) rfl rfl (Nat.le_of_ble_eq_true rfl) hf dX11_areTwo_14 (fun r_3 hf => ?_)
    refine lv_if_eq (tgt := 29) hx hb dX11_areTwo_17 (by decide) (fun c_4 => ?_) (fun c_4 => ?_)
    · have hf := hf.1 c_4
      refine lv_iconst (v := 0) hx hb dX11_areTwo_29 (by decide) ?_
      exact hE _ _ _ rfl hf dX11_areTwo_30
    · have hf := hf.2 c_4
      refine lv_iload_n hx hb dX11_areTwo_20 rfl (lv_at hl 0 rfl) ?_
      refine lv_iload_n hx hb dX11_areTwo_21 rfl (lv_at hl 1 rfl) ?_
      refine lv_icmp_eq (tgt := 29) hx hb dX11_areTwo_22 (by decide) (fun c_5 => ?_) (fun c_5 => ?_)
      · have hf := hf.1 c_5
        refine lv_iconst (v := 0) hx hb dX11_areTwo_29 (by decide) ?_
        exact hE _ _ _ rfl hf dX11_areTwo_30
      · have hf := hf.2 c_5
        refine lv_iconst (v := 1) hx hb dX11_areTwo_25 (by decide) ?_
        refine lv_goto (tgt := 30) hx hb dX11_areTwo_26 (by decide) ?_
        exact hE _ _ _ rfl hf dX11_areTwo_30
theorem c_X11_areTwo (l : Launch) (x0 : Int32) (x1 : Int32) : MetS l yX11_areTwo cX11_areTwo 2 .boolean 1 22 [.int x0, .int x1] (w_X11_areTwo x0 x1) := mk_S (own := RX11) (by decide) rfl (Nat.le_of_ble_eq_true rfl) (fun hx hb hml hown hts hfr hlo hE hl hf => b_X11_areTwo hx hb hml hown hts hfr hlo hE x0 x1 _ hl hf)
end
section
variable {p : Program} {l : Launch} {e : Env} {R : Room} {s : State} {m : MethodId} {args : Array Value} {below : List Frame} {meth : Method} {c : Code} {E : State → Prop}
variable {D : va_G} {cs : Nat → ClassId} {q : Nat → Nat}
variable {Q : Int32 → St → Prop}
def w_X11_way_104 (Q : Int32 → St → Prop) (x1 : Int32) (x2 : Int32) (x3 : Int32) (σ : St) : Prop := vp_in ((8 * x1) + x2) 64 ∧ (∀ σ_1 : St, σ_1 = wr σ 5 ((8 * x1) + x2).toNatClampNeg x3 → (vp_in ((8 * x2) + x1) 64 ∧ (∀ σ_2 : St, σ_2 = wr σ_1 5 ((8 * x2) + x1).toNatClampNeg x3 → (Q 1 σ_2))))
set_option maxHeartbeats 4000000 in
set_option maxRecDepth 100000 in
theorem b_X11_way_104 (C : CX p R s m args meth c cX11_way 5 RX11 2 43 D cs) (hE : RI p l e R s m args below meth c cX11_way D cs LM q .boolean Q E) : ∀ (x1 : Int32) (x2 : Int32) (x3 : Int32) (σ : St) (H : Heap) (locs : List Loc) (ls : Array Slot), OK D cs LM q s σ H locs → lv_has ls 5 [(0, .ref (q 0)), (1, .int x1), (2, .int x2), (3, .int x3)] → w_X11_way_104 Q x1 x2 x3 σ → W p l e R s m args below meth c H locs 0 0 E (F0 m 104 ls []) := by
  have hx := C.1
  have hb := C.2.1
  intro x1 x2 x3 σ H locs ls O hl hf
  unfold w_X11_way_104 at hf
  refine lv_aload_n hx hb dX11_way_104 rfl (lv_at hl 0 rfl) ?_
  refine r_get C O (k := 0) (j := 8) (v := .ref (q 5)) fX11_24 rfl rfl rfl dX11_way_105 ?_
  refine lv_bipush (v := 8) hx hb dX11_way_108 (by decide) ?_
  refine lv_iload_n hx hb dX11_way_110 rfl (lv_at hl 1 rfl) ?_
  refine lv_imul hx hb dX11_way_111 ?_
  refine lv_iload_n hx hb dX11_way_112 rfl (lv_at hl 2 rfl) ?_
  refine lv_iadd hx hb dX11_way_113 ?_
  refine lv_iload_n hx hb dX11_way_114 rfl (lv_at hl 3 rfl) ?_
  refine r_iast C O (k := 5) rfl hf.1 dX11_way_115 (fun H locs σ_1 eσ_1 O => ?_)
  have hf := hf.2 σ_1 eσ_1
  refine lv_aload_n hx hb dX11_way_116 rfl (lv_at hl 0 rfl) ?_
  refine r_get C O (k := 0) (j := 8) (v := .ref (q 5)) fX11_24 rfl rfl rfl dX11_way_117 ?_
  refine lv_bipush (v := 8) hx hb dX11_way_120 (by decide) ?_
  refine lv_iload_n hx hb dX11_way_122 rfl (lv_at hl 2 rfl) ?_
  refine lv_imul hx hb dX11_way_123 ?_
  refine lv_iload_n hx hb dX11_way_124 rfl (lv_at hl 1 rfl) ?_
  refine lv_iadd hx hb dX11_way_125 ?_
  refine lv_iload_n hx hb dX11_way_126 rfl (lv_at hl 3 rfl) ?_
  refine r_iast C O (k := 5) rfl hf.1 dX11_way_127 (fun H locs σ_2 eσ_2 O => ?_)
  have hf := hf.2 σ_2 eσ_2
  refine lv_iconst (v := 1) hx hb dX11_way_128 (by decide) ?_
  exact hE _ _ _ _ _ _ rfl O hf dX11_way_129
def w_X11_way_74 (Q : Int32 → St → Prop) (K29 : Int32 → Int32 → Int32 → Int32 → St → Prop) (x1 : Int32) (x2 : Int32) (x3 : Int32) (x4 : Int32) (σ : St) : Prop := vp_in x4 20 ∧ ((¬ (σ.1 10 x4.toNatClampNeg) = x2 → (K29 x1 x2 x3 (x4 + 1) σ)) ∧ ((σ.1 10 x4.toNatClampNeg) = x2 → (vp_in x4 20 ∧ ((¬ (σ.1 11 x4.toNatClampNeg) = x1 → (K29 x1 x2 x3 (x4 + 1) σ)) ∧ ((σ.1 11 x4.toNatClampNeg) = x1 → (Q 0 σ))))))
set_option maxHeartbeats 4000000 in
set_option maxRecDepth 100000 in
theorem b_X11_way_74 (C : CX p R s m args meth c cX11_way 5 RX11 2 43 D cs) (hE : RI p l e R s m args below meth c cX11_way D cs LM q .boolean Q E) {K29 : Int32 → Int32 → Int32 → Int32 → St → Prop} (hK29 : ∀ (x1 : Int32) (x2 : Int32) (x3 : Int32) (x4 : Int32) (σ : St) (H : Heap) (locs : List Loc) (ls : Array Slot), OK D cs LM q s σ H locs → lv_has ls 5 [(0, .ref (q 0)), (1, .int x1), (2, .int x2), (3, .int x3), (4, .int x4)] → K29 x1 x2 x3 x4 σ → W p l e R s m args below meth c H locs 0 0 E (F0 m 29 ls [])) : ∀ (x1 : Int32) (x2 : Int32) (x3 : Int32) (x4 : Int32) (σ : St) (H : Heap) (locs : List Loc) (ls : Array Slot), OK D cs LM q s σ H locs → lv_has ls 5 [(0, .ref (q 0)), (1, .int x1), (2, .int x2), (3, .int x3), (4, .int x4)] → w_X11_way_74 Q K29 x1 x2 x3 x4 σ → W p l e R s m args below meth c H locs 0 0 E (F0 m 74 ls []) := by
  have hx := C.1
  have hb := C.2.1
  intro x1 x2 x3 x4 σ H locs ls O hl hf
  unfold w_X11_way_74 at hf
  refine lv_aload_n hx hb dX11_way_74 rfl (lv_at hl 0 rfl) ?_
  refine r_get C O (k := 0) (j := 15) (v := .ref (q 10)) fX11_39 rfl rfl rfl dX11_way_75 ?_
  refine lv_iload hx hb dX11_way_78 (lv_at hl 4 rfl) ?_
  refine r_iald C O (k := 10) rfl hf.1 dX11_way_80 ?_
  have hf := hf.2
  refine lv_iload_n hx hb dX11_way_81 rfl (lv_at hl 2 rfl) ?_
  refine lv_icmp_ne (tgt := 98) hx hb dX11_way_82 (by decide) (fun c_1 => ?_) (fun c_1 => ?_)
  · have hf := hf.1 c_1
    refine lv_iinc (v := x4 + 1) (lv' := [(4, .int (x4 + 1)), (0, .ref (q 0)), (1, .int x1), (2, .int x2), (3, .int x3)]) hx hb dX11_way_98 hl (k := 4) rfl rfl (by decide) rfl (fun ls hl => ?_)
    refine lv_goto (tgt := 29) hx hb dX11_way_101 (by decide) ?_
    exact hK29 x1 x2 x3 (x4 + 1) σ _ _ ls O (lv_sub hl [1, 2, 3, 4, 0] rfl) hf
  · have hf := hf.2 c_1
    refine lv_aload_n hx hb dX11_way_85 rfl (lv_at hl 0 rfl) ?_
    refine r_get C O (k := 0) (j := 16) (v := .ref (q 11)) fX11_42 rfl rfl rfl dX11_way_86 ?_
    refine lv_iload hx hb dX11_way_89 (lv_at hl 4 rfl) ?_
    refine r_iald C O (k := 11) rfl hf.1 dX11_way_91 ?_
    have hf := hf.2
    refine lv_iload_n hx hb dX11_way_92 rfl (lv_at hl 1 rfl) ?_
    refine lv_icmp_ne (tgt := 98) hx hb dX11_way_93 (by decide) (fun c_2 => ?_) (fun c_2 => ?_)
    · have hf := hf.1 c_2
      refine lv_iinc (v := x4 + 1) (lv' := [(4, .int (x4 + 1)), (0, .ref (q 0)), (1, .int x1), (2, .int x2), (3, .int x3)]) hx hb dX11_way_98 hl (k := 4) rfl rfl (by decide) rfl (fun ls hl => ?_)
      refine lv_goto (tgt := 29) hx hb dX11_way_101 (by decide) ?_
      exact hK29 x1 x2 x3 (x4 + 1) σ _ _ ls O (lv_sub hl [1, 2, 3, 4, 0] rfl) hf
    · have hf := hf.2 c_2
      refine lv_iconst (v := 0) hx hb dX11_way_96 (by decide) ?_
      exact hE _ _ _ _ _ _ rfl O hf dX11_way_97
def w_X11_way_29 (Q : Int32 → St → Prop) : Nat → Int32 → Int32 → Int32 → Int32 → St → Prop
  | 0, _, _, _, _, _ => False
  | n + 1, x1, x2, x3, x4, σ => ((σ.1 0 14) ≤ x4 → (w_X11_way_104 Q x1 x2 x3 σ)) ∧ (¬ (σ.1 0 14) ≤ x4 → ((¬ x3 = 0 → (w_X11_way_104 Q x1 x2 x3 σ)) ∧ (x3 = 0 → (vp_in x4 20 ∧ ((¬ (σ.1 14 x4.toNatClampNeg) = 0 → (w_X11_way_29 Q n x1 x2 x3 (x4 + 1) σ)) ∧ ((σ.1 14 x4.toNatClampNeg) = 0 → (vp_in x4 20 ∧ ((¬ (σ.1 10 x4.toNatClampNeg) = x1 → (w_X11_way_74 Q (fun x1 x2 x3 x4 σ => w_X11_way_29 Q n x1 x2 x3 x4 σ) x1 x2 x3 x4 σ)) ∧ ((σ.1 10 x4.toNatClampNeg) = x1 → (vp_in x4 20 ∧ (((σ.1 11 x4.toNatClampNeg) = x2 → (Q 0 σ)) ∧ (¬ (σ.1 11 x4.toNatClampNeg) = x2 → (w_X11_way_74 Q (fun x1 x2 x3 x4 σ => w_X11_way_29 Q n x1 x2 x3 x4 σ) x1 x2 x3 x4 σ)))))))))))))
set_option maxHeartbeats 4000000 in
set_option maxRecDepth 100000 in
theorem b_X11_way_29 (C : CX p R s m args meth c cX11_way 5 RX11 2 43 D cs) (hE : RI p l e R s m args below meth c cX11_way D cs LM q .boolean Q E) : ∀ n : Nat, ∀ (x1 : Int32) (x2 : Int32) (x3 : Int32) (x4 : Int32) (σ : St) (H : Heap) (locs : List Loc) (ls : Array Slot), OK D cs LM q s σ H locs → lv_has ls 5 [(0, .ref (q 0)), (1, .int x1), (2, .int x2), (3, .int x3), (4, .int x4)] → w_X11_way_29 Q n x1 x2 x3 x4 σ → W p l e R s m args below meth c H locs 0 0 E (F0 m 29 ls []) := by
  have hx := C.1
  have hb := C.2.1
  intro n
  induction n with
  | zero => intro x1 x2 x3 x4 σ H locs ls O hl hf; exact hf.elim
  | succ n ih =>
    intro x1 x2 x3 x4 σ H locs ls O hl hf
    unfold w_X11_way_29 at hf
    refine lv_iload hx hb dX11_way_29 (lv_at hl 4 rfl) ?_
    refine lv_aload_n hx hb dX11_way_31 rfl (lv_at hl 0 rfl) ?_
    refine r_get C O (k := 0) (j := 14) (v := .int (σ.1 0 14)) fX11_159 rfl rfl rfl dX11_way_32 ?_
    refine lv_icmp_ge (tgt := 104) hx hb dX11_way_35 (by decide) (fun c_1 => ?_) (fun c_1 => ?_)
    · have hf := hf.1 c_1
      exact b_X11_way_104 C hE x1 x2 x3 σ _ _ ls O (lv_sub hl [0, 1, 2, 3] rfl) hf
    · have hf := hf.2 c_1
      refine lv_iload_n hx hb dX11_way_38 rfl (lv_at hl 3 rfl) ?_
      refine lv_if_ne (tgt := 104) hx hb dX11_way_39 (by decide) (fun c_2 => ?_) (fun c_2 => ?_)
      · have hf := hf.1 c_2
        exact b_X11_way_104 C hE x1 x2 x3 σ _ _ ls O (lv_sub hl [0, 1, 2, 3] rfl) hf
      · have hf := hf.2 c_2
        refine lv_aload_n hx hb dX11_way_42 rfl (lv_at hl 0 rfl) ?_
        refine r_get C O (k := 0) (j := 19) (v := .ref (q 14)) fX11_51 rfl rfl rfl dX11_way_43 ?_
        refine lv_iload hx hb dX11_way_46 (lv_at hl 4 rfl) ?_
        refine r_zald C O (k := 14) rfl hf.1 dX11_way_48 ?_
        have hf := hf.2
        refine lv_if_ne (tgt := 98) hx hb dX11_way_49 (by decide) (fun c_3 => ?_) (fun c_3 => ?_)
        · have hf := hf.1 c_3
          refine lv_iinc (v := x4 + 1) (lv' := [(4, .int (x4 + 1)), (0, .ref (q 0)), (1, .int x1), (2, .int x2), (3, .int x3)]) hx hb dX11_way_98 hl (k := 4) rfl rfl (by decide) rfl (fun ls hl => ?_)
          refine lv_goto (tgt := 29) hx hb dX11_way_101 (by decide) ?_
          exact ih x1 x2 x3 (x4 + 1) σ _ _ ls O (lv_sub hl [1, 2, 3, 4, 0] rfl) hf
        · have hf := hf.2 c_3
          refine lv_aload_n hx hb dX11_way_52 rfl (lv_at hl 0 rfl) ?_
          refine r_get C O (k := 0) (j := 15) (v := .ref (q 10)) fX11_39 rfl rfl rfl dX11_way_53 ?_
          refine lv_iload hx hb dX11_way_56 (lv_at hl 4 rfl) ?_
          refine r_iald C O (k := 10) rfl hf.1 dX11_way_58 ?_
          have hf := hf.2
          refine lv_iload_n hx hb dX11_way_59 rfl (lv_at hl 1 rfl) ?_
          refine lv_icmp_ne (tgt := 74) hx hb dX11_way_60 (by decide) (fun c_4 => ?_) (fun c_4 => ?_)
          · have hf := hf.1 c_4
            exact b_X11_way_74 C hE ih x1 x2 x3 x4 σ _ _ ls O (lv_sub hl [0, 1, 2, 3, 4] rfl) hf
          · have hf := hf.2 c_4
            refine lv_aload_n hx hb dX11_way_63 rfl (lv_at hl 0 rfl) ?_
            refine r_get C O (k := 0) (j := 16) (v := .ref (q 11)) fX11_42 rfl rfl rfl dX11_way_64 ?_
            refine lv_iload hx hb dX11_way_67 (lv_at hl 4 rfl) ?_
            refine r_iald C O (k := 11) rfl hf.1 dX11_way_69 ?_
            have hf := hf.2
            refine lv_iload_n hx hb dX11_way_70 rfl (lv_at hl 2 rfl) ?_
            refine lv_icmp_eq (tgt := 96) hx hb dX11_way_71 (by decide) (fun c_5 => ?_) (fun c_5 => ?_)
            · have hf := hf.1 c_5
              refine lv_iconst (v := 0) hx hb dX11_way_96 (by decide) ?_
              exact hE _ _ _ _ _ _ rfl O hf dX11_way_97
            · have hf := hf.2 c_5
              exact b_X11_way_74 C hE ih x1 x2 x3 x4 σ _ _ ls O (lv_sub hl [0, 1, 2, 3, 4] rfl) hf
def w_X11_way (x1 : Int32) (x2 : Int32) (x3 : Int32) (σ : St) (Q : Int32 → St → Prop) : Prop := w_X11_areTwo x1 x2 (fun r_1 => (r_1 = 0 → (Q 0 σ)) ∧ (¬ r_1 = 0 → ((x3 = 0 → (∃ nn : Nat, w_X11_way_29 Q nn x1 x2 x3 0 σ)) ∧ (¬ x3 = 0 → (w_X11_lies x3 10 600 (fun r_4 => (¬ r_4 = 0 → (∃ nn : Nat, w_X11_way_29 Q nn x1 x2 x3 0 σ)) ∧ (r_4 = 0 → (Q 0 σ))))))))
set_option maxHeartbeats 4000000 in
set_option maxRecDepth 100000 in
theorem b_X11_way (C : CX p R s m args meth c cX11_way 5 RX11 2 43 D cs) (hE : RI p l e R s m args below meth c cX11_way D cs LM q .boolean Q E) : ∀ (x1 : Int32) (x2 : Int32) (x3 : Int32) (σ : St) (H : Heap) (locs : List Loc) (ls : Array Slot), OK D cs LM q s σ H locs → lv_has ls 5 [(0, .ref (q 0)), (1, .int x1), (2, .int x2), (3, .int x3)] → w_X11_way x1 x2 x3 σ Q → W p l e R s m args below meth c H locs 0 0 E (F0 m 0 ls []) := by
  have hx := C.1
  have hb := C.2.1
  intro x1 x2 x3 σ H locs ls O hl hf
  unfold w_X11_way at hf
  refine lv_iload_n hx hb dX11_way_0 rfl (lv_at hl 1 rfl) ?_
  refine lv_iload_n hx hb dX11_way_1 rfl (lv_at hl 2 rfl) ?_
  refine r_callS C hl (c_X11_areTwo l x1 x2) mX11_155 (by decide) rfl rfl (Nat.le_of_ble_eq_true rfl) hf dX11_way_2 (fun r_1 hf => ?_)
  refine lv_if_eq (tgt := 24) hx hb dX11_way_5 (by decide) (fun c_2 => ?_) (fun c_2 => ?_)
  · have hf := hf.1 c_2
    refine lv_iconst (v := 0) hx hb dX11_way_24 (by decide) ?_
    exact hE _ _ _ _ _ _ rfl O hf dX11_way_25
  · have hf := hf.2 c_2
    refine lv_iload_n hx hb dX11_way_8 rfl (lv_at hl 3 rfl) ?_
    refine lv_if_eq (tgt := 26) hx hb dX11_way_9 (by decide) (fun c_3 => ?_) (fun c_3 => ?_)
    · have hf := hf.1 c_3
      refine lv_iconst (v := 0) hx hb dX11_way_26 (by decide) ?_
      refine lv_istore (lv' := [(4, .int 0), (0, .ref (q 0)), (1, .int x1), (2, .int x2), (3, .int x3)]) hx hb dX11_way_27 hl (by decide) rfl (fun ls hl => ?_)
      obtain ⟨nn, hf⟩ := hf
      exact b_X11_way_29 C hE nn x1 x2 x3 0 σ _ _ ls O (lv_sub hl [1, 2, 3, 4, 0] rfl) hf
    · have hf := hf.2 c_3
      refine lv_iload_n hx hb dX11_way_12 rfl (lv_at hl 3 rfl) ?_
      refine lv_bipush (v := 10) hx hb dX11_way_13 (by decide) ?_
      refine lv_sipush (v := 600) hx hb dX11_way_15 (by decide) ?_
      refine r_callS C hl (c_X11_lies l x3 10 600) mX11_141 (by decide) rfl rfl (Nat.le_of_ble_eq_true rfl) hf dX11_way_18 (fun r_4 hf => ?_)
      refine lv_if_ne (tgt := 26) hx hb dX11_way_21 (by decide) (fun c_5 => ?_) (fun c_5 => ?_)
      · have hf := hf.1 c_5
        refine lv_iconst (v := 0) hx hb dX11_way_26 (by decide) ?_
        refine lv_istore (lv' := [(4, .int 0), (0, .ref (q 0)), (1, .int x1), (2, .int x2), (3, .int x3)]) hx hb dX11_way_27 hl (by decide) rfl (fun ls hl => ?_)
        obtain ⟨nn, hf⟩ := hf
        exact b_X11_way_29 C hE nn x1 x2 x3 0 σ _ _ ls O (lv_sub hl [1, 2, 3, 4, 0] rfl) hf
      · have hf := hf.2 c_5
        refine lv_iconst (v := 0) hx hb dX11_way_24 (by decide) ?_
        exact hE _ _ _ _ _ _ rfl O hf dX11_way_25
theorem c_X11_way (l : Launch) (x1 : Int32) (x2 : Int32) (x3 : Int32) : MetI l yX11_way cX11_way 5 .boolean 2 43 LM 0 (fun q => [.int x1, .int x2, .int x3]) (w_X11_way x1 x2 x3) := mk_I (own := RX11) (by decide) rfl (fun q => Nat.le_of_ble_eq_true rfl) (fun C hE O hl hf => b_X11_way C hE x1 x2 x3 _ _ _ _ O hl hf)
end
section
variable {p : Program} {l : Launch} {e : Env} {R : Room} {s : State} {m : MethodId} {args : Array Value} {below : List Frame} {meth : Method} {c : Code} {E : State → Prop}
variable {D : va_G} {cs : Nat → ClassId} {q : Nat → Nat}
variable {Q : Int32 → St → Prop}
def w_X11_plane (x1 : Int32) (x2 : Int32) (x3 : Int32) (x4 : Int32) (σ : St) (Q : Int32 → St → Prop) : Prop := ((σ.1 0 9) = 4 → (Q ((-1)) σ)) ∧ (¬ (σ.1 0 9) = 4 → (w_X11_lies x1 0 7 (fun r_2 => (r_2 = 0 → (Q ((-1)) σ)) ∧ (¬ r_2 = 0 → (w_X11_lies x2 1 30 (fun r_4 => (r_4 = 0 → (Q ((-1)) σ)) ∧ (¬ r_4 = 0 → (w_X11_lies x3 0 180 (fun r_6 => (r_6 = 0 → (Q ((-1)) σ)) ∧ (¬ r_6 = 0 → (w_X11_lies x4 1 1000 (fun r_8 => (¬ r_8 = 0 → (vp_in (σ.1 0 9) 4 ∧ (∀ σ_10 : St, σ_10 = wr σ 6 (σ.1 0 9).toNatClampNeg x1 → (vp_in (σ_10.1 0 9) 4 ∧ (∀ σ_11 : St, σ_11 = wr σ_10 7 (σ_10.1 0 9).toNatClampNeg x2 → (vp_in (σ_11.1 0 9) 4 ∧ (∀ σ_12 : St, σ_12 = wr σ_11 8 (σ_11.1 0 9).toNatClampNeg x3 → (vp_in (σ_12.1 0 9) 4 ∧ (∀ σ_13 : St, σ_13 = wr σ_12 9 (σ_12.1 0 9).toNatClampNeg x4 → (∀ σ_14 : St, σ_14 = wr σ_13 0 9 ((σ_13.1 0 9) + 1) → (Q ((σ_14.1 0 9) - 1) σ_14))))))))))) ∧ (r_8 = 0 → (Q ((-1)) σ))))))))))))))
set_option maxHeartbeats 4000000 in
set_option maxRecDepth 100000 in
theorem b_X11_plane (C : CX p R s m args meth c cX11_plane 5 RX11 1 22 D cs) (hE : RI p l e R s m args below meth c cX11_plane D cs LM q .int Q E) : ∀ (x1 : Int32) (x2 : Int32) (x3 : Int32) (x4 : Int32) (σ : St) (H : Heap) (locs : List Loc) (ls : Array Slot), OK D cs LM q s σ H locs → lv_has ls 5 [(0, .ref (q 0)), (1, .int x1), (2, .int x2), (3, .int x3), (4, .int x4)] → w_X11_plane x1 x2 x3 x4 σ Q → W p l e R s m args below meth c H locs 0 0 E (F0 m 0 ls []) := by
  have hx := C.1
  have hb := C.2.1
  intro x1 x2 x3 x4 σ H locs ls O hl hf
  unfold w_X11_plane at hf
  refine lv_aload_n hx hb dX11_plane_0 rfl (lv_at hl 0 rfl) ?_
  refine r_get C O (k := 0) (j := 9) (v := .int (σ.1 0 9)) fX11_162 rfl rfl rfl dX11_plane_1 ?_
  refine lv_iconst (v := 4) hx hb dX11_plane_4 (by decide) ?_
  refine lv_icmp_eq (tgt := 51) hx hb dX11_plane_5 (by decide) (fun c_1 => ?_) (fun c_1 => ?_)
  · have hf := hf.1 c_1
    refine lv_iconst (v := (-1)) hx hb dX11_plane_51 (by decide) ?_
    exact hE _ _ _ _ _ _ (vp_nar_int _) O hf dX11_plane_52
  · have hf := hf.2 c_1
    refine lv_iload_n hx hb dX11_plane_8 rfl (lv_at hl 1 rfl) ?_
    refine lv_iconst (v := 0) hx hb dX11_plane_9 (by decide) ?_
    refine lv_bipush (v := 7) hx hb dX11_plane_10 (by decide) ?_
    refine r_callS C hl (c_X11_lies l x1 0 7) mX11_141 (by decide) rfl rfl (Nat.le_of_ble_eq_true rfl) hf dX11_plane_12 (fun r_2 hf => ?_)
    refine lv_if_eq (tgt := 51) hx hb dX11_plane_15 (by decide) (fun c_3 => ?_) (fun c_3 => ?_)
    · have hf := hf.1 c_3
      refine lv_iconst (v := (-1)) hx hb dX11_plane_51 (by decide) ?_
      exact hE _ _ _ _ _ _ (vp_nar_int _) O hf dX11_plane_52
    · have hf := hf.2 c_3
      refine lv_iload_n hx hb dX11_plane_18 rfl (lv_at hl 2 rfl) ?_
      refine lv_iconst (v := 1) hx hb dX11_plane_19 (by decide) ?_
      refine lv_bipush (v := 30) hx hb dX11_plane_20 (by decide) ?_
      refine r_callS C hl (c_X11_lies l x2 1 30) mX11_141 (by decide) rfl rfl (Nat.le_of_ble_eq_true rfl) hf dX11_plane_22 (fun r_4 hf => ?_)
      refine lv_if_eq (tgt := 51) hx hb dX11_plane_25 (by decide) (fun c_5 => ?_) (fun c_5 => ?_)
      · have hf := hf.1 c_5
        refine lv_iconst (v := (-1)) hx hb dX11_plane_51 (by decide) ?_
        exact hE _ _ _ _ _ _ (vp_nar_int _) O hf dX11_plane_52
      · have hf := hf.2 c_5
        refine lv_iload_n hx hb dX11_plane_28 rfl (lv_at hl 3 rfl) ?_
        refine lv_iconst (v := 0) hx hb dX11_plane_29 (by decide) ?_
        refine lv_sipush (v := 180) hx hb dX11_plane_30 (by decide) ?_
        refine r_callS C hl (c_X11_lies l x3 0 180) mX11_141 (by decide) rfl rfl (Nat.le_of_ble_eq_true rfl) hf dX11_plane_33 (fun r_6 hf => ?_)
        refine lv_if_eq (tgt := 51) hx hb dX11_plane_36 (by decide) (fun c_7 => ?_) (fun c_7 => ?_)
        · have hf := hf.1 c_7
          refine lv_iconst (v := (-1)) hx hb dX11_plane_51 (by decide) ?_
          exact hE _ _ _ _ _ _ (vp_nar_int _) O hf dX11_plane_52
        · have hf := hf.2 c_7
          refine lv_iload hx hb dX11_plane_39 (lv_at hl 4 rfl) ?_
          refine lv_iconst (v := 1) hx hb dX11_plane_41 (by decide) ?_
          refine lv_sipush (v := 1000) hx hb dX11_plane_42 (by decide) ?_
          refine r_callS C hl (c_X11_lies l x4 1 1000) mX11_141 (by decide) rfl rfl (Nat.le_of_ble_eq_true rfl) hf dX11_plane_45 (fun r_8 hf => ?_)
          refine lv_if_ne (tgt := 53) hx hb dX11_plane_48 (by decide) (fun c_9 => ?_) (fun c_9 => ?_)
          · have hf := hf.1 c_9
            refine lv_aload_n hx hb dX11_plane_53 rfl (lv_at hl 0 rfl) ?_
            refine r_get C O (k := 0) (j := 10) (v := .ref (q 6)) fX11_27 rfl rfl rfl dX11_plane_54 ?_
            refine lv_aload_n hx hb dX11_plane_57 rfl (lv_at hl 0 rfl) ?_
            refine r_get C O (k := 0) (j := 9) (v := .int (σ.1 0 9)) fX11_162 rfl rfl rfl dX11_plane_58 ?_
            refine lv_iload_n hx hb dX11_plane_61 rfl (lv_at hl 1 rfl) ?_
            refine r_iast C O (k := 6) rfl hf.1 dX11_plane_62 (fun H locs σ_10 eσ_10 O => ?_)
            have hf := hf.2 σ_10 eσ_10
            refine lv_aload_n hx hb dX11_plane_63 rfl (lv_at hl 0 rfl) ?_
            refine r_get C O (k := 0) (j := 11) (v := .ref (q 7)) fX11_30 rfl rfl rfl dX11_plane_64 ?_
            refine lv_aload_n hx hb dX11_plane_67 rfl (lv_at hl 0 rfl) ?_
            refine r_get C O (k := 0) (j := 9) (v := .int (σ_10.1 0 9)) fX11_162 rfl rfl rfl dX11_plane_68 ?_
            refine lv_iload_n hx hb dX11_plane_71 rfl (lv_at hl 2 rfl) ?_
            refine r_iast C O (k := 7) rfl hf.1 dX11_plane_72 (fun H locs σ_11 eσ_11 O => ?_)
            have hf := hf.2 σ_11 eσ_11
            refine lv_aload_n hx hb dX11_plane_73 rfl (lv_at hl 0 rfl) ?_
            refine r_get C O (k := 0) (j := 12) (v := .ref (q 8)) fX11_33 rfl rfl rfl dX11_plane_74 ?_
            refine lv_aload_n hx hb dX11_plane_77 rfl (lv_at hl 0 rfl) ?_
            refine r_get C O (k := 0) (j := 9) (v := .int (σ_11.1 0 9)) fX11_162 rfl rfl rfl dX11_plane_78 ?_
            refine lv_iload_n hx hb dX11_plane_81 rfl (lv_at hl 3 rfl) ?_
            refine r_iast C O (k := 8) rfl hf.1 dX11_plane_82 (fun H locs σ_12 eσ_12 O => ?_)
            have hf := hf.2 σ_12 eσ_12
            refine lv_aload_n hx hb dX11_plane_83 rfl (lv_at hl 0 rfl) ?_
            refine r_get C O (k := 0) (j := 13) (v := .ref (q 9)) fX11_36 rfl rfl rfl dX11_plane_84 ?_
            refine lv_aload_n hx hb dX11_plane_87 rfl (lv_at hl 0 rfl) ?_
            refine r_get C O (k := 0) (j := 9) (v := .int (σ_12.1 0 9)) fX11_162 rfl rfl rfl dX11_plane_88 ?_
            refine lv_iload hx hb dX11_plane_91 (lv_at hl 4 rfl) ?_
            refine r_iast C O (k := 9) rfl hf.1 dX11_plane_93 (fun H locs σ_13 eσ_13 O => ?_)
            have hf := hf.2 σ_13 eσ_13
            refine lv_aload_n hx hb dX11_plane_94 rfl (lv_at hl 0 rfl) ?_
            refine lv_dup hx hb dX11_plane_95 rfl ?_
            refine r_get C O (k := 0) (j := 9) (v := .int (σ_13.1 0 9)) fX11_162 rfl rfl rfl dX11_plane_96 ?_
            refine lv_iconst (v := 1) hx hb dX11_plane_99 (by decide) ?_
            refine lv_iadd hx hb dX11_plane_100 ?_
            refine r_puti C O (k := 0) pX11_162 rfl rfl dX11_plane_101 (fun H locs σ_14 eσ_14 O => ?_)
            have hf := hf σ_14 eσ_14
            refine lv_aload_n hx hb dX11_plane_104 rfl (lv_at hl 0 rfl) ?_
            refine r_get C O (k := 0) (j := 9) (v := .int (σ_14.1 0 9)) fX11_162 rfl rfl rfl dX11_plane_105 ?_
            refine lv_iconst (v := 1) hx hb dX11_plane_108 (by decide) ?_
            refine lv_isub hx hb dX11_plane_109 ?_
            exact hE _ _ _ _ _ _ (vp_nar_int _) O hf dX11_plane_110
          · have hf := hf.2 c_9
            refine lv_iconst (v := (-1)) hx hb dX11_plane_51 (by decide) ?_
            exact hE _ _ _ _ _ _ (vp_nar_int _) O hf dX11_plane_52
theorem c_X11_plane (l : Launch) (x1 : Int32) (x2 : Int32) (x3 : Int32) (x4 : Int32) : MetI l yX11_plane cX11_plane 5 .int 1 22 LM 0 (fun q => [.int x1, .int x2, .int x3, .int x4]) (w_X11_plane x1 x2 x3 x4) := mk_I (own := RX11) (by decide) rfl (fun q => Nat.le_of_ble_eq_true rfl) (fun C hE O hl hf => b_X11_plane C hE x1 x2 x3 x4 _ _ _ _ O hl hf)
end
section
variable {p : Program} {l : Launch} {e : Env} {R : Room} {s : State} {m : MethodId} {args : Array Value} {below : List Frame} {meth : Method} {c : Code} {E : State → Prop}
variable {D : va_G} {cs : Nat → ClassId} {q : Nat → Nat}
variable {Q : Int32 → St → Prop}
def w_X11_there_4 (Q : Int32 → St → Prop) : Nat → Int32 → Int32 → St → Prop
  | 0, _, _, _ => False
  | n + 1, x1, x2, σ => ((σ.1 0 14) ≤ x2 → (Q x1 σ)) ∧ (¬ (σ.1 0 14) ≤ x2 → (vp_in x2 20 ∧ (((σ.1 14 x2.toNatClampNeg) = 0 → (w_X11_there_4 Q n (x1 + 1) (x2 + 1) σ)) ∧ (¬ (σ.1 14 x2.toNatClampNeg) = 0 → (w_X11_there_4 Q n (x1 + 0) (x2 + 1) σ)))))
set_option maxHeartbeats 4000000 in
set_option maxRecDepth 100000 in
theorem b_X11_there_4 (C : CX p R s m args meth c cX11_there 3 RX11 0 0 D cs) (hE : RI p l e R s m args below meth c cX11_there D cs LM q .int Q E) : ∀ n : Nat, ∀ (x1 : Int32) (x2 : Int32) (σ : St) (H : Heap) (locs : List Loc) (ls : Array Slot), OK D cs LM q s σ H locs → lv_has ls 3 [(0, .ref (q 0)), (1, .int x1), (2, .int x2)] → w_X11_there_4 Q n x1 x2 σ → W p l e R s m args below meth c H locs 0 0 E (F0 m 4 ls []) := by
  have hx := C.1
  have hb := C.2.1
  intro n
  induction n with
  | zero => intro x1 x2 σ H locs ls O hl hf; exact hf.elim
  | succ n ih =>
    intro x1 x2 σ H locs ls O hl hf
    unfold w_X11_there_4 at hf
    refine lv_iload_n hx hb dX11_there_4 rfl (lv_at hl 2 rfl) ?_
    refine lv_aload_n hx hb dX11_there_5 rfl (lv_at hl 0 rfl) ?_
    refine r_get C O (k := 0) (j := 14) (v := .int (σ.1 0 14)) fX11_159 rfl rfl rfl dX11_there_6 ?_
    refine lv_icmp_ge (tgt := 35) hx hb dX11_there_9 (by decide) (fun c_1 => ?_) (fun c_1 => ?_)
    · have hf := hf.1 c_1
      refine lv_iload_n hx hb dX11_there_35 rfl (lv_at hl 1 rfl) ?_
      exact hE _ _ _ _ _ _ (vp_nar_int _) O hf dX11_there_36
    · have hf := hf.2 c_1
      refine lv_iload_n hx hb dX11_there_12 rfl (lv_at hl 1 rfl) ?_
      refine lv_aload_n hx hb dX11_there_13 rfl (lv_at hl 0 rfl) ?_
      refine r_get C O (k := 0) (j := 19) (v := .ref (q 14)) fX11_51 rfl rfl rfl dX11_there_14 ?_
      refine lv_iload_n hx hb dX11_there_17 rfl (lv_at hl 2 rfl) ?_
      refine r_zald C O (k := 14) rfl hf.1 dX11_there_18 ?_
      have hf := hf.2
      refine lv_if_eq (tgt := 26) hx hb dX11_there_19 (by decide) (fun c_2 => ?_) (fun c_2 => ?_)
      · have hf := hf.1 c_2
        refine lv_iconst (v := 1) hx hb dX11_there_26 (by decide) ?_
        refine lv_iadd hx hb dX11_there_27 ?_
        refine lv_istore_n (lv' := [(1, .int (x1 + 1)), (0, .ref (q 0)), (2, .int x2)]) hx hb dX11_there_28 rfl hl (by decide) rfl (fun ls hl => ?_)
        refine lv_iinc (v := x2 + 1) (lv' := [(2, .int (x2 + 1)), (1, .int (x1 + 1)), (0, .ref (q 0))]) hx hb dX11_there_29 hl (k := 2) rfl rfl (by decide) rfl (fun ls hl => ?_)
        refine lv_goto (tgt := 4) hx hb dX11_there_32 (by decide) ?_
        exact ih (x1 + 1) (x2 + 1) σ _ _ ls O (lv_sub hl [2, 1, 0] rfl) hf
      · have hf := hf.2 c_2
        refine lv_iconst (v := 0) hx hb dX11_there_22 (by decide) ?_
        refine lv_goto (tgt := 27) hx hb dX11_there_23 (by decide) ?_
        refine lv_iadd hx hb dX11_there_27 ?_
        refine lv_istore_n (lv' := [(1, .int (x1 + 0)), (0, .ref (q 0)), (2, .int x2)]) hx hb dX11_there_28 rfl hl (by decide) rfl (fun ls hl => ?_)
        refine lv_iinc (v := x2 + 1) (lv' := [(2, .int (x2 + 1)), (1, .int (x1 + 0)), (0, .ref (q 0))]) hx hb dX11_there_29 hl (k := 2) rfl rfl (by decide) rfl (fun ls hl => ?_)
        refine lv_goto (tgt := 4) hx hb dX11_there_32 (by decide) ?_
        exact ih (x1 + 0) (x2 + 1) σ _ _ ls O (lv_sub hl [2, 1, 0] rfl) hf
def w_X11_there (σ : St) (Q : Int32 → St → Prop) : Prop := ∃ nn : Nat, w_X11_there_4 Q nn 0 0 σ
set_option maxHeartbeats 4000000 in
set_option maxRecDepth 100000 in
theorem b_X11_there (C : CX p R s m args meth c cX11_there 3 RX11 0 0 D cs) (hE : RI p l e R s m args below meth c cX11_there D cs LM q .int Q E) : ∀ (σ : St) (H : Heap) (locs : List Loc) (ls : Array Slot), OK D cs LM q s σ H locs → lv_has ls 3 [(0, .ref (q 0))] → w_X11_there  σ Q → W p l e R s m args below meth c H locs 0 0 E (F0 m 0 ls []) := by
  have hx := C.1
  have hb := C.2.1
  intro  σ H locs ls O hl hf
  unfold w_X11_there at hf
  refine lv_iconst (v := 0) hx hb dX11_there_0 (by decide) ?_
  refine lv_istore_n (lv' := [(1, .int 0), (0, .ref (q 0))]) hx hb dX11_there_1 rfl hl (by decide) rfl (fun ls hl => ?_)
  refine lv_iconst (v := 0) hx hb dX11_there_2 (by decide) ?_
  refine lv_istore_n (lv' := [(2, .int 0), (1, .int 0), (0, .ref (q 0))]) hx hb dX11_there_3 rfl hl (by decide) rfl (fun ls hl => ?_)
  obtain ⟨nn, hf⟩ := hf
  exact b_X11_there_4 C hE nn 0 0 σ _ _ ls O (lv_sub hl [2, 1, 0] rfl) hf
theorem c_X11_there (l : Launch) : MetI l yX11_there cX11_there 3 .int 0 0 LM 0 (fun q => []) (w_X11_there ) := mk_I (own := RX11) (by decide) rfl (fun q => Nat.le_of_ble_eq_true rfl) (fun C hE O hl hf => b_X11_there C hE _ _ _ _ O hl hf)
end
section
variable {p : Program} {l : Launch} {e : Env} {R : Room} {s : State} {m : MethodId} {args : Array Value} {below : List Frame} {meth : Method} {c : Code} {E : State → Prop}
variable {D : va_G} {cs : Nat → ClassId} {q : Nat → Nat}
variable {Q : Int32 → St → Prop}
def w_X11_flight (x1 : Int32) (x2 : Int32) (x3 : Int32) (x4 : Int32) (σ : St) (Q : Int32 → St → Prop) : Prop := w_X11_areTwo x1 x2 (fun r_1 => (r_1 = 0 → (Q ((-1)) σ)) ∧ (¬ r_1 = 0 → (w_X11_minutes x1 x2 σ (fun r_4 σ_3 => (r_4 = 0 → (Q ((-1)) σ_3)) ∧ (¬ r_4 = 0 → (w_X11_lies x3 0 10079 (fun r_6 => (r_6 = 0 → (Q ((-1)) σ_3)) ∧ (¬ r_6 = 0 → (w_X11_lies x4 1 30 (fun r_8 => (r_8 = 0 → (Q ((-1)) σ_3)) ∧ (¬ r_8 = 0 → (((σ_3.1 0 14) = 20 → (Q ((-1)) σ_3)) ∧ (¬ (σ_3.1 0 14) = 20 → (w_X11_there σ_3 (fun r_12 σ_11 => (¬ r_12 = 8 → (vp_in (σ_11.1 0 14) 20 ∧ (∀ σ_14 : St, σ_14 = wr σ_11 10 (σ_11.1 0 14).toNatClampNeg x1 → (vp_in (σ_14.1 0 14) 20 ∧ (∀ σ_15 : St, σ_15 = wr σ_14 11 (σ_14.1 0 14).toNatClampNeg x2 → (vp_in (σ_15.1 0 14) 20 ∧ (∀ σ_16 : St, σ_16 = wr σ_15 12 (σ_15.1 0 14).toNatClampNeg x3 → (vp_in (σ_16.1 0 14) 20 ∧ (∀ σ_17 : St, σ_17 = wr σ_16 13 (σ_16.1 0 14).toNatClampNeg x4 → (vp_in (σ_17.1 0 14) 20 ∧ (∀ σ_18 : St, σ_18 = wr σ_17 15 (σ_17.1 0 14).toNatClampNeg ((-1)) → (∀ σ_19 : St, σ_19 = wr σ_18 0 14 ((σ_18.1 0 14) + 1) → (Q ((σ_19.1 0 14) - 1) σ_19))))))))))))) ∧ (r_12 = 8 → (Q ((-1)) σ_11)))))))))))))))))
set_option maxHeartbeats 4000000 in
set_option maxRecDepth 100000 in
theorem b_X11_flight (C : CX p R s m args meth c cX11_flight 5 RX11 2 43 D cs) (hE : RI p l e R s m args below meth c cX11_flight D cs LM q .int Q E) : ∀ (x1 : Int32) (x2 : Int32) (x3 : Int32) (x4 : Int32) (σ : St) (H : Heap) (locs : List Loc) (ls : Array Slot), OK D cs LM q s σ H locs → lv_has ls 5 [(0, .ref (q 0)), (1, .int x1), (2, .int x2), (3, .int x3), (4, .int x4)] → w_X11_flight x1 x2 x3 x4 σ Q → W p l e R s m args below meth c H locs 0 0 E (F0 m 0 ls []) := by
  have hx := C.1
  have hb := C.2.1
  intro x1 x2 x3 x4 σ H locs ls O hl hf
  unfold w_X11_flight at hf
  refine lv_iload_n hx hb dX11_flight_0 rfl (lv_at hl 1 rfl) ?_
  refine lv_iload_n hx hb dX11_flight_1 rfl (lv_at hl 2 rfl) ?_
  refine r_callS C hl (c_X11_areTwo l x1 x2) mX11_155 (by decide) rfl rfl (Nat.le_of_ble_eq_true rfl) hf dX11_flight_2 (fun r_1 hf => ?_)
  refine lv_if_eq (tgt := 57) hx hb dX11_flight_5 (by decide) (fun c_2 => ?_) (fun c_2 => ?_)
  · have hf := hf.1 c_2
    refine lv_iconst (v := (-1)) hx hb dX11_flight_57 (by decide) ?_
    exact hE _ _ _ _ _ _ (vp_nar_int _) O hf dX11_flight_58
  · have hf := hf.2 c_2
    refine lv_aload_n hx hb dX11_flight_8 rfl (lv_at hl 0 rfl) ?_
    refine lv_iload_n hx hb dX11_flight_9 rfl (lv_at hl 1 rfl) ?_
    refine lv_iload_n hx hb dX11_flight_10 rfl (lv_at hl 2 rfl) ?_
    refine r_callI C O hl (c_X11_minutes l x1 x2) mX11_165 (by decide) rfl rfl rfl rfl (Nat.le_of_ble_eq_true rfl) hf dX11_flight_11 (fun r_4 σ_3 H locs O hf => ?_)
    refine lv_if_eq (tgt := 57) hx hb dX11_flight_14 (by decide) (fun c_5 => ?_) (fun c_5 => ?_)
    · have hf := hf.1 c_5
      refine lv_iconst (v := (-1)) hx hb dX11_flight_57 (by decide) ?_
      exact hE _ _ _ _ _ _ (vp_nar_int _) O hf dX11_flight_58
    · have hf := hf.2 c_5
      refine lv_iload_n hx hb dX11_flight_17 rfl (lv_at hl 3 rfl) ?_
      refine lv_iconst (v := 0) hx hb dX11_flight_18 (by decide) ?_
      refine lv_sipush (v := 10079) hx hb dX11_flight_19 (by decide) ?_
      refine r_callS C hl (c_X11_lies l x3 0 10079) mX11_141 (by decide) rfl rfl (Nat.le_of_ble_eq_true rfl) hf dX11_flight_22 (fun r_6 hf => ?_)
      refine lv_if_eq (tgt := 57) hx hb dX11_flight_25 (by decide) (fun c_7 => ?_) (fun c_7 => ?_)
      · have hf := hf.1 c_7
        refine lv_iconst (v := (-1)) hx hb dX11_flight_57 (by decide) ?_
        exact hE _ _ _ _ _ _ (vp_nar_int _) O hf dX11_flight_58
      · have hf := hf.2 c_7
        refine lv_iload hx hb dX11_flight_28 (lv_at hl 4 rfl) ?_
        refine lv_iconst (v := 1) hx hb dX11_flight_30 (by decide) ?_
        refine lv_bipush (v := 30) hx hb dX11_flight_31 (by decide) ?_
        refine r_callS C hl (c_X11_lies l x4 1 30) mX11_141 (by decide) rfl rfl (Nat.le_of_ble_eq_true rfl) hf dX11_flight_33 (fun r_8 hf => ?_)
        refine lv_if_eq (tgt := 57) hx hb dX11_flight_36 (by decide) (fun c_9 => ?_) (fun c_9 => ?_)
        · have hf := hf.1 c_9
          refine lv_iconst (v := (-1)) hx hb dX11_flight_57 (by decide) ?_
          exact hE _ _ _ _ _ _ (vp_nar_int _) O hf dX11_flight_58
        · have hf := hf.2 c_9
          refine lv_aload_n hx hb dX11_flight_39 rfl (lv_at hl 0 rfl) ?_
          refine r_get C O (k := 0) (j := 14) (v := .int (σ_3.1 0 14)) fX11_159 rfl rfl rfl dX11_flight_40 ?_
          refine lv_bipush (v := 20) hx hb dX11_flight_43 (by decide) ?_
          refine lv_icmp_eq (tgt := 57) hx hb dX11_flight_45 (by decide) (fun c_10 => ?_) (fun c_10 => ?_)
          · have hf := hf.1 c_10
            refine lv_iconst (v := (-1)) hx hb dX11_flight_57 (by decide) ?_
            exact hE _ _ _ _ _ _ (vp_nar_int _) O hf dX11_flight_58
          · have hf := hf.2 c_10
            refine lv_aload_n hx hb dX11_flight_48 rfl (lv_at hl 0 rfl) ?_
            refine r_callI C O hl (c_X11_there l) mX11_168 (by decide) rfl rfl rfl rfl (Nat.le_of_ble_eq_true rfl) hf dX11_flight_49 (fun r_12 σ_11 H locs O hf => ?_)
            refine lv_bipush (v := 8) hx hb dX11_flight_52 (by decide) ?_
            refine lv_icmp_ne (tgt := 59) hx hb dX11_flight_54 (by decide) (fun c_13 => ?_) (fun c_13 => ?_)
            · have hf := hf.1 c_13
              refine lv_aload_n hx hb dX11_flight_59 rfl (lv_at hl 0 rfl) ?_
              refine r_get C O (k := 0) (j := 15) (v := .ref (q 10)) fX11_39 rfl rfl rfl dX11_flight_60 ?_
              refine lv_aload_n hx hb dX11_flight_63 rfl (lv_at hl 0 rfl) ?_
              refine r_get C O (k := 0) (j := 14) (v := .int (σ_11.1 0 14)) fX11_159 rfl rfl rfl dX11_flight_64 ?_
              refine lv_iload_n hx hb dX11_flight_67 rfl (lv_at hl 1 rfl) ?_
              refine r_iast C O (k := 10) rfl hf.1 dX11_flight_68 (fun H locs σ_14 eσ_14 O => ?_)
              have hf := hf.2 σ_14 eσ_14
              refine lv_aload_n hx hb dX11_flight_69 rfl (lv_at hl 0 rfl) ?_
              refine r_get C O (k := 0) (j := 16) (v := .ref (q 11)) fX11_42 rfl rfl rfl dX11_flight_70 ?_
              refine lv_aload_n hx hb dX11_flight_73 rfl (lv_at hl 0 rfl) ?_
              refine r_get C O (k := 0) (j := 14) (v := .int (σ_14.1 0 14)) fX11_159 rfl rfl rfl dX11_flight_74 ?_
              refine lv_iload_n hx hb dX11_flight_77 rfl (lv_at hl 2 rfl) ?_
              refine r_iast C O (k := 11) rfl hf.1 dX11_flight_78 (fun H locs σ_15 eσ_15 O => ?_)
              have hf := hf.2 σ_15 eσ_15
              refine lv_aload_n hx hb dX11_flight_79 rfl (lv_at hl 0 rfl) ?_
              refine r_get C O (k := 0) (j := 17) (v := .ref (q 12)) fX11_45 rfl rfl rfl dX11_flight_80 ?_
              refine lv_aload_n hx hb dX11_flight_83 rfl (lv_at hl 0 rfl) ?_
              refine r_get C O (k := 0) (j := 14) (v := .int (σ_15.1 0 14)) fX11_159 rfl rfl rfl dX11_flight_84 ?_
              refine lv_iload_n hx hb dX11_flight_87 rfl (lv_at hl 3 rfl) ?_
              refine r_iast C O (k := 12) rfl hf.1 dX11_flight_88 (fun H locs σ_16 eσ_16 O => ?_)
              have hf := hf.2 σ_16 eσ_16
              refine lv_aload_n hx hb dX11_flight_89 rfl (lv_at hl 0 rfl) ?_
              refine r_get C O (k := 0) (j := 18) (v := .ref (q 13)) fX11_48 rfl rfl rfl dX11_flight_90 ?_
              refine lv_aload_n hx hb dX11_flight_93 rfl (lv_at hl 0 rfl) ?_
              refine r_get C O (k := 0) (j := 14) (v := .int (σ_16.1 0 14)) fX11_159 rfl rfl rfl dX11_flight_94 ?_
              refine lv_iload hx hb dX11_flight_97 (lv_at hl 4 rfl) ?_
              refine r_iast C O (k := 13) rfl hf.1 dX11_flight_99 (fun H locs σ_17 eσ_17 O => ?_)
              have hf := hf.2 σ_17 eσ_17
              refine lv_aload_n hx hb dX11_flight_100 rfl (lv_at hl 0 rfl) ?_
              refine r_get C O (k := 0) (j := 20) (v := .ref (q 15)) fX11_54 rfl rfl rfl dX11_flight_101 ?_
              refine lv_aload_n hx hb dX11_flight_104 rfl (lv_at hl 0 rfl) ?_
              refine r_get C O (k := 0) (j := 14) (v := .int (σ_17.1 0 14)) fX11_159 rfl rfl rfl dX11_flight_105 ?_
              refine lv_iconst (v := (-1)) hx hb dX11_flight_108 (by decide) ?_
              refine r_iast C O (k := 15) rfl hf.1 dX11_flight_109 (fun H locs σ_18 eσ_18 O => ?_)
              have hf := hf.2 σ_18 eσ_18
              refine lv_aload_n hx hb dX11_flight_110 rfl (lv_at hl 0 rfl) ?_
              refine lv_dup hx hb dX11_flight_111 rfl ?_
              refine r_get C O (k := 0) (j := 14) (v := .int (σ_18.1 0 14)) fX11_159 rfl rfl rfl dX11_flight_112 ?_
              refine lv_iconst (v := 1) hx hb dX11_flight_115 (by decide) ?_
              refine lv_iadd hx hb dX11_flight_116 ?_
              refine r_puti C O (k := 0) pX11_159 rfl rfl dX11_flight_117 (fun H locs σ_19 eσ_19 O => ?_)
              have hf := hf σ_19 eσ_19
              refine lv_aload_n hx hb dX11_flight_120 rfl (lv_at hl 0 rfl) ?_
              refine r_get C O (k := 0) (j := 14) (v := .int (σ_19.1 0 14)) fX11_159 rfl rfl rfl dX11_flight_121 ?_
              refine lv_iconst (v := 1) hx hb dX11_flight_124 (by decide) ?_
              refine lv_isub hx hb dX11_flight_125 ?_
              exact hE _ _ _ _ _ _ (vp_nar_int _) O hf dX11_flight_126
            · have hf := hf.2 c_13
              refine lv_iconst (v := (-1)) hx hb dX11_flight_57 (by decide) ?_
              exact hE _ _ _ _ _ _ (vp_nar_int _) O hf dX11_flight_58
theorem c_X11_flight (l : Launch) (x1 : Int32) (x2 : Int32) (x3 : Int32) (x4 : Int32) : MetI l yX11_flight cX11_flight 5 .int 2 43 LM 0 (fun q => [.int x1, .int x2, .int x3, .int x4]) (w_X11_flight x1 x2 x3 x4) := mk_I (own := RX11) (by decide) rfl (fun q => Nat.le_of_ble_eq_true rfl) (fun C hE O hl hf => b_X11_flight C hE x1 x2 x3 x4 _ _ _ _ O hl hf)
end
section
variable {p : Program} {l : Launch} {e : Env} {R : Room} {s : State} {m : MethodId} {args : Array Value} {below : List Frame} {meth : Method} {c : Code} {E : State → Prop}
variable {D : va_G} {cs : Nat → ClassId} {q : Nat → Nat}
variable {Q : Int32 → St → Prop}
def w_X11_isFlight (x1 : Int32) (σ : St) (Q : Int32 → St → Prop) : Prop := w_X11_lies x1 0 ((σ.1 0 14) - 1) (fun r_1 => (r_1 = 0 ∨ r_1 = 1) ∧ Q r_1 σ)
set_option maxHeartbeats 4000000 in
set_option maxRecDepth 100000 in
theorem b_X11_isFlight (C : CX p R s m args meth c cX11_isFlight 2 RX11 1 22 D cs) (hE : RI p l e R s m args below meth c cX11_isFlight D cs LM q .boolean Q E) : ∀ (x1 : Int32) (σ : St) (H : Heap) (locs : List Loc) (ls : Array Slot), OK D cs LM q s σ H locs → lv_has ls 2 [(0, .ref (q 0)), (1, .int x1)] → w_X11_isFlight x1 σ Q → W p l e R s m args below meth c H locs 0 0 E (F0 m 0 ls []) := by
  have hx := C.1
  have hb := C.2.1
  intro x1 σ H locs ls O hl hf
  unfold w_X11_isFlight at hf
  refine lv_iload_n hx hb dX11_isFlight_0 rfl (lv_at hl 1 rfl) ?_
  refine lv_iconst (v := 0) hx hb dX11_isFlight_1 (by decide) ?_
  refine lv_aload_n hx hb dX11_isFlight_2 rfl (lv_at hl 0 rfl) ?_
  refine r_get C O (k := 0) (j := 14) (v := .int (σ.1 0 14)) fX11_159 rfl rfl rfl dX11_isFlight_3 ?_
  refine lv_iconst (v := 1) hx hb dX11_isFlight_6 (by decide) ?_
  refine lv_isub hx hb dX11_isFlight_7 ?_
  refine r_callS C hl (c_X11_lies l x1 0 ((σ.1 0 14) - 1)) mX11_141 (by decide) rfl rfl (Nat.le_of_ble_eq_true rfl) hf dX11_isFlight_8 (fun r_1 hf => ?_)
  exact hE _ _ _ _ _ _ (nar_z hf.1) O hf.2 dX11_isFlight_11
theorem c_X11_isFlight (l : Launch) (x1 : Int32) : MetI l yX11_isFlight cX11_isFlight 2 .boolean 1 22 LM 0 (fun q => [.int x1]) (w_X11_isFlight x1) := mk_I (own := RX11) (by decide) rfl (fun q => Nat.le_of_ble_eq_true rfl) (fun C hE O hl hf => b_X11_isFlight C hE x1 _ _ _ _ O hl hf)
end
section
variable {p : Program} {l : Launch} {e : Env} {R : Room} {s : State} {m : MethodId} {args : Array Value} {below : List Frame} {meth : Method} {c : Code} {E : State → Prop}
variable {D : va_G} {cs : Nat → ClassId} {q : Nat → Nat}
variable {Q : Int32 → St → Prop}
def w_X11_binds (x1 : Int32) (σ : St) (Q : Int32 → St → Prop) : Prop := vp_in x1 40 ∧ (((σ.1 19 x1.toNatClampNeg) = 0 → (Q 1 σ)) ∧ (¬ (σ.1 19 x1.toNatClampNeg) = 0 → (vp_in x1 40 ∧ ((¬ (σ.1 19 x1.toNatClampNeg) = 1 → (Q 0 σ)) ∧ ((σ.1 19 x1.toNatClampNeg) = 1 → (Q 1 σ))))))
set_option maxHeartbeats 4000000 in
set_option maxRecDepth 100000 in
theorem b_X11_binds (C : CX p R s m args meth c cX11_binds 2 RX11 0 0 D cs) (hE : RI p l e R s m args below meth c cX11_binds D cs LM q .boolean Q E) : ∀ (x1 : Int32) (σ : St) (H : Heap) (locs : List Loc) (ls : Array Slot), OK D cs LM q s σ H locs → lv_has ls 2 [(0, .ref (q 0)), (1, .int x1)] → w_X11_binds x1 σ Q → W p l e R s m args below meth c H locs 0 0 E (F0 m 0 ls []) := by
  have hx := C.1
  have hb := C.2.1
  intro x1 σ H locs ls O hl hf
  unfold w_X11_binds at hf
  refine lv_aload_n hx hb dX11_binds_0 rfl (lv_at hl 0 rfl) ?_
  refine r_get C O (k := 0) (j := 26) (v := .ref (q 19)) fX11_66 rfl rfl rfl dX11_binds_1 ?_
  refine lv_iload_n hx hb dX11_binds_4 rfl (lv_at hl 1 rfl) ?_
  refine r_iald C O (k := 19) rfl hf.1 dX11_binds_5 ?_
  have hf := hf.2
  refine lv_if_eq (tgt := 19) hx hb dX11_binds_6 (by decide) (fun c_1 => ?_) (fun c_1 => ?_)
  · have hf := hf.1 c_1
    refine lv_iconst (v := 1) hx hb dX11_binds_19 (by decide) ?_
    refine lv_goto (tgt := 24) hx hb dX11_binds_20 (by decide) ?_
    exact hE _ _ _ _ _ _ rfl O hf dX11_binds_24
  · have hf := hf.2 c_1
    refine lv_aload_n hx hb dX11_binds_9 rfl (lv_at hl 0 rfl) ?_
    refine r_get C O (k := 0) (j := 26) (v := .ref (q 19)) fX11_66 rfl rfl rfl dX11_binds_10 ?_
    refine lv_iload_n hx hb dX11_binds_13 rfl (lv_at hl 1 rfl) ?_
    refine r_iald C O (k := 19) rfl hf.1 dX11_binds_14 ?_
    have hf := hf.2
    refine lv_iconst (v := 1) hx hb dX11_binds_15 (by decide) ?_
    refine lv_icmp_ne (tgt := 23) hx hb dX11_binds_16 (by decide) (fun c_2 => ?_) (fun c_2 => ?_)
    · have hf := hf.1 c_2
      refine lv_iconst (v := 0) hx hb dX11_binds_23 (by decide) ?_
      exact hE _ _ _ _ _ _ rfl O hf dX11_binds_24
    · have hf := hf.2 c_2
      refine lv_iconst (v := 1) hx hb dX11_binds_19 (by decide) ?_
      refine lv_goto (tgt := 24) hx hb dX11_binds_20 (by decide) ?_
      exact hE _ _ _ _ _ _ rfl O hf dX11_binds_24
theorem c_X11_binds (l : Launch) (x1 : Int32) : MetI l yX11_binds cX11_binds 2 .boolean 0 0 LM 0 (fun q => [.int x1]) (w_X11_binds x1) := mk_I (own := RX11) (by decide) rfl (fun q => Nat.le_of_ble_eq_true rfl) (fun C hE O hl hf => b_X11_binds C hE x1 _ _ _ _ O hl hf)
end
section
variable {p : Program} {l : Launch} {e : Env} {R : Room} {s : State} {m : MethodId} {args : Array Value} {below : List Frame} {meth : Method} {c : Code} {E : State → Prop}
variable {D : va_G} {cs : Nat → ClassId} {q : Nat → Nat}
variable {Q : St → Prop}
def w_X11_orders_78 (Q : St → Prop) (K7 : Int32 → St → Prop) (x1 : Int32) (x2 : Int32) (σ : St) : Prop := vp_in x2 8 ∧ (∀ σ_1 : St, σ_1 = wr σ 27 x2.toNatClampNeg x1 → (∀ σ_2 : St, σ_2 = wr σ_1 0 34 ((σ_1.1 0 34) + 1) → (K7 (x1 + 1) σ_2)))
set_option maxHeartbeats 4000000 in
set_option maxRecDepth 100000 in
theorem b_X11_orders_78 (C : CX p R s m args meth c cX11_orders 3 RX11 0 0 D cs) (hE : RV p l e R s m args below meth c cX11_orders D cs LM q Q E) {K7 : Int32 → St → Prop} (hK7 : ∀ (x1 : Int32) (σ : St) (H : Heap) (locs : List Loc) (ls : Array Slot), OK D cs LM q s σ H locs → lv_has ls 3 [(0, .ref (q 0)), (1, .int x1)] → K7 x1 σ → W p l e R s m args below meth c H locs 0 0 E (F0 m 7 ls [])) : ∀ (x1 : Int32) (x2 : Int32) (σ : St) (H : Heap) (locs : List Loc) (ls : Array Slot), OK D cs LM q s σ H locs → lv_has ls 3 [(0, .ref (q 0)), (1, .int x1), (2, .int x2)] → w_X11_orders_78 Q K7 x1 x2 σ → W p l e R s m args below meth c H locs 0 0 E (F0 m 78 ls []) := by
  have hx := C.1
  have hb := C.2.1
  intro x1 x2 σ H locs ls O hl hf
  unfold w_X11_orders_78 at hf
  refine lv_aload_n hx hb dX11_orders_78 rfl (lv_at hl 0 rfl) ?_
  refine r_get C O (k := 0) (j := 35) (v := .ref (q 27)) fX11_90 rfl rfl rfl dX11_orders_79 ?_
  refine lv_iload_n hx hb dX11_orders_82 rfl (lv_at hl 2 rfl) ?_
  refine lv_iload_n hx hb dX11_orders_83 rfl (lv_at hl 1 rfl) ?_
  refine r_iast C O (k := 27) rfl hf.1 dX11_orders_84 (fun H locs σ_1 eσ_1 O => ?_)
  have hf := hf.2 σ_1 eσ_1
  refine lv_aload_n hx hb dX11_orders_85 rfl (lv_at hl 0 rfl) ?_
  refine lv_dup hx hb dX11_orders_86 rfl ?_
  refine r_get C O (k := 0) (j := 34) (v := .int (σ_1.1 0 34)) fX11_188 rfl rfl rfl dX11_orders_87 ?_
  refine lv_iconst (v := 1) hx hb dX11_orders_90 (by decide) ?_
  refine lv_iadd hx hb dX11_orders_91 ?_
  refine r_puti C O (k := 0) pX11_188 rfl rfl dX11_orders_92 (fun H locs σ_2 eσ_2 O => ?_)
  have hf := hf σ_2 eσ_2
  refine lv_iinc (v := x1 + 1) (lv' := [(1, .int (x1 + 1)), (0, .ref (q 0)), (2, .int x2)]) hx hb dX11_orders_95 hl (k := 1) rfl rfl (by decide) rfl (fun ls hl => ?_)
  refine lv_goto (tgt := 7) hx hb dX11_orders_98 (by decide) ?_
  exact hK7 (x1 + 1) σ_2 _ _ ls O (lv_sub hl [1, 0] rfl) hf
def w_X11_orders_32 (Q : St → Prop) (K7 : Int32 → St → Prop) : Nat → Int32 → Int32 → St → Prop
  | 0, _, _, _ => False
  | n + 1, x1, x2, σ => (x2 ≤ 0 → (w_X11_orders_78 Q K7 x1 x2 σ)) ∧ (¬ x2 ≤ 0 → (vp_in (x2 - 1) 8 ∧ (vp_in (σ.1 27 (x2 - 1).toNatClampNeg) 20 ∧ (vp_in x1 20 ∧ (((σ.1 12 (σ.1 27 (x2 - 1).toNatClampNeg).toNatClampNeg) ≤ (σ.1 12 x1.toNatClampNeg) → (w_X11_orders_78 Q K7 x1 x2 σ)) ∧ (¬ (σ.1 12 (σ.1 27 (x2 - 1).toNatClampNeg).toNatClampNeg) ≤ (σ.1 12 x1.toNatClampNeg) → (vp_in (x2 - 1) 8 ∧ (vp_in x2 8 ∧ (∀ σ_3 : St, σ_3 = wr σ 27 x2.toNatClampNeg (σ.1 27 (x2 - 1).toNatClampNeg) → (w_X11_orders_32 Q K7 n x1 (x2 + (-1)) σ_3))))))))))
set_option maxHeartbeats 4000000 in
set_option maxRecDepth 100000 in
theorem b_X11_orders_32 (C : CX p R s m args meth c cX11_orders 3 RX11 0 0 D cs) (hE : RV p l e R s m args below meth c cX11_orders D cs LM q Q E) {K7 : Int32 → St → Prop} (hK7 : ∀ (x1 : Int32) (σ : St) (H : Heap) (locs : List Loc) (ls : Array Slot), OK D cs LM q s σ H locs → lv_has ls 3 [(0, .ref (q 0)), (1, .int x1)] → K7 x1 σ → W p l e R s m args below meth c H locs 0 0 E (F0 m 7 ls [])) : ∀ n : Nat, ∀ (x1 : Int32) (x2 : Int32) (σ : St) (H : Heap) (locs : List Loc) (ls : Array Slot), OK D cs LM q s σ H locs → lv_has ls 3 [(0, .ref (q 0)), (1, .int x1), (2, .int x2)] → w_X11_orders_32 Q K7 n x1 x2 σ → W p l e R s m args below meth c H locs 0 0 E (F0 m 32 ls []) := by
  have hx := C.1
  have hb := C.2.1
  intro n
  induction n with
  | zero => intro x1 x2 σ H locs ls O hl hf; exact hf.elim
  | succ n ih =>
    intro x1 x2 σ H locs ls O hl hf
    unfold w_X11_orders_32 at hf
    refine lv_iload_n hx hb dX11_orders_32 rfl (lv_at hl 2 rfl) ?_
    refine lv_if_le (tgt := 78) hx hb dX11_orders_33 (by decide) (fun c_1 => ?_) (fun c_1 => ?_)
    · have hf := hf.1 c_1
      exact b_X11_orders_78 C hE hK7 x1 x2 σ _ _ ls O (lv_sub hl [0, 1, 2] rfl) hf
    · have hf := hf.2 c_1
      refine lv_aload_n hx hb dX11_orders_36 rfl (lv_at hl 0 rfl) ?_
      refine r_get C O (k := 0) (j := 17) (v := .ref (q 12)) fX11_45 rfl rfl rfl dX11_orders_37 ?_
      refine lv_aload_n hx hb dX11_orders_40 rfl (lv_at hl 0 rfl) ?_
      refine r_get C O (k := 0) (j := 35) (v := .ref (q 27)) fX11_90 rfl rfl rfl dX11_orders_41 ?_
      refine lv_iload_n hx hb dX11_orders_44 rfl (lv_at hl 2 rfl) ?_
      refine lv_iconst (v := 1) hx hb dX11_orders_45 (by decide) ?_
      refine lv_isub hx hb dX11_orders_46 ?_
      refine r_iald C O (k := 27) rfl hf.1 dX11_orders_47 ?_
      have hf := hf.2
      refine r_iald C O (k := 12) rfl hf.1 dX11_orders_48 ?_
      have hf := hf.2
      refine lv_aload_n hx hb dX11_orders_49 rfl (lv_at hl 0 rfl) ?_
      refine r_get C O (k := 0) (j := 17) (v := .ref (q 12)) fX11_45 rfl rfl rfl dX11_orders_50 ?_
      refine lv_iload_n hx hb dX11_orders_53 rfl (lv_at hl 1 rfl) ?_
      refine r_iald C O (k := 12) rfl hf.1 dX11_orders_54 ?_
      have hf := hf.2
      refine lv_icmp_le (tgt := 78) hx hb dX11_orders_55 (by decide) (fun c_2 => ?_) (fun c_2 => ?_)
      · have hf := hf.1 c_2
        exact b_X11_orders_78 C hE hK7 x1 x2 σ _ _ ls O (lv_sub hl [0, 1, 2] rfl) hf
      · have hf := hf.2 c_2
        refine lv_aload_n hx hb dX11_orders_58 rfl (lv_at hl 0 rfl) ?_
        refine r_get C O (k := 0) (j := 35) (v := .ref (q 27)) fX11_90 rfl rfl rfl dX11_orders_59 ?_
        refine lv_iload_n hx hb dX11_orders_62 rfl (lv_at hl 2 rfl) ?_
        refine lv_aload_n hx hb dX11_orders_63 rfl (lv_at hl 0 rfl) ?_
        refine r_get C O (k := 0) (j := 35) (v := .ref (q 27)) fX11_90 rfl rfl rfl dX11_orders_64 ?_
        refine lv_iload_n hx hb dX11_orders_67 rfl (lv_at hl 2 rfl) ?_
        refine lv_iconst (v := 1) hx hb dX11_orders_68 (by decide) ?_
        refine lv_isub hx hb dX11_orders_69 ?_
        refine r_iald C O (k := 27) rfl hf.1 dX11_orders_70 ?_
        have hf := hf.2
        refine r_iast C O (k := 27) rfl hf.1 dX11_orders_71 (fun H locs σ_3 eσ_3 O => ?_)
        have hf := hf.2 σ_3 eσ_3
        refine lv_iinc (v := x2 + (-1)) (lv' := [(2, .int (x2 + (-1))), (0, .ref (q 0)), (1, .int x1)]) hx hb dX11_orders_72 hl (k := 2) rfl rfl (by decide) rfl (fun ls hl => ?_)
        refine lv_goto (tgt := 32) hx hb dX11_orders_75 (by decide) ?_
        exact ih x1 (x2 + (-1)) σ_3 _ _ ls O (lv_sub hl [1, 2, 0] rfl) hf
def w_X11_orders_7 (Q : St → Prop) : Nat → Int32 → St → Prop
  | 0, _, _ => False
  | n + 1, x1, σ => ((σ.1 0 14) ≤ x1 → (Q σ)) ∧ (¬ (σ.1 0 14) ≤ x1 → (vp_in x1 20 ∧ (((σ.1 14 x1.toNatClampNeg) = 0 → (∃ nn : Nat, w_X11_orders_32 Q (fun x1 σ => w_X11_orders_7 Q n x1 σ) nn x1 (σ.1 0 34) σ)) ∧ (¬ (σ.1 14 x1.toNatClampNeg) = 0 → (w_X11_orders_7 Q n (x1 + 1) σ)))))
set_option maxHeartbeats 4000000 in
set_option maxRecDepth 100000 in
theorem b_X11_orders_7 (C : CX p R s m args meth c cX11_orders 3 RX11 0 0 D cs) (hE : RV p l e R s m args below meth c cX11_orders D cs LM q Q E) : ∀ n : Nat, ∀ (x1 : Int32) (σ : St) (H : Heap) (locs : List Loc) (ls : Array Slot), OK D cs LM q s σ H locs → lv_has ls 3 [(0, .ref (q 0)), (1, .int x1)] → w_X11_orders_7 Q n x1 σ → W p l e R s m args below meth c H locs 0 0 E (F0 m 7 ls []) := by
  have hx := C.1
  have hb := C.2.1
  intro n
  induction n with
  | zero => intro x1 σ H locs ls O hl hf; exact hf.elim
  | succ n ih =>
    intro x1 σ H locs ls O hl hf
    unfold w_X11_orders_7 at hf
    refine lv_iload_n hx hb dX11_orders_7 rfl (lv_at hl 1 rfl) ?_
    refine lv_aload_n hx hb dX11_orders_8 rfl (lv_at hl 0 rfl) ?_
    refine r_get C O (k := 0) (j := 14) (v := .int (σ.1 0 14)) fX11_159 rfl rfl rfl dX11_orders_9 ?_
    refine lv_icmp_ge (tgt := 101) hx hb dX11_orders_12 (by decide) (fun c_1 => ?_) (fun c_1 => ?_)
    · have hf := hf.1 c_1
      exact hE _ _ _ _ _ O hf dX11_orders_101
    · have hf := hf.2 c_1
      refine lv_aload_n hx hb dX11_orders_15 rfl (lv_at hl 0 rfl) ?_
      refine r_get C O (k := 0) (j := 19) (v := .ref (q 14)) fX11_51 rfl rfl rfl dX11_orders_16 ?_
      refine lv_iload_n hx hb dX11_orders_19 rfl (lv_at hl 1 rfl) ?_
      refine r_zald C O (k := 14) rfl hf.1 dX11_orders_20 ?_
      have hf := hf.2
      refine lv_if_eq (tgt := 27) hx hb dX11_orders_21 (by decide) (fun c_2 => ?_) (fun c_2 => ?_)
      · have hf := hf.1 c_2
        refine lv_aload_n hx hb dX11_orders_27 rfl (lv_at hl 0 rfl) ?_
        refine r_get C O (k := 0) (j := 34) (v := .int (σ.1 0 34)) fX11_188 rfl rfl rfl dX11_orders_28 ?_
        refine lv_istore_n (lv' := [(2, .int (σ.1 0 34)), (0, .ref (q 0)), (1, .int x1)]) hx hb dX11_orders_31 rfl hl (by decide) rfl (fun ls hl => ?_)
        obtain ⟨nn, hf⟩ := hf
        exact b_X11_orders_32 C hE ih nn x1 (σ.1 0 34) σ _ _ ls O (lv_sub hl [1, 2, 0] rfl) hf
      · have hf := hf.2 c_2
        refine lv_goto (tgt := 95) hx hb dX11_orders_24 (by decide) ?_
        refine lv_iinc (v := x1 + 1) (lv' := [(1, .int (x1 + 1)), (0, .ref (q 0))]) hx hb dX11_orders_95 hl (k := 1) rfl rfl (by decide) rfl (fun ls hl => ?_)
        refine lv_goto (tgt := 7) hx hb dX11_orders_98 (by decide) ?_
        exact ih (x1 + 1) σ _ _ ls O (lv_sub hl [1, 0] rfl) hf
def w_X11_orders (σ : St) (Q : St → Prop) : Prop := ∀ σ_1 : St, σ_1 = wr σ 0 34 0 → (∃ nn : Nat, w_X11_orders_7 Q nn 0 σ_1)
set_option maxHeartbeats 4000000 in
set_option maxRecDepth 100000 in
theorem b_X11_orders (C : CX p R s m args meth c cX11_orders 3 RX11 0 0 D cs) (hE : RV p l e R s m args below meth c cX11_orders D cs LM q Q E) : ∀ (σ : St) (H : Heap) (locs : List Loc) (ls : Array Slot), OK D cs LM q s σ H locs → lv_has ls 3 [(0, .ref (q 0))] → w_X11_orders  σ Q → W p l e R s m args below meth c H locs 0 0 E (F0 m 0 ls []) := by
  have hx := C.1
  have hb := C.2.1
  intro  σ H locs ls O hl hf
  unfold w_X11_orders at hf
  refine lv_aload_n hx hb dX11_orders_0 rfl (lv_at hl 0 rfl) ?_
  refine lv_iconst (v := 0) hx hb dX11_orders_1 (by decide) ?_
  refine r_puti C O (k := 0) pX11_188 rfl rfl dX11_orders_2 (fun H locs σ_1 eσ_1 O => ?_)
  have hf := hf σ_1 eσ_1
  refine lv_iconst (v := 0) hx hb dX11_orders_5 (by decide) ?_
  refine lv_istore_n (lv' := [(1, .int 0), (0, .ref (q 0))]) hx hb dX11_orders_6 rfl hl (by decide) rfl (fun ls hl => ?_)
  obtain ⟨nn, hf⟩ := hf
  exact b_X11_orders_7 C hE nn 0 σ_1 _ _ ls O (lv_sub hl [1, 0] rfl) hf
theorem c_X11_orders (l : Launch) : MetV l yX11_orders cX11_orders 3 0 0 LM 0 (fun q => []) (w_X11_orders ) := mk_V (own := RX11) (by decide) rfl (fun q => Nat.le_of_ble_eq_true rfl) (fun C hE O hl hf => b_X11_orders C hE _ _ _ _ O hl hf)
end
section
variable {p : Program} {l : Launch} {e : Env} {R : Room} {s : State} {m : MethodId} {args : Array Value} {below : List Frame} {meth : Method} {c : Code} {E : State → Prop}
variable {D : va_G} {cs : Nat → ClassId} {q : Nat → Nat}
variable {Q : St → Prop}
def w_X11_adds (x1 : Int32) (x2 : Int32) (x3 : Int32) (x4 : Int32) (x5 : Int32) (x6 : Int32) (σ : St) (Q : St → Prop) : Prop := vp_in (σ.1 0 36) 16 ∧ (∀ σ_1 : St, σ_1 = wr σ 28 (σ.1 0 36).toNatClampNeg x1 → (vp_in (σ_1.1 0 36) 16 ∧ (∀ σ_2 : St, σ_2 = wr σ_1 29 (σ_1.1 0 36).toNatClampNeg x2 → (vp_in (σ_2.1 0 36) 16 ∧ (∀ σ_3 : St, σ_3 = wr σ_2 30 (σ_2.1 0 36).toNatClampNeg x3 → (vp_in (σ_3.1 0 36) 16 ∧ (∀ σ_4 : St, σ_4 = wr σ_3 31 (σ_3.1 0 36).toNatClampNeg x4 → (vp_in (σ_4.1 0 36) 16 ∧ (∀ σ_5 : St, σ_5 = wr σ_4 32 (σ_4.1 0 36).toNatClampNeg x5 → (vp_in (σ_5.1 0 36) 16 ∧ (∀ σ_6 : St, σ_6 = wr σ_5 33 (σ_5.1 0 36).toNatClampNeg x6 → (∀ σ_7 : St, σ_7 = wr σ_6 0 36 ((σ_6.1 0 36) + 1) → (Q σ_7)))))))))))))
set_option maxHeartbeats 4000000 in
set_option maxRecDepth 100000 in
theorem b_X11_adds (C : CX p R s m args meth c cX11_adds 7 RX11 0 0 D cs) (hE : RV p l e R s m args below meth c cX11_adds D cs LM q Q E) : ∀ (x1 : Int32) (x2 : Int32) (x3 : Int32) (x4 : Int32) (x5 : Int32) (x6 : Int32) (σ : St) (H : Heap) (locs : List Loc) (ls : Array Slot), OK D cs LM q s σ H locs → lv_has ls 7 [(0, .ref (q 0)), (1, .int x1), (2, .int x2), (3, .int x3), (4, .int x4), (5, .int x5), (6, .int x6)] → w_X11_adds x1 x2 x3 x4 x5 x6 σ Q → W p l e R s m args below meth c H locs 0 0 E (F0 m 0 ls []) := by
  have hx := C.1
  have hb := C.2.1
  intro x1 x2 x3 x4 x5 x6 σ H locs ls O hl hf
  unfold w_X11_adds at hf
  refine lv_aload_n hx hb dX11_adds_0 rfl (lv_at hl 0 rfl) ?_
  refine r_get C O (k := 0) (j := 37) (v := .ref (q 28)) fX11_93 rfl rfl rfl dX11_adds_1 ?_
  refine lv_aload_n hx hb dX11_adds_4 rfl (lv_at hl 0 rfl) ?_
  refine r_get C O (k := 0) (j := 36) (v := .int (σ.1 0 36)) fX11_191 rfl rfl rfl dX11_adds_5 ?_
  refine lv_iload_n hx hb dX11_adds_8 rfl (lv_at hl 1 rfl) ?_
  refine r_iast C O (k := 28) rfl hf.1 dX11_adds_9 (fun H locs σ_1 eσ_1 O => ?_)
  have hf := hf.2 σ_1 eσ_1
  refine lv_aload_n hx hb dX11_adds_10 rfl (lv_at hl 0 rfl) ?_
  refine r_get C O (k := 0) (j := 38) (v := .ref (q 29)) fX11_96 rfl rfl rfl dX11_adds_11 ?_
  refine lv_aload_n hx hb dX11_adds_14 rfl (lv_at hl 0 rfl) ?_
  refine r_get C O (k := 0) (j := 36) (v := .int (σ_1.1 0 36)) fX11_191 rfl rfl rfl dX11_adds_15 ?_
  refine lv_iload_n hx hb dX11_adds_18 rfl (lv_at hl 2 rfl) ?_
  refine r_iast C O (k := 29) rfl hf.1 dX11_adds_19 (fun H locs σ_2 eσ_2 O => ?_)
  have hf := hf.2 σ_2 eσ_2
  refine lv_aload_n hx hb dX11_adds_20 rfl (lv_at hl 0 rfl) ?_
  refine r_get C O (k := 0) (j := 39) (v := .ref (q 30)) fX11_99 rfl rfl rfl dX11_adds_21 ?_
  refine lv_aload_n hx hb dX11_adds_24 rfl (lv_at hl 0 rfl) ?_
  refine r_get C O (k := 0) (j := 36) (v := .int (σ_2.1 0 36)) fX11_191 rfl rfl rfl dX11_adds_25 ?_
  refine lv_iload_n hx hb dX11_adds_28 rfl (lv_at hl 3 rfl) ?_
  refine r_iast C O (k := 30) rfl hf.1 dX11_adds_29 (fun H locs σ_3 eσ_3 O => ?_)
  have hf := hf.2 σ_3 eσ_3
  refine lv_aload_n hx hb dX11_adds_30 rfl (lv_at hl 0 rfl) ?_
  refine r_get C O (k := 0) (j := 40) (v := .ref (q 31)) fX11_102 rfl rfl rfl dX11_adds_31 ?_
  refine lv_aload_n hx hb dX11_adds_34 rfl (lv_at hl 0 rfl) ?_
  refine r_get C O (k := 0) (j := 36) (v := .int (σ_3.1 0 36)) fX11_191 rfl rfl rfl dX11_adds_35 ?_
  refine lv_iload hx hb dX11_adds_38 (lv_at hl 4 rfl) ?_
  refine r_iast C O (k := 31) rfl hf.1 dX11_adds_40 (fun H locs σ_4 eσ_4 O => ?_)
  have hf := hf.2 σ_4 eσ_4
  refine lv_aload_n hx hb dX11_adds_41 rfl (lv_at hl 0 rfl) ?_
  refine r_get C O (k := 0) (j := 41) (v := .ref (q 32)) fX11_105 rfl rfl rfl dX11_adds_42 ?_
  refine lv_aload_n hx hb dX11_adds_45 rfl (lv_at hl 0 rfl) ?_
  refine r_get C O (k := 0) (j := 36) (v := .int (σ_4.1 0 36)) fX11_191 rfl rfl rfl dX11_adds_46 ?_
  refine lv_iload hx hb dX11_adds_49 (lv_at hl 5 rfl) ?_
  refine r_iast C O (k := 32) rfl hf.1 dX11_adds_51 (fun H locs σ_5 eσ_5 O => ?_)
  have hf := hf.2 σ_5 eσ_5
  refine lv_aload_n hx hb dX11_adds_52 rfl (lv_at hl 0 rfl) ?_
  refine r_get C O (k := 0) (j := 42) (v := .ref (q 33)) fX11_108 rfl rfl rfl dX11_adds_53 ?_
  refine lv_aload_n hx hb dX11_adds_56 rfl (lv_at hl 0 rfl) ?_
  refine r_get C O (k := 0) (j := 36) (v := .int (σ_5.1 0 36)) fX11_191 rfl rfl rfl dX11_adds_57 ?_
  refine lv_iload hx hb dX11_adds_60 (lv_at hl 6 rfl) ?_
  refine r_iast C O (k := 33) rfl hf.1 dX11_adds_62 (fun H locs σ_6 eσ_6 O => ?_)
  have hf := hf.2 σ_6 eσ_6
  refine lv_aload_n hx hb dX11_adds_63 rfl (lv_at hl 0 rfl) ?_
  refine lv_dup hx hb dX11_adds_64 rfl ?_
  refine r_get C O (k := 0) (j := 36) (v := .int (σ_6.1 0 36)) fX11_191 rfl rfl rfl dX11_adds_65 ?_
  refine lv_iconst (v := 1) hx hb dX11_adds_68 (by decide) ?_
  refine lv_iadd hx hb dX11_adds_69 ?_
  refine r_puti C O (k := 0) pX11_191 rfl rfl dX11_adds_70 (fun H locs σ_7 eσ_7 O => ?_)
  have hf := hf σ_7 eσ_7
  exact hE _ _ _ _ _ O hf dX11_adds_73
theorem c_X11_adds (l : Launch) (x1 : Int32) (x2 : Int32) (x3 : Int32) (x4 : Int32) (x5 : Int32) (x6 : Int32) : MetV l yX11_adds cX11_adds 7 0 0 LM 0 (fun q => [.int x1, .int x2, .int x3, .int x4, .int x5, .int x6]) (w_X11_adds x1 x2 x3 x4 x5 x6) := mk_V (own := RX11) (by decide) rfl (fun q => Nat.le_of_ble_eq_true rfl) (fun C hE O hl hf => b_X11_adds C hE x1 x2 x3 x4 x5 x6 _ _ _ _ O hl hf)
end
section
variable {p : Program} {l : Launch} {e : Env} {R : Room} {s : State} {m : MethodId} {args : Array Value} {below : List Frame} {meth : Method} {c : Code} {E : State → Prop}
variable {D : va_G} {cs : Nat → ClassId} {q : Nat → Nat}
variable {Q : St → Prop}
def w_X11_chains_104 (Q : St → Prop) (K15 : Int32 → Int32 → Int32 → Int32 → St → Prop) (x1 : Int32) (x2 : Int32) (x4 : Int32) (x5 : Int32) (σ : St) : Prop := vp_in x5 20 ∧ (vp_in x5 20 ∧ (vp_in x5 20 ∧ (vp_in x5 20 ∧ (vp_in x5 20 ∧ (vp_in x5 20 ∧ (w_X11_minutes (σ.1 10 x5.toNatClampNeg) (σ.1 11 x5.toNatClampNeg) σ (fun r_2 σ_1 => w_X11_adds x5 (σ.1 10 x5.toNatClampNeg) (σ.1 11 x5.toNatClampNeg) (σ.1 12 x5.toNatClampNeg) ((σ.1 12 x5.toNatClampNeg) + r_2) x5 σ_1 (fun σ_3 => vp_in x5 20 ∧ (K15 x1 x2 (σ_3.1 11 x5.toNatClampNeg) (x4 + 1) σ_3)))))))))
set_option maxHeartbeats 4000000 in
set_option maxRecDepth 100000 in
theorem b_X11_chains_104 (C : CX p R s m args meth c cX11_chains 7 RX11 1 26 D cs) (hE : RV p l e R s m args below meth c cX11_chains D cs LM q Q E) {K15 : Int32 → Int32 → Int32 → Int32 → St → Prop} (hK15 : ∀ (x1 : Int32) (x2 : Int32) (x3 : Int32) (x4 : Int32) (σ : St) (H : Heap) (locs : List Loc) (ls : Array Slot), OK D cs LM q s σ H locs → lv_has ls 7 [(0, .ref (q 0)), (1, .int x1), (2, .int x2), (3, .int x3), (4, .int x4)] → K15 x1 x2 x3 x4 σ → W p l e R s m args below meth c H locs 0 0 E (F0 m 15 ls [])) : ∀ (x1 : Int32) (x2 : Int32) (x4 : Int32) (x5 : Int32) (σ : St) (H : Heap) (locs : List Loc) (ls : Array Slot), OK D cs LM q s σ H locs → lv_has ls 7 [(0, .ref (q 0)), (1, .int x1), (2, .int x2), (4, .int x4), (5, .int x5)] → w_X11_chains_104 Q K15 x1 x2 x4 x5 σ → W p l e R s m args below meth c H locs 0 0 E (F0 m 104 ls []) := by
  have hx := C.1
  have hb := C.2.1
  intro x1 x2 x4 x5 σ H locs ls O hl hf
  unfold w_X11_chains_104 at hf
  refine lv_aload_n hx hb dX11_chains_104 rfl (lv_at hl 0 rfl) ?_
  refine lv_iload hx hb dX11_chains_105 (lv_at hl 4 rfl) ?_
  refine lv_aload_n hx hb dX11_chains_107 rfl (lv_at hl 0 rfl) ?_
  refine r_get C O (k := 0) (j := 15) (v := .ref (q 10)) fX11_39 rfl rfl rfl dX11_chains_108 ?_
  refine lv_iload hx hb dX11_chains_111 (lv_at hl 4 rfl) ?_
  refine r_iald C O (k := 10) rfl hf.1 dX11_chains_113 ?_
  have hf := hf.2
  refine lv_aload_n hx hb dX11_chains_114 rfl (lv_at hl 0 rfl) ?_
  refine r_get C O (k := 0) (j := 16) (v := .ref (q 11)) fX11_42 rfl rfl rfl dX11_chains_115 ?_
  refine lv_iload hx hb dX11_chains_118 (lv_at hl 4 rfl) ?_
  refine r_iald C O (k := 11) rfl hf.1 dX11_chains_120 ?_
  have hf := hf.2
  refine lv_aload_n hx hb dX11_chains_121 rfl (lv_at hl 0 rfl) ?_
  refine r_get C O (k := 0) (j := 17) (v := .ref (q 12)) fX11_45 rfl rfl rfl dX11_chains_122 ?_
  refine lv_iload hx hb dX11_chains_125 (lv_at hl 4 rfl) ?_
  refine r_iald C O (k := 12) rfl hf.1 dX11_chains_127 ?_
  have hf := hf.2
  refine lv_aload_n hx hb dX11_chains_128 rfl (lv_at hl 0 rfl) ?_
  refine r_get C O (k := 0) (j := 17) (v := .ref (q 12)) fX11_45 rfl rfl rfl dX11_chains_129 ?_
  refine lv_iload hx hb dX11_chains_132 (lv_at hl 4 rfl) ?_
  refine r_iald C O (k := 12) rfl hf.1 dX11_chains_134 ?_
  have hf := hf.2
  refine lv_aload_n hx hb dX11_chains_135 rfl (lv_at hl 0 rfl) ?_
  refine lv_aload_n hx hb dX11_chains_136 rfl (lv_at hl 0 rfl) ?_
  refine r_get C O (k := 0) (j := 15) (v := .ref (q 10)) fX11_39 rfl rfl rfl dX11_chains_137 ?_
  refine lv_iload hx hb dX11_chains_140 (lv_at hl 4 rfl) ?_
  refine r_iald C O (k := 10) rfl hf.1 dX11_chains_142 ?_
  have hf := hf.2
  refine lv_aload_n hx hb dX11_chains_143 rfl (lv_at hl 0 rfl) ?_
  refine r_get C O (k := 0) (j := 16) (v := .ref (q 11)) fX11_42 rfl rfl rfl dX11_chains_144 ?_
  refine lv_iload hx hb dX11_chains_147 (lv_at hl 4 rfl) ?_
  refine r_iald C O (k := 11) rfl hf.1 dX11_chains_149 ?_
  have hf := hf.2
  refine r_callI C O hl (c_X11_minutes l (σ.1 10 x5.toNatClampNeg) (σ.1 11 x5.toNatClampNeg)) mX11_165 (by decide) rfl rfl rfl rfl (Nat.le_of_ble_eq_true rfl) hf dX11_chains_150 (fun r_2 σ_1 H locs O hf => ?_)
  refine lv_iadd hx hb dX11_chains_153 ?_
  refine lv_iload hx hb dX11_chains_154 (lv_at hl 4 rfl) ?_
  refine r_callV C O hl (c_X11_adds l x5 (σ.1 10 x5.toNatClampNeg) (σ.1 11 x5.toNatClampNeg) (σ.1 12 x5.toNatClampNeg) ((σ.1 12 x5.toNatClampNeg) + r_2) x5) mX11_194 (by decide) rfl rfl rfl rfl (Nat.le_of_ble_eq_true rfl) hf dX11_chains_156 (fun σ_3 H locs O hf => ?_)
  refine lv_aload_n hx hb dX11_chains_159 rfl (lv_at hl 0 rfl) ?_
  refine r_get C O (k := 0) (j := 16) (v := .ref (q 11)) fX11_42 rfl rfl rfl dX11_chains_160 ?_
  refine lv_iload hx hb dX11_chains_163 (lv_at hl 4 rfl) ?_
  refine r_iald C O (k := 11) rfl hf.1 dX11_chains_165 ?_
  have hf := hf.2
  refine lv_istore_n (lv' := [(3, .int (σ_3.1 11 x5.toNatClampNeg)), (0, .ref (q 0)), (1, .int x1), (2, .int x2), (4, .int x4), (5, .int x5)]) hx hb dX11_chains_166 rfl hl (by decide) rfl (fun ls hl => ?_)
  refine lv_iinc (v := x4 + 1) (lv' := [(4, .int (x4 + 1)), (3, .int (σ_3.1 11 x5.toNatClampNeg)), (0, .ref (q 0)), (1, .int x1), (2, .int x2), (5, .int x5)]) hx hb dX11_chains_167 hl (k := 4) rfl rfl (by decide) rfl (fun ls hl => ?_)
  refine lv_goto (tgt := 15) hx hb dX11_chains_170 (by decide) ?_
  exact hK15 x1 x2 (σ_3.1 11 x5.toNatClampNeg) (x4 + 1) σ_3 _ _ ls O (lv_sub hl [2, 3, 4, 1, 0] rfl) hf
def w_X11_chains_15 (Q : St → Prop) : Nat → Int32 → Int32 → Int32 → Int32 → St → Prop
  | 0, _, _, _, _, _ => False
  | n + 1, x1, x2, x3, x4, σ => ((σ.1 0 34) ≤ x4 → (Q σ)) ∧ (¬ (σ.1 0 34) ≤ x4 → ((¬ ((x2 >>> (x4 &&& 31)) &&& 1) = 0 → (vp_in x4 8 ∧ (vp_in (σ.1 27 x4.toNatClampNeg) 20 ∧ (vp_in x1 4 ∧ (∀ v_3 : Int32, v_3 = ((σ.1 12 (σ.1 27 x4.toNatClampNeg).toNatClampNeg) - (σ.1 8 x1.toNatClampNeg)) → (vp_in (σ.1 27 x4.toNatClampNeg) 20 ∧ ((x3 = (σ.1 10 (σ.1 27 x4.toNatClampNeg).toNatClampNeg) → (w_X11_chains_104 Q (fun x1 x2 x3 x4 σ => w_X11_chains_15 Q n x1 x2 x3 x4 σ) x1 x2 x4 (σ.1 27 x4.toNatClampNeg) σ)) ∧ (¬ x3 = (σ.1 10 (σ.1 27 x4.toNatClampNeg).toNatClampNeg) → (vp_in (σ.1 27 x4.toNatClampNeg) 20 ∧ (vp_in (σ.1 27 x4.toNatClampNeg) 20 ∧ (w_X11_minutes x3 (σ.1 10 (σ.1 27 x4.toNatClampNeg).toNatClampNeg) σ (fun r_6 σ_5 => w_X11_adds ((-1)) x3 (σ.1 10 (σ.1 27 x4.toNatClampNeg).toNatClampNeg) (v_3 - r_6) v_3 (σ.1 27 x4.toNatClampNeg) σ_5 (fun σ_7 => w_X11_chains_104 Q (fun x1 x2 x3 x4 σ => w_X11_chains_15 Q n x1 x2 x3 x4 σ) x1 x2 x4 (σ.1 27 x4.toNatClampNeg) σ_7))))))))))))) ∧ (((x2 >>> (x4 &&& 31)) &&& 1) = 0 → (w_X11_chains_15 Q n x1 x2 x3 (x4 + 1) σ))))
set_option maxHeartbeats 4000000 in
set_option maxRecDepth 100000 in
theorem b_X11_chains_15 (C : CX p R s m args meth c cX11_chains 7 RX11 1 26 D cs) (hE : RV p l e R s m args below meth c cX11_chains D cs LM q Q E) : ∀ n : Nat, ∀ (x1 : Int32) (x2 : Int32) (x3 : Int32) (x4 : Int32) (σ : St) (H : Heap) (locs : List Loc) (ls : Array Slot), OK D cs LM q s σ H locs → lv_has ls 7 [(0, .ref (q 0)), (1, .int x1), (2, .int x2), (3, .int x3), (4, .int x4)] → w_X11_chains_15 Q n x1 x2 x3 x4 σ → W p l e R s m args below meth c H locs 0 0 E (F0 m 15 ls []) := by
  have hx := C.1
  have hb := C.2.1
  intro n
  induction n with
  | zero => intro x1 x2 x3 x4 σ H locs ls O hl hf; exact hf.elim
  | succ n ih =>
    intro x1 x2 x3 x4 σ H locs ls O hl hf
    unfold w_X11_chains_15 at hf
    refine lv_iload hx hb dX11_chains_15 (lv_at hl 4 rfl) ?_
    refine lv_aload_n hx hb dX11_chains_17 rfl (lv_at hl 0 rfl) ?_
    refine r_get C O (k := 0) (j := 34) (v := .int (σ.1 0 34)) fX11_188 rfl rfl rfl dX11_chains_18 ?_
    refine lv_icmp_ge (tgt := 173) hx hb dX11_chains_21 (by decide) (fun c_1 => ?_) (fun c_1 => ?_)
    · have hf := hf.1 c_1
      exact hE _ _ _ _ _ O hf dX11_chains_173
    · have hf := hf.2 c_1
      refine lv_iload_n hx hb dX11_chains_24 rfl (lv_at hl 2 rfl) ?_
      refine lv_iload hx hb dX11_chains_25 (lv_at hl 4 rfl) ?_
      refine lv_ishr hx hb dX11_chains_27 ?_
      refine lv_iconst (v := 1) hx hb dX11_chains_28 (by decide) ?_
      refine lv_iand hx hb dX11_chains_29 ?_
      refine lv_if_ne (tgt := 36) hx hb dX11_chains_30 (by decide) (fun c_2 => ?_) (fun c_2 => ?_)
      · have hf := hf.1 c_2
        refine lv_aload_n hx hb dX11_chains_36 rfl (lv_at hl 0 rfl) ?_
        refine r_get C O (k := 0) (j := 35) (v := .ref (q 27)) fX11_90 rfl rfl rfl dX11_chains_37 ?_
        refine lv_iload hx hb dX11_chains_40 (lv_at hl 4 rfl) ?_
        refine r_iald C O (k := 27) rfl hf.1 dX11_chains_42 ?_
        have hf := hf.2
        refine lv_istore (lv' := [(5, .int (σ.1 27 x4.toNatClampNeg)), (0, .ref (q 0)), (1, .int x1), (2, .int x2), (3, .int x3), (4, .int x4)]) hx hb dX11_chains_43 hl (by decide) rfl (fun ls hl => ?_)
        refine lv_aload_n hx hb dX11_chains_45 rfl (lv_at hl 1 rfl) ?_
        refine r_get C O (k := 0) (j := 17) (v := .ref (q 12)) fX11_45 rfl rfl rfl dX11_chains_46 ?_
        refine lv_iload hx hb dX11_chains_49 (lv_at hl 0 rfl) ?_
        refine r_iald C O (k := 12) rfl hf.1 dX11_chains_51 ?_
        have hf := hf.2
        refine lv_aload_n hx hb dX11_chains_52 rfl (lv_at hl 1 rfl) ?_
        refine r_get C O (k := 0) (j := 12) (v := .ref (q 8)) fX11_33 rfl rfl rfl dX11_chains_53 ?_
        refine lv_iload_n hx hb dX11_chains_56 rfl (lv_at hl 2 rfl) ?_
        refine r_iald C O (k := 8) rfl hf.1 dX11_chains_57 ?_
        have hf := hf.2
        refine lv_isub hx hb dX11_chains_58 ?_
        refine lv_topi (fun v_3 ev_3 => ?_)
        have hf := hf v_3 ev_3
        refine lv_istore (lv' := [(6, .int v_3), (5, .int (σ.1 27 x4.toNatClampNeg)), (0, .ref (q 0)), (1, .int x1), (2, .int x2), (3, .int x3), (4, .int x4)]) hx hb dX11_chains_59 hl (by decide) rfl (fun ls hl => ?_)
        refine lv_iload_n hx hb dX11_chains_61 rfl (lv_at hl 5 rfl) ?_
        refine lv_aload_n hx hb dX11_chains_62 rfl (lv_at hl 2 rfl) ?_
        refine r_get C O (k := 0) (j := 15) (v := .ref (q 10)) fX11_39 rfl rfl rfl dX11_chains_63 ?_
        refine lv_iload hx hb dX11_chains_66 (lv_at hl 1 rfl) ?_
        refine r_iald C O (k := 10) rfl hf.1 dX11_chains_68 ?_
        have hf := hf.2
        refine lv_icmp_eq (tgt := 104) hx hb dX11_chains_69 (by decide) (fun c_4 => ?_) (fun c_4 => ?_)
        · have hf := hf.1 c_4
          exact b_X11_chains_104 C hE ih x1 x2 x4 (σ.1 27 x4.toNatClampNeg) σ _ _ ls O (lv_sub hl [2, 3, 4, 6, 1] rfl) hf
        · have hf := hf.2 c_4
          refine lv_aload_n hx hb dX11_chains_72 rfl (lv_at hl 2 rfl) ?_
          refine lv_iconst (v := (-1)) hx hb dX11_chains_73 (by decide) ?_
          refine lv_iload_n hx hb dX11_chains_74 rfl (lv_at hl 5 rfl) ?_
          refine lv_aload_n hx hb dX11_chains_75 rfl (lv_at hl 2 rfl) ?_
          refine r_get C O (k := 0) (j := 15) (v := .ref (q 10)) fX11_39 rfl rfl rfl dX11_chains_76 ?_
          refine lv_iload hx hb dX11_chains_79 (lv_at hl 1 rfl) ?_
          refine r_iald C O (k := 10) rfl hf.1 dX11_chains_81 ?_
          have hf := hf.2
          refine lv_iload hx hb dX11_chains_82 (lv_at hl 0 rfl) ?_
          refine lv_aload_n hx hb dX11_chains_84 rfl (lv_at hl 2 rfl) ?_
          refine lv_iload_n hx hb dX11_chains_85 rfl (lv_at hl 5 rfl) ?_
          refine lv_aload_n hx hb dX11_chains_86 rfl (lv_at hl 2 rfl) ?_
          refine r_get C O (k := 0) (j := 15) (v := .ref (q 10)) fX11_39 rfl rfl rfl dX11_chains_87 ?_
          refine lv_iload hx hb dX11_chains_90 (lv_at hl 1 rfl) ?_
          refine r_iald C O (k := 10) rfl hf.1 dX11_chains_92 ?_
          have hf := hf.2
          refine r_callI C O hl (c_X11_minutes l x3 (σ.1 10 (σ.1 27 x4.toNatClampNeg).toNatClampNeg)) mX11_165 (by decide) rfl rfl rfl rfl (Nat.le_of_ble_eq_true rfl) hf dX11_chains_93 (fun r_6 σ_5 H locs O hf => ?_)
          refine lv_isub hx hb dX11_chains_96 ?_
          refine lv_iload hx hb dX11_chains_97 (lv_at hl 0 rfl) ?_
          refine lv_iload hx hb dX11_chains_99 (lv_at hl 1 rfl) ?_
          refine r_callV C O hl (c_X11_adds l ((-1)) x3 (σ.1 10 (σ.1 27 x4.toNatClampNeg).toNatClampNeg) (v_3 - r_6) v_3 (σ.1 27 x4.toNatClampNeg)) mX11_194 (by decide) rfl rfl rfl rfl (Nat.le_of_ble_eq_true rfl) hf dX11_chains_101 (fun σ_7 H locs O hf => ?_)
          exact b_X11_chains_104 C hE ih x1 x2 x4 (σ.1 27 x4.toNatClampNeg) σ_7 _ _ ls O (lv_sub hl [2, 3, 4, 6, 1] rfl) hf
      · have hf := hf.2 c_2
        refine lv_goto (tgt := 167) hx hb dX11_chains_33 (by decide) ?_
        refine lv_iinc (v := x4 + 1) (lv' := [(4, .int (x4 + 1)), (0, .ref (q 0)), (1, .int x1), (2, .int x2), (3, .int x3)]) hx hb dX11_chains_167 hl (k := 4) rfl rfl (by decide) rfl (fun ls hl => ?_)
        refine lv_goto (tgt := 15) hx hb dX11_chains_170 (by decide) ?_
        exact ih x1 x2 x3 (x4 + 1) σ _ _ ls O (lv_sub hl [1, 2, 3, 4, 0] rfl) hf
def w_X11_chains (x1 : Int32) (x2 : Int32) (σ : St) (Q : St → Prop) : Prop := ∀ σ_1 : St, σ_1 = wr σ 0 36 0 → (vp_in x1 4 ∧ (∃ nn : Nat, w_X11_chains_15 Q nn x1 x2 (σ_1.1 6 x1.toNatClampNeg) 0 σ_1))
set_option maxHeartbeats 4000000 in
set_option maxRecDepth 100000 in
theorem b_X11_chains (C : CX p R s m args meth c cX11_chains 7 RX11 1 26 D cs) (hE : RV p l e R s m args below meth c cX11_chains D cs LM q Q E) : ∀ (x1 : Int32) (x2 : Int32) (σ : St) (H : Heap) (locs : List Loc) (ls : Array Slot), OK D cs LM q s σ H locs → lv_has ls 7 [(0, .ref (q 0)), (1, .int x1), (2, .int x2)] → w_X11_chains x1 x2 σ Q → W p l e R s m args below meth c H locs 0 0 E (F0 m 0 ls []) := by
  have hx := C.1
  have hb := C.2.1
  intro x1 x2 σ H locs ls O hl hf
  unfold w_X11_chains at hf
  refine lv_aload_n hx hb dX11_chains_0 rfl (lv_at hl 0 rfl) ?_
  refine lv_iconst (v := 0) hx hb dX11_chains_1 (by decide) ?_
  refine r_puti C O (k := 0) pX11_191 rfl rfl dX11_chains_2 (fun H locs σ_1 eσ_1 O => ?_)
  have hf := hf σ_1 eσ_1
  refine lv_aload_n hx hb dX11_chains_5 rfl (lv_at hl 0 rfl) ?_
  refine r_get C O (k := 0) (j := 10) (v := .ref (q 6)) fX11_27 rfl rfl rfl dX11_chains_6 ?_
  refine lv_iload_n hx hb dX11_chains_9 rfl (lv_at hl 1 rfl) ?_
  refine r_iald C O (k := 6) rfl hf.1 dX11_chains_10 ?_
  have hf := hf.2
  refine lv_istore_n (lv' := [(3, .int (σ_1.1 6 x1.toNatClampNeg)), (0, .ref (q 0)), (1, .int x1), (2, .int x2)]) hx hb dX11_chains_11 rfl hl (by decide) rfl (fun ls hl => ?_)
  refine lv_iconst (v := 0) hx hb dX11_chains_12 (by decide) ?_
  refine lv_istore (lv' := [(4, .int 0), (3, .int (σ_1.1 6 x1.toNatClampNeg)), (0, .ref (q 0)), (1, .int x1), (2, .int x2)]) hx hb dX11_chains_13 hl (by decide) rfl (fun ls hl => ?_)
  obtain ⟨nn, hf⟩ := hf
  exact b_X11_chains_15 C hE nn x1 x2 (σ_1.1 6 x1.toNatClampNeg) 0 σ_1 _ _ ls O (lv_sub hl [2, 3, 4, 1, 0] rfl) hf
theorem c_X11_chains (l : Launch) (x1 : Int32) (x2 : Int32) : MetV l yX11_chains cX11_chains 7 1 26 LM 0 (fun q => [.int x1, .int x2]) (w_X11_chains x1 x2) := mk_V (own := RX11) (by decide) rfl (fun q => Nat.le_of_ble_eq_true rfl) (fun C hE O hl hf => b_X11_chains C hE x1 x2 _ _ _ _ O hl hf)
end
section
variable {p : Program} {l : Launch} {e : Env} {R : Room} {s : State} {m : MethodId} {args : Array Value} {below : List Frame} {meth : Method} {c : Code} {E : State → Prop}
variable {D : va_G} {cs : Nat → ClassId} {q : Nat → Nat}
variable {Q : St → Prop}
def w_X11_hand_8 (Q : St → Prop) : Nat → Int32 → Int32 → Int32 → St → Prop
  | 0, _, _, _, _ => False
  | n + 1, x1, x2, x3, σ => ((σ.1 0 34) ≤ x3 → (w_X11_chains x1 x2 σ (fun σ_2 => Q σ_2))) ∧ (¬ (σ.1 0 34) ≤ x3 → (vp_in x3 8 ∧ (vp_in (σ.1 27 x3.toNatClampNeg) 20 ∧ ((¬ (σ.1 15 (σ.1 27 x3.toNatClampNeg).toNatClampNeg) = x1 → (w_X11_hand_8 Q n x1 (x2 ||| 0) (x3 + 1) σ)) ∧ ((σ.1 15 (σ.1 27 x3.toNatClampNeg).toNatClampNeg) = x1 → (w_X11_hand_8 Q n x1 (x2 ||| (1 <<< (x3 &&& 31))) (x3 + 1) σ))))))
set_option maxHeartbeats 4000000 in
set_option maxRecDepth 100000 in
theorem b_X11_hand_8 (C : CX p R s m args meth c cX11_hand 4 RX11 2 52 D cs) (hE : RV p l e R s m args below meth c cX11_hand D cs LM q Q E) : ∀ n : Nat, ∀ (x1 : Int32) (x2 : Int32) (x3 : Int32) (σ : St) (H : Heap) (locs : List Loc) (ls : Array Slot), OK D cs LM q s σ H locs → lv_has ls 4 [(0, .ref (q 0)), (1, .int x1), (2, .int x2), (3, .int x3)] → w_X11_hand_8 Q n x1 x2 x3 σ → W p l e R s m args below meth c H locs 0 0 E (F0 m 8 ls []) := by
  have hx := C.1
  have hb := C.2.1
  intro n
  induction n with
  | zero => intro x1 x2 x3 σ H locs ls O hl hf; exact hf.elim
  | succ n ih =>
    intro x1 x2 x3 σ H locs ls O hl hf
    unfold w_X11_hand_8 at hf
    refine lv_iload_n hx hb dX11_hand_8 rfl (lv_at hl 3 rfl) ?_
    refine lv_aload_n hx hb dX11_hand_9 rfl (lv_at hl 0 rfl) ?_
    refine r_get C O (k := 0) (j := 34) (v := .int (σ.1 0 34)) fX11_188 rfl rfl rfl dX11_hand_10 ?_
    refine lv_icmp_ge (tgt := 47) hx hb dX11_hand_13 (by decide) (fun c_1 => ?_) (fun c_1 => ?_)
    · have hf := hf.1 c_1
      refine lv_aload_n hx hb dX11_hand_47 rfl (lv_at hl 0 rfl) ?_
      refine lv_iload_n hx hb dX11_hand_48 rfl (lv_at hl 1 rfl) ?_
      refine lv_iload_n hx hb dX11_hand_49 rfl (lv_at hl 2 rfl) ?_
      refine r_callV C O hl (c_X11_chains l x1 x2) mX11_204 (by decide) rfl rfl rfl rfl (Nat.le_of_ble_eq_true rfl) hf dX11_hand_50 (fun σ_2 H locs O hf => ?_)
      exact hE _ _ _ _ _ O hf dX11_hand_53
    · have hf := hf.2 c_1
      refine lv_iload_n hx hb dX11_hand_16 rfl (lv_at hl 2 rfl) ?_
      refine lv_aload_n hx hb dX11_hand_17 rfl (lv_at hl 0 rfl) ?_
      refine r_get C O (k := 0) (j := 20) (v := .ref (q 15)) fX11_54 rfl rfl rfl dX11_hand_18 ?_
      refine lv_aload_n hx hb dX11_hand_21 rfl (lv_at hl 0 rfl) ?_
      refine r_get C O (k := 0) (j := 35) (v := .ref (q 27)) fX11_90 rfl rfl rfl dX11_hand_22 ?_
      refine lv_iload_n hx hb dX11_hand_25 rfl (lv_at hl 3 rfl) ?_
      refine r_iald C O (k := 27) rfl hf.1 dX11_hand_26 ?_
      have hf := hf.2
      refine r_iald C O (k := 15) rfl hf.1 dX11_hand_27 ?_
      have hf := hf.2
      refine lv_iload_n hx hb dX11_hand_28 rfl (lv_at hl 1 rfl) ?_
      refine lv_icmp_ne (tgt := 38) hx hb dX11_hand_29 (by decide) (fun c_3 => ?_) (fun c_3 => ?_)
      · have hf := hf.1 c_3
        refine lv_iconst (v := 0) hx hb dX11_hand_38 (by decide) ?_
        refine lv_ior hx hb dX11_hand_39 ?_
        refine lv_istore_n (lv' := [(2, .int (x2 ||| 0)), (0, .ref (q 0)), (1, .int x1), (3, .int x3)]) hx hb dX11_hand_40 rfl hl (by decide) rfl (fun ls hl => ?_)
        refine lv_iinc (v := x3 + 1) (lv' := [(3, .int (x3 + 1)), (2, .int (x2 ||| 0)), (0, .ref (q 0)), (1, .int x1)]) hx hb dX11_hand_41 hl (k := 3) rfl rfl (by decide) rfl (fun ls hl => ?_)
        refine lv_goto (tgt := 8) hx hb dX11_hand_44 (by decide) ?_
        exact ih x1 (x2 ||| 0) (x3 + 1) σ _ _ ls O (lv_sub hl [2, 3, 1, 0] rfl) hf
      · have hf := hf.2 c_3
        refine lv_iconst (v := 1) hx hb dX11_hand_32 (by decide) ?_
        refine lv_iload_n hx hb dX11_hand_33 rfl (lv_at hl 3 rfl) ?_
        refine lv_ishl hx hb dX11_hand_34 ?_
        refine lv_goto (tgt := 39) hx hb dX11_hand_35 (by decide) ?_
        refine lv_ior hx hb dX11_hand_39 ?_
        refine lv_istore_n (lv' := [(2, .int (x2 ||| (1 <<< (x3 &&& 31)))), (0, .ref (q 0)), (1, .int x1), (3, .int x3)]) hx hb dX11_hand_40 rfl hl (by decide) rfl (fun ls hl => ?_)
        refine lv_iinc (v := x3 + 1) (lv' := [(3, .int (x3 + 1)), (2, .int (x2 ||| (1 <<< (x3 &&& 31)))), (0, .ref (q 0)), (1, .int x1)]) hx hb dX11_hand_41 hl (k := 3) rfl rfl (by decide) rfl (fun ls hl => ?_)
        refine lv_goto (tgt := 8) hx hb dX11_hand_44 (by decide) ?_
        exact ih x1 (x2 ||| (1 <<< (x3 &&& 31))) (x3 + 1) σ _ _ ls O (lv_sub hl [2, 3, 1, 0] rfl) hf
def w_X11_hand (x1 : Int32) (σ : St) (Q : St → Prop) : Prop := w_X11_orders σ (fun σ_1 => ∃ nn : Nat, w_X11_hand_8 Q nn x1 0 0 σ_1)
set_option maxHeartbeats 4000000 in
set_option maxRecDepth 100000 in
theorem b_X11_hand (C : CX p R s m args meth c cX11_hand 4 RX11 2 52 D cs) (hE : RV p l e R s m args below meth c cX11_hand D cs LM q Q E) : ∀ (x1 : Int32) (σ : St) (H : Heap) (locs : List Loc) (ls : Array Slot), OK D cs LM q s σ H locs → lv_has ls 4 [(0, .ref (q 0)), (1, .int x1)] → w_X11_hand x1 σ Q → W p l e R s m args below meth c H locs 0 0 E (F0 m 0 ls []) := by
  have hx := C.1
  have hb := C.2.1
  intro x1 σ H locs ls O hl hf
  unfold w_X11_hand at hf
  refine lv_aload_n hx hb dX11_hand_0 rfl (lv_at hl 0 rfl) ?_
  refine r_callV C O hl (c_X11_orders l) mX11_201 (by decide) rfl rfl rfl rfl (Nat.le_of_ble_eq_true rfl) hf dX11_hand_1 (fun σ_1 H locs O hf => ?_)
  refine lv_iconst (v := 0) hx hb dX11_hand_4 (by decide) ?_
  refine lv_istore_n (lv' := [(2, .int 0), (0, .ref (q 0)), (1, .int x1)]) hx hb dX11_hand_5 rfl hl (by decide) rfl (fun ls hl => ?_)
  refine lv_iconst (v := 0) hx hb dX11_hand_6 (by decide) ?_
  refine lv_istore_n (lv' := [(3, .int 0), (2, .int 0), (0, .ref (q 0)), (1, .int x1)]) hx hb dX11_hand_7 rfl hl (by decide) rfl (fun ls hl => ?_)
  obtain ⟨nn, hf⟩ := hf
  exact b_X11_hand_8 C hE nn x1 0 0 σ_1 _ _ ls O (lv_sub hl [2, 3, 1, 0] rfl) hf
theorem c_X11_hand (l : Launch) (x1 : Int32) : MetV l yX11_hand cX11_hand 4 2 52 LM 0 (fun q => [.int x1]) (w_X11_hand x1) := mk_V (own := RX11) (by decide) rfl (fun q => Nat.le_of_ble_eq_true rfl) (fun C hE O hl hf => b_X11_hand C hE x1 _ _ _ _ O hl hf)
end
section
variable {p : Program} {l : Launch} {e : Env} {R : Room} {s : State} {m : MethodId} {args : Array Value} {below : List Frame} {meth : Method} {c : Code} {E : State → Prop}
variable {D : va_G} {cs : Nat → ClassId} {q : Nat → Nat}
variable {Q : Int32 → St → Prop}
def w_X11_isLeg (x1 : Int32) (x2 : Int32) (σ : St) (Q : Int32 → St → Prop) : Prop := vp_in x2 16 ∧ ((¬ (σ.1 28 x2.toNatClampNeg) = ((-1)) → (Q 0 σ)) ∧ ((σ.1 28 x2.toNatClampNeg) = ((-1)) → (vp_in x2 16 ∧ (vp_in x1 40 ∧ ((¬ (σ.1 33 x2.toNatClampNeg) = (σ.1 26 x1.toNatClampNeg) → (Q 0 σ)) ∧ ((σ.1 33 x2.toNatClampNeg) = (σ.1 26 x1.toNatClampNeg) → (vp_in x2 16 ∧ (vp_in x1 40 ∧ ((¬ (σ.1 29 x2.toNatClampNeg) = (σ.1 24 x1.toNatClampNeg) → (Q 0 σ)) ∧ ((σ.1 29 x2.toNatClampNeg) = (σ.1 24 x1.toNatClampNeg) → (vp_in x2 16 ∧ (vp_in x1 40 ∧ ((¬ (σ.1 30 x2.toNatClampNeg) = (σ.1 25 x1.toNatClampNeg) → (Q 0 σ)) ∧ ((σ.1 30 x2.toNatClampNeg) = (σ.1 25 x1.toNatClampNeg) → (Q 1 σ)))))))))))))))
set_option maxHeartbeats 4000000 in
set_option maxRecDepth 100000 in
theorem b_X11_isLeg (C : CX p R s m args meth c cX11_isLeg 3 RX11 0 0 D cs) (hE : RI p l e R s m args below meth c cX11_isLeg D cs LM q .boolean Q E) : ∀ (x1 : Int32) (x2 : Int32) (σ : St) (H : Heap) (locs : List Loc) (ls : Array Slot), OK D cs LM q s σ H locs → lv_has ls 3 [(0, .ref (q 0)), (1, .int x1), (2, .int x2)] → w_X11_isLeg x1 x2 σ Q → W p l e R s m args below meth c H locs 0 0 E (F0 m 0 ls []) := by
  have hx := C.1
  have hb := C.2.1
  intro x1 x2 σ H locs ls O hl hf
  unfold w_X11_isLeg at hf
  refine lv_aload_n hx hb dX11_isLeg_0 rfl (lv_at hl 0 rfl) ?_
  refine r_get C O (k := 0) (j := 37) (v := .ref (q 28)) fX11_93 rfl rfl rfl dX11_isLeg_1 ?_
  refine lv_iload_n hx hb dX11_isLeg_4 rfl (lv_at hl 2 rfl) ?_
  refine r_iald C O (k := 28) rfl hf.1 dX11_isLeg_5 ?_
  have hf := hf.2
  refine lv_iconst (v := (-1)) hx hb dX11_isLeg_6 (by decide) ?_
  refine lv_icmp_ne (tgt := 59) hx hb dX11_isLeg_7 (by decide) (fun c_1 => ?_) (fun c_1 => ?_)
  · have hf := hf.1 c_1
    refine lv_iconst (v := 0) hx hb dX11_isLeg_59 (by decide) ?_
    exact hE _ _ _ _ _ _ rfl O hf dX11_isLeg_60
  · have hf := hf.2 c_1
    refine lv_aload_n hx hb dX11_isLeg_10 rfl (lv_at hl 0 rfl) ?_
    refine r_get C O (k := 0) (j := 42) (v := .ref (q 33)) fX11_108 rfl rfl rfl dX11_isLeg_11 ?_
    refine lv_iload_n hx hb dX11_isLeg_14 rfl (lv_at hl 2 rfl) ?_
    refine r_iald C O (k := 33) rfl hf.1 dX11_isLeg_15 ?_
    have hf := hf.2
    refine lv_aload_n hx hb dX11_isLeg_16 rfl (lv_at hl 0 rfl) ?_
    refine r_get C O (k := 0) (j := 33) (v := .ref (q 26)) fX11_87 rfl rfl rfl dX11_isLeg_17 ?_
    refine lv_iload_n hx hb dX11_isLeg_20 rfl (lv_at hl 1 rfl) ?_
    refine r_iald C O (k := 26) rfl hf.1 dX11_isLeg_21 ?_
    have hf := hf.2
    refine lv_icmp_ne (tgt := 59) hx hb dX11_isLeg_22 (by decide) (fun c_2 => ?_) (fun c_2 => ?_)
    · have hf := hf.1 c_2
      refine lv_iconst (v := 0) hx hb dX11_isLeg_59 (by decide) ?_
      exact hE _ _ _ _ _ _ rfl O hf dX11_isLeg_60
    · have hf := hf.2 c_2
      refine lv_aload_n hx hb dX11_isLeg_25 rfl (lv_at hl 0 rfl) ?_
      refine r_get C O (k := 0) (j := 38) (v := .ref (q 29)) fX11_96 rfl rfl rfl dX11_isLeg_26 ?_
      refine lv_iload_n hx hb dX11_isLeg_29 rfl (lv_at hl 2 rfl) ?_
      refine r_iald C O (k := 29) rfl hf.1 dX11_isLeg_30 ?_
      have hf := hf.2
      refine lv_aload_n hx hb dX11_isLeg_31 rfl (lv_at hl 0 rfl) ?_
      refine r_get C O (k := 0) (j := 31) (v := .ref (q 24)) fX11_81 rfl rfl rfl dX11_isLeg_32 ?_
      refine lv_iload_n hx hb dX11_isLeg_35 rfl (lv_at hl 1 rfl) ?_
      refine r_iald C O (k := 24) rfl hf.1 dX11_isLeg_36 ?_
      have hf := hf.2
      refine lv_icmp_ne (tgt := 59) hx hb dX11_isLeg_37 (by decide) (fun c_3 => ?_) (fun c_3 => ?_)
      · have hf := hf.1 c_3
        refine lv_iconst (v := 0) hx hb dX11_isLeg_59 (by decide) ?_
        exact hE _ _ _ _ _ _ rfl O hf dX11_isLeg_60
      · have hf := hf.2 c_3
        refine lv_aload_n hx hb dX11_isLeg_40 rfl (lv_at hl 0 rfl) ?_
        refine r_get C O (k := 0) (j := 39) (v := .ref (q 30)) fX11_99 rfl rfl rfl dX11_isLeg_41 ?_
        refine lv_iload_n hx hb dX11_isLeg_44 rfl (lv_at hl 2 rfl) ?_
        refine r_iald C O (k := 30) rfl hf.1 dX11_isLeg_45 ?_
        have hf := hf.2
        refine lv_aload_n hx hb dX11_isLeg_46 rfl (lv_at hl 0 rfl) ?_
        refine r_get C O (k := 0) (j := 32) (v := .ref (q 25)) fX11_84 rfl rfl rfl dX11_isLeg_47 ?_
        refine lv_iload_n hx hb dX11_isLeg_50 rfl (lv_at hl 1 rfl) ?_
        refine r_iald C O (k := 25) rfl hf.1 dX11_isLeg_51 ?_
        have hf := hf.2
        refine lv_icmp_ne (tgt := 59) hx hb dX11_isLeg_52 (by decide) (fun c_4 => ?_) (fun c_4 => ?_)
        · have hf := hf.1 c_4
          refine lv_iconst (v := 0) hx hb dX11_isLeg_59 (by decide) ?_
          exact hE _ _ _ _ _ _ rfl O hf dX11_isLeg_60
        · have hf := hf.2 c_4
          refine lv_iconst (v := 1) hx hb dX11_isLeg_55 (by decide) ?_
          refine lv_goto (tgt := 60) hx hb dX11_isLeg_56 (by decide) ?_
          exact hE _ _ _ _ _ _ rfl O hf dX11_isLeg_60
theorem c_X11_isLeg (l : Launch) (x1 : Int32) (x2 : Int32) : MetI l yX11_isLeg cX11_isLeg 3 .boolean 0 0 LM 0 (fun q => [.int x1, .int x2]) (w_X11_isLeg x1 x2) := mk_I (own := RX11) (by decide) rfl (fun q => Nat.le_of_ble_eq_true rfl) (fun C hE O hl hf => b_X11_isLeg C hE x1 x2 _ _ _ _ O hl hf)
end
section
variable {p : Program} {l : Launch} {e : Env} {R : Room} {s : State} {m : MethodId} {args : Array Value} {below : List Frame} {meth : Method} {c : Code} {E : State → Prop}
variable {D : va_G} {cs : Nat → ClassId} {q : Nat → Nat}
variable {Q : Int32 → St → Prop}
def w_X11_hasLeg_12 (Q : Int32 → St → Prop) : Nat → Int32 → Int32 → St → Prop
  | 0, _, _, _ => False
  | n + 1, x1, x2, σ => ((σ.1 0 36) ≤ x2 → (Q 0 σ)) ∧ (¬ (σ.1 0 36) ≤ x2 → (w_X11_isLeg x1 x2 σ (fun r_3 σ_2 => (r_3 = 0 → (w_X11_hasLeg_12 Q n x1 (x2 + 1) σ_2)) ∧ (¬ r_3 = 0 → (Q 1 σ_2)))))
set_option maxHeartbeats 4000000 in
set_option maxRecDepth 100000 in
theorem b_X11_hasLeg_12 (C : CX p R s m args meth c cX11_hasLeg 3 RX11 3 75 D cs) (hE : RI p l e R s m args below meth c cX11_hasLeg D cs LM q .boolean Q E) : ∀ n : Nat, ∀ (x1 : Int32) (x2 : Int32) (σ : St) (H : Heap) (locs : List Loc) (ls : Array Slot), OK D cs LM q s σ H locs → lv_has ls 3 [(0, .ref (q 0)), (1, .int x1), (2, .int x2)] → w_X11_hasLeg_12 Q n x1 x2 σ → W p l e R s m args below meth c H locs 0 0 E (F0 m 12 ls []) := by
  have hx := C.1
  have hb := C.2.1
  intro n
  induction n with
  | zero => intro x1 x2 σ H locs ls O hl hf; exact hf.elim
  | succ n ih =>
    intro x1 x2 σ H locs ls O hl hf
    unfold w_X11_hasLeg_12 at hf
    refine lv_iload_n hx hb dX11_hasLeg_12 rfl (lv_at hl 2 rfl) ?_
    refine lv_aload_n hx hb dX11_hasLeg_13 rfl (lv_at hl 0 rfl) ?_
    refine r_get C O (k := 0) (j := 36) (v := .int (σ.1 0 36)) fX11_191 rfl rfl rfl dX11_hasLeg_14 ?_
    refine lv_icmp_ge (tgt := 37) hx hb dX11_hasLeg_17 (by decide) (fun c_1 => ?_) (fun c_1 => ?_)
    · have hf := hf.1 c_1
      refine lv_iconst (v := 0) hx hb dX11_hasLeg_37 (by decide) ?_
      exact hE _ _ _ _ _ _ rfl O hf dX11_hasLeg_38
    · have hf := hf.2 c_1
      refine lv_aload_n hx hb dX11_hasLeg_20 rfl (lv_at hl 0 rfl) ?_
      refine lv_iload_n hx hb dX11_hasLeg_21 rfl (lv_at hl 1 rfl) ?_
      refine lv_iload_n hx hb dX11_hasLeg_22 rfl (lv_at hl 2 rfl) ?_
      refine r_callI C O hl (c_X11_isLeg l x1 x2) mX11_230 (by decide) rfl rfl rfl rfl (Nat.le_of_ble_eq_true rfl) hf dX11_hasLeg_23 (fun r_3 σ_2 H locs O hf => ?_)
      refine lv_if_eq (tgt := 31) hx hb dX11_hasLeg_26 (by decide) (fun c_4 => ?_) (fun c_4 => ?_)
      · have hf := hf.1 c_4
        refine lv_iinc (v := x2 + 1) (lv' := [(2, .int (x2 + 1)), (0, .ref (q 0)), (1, .int x1)]) hx hb dX11_hasLeg_31 hl (k := 2) rfl rfl (by decide) rfl (fun ls hl => ?_)
        refine lv_goto (tgt := 12) hx hb dX11_hasLeg_34 (by decide) ?_
        exact ih x1 (x2 + 1) σ_2 _ _ ls O (lv_sub hl [1, 2, 0] rfl) hf
      · have hf := hf.2 c_4
        refine lv_iconst (v := 1) hx hb dX11_hasLeg_29 (by decide) ?_
        exact hE _ _ _ _ _ _ rfl O hf dX11_hasLeg_30
def w_X11_hasLeg (x1 : Int32) (σ : St) (Q : Int32 → St → Prop) : Prop := vp_in x1 40 ∧ (w_X11_hand (σ.1 23 x1.toNatClampNeg) σ (fun σ_1 => ∃ nn : Nat, w_X11_hasLeg_12 Q nn x1 0 σ_1))
set_option maxHeartbeats 4000000 in
set_option maxRecDepth 100000 in
theorem b_X11_hasLeg (C : CX p R s m args meth c cX11_hasLeg 3 RX11 3 75 D cs) (hE : RI p l e R s m args below meth c cX11_hasLeg D cs LM q .boolean Q E) : ∀ (x1 : Int32) (σ : St) (H : Heap) (locs : List Loc) (ls : Array Slot), OK D cs LM q s σ H locs → lv_has ls 3 [(0, .ref (q 0)), (1, .int x1)] → w_X11_hasLeg x1 σ Q → W p l e R s m args below meth c H locs 0 0 E (F0 m 0 ls []) := by
  have hx := C.1
  have hb := C.2.1
  intro x1 σ H locs ls O hl hf
  unfold w_X11_hasLeg at hf
  refine lv_aload_n hx hb dX11_hasLeg_0 rfl (lv_at hl 0 rfl) ?_
  refine lv_aload_n hx hb dX11_hasLeg_1 rfl (lv_at hl 0 rfl) ?_
  refine r_get C O (k := 0) (j := 30) (v := .ref (q 23)) fX11_78 rfl rfl rfl dX11_hasLeg_2 ?_
  refine lv_iload_n hx hb dX11_hasLeg_5 rfl (lv_at hl 1 rfl) ?_
  refine r_iald C O (k := 23) rfl hf.1 dX11_hasLeg_6 ?_
  have hf := hf.2
  refine r_callV C O hl (c_X11_hand l (σ.1 23 x1.toNatClampNeg)) mX11_227 (by decide) rfl rfl rfl rfl (Nat.le_of_ble_eq_true rfl) hf dX11_hasLeg_7 (fun σ_1 H locs O hf => ?_)
  refine lv_iconst (v := 0) hx hb dX11_hasLeg_10 (by decide) ?_
  refine lv_istore_n (lv' := [(2, .int 0), (0, .ref (q 0)), (1, .int x1)]) hx hb dX11_hasLeg_11 rfl hl (by decide) rfl (fun ls hl => ?_)
  obtain ⟨nn, hf⟩ := hf
  exact b_X11_hasLeg_12 C hE nn x1 0 σ_1 _ _ ls O (lv_sub hl [1, 2, 0] rfl) hf
theorem c_X11_hasLeg (l : Launch) (x1 : Int32) : MetI l yX11_hasLeg cX11_hasLeg 3 .boolean 3 75 LM 0 (fun q => [.int x1]) (w_X11_hasLeg x1) := mk_I (own := RX11) (by decide) rfl (fun q => Nat.le_of_ble_eq_true rfl) (fun C hE O hl hf => b_X11_hasLeg C hE x1 _ _ _ _ O hl hf)
end
section
variable {p : Program} {l : Launch} {e : Env} {R : Room} {s : State} {m : MethodId} {args : Array Value} {below : List Frame} {meth : Method} {c : Code} {E : State → Prop}
variable {D : va_G} {cs : Nat → ClassId} {q : Nat → Nat}
variable {Q : St → Prop}
def w_X11_breaks_2 (Q : St → Prop) : Nat → Int32 → St → Prop
  | 0, _, _ => False
  | n + 1, x1, σ => ((σ.1 0 25) ≤ x1 → (Q σ)) ∧ (¬ (σ.1 0 25) ≤ x1 → (w_X11_binds x1 σ (fun r_3 σ_2 => (r_3 = 0 → (w_X11_breaks_2 Q n (x1 + 1) σ_2)) ∧ (¬ r_3 = 0 → (w_X11_hasLeg x1 σ_2 (fun r_6 σ_5 => (¬ r_6 = 0 → (w_X11_breaks_2 Q n (x1 + 1) σ_5)) ∧ (r_6 = 0 → (vp_in x1 40 ∧ (∀ σ_8 : St, σ_8 = wr σ_5 19 x1.toNatClampNeg 3 → (w_X11_breaks_2 Q n (x1 + 1) σ_8))))))))))
set_option maxHeartbeats 4000000 in
set_option maxRecDepth 100000 in
theorem b_X11_breaks_2 (C : CX p R s m args meth c cX11_breaks 2 RX11 4 97 D cs) (hE : RV p l e R s m args below meth c cX11_breaks D cs LM q Q E) : ∀ n : Nat, ∀ (x1 : Int32) (σ : St) (H : Heap) (locs : List Loc) (ls : Array Slot), OK D cs LM q s σ H locs → lv_has ls 2 [(0, .ref (q 0)), (1, .int x1)] → w_X11_breaks_2 Q n x1 σ → W p l e R s m args below meth c H locs 0 0 E (F0 m 2 ls []) := by
  have hx := C.1
  have hb := C.2.1
  intro n
  induction n with
  | zero => intro x1 σ H locs ls O hl hf; exact hf.elim
  | succ n ih =>
    intro x1 σ H locs ls O hl hf
    unfold w_X11_breaks_2 at hf
    refine lv_iload_n hx hb dX11_breaks_2 rfl (lv_at hl 1 rfl) ?_
    refine lv_aload_n hx hb dX11_breaks_3 rfl (lv_at hl 0 rfl) ?_
    refine r_get C O (k := 0) (j := 25) (v := .int (σ.1 0 25)) fX11_185 rfl rfl rfl dX11_breaks_4 ?_
    refine lv_icmp_ge (tgt := 39) hx hb dX11_breaks_7 (by decide) (fun c_1 => ?_) (fun c_1 => ?_)
    · have hf := hf.1 c_1
      exact hE _ _ _ _ _ O hf dX11_breaks_39
    · have hf := hf.2 c_1
      refine lv_aload_n hx hb dX11_breaks_10 rfl (lv_at hl 0 rfl) ?_
      refine lv_iload_n hx hb dX11_breaks_11 rfl (lv_at hl 1 rfl) ?_
      refine r_callI C O hl (c_X11_binds l x1) mX11_233 (by decide) rfl rfl rfl rfl (Nat.le_of_ble_eq_true rfl) hf dX11_breaks_12 (fun r_3 σ_2 H locs O hf => ?_)
      refine lv_if_eq (tgt := 33) hx hb dX11_breaks_15 (by decide) (fun c_4 => ?_) (fun c_4 => ?_)
      · have hf := hf.1 c_4
        refine lv_iinc (v := x1 + 1) (lv' := [(1, .int (x1 + 1)), (0, .ref (q 0))]) hx hb dX11_breaks_33 hl (k := 1) rfl rfl (by decide) rfl (fun ls hl => ?_)
        refine lv_goto (tgt := 2) hx hb dX11_breaks_36 (by decide) ?_
        exact ih (x1 + 1) σ_2 _ _ ls O (lv_sub hl [1, 0] rfl) hf
      · have hf := hf.2 c_4
        refine lv_aload_n hx hb dX11_breaks_18 rfl (lv_at hl 0 rfl) ?_
        refine lv_iload_n hx hb dX11_breaks_19 rfl (lv_at hl 1 rfl) ?_
        refine r_callI C O hl (c_X11_hasLeg l x1) mX11_236 (by decide) rfl rfl rfl rfl (Nat.le_of_ble_eq_true rfl) hf dX11_breaks_20 (fun r_6 σ_5 H locs O hf => ?_)
        refine lv_if_ne (tgt := 33) hx hb dX11_breaks_23 (by decide) (fun c_7 => ?_) (fun c_7 => ?_)
        · have hf := hf.1 c_7
          refine lv_iinc (v := x1 + 1) (lv' := [(1, .int (x1 + 1)), (0, .ref (q 0))]) hx hb dX11_breaks_33 hl (k := 1) rfl rfl (by decide) rfl (fun ls hl => ?_)
          refine lv_goto (tgt := 2) hx hb dX11_breaks_36 (by decide) ?_
          exact ih (x1 + 1) σ_5 _ _ ls O (lv_sub hl [1, 0] rfl) hf
        · have hf := hf.2 c_7
          refine lv_aload_n hx hb dX11_breaks_26 rfl (lv_at hl 0 rfl) ?_
          refine r_get C O (k := 0) (j := 26) (v := .ref (q 19)) fX11_66 rfl rfl rfl dX11_breaks_27 ?_
          refine lv_iload_n hx hb dX11_breaks_30 rfl (lv_at hl 1 rfl) ?_
          refine lv_iconst (v := 3) hx hb dX11_breaks_31 (by decide) ?_
          refine r_iast C O (k := 19) rfl hf.1 dX11_breaks_32 (fun H locs σ_8 eσ_8 O => ?_)
          have hf := hf.2 σ_8 eσ_8
          refine lv_iinc (v := x1 + 1) (lv' := [(1, .int (x1 + 1)), (0, .ref (q 0))]) hx hb dX11_breaks_33 hl (k := 1) rfl rfl (by decide) rfl (fun ls hl => ?_)
          refine lv_goto (tgt := 2) hx hb dX11_breaks_36 (by decide) ?_
          exact ih (x1 + 1) σ_8 _ _ ls O (lv_sub hl [1, 0] rfl) hf
def w_X11_breaks (σ : St) (Q : St → Prop) : Prop := ∃ nn : Nat, w_X11_breaks_2 Q nn 0 σ
set_option maxHeartbeats 4000000 in
set_option maxRecDepth 100000 in
theorem b_X11_breaks (C : CX p R s m args meth c cX11_breaks 2 RX11 4 97 D cs) (hE : RV p l e R s m args below meth c cX11_breaks D cs LM q Q E) : ∀ (σ : St) (H : Heap) (locs : List Loc) (ls : Array Slot), OK D cs LM q s σ H locs → lv_has ls 2 [(0, .ref (q 0))] → w_X11_breaks  σ Q → W p l e R s m args below meth c H locs 0 0 E (F0 m 0 ls []) := by
  have hx := C.1
  have hb := C.2.1
  intro  σ H locs ls O hl hf
  unfold w_X11_breaks at hf
  refine lv_iconst (v := 0) hx hb dX11_breaks_0 (by decide) ?_
  refine lv_istore_n (lv' := [(1, .int 0), (0, .ref (q 0))]) hx hb dX11_breaks_1 rfl hl (by decide) rfl (fun ls hl => ?_)
  obtain ⟨nn, hf⟩ := hf
  exact b_X11_breaks_2 C hE nn 0 σ _ _ ls O (lv_sub hl [1, 0] rfl) hf
theorem c_X11_breaks (l : Launch) : MetV l yX11_breaks cX11_breaks 2 4 97 LM 0 (fun q => []) (w_X11_breaks ) := mk_V (own := RX11) (by decide) rfl (fun q => Nat.le_of_ble_eq_true rfl) (fun C hE O hl hf => b_X11_breaks C hE _ _ _ _ O hl hf)
end
