section
variable {p : Program} {l : Launch} {e : Env} {R : Room} {s : State} {m : MethodId} {args : Array Value} {below : List Frame} {meth : Method} {c : Code} {E : State → Prop}
variable {D : va_G} {cs : Nat → ClassId} {q : Nat → Nat}
variable {Q : Int32 → Prop}
def w_X10_isWithin (x0 : Int32) (x1 : Int32) (x2 : Int32) (Q : Int32 → Prop) : Prop := (x0 < x1 → (Q 0)) ∧ (¬ x0 < x1 → ((x2 < x0 → (Q 0)) ∧ (¬ x2 < x0 → (Q 1))))
set_option maxHeartbeats 4000000 in
set_option maxRecDepth 100000 in
theorem b_X10_isWithin (hx : p.tables.exec = Jvm.exec) (hb : c.code = cX10_isWithin) (hml : c.maxLocals = 3) (hown : s.vm.findClass RX10 = some m.cls) (hts : ∀ w ∈ gw, w.before args s = true) (hfr : 0 ≤ R.frames) (hlo : 0 ≤ R.locals) (hE : RS p l e R s m args below meth c cX10_isWithin .boolean Q E) : ∀ (x0 : Int32) (x1 : Int32) (x2 : Int32) (ls : Array Slot), lv_has ls 3 [(0, .int x0), (1, .int x1), (2, .int x2)] → w_X10_isWithin x0 x1 x2 Q → W p l e R s m args below meth c s.heap [] 0 0 E (F0 m 0 ls []) := by
  intro x0 x1 x2 ls hl hf
  unfold w_X10_isWithin at hf
  refine lv_iload_n hx hb dX10_isWithin_0 rfl (lv_at hl 0 rfl) ?_
  refine lv_iload_n hx hb dX10_isWithin_1 rfl (lv_at hl 1 rfl) ?_
  refine lv_icmp_lt (tgt := 14) hx hb dX10_isWithin_2 (by decide) (fun c_1 => ?_) (fun c_1 => ?_)
  · have hf := hf.1 c_1
    refine lv_iconst (v := 0) hx hb dX10_isWithin_14 (by decide) ?_
    exact hE _ _ _ rfl hf dX10_isWithin_15
  · have hf := hf.2 c_1
    refine lv_iload_n hx hb dX10_isWithin_5 rfl (lv_at hl 0 rfl) ?_
    refine lv_iload_n hx hb dX10_isWithin_6 rfl (lv_at hl 2 rfl) ?_
    refine lv_icmp_gt (tgt := 14) hx hb dX10_isWithin_7 (by decide) (fun c_2 => ?_) (fun c_2 => ?_)
    · have hf := hf.1 c_2
      refine lv_iconst (v := 0) hx hb dX10_isWithin_14 (by decide) ?_
      exact hE _ _ _ rfl hf dX10_isWithin_15
    · have hf := hf.2 c_2
      refine lv_iconst (v := 1) hx hb dX10_isWithin_10 (by decide) ?_
      refine lv_goto (tgt := 15) hx hb dX10_isWithin_11 (by decide) ?_
      exact hE _ _ _ rfl hf dX10_isWithin_15
theorem c_X10_isWithin (l : Launch) (x0 : Int32) (x1 : Int32) (x2 : Int32) : MetS l yX10_isWithin cX10_isWithin 3 .boolean 0 0 [.int x0, .int x1, .int x2] (w_X10_isWithin x0 x1 x2) := mk_S (own := RX10) (by decide) rfl (Nat.le_of_ble_eq_true rfl) (fun hx hb hml hown hts hfr hlo hE hl hf => b_X10_isWithin hx hb hml hown hts hfr hlo hE x0 x1 x2 _ hl hf)
end
section
variable {p : Program} {l : Launch} {e : Env} {R : Room} {s : State} {m : MethodId} {args : Array Value} {below : List Frame} {meth : Method} {c : Code} {E : State → Prop}
variable {D : va_G} {cs : Nat → ClassId} {q : Nat → Nat}
variable {Q : Int32 → Prop}
def w_X10_isField (x0 : Int32) (Q : Int32 → Prop) : Prop := (x0 < 0 → (Q 0)) ∧ (¬ x0 < 0 → ((8 ≤ x0 → (Q 0)) ∧ (¬ 8 ≤ x0 → (Q 1))))
set_option maxHeartbeats 4000000 in
set_option maxRecDepth 100000 in
theorem b_X10_isField (hx : p.tables.exec = Jvm.exec) (hb : c.code = cX10_isField) (hml : c.maxLocals = 1) (hown : s.vm.findClass RX10 = some m.cls) (hts : ∀ w ∈ gw, w.before args s = true) (hfr : 0 ≤ R.frames) (hlo : 0 ≤ R.locals) (hE : RS p l e R s m args below meth c cX10_isField .boolean Q E) : ∀ (x0 : Int32) (ls : Array Slot), lv_has ls 1 [(0, .int x0)] → w_X10_isField x0 Q → W p l e R s m args below meth c s.heap [] 0 0 E (F0 m 0 ls []) := by
  intro x0 ls hl hf
  unfold w_X10_isField at hf
  refine lv_iload_n hx hb dX10_isField_0 rfl (lv_at hl 0 rfl) ?_
  refine lv_if_lt (tgt := 14) hx hb dX10_isField_1 (by decide) (fun c_1 => ?_) (fun c_1 => ?_)
  · have hf := hf.1 c_1
    refine lv_iconst (v := 0) hx hb dX10_isField_14 (by decide) ?_
    exact hE _ _ _ rfl hf dX10_isField_15
  · have hf := hf.2 c_1
    refine lv_iload_n hx hb dX10_isField_4 rfl (lv_at hl 0 rfl) ?_
    refine lv_bipush (v := 8) hx hb dX10_isField_5 (by decide) ?_
    refine lv_icmp_ge (tgt := 14) hx hb dX10_isField_7 (by decide) (fun c_2 => ?_) (fun c_2 => ?_)
    · have hf := hf.1 c_2
      refine lv_iconst (v := 0) hx hb dX10_isField_14 (by decide) ?_
      exact hE _ _ _ rfl hf dX10_isField_15
    · have hf := hf.2 c_2
      refine lv_iconst (v := 1) hx hb dX10_isField_10 (by decide) ?_
      refine lv_goto (tgt := 15) hx hb dX10_isField_11 (by decide) ?_
      exact hE _ _ _ rfl hf dX10_isField_15
theorem c_X10_isField (l : Launch) (x0 : Int32) : MetS l yX10_isField cX10_isField 1 .boolean 0 0 [.int x0] (w_X10_isField x0) := mk_S (own := RX10) (by decide) rfl (Nat.le_of_ble_eq_true rfl) (fun hx hb hml hown hts hfr hlo hE hl hf => b_X10_isField hx hb hml hown hts hfr hlo hE x0 _ hl hf)
end
section
variable {p : Program} {l : Launch} {e : Env} {R : Room} {s : State} {m : MethodId} {args : Array Value} {below : List Frame} {meth : Method} {c : Code} {E : State → Prop}
variable {D : va_G} {cs : Nat → ClassId} {q : Nat → Nat}
variable {Q : Int32 → Prop}
def w_X10_isDay (x0 : Int32) (Q : Int32 → Prop) : Prop := (x0 < 0 → (Q 0)) ∧ (¬ x0 < 0 → ((7 ≤ x0 → (Q 0)) ∧ (¬ 7 ≤ x0 → (Q 1))))
set_option maxHeartbeats 4000000 in
set_option maxRecDepth 100000 in
theorem b_X10_isDay (hx : p.tables.exec = Jvm.exec) (hb : c.code = cX10_isDay) (hml : c.maxLocals = 1) (hown : s.vm.findClass RX10 = some m.cls) (hts : ∀ w ∈ gw, w.before args s = true) (hfr : 0 ≤ R.frames) (hlo : 0 ≤ R.locals) (hE : RS p l e R s m args below meth c cX10_isDay .boolean Q E) : ∀ (x0 : Int32) (ls : Array Slot), lv_has ls 1 [(0, .int x0)] → w_X10_isDay x0 Q → W p l e R s m args below meth c s.heap [] 0 0 E (F0 m 0 ls []) := by
  intro x0 ls hl hf
  unfold w_X10_isDay at hf
  refine lv_iload_n hx hb dX10_isDay_0 rfl (lv_at hl 0 rfl) ?_
  refine lv_if_lt (tgt := 14) hx hb dX10_isDay_1 (by decide) (fun c_1 => ?_) (fun c_1 => ?_)
  · have hf := hf.1 c_1
    refine lv_iconst (v := 0) hx hb dX10_isDay_14 (by decide) ?_
    exact hE _ _ _ rfl hf dX10_isDay_15
  · have hf := hf.2 c_1
    refine lv_iload_n hx hb dX10_isDay_4 rfl (lv_at hl 0 rfl) ?_
    refine lv_bipush (v := 7) hx hb dX10_isDay_5 (by decide) ?_
    refine lv_icmp_ge (tgt := 14) hx hb dX10_isDay_7 (by decide) (fun c_2 => ?_) (fun c_2 => ?_)
    · have hf := hf.1 c_2
      refine lv_iconst (v := 0) hx hb dX10_isDay_14 (by decide) ?_
      exact hE _ _ _ rfl hf dX10_isDay_15
    · have hf := hf.2 c_2
      refine lv_iconst (v := 1) hx hb dX10_isDay_10 (by decide) ?_
      refine lv_goto (tgt := 15) hx hb dX10_isDay_11 (by decide) ?_
      exact hE _ _ _ rfl hf dX10_isDay_15
theorem c_X10_isDay (l : Launch) (x0 : Int32) : MetS l yX10_isDay cX10_isDay 1 .boolean 0 0 [.int x0] (w_X10_isDay x0) := mk_S (own := RX10) (by decide) rfl (Nat.le_of_ble_eq_true rfl) (fun hx hb hml hown hts hfr hlo hE hl hf => b_X10_isDay hx hb hml hown hts hfr hlo hE x0 _ hl hf)
end
section
variable {p : Program} {l : Launch} {e : Env} {R : Room} {s : State} {m : MethodId} {args : Array Value} {below : List Frame} {meth : Method} {c : Code} {E : State → Prop}
variable {D : va_G} {cs : Nat → ClassId} {q : Nat → Nat}
variable {Q : Int32 → Prop}
def w_X10_isMinute (x0 : Int32) (Q : Int32 → Prop) : Prop := (x0 < 0 → (Q 0)) ∧ (¬ x0 < 0 → ((10080 ≤ x0 → (Q 0)) ∧ (¬ 10080 ≤ x0 → (Q 1))))
set_option maxHeartbeats 4000000 in
set_option maxRecDepth 100000 in
theorem b_X10_isMinute (hx : p.tables.exec = Jvm.exec) (hb : c.code = cX10_isMinute) (hml : c.maxLocals = 1) (hown : s.vm.findClass RX10 = some m.cls) (hts : ∀ w ∈ gw, w.before args s = true) (hfr : 0 ≤ R.frames) (hlo : 0 ≤ R.locals) (hE : RS p l e R s m args below meth c cX10_isMinute .boolean Q E) : ∀ (x0 : Int32) (ls : Array Slot), lv_has ls 1 [(0, .int x0)] → w_X10_isMinute x0 Q → W p l e R s m args below meth c s.heap [] 0 0 E (F0 m 0 ls []) := by
  intro x0 ls hl hf
  unfold w_X10_isMinute at hf
  refine lv_iload_n hx hb dX10_isMinute_0 rfl (lv_at hl 0 rfl) ?_
  refine lv_if_lt (tgt := 15) hx hb dX10_isMinute_1 (by decide) (fun c_1 => ?_) (fun c_1 => ?_)
  · have hf := hf.1 c_1
    refine lv_iconst (v := 0) hx hb dX10_isMinute_15 (by decide) ?_
    exact hE _ _ _ rfl hf dX10_isMinute_16
  · have hf := hf.2 c_1
    refine lv_iload_n hx hb dX10_isMinute_4 rfl (lv_at hl 0 rfl) ?_
    refine lv_sipush (v := 10080) hx hb dX10_isMinute_5 (by decide) ?_
    refine lv_icmp_ge (tgt := 15) hx hb dX10_isMinute_8 (by decide) (fun c_2 => ?_) (fun c_2 => ?_)
    · have hf := hf.1 c_2
      refine lv_iconst (v := 0) hx hb dX10_isMinute_15 (by decide) ?_
      exact hE _ _ _ rfl hf dX10_isMinute_16
    · have hf := hf.2 c_2
      refine lv_iconst (v := 1) hx hb dX10_isMinute_11 (by decide) ?_
      refine lv_goto (tgt := 16) hx hb dX10_isMinute_12 (by decide) ?_
      exact hE _ _ _ rfl hf dX10_isMinute_16
theorem c_X10_isMinute (l : Launch) (x0 : Int32) : MetS l yX10_isMinute cX10_isMinute 1 .boolean 0 0 [.int x0] (w_X10_isMinute x0) := mk_S (own := RX10) (by decide) rfl (Nat.le_of_ble_eq_true rfl) (fun hx hb hml hown hts hfr hlo hE hl hf => b_X10_isMinute hx hb hml hown hts hfr hlo hE x0 _ hl hf)
end
section
variable {p : Program} {l : Launch} {e : Env} {R : Room} {s : State} {m : MethodId} {args : Array Value} {below : List Frame} {meth : Method} {c : Code} {E : State → Prop}
variable {D : va_G} {cs : Nat → ClassId} {q : Nat → Nat}
variable {Q : Int32 → St → Prop}
def w_X4_has (x1 : Int32) (σ : St) (Q : Int32 → St → Prop) : Prop := (x1 < 0 → (Q 0 σ)) ∧ (¬ x1 < 0 → (((σ.1 4 4) ≤ x1 → (Q 0 σ)) ∧ (¬ (σ.1 4 4) ≤ x1 → (Q 1 σ))))
set_option maxHeartbeats 4000000 in
set_option maxRecDepth 100000 in
theorem b_X4_has (C : CX p R s m args meth c cX4_has 2 RX4 0 0 D cs) (hE : RI p l e R s m args below meth c cX4_has D cs LC q .boolean Q E) : ∀ (x1 : Int32) (σ : St) (H : Heap) (locs : List Loc) (ls : Array Slot), OK D cs LC q s σ H locs → lv_has ls 2 [(0, .ref (q 4)), (1, .int x1)] → w_X4_has x1 σ Q → W p l e R s m args below meth c H locs 0 0 E (F0 m 0 ls []) := by
  have hx := C.1
  have hb := C.2.1
  intro x1 σ H locs ls O hl hf
  unfold w_X4_has at hf
  refine lv_iload_n hx hb dX4_has_0 rfl (lv_at hl 1 rfl) ?_
  refine lv_if_lt (tgt := 16) hx hb dX4_has_1 (by decide) (fun c_1 => ?_) (fun c_1 => ?_)
  · have hf := hf.1 c_1
    refine lv_iconst (v := 0) hx hb dX4_has_16 (by decide) ?_
    exact hE _ _ _ _ _ _ rfl O hf dX4_has_17
  · have hf := hf.2 c_1
    refine lv_iload_n hx hb dX4_has_4 rfl (lv_at hl 1 rfl) ?_
    refine lv_aload_n hx hb dX4_has_5 rfl (lv_at hl 0 rfl) ?_
    refine r_get C O (k := 4) (j := 4) (v := .int (σ.1 4 4)) fX4_24 rfl rfl rfl dX4_has_6 ?_
    refine lv_icmp_ge (tgt := 16) hx hb dX4_has_9 (by decide) (fun c_2 => ?_) (fun c_2 => ?_)
    · have hf := hf.1 c_2
      refine lv_iconst (v := 0) hx hb dX4_has_16 (by decide) ?_
      exact hE _ _ _ _ _ _ rfl O hf dX4_has_17
    · have hf := hf.2 c_2
      refine lv_iconst (v := 1) hx hb dX4_has_12 (by decide) ?_
      refine lv_goto (tgt := 17) hx hb dX4_has_13 (by decide) ?_
      exact hE _ _ _ _ _ _ rfl O hf dX4_has_17
theorem c_X4_has (l : Launch) (x1 : Int32) : MetI l yX4_has cX4_has 2 .boolean 0 0 LC 4 (fun q => [.int x1]) (w_X4_has x1) := mk_I (own := RX4) (by decide) rfl (fun q => Nat.le_of_ble_eq_true rfl) (fun C hE O hl hf => b_X4_has C hE x1 _ _ _ _ O hl hf)
end
section
variable {p : Program} {l : Launch} {e : Env} {R : Room} {s : State} {m : MethodId} {args : Array Value} {below : List Frame} {meth : Method} {c : Code} {E : State → Prop}
variable {D : va_G} {cs : Nat → ClassId} {q : Nat → Nat}
variable {Q : Int32 → St → Prop}
def w_X4_seatsOf (x1 : Int32) (σ : St) (Q : Int32 → St → Prop) : Prop := w_X4_has x1 σ (fun r_2 σ_1 => (r_2 = 0 → (Q ((-1)) σ_1)) ∧ (¬ r_2 = 0 → (vp_in x1 4 ∧ (Q (σ_1.1 18 x1.toNatClampNeg) σ_1))))
set_option maxHeartbeats 4000000 in
set_option maxRecDepth 100000 in
theorem b_X4_seatsOf (C : CX p R s m args meth c cX4_seatsOf 2 RX4 1 21 D cs) (hE : RI p l e R s m args below meth c cX4_seatsOf D cs LC q .int Q E) : ∀ (x1 : Int32) (σ : St) (H : Heap) (locs : List Loc) (ls : Array Slot), OK D cs LC q s σ H locs → lv_has ls 2 [(0, .ref (q 4)), (1, .int x1)] → w_X4_seatsOf x1 σ Q → W p l e R s m args below meth c H locs 0 0 E (F0 m 0 ls []) := by
  have hx := C.1
  have hb := C.2.1
  intro x1 σ H locs ls O hl hf
  unfold w_X4_seatsOf at hf
  refine lv_aload_n hx hb dX4_seatsOf_0 rfl (lv_at hl 0 rfl) ?_
  refine lv_iload_n hx hb dX4_seatsOf_1 rfl (lv_at hl 1 rfl) ?_
  refine r_callI C O hl (c_X4_has l x1) mX4_28 (by decide) rfl rfl rfl rfl (Nat.le_of_ble_eq_true rfl) hf dX4_seatsOf_2 (fun r_2 σ_1 H locs O hf => ?_)
  refine lv_if_eq (tgt := 17) hx hb dX4_seatsOf_5 (by decide) (fun c_3 => ?_) (fun c_3 => ?_)
  · have hf := hf.1 c_3
    refine lv_iconst (v := (-1)) hx hb dX4_seatsOf_17 (by decide) ?_
    exact hE _ _ _ _ _ _ (vp_nar_int _) O hf dX4_seatsOf_18
  · have hf := hf.2 c_3
    refine lv_aload_n hx hb dX4_seatsOf_8 rfl (lv_at hl 0 rfl) ?_
    refine r_get C O (k := 4) (j := 1) (v := .ref (q 18)) fX4_15 rfl rfl rfl dX4_seatsOf_9 ?_
    refine lv_iload_n hx hb dX4_seatsOf_12 rfl (lv_at hl 1 rfl) ?_
    refine r_iald C O (k := 18) rfl hf.1 dX4_seatsOf_13 ?_
    have hf := hf.2
    refine lv_goto (tgt := 18) hx hb dX4_seatsOf_14 (by decide) ?_
    exact hE _ _ _ _ _ _ (vp_nar_int _) O hf dX4_seatsOf_18
theorem c_X4_seatsOf (l : Launch) (x1 : Int32) : MetI l yX4_seatsOf cX4_seatsOf 2 .int 1 21 LC 4 (fun q => [.int x1]) (w_X4_seatsOf x1) := mk_I (own := RX4) (by decide) rfl (fun q => Nat.le_of_ble_eq_true rfl) (fun C hE O hl hf => b_X4_seatsOf C hE x1 _ _ _ _ O hl hf)
end
section
variable {p : Program} {l : Launch} {e : Env} {R : Room} {s : State} {m : MethodId} {args : Array Value} {below : List Frame} {meth : Method} {c : Code} {E : State → Prop}
variable {D : va_G} {cs : Nat → ClassId} {q : Nat → Nat}
variable {Q : Int32 → St → Prop}
def w_X4_turnOf (x1 : Int32) (σ : St) (Q : Int32 → St → Prop) : Prop := w_X4_has x1 σ (fun r_2 σ_1 => (r_2 = 0 → (Q ((-1)) σ_1)) ∧ (¬ r_2 = 0 → (vp_in x1 4 ∧ (Q (σ_1.1 19 x1.toNatClampNeg) σ_1))))
set_option maxHeartbeats 4000000 in
set_option maxRecDepth 100000 in
theorem b_X4_turnOf (C : CX p R s m args meth c cX4_turnOf 2 RX4 1 21 D cs) (hE : RI p l e R s m args below meth c cX4_turnOf D cs LC q .int Q E) : ∀ (x1 : Int32) (σ : St) (H : Heap) (locs : List Loc) (ls : Array Slot), OK D cs LC q s σ H locs → lv_has ls 2 [(0, .ref (q 4)), (1, .int x1)] → w_X4_turnOf x1 σ Q → W p l e R s m args below meth c H locs 0 0 E (F0 m 0 ls []) := by
  have hx := C.1
  have hb := C.2.1
  intro x1 σ H locs ls O hl hf
  unfold w_X4_turnOf at hf
  refine lv_aload_n hx hb dX4_turnOf_0 rfl (lv_at hl 0 rfl) ?_
  refine lv_iload_n hx hb dX4_turnOf_1 rfl (lv_at hl 1 rfl) ?_
  refine r_callI C O hl (c_X4_has l x1) mX4_28 (by decide) rfl rfl rfl rfl (Nat.le_of_ble_eq_true rfl) hf dX4_turnOf_2 (fun r_2 σ_1 H locs O hf => ?_)
  refine lv_if_eq (tgt := 17) hx hb dX4_turnOf_5 (by decide) (fun c_3 => ?_) (fun c_3 => ?_)
  · have hf := hf.1 c_3
    refine lv_iconst (v := (-1)) hx hb dX4_turnOf_17 (by decide) ?_
    exact hE _ _ _ _ _ _ (vp_nar_int _) O hf dX4_turnOf_18
  · have hf := hf.2 c_3
    refine lv_aload_n hx hb dX4_turnOf_8 rfl (lv_at hl 0 rfl) ?_
    refine r_get C O (k := 4) (j := 2) (v := .ref (q 19)) fX4_18 rfl rfl rfl dX4_turnOf_9 ?_
    refine lv_iload_n hx hb dX4_turnOf_12 rfl (lv_at hl 1 rfl) ?_
    refine r_iald C O (k := 19) rfl hf.1 dX4_turnOf_13 ?_
    have hf := hf.2
    refine lv_goto (tgt := 18) hx hb dX4_turnOf_14 (by decide) ?_
    exact hE _ _ _ _ _ _ (vp_nar_int _) O hf dX4_turnOf_18
theorem c_X4_turnOf (l : Launch) (x1 : Int32) : MetI l yX4_turnOf cX4_turnOf 2 .int 1 21 LC 4 (fun q => [.int x1]) (w_X4_turnOf x1) := mk_I (own := RX4) (by decide) rfl (fun q => Nat.le_of_ble_eq_true rfl) (fun C hE O hl hf => b_X4_turnOf C hE x1 _ _ _ _ O hl hf)
end
section
variable {p : Program} {l : Launch} {e : Env} {R : Room} {s : State} {m : MethodId} {args : Array Value} {below : List Frame} {meth : Method} {c : Code} {E : State → Prop}
variable {D : va_G} {cs : Nat → ClassId} {q : Nat → Nat}
variable {Q : Int32 → St → Prop}
def w_X4_homeOf (x1 : Int32) (σ : St) (Q : Int32 → St → Prop) : Prop := w_X4_has x1 σ (fun r_2 σ_1 => (r_2 = 0 → (Q ((-1)) σ_1)) ∧ (¬ r_2 = 0 → (vp_in x1 4 ∧ (Q (σ_1.1 17 x1.toNatClampNeg) σ_1))))
set_option maxHeartbeats 4000000 in
set_option maxRecDepth 100000 in
theorem b_X4_homeOf (C : CX p R s m args meth c cX4_homeOf 2 RX4 1 21 D cs) (hE : RI p l e R s m args below meth c cX4_homeOf D cs LC q .int Q E) : ∀ (x1 : Int32) (σ : St) (H : Heap) (locs : List Loc) (ls : Array Slot), OK D cs LC q s σ H locs → lv_has ls 2 [(0, .ref (q 4)), (1, .int x1)] → w_X4_homeOf x1 σ Q → W p l e R s m args below meth c H locs 0 0 E (F0 m 0 ls []) := by
  have hx := C.1
  have hb := C.2.1
  intro x1 σ H locs ls O hl hf
  unfold w_X4_homeOf at hf
  refine lv_aload_n hx hb dX4_homeOf_0 rfl (lv_at hl 0 rfl) ?_
  refine lv_iload_n hx hb dX4_homeOf_1 rfl (lv_at hl 1 rfl) ?_
  refine r_callI C O hl (c_X4_has l x1) mX4_28 (by decide) rfl rfl rfl rfl (Nat.le_of_ble_eq_true rfl) hf dX4_homeOf_2 (fun r_2 σ_1 H locs O hf => ?_)
  refine lv_if_eq (tgt := 17) hx hb dX4_homeOf_5 (by decide) (fun c_3 => ?_) (fun c_3 => ?_)
  · have hf := hf.1 c_3
    refine lv_iconst (v := (-1)) hx hb dX4_homeOf_17 (by decide) ?_
    exact hE _ _ _ _ _ _ (vp_nar_int _) O hf dX4_homeOf_18
  · have hf := hf.2 c_3
    refine lv_aload_n hx hb dX4_homeOf_8 rfl (lv_at hl 0 rfl) ?_
    refine r_get C O (k := 4) (j := 0) (v := .ref (q 17)) fX4_11 rfl rfl rfl dX4_homeOf_9 ?_
    refine lv_iload_n hx hb dX4_homeOf_12 rfl (lv_at hl 1 rfl) ?_
    refine r_iald C O (k := 17) rfl hf.1 dX4_homeOf_13 ?_
    have hf := hf.2
    refine lv_goto (tgt := 18) hx hb dX4_homeOf_14 (by decide) ?_
    exact hE _ _ _ _ _ _ (vp_nar_int _) O hf dX4_homeOf_18
theorem c_X4_homeOf (l : Launch) (x1 : Int32) : MetI l yX4_homeOf cX4_homeOf 2 .int 1 21 LC 4 (fun q => [.int x1]) (w_X4_homeOf x1) := mk_I (own := RX4) (by decide) rfl (fun q => Nat.le_of_ble_eq_true rfl) (fun C hE O hl hf => b_X4_homeOf C hE x1 _ _ _ _ O hl hf)
end
section
variable {p : Program} {l : Launch} {e : Env} {R : Room} {s : State} {m : MethodId} {args : Array Value} {below : List Frame} {meth : Method} {c : Code} {E : State → Prop}
variable {D : va_G} {cs : Nat → ClassId} {q : Nat → Nat}
variable {Q : Int32 → St → Prop}
def w_X1_has (x1 : Int32) (σ : St) (Q : Int32 → St → Prop) : Prop := (x1 < 0 → (Q 0 σ)) ∧ (¬ x1 < 0 → (((σ.1 5 6) ≤ x1 → (Q 0 σ)) ∧ (¬ (σ.1 5 6) ≤ x1 → (Q 1 σ))))
set_option maxHeartbeats 4000000 in
set_option maxRecDepth 100000 in
theorem b_X1_has (C : CX p R s m args meth c cX1_has 2 RX1 0 0 D cs) (hE : RI p l e R s m args below meth c cX1_has D cs LC q .boolean Q E) : ∀ (x1 : Int32) (σ : St) (H : Heap) (locs : List Loc) (ls : Array Slot), OK D cs LC q s σ H locs → lv_has ls 2 [(0, .ref (q 5)), (1, .int x1)] → w_X1_has x1 σ Q → W p l e R s m args below meth c H locs 0 0 E (F0 m 0 ls []) := by
  have hx := C.1
  have hb := C.2.1
  intro x1 σ H locs ls O hl hf
  unfold w_X1_has at hf
  refine lv_iload_n hx hb dX1_has_0 rfl (lv_at hl 1 rfl) ?_
  refine lv_if_lt (tgt := 16) hx hb dX1_has_1 (by decide) (fun c_1 => ?_) (fun c_1 => ?_)
  · have hf := hf.1 c_1
    refine lv_iconst (v := 0) hx hb dX1_has_16 (by decide) ?_
    exact hE _ _ _ _ _ _ rfl O hf dX1_has_17
  · have hf := hf.2 c_1
    refine lv_iload_n hx hb dX1_has_4 rfl (lv_at hl 1 rfl) ?_
    refine lv_aload_n hx hb dX1_has_5 rfl (lv_at hl 0 rfl) ?_
    refine r_get C O (k := 5) (j := 6) (v := .int (σ.1 5 6)) fX1_31 rfl rfl rfl dX1_has_6 ?_
    refine lv_icmp_ge (tgt := 16) hx hb dX1_has_9 (by decide) (fun c_2 => ?_) (fun c_2 => ?_)
    · have hf := hf.1 c_2
      refine lv_iconst (v := 0) hx hb dX1_has_16 (by decide) ?_
      exact hE _ _ _ _ _ _ rfl O hf dX1_has_17
    · have hf := hf.2 c_2
      refine lv_iconst (v := 1) hx hb dX1_has_12 (by decide) ?_
      refine lv_goto (tgt := 17) hx hb dX1_has_13 (by decide) ?_
      exact hE _ _ _ _ _ _ rfl O hf dX1_has_17
theorem c_X1_has (l : Launch) (x1 : Int32) : MetI l yX1_has cX1_has 2 .boolean 0 0 LC 5 (fun q => [.int x1]) (w_X1_has x1) := mk_I (own := RX1) (by decide) rfl (fun q => Nat.le_of_ble_eq_true rfl) (fun C hE O hl hf => b_X1_has C hE x1 _ _ _ _ O hl hf)
end
section
variable {p : Program} {l : Launch} {e : Env} {R : Room} {s : State} {m : MethodId} {args : Array Value} {below : List Frame} {meth : Method} {c : Code} {E : State → Prop}
variable {D : va_G} {cs : Nat → ClassId} {q : Nat → Nat}
variable {Q : Int32 → St → Prop}
def w_X1_seatsOf (x1 : Int32) (σ : St) (Q : Int32 → St → Prop) : Prop := w_X1_has x1 σ (fun r_2 σ_1 => (r_2 = 0 → (Q ((-1)) σ_1)) ∧ (¬ r_2 = 0 → (vp_in x1 20 ∧ (Q (σ_1.1 24 x1.toNatClampNeg) σ_1))))
set_option maxHeartbeats 4000000 in
set_option maxRecDepth 100000 in
theorem b_X1_seatsOf (C : CX p R s m args meth c cX1_seatsOf 2 RX1 1 21 D cs) (hE : RI p l e R s m args below meth c cX1_seatsOf D cs LC q .int Q E) : ∀ (x1 : Int32) (σ : St) (H : Heap) (locs : List Loc) (ls : Array Slot), OK D cs LC q s σ H locs → lv_has ls 2 [(0, .ref (q 5)), (1, .int x1)] → w_X1_seatsOf x1 σ Q → W p l e R s m args below meth c H locs 0 0 E (F0 m 0 ls []) := by
  have hx := C.1
  have hb := C.2.1
  intro x1 σ H locs ls O hl hf
  unfold w_X1_seatsOf at hf
  refine lv_aload_n hx hb dX1_seatsOf_0 rfl (lv_at hl 0 rfl) ?_
  refine lv_iload_n hx hb dX1_seatsOf_1 rfl (lv_at hl 1 rfl) ?_
  refine r_callI C O hl (c_X1_has l x1) mX1_50 (by decide) rfl rfl rfl rfl (Nat.le_of_ble_eq_true rfl) hf dX1_seatsOf_2 (fun r_2 σ_1 H locs O hf => ?_)
  refine lv_if_eq (tgt := 17) hx hb dX1_seatsOf_5 (by decide) (fun c_3 => ?_) (fun c_3 => ?_)
  · have hf := hf.1 c_3
    refine lv_iconst (v := (-1)) hx hb dX1_seatsOf_17 (by decide) ?_
    exact hE _ _ _ _ _ _ (vp_nar_int _) O hf dX1_seatsOf_18
  · have hf := hf.2 c_3
    refine lv_aload_n hx hb dX1_seatsOf_8 rfl (lv_at hl 0 rfl) ?_
    refine r_get C O (k := 5) (j := 3) (v := .ref (q 24)) fX1_21 rfl rfl rfl dX1_seatsOf_9 ?_
    refine lv_iload_n hx hb dX1_seatsOf_12 rfl (lv_at hl 1 rfl) ?_
    refine r_iald C O (k := 24) rfl hf.1 dX1_seatsOf_13 ?_
    have hf := hf.2
    refine lv_goto (tgt := 18) hx hb dX1_seatsOf_14 (by decide) ?_
    exact hE _ _ _ _ _ _ (vp_nar_int _) O hf dX1_seatsOf_18
theorem c_X1_seatsOf (l : Launch) (x1 : Int32) : MetI l yX1_seatsOf cX1_seatsOf 2 .int 1 21 LC 5 (fun q => [.int x1]) (w_X1_seatsOf x1) := mk_I (own := RX1) (by decide) rfl (fun q => Nat.le_of_ble_eq_true rfl) (fun C hE O hl hf => b_X1_seatsOf C hE x1 _ _ _ _ O hl hf)
end
section
variable {p : Program} {l : Launch} {e : Env} {R : Room} {s : State} {m : MethodId} {args : Array Value} {below : List Frame} {meth : Method} {c : Code} {E : State → Prop}
variable {D : va_G} {cs : Nat → ClassId} {q : Nat → Nat}
variable {Q : Int32 → St → Prop}
def w_X1_fromOf (x1 : Int32) (σ : St) (Q : Int32 → St → Prop) : Prop := w_X1_has x1 σ (fun r_2 σ_1 => (r_2 = 0 → (Q ((-1)) σ_1)) ∧ (¬ r_2 = 0 → (vp_in x1 20 ∧ (Q (σ_1.1 21 x1.toNatClampNeg) σ_1))))
set_option maxHeartbeats 4000000 in
set_option maxRecDepth 100000 in
theorem b_X1_fromOf (C : CX p R s m args meth c cX1_fromOf 2 RX1 1 21 D cs) (hE : RI p l e R s m args below meth c cX1_fromOf D cs LC q .int Q E) : ∀ (x1 : Int32) (σ : St) (H : Heap) (locs : List Loc) (ls : Array Slot), OK D cs LC q s σ H locs → lv_has ls 2 [(0, .ref (q 5)), (1, .int x1)] → w_X1_fromOf x1 σ Q → W p l e R s m args below meth c H locs 0 0 E (F0 m 0 ls []) := by
  have hx := C.1
  have hb := C.2.1
  intro x1 σ H locs ls O hl hf
  unfold w_X1_fromOf at hf
  refine lv_aload_n hx hb dX1_fromOf_0 rfl (lv_at hl 0 rfl) ?_
  refine lv_iload_n hx hb dX1_fromOf_1 rfl (lv_at hl 1 rfl) ?_
  refine r_callI C O hl (c_X1_has l x1) mX1_50 (by decide) rfl rfl rfl rfl (Nat.le_of_ble_eq_true rfl) hf dX1_fromOf_2 (fun r_2 σ_1 H locs O hf => ?_)
  refine lv_if_eq (tgt := 17) hx hb dX1_fromOf_5 (by decide) (fun c_3 => ?_) (fun c_3 => ?_)
  · have hf := hf.1 c_3
    refine lv_iconst (v := (-1)) hx hb dX1_fromOf_17 (by decide) ?_
    exact hE _ _ _ _ _ _ (vp_nar_int _) O hf dX1_fromOf_18
  · have hf := hf.2 c_3
    refine lv_aload_n hx hb dX1_fromOf_8 rfl (lv_at hl 0 rfl) ?_
    refine r_get C O (k := 5) (j := 0) (v := .ref (q 21)) fX1_11 rfl rfl rfl dX1_fromOf_9 ?_
    refine lv_iload_n hx hb dX1_fromOf_12 rfl (lv_at hl 1 rfl) ?_
    refine r_iald C O (k := 21) rfl hf.1 dX1_fromOf_13 ?_
    have hf := hf.2
    refine lv_goto (tgt := 18) hx hb dX1_fromOf_14 (by decide) ?_
    exact hE _ _ _ _ _ _ (vp_nar_int _) O hf dX1_fromOf_18
theorem c_X1_fromOf (l : Launch) (x1 : Int32) : MetI l yX1_fromOf cX1_fromOf 2 .int 1 21 LC 5 (fun q => [.int x1]) (w_X1_fromOf x1) := mk_I (own := RX1) (by decide) rfl (fun q => Nat.le_of_ble_eq_true rfl) (fun C hE O hl hf => b_X1_fromOf C hE x1 _ _ _ _ O hl hf)
end
section
variable {p : Program} {l : Launch} {e : Env} {R : Room} {s : State} {m : MethodId} {args : Array Value} {below : List Frame} {meth : Method} {c : Code} {E : State → Prop}
variable {D : va_G} {cs : Nat → ClassId} {q : Nat → Nat}
variable {Q : Int32 → St → Prop}
def w_X1_startOf (x1 : Int32) (σ : St) (Q : Int32 → St → Prop) : Prop := w_X1_has x1 σ (fun r_2 σ_1 => (r_2 = 0 → (Q ((-1)) σ_1)) ∧ (¬ r_2 = 0 → (vp_in x1 20 ∧ (Q (σ_1.1 23 x1.toNatClampNeg) σ_1))))
set_option maxHeartbeats 4000000 in
set_option maxRecDepth 100000 in
theorem b_X1_startOf (C : CX p R s m args meth c cX1_startOf 2 RX1 1 21 D cs) (hE : RI p l e R s m args below meth c cX1_startOf D cs LC q .int Q E) : ∀ (x1 : Int32) (σ : St) (H : Heap) (locs : List Loc) (ls : Array Slot), OK D cs LC q s σ H locs → lv_has ls 2 [(0, .ref (q 5)), (1, .int x1)] → w_X1_startOf x1 σ Q → W p l e R s m args below meth c H locs 0 0 E (F0 m 0 ls []) := by
  have hx := C.1
  have hb := C.2.1
  intro x1 σ H locs ls O hl hf
  unfold w_X1_startOf at hf
  refine lv_aload_n hx hb dX1_startOf_0 rfl (lv_at hl 0 rfl) ?_
  refine lv_iload_n hx hb dX1_startOf_1 rfl (lv_at hl 1 rfl) ?_
  refine r_callI C O hl (c_X1_has l x1) mX1_50 (by decide) rfl rfl rfl rfl (Nat.le_of_ble_eq_true rfl) hf dX1_startOf_2 (fun r_2 σ_1 H locs O hf => ?_)
  refine lv_if_eq (tgt := 17) hx hb dX1_startOf_5 (by decide) (fun c_3 => ?_) (fun c_3 => ?_)
  · have hf := hf.1 c_3
    refine lv_iconst (v := (-1)) hx hb dX1_startOf_17 (by decide) ?_
    exact hE _ _ _ _ _ _ (vp_nar_int _) O hf dX1_startOf_18
  · have hf := hf.2 c_3
    refine lv_aload_n hx hb dX1_startOf_8 rfl (lv_at hl 0 rfl) ?_
    refine r_get C O (k := 5) (j := 2) (v := .ref (q 23)) fX1_18 rfl rfl rfl dX1_startOf_9 ?_
    refine lv_iload_n hx hb dX1_startOf_12 rfl (lv_at hl 1 rfl) ?_
    refine r_iald C O (k := 23) rfl hf.1 dX1_startOf_13 ?_
    have hf := hf.2
    refine lv_goto (tgt := 18) hx hb dX1_startOf_14 (by decide) ?_
    exact hE _ _ _ _ _ _ (vp_nar_int _) O hf dX1_startOf_18
theorem c_X1_startOf (l : Launch) (x1 : Int32) : MetI l yX1_startOf cX1_startOf 2 .int 1 21 LC 5 (fun q => [.int x1]) (w_X1_startOf x1) := mk_I (own := RX1) (by decide) rfl (fun q => Nat.le_of_ble_eq_true rfl) (fun C hE O hl hf => b_X1_startOf C hE x1 _ _ _ _ O hl hf)
end
section
variable {p : Program} {l : Launch} {e : Env} {R : Room} {s : State} {m : MethodId} {args : Array Value} {below : List Frame} {meth : Method} {c : Code} {E : State → Prop}
variable {D : va_G} {cs : Nat → ClassId} {q : Nat → Nat}
variable {Q : Int32 → St → Prop}
def w_X9_minutes (x1 : Int32) (x2 : Int32) (σ : St) (Q : Int32 → St → Prop) : Prop := w_X10_isField x1 (fun r_1 => (r_1 = 0 → (Q 0 σ)) ∧ (¬ r_1 = 0 → (w_X10_isField x2 (fun r_3 => (r_3 = 0 → (Q 0 σ)) ∧ (¬ r_3 = 0 → (vp_in ((x1 * 8) + x2) 64 ∧ (Q (σ.1 16 ((x1 * 8) + x2).toNatClampNeg) σ)))))))
set_option maxHeartbeats 4000000 in
set_option maxRecDepth 100000 in
theorem b_X9_minutes (C : CX p R s m args meth c cX9_minutes 3 RX9 1 20 D cs) (hE : RI p l e R s m args below meth c cX9_minutes D cs LC q .int Q E) : ∀ (x1 : Int32) (x2 : Int32) (σ : St) (H : Heap) (locs : List Loc) (ls : Array Slot), OK D cs LC q s σ H locs → lv_has ls 3 [(0, .ref (q 3)), (1, .int x1), (2, .int x2)] → w_X9_minutes x1 x2 σ Q → W p l e R s m args below meth c H locs 0 0 E (F0 m 0 ls []) := by
  have hx := C.1
  have hb := C.2.1
  intro x1 x2 σ H locs ls O hl hf
  unfold w_X9_minutes at hf
  refine lv_iload_n hx hb dX9_minutes_0 rfl (lv_at hl 1 rfl) ?_
  refine r_callN C hl (c_X10_isField l x1) mX9_15 (by decide) rfl rfl (Nat.le_of_ble_eq_true rfl) hf dX9_minutes_1 (fun r_1 hf => ?_)
  refine lv_if_eq (tgt := 28) hx hb dX9_minutes_4 (by decide) (fun c_2 => ?_) (fun c_2 => ?_)
  · have hf := hf.1 c_2
    refine lv_iconst (v := 0) hx hb dX9_minutes_28 (by decide) ?_
    exact hE _ _ _ _ _ _ (vp_nar_int _) O hf dX9_minutes_29
  · have hf := hf.2 c_2
    refine lv_iload_n hx hb dX9_minutes_7 rfl (lv_at hl 2 rfl) ?_
    refine r_callN C hl (c_X10_isField l x2) mX9_15 (by decide) rfl rfl (Nat.le_of_ble_eq_true rfl) hf dX9_minutes_8 (fun r_3 hf => ?_)
    refine lv_if_eq (tgt := 28) hx hb dX9_minutes_11 (by decide) (fun c_4 => ?_) (fun c_4 => ?_)
    · have hf := hf.1 c_4
      refine lv_iconst (v := 0) hx hb dX9_minutes_28 (by decide) ?_
      exact hE _ _ _ _ _ _ (vp_nar_int _) O hf dX9_minutes_29
    · have hf := hf.2 c_4
      refine lv_aload_n hx hb dX9_minutes_14 rfl (lv_at hl 0 rfl) ?_
      refine r_get C O (k := 3) (j := 0) (v := .ref (q 16)) fX9_9 rfl rfl rfl dX9_minutes_15 ?_
      refine lv_iload_n hx hb dX9_minutes_18 rfl (lv_at hl 1 rfl) ?_
      refine lv_bipush (v := 8) hx hb dX9_minutes_19 (by decide) ?_
      refine lv_imul hx hb dX9_minutes_21 ?_
      refine lv_iload_n hx hb dX9_minutes_22 rfl (lv_at hl 2 rfl) ?_
      refine lv_iadd hx hb dX9_minutes_23 ?_
      refine r_iald C O (k := 16) rfl hf.1 dX9_minutes_24 ?_
      have hf := hf.2
      refine lv_goto (tgt := 29) hx hb dX9_minutes_25 (by decide) ?_
      exact hE _ _ _ _ _ _ (vp_nar_int _) O hf dX9_minutes_29
theorem c_X9_minutes (l : Launch) (x1 : Int32) (x2 : Int32) : MetI l yX9_minutes cX9_minutes 3 .int 1 20 LC 3 (fun q => [.int x1, .int x2]) (w_X9_minutes x1 x2) := mk_I (own := RX9) (by decide) rfl (fun q => Nat.le_of_ble_eq_true rfl) (fun C hE O hl hf => b_X9_minutes C hE x1 x2 _ _ _ _ O hl hf)
end
section
variable {p : Program} {l : Launch} {e : Env} {R : Room} {s : State} {m : MethodId} {args : Array Value} {below : List Frame} {meth : Method} {c : Code} {E : State → Prop}
variable {D : va_G} {cs : Nat → ClassId} {q : Nat → Nat}
variable {Q : Int32 → St → Prop}
def w_X7_shuts_2 (Q : Int32 → St → Prop) : Nat → Int32 → Int32 → Int32 → St → Prop
  | 0, _, _, _, _ => False
  | n + 1, x1, x2, x3, σ => ((σ.1 6 3) ≤ x3 → (Q 0 σ)) ∧ (¬ (σ.1 6 3) ≤ x3 → (vp_in x3 20 ∧ ((¬ (σ.1 27 x3.toNatClampNeg) = x1 → (w_X7_shuts_2 Q n x1 x2 (x3 + 1) σ)) ∧ ((σ.1 27 x3.toNatClampNeg) = x1 → (vp_in x3 20 ∧ ((x2 < (σ.1 28 x3.toNatClampNeg) → (w_X7_shuts_2 Q n x1 x2 (x3 + 1) σ)) ∧ (¬ x2 < (σ.1 28 x3.toNatClampNeg) → (vp_in x3 20 ∧ (((σ.1 29 x3.toNatClampNeg) ≤ x2 → (w_X7_shuts_2 Q n x1 x2 (x3 + 1) σ)) ∧ (¬ (σ.1 29 x3.toNatClampNeg) ≤ x2 → (Q 1 σ)))))))))))
set_option maxHeartbeats 4000000 in
set_option maxRecDepth 100000 in
theorem b_X7_shuts_2 (C : CX p R s m args meth c cX7_shuts 4 RX7 0 0 D cs) (hE : RI p l e R s m args below meth c cX7_shuts D cs LC q .boolean Q E) : ∀ n : Nat, ∀ (x1 : Int32) (x2 : Int32) (x3 : Int32) (σ : St) (H : Heap) (locs : List Loc) (ls : Array Slot), OK D cs LC q s σ H locs → lv_has ls 4 [(0, .ref (q 6)), (1, .int x1), (2, .int x2), (3, .int x3)] → w_X7_shuts_2 Q n x1 x2 x3 σ → W p l e R s m args below meth c H locs 0 0 E (F0 m 2 ls []) := by
  have hx := C.1
  have hb := C.2.1
  intro n
  induction n with
  | zero => intro x1 x2 x3 σ H locs ls O hl hf; exact hf.elim
  | succ n ih =>
    intro x1 x2 x3 σ H locs ls O hl hf
    unfold w_X7_shuts_2 at hf
    refine lv_iload_n hx hb dX7_shuts_2 rfl (lv_at hl 3 rfl) ?_
    refine lv_aload_n hx hb dX7_shuts_3 rfl (lv_at hl 0 rfl) ?_
    refine r_get C O (k := 6) (j := 3) (v := .int (σ.1 6 3)) fX7_21 rfl rfl rfl dX7_shuts_4 ?_
    refine lv_icmp_ge (tgt := 48) hx hb dX7_shuts_7 (by decide) (fun c_1 => ?_) (fun c_1 => ?_)
    · have hf := hf.1 c_1
      refine lv_iconst (v := 0) hx hb dX7_shuts_48 (by decide) ?_
      exact hE _ _ _ _ _ _ rfl O hf dX7_shuts_49
    · have hf := hf.2 c_1
      refine lv_aload_n hx hb dX7_shuts_10 rfl (lv_at hl 0 rfl) ?_
      refine r_get C O (k := 6) (j := 0) (v := .ref (q 27)) fX7_11 rfl rfl rfl dX7_shuts_11 ?_
      refine lv_iload_n hx hb dX7_shuts_14 rfl (lv_at hl 3 rfl) ?_
      refine r_iald C O (k := 27) rfl hf.1 dX7_shuts_15 ?_
      have hf := hf.2
      refine lv_iload_n hx hb dX7_shuts_16 rfl (lv_at hl 1 rfl) ?_
      refine lv_icmp_ne (tgt := 42) hx hb dX7_shuts_17 (by decide) (fun c_2 => ?_) (fun c_2 => ?_)
      · have hf := hf.1 c_2
        refine lv_iinc (v := x3 + 1) (lv' := [(3, .int (x3 + 1)), (0, .ref (q 6)), (1, .int x1), (2, .int x2)]) hx hb dX7_shuts_42 hl (k := 3) rfl rfl (by decide) rfl (fun ls hl => ?_)
        refine lv_goto (tgt := 2) hx hb dX7_shuts_45 (by decide) ?_
        exact ih x1 x2 (x3 + 1) σ _ _ ls O (lv_sub hl [1, 2, 3, 0] rfl) hf
      · have hf := hf.2 c_2
        refine lv_iload_n hx hb dX7_shuts_20 rfl (lv_at hl 2 rfl) ?_
        refine lv_aload_n hx hb dX7_shuts_21 rfl (lv_at hl 0 rfl) ?_
        refine r_get C O (k := 6) (j := 1) (v := .ref (q 28)) fX7_15 rfl rfl rfl dX7_shuts_22 ?_
        refine lv_iload_n hx hb dX7_shuts_25 rfl (lv_at hl 3 rfl) ?_
        refine r_iald C O (k := 28) rfl hf.1 dX7_shuts_26 ?_
        have hf := hf.2
        refine lv_icmp_lt (tgt := 42) hx hb dX7_shuts_27 (by decide) (fun c_3 => ?_) (fun c_3 => ?_)
        · have hf := hf.1 c_3
          refine lv_iinc (v := x3 + 1) (lv' := [(3, .int (x3 + 1)), (0, .ref (q 6)), (1, .int x1), (2, .int x2)]) hx hb dX7_shuts_42 hl (k := 3) rfl rfl (by decide) rfl (fun ls hl => ?_)
          refine lv_goto (tgt := 2) hx hb dX7_shuts_45 (by decide) ?_
          exact ih x1 x2 (x3 + 1) σ _ _ ls O (lv_sub hl [1, 2, 3, 0] rfl) hf
        · have hf := hf.2 c_3
          refine lv_iload_n hx hb dX7_shuts_30 rfl (lv_at hl 2 rfl) ?_
          refine lv_aload_n hx hb dX7_shuts_31 rfl (lv_at hl 0 rfl) ?_
          refine r_get C O (k := 6) (j := 2) (v := .ref (q 29)) fX7_18 rfl rfl rfl dX7_shuts_32 ?_
          refine lv_iload_n hx hb dX7_shuts_35 rfl (lv_at hl 3 rfl) ?_
          refine r_iald C O (k := 29) rfl hf.1 dX7_shuts_36 ?_
          have hf := hf.2
          refine lv_icmp_ge (tgt := 42) hx hb dX7_shuts_37 (by decide) (fun c_4 => ?_) (fun c_4 => ?_)
          · have hf := hf.1 c_4
            refine lv_iinc (v := x3 + 1) (lv' := [(3, .int (x3 + 1)), (0, .ref (q 6)), (1, .int x1), (2, .int x2)]) hx hb dX7_shuts_42 hl (k := 3) rfl rfl (by decide) rfl (fun ls hl => ?_)
            refine lv_goto (tgt := 2) hx hb dX7_shuts_45 (by decide) ?_
            exact ih x1 x2 (x3 + 1) σ _ _ ls O (lv_sub hl [1, 2, 3, 0] rfl) hf
          · have hf := hf.2 c_4
            refine lv_iconst (v := 1) hx hb dX7_shuts_40 (by decide) ?_
            exact hE _ _ _ _ _ _ rfl O hf dX7_shuts_41
def w_X7_shuts (x1 : Int32) (x2 : Int32) (σ : St) (Q : Int32 → St → Prop) : Prop := ∃ nn : Nat, w_X7_shuts_2 Q nn x1 x2 0 σ
set_option maxHeartbeats 4000000 in
set_option maxRecDepth 100000 in
theorem b_X7_shuts (C : CX p R s m args meth c cX7_shuts 4 RX7 0 0 D cs) (hE : RI p l e R s m args below meth c cX7_shuts D cs LC q .boolean Q E) : ∀ (x1 : Int32) (x2 : Int32) (σ : St) (H : Heap) (locs : List Loc) (ls : Array Slot), OK D cs LC q s σ H locs → lv_has ls 4 [(0, .ref (q 6)), (1, .int x1), (2, .int x2)] → w_X7_shuts x1 x2 σ Q → W p l e R s m args below meth c H locs 0 0 E (F0 m 0 ls []) := by
  have hx := C.1
  have hb := C.2.1
  intro x1 x2 σ H locs ls O hl hf
  unfold w_X7_shuts at hf
  refine lv_iconst (v := 0) hx hb dX7_shuts_0 (by decide) ?_
  refine lv_istore_n (lv' := [(3, .int 0), (0, .ref (q 6)), (1, .int x1), (2, .int x2)]) hx hb dX7_shuts_1 rfl hl (by decide) rfl (fun ls hl => ?_)
  obtain ⟨nn, hf⟩ := hf
  exact b_X7_shuts_2 C hE nn x1 x2 0 σ _ _ ls O (lv_sub hl [1, 2, 3, 0] rfl) hf
theorem c_X7_shuts (l : Launch) (x1 : Int32) (x2 : Int32) : MetI l yX7_shuts cX7_shuts 4 .boolean 0 0 LC 6 (fun q => [.int x1, .int x2]) (w_X7_shuts x1 x2) := mk_I (own := RX7) (by decide) rfl (fun q => Nat.le_of_ble_eq_true rfl) (fun C hE O hl hf => b_X7_shuts C hE x1 x2 _ _ _ _ O hl hf)
end
section
variable {p : Program} {l : Launch} {e : Env} {R : Room} {s : State} {m : MethodId} {args : Array Value} {below : List Frame} {meth : Method} {c : Code} {E : State → Prop}
variable {D : va_G} {cs : Nat → ClassId} {q : Nat → Nat}
variable {Q : Int32 → St → Prop}
def w_X1_toOf (x1 : Int32) (σ : St) (Q : Int32 → St → Prop) : Prop := w_X1_has x1 σ (fun r_2 σ_1 => (r_2 = 0 → (Q ((-1)) σ_1)) ∧ (¬ r_2 = 0 → (vp_in x1 20 ∧ (Q (σ_1.1 22 x1.toNatClampNeg) σ_1))))
set_option maxHeartbeats 4000000 in
set_option maxRecDepth 100000 in
theorem b_X1_toOf (C : CX p R s m args meth c cX1_toOf 2 RX1 1 21 D cs) (hE : RI p l e R s m args below meth c cX1_toOf D cs LC q .int Q E) : ∀ (x1 : Int32) (σ : St) (H : Heap) (locs : List Loc) (ls : Array Slot), OK D cs LC q s σ H locs → lv_has ls 2 [(0, .ref (q 5)), (1, .int x1)] → w_X1_toOf x1 σ Q → W p l e R s m args below meth c H locs 0 0 E (F0 m 0 ls []) := by
  have hx := C.1
  have hb := C.2.1
  intro x1 σ H locs ls O hl hf
  unfold w_X1_toOf at hf
  refine lv_aload_n hx hb dX1_toOf_0 rfl (lv_at hl 0 rfl) ?_
  refine lv_iload_n hx hb dX1_toOf_1 rfl (lv_at hl 1 rfl) ?_
  refine r_callI C O hl (c_X1_has l x1) mX1_50 (by decide) rfl rfl rfl rfl (Nat.le_of_ble_eq_true rfl) hf dX1_toOf_2 (fun r_2 σ_1 H locs O hf => ?_)
  refine lv_if_eq (tgt := 17) hx hb dX1_toOf_5 (by decide) (fun c_3 => ?_) (fun c_3 => ?_)
  · have hf := hf.1 c_3
    refine lv_iconst (v := (-1)) hx hb dX1_toOf_17 (by decide) ?_
    exact hE _ _ _ _ _ _ (vp_nar_int _) O hf dX1_toOf_18
  · have hf := hf.2 c_3
    refine lv_aload_n hx hb dX1_toOf_8 rfl (lv_at hl 0 rfl) ?_
    refine r_get C O (k := 5) (j := 1) (v := .ref (q 22)) fX1_15 rfl rfl rfl dX1_toOf_9 ?_
    refine lv_iload_n hx hb dX1_toOf_12 rfl (lv_at hl 1 rfl) ?_
    refine r_iald C O (k := 22) rfl hf.1 dX1_toOf_13 ?_
    have hf := hf.2
    refine lv_goto (tgt := 18) hx hb dX1_toOf_14 (by decide) ?_
    exact hE _ _ _ _ _ _ (vp_nar_int _) O hf dX1_toOf_18
theorem c_X1_toOf (l : Launch) (x1 : Int32) : MetI l yX1_toOf cX1_toOf 2 .int 1 21 LC 5 (fun q => [.int x1]) (w_X1_toOf x1) := mk_I (own := RX1) (by decide) rfl (fun q => Nat.le_of_ble_eq_true rfl) (fun C hE O hl hf => b_X1_toOf C hE x1 _ _ _ _ O hl hf)
end
section
variable {p : Program} {l : Launch} {e : Env} {R : Room} {s : State} {m : MethodId} {args : Array Value} {below : List Frame} {meth : Method} {c : Code} {E : State → Prop}
variable {D : va_G} {cs : Nat → ClassId} {q : Nat → Nat}
variable {Q : St → Prop}
def w_X1_lineUp_55 (Q : St → Prop) (x1 : Int32) (x3 : Int32) (σ : St) : Prop := vp_in x3 20 ∧ (∀ σ_1 : St, σ_1 = wr σ 26 x3.toNatClampNeg x1 → (Q σ_1))
set_option maxHeartbeats 4000000 in
set_option maxRecDepth 100000 in
theorem b_X1_lineUp_55 (C : CX p R s m args meth c cX1_lineUp 5 RX1 2 42 D cs) (hE : RV p l e R s m args below meth c cX1_lineUp D cs LC q Q E) : ∀ (x1 : Int32) (x3 : Int32) (σ : St) (H : Heap) (locs : List Loc) (ls : Array Slot), OK D cs LC q s σ H locs → lv_has ls 5 [(0, .ref (q 5)), (1, .int x1), (3, .int x3)] → w_X1_lineUp_55 Q x1 x3 σ → W p l e R s m args below meth c H locs 0 0 E (F0 m 55 ls []) := by
  have hx := C.1
  have hb := C.2.1
  intro x1 x3 σ H locs ls O hl hf
  unfold w_X1_lineUp_55 at hf
  refine lv_aload_n hx hb dX1_lineUp_55 rfl (lv_at hl 0 rfl) ?_
  refine r_get C O (k := 5) (j := 5) (v := .ref (q 26)) fX1_28 rfl rfl rfl dX1_lineUp_56 ?_
  refine lv_iload_n hx hb dX1_lineUp_59 rfl (lv_at hl 2 rfl) ?_
  refine lv_iload_n hx hb dX1_lineUp_60 rfl (lv_at hl 1 rfl) ?_
  refine r_iast C O (k := 26) rfl hf.1 dX1_lineUp_61 (fun H locs σ_1 eσ_1 O => ?_)
  have hf := hf.2 σ_1 eσ_1
  exact hE _ _ _ _ _ O hf dX1_lineUp_62
def w_X1_lineUp_7 (Q : St → Prop) : Nat → Int32 → Int32 → Int32 → Int32 → St → Prop
  | 0, _, _, _, _, _ => False
  | n + 1, x1, x2, x3, x4, σ => (x4 < 0 → (w_X1_lineUp_55 Q x1 x3 σ)) ∧ (¬ x4 < 0 → (vp_in x4 20 ∧ (w_X1_startOf (σ.1 26 x4.toNatClampNeg) σ (fun r_3 σ_2 => (x2 < r_3 → (vp_in x4 20 ∧ (vp_in (x4 + 1) 20 ∧ (∀ σ_5 : St, σ_5 = wr σ_2 26 (x4 + 1).toNatClampNeg (σ_2.1 26 x4.toNatClampNeg) → (w_X1_lineUp_7 Q n x1 x2 x4 (x4 + (-1)) σ_5))))) ∧ (¬ x2 < r_3 → (w_X1_lineUp_55 Q x1 x3 σ_2))))))
set_option maxHeartbeats 4000000 in
set_option maxRecDepth 100000 in
theorem b_X1_lineUp_7 (C : CX p R s m args meth c cX1_lineUp 5 RX1 2 42 D cs) (hE : RV p l e R s m args below meth c cX1_lineUp D cs LC q Q E) : ∀ n : Nat, ∀ (x1 : Int32) (x2 : Int32) (x3 : Int32) (x4 : Int32) (σ : St) (H : Heap) (locs : List Loc) (ls : Array Slot), OK D cs LC q s σ H locs → lv_has ls 5 [(0, .ref (q 5)), (1, .int x1), (2, .int x2), (3, .int x3), (4, .int x4)] → w_X1_lineUp_7 Q n x1 x2 x3 x4 σ → W p l e R s m args below meth c H locs 0 0 E (F0 m 7 ls []) := by
  have hx := C.1
  have hb := C.2.1
  intro n
  induction n with
  | zero => intro x1 x2 x3 x4 σ H locs ls O hl hf; exact hf.elim
  | succ n ih =>
    intro x1 x2 x3 x4 σ H locs ls O hl hf
    unfold w_X1_lineUp_7 at hf
    refine lv_iload hx hb dX1_lineUp_7 (lv_at hl 4 rfl) ?_
    refine lv_if_lt (tgt := 55) hx hb dX1_lineUp_9 (by decide) (fun c_1 => ?_) (fun c_1 => ?_)
    · have hf := hf.1 c_1
      exact b_X1_lineUp_55 C hE x1 x3 σ _ _ ls O (lv_sub hl [0, 1, 3] rfl) hf
    · have hf := hf.2 c_1
      refine lv_aload_n hx hb dX1_lineUp_12 rfl (lv_at hl 0 rfl) ?_
      refine lv_aload_n hx hb dX1_lineUp_13 rfl (lv_at hl 0 rfl) ?_
      refine r_get C O (k := 5) (j := 5) (v := .ref (q 26)) fX1_28 rfl rfl rfl dX1_lineUp_14 ?_
      refine lv_iload hx hb dX1_lineUp_17 (lv_at hl 4 rfl) ?_
      refine r_iald C O (k := 26) rfl hf.1 dX1_lineUp_19 ?_
      have hf := hf.2
      refine r_callI C O hl (c_X1_startOf l (σ.1 26 x4.toNatClampNeg)) mX1_42 (by decide) rfl rfl rfl rfl (Nat.le_of_ble_eq_true rfl) hf dX1_lineUp_20 (fun r_3 σ_2 H locs O hf => ?_)
      refine lv_iload_n hx hb dX1_lineUp_23 rfl (lv_at hl 2 rfl) ?_
      refine lv_icmp_gt (tgt := 30) hx hb dX1_lineUp_24 (by decide) (fun c_4 => ?_) (fun c_4 => ?_)
      · have hf := hf.1 c_4
        refine lv_aload_n hx hb dX1_lineUp_30 rfl (lv_at hl 0 rfl) ?_
        refine r_get C O (k := 5) (j := 5) (v := .ref (q 26)) fX1_28 rfl rfl rfl dX1_lineUp_31 ?_
        refine lv_iload hx hb dX1_lineUp_34 (lv_at hl 4 rfl) ?_
        refine lv_iconst (v := 1) hx hb dX1_lineUp_36 (by decide) ?_
        refine lv_iadd hx hb dX1_lineUp_37 ?_
        refine lv_aload_n hx hb dX1_lineUp_38 rfl (lv_at hl 0 rfl) ?_
        refine r_get C O (k := 5) (j := 5) (v := .ref (q 26)) fX1_28 rfl rfl rfl dX1_lineUp_39 ?_
        refine lv_iload hx hb dX1_lineUp_42 (lv_at hl 4 rfl) ?_
        refine r_iald C O (k := 26) rfl hf.1 dX1_lineUp_44 ?_
        have hf := hf.2
        refine r_iast C O (k := 26) rfl hf.1 dX1_lineUp_45 (fun H locs σ_5 eσ_5 O => ?_)
        have hf := hf.2 σ_5 eσ_5
        refine lv_iload hx hb dX1_lineUp_46 (lv_at hl 4 rfl) ?_
        refine lv_istore_n (lv' := [(3, .int x4), (0, .ref (q 5)), (1, .int x1), (2, .int x2), (4, .int x4)]) hx hb dX1_lineUp_48 rfl hl (by decide) rfl (fun ls hl => ?_)
        refine lv_iinc (v := x4 + (-1)) (lv' := [(4, .int (x4 + (-1))), (3, .int x4), (0, .ref (q 5)), (1, .int x1), (2, .int x2)]) hx hb dX1_lineUp_49 hl (k := 4) rfl rfl (by decide) rfl (fun ls hl => ?_)
        refine lv_goto (tgt := 7) hx hb dX1_lineUp_52 (by decide) ?_
        exact ih x1 x2 x4 (x4 + (-1)) σ_5 _ _ ls O (lv_sub hl [2, 3, 4, 1, 0] rfl) hf
      · have hf := hf.2 c_4
        refine lv_goto (tgt := 55) hx hb dX1_lineUp_27 (by decide) ?_
        exact b_X1_lineUp_55 C hE x1 x3 σ_2 _ _ ls O (lv_sub hl [0, 1, 3] rfl) hf
def w_X1_lineUp (x1 : Int32) (x2 : Int32) (σ : St) (Q : St → Prop) : Prop := ∃ nn : Nat, w_X1_lineUp_7 Q nn x1 x2 x1 (x1 - 1) σ
set_option maxHeartbeats 4000000 in
set_option maxRecDepth 100000 in
theorem b_X1_lineUp (C : CX p R s m args meth c cX1_lineUp 5 RX1 2 42 D cs) (hE : RV p l e R s m args below meth c cX1_lineUp D cs LC q Q E) : ∀ (x1 : Int32) (x2 : Int32) (σ : St) (H : Heap) (locs : List Loc) (ls : Array Slot), OK D cs LC q s σ H locs → lv_has ls 5 [(0, .ref (q 5)), (1, .int x1), (2, .int x2)] → w_X1_lineUp x1 x2 σ Q → W p l e R s m args below meth c H locs 0 0 E (F0 m 0 ls []) := by
  have hx := C.1
  have hb := C.2.1
  intro x1 x2 σ H locs ls O hl hf
  unfold w_X1_lineUp at hf
  refine lv_iload_n hx hb dX1_lineUp_0 rfl (lv_at hl 1 rfl) ?_
  refine lv_istore_n (lv' := [(3, .int x1), (0, .ref (q 5)), (1, .int x1), (2, .int x2)]) hx hb dX1_lineUp_1 rfl hl (by decide) rfl (fun ls hl => ?_)
  refine lv_iload_n hx hb dX1_lineUp_2 rfl (lv_at hl 2 rfl) ?_
  refine lv_iconst (v := 1) hx hb dX1_lineUp_3 (by decide) ?_
  refine lv_isub hx hb dX1_lineUp_4 ?_
  refine lv_istore (lv' := [(4, .int (x1 - 1)), (3, .int x1), (0, .ref (q 5)), (1, .int x1), (2, .int x2)]) hx hb dX1_lineUp_5 hl (by decide) rfl (fun ls hl => ?_)
  obtain ⟨nn, hf⟩ := hf
  exact b_X1_lineUp_7 C hE nn x1 x2 x1 (x1 - 1) σ _ _ ls O (lv_sub hl [2, 3, 4, 1, 0] rfl) hf
theorem c_X1_lineUp (l : Launch) (x1 : Int32) (x2 : Int32) : MetV l yX1_lineUp cX1_lineUp 5 2 42 LC 5 (fun q => [.int x1, .int x2]) (w_X1_lineUp x1 x2) := mk_V (own := RX1) (by decide) rfl (fun q => Nat.le_of_ble_eq_true rfl) (fun C hE O hl hf => b_X1_lineUp C hE x1 x2 _ _ _ _ O hl hf)
end
section
variable {p : Program} {l : Launch} {e : Env} {R : Room} {s : State} {m : MethodId} {args : Array Value} {below : List Frame} {meth : Method} {c : Code} {E : State → Prop}
variable {D : va_G} {cs : Nat → ClassId} {q : Nat → Nat}
variable {Q : Int32 → St → Prop}
def w_X1_add (x1 : Int32) (x2 : Int32) (x3 : Int32) (x4 : Int32) (σ : St) (Q : Int32 → St → Prop) : Prop := (20 ≤ (σ.1 5 6) → (Q ((-1)) σ)) ∧ (¬ 20 ≤ (σ.1 5 6) → (((σ.1 5 7) < 8 → (vp_in (σ.1 5 6) 20 ∧ (∀ σ_3 : St, σ_3 = wr σ 21 (σ.1 5 6).toNatClampNeg x1 → (vp_in (σ_3.1 5 6) 20 ∧ (∀ σ_4 : St, σ_4 = wr σ_3 22 (σ_3.1 5 6).toNatClampNeg x2 → (vp_in (σ_4.1 5 6) 20 ∧ (∀ σ_5 : St, σ_5 = wr σ_4 23 (σ_4.1 5 6).toNatClampNeg x3 → (vp_in (σ_5.1 5 6) 20 ∧ (∀ σ_6 : St, σ_6 = wr σ_5 24 (σ_5.1 5 6).toNatClampNeg x4 → (vp_in (σ_6.1 5 6) 20 ∧ (∀ σ_7 : St, σ_7 = wr σ_6 25 (σ_6.1 5 6).toNatClampNeg (0 &&& 1) → (w_X1_lineUp (σ_7.1 5 6) x3 σ_7 (fun σ_8 => ∀ σ_9 : St, σ_9 = wr σ_8 5 6 ((σ_8.1 5 6) + 1) → (∀ σ_10 : St, σ_10 = wr σ_9 5 7 ((σ_9.1 5 7) + 1) → (Q ((σ_10.1 5 6) - 1) σ_10))))))))))))))) ∧ (¬ (σ.1 5 7) < 8 → (Q ((-1)) σ))))
set_option maxHeartbeats 4000000 in
set_option maxRecDepth 100000 in
theorem b_X1_add (C : CX p R s m args meth c cX1_add 5 RX1 3 66 D cs) (hE : RI p l e R s m args below meth c cX1_add D cs LC q .int Q E) : ∀ (x1 : Int32) (x2 : Int32) (x3 : Int32) (x4 : Int32) (σ : St) (H : Heap) (locs : List Loc) (ls : Array Slot), OK D cs LC q s σ H locs → lv_has ls 5 [(0, .ref (q 5)), (1, .int x1), (2, .int x2), (3, .int x3), (4, .int x4)] → w_X1_add x1 x2 x3 x4 σ Q → W p l e R s m args below meth c H locs 0 0 E (F0 m 0 ls []) := by
  have hx := C.1
  have hb := C.2.1
  intro x1 x2 x3 x4 σ H locs ls O hl hf
  unfold w_X1_add at hf
  refine lv_aload_n hx hb dX1_add_0 rfl (lv_at hl 0 rfl) ?_
  refine r_get C O (k := 5) (j := 6) (v := .int (σ.1 5 6)) fX1_31 rfl rfl rfl dX1_add_1 ?_
  refine lv_bipush (v := 20) hx hb dX1_add_4 (by decide) ?_
  refine lv_icmp_ge (tgt := 18) hx hb dX1_add_6 (by decide) (fun c_1 => ?_) (fun c_1 => ?_)
  · have hf := hf.1 c_1
    refine lv_iconst (v := (-1)) hx hb dX1_add_18 (by decide) ?_
    exact hE _ _ _ _ _ _ (vp_nar_int _) O hf dX1_add_19
  · have hf := hf.2 c_1
    refine lv_aload_n hx hb dX1_add_9 rfl (lv_at hl 0 rfl) ?_
    refine r_get C O (k := 5) (j := 7) (v := .int (σ.1 5 7)) fX1_35 rfl rfl rfl dX1_add_10 ?_
    refine lv_bipush (v := 8) hx hb dX1_add_13 (by decide) ?_
    refine lv_icmp_lt (tgt := 20) hx hb dX1_add_15 (by decide) (fun c_2 => ?_) (fun c_2 => ?_)
    · have hf := hf.1 c_2
      refine lv_aload_n hx hb dX1_add_20 rfl (lv_at hl 0 rfl) ?_
      refine r_get C O (k := 5) (j := 0) (v := .ref (q 21)) fX1_11 rfl rfl rfl dX1_add_21 ?_
      refine lv_aload_n hx hb dX1_add_24 rfl (lv_at hl 0 rfl) ?_
      refine r_get C O (k := 5) (j := 6) (v := .int (σ.1 5 6)) fX1_31 rfl rfl rfl dX1_add_25 ?_
      refine lv_iload_n hx hb dX1_add_28 rfl (lv_at hl 1 rfl) ?_
      refine r_iast C O (k := 21) rfl hf.1 dX1_add_29 (fun H locs σ_3 eσ_3 O => ?_)
      have hf := hf.2 σ_3 eσ_3
      refine lv_aload_n hx hb dX1_add_30 rfl (lv_at hl 0 rfl) ?_
      refine r_get C O (k := 5) (j := 1) (v := .ref (q 22)) fX1_15 rfl rfl rfl dX1_add_31 ?_
      refine lv_aload_n hx hb dX1_add_34 rfl (lv_at hl 0 rfl) ?_
      refine r_get C O (k := 5) (j := 6) (v := .int (σ_3.1 5 6)) fX1_31 rfl rfl rfl dX1_add_35 ?_
      refine lv_iload_n hx hb dX1_add_38 rfl (lv_at hl 2 rfl) ?_
      refine r_iast C O (k := 22) rfl hf.1 dX1_add_39 (fun H locs σ_4 eσ_4 O => ?_)
      have hf := hf.2 σ_4 eσ_4
      refine lv_aload_n hx hb dX1_add_40 rfl (lv_at hl 0 rfl) ?_
      refine r_get C O (k := 5) (j := 2) (v := .ref (q 23)) fX1_18 rfl rfl rfl dX1_add_41 ?_
      refine lv_aload_n hx hb dX1_add_44 rfl (lv_at hl 0 rfl) ?_
      refine r_get C O (k := 5) (j := 6) (v := .int (σ_4.1 5 6)) fX1_31 rfl rfl rfl dX1_add_45 ?_
      refine lv_iload_n hx hb dX1_add_48 rfl (lv_at hl 3 rfl) ?_
      refine r_iast C O (k := 23) rfl hf.1 dX1_add_49 (fun H locs σ_5 eσ_5 O => ?_)
      have hf := hf.2 σ_5 eσ_5
      refine lv_aload_n hx hb dX1_add_50 rfl (lv_at hl 0 rfl) ?_
      refine r_get C O (k := 5) (j := 3) (v := .ref (q 24)) fX1_21 rfl rfl rfl dX1_add_51 ?_
      refine lv_aload_n hx hb dX1_add_54 rfl (lv_at hl 0 rfl) ?_
      refine r_get C O (k := 5) (j := 6) (v := .int (σ_5.1 5 6)) fX1_31 rfl rfl rfl dX1_add_55 ?_
      refine lv_iload hx hb dX1_add_58 (lv_at hl 4 rfl) ?_
      refine r_iast C O (k := 24) rfl hf.1 dX1_add_60 (fun H locs σ_6 eσ_6 O => ?_)
      have hf := hf.2 σ_6 eσ_6
      refine lv_aload_n hx hb dX1_add_61 rfl (lv_at hl 0 rfl) ?_
      refine r_get C O (k := 5) (j := 4) (v := .ref (q 25)) fX1_24 rfl rfl rfl dX1_add_62 ?_
      refine lv_aload_n hx hb dX1_add_65 rfl (lv_at hl 0 rfl) ?_
      refine r_get C O (k := 5) (j := 6) (v := .int (σ_6.1 5 6)) fX1_31 rfl rfl rfl dX1_add_66 ?_
      refine lv_iconst (v := 0) hx hb dX1_add_69 (by decide) ?_
      refine r_zast C O (k := 25) rfl hf.1 dX1_add_70 (fun H locs σ_7 eσ_7 O => ?_)
      have hf := hf.2 σ_7 eσ_7
      refine lv_aload_n hx hb dX1_add_71 rfl (lv_at hl 0 rfl) ?_
      refine lv_aload_n hx hb dX1_add_72 rfl (lv_at hl 0 rfl) ?_
      refine r_get C O (k := 5) (j := 6) (v := .int (σ_7.1 5 6)) fX1_31 rfl rfl rfl dX1_add_73 ?_
      refine lv_iload_n hx hb dX1_add_76 rfl (lv_at hl 3 rfl) ?_
      refine r_callV C O hl (c_X1_lineUp l (σ_7.1 5 6) x3) mX1_38 (by decide) rfl rfl rfl rfl (Nat.le_of_ble_eq_true rfl) hf dX1_add_77 (fun σ_8 H locs O hf => ?_)
      refine lv_aload_n hx hb dX1_add_80 rfl (lv_at hl 0 rfl) ?_
      refine lv_dup hx hb dX1_add_81 rfl ?_
      refine r_get C O (k := 5) (j := 6) (v := .int (σ_8.1 5 6)) fX1_31 rfl rfl rfl dX1_add_82 ?_
      refine lv_iconst (v := 1) hx hb dX1_add_85 (by decide) ?_
      refine lv_iadd hx hb dX1_add_86 ?_
      refine r_puti C O (k := 5) pX1_31 rfl rfl dX1_add_87 (fun H locs σ_9 eσ_9 O => ?_)
      have hf := hf σ_9 eσ_9
      refine lv_aload_n hx hb dX1_add_90 rfl (lv_at hl 0 rfl) ?_
      refine lv_dup hx hb dX1_add_91 rfl ?_
      refine r_get C O (k := 5) (j := 7) (v := .int (σ_9.1 5 7)) fX1_35 rfl rfl rfl dX1_add_92 ?_
      refine lv_iconst (v := 1) hx hb dX1_add_95 (by decide) ?_
      refine lv_iadd hx hb dX1_add_96 ?_
      refine r_puti C O (k := 5) pX1_35 rfl rfl dX1_add_97 (fun H locs σ_10 eσ_10 O => ?_)
      have hf := hf σ_10 eσ_10
      refine lv_aload_n hx hb dX1_add_100 rfl (lv_at hl 0 rfl) ?_
      refine r_get C O (k := 5) (j := 6) (v := .int (σ_10.1 5 6)) fX1_31 rfl rfl rfl dX1_add_101 ?_
      refine lv_iconst (v := 1) hx hb dX1_add_104 (by decide) ?_
      refine lv_isub hx hb dX1_add_105 ?_
      exact hE _ _ _ _ _ _ (vp_nar_int _) O hf dX1_add_106
    · have hf := hf.2 c_2
      refine lv_iconst (v := (-1)) hx hb dX1_add_18 (by decide) ?_
      exact hE _ _ _ _ _ _ (vp_nar_int _) O hf dX1_add_19
theorem c_X1_add (l : Launch) (x1 : Int32) (x2 : Int32) (x3 : Int32) (x4 : Int32) : MetI l yX1_add cX1_add 5 .int 3 66 LC 5 (fun q => [.int x1, .int x2, .int x3, .int x4]) (w_X1_add x1 x2 x3 x4) := mk_I (own := RX1) (by decide) rfl (fun q => Nat.le_of_ble_eq_true rfl) (fun C hE O hl hf => b_X1_add C hE x1 x2 x3 x4 _ _ _ _ O hl hf)
end
section
variable {p : Program} {l : Launch} {e : Env} {R : Room} {s : State} {m : MethodId} {args : Array Value} {below : List Frame} {meth : Method} {c : Code} {E : State → Prop}
variable {D : va_G} {cs : Nat → ClassId} {q : Nat → Nat}
variable {Q : Int32 → St → Prop}
def w_X1_isLive (x1 : Int32) (σ : St) (Q : Int32 → St → Prop) : Prop := w_X1_has x1 σ (fun r_2 σ_1 => (r_2 = 0 → (Q 0 σ_1)) ∧ (¬ r_2 = 0 → (vp_in x1 20 ∧ ((¬ (σ_1.1 25 x1.toNatClampNeg) = 0 → (Q 0 σ_1)) ∧ ((σ_1.1 25 x1.toNatClampNeg) = 0 → (Q 1 σ_1))))))
set_option maxHeartbeats 4000000 in
set_option maxRecDepth 100000 in
theorem b_X1_isLive (C : CX p R s m args meth c cX1_isLive 2 RX1 1 21 D cs) (hE : RI p l e R s m args below meth c cX1_isLive D cs LC q .boolean Q E) : ∀ (x1 : Int32) (σ : St) (H : Heap) (locs : List Loc) (ls : Array Slot), OK D cs LC q s σ H locs → lv_has ls 2 [(0, .ref (q 5)), (1, .int x1)] → w_X1_isLive x1 σ Q → W p l e R s m args below meth c H locs 0 0 E (F0 m 0 ls []) := by
  have hx := C.1
  have hb := C.2.1
  intro x1 σ H locs ls O hl hf
  unfold w_X1_isLive at hf
  refine lv_aload_n hx hb dX1_isLive_0 rfl (lv_at hl 0 rfl) ?_
  refine lv_iload_n hx hb dX1_isLive_1 rfl (lv_at hl 1 rfl) ?_
  refine r_callI C O hl (c_X1_has l x1) mX1_50 (by decide) rfl rfl rfl rfl (Nat.le_of_ble_eq_true rfl) hf dX1_isLive_2 (fun r_2 σ_1 H locs O hf => ?_)
  refine lv_if_eq (tgt := 21) hx hb dX1_isLive_5 (by decide) (fun c_3 => ?_) (fun c_3 => ?_)
  · have hf := hf.1 c_3
    refine lv_iconst (v := 0) hx hb dX1_isLive_21 (by decide) ?_
    exact hE _ _ _ _ _ _ rfl O hf dX1_isLive_22
  · have hf := hf.2 c_3
    refine lv_aload_n hx hb dX1_isLive_8 rfl (lv_at hl 0 rfl) ?_
    refine r_get C O (k := 5) (j := 4) (v := .ref (q 25)) fX1_24 rfl rfl rfl dX1_isLive_9 ?_
    refine lv_iload_n hx hb dX1_isLive_12 rfl (lv_at hl 1 rfl) ?_
    refine r_zald C O (k := 25) rfl hf.1 dX1_isLive_13 ?_
    have hf := hf.2
    refine lv_if_ne (tgt := 21) hx hb dX1_isLive_14 (by decide) (fun c_4 => ?_) (fun c_4 => ?_)
    · have hf := hf.1 c_4
      refine lv_iconst (v := 0) hx hb dX1_isLive_21 (by decide) ?_
      exact hE _ _ _ _ _ _ rfl O hf dX1_isLive_22
    · have hf := hf.2 c_4
      refine lv_iconst (v := 1) hx hb dX1_isLive_17 (by decide) ?_
      refine lv_goto (tgt := 22) hx hb dX1_isLive_18 (by decide) ?_
      exact hE _ _ _ _ _ _ rfl O hf dX1_isLive_22
theorem c_X1_isLive (l : Launch) (x1 : Int32) : MetI l yX1_isLive cX1_isLive 2 .boolean 1 21 LC 5 (fun q => [.int x1]) (w_X1_isLive x1) := mk_I (own := RX1) (by decide) rfl (fun q => Nat.le_of_ble_eq_true rfl) (fun C hE O hl hf => b_X1_isLive C hE x1 _ _ _ _ O hl hf)
end
section
variable {p : Program} {l : Launch} {e : Env} {R : Room} {s : State} {m : MethodId} {args : Array Value} {below : List Frame} {meth : Method} {c : Code} {E : State → Prop}
variable {D : va_G} {cs : Nat → ClassId} {q : Nat → Nat}
variable {Q : St → Prop}
def w_X1_strike (x1 : Int32) (σ : St) (Q : St → Prop) : Prop := w_X1_isLive x1 σ (fun r_2 σ_1 => (r_2 = 0 → (Q σ_1)) ∧ (¬ r_2 = 0 → (vp_in x1 20 ∧ (∀ σ_4 : St, σ_4 = wr σ_1 25 x1.toNatClampNeg (1 &&& 1) → (∀ σ_5 : St, σ_5 = wr σ_4 5 7 ((σ_4.1 5 7) - 1) → (Q σ_5))))))
set_option maxHeartbeats 4000000 in
set_option maxRecDepth 100000 in
theorem b_X1_strike (C : CX p R s m args meth c cX1_strike 2 RX1 2 42 D cs) (hE : RV p l e R s m args below meth c cX1_strike D cs LC q Q E) : ∀ (x1 : Int32) (σ : St) (H : Heap) (locs : List Loc) (ls : Array Slot), OK D cs LC q s σ H locs → lv_has ls 2 [(0, .ref (q 5)), (1, .int x1)] → w_X1_strike x1 σ Q → W p l e R s m args below meth c H locs 0 0 E (F0 m 0 ls []) := by
  have hx := C.1
  have hb := C.2.1
  intro x1 σ H locs ls O hl hf
  unfold w_X1_strike at hf
  refine lv_aload_n hx hb dX1_strike_0 rfl (lv_at hl 0 rfl) ?_
  refine lv_iload_n hx hb dX1_strike_1 rfl (lv_at hl 1 rfl) ?_
  refine r_callI C O hl (c_X1_isLive l x1) mX1_46 (by decide) rfl rfl rfl rfl (Nat.le_of_ble_eq_true rfl) hf dX1_strike_2 (fun r_2 σ_1 H locs O hf => ?_)
  refine lv_if_eq (tgt := 25) hx hb dX1_strike_5 (by decide) (fun c_3 => ?_) (fun c_3 => ?_)
  · have hf := hf.1 c_3
    exact hE _ _ _ _ _ O hf dX1_strike_25
  · have hf := hf.2 c_3
    refine lv_aload_n hx hb dX1_strike_8 rfl (lv_at hl 0 rfl) ?_
    refine r_get C O (k := 5) (j := 4) (v := .ref (q 25)) fX1_24 rfl rfl rfl dX1_strike_9 ?_
    refine lv_iload_n hx hb dX1_strike_12 rfl (lv_at hl 1 rfl) ?_
    refine lv_iconst (v := 1) hx hb dX1_strike_13 (by decide) ?_
    refine r_zast C O (k := 25) rfl hf.1 dX1_strike_14 (fun H locs σ_4 eσ_4 O => ?_)
    have hf := hf.2 σ_4 eσ_4
    refine lv_aload_n hx hb dX1_strike_15 rfl (lv_at hl 0 rfl) ?_
    refine lv_dup hx hb dX1_strike_16 rfl ?_
    refine r_get C O (k := 5) (j := 7) (v := .int (σ_4.1 5 7)) fX1_35 rfl rfl rfl dX1_strike_17 ?_
    refine lv_iconst (v := 1) hx hb dX1_strike_20 (by decide) ?_
    refine lv_isub hx hb dX1_strike_21 ?_
    refine r_puti C O (k := 5) pX1_35 rfl rfl dX1_strike_22 (fun H locs σ_5 eσ_5 O => ?_)
    have hf := hf σ_5 eσ_5
    exact hE _ _ _ _ _ O hf dX1_strike_25
theorem c_X1_strike (l : Launch) (x1 : Int32) : MetV l yX1_strike cX1_strike 2 2 42 LC 5 (fun q => [.int x1]) (w_X1_strike x1) := mk_V (own := RX1) (by decide) rfl (fun q => Nat.le_of_ble_eq_true rfl) (fun C hE O hl hf => b_X1_strike C hE x1 _ _ _ _ O hl hf)
end
section
variable {p : Program} {l : Launch} {e : Env} {R : Room} {s : State} {m : MethodId} {args : Array Value} {below : List Frame} {meth : Method} {c : Code} {E : State → Prop}
variable {D : va_G} {cs : Nat → ClassId} {q : Nat → Nat}
variable {Q : Int32 → St → Prop}
def w_X1_size (σ : St) (Q : Int32 → St → Prop) : Prop := Q (σ.1 5 6) σ
set_option maxHeartbeats 4000000 in
set_option maxRecDepth 100000 in
theorem b_X1_size (C : CX p R s m args meth c cX1_size 1 RX1 0 0 D cs) (hE : RI p l e R s m args below meth c cX1_size D cs LC q .int Q E) : ∀ (σ : St) (H : Heap) (locs : List Loc) (ls : Array Slot), OK D cs LC q s σ H locs → lv_has ls 1 [(0, .ref (q 5))] → w_X1_size  σ Q → W p l e R s m args below meth c H locs 0 0 E (F0 m 0 ls []) := by
  have hx := C.1
  have hb := C.2.1
  intro  σ H locs ls O hl hf
  unfold w_X1_size at hf
  refine lv_aload_n hx hb dX1_size_0 rfl (lv_at hl 0 rfl) ?_
  refine r_get C O (k := 5) (j := 6) (v := .int (σ.1 5 6)) fX1_31 rfl rfl rfl dX1_size_1 ?_
  exact hE _ _ _ _ _ _ (vp_nar_int _) O hf dX1_size_4
theorem c_X1_size (l : Launch) : MetI l yX1_size cX1_size 1 .int 0 0 LC 5 (fun q => []) (w_X1_size ) := mk_I (own := RX1) (by decide) rfl (fun q => Nat.le_of_ble_eq_true rfl) (fun C hE O hl hf => b_X1_size C hE _ _ _ _ O hl hf)
end
section
variable {p : Program} {l : Launch} {e : Env} {R : Room} {s : State} {m : MethodId} {args : Array Value} {below : List Frame} {meth : Method} {c : Code} {E : State → Prop}
variable {D : va_G} {cs : Nat → ClassId} {q : Nat → Nat}
variable {Q : Int32 → St → Prop}
def w_X1_live (σ : St) (Q : Int32 → St → Prop) : Prop := Q (σ.1 5 7) σ
set_option maxHeartbeats 4000000 in
set_option maxRecDepth 100000 in
theorem b_X1_live (C : CX p R s m args meth c cX1_live 1 RX1 0 0 D cs) (hE : RI p l e R s m args below meth c cX1_live D cs LC q .int Q E) : ∀ (σ : St) (H : Heap) (locs : List Loc) (ls : Array Slot), OK D cs LC q s σ H locs → lv_has ls 1 [(0, .ref (q 5))] → w_X1_live  σ Q → W p l e R s m args below meth c H locs 0 0 E (F0 m 0 ls []) := by
  have hx := C.1
  have hb := C.2.1
  intro  σ H locs ls O hl hf
  unfold w_X1_live at hf
  refine lv_aload_n hx hb dX1_live_0 rfl (lv_at hl 0 rfl) ?_
  refine r_get C O (k := 5) (j := 7) (v := .int (σ.1 5 7)) fX1_35 rfl rfl rfl dX1_live_1 ?_
  exact hE _ _ _ _ _ _ (vp_nar_int _) O hf dX1_live_4
theorem c_X1_live (l : Launch) : MetI l yX1_live cX1_live 1 .int 0 0 LC 5 (fun q => []) (w_X1_live ) := mk_I (own := RX1) (by decide) rfl (fun q => Nat.le_of_ble_eq_true rfl) (fun C hE O hl hf => b_X1_live C hE _ _ _ _ O hl hf)
end
section
variable {p : Program} {l : Launch} {e : Env} {R : Room} {s : State} {m : MethodId} {args : Array Value} {below : List Frame} {meth : Method} {c : Code} {E : State → Prop}
variable {D : va_G} {cs : Nat → ClassId} {q : Nat → Nat}
variable {Q : Int32 → St → Prop}
def w_X1_inOrder (x1 : Int32) (σ : St) (Q : Int32 → St → Prop) : Prop := (x1 < 0 → (Q ((-1)) σ)) ∧ (¬ x1 < 0 → (((σ.1 5 6) ≤ x1 → (Q ((-1)) σ)) ∧ (¬ (σ.1 5 6) ≤ x1 → (vp_in x1 20 ∧ (Q (σ.1 26 x1.toNatClampNeg) σ)))))
set_option maxHeartbeats 4000000 in
set_option maxRecDepth 100000 in
theorem b_X1_inOrder (C : CX p R s m args meth c cX1_inOrder 2 RX1 0 0 D cs) (hE : RI p l e R s m args below meth c cX1_inOrder D cs LC q .int Q E) : ∀ (x1 : Int32) (σ : St) (H : Heap) (locs : List Loc) (ls : Array Slot), OK D cs LC q s σ H locs → lv_has ls 2 [(0, .ref (q 5)), (1, .int x1)] → w_X1_inOrder x1 σ Q → W p l e R s m args below meth c H locs 0 0 E (F0 m 0 ls []) := by
  have hx := C.1
  have hb := C.2.1
  intro x1 σ H locs ls O hl hf
  unfold w_X1_inOrder at hf
  refine lv_iload_n hx hb dX1_inOrder_0 rfl (lv_at hl 1 rfl) ?_
  refine lv_if_lt (tgt := 21) hx hb dX1_inOrder_1 (by decide) (fun c_1 => ?_) (fun c_1 => ?_)
  · have hf := hf.1 c_1
    refine lv_iconst (v := (-1)) hx hb dX1_inOrder_21 (by decide) ?_
    exact hE _ _ _ _ _ _ (vp_nar_int _) O hf dX1_inOrder_22
  · have hf := hf.2 c_1
    refine lv_iload_n hx hb dX1_inOrder_4 rfl (lv_at hl 1 rfl) ?_
    refine lv_aload_n hx hb dX1_inOrder_5 rfl (lv_at hl 0 rfl) ?_
    refine r_get C O (k := 5) (j := 6) (v := .int (σ.1 5 6)) fX1_31 rfl rfl rfl dX1_inOrder_6 ?_
    refine lv_icmp_ge (tgt := 21) hx hb dX1_inOrder_9 (by decide) (fun c_2 => ?_) (fun c_2 => ?_)
    · have hf := hf.1 c_2
      refine lv_iconst (v := (-1)) hx hb dX1_inOrder_21 (by decide) ?_
      exact hE _ _ _ _ _ _ (vp_nar_int _) O hf dX1_inOrder_22
    · have hf := hf.2 c_2
      refine lv_aload_n hx hb dX1_inOrder_12 rfl (lv_at hl 0 rfl) ?_
      refine r_get C O (k := 5) (j := 5) (v := .ref (q 26)) fX1_28 rfl rfl rfl dX1_inOrder_13 ?_
      refine lv_iload_n hx hb dX1_inOrder_16 rfl (lv_at hl 1 rfl) ?_
      refine r_iald C O (k := 26) rfl hf.1 dX1_inOrder_17 ?_
      have hf := hf.2
      refine lv_goto (tgt := 22) hx hb dX1_inOrder_18 (by decide) ?_
      exact hE _ _ _ _ _ _ (vp_nar_int _) O hf dX1_inOrder_22
theorem c_X1_inOrder (l : Launch) (x1 : Int32) : MetI l yX1_inOrder cX1_inOrder 2 .int 0 0 LC 5 (fun q => [.int x1]) (w_X1_inOrder x1) := mk_I (own := RX1) (by decide) rfl (fun q => Nat.le_of_ble_eq_true rfl) (fun C hE O hl hf => b_X1_inOrder C hE x1 _ _ _ _ O hl hf)
end
section
variable {p : Program} {l : Launch} {e : Env} {R : Room} {s : State} {m : MethodId} {args : Array Value} {below : List Frame} {meth : Method} {c : Code} {E : State → Prop}
variable {D : va_G} {cs : Nat → ClassId} {q : Nat → Nat}
variable {Q : Int32 → St → Prop}
def w_X1_anyBetween_62 (Q : Int32 → St → Prop) (K2 : Int32 → Int32 → Int32 → St → Prop) (x1 : Int32) (x2 : Int32) (x3 : Int32) (x4 : Int32) (s0 : Int32) (σ : St) : Prop := vp_in x3 20 ∧ ((¬ (σ.1 25 x3.toNatClampNeg) = 0 → (K2 x1 x2 (x3 + 1) σ)) ∧ ((σ.1 25 x3.toNatClampNeg) = 0 → ((¬ x4 = 0 → (Q 1 σ)) ∧ (x4 = 0 → ((s0 = 0 → (K2 x1 x2 (x3 + 1) σ)) ∧ (¬ s0 = 0 → (Q 1 σ)))))))
set_option maxHeartbeats 4000000 in
set_option maxRecDepth 100000 in
theorem b_X1_anyBetween_62 (C : CX p R s m args meth c cX1_anyBetween 6 RX1 0 0 D cs) (hE : RI p l e R s m args below meth c cX1_anyBetween D cs LC q .boolean Q E) {K2 : Int32 → Int32 → Int32 → St → Prop} (hK2 : ∀ (x1 : Int32) (x2 : Int32) (x3 : Int32) (σ : St) (H : Heap) (locs : List Loc) (ls : Array Slot), OK D cs LC q s σ H locs → lv_has ls 6 [(0, .ref (q 5)), (1, .int x1), (2, .int x2), (3, .int x3)] → K2 x1 x2 x3 σ → W p l e R s m args below meth c H locs 0 0 E (F0 m 2 ls [])) : ∀ (x1 : Int32) (x2 : Int32) (x3 : Int32) (x4 : Int32) (s0 : Int32) (σ : St) (H : Heap) (locs : List Loc) (ls : Array Slot), OK D cs LC q s σ H locs → lv_has ls 6 [(0, .ref (q 5)), (1, .int x1), (2, .int x2), (3, .int x3), (4, .int x4)] → w_X1_anyBetween_62 Q K2 x1 x2 x3 x4 s0 σ → W p l e R s m args below meth c H locs 0 0 E (F0 m 62 ls [.int s0]) := by
  have hx := C.1
  have hb := C.2.1
  intro x1 x2 x3 x4 s0 σ H locs ls O hl hf
  unfold w_X1_anyBetween_62 at hf
  refine lv_istore (lv' := [(5, .int s0), (0, .ref (q 5)), (1, .int x1), (2, .int x2), (3, .int x3), (4, .int x4)]) hx hb dX1_anyBetween_62 hl (by decide) rfl (fun ls hl => ?_)
  refine lv_aload_n hx hb dX1_anyBetween_64 rfl (lv_at hl 1 rfl) ?_
  refine r_get C O (k := 5) (j := 4) (v := .ref (q 25)) fX1_24 rfl rfl rfl dX1_anyBetween_65 ?_
  refine lv_iload_n hx hb dX1_anyBetween_68 rfl (lv_at hl 4 rfl) ?_
  refine r_zald C O (k := 25) rfl hf.1 dX1_anyBetween_69 ?_
  have hf := hf.2
  refine lv_if_ne (tgt := 85) hx hb dX1_anyBetween_70 (by decide) (fun c_1 => ?_) (fun c_1 => ?_)
  · have hf := hf.1 c_1
    refine lv_iinc (v := x3 + 1) (lv' := [(3, .int (x3 + 1)), (5, .int s0), (0, .ref (q 5)), (1, .int x1), (2, .int x2), (4, .int x4)]) hx hb dX1_anyBetween_85 hl (k := 4) rfl rfl (by decide) rfl (fun ls hl => ?_)
    refine lv_goto (tgt := 2) hx hb dX1_anyBetween_88 (by decide) ?_
    exact hK2 x1 x2 (x3 + 1) σ _ _ ls O (lv_sub hl [2, 3, 4, 0] rfl) hf
  · have hf := hf.2 c_1
    refine lv_iload hx hb dX1_anyBetween_73 (lv_at hl 5 rfl) ?_
    refine lv_if_ne (tgt := 83) hx hb dX1_anyBetween_75 (by decide) (fun c_2 => ?_) (fun c_2 => ?_)
    · have hf := hf.1 c_2
      refine lv_iconst (v := 1) hx hb dX1_anyBetween_83 (by decide) ?_
      exact hE _ _ _ _ _ _ rfl O hf dX1_anyBetween_84
    · have hf := hf.2 c_2
      refine lv_iload hx hb dX1_anyBetween_78 (lv_at hl 0 rfl) ?_
      refine lv_if_eq (tgt := 85) hx hb dX1_anyBetween_80 (by decide) (fun c_3 => ?_) (fun c_3 => ?_)
      · have hf := hf.1 c_3
        refine lv_iinc (v := x3 + 1) (lv' := [(3, .int (x3 + 1)), (5, .int s0), (0, .ref (q 5)), (1, .int x1), (2, .int x2), (4, .int x4)]) hx hb dX1_anyBetween_85 hl (k := 4) rfl rfl (by decide) rfl (fun ls hl => ?_)
        refine lv_goto (tgt := 2) hx hb dX1_anyBetween_88 (by decide) ?_
        exact hK2 x1 x2 (x3 + 1) σ _ _ ls O (lv_sub hl [2, 3, 4, 0] rfl) hf
      · have hf := hf.2 c_3
        refine lv_iconst (v := 1) hx hb dX1_anyBetween_83 (by decide) ?_
        exact hE _ _ _ _ _ _ rfl O hf dX1_anyBetween_84
def w_X1_anyBetween_61 (Q : Int32 → St → Prop) (K2 : Int32 → Int32 → Int32 → St → Prop) (x1 : Int32) (x2 : Int32) (x3 : Int32) (x4 : Int32) (σ : St) : Prop := w_X1_anyBetween_62 Q K2 x1 x2 x3 x4 0 σ
set_option maxHeartbeats 4000000 in
set_option maxRecDepth 100000 in
theorem b_X1_anyBetween_61 (C : CX p R s m args meth c cX1_anyBetween 6 RX1 0 0 D cs) (hE : RI p l e R s m args below meth c cX1_anyBetween D cs LC q .boolean Q E) {K2 : Int32 → Int32 → Int32 → St → Prop} (hK2 : ∀ (x1 : Int32) (x2 : Int32) (x3 : Int32) (σ : St) (H : Heap) (locs : List Loc) (ls : Array Slot), OK D cs LC q s σ H locs → lv_has ls 6 [(0, .ref (q 5)), (1, .int x1), (2, .int x2), (3, .int x3)] → K2 x1 x2 x3 σ → W p l e R s m args below meth c H locs 0 0 E (F0 m 2 ls [])) : ∀ (x1 : Int32) (x2 : Int32) (x3 : Int32) (x4 : Int32) (σ : St) (H : Heap) (locs : List Loc) (ls : Array Slot), OK D cs LC q s σ H locs → lv_has ls 6 [(0, .ref (q 5)), (1, .int x1), (2, .int x2), (3, .int x3), (4, .int x4)] → w_X1_anyBetween_61 Q K2 x1 x2 x3 x4 σ → W p l e R s m args below meth c H locs 0 0 E (F0 m 61 ls []) := by
  have hx := C.1
  have hb := C.2.1
  intro x1 x2 x3 x4 σ H locs ls O hl hf
  unfold w_X1_anyBetween_61 at hf
  refine lv_iconst (v := 0) hx hb dX1_anyBetween_61 (by decide) ?_
  exact b_X1_anyBetween_62 C hE hK2 x1 x2 x3 x4 0 σ _ _ ls O (lv_sub hl [0, 1, 2, 3, 4] rfl) hf
def w_X1_anyBetween_35 (Q : Int32 → St → Prop) (K2 : Int32 → Int32 → Int32 → St → Prop) (x1 : Int32) (x2 : Int32) (x3 : Int32) (s0 : Int32) (σ : St) : Prop := vp_in x3 20 ∧ ((¬ (σ.1 21 x3.toNatClampNeg) = x2 → (w_X1_anyBetween_61 Q K2 x1 x2 x3 s0 σ)) ∧ ((σ.1 21 x3.toNatClampNeg) = x2 → (vp_in x3 20 ∧ ((¬ (σ.1 22 x3.toNatClampNeg) = x1 → (w_X1_anyBetween_61 Q K2 x1 x2 x3 s0 σ)) ∧ ((σ.1 22 x3.toNatClampNeg) = x1 → (w_X1_anyBetween_62 Q K2 x1 x2 x3 s0 1 σ))))))
set_option maxHeartbeats 4000000 in
set_option maxRecDepth 100000 in
theorem b_X1_anyBetween_35 (C : CX p R s m args meth c cX1_anyBetween 6 RX1 0 0 D cs) (hE : RI p l e R s m args below meth c cX1_anyBetween D cs LC q .boolean Q E) {K2 : Int32 → Int32 → Int32 → St → Prop} (hK2 : ∀ (x1 : Int32) (x2 : Int32) (x3 : Int32) (σ : St) (H : Heap) (locs : List Loc) (ls : Array Slot), OK D cs LC q s σ H locs → lv_has ls 6 [(0, .ref (q 5)), (1, .int x1), (2, .int x2), (3, .int x3)] → K2 x1 x2 x3 σ → W p l e R s m args below meth c H locs 0 0 E (F0 m 2 ls [])) : ∀ (x1 : Int32) (x2 : Int32) (x3 : Int32) (s0 : Int32) (σ : St) (H : Heap) (locs : List Loc) (ls : Array Slot), OK D cs LC q s σ H locs → lv_has ls 6 [(0, .ref (q 5)), (1, .int x1), (2, .int x2), (3, .int x3)] → w_X1_anyBetween_35 Q K2 x1 x2 x3 s0 σ → W p l e R s m args below meth c H locs 0 0 E (F0 m 35 ls [.int s0]) := by
  have hx := C.1
  have hb := C.2.1
  intro x1 x2 x3 s0 σ H locs ls O hl hf
  unfold w_X1_anyBetween_35 at hf
  refine lv_istore (lv' := [(4, .int s0), (0, .ref (q 5)), (1, .int x1), (2, .int x2), (3, .int x3)]) hx hb dX1_anyBetween_35 hl (by decide) rfl (fun ls hl => ?_)
  refine lv_aload_n hx hb dX1_anyBetween_37 rfl (lv_at hl 1 rfl) ?_
  refine r_get C O (k := 5) (j := 0) (v := .ref (q 21)) fX1_11 rfl rfl rfl dX1_anyBetween_38 ?_
  refine lv_iload_n hx hb dX1_anyBetween_41 rfl (lv_at hl 4 rfl) ?_
  refine r_iald C O (k := 21) rfl hf.1 dX1_anyBetween_42 ?_
  have hf := hf.2
  refine lv_iload_n hx hb dX1_anyBetween_43 rfl (lv_at hl 3 rfl) ?_
  refine lv_icmp_ne (tgt := 61) hx hb dX1_anyBetween_44 (by decide) (fun c_1 => ?_) (fun c_1 => ?_)
  · have hf := hf.1 c_1
    exact b_X1_anyBetween_61 C hE hK2 x1 x2 x3 s0 σ _ _ ls O (lv_sub hl [1, 2, 3, 4, 0] rfl) hf
  · have hf := hf.2 c_1
    refine lv_aload_n hx hb dX1_anyBetween_47 rfl (lv_at hl 1 rfl) ?_
    refine r_get C O (k := 5) (j := 1) (v := .ref (q 22)) fX1_15 rfl rfl rfl dX1_anyBetween_48 ?_
    refine lv_iload_n hx hb dX1_anyBetween_51 rfl (lv_at hl 4 rfl) ?_
    refine r_iald C O (k := 22) rfl hf.1 dX1_anyBetween_52 ?_
    have hf := hf.2
    refine lv_iload_n hx hb dX1_anyBetween_53 rfl (lv_at hl 2 rfl) ?_
    refine lv_icmp_ne (tgt := 61) hx hb dX1_anyBetween_54 (by decide) (fun c_2 => ?_) (fun c_2 => ?_)
    · have hf := hf.1 c_2
      exact b_X1_anyBetween_61 C hE hK2 x1 x2 x3 s0 σ _ _ ls O (lv_sub hl [1, 2, 3, 4, 0] rfl) hf
    · have hf := hf.2 c_2
      refine lv_iconst (v := 1) hx hb dX1_anyBetween_57 (by decide) ?_
      refine lv_goto (tgt := 62) hx hb dX1_anyBetween_58 (by decide) ?_
      exact b_X1_anyBetween_62 C hE hK2 x1 x2 x3 s0 1 σ _ _ ls O (lv_sub hl [1, 2, 3, 4, 0] rfl) hf
def w_X1_anyBetween_34 (Q : Int32 → St → Prop) (K2 : Int32 → Int32 → Int32 → St → Prop) (x1 : Int32) (x2 : Int32) (x3 : Int32) (σ : St) : Prop := w_X1_anyBetween_35 Q K2 x1 x2 x3 0 σ
set_option maxHeartbeats 4000000 in
set_option maxRecDepth 100000 in
theorem b_X1_anyBetween_34 (C : CX p R s m args meth c cX1_anyBetween 6 RX1 0 0 D cs) (hE : RI p l e R s m args below meth c cX1_anyBetween D cs LC q .boolean Q E) {K2 : Int32 → Int32 → Int32 → St → Prop} (hK2 : ∀ (x1 : Int32) (x2 : Int32) (x3 : Int32) (σ : St) (H : Heap) (locs : List Loc) (ls : Array Slot), OK D cs LC q s σ H locs → lv_has ls 6 [(0, .ref (q 5)), (1, .int x1), (2, .int x2), (3, .int x3)] → K2 x1 x2 x3 σ → W p l e R s m args below meth c H locs 0 0 E (F0 m 2 ls [])) : ∀ (x1 : Int32) (x2 : Int32) (x3 : Int32) (σ : St) (H : Heap) (locs : List Loc) (ls : Array Slot), OK D cs LC q s σ H locs → lv_has ls 6 [(0, .ref (q 5)), (1, .int x1), (2, .int x2), (3, .int x3)] → w_X1_anyBetween_34 Q K2 x1 x2 x3 σ → W p l e R s m args below meth c H locs 0 0 E (F0 m 34 ls []) := by
  have hx := C.1
  have hb := C.2.1
  intro x1 x2 x3 σ H locs ls O hl hf
  unfold w_X1_anyBetween_34 at hf
  refine lv_iconst (v := 0) hx hb dX1_anyBetween_34 (by decide) ?_
  exact b_X1_anyBetween_35 C hE hK2 x1 x2 x3 0 σ _ _ ls O (lv_sub hl [0, 1, 2, 3] rfl) hf
def w_X1_anyBetween_2 (Q : Int32 → St → Prop) : Nat → Int32 → Int32 → Int32 → St → Prop
  | 0, _, _, _, _ => False
  | n + 1, x1, x2, x3, σ => ((σ.1 5 6) ≤ x3 → (Q 0 σ)) ∧ (¬ (σ.1 5 6) ≤ x3 → (vp_in x3 20 ∧ ((¬ (σ.1 21 x3.toNatClampNeg) = x1 → (w_X1_anyBetween_34 Q (fun x1 x2 x3 σ => w_X1_anyBetween_2 Q n x1 x2 x3 σ) x1 x2 x3 σ)) ∧ ((σ.1 21 x3.toNatClampNeg) = x1 → (vp_in x3 20 ∧ ((¬ (σ.1 22 x3.toNatClampNeg) = x2 → (w_X1_anyBetween_34 Q (fun x1 x2 x3 σ => w_X1_anyBetween_2 Q n x1 x2 x3 σ) x1 x2 x3 σ)) ∧ ((σ.1 22 x3.toNatClampNeg) = x2 → (w_X1_anyBetween_35 Q (fun x1 x2 x3 σ => w_X1_anyBetween_2 Q n x1 x2 x3 σ) x1 x2 x3 1 σ))))))))
set_option maxHeartbeats 4000000 in
set_option maxRecDepth 100000 in
theorem b_X1_anyBetween_2 (C : CX p R s m args meth c cX1_anyBetween 6 RX1 0 0 D cs) (hE : RI p l e R s m args below meth c cX1_anyBetween D cs LC q .boolean Q E) : ∀ n : Nat, ∀ (x1 : Int32) (x2 : Int32) (x3 : Int32) (σ : St) (H : Heap) (locs : List Loc) (ls : Array Slot), OK D cs LC q s σ H locs → lv_has ls 6 [(0, .ref (q 5)), (1, .int x1), (2, .int x2), (3, .int x3)] → w_X1_anyBetween_2 Q n x1 x2 x3 σ → W p l e R s m args below meth c H locs 0 0 E (F0 m 2 ls []) := by
  have hx := C.1
  have hb := C.2.1
  intro n
  induction n with
  | zero => intro x1 x2 x3 σ H locs ls O hl hf; exact hf.elim
  | succ n ih =>
    intro x1 x2 x3 σ H locs ls O hl hf
    unfold w_X1_anyBetween_2 at hf
    refine lv_iload_n hx hb dX1_anyBetween_2 rfl (lv_at hl 3 rfl) ?_
    refine lv_aload_n hx hb dX1_anyBetween_3 rfl (lv_at hl 0 rfl) ?_
    refine r_get C O (k := 5) (j := 6) (v := .int (σ.1 5 6)) fX1_31 rfl rfl rfl dX1_anyBetween_4 ?_
    refine lv_icmp_ge (tgt := 91) hx hb dX1_anyBetween_7 (by decide) (fun c_1 => ?_) (fun c_1 => ?_)
    · have hf := hf.1 c_1
      refine lv_iconst (v := 0) hx hb dX1_anyBetween_91 (by decide) ?_
      exact hE _ _ _ _ _ _ rfl O hf dX1_anyBetween_92
    · have hf := hf.2 c_1
      refine lv_aload_n hx hb dX1_anyBetween_10 rfl (lv_at hl 0 rfl) ?_
      refine r_get C O (k := 5) (j := 0) (v := .ref (q 21)) fX1_11 rfl rfl rfl dX1_anyBetween_11 ?_
      refine lv_iload_n hx hb dX1_anyBetween_14 rfl (lv_at hl 3 rfl) ?_
      refine r_iald C O (k := 21) rfl hf.1 dX1_anyBetween_15 ?_
      have hf := hf.2
      refine lv_iload_n hx hb dX1_anyBetween_16 rfl (lv_at hl 1 rfl) ?_
      refine lv_icmp_ne (tgt := 34) hx hb dX1_anyBetween_17 (by decide) (fun c_2 => ?_) (fun c_2 => ?_)
      · have hf := hf.1 c_2
        exact b_X1_anyBetween_34 C hE ih x1 x2 x3 σ _ _ ls O (lv_sub hl [0, 1, 2, 3] rfl) hf
      · have hf := hf.2 c_2
        refine lv_aload_n hx hb dX1_anyBetween_20 rfl (lv_at hl 0 rfl) ?_
        refine r_get C O (k := 5) (j := 1) (v := .ref (q 22)) fX1_15 rfl rfl rfl dX1_anyBetween_21 ?_
        refine lv_iload_n hx hb dX1_anyBetween_24 rfl (lv_at hl 3 rfl) ?_
        refine r_iald C O (k := 22) rfl hf.1 dX1_anyBetween_25 ?_
        have hf := hf.2
        refine lv_iload_n hx hb dX1_anyBetween_26 rfl (lv_at hl 2 rfl) ?_
        refine lv_icmp_ne (tgt := 34) hx hb dX1_anyBetween_27 (by decide) (fun c_3 => ?_) (fun c_3 => ?_)
        · have hf := hf.1 c_3
          exact b_X1_anyBetween_34 C hE ih x1 x2 x3 σ _ _ ls O (lv_sub hl [0, 1, 2, 3] rfl) hf
        · have hf := hf.2 c_3
          refine lv_iconst (v := 1) hx hb dX1_anyBetween_30 (by decide) ?_
          refine lv_goto (tgt := 35) hx hb dX1_anyBetween_31 (by decide) ?_
          exact b_X1_anyBetween_35 C hE ih x1 x2 x3 1 σ _ _ ls O (lv_sub hl [0, 1, 2, 3] rfl) hf
def w_X1_anyBetween (x1 : Int32) (x2 : Int32) (σ : St) (Q : Int32 → St → Prop) : Prop := ∃ nn : Nat, w_X1_anyBetween_2 Q nn x1 x2 0 σ
set_option maxHeartbeats 4000000 in
set_option maxRecDepth 100000 in
theorem b_X1_anyBetween (C : CX p R s m args meth c cX1_anyBetween 6 RX1 0 0 D cs) (hE : RI p l e R s m args below meth c cX1_anyBetween D cs LC q .boolean Q E) : ∀ (x1 : Int32) (x2 : Int32) (σ : St) (H : Heap) (locs : List Loc) (ls : Array Slot), OK D cs LC q s σ H locs → lv_has ls 6 [(0, .ref (q 5)), (1, .int x1), (2, .int x2)] → w_X1_anyBetween x1 x2 σ Q → W p l e R s m args below meth c H locs 0 0 E (F0 m 0 ls []) := by
  have hx := C.1
  have hb := C.2.1
  intro x1 x2 σ H locs ls O hl hf
  unfold w_X1_anyBetween at hf
  refine lv_iconst (v := 0) hx hb dX1_anyBetween_0 (by decide) ?_
  refine lv_istore_n (lv' := [(3, .int 0), (0, .ref (q 5)), (1, .int x1), (2, .int x2)]) hx hb dX1_anyBetween_1 rfl hl (by decide) rfl (fun ls hl => ?_)
  obtain ⟨nn, hf⟩ := hf
  exact b_X1_anyBetween_2 C hE nn x1 x2 0 σ _ _ ls O (lv_sub hl [1, 2, 3, 0] rfl) hf
theorem c_X1_anyBetween (l : Launch) (x1 : Int32) (x2 : Int32) : MetI l yX1_anyBetween cX1_anyBetween 6 .boolean 0 0 LC 5 (fun q => [.int x1, .int x2]) (w_X1_anyBetween x1 x2) := mk_I (own := RX1) (by decide) rfl (fun q => Nat.le_of_ble_eq_true rfl) (fun C hE O hl hf => b_X1_anyBetween C hE x1 x2 _ _ _ _ O hl hf)
end
section
variable {p : Program} {l : Launch} {e : Env} {R : Room} {s : State} {m : MethodId} {args : Array Value} {below : List Frame} {meth : Method} {c : Code} {E : State → Prop}
variable {D : va_G} {cs : Nat → ClassId} {q : Nat → Nat}
variable {Q : Int32 → St → Prop}
def w_X8_at (x1 : Int32) (x2 : Int32) (σ : St) (Q : Int32 → St → Prop) : Prop := (x1 < 0 → (Q ((-1)) σ)) ∧ (¬ x1 < 0 → ((x2 ≤ x1 → (Q ((-1)) σ)) ∧ (¬ x2 ≤ x1 → (((σ.1 1 1) ≤ x1 → (Q ((-1)) σ)) ∧ (¬ (σ.1 1 1) ≤ x1 → (vp_in x1 40 ∧ (Q (σ.1 11 x1.toNatClampNeg) σ)))))))
set_option maxHeartbeats 4000000 in
set_option maxRecDepth 100000 in
theorem b_X8_at (C : CX p R s m args meth c cX8_at 3 RX8 0 0 D cs) (hE : RI p l e R s m args below meth c cX8_at D cs LC q .int Q E) : ∀ (x1 : Int32) (x2 : Int32) (σ : St) (H : Heap) (locs : List Loc) (ls : Array Slot), OK D cs LC q s σ H locs → lv_has ls 3 [(0, .ref (q 1)), (1, .int x1), (2, .int x2)] → w_X8_at x1 x2 σ Q → W p l e R s m args below meth c H locs 0 0 E (F0 m 0 ls []) := by
  have hx := C.1
  have hb := C.2.1
  intro x1 x2 σ H locs ls O hl hf
  unfold w_X8_at at hf
  refine lv_iload_n hx hb dX8_at_0 rfl (lv_at hl 1 rfl) ?_
  refine lv_if_lt (tgt := 26) hx hb dX8_at_1 (by decide) (fun c_1 => ?_) (fun c_1 => ?_)
  · have hf := hf.1 c_1
    refine lv_iconst (v := (-1)) hx hb dX8_at_26 (by decide) ?_
    exact hE _ _ _ _ _ _ (vp_nar_int _) O hf dX8_at_27
  · have hf := hf.2 c_1
    refine lv_iload_n hx hb dX8_at_4 rfl (lv_at hl 1 rfl) ?_
    refine lv_iload_n hx hb dX8_at_5 rfl (lv_at hl 2 rfl) ?_
    refine lv_icmp_ge (tgt := 26) hx hb dX8_at_6 (by decide) (fun c_2 => ?_) (fun c_2 => ?_)
    · have hf := hf.1 c_2
      refine lv_iconst (v := (-1)) hx hb dX8_at_26 (by decide) ?_
      exact hE _ _ _ _ _ _ (vp_nar_int _) O hf dX8_at_27
    · have hf := hf.2 c_2
      refine lv_iload_n hx hb dX8_at_9 rfl (lv_at hl 1 rfl) ?_
      refine lv_aload_n hx hb dX8_at_10 rfl (lv_at hl 0 rfl) ?_
      refine r_get C O (k := 1) (j := 1) (v := .int (σ.1 1 1)) fX8_13 rfl rfl rfl dX8_at_11 ?_
      refine lv_icmp_ge (tgt := 26) hx hb dX8_at_14 (by decide) (fun c_3 => ?_) (fun c_3 => ?_)
      · have hf := hf.1 c_3
        refine lv_iconst (v := (-1)) hx hb dX8_at_26 (by decide) ?_
        exact hE _ _ _ _ _ _ (vp_nar_int _) O hf dX8_at_27
      · have hf := hf.2 c_3
        refine lv_aload_n hx hb dX8_at_17 rfl (lv_at hl 0 rfl) ?_
        refine r_get C O (k := 1) (j := 0) (v := .ref (q 11)) fX8_9 rfl rfl rfl dX8_at_18 ?_
        refine lv_iload_n hx hb dX8_at_21 rfl (lv_at hl 1 rfl) ?_
        refine r_iald C O (k := 11) rfl hf.1 dX8_at_22 ?_
        have hf := hf.2
        refine lv_goto (tgt := 27) hx hb dX8_at_23 (by decide) ?_
        exact hE _ _ _ _ _ _ (vp_nar_int _) O hf dX8_at_27
theorem c_X8_at (l : Launch) (x1 : Int32) (x2 : Int32) : MetI l yX8_at cX8_at 3 .int 0 0 LC 1 (fun q => [.int x1, .int x2]) (w_X8_at x1 x2) := mk_I (own := RX8) (by decide) rfl (fun q => Nat.le_of_ble_eq_true rfl) (fun C hE O hl hf => b_X8_at C hE x1 x2 _ _ _ _ O hl hf)
end
section
variable {p : Program} {l : Launch} {e : Env} {R : Room} {s : State} {m : MethodId} {args : Array Value} {below : List Frame} {meth : Method} {c : Code} {E : State → Prop}
variable {D : va_G} {cs : Nat → ClassId} {q : Nat → Nat}
variable {Q : Int32 → St → Prop}
def w_X4_add (x1 : Int32) (x2 : Int32) (x3 : Int32) (x4 : Int32) (σ : St) (Q : Int32 → St → Prop) : Prop := ((σ.1 4 4) < 4 → (vp_in (σ.1 4 4) 4 ∧ (∀ σ_2 : St, σ_2 = wr σ 17 (σ.1 4 4).toNatClampNeg x1 → (vp_in (σ_2.1 4 4) 4 ∧ (∀ σ_3 : St, σ_3 = wr σ_2 18 (σ_2.1 4 4).toNatClampNeg x2 → (vp_in (σ_3.1 4 4) 4 ∧ (∀ σ_4 : St, σ_4 = wr σ_3 19 (σ_3.1 4 4).toNatClampNeg x3 → (vp_in (σ_4.1 4 4) 4 ∧ (∀ σ_5 : St, σ_5 = wr σ_4 20 (σ_4.1 4 4).toNatClampNeg x4 → (∀ σ_6 : St, σ_6 = wr σ_5 4 4 ((σ_5.1 4 4) + 1) → (Q ((σ_6.1 4 4) - 1) σ_6))))))))))) ∧ (¬ (σ.1 4 4) < 4 → (Q ((-1)) σ))
set_option maxHeartbeats 4000000 in
set_option maxRecDepth 100000 in
theorem b_X4_add (C : CX p R s m args meth c cX4_add 5 RX4 0 0 D cs) (hE : RI p l e R s m args below meth c cX4_add D cs LC q .int Q E) : ∀ (x1 : Int32) (x2 : Int32) (x3 : Int32) (x4 : Int32) (σ : St) (H : Heap) (locs : List Loc) (ls : Array Slot), OK D cs LC q s σ H locs → lv_has ls 5 [(0, .ref (q 4)), (1, .int x1), (2, .int x2), (3, .int x3), (4, .int x4)] → w_X4_add x1 x2 x3 x4 σ Q → W p l e R s m args below meth c H locs 0 0 E (F0 m 0 ls []) := by
  have hx := C.1
  have hb := C.2.1
  intro x1 x2 x3 x4 σ H locs ls O hl hf
  unfold w_X4_add at hf
  refine lv_aload_n hx hb dX4_add_0 rfl (lv_at hl 0 rfl) ?_
  refine r_get C O (k := 4) (j := 4) (v := .int (σ.1 4 4)) fX4_24 rfl rfl rfl dX4_add_1 ?_
  refine lv_iconst (v := 4) hx hb dX4_add_4 (by decide) ?_
  refine lv_icmp_lt (tgt := 10) hx hb dX4_add_5 (by decide) (fun c_1 => ?_) (fun c_1 => ?_)
  · have hf := hf.1 c_1
    refine lv_aload_n hx hb dX4_add_10 rfl (lv_at hl 0 rfl) ?_
    refine r_get C O (k := 4) (j := 0) (v := .ref (q 17)) fX4_11 rfl rfl rfl dX4_add_11 ?_
    refine lv_aload_n hx hb dX4_add_14 rfl (lv_at hl 0 rfl) ?_
    refine r_get C O (k := 4) (j := 4) (v := .int (σ.1 4 4)) fX4_24 rfl rfl rfl dX4_add_15 ?_
    refine lv_iload_n hx hb dX4_add_18 rfl (lv_at hl 1 rfl) ?_
    refine r_iast C O (k := 17) rfl hf.1 dX4_add_19 (fun H locs σ_2 eσ_2 O => ?_)
    have hf := hf.2 σ_2 eσ_2
    refine lv_aload_n hx hb dX4_add_20 rfl (lv_at hl 0 rfl) ?_
    refine r_get C O (k := 4) (j := 1) (v := .ref (q 18)) fX4_15 rfl rfl rfl dX4_add_21 ?_
    refine lv_aload_n hx hb dX4_add_24 rfl (lv_at hl 0 rfl) ?_
    refine r_get C O (k := 4) (j := 4) (v := .int (σ_2.1 4 4)) fX4_24 rfl rfl rfl dX4_add_25 ?_
    refine lv_iload_n hx hb dX4_add_28 rfl (lv_at hl 2 rfl) ?_
    refine r_iast C O (k := 18) rfl hf.1 dX4_add_29 (fun H locs σ_3 eσ_3 O => ?_)
    have hf := hf.2 σ_3 eσ_3
    refine lv_aload_n hx hb dX4_add_30 rfl (lv_at hl 0 rfl) ?_
    refine r_get C O (k := 4) (j := 2) (v := .ref (q 19)) fX4_18 rfl rfl rfl dX4_add_31 ?_
    refine lv_aload_n hx hb dX4_add_34 rfl (lv_at hl 0 rfl) ?_
    refine r_get C O (k := 4) (j := 4) (v := .int (σ_3.1 4 4)) fX4_24 rfl rfl rfl dX4_add_35 ?_
    refine lv_iload_n hx hb dX4_add_38 rfl (lv_at hl 3 rfl) ?_
    refine r_iast C O (k := 19) rfl hf.1 dX4_add_39 (fun H locs σ_4 eσ_4 O => ?_)
    have hf := hf.2 σ_4 eσ_4
    refine lv_aload_n hx hb dX4_add_40 rfl (lv_at hl 0 rfl) ?_
    refine r_get C O (k := 4) (j := 3) (v := .ref (q 20)) fX4_21 rfl rfl rfl dX4_add_41 ?_
    refine lv_aload_n hx hb dX4_add_44 rfl (lv_at hl 0 rfl) ?_
    refine r_get C O (k := 4) (j := 4) (v := .int (σ_4.1 4 4)) fX4_24 rfl rfl rfl dX4_add_45 ?_
    refine lv_iload hx hb dX4_add_48 (lv_at hl 4 rfl) ?_
    refine r_iast C O (k := 20) rfl hf.1 dX4_add_50 (fun H locs σ_5 eσ_5 O => ?_)
    have hf := hf.2 σ_5 eσ_5
    refine lv_aload_n hx hb dX4_add_51 rfl (lv_at hl 0 rfl) ?_
    refine lv_dup hx hb dX4_add_52 rfl ?_
    refine r_get C O (k := 4) (j := 4) (v := .int (σ_5.1 4 4)) fX4_24 rfl rfl rfl dX4_add_53 ?_
    refine lv_iconst (v := 1) hx hb dX4_add_56 (by decide) ?_
    refine lv_iadd hx hb dX4_add_57 ?_
    refine r_puti C O (k := 4) pX4_24 rfl rfl dX4_add_58 (fun H locs σ_6 eσ_6 O => ?_)
    have hf := hf σ_6 eσ_6
    refine lv_aload_n hx hb dX4_add_61 rfl (lv_at hl 0 rfl) ?_
    refine r_get C O (k := 4) (j := 4) (v := .int (σ_6.1 4 4)) fX4_24 rfl rfl rfl dX4_add_62 ?_
    refine lv_iconst (v := 1) hx hb dX4_add_65 (by decide) ?_
    refine lv_isub hx hb dX4_add_66 ?_
    exact hE _ _ _ _ _ _ (vp_nar_int _) O hf dX4_add_67
  · have hf := hf.2 c_1
    refine lv_iconst (v := (-1)) hx hb dX4_add_8 (by decide) ?_
    exact hE _ _ _ _ _ _ (vp_nar_int _) O hf dX4_add_9
theorem c_X4_add (l : Launch) (x1 : Int32) (x2 : Int32) (x3 : Int32) (x4 : Int32) : MetI l yX4_add cX4_add 5 .int 0 0 LC 4 (fun q => [.int x1, .int x2, .int x3, .int x4]) (w_X4_add x1 x2 x3 x4) := mk_I (own := RX4) (by decide) rfl (fun q => Nat.le_of_ble_eq_true rfl) (fun C hE O hl hf => b_X4_add C hE x1 x2 x3 x4 _ _ _ _ O hl hf)
end
section
variable {p : Program} {l : Launch} {e : Env} {R : Room} {s : State} {m : MethodId} {args : Array Value} {below : List Frame} {meth : Method} {c : Code} {E : State → Prop}
variable {D : va_G} {cs : Nat → ClassId} {q : Nat → Nat}
variable {Q : Int32 → St → Prop}
def w_X4_size (σ : St) (Q : Int32 → St → Prop) : Prop := Q (σ.1 4 4) σ
set_option maxHeartbeats 4000000 in
set_option maxRecDepth 100000 in
theorem b_X4_size (C : CX p R s m args meth c cX4_size 1 RX4 0 0 D cs) (hE : RI p l e R s m args below meth c cX4_size D cs LC q .int Q E) : ∀ (σ : St) (H : Heap) (locs : List Loc) (ls : Array Slot), OK D cs LC q s σ H locs → lv_has ls 1 [(0, .ref (q 4))] → w_X4_size  σ Q → W p l e R s m args below meth c H locs 0 0 E (F0 m 0 ls []) := by
  have hx := C.1
  have hb := C.2.1
  intro  σ H locs ls O hl hf
  unfold w_X4_size at hf
  refine lv_aload_n hx hb dX4_size_0 rfl (lv_at hl 0 rfl) ?_
  refine r_get C O (k := 4) (j := 4) (v := .int (σ.1 4 4)) fX4_24 rfl rfl rfl dX4_size_1 ?_
  exact hE _ _ _ _ _ _ (vp_nar_int _) O hf dX4_size_4
theorem c_X4_size (l : Launch) : MetI l yX4_size cX4_size 1 .int 0 0 LC 4 (fun q => []) (w_X4_size ) := mk_I (own := RX4) (by decide) rfl (fun q => Nat.le_of_ble_eq_true rfl) (fun C hE O hl hf => b_X4_size C hE _ _ _ _ O hl hf)
end
section
variable {p : Program} {l : Launch} {e : Env} {R : Room} {s : State} {m : MethodId} {args : Array Value} {below : List Frame} {meth : Method} {c : Code} {E : State → Prop}
variable {D : va_G} {cs : Nat → ClassId} {q : Nat → Nat}
variable {Q : Int32 → St → Prop}
def w_X4_rateOf (x1 : Int32) (σ : St) (Q : Int32 → St → Prop) : Prop := w_X4_has x1 σ (fun r_2 σ_1 => (r_2 = 0 → (Q ((-1)) σ_1)) ∧ (¬ r_2 = 0 → (vp_in x1 4 ∧ (Q (σ_1.1 20 x1.toNatClampNeg) σ_1))))
set_option maxHeartbeats 4000000 in
set_option maxRecDepth 100000 in
theorem b_X4_rateOf (C : CX p R s m args meth c cX4_rateOf 2 RX4 1 21 D cs) (hE : RI p l e R s m args below meth c cX4_rateOf D cs LC q .int Q E) : ∀ (x1 : Int32) (σ : St) (H : Heap) (locs : List Loc) (ls : Array Slot), OK D cs LC q s σ H locs → lv_has ls 2 [(0, .ref (q 4)), (1, .int x1)] → w_X4_rateOf x1 σ Q → W p l e R s m args below meth c H locs 0 0 E (F0 m 0 ls []) := by
  have hx := C.1
  have hb := C.2.1
  intro x1 σ H locs ls O hl hf
  unfold w_X4_rateOf at hf
  refine lv_aload_n hx hb dX4_rateOf_0 rfl (lv_at hl 0 rfl) ?_
  refine lv_iload_n hx hb dX4_rateOf_1 rfl (lv_at hl 1 rfl) ?_
  refine r_callI C O hl (c_X4_has l x1) mX4_28 (by decide) rfl rfl rfl rfl (Nat.le_of_ble_eq_true rfl) hf dX4_rateOf_2 (fun r_2 σ_1 H locs O hf => ?_)
  refine lv_if_eq (tgt := 17) hx hb dX4_rateOf_5 (by decide) (fun c_3 => ?_) (fun c_3 => ?_)
  · have hf := hf.1 c_3
    refine lv_iconst (v := (-1)) hx hb dX4_rateOf_17 (by decide) ?_
    exact hE _ _ _ _ _ _ (vp_nar_int _) O hf dX4_rateOf_18
  · have hf := hf.2 c_3
    refine lv_aload_n hx hb dX4_rateOf_8 rfl (lv_at hl 0 rfl) ?_
    refine r_get C O (k := 4) (j := 3) (v := .ref (q 20)) fX4_21 rfl rfl rfl dX4_rateOf_9 ?_
    refine lv_iload_n hx hb dX4_rateOf_12 rfl (lv_at hl 1 rfl) ?_
    refine r_iald C O (k := 20) rfl hf.1 dX4_rateOf_13 ?_
    have hf := hf.2
    refine lv_goto (tgt := 18) hx hb dX4_rateOf_14 (by decide) ?_
    exact hE _ _ _ _ _ _ (vp_nar_int _) O hf dX4_rateOf_18
theorem c_X4_rateOf (l : Launch) (x1 : Int32) : MetI l yX4_rateOf cX4_rateOf 2 .int 1 21 LC 4 (fun q => [.int x1]) (w_X4_rateOf x1) := mk_I (own := RX4) (by decide) rfl (fun q => Nat.le_of_ble_eq_true rfl) (fun C hE O hl hf => b_X4_rateOf C hE x1 _ _ _ _ O hl hf)
end
section
variable {p : Program} {l : Launch} {e : Env} {R : Room} {s : State} {m : MethodId} {args : Array Value} {below : List Frame} {meth : Method} {c : Code} {E : State → Prop}
variable {D : va_G} {cs : Nat → ClassId} {q : Nat → Nat}
variable {Q : Int32 → St → Prop}
def w_X7_add (x1 : Int32) (x2 : Int32) (x3 : Int32) (σ : St) (Q : Int32 → St → Prop) : Prop := ((σ.1 6 3) < 20 → (vp_in (σ.1 6 3) 20 ∧ (∀ σ_2 : St, σ_2 = wr σ 27 (σ.1 6 3).toNatClampNeg x1 → (vp_in (σ_2.1 6 3) 20 ∧ (∀ σ_3 : St, σ_3 = wr σ_2 28 (σ_2.1 6 3).toNatClampNeg x2 → (vp_in (σ_3.1 6 3) 20 ∧ (∀ σ_4 : St, σ_4 = wr σ_3 29 (σ_3.1 6 3).toNatClampNeg x3 → (∀ σ_5 : St, σ_5 = wr σ_4 6 3 ((σ_4.1 6 3) + 1) → (Q ((σ_5.1 6 3) - 1) σ_5))))))))) ∧ (¬ (σ.1 6 3) < 20 → (Q ((-1)) σ))
set_option maxHeartbeats 4000000 in
set_option maxRecDepth 100000 in
theorem b_X7_add (C : CX p R s m args meth c cX7_add 4 RX7 0 0 D cs) (hE : RI p l e R s m args below meth c cX7_add D cs LC q .int Q E) : ∀ (x1 : Int32) (x2 : Int32) (x3 : Int32) (σ : St) (H : Heap) (locs : List Loc) (ls : Array Slot), OK D cs LC q s σ H locs → lv_has ls 4 [(0, .ref (q 6)), (1, .int x1), (2, .int x2), (3, .int x3)] → w_X7_add x1 x2 x3 σ Q → W p l e R s m args below meth c H locs 0 0 E (F0 m 0 ls []) := by
  have hx := C.1
  have hb := C.2.1
  intro x1 x2 x3 σ H locs ls O hl hf
  unfold w_X7_add at hf
  refine lv_aload_n hx hb dX7_add_0 rfl (lv_at hl 0 rfl) ?_
  refine r_get C O (k := 6) (j := 3) (v := .int (σ.1 6 3)) fX7_21 rfl rfl rfl dX7_add_1 ?_
  refine lv_bipush (v := 20) hx hb dX7_add_4 (by decide) ?_
  refine lv_icmp_lt (tgt := 11) hx hb dX7_add_6 (by decide) (fun c_1 => ?_) (fun c_1 => ?_)
  · have hf := hf.1 c_1
    refine lv_aload_n hx hb dX7_add_11 rfl (lv_at hl 0 rfl) ?_
    refine r_get C O (k := 6) (j := 0) (v := .ref (q 27)) fX7_11 rfl rfl rfl dX7_add_12 ?_
    refine lv_aload_n hx hb dX7_add_15 rfl (lv_at hl 0 rfl) ?_
    refine r_get C O (k := 6) (j := 3) (v := .int (σ.1 6 3)) fX7_21 rfl rfl rfl dX7_add_16 ?_
    refine lv_iload_n hx hb dX7_add_19 rfl (lv_at hl 1 rfl) ?_
    refine r_iast C O (k := 27) rfl hf.1 dX7_add_20 (fun H locs σ_2 eσ_2 O => ?_)
    have hf := hf.2 σ_2 eσ_2
    refine lv_aload_n hx hb dX7_add_21 rfl (lv_at hl 0 rfl) ?_
    refine r_get C O (k := 6) (j := 1) (v := .ref (q 28)) fX7_15 rfl rfl rfl dX7_add_22 ?_
    refine lv_aload_n hx hb dX7_add_25 rfl (lv_at hl 0 rfl) ?_
    refine r_get C O (k := 6) (j := 3) (v := .int (σ_2.1 6 3)) fX7_21 rfl rfl rfl dX7_add_26 ?_
    refine lv_iload_n hx hb dX7_add_29 rfl (lv_at hl 2 rfl) ?_
    refine r_iast C O (k := 28) rfl hf.1 dX7_add_30 (fun H locs σ_3 eσ_3 O => ?_)
    have hf := hf.2 σ_3 eσ_3
    refine lv_aload_n hx hb dX7_add_31 rfl (lv_at hl 0 rfl) ?_
    refine r_get C O (k := 6) (j := 2) (v := .ref (q 29)) fX7_18 rfl rfl rfl dX7_add_32 ?_
    refine lv_aload_n hx hb dX7_add_35 rfl (lv_at hl 0 rfl) ?_
    refine r_get C O (k := 6) (j := 3) (v := .int (σ_3.1 6 3)) fX7_21 rfl rfl rfl dX7_add_36 ?_
    refine lv_iload_n hx hb dX7_add_39 rfl (lv_at hl 3 rfl) ?_
    refine r_iast C O (k := 29) rfl hf.1 dX7_add_40 (fun H locs σ_4 eσ_4 O => ?_)
    have hf := hf.2 σ_4 eσ_4
    refine lv_aload_n hx hb dX7_add_41 rfl (lv_at hl 0 rfl) ?_
    refine lv_dup hx hb dX7_add_42 rfl ?_
    refine r_get C O (k := 6) (j := 3) (v := .int (σ_4.1 6 3)) fX7_21 rfl rfl rfl dX7_add_43 ?_
    refine lv_iconst (v := 1) hx hb dX7_add_46 (by decide) ?_
    refine lv_iadd hx hb dX7_add_47 ?_
    refine r_puti C O (k := 6) pX7_21 rfl rfl dX7_add_48 (fun H locs σ_5 eσ_5 O => ?_)
    have hf := hf σ_5 eσ_5
    refine lv_aload_n hx hb dX7_add_51 rfl (lv_at hl 0 rfl) ?_
    refine r_get C O (k := 6) (j := 3) (v := .int (σ_5.1 6 3)) fX7_21 rfl rfl rfl dX7_add_52 ?_
    refine lv_iconst (v := 1) hx hb dX7_add_55 (by decide) ?_
    refine lv_isub hx hb dX7_add_56 ?_
    exact hE _ _ _ _ _ _ (vp_nar_int _) O hf dX7_add_57
  · have hf := hf.2 c_1
    refine lv_iconst (v := (-1)) hx hb dX7_add_9 (by decide) ?_
    exact hE _ _ _ _ _ _ (vp_nar_int _) O hf dX7_add_10
theorem c_X7_add (l : Launch) (x1 : Int32) (x2 : Int32) (x3 : Int32) : MetI l yX7_add cX7_add 4 .int 0 0 LC 6 (fun q => [.int x1, .int x2, .int x3]) (w_X7_add x1 x2 x3) := mk_I (own := RX7) (by decide) rfl (fun q => Nat.le_of_ble_eq_true rfl) (fun C hE O hl hf => b_X7_add C hE x1 x2 x3 _ _ _ _ O hl hf)
end
section
variable {p : Program} {l : Launch} {e : Env} {R : Room} {s : State} {m : MethodId} {args : Array Value} {below : List Frame} {meth : Method} {c : Code} {E : State → Prop}
variable {D : va_G} {cs : Nat → ClassId} {q : Nat → Nat}
variable {Q : Int32 → St → Prop}
def w_X7_size (σ : St) (Q : Int32 → St → Prop) : Prop := Q (σ.1 6 3) σ
set_option maxHeartbeats 4000000 in
set_option maxRecDepth 100000 in
theorem b_X7_size (C : CX p R s m args meth c cX7_size 1 RX7 0 0 D cs) (hE : RI p l e R s m args below meth c cX7_size D cs LC q .int Q E) : ∀ (σ : St) (H : Heap) (locs : List Loc) (ls : Array Slot), OK D cs LC q s σ H locs → lv_has ls 1 [(0, .ref (q 6))] → w_X7_size  σ Q → W p l e R s m args below meth c H locs 0 0 E (F0 m 0 ls []) := by
  have hx := C.1
  have hb := C.2.1
  intro  σ H locs ls O hl hf
  unfold w_X7_size at hf
  refine lv_aload_n hx hb dX7_size_0 rfl (lv_at hl 0 rfl) ?_
  refine r_get C O (k := 6) (j := 3) (v := .int (σ.1 6 3)) fX7_21 rfl rfl rfl dX7_size_1 ?_
  exact hE _ _ _ _ _ _ (vp_nar_int _) O hf dX7_size_4
theorem c_X7_size (l : Launch) : MetI l yX7_size cX7_size 1 .int 0 0 LC 6 (fun q => []) (w_X7_size ) := mk_I (own := RX7) (by decide) rfl (fun q => Nat.le_of_ble_eq_true rfl) (fun C hE O hl hf => b_X7_size C hE _ _ _ _ O hl hf)
end
section
variable {p : Program} {l : Launch} {e : Env} {R : Room} {s : State} {m : MethodId} {args : Array Value} {below : List Frame} {meth : Method} {c : Code} {E : State → Prop}
variable {D : va_G} {cs : Nat → ClassId} {q : Nat → Nat}
variable {Q : Int32 → St → Prop}
def w_X8_length (σ : St) (Q : Int32 → St → Prop) : Prop := Q (σ.1 1 1) σ
set_option maxHeartbeats 4000000 in
set_option maxRecDepth 100000 in
theorem b_X8_length (C : CX p R s m args meth c cX8_length 1 RX8 0 0 D cs) (hE : RI p l e R s m args below meth c cX8_length D cs LC q .int Q E) : ∀ (σ : St) (H : Heap) (locs : List Loc) (ls : Array Slot), OK D cs LC q s σ H locs → lv_has ls 1 [(0, .ref (q 1))] → w_X8_length  σ Q → W p l e R s m args below meth c H locs 0 0 E (F0 m 0 ls []) := by
  have hx := C.1
  have hb := C.2.1
  intro  σ H locs ls O hl hf
  unfold w_X8_length at hf
  refine lv_aload_n hx hb dX8_length_0 rfl (lv_at hl 0 rfl) ?_
  refine r_get C O (k := 1) (j := 1) (v := .int (σ.1 1 1)) fX8_13 rfl rfl rfl dX8_length_1 ?_
  exact hE _ _ _ _ _ _ (vp_nar_int _) O hf dX8_length_4
theorem c_X8_length (l : Launch) : MetI l yX8_length cX8_length 1 .int 0 0 LC 1 (fun q => []) (w_X8_length ) := mk_I (own := RX8) (by decide) rfl (fun q => Nat.le_of_ble_eq_true rfl) (fun C hE O hl hf => b_X8_length C hE _ _ _ _ O hl hf)
end
section
variable {p : Program} {l : Launch} {e : Env} {R : Room} {s : State} {m : MethodId} {args : Array Value} {below : List Frame} {meth : Method} {c : Code} {E : State → Prop}
variable {D : va_G} {cs : Nat → ClassId} {q : Nat → Nat}
variable {Q : Int32 → St → Prop}
def w_X8_hasRoom (σ : St) (Q : Int32 → St → Prop) : Prop := (40 < ((σ.1 1 1) + 20) → (Q 0 σ)) ∧ (¬ 40 < ((σ.1 1 1) + 20) → (Q 1 σ))
set_option maxHeartbeats 4000000 in
set_option maxRecDepth 100000 in
theorem b_X8_hasRoom (C : CX p R s m args meth c cX8_hasRoom 1 RX8 0 0 D cs) (hE : RI p l e R s m args below meth c cX8_hasRoom D cs LC q .boolean Q E) : ∀ (σ : St) (H : Heap) (locs : List Loc) (ls : Array Slot), OK D cs LC q s σ H locs → lv_has ls 1 [(0, .ref (q 1))] → w_X8_hasRoom  σ Q → W p l e R s m args below meth c H locs 0 0 E (F0 m 0 ls []) := by
  have hx := C.1
  have hb := C.2.1
  intro  σ H locs ls O hl hf
  unfold w_X8_hasRoom at hf
  refine lv_aload_n hx hb dX8_hasRoom_0 rfl (lv_at hl 0 rfl) ?_
  refine r_get C O (k := 1) (j := 1) (v := .int (σ.1 1 1)) fX8_13 rfl rfl rfl dX8_hasRoom_1 ?_
  refine lv_bipush (v := 20) hx hb dX8_hasRoom_4 (by decide) ?_
  refine lv_iadd hx hb dX8_hasRoom_6 ?_
  refine lv_bipush (v := 40) hx hb dX8_hasRoom_7 (by decide) ?_
  refine lv_icmp_gt (tgt := 16) hx hb dX8_hasRoom_9 (by decide) (fun c_1 => ?_) (fun c_1 => ?_)
  · have hf := hf.1 c_1
    refine lv_iconst (v := 0) hx hb dX8_hasRoom_16 (by decide) ?_
    exact hE _ _ _ _ _ _ rfl O hf dX8_hasRoom_17
  · have hf := hf.2 c_1
    refine lv_iconst (v := 1) hx hb dX8_hasRoom_12 (by decide) ?_
    refine lv_goto (tgt := 17) hx hb dX8_hasRoom_13 (by decide) ?_
    exact hE _ _ _ _ _ _ rfl O hf dX8_hasRoom_17
theorem c_X8_hasRoom (l : Launch) : MetI l yX8_hasRoom cX8_hasRoom 1 .boolean 0 0 LC 1 (fun q => []) (w_X8_hasRoom ) := mk_I (own := RX8) (by decide) rfl (fun q => Nat.le_of_ble_eq_true rfl) (fun C hE O hl hf => b_X8_hasRoom C hE _ _ _ _ O hl hf)
end
section
variable {p : Program} {l : Launch} {e : Env} {R : Room} {s : State} {m : MethodId} {args : Array Value} {below : List Frame} {meth : Method} {c : Code} {E : State → Prop}
variable {D : va_G} {cs : Nat → ClassId} {q : Nat → Nat}
variable {Q : St → Prop}
def w_X8_write_3 (Q : St → Prop) : Nat → Int32 → Int32 → St → Prop
  | 0, _, _, _ => False
  | n + 1, x1, x2, σ => (x2 < 0 → (Q σ)) ∧ (¬ x2 < 0 → ((40 ≤ (σ.1 1 1) → (w_X8_write_3 Q n x1 (x2 + (-8)) σ)) ∧ (¬ 40 ≤ (σ.1 1 1) → (vp_in (σ.1 1 1) 40 ∧ (∀ σ_3 : St, σ_3 = wr σ 11 (σ.1 1 1).toNatClampNeg (((x1.toUInt32 >>> ((x2 : Int32).toUInt32 &&& Int32.toUInt32 31)).toInt32) &&& 255) → (∀ σ_4 : St, σ_4 = wr σ_3 1 1 ((σ_3.1 1 1) + 1) → (w_X8_write_3 Q n x1 (x2 + (-8)) σ_4)))))))
set_option maxHeartbeats 4000000 in
set_option maxRecDepth 100000 in
theorem b_X8_write_3 (C : CX p R s m args meth c cX8_write 3 RX8 0 0 D cs) (hE : RV p l e R s m args below meth c cX8_write D cs LC q Q E) : ∀ n : Nat, ∀ (x1 : Int32) (x2 : Int32) (σ : St) (H : Heap) (locs : List Loc) (ls : Array Slot), OK D cs LC q s σ H locs → lv_has ls 3 [(0, .ref (q 1)), (1, .int x1), (2, .int x2)] → w_X8_write_3 Q n x1 x2 σ → W p l e R s m args below meth c H locs 0 0 E (F0 m 3 ls []) := by
  have hx := C.1
  have hb := C.2.1
  intro n
  induction n with
  | zero => intro x1 x2 σ H locs ls O hl hf; exact hf.elim
  | succ n ih =>
    intro x1 x2 σ H locs ls O hl hf
    unfold w_X8_write_3 at hf
    refine lv_iload_n hx hb dX8_write_3 rfl (lv_at hl 2 rfl) ?_
    refine lv_if_lt (tgt := 48) hx hb dX8_write_4 (by decide) (fun c_1 => ?_) (fun c_1 => ?_)
    · have hf := hf.1 c_1
      exact hE _ _ _ _ _ O hf dX8_write_48
    · have hf := hf.2 c_1
      refine lv_aload_n hx hb dX8_write_7 rfl (lv_at hl 0 rfl) ?_
      refine r_get C O (k := 1) (j := 1) (v := .int (σ.1 1 1)) fX8_13 rfl rfl rfl dX8_write_8 ?_
      refine lv_bipush (v := 40) hx hb dX8_write_11 (by decide) ?_
      refine lv_icmp_ge (tgt := 42) hx hb dX8_write_13 (by decide) (fun c_2 => ?_) (fun c_2 => ?_)
      · have hf := hf.1 c_2
        refine lv_iinc (v := x2 + (-8)) (lv' := [(2, .int (x2 + (-8))), (0, .ref (q 1)), (1, .int x1)]) hx hb dX8_write_42 hl (k := 2) rfl rfl (by decide) rfl (fun ls hl => ?_)
        refine lv_goto (tgt := 3) hx hb dX8_write_45 (by decide) ?_
        exact ih x1 (x2 + (-8)) σ _ _ ls O (lv_sub hl [1, 2, 0] rfl) hf
      · have hf := hf.2 c_2
        refine lv_aload_n hx hb dX8_write_16 rfl (lv_at hl 0 rfl) ?_
        refine r_get C O (k := 1) (j := 0) (v := .ref (q 11)) fX8_9 rfl rfl rfl dX8_write_17 ?_
        refine lv_aload_n hx hb dX8_write_20 rfl (lv_at hl 0 rfl) ?_
        refine r_get C O (k := 1) (j := 1) (v := .int (σ.1 1 1)) fX8_13 rfl rfl rfl dX8_write_21 ?_
        refine lv_iload_n hx hb dX8_write_24 rfl (lv_at hl 1 rfl) ?_
        refine lv_iload_n hx hb dX8_write_25 rfl (lv_at hl 2 rfl) ?_
        refine lv_iushr (v := (x1.toUInt32 >>> ((x2 : Int32).toUInt32 &&& Int32.toUInt32 31)).toInt32) hx hb dX8_write_26 rfl ?_
        refine lv_sipush (v := 255) hx hb dX8_write_27 (by decide) ?_
        refine lv_iand hx hb dX8_write_30 ?_
        refine r_iast C O (k := 11) rfl hf.1 dX8_write_31 (fun H locs σ_3 eσ_3 O => ?_)
        have hf := hf.2 σ_3 eσ_3
        refine lv_aload_n hx hb dX8_write_32 rfl (lv_at hl 0 rfl) ?_
        refine lv_dup hx hb dX8_write_33 rfl ?_
        refine r_get C O (k := 1) (j := 1) (v := .int (σ_3.1 1 1)) fX8_13 rfl rfl rfl dX8_write_34 ?_
        refine lv_iconst (v := 1) hx hb dX8_write_37 (by decide) ?_
        refine lv_iadd hx hb dX8_write_38 ?_
        refine r_puti C O (k := 1) pX8_13 rfl rfl dX8_write_39 (fun H locs σ_4 eσ_4 O => ?_)
        have hf := hf σ_4 eσ_4
        refine lv_iinc (v := x2 + (-8)) (lv' := [(2, .int (x2 + (-8))), (0, .ref (q 1)), (1, .int x1)]) hx hb dX8_write_42 hl (k := 2) rfl rfl (by decide) rfl (fun ls hl => ?_)
        refine lv_goto (tgt := 3) hx hb dX8_write_45 (by decide) ?_
        exact ih x1 (x2 + (-8)) σ_4 _ _ ls O (lv_sub hl [1, 2, 0] rfl) hf
def w_X8_write (x1 : Int32) (σ : St) (Q : St → Prop) : Prop := ∃ nn : Nat, w_X8_write_3 Q nn x1 24 σ
set_option maxHeartbeats 4000000 in
set_option maxRecDepth 100000 in
theorem b_X8_write (C : CX p R s m args meth c cX8_write 3 RX8 0 0 D cs) (hE : RV p l e R s m args below meth c cX8_write D cs LC q Q E) : ∀ (x1 : Int32) (σ : St) (H : Heap) (locs : List Loc) (ls : Array Slot), OK D cs LC q s σ H locs → lv_has ls 3 [(0, .ref (q 1)), (1, .int x1)] → w_X8_write x1 σ Q → W p l e R s m args below meth c H locs 0 0 E (F0 m 0 ls []) := by
  have hx := C.1
  have hb := C.2.1
  intro x1 σ H locs ls O hl hf
  unfold w_X8_write at hf
  refine lv_bipush (v := 24) hx hb dX8_write_0 (by decide) ?_
  refine lv_istore_n (lv' := [(2, .int 24), (0, .ref (q 1)), (1, .int x1)]) hx hb dX8_write_2 rfl hl (by decide) rfl (fun ls hl => ?_)
  obtain ⟨nn, hf⟩ := hf
  exact b_X8_write_3 C hE nn x1 24 σ _ _ ls O (lv_sub hl [1, 2, 0] rfl) hf
theorem c_X8_write (l : Launch) (x1 : Int32) : MetV l yX8_write cX8_write 3 0 0 LC 1 (fun q => [.int x1]) (w_X8_write x1) := mk_V (own := RX8) (by decide) rfl (fun q => Nat.le_of_ble_eq_true rfl) (fun C hE O hl hf => b_X8_write C hE x1 _ _ _ _ O hl hf)
end
section
variable {p : Program} {l : Launch} {e : Env} {R : Room} {s : State} {m : MethodId} {args : Array Value} {below : List Frame} {meth : Method} {c : Code} {E : State → Prop}
variable {D : va_G} {cs : Nat → ClassId} {q : Nat → Nat}
variable {Q : St → Prop}
def w_X8_wipe (σ : St) (Q : St → Prop) : Prop := ∀ σ_1 : St, σ_1 = wr σ 1 1 0 → (Q σ_1)
set_option maxHeartbeats 4000000 in
set_option maxRecDepth 100000 in
theorem b_X8_wipe (C : CX p R s m args meth c cX8_wipe 1 RX8 0 0 D cs) (hE : RV p l e R s m args below meth c cX8_wipe D cs LC q Q E) : ∀ (σ : St) (H : Heap) (locs : List Loc) (ls : Array Slot), OK D cs LC q s σ H locs → lv_has ls 1 [(0, .ref (q 1))] → w_X8_wipe  σ Q → W p l e R s m args below meth c H locs 0 0 E (F0 m 0 ls []) := by
  have hx := C.1
  have hb := C.2.1
  intro  σ H locs ls O hl hf
  unfold w_X8_wipe at hf
  refine lv_aload_n hx hb dX8_wipe_0 rfl (lv_at hl 0 rfl) ?_
  refine lv_iconst (v := 0) hx hb dX8_wipe_1 (by decide) ?_
  refine r_puti C O (k := 1) pX8_13 rfl rfl dX8_wipe_2 (fun H locs σ_1 eσ_1 O => ?_)
  have hf := hf σ_1 eσ_1
  exact hE _ _ _ _ _ O hf dX8_wipe_5
theorem c_X8_wipe (l : Launch) : MetV l yX8_wipe cX8_wipe 1 0 0 LC 1 (fun q => []) (w_X8_wipe ) := mk_V (own := RX8) (by decide) rfl (fun q => Nat.le_of_ble_eq_true rfl) (fun C hE O hl hf => b_X8_wipe C hE _ _ _ _ O hl hf)
end
section
variable {p : Program} {l : Launch} {e : Env} {R : Room} {s : State} {m : MethodId} {args : Array Value} {below : List Frame} {meth : Method} {c : Code} {E : State → Prop}
variable {D : va_G} {cs : Nat → ClassId} {q : Nat → Nat}
variable {Q : St → Prop}
def w_X9_put (x1 : Int32) (x2 : Int32) (x3 : Int32) (σ : St) (Q : St → Prop) : Prop := w_X10_isField x1 (fun r_1 => (r_1 = 0 → (Q σ)) ∧ (¬ r_1 = 0 → (w_X10_isField x2 (fun r_3 => (r_3 = 0 → (Q σ)) ∧ (¬ r_3 = 0 → (vp_in ((x1 * 8) + x2) 64 ∧ (∀ σ_5 : St, σ_5 = wr σ 16 ((x1 * 8) + x2).toNatClampNeg x3 → (vp_in ((x2 * 8) + x1) 64 ∧ (∀ σ_6 : St, σ_6 = wr σ_5 16 ((x2 * 8) + x1).toNatClampNeg x3 → (Q σ_6))))))))))
set_option maxHeartbeats 4000000 in
set_option maxRecDepth 100000 in
theorem b_X9_put (C : CX p R s m args meth c cX9_put 4 RX9 1 20 D cs) (hE : RV p l e R s m args below meth c cX9_put D cs LC q Q E) : ∀ (x1 : Int32) (x2 : Int32) (x3 : Int32) (σ : St) (H : Heap) (locs : List Loc) (ls : Array Slot), OK D cs LC q s σ H locs → lv_has ls 4 [(0, .ref (q 3)), (1, .int x1), (2, .int x2), (3, .int x3)] → w_X9_put x1 x2 x3 σ Q → W p l e R s m args below meth c H locs 0 0 E (F0 m 0 ls []) := by
  have hx := C.1
  have hb := C.2.1
  intro x1 x2 x3 σ H locs ls O hl hf
  unfold w_X9_put at hf
  refine lv_iload_n hx hb dX9_put_0 rfl (lv_at hl 1 rfl) ?_
  refine r_callN C hl (c_X10_isField l x1) mX9_15 (by decide) rfl rfl (Nat.le_of_ble_eq_true rfl) hf dX9_put_1 (fun r_1 hf => ?_)
  refine lv_if_eq (tgt := 38) hx hb dX9_put_4 (by decide) (fun c_2 => ?_) (fun c_2 => ?_)
  · have hf := hf.1 c_2
    exact hE _ _ _ _ _ O hf dX9_put_38
  · have hf := hf.2 c_2
    refine lv_iload_n hx hb dX9_put_7 rfl (lv_at hl 2 rfl) ?_
    refine r_callN C hl (c_X10_isField l x2) mX9_15 (by decide) rfl rfl (Nat.le_of_ble_eq_true rfl) hf dX9_put_8 (fun r_3 hf => ?_)
    refine lv_if_eq (tgt := 38) hx hb dX9_put_11 (by decide) (fun c_4 => ?_) (fun c_4 => ?_)
    · have hf := hf.1 c_4
      exact hE _ _ _ _ _ O hf dX9_put_38
    · have hf := hf.2 c_4
      refine lv_aload_n hx hb dX9_put_14 rfl (lv_at hl 0 rfl) ?_
      refine r_get C O (k := 3) (j := 0) (v := .ref (q 16)) fX9_9 rfl rfl rfl dX9_put_15 ?_
      refine lv_iload_n hx hb dX9_put_18 rfl (lv_at hl 1 rfl) ?_
      refine lv_bipush (v := 8) hx hb dX9_put_19 (by decide) ?_
      refine lv_imul hx hb dX9_put_21 ?_
      refine lv_iload_n hx hb dX9_put_22 rfl (lv_at hl 2 rfl) ?_
      refine lv_iadd hx hb dX9_put_23 ?_
      refine lv_iload_n hx hb dX9_put_24 rfl (lv_at hl 3 rfl) ?_
      refine r_iast C O (k := 16) rfl hf.1 dX9_put_25 (fun H locs σ_5 eσ_5 O => ?_)
      have hf := hf.2 σ_5 eσ_5
      refine lv_aload_n hx hb dX9_put_26 rfl (lv_at hl 0 rfl) ?_
      refine r_get C O (k := 3) (j := 0) (v := .ref (q 16)) fX9_9 rfl rfl rfl dX9_put_27 ?_
      refine lv_iload_n hx hb dX9_put_30 rfl (lv_at hl 2 rfl) ?_
      refine lv_bipush (v := 8) hx hb dX9_put_31 (by decide) ?_
      refine lv_imul hx hb dX9_put_33 ?_
      refine lv_iload_n hx hb dX9_put_34 rfl (lv_at hl 1 rfl) ?_
      refine lv_iadd hx hb dX9_put_35 ?_
      refine lv_iload_n hx hb dX9_put_36 rfl (lv_at hl 3 rfl) ?_
      refine r_iast C O (k := 16) rfl hf.1 dX9_put_37 (fun H locs σ_6 eσ_6 O => ?_)
      have hf := hf.2 σ_6 eσ_6
      exact hE _ _ _ _ _ O hf dX9_put_38
theorem c_X9_put (l : Launch) (x1 : Int32) (x2 : Int32) (x3 : Int32) : MetV l yX9_put cX9_put 4 1 20 LC 3 (fun q => [.int x1, .int x2, .int x3]) (w_X9_put x1 x2 x3) := mk_V (own := RX9) (by decide) rfl (fun q => Nat.le_of_ble_eq_true rfl) (fun C hE O hl hf => b_X9_put C hE x1 x2 x3 _ _ _ _ O hl hf)
end
