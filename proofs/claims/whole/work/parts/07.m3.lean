section
variable {p : Program} {l : Launch} {e : Env} {R : Room} {s : State} {m : MethodId} {args : Array Value} {below : List Frame} {meth : Method} {c : Code} {E : State → Prop}
variable {D : va_G} {cs : Nat → ClassId} {q : Nat → Nat}
variable {Q : St → Prop}
def w_X0_resume (x1 : Int32) (x2 : Int32) (x3 : Int32) (σ : St) (Q : St → Prop) : Prop := ∀ σ_1 : St, σ_1 = wr σ 8 7 x1 → (∀ σ_2 : St, σ_2 = wr σ_1 8 8 x2 → (∀ σ_3 : St, σ_3 = wr σ_2 8 9 x3 → (Q σ_3)))
set_option maxHeartbeats 4000000 in
set_option maxRecDepth 100000 in
theorem b_X0_resume (C : CX p R s m args meth c cX0_resume 4 RX0 0 0 D cs) (hE : RV p l e R s m args below meth c cX0_resume D cs LC q Q E) : ∀ (x1 : Int32) (x2 : Int32) (x3 : Int32) (σ : St) (H : Heap) (locs : List Loc) (ls : Array Slot), OK D cs LC q s σ H locs → lv_has ls 4 [(0, .ref (q 8)), (1, .int x1), (2, .int x2), (3, .int x3)] → w_X0_resume x1 x2 x3 σ Q → W p l e R s m args below meth c H locs 0 0 E (F0 m 0 ls []) := by
  have hx := C.1
  have hb := C.2.1
  intro x1 x2 x3 σ H locs ls O hl hf
  unfold w_X0_resume at hf
  refine lv_aload_n hx hb dX0_resume_0 rfl (lv_at hl 0 rfl) ?_
  refine lv_iload_n hx hb dX0_resume_1 rfl (lv_at hl 1 rfl) ?_
  refine r_puti C O (k := 8) pX0_54 rfl rfl dX0_resume_2 (fun H locs σ_1 eσ_1 O => ?_)
  have hf := hf σ_1 eσ_1
  refine lv_aload_n hx hb dX0_resume_5 rfl (lv_at hl 0 rfl) ?_
  refine lv_iload_n hx hb dX0_resume_6 rfl (lv_at hl 2 rfl) ?_
  refine r_puti C O (k := 8) pX0_57 rfl rfl dX0_resume_7 (fun H locs σ_2 eσ_2 O => ?_)
  have hf := hf σ_2 eσ_2
  refine lv_aload_n hx hb dX0_resume_10 rfl (lv_at hl 0 rfl) ?_
  refine lv_iload_n hx hb dX0_resume_11 rfl (lv_at hl 3 rfl) ?_
  refine r_puti C O (k := 8) pX0_60 rfl rfl dX0_resume_12 (fun H locs σ_3 eσ_3 O => ?_)
  have hf := hf σ_3 eσ_3
  exact hE _ _ _ _ _ O hf dX0_resume_15
theorem c_X0_resume (l : Launch) (x1 : Int32) (x2 : Int32) (x3 : Int32) : MetV l yX0_resume cX0_resume 4 0 0 LC 8 (fun q => [.int x1, .int x2, .int x3]) (w_X0_resume x1 x2 x3) := mk_V (own := RX0) (by decide) rfl (fun q => Nat.le_of_ble_eq_true rfl) (fun C hE O hl hf => b_X0_resume C hE x1 x2 x3 _ _ _ _ O hl hf)
end
section
variable {p : Program} {l : Launch} {e : Env} {R : Room} {s : State} {m : MethodId} {args : Array Value} {below : List Frame} {meth : Method} {c : Code} {E : State → Prop}
variable {D : va_G} {cs : Nat → ClassId} {q : Nat → Nat}
variable {Q : St → Prop}
def w_X0_begin (x1 : Int32) (σ : St) (Q : St → Prop) : Prop := w_X4_seatsOf x1 σ (fun r_2 σ_1 => ∀ σ_3 : St, σ_3 = wr σ_1 8 5 r_2 → (w_X4_turnOf x1 σ_3 (fun r_5 σ_4 => ∀ σ_6 : St, σ_6 = wr σ_4 8 6 r_5 → (w_X4_homeOf x1 σ_6 (fun r_8 σ_7 => w_X0_resume r_8 0 ((-1)) σ_7 (fun σ_9 => Q σ_9))))))
set_option maxHeartbeats 4000000 in
set_option maxRecDepth 100000 in
theorem b_X0_begin (C : CX p R s m args meth c cX0_begin 2 RX0 2 42 D cs) (hE : RV p l e R s m args below meth c cX0_begin D cs LC q Q E) : ∀ (x1 : Int32) (σ : St) (H : Heap) (locs : List Loc) (ls : Array Slot), OK D cs LC q s σ H locs → lv_has ls 2 [(0, .ref (q 8)), (1, .int x1)] → w_X0_begin x1 σ Q → W p l e R s m args below meth c H locs 0 0 E (F0 m 0 ls []) := by
  have hx := C.1
  have hb := C.2.1
  intro x1 σ H locs ls O hl hf
  unfold w_X0_begin at hf
  refine lv_aload_n hx hb dX0_begin_0 rfl (lv_at hl 0 rfl) ?_
  refine lv_aload_n hx hb dX0_begin_1 rfl (lv_at hl 0 rfl) ?_
  refine r_get C O (k := 8) (j := 0) (v := .ref (q 4)) fX0_9 rfl rfl rfl dX0_begin_2 ?_
  refine lv_iload_n hx hb dX0_begin_5 rfl (lv_at hl 1 rfl) ?_
  refine r_callI C O hl (c_X4_seatsOf l x1) mX0_31 (by decide) rfl rfl rfl rfl (Nat.le_of_ble_eq_true rfl) hf dX0_begin_6 (fun r_2 σ_1 H locs O hf => ?_)
  refine r_puti C O (k := 8) pX0_37 rfl rfl dX0_begin_9 (fun H locs σ_3 eσ_3 O => ?_)
  have hf := hf σ_3 eσ_3
  refine lv_aload_n hx hb dX0_begin_12 rfl (lv_at hl 0 rfl) ?_
  refine lv_aload_n hx hb dX0_begin_13 rfl (lv_at hl 0 rfl) ?_
  refine r_get C O (k := 8) (j := 0) (v := .ref (q 4)) fX0_9 rfl rfl rfl dX0_begin_14 ?_
  refine lv_iload_n hx hb dX0_begin_17 rfl (lv_at hl 1 rfl) ?_
  refine r_callI C O hl (c_X4_turnOf l x1) mX0_41 (by decide) rfl rfl rfl rfl (Nat.le_of_ble_eq_true rfl) hf dX0_begin_18 (fun r_5 σ_4 H locs O hf => ?_)
  refine r_puti C O (k := 8) pX0_44 rfl rfl dX0_begin_21 (fun H locs σ_6 eσ_6 O => ?_)
  have hf := hf σ_6 eσ_6
  refine lv_aload_n hx hb dX0_begin_24 rfl (lv_at hl 0 rfl) ?_
  refine lv_aload_n hx hb dX0_begin_25 rfl (lv_at hl 0 rfl) ?_
  refine r_get C O (k := 8) (j := 0) (v := .ref (q 4)) fX0_9 rfl rfl rfl dX0_begin_26 ?_
  refine lv_iload_n hx hb dX0_begin_29 rfl (lv_at hl 1 rfl) ?_
  refine r_callI C O hl (c_X4_homeOf l x1) mX0_47 (by decide) rfl rfl rfl rfl (Nat.le_of_ble_eq_true rfl) hf dX0_begin_30 (fun r_8 σ_7 H locs O hf => ?_)
  refine lv_iconst (v := 0) hx hb dX0_begin_33 (by decide) ?_
  refine lv_iconst (v := (-1)) hx hb dX0_begin_34 (by decide) ?_
  refine r_callV C O hl (c_X0_resume l r_8 0 ((-1))) mX0_50 (by decide) rfl rfl rfl rfl (Nat.le_of_ble_eq_true rfl) hf dX0_begin_35 (fun σ_9 H locs O hf => ?_)
  exact hE _ _ _ _ _ O hf dX0_begin_38
theorem c_X0_begin (l : Launch) (x1 : Int32) : MetV l yX0_begin cX0_begin 2 2 42 LC 8 (fun q => [.int x1]) (w_X0_begin x1) := mk_V (own := RX0) (by decide) rfl (fun q => Nat.le_of_ble_eq_true rfl) (fun C hE O hl hf => b_X0_begin C hE x1 _ _ _ _ O hl hf)
end
section
variable {p : Program} {l : Launch} {e : Env} {R : Room} {s : State} {m : MethodId} {args : Array Value} {below : List Frame} {meth : Method} {c : Code} {E : State → Prop}
variable {D : va_G} {cs : Nat → ClassId} {q : Nat → Nat}
variable {Q : Int32 → St → Prop}
def w_X0_place (σ : St) (Q : Int32 → St → Prop) : Prop := Q (σ.1 8 7) σ
set_option maxHeartbeats 4000000 in
set_option maxRecDepth 100000 in
theorem b_X0_place (C : CX p R s m args meth c cX0_place 1 RX0 0 0 D cs) (hE : RI p l e R s m args below meth c cX0_place D cs LC q .int Q E) : ∀ (σ : St) (H : Heap) (locs : List Loc) (ls : Array Slot), OK D cs LC q s σ H locs → lv_has ls 1 [(0, .ref (q 8))] → w_X0_place  σ Q → W p l e R s m args below meth c H locs 0 0 E (F0 m 0 ls []) := by
  have hx := C.1
  have hb := C.2.1
  intro  σ H locs ls O hl hf
  unfold w_X0_place at hf
  refine lv_aload_n hx hb dX0_place_0 rfl (lv_at hl 0 rfl) ?_
  refine r_get C O (k := 8) (j := 7) (v := .int (σ.1 8 7)) fX0_54 rfl rfl rfl dX0_place_1 ?_
  exact hE _ _ _ _ _ _ (vp_nar_int _) O hf dX0_place_4
theorem c_X0_place (l : Launch) : MetI l yX0_place cX0_place 1 .int 0 0 LC 8 (fun q => []) (w_X0_place ) := mk_I (own := RX0) (by decide) rfl (fun q => Nat.le_of_ble_eq_true rfl) (fun C hE O hl hf => b_X0_place C hE _ _ _ _ O hl hf)
end
section
variable {p : Program} {l : Launch} {e : Env} {R : Room} {s : State} {m : MethodId} {args : Array Value} {below : List Frame} {meth : Method} {c : Code} {E : State → Prop}
variable {D : va_G} {cs : Nat → ClassId} {q : Nat → Nat}
variable {Q : Int32 → St → Prop}
def w_X0_ended (σ : St) (Q : Int32 → St → Prop) : Prop := Q (σ.1 8 8) σ
set_option maxHeartbeats 4000000 in
set_option maxRecDepth 100000 in
theorem b_X0_ended (C : CX p R s m args meth c cX0_ended 1 RX0 0 0 D cs) (hE : RI p l e R s m args below meth c cX0_ended D cs LC q .int Q E) : ∀ (σ : St) (H : Heap) (locs : List Loc) (ls : Array Slot), OK D cs LC q s σ H locs → lv_has ls 1 [(0, .ref (q 8))] → w_X0_ended  σ Q → W p l e R s m args below meth c H locs 0 0 E (F0 m 0 ls []) := by
  have hx := C.1
  have hb := C.2.1
  intro  σ H locs ls O hl hf
  unfold w_X0_ended at hf
  refine lv_aload_n hx hb dX0_ended_0 rfl (lv_at hl 0 rfl) ?_
  refine r_get C O (k := 8) (j := 8) (v := .int (σ.1 8 8)) fX0_57 rfl rfl rfl dX0_ended_1 ?_
  exact hE _ _ _ _ _ _ (vp_nar_int _) O hf dX0_ended_4
theorem c_X0_ended (l : Launch) : MetI l yX0_ended cX0_ended 1 .int 0 0 LC 8 (fun q => []) (w_X0_ended ) := mk_I (own := RX0) (by decide) rfl (fun q => Nat.le_of_ble_eq_true rfl) (fun C hE O hl hf => b_X0_ended C hE _ _ _ _ O hl hf)
end
section
variable {p : Program} {l : Launch} {e : Env} {R : Room} {s : State} {m : MethodId} {args : Array Value} {below : List Frame} {meth : Method} {c : Code} {E : State → Prop}
variable {D : va_G} {cs : Nat → ClassId} {q : Nat → Nat}
variable {Q : Int32 → St → Prop}
def w_X0_dutyBegan (σ : St) (Q : Int32 → St → Prop) : Prop := Q (σ.1 8 9) σ
set_option maxHeartbeats 4000000 in
set_option maxRecDepth 100000 in
theorem b_X0_dutyBegan (C : CX p R s m args meth c cX0_dutyBegan 1 RX0 0 0 D cs) (hE : RI p l e R s m args below meth c cX0_dutyBegan D cs LC q .int Q E) : ∀ (σ : St) (H : Heap) (locs : List Loc) (ls : Array Slot), OK D cs LC q s σ H locs → lv_has ls 1 [(0, .ref (q 8))] → w_X0_dutyBegan  σ Q → W p l e R s m args below meth c H locs 0 0 E (F0 m 0 ls []) := by
  have hx := C.1
  have hb := C.2.1
  intro  σ H locs ls O hl hf
  unfold w_X0_dutyBegan at hf
  refine lv_aload_n hx hb dX0_dutyBegan_0 rfl (lv_at hl 0 rfl) ?_
  refine r_get C O (k := 8) (j := 9) (v := .int (σ.1 8 9)) fX0_60 rfl rfl rfl dX0_dutyBegan_1 ?_
  exact hE _ _ _ _ _ _ (vp_nar_int _) O hf dX0_dutyBegan_4
theorem c_X0_dutyBegan (l : Launch) : MetI l yX0_dutyBegan cX0_dutyBegan 1 .int 0 0 LC 8 (fun q => []) (w_X0_dutyBegan ) := mk_I (own := RX0) (by decide) rfl (fun q => Nat.le_of_ble_eq_true rfl) (fun C hE O hl hf => b_X0_dutyBegan C hE _ _ _ _ O hl hf)
end
section
variable {p : Program} {l : Launch} {e : Env} {R : Room} {s : State} {m : MethodId} {args : Array Value} {below : List Frame} {meth : Method} {c : Code} {E : State → Prop}
variable {D : va_G} {cs : Nat → ClassId} {q : Nat → Nat}
variable {Q : Int32 → St → Prop}
def w_X0_goes_114 (Q : Int32 → St → Prop) (x1 : Int32) (x3 : Int32) (σ : St) : Prop := ∀ σ_1 : St, σ_1 = wr σ 8 7 x1 → (∀ σ_2 : St, σ_2 = wr σ_1 8 8 x3 → (w_X2_dutyOn ((σ_2.1 8 9) / 1440) σ_2 (fun r_4 σ_3 => (r_4 < (x3 - (σ_2.1 8 9)) → (Q 0 σ_3)) ∧ (¬ r_4 < (x3 - (σ_2.1 8 9)) → (Q 1 σ_3)))))
set_option maxHeartbeats 4000000 in
set_option maxRecDepth 100000 in
theorem b_X0_goes_114 (C : CX p R s m args meth c cX0_goes 5 RX0 1 23 D cs) (hE : RI p l e R s m args below meth c cX0_goes D cs LC q .boolean Q E) : ∀ (x1 : Int32) (x3 : Int32) (σ : St) (H : Heap) (locs : List Loc) (ls : Array Slot), OK D cs LC q s σ H locs → lv_has ls 5 [(0, .ref (q 8)), (1, .int x1), (3, .int x3)] → w_X0_goes_114 Q x1 x3 σ → W p l e R s m args below meth c H locs 0 0 E (F0 m 114 ls []) := by
  have hx := C.1
  have hb := C.2.1
  intro x1 x3 σ H locs ls O hl hf
  unfold w_X0_goes_114 at hf
  refine lv_aload_n hx hb dX0_goes_114 rfl (lv_at hl 0 rfl) ?_
  refine lv_iload_n hx hb dX0_goes_115 rfl (lv_at hl 1 rfl) ?_
  refine r_puti C O (k := 8) pX0_54 rfl rfl dX0_goes_116 (fun H locs σ_1 eσ_1 O => ?_)
  have hf := hf σ_1 eσ_1
  refine lv_aload_n hx hb dX0_goes_119 rfl (lv_at hl 0 rfl) ?_
  refine lv_iload_n hx hb dX0_goes_120 rfl (lv_at hl 2 rfl) ?_
  refine r_puti C O (k := 8) pX0_57 rfl rfl dX0_goes_121 (fun H locs σ_2 eσ_2 O => ?_)
  have hf := hf σ_2 eσ_2
  refine lv_iload_n hx hb dX0_goes_124 rfl (lv_at hl 2 rfl) ?_
  refine lv_aload_n hx hb dX0_goes_125 rfl (lv_at hl 0 rfl) ?_
  refine r_get C O (k := 8) (j := 9) (v := .int (σ_2.1 8 9)) fX0_60 rfl rfl rfl dX0_goes_126 ?_
  refine lv_isub hx hb dX0_goes_129 ?_
  refine lv_aload_n hx hb dX0_goes_130 rfl (lv_at hl 0 rfl) ?_
  refine r_get C O (k := 8) (j := 4) (v := .ref (q 2)) fX0_27 rfl rfl rfl dX0_goes_131 ?_
  refine lv_aload_n hx hb dX0_goes_134 rfl (lv_at hl 0 rfl) ?_
  refine r_get C O (k := 8) (j := 9) (v := .int (σ_2.1 8 9)) fX0_60 rfl rfl rfl dX0_goes_135 ?_
  refine lv_sipush (v := 1440) hx hb dX0_goes_138 (by decide) ?_
  refine lv_idiv hx hb dX0_goes_141 (by decide) ?_
  refine r_callI C O hl (c_X2_dutyOn l ((σ_2.1 8 9) / 1440)) mX0_100 (by decide) rfl rfl rfl rfl (Nat.le_of_ble_eq_true rfl) hf dX0_goes_142 (fun r_4 σ_3 H locs O hf => ?_)
  refine lv_icmp_gt (tgt := 152) hx hb dX0_goes_145 (by decide) (fun c_5 => ?_) (fun c_5 => ?_)
  · have hf := hf.1 c_5
    refine lv_iconst (v := 0) hx hb dX0_goes_152 (by decide) ?_
    exact hE _ _ _ _ _ _ rfl O hf dX0_goes_153
  · have hf := hf.2 c_5
    refine lv_iconst (v := 1) hx hb dX0_goes_148 (by decide) ?_
    refine lv_goto (tgt := 153) hx hb dX0_goes_149 (by decide) ?_
    exact hE _ _ _ _ _ _ rfl O hf dX0_goes_153
def w_X0_goes_109 (Q : Int32 → St → Prop) (x1 : Int32) (x2 : Int32) (x3 : Int32) (σ : St) : Prop := ∀ σ_1 : St, σ_1 = wr σ 8 9 x2 → (w_X0_goes_114 Q x1 x3 σ_1)
set_option maxHeartbeats 4000000 in
set_option maxRecDepth 100000 in
theorem b_X0_goes_109 (C : CX p R s m args meth c cX0_goes 5 RX0 1 23 D cs) (hE : RI p l e R s m args below meth c cX0_goes D cs LC q .boolean Q E) : ∀ (x1 : Int32) (x2 : Int32) (x3 : Int32) (σ : St) (H : Heap) (locs : List Loc) (ls : Array Slot), OK D cs LC q s σ H locs → lv_has ls 5 [(0, .ref (q 8)), (1, .int x1), (2, .int x2), (3, .int x3)] → w_X0_goes_109 Q x1 x2 x3 σ → W p l e R s m args below meth c H locs 0 0 E (F0 m 109 ls []) := by
  have hx := C.1
  have hb := C.2.1
  intro x1 x2 x3 σ H locs ls O hl hf
  unfold w_X0_goes_109 at hf
  refine lv_aload_n hx hb dX0_goes_109 rfl (lv_at hl 0 rfl) ?_
  refine lv_iload_n hx hb dX0_goes_110 rfl (lv_at hl 2 rfl) ?_
  refine r_puti C O (k := 8) pX0_60 rfl rfl dX0_goes_111 (fun H locs σ_1 eσ_1 O => ?_)
  have hf := hf σ_1 eσ_1
  exact b_X0_goes_114 C hE x1 x3 σ_1 _ _ ls O (lv_sub hl [0, 1, 3] rfl) hf
def w_X0_goes_51 (Q : Int32 → St → Prop) (x1 : Int32) (x2 : Int32) (x3 : Int32) (x4 : Int32) (σ : St) : Prop := w_X7_shuts (σ.1 8 7) x2 σ (fun r_2 σ_1 => (¬ r_2 = 0 → (Q 0 σ_1)) ∧ (r_2 = 0 → (w_X7_shuts x1 x3 σ_1 (fun r_5 σ_4 => (r_5 = 0 → ((¬ x4 = 0 → (w_X0_goes_109 Q x1 x2 x3 σ_4)) ∧ (x4 = 0 → (w_X2_restOn ((σ_4.1 8 9) / 1440) σ_4 (fun r_9 σ_8 => ((x2 - (σ_4.1 8 8)) < r_9 → (w_X0_goes_114 Q x1 x3 σ_8)) ∧ (¬ (x2 - (σ_4.1 8 8)) < r_9 → (w_X0_goes_109 Q x1 x2 x3 σ_8))))))) ∧ (¬ r_5 = 0 → (Q 0 σ_4))))))
set_option maxHeartbeats 4000000 in
set_option maxRecDepth 100000 in
theorem b_X0_goes_51 (C : CX p R s m args meth c cX0_goes 5 RX0 1 23 D cs) (hE : RI p l e R s m args below meth c cX0_goes D cs LC q .boolean Q E) : ∀ (x1 : Int32) (x2 : Int32) (x3 : Int32) (x4 : Int32) (σ : St) (H : Heap) (locs : List Loc) (ls : Array Slot), OK D cs LC q s σ H locs → lv_has ls 5 [(0, .ref (q 8)), (1, .int x1), (2, .int x2), (3, .int x3), (4, .int x4)] → w_X0_goes_51 Q x1 x2 x3 x4 σ → W p l e R s m args below meth c H locs 0 0 E (F0 m 51 ls []) := by
  have hx := C.1
  have hb := C.2.1
  intro x1 x2 x3 x4 σ H locs ls O hl hf
  unfold w_X0_goes_51 at hf
  refine lv_aload_n hx hb dX0_goes_51 rfl (lv_at hl 0 rfl) ?_
  refine r_get C O (k := 8) (j := 3) (v := .ref (q 6)) fX0_23 rfl rfl rfl dX0_goes_52 ?_
  refine lv_aload_n hx hb dX0_goes_55 rfl (lv_at hl 0 rfl) ?_
  refine r_get C O (k := 8) (j := 7) (v := .int (σ.1 8 7)) fX0_54 rfl rfl rfl dX0_goes_56 ?_
  refine lv_iload_n hx hb dX0_goes_59 rfl (lv_at hl 2 rfl) ?_
  refine r_callI C O hl (c_X7_shuts l (σ.1 8 7) x2) mX0_89 (by decide) rfl rfl rfl rfl (Nat.le_of_ble_eq_true rfl) hf dX0_goes_60 (fun r_2 σ_1 H locs O hf => ?_)
  refine lv_if_ne (tgt := 78) hx hb dX0_goes_63 (by decide) (fun c_3 => ?_) (fun c_3 => ?_)
  · have hf := hf.1 c_3
    refine lv_iconst (v := 0) hx hb dX0_goes_78 (by decide) ?_
    exact hE _ _ _ _ _ _ rfl O hf dX0_goes_79
  · have hf := hf.2 c_3
    refine lv_aload_n hx hb dX0_goes_66 rfl (lv_at hl 0 rfl) ?_
    refine r_get C O (k := 8) (j := 3) (v := .ref (q 6)) fX0_23 rfl rfl rfl dX0_goes_67 ?_
    refine lv_iload_n hx hb dX0_goes_70 rfl (lv_at hl 1 rfl) ?_
    refine lv_iload_n hx hb dX0_goes_71 rfl (lv_at hl 3 rfl) ?_
    refine r_callI C O hl (c_X7_shuts l x1 x3) mX0_89 (by decide) rfl rfl rfl rfl (Nat.le_of_ble_eq_true rfl) hf dX0_goes_72 (fun r_5 σ_4 H locs O hf => ?_)
    refine lv_if_eq (tgt := 80) hx hb dX0_goes_75 (by decide) (fun c_6 => ?_) (fun c_6 => ?_)
    · have hf := hf.1 c_6
      refine lv_iload hx hb dX0_goes_80 (lv_at hl 4 rfl) ?_
      refine lv_if_ne (tgt := 109) hx hb dX0_goes_82 (by decide) (fun c_7 => ?_) (fun c_7 => ?_)
      · have hf := hf.1 c_7
        exact b_X0_goes_109 C hE x1 x2 x3 σ_4 _ _ ls O (lv_sub hl [0, 1, 2, 3] rfl) hf
      · have hf := hf.2 c_7
        refine lv_iload_n hx hb dX0_goes_85 rfl (lv_at hl 2 rfl) ?_
        refine lv_aload_n hx hb dX0_goes_86 rfl (lv_at hl 0 rfl) ?_
        refine r_get C O (k := 8) (j := 8) (v := .int (σ_4.1 8 8)) fX0_57 rfl rfl rfl dX0_goes_87 ?_
        refine lv_isub hx hb dX0_goes_90 ?_
        refine lv_aload_n hx hb dX0_goes_91 rfl (lv_at hl 0 rfl) ?_
        refine r_get C O (k := 8) (j := 4) (v := .ref (q 2)) fX0_27 rfl rfl rfl dX0_goes_92 ?_
        refine lv_aload_n hx hb dX0_goes_95 rfl (lv_at hl 0 rfl) ?_
        refine r_get C O (k := 8) (j := 9) (v := .int (σ_4.1 8 9)) fX0_60 rfl rfl rfl dX0_goes_96 ?_
        refine lv_sipush (v := 1440) hx hb dX0_goes_99 (by decide) ?_
        refine lv_idiv hx hb dX0_goes_102 (by decide) ?_
        refine r_callI C O hl (c_X2_restOn l ((σ_4.1 8 9) / 1440)) mX0_95 (by decide) rfl rfl rfl rfl (Nat.le_of_ble_eq_true rfl) hf dX0_goes_103 (fun r_9 σ_8 H locs O hf => ?_)
        refine lv_icmp_lt (tgt := 114) hx hb dX0_goes_106 (by decide) (fun c_10 => ?_) (fun c_10 => ?_)
        · have hf := hf.1 c_10
          exact b_X0_goes_114 C hE x1 x3 σ_8 _ _ ls O (lv_sub hl [0, 1, 3] rfl) hf
        · have hf := hf.2 c_10
          exact b_X0_goes_109 C hE x1 x2 x3 σ_8 _ _ ls O (lv_sub hl [0, 1, 2, 3] rfl) hf
    · have hf := hf.2 c_6
      refine lv_iconst (v := 0) hx hb dX0_goes_78 (by decide) ?_
      exact hE _ _ _ _ _ _ rfl O hf dX0_goes_79
def w_X0_goes_13 (Q : Int32 → St → Prop) (x1 : Int32) (x2 : Int32) (x3 : Int32) (s0 : Int32) (σ : St) : Prop := w_X10_isMinute x2 (fun r_1 => (r_1 = 0 → (Q 0 σ)) ∧ (¬ r_1 = 0 → (w_X10_isMinute x3 (fun r_3 => (¬ r_3 = 0 → ((¬ s0 = 0 → (w_X0_goes_51 Q x1 x2 x3 s0 σ)) ∧ (s0 = 0 → ((((σ.1 8 8) + (σ.1 8 6)) ≤ x2 → (w_X0_goes_51 Q x1 x2 x3 s0 σ)) ∧ (¬ ((σ.1 8 8) + (σ.1 8 6)) ≤ x2 → (Q 0 σ)))))) ∧ (r_3 = 0 → (Q 0 σ))))))
set_option maxHeartbeats 4000000 in
set_option maxRecDepth 100000 in
theorem b_X0_goes_13 (C : CX p R s m args meth c cX0_goes 5 RX0 1 23 D cs) (hE : RI p l e R s m args below meth c cX0_goes D cs LC q .boolean Q E) : ∀ (x1 : Int32) (x2 : Int32) (x3 : Int32) (s0 : Int32) (σ : St) (H : Heap) (locs : List Loc) (ls : Array Slot), OK D cs LC q s σ H locs → lv_has ls 5 [(0, .ref (q 8)), (1, .int x1), (2, .int x2), (3, .int x3)] → w_X0_goes_13 Q x1 x2 x3 s0 σ → W p l e R s m args below meth c H locs 0 0 E (F0 m 13 ls [.int s0]) := by
  have hx := C.1
  have hb := C.2.1
  intro x1 x2 x3 s0 σ H locs ls O hl hf
  unfold w_X0_goes_13 at hf
  refine lv_istore (lv' := [(4, .int s0), (0, .ref (q 8)), (1, .int x1), (2, .int x2), (3, .int x3)]) hx hb dX0_goes_13 hl (by decide) rfl (fun ls hl => ?_)
  refine lv_iload_n hx hb dX0_goes_15 rfl (lv_at hl 3 rfl) ?_
  refine r_callN C hl (c_X10_isMinute l x2) mX0_85 (by decide) rfl rfl (Nat.le_of_ble_eq_true rfl) hf dX0_goes_16 (fun r_1 hf => ?_)
  refine lv_if_eq (tgt := 29) hx hb dX0_goes_19 (by decide) (fun c_2 => ?_) (fun c_2 => ?_)
  · have hf := hf.1 c_2
    refine lv_iconst (v := 0) hx hb dX0_goes_29 (by decide) ?_
    exact hE _ _ _ _ _ _ rfl O hf dX0_goes_30
  · have hf := hf.2 c_2
    refine lv_iload_n hx hb dX0_goes_22 rfl (lv_at hl 4 rfl) ?_
    refine r_callN C hl (c_X10_isMinute l x3) mX0_85 (by decide) rfl rfl (Nat.le_of_ble_eq_true rfl) hf dX0_goes_23 (fun r_3 hf => ?_)
    refine lv_if_ne (tgt := 31) hx hb dX0_goes_26 (by decide) (fun c_4 => ?_) (fun c_4 => ?_)
    · have hf := hf.1 c_4
      refine lv_iload hx hb dX0_goes_31 (lv_at hl 0 rfl) ?_
      refine lv_if_ne (tgt := 51) hx hb dX0_goes_33 (by decide) (fun c_5 => ?_) (fun c_5 => ?_)
      · have hf := hf.1 c_5
        exact b_X0_goes_51 C hE x1 x2 x3 s0 σ _ _ ls O (lv_sub hl [1, 2, 3, 4, 0] rfl) hf
      · have hf := hf.2 c_5
        refine lv_iload_n hx hb dX0_goes_36 rfl (lv_at hl 3 rfl) ?_
        refine lv_aload_n hx hb dX0_goes_37 rfl (lv_at hl 1 rfl) ?_
        refine r_get C O (k := 8) (j := 8) (v := .int (σ.1 8 8)) fX0_57 rfl rfl rfl dX0_goes_38 ?_
        refine lv_aload_n hx hb dX0_goes_41 rfl (lv_at hl 1 rfl) ?_
        refine r_get C O (k := 8) (j := 6) (v := .int (σ.1 8 6)) fX0_44 rfl rfl rfl dX0_goes_42 ?_
        refine lv_iadd hx hb dX0_goes_45 ?_
        refine lv_icmp_ge (tgt := 51) hx hb dX0_goes_46 (by decide) (fun c_6 => ?_) (fun c_6 => ?_)
        · have hf := hf.1 c_6
          exact b_X0_goes_51 C hE x1 x2 x3 s0 σ _ _ ls O (lv_sub hl [1, 2, 3, 4, 0] rfl) hf
        · have hf := hf.2 c_6
          refine lv_iconst (v := 0) hx hb dX0_goes_49 (by decide) ?_
          exact hE _ _ _ _ _ _ rfl O hf dX0_goes_50
    · have hf := hf.2 c_4
      refine lv_iconst (v := 0) hx hb dX0_goes_29 (by decide) ?_
      exact hE _ _ _ _ _ _ rfl O hf dX0_goes_30
def w_X0_goes (x1 : Int32) (x2 : Int32) (x3 : Int32) (σ : St) (Q : Int32 → St → Prop) : Prop := (¬ (σ.1 8 9) = ((-1)) → (w_X0_goes_13 Q x1 x2 x3 0 σ)) ∧ ((σ.1 8 9) = ((-1)) → (w_X0_goes_13 Q x1 x2 x3 1 σ))
set_option maxHeartbeats 4000000 in
set_option maxRecDepth 100000 in
theorem b_X0_goes (C : CX p R s m args meth c cX0_goes 5 RX0 1 23 D cs) (hE : RI p l e R s m args below meth c cX0_goes D cs LC q .boolean Q E) : ∀ (x1 : Int32) (x2 : Int32) (x3 : Int32) (σ : St) (H : Heap) (locs : List Loc) (ls : Array Slot), OK D cs LC q s σ H locs → lv_has ls 5 [(0, .ref (q 8)), (1, .int x1), (2, .int x2), (3, .int x3)] → w_X0_goes x1 x2 x3 σ Q → W p l e R s m args below meth c H locs 0 0 E (F0 m 0 ls []) := by
  have hx := C.1
  have hb := C.2.1
  intro x1 x2 x3 σ H locs ls O hl hf
  unfold w_X0_goes at hf
  refine lv_aload_n hx hb dX0_goes_0 rfl (lv_at hl 0 rfl) ?_
  refine r_get C O (k := 8) (j := 9) (v := .int (σ.1 8 9)) fX0_60 rfl rfl rfl dX0_goes_1 ?_
  refine lv_iconst (v := (-1)) hx hb dX0_goes_4 (by decide) ?_
  refine lv_icmp_ne (tgt := 12) hx hb dX0_goes_5 (by decide) (fun c_1 => ?_) (fun c_1 => ?_)
  · have hf := hf.1 c_1
    refine lv_iconst (v := 0) hx hb dX0_goes_12 (by decide) ?_
    exact b_X0_goes_13 C hE x1 x2 x3 0 σ _ _ ls O (lv_sub hl [0, 1, 2, 3] rfl) hf
  · have hf := hf.2 c_1
    refine lv_iconst (v := 1) hx hb dX0_goes_8 (by decide) ?_
    refine lv_goto (tgt := 13) hx hb dX0_goes_9 (by decide) ?_
    exact b_X0_goes_13 C hE x1 x2 x3 1 σ _ _ ls O (lv_sub hl [0, 1, 2, 3] rfl) hf
theorem c_X0_goes (l : Launch) (x1 : Int32) (x2 : Int32) (x3 : Int32) : MetI l yX0_goes cX0_goes 5 .boolean 1 23 LC 8 (fun q => [.int x1, .int x2, .int x3]) (w_X0_goes x1 x2 x3) := mk_I (own := RX0) (by decide) rfl (fun q => Nat.le_of_ble_eq_true rfl) (fun C hE O hl hf => b_X0_goes C hE x1 x2 x3 _ _ _ _ O hl hf)
end
section
variable {p : Program} {l : Launch} {e : Env} {R : Room} {s : State} {m : MethodId} {args : Array Value} {below : List Frame} {meth : Method} {c : Code} {E : State → Prop}
variable {D : va_G} {cs : Nat → ClassId} {q : Nat → Nat}
variable {Q : Int32 → St → Prop}
def w_X0_join_90 (Q : Int32 → St → Prop) (x1 : Int32) (x2 : Int32) (x3 : Int32) (x4 : Int32) (σ : St) : Prop := w_X1_toOf x1 σ (fun r_2 σ_1 => w_X9_minutes x2 r_2 σ_1 (fun r_4 σ_3 => w_X0_goes r_2 x3 (x3 + r_4) σ_3 (fun r_6 σ_5 => (r_6 = 0 → (Q ((-1)) σ_5)) ∧ (¬ r_6 = 0 → (Q x4 σ_5)))))
set_option maxHeartbeats 4000000 in
set_option maxRecDepth 100000 in
theorem b_X0_join_90 (C : CX p R s m args meth c cX0_join 6 RX0 2 47 D cs) (hE : RI p l e R s m args below meth c cX0_join D cs LC q .int Q E) : ∀ (x1 : Int32) (x2 : Int32) (x3 : Int32) (x4 : Int32) (σ : St) (H : Heap) (locs : List Loc) (ls : Array Slot), OK D cs LC q s σ H locs → lv_has ls 6 [(0, .ref (q 8)), (1, .int x1), (2, .int x2), (3, .int x3), (4, .int x4)] → w_X0_join_90 Q x1 x2 x3 x4 σ → W p l e R s m args below meth c H locs 0 0 E (F0 m 90 ls []) := by
  have hx := C.1
  have hb := C.2.1
  intro x1 x2 x3 x4 σ H locs ls O hl hf
  unfold w_X0_join_90 at hf
  refine lv_aload_n hx hb dX0_join_90 rfl (lv_at hl 0 rfl) ?_
  refine r_get C O (k := 8) (j := 1) (v := .ref (q 5)) fX0_15 rfl rfl rfl dX0_join_91 ?_
  refine lv_iload_n hx hb dX0_join_94 rfl (lv_at hl 1 rfl) ?_
  refine r_callI C O hl (c_X1_toOf l x1) mX0_82 (by decide) rfl rfl rfl rfl (Nat.le_of_ble_eq_true rfl) hf dX0_join_95 (fun r_2 σ_1 H locs O hf => ?_)
  refine lv_istore (lv' := [(5, .int r_2), (0, .ref (q 8)), (1, .int x1), (2, .int x2), (3, .int x3), (4, .int x4)]) hx hb dX0_join_98 hl (by decide) rfl (fun ls hl => ?_)
  refine lv_aload_n hx hb dX0_join_100 rfl (lv_at hl 1 rfl) ?_
  refine lv_iload hx hb dX0_join_101 (lv_at hl 0 rfl) ?_
  refine lv_iload_n hx hb dX0_join_103 rfl (lv_at hl 4 rfl) ?_
  refine lv_iload_n hx hb dX0_join_104 rfl (lv_at hl 4 rfl) ?_
  refine lv_aload_n hx hb dX0_join_105 rfl (lv_at hl 1 rfl) ?_
  refine r_get C O (k := 8) (j := 2) (v := .ref (q 3)) fX0_19 rfl rfl rfl dX0_join_106 ?_
  refine lv_iload_n hx hb dX0_join_109 rfl (lv_at hl 3 rfl) ?_
  refine lv_iload hx hb dX0_join_110 (lv_at hl 0 rfl) ?_
  refine r_callI C O hl (c_X9_minutes l x2 r_2) mX0_72 (by decide) rfl rfl rfl rfl (Nat.le_of_ble_eq_true rfl) hf dX0_join_112 (fun r_4 σ_3 H locs O hf => ?_)
  refine lv_iadd hx hb dX0_join_115 ?_
  refine r_callI C O hl (c_X0_goes l r_2 x3 (x3 + r_4)) mX0_78 (by decide) rfl rfl rfl rfl (Nat.le_of_ble_eq_true rfl) hf dX0_join_116 (fun r_6 σ_5 H locs O hf => ?_)
  refine lv_if_eq (tgt := 127) hx hb dX0_join_119 (by decide) (fun c_7 => ?_) (fun c_7 => ?_)
  · have hf := hf.1 c_7
    refine lv_iconst (v := (-1)) hx hb dX0_join_127 (by decide) ?_
    exact hE _ _ _ _ _ _ (vp_nar_int _) O hf dX0_join_128
  · have hf := hf.2 c_7
    refine lv_iload hx hb dX0_join_122 (lv_at hl 5 rfl) ?_
    refine lv_goto (tgt := 128) hx hb dX0_join_124 (by decide) ?_
    exact hE _ _ _ _ _ _ (vp_nar_int _) O hf dX0_join_128
def w_X0_join (x1 : Int32) (σ : St) (Q : Int32 → St → Prop) : Prop := w_X1_seatsOf x1 σ (fun r_2 σ_1 => (r_2 ≤ (σ.1 8 5) → (w_X1_fromOf x1 σ_1 (fun r_5 σ_4 => w_X1_startOf x1 σ_4 (fun r_7 σ_6 => ((σ_6.1 8 7) = r_5 → (w_X0_join_90 Q x1 r_5 r_7 0 σ_6)) ∧ (¬ (σ_6.1 8 7) = r_5 → (w_X9_minutes (σ_6.1 8 7) r_5 σ_6 (fun r_10 σ_9 => (r_10 = 0 → (Q ((-1)) σ_9)) ∧ (¬ r_10 = 0 → (w_X0_goes r_5 ((r_7 - (σ_9.1 8 6)) - r_10) (r_7 - (σ_9.1 8 6)) σ_9 (fun r_13 σ_12 => (¬ r_13 = 0 → (w_X0_join_90 Q x1 r_5 r_7 r_10 σ_12)) ∧ (r_13 = 0 → (Q ((-1)) σ_12)))))))))))) ∧ (¬ r_2 ≤ (σ.1 8 5) → (Q ((-1)) σ_1)))
set_option maxHeartbeats 4000000 in
set_option maxRecDepth 100000 in
theorem b_X0_join (C : CX p R s m args meth c cX0_join 6 RX0 2 47 D cs) (hE : RI p l e R s m args below meth c cX0_join D cs LC q .int Q E) : ∀ (x1 : Int32) (σ : St) (H : Heap) (locs : List Loc) (ls : Array Slot), OK D cs LC q s σ H locs → lv_has ls 6 [(0, .ref (q 8)), (1, .int x1)] → w_X0_join x1 σ Q → W p l e R s m args below meth c H locs 0 0 E (F0 m 0 ls []) := by
  have hx := C.1
  have hb := C.2.1
  intro x1 σ H locs ls O hl hf
  unfold w_X0_join at hf
  refine lv_aload_n hx hb dX0_join_0 rfl (lv_at hl 0 rfl) ?_
  refine r_get C O (k := 8) (j := 5) (v := .int (σ.1 8 5)) fX0_37 rfl rfl rfl dX0_join_1 ?_
  refine lv_aload_n hx hb dX0_join_4 rfl (lv_at hl 0 rfl) ?_
  refine r_get C O (k := 8) (j := 1) (v := .ref (q 5)) fX0_15 rfl rfl rfl dX0_join_5 ?_
  refine lv_iload_n hx hb dX0_join_8 rfl (lv_at hl 1 rfl) ?_
  refine r_callI C O hl (c_X1_seatsOf l x1) mX0_63 (by decide) rfl rfl rfl rfl (Nat.le_of_ble_eq_true rfl) hf dX0_join_9 (fun r_2 σ_1 H locs O hf => ?_)
  refine lv_icmp_ge (tgt := 17) hx hb dX0_join_12 (by decide) (fun c_3 => ?_) (fun c_3 => ?_)
  · have hf := hf.1 c_3
    refine lv_aload_n hx hb dX0_join_17 rfl (lv_at hl 0 rfl) ?_
    refine r_get C O (k := 8) (j := 1) (v := .ref (q 5)) fX0_15 rfl rfl rfl dX0_join_18 ?_
    refine lv_iload_n hx hb dX0_join_21 rfl (lv_at hl 1 rfl) ?_
    refine r_callI C O hl (c_X1_fromOf l x1) mX0_66 (by decide) rfl rfl rfl rfl (Nat.le_of_ble_eq_true rfl) hf dX0_join_22 (fun r_5 σ_4 H locs O hf => ?_)
    refine lv_istore_n (lv' := [(2, .int r_5), (0, .ref (q 8)), (1, .int x1)]) hx hb dX0_join_25 rfl hl (by decide) rfl (fun ls hl => ?_)
    refine lv_aload_n hx hb dX0_join_26 rfl (lv_at hl 1 rfl) ?_
    refine r_get C O (k := 8) (j := 1) (v := .ref (q 5)) fX0_15 rfl rfl rfl dX0_join_27 ?_
    refine lv_iload_n hx hb dX0_join_30 rfl (lv_at hl 2 rfl) ?_
    refine r_callI C O hl (c_X1_startOf l x1) mX0_69 (by decide) rfl rfl rfl rfl (Nat.le_of_ble_eq_true rfl) hf dX0_join_31 (fun r_7 σ_6 H locs O hf => ?_)
    refine lv_istore_n (lv' := [(3, .int r_7), (2, .int r_5), (0, .ref (q 8)), (1, .int x1)]) hx hb dX0_join_34 rfl hl (by decide) rfl (fun ls hl => ?_)
    refine lv_iconst (v := 0) hx hb dX0_join_35 (by decide) ?_
    refine lv_istore (lv' := [(4, .int 0), (3, .int r_7), (2, .int r_5), (0, .ref (q 8)), (1, .int x1)]) hx hb dX0_join_36 hl (by decide) rfl (fun ls hl => ?_)
    refine lv_aload_n hx hb dX0_join_38 rfl (lv_at hl 3 rfl) ?_
    refine r_get C O (k := 8) (j := 7) (v := .int (σ_6.1 8 7)) fX0_54 rfl rfl rfl dX0_join_39 ?_
    refine lv_iload_n hx hb dX0_join_42 rfl (lv_at hl 2 rfl) ?_
    refine lv_icmp_eq (tgt := 90) hx hb dX0_join_43 (by decide) (fun c_8 => ?_) (fun c_8 => ?_)
    · have hf := hf.1 c_8
      exact b_X0_join_90 C hE x1 r_5 r_7 0 σ_6 _ _ ls O (lv_sub hl [3, 4, 2, 1, 0] rfl) hf
    · have hf := hf.2 c_8
      refine lv_aload_n hx hb dX0_join_46 rfl (lv_at hl 3 rfl) ?_
      refine r_get C O (k := 8) (j := 2) (v := .ref (q 3)) fX0_19 rfl rfl rfl dX0_join_47 ?_
      refine lv_aload_n hx hb dX0_join_50 rfl (lv_at hl 3 rfl) ?_
      refine r_get C O (k := 8) (j := 7) (v := .int (σ_6.1 8 7)) fX0_54 rfl rfl rfl dX0_join_51 ?_
      refine lv_iload_n hx hb dX0_join_54 rfl (lv_at hl 2 rfl) ?_
      refine r_callI C O hl (c_X9_minutes l (σ_6.1 8 7) r_5) mX0_72 (by decide) rfl rfl rfl rfl (Nat.le_of_ble_eq_true rfl) hf dX0_join_55 (fun r_10 σ_9 H locs O hf => ?_)
      refine lv_istore (lv' := [(4, .int r_10), (3, .int r_7), (2, .int r_5), (0, .ref (q 8)), (1, .int x1)]) hx hb dX0_join_58 hl (by decide) rfl (fun ls hl => ?_)
      refine lv_iload_n hx hb dX0_join_60 rfl (lv_at hl 1 rfl) ?_
      refine lv_aload_n hx hb dX0_join_61 rfl (lv_at hl 3 rfl) ?_
      refine r_get C O (k := 8) (j := 6) (v := .int (σ_9.1 8 6)) fX0_44 rfl rfl rfl dX0_join_62 ?_
      refine lv_isub hx hb dX0_join_65 ?_
      refine lv_istore (lv' := [(5, .int (r_7 - (σ_9.1 8 6))), (4, .int r_10), (3, .int r_7), (2, .int r_5), (0, .ref (q 8)), (1, .int x1)]) hx hb dX0_join_66 hl (by decide) rfl (fun ls hl => ?_)
      refine lv_iload hx hb dX0_join_68 (lv_at hl 1 rfl) ?_
      refine lv_if_eq (tgt := 88) hx hb dX0_join_70 (by decide) (fun c_11 => ?_) (fun c_11 => ?_)
      · have hf := hf.1 c_11
        refine lv_iconst (v := (-1)) hx hb dX0_join_88 (by decide) ?_
        exact hE _ _ _ _ _ _ (vp_nar_int _) O hf dX0_join_89
      · have hf := hf.2 c_11
        refine lv_aload_n hx hb dX0_join_73 rfl (lv_at hl 4 rfl) ?_
        refine lv_iload_n hx hb dX0_join_74 rfl (lv_at hl 3 rfl) ?_
        refine lv_iload hx hb dX0_join_75 (lv_at hl 0 rfl) ?_
        refine lv_iload hx hb dX0_join_77 (lv_at hl 1 rfl) ?_
        refine lv_isub hx hb dX0_join_79 ?_
        refine lv_iload hx hb dX0_join_80 (lv_at hl 0 rfl) ?_
        refine r_callI C O hl (c_X0_goes l r_5 ((r_7 - (σ_9.1 8 6)) - r_10) (r_7 - (σ_9.1 8 6))) mX0_78 (by decide) rfl rfl rfl rfl (Nat.le_of_ble_eq_true rfl) hf dX0_join_82 (fun r_13 σ_12 H locs O hf => ?_)
        refine lv_if_ne (tgt := 90) hx hb dX0_join_85 (by decide) (fun c_14 => ?_) (fun c_14 => ?_)
        · have hf := hf.1 c_14
          exact b_X0_join_90 C hE x1 r_5 r_7 r_10 σ_12 _ _ ls O (lv_sub hl [4, 5, 3, 2, 1] rfl) hf
        · have hf := hf.2 c_14
          refine lv_iconst (v := (-1)) hx hb dX0_join_88 (by decide) ?_
          exact hE _ _ _ _ _ _ (vp_nar_int _) O hf dX0_join_89
  · have hf := hf.2 c_3
    refine lv_iconst (v := (-1)) hx hb dX0_join_15 (by decide) ?_
    exact hE _ _ _ _ _ _ (vp_nar_int _) O hf dX0_join_16
theorem c_X0_join (l : Launch) (x1 : Int32) : MetI l yX0_join cX0_join 6 .int 2 47 LC 8 (fun q => [.int x1]) (w_X0_join x1) := mk_I (own := RX0) (by decide) rfl (fun q => Nat.le_of_ble_eq_true rfl) (fun C hE O hl hf => b_X0_join C hE x1 _ _ _ _ O hl hf)
end
section
variable {p : Program} {l : Launch} {e : Env} {R : Room} {s : State} {m : MethodId} {args : Array Value} {below : List Frame} {meth : Method} {c : Code} {E : State → Prop}
variable {D : va_G} {cs : Nat → ClassId} {q : Nat → Nat}
variable {Q : St → Prop}
def w_X5_lineUp_114 (Q : St → Prop) : Nat → Int32 → St → Prop
  | 0, _, _ => False
  | n + 1, x3, σ => (256 ≤ x3 → (Q σ)) ∧ (¬ 256 ≤ x3 → (vp_in x3 256 ∧ (∀ σ_2 : St, σ_2 = wl σ 34 x3.toNatClampNeg 10000000000000000 → (w_X5_lineUp_114 Q n (x3 + 1) σ_2))))
set_option maxHeartbeats 4000000 in
set_option maxRecDepth 100000 in
theorem b_X5_lineUp_114 (C : CX p R s m args meth c cX5_lineUp 4 RX5 2 42 D cs) (hE : RV p l e R s m args below meth c cX5_lineUp D cs LC q Q E) : ∀ n : Nat, ∀ (x3 : Int32) (σ : St) (H : Heap) (locs : List Loc) (ls : Array Slot), OK D cs LC q s σ H locs → lv_has ls 4 [(0, .ref (q 9)), (3, .int x3)] → w_X5_lineUp_114 Q n x3 σ → W p l e R s m args below meth c H locs 0 0 E (F0 m 114 ls []) := by
  have hx := C.1
  have hb := C.2.1
  intro n
  induction n with
  | zero => intro x3 σ H locs ls O hl hf; exact hf.elim
  | succ n ih =>
    intro x3 σ H locs ls O hl hf
    unfold w_X5_lineUp_114 at hf
    refine lv_iload_n hx hb dX5_lineUp_114 rfl (lv_at hl 1 rfl) ?_
    refine lv_sipush (v := 256) hx hb dX5_lineUp_115 (by decide) ?_
    refine lv_icmp_ge (tgt := 136) hx hb dX5_lineUp_118 (by decide) (fun c_1 => ?_) (fun c_1 => ?_)
    · have hf := hf.1 c_1
      exact hE _ _ _ _ _ O hf dX5_lineUp_136
    · have hf := hf.2 c_1
      refine lv_aload_n hx hb dX5_lineUp_121 rfl (lv_at hl 0 rfl) ?_
      refine r_get C O (k := 9) (j := 7) (v := .ref (q 34)) fX5_24 rfl rfl rfl dX5_lineUp_122 ?_
      refine lv_iload_n hx hb dX5_lineUp_125 rfl (lv_at hl 1 rfl) ?_
      refine lv_ldc2 (v := 10000000000000000) hx hb C.2.2.2.1 (C.2.2.2.2.1 _ kX5_117) dX5_lineUp_126 ?_
      refine r_last C O (k := 34) rfl hf.1 dX5_lineUp_129 (fun H locs σ_2 eσ_2 O => ?_)
      have hf := hf.2 σ_2 eσ_2
      refine lv_iinc (v := x3 + 1) (lv' := [(3, .int (x3 + 1)), (0, .ref (q 9))]) hx hb dX5_lineUp_130 hl (k := 1) rfl rfl (by decide) rfl (fun ls hl => ?_)
      refine lv_goto (tgt := 114) hx hb dX5_lineUp_133 (by decide) ?_
      exact ih (x3 + 1) σ_2 _ _ ls O (lv_sub hl [1, 0] rfl) hf
def w_X5_lineUp_82 (Q : St → Prop) : Nat → Int64 → Int32 → St → Prop
  | 0, _, _, _ => False
  | n + 1, x1, x3, σ => (x3 < 0 → (vp_in 0 256 ∧ (∀ σ_2 : St, σ_2 = wl σ 34 (0 : Int32).toNatClampNeg 0 → (∃ nn : Nat, w_X5_lineUp_114 Q nn 1 σ_2)))) ∧ (¬ x3 < 0 → (vp_in x3 8 ∧ (∀ σ_3 : St, σ_3 = wl σ 32 x3.toNatClampNeg x1 → (w_X5_lineUp_82 Q n (x1 * 10) (x3 + (-1)) σ_3))))
set_option maxHeartbeats 4000000 in
set_option maxRecDepth 100000 in
theorem b_X5_lineUp_82 (C : CX p R s m args meth c cX5_lineUp 4 RX5 2 42 D cs) (hE : RV p l e R s m args below meth c cX5_lineUp D cs LC q Q E) : ∀ n : Nat, ∀ (x1 : Int64) (x3 : Int32) (σ : St) (H : Heap) (locs : List Loc) (ls : Array Slot), OK D cs LC q s σ H locs → lv_has ls 4 [(0, .ref (q 9)), (1, .long x1), (3, .int x3)] → w_X5_lineUp_82 Q n x1 x3 σ → W p l e R s m args below meth c H locs 0 0 E (F0 m 82 ls []) := by
  have hx := C.1
  have hb := C.2.1
  intro n
  induction n with
  | zero => intro x1 x3 σ H locs ls O hl hf; exact hf.elim
  | succ n ih =>
    intro x1 x3 σ H locs ls O hl hf
    unfold w_X5_lineUp_82 at hf
    refine lv_iload_n hx hb dX5_lineUp_82 rfl (lv_at hl 2 rfl) ?_
    refine lv_if_lt (tgt := 105) hx hb dX5_lineUp_83 (by decide) (fun c_1 => ?_) (fun c_1 => ?_)
    · have hf := hf.1 c_1
      refine lv_aload_n hx hb dX5_lineUp_105 rfl (lv_at hl 0 rfl) ?_
      refine r_get C O (k := 9) (j := 7) (v := .ref (q 34)) fX5_24 rfl rfl rfl dX5_lineUp_106 ?_
      refine lv_iconst (v := 0) hx hb dX5_lineUp_109 (by decide) ?_
      refine lv_lconst (v := 0) hx hb dX5_lineUp_110 (by decide) ?_
      refine r_last C O (k := 34) rfl hf.1 dX5_lineUp_111 (fun H locs σ_2 eσ_2 O => ?_)
      have hf := hf.2 σ_2 eσ_2
      refine lv_iconst (v := 1) hx hb dX5_lineUp_112 (by decide) ?_
      refine lv_istore_n (lv' := [(3, .int 1), (0, .ref (q 9)), (1, .long x1)]) hx hb dX5_lineUp_113 rfl hl (by decide) rfl (fun ls hl => ?_)
      obtain ⟨nn, hf⟩ := hf
      exact b_X5_lineUp_114 C hE nn 1 σ_2 _ _ ls O (lv_sub hl [1, 0] rfl) hf
    · have hf := hf.2 c_1
      refine lv_aload_n hx hb dX5_lineUp_86 rfl (lv_at hl 0 rfl) ?_
      refine r_get C O (k := 9) (j := 5) (v := .ref (q 32)) fX5_17 rfl rfl rfl dX5_lineUp_87 ?_
      refine lv_iload_n hx hb dX5_lineUp_90 rfl (lv_at hl 2 rfl) ?_
      refine lv_lload_n hx hb dX5_lineUp_91 rfl (lv_at hl 1 rfl) ?_
      refine r_last C O (k := 32) rfl hf.1 dX5_lineUp_92 (fun H locs σ_3 eσ_3 O => ?_)
      have hf := hf.2 σ_3 eσ_3
      refine lv_lload_n hx hb dX5_lineUp_93 rfl (lv_at hl 1 rfl) ?_
      refine lv_ldc2 (v := 10) hx hb C.2.2.2.1 (C.2.2.2.2.1 _ kX5_115) dX5_lineUp_94 ?_
      refine lv_lmul hx hb dX5_lineUp_97 ?_
      refine lv_lstore_n (lv' := [(1, .long (x1 * 10)), (0, .ref (q 9)), (3, .int x3)]) hx hb dX5_lineUp_98 rfl hl (by decide) rfl (fun ls hl => ?_)
      refine lv_iinc (v := x3 + (-1)) (lv' := [(3, .int (x3 + (-1))), (1, .long (x1 * 10)), (0, .ref (q 9))]) hx hb dX5_lineUp_99 hl (k := 2) rfl rfl (by decide) rfl (fun ls hl => ?_)
      refine lv_goto (tgt := 82) hx hb dX5_lineUp_102 (by decide) ?_
      exact ih (x1 * 10) (x3 + (-1)) σ_3 _ _ ls O (lv_sub hl [2, 1, 0] rfl) hf
def w_X5_lineUp_7 (Q : St → Prop) : Nat → Int32 → St → Prop
  | 0, _, _ => False
  | n + 1, x1, σ => w_X1_size σ (fun r_2 σ_1 => (r_2 ≤ x1 → (∃ nn : Nat, w_X5_lineUp_82 Q nn 1 ((σ_1.1 9 11) - 1) σ_1)) ∧ (¬ r_2 ≤ x1 → (w_X1_inOrder x1 σ_1 (fun r_5 σ_4 => w_X1_isLive r_5 σ_4 (fun r_7 σ_6 => (r_7 = 0 → (w_X5_lineUp_7 Q n (x1 + 1) σ_6)) ∧ (¬ r_7 = 0 → ((8 ≤ (σ_6.1 9 11) → (w_X5_lineUp_7 Q n (x1 + 1) σ_6)) ∧ (¬ 8 ≤ (σ_6.1 9 11) → (vp_in (σ_6.1 9 11) 8 ∧ (∀ σ_10 : St, σ_10 = wr σ_6 31 (σ_6.1 9 11).toNatClampNeg r_5 → (∀ σ_11 : St, σ_11 = wr σ_10 9 11 ((σ_10.1 9 11) + 1) → (w_X5_lineUp_7 Q n (x1 + 1) σ_11))))))))))))
set_option maxHeartbeats 4000000 in
set_option maxRecDepth 100000 in
theorem b_X5_lineUp_7 (C : CX p R s m args meth c cX5_lineUp 4 RX5 2 42 D cs) (hE : RV p l e R s m args below meth c cX5_lineUp D cs LC q Q E) : ∀ n : Nat, ∀ (x1 : Int32) (σ : St) (H : Heap) (locs : List Loc) (ls : Array Slot), OK D cs LC q s σ H locs → lv_has ls 4 [(0, .ref (q 9)), (1, .int x1)] → w_X5_lineUp_7 Q n x1 σ → W p l e R s m args below meth c H locs 0 0 E (F0 m 7 ls []) := by
  have hx := C.1
  have hb := C.2.1
  intro n
  induction n with
  | zero => intro x1 σ H locs ls O hl hf; exact hf.elim
  | succ n ih =>
    intro x1 σ H locs ls O hl hf
    unfold w_X5_lineUp_7 at hf
    refine lv_iload_n hx hb dX5_lineUp_7 rfl (lv_at hl 1 rfl) ?_
    refine lv_aload_n hx hb dX5_lineUp_8 rfl (lv_at hl 0 rfl) ?_
    refine r_get C O (k := 9) (j := 1) (v := .ref (q 5)) fX5_40 rfl rfl rfl dX5_lineUp_9 ?_
    refine r_callI C O hl (c_X1_size l) mX5_98 (by decide) rfl rfl rfl rfl (Nat.le_of_ble_eq_true rfl) hf dX5_lineUp_12 (fun r_2 σ_1 H locs O hf => ?_)
    refine lv_icmp_ge (tgt := 73) hx hb dX5_lineUp_15 (by decide) (fun c_3 => ?_) (fun c_3 => ?_)
    · have hf := hf.1 c_3
      refine lv_lconst (v := 1) hx hb dX5_lineUp_73 (by decide) ?_
      refine lv_lstore_n (lv' := [(1, .long 1), (0, .ref (q 9))]) hx hb dX5_lineUp_74 rfl hl (by decide) rfl (fun ls hl => ?_)
      refine lv_aload_n hx hb dX5_lineUp_75 rfl (lv_at hl 1 rfl) ?_
      refine r_get C O (k := 9) (j := 11) (v := .int (σ_1.1 9 11)) fX5_77 rfl rfl rfl dX5_lineUp_76 ?_
      refine lv_iconst (v := 1) hx hb dX5_lineUp_79 (by decide) ?_
      refine lv_isub hx hb dX5_lineUp_80 ?_
      refine lv_istore_n (lv' := [(3, .int ((σ_1.1 9 11) - 1)), (1, .long 1), (0, .ref (q 9))]) hx hb dX5_lineUp_81 rfl hl (by decide) rfl (fun ls hl => ?_)
      obtain ⟨nn, hf⟩ := hf
      exact b_X5_lineUp_82 C hE nn 1 ((σ_1.1 9 11) - 1) σ_1 _ _ ls O (lv_sub hl [2, 1, 0] rfl) hf
    · have hf := hf.2 c_3
      refine lv_aload_n hx hb dX5_lineUp_18 rfl (lv_at hl 0 rfl) ?_
      refine r_get C O (k := 9) (j := 1) (v := .ref (q 5)) fX5_40 rfl rfl rfl dX5_lineUp_19 ?_
      refine lv_iload_n hx hb dX5_lineUp_22 rfl (lv_at hl 1 rfl) ?_
      refine r_callI C O hl (c_X1_inOrder l x1) mX5_99 (by decide) rfl rfl rfl rfl (Nat.le_of_ble_eq_true rfl) hf dX5_lineUp_23 (fun r_5 σ_4 H locs O hf => ?_)
      refine lv_istore_n (lv' := [(2, .int r_5), (0, .ref (q 9)), (1, .int x1)]) hx hb dX5_lineUp_26 rfl hl (by decide) rfl (fun ls hl => ?_)
      refine lv_aload_n hx hb dX5_lineUp_27 rfl (lv_at hl 1 rfl) ?_
      refine r_get C O (k := 9) (j := 1) (v := .ref (q 5)) fX5_40 rfl rfl rfl dX5_lineUp_28 ?_
      refine lv_iload_n hx hb dX5_lineUp_31 rfl (lv_at hl 0 rfl) ?_
      refine r_callI C O hl (c_X1_isLive l r_5) mX5_111 (by decide) rfl rfl rfl rfl (Nat.le_of_ble_eq_true rfl) hf dX5_lineUp_32 (fun r_7 σ_6 H locs O hf => ?_)
      refine lv_if_eq (tgt := 67) hx hb dX5_lineUp_35 (by decide) (fun c_8 => ?_) (fun c_8 => ?_)
      · have hf := hf.1 c_8
        refine lv_iinc (v := x1 + 1) (lv' := [(1, .int (x1 + 1)), (2, .int r_5), (0, .ref (q 9))]) hx hb dX5_lineUp_67 hl (k := 2) rfl rfl (by decide) rfl (fun ls hl => ?_)
        refine lv_goto (tgt := 7) hx hb dX5_lineUp_70 (by decide) ?_
        exact ih (x1 + 1) σ_6 _ _ ls O (lv_sub hl [2, 0] rfl) hf
      · have hf := hf.2 c_8
        refine lv_aload_n hx hb dX5_lineUp_38 rfl (lv_at hl 1 rfl) ?_
        refine r_get C O (k := 9) (j := 11) (v := .int (σ_6.1 9 11)) fX5_77 rfl rfl rfl dX5_lineUp_39 ?_
        refine lv_bipush (v := 8) hx hb dX5_lineUp_42 (by decide) ?_
        refine lv_icmp_ge (tgt := 67) hx hb dX5_lineUp_44 (by decide) (fun c_9 => ?_) (fun c_9 => ?_)
        · have hf := hf.1 c_9
          refine lv_iinc (v := x1 + 1) (lv' := [(1, .int (x1 + 1)), (2, .int r_5), (0, .ref (q 9))]) hx hb dX5_lineUp_67 hl (k := 2) rfl rfl (by decide) rfl (fun ls hl => ?_)
          refine lv_goto (tgt := 7) hx hb dX5_lineUp_70 (by decide) ?_
          exact ih (x1 + 1) σ_6 _ _ ls O (lv_sub hl [2, 0] rfl) hf
        · have hf := hf.2 c_9
          refine lv_aload_n hx hb dX5_lineUp_47 rfl (lv_at hl 1 rfl) ?_
          refine r_get C O (k := 9) (j := 4) (v := .ref (q 31)) fX5_13 rfl rfl rfl dX5_lineUp_48 ?_
          refine lv_aload_n hx hb dX5_lineUp_51 rfl (lv_at hl 1 rfl) ?_
          refine r_get C O (k := 9) (j := 11) (v := .int (σ_6.1 9 11)) fX5_77 rfl rfl rfl dX5_lineUp_52 ?_
          refine lv_iload_n hx hb dX5_lineUp_55 rfl (lv_at hl 0 rfl) ?_
          refine r_iast C O (k := 31) rfl hf.1 dX5_lineUp_56 (fun H locs σ_10 eσ_10 O => ?_)
          have hf := hf.2 σ_10 eσ_10
          refine lv_aload_n hx hb dX5_lineUp_57 rfl (lv_at hl 1 rfl) ?_
          refine lv_dup hx hb dX5_lineUp_58 rfl ?_
          refine r_get C O (k := 9) (j := 11) (v := .int (σ_10.1 9 11)) fX5_77 rfl rfl rfl dX5_lineUp_59 ?_
          refine lv_iconst (v := 1) hx hb dX5_lineUp_62 (by decide) ?_
          refine lv_iadd hx hb dX5_lineUp_63 ?_
          refine r_puti C O (k := 9) pX5_77 rfl rfl dX5_lineUp_64 (fun H locs σ_11 eσ_11 O => ?_)
          have hf := hf σ_11 eσ_11
          refine lv_iinc (v := x1 + 1) (lv' := [(1, .int (x1 + 1)), (2, .int r_5), (0, .ref (q 9))]) hx hb dX5_lineUp_67 hl (k := 2) rfl rfl (by decide) rfl (fun ls hl => ?_)
          refine lv_goto (tgt := 7) hx hb dX5_lineUp_70 (by decide) ?_
          exact ih (x1 + 1) σ_11 _ _ ls O (lv_sub hl [2, 0] rfl) hf
def w_X5_lineUp (σ : St) (Q : St → Prop) : Prop := ∀ σ_1 : St, σ_1 = wr σ 9 11 0 → (∃ nn : Nat, w_X5_lineUp_7 Q nn 0 σ_1)
set_option maxHeartbeats 4000000 in
set_option maxRecDepth 100000 in
theorem b_X5_lineUp (C : CX p R s m args meth c cX5_lineUp 4 RX5 2 42 D cs) (hE : RV p l e R s m args below meth c cX5_lineUp D cs LC q Q E) : ∀ (σ : St) (H : Heap) (locs : List Loc) (ls : Array Slot), OK D cs LC q s σ H locs → lv_has ls 4 [(0, .ref (q 9))] → w_X5_lineUp  σ Q → W p l e R s m args below meth c H locs 0 0 E (F0 m 0 ls []) := by
  have hx := C.1
  have hb := C.2.1
  intro  σ H locs ls O hl hf
  unfold w_X5_lineUp at hf
  refine lv_aload_n hx hb dX5_lineUp_0 rfl (lv_at hl 0 rfl) ?_
  refine lv_iconst (v := 0) hx hb dX5_lineUp_1 (by decide) ?_
  refine r_puti C O (k := 9) pX5_77 rfl rfl dX5_lineUp_2 (fun H locs σ_1 eσ_1 O => ?_)
  have hf := hf σ_1 eσ_1
  refine lv_iconst (v := 0) hx hb dX5_lineUp_5 (by decide) ?_
  refine lv_istore_n (lv' := [(1, .int 0), (0, .ref (q 9))]) hx hb dX5_lineUp_6 rfl hl (by decide) rfl (fun ls hl => ?_)
  obtain ⟨nn, hf⟩ := hf
  exact b_X5_lineUp_7 C hE nn 0 σ_1 _ _ ls O (lv_sub hl [1, 0] rfl) hf
theorem c_X5_lineUp (l : Launch) : MetV l yX5_lineUp cX5_lineUp 4 2 42 LC 9 (fun q => []) (w_X5_lineUp ) := mk_V (own := RX5) (by decide) rfl (fun q => Nat.le_of_ble_eq_true rfl) (fun C hE O hl hf => b_X5_lineUp C hE _ _ _ _ O hl hf)
end
section
variable {p : Program} {l : Launch} {e : Env} {R : Room} {s : State} {m : MethodId} {args : Array Value} {below : List Frame} {meth : Method} {c : Code} {E : State → Prop}
variable {D : va_G} {cs : Nat → ClassId} {q : Nat → Nat}
variable {Q : St → Prop}
def w_X5_keep (x1 : Int32) (x2 : Int64) (σ : St) (Q : St → Prop) : Prop := vp_in x1 256 ∧ (∀ σ_1 : St, σ_1 = wl σ 33 x1.toNatClampNeg x2 → (w_X0_place σ_1 (fun r_3 σ_2 => vp_in x1 256 ∧ (∀ σ_4 : St, σ_4 = wr σ_2 35 x1.toNatClampNeg r_3 → (w_X0_ended σ_4 (fun r_6 σ_5 => vp_in x1 256 ∧ (∀ σ_7 : St, σ_7 = wr σ_5 36 x1.toNatClampNeg r_6 → (w_X0_dutyBegan σ_7 (fun r_9 σ_8 => vp_in x1 256 ∧ (∀ σ_10 : St, σ_10 = wr σ_8 37 x1.toNatClampNeg r_9 → (Q σ_10)))))))))))
set_option maxHeartbeats 4000000 in
set_option maxRecDepth 100000 in
theorem b_X5_keep (C : CX p R s m args meth c cX5_keep 4 RX5 1 20 D cs) (hE : RV p l e R s m args below meth c cX5_keep D cs LC q Q E) : ∀ (x1 : Int32) (x2 : Int64) (σ : St) (H : Heap) (locs : List Loc) (ls : Array Slot), OK D cs LC q s σ H locs → lv_has ls 4 [(0, .ref (q 9)), (1, .int x1), (2, .long x2)] → w_X5_keep x1 x2 σ Q → W p l e R s m args below meth c H locs 0 0 E (F0 m 0 ls []) := by
  have hx := C.1
  have hb := C.2.1
  intro x1 x2 σ H locs ls O hl hf
  unfold w_X5_keep at hf
  refine lv_aload_n hx hb dX5_keep_0 rfl (lv_at hl 0 rfl) ?_
  refine r_get C O (k := 9) (j := 6) (v := .ref (q 33)) fX5_21 rfl rfl rfl dX5_keep_1 ?_
  refine lv_iload_n hx hb dX5_keep_4 rfl (lv_at hl 1 rfl) ?_
  refine lv_lload_n hx hb dX5_keep_5 rfl (lv_at hl 2 rfl) ?_
  refine r_last C O (k := 33) rfl hf.1 dX5_keep_6 (fun H locs σ_1 eσ_1 O => ?_)
  have hf := hf.2 σ_1 eσ_1
  refine lv_aload_n hx hb dX5_keep_7 rfl (lv_at hl 0 rfl) ?_
  refine r_get C O (k := 9) (j := 8) (v := .ref (q 35)) fX5_27 rfl rfl rfl dX5_keep_8 ?_
  refine lv_iload_n hx hb dX5_keep_11 rfl (lv_at hl 1 rfl) ?_
  refine lv_aload_n hx hb dX5_keep_12 rfl (lv_at hl 0 rfl) ?_
  refine r_get C O (k := 9) (j := 3) (v := .ref (q 8)) fX5_48 rfl rfl rfl dX5_keep_13 ?_
  refine r_callI C O hl (c_X0_place l) mX5_141 (by decide) rfl rfl rfl rfl (Nat.le_of_ble_eq_true rfl) hf dX5_keep_16 (fun r_3 σ_2 H locs O hf => ?_)
  refine r_iast C O (k := 35) rfl hf.1 dX5_keep_19 (fun H locs σ_4 eσ_4 O => ?_)
  have hf := hf.2 σ_4 eσ_4
  refine lv_aload_n hx hb dX5_keep_20 rfl (lv_at hl 0 rfl) ?_
  refine r_get C O (k := 9) (j := 9) (v := .ref (q 36)) fX5_30 rfl rfl rfl dX5_keep_21 ?_
  refine lv_iload_n hx hb dX5_keep_24 rfl (lv_at hl 1 rfl) ?_
  refine lv_aload_n hx hb dX5_keep_25 rfl (lv_at hl 0 rfl) ?_
  refine r_get C O (k := 9) (j := 3) (v := .ref (q 8)) fX5_48 rfl rfl rfl dX5_keep_26 ?_
  refine r_callI C O hl (c_X0_ended l) mX5_143 (by decide) rfl rfl rfl rfl (Nat.le_of_ble_eq_true rfl) hf dX5_keep_29 (fun r_6 σ_5 H locs O hf => ?_)
  refine r_iast C O (k := 36) rfl hf.1 dX5_keep_32 (fun H locs σ_7 eσ_7 O => ?_)
  have hf := hf.2 σ_7 eσ_7
  refine lv_aload_n hx hb dX5_keep_33 rfl (lv_at hl 0 rfl) ?_
  refine r_get C O (k := 9) (j := 10) (v := .ref (q 37)) fX5_33 rfl rfl rfl dX5_keep_34 ?_
  refine lv_iload_n hx hb dX5_keep_37 rfl (lv_at hl 1 rfl) ?_
  refine lv_aload_n hx hb dX5_keep_38 rfl (lv_at hl 0 rfl) ?_
  refine r_get C O (k := 9) (j := 3) (v := .ref (q 8)) fX5_48 rfl rfl rfl dX5_keep_39 ?_
  refine r_callI C O hl (c_X0_dutyBegan l) mX5_145 (by decide) rfl rfl rfl rfl (Nat.le_of_ble_eq_true rfl) hf dX5_keep_42 (fun r_9 σ_8 H locs O hf => ?_)
  refine r_iast C O (k := 37) rfl hf.1 dX5_keep_45 (fun H locs σ_10 eσ_10 O => ?_)
  have hf := hf.2 σ_10 eσ_10
  exact hE _ _ _ _ _ O hf dX5_keep_46
theorem c_X5_keep (l : Launch) (x1 : Int32) (x2 : Int64) : MetV l yX5_keep cX5_keep 4 1 20 LC 9 (fun q => [.int x1, .long x2]) (w_X5_keep x1 x2) := mk_V (own := RX5) (by decide) rfl (fun q => Nat.le_of_ble_eq_true rfl) (fun C hE O hl hf => b_X5_keep C hE x1 x2 _ _ _ _ O hl hf)
end
section
variable {p : Program} {l : Launch} {e : Env} {R : Room} {s : State} {m : MethodId} {args : Array Value} {below : List Frame} {meth : Method} {c : Code} {E : State → Prop}
variable {D : va_G} {cs : Nat → ClassId} {q : Nat → Nat}
variable {Q : Int64 → St → Prop}
def w_X5_ownCost_32 (Q : Int64 → St → Prop) (x1 : Int32) (x2 : Int32) (s0 : Int64) (σ : St) : Prop := vp_in x1 8 ∧ (Q (s0 + (x2.toInt64 * (σ.2 32 x1.toNatClampNeg))) σ)
set_option maxHeartbeats 4000000 in
set_option maxRecDepth 100000 in
theorem b_X5_ownCost_32 (C : CX p R s m args meth c cX5_ownCost 6 RX5 2 42 D cs) (hE : RLx p l e R s m args below meth c cX5_ownCost D cs LC q Q E) : ∀ (x1 : Int32) (x2 : Int32) (s0 : Int64) (σ : St) (H : Heap) (locs : List Loc) (ls : Array Slot), OK D cs LC q s σ H locs → lv_has ls 6 [(0, .ref (q 9)), (1, .int x1), (2, .int x2)] → w_X5_ownCost_32 Q x1 x2 s0 σ → W p l e R s m args below meth c H locs 0 0 E (F0 m 32 ls [.long s0]) := by
  have hx := C.1
  have hb := C.2.1
  intro x1 x2 s0 σ H locs ls O hl hf
  unfold w_X5_ownCost_32 at hf
  refine lv_lstore (lv' := [(4, .long s0), (0, .ref (q 9)), (1, .int x1), (2, .int x2)]) hx hb dX5_ownCost_32 hl (by decide) rfl (fun ls hl => ?_)
  refine lv_lload hx hb dX5_ownCost_34 (lv_at hl 0 rfl) ?_
  refine lv_iload_n hx hb dX5_ownCost_36 rfl (lv_at hl 3 rfl) ?_
  refine lv_i2l (v := x2.toInt64) hx hb dX5_ownCost_37 rfl ?_
  refine lv_aload_n hx hb dX5_ownCost_38 rfl (lv_at hl 1 rfl) ?_
  refine r_get C O (k := 9) (j := 5) (v := .ref (q 32)) fX5_17 rfl rfl rfl dX5_ownCost_39 ?_
  refine lv_iload_n hx hb dX5_ownCost_42 rfl (lv_at hl 2 rfl) ?_
  refine r_lald C O (k := 32) rfl hf.1 dX5_ownCost_43 ?_
  have hf := hf.2
  refine lv_lmul hx hb dX5_ownCost_44 ?_
  refine lv_ladd hx hb dX5_ownCost_45 ?_
  exact hE _ _ _ _ _ _ O hf dX5_ownCost_46
def w_X5_ownCost_31 (Q : Int64 → St → Prop) (x1 : Int32) (x2 : Int32) (σ : St) : Prop := w_X5_ownCost_32 Q x1 x2 0 σ
set_option maxHeartbeats 4000000 in
set_option maxRecDepth 100000 in
theorem b_X5_ownCost_31 (C : CX p R s m args meth c cX5_ownCost 6 RX5 2 42 D cs) (hE : RLx p l e R s m args below meth c cX5_ownCost D cs LC q Q E) : ∀ (x1 : Int32) (x2 : Int32) (σ : St) (H : Heap) (locs : List Loc) (ls : Array Slot), OK D cs LC q s σ H locs → lv_has ls 6 [(0, .ref (q 9)), (1, .int x1), (2, .int x2)] → w_X5_ownCost_31 Q x1 x2 σ → W p l e R s m args below meth c H locs 0 0 E (F0 m 31 ls []) := by
  have hx := C.1
  have hb := C.2.1
  intro x1 x2 σ H locs ls O hl hf
  unfold w_X5_ownCost_31 at hf
  refine lv_lconst (v := 0) hx hb dX5_ownCost_31 (by decide) ?_
  exact b_X5_ownCost_32 C hE x1 x2 0 σ _ _ ls O (lv_sub hl [0, 1, 2] rfl) hf
def w_X5_ownCost (x1 : Int32) (x2 : Int32) (σ : St) (Q : Int64 → St → Prop) : Prop := vp_in x1 8 ∧ (w_X6_planeOf (σ.1 31 x1.toNatClampNeg) σ (fun r_2 σ_1 => (r_2 = ((-1)) → (w_X5_ownCost_31 Q x1 x2 σ_1)) ∧ (¬ r_2 = ((-1)) → ((r_2 = x2 → (w_X5_ownCost_31 Q x1 x2 σ_1)) ∧ (¬ r_2 = x2 → (w_X5_ownCost_32 Q x1 x2 (σ_1.2 9 12) σ_1))))))
set_option maxHeartbeats 4000000 in
set_option maxRecDepth 100000 in
theorem b_X5_ownCost (C : CX p R s m args meth c cX5_ownCost 6 RX5 2 42 D cs) (hE : RLx p l e R s m args below meth c cX5_ownCost D cs LC q Q E) : ∀ (x1 : Int32) (x2 : Int32) (σ : St) (H : Heap) (locs : List Loc) (ls : Array Slot), OK D cs LC q s σ H locs → lv_has ls 6 [(0, .ref (q 9)), (1, .int x1), (2, .int x2)] → w_X5_ownCost x1 x2 σ Q → W p l e R s m args below meth c H locs 0 0 E (F0 m 0 ls []) := by
  have hx := C.1
  have hb := C.2.1
  intro x1 x2 σ H locs ls O hl hf
  unfold w_X5_ownCost at hf
  refine lv_aload_n hx hb dX5_ownCost_0 rfl (lv_at hl 0 rfl) ?_
  refine r_get C O (k := 9) (j := 2) (v := .ref (q 7)) fX5_44 rfl rfl rfl dX5_ownCost_1 ?_
  refine lv_aload_n hx hb dX5_ownCost_4 rfl (lv_at hl 0 rfl) ?_
  refine r_get C O (k := 9) (j := 4) (v := .ref (q 31)) fX5_13 rfl rfl rfl dX5_ownCost_5 ?_
  refine lv_iload_n hx hb dX5_ownCost_8 rfl (lv_at hl 1 rfl) ?_
  refine r_iald C O (k := 31) rfl hf.1 dX5_ownCost_9 ?_
  have hf := hf.2
  refine r_callI C O hl (c_X6_planeOf l (σ.1 31 x1.toNatClampNeg)) mX5_103 (by decide) rfl rfl rfl rfl (Nat.le_of_ble_eq_true rfl) hf dX5_ownCost_10 (fun r_2 σ_1 H locs O hf => ?_)
  refine lv_istore_n (lv' := [(3, .int r_2), (0, .ref (q 9)), (1, .int x1), (2, .int x2)]) hx hb dX5_ownCost_13 rfl hl (by decide) rfl (fun ls hl => ?_)
  refine lv_iload_n hx hb dX5_ownCost_14 rfl (lv_at hl 0 rfl) ?_
  refine lv_iconst (v := (-1)) hx hb dX5_ownCost_15 (by decide) ?_
  refine lv_icmp_eq (tgt := 31) hx hb dX5_ownCost_16 (by decide) (fun c_3 => ?_) (fun c_3 => ?_)
  · have hf := hf.1 c_3
    exact b_X5_ownCost_31 C hE x1 x2 σ_1 _ _ ls O (lv_sub hl [1, 2, 3] rfl) hf
  · have hf := hf.2 c_3
    refine lv_iload_n hx hb dX5_ownCost_19 rfl (lv_at hl 0 rfl) ?_
    refine lv_iload_n hx hb dX5_ownCost_20 rfl (lv_at hl 3 rfl) ?_
    refine lv_icmp_eq (tgt := 31) hx hb dX5_ownCost_21 (by decide) (fun c_4 => ?_) (fun c_4 => ?_)
    · have hf := hf.1 c_4
      exact b_X5_ownCost_31 C hE x1 x2 σ_1 _ _ ls O (lv_sub hl [1, 2, 3] rfl) hf
    · have hf := hf.2 c_4
      refine lv_aload_n hx hb dX5_ownCost_24 rfl (lv_at hl 1 rfl) ?_
      refine r_get C O (k := 9) (j := 12) (v := .long (σ_1.2 9 12)) fX5_54 rfl rfl rfl dX5_ownCost_25 ?_
      refine lv_goto (tgt := 32) hx hb dX5_ownCost_28 (by decide) ?_
      exact b_X5_ownCost_32 C hE x1 x2 (σ_1.2 9 12) σ_1 _ _ ls O (lv_sub hl [1, 2, 3] rfl) hf
theorem c_X5_ownCost (l : Launch) (x1 : Int32) (x2 : Int32) : MetL l yX5_ownCost cX5_ownCost 6 2 42 LC 9 (fun q => [.int x1, .int x2]) (w_X5_ownCost x1 x2) := mk_L (own := RX5) (by decide) rfl (fun q => Nat.le_of_ble_eq_true rfl) (fun C hE O hl hf => b_X5_ownCost C hE x1 x2 _ _ _ _ O hl hf)
end
section
variable {p : Program} {l : Launch} {e : Env} {R : Room} {s : State} {m : MethodId} {args : Array Value} {below : List Frame} {meth : Method} {c : Code} {E : State → Prop}
variable {D : va_G} {cs : Nat → ClassId} {q : Nat → Nat}
variable {Q : Int64 → St → Prop}
def w_X5_costBehind (x1 : Int32) (x2 : Int32) (x3 : Int64) (σ : St) (Q : Int64 → St → Prop) : Prop := vp_in x1 256 ∧ (((lg_cmp (σ.2 33 x1.toNatClampNeg) 10000000000000000) < 0 → (vp_in x1 256 ∧ (vp_in x1 256 ∧ (vp_in x1 256 ∧ (w_X0_resume (σ.1 35 x1.toNatClampNeg) (σ.1 36 x1.toNatClampNeg) (σ.1 37 x1.toNatClampNeg) σ (fun σ_2 => vp_in x2 8 ∧ (w_X0_join (σ_2.1 31 x2.toNatClampNeg) σ_2 (fun r_4 σ_3 => (¬ r_4 = ((-1)) → (vp_in x1 256 ∧ (Q (((σ_3.2 33 x1.toNatClampNeg) + x3) + (r_4.toInt64 * 100000000)) σ_3))) ∧ (r_4 = ((-1)) → (Q 10000000000000000 σ_3)))))))))) ∧ (¬ (lg_cmp (σ.2 33 x1.toNatClampNeg) 10000000000000000) < 0 → (Q 10000000000000000 σ)))
set_option maxHeartbeats 4000000 in
set_option maxRecDepth 100000 in
theorem b_X5_costBehind (C : CX p R s m args meth c cX5_costBehind 6 RX5 3 72 D cs) (hE : RLx p l e R s m args below meth c cX5_costBehind D cs LC q Q E) : ∀ (x1 : Int32) (x2 : Int32) (x3 : Int64) (σ : St) (H : Heap) (locs : List Loc) (ls : Array Slot), OK D cs LC q s σ H locs → lv_has ls 6 [(0, .ref (q 9)), (1, .int x1), (2, .int x2), (3, .long x3)] → w_X5_costBehind x1 x2 x3 σ Q → W p l e R s m args below meth c H locs 0 0 E (F0 m 0 ls []) := by
  have hx := C.1
  have hb := C.2.1
  intro x1 x2 x3 σ H locs ls O hl hf
  unfold w_X5_costBehind at hf
  refine lv_aload_n hx hb dX5_costBehind_0 rfl (lv_at hl 0 rfl) ?_
  refine r_get C O (k := 9) (j := 6) (v := .ref (q 33)) fX5_21 rfl rfl rfl dX5_costBehind_1 ?_
  refine lv_iload_n hx hb dX5_costBehind_4 rfl (lv_at hl 1 rfl) ?_
  refine r_lald C O (k := 33) rfl hf.1 dX5_costBehind_5 ?_
  have hf := hf.2
  refine lv_ldc2 (v := 10000000000000000) hx hb C.2.2.2.1 (C.2.2.2.2.1 _ kX5_117) dX5_costBehind_6 ?_
  refine W.lcmp hx hb dX5_costBehind_9 ?_
  refine lv_if_lt (tgt := 17) hx hb dX5_costBehind_10 (by decide) (fun c_1 => ?_) (fun c_1 => ?_)
  · have hf := hf.1 c_1
    refine lv_aload_n hx hb dX5_costBehind_17 rfl (lv_at hl 0 rfl) ?_
    refine r_get C O (k := 9) (j := 3) (v := .ref (q 8)) fX5_48 rfl rfl rfl dX5_costBehind_18 ?_
    refine lv_aload_n hx hb dX5_costBehind_21 rfl (lv_at hl 0 rfl) ?_
    refine r_get C O (k := 9) (j := 8) (v := .ref (q 35)) fX5_27 rfl rfl rfl dX5_costBehind_22 ?_
    refine lv_iload_n hx hb dX5_costBehind_25 rfl (lv_at hl 1 rfl) ?_
    refine r_iald C O (k := 35) rfl hf.1 dX5_costBehind_26 ?_
    have hf := hf.2
    refine lv_aload_n hx hb dX5_costBehind_27 rfl (lv_at hl 0 rfl) ?_
    refine r_get C O (k := 9) (j := 9) (v := .ref (q 36)) fX5_30 rfl rfl rfl dX5_costBehind_28 ?_
    refine lv_iload_n hx hb dX5_costBehind_31 rfl (lv_at hl 1 rfl) ?_
    refine r_iald C O (k := 36) rfl hf.1 dX5_costBehind_32 ?_
    have hf := hf.2
    refine lv_aload_n hx hb dX5_costBehind_33 rfl (lv_at hl 0 rfl) ?_
    refine r_get C O (k := 9) (j := 10) (v := .ref (q 37)) fX5_33 rfl rfl rfl dX5_costBehind_34 ?_
    refine lv_iload_n hx hb dX5_costBehind_37 rfl (lv_at hl 1 rfl) ?_
    refine r_iald C O (k := 37) rfl hf.1 dX5_costBehind_38 ?_
    have hf := hf.2
    refine r_callV C O hl (c_X0_resume l (σ.1 35 x1.toNatClampNeg) (σ.1 36 x1.toNatClampNeg) (σ.1 37 x1.toNatClampNeg)) mX5_137 (by decide) rfl rfl rfl rfl (Nat.le_of_ble_eq_true rfl) hf dX5_costBehind_39 (fun σ_2 H locs O hf => ?_)
    refine lv_aload_n hx hb dX5_costBehind_42 rfl (lv_at hl 0 rfl) ?_
    refine r_get C O (k := 9) (j := 3) (v := .ref (q 8)) fX5_48 rfl rfl rfl dX5_costBehind_43 ?_
    refine lv_aload_n hx hb dX5_costBehind_46 rfl (lv_at hl 0 rfl) ?_
    refine r_get C O (k := 9) (j := 4) (v := .ref (q 31)) fX5_13 rfl rfl rfl dX5_costBehind_47 ?_
    refine lv_iload_n hx hb dX5_costBehind_50 rfl (lv_at hl 2 rfl) ?_
    refine r_iald C O (k := 31) rfl hf.1 dX5_costBehind_51 ?_
    have hf := hf.2
    refine r_callI C O hl (c_X0_join l (σ_2.1 31 x2.toNatClampNeg)) mX5_108 (by decide) rfl rfl rfl rfl (Nat.le_of_ble_eq_true rfl) hf dX5_costBehind_52 (fun r_4 σ_3 H locs O hf => ?_)
    refine lv_istore (lv' := [(5, .int r_4), (0, .ref (q 9)), (1, .int x1), (2, .int x2), (3, .long x3)]) hx hb dX5_costBehind_55 hl (by decide) rfl (fun ls hl => ?_)
    refine lv_iload hx hb dX5_costBehind_57 (lv_at hl 0 rfl) ?_
    refine lv_iconst (v := (-1)) hx hb dX5_costBehind_59 (by decide) ?_
    refine lv_icmp_ne (tgt := 69) hx hb dX5_costBehind_60 (by decide) (fun c_5 => ?_) (fun c_5 => ?_)
    · have hf := hf.1 c_5
      refine lv_aload_n hx hb dX5_costBehind_69 rfl (lv_at hl 1 rfl) ?_
      refine r_get C O (k := 9) (j := 6) (v := .ref (q 33)) fX5_21 rfl rfl rfl dX5_costBehind_70 ?_
      refine lv_iload_n hx hb dX5_costBehind_73 rfl (lv_at hl 2 rfl) ?_
      refine r_lald C O (k := 33) rfl hf.1 dX5_costBehind_74 ?_
      have hf := hf.2
      refine lv_lload_n hx hb dX5_costBehind_75 rfl (lv_at hl 4 rfl) ?_
      refine lv_ladd hx hb dX5_costBehind_76 ?_
      refine lv_iload hx hb dX5_costBehind_77 (lv_at hl 0 rfl) ?_
      refine lv_i2l (v := r_4.toInt64) hx hb dX5_costBehind_79 rfl ?_
      refine lv_ldc2 (v := 100000000) hx hb C.2.2.2.1 (C.2.2.2.2.1 _ kX5_85) dX5_costBehind_80 ?_
      refine lv_lmul hx hb dX5_costBehind_83 ?_
      refine lv_ladd hx hb dX5_costBehind_84 ?_
      exact hE _ _ _ _ _ _ O hf dX5_costBehind_85
    · have hf := hf.2 c_5
      refine lv_ldc2 (v := 10000000000000000) hx hb C.2.2.2.1 (C.2.2.2.2.1 _ kX5_117) dX5_costBehind_63 ?_
      refine lv_goto (tgt := 85) hx hb dX5_costBehind_66 (by decide) ?_
      exact hE _ _ _ _ _ _ O hf dX5_costBehind_85
  · have hf := hf.2 c_1
    refine lv_ldc2 (v := 10000000000000000) hx hb C.2.2.2.1 (C.2.2.2.2.1 _ kX5_117) dX5_costBehind_13 ?_
    exact hE _ _ _ _ _ _ O hf dX5_costBehind_16
theorem c_X5_costBehind (l : Launch) (x1 : Int32) (x2 : Int32) (x3 : Int64) : MetL l yX5_costBehind cX5_costBehind 6 3 72 LC 9 (fun q => [.int x1, .int x2, .long x3]) (w_X5_costBehind x1 x2 x3) := mk_L (own := RX5) (by decide) rfl (fun q => Nat.le_of_ble_eq_true rfl) (fun C hE O hl hf => b_X5_costBehind C hE x1 x2 x3 _ _ _ _ O hl hf)
end
section
variable {p : Program} {l : Launch} {e : Env} {R : Room} {s : State} {m : MethodId} {args : Array Value} {below : List Frame} {meth : Method} {c : Code} {E : State → Prop}
variable {D : va_G} {cs : Nat → ClassId} {q : Nat → Nat}
variable {Q : St → Prop}
def w_X5_weighChains_39 (Q : St → Prop) (K16 : Int32 → Int32 → St → Prop) : Nat → Int32 → Int32 → Int32 → Int64 → Int32 → St → Prop
  | 0, _, _, _, _, _, _ => False
  | n + 1, x1, x2, x3, x4, x6, σ => (x3 ≤ x6 → (K16 x1 (x2 + 1) σ)) ∧ (¬ x3 ≤ x6 → (w_X5_costBehind x6 x2 x4 σ (fun r_3 σ_2 => w_X5_keep (x6 + x3) r_3 σ_2 (fun σ_4 => w_X5_weighChains_39 Q K16 n x1 x2 x3 x4 (x6 + 1) σ_4))))
set_option maxHeartbeats 4000000 in
set_option maxRecDepth 100000 in
theorem b_X5_weighChains_39 (C : CX p R s m args meth c cX5_weighChains 7 RX5 4 97 D cs) (hE : RV p l e R s m args below meth c cX5_weighChains D cs LC q Q E) {K16 : Int32 → Int32 → St → Prop} (hK16 : ∀ (x1 : Int32) (x2 : Int32) (σ : St) (H : Heap) (locs : List Loc) (ls : Array Slot), OK D cs LC q s σ H locs → lv_has ls 7 [(0, .ref (q 9)), (1, .int x1), (2, .int x2)] → K16 x1 x2 σ → W p l e R s m args below meth c H locs 0 0 E (F0 m 16 ls [])) : ∀ n : Nat, ∀ (x1 : Int32) (x2 : Int32) (x3 : Int32) (x4 : Int64) (x6 : Int32) (σ : St) (H : Heap) (locs : List Loc) (ls : Array Slot), OK D cs LC q s σ H locs → lv_has ls 7 [(0, .ref (q 9)), (1, .int x1), (2, .int x2), (3, .int x3), (4, .long x4), (6, .int x6)] → w_X5_weighChains_39 Q K16 n x1 x2 x3 x4 x6 σ → W p l e R s m args below meth c H locs 0 0 E (F0 m 39 ls []) := by
  have hx := C.1
  have hb := C.2.1
  intro n
  induction n with
  | zero => intro x1 x2 x3 x4 x6 σ H locs ls O hl hf; exact hf.elim
  | succ n ih =>
    intro x1 x2 x3 x4 x6 σ H locs ls O hl hf
    unfold w_X5_weighChains_39 at hf
    refine lv_iload hx hb dX5_weighChains_39 (lv_at hl 5 rfl) ?_
    refine lv_iload_n hx hb dX5_weighChains_41 rfl (lv_at hl 3 rfl) ?_
    refine lv_icmp_ge (tgt := 68) hx hb dX5_weighChains_42 (by decide) (fun c_1 => ?_) (fun c_1 => ?_)
    · have hf := hf.1 c_1
      refine lv_iinc (v := x2 + 1) (lv' := [(2, .int (x2 + 1)), (0, .ref (q 9)), (1, .int x1), (3, .int x3), (4, .long x4), (6, .int x6)]) hx hb dX5_weighChains_68 hl (k := 2) rfl rfl (by decide) rfl (fun ls hl => ?_)
      refine lv_goto (tgt := 16) hx hb dX5_weighChains_71 (by decide) ?_
      exact hK16 x1 (x2 + 1) σ _ _ ls O (lv_sub hl [1, 2, 0] rfl) hf
    · have hf := hf.2 c_1
      refine lv_aload_n hx hb dX5_weighChains_45 rfl (lv_at hl 0 rfl) ?_
      refine lv_iload hx hb dX5_weighChains_46 (lv_at hl 5 rfl) ?_
      refine lv_iload_n hx hb dX5_weighChains_48 rfl (lv_at hl 3 rfl) ?_
      refine lv_iadd hx hb dX5_weighChains_49 ?_
      refine lv_aload_n hx hb dX5_weighChains_50 rfl (lv_at hl 0 rfl) ?_
      refine lv_iload hx hb dX5_weighChains_51 (lv_at hl 5 rfl) ?_
      refine lv_iload_n hx hb dX5_weighChains_53 rfl (lv_at hl 2 rfl) ?_
      refine lv_lload hx hb dX5_weighChains_54 (lv_at hl 4 rfl) ?_
      refine r_callL C O hl (c_X5_costBehind l x6 x2 x4) mX5_133 (by decide) rfl rfl rfl rfl (Nat.le_of_ble_eq_true rfl) hf dX5_weighChains_56 (fun r_3 σ_2 H locs O hf => ?_)
      refine r_callV C O hl (c_X5_keep l (x6 + x3) r_3) mX5_125 (by decide) rfl rfl rfl rfl (Nat.le_of_ble_eq_true rfl) hf dX5_weighChains_59 (fun σ_4 H locs O hf => ?_)
      refine lv_iinc (v := x6 + 1) (lv' := [(6, .int (x6 + 1)), (0, .ref (q 9)), (1, .int x1), (2, .int x2), (3, .int x3), (4, .long x4)]) hx hb dX5_weighChains_62 hl (k := 5) rfl rfl (by decide) rfl (fun ls hl => ?_)
      refine lv_goto (tgt := 39) hx hb dX5_weighChains_65 (by decide) ?_
      exact ih x1 x2 x3 x4 (x6 + 1) σ_4 _ _ ls O (lv_sub hl [1, 2, 3, 4, 5, 0] rfl) hf
def w_X5_weighChains_16 (Q : St → Prop) : Nat → Int32 → Int32 → St → Prop
  | 0, _, _, _ => False
  | n + 1, x1, x2, σ => ((σ.1 9 11) ≤ x2 → (Q σ)) ∧ (¬ (σ.1 9 11) ≤ x2 → (w_X5_ownCost x2 x1 σ (fun r_3 σ_2 => ∃ nn : Nat, w_X5_weighChains_39 Q (fun x1 x2 σ => w_X5_weighChains_16 Q n x1 x2 σ) nn x1 x2 (1 <<< (x2 &&& 31)) r_3 0 σ_2)))
set_option maxHeartbeats 4000000 in
set_option maxRecDepth 100000 in
theorem b_X5_weighChains_16 (C : CX p R s m args meth c cX5_weighChains 7 RX5 4 97 D cs) (hE : RV p l e R s m args below meth c cX5_weighChains D cs LC q Q E) : ∀ n : Nat, ∀ (x1 : Int32) (x2 : Int32) (σ : St) (H : Heap) (locs : List Loc) (ls : Array Slot), OK D cs LC q s σ H locs → lv_has ls 7 [(0, .ref (q 9)), (1, .int x1), (2, .int x2)] → w_X5_weighChains_16 Q n x1 x2 σ → W p l e R s m args below meth c H locs 0 0 E (F0 m 16 ls []) := by
  have hx := C.1
  have hb := C.2.1
  intro n
  induction n with
  | zero => intro x1 x2 σ H locs ls O hl hf; exact hf.elim
  | succ n ih =>
    intro x1 x2 σ H locs ls O hl hf
    unfold w_X5_weighChains_16 at hf
    refine lv_iload_n hx hb dX5_weighChains_16 rfl (lv_at hl 2 rfl) ?_
    refine lv_aload_n hx hb dX5_weighChains_17 rfl (lv_at hl 0 rfl) ?_
    refine r_get C O (k := 9) (j := 11) (v := .int (σ.1 9 11)) fX5_77 rfl rfl rfl dX5_weighChains_18 ?_
    refine lv_icmp_ge (tgt := 74) hx hb dX5_weighChains_21 (by decide) (fun c_1 => ?_) (fun c_1 => ?_)
    · have hf := hf.1 c_1
      exact hE _ _ _ _ _ O hf dX5_weighChains_74
    · have hf := hf.2 c_1
      refine lv_iconst (v := 1) hx hb dX5_weighChains_24 (by decide) ?_
      refine lv_iload_n hx hb dX5_weighChains_25 rfl (lv_at hl 2 rfl) ?_
      refine lv_ishl hx hb dX5_weighChains_26 ?_
      refine lv_istore_n (lv' := [(3, .int (1 <<< (x2 &&& 31))), (0, .ref (q 9)), (1, .int x1), (2, .int x2)]) hx hb dX5_weighChains_27 rfl hl (by decide) rfl (fun ls hl => ?_)
      refine lv_aload_n hx hb dX5_weighChains_28 rfl (lv_at hl 1 rfl) ?_
      refine lv_iload_n hx hb dX5_weighChains_29 rfl (lv_at hl 3 rfl) ?_
      refine lv_iload_n hx hb dX5_weighChains_30 rfl (lv_at hl 2 rfl) ?_
      refine r_callL C O hl (c_X5_ownCost l x2 x1) mX5_129 (by decide) rfl rfl rfl rfl (Nat.le_of_ble_eq_true rfl) hf dX5_weighChains_31 (fun r_3 σ_2 H locs O hf => ?_)
      refine lv_lstore (lv' := [(4, .long r_3), (3, .int (1 <<< (x2 &&& 31))), (0, .ref (q 9)), (1, .int x1), (2, .int x2)]) hx hb dX5_weighChains_34 hl (by decide) rfl (fun ls hl => ?_)
      refine lv_iconst (v := 0) hx hb dX5_weighChains_36 (by decide) ?_
      refine lv_istore (lv' := [(6, .int 0), (4, .long r_3), (3, .int (1 <<< (x2 &&& 31))), (0, .ref (q 9)), (1, .int x1), (2, .int x2)]) hx hb dX5_weighChains_37 hl (by decide) rfl (fun ls hl => ?_)
      obtain ⟨nn, hf⟩ := hf
      exact b_X5_weighChains_39 C hE ih nn x1 x2 (1 <<< (x2 &&& 31)) r_3 0 σ_2 _ _ ls O (lv_sub hl [3, 4, 5, 2, 1, 0] rfl) hf
def w_X5_weighChains (x1 : Int32) (σ : St) (Q : St → Prop) : Prop := w_X0_begin x1 σ (fun σ_1 => w_X5_keep 0 0 σ_1 (fun σ_2 => ∃ nn : Nat, w_X5_weighChains_16 Q nn x1 0 σ_2))
set_option maxHeartbeats 4000000 in
set_option maxRecDepth 100000 in
theorem b_X5_weighChains (C : CX p R s m args meth c cX5_weighChains 7 RX5 4 97 D cs) (hE : RV p l e R s m args below meth c cX5_weighChains D cs LC q Q E) : ∀ (x1 : Int32) (σ : St) (H : Heap) (locs : List Loc) (ls : Array Slot), OK D cs LC q s σ H locs → lv_has ls 7 [(0, .ref (q 9)), (1, .int x1)] → w_X5_weighChains x1 σ Q → W p l e R s m args below meth c H locs 0 0 E (F0 m 0 ls []) := by
  have hx := C.1
  have hb := C.2.1
  intro x1 σ H locs ls O hl hf
  unfold w_X5_weighChains at hf
  refine lv_aload_n hx hb dX5_weighChains_0 rfl (lv_at hl 0 rfl) ?_
  refine r_get C O (k := 9) (j := 3) (v := .ref (q 8)) fX5_48 rfl rfl rfl dX5_weighChains_1 ?_
  refine lv_iload_n hx hb dX5_weighChains_4 rfl (lv_at hl 1 rfl) ?_
  refine r_callV C O hl (c_X0_begin l x1) mX5_93 (by decide) rfl rfl rfl rfl (Nat.le_of_ble_eq_true rfl) hf dX5_weighChains_5 (fun σ_1 H locs O hf => ?_)
  refine lv_aload_n hx hb dX5_weighChains_8 rfl (lv_at hl 0 rfl) ?_
  refine lv_iconst (v := 0) hx hb dX5_weighChains_9 (by decide) ?_
  refine lv_lconst (v := 0) hx hb dX5_weighChains_10 (by decide) ?_
  refine r_callV C O hl (c_X5_keep l 0 0) mX5_125 (by decide) rfl rfl rfl rfl (Nat.le_of_ble_eq_true rfl) hf dX5_weighChains_11 (fun σ_2 H locs O hf => ?_)
  refine lv_iconst (v := 0) hx hb dX5_weighChains_14 (by decide) ?_
  refine lv_istore_n (lv' := [(2, .int 0), (0, .ref (q 9)), (1, .int x1)]) hx hb dX5_weighChains_15 rfl hl (by decide) rfl (fun ls hl => ?_)
  obtain ⟨nn, hf⟩ := hf
  exact b_X5_weighChains_16 C hE nn x1 0 σ_2 _ _ ls O (lv_sub hl [1, 2, 0] rfl) hf
theorem c_X5_weighChains (l : Launch) (x1 : Int32) : MetV l yX5_weighChains cX5_weighChains 7 4 97 LC 9 (fun q => [.int x1]) (w_X5_weighChains x1) := mk_V (own := RX5) (by decide) rfl (fun q => Nat.le_of_ble_eq_true rfl) (fun C hE O hl hf => b_X5_weighChains C hE x1 _ _ _ _ O hl hf)
end
section
variable {p : Program} {l : Launch} {e : Env} {R : Room} {s : State} {m : MethodId} {args : Array Value} {below : List Frame} {meth : Method} {c : Code} {E : State → Prop}
variable {D : va_G} {cs : Nat → ClassId} {q : Nat → Nat}
variable {Q : Int64 → St → Prop}
def w_X5_leastOf_52 (Q : Int64 → St → Prop) (K10 : Int32 → Int64 → Int32 → Int32 → St → Prop) (x1 : Int32) (x2 : Int64) (x4 : Int32) (x5 : Int32) (σ : St) : Prop := (¬ x4 = 0 → (K10 x1 x2 ((x4 - 1) &&& x1) (x5 + 1) σ)) ∧ (x4 = 0 → (Q x2 σ))
set_option maxHeartbeats 4000000 in
set_option maxRecDepth 100000 in
theorem b_X5_leastOf_52 (C : CX p R s m args meth c cX5_leastOf 6 RX5 1 23 D cs) (hE : RLx p l e R s m args below meth c cX5_leastOf D cs LC q Q E) {K10 : Int32 → Int64 → Int32 → Int32 → St → Prop} (hK10 : ∀ (x1 : Int32) (x2 : Int64) (x4 : Int32) (x5 : Int32) (σ : St) (H : Heap) (locs : List Loc) (ls : Array Slot), OK D cs LC q s σ H locs → lv_has ls 6 [(0, .ref (q 9)), (1, .int x1), (2, .long x2), (4, .int x4), (5, .int x5)] → K10 x1 x2 x4 x5 σ → W p l e R s m args below meth c H locs 0 0 E (F0 m 10 ls [])) : ∀ (x1 : Int32) (x2 : Int64) (x4 : Int32) (x5 : Int32) (σ : St) (H : Heap) (locs : List Loc) (ls : Array Slot), OK D cs LC q s σ H locs → lv_has ls 6 [(0, .ref (q 9)), (1, .int x1), (2, .long x2), (4, .int x4), (5, .int x5)] → w_X5_leastOf_52 Q K10 x1 x2 x4 x5 σ → W p l e R s m args below meth c H locs 0 0 E (F0 m 52 ls []) := by
  have hx := C.1
  have hb := C.2.1
  intro x1 x2 x4 x5 σ H locs ls O hl hf
  unfold w_X5_leastOf_52 at hf
  refine lv_iload hx hb dX5_leastOf_52 (lv_at hl 3 rfl) ?_
  refine lv_if_ne (tgt := 60) hx hb dX5_leastOf_54 (by decide) (fun c_1 => ?_) (fun c_1 => ?_)
  · have hf := hf.1 c_1
    refine lv_iload hx hb dX5_leastOf_60 (lv_at hl 3 rfl) ?_
    refine lv_iconst (v := 1) hx hb dX5_leastOf_62 (by decide) ?_
    refine lv_isub hx hb dX5_leastOf_63 ?_
    refine lv_iload_n hx hb dX5_leastOf_64 rfl (lv_at hl 1 rfl) ?_
    refine lv_iand hx hb dX5_leastOf_65 ?_
    refine lv_istore (lv' := [(4, .int ((x4 - 1) &&& x1)), (0, .ref (q 9)), (1, .int x1), (2, .long x2), (5, .int x5)]) hx hb dX5_leastOf_66 hl (by decide) rfl (fun ls hl => ?_)
    refine lv_iinc (v := x5 + 1) (lv' := [(5, .int (x5 + 1)), (4, .int ((x4 - 1) &&& x1)), (0, .ref (q 9)), (1, .int x1), (2, .long x2)]) hx hb dX5_leastOf_68 hl (k := 4) rfl rfl (by decide) rfl (fun ls hl => ?_)
    refine lv_goto (tgt := 10) hx hb dX5_leastOf_71 (by decide) ?_
    exact hK10 x1 x2 ((x4 - 1) &&& x1) (x5 + 1) σ _ _ ls O (lv_sub hl [2, 3, 4, 1, 0] rfl) hf
  · have hf := hf.2 c_1
    refine lv_goto (tgt := 74) hx hb dX5_leastOf_57 (by decide) ?_
    refine lv_lload_n hx hb dX5_leastOf_74 rfl (lv_at hl 2 rfl) ?_
    exact hE _ _ _ _ _ _ O hf dX5_leastOf_75
def w_X5_leastOf_10 (Q : Int64 → St → Prop) : Nat → Int32 → Int64 → Int32 → Int32 → St → Prop
  | 0, _, _, _, _, _ => False
  | n + 1, x1, x2, x4, x5, σ => (x1 < x5 → (Q x2 σ)) ∧ (¬ x1 < x5 → (vp_in x4 256 ∧ ((0 ≤ (lg_cmp (σ.2 33 x4.toNatClampNeg) 10000000000000000) → (w_X5_leastOf_52 Q (fun x1 x2 x4 x5 σ => w_X5_leastOf_10 Q n x1 x2 x4 x5 σ) x1 x2 x4 x5 σ)) ∧ (¬ 0 ≤ (lg_cmp (σ.2 33 x4.toNatClampNeg) 10000000000000000) → (vp_in x4 256 ∧ (vp_in (x1 ^^^ x4) 256 ∧ (∀ v_3 : Int64, v_3 = (if (σ.2 33 x4.toNatClampNeg) + (σ.2 34 (x1 ^^^ x4).toNatClampNeg) < x2 then (σ.2 33 x4.toNatClampNeg) + (σ.2 34 (x1 ^^^ x4).toNatClampNeg) else x2) → (w_X5_leastOf_52 Q (fun x1 x2 x4 x5 σ => w_X5_leastOf_10 Q n x1 x2 x4 x5 σ) x1 v_3 x4 x5 σ))))))))
set_option maxHeartbeats 4000000 in
set_option maxRecDepth 100000 in
theorem b_X5_leastOf_10 (C : CX p R s m args meth c cX5_leastOf 6 RX5 1 23 D cs) (hE : RLx p l e R s m args below meth c cX5_leastOf D cs LC q Q E) : ∀ n : Nat, ∀ (x1 : Int32) (x2 : Int64) (x4 : Int32) (x5 : Int32) (σ : St) (H : Heap) (locs : List Loc) (ls : Array Slot), OK D cs LC q s σ H locs → lv_has ls 6 [(0, .ref (q 9)), (1, .int x1), (2, .long x2), (4, .int x4), (5, .int x5)] → w_X5_leastOf_10 Q n x1 x2 x4 x5 σ → W p l e R s m args below meth c H locs 0 0 E (F0 m 10 ls []) := by
  have hx := C.1
  have hb := C.2.1
  intro n
  induction n with
  | zero => intro x1 x2 x4 x5 σ H locs ls O hl hf; exact hf.elim
  | succ n ih =>
    intro x1 x2 x4 x5 σ H locs ls O hl hf
    unfold w_X5_leastOf_10 at hf
    refine lv_iload hx hb dX5_leastOf_10 (lv_at hl 4 rfl) ?_
    refine lv_iload_n hx hb dX5_leastOf_12 rfl (lv_at hl 1 rfl) ?_
    refine lv_icmp_gt (tgt := 74) hx hb dX5_leastOf_13 (by decide) (fun c_1 => ?_) (fun c_1 => ?_)
    · have hf := hf.1 c_1
      refine lv_lload_n hx hb dX5_leastOf_74 rfl (lv_at hl 2 rfl) ?_
      exact hE _ _ _ _ _ _ O hf dX5_leastOf_75
    · have hf := hf.2 c_1
      refine lv_aload_n hx hb dX5_leastOf_16 rfl (lv_at hl 0 rfl) ?_
      refine r_get C O (k := 9) (j := 6) (v := .ref (q 33)) fX5_21 rfl rfl rfl dX5_leastOf_17 ?_
      refine lv_iload hx hb dX5_leastOf_20 (lv_at hl 3 rfl) ?_
      refine r_lald C O (k := 33) rfl hf.1 dX5_leastOf_22 ?_
      have hf := hf.2
      refine lv_ldc2 (v := 10000000000000000) hx hb C.2.2.2.1 (C.2.2.2.2.1 _ kX5_117) dX5_leastOf_23 ?_
      refine W.lcmp hx hb dX5_leastOf_26 ?_
      refine lv_if_ge (tgt := 52) hx hb dX5_leastOf_27 (by decide) (fun c_2 => ?_) (fun c_2 => ?_)
      · have hf := hf.1 c_2
        exact b_X5_leastOf_52 C hE ih x1 x2 x4 x5 σ _ _ ls O (lv_sub hl [0, 1, 2, 3, 4] rfl) hf
      · have hf := hf.2 c_2
        refine lv_lload_n hx hb dX5_leastOf_30 rfl (lv_at hl 2 rfl) ?_
        refine lv_aload_n hx hb dX5_leastOf_31 rfl (lv_at hl 0 rfl) ?_
        refine r_get C O (k := 9) (j := 6) (v := .ref (q 33)) fX5_21 rfl rfl rfl dX5_leastOf_32 ?_
        refine lv_iload hx hb dX5_leastOf_35 (lv_at hl 3 rfl) ?_
        refine r_lald C O (k := 33) rfl hf.1 dX5_leastOf_37 ?_
        have hf := hf.2
        refine lv_aload_n hx hb dX5_leastOf_38 rfl (lv_at hl 0 rfl) ?_
        refine r_get C O (k := 9) (j := 7) (v := .ref (q 34)) fX5_24 rfl rfl rfl dX5_leastOf_39 ?_
        refine lv_iload_n hx hb dX5_leastOf_42 rfl (lv_at hl 1 rfl) ?_
        refine lv_iload hx hb dX5_leastOf_43 (lv_at hl 3 rfl) ?_
        refine lv_ixor hx hb dX5_leastOf_45 ?_
        refine r_lald C O (k := 34) rfl hf.1 dX5_leastOf_46 ?_
        have hf := hf.2
        refine lv_ladd hx hb dX5_leastOf_47 ?_
        refine va_mmin_long hx hb (C.2.2.1.trans hl.1.symm) C.2.2.2.1 (C.2.2.2.2.1 _ kM5_119) (C.2.2.2.2.1 _ kMmin_s) (C.2.2.2.2.1 _ kM_i) (C.2.2.2.2.1 _ kMmin_c) (Nat.le_trans (by decide) C.2.2.2.2.2.2.2.1) (Nat.le_trans (Nat.le_of_ble_eq_true rfl) C.2.2.2.2.2.2.2.2) (Nat.zero_le _) (Nat.zero_le _) dX5_leastOf_48 ?_
        refine lv_topl (fun v_3 ev_3 => ?_)
        have hf := hf v_3 ev_3
        refine lv_lstore_n (lv' := [(2, .long v_3), (0, .ref (q 9)), (1, .int x1), (4, .int x4), (5, .int x5)]) hx hb dX5_leastOf_51 rfl hl (by decide) rfl (fun ls hl => ?_)
        exact b_X5_leastOf_52 C hE ih x1 v_3 x4 x5 σ _ _ ls O (lv_sub hl [1, 2, 0, 3, 4] rfl) hf
def w_X5_leastOf (x1 : Int32) (σ : St) (Q : Int64 → St → Prop) : Prop := ∃ nn : Nat, w_X5_leastOf_10 Q nn x1 10000000000000000 x1 0 σ
set_option maxHeartbeats 4000000 in
set_option maxRecDepth 100000 in
theorem b_X5_leastOf (C : CX p R s m args meth c cX5_leastOf 6 RX5 1 23 D cs) (hE : RLx p l e R s m args below meth c cX5_leastOf D cs LC q Q E) : ∀ (x1 : Int32) (σ : St) (H : Heap) (locs : List Loc) (ls : Array Slot), OK D cs LC q s σ H locs → lv_has ls 6 [(0, .ref (q 9)), (1, .int x1)] → w_X5_leastOf x1 σ Q → W p l e R s m args below meth c H locs 0 0 E (F0 m 0 ls []) := by
  have hx := C.1
  have hb := C.2.1
  intro x1 σ H locs ls O hl hf
  unfold w_X5_leastOf at hf
  refine lv_ldc2 (v := 10000000000000000) hx hb C.2.2.2.1 (C.2.2.2.2.1 _ kX5_117) dX5_leastOf_0 ?_
  refine lv_lstore_n (lv' := [(2, .long 10000000000000000), (0, .ref (q 9)), (1, .int x1)]) hx hb dX5_leastOf_3 rfl hl (by decide) rfl (fun ls hl => ?_)
  refine lv_iload_n hx hb dX5_leastOf_4 rfl (lv_at hl 2 rfl) ?_
  refine lv_istore (lv' := [(4, .int x1), (2, .long 10000000000000000), (0, .ref (q 9)), (1, .int x1)]) hx hb dX5_leastOf_5 hl (by decide) rfl (fun ls hl => ?_)
  refine lv_iconst (v := 0) hx hb dX5_leastOf_7 (by decide) ?_
  refine lv_istore (lv' := [(5, .int 0), (4, .int x1), (2, .long 10000000000000000), (0, .ref (q 9)), (1, .int x1)]) hx hb dX5_leastOf_8 hl (by decide) rfl (fun ls hl => ?_)
  obtain ⟨nn, hf⟩ := hf
  exact b_X5_leastOf_10 C hE nn x1 10000000000000000 x1 0 σ _ _ ls O (lv_sub hl [3, 4, 2, 1, 0] rfl) hf
theorem c_X5_leastOf (l : Launch) (x1 : Int32) : MetL l yX5_leastOf cX5_leastOf 6 1 23 LC 9 (fun q => [.int x1]) (w_X5_leastOf x1) := mk_L (own := RX5) (by decide) rfl (fun q => Nat.le_of_ble_eq_true rfl) (fun C hE O hl hf => b_X5_leastOf C hE x1 _ _ _ _ O hl hf)
end
section
variable {p : Program} {l : Launch} {e : Env} {R : Room} {s : State} {m : MethodId} {args : Array Value} {below : List Frame} {meth : Method} {c : Code} {E : State → Prop}
variable {D : va_G} {cs : Nat → ClassId} {q : Nat → Nat}
variable {Q : St → Prop}
def w_X5_addWeighed_9 (Q : St → Prop) : Nat → Int32 → St → Prop
  | 0, _, _ => False
  | n + 1, x1, σ => (x1 < 0 → (Q σ)) ∧ (¬ x1 < 0 → (w_X5_leastOf x1 σ (fun r_3 σ_2 => vp_in x1 256 ∧ (∀ σ_4 : St, σ_4 = wl σ_2 34 x1.toNatClampNeg r_3 → (w_X5_addWeighed_9 Q n (x1 + (-1)) σ_4)))))
set_option maxHeartbeats 4000000 in
set_option maxRecDepth 100000 in
theorem b_X5_addWeighed_9 (C : CX p R s m args meth c cX5_addWeighed 2 RX5 2 48 D cs) (hE : RV p l e R s m args below meth c cX5_addWeighed D cs LC q Q E) : ∀ n : Nat, ∀ (x1 : Int32) (σ : St) (H : Heap) (locs : List Loc) (ls : Array Slot), OK D cs LC q s σ H locs → lv_has ls 2 [(0, .ref (q 9)), (1, .int x1)] → w_X5_addWeighed_9 Q n x1 σ → W p l e R s m args below meth c H locs 0 0 E (F0 m 9 ls []) := by
  have hx := C.1
  have hb := C.2.1
  intro n
  induction n with
  | zero => intro x1 σ H locs ls O hl hf; exact hf.elim
  | succ n ih =>
    intro x1 σ H locs ls O hl hf
    unfold w_X5_addWeighed_9 at hf
    refine lv_iload_n hx hb dX5_addWeighed_9 rfl (lv_at hl 1 rfl) ?_
    refine lv_if_lt (tgt := 30) hx hb dX5_addWeighed_10 (by decide) (fun c_1 => ?_) (fun c_1 => ?_)
    · have hf := hf.1 c_1
      exact hE _ _ _ _ _ O hf dX5_addWeighed_30
    · have hf := hf.2 c_1
      refine lv_aload_n hx hb dX5_addWeighed_13 rfl (lv_at hl 0 rfl) ?_
      refine r_get C O (k := 9) (j := 7) (v := .ref (q 34)) fX5_24 rfl rfl rfl dX5_addWeighed_14 ?_
      refine lv_iload_n hx hb dX5_addWeighed_17 rfl (lv_at hl 1 rfl) ?_
      refine lv_aload_n hx hb dX5_addWeighed_18 rfl (lv_at hl 0 rfl) ?_
      refine lv_iload_n hx hb dX5_addWeighed_19 rfl (lv_at hl 1 rfl) ?_
      refine r_callL C O hl (c_X5_leastOf l x1) mX5_81 (by decide) rfl rfl rfl rfl (Nat.le_of_ble_eq_true rfl) hf dX5_addWeighed_20 (fun r_3 σ_2 H locs O hf => ?_)
      refine r_last C O (k := 34) rfl hf.1 dX5_addWeighed_23 (fun H locs σ_4 eσ_4 O => ?_)
      have hf := hf.2 σ_4 eσ_4
      refine lv_iinc (v := x1 + (-1)) (lv' := [(1, .int (x1 + (-1))), (0, .ref (q 9))]) hx hb dX5_addWeighed_24 hl (k := 1) rfl rfl (by decide) rfl (fun ls hl => ?_)
      refine lv_goto (tgt := 9) hx hb dX5_addWeighed_27 (by decide) ?_
      exact ih (x1 + (-1)) σ_4 _ _ ls O (lv_sub hl [1, 0] rfl) hf
def w_X5_addWeighed (σ : St) (Q : St → Prop) : Prop := ∀ v_1 : Int32, v_1 = ((1 <<< ((σ.1 9 11) &&& 31)) - 1) → (∃ nn : Nat, w_X5_addWeighed_9 Q nn v_1 σ)
set_option maxHeartbeats 4000000 in
set_option maxRecDepth 100000 in
theorem b_X5_addWeighed (C : CX p R s m args meth c cX5_addWeighed 2 RX5 2 48 D cs) (hE : RV p l e R s m args below meth c cX5_addWeighed D cs LC q Q E) : ∀ (σ : St) (H : Heap) (locs : List Loc) (ls : Array Slot), OK D cs LC q s σ H locs → lv_has ls 2 [(0, .ref (q 9))] → w_X5_addWeighed  σ Q → W p l e R s m args below meth c H locs 0 0 E (F0 m 0 ls []) := by
  have hx := C.1
  have hb := C.2.1
  intro  σ H locs ls O hl hf
  unfold w_X5_addWeighed at hf
  refine lv_iconst (v := 1) hx hb dX5_addWeighed_0 (by decide) ?_
  refine lv_aload_n hx hb dX5_addWeighed_1 rfl (lv_at hl 0 rfl) ?_
  refine r_get C O (k := 9) (j := 11) (v := .int (σ.1 9 11)) fX5_77 rfl rfl rfl dX5_addWeighed_2 ?_
  refine lv_ishl hx hb dX5_addWeighed_5 ?_
  refine lv_iconst (v := 1) hx hb dX5_addWeighed_6 (by decide) ?_
  refine lv_isub hx hb dX5_addWeighed_7 ?_
  refine lv_topi (fun v_1 ev_1 => ?_)
  have hf := hf v_1 ev_1
  refine lv_istore_n (lv' := [(1, .int v_1), (0, .ref (q 9))]) hx hb dX5_addWeighed_8 rfl hl (by decide) rfl (fun ls hl => ?_)
  obtain ⟨nn, hf⟩ := hf
  exact b_X5_addWeighed_9 C hE nn v_1 σ _ _ ls O (lv_sub hl [1, 0] rfl) hf
theorem c_X5_addWeighed (l : Launch) : MetV l yX5_addWeighed cX5_addWeighed 2 2 48 LC 9 (fun q => []) (w_X5_addWeighed ) := mk_V (own := RX5) (by decide) rfl (fun q => Nat.le_of_ble_eq_true rfl) (fun C hE O hl hf => b_X5_addWeighed C hE _ _ _ _ O hl hf)
end
section
variable {p : Program} {l : Launch} {e : Env} {R : Room} {s : State} {m : MethodId} {args : Array Value} {below : List Frame} {meth : Method} {c : Code} {E : State → Prop}
variable {D : va_G} {cs : Nat → ClassId} {q : Nat → Nat}
variable {Q : St → Prop}
def w_X5_weighUnflown_36 (Q : St → Prop) (K9 : Int32 → St → Prop) : Nat → Int32 → Int32 → Int64 → Int32 → St → Prop
  | 0, _, _, _, _, _ => False
  | n + 1, x1, x2, x3, x5, σ => (x2 ≤ x5 → (K9 (x1 + 1) σ)) ∧ (¬ x2 ≤ x5 → (vp_in x5 256 ∧ (vp_in (x5 + x2) 256 ∧ (∀ σ_2 : St, σ_2 = wl σ 33 (x5 + x2).toNatClampNeg ((σ.2 33 x5.toNatClampNeg) + x3) → (w_X5_weighUnflown_36 Q K9 n x1 x2 x3 (x5 + 1) σ_2)))))
set_option maxHeartbeats 4000000 in
set_option maxRecDepth 100000 in
theorem b_X5_weighUnflown_36 (C : CX p R s m args meth c cX5_weighUnflown 6 RX5 3 67 D cs) (hE : RV p l e R s m args below meth c cX5_weighUnflown D cs LC q Q E) {K9 : Int32 → St → Prop} (hK9 : ∀ (x1 : Int32) (σ : St) (H : Heap) (locs : List Loc) (ls : Array Slot), OK D cs LC q s σ H locs → lv_has ls 6 [(0, .ref (q 9)), (1, .int x1)] → K9 x1 σ → W p l e R s m args below meth c H locs 0 0 E (F0 m 9 ls [])) : ∀ n : Nat, ∀ (x1 : Int32) (x2 : Int32) (x3 : Int64) (x5 : Int32) (σ : St) (H : Heap) (locs : List Loc) (ls : Array Slot), OK D cs LC q s σ H locs → lv_has ls 6 [(0, .ref (q 9)), (1, .int x1), (2, .int x2), (3, .long x3), (5, .int x5)] → w_X5_weighUnflown_36 Q K9 n x1 x2 x3 x5 σ → W p l e R s m args below meth c H locs 0 0 E (F0 m 36 ls []) := by
  have hx := C.1
  have hb := C.2.1
  intro n
  induction n with
  | zero => intro x1 x2 x3 x5 σ H locs ls O hl hf; exact hf.elim
  | succ n ih =>
    intro x1 x2 x3 x5 σ H locs ls O hl hf
    unfold w_X5_weighUnflown_36 at hf
    refine lv_iload hx hb dX5_weighUnflown_36 (lv_at hl 4 rfl) ?_
    refine lv_iload_n hx hb dX5_weighUnflown_38 rfl (lv_at hl 2 rfl) ?_
    refine lv_icmp_ge (tgt := 66) hx hb dX5_weighUnflown_39 (by decide) (fun c_1 => ?_) (fun c_1 => ?_)
    · have hf := hf.1 c_1
      refine lv_iinc (v := x1 + 1) (lv' := [(1, .int (x1 + 1)), (0, .ref (q 9)), (2, .int x2), (3, .long x3), (5, .int x5)]) hx hb dX5_weighUnflown_66 hl (k := 1) rfl rfl (by decide) rfl (fun ls hl => ?_)
      refine lv_goto (tgt := 9) hx hb dX5_weighUnflown_69 (by decide) ?_
      exact hK9 (x1 + 1) σ _ _ ls O (lv_sub hl [1, 0] rfl) hf
    · have hf := hf.2 c_1
      refine lv_aload_n hx hb dX5_weighUnflown_42 rfl (lv_at hl 0 rfl) ?_
      refine r_get C O (k := 9) (j := 6) (v := .ref (q 33)) fX5_21 rfl rfl rfl dX5_weighUnflown_43 ?_
      refine lv_iload hx hb dX5_weighUnflown_46 (lv_at hl 4 rfl) ?_
      refine lv_iload_n hx hb dX5_weighUnflown_48 rfl (lv_at hl 2 rfl) ?_
      refine lv_iadd hx hb dX5_weighUnflown_49 ?_
      refine lv_aload_n hx hb dX5_weighUnflown_50 rfl (lv_at hl 0 rfl) ?_
      refine r_get C O (k := 9) (j := 6) (v := .ref (q 33)) fX5_21 rfl rfl rfl dX5_weighUnflown_51 ?_
      refine lv_iload hx hb dX5_weighUnflown_54 (lv_at hl 4 rfl) ?_
      refine r_lald C O (k := 33) rfl hf.1 dX5_weighUnflown_56 ?_
      have hf := hf.2
      refine lv_lload_n hx hb dX5_weighUnflown_57 rfl (lv_at hl 3 rfl) ?_
      refine lv_ladd hx hb dX5_weighUnflown_58 ?_
      refine r_last C O (k := 33) rfl hf.1 dX5_weighUnflown_59 (fun H locs σ_2 eσ_2 O => ?_)
      have hf := hf.2 σ_2 eσ_2
      refine lv_iinc (v := x5 + 1) (lv' := [(5, .int (x5 + 1)), (0, .ref (q 9)), (1, .int x1), (2, .int x2), (3, .long x3)]) hx hb dX5_weighUnflown_60 hl (k := 4) rfl rfl (by decide) rfl (fun ls hl => ?_)
      refine lv_goto (tgt := 36) hx hb dX5_weighUnflown_63 (by decide) ?_
      exact ih x1 x2 x3 (x5 + 1) σ_2 _ _ ls O (lv_sub hl [1, 2, 3, 4, 0] rfl) hf
def w_X5_weighUnflown_9 (Q : St → Prop) : Nat → Int32 → St → Prop
  | 0, _, _ => False
  | n + 1, x1, σ => ((σ.1 9 11) ≤ x1 → (Q σ)) ∧ (¬ (σ.1 9 11) ≤ x1 → (w_X5_ownCost x1 9 σ (fun r_3 σ_2 => ∃ nn : Nat, w_X5_weighUnflown_36 Q (fun x1 σ => w_X5_weighUnflown_9 Q n x1 σ) nn x1 (1 <<< (x1 &&& 31)) (100000000000000 + r_3) 0 σ_2)))
set_option maxHeartbeats 4000000 in
set_option maxRecDepth 100000 in
theorem b_X5_weighUnflown_9 (C : CX p R s m args meth c cX5_weighUnflown 6 RX5 3 67 D cs) (hE : RV p l e R s m args below meth c cX5_weighUnflown D cs LC q Q E) : ∀ n : Nat, ∀ (x1 : Int32) (σ : St) (H : Heap) (locs : List Loc) (ls : Array Slot), OK D cs LC q s σ H locs → lv_has ls 6 [(0, .ref (q 9)), (1, .int x1)] → w_X5_weighUnflown_9 Q n x1 σ → W p l e R s m args below meth c H locs 0 0 E (F0 m 9 ls []) := by
  have hx := C.1
  have hb := C.2.1
  intro n
  induction n with
  | zero => intro x1 σ H locs ls O hl hf; exact hf.elim
  | succ n ih =>
    intro x1 σ H locs ls O hl hf
    unfold w_X5_weighUnflown_9 at hf
    refine lv_iload_n hx hb dX5_weighUnflown_9 rfl (lv_at hl 1 rfl) ?_
    refine lv_aload_n hx hb dX5_weighUnflown_10 rfl (lv_at hl 0 rfl) ?_
    refine r_get C O (k := 9) (j := 11) (v := .int (σ.1 9 11)) fX5_77 rfl rfl rfl dX5_weighUnflown_11 ?_
    refine lv_icmp_ge (tgt := 72) hx hb dX5_weighUnflown_14 (by decide) (fun c_1 => ?_) (fun c_1 => ?_)
    · have hf := hf.1 c_1
      exact hE _ _ _ _ _ O hf dX5_weighUnflown_72
    · have hf := hf.2 c_1
      refine lv_iconst (v := 1) hx hb dX5_weighUnflown_17 (by decide) ?_
      refine lv_iload_n hx hb dX5_weighUnflown_18 rfl (lv_at hl 1 rfl) ?_
      refine lv_ishl hx hb dX5_weighUnflown_19 ?_
      refine lv_istore_n (lv' := [(2, .int (1 <<< (x1 &&& 31))), (0, .ref (q 9)), (1, .int x1)]) hx hb dX5_weighUnflown_20 rfl hl (by decide) rfl (fun ls hl => ?_)
      refine lv_ldc2 (v := 100000000000000) hx hb C.2.2.2.1 (C.2.2.2.2.1 _ kX5_91) dX5_weighUnflown_21 ?_
      refine lv_aload_n hx hb dX5_weighUnflown_24 rfl (lv_at hl 1 rfl) ?_
      refine lv_iload_n hx hb dX5_weighUnflown_25 rfl (lv_at hl 2 rfl) ?_
      refine lv_bipush (v := 9) hx hb dX5_weighUnflown_26 (by decide) ?_
      refine r_callL C O hl (c_X5_ownCost l x1 9) mX5_129 (by decide) rfl rfl rfl rfl (Nat.le_of_ble_eq_true rfl) hf dX5_weighUnflown_28 (fun r_3 σ_2 H locs O hf => ?_)
      refine lv_ladd hx hb dX5_weighUnflown_31 ?_
      refine lv_lstore_n (lv' := [(3, .long (100000000000000 + r_3)), (2, .int (1 <<< (x1 &&& 31))), (0, .ref (q 9)), (1, .int x1)]) hx hb dX5_weighUnflown_32 rfl hl (by decide) rfl (fun ls hl => ?_)
      refine lv_iconst (v := 0) hx hb dX5_weighUnflown_33 (by decide) ?_
      refine lv_istore (lv' := [(5, .int 0), (3, .long (100000000000000 + r_3)), (2, .int (1 <<< (x1 &&& 31))), (0, .ref (q 9)), (1, .int x1)]) hx hb dX5_weighUnflown_34 hl (by decide) rfl (fun ls hl => ?_)
      obtain ⟨nn, hf⟩ := hf
      exact b_X5_weighUnflown_36 C hE ih nn x1 (1 <<< (x1 &&& 31)) (100000000000000 + r_3) 0 σ_2 _ _ ls O (lv_sub hl [3, 4, 2, 1, 0] rfl) hf
def w_X5_weighUnflown (σ : St) (Q : St → Prop) : Prop := vp_in 0 256 ∧ (∀ σ_1 : St, σ_1 = wl σ 33 (0 : Int32).toNatClampNeg 0 → (∃ nn : Nat, w_X5_weighUnflown_9 Q nn 0 σ_1))
set_option maxHeartbeats 4000000 in
set_option maxRecDepth 100000 in
theorem b_X5_weighUnflown (C : CX p R s m args meth c cX5_weighUnflown 6 RX5 3 67 D cs) (hE : RV p l e R s m args below meth c cX5_weighUnflown D cs LC q Q E) : ∀ (σ : St) (H : Heap) (locs : List Loc) (ls : Array Slot), OK D cs LC q s σ H locs → lv_has ls 6 [(0, .ref (q 9))] → w_X5_weighUnflown  σ Q → W p l e R s m args below meth c H locs 0 0 E (F0 m 0 ls []) := by
  have hx := C.1
  have hb := C.2.1
  intro  σ H locs ls O hl hf
  unfold w_X5_weighUnflown at hf
  refine lv_aload_n hx hb dX5_weighUnflown_0 rfl (lv_at hl 0 rfl) ?_
  refine r_get C O (k := 9) (j := 6) (v := .ref (q 33)) fX5_21 rfl rfl rfl dX5_weighUnflown_1 ?_
  refine lv_iconst (v := 0) hx hb dX5_weighUnflown_4 (by decide) ?_
  refine lv_lconst (v := 0) hx hb dX5_weighUnflown_5 (by decide) ?_
  refine r_last C O (k := 33) rfl hf.1 dX5_weighUnflown_6 (fun H locs σ_1 eσ_1 O => ?_)
  have hf := hf.2 σ_1 eσ_1
  refine lv_iconst (v := 0) hx hb dX5_weighUnflown_7 (by decide) ?_
  refine lv_istore_n (lv' := [(1, .int 0), (0, .ref (q 9))]) hx hb dX5_weighUnflown_8 rfl hl (by decide) rfl (fun ls hl => ?_)
  obtain ⟨nn, hf⟩ := hf
  exact b_X5_weighUnflown_9 C hE nn 0 σ_1 _ _ ls O (lv_sub hl [1, 0] rfl) hf
theorem c_X5_weighUnflown (l : Launch) : MetV l yX5_weighUnflown cX5_weighUnflown 6 3 67 LC 9 (fun q => []) (w_X5_weighUnflown ) := mk_V (own := RX5) (by decide) rfl (fun q => Nat.le_of_ble_eq_true rfl) (fun C hE O hl hf => b_X5_weighUnflown C hE _ _ _ _ O hl hf)
end
section
variable {p : Program} {l : Launch} {e : Env} {R : Room} {s : State} {m : MethodId} {args : Array Value} {below : List Frame} {meth : Method} {c : Code} {E : State → Prop}
variable {D : va_G} {cs : Nat → ClassId} {q : Nat → Nat}
variable {Q : St → Prop}
def w_X5_enter_53 (Q : St → Prop) (K10 : Int64 → Int32 → St → Prop) (x3 : Int64) (x5 : Int32) (s1 : Int32) (s2 : Int32) (σ : St) : Prop := w_X6_assign s1 s2 σ (fun σ_1 => K10 x3 (x5 + (-1)) σ_1)
set_option maxHeartbeats 4000000 in
set_option maxRecDepth 100000 in
theorem b_X5_enter_53 (C : CX p R s m args meth c cX5_enter 7 RX5 2 43 D cs) (hE : RV p l e R s m args below meth c cX5_enter D cs LC q Q E) {K10 : Int64 → Int32 → St → Prop} (hK10 : ∀ (x3 : Int64) (x5 : Int32) (σ : St) (H : Heap) (locs : List Loc) (ls : Array Slot), OK D cs LC q s σ H locs → lv_has ls 7 [(0, .ref (q 9)), (3, .long x3), (5, .int x5)] → K10 x3 x5 σ → W p l e R s m args below meth c H locs 0 0 E (F0 m 10 ls [])) : ∀ (x3 : Int64) (x5 : Int32) (s1 : Int32) (s2 : Int32) (σ : St) (H : Heap) (locs : List Loc) (ls : Array Slot), OK D cs LC q s σ H locs → lv_has ls 7 [(0, .ref (q 9)), (3, .long x3), (5, .int x5)] → w_X5_enter_53 Q K10 x3 x5 s1 s2 σ → W p l e R s m args below meth c H locs 0 0 E (F0 m 53 ls [.int s2, .int s1, .ref (q 7)]) := by
  have hx := C.1
  have hb := C.2.1
  intro x3 x5 s1 s2 σ H locs ls O hl hf
  unfold w_X5_enter_53 at hf
  refine r_callV C O hl (c_X6_assign l s1 s2) mX5_147 (by decide) rfl rfl rfl rfl (Nat.le_of_ble_eq_true rfl) hf dX5_enter_53 (fun σ_1 H locs O hf => ?_)
  refine lv_iinc (v := x5 + (-1)) (lv' := [(5, .int (x5 + (-1))), (0, .ref (q 9)), (3, .long x3)]) hx hb dX5_enter_56 hl (k := 2) rfl rfl (by decide) rfl (fun ls hl => ?_)
  refine lv_goto (tgt := 10) hx hb dX5_enter_59 (by decide) ?_
  exact hK10 x3 (x5 + (-1)) σ_1 _ _ ls O (lv_sub hl [1, 2, 0] rfl) hf
def w_X5_enter_10 (Q : St → Prop) : Nat → Int64 → Int32 → St → Prop
  | 0, _, _, _ => False
  | n + 1, x3, x5, σ => (x5 < 0 → (Q σ)) ∧ (¬ x5 < 0 → (vp_in x5 8 ∧ ((¬ ((x3 - x3 / 10 * 10).toInt32) = 9 → (w_X5_enter_53 Q (fun x3 x5 σ => w_X5_enter_10 Q n x3 x5 σ) (x3 / 10) x5 (σ.1 31 x5.toNatClampNeg) ((x3 - x3 / 10 * 10).toInt32) σ)) ∧ (((x3 - x3 / 10 * 10).toInt32) = 9 → (w_X5_enter_53 Q (fun x3 x5 σ => w_X5_enter_10 Q n x3 x5 σ) (x3 / 10) x5 (σ.1 31 x5.toNatClampNeg) ((-1)) σ)))))
set_option maxHeartbeats 4000000 in
set_option maxRecDepth 100000 in
theorem b_X5_enter_10 (C : CX p R s m args meth c cX5_enter 7 RX5 2 43 D cs) (hE : RV p l e R s m args below meth c cX5_enter D cs LC q Q E) : ∀ n : Nat, ∀ (x3 : Int64) (x5 : Int32) (σ : St) (H : Heap) (locs : List Loc) (ls : Array Slot), OK D cs LC q s σ H locs → lv_has ls 7 [(0, .ref (q 9)), (3, .long x3), (5, .int x5)] → w_X5_enter_10 Q n x3 x5 σ → W p l e R s m args below meth c H locs 0 0 E (F0 m 10 ls []) := by
  have hx := C.1
  have hb := C.2.1
  intro n
  induction n with
  | zero => intro x3 x5 σ H locs ls O hl hf; exact hf.elim
  | succ n ih =>
    intro x3 x5 σ H locs ls O hl hf
    unfold w_X5_enter_10 at hf
    refine lv_iload hx hb dX5_enter_10 (lv_at hl 2 rfl) ?_
    refine lv_if_lt (tgt := 62) hx hb dX5_enter_12 (by decide) (fun c_1 => ?_) (fun c_1 => ?_)
    · have hf := hf.1 c_1
      exact hE _ _ _ _ _ O hf dX5_enter_62
    · have hf := hf.2 c_1
      refine lv_lload_n hx hb dX5_enter_15 rfl (lv_at hl 1 rfl) ?_
      refine lv_ldc2 (v := 10) hx hb C.2.2.2.1 (C.2.2.2.2.1 _ kX5_115) dX5_enter_16 ?_
      refine lv_lrem hx hb dX5_enter_19 (by decide) ?_
      refine lv_l2i (v := (x3 - x3 / 10 * 10).toInt32) hx hb dX5_enter_20 rfl ?_
      refine lv_istore (lv' := [(6, .int ((x3 - x3 / 10 * 10).toInt32)), (0, .ref (q 9)), (3, .long x3), (5, .int x5)]) hx hb dX5_enter_21 hl (by decide) rfl (fun ls hl => ?_)
      refine lv_lload_n hx hb dX5_enter_23 rfl (lv_at hl 2 rfl) ?_
      refine lv_ldc2 (v := 10) hx hb C.2.2.2.1 (C.2.2.2.2.1 _ kX5_115) dX5_enter_24 ?_
      refine lv_ldiv hx hb dX5_enter_27 (by decide) ?_
      refine lv_lstore_n (lv' := [(3, .long (x3 / 10)), (6, .int ((x3 - x3 / 10 * 10).toInt32)), (0, .ref (q 9)), (5, .int x5)]) hx hb dX5_enter_28 rfl hl (by decide) rfl (fun ls hl => ?_)
      refine lv_aload_n hx hb dX5_enter_29 rfl (lv_at hl 2 rfl) ?_
      refine r_get C O (k := 9) (j := 2) (v := .ref (q 7)) fX5_44 rfl rfl rfl dX5_enter_30 ?_
      refine lv_aload_n hx hb dX5_enter_33 rfl (lv_at hl 2 rfl) ?_
      refine r_get C O (k := 9) (j := 4) (v := .ref (q 31)) fX5_13 rfl rfl rfl dX5_enter_34 ?_
      refine lv_iload hx hb dX5_enter_37 (lv_at hl 3 rfl) ?_
      refine r_iald C O (k := 31) rfl hf.1 dX5_enter_39 ?_
      have hf := hf.2
      refine lv_iload hx hb dX5_enter_40 (lv_at hl 1 rfl) ?_
      refine lv_bipush (v := 9) hx hb dX5_enter_42 (by decide) ?_
      refine lv_icmp_ne (tgt := 51) hx hb dX5_enter_44 (by decide) (fun c_2 => ?_) (fun c_2 => ?_)
      · have hf := hf.1 c_2
        refine lv_iload hx hb dX5_enter_51 (lv_at hl 1 rfl) ?_
        exact b_X5_enter_53 C hE ih (x3 / 10) x5 (σ.1 31 x5.toNatClampNeg) ((x3 - x3 / 10 * 10).toInt32) σ _ _ ls O (lv_sub hl [2, 0, 3] rfl) hf
      · have hf := hf.2 c_2
        refine lv_iconst (v := (-1)) hx hb dX5_enter_47 (by decide) ?_
        refine lv_goto (tgt := 53) hx hb dX5_enter_48 (by decide) ?_
        exact b_X5_enter_53 C hE ih (x3 / 10) x5 (σ.1 31 x5.toNatClampNeg) ((-1)) σ _ _ ls O (lv_sub hl [2, 0, 3] rfl) hf
def w_X5_enter (x1 : Int64) (σ : St) (Q : St → Prop) : Prop := ∃ nn : Nat, w_X5_enter_10 Q nn x1 ((σ.1 9 11) - 1) σ
set_option maxHeartbeats 4000000 in
set_option maxRecDepth 100000 in
theorem b_X5_enter (C : CX p R s m args meth c cX5_enter 7 RX5 2 43 D cs) (hE : RV p l e R s m args below meth c cX5_enter D cs LC q Q E) : ∀ (x1 : Int64) (σ : St) (H : Heap) (locs : List Loc) (ls : Array Slot), OK D cs LC q s σ H locs → lv_has ls 7 [(0, .ref (q 9)), (1, .long x1)] → w_X5_enter x1 σ Q → W p l e R s m args below meth c H locs 0 0 E (F0 m 0 ls []) := by
  have hx := C.1
  have hb := C.2.1
  intro x1 σ H locs ls O hl hf
  unfold w_X5_enter at hf
  refine lv_lload_n hx hb dX5_enter_0 rfl (lv_at hl 1 rfl) ?_
  refine lv_lstore_n (lv' := [(3, .long x1), (0, .ref (q 9)), (1, .long x1)]) hx hb dX5_enter_1 rfl hl (by decide) rfl (fun ls hl => ?_)
  refine lv_aload_n hx hb dX5_enter_2 rfl (lv_at hl 1 rfl) ?_
  refine r_get C O (k := 9) (j := 11) (v := .int (σ.1 9 11)) fX5_77 rfl rfl rfl dX5_enter_3 ?_
  refine lv_iconst (v := 1) hx hb dX5_enter_6 (by decide) ?_
  refine lv_isub hx hb dX5_enter_7 ?_
  refine lv_istore (lv' := [(5, .int ((σ.1 9 11) - 1)), (3, .long x1), (0, .ref (q 9)), (1, .long x1)]) hx hb dX5_enter_8 hl (by decide) rfl (fun ls hl => ?_)
  obtain ⟨nn, hf⟩ := hf
  exact b_X5_enter_10 C hE nn x1 ((σ.1 9 11) - 1) σ _ _ ls O (lv_sub hl [2, 1, 0] rfl) hf
theorem c_X5_enter (l : Launch) (x1 : Int64) : MetV l yX5_enter cX5_enter 7 2 43 LC 9 (fun q => [.long x1]) (w_X5_enter x1) := mk_V (own := RX5) (by decide) rfl (fun q => Nat.le_of_ble_eq_true rfl) (fun C hE O hl hf => b_X5_enter C hE x1 _ _ _ _ O hl hf)
end
section
variable {p : Program} {l : Launch} {e : Env} {R : Room} {s : State} {m : MethodId} {args : Array Value} {below : List Frame} {meth : Method} {c : Code} {E : State → Prop}
variable {D : va_G} {cs : Nat → ClassId} {q : Nat → Nat}
variable {Q : Int32 → St → Prop}
def w_X5_settle_21 (Q : Int32 → St → Prop) : Nat → Int32 → St → Prop
  | 0, _, _ => False
  | n + 1, x2, σ => w_X4_size σ (fun r_2 σ_1 => (r_2 ≤ x2 → (w_X5_weighUnflown σ_1 (fun σ_4 => w_X5_leastOf ((1 <<< ((σ_4.1 9 11) &&& 31)) - 1) σ_4 (fun r_6 σ_5 => w_X5_enter (r_6 - r_6 / 100000000 * 100000000) σ_5 (fun σ_7 => Q (((r_6 - r_6 / 100000000000000 * 100000000000000) / 1000000000000).toInt32) σ_7))))) ∧ (¬ r_2 ≤ x2 → (w_X5_weighChains x2 σ_1 (fun σ_8 => w_X5_addWeighed σ_8 (fun σ_9 => w_X5_settle_21 Q n (x2 + 1) σ_9)))))
set_option maxHeartbeats 4000000 in
set_option maxRecDepth 100000 in
theorem b_X5_settle_21 (C : CX p R s m args meth c cX5_settle 4 RX5 5 123 D cs) (hE : RI p l e R s m args below meth c cX5_settle D cs LC q .int Q E) : ∀ n : Nat, ∀ (x2 : Int32) (σ : St) (H : Heap) (locs : List Loc) (ls : Array Slot), OK D cs LC q s σ H locs → lv_has ls 4 [(0, .ref (q 9)), (2, .int x2)] → w_X5_settle_21 Q n x2 σ → W p l e R s m args below meth c H locs 0 0 E (F0 m 21 ls []) := by
  have hx := C.1
  have hb := C.2.1
  intro n
  induction n with
  | zero => intro x2 σ H locs ls O hl hf; exact hf.elim
  | succ n ih =>
    intro x2 σ H locs ls O hl hf
    unfold w_X5_settle_21 at hf
    refine lv_iload_n hx hb dX5_settle_21 rfl (lv_at hl 1 rfl) ?_
    refine lv_aload_n hx hb dX5_settle_22 rfl (lv_at hl 0 rfl) ?_
    refine r_get C O (k := 9) (j := 0) (v := .ref (q 4)) fX5_36 rfl rfl rfl dX5_settle_23 ?_
    refine r_callI C O hl (c_X4_size l) mX5_61 (by decide) rfl rfl rfl rfl (Nat.le_of_ble_eq_true rfl) hf dX5_settle_26 (fun r_2 σ_1 H locs O hf => ?_)
    refine lv_icmp_ge (tgt := 47) hx hb dX5_settle_29 (by decide) (fun c_3 => ?_) (fun c_3 => ?_)
    · have hf := hf.1 c_3
      refine lv_aload_n hx hb dX5_settle_47 rfl (lv_at hl 0 rfl) ?_
      refine r_callV C O hl (c_X5_weighUnflown l) mX5_74 (by decide) rfl rfl rfl rfl (Nat.le_of_ble_eq_true rfl) hf dX5_settle_48 (fun σ_4 H locs O hf => ?_)
      refine lv_aload_n hx hb dX5_settle_51 rfl (lv_at hl 0 rfl) ?_
      refine lv_iconst (v := 1) hx hb dX5_settle_52 (by decide) ?_
      refine lv_aload_n hx hb dX5_settle_53 rfl (lv_at hl 0 rfl) ?_
      refine r_get C O (k := 9) (j := 11) (v := .int (σ_4.1 9 11)) fX5_77 rfl rfl rfl dX5_settle_54 ?_
      refine lv_ishl hx hb dX5_settle_57 ?_
      refine lv_iconst (v := 1) hx hb dX5_settle_58 (by decide) ?_
      refine lv_isub hx hb dX5_settle_59 ?_
      refine r_callL C O hl (c_X5_leastOf l ((1 <<< ((σ_4.1 9 11) &&& 31)) - 1)) mX5_81 (by decide) rfl rfl rfl rfl (Nat.le_of_ble_eq_true rfl) hf dX5_settle_60 (fun r_6 σ_5 H locs O hf => ?_)
      refine lv_lstore_n (lv' := [(2, .long r_6), (0, .ref (q 9))]) hx hb dX5_settle_63 rfl hl (by decide) rfl (fun ls hl => ?_)
      refine lv_aload_n hx hb dX5_settle_64 rfl (lv_at hl 1 rfl) ?_
      refine lv_lload_n hx hb dX5_settle_65 rfl (lv_at hl 0 rfl) ?_
      refine lv_ldc2 (v := 100000000) hx hb C.2.2.2.1 (C.2.2.2.2.1 _ kX5_85) dX5_settle_66 ?_
      refine lv_lrem hx hb dX5_settle_69 (by decide) ?_
      refine r_callV C O hl (c_X5_enter l (r_6 - r_6 / 100000000 * 100000000)) mX5_87 (by decide) rfl rfl rfl rfl (Nat.le_of_ble_eq_true rfl) hf dX5_settle_70 (fun σ_7 H locs O hf => ?_)
      refine lv_lload_n hx hb dX5_settle_73 rfl (lv_at hl 0 rfl) ?_
      refine lv_ldc2 (v := 100000000000000) hx hb C.2.2.2.1 (C.2.2.2.2.1 _ kX5_91) dX5_settle_74 ?_
      refine lv_lrem hx hb dX5_settle_77 (by decide) ?_
      refine lv_ldc2 (v := 1000000000000) hx hb C.2.2.2.1 (C.2.2.2.2.1 _ kX5_52) dX5_settle_78 ?_
      refine lv_ldiv hx hb dX5_settle_81 (by decide) ?_
      refine lv_l2i (v := ((r_6 - r_6 / 100000000000000 * 100000000000000) / 1000000000000).toInt32) hx hb dX5_settle_82 rfl ?_
      exact hE _ _ _ _ _ _ (vp_nar_int _) O hf dX5_settle_83
    · have hf := hf.2 c_3
      refine lv_aload_n hx hb dX5_settle_32 rfl (lv_at hl 0 rfl) ?_
      refine lv_iload_n hx hb dX5_settle_33 rfl (lv_at hl 1 rfl) ?_
      refine r_callV C O hl (c_X5_weighChains l x2) mX5_67 (by decide) rfl rfl rfl rfl (Nat.le_of_ble_eq_true rfl) hf dX5_settle_34 (fun σ_8 H locs O hf => ?_)
      refine lv_aload_n hx hb dX5_settle_37 rfl (lv_at hl 0 rfl) ?_
      refine r_callV C O hl (c_X5_addWeighed l) mX5_71 (by decide) rfl rfl rfl rfl (Nat.le_of_ble_eq_true rfl) hf dX5_settle_38 (fun σ_9 H locs O hf => ?_)
      refine lv_iinc (v := x2 + 1) (lv' := [(2, .int (x2 + 1)), (0, .ref (q 9))]) hx hb dX5_settle_41 hl (k := 1) rfl rfl (by decide) rfl (fun ls hl => ?_)
      refine lv_goto (tgt := 21) hx hb dX5_settle_44 (by decide) ?_
      exact ih (x2 + 1) σ_9 _ _ ls O (lv_sub hl [1, 0] rfl) hf
def w_X5_settle_12 (Q : Int32 → St → Prop) (s1 : Int64) (σ : St) : Prop := ∀ σ_1 : St, σ_1 = wl σ 9 12 s1 → (w_X5_lineUp σ_1 (fun σ_2 => ∃ nn : Nat, w_X5_settle_21 Q nn 0 σ_2))
set_option maxHeartbeats 4000000 in
set_option maxRecDepth 100000 in
theorem b_X5_settle_12 (C : CX p R s m args meth c cX5_settle 4 RX5 5 123 D cs) (hE : RI p l e R s m args below meth c cX5_settle D cs LC q .int Q E) : ∀ (s1 : Int64) (σ : St) (H : Heap) (locs : List Loc) (ls : Array Slot), OK D cs LC q s σ H locs → lv_has ls 4 [(0, .ref (q 9))] → w_X5_settle_12 Q s1 σ → W p l e R s m args below meth c H locs 0 0 E (F0 m 12 ls [.long s1, .ref (q 9)]) := by
  have hx := C.1
  have hb := C.2.1
  intro s1 σ H locs ls O hl hf
  unfold w_X5_settle_12 at hf
  refine r_putl C O (k := 9) pX5_54 rfl rfl dX5_settle_12 (fun H locs σ_1 eσ_1 O => ?_)
  have hf := hf σ_1 eσ_1
  refine lv_aload_n hx hb dX5_settle_15 rfl (lv_at hl 0 rfl) ?_
  refine r_callV C O hl (c_X5_lineUp l) mX5_58 (by decide) rfl rfl rfl rfl (Nat.le_of_ble_eq_true rfl) hf dX5_settle_16 (fun σ_2 H locs O hf => ?_)
  refine lv_iconst (v := 0) hx hb dX5_settle_19 (by decide) ?_
  refine lv_istore_n (lv' := [(2, .int 0), (0, .ref (q 9))]) hx hb dX5_settle_20 rfl hl (by decide) rfl (fun ls hl => ?_)
  obtain ⟨nn, hf⟩ := hf
  exact b_X5_settle_21 C hE nn 0 σ_2 _ _ ls O (lv_sub hl [1, 0] rfl) hf
def w_X5_settle (x1 : Int32) (σ : St) (Q : Int32 → St → Prop) : Prop := (x1 = 0 → (w_X5_settle_12 Q 0 σ)) ∧ (¬ x1 = 0 → (w_X5_settle_12 Q 1000000000000 σ))
set_option maxHeartbeats 4000000 in
set_option maxRecDepth 100000 in
theorem b_X5_settle (C : CX p R s m args meth c cX5_settle 4 RX5 5 123 D cs) (hE : RI p l e R s m args below meth c cX5_settle D cs LC q .int Q E) : ∀ (x1 : Int32) (σ : St) (H : Heap) (locs : List Loc) (ls : Array Slot), OK D cs LC q s σ H locs → lv_has ls 4 [(0, .ref (q 9)), (1, .int x1)] → w_X5_settle x1 σ Q → W p l e R s m args below meth c H locs 0 0 E (F0 m 0 ls []) := by
  have hx := C.1
  have hb := C.2.1
  intro x1 σ H locs ls O hl hf
  unfold w_X5_settle at hf
  refine lv_aload_n hx hb dX5_settle_0 rfl (lv_at hl 0 rfl) ?_
  refine lv_iload_n hx hb dX5_settle_1 rfl (lv_at hl 1 rfl) ?_
  refine lv_if_eq (tgt := 11) hx hb dX5_settle_2 (by decide) (fun c_1 => ?_) (fun c_1 => ?_)
  · have hf := hf.1 c_1
    refine lv_lconst (v := 0) hx hb dX5_settle_11 (by decide) ?_
    exact b_X5_settle_12 C hE 0 σ _ _ ls O (lv_sub hl [0] rfl) hf
  · have hf := hf.2 c_1
    refine lv_ldc2 (v := 1000000000000) hx hb C.2.2.2.1 (C.2.2.2.2.1 _ kX5_52) dX5_settle_5 ?_
    refine lv_goto (tgt := 12) hx hb dX5_settle_8 (by decide) ?_
    exact b_X5_settle_12 C hE 1000000000000 σ _ _ ls O (lv_sub hl [0] rfl) hf
theorem c_X5_settle (l : Launch) (x1 : Int32) : MetI l yX5_settle cX5_settle 4 .int 5 123 LC 9 (fun q => [.int x1]) (w_X5_settle x1) := mk_I (own := RX5) (by decide) rfl (fun q => Nat.le_of_ble_eq_true rfl) (fun C hE O hl hf => b_X5_settle C hE x1 _ _ _ _ O hl hf)
end
section
variable {p : Program} {l : Launch} {e : Env} {R : Room} {s : State} {m : MethodId} {args : Array Value} {below : List Frame} {meth : Method} {c : Code} {E : State → Prop}
variable {D : va_G} {cs : Nat → ClassId} {q : Nat → Nat}
variable {Q : Int32 → St → Prop}
def w_X5_holds_23 (Q : Int32 → St → Prop) (K2 : Int32 → St → Prop) : Nat → Int32 → Int32 → St → Prop
  | 0, _, _, _ => False
  | n + 1, x1, x2, σ => w_X1_size σ (fun r_2 σ_1 => (r_2 ≤ x2 → (K2 (x1 + 1) σ_1)) ∧ (¬ r_2 ≤ x2 → (w_X1_inOrder x2 σ_1 (fun r_5 σ_4 => w_X6_planeOf r_5 σ_4 (fun r_7 σ_6 => (¬ r_7 = x1 → (w_X5_holds_23 Q K2 n x1 (x2 + 1) σ_6)) ∧ (r_7 = x1 → (w_X0_join r_5 σ_6 (fun r_10 σ_9 => (¬ r_10 = ((-1)) → (w_X5_holds_23 Q K2 n x1 (x2 + 1) σ_9)) ∧ (r_10 = ((-1)) → (Q 0 σ_9))))))))))
set_option maxHeartbeats 4000000 in
set_option maxRecDepth 100000 in
theorem b_X5_holds_23 (C : CX p R s m args meth c cX5_holds 4 RX5 3 72 D cs) (hE : RI p l e R s m args below meth c cX5_holds D cs LC q .boolean Q E) {K2 : Int32 → St → Prop} (hK2 : ∀ (x1 : Int32) (σ : St) (H : Heap) (locs : List Loc) (ls : Array Slot), OK D cs LC q s σ H locs → lv_has ls 4 [(0, .ref (q 9)), (1, .int x1)] → K2 x1 σ → W p l e R s m args below meth c H locs 0 0 E (F0 m 2 ls [])) : ∀ n : Nat, ∀ (x1 : Int32) (x2 : Int32) (σ : St) (H : Heap) (locs : List Loc) (ls : Array Slot), OK D cs LC q s σ H locs → lv_has ls 4 [(0, .ref (q 9)), (1, .int x1), (2, .int x2)] → w_X5_holds_23 Q K2 n x1 x2 σ → W p l e R s m args below meth c H locs 0 0 E (F0 m 23 ls []) := by
  have hx := C.1
  have hb := C.2.1
  intro n
  induction n with
  | zero => intro x1 x2 σ H locs ls O hl hf; exact hf.elim
  | succ n ih =>
    intro x1 x2 σ H locs ls O hl hf
    unfold w_X5_holds_23 at hf
    refine lv_iload_n hx hb dX5_holds_23 rfl (lv_at hl 2 rfl) ?_
    refine lv_aload_n hx hb dX5_holds_24 rfl (lv_at hl 0 rfl) ?_
    refine r_get C O (k := 9) (j := 1) (v := .ref (q 5)) fX5_40 rfl rfl rfl dX5_holds_25 ?_
    refine r_callI C O hl (c_X1_size l) mX5_98 (by decide) rfl rfl rfl rfl (Nat.le_of_ble_eq_true rfl) hf dX5_holds_28 (fun r_2 σ_1 H locs O hf => ?_)
    refine lv_icmp_ge (tgt := 75) hx hb dX5_holds_31 (by decide) (fun c_3 => ?_) (fun c_3 => ?_)
    · have hf := hf.1 c_3
      refine lv_iinc (v := x1 + 1) (lv' := [(1, .int (x1 + 1)), (0, .ref (q 9)), (2, .int x2)]) hx hb dX5_holds_75 hl (k := 1) rfl rfl (by decide) rfl (fun ls hl => ?_)
      refine lv_goto (tgt := 2) hx hb dX5_holds_78 (by decide) ?_
      exact hK2 (x1 + 1) σ_1 _ _ ls O (lv_sub hl [1, 0] rfl) hf
    · have hf := hf.2 c_3
      refine lv_aload_n hx hb dX5_holds_34 rfl (lv_at hl 0 rfl) ?_
      refine r_get C O (k := 9) (j := 1) (v := .ref (q 5)) fX5_40 rfl rfl rfl dX5_holds_35 ?_
      refine lv_iload_n hx hb dX5_holds_38 rfl (lv_at hl 2 rfl) ?_
      refine r_callI C O hl (c_X1_inOrder l x2) mX5_99 (by decide) rfl rfl rfl rfl (Nat.le_of_ble_eq_true rfl) hf dX5_holds_39 (fun r_5 σ_4 H locs O hf => ?_)
      refine lv_istore_n (lv' := [(3, .int r_5), (0, .ref (q 9)), (1, .int x1), (2, .int x2)]) hx hb dX5_holds_42 rfl hl (by decide) rfl (fun ls hl => ?_)
      refine lv_aload_n hx hb dX5_holds_43 rfl (lv_at hl 1 rfl) ?_
      refine r_get C O (k := 9) (j := 2) (v := .ref (q 7)) fX5_44 rfl rfl rfl dX5_holds_44 ?_
      refine lv_iload_n hx hb dX5_holds_47 rfl (lv_at hl 0 rfl) ?_
      refine r_callI C O hl (c_X6_planeOf l r_5) mX5_103 (by decide) rfl rfl rfl rfl (Nat.le_of_ble_eq_true rfl) hf dX5_holds_48 (fun r_7 σ_6 H locs O hf => ?_)
      refine lv_iload_n hx hb dX5_holds_51 rfl (lv_at hl 2 rfl) ?_
      refine lv_icmp_ne (tgt := 69) hx hb dX5_holds_52 (by decide) (fun c_8 => ?_) (fun c_8 => ?_)
      · have hf := hf.1 c_8
        refine lv_iinc (v := x2 + 1) (lv' := [(2, .int (x2 + 1)), (3, .int r_5), (0, .ref (q 9)), (1, .int x1)]) hx hb dX5_holds_69 hl (k := 3) rfl rfl (by decide) rfl (fun ls hl => ?_)
        refine lv_goto (tgt := 23) hx hb dX5_holds_72 (by decide) ?_
        exact ih x1 (x2 + 1) σ_6 _ _ ls O (lv_sub hl [2, 3, 0] rfl) hf
      · have hf := hf.2 c_8
        refine lv_aload_n hx hb dX5_holds_55 rfl (lv_at hl 1 rfl) ?_
        refine r_get C O (k := 9) (j := 3) (v := .ref (q 8)) fX5_48 rfl rfl rfl dX5_holds_56 ?_
        refine lv_iload_n hx hb dX5_holds_59 rfl (lv_at hl 0 rfl) ?_
        refine r_callI C O hl (c_X0_join l r_5) mX5_108 (by decide) rfl rfl rfl rfl (Nat.le_of_ble_eq_true rfl) hf dX5_holds_60 (fun r_10 σ_9 H locs O hf => ?_)
        refine lv_iconst (v := (-1)) hx hb dX5_holds_63 (by decide) ?_
        refine lv_icmp_ne (tgt := 69) hx hb dX5_holds_64 (by decide) (fun c_11 => ?_) (fun c_11 => ?_)
        · have hf := hf.1 c_11
          refine lv_iinc (v := x2 + 1) (lv' := [(2, .int (x2 + 1)), (3, .int r_5), (0, .ref (q 9)), (1, .int x1)]) hx hb dX5_holds_69 hl (k := 3) rfl rfl (by decide) rfl (fun ls hl => ?_)
          refine lv_goto (tgt := 23) hx hb dX5_holds_72 (by decide) ?_
          exact ih x1 (x2 + 1) σ_9 _ _ ls O (lv_sub hl [2, 3, 0] rfl) hf
        · have hf := hf.2 c_11
          refine lv_iconst (v := 0) hx hb dX5_holds_67 (by decide) ?_
          exact hE _ _ _ _ _ _ rfl O hf dX5_holds_68
def w_X5_holds_2 (Q : Int32 → St → Prop) : Nat → Int32 → St → Prop
  | 0, _, _ => False
  | n + 1, x1, σ => w_X4_size σ (fun r_2 σ_1 => (r_2 ≤ x1 → (Q 1 σ_1)) ∧ (¬ r_2 ≤ x1 → (w_X0_begin x1 σ_1 (fun σ_4 => ∃ nn : Nat, w_X5_holds_23 Q (fun x1 σ => w_X5_holds_2 Q n x1 σ) nn x1 0 σ_4))))
set_option maxHeartbeats 4000000 in
set_option maxRecDepth 100000 in
theorem b_X5_holds_2 (C : CX p R s m args meth c cX5_holds 4 RX5 3 72 D cs) (hE : RI p l e R s m args below meth c cX5_holds D cs LC q .boolean Q E) : ∀ n : Nat, ∀ (x1 : Int32) (σ : St) (H : Heap) (locs : List Loc) (ls : Array Slot), OK D cs LC q s σ H locs → lv_has ls 4 [(0, .ref (q 9)), (1, .int x1)] → w_X5_holds_2 Q n x1 σ → W p l e R s m args below meth c H locs 0 0 E (F0 m 2 ls []) := by
  have hx := C.1
  have hb := C.2.1
  intro n
  induction n with
  | zero => intro x1 σ H locs ls O hl hf; exact hf.elim
  | succ n ih =>
    intro x1 σ H locs ls O hl hf
    unfold w_X5_holds_2 at hf
    refine lv_iload_n hx hb dX5_holds_2 rfl (lv_at hl 1 rfl) ?_
    refine lv_aload_n hx hb dX5_holds_3 rfl (lv_at hl 0 rfl) ?_
    refine r_get C O (k := 9) (j := 0) (v := .ref (q 4)) fX5_36 rfl rfl rfl dX5_holds_4 ?_
    refine r_callI C O hl (c_X4_size l) mX5_61 (by decide) rfl rfl rfl rfl (Nat.le_of_ble_eq_true rfl) hf dX5_holds_7 (fun r_2 σ_1 H locs O hf => ?_)
    refine lv_icmp_ge (tgt := 81) hx hb dX5_holds_10 (by decide) (fun c_3 => ?_) (fun c_3 => ?_)
    · have hf := hf.1 c_3
      refine lv_iconst (v := 1) hx hb dX5_holds_81 (by decide) ?_
      exact hE _ _ _ _ _ _ rfl O hf dX5_holds_82
    · have hf := hf.2 c_3
      refine lv_aload_n hx hb dX5_holds_13 rfl (lv_at hl 0 rfl) ?_
      refine r_get C O (k := 9) (j := 3) (v := .ref (q 8)) fX5_48 rfl rfl rfl dX5_holds_14 ?_
      refine lv_iload_n hx hb dX5_holds_17 rfl (lv_at hl 1 rfl) ?_
      refine r_callV C O hl (c_X0_begin l x1) mX5_93 (by decide) rfl rfl rfl rfl (Nat.le_of_ble_eq_true rfl) hf dX5_holds_18 (fun σ_4 H locs O hf => ?_)
      refine lv_iconst (v := 0) hx hb dX5_holds_21 (by decide) ?_
      refine lv_istore_n (lv' := [(2, .int 0), (0, .ref (q 9)), (1, .int x1)]) hx hb dX5_holds_22 rfl hl (by decide) rfl (fun ls hl => ?_)
      obtain ⟨nn, hf⟩ := hf
      exact b_X5_holds_23 C hE ih nn x1 0 σ_4 _ _ ls O (lv_sub hl [1, 2, 0] rfl) hf
def w_X5_holds (σ : St) (Q : Int32 → St → Prop) : Prop := ∃ nn : Nat, w_X5_holds_2 Q nn 0 σ
set_option maxHeartbeats 4000000 in
set_option maxRecDepth 100000 in
theorem b_X5_holds (C : CX p R s m args meth c cX5_holds 4 RX5 3 72 D cs) (hE : RI p l e R s m args below meth c cX5_holds D cs LC q .boolean Q E) : ∀ (σ : St) (H : Heap) (locs : List Loc) (ls : Array Slot), OK D cs LC q s σ H locs → lv_has ls 4 [(0, .ref (q 9))] → w_X5_holds  σ Q → W p l e R s m args below meth c H locs 0 0 E (F0 m 0 ls []) := by
  have hx := C.1
  have hb := C.2.1
  intro  σ H locs ls O hl hf
  unfold w_X5_holds at hf
  refine lv_iconst (v := 0) hx hb dX5_holds_0 (by decide) ?_
  refine lv_istore_n (lv' := [(1, .int 0), (0, .ref (q 9))]) hx hb dX5_holds_1 rfl hl (by decide) rfl (fun ls hl => ?_)
  obtain ⟨nn, hf⟩ := hf
  exact b_X5_holds_2 C hE nn 0 σ _ _ ls O (lv_sub hl [1, 0] rfl) hf
theorem c_X5_holds (l : Launch) : MetI l yX5_holds cX5_holds 4 .boolean 3 72 LC 9 (fun q => []) (w_X5_holds ) := mk_I (own := RX5) (by decide) rfl (fun q => Nat.le_of_ble_eq_true rfl) (fun C hE O hl hf => b_X5_holds C hE _ _ _ _ O hl hf)
end
