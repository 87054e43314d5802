section
variable {p : Program} {l : Launch} {e : Env} {R : Room} {s : State} {m : MethodId} {args : Array Value} {below : List Frame} {meth : Method} {c : Code} {E : State → Prop}
variable {D : va_G} {cs : Nat → ClassId} {q : Nat → Nat}
variable {Q : Int32 → St → Prop}
def w_X10_feed (x1 : Int32) (x2 : Int32) (x3 : Int32) (x4 : Int32) (x5 : Int32) (σ : St) (Q : Int32 → St → Prop) : Prop := w_X8_hasRoom σ (fun r_2 σ_1 => (¬ r_2 = 0 → (w_X8_write x1 σ_1 (fun σ_4 => w_X8_write x2 σ_4 (fun σ_5 => w_X8_write x3 σ_5 (fun σ_6 => w_X8_write x4 σ_6 (fun σ_7 => w_X8_write x5 σ_7 (fun σ_8 => w_X8_length σ_8 (fun r_10 σ_9 => Q r_10 σ_9)))))))) ∧ (r_2 = 0 → (Q ((-1)) σ_1)))
set_option maxHeartbeats 4000000 in
set_option maxRecDepth 100000 in
theorem b_X10_feed (C : CX p R s m args meth c cX10_feed 6 RX10 1 22 D cs) (hE : RI p l e R s m args below meth c cX10_feed D cs LC q .int Q E) : ∀ (x1 : Int32) (x2 : Int32) (x3 : Int32) (x4 : Int32) (x5 : Int32) (σ : St) (H : Heap) (locs : List Loc) (ls : Array Slot), OK D cs LC q s σ H locs → lv_has ls 6 [(0, .ref (q 0)), (1, .int x1), (2, .int x2), (3, .int x3), (4, .int x4), (5, .int x5)] → w_X10_feed x1 x2 x3 x4 x5 σ Q → W p l e R s m args below meth c H locs 0 0 E (F0 m 0 ls []) := by
  have hx := C.1
  have hb := C.2.1
  intro x1 x2 x3 x4 x5 σ H locs ls O hl hf
  unfold w_X10_feed at hf
  refine lv_aload_n hx hb dX10_feed_0 rfl (lv_at hl 0 rfl) ?_
  refine r_get C O (k := 0) (j := 0) (v := .ref (q 1)) fX10_12 rfl rfl rfl dX10_feed_1 ?_
  refine r_callI C O hl (c_X8_hasRoom l) mX10_85 (by decide) rfl rfl rfl rfl (Nat.le_of_ble_eq_true rfl) hf dX10_feed_4 (fun r_2 σ_1 H locs O hf => ?_)
  refine lv_if_ne (tgt := 12) hx hb dX10_feed_7 (by decide) (fun c_3 => ?_) (fun c_3 => ?_)
  · have hf := hf.1 c_3
    refine lv_aload_n hx hb dX10_feed_12 rfl (lv_at hl 0 rfl) ?_
    refine r_get C O (k := 0) (j := 0) (v := .ref (q 1)) fX10_12 rfl rfl rfl dX10_feed_13 ?_
    refine lv_iload_n hx hb dX10_feed_16 rfl (lv_at hl 1 rfl) ?_
    refine r_callV C O hl (c_X8_write l x1) mX10_89 (by decide) rfl rfl rfl rfl (Nat.le_of_ble_eq_true rfl) hf dX10_feed_17 (fun σ_4 H locs O hf => ?_)
    refine lv_aload_n hx hb dX10_feed_20 rfl (lv_at hl 0 rfl) ?_
    refine r_get C O (k := 0) (j := 0) (v := .ref (q 1)) fX10_12 rfl rfl rfl dX10_feed_21 ?_
    refine lv_iload_n hx hb dX10_feed_24 rfl (lv_at hl 2 rfl) ?_
    refine r_callV C O hl (c_X8_write l x2) mX10_89 (by decide) rfl rfl rfl rfl (Nat.le_of_ble_eq_true rfl) hf dX10_feed_25 (fun σ_5 H locs O hf => ?_)
    refine lv_aload_n hx hb dX10_feed_28 rfl (lv_at hl 0 rfl) ?_
    refine r_get C O (k := 0) (j := 0) (v := .ref (q 1)) fX10_12 rfl rfl rfl dX10_feed_29 ?_
    refine lv_iload_n hx hb dX10_feed_32 rfl (lv_at hl 3 rfl) ?_
    refine r_callV C O hl (c_X8_write l x3) mX10_89 (by decide) rfl rfl rfl rfl (Nat.le_of_ble_eq_true rfl) hf dX10_feed_33 (fun σ_6 H locs O hf => ?_)
    refine lv_aload_n hx hb dX10_feed_36 rfl (lv_at hl 0 rfl) ?_
    refine r_get C O (k := 0) (j := 0) (v := .ref (q 1)) fX10_12 rfl rfl rfl dX10_feed_37 ?_
    refine lv_iload hx hb dX10_feed_40 (lv_at hl 4 rfl) ?_
    refine r_callV C O hl (c_X8_write l x4) mX10_89 (by decide) rfl rfl rfl rfl (Nat.le_of_ble_eq_true rfl) hf dX10_feed_42 (fun σ_7 H locs O hf => ?_)
    refine lv_aload_n hx hb dX10_feed_45 rfl (lv_at hl 0 rfl) ?_
    refine r_get C O (k := 0) (j := 0) (v := .ref (q 1)) fX10_12 rfl rfl rfl dX10_feed_46 ?_
    refine lv_iload hx hb dX10_feed_49 (lv_at hl 5 rfl) ?_
    refine r_callV C O hl (c_X8_write l x5) mX10_89 (by decide) rfl rfl rfl rfl (Nat.le_of_ble_eq_true rfl) hf dX10_feed_51 (fun σ_8 H locs O hf => ?_)
    refine lv_aload_n hx hb dX10_feed_54 rfl (lv_at hl 0 rfl) ?_
    refine r_get C O (k := 0) (j := 0) (v := .ref (q 1)) fX10_12 rfl rfl rfl dX10_feed_55 ?_
    refine r_callI C O hl (c_X8_length l) mX10_93 (by decide) rfl rfl rfl rfl (Nat.le_of_ble_eq_true rfl) hf dX10_feed_58 (fun r_10 σ_9 H locs O hf => ?_)
    exact hE _ _ _ _ _ _ (vp_nar_int _) O hf dX10_feed_61
  · have hf := hf.2 c_3
    refine lv_iconst (v := (-1)) hx hb dX10_feed_10 (by decide) ?_
    exact hE _ _ _ _ _ _ (vp_nar_int _) O hf dX10_feed_11
theorem c_X10_feed (l : Launch) (x1 : Int32) (x2 : Int32) (x3 : Int32) (x4 : Int32) (x5 : Int32) : MetI l yX10_feed cX10_feed 6 .int 1 22 LC 0 (fun q => [.int x1, .int x2, .int x3, .int x4, .int x5]) (w_X10_feed x1 x2 x3 x4 x5) := mk_I (own := RX10) (by decide) rfl (fun q => Nat.le_of_ble_eq_true rfl) (fun C hE O hl hf => b_X10_feed C hE x1 x2 x3 x4 x5 _ _ _ _ O hl hf)
end
section
variable {p : Program} {l : Launch} {e : Env} {R : Room} {s : State} {m : MethodId} {args : Array Value} {below : List Frame} {meth : Method} {c : Code} {E : State → Prop}
variable {D : va_G} {cs : Nat → ClassId} {q : Nat → Nat}
variable {Q : Int32 → St → Prop}
def w_X10_law (x1 : Int32) (x2 : Int32) (σ : St) (Q : Int32 → St → Prop) : Prop := w_X10_isDay x1 (fun r_1 => (r_1 = 0 → (Q ((-1)) σ)) ∧ (¬ r_1 = 0 → ((x2 < 0 → (Q ((-1)) σ)) ∧ (¬ x2 < 0 → (w_X8_length σ (fun r_5 σ_4 => (x2 ≤ r_5 → (w_X2_read x2 σ_4 (fun r_8 σ_7 => w_X8_wipe σ_7 (fun σ_9 => (¬ r_8 = 0 → (Q r_8 σ_9)) ∧ (r_8 = 0 → (w_X2_enact x1 σ_9 (fun σ_11 => Q r_8 σ_11))))))) ∧ (¬ x2 ≤ r_5 → (Q ((-1)) σ_4))))))))
set_option maxHeartbeats 4000000 in
set_option maxRecDepth 100000 in
theorem b_X10_law (C : CX p R s m args meth c cX10_law 4 RX10 4 98 D cs) (hE : RI p l e R s m args below meth c cX10_law D cs LC q .int Q E) : ∀ (x1 : Int32) (x2 : Int32) (σ : St) (H : Heap) (locs : List Loc) (ls : Array Slot), OK D cs LC q s σ H locs → lv_has ls 4 [(0, .ref (q 0)), (1, .int x1), (2, .int x2)] → w_X10_law x1 x2 σ Q → W p l e R s m args below meth c H locs 0 0 E (F0 m 0 ls []) := by
  have hx := C.1
  have hb := C.2.1
  intro x1 x2 σ H locs ls O hl hf
  unfold w_X10_law at hf
  refine lv_iload_n hx hb dX10_law_0 rfl (lv_at hl 1 rfl) ?_
  refine r_callS C hl (c_X10_isDay l x1) mX10_97 (by decide) rfl rfl (Nat.le_of_ble_eq_true rfl) hf dX10_law_1 (fun r_1 hf => ?_)
  refine lv_if_eq (tgt := 22) hx hb dX10_law_4 (by decide) (fun c_2 => ?_) (fun c_2 => ?_)
  · have hf := hf.1 c_2
    refine lv_iconst (v := (-1)) hx hb dX10_law_22 (by decide) ?_
    exact hE _ _ _ _ _ _ (vp_nar_int _) O hf dX10_law_23
  · have hf := hf.2 c_2
    refine lv_iload_n hx hb dX10_law_7 rfl (lv_at hl 2 rfl) ?_
    refine lv_if_lt (tgt := 22) hx hb dX10_law_8 (by decide) (fun c_3 => ?_) (fun c_3 => ?_)
    · have hf := hf.1 c_3
      refine lv_iconst (v := (-1)) hx hb dX10_law_22 (by decide) ?_
      exact hE _ _ _ _ _ _ (vp_nar_int _) O hf dX10_law_23
    · have hf := hf.2 c_3
      refine lv_iload_n hx hb dX10_law_11 rfl (lv_at hl 2 rfl) ?_
      refine lv_aload_n hx hb dX10_law_12 rfl (lv_at hl 0 rfl) ?_
      refine r_get C O (k := 0) (j := 0) (v := .ref (q 1)) fX10_12 rfl rfl rfl dX10_law_13 ?_
      refine r_callI C O hl (c_X8_length l) mX10_93 (by decide) rfl rfl rfl rfl (Nat.le_of_ble_eq_true rfl) hf dX10_law_16 (fun r_5 σ_4 H locs O hf => ?_)
      refine lv_icmp_le (tgt := 24) hx hb dX10_law_19 (by decide) (fun c_6 => ?_) (fun c_6 => ?_)
      · have hf := hf.1 c_6
        refine lv_aload_n hx hb dX10_law_24 rfl (lv_at hl 0 rfl) ?_
        refine r_get C O (k := 0) (j := 1) (v := .ref (q 2)) fX10_19 rfl rfl rfl dX10_law_25 ?_
        refine lv_aload_n hx hb dX10_law_28 rfl (lv_at hl 0 rfl) ?_
        refine r_get C O (k := 0) (j := 0) (v := .ref (q 1)) fX10_12 rfl rfl rfl dX10_law_29 ?_
        refine lv_iload_n hx hb dX10_law_32 rfl (lv_at hl 2 rfl) ?_
        refine r_callI C O hl (c_X2_read l x2) mX10_101 (by decide) rfl rfl rfl rfl (Nat.le_of_ble_eq_true rfl) hf dX10_law_33 (fun r_8 σ_7 H locs O hf => ?_)
        refine lv_istore_n (lv' := [(3, .int r_8), (0, .ref (q 0)), (1, .int x1), (2, .int x2)]) hx hb dX10_law_36 rfl hl (by decide) rfl (fun ls hl => ?_)
        refine lv_aload_n hx hb dX10_law_37 rfl (lv_at hl 1 rfl) ?_
        refine r_get C O (k := 0) (j := 0) (v := .ref (q 1)) fX10_12 rfl rfl rfl dX10_law_38 ?_
        refine r_callV C O hl (c_X8_wipe l) mX10_105 (by decide) rfl rfl rfl rfl (Nat.le_of_ble_eq_true rfl) hf dX10_law_41 (fun σ_9 H locs O hf => ?_)
        refine lv_iload_n hx hb dX10_law_44 rfl (lv_at hl 0 rfl) ?_
        refine lv_if_ne (tgt := 56) hx hb dX10_law_45 (by decide) (fun c_10 => ?_) (fun c_10 => ?_)
        · have hf := hf.1 c_10
          refine lv_iload_n hx hb dX10_law_56 rfl (lv_at hl 0 rfl) ?_
          exact hE _ _ _ _ _ _ (vp_nar_int _) O hf dX10_law_57
        · have hf := hf.2 c_10
          refine lv_aload_n hx hb dX10_law_48 rfl (lv_at hl 1 rfl) ?_
          refine r_get C O (k := 0) (j := 1) (v := .ref (q 2)) fX10_19 rfl rfl rfl dX10_law_49 ?_
          refine lv_iload_n hx hb dX10_law_52 rfl (lv_at hl 2 rfl) ?_
          refine r_callV C O hl (c_X2_enact l x1) mX10_108 (by decide) rfl rfl rfl rfl (Nat.le_of_ble_eq_true rfl) hf dX10_law_53 (fun σ_11 H locs O hf => ?_)
          refine lv_iload_n hx hb dX10_law_56 rfl (lv_at hl 0 rfl) ?_
          exact hE _ _ _ _ _ _ (vp_nar_int _) O hf dX10_law_57
      · have hf := hf.2 c_6
        refine lv_iconst (v := (-1)) hx hb dX10_law_22 (by decide) ?_
        exact hE _ _ _ _ _ _ (vp_nar_int _) O hf dX10_law_23
theorem c_X10_law (l : Launch) (x1 : Int32) (x2 : Int32) : MetI l yX10_law cX10_law 4 .int 4 98 LC 0 (fun q => [.int x1, .int x2]) (w_X10_law x1 x2) := mk_I (own := RX10) (by decide) rfl (fun q => Nat.le_of_ble_eq_true rfl) (fun C hE O hl hf => b_X10_law C hE x1 x2 _ _ _ _ O hl hf)
end
section
variable {p : Program} {l : Launch} {e : Env} {R : Room} {s : State} {m : MethodId} {args : Array Value} {below : List Frame} {meth : Method} {c : Code} {E : State → Prop}
variable {D : va_G} {cs : Nat → ClassId} {q : Nat → Nat}
variable {Q : Int32 → St → Prop}
def w_X10_rule (x1 : Int32) (x2 : Int32) (σ : St) (Q : Int32 → St → Prop) : Prop := (¬ x2 = 0 → ((¬ x2 = 1 → (Q ((-1)) σ)) ∧ (x2 = 1 → (w_X2_restOn x1 σ (fun r_4 σ_3 => Q r_4 σ_3))))) ∧ (x2 = 0 → (w_X2_dutyOn x1 σ (fun r_6 σ_5 => Q r_6 σ_5)))
set_option maxHeartbeats 4000000 in
set_option maxRecDepth 100000 in
theorem b_X10_rule (C : CX p R s m args meth c cX10_rule 3 RX10 1 21 D cs) (hE : RI p l e R s m args below meth c cX10_rule D cs LC q .int Q E) : ∀ (x1 : Int32) (x2 : Int32) (σ : St) (H : Heap) (locs : List Loc) (ls : Array Slot), OK D cs LC q s σ H locs → lv_has ls 3 [(0, .ref (q 0)), (1, .int x1), (2, .int x2)] → w_X10_rule x1 x2 σ Q → W p l e R s m args below meth c H locs 0 0 E (F0 m 0 ls []) := by
  have hx := C.1
  have hb := C.2.1
  intro x1 x2 σ H locs ls O hl hf
  unfold w_X10_rule at hf
  refine lv_iload_n hx hb dX10_rule_0 rfl (lv_at hl 2 rfl) ?_
  refine lv_if_ne (tgt := 13) hx hb dX10_rule_1 (by decide) (fun c_1 => ?_) (fun c_1 => ?_)
  · have hf := hf.1 c_1
    refine lv_iload_n hx hb dX10_rule_13 rfl (lv_at hl 2 rfl) ?_
    refine lv_iconst (v := 1) hx hb dX10_rule_14 (by decide) ?_
    refine lv_icmp_ne (tgt := 29) hx hb dX10_rule_15 (by decide) (fun c_2 => ?_) (fun c_2 => ?_)
    · have hf := hf.1 c_2
      refine lv_iconst (v := (-1)) hx hb dX10_rule_29 (by decide) ?_
      exact hE _ _ _ _ _ _ (vp_nar_int _) O hf dX10_rule_30
    · have hf := hf.2 c_2
      refine lv_aload_n hx hb dX10_rule_18 rfl (lv_at hl 0 rfl) ?_
      refine r_get C O (k := 0) (j := 1) (v := .ref (q 2)) fX10_19 rfl rfl rfl dX10_rule_19 ?_
      refine lv_iload_n hx hb dX10_rule_22 rfl (lv_at hl 1 rfl) ?_
      refine r_callI C O hl (c_X2_restOn l x1) mX10_115 (by decide) rfl rfl rfl rfl (Nat.le_of_ble_eq_true rfl) hf dX10_rule_23 (fun r_4 σ_3 H locs O hf => ?_)
      refine lv_goto (tgt := 30) hx hb dX10_rule_26 (by decide) ?_
      exact hE _ _ _ _ _ _ (vp_nar_int _) O hf dX10_rule_30
  · have hf := hf.2 c_1
    refine lv_aload_n hx hb dX10_rule_4 rfl (lv_at hl 0 rfl) ?_
    refine r_get C O (k := 0) (j := 1) (v := .ref (q 2)) fX10_19 rfl rfl rfl dX10_rule_5 ?_
    refine lv_iload_n hx hb dX10_rule_8 rfl (lv_at hl 1 rfl) ?_
    refine r_callI C O hl (c_X2_dutyOn l x1) mX10_111 (by decide) rfl rfl rfl rfl (Nat.le_of_ble_eq_true rfl) hf dX10_rule_9 (fun r_6 σ_5 H locs O hf => ?_)
    exact hE _ _ _ _ _ _ (vp_nar_int _) O hf dX10_rule_12
theorem c_X10_rule (l : Launch) (x1 : Int32) (x2 : Int32) : MetI l yX10_rule cX10_rule 3 .int 1 21 LC 0 (fun q => [.int x1, .int x2]) (w_X10_rule x1 x2) := mk_I (own := RX10) (by decide) rfl (fun q => Nat.le_of_ble_eq_true rfl) (fun C hE O hl hf => b_X10_rule C hE x1 x2 _ _ _ _ O hl hf)
end
section
variable {p : Program} {l : Launch} {e : Env} {R : Room} {s : State} {m : MethodId} {args : Array Value} {below : List Frame} {meth : Method} {c : Code} {E : State → Prop}
variable {D : va_G} {cs : Nat → ClassId} {q : Nat → Nat}
variable {Q : Int32 → St → Prop}
def w_X10_way_53 (Q : Int32 → St → Prop) (x1 : Int32) (x2 : Int32) (x3 : Int32) (σ : St) : Prop := w_X9_put x1 x2 x3 σ (fun σ_1 => Q 1 σ_1)
set_option maxHeartbeats 4000000 in
set_option maxRecDepth 100000 in
theorem b_X10_way_53 (C : CX p R s m args meth c cX10_way 4 RX10 2 43 D cs) (hE : RI p l e R s m args below meth c cX10_way D cs LC q .boolean Q E) : ∀ (x1 : Int32) (x2 : Int32) (x3 : Int32) (σ : St) (H : Heap) (locs : List Loc) (ls : Array Slot), OK D cs LC q s σ H locs → lv_has ls 4 [(0, .ref (q 0)), (1, .int x1), (2, .int x2), (3, .int x3)] → w_X10_way_53 Q x1 x2 x3 σ → W p l e R s m args below meth c H locs 0 0 E (F0 m 53 ls []) := by
  have hx := C.1
  have hb := C.2.1
  intro x1 x2 x3 σ H locs ls O hl hf
  unfold w_X10_way_53 at hf
  refine lv_aload_n hx hb dX10_way_53 rfl (lv_at hl 0 rfl) ?_
  refine r_get C O (k := 0) (j := 2) (v := .ref (q 3)) fX10_26 rfl rfl rfl dX10_way_54 ?_
  refine lv_iload_n hx hb dX10_way_57 rfl (lv_at hl 1 rfl) ?_
  refine lv_iload_n hx hb dX10_way_58 rfl (lv_at hl 2 rfl) ?_
  refine lv_iload_n hx hb dX10_way_59 rfl (lv_at hl 3 rfl) ?_
  refine r_callV C O hl (c_X9_put l x1 x2 x3) mX10_129 (by decide) rfl rfl rfl rfl (Nat.le_of_ble_eq_true rfl) hf dX10_way_60 (fun σ_1 H locs O hf => ?_)
  refine lv_iconst (v := 1) hx hb dX10_way_63 (by decide) ?_
  exact hE _ _ _ _ _ _ rfl O hf dX10_way_64
def w_X10_way (x1 : Int32) (x2 : Int32) (x3 : Int32) (σ : St) (Q : Int32 → St → Prop) : Prop := w_X10_isField x1 (fun r_1 => (r_1 = 0 → (Q 0 σ)) ∧ (¬ r_1 = 0 → (w_X10_isField x2 (fun r_3 => (r_3 = 0 → (Q 0 σ)) ∧ (¬ r_3 = 0 → ((¬ x1 = x2 → ((¬ x3 = 0 → (w_X10_isWithin x3 10 600 (fun r_7 => (¬ r_7 = 0 → (w_X10_way_53 Q x1 x2 x3 σ)) ∧ (r_7 = 0 → (Q 0 σ))))) ∧ (x3 = 0 → (w_X1_anyBetween x1 x2 σ (fun r_10 σ_9 => (r_10 = 0 → (w_X10_way_53 Q x1 x2 x3 σ_9)) ∧ (¬ r_10 = 0 → (Q 0 σ_9))))))) ∧ (x1 = x2 → (Q 0 σ))))))))
set_option maxHeartbeats 4000000 in
set_option maxRecDepth 100000 in
theorem b_X10_way (C : CX p R s m args meth c cX10_way 4 RX10 2 43 D cs) (hE : RI p l e R s m args below meth c cX10_way D cs LC q .boolean Q E) : ∀ (x1 : Int32) (x2 : Int32) (x3 : Int32) (σ : St) (H : Heap) (locs : List Loc) (ls : Array Slot), OK D cs LC q s σ H locs → lv_has ls 4 [(0, .ref (q 0)), (1, .int x1), (2, .int x2), (3, .int x3)] → w_X10_way x1 x2 x3 σ Q → W p l e R s m args below meth c H locs 0 0 E (F0 m 0 ls []) := by
  have hx := C.1
  have hb := C.2.1
  intro x1 x2 x3 σ H locs ls O hl hf
  unfold w_X10_way at hf
  refine lv_iload_n hx hb dX10_way_0 rfl (lv_at hl 1 rfl) ?_
  refine r_callS C hl (c_X10_isField l x1) mX10_118 (by decide) rfl rfl (Nat.le_of_ble_eq_true rfl) hf dX10_way_1 (fun r_1 hf => ?_)
  refine lv_if_eq (tgt := 19) hx hb dX10_way_4 (by decide) (fun c_2 => ?_) (fun c_2 => ?_)
  · have hf := hf.1 c_2
    refine lv_iconst (v := 0) hx hb dX10_way_19 (by decide) ?_
    exact hE _ _ _ _ _ _ rfl O hf dX10_way_20
  · have hf := hf.2 c_2
    refine lv_iload_n hx hb dX10_way_7 rfl (lv_at hl 2 rfl) ?_
    refine r_callS C hl (c_X10_isField l x2) mX10_118 (by decide) rfl rfl (Nat.le_of_ble_eq_true rfl) hf dX10_way_8 (fun r_3 hf => ?_)
    refine lv_if_eq (tgt := 19) hx hb dX10_way_11 (by decide) (fun c_4 => ?_) (fun c_4 => ?_)
    · have hf := hf.1 c_4
      refine lv_iconst (v := 0) hx hb dX10_way_19 (by decide) ?_
      exact hE _ _ _ _ _ _ rfl O hf dX10_way_20
    · have hf := hf.2 c_4
      refine lv_iload_n hx hb dX10_way_14 rfl (lv_at hl 1 rfl) ?_
      refine lv_iload_n hx hb dX10_way_15 rfl (lv_at hl 2 rfl) ?_
      refine lv_icmp_ne (tgt := 21) hx hb dX10_way_16 (by decide) (fun c_5 => ?_) (fun c_5 => ?_)
      · have hf := hf.1 c_5
        refine lv_iload_n hx hb dX10_way_21 rfl (lv_at hl 3 rfl) ?_
        refine lv_if_ne (tgt := 39) hx hb dX10_way_22 (by decide) (fun c_6 => ?_) (fun c_6 => ?_)
        · have hf := hf.1 c_6
          refine lv_iload_n hx hb dX10_way_39 rfl (lv_at hl 3 rfl) ?_
          refine lv_bipush (v := 10) hx hb dX10_way_40 (by decide) ?_
          refine lv_sipush (v := 600) hx hb dX10_way_42 (by decide) ?_
          refine r_callS C hl (c_X10_isWithin l x3 10 600) mX10_125 (by decide) rfl rfl (Nat.le_of_ble_eq_true rfl) hf dX10_way_45 (fun r_7 hf => ?_)
          refine lv_if_ne (tgt := 53) hx hb dX10_way_48 (by decide) (fun c_8 => ?_) (fun c_8 => ?_)
          · have hf := hf.1 c_8
            exact b_X10_way_53 C hE x1 x2 x3 σ _ _ ls O (lv_sub hl [0, 1, 2, 3] rfl) hf
          · have hf := hf.2 c_8
            refine lv_iconst (v := 0) hx hb dX10_way_51 (by decide) ?_
            exact hE _ _ _ _ _ _ rfl O hf dX10_way_52
        · have hf := hf.2 c_6
          refine lv_aload_n hx hb dX10_way_25 rfl (lv_at hl 0 rfl) ?_
          refine r_get C O (k := 0) (j := 4) (v := .ref (q 5)) fX10_40 rfl rfl rfl dX10_way_26 ?_
          refine lv_iload_n hx hb dX10_way_29 rfl (lv_at hl 1 rfl) ?_
          refine lv_iload_n hx hb dX10_way_30 rfl (lv_at hl 2 rfl) ?_
          refine r_callI C O hl (c_X1_anyBetween l x1 x2) mX10_121 (by decide) rfl rfl rfl rfl (Nat.le_of_ble_eq_true rfl) hf dX10_way_31 (fun r_10 σ_9 H locs O hf => ?_)
          refine lv_if_eq (tgt := 53) hx hb dX10_way_34 (by decide) (fun c_11 => ?_) (fun c_11 => ?_)
          · have hf := hf.1 c_11
            exact b_X10_way_53 C hE x1 x2 x3 σ_9 _ _ ls O (lv_sub hl [0, 1, 2, 3] rfl) hf
          · have hf := hf.2 c_11
            refine lv_iconst (v := 0) hx hb dX10_way_37 (by decide) ?_
            exact hE _ _ _ _ _ _ rfl O hf dX10_way_38
      · have hf := hf.2 c_5
        refine lv_iconst (v := 0) hx hb dX10_way_19 (by decide) ?_
        exact hE _ _ _ _ _ _ rfl O hf dX10_way_20
theorem c_X10_way (l : Launch) (x1 : Int32) (x2 : Int32) (x3 : Int32) : MetI l yX10_way cX10_way 4 .boolean 2 43 LC 0 (fun q => [.int x1, .int x2, .int x3]) (w_X10_way x1 x2 x3) := mk_I (own := RX10) (by decide) rfl (fun q => Nat.le_of_ble_eq_true rfl) (fun C hE O hl hf => b_X10_way C hE x1 x2 x3 _ _ _ _ O hl hf)
end
section
variable {p : Program} {l : Launch} {e : Env} {R : Room} {s : State} {m : MethodId} {args : Array Value} {below : List Frame} {meth : Method} {c : Code} {E : State → Prop}
variable {D : va_G} {cs : Nat → ClassId} {q : Nat → Nat}
variable {Q : Int32 → St → Prop}
def w_X10_plane (x1 : Int32) (x2 : Int32) (x3 : Int32) (x4 : Int32) (σ : St) (Q : Int32 → St → Prop) : Prop := w_X10_isField x1 (fun r_1 => (r_1 = 0 → (Q ((-1)) σ)) ∧ (¬ r_1 = 0 → (w_X10_isWithin x2 1 30 (fun r_3 => (¬ r_3 = 0 → (w_X10_isWithin x3 0 180 (fun r_5 => (r_5 = 0 → (Q ((-1)) σ)) ∧ (¬ r_5 = 0 → (w_X10_isWithin x4 1 1000 (fun r_7 => (¬ r_7 = 0 → (w_X4_add x1 x2 x3 x4 σ (fun r_10 σ_9 => Q r_10 σ_9))) ∧ (r_7 = 0 → (Q ((-1)) σ)))))))) ∧ (r_3 = 0 → (Q ((-1)) σ))))))
set_option maxHeartbeats 4000000 in
set_option maxRecDepth 100000 in
theorem b_X10_plane (C : CX p R s m args meth c cX10_plane 5 RX10 1 24 D cs) (hE : RI p l e R s m args below meth c cX10_plane D cs LC q .int Q E) : ∀ (x1 : Int32) (x2 : Int32) (x3 : Int32) (x4 : Int32) (σ : St) (H : Heap) (locs : List Loc) (ls : Array Slot), OK D cs LC q s σ H locs → lv_has ls 5 [(0, .ref (q 0)), (1, .int x1), (2, .int x2), (3, .int x3), (4, .int x4)] → w_X10_plane x1 x2 x3 x4 σ Q → W p l e R s m args below meth c H locs 0 0 E (F0 m 0 ls []) := by
  have hx := C.1
  have hb := C.2.1
  intro x1 x2 x3 x4 σ H locs ls O hl hf
  unfold w_X10_plane at hf
  refine lv_iload_n hx hb dX10_plane_0 rfl (lv_at hl 1 rfl) ?_
  refine r_callS C hl (c_X10_isField l x1) mX10_118 (by decide) rfl rfl (Nat.le_of_ble_eq_true rfl) hf dX10_plane_1 (fun r_1 hf => ?_)
  refine lv_if_eq (tgt := 17) hx hb dX10_plane_4 (by decide) (fun c_2 => ?_) (fun c_2 => ?_)
  · have hf := hf.1 c_2
    refine lv_iconst (v := (-1)) hx hb dX10_plane_17 (by decide) ?_
    exact hE _ _ _ _ _ _ (vp_nar_int _) O hf dX10_plane_18
  · have hf := hf.2 c_2
    refine lv_iload_n hx hb dX10_plane_7 rfl (lv_at hl 2 rfl) ?_
    refine lv_iconst (v := 1) hx hb dX10_plane_8 (by decide) ?_
    refine lv_bipush (v := 30) hx hb dX10_plane_9 (by decide) ?_
    refine r_callS C hl (c_X10_isWithin l x2 1 30) mX10_125 (by decide) rfl rfl (Nat.le_of_ble_eq_true rfl) hf dX10_plane_11 (fun r_3 hf => ?_)
    refine lv_if_ne (tgt := 19) hx hb dX10_plane_14 (by decide) (fun c_4 => ?_) (fun c_4 => ?_)
    · have hf := hf.1 c_4
      refine lv_iload_n hx hb dX10_plane_19 rfl (lv_at hl 3 rfl) ?_
      refine lv_iconst (v := 0) hx hb dX10_plane_20 (by decide) ?_
      refine lv_sipush (v := 180) hx hb dX10_plane_21 (by decide) ?_
      refine r_callS C hl (c_X10_isWithin l x3 0 180) mX10_125 (by decide) rfl rfl (Nat.le_of_ble_eq_true rfl) hf dX10_plane_24 (fun r_5 hf => ?_)
      refine lv_if_eq (tgt := 42) hx hb dX10_plane_27 (by decide) (fun c_6 => ?_) (fun c_6 => ?_)
      · have hf := hf.1 c_6
        refine lv_iconst (v := (-1)) hx hb dX10_plane_42 (by decide) ?_
        exact hE _ _ _ _ _ _ (vp_nar_int _) O hf dX10_plane_43
      · have hf := hf.2 c_6
        refine lv_iload hx hb dX10_plane_30 (lv_at hl 4 rfl) ?_
        refine lv_iconst (v := 1) hx hb dX10_plane_32 (by decide) ?_
        refine lv_sipush (v := 1000) hx hb dX10_plane_33 (by decide) ?_
        refine r_callS C hl (c_X10_isWithin l x4 1 1000) mX10_125 (by decide) rfl rfl (Nat.le_of_ble_eq_true rfl) hf dX10_plane_36 (fun r_7 hf => ?_)
        refine lv_if_ne (tgt := 44) hx hb dX10_plane_39 (by decide) (fun c_8 => ?_) (fun c_8 => ?_)
        · have hf := hf.1 c_8
          refine lv_aload_n hx hb dX10_plane_44 rfl (lv_at hl 0 rfl) ?_
          refine r_get C O (k := 0) (j := 3) (v := .ref (q 4)) fX10_33 rfl rfl rfl dX10_plane_45 ?_
          refine lv_iload_n hx hb dX10_plane_48 rfl (lv_at hl 1 rfl) ?_
          refine lv_iload_n hx hb dX10_plane_49 rfl (lv_at hl 2 rfl) ?_
          refine lv_iload_n hx hb dX10_plane_50 rfl (lv_at hl 3 rfl) ?_
          refine lv_iload hx hb dX10_plane_51 (lv_at hl 4 rfl) ?_
          refine r_callI C O hl (c_X4_add l x1 x2 x3 x4) mX10_133 (by decide) rfl rfl rfl rfl (Nat.le_of_ble_eq_true rfl) hf dX10_plane_53 (fun r_10 σ_9 H locs O hf => ?_)
          exact hE _ _ _ _ _ _ (vp_nar_int _) O hf dX10_plane_56
        · have hf := hf.2 c_8
          refine lv_iconst (v := (-1)) hx hb dX10_plane_42 (by decide) ?_
          exact hE _ _ _ _ _ _ (vp_nar_int _) O hf dX10_plane_43
    · have hf := hf.2 c_4
      refine lv_iconst (v := (-1)) hx hb dX10_plane_17 (by decide) ?_
      exact hE _ _ _ _ _ _ (vp_nar_int _) O hf dX10_plane_18
theorem c_X10_plane (l : Launch) (x1 : Int32) (x2 : Int32) (x3 : Int32) (x4 : Int32) : MetI l yX10_plane cX10_plane 5 .int 1 24 LC 0 (fun q => [.int x1, .int x2, .int x3, .int x4]) (w_X10_plane x1 x2 x3 x4) := mk_I (own := RX10) (by decide) rfl (fun q => Nat.le_of_ble_eq_true rfl) (fun C hE O hl hf => b_X10_plane C hE x1 x2 x3 x4 _ _ _ _ O hl hf)
end
section
variable {p : Program} {l : Launch} {e : Env} {R : Room} {s : State} {m : MethodId} {args : Array Value} {below : List Frame} {meth : Method} {c : Code} {E : State → Prop}
variable {D : va_G} {cs : Nat → ClassId} {q : Nat → Nat}
variable {Q : Int32 → St → Prop}
def w_X10_flight (x1 : Int32) (x2 : Int32) (x3 : Int32) (x4 : Int32) (σ : St) (Q : Int32 → St → Prop) : Prop := w_X9_minutes x1 x2 σ (fun r_2 σ_1 => (r_2 = 0 → (Q ((-1)) σ_1)) ∧ (¬ r_2 = 0 → (w_X10_isMinute x3 (fun r_4 => (r_4 = 0 → (Q ((-1)) σ_1)) ∧ (¬ r_4 = 0 → (w_X10_isWithin x4 1 30 (fun r_6 => (¬ r_6 = 0 → (w_X1_add x1 x2 x3 x4 σ_1 (fun r_9 σ_8 => Q r_9 σ_8))) ∧ (r_6 = 0 → (Q ((-1)) σ_1)))))))))
set_option maxHeartbeats 4000000 in
set_option maxRecDepth 100000 in
theorem b_X10_flight (C : CX p R s m args meth c cX10_flight 5 RX10 4 90 D cs) (hE : RI p l e R s m args below meth c cX10_flight D cs LC q .int Q E) : ∀ (x1 : Int32) (x2 : Int32) (x3 : Int32) (x4 : Int32) (σ : St) (H : Heap) (locs : List Loc) (ls : Array Slot), OK D cs LC q s σ H locs → lv_has ls 5 [(0, .ref (q 0)), (1, .int x1), (2, .int x2), (3, .int x3), (4, .int x4)] → w_X10_flight x1 x2 x3 x4 σ Q → W p l e R s m args below meth c H locs 0 0 E (F0 m 0 ls []) := by
  have hx := C.1
  have hb := C.2.1
  intro x1 x2 x3 x4 σ H locs ls O hl hf
  unfold w_X10_flight at hf
  refine lv_aload_n hx hb dX10_flight_0 rfl (lv_at hl 0 rfl) ?_
  refine r_get C O (k := 0) (j := 2) (v := .ref (q 3)) fX10_26 rfl rfl rfl dX10_flight_1 ?_
  refine lv_iload_n hx hb dX10_flight_4 rfl (lv_at hl 1 rfl) ?_
  refine lv_iload_n hx hb dX10_flight_5 rfl (lv_at hl 2 rfl) ?_
  refine r_callI C O hl (c_X9_minutes l x1 x2) mX10_137 (by decide) rfl rfl rfl rfl (Nat.le_of_ble_eq_true rfl) hf dX10_flight_6 (fun r_2 σ_1 H locs O hf => ?_)
  refine lv_if_eq (tgt := 30) hx hb dX10_flight_9 (by decide) (fun c_3 => ?_) (fun c_3 => ?_)
  · have hf := hf.1 c_3
    refine lv_iconst (v := (-1)) hx hb dX10_flight_30 (by decide) ?_
    exact hE _ _ _ _ _ _ (vp_nar_int _) O hf dX10_flight_31
  · have hf := hf.2 c_3
    refine lv_iload_n hx hb dX10_flight_12 rfl (lv_at hl 3 rfl) ?_
    refine r_callS C hl (c_X10_isMinute l x3) mX10_141 (by decide) rfl rfl (Nat.le_of_ble_eq_true rfl) hf dX10_flight_13 (fun r_4 hf => ?_)
    refine lv_if_eq (tgt := 30) hx hb dX10_flight_16 (by decide) (fun c_5 => ?_) (fun c_5 => ?_)
    · have hf := hf.1 c_5
      refine lv_iconst (v := (-1)) hx hb dX10_flight_30 (by decide) ?_
      exact hE _ _ _ _ _ _ (vp_nar_int _) O hf dX10_flight_31
    · have hf := hf.2 c_5
      refine lv_iload hx hb dX10_flight_19 (lv_at hl 4 rfl) ?_
      refine lv_iconst (v := 1) hx hb dX10_flight_21 (by decide) ?_
      refine lv_bipush (v := 30) hx hb dX10_flight_22 (by decide) ?_
      refine r_callS C hl (c_X10_isWithin l x4 1 30) mX10_125 (by decide) rfl rfl (Nat.le_of_ble_eq_true rfl) hf dX10_flight_24 (fun r_6 hf => ?_)
      refine lv_if_ne (tgt := 32) hx hb dX10_flight_27 (by decide) (fun c_7 => ?_) (fun c_7 => ?_)
      · have hf := hf.1 c_7
        refine lv_aload_n hx hb dX10_flight_32 rfl (lv_at hl 0 rfl) ?_
        refine r_get C O (k := 0) (j := 4) (v := .ref (q 5)) fX10_40 rfl rfl rfl dX10_flight_33 ?_
        refine lv_iload_n hx hb dX10_flight_36 rfl (lv_at hl 1 rfl) ?_
        refine lv_iload_n hx hb dX10_flight_37 rfl (lv_at hl 2 rfl) ?_
        refine lv_iload_n hx hb dX10_flight_38 rfl (lv_at hl 3 rfl) ?_
        refine lv_iload hx hb dX10_flight_39 (lv_at hl 4 rfl) ?_
        refine r_callI C O hl (c_X1_add l x1 x2 x3 x4) mX10_144 (by decide) rfl rfl rfl rfl (Nat.le_of_ble_eq_true rfl) hf dX10_flight_41 (fun r_9 σ_8 H locs O hf => ?_)
        exact hE _ _ _ _ _ _ (vp_nar_int _) O hf dX10_flight_44
      · have hf := hf.2 c_7
        refine lv_iconst (v := (-1)) hx hb dX10_flight_30 (by decide) ?_
        exact hE _ _ _ _ _ _ (vp_nar_int _) O hf dX10_flight_31
theorem c_X10_flight (l : Launch) (x1 : Int32) (x2 : Int32) (x3 : Int32) (x4 : Int32) : MetI l yX10_flight cX10_flight 5 .int 4 90 LC 0 (fun q => [.int x1, .int x2, .int x3, .int x4]) (w_X10_flight x1 x2 x3 x4) := mk_I (own := RX10) (by decide) rfl (fun q => Nat.le_of_ble_eq_true rfl) (fun C hE O hl hf => b_X10_flight C hE x1 x2 x3 x4 _ _ _ _ O hl hf)
end
section
variable {p : Program} {l : Launch} {e : Env} {R : Room} {s : State} {m : MethodId} {args : Array Value} {below : List Frame} {meth : Method} {c : Code} {E : State → Prop}
variable {D : va_G} {cs : Nat → ClassId} {q : Nat → Nat}
variable {Q : Int32 → St → Prop}
def w_X10_cancel (x1 : Int32) (σ : St) (Q : Int32 → St → Prop) : Prop := w_X1_isLive x1 σ (fun r_2 σ_1 => (¬ r_2 = 0 → (w_X1_strike x1 σ_1 (fun σ_4 => w_X6_assign x1 ((-1)) σ_4 (fun σ_5 => w_X3_breakLost σ_5 (fun σ_6 => Q 1 σ_6))))) ∧ (r_2 = 0 → (Q 0 σ_1)))
set_option maxHeartbeats 4000000 in
set_option maxRecDepth 100000 in
theorem b_X10_cancel (C : CX p R s m args meth c cX10_cancel 2 RX10 5 112 D cs) (hE : RI p l e R s m args below meth c cX10_cancel D cs LC q .boolean Q E) : ∀ (x1 : Int32) (σ : St) (H : Heap) (locs : List Loc) (ls : Array Slot), OK D cs LC q s σ H locs → lv_has ls 2 [(0, .ref (q 0)), (1, .int x1)] → w_X10_cancel x1 σ Q → W p l e R s m args below meth c H locs 0 0 E (F0 m 0 ls []) := by
  have hx := C.1
  have hb := C.2.1
  intro x1 σ H locs ls O hl hf
  unfold w_X10_cancel at hf
  refine lv_aload_n hx hb dX10_cancel_0 rfl (lv_at hl 0 rfl) ?_
  refine r_get C O (k := 0) (j := 4) (v := .ref (q 5)) fX10_40 rfl rfl rfl dX10_cancel_1 ?_
  refine lv_iload_n hx hb dX10_cancel_4 rfl (lv_at hl 1 rfl) ?_
  refine r_callI C O hl (c_X1_isLive l x1) mX10_145 (by decide) rfl rfl rfl rfl (Nat.le_of_ble_eq_true rfl) hf dX10_cancel_5 (fun r_2 σ_1 H locs O hf => ?_)
  refine lv_if_ne (tgt := 13) hx hb dX10_cancel_8 (by decide) (fun c_3 => ?_) (fun c_3 => ?_)
  · have hf := hf.1 c_3
    refine lv_aload_n hx hb dX10_cancel_13 rfl (lv_at hl 0 rfl) ?_
    refine r_get C O (k := 0) (j := 4) (v := .ref (q 5)) fX10_40 rfl rfl rfl dX10_cancel_14 ?_
    refine lv_iload_n hx hb dX10_cancel_17 rfl (lv_at hl 1 rfl) ?_
    refine r_callV C O hl (c_X1_strike l x1) mX10_148 (by decide) rfl rfl rfl rfl (Nat.le_of_ble_eq_true rfl) hf dX10_cancel_18 (fun σ_4 H locs O hf => ?_)
    refine lv_aload_n hx hb dX10_cancel_21 rfl (lv_at hl 0 rfl) ?_
    refine r_get C O (k := 0) (j := 6) (v := .ref (q 7)) fX10_56 rfl rfl rfl dX10_cancel_22 ?_
    refine lv_iload_n hx hb dX10_cancel_25 rfl (lv_at hl 1 rfl) ?_
    refine lv_iconst (v := (-1)) hx hb dX10_cancel_26 (by decide) ?_
    refine r_callV C O hl (c_X6_assign l x1 ((-1))) mX10_151 (by decide) rfl rfl rfl rfl (Nat.le_of_ble_eq_true rfl) hf dX10_cancel_27 (fun σ_5 H locs O hf => ?_)
    refine lv_aload_n hx hb dX10_cancel_30 rfl (lv_at hl 0 rfl) ?_
    refine r_get C O (k := 0) (j := 8) (v := .ref (q 10)) fX10_77 rfl rfl rfl dX10_cancel_31 ?_
    refine lv_aload_n hx hb dX10_cancel_34 rfl (lv_at hl 0 rfl) ?_
    refine r_get C O (k := 0) (j := 6) (v := .ref (q 7)) fX10_56 rfl rfl rfl dX10_cancel_35 ?_
    refine r_callV C O hl (c_X3_breakLost l) mX10_155 (by decide) rfl rfl rfl rfl (Nat.le_of_ble_eq_true rfl) hf dX10_cancel_38 (fun σ_6 H locs O hf => ?_)
    refine lv_iconst (v := 1) hx hb dX10_cancel_41 (by decide) ?_
    exact hE _ _ _ _ _ _ rfl O hf dX10_cancel_42
  · have hf := hf.2 c_3
    refine lv_iconst (v := 0) hx hb dX10_cancel_11 (by decide) ?_
    exact hE _ _ _ _ _ _ rfl O hf dX10_cancel_12
theorem c_X10_cancel (l : Launch) (x1 : Int32) : MetI l yX10_cancel cX10_cancel 2 .boolean 5 112 LC 0 (fun q => [.int x1]) (w_X10_cancel x1) := mk_I (own := RX10) (by decide) rfl (fun q => Nat.le_of_ble_eq_true rfl) (fun C hE O hl hf => b_X10_cancel C hE x1 _ _ _ _ O hl hf)
end
section
variable {p : Program} {l : Launch} {e : Env} {R : Room} {s : State} {m : MethodId} {args : Array Value} {below : List Frame} {meth : Method} {c : Code} {E : State → Prop}
variable {D : va_G} {cs : Nat → ClassId} {q : Nat → Nat}
variable {Q : Int32 → St → Prop}
def w_X10_storm (x1 : Int32) (x2 : Int32) (x3 : Int32) (σ : St) (Q : Int32 → St → Prop) : Prop := w_X10_isField x1 (fun r_1 => (r_1 = 0 → (Q ((-1)) σ)) ∧ (¬ r_1 = 0 → (w_X10_isMinute x2 (fun r_3 => (r_3 = 0 → (Q ((-1)) σ)) ∧ (¬ r_3 = 0 → (w_X10_isWithin x3 (x2 + 1) 10080 (fun r_5 => (¬ r_5 = 0 → (w_X7_add x1 x2 x3 σ (fun r_8 σ_7 => Q r_8 σ_7))) ∧ (r_5 = 0 → (Q ((-1)) σ)))))))))
set_option maxHeartbeats 4000000 in
set_option maxRecDepth 100000 in
theorem b_X10_storm (C : CX p R s m args meth c cX10_storm 4 RX10 1 23 D cs) (hE : RI p l e R s m args below meth c cX10_storm D cs LC q .int Q E) : ∀ (x1 : Int32) (x2 : Int32) (x3 : Int32) (σ : St) (H : Heap) (locs : List Loc) (ls : Array Slot), OK D cs LC q s σ H locs → lv_has ls 4 [(0, .ref (q 0)), (1, .int x1), (2, .int x2), (3, .int x3)] → w_X10_storm x1 x2 x3 σ Q → W p l e R s m args below meth c H locs 0 0 E (F0 m 0 ls []) := by
  have hx := C.1
  have hb := C.2.1
  intro x1 x2 x3 σ H locs ls O hl hf
  unfold w_X10_storm at hf
  refine lv_iload_n hx hb dX10_storm_0 rfl (lv_at hl 1 rfl) ?_
  refine r_callS C hl (c_X10_isField l x1) mX10_118 (by decide) rfl rfl (Nat.le_of_ble_eq_true rfl) hf dX10_storm_1 (fun r_1 hf => ?_)
  refine lv_if_eq (tgt := 27) hx hb dX10_storm_4 (by decide) (fun c_2 => ?_) (fun c_2 => ?_)
  · have hf := hf.1 c_2
    refine lv_iconst (v := (-1)) hx hb dX10_storm_27 (by decide) ?_
    exact hE _ _ _ _ _ _ (vp_nar_int _) O hf dX10_storm_28
  · have hf := hf.2 c_2
    refine lv_iload_n hx hb dX10_storm_7 rfl (lv_at hl 2 rfl) ?_
    refine r_callS C hl (c_X10_isMinute l x2) mX10_141 (by decide) rfl rfl (Nat.le_of_ble_eq_true rfl) hf dX10_storm_8 (fun r_3 hf => ?_)
    refine lv_if_eq (tgt := 27) hx hb dX10_storm_11 (by decide) (fun c_4 => ?_) (fun c_4 => ?_)
    · have hf := hf.1 c_4
      refine lv_iconst (v := (-1)) hx hb dX10_storm_27 (by decide) ?_
      exact hE _ _ _ _ _ _ (vp_nar_int _) O hf dX10_storm_28
    · have hf := hf.2 c_4
      refine lv_iload_n hx hb dX10_storm_14 rfl (lv_at hl 3 rfl) ?_
      refine lv_iload_n hx hb dX10_storm_15 rfl (lv_at hl 2 rfl) ?_
      refine lv_iconst (v := 1) hx hb dX10_storm_16 (by decide) ?_
      refine lv_iadd hx hb dX10_storm_17 ?_
      refine lv_sipush (v := 10080) hx hb dX10_storm_18 (by decide) ?_
      refine r_callS C hl (c_X10_isWithin l x3 (x2 + 1) 10080) mX10_125 (by decide) rfl rfl (Nat.le_of_ble_eq_true rfl) hf dX10_storm_21 (fun r_5 hf => ?_)
      refine lv_if_ne (tgt := 29) hx hb dX10_storm_24 (by decide) (fun c_6 => ?_) (fun c_6 => ?_)
      · have hf := hf.1 c_6
        refine lv_aload_n hx hb dX10_storm_29 rfl (lv_at hl 0 rfl) ?_
        refine r_get C O (k := 0) (j := 5) (v := .ref (q 6)) fX10_47 rfl rfl rfl dX10_storm_30 ?_
        refine lv_iload_n hx hb dX10_storm_33 rfl (lv_at hl 1 rfl) ?_
        refine lv_iload_n hx hb dX10_storm_34 rfl (lv_at hl 2 rfl) ?_
        refine lv_iload_n hx hb dX10_storm_35 rfl (lv_at hl 3 rfl) ?_
        refine r_callI C O hl (c_X7_add l x1 x2 x3) mX10_159 (by decide) rfl rfl rfl rfl (Nat.le_of_ble_eq_true rfl) hf dX10_storm_36 (fun r_8 σ_7 H locs O hf => ?_)
        exact hE _ _ _ _ _ _ (vp_nar_int _) O hf dX10_storm_39
      · have hf := hf.2 c_6
        refine lv_iconst (v := (-1)) hx hb dX10_storm_27 (by decide) ?_
        exact hE _ _ _ _ _ _ (vp_nar_int _) O hf dX10_storm_28
theorem c_X10_storm (l : Launch) (x1 : Int32) (x2 : Int32) (x3 : Int32) : MetI l yX10_storm cX10_storm 4 .int 1 23 LC 0 (fun q => [.int x1, .int x2, .int x3]) (w_X10_storm x1 x2 x3) := mk_I (own := RX10) (by decide) rfl (fun q => Nat.le_of_ble_eq_true rfl) (fun C hE O hl hf => b_X10_storm C hE x1 x2 x3 _ _ _ _ O hl hf)
end
section
variable {p : Program} {l : Launch} {e : Env} {R : Room} {s : State} {m : MethodId} {args : Array Value} {below : List Frame} {meth : Method} {c : Code} {E : State → Prop}
variable {D : va_G} {cs : Nat → ClassId} {q : Nat → Nat}
variable {Q : Int32 → St → Prop}
def w_X10_clock (x1 : Int32) (σ : St) (Q : Int32 → St → Prop) : Prop := w_X10_isMinute x1 (fun r_1 => (r_1 = 0 → (Q 0 σ)) ∧ (¬ r_1 = 0 → (((σ.1 0 9) ≤ x1 → (∀ σ_4 : St, σ_4 = wr σ 0 9 x1 → (w_X3_lapseBehind (σ_4.1 0 9) σ_4 (fun σ_5 => Q 1 σ_5)))) ∧ (¬ (σ.1 0 9) ≤ x1 → (Q 0 σ)))))
set_option maxHeartbeats 4000000 in
set_option maxRecDepth 100000 in
theorem b_X10_clock (C : CX p R s m args meth c cX10_clock 2 RX10 1 22 D cs) (hE : RI p l e R s m args below meth c cX10_clock D cs LC q .boolean Q E) : ∀ (x1 : Int32) (σ : St) (H : Heap) (locs : List Loc) (ls : Array Slot), OK D cs LC q s σ H locs → lv_has ls 2 [(0, .ref (q 0)), (1, .int x1)] → w_X10_clock x1 σ Q → W p l e R s m args below meth c H locs 0 0 E (F0 m 0 ls []) := by
  have hx := C.1
  have hb := C.2.1
  intro x1 σ H locs ls O hl hf
  unfold w_X10_clock at hf
  refine lv_iload_n hx hb dX10_clock_0 rfl (lv_at hl 1 rfl) ?_
  refine r_callS C hl (c_X10_isMinute l x1) mX10_141 (by decide) rfl rfl (Nat.le_of_ble_eq_true rfl) hf dX10_clock_1 (fun r_1 hf => ?_)
  refine lv_if_eq (tgt := 15) hx hb dX10_clock_4 (by decide) (fun c_2 => ?_) (fun c_2 => ?_)
  · have hf := hf.1 c_2
    refine lv_iconst (v := 0) hx hb dX10_clock_15 (by decide) ?_
    exact hE _ _ _ _ _ _ rfl O hf dX10_clock_16
  · have hf := hf.2 c_2
    refine lv_iload_n hx hb dX10_clock_7 rfl (lv_at hl 1 rfl) ?_
    refine lv_aload_n hx hb dX10_clock_8 rfl (lv_at hl 0 rfl) ?_
    refine r_get C O (k := 0) (j := 9) (v := .int (σ.1 0 9)) fX10_81 rfl rfl rfl dX10_clock_9 ?_
    refine lv_icmp_ge (tgt := 17) hx hb dX10_clock_12 (by decide) (fun c_3 => ?_) (fun c_3 => ?_)
    · have hf := hf.1 c_3
      refine lv_aload_n hx hb dX10_clock_17 rfl (lv_at hl 0 rfl) ?_
      refine lv_iload_n hx hb dX10_clock_18 rfl (lv_at hl 1 rfl) ?_
      refine r_puti C O (k := 0) pX10_81 rfl rfl dX10_clock_19 (fun H locs σ_4 eσ_4 O => ?_)
      have hf := hf σ_4 eσ_4
      refine lv_aload_n hx hb dX10_clock_22 rfl (lv_at hl 0 rfl) ?_
      refine r_get C O (k := 0) (j := 8) (v := .ref (q 10)) fX10_77 rfl rfl rfl dX10_clock_23 ?_
      refine lv_aload_n hx hb dX10_clock_26 rfl (lv_at hl 0 rfl) ?_
      refine r_get C O (k := 0) (j := 9) (v := .int (σ_4.1 0 9)) fX10_81 rfl rfl rfl dX10_clock_27 ?_
      refine r_callV C O hl (c_X3_lapseBehind l (σ_4.1 0 9)) mX10_162 (by decide) rfl rfl rfl rfl (Nat.le_of_ble_eq_true rfl) hf dX10_clock_30 (fun σ_5 H locs O hf => ?_)
      refine lv_iconst (v := 1) hx hb dX10_clock_33 (by decide) ?_
      exact hE _ _ _ _ _ _ rfl O hf dX10_clock_34
    · have hf := hf.2 c_3
      refine lv_iconst (v := 0) hx hb dX10_clock_15 (by decide) ?_
      exact hE _ _ _ _ _ _ rfl O hf dX10_clock_16
theorem c_X10_clock (l : Launch) (x1 : Int32) : MetI l yX10_clock cX10_clock 2 .boolean 1 22 LC 0 (fun q => [.int x1]) (w_X10_clock x1) := mk_I (own := RX10) (by decide) rfl (fun q => Nat.le_of_ble_eq_true rfl) (fun C hE O hl hf => b_X10_clock C hE x1 _ _ _ _ O hl hf)
end
section
variable {p : Program} {l : Launch} {e : Env} {R : Room} {s : State} {m : MethodId} {args : Array Value} {below : List Frame} {meth : Method} {c : Code} {E : State → Prop}
variable {D : va_G} {cs : Nat → ClassId} {q : Nat → Nat}
variable {Q : Int32 → St → Prop}
def w_X10_plan (σ : St) (Q : Int32 → St → Prop) : Prop := w_X5_settle 0 σ (fun r_2 σ_1 => w_X3_breakLost σ_1 (fun σ_3 => w_X6_flown σ_3 (fun r_5 σ_4 => Q r_5 σ_4)))
set_option maxHeartbeats 4000000 in
set_option maxRecDepth 100000 in
theorem b_X10_plan (C : CX p R s m args meth c cX10_plan 1 RX10 6 146 D cs) (hE : RI p l e R s m args below meth c cX10_plan D cs LC q .int Q E) : ∀ (σ : St) (H : Heap) (locs : List Loc) (ls : Array Slot), OK D cs LC q s σ H locs → lv_has ls 1 [(0, .ref (q 0))] → w_X10_plan  σ Q → W p l e R s m args below meth c H locs 0 0 E (F0 m 0 ls []) := by
  have hx := C.1
  have hb := C.2.1
  intro  σ H locs ls O hl hf
  unfold w_X10_plan at hf
  refine lv_aload_n hx hb dX10_plan_0 rfl (lv_at hl 0 rfl) ?_
  refine r_get C O (k := 0) (j := 7) (v := .ref (q 9)) fX10_70 rfl rfl rfl dX10_plan_1 ?_
  refine lv_iconst (v := 0) hx hb dX10_plan_4 (by decide) ?_
  refine r_callI C O hl (c_X5_settle l 0) mX10_165 (by decide) rfl rfl rfl rfl (Nat.le_of_ble_eq_true rfl) hf dX10_plan_5 (fun r_2 σ_1 H locs O hf => ?_)
  refine lv_pop hx hb dX10_plan_8 rfl ?_
  refine lv_aload_n hx hb dX10_plan_9 rfl (lv_at hl 0 rfl) ?_
  refine r_get C O (k := 0) (j := 8) (v := .ref (q 10)) fX10_77 rfl rfl rfl dX10_plan_10 ?_
  refine lv_aload_n hx hb dX10_plan_13 rfl (lv_at hl 0 rfl) ?_
  refine r_get C O (k := 0) (j := 6) (v := .ref (q 7)) fX10_56 rfl rfl rfl dX10_plan_14 ?_
  refine r_callV C O hl (c_X3_breakLost l) mX10_155 (by decide) rfl rfl rfl rfl (Nat.le_of_ble_eq_true rfl) hf dX10_plan_17 (fun σ_3 H locs O hf => ?_)
  refine lv_aload_n hx hb dX10_plan_20 rfl (lv_at hl 0 rfl) ?_
  refine r_get C O (k := 0) (j := 6) (v := .ref (q 7)) fX10_56 rfl rfl rfl dX10_plan_21 ?_
  refine r_callI C O hl (c_X6_flown l) mX10_169 (by decide) rfl rfl rfl rfl (Nat.le_of_ble_eq_true rfl) hf dX10_plan_24 (fun r_5 σ_4 H locs O hf => ?_)
  exact hE _ _ _ _ _ _ (vp_nar_int _) O hf dX10_plan_27
theorem c_X10_plan (l : Launch) : MetI l yX10_plan cX10_plan 1 .int 6 146 LC 0 (fun q => []) (w_X10_plan ) := mk_I (own := RX10) (by decide) rfl (fun q => Nat.le_of_ble_eq_true rfl) (fun C hE O hl hf => b_X10_plan C hE _ _ _ _ O hl hf)
end
section
variable {p : Program} {l : Launch} {e : Env} {R : Room} {s : State} {m : MethodId} {args : Array Value} {below : List Frame} {meth : Method} {c : Code} {E : State → Prop}
variable {D : va_G} {cs : Nat → ClassId} {q : Nat → Nat}
variable {Q : Int32 → St → Prop}
def w_X10_replan (σ : St) (Q : Int32 → St → Prop) : Prop := w_X5_settle 1 σ (fun r_2 σ_1 => w_X3_breakLost σ_1 (fun σ_3 => Q r_2 σ_3))
set_option maxHeartbeats 4000000 in
set_option maxRecDepth 100000 in
theorem b_X10_replan (C : CX p R s m args meth c cX10_replan 2 RX10 6 146 D cs) (hE : RI p l e R s m args below meth c cX10_replan D cs LC q .int Q E) : ∀ (σ : St) (H : Heap) (locs : List Loc) (ls : Array Slot), OK D cs LC q s σ H locs → lv_has ls 2 [(0, .ref (q 0))] → w_X10_replan  σ Q → W p l e R s m args below meth c H locs 0 0 E (F0 m 0 ls []) := by
  have hx := C.1
  have hb := C.2.1
  intro  σ H locs ls O hl hf
  unfold w_X10_replan at hf
  refine lv_aload_n hx hb dX10_replan_0 rfl (lv_at hl 0 rfl) ?_
  refine r_get C O (k := 0) (j := 7) (v := .ref (q 9)) fX10_70 rfl rfl rfl dX10_replan_1 ?_
  refine lv_iconst (v := 1) hx hb dX10_replan_4 (by decide) ?_
  refine r_callI C O hl (c_X5_settle l 1) mX10_165 (by decide) rfl rfl rfl rfl (Nat.le_of_ble_eq_true rfl) hf dX10_replan_5 (fun r_2 σ_1 H locs O hf => ?_)
  refine lv_istore_n (lv' := [(1, .int r_2), (0, .ref (q 0))]) hx hb dX10_replan_8 rfl hl (by decide) rfl (fun ls hl => ?_)
  refine lv_aload_n hx hb dX10_replan_9 rfl (lv_at hl 1 rfl) ?_
  refine r_get C O (k := 0) (j := 8) (v := .ref (q 10)) fX10_77 rfl rfl rfl dX10_replan_10 ?_
  refine lv_aload_n hx hb dX10_replan_13 rfl (lv_at hl 1 rfl) ?_
  refine r_get C O (k := 0) (j := 6) (v := .ref (q 7)) fX10_56 rfl rfl rfl dX10_replan_14 ?_
  refine r_callV C O hl (c_X3_breakLost l) mX10_155 (by decide) rfl rfl rfl rfl (Nat.le_of_ble_eq_true rfl) hf dX10_replan_17 (fun σ_3 H locs O hf => ?_)
  refine lv_iload_n hx hb dX10_replan_20 rfl (lv_at hl 0 rfl) ?_
  exact hE _ _ _ _ _ _ (vp_nar_int _) O hf dX10_replan_21
theorem c_X10_replan (l : Launch) : MetI l yX10_replan cX10_replan 2 .int 6 146 LC 0 (fun q => []) (w_X10_replan ) := mk_I (own := RX10) (by decide) rfl (fun q => Nat.le_of_ble_eq_true rfl) (fun C hE O hl hf => b_X10_replan C hE _ _ _ _ O hl hf)
end
section
variable {p : Program} {l : Launch} {e : Env} {R : Room} {s : State} {m : MethodId} {args : Array Value} {below : List Frame} {meth : Method} {c : Code} {E : State → Prop}
variable {D : va_G} {cs : Nat → ClassId} {q : Nat → Nat}
variable {Q : Int32 → St → Prop}
def w_X10_fits (σ : St) (Q : Int32 → St → Prop) : Prop := w_X5_holds σ (fun r_2 σ_1 => (r_2 = 0 → (Q 0 σ_1)) ∧ (¬ r_2 = 0 → (Q 1 σ_1)))
set_option maxHeartbeats 4000000 in
set_option maxRecDepth 100000 in
theorem b_X10_fits (C : CX p R s m args meth c cX10_fits 1 RX10 4 95 D cs) (hE : RI p l e R s m args below meth c cX10_fits D cs LC q .int Q E) : ∀ (σ : St) (H : Heap) (locs : List Loc) (ls : Array Slot), OK D cs LC q s σ H locs → lv_has ls 1 [(0, .ref (q 0))] → w_X10_fits  σ Q → W p l e R s m args below meth c H locs 0 0 E (F0 m 0 ls []) := by
  have hx := C.1
  have hb := C.2.1
  intro  σ H locs ls O hl hf
  unfold w_X10_fits at hf
  refine lv_aload_n hx hb dX10_fits_0 rfl (lv_at hl 0 rfl) ?_
  refine r_get C O (k := 0) (j := 7) (v := .ref (q 9)) fX10_70 rfl rfl rfl dX10_fits_1 ?_
  refine r_callI C O hl (c_X5_holds l) mX10_172 (by decide) rfl rfl rfl rfl (Nat.le_of_ble_eq_true rfl) hf dX10_fits_4 (fun r_2 σ_1 H locs O hf => ?_)
  refine lv_if_eq (tgt := 14) hx hb dX10_fits_7 (by decide) (fun c_3 => ?_) (fun c_3 => ?_)
  · have hf := hf.1 c_3
    refine lv_iconst (v := 0) hx hb dX10_fits_14 (by decide) ?_
    exact hE _ _ _ _ _ _ (vp_nar_int _) O hf dX10_fits_15
  · have hf := hf.2 c_3
    refine lv_iconst (v := 1) hx hb dX10_fits_10 (by decide) ?_
    refine lv_goto (tgt := 15) hx hb dX10_fits_11 (by decide) ?_
    exact hE _ _ _ _ _ _ (vp_nar_int _) O hf dX10_fits_15
theorem c_X10_fits (l : Launch) : MetI l yX10_fits cX10_fits 1 .int 4 95 LC 0 (fun q => []) (w_X10_fits ) := mk_I (own := RX10) (by decide) rfl (fun q => Nat.le_of_ble_eq_true rfl) (fun C hE O hl hf => b_X10_fits C hE _ _ _ _ O hl hf)
end
section
variable {p : Program} {l : Launch} {e : Env} {R : Room} {s : State} {m : MethodId} {args : Array Value} {below : List Frame} {meth : Method} {c : Code} {E : State → Prop}
variable {D : va_G} {cs : Nat → ClassId} {q : Nat → Nat}
variable {Q : Int32 → St → Prop}
def w_X10_on (x1 : Int32) (σ : St) (Q : Int32 → St → Prop) : Prop := w_X6_planeOf x1 σ (fun r_2 σ_1 => Q r_2 σ_1)
set_option maxHeartbeats 4000000 in
set_option maxRecDepth 100000 in
theorem b_X10_on (C : CX p R s m args meth c cX10_on 2 RX10 2 42 D cs) (hE : RI p l e R s m args below meth c cX10_on D cs LC q .int Q E) : ∀ (x1 : Int32) (σ : St) (H : Heap) (locs : List Loc) (ls : Array Slot), OK D cs LC q s σ H locs → lv_has ls 2 [(0, .ref (q 0)), (1, .int x1)] → w_X10_on x1 σ Q → W p l e R s m args below meth c H locs 0 0 E (F0 m 0 ls []) := by
  have hx := C.1
  have hb := C.2.1
  intro x1 σ H locs ls O hl hf
  unfold w_X10_on at hf
  refine lv_aload_n hx hb dX10_on_0 rfl (lv_at hl 0 rfl) ?_
  refine r_get C O (k := 0) (j := 6) (v := .ref (q 7)) fX10_56 rfl rfl rfl dX10_on_1 ?_
  refine lv_iload_n hx hb dX10_on_4 rfl (lv_at hl 1 rfl) ?_
  refine r_callI C O hl (c_X6_planeOf l x1) mX10_175 (by decide) rfl rfl rfl rfl (Nat.le_of_ble_eq_true rfl) hf dX10_on_5 (fun r_2 σ_1 H locs O hf => ?_)
  exact hE _ _ _ _ _ _ (vp_nar_int _) O hf dX10_on_8
theorem c_X10_on (l : Launch) (x1 : Int32) : MetI l yX10_on cX10_on 2 .int 2 42 LC 0 (fun q => [.int x1]) (w_X10_on x1) := mk_I (own := RX10) (by decide) rfl (fun q => Nat.le_of_ble_eq_true rfl) (fun C hE O hl hf => b_X10_on C hE x1 _ _ _ _ O hl hf)
end
section
variable {p : Program} {l : Launch} {e : Env} {R : Room} {s : State} {m : MethodId} {args : Array Value} {below : List Frame} {meth : Method} {c : Code} {E : State → Prop}
variable {D : va_G} {cs : Nat → ClassId} {q : Nat → Nat}
variable {Q : Int32 → St → Prop}
def w_X10_flownMove (x1 : Int32) (x2 : Int32) (σ : St) (Q : Int32 → St → Prop) : Prop := (x2 = 0 → (Q x1 σ)) ∧ (x2 = 1 → (w_X1_fromOf x1 σ (fun r_4 σ_3 => Q r_4 σ_3))) ∧ (x2 = 2 → (w_X1_toOf x1 σ (fun r_7 σ_6 => Q r_7 σ_6))) ∧ (x2 = 3 → (w_X1_startOf x1 σ (fun r_10 σ_9 => Q r_10 σ_9))) ∧ (x2 = 4 → (w_X1_startOf x1 σ (fun r_13 σ_12 => w_X6_minutesOf x1 σ_12 (fun r_15 σ_14 => Q (r_13 + r_15) σ_14)))) ∧ ((¬ x2 = 0 ∧ ¬ x2 = 1 ∧ ¬ x2 = 2 ∧ ¬ x2 = 3 ∧ ¬ x2 = 4) → (Q ((-1)) σ))
set_option maxHeartbeats 4000000 in
set_option maxRecDepth 100000 in
theorem b_X10_flownMove (C : CX p R s m args meth c cX10_flownMove 3 RX10 3 63 D cs) (hE : RI p l e R s m args below meth c cX10_flownMove D cs LC q .int Q E) : ∀ (x1 : Int32) (x2 : Int32) (σ : St) (H : Heap) (locs : List Loc) (ls : Array Slot), OK D cs LC q s σ H locs → lv_has ls 3 [(0, .ref (q 0)), (1, .int x1), (2, .int x2)] → w_X10_flownMove x1 x2 σ Q → W p l e R s m args below meth c H locs 0 0 E (F0 m 0 ls []) := by
  have hx := C.1
  have hb := C.2.1
  intro x1 x2 σ H locs ls O hl hf
  unfold w_X10_flownMove at hf
  refine lv_iload_n hx hb dX10_flownMove_0 rfl (lv_at hl 2 rfl) ?_
  by_cases c_1 : x2 = 0
  · have hf := hf.1 c_1
    refine lv_tableIn (tgt := 36) hx hb dX10_flownMove_1 (by rw [c_1]; decide) (by rw [c_1]; decide) (by rw [c_1]; rfl) (by decide) ?_
    refine lv_iload_n hx hb dX10_flownMove_36 rfl (lv_at hl 1 rfl) ?_
    exact hE _ _ _ _ _ _ (vp_nar_int _) O hf dX10_flownMove_37
  by_cases c_2 : x2 = 1
  · have hf := hf.2.1 c_2
    refine lv_tableIn (tgt := 38) hx hb dX10_flownMove_1 (by rw [c_2]; decide) (by rw [c_2]; decide) (by rw [c_2]; rfl) (by decide) ?_
    refine lv_aload_n hx hb dX10_flownMove_38 rfl (lv_at hl 0 rfl) ?_
    refine r_get C O (k := 0) (j := 4) (v := .ref (q 5)) fX10_40 rfl rfl rfl dX10_flownMove_39 ?_
    refine lv_iload_n hx hb dX10_flownMove_42 rfl (lv_at hl 1 rfl) ?_
    refine r_callI C O hl (c_X1_fromOf l x1) mX10_245 (by decide) rfl rfl rfl rfl (Nat.le_of_ble_eq_true rfl) hf dX10_flownMove_43 (fun r_4 σ_3 H locs O hf => ?_)
    exact hE _ _ _ _ _ _ (vp_nar_int _) O hf dX10_flownMove_46
  by_cases c_5 : x2 = 2
  · have hf := hf.2.2.1 c_5
    refine lv_tableIn (tgt := 47) hx hb dX10_flownMove_1 (by rw [c_5]; decide) (by rw [c_5]; decide) (by rw [c_5]; rfl) (by decide) ?_
    refine lv_aload_n hx hb dX10_flownMove_47 rfl (lv_at hl 0 rfl) ?_
    refine r_get C O (k := 0) (j := 4) (v := .ref (q 5)) fX10_40 rfl rfl rfl dX10_flownMove_48 ?_
    refine lv_iload_n hx hb dX10_flownMove_51 rfl (lv_at hl 1 rfl) ?_
    refine r_callI C O hl (c_X1_toOf l x1) mX10_248 (by decide) rfl rfl rfl rfl (Nat.le_of_ble_eq_true rfl) hf dX10_flownMove_52 (fun r_7 σ_6 H locs O hf => ?_)
    exact hE _ _ _ _ _ _ (vp_nar_int _) O hf dX10_flownMove_55
  by_cases c_8 : x2 = 3
  · have hf := hf.2.2.2.1 c_8
    refine lv_tableIn (tgt := 56) hx hb dX10_flownMove_1 (by rw [c_8]; decide) (by rw [c_8]; decide) (by rw [c_8]; rfl) (by decide) ?_
    refine lv_aload_n hx hb dX10_flownMove_56 rfl (lv_at hl 0 rfl) ?_
    refine r_get C O (k := 0) (j := 4) (v := .ref (q 5)) fX10_40 rfl rfl rfl dX10_flownMove_57 ?_
    refine lv_iload_n hx hb dX10_flownMove_60 rfl (lv_at hl 1 rfl) ?_
    refine r_callI C O hl (c_X1_startOf l x1) mX10_251 (by decide) rfl rfl rfl rfl (Nat.le_of_ble_eq_true rfl) hf dX10_flownMove_61 (fun r_10 σ_9 H locs O hf => ?_)
    exact hE _ _ _ _ _ _ (vp_nar_int _) O hf dX10_flownMove_64
  by_cases c_11 : x2 = 4
  · have hf := hf.2.2.2.2.1 c_11
    refine lv_tableIn (tgt := 65) hx hb dX10_flownMove_1 (by rw [c_11]; decide) (by rw [c_11]; decide) (by rw [c_11]; rfl) (by decide) ?_
    refine lv_aload_n hx hb dX10_flownMove_65 rfl (lv_at hl 0 rfl) ?_
    refine r_get C O (k := 0) (j := 4) (v := .ref (q 5)) fX10_40 rfl rfl rfl dX10_flownMove_66 ?_
    refine lv_iload_n hx hb dX10_flownMove_69 rfl (lv_at hl 1 rfl) ?_
    refine r_callI C O hl (c_X1_startOf l x1) mX10_251 (by decide) rfl rfl rfl rfl (Nat.le_of_ble_eq_true rfl) hf dX10_flownMove_70 (fun r_13 σ_12 H locs O hf => ?_)
    refine lv_aload_n hx hb dX10_flownMove_73 rfl (lv_at hl 0 rfl) ?_
    refine r_get C O (k := 0) (j := 6) (v := .ref (q 7)) fX10_56 rfl rfl rfl dX10_flownMove_74 ?_
    refine lv_iload_n hx hb dX10_flownMove_77 rfl (lv_at hl 1 rfl) ?_
    refine r_callI C O hl (c_X6_minutesOf l x1) mX10_221 (by decide) rfl rfl rfl rfl (Nat.le_of_ble_eq_true rfl) hf dX10_flownMove_78 (fun r_15 σ_14 H locs O hf => ?_)
    refine lv_iadd hx hb dX10_flownMove_81 ?_
    exact hE _ _ _ _ _ _ (vp_nar_int _) O hf dX10_flownMove_82
  have hf := hf.2.2.2.2.2 ⟨c_1, c_2, c_5, c_8, c_11⟩
  refine lv_tableOut (tgt := 83) hx hb dX10_flownMove_1 (sw_out 4 (by decide) (fun k hk => by rcases (show k = 0 ∨ k = 1 ∨ k = 2 ∨ k = 3 ∨ k = 4 by omega) with rfl | rfl | rfl | rfl | rfl <;> assumption)) (by decide) ?_
  refine lv_iconst (v := (-1)) hx hb dX10_flownMove_83 (by decide) ?_
  exact hE _ _ _ _ _ _ (vp_nar_int _) O hf dX10_flownMove_84
theorem c_X10_flownMove (l : Launch) (x1 : Int32) (x2 : Int32) : MetI l yX10_flownMove cX10_flownMove 3 .int 3 63 LC 0 (fun q => [.int x1, .int x2]) (w_X10_flownMove x1 x2) := mk_I (own := RX10) (by decide) rfl (fun q => Nat.le_of_ble_eq_true rfl) (fun C hE O hl hf => b_X10_flownMove C hE x1 x2 _ _ _ _ O hl hf)
end
section
variable {p : Program} {l : Launch} {e : Env} {R : Room} {s : State} {m : MethodId} {args : Array Value} {below : List Frame} {meth : Method} {c : Code} {E : State → Prop}
variable {D : va_G} {cs : Nat → ClassId} {q : Nat → Nat}
variable {Q : Int32 → St → Prop}
def w_X10_emptyMove_53 (Q : Int32 → St → Prop) (x1 : Int32) (x2 : Int32) (x3 : Int32) (σ : St) : Prop := w_X1_startOf x1 σ (fun r_2 σ_1 => w_X6_planeOf x1 σ_1 (fun r_4 σ_3 => w_X4_turnOf r_4 σ_3 (fun r_6 σ_5 => (¬ x2 = 4 → (Q ((r_2 - r_6) - x3) σ_5)) ∧ (x2 = 4 → (Q (r_2 - r_6) σ_5)))))
set_option maxHeartbeats 4000000 in
set_option maxRecDepth 100000 in
theorem b_X10_emptyMove_53 (C : CX p R s m args meth c cX10_emptyMove 5 RX10 5 109 D cs) (hE : RI p l e R s m args below meth c cX10_emptyMove D cs LC q .int Q E) : ∀ (x1 : Int32) (x2 : Int32) (x3 : Int32) (σ : St) (H : Heap) (locs : List Loc) (ls : Array Slot), OK D cs LC q s σ H locs → lv_has ls 5 [(0, .ref (q 0)), (1, .int x1), (2, .int x2), (3, .int x3)] → w_X10_emptyMove_53 Q x1 x2 x3 σ → W p l e R s m args below meth c H locs 0 0 E (F0 m 53 ls []) := by
  have hx := C.1
  have hb := C.2.1
  intro x1 x2 x3 σ H locs ls O hl hf
  unfold w_X10_emptyMove_53 at hf
  refine lv_aload_n hx hb dX10_emptyMove_53 rfl (lv_at hl 0 rfl) ?_
  refine r_get C O (k := 0) (j := 4) (v := .ref (q 5)) fX10_40 rfl rfl rfl dX10_emptyMove_54 ?_
  refine lv_iload_n hx hb dX10_emptyMove_57 rfl (lv_at hl 1 rfl) ?_
  refine r_callI C O hl (c_X1_startOf l x1) mX10_251 (by decide) rfl rfl rfl rfl (Nat.le_of_ble_eq_true rfl) hf dX10_emptyMove_58 (fun r_2 σ_1 H locs O hf => ?_)
  refine lv_aload_n hx hb dX10_emptyMove_61 rfl (lv_at hl 0 rfl) ?_
  refine r_get C O (k := 0) (j := 3) (v := .ref (q 4)) fX10_33 rfl rfl rfl dX10_emptyMove_62 ?_
  refine lv_aload_n hx hb dX10_emptyMove_65 rfl (lv_at hl 0 rfl) ?_
  refine r_get C O (k := 0) (j := 6) (v := .ref (q 7)) fX10_56 rfl rfl rfl dX10_emptyMove_66 ?_
  refine lv_iload_n hx hb dX10_emptyMove_69 rfl (lv_at hl 1 rfl) ?_
  refine r_callI C O hl (c_X6_planeOf l x1) mX10_175 (by decide) rfl rfl rfl rfl (Nat.le_of_ble_eq_true rfl) hf dX10_emptyMove_70 (fun r_4 σ_3 H locs O hf => ?_)
  refine r_callI C O hl (c_X4_turnOf l r_4) mX10_269 (by decide) rfl rfl rfl rfl (Nat.le_of_ble_eq_true rfl) hf dX10_emptyMove_73 (fun r_6 σ_5 H locs O hf => ?_)
  refine lv_isub hx hb dX10_emptyMove_76 ?_
  refine lv_istore (lv' := [(4, .int (r_2 - r_6)), (0, .ref (q 0)), (1, .int x1), (2, .int x2), (3, .int x3)]) hx hb dX10_emptyMove_77 hl (by decide) rfl (fun ls hl => ?_)
  refine lv_iload_n hx hb dX10_emptyMove_79 rfl (lv_at hl 3 rfl) ?_
  refine lv_iconst (v := 4) hx hb dX10_emptyMove_80 (by decide) ?_
  refine lv_icmp_ne (tgt := 89) hx hb dX10_emptyMove_81 (by decide) (fun c_7 => ?_) (fun c_7 => ?_)
  · have hf := hf.1 c_7
    refine lv_iload hx hb dX10_emptyMove_89 (lv_at hl 0 rfl) ?_
    refine lv_iload_n hx hb dX10_emptyMove_91 rfl (lv_at hl 4 rfl) ?_
    refine lv_isub hx hb dX10_emptyMove_92 ?_
    exact hE _ _ _ _ _ _ (vp_nar_int _) O hf dX10_emptyMove_93
  · have hf := hf.2 c_7
    refine lv_iload hx hb dX10_emptyMove_84 (lv_at hl 0 rfl) ?_
    refine lv_goto (tgt := 93) hx hb dX10_emptyMove_86 (by decide) ?_
    exact hE _ _ _ _ _ _ (vp_nar_int _) O hf dX10_emptyMove_93
def w_X10_emptyMove (x1 : Int32) (x2 : Int32) (σ : St) (Q : Int32 → St → Prop) : Prop := (¬ x2 = 1 → ((¬ x2 = 2 → (w_X6_legMinutes x1 σ (fun r_4 σ_3 => (r_4 = 0 → (Q ((-1)) σ_3)) ∧ (¬ r_4 = 0 → ((x2 = 3 → (w_X10_emptyMove_53 Q x1 x2 r_4 σ_3)) ∧ (¬ x2 = 3 → ((x2 = 4 → (w_X10_emptyMove_53 Q x1 x2 r_4 σ_3)) ∧ (¬ x2 = 4 → (Q ((-1)) σ_3))))))))) ∧ (x2 = 2 → (w_X1_fromOf x1 σ (fun r_9 σ_8 => Q r_9 σ_8))))) ∧ (x2 = 1 → (w_X6_placeAhead x1 σ (fun r_11 σ_10 => Q r_11 σ_10)))
set_option maxHeartbeats 4000000 in
set_option maxRecDepth 100000 in
theorem b_X10_emptyMove (C : CX p R s m args meth c cX10_emptyMove 5 RX10 5 109 D cs) (hE : RI p l e R s m args below meth c cX10_emptyMove D cs LC q .int Q E) : ∀ (x1 : Int32) (x2 : Int32) (σ : St) (H : Heap) (locs : List Loc) (ls : Array Slot), OK D cs LC q s σ H locs → lv_has ls 5 [(0, .ref (q 0)), (1, .int x1), (2, .int x2)] → w_X10_emptyMove x1 x2 σ Q → W p l e R s m args below meth c H locs 0 0 E (F0 m 0 ls []) := by
  have hx := C.1
  have hb := C.2.1
  intro x1 x2 σ H locs ls O hl hf
  unfold w_X10_emptyMove at hf
  refine lv_iload_n hx hb dX10_emptyMove_0 rfl (lv_at hl 2 rfl) ?_
  refine lv_iconst (v := 1) hx hb dX10_emptyMove_1 (by decide) ?_
  refine lv_icmp_ne (tgt := 14) hx hb dX10_emptyMove_2 (by decide) (fun c_1 => ?_) (fun c_1 => ?_)
  · have hf := hf.1 c_1
    refine lv_iload_n hx hb dX10_emptyMove_14 rfl (lv_at hl 2 rfl) ?_
    refine lv_iconst (v := 2) hx hb dX10_emptyMove_15 (by decide) ?_
    refine lv_icmp_ne (tgt := 28) hx hb dX10_emptyMove_16 (by decide) (fun c_2 => ?_) (fun c_2 => ?_)
    · have hf := hf.1 c_2
      refine lv_aload_n hx hb dX10_emptyMove_28 rfl (lv_at hl 0 rfl) ?_
      refine r_get C O (k := 0) (j := 6) (v := .ref (q 7)) fX10_56 rfl rfl rfl dX10_emptyMove_29 ?_
      refine lv_iload_n hx hb dX10_emptyMove_32 rfl (lv_at hl 1 rfl) ?_
      refine r_callI C O hl (c_X6_legMinutes l x1) mX10_227 (by decide) rfl rfl rfl rfl (Nat.le_of_ble_eq_true rfl) hf dX10_emptyMove_33 (fun r_4 σ_3 H locs O hf => ?_)
      refine lv_istore_n (lv' := [(3, .int r_4), (0, .ref (q 0)), (1, .int x1), (2, .int x2)]) hx hb dX10_emptyMove_36 rfl hl (by decide) rfl (fun ls hl => ?_)
      refine lv_iload_n hx hb dX10_emptyMove_37 rfl (lv_at hl 0 rfl) ?_
      refine lv_if_eq (tgt := 51) hx hb dX10_emptyMove_38 (by decide) (fun c_5 => ?_) (fun c_5 => ?_)
      · have hf := hf.1 c_5
        refine lv_iconst (v := (-1)) hx hb dX10_emptyMove_51 (by decide) ?_
        exact hE _ _ _ _ _ _ (vp_nar_int _) O hf dX10_emptyMove_52
      · have hf := hf.2 c_5
        refine lv_iload_n hx hb dX10_emptyMove_41 rfl (lv_at hl 3 rfl) ?_
        refine lv_iconst (v := 3) hx hb dX10_emptyMove_42 (by decide) ?_
        refine lv_icmp_eq (tgt := 53) hx hb dX10_emptyMove_43 (by decide) (fun c_6 => ?_) (fun c_6 => ?_)
        · have hf := hf.1 c_6
          exact b_X10_emptyMove_53 C hE x1 x2 r_4 σ_3 _ _ ls O (lv_sub hl [1, 2, 3, 0] rfl) hf
        · have hf := hf.2 c_6
          refine lv_iload_n hx hb dX10_emptyMove_46 rfl (lv_at hl 3 rfl) ?_
          refine lv_iconst (v := 4) hx hb dX10_emptyMove_47 (by decide) ?_
          refine lv_icmp_eq (tgt := 53) hx hb dX10_emptyMove_48 (by decide) (fun c_7 => ?_) (fun c_7 => ?_)
          · have hf := hf.1 c_7
            exact b_X10_emptyMove_53 C hE x1 x2 r_4 σ_3 _ _ ls O (lv_sub hl [1, 2, 3, 0] rfl) hf
          · have hf := hf.2 c_7
            refine lv_iconst (v := (-1)) hx hb dX10_emptyMove_51 (by decide) ?_
            exact hE _ _ _ _ _ _ (vp_nar_int _) O hf dX10_emptyMove_52
    · have hf := hf.2 c_2
      refine lv_aload_n hx hb dX10_emptyMove_19 rfl (lv_at hl 0 rfl) ?_
      refine r_get C O (k := 0) (j := 4) (v := .ref (q 5)) fX10_40 rfl rfl rfl dX10_emptyMove_20 ?_
      refine lv_iload_n hx hb dX10_emptyMove_23 rfl (lv_at hl 1 rfl) ?_
      refine r_callI C O hl (c_X1_fromOf l x1) mX10_245 (by decide) rfl rfl rfl rfl (Nat.le_of_ble_eq_true rfl) hf dX10_emptyMove_24 (fun r_9 σ_8 H locs O hf => ?_)
      exact hE _ _ _ _ _ _ (vp_nar_int _) O hf dX10_emptyMove_27
  · have hf := hf.2 c_1
    refine lv_aload_n hx hb dX10_emptyMove_5 rfl (lv_at hl 0 rfl) ?_
    refine r_get C O (k := 0) (j := 6) (v := .ref (q 7)) fX10_56 rfl rfl rfl dX10_emptyMove_6 ?_
    refine lv_iload_n hx hb dX10_emptyMove_9 rfl (lv_at hl 1 rfl) ?_
    refine r_callI C O hl (c_X6_placeAhead l x1) mX10_194 (by decide) rfl rfl rfl rfl (Nat.le_of_ble_eq_true rfl) hf dX10_emptyMove_10 (fun r_11 σ_10 H locs O hf => ?_)
    exact hE _ _ _ _ _ _ (vp_nar_int _) O hf dX10_emptyMove_13
theorem c_X10_emptyMove (l : Launch) (x1 : Int32) (x2 : Int32) : MetI l yX10_emptyMove cX10_emptyMove 5 .int 5 109 LC 0 (fun q => [.int x1, .int x2]) (w_X10_emptyMove x1 x2) := mk_I (own := RX10) (by decide) rfl (fun q => Nat.le_of_ble_eq_true rfl) (fun C hE O hl hf => b_X10_emptyMove C hE x1 x2 _ _ _ _ O hl hf)
end
section
variable {p : Program} {l : Launch} {e : Env} {R : Room} {s : State} {m : MethodId} {args : Array Value} {below : List Frame} {meth : Method} {c : Code} {E : State → Prop}
variable {D : va_G} {cs : Nat → ClassId} {q : Nat → Nat}
variable {Q : Int32 → St → Prop}
def w_X10_move (x1 : Int32) (x2 : Int32) (x3 : Int32) (σ : St) (Q : Int32 → St → Prop) : Prop := w_X6_flightAt x1 x2 σ (fun r_2 σ_1 => (r_2 = ((-1)) → (w_X6_legAt x1 x2 σ_1 (fun r_5 σ_4 => (¬ r_5 = ((-1)) → (w_X10_emptyMove r_5 x3 σ_4 (fun r_8 σ_7 => Q r_8 σ_7))) ∧ (r_5 = ((-1)) → (Q ((-1)) σ_4))))) ∧ (¬ r_2 = ((-1)) → (w_X10_flownMove r_2 x3 σ_1 (fun r_10 σ_9 => Q r_10 σ_9))))
set_option maxHeartbeats 4000000 in
set_option maxRecDepth 100000 in
theorem b_X10_move (C : CX p R s m args meth c cX10_move 6 RX10 6 136 D cs) (hE : RI p l e R s m args below meth c cX10_move D cs LC q .int Q E) : ∀ (x1 : Int32) (x2 : Int32) (x3 : Int32) (σ : St) (H : Heap) (locs : List Loc) (ls : Array Slot), OK D cs LC q s σ H locs → lv_has ls 6 [(0, .ref (q 0)), (1, .int x1), (2, .int x2), (3, .int x3)] → w_X10_move x1 x2 x3 σ Q → W p l e R s m args below meth c H locs 0 0 E (F0 m 0 ls []) := by
  have hx := C.1
  have hb := C.2.1
  intro x1 x2 x3 σ H locs ls O hl hf
  unfold w_X10_move at hf
  refine lv_aload_n hx hb dX10_move_0 rfl (lv_at hl 0 rfl) ?_
  refine r_get C O (k := 0) (j := 6) (v := .ref (q 7)) fX10_56 rfl rfl rfl dX10_move_1 ?_
  refine lv_iload_n hx hb dX10_move_4 rfl (lv_at hl 1 rfl) ?_
  refine lv_iload_n hx hb dX10_move_5 rfl (lv_at hl 2 rfl) ?_
  refine r_callI C O hl (c_X6_flightAt l x1 x2) mX10_178 (by decide) rfl rfl rfl rfl (Nat.le_of_ble_eq_true rfl) hf dX10_move_6 (fun r_2 σ_1 H locs O hf => ?_)
  refine lv_istore (lv' := [(4, .int r_2), (0, .ref (q 0)), (1, .int x1), (2, .int x2), (3, .int x3)]) hx hb dX10_move_9 hl (by decide) rfl (fun ls hl => ?_)
  refine lv_iload hx hb dX10_move_11 (lv_at hl 0 rfl) ?_
  refine lv_iconst (v := (-1)) hx hb dX10_move_13 (by decide) ?_
  refine lv_icmp_eq (tgt := 25) hx hb dX10_move_14 (by decide) (fun c_3 => ?_) (fun c_3 => ?_)
  · have hf := hf.1 c_3
    refine lv_aload_n hx hb dX10_move_25 rfl (lv_at hl 1 rfl) ?_
    refine r_get C O (k := 0) (j := 6) (v := .ref (q 7)) fX10_56 rfl rfl rfl dX10_move_26 ?_
    refine lv_iload_n hx hb dX10_move_29 rfl (lv_at hl 2 rfl) ?_
    refine lv_iload_n hx hb dX10_move_30 rfl (lv_at hl 3 rfl) ?_
    refine r_callI C O hl (c_X6_legAt l x1 x2) mX10_184 (by decide) rfl rfl rfl rfl (Nat.le_of_ble_eq_true rfl) hf dX10_move_31 (fun r_5 σ_4 H locs O hf => ?_)
    refine lv_istore (lv' := [(5, .int r_5), (4, .int r_2), (0, .ref (q 0)), (1, .int x1), (2, .int x2), (3, .int x3)]) hx hb dX10_move_34 hl (by decide) rfl (fun ls hl => ?_)
    refine lv_iload hx hb dX10_move_36 (lv_at hl 0 rfl) ?_
    refine lv_iconst (v := (-1)) hx hb dX10_move_38 (by decide) ?_
    refine lv_icmp_ne (tgt := 46) hx hb dX10_move_39 (by decide) (fun c_6 => ?_) (fun c_6 => ?_)
    · have hf := hf.1 c_6
      refine lv_aload_n hx hb dX10_move_46 rfl (lv_at hl 2 rfl) ?_
      refine lv_iload hx hb dX10_move_47 (lv_at hl 0 rfl) ?_
      refine lv_iload_n hx hb dX10_move_49 rfl (lv_at hl 5 rfl) ?_
      refine r_callI C O hl (c_X10_emptyMove l r_5 x3) mX10_187 (by decide) rfl rfl rfl rfl (Nat.le_of_ble_eq_true rfl) hf dX10_move_50 (fun r_8 σ_7 H locs O hf => ?_)
      exact hE _ _ _ _ _ _ (vp_nar_int _) O hf dX10_move_53
    · have hf := hf.2 c_6
      refine lv_iconst (v := (-1)) hx hb dX10_move_42 (by decide) ?_
      refine lv_goto (tgt := 53) hx hb dX10_move_43 (by decide) ?_
      exact hE _ _ _ _ _ _ (vp_nar_int _) O hf dX10_move_53
  · have hf := hf.2 c_3
    refine lv_aload_n hx hb dX10_move_17 rfl (lv_at hl 1 rfl) ?_
    refine lv_iload hx hb dX10_move_18 (lv_at hl 0 rfl) ?_
    refine lv_iload_n hx hb dX10_move_20 rfl (lv_at hl 4 rfl) ?_
    refine r_callI C O hl (c_X10_flownMove l r_2 x3) mX10_181 (by decide) rfl rfl rfl rfl (Nat.le_of_ble_eq_true rfl) hf dX10_move_21 (fun r_10 σ_9 H locs O hf => ?_)
    exact hE _ _ _ _ _ _ (vp_nar_int _) O hf dX10_move_24
theorem c_X10_move (l : Launch) (x1 : Int32) (x2 : Int32) (x3 : Int32) : MetI l yX10_move cX10_move 6 .int 6 136 LC 0 (fun q => [.int x1, .int x2, .int x3]) (w_X10_move x1 x2 x3) := mk_I (own := RX10) (by decide) rfl (fun q => Nat.le_of_ble_eq_true rfl) (fun C hE O hl hf => b_X10_move C hE x1 x2 x3 _ _ _ _ O hl hf)
end
section
variable {p : Program} {l : Launch} {e : Env} {R : Room} {s : State} {m : MethodId} {args : Array Value} {below : List Frame} {meth : Method} {c : Code} {E : State → Prop}
variable {D : va_G} {cs : Nat → ClassId} {q : Nat → Nat}
variable {Q : Int32 → St → Prop}
def w_X10_offer (x1 : Int32) (x2 : Int32) (x3 : Int32) (x4 : Int32) (σ : St) (Q : Int32 → St → Prop) : Prop := w_X6_legAt x1 x2 σ (fun r_2 σ_1 => (r_2 = ((-1)) → (Q ((-1)) σ_1)) ∧ (¬ r_2 = ((-1)) → (w_X10_isWithin x3 0 1000000 (fun r_4 => (¬ r_4 = 0 → (w_X10_isMinute x4 (fun r_6 => (r_6 = 0 → (Q ((-1)) σ_1)) ∧ (¬ r_6 = 0 → ((x4 < (σ_1.1 0 9) → (Q ((-1)) σ_1)) ∧ (¬ x4 < (σ_1.1 0 9) → (w_X3_isHeld r_2 σ_1 (fun r_10 σ_9 => (r_10 = 0 → (w_X6_placeAhead r_2 σ_9 (fun r_13 σ_12 => w_X3_add r_13 x1 r_2 x3 x4 σ_12 (fun r_15 σ_14 => Q r_15 σ_14)))) ∧ (¬ r_10 = 0 → (Q ((-1)) σ_9)))))))))) ∧ (r_4 = 0 → (Q ((-1)) σ_1))))))
set_option maxHeartbeats 4000000 in
set_option maxRecDepth 100000 in
theorem b_X10_offer (C : CX p R s m args meth c cX10_offer 6 RX10 6 136 D cs) (hE : RI p l e R s m args below meth c cX10_offer D cs LC q .int Q E) : ∀ (x1 : Int32) (x2 : Int32) (x3 : Int32) (x4 : Int32) (σ : St) (H : Heap) (locs : List Loc) (ls : Array Slot), OK D cs LC q s σ H locs → lv_has ls 6 [(0, .ref (q 0)), (1, .int x1), (2, .int x2), (3, .int x3), (4, .int x4)] → w_X10_offer x1 x2 x3 x4 σ Q → W p l e R s m args below meth c H locs 0 0 E (F0 m 0 ls []) := by
  have hx := C.1
  have hb := C.2.1
  intro x1 x2 x3 x4 σ H locs ls O hl hf
  unfold w_X10_offer at hf
  refine lv_aload_n hx hb dX10_offer_0 rfl (lv_at hl 0 rfl) ?_
  refine r_get C O (k := 0) (j := 6) (v := .ref (q 7)) fX10_56 rfl rfl rfl dX10_offer_1 ?_
  refine lv_iload_n hx hb dX10_offer_4 rfl (lv_at hl 1 rfl) ?_
  refine lv_iload_n hx hb dX10_offer_5 rfl (lv_at hl 2 rfl) ?_
  refine r_callI C O hl (c_X6_legAt l x1 x2) mX10_184 (by decide) rfl rfl rfl rfl (Nat.le_of_ble_eq_true rfl) hf dX10_offer_6 (fun r_2 σ_1 H locs O hf => ?_)
  refine lv_istore (lv' := [(5, .int r_2), (0, .ref (q 0)), (1, .int x1), (2, .int x2), (3, .int x3), (4, .int x4)]) hx hb dX10_offer_9 hl (by decide) rfl (fun ls hl => ?_)
  refine lv_iload hx hb dX10_offer_11 (lv_at hl 0 rfl) ?_
  refine lv_iconst (v := (-1)) hx hb dX10_offer_13 (by decide) ?_
  refine lv_icmp_eq (tgt := 27) hx hb dX10_offer_14 (by decide) (fun c_3 => ?_) (fun c_3 => ?_)
  · have hf := hf.1 c_3
    refine lv_iconst (v := (-1)) hx hb dX10_offer_27 (by decide) ?_
    exact hE _ _ _ _ _ _ (vp_nar_int _) O hf dX10_offer_28
  · have hf := hf.2 c_3
    refine lv_iload_n hx hb dX10_offer_17 rfl (lv_at hl 4 rfl) ?_
    refine lv_iconst (v := 0) hx hb dX10_offer_18 (by decide) ?_
    refine lv_ldc (v := 1000000) hx hb C.2.2.2.1 (C.2.2.2.2.1 _ kX10_190) dX10_offer_19 ?_
    refine r_callS C hl (c_X10_isWithin l x3 0 1000000) mX10_125 (by decide) rfl rfl (Nat.le_of_ble_eq_true rfl) hf dX10_offer_21 (fun r_4 hf => ?_)
    refine lv_if_ne (tgt := 29) hx hb dX10_offer_24 (by decide) (fun c_5 => ?_) (fun c_5 => ?_)
    · have hf := hf.1 c_5
      refine lv_iload hx hb dX10_offer_29 (lv_at hl 5 rfl) ?_
      refine r_callS C hl (c_X10_isMinute l x4) mX10_141 (by decide) rfl rfl (Nat.le_of_ble_eq_true rfl) hf dX10_offer_31 (fun r_6 hf => ?_)
      refine lv_if_eq (tgt := 58) hx hb dX10_offer_34 (by decide) (fun c_7 => ?_) (fun c_7 => ?_)
      · have hf := hf.1 c_7
        refine lv_iconst (v := (-1)) hx hb dX10_offer_58 (by decide) ?_
        exact hE _ _ _ _ _ _ (vp_nar_int _) O hf dX10_offer_59
      · have hf := hf.2 c_7
        refine lv_iload hx hb dX10_offer_37 (lv_at hl 5 rfl) ?_
        refine lv_aload_n hx hb dX10_offer_39 rfl (lv_at hl 1 rfl) ?_
        refine r_get C O (k := 0) (j := 9) (v := .int (σ_1.1 0 9)) fX10_81 rfl rfl rfl dX10_offer_40 ?_
        refine lv_icmp_lt (tgt := 58) hx hb dX10_offer_43 (by decide) (fun c_8 => ?_) (fun c_8 => ?_)
        · have hf := hf.1 c_8
          refine lv_iconst (v := (-1)) hx hb dX10_offer_58 (by decide) ?_
          exact hE _ _ _ _ _ _ (vp_nar_int _) O hf dX10_offer_59
        · have hf := hf.2 c_8
          refine lv_aload_n hx hb dX10_offer_46 rfl (lv_at hl 1 rfl) ?_
          refine r_get C O (k := 0) (j := 8) (v := .ref (q 10)) fX10_77 rfl rfl rfl dX10_offer_47 ?_
          refine lv_iload hx hb dX10_offer_50 (lv_at hl 0 rfl) ?_
          refine r_callI C O hl (c_X3_isHeld l r_2) mX10_191 (by decide) rfl rfl rfl rfl (Nat.le_of_ble_eq_true rfl) hf dX10_offer_52 (fun r_10 σ_9 H locs O hf => ?_)
          refine lv_if_eq (tgt := 60) hx hb dX10_offer_55 (by decide) (fun c_11 => ?_) (fun c_11 => ?_)
          · have hf := hf.1 c_11
            refine lv_aload_n hx hb dX10_offer_60 rfl (lv_at hl 1 rfl) ?_
            refine r_get C O (k := 0) (j := 8) (v := .ref (q 10)) fX10_77 rfl rfl rfl dX10_offer_61 ?_
            refine lv_aload_n hx hb dX10_offer_64 rfl (lv_at hl 1 rfl) ?_
            refine r_get C O (k := 0) (j := 6) (v := .ref (q 7)) fX10_56 rfl rfl rfl dX10_offer_65 ?_
            refine lv_iload hx hb dX10_offer_68 (lv_at hl 0 rfl) ?_
            refine r_callI C O hl (c_X6_placeAhead l r_2) mX10_194 (by decide) rfl rfl rfl rfl (Nat.le_of_ble_eq_true rfl) hf dX10_offer_70 (fun r_13 σ_12 H locs O hf => ?_)
            refine lv_iload_n hx hb dX10_offer_73 rfl (lv_at hl 2 rfl) ?_
            refine lv_iload hx hb dX10_offer_74 (lv_at hl 0 rfl) ?_
            refine lv_iload_n hx hb dX10_offer_76 rfl (lv_at hl 4 rfl) ?_
            refine lv_iload hx hb dX10_offer_77 (lv_at hl 5 rfl) ?_
            refine r_callI C O hl (c_X3_add l r_13 x1 r_2 x3 x4) mX10_197 (by decide) rfl rfl rfl rfl (Nat.le_of_ble_eq_true rfl) hf dX10_offer_79 (fun r_15 σ_14 H locs O hf => ?_)
            exact hE _ _ _ _ _ _ (vp_nar_int _) O hf dX10_offer_82
          · have hf := hf.2 c_11
            refine lv_iconst (v := (-1)) hx hb dX10_offer_58 (by decide) ?_
            exact hE _ _ _ _ _ _ (vp_nar_int _) O hf dX10_offer_59
    · have hf := hf.2 c_5
      refine lv_iconst (v := (-1)) hx hb dX10_offer_27 (by decide) ?_
      exact hE _ _ _ _ _ _ (vp_nar_int _) O hf dX10_offer_28
theorem c_X10_offer (l : Launch) (x1 : Int32) (x2 : Int32) (x3 : Int32) (x4 : Int32) : MetI l yX10_offer cX10_offer 6 .int 6 136 LC 0 (fun q => [.int x1, .int x2, .int x3, .int x4]) (w_X10_offer x1 x2 x3 x4) := mk_I (own := RX10) (by decide) rfl (fun q => Nat.le_of_ble_eq_true rfl) (fun C hE O hl hf => b_X10_offer C hE x1 x2 x3 x4 _ _ _ _ O hl hf)
end
section
variable {p : Program} {l : Launch} {e : Env} {R : Room} {s : State} {m : MethodId} {args : Array Value} {below : List Frame} {meth : Method} {c : Code} {E : State → Prop}
variable {D : va_G} {cs : Nat → ClassId} {q : Nat → Nat}
variable {Q : Int32 → St → Prop}
def w_X10_take (x1 : Int32) (x2 : Int32) (σ : St) (Q : Int32 → St → Prop) : Prop := w_X10_isWithin x2 0 99 (fun r_1 => (r_1 = 0 → (Q 0 σ)) ∧ (¬ r_1 = 0 → (w_X3_stateOf x1 σ (fun r_4 σ_3 => (r_4 = 0 → (w_X3_sell x1 x2 σ_3 (fun σ_6 => Q 1 σ_6))) ∧ (¬ r_4 = 0 → (Q 0 σ_3))))))
set_option maxHeartbeats 4000000 in
set_option maxRecDepth 100000 in
theorem b_X10_take (C : CX p R s m args meth c cX10_take 3 RX10 2 43 D cs) (hE : RI p l e R s m args below meth c cX10_take D cs LC q .boolean Q E) : ∀ (x1 : Int32) (x2 : Int32) (σ : St) (H : Heap) (locs : List Loc) (ls : Array Slot), OK D cs LC q s σ H locs → lv_has ls 3 [(0, .ref (q 0)), (1, .int x1), (2, .int x2)] → w_X10_take x1 x2 σ Q → W p l e R s m args below meth c H locs 0 0 E (F0 m 0 ls []) := by
  have hx := C.1
  have hb := C.2.1
  intro x1 x2 σ H locs ls O hl hf
  unfold w_X10_take at hf
  refine lv_iload_n hx hb dX10_take_0 rfl (lv_at hl 2 rfl) ?_
  refine lv_iconst (v := 0) hx hb dX10_take_1 (by decide) ?_
  refine lv_bipush (v := 99) hx hb dX10_take_2 (by decide) ?_
  refine r_callS C hl (c_X10_isWithin l x2 0 99) mX10_125 (by decide) rfl rfl (Nat.le_of_ble_eq_true rfl) hf dX10_take_4 (fun r_1 hf => ?_)
  refine lv_if_eq (tgt := 21) hx hb dX10_take_7 (by decide) (fun c_2 => ?_) (fun c_2 => ?_)
  · have hf := hf.1 c_2
    refine lv_iconst (v := 0) hx hb dX10_take_21 (by decide) ?_
    exact hE _ _ _ _ _ _ rfl O hf dX10_take_22
  · have hf := hf.2 c_2
    refine lv_aload_n hx hb dX10_take_10 rfl (lv_at hl 0 rfl) ?_
    refine r_get C O (k := 0) (j := 8) (v := .ref (q 10)) fX10_77 rfl rfl rfl dX10_take_11 ?_
    refine lv_iload_n hx hb dX10_take_14 rfl (lv_at hl 1 rfl) ?_
    refine r_callI C O hl (c_X3_stateOf l x1) mX10_200 (by decide) rfl rfl rfl rfl (Nat.le_of_ble_eq_true rfl) hf dX10_take_15 (fun r_4 σ_3 H locs O hf => ?_)
    refine lv_if_eq (tgt := 23) hx hb dX10_take_18 (by decide) (fun c_5 => ?_) (fun c_5 => ?_)
    · have hf := hf.1 c_5
      refine lv_aload_n hx hb dX10_take_23 rfl (lv_at hl 0 rfl) ?_
      refine r_get C O (k := 0) (j := 8) (v := .ref (q 10)) fX10_77 rfl rfl rfl dX10_take_24 ?_
      refine lv_iload_n hx hb dX10_take_27 rfl (lv_at hl 1 rfl) ?_
      refine lv_iload_n hx hb dX10_take_28 rfl (lv_at hl 2 rfl) ?_
      refine r_callV C O hl (c_X3_sell l x1 x2) mX10_203 (by decide) rfl rfl rfl rfl (Nat.le_of_ble_eq_true rfl) hf dX10_take_29 (fun σ_6 H locs O hf => ?_)
      refine lv_iconst (v := 1) hx hb dX10_take_32 (by decide) ?_
      exact hE _ _ _ _ _ _ rfl O hf dX10_take_33
    · have hf := hf.2 c_5
      refine lv_iconst (v := 0) hx hb dX10_take_21 (by decide) ?_
      exact hE _ _ _ _ _ _ rfl O hf dX10_take_22
theorem c_X10_take (l : Launch) (x1 : Int32) (x2 : Int32) : MetI l yX10_take cX10_take 3 .boolean 2 43 LC 0 (fun q => [.int x1, .int x2]) (w_X10_take x1 x2) := mk_I (own := RX10) (by decide) rfl (fun q => Nat.le_of_ble_eq_true rfl) (fun C hE O hl hf => b_X10_take C hE x1 x2 _ _ _ _ O hl hf)
end
section
variable {p : Program} {l : Launch} {e : Env} {R : Room} {s : State} {m : MethodId} {args : Array Value} {below : List Frame} {meth : Method} {c : Code} {E : State → Prop}
variable {D : va_G} {cs : Nat → ClassId} {q : Nat → Nat}
variable {Q : Int32 → St → Prop}
def w_X10_told (x1 : Int32) (x2 : Int32) (σ : St) (Q : Int32 → St → Prop) : Prop := (x2 = 0 → (w_X3_stateOf x1 σ (fun r_3 σ_2 => Q r_3 σ_2))) ∧ (x2 = 1 → (w_X3_priceOf x1 σ (fun r_6 σ_5 => Q r_6 σ_5))) ∧ (x2 = 2 → (w_X3_tillOf x1 σ (fun r_9 σ_8 => Q r_9 σ_8))) ∧ (x2 = 3 → (w_X3_clientOf x1 σ (fun r_12 σ_11 => Q r_12 σ_11))) ∧ (x2 = 4 → (w_X3_planeOf x1 σ (fun r_15 σ_14 => Q r_15 σ_14))) ∧ (x2 = 5 → (w_X3_flightOf x1 σ (fun r_18 σ_17 => Q r_18 σ_17))) ∧ ((¬ x2 = 0 ∧ ¬ x2 = 1 ∧ ¬ x2 = 2 ∧ ¬ x2 = 3 ∧ ¬ x2 = 4 ∧ ¬ x2 = 5) → (Q ((-1)) σ))
set_option maxHeartbeats 4000000 in
set_option maxRecDepth 100000 in
theorem b_X10_told (C : CX p R s m args meth c cX10_told 3 RX10 2 42 D cs) (hE : RI p l e R s m args below meth c cX10_told D cs LC q .int Q E) : ∀ (x1 : Int32) (x2 : Int32) (σ : St) (H : Heap) (locs : List Loc) (ls : Array Slot), OK D cs LC q s σ H locs → lv_has ls 3 [(0, .ref (q 0)), (1, .int x1), (2, .int x2)] → w_X10_told x1 x2 σ Q → W p l e R s m args below meth c H locs 0 0 E (F0 m 0 ls []) := by
  have hx := C.1
  have hb := C.2.1
  intro x1 x2 σ H locs ls O hl hf
  unfold w_X10_told at hf
  refine lv_iload_n hx hb dX10_told_0 rfl (lv_at hl 2 rfl) ?_
  by_cases c_1 : x2 = 0
  · have hf := hf.1 c_1
    refine lv_tableIn (tgt := 40) hx hb dX10_told_1 (by rw [c_1]; decide) (by rw [c_1]; decide) (by rw [c_1]; rfl) (by decide) ?_
    refine lv_aload_n hx hb dX10_told_40 rfl (lv_at hl 0 rfl) ?_
    refine r_get C O (k := 0) (j := 8) (v := .ref (q 10)) fX10_77 rfl rfl rfl dX10_told_41 ?_
    refine lv_iload_n hx hb dX10_told_44 rfl (lv_at hl 1 rfl) ?_
    refine r_callI C O hl (c_X3_stateOf l x1) mX10_200 (by decide) rfl rfl rfl rfl (Nat.le_of_ble_eq_true rfl) hf dX10_told_45 (fun r_3 σ_2 H locs O hf => ?_)
    exact hE _ _ _ _ _ _ (vp_nar_int _) O hf dX10_told_48
  by_cases c_4 : x2 = 1
  · have hf := hf.2.1 c_4
    refine lv_tableIn (tgt := 49) hx hb dX10_told_1 (by rw [c_4]; decide) (by rw [c_4]; decide) (by rw [c_4]; rfl) (by decide) ?_
    refine lv_aload_n hx hb dX10_told_49 rfl (lv_at hl 0 rfl) ?_
    refine r_get C O (k := 0) (j := 8) (v := .ref (q 10)) fX10_77 rfl rfl rfl dX10_told_50 ?_
    refine lv_iload_n hx hb dX10_told_53 rfl (lv_at hl 1 rfl) ?_
    refine r_callI C O hl (c_X3_priceOf l x1) mX10_206 (by decide) rfl rfl rfl rfl (Nat.le_of_ble_eq_true rfl) hf dX10_told_54 (fun r_6 σ_5 H locs O hf => ?_)
    exact hE _ _ _ _ _ _ (vp_nar_int _) O hf dX10_told_57
  by_cases c_7 : x2 = 2
  · have hf := hf.2.2.1 c_7
    refine lv_tableIn (tgt := 58) hx hb dX10_told_1 (by rw [c_7]; decide) (by rw [c_7]; decide) (by rw [c_7]; rfl) (by decide) ?_
    refine lv_aload_n hx hb dX10_told_58 rfl (lv_at hl 0 rfl) ?_
    refine r_get C O (k := 0) (j := 8) (v := .ref (q 10)) fX10_77 rfl rfl rfl dX10_told_59 ?_
    refine lv_iload_n hx hb dX10_told_62 rfl (lv_at hl 1 rfl) ?_
    refine r_callI C O hl (c_X3_tillOf l x1) mX10_209 (by decide) rfl rfl rfl rfl (Nat.le_of_ble_eq_true rfl) hf dX10_told_63 (fun r_9 σ_8 H locs O hf => ?_)
    exact hE _ _ _ _ _ _ (vp_nar_int _) O hf dX10_told_66
  by_cases c_10 : x2 = 3
  · have hf := hf.2.2.2.1 c_10
    refine lv_tableIn (tgt := 67) hx hb dX10_told_1 (by rw [c_10]; decide) (by rw [c_10]; decide) (by rw [c_10]; rfl) (by decide) ?_
    refine lv_aload_n hx hb dX10_told_67 rfl (lv_at hl 0 rfl) ?_
    refine r_get C O (k := 0) (j := 8) (v := .ref (q 10)) fX10_77 rfl rfl rfl dX10_told_68 ?_
    refine lv_iload_n hx hb dX10_told_71 rfl (lv_at hl 1 rfl) ?_
    refine r_callI C O hl (c_X3_clientOf l x1) mX10_212 (by decide) rfl rfl rfl rfl (Nat.le_of_ble_eq_true rfl) hf dX10_told_72 (fun r_12 σ_11 H locs O hf => ?_)
    exact hE _ _ _ _ _ _ (vp_nar_int _) O hf dX10_told_75
  by_cases c_13 : x2 = 4
  · have hf := hf.2.2.2.2.1 c_13
    refine lv_tableIn (tgt := 76) hx hb dX10_told_1 (by rw [c_13]; decide) (by rw [c_13]; decide) (by rw [c_13]; rfl) (by decide) ?_
    refine lv_aload_n hx hb dX10_told_76 rfl (lv_at hl 0 rfl) ?_
    refine r_get C O (k := 0) (j := 8) (v := .ref (q 10)) fX10_77 rfl rfl rfl dX10_told_77 ?_
    refine lv_iload_n hx hb dX10_told_80 rfl (lv_at hl 1 rfl) ?_
    refine r_callI C O hl (c_X3_planeOf l x1) mX10_215 (by decide) rfl rfl rfl rfl (Nat.le_of_ble_eq_true rfl) hf dX10_told_81 (fun r_15 σ_14 H locs O hf => ?_)
    exact hE _ _ _ _ _ _ (vp_nar_int _) O hf dX10_told_84
  by_cases c_16 : x2 = 5
  · have hf := hf.2.2.2.2.2.1 c_16
    refine lv_tableIn (tgt := 85) hx hb dX10_told_1 (by rw [c_16]; decide) (by rw [c_16]; decide) (by rw [c_16]; rfl) (by decide) ?_
    refine lv_aload_n hx hb dX10_told_85 rfl (lv_at hl 0 rfl) ?_
    refine r_get C O (k := 0) (j := 8) (v := .ref (q 10)) fX10_77 rfl rfl rfl dX10_told_86 ?_
    refine lv_iload_n hx hb dX10_told_89 rfl (lv_at hl 1 rfl) ?_
    refine r_callI C O hl (c_X3_flightOf l x1) mX10_216 (by decide) rfl rfl rfl rfl (Nat.le_of_ble_eq_true rfl) hf dX10_told_90 (fun r_18 σ_17 H locs O hf => ?_)
    exact hE _ _ _ _ _ _ (vp_nar_int _) O hf dX10_told_93
  have hf := hf.2.2.2.2.2.2 ⟨c_1, c_4, c_7, c_10, c_13, c_16⟩
  refine lv_tableOut (tgt := 94) hx hb dX10_told_1 (sw_out 5 (by decide) (fun k hk => by rcases (show k = 0 ∨ k = 1 ∨ k = 2 ∨ k = 3 ∨ k = 4 ∨ k = 5 by omega) with rfl | rfl | rfl | rfl | rfl | rfl <;> assumption)) (by decide) ?_
  refine lv_iconst (v := (-1)) hx hb dX10_told_94 (by decide) ?_
  exact hE _ _ _ _ _ _ (vp_nar_int _) O hf dX10_told_95
theorem c_X10_told (l : Launch) (x1 : Int32) (x2 : Int32) : MetI l yX10_told cX10_told 3 .int 2 42 LC 0 (fun q => [.int x1, .int x2]) (w_X10_told x1 x2) := mk_I (own := RX10) (by decide) rfl (fun q => Nat.le_of_ble_eq_true rfl) (fun C hE O hl hf => b_X10_told C hE x1 x2 _ _ _ _ O hl hf)
end
section
variable {p : Program} {l : Launch} {e : Env} {R : Room} {s : State} {m : MethodId} {args : Array Value} {below : List Frame} {meth : Method} {c : Code} {E : State → Prop}
variable {D : va_G} {cs : Nat → ClassId} {q : Nat → Nat}
variable {Q : Int64 → St → Prop}
def w_X10_bill_62 (Q : Int64 → St → Prop) (x1 : Int32) (x2 : Int32) (x3 : Int32) (σ : St) : Prop := w_X4_rateOf x2 σ (fun r_2 σ_1 => w_X3_takenPrice x1 σ_1 (fun r_4 σ_3 => Q (if (r_2.toInt64 * x3.toInt64) - ((r_4 / 2).toInt64) < 0 then 0 else (r_2.toInt64 * x3.toInt64) - ((r_4 / 2).toInt64)) σ_3))
set_option maxHeartbeats 4000000 in
set_option maxRecDepth 100000 in
theorem b_X10_bill_62 (C : CX p R s m args meth c cX10_bill 6 RX10 5 109 D cs) (hE : RLx p l e R s m args below meth c cX10_bill D cs LC q Q E) : ∀ (x1 : Int32) (x2 : Int32) (x3 : Int32) (σ : St) (H : Heap) (locs : List Loc) (ls : Array Slot), OK D cs LC q s σ H locs → lv_has ls 6 [(0, .ref (q 0)), (1, .int x1), (2, .int x2), (3, .int x3)] → w_X10_bill_62 Q x1 x2 x3 σ → W p l e R s m args below meth c H locs 0 0 E (F0 m 62 ls []) := by
  have hx := C.1
  have hb := C.2.1
  intro x1 x2 x3 σ H locs ls O hl hf
  unfold w_X10_bill_62 at hf
  refine lv_aload_n hx hb dX10_bill_62 rfl (lv_at hl 0 rfl) ?_
  refine r_get C O (k := 0) (j := 3) (v := .ref (q 4)) fX10_33 rfl rfl rfl dX10_bill_63 ?_
  refine lv_iload_n hx hb dX10_bill_66 rfl (lv_at hl 2 rfl) ?_
  refine r_callI C O hl (c_X4_rateOf l x2) mX10_230 (by decide) rfl rfl rfl rfl (Nat.le_of_ble_eq_true rfl) hf dX10_bill_67 (fun r_2 σ_1 H locs O hf => ?_)
  refine lv_i2l (v := r_2.toInt64) hx hb dX10_bill_70 rfl ?_
  refine lv_iload_n hx hb dX10_bill_71 rfl (lv_at hl 3 rfl) ?_
  refine lv_i2l (v := x3.toInt64) hx hb dX10_bill_72 rfl ?_
  refine lv_lmul hx hb dX10_bill_73 ?_
  refine lv_lstore (lv' := [(4, .long (r_2.toInt64 * x3.toInt64)), (0, .ref (q 0)), (1, .int x1), (2, .int x2), (3, .int x3)]) hx hb dX10_bill_74 hl (by decide) rfl (fun ls hl => ?_)
  refine lv_lconst (v := 0) hx hb dX10_bill_76 (by decide) ?_
  refine lv_lload hx hb dX10_bill_77 (lv_at hl 0 rfl) ?_
  refine lv_aload_n hx hb dX10_bill_79 rfl (lv_at hl 1 rfl) ?_
  refine r_get C O (k := 0) (j := 8) (v := .ref (q 10)) fX10_77 rfl rfl rfl dX10_bill_80 ?_
  refine lv_iload_n hx hb dX10_bill_83 rfl (lv_at hl 2 rfl) ?_
  refine r_callI C O hl (c_X3_takenPrice l x1) mX10_233 (by decide) rfl rfl rfl rfl (Nat.le_of_ble_eq_true rfl) hf dX10_bill_84 (fun r_4 σ_3 H locs O hf => ?_)
  refine lv_iconst (v := 2) hx hb dX10_bill_87 (by decide) ?_
  refine lv_idiv hx hb dX10_bill_88 (by decide) ?_
  refine lv_i2l (v := (r_4 / 2).toInt64) hx hb dX10_bill_89 rfl ?_
  refine lv_lsub hx hb dX10_bill_90 ?_
  refine va_mmax_long hx hb (C.2.2.1.trans hl.1.symm) C.2.2.2.1 (C.2.2.2.2.1 _ kM10_236) (C.2.2.2.2.1 _ kMmax_s) (C.2.2.2.2.1 _ kM_i) (C.2.2.2.2.1 _ kMmax_c) (Nat.le_trans (by decide) C.2.2.2.2.2.2.2.1) (Nat.le_trans (Nat.le_of_ble_eq_true rfl) C.2.2.2.2.2.2.2.2) (Nat.zero_le _) (Nat.zero_le _) dX10_bill_91 ?_
  exact hE _ _ _ _ _ _ O hf dX10_bill_94
def w_X10_bill (x1 : Int32) (σ : St) (Q : Int64 → St → Prop) : Prop := w_X6_planeOf x1 σ (fun r_2 σ_1 => (¬ r_2 = ((-1)) → (w_X6_minutesOf x1 σ_1 (fun r_5 σ_4 => w_X6_hasLeg x1 σ_4 (fun r_7 σ_6 => (r_7 = 0 → (w_X10_bill_62 Q x1 r_2 r_5 σ_6)) ∧ (¬ r_7 = 0 → (w_X6_legMinutes x1 σ_6 (fun r_10 σ_9 => (¬ r_10 = 0 → (w_X10_bill_62 Q x1 r_2 (r_5 + r_10) σ_9)) ∧ (r_10 = 0 → (Q ((-1)) σ_9))))))))) ∧ (r_2 = ((-1)) → (Q ((-1)) σ_1)))
set_option maxHeartbeats 4000000 in
set_option maxRecDepth 100000 in
theorem b_X10_bill (C : CX p R s m args meth c cX10_bill 6 RX10 5 109 D cs) (hE : RLx p l e R s m args below meth c cX10_bill D cs LC q Q E) : ∀ (x1 : Int32) (σ : St) (H : Heap) (locs : List Loc) (ls : Array Slot), OK D cs LC q s σ H locs → lv_has ls 6 [(0, .ref (q 0)), (1, .int x1)] → w_X10_bill x1 σ Q → W p l e R s m args below meth c H locs 0 0 E (F0 m 0 ls []) := by
  have hx := C.1
  have hb := C.2.1
  intro x1 σ H locs ls O hl hf
  unfold w_X10_bill at hf
  refine lv_aload_n hx hb dX10_bill_0 rfl (lv_at hl 0 rfl) ?_
  refine r_get C O (k := 0) (j := 6) (v := .ref (q 7)) fX10_56 rfl rfl rfl dX10_bill_1 ?_
  refine lv_iload_n hx hb dX10_bill_4 rfl (lv_at hl 1 rfl) ?_
  refine r_callI C O hl (c_X6_planeOf l x1) mX10_175 (by decide) rfl rfl rfl rfl (Nat.le_of_ble_eq_true rfl) hf dX10_bill_5 (fun r_2 σ_1 H locs O hf => ?_)
  refine lv_istore_n (lv' := [(2, .int r_2), (0, .ref (q 0)), (1, .int x1)]) hx hb dX10_bill_8 rfl hl (by decide) rfl (fun ls hl => ?_)
  refine lv_iload_n hx hb dX10_bill_9 rfl (lv_at hl 0 rfl) ?_
  refine lv_iconst (v := (-1)) hx hb dX10_bill_10 (by decide) ?_
  refine lv_icmp_ne (tgt := 18) hx hb dX10_bill_11 (by decide) (fun c_3 => ?_) (fun c_3 => ?_)
  · have hf := hf.1 c_3
    refine lv_aload_n hx hb dX10_bill_18 rfl (lv_at hl 1 rfl) ?_
    refine r_get C O (k := 0) (j := 6) (v := .ref (q 7)) fX10_56 rfl rfl rfl dX10_bill_19 ?_
    refine lv_iload_n hx hb dX10_bill_22 rfl (lv_at hl 2 rfl) ?_
    refine r_callI C O hl (c_X6_minutesOf l x1) mX10_221 (by decide) rfl rfl rfl rfl (Nat.le_of_ble_eq_true rfl) hf dX10_bill_23 (fun r_5 σ_4 H locs O hf => ?_)
    refine lv_istore_n (lv' := [(3, .int r_5), (2, .int r_2), (0, .ref (q 0)), (1, .int x1)]) hx hb dX10_bill_26 rfl hl (by decide) rfl (fun ls hl => ?_)
    refine lv_aload_n hx hb dX10_bill_27 rfl (lv_at hl 2 rfl) ?_
    refine r_get C O (k := 0) (j := 6) (v := .ref (q 7)) fX10_56 rfl rfl rfl dX10_bill_28 ?_
    refine lv_iload_n hx hb dX10_bill_31 rfl (lv_at hl 3 rfl) ?_
    refine r_callI C O hl (c_X6_hasLeg l x1) mX10_224 (by decide) rfl rfl rfl rfl (Nat.le_of_ble_eq_true rfl) hf dX10_bill_32 (fun r_7 σ_6 H locs O hf => ?_)
    refine lv_if_eq (tgt := 62) hx hb dX10_bill_35 (by decide) (fun c_8 => ?_) (fun c_8 => ?_)
    · have hf := hf.1 c_8
      exact b_X10_bill_62 C hE x1 r_2 r_5 σ_6 _ _ ls O (lv_sub hl [2, 3, 1, 0] rfl) hf
    · have hf := hf.2 c_8
      refine lv_aload_n hx hb dX10_bill_38 rfl (lv_at hl 2 rfl) ?_
      refine r_get C O (k := 0) (j := 6) (v := .ref (q 7)) fX10_56 rfl rfl rfl dX10_bill_39 ?_
      refine lv_iload_n hx hb dX10_bill_42 rfl (lv_at hl 3 rfl) ?_
      refine r_callI C O hl (c_X6_legMinutes l x1) mX10_227 (by decide) rfl rfl rfl rfl (Nat.le_of_ble_eq_true rfl) hf dX10_bill_43 (fun r_10 σ_9 H locs O hf => ?_)
      refine lv_istore (lv' := [(4, .int r_10), (3, .int r_5), (2, .int r_2), (0, .ref (q 0)), (1, .int x1)]) hx hb dX10_bill_46 hl (by decide) rfl (fun ls hl => ?_)
      refine lv_iload hx hb dX10_bill_48 (lv_at hl 0 rfl) ?_
      refine lv_if_ne (tgt := 57) hx hb dX10_bill_50 (by decide) (fun c_11 => ?_) (fun c_11 => ?_)
      · have hf := hf.1 c_11
        refine lv_iload_n hx hb dX10_bill_57 rfl (lv_at hl 1 rfl) ?_
        refine lv_iload hx hb dX10_bill_58 (lv_at hl 0 rfl) ?_
        refine lv_iadd hx hb dX10_bill_60 ?_
        refine lv_istore_n (lv' := [(3, .int (r_5 + r_10)), (4, .int r_10), (2, .int r_2), (0, .ref (q 0)), (1, .int x1)]) hx hb dX10_bill_61 rfl hl (by decide) rfl (fun ls hl => ?_)
        exact b_X10_bill_62 C hE x1 r_2 (r_5 + r_10) σ_9 _ _ ls O (lv_sub hl [3, 4, 2, 0] rfl) hf
      · have hf := hf.2 c_11
        refine lv_ldc2 (v := (-1)) hx hb C.2.2.2.1 (C.2.2.2.2.1 _ kX10_219) dX10_bill_53 ?_
        exact hE _ _ _ _ _ _ O hf dX10_bill_56
  · have hf := hf.2 c_3
    refine lv_ldc2 (v := (-1)) hx hb C.2.2.2.1 (C.2.2.2.2.1 _ kX10_219) dX10_bill_14 ?_
    exact hE _ _ _ _ _ _ O hf dX10_bill_17
theorem c_X10_bill (l : Launch) (x1 : Int32) : MetL l yX10_bill cX10_bill 6 5 109 LC 0 (fun q => [.int x1]) (w_X10_bill x1) := mk_L (own := RX10) (by decide) rfl (fun q => Nat.le_of_ble_eq_true rfl) (fun C hE O hl hf => b_X10_bill C hE x1 _ _ _ _ O hl hf)
end
section
variable {p : Program} {l : Launch} {e : Env} {R : Room} {s : State} {m : MethodId} {args : Array Value} {below : List Frame} {meth : Method} {c : Code} {E : State → Prop}
variable {D : va_G} {cs : Nat → ClassId} {q : Nat → Nat}
variable {Q : Int32 → St → Prop}
def w_X10_look (x1 : Int32) (x2 : Int32) (σ : St) (Q : Int32 → St → Prop) : Prop := w_X1_has x1 σ (fun r_2 σ_1 => (¬ r_2 = 0 → ((x2 = 0 → (w_X1_fromOf x1 σ_1 (fun r_6 σ_5 => Q r_6 σ_5))) ∧ (x2 = 1 → (w_X1_toOf x1 σ_1 (fun r_9 σ_8 => Q r_9 σ_8))) ∧ (x2 = 2 → (w_X1_startOf x1 σ_1 (fun r_12 σ_11 => Q r_12 σ_11))) ∧ (x2 = 3 → (w_X1_seatsOf x1 σ_1 (fun r_15 σ_14 => Q r_15 σ_14))) ∧ (x2 = 4 → (w_X1_isLive x1 σ_1 (fun r_18 σ_17 => (r_18 = 0 → (Q 1 σ_17)) ∧ (¬ r_18 = 0 → (Q 0 σ_17))))) ∧ (x2 = 5 → (w_X6_minutesOf x1 σ_1 (fun r_22 σ_21 => Q r_22 σ_21))) ∧ ((¬ x2 = 0 ∧ ¬ x2 = 1 ∧ ¬ x2 = 2 ∧ ¬ x2 = 3 ∧ ¬ x2 = 4 ∧ ¬ x2 = 5) → (Q ((-1)) σ_1)))) ∧ (r_2 = 0 → (Q ((-1)) σ_1)))
set_option maxHeartbeats 4000000 in
set_option maxRecDepth 100000 in
theorem b_X10_look (C : CX p R s m args meth c cX10_look 3 RX10 3 63 D cs) (hE : RI p l e R s m args below meth c cX10_look D cs LC q .int Q E) : ∀ (x1 : Int32) (x2 : Int32) (σ : St) (H : Heap) (locs : List Loc) (ls : Array Slot), OK D cs LC q s σ H locs → lv_has ls 3 [(0, .ref (q 0)), (1, .int x1), (2, .int x2)] → w_X10_look x1 x2 σ Q → W p l e R s m args below meth c H locs 0 0 E (F0 m 0 ls []) := by
  have hx := C.1
  have hb := C.2.1
  intro x1 x2 σ H locs ls O hl hf
  unfold w_X10_look at hf
  refine lv_aload_n hx hb dX10_look_0 rfl (lv_at hl 0 rfl) ?_
  refine r_get C O (k := 0) (j := 4) (v := .ref (q 5)) fX10_40 rfl rfl rfl dX10_look_1 ?_
  refine lv_iload_n hx hb dX10_look_4 rfl (lv_at hl 1 rfl) ?_
  refine r_callI C O hl (c_X1_has l x1) mX10_242 (by decide) rfl rfl rfl rfl (Nat.le_of_ble_eq_true rfl) hf dX10_look_5 (fun r_2 σ_1 H locs O hf => ?_)
  refine lv_if_ne (tgt := 13) hx hb dX10_look_8 (by decide) (fun c_3 => ?_) (fun c_3 => ?_)
  · have hf := hf.1 c_3
    refine lv_iload_n hx hb dX10_look_13 rfl (lv_at hl 2 rfl) ?_
    by_cases c_4 : x2 = 0
    · have hf := hf.1 c_4
      refine lv_tableIn (tgt := 52) hx hb dX10_look_14 (by rw [c_4]; decide) (by rw [c_4]; decide) (by rw [c_4]; rfl) (by decide) ?_
      refine lv_aload_n hx hb dX10_look_52 rfl (lv_at hl 0 rfl) ?_
      refine r_get C O (k := 0) (j := 4) (v := .ref (q 5)) fX10_40 rfl rfl rfl dX10_look_53 ?_
      refine lv_iload_n hx hb dX10_look_56 rfl (lv_at hl 1 rfl) ?_
      refine r_callI C O hl (c_X1_fromOf l x1) mX10_245 (by decide) rfl rfl rfl rfl (Nat.le_of_ble_eq_true rfl) hf dX10_look_57 (fun r_6 σ_5 H locs O hf => ?_)
      exact hE _ _ _ _ _ _ (vp_nar_int _) O hf dX10_look_60
    by_cases c_7 : x2 = 1
    · have hf := hf.2.1 c_7
      refine lv_tableIn (tgt := 61) hx hb dX10_look_14 (by rw [c_7]; decide) (by rw [c_7]; decide) (by rw [c_7]; rfl) (by decide) ?_
      refine lv_aload_n hx hb dX10_look_61 rfl (lv_at hl 0 rfl) ?_
      refine r_get C O (k := 0) (j := 4) (v := .ref (q 5)) fX10_40 rfl rfl rfl dX10_look_62 ?_
      refine lv_iload_n hx hb dX10_look_65 rfl (lv_at hl 1 rfl) ?_
      refine r_callI C O hl (c_X1_toOf l x1) mX10_248 (by decide) rfl rfl rfl rfl (Nat.le_of_ble_eq_true rfl) hf dX10_look_66 (fun r_9 σ_8 H locs O hf => ?_)
      exact hE _ _ _ _ _ _ (vp_nar_int _) O hf dX10_look_69
    by_cases c_10 : x2 = 2
    · have hf := hf.2.2.1 c_10
      refine lv_tableIn (tgt := 70) hx hb dX10_look_14 (by rw [c_10]; decide) (by rw [c_10]; decide) (by rw [c_10]; rfl) (by decide) ?_
      refine lv_aload_n hx hb dX10_look_70 rfl (lv_at hl 0 rfl) ?_
      refine r_get C O (k := 0) (j := 4) (v := .ref (q 5)) fX10_40 rfl rfl rfl dX10_look_71 ?_
      refine lv_iload_n hx hb dX10_look_74 rfl (lv_at hl 1 rfl) ?_
      refine r_callI C O hl (c_X1_startOf l x1) mX10_251 (by decide) rfl rfl rfl rfl (Nat.le_of_ble_eq_true rfl) hf dX10_look_75 (fun r_12 σ_11 H locs O hf => ?_)
      exact hE _ _ _ _ _ _ (vp_nar_int _) O hf dX10_look_78
    by_cases c_13 : x2 = 3
    · have hf := hf.2.2.2.1 c_13
      refine lv_tableIn (tgt := 79) hx hb dX10_look_14 (by rw [c_13]; decide) (by rw [c_13]; decide) (by rw [c_13]; rfl) (by decide) ?_
      refine lv_aload_n hx hb dX10_look_79 rfl (lv_at hl 0 rfl) ?_
      refine r_get C O (k := 0) (j := 4) (v := .ref (q 5)) fX10_40 rfl rfl rfl dX10_look_80 ?_
      refine lv_iload_n hx hb dX10_look_83 rfl (lv_at hl 1 rfl) ?_
      refine r_callI C O hl (c_X1_seatsOf l x1) mX10_254 (by decide) rfl rfl rfl rfl (Nat.le_of_ble_eq_true rfl) hf dX10_look_84 (fun r_15 σ_14 H locs O hf => ?_)
      exact hE _ _ _ _ _ _ (vp_nar_int _) O hf dX10_look_87
    by_cases c_16 : x2 = 4
    · have hf := hf.2.2.2.2.1 c_16
      refine lv_tableIn (tgt := 88) hx hb dX10_look_14 (by rw [c_16]; decide) (by rw [c_16]; decide) (by rw [c_16]; rfl) (by decide) ?_
      refine lv_aload_n hx hb dX10_look_88 rfl (lv_at hl 0 rfl) ?_
      refine r_get C O (k := 0) (j := 4) (v := .ref (q 5)) fX10_40 rfl rfl rfl dX10_look_89 ?_
      refine lv_iload_n hx hb dX10_look_92 rfl (lv_at hl 1 rfl) ?_
      refine r_callI C O hl (c_X1_isLive l x1) mX10_145 (by decide) rfl rfl rfl rfl (Nat.le_of_ble_eq_true rfl) hf dX10_look_93 (fun r_18 σ_17 H locs O hf => ?_)
      refine lv_if_eq (tgt := 103) hx hb dX10_look_96 (by decide) (fun c_19 => ?_) (fun c_19 => ?_)
      · have hf := hf.1 c_19
        refine lv_iconst (v := 1) hx hb dX10_look_103 (by decide) ?_
        exact hE _ _ _ _ _ _ (vp_nar_int _) O hf dX10_look_104
      · have hf := hf.2 c_19
        refine lv_iconst (v := 0) hx hb dX10_look_99 (by decide) ?_
        refine lv_goto (tgt := 104) hx hb dX10_look_100 (by decide) ?_
        exact hE _ _ _ _ _ _ (vp_nar_int _) O hf dX10_look_104
    by_cases c_20 : x2 = 5
    · have hf := hf.2.2.2.2.2.1 c_20
      refine lv_tableIn (tgt := 105) hx hb dX10_look_14 (by rw [c_20]; decide) (by rw [c_20]; decide) (by rw [c_20]; rfl) (by decide) ?_
      refine lv_aload_n hx hb dX10_look_105 rfl (lv_at hl 0 rfl) ?_
      refine r_get C O (k := 0) (j := 6) (v := .ref (q 7)) fX10_56 rfl rfl rfl dX10_look_106 ?_
      refine lv_iload_n hx hb dX10_look_109 rfl (lv_at hl 1 rfl) ?_
      refine r_callI C O hl (c_X6_minutesOf l x1) mX10_221 (by decide) rfl rfl rfl rfl (Nat.le_of_ble_eq_true rfl) hf dX10_look_110 (fun r_22 σ_21 H locs O hf => ?_)
      exact hE _ _ _ _ _ _ (vp_nar_int _) O hf dX10_look_113
    have hf := hf.2.2.2.2.2.2 ⟨c_4, c_7, c_10, c_13, c_16, c_20⟩
    refine lv_tableOut (tgt := 114) hx hb dX10_look_14 (sw_out 5 (by decide) (fun k hk => by rcases (show k = 0 ∨ k = 1 ∨ k = 2 ∨ k = 3 ∨ k = 4 ∨ k = 5 by omega) with rfl | rfl | rfl | rfl | rfl | rfl <;> assumption)) (by decide) ?_
    refine lv_iconst (v := (-1)) hx hb dX10_look_114 (by decide) ?_
    exact hE _ _ _ _ _ _ (vp_nar_int _) O hf dX10_look_115
  · have hf := hf.2 c_3
    refine lv_iconst (v := (-1)) hx hb dX10_look_11 (by decide) ?_
    exact hE _ _ _ _ _ _ (vp_nar_int _) O hf dX10_look_12
theorem c_X10_look (l : Launch) (x1 : Int32) (x2 : Int32) : MetI l yX10_look cX10_look 3 .int 3 63 LC 0 (fun q => [.int x1, .int x2]) (w_X10_look x1 x2) := mk_I (own := RX10) (by decide) rfl (fun q => Nat.le_of_ble_eq_true rfl) (fun C hE O hl hf => b_X10_look C hE x1 x2 _ _ _ _ O hl hf)
end
section
variable {p : Program} {l : Launch} {e : Env} {R : Room} {s : State} {m : MethodId} {args : Array Value} {below : List Frame} {meth : Method} {c : Code} {E : State → Prop}
variable {D : va_G} {cs : Nat → ClassId} {q : Nat → Nat}
variable {Q : Int32 → St → Prop}
def w_X10_count (x1 : Int32) (σ : St) (Q : Int32 → St → Prop) : Prop := (x1 = 0 → (w_X4_size σ (fun r_3 σ_2 => Q r_3 σ_2))) ∧ (x1 = 1 → (w_X1_size σ (fun r_6 σ_5 => Q r_6 σ_5))) ∧ (x1 = 2 → (w_X1_live σ (fun r_9 σ_8 => Q r_9 σ_8))) ∧ (x1 = 3 → (w_X6_flown σ (fun r_12 σ_11 => Q r_12 σ_11))) ∧ (x1 = 4 → (w_X6_emptyMinutes σ (fun r_15 σ_14 => Q r_15 σ_14))) ∧ (x1 = 5 → (w_X7_size σ (fun r_18 σ_17 => Q r_18 σ_17))) ∧ (x1 = 6 → (w_X3_size σ (fun r_21 σ_20 => Q r_21 σ_20))) ∧ (x1 = 7 → (Q (σ.1 0 9) σ)) ∧ (x1 = 8 → (w_X8_length σ (fun r_25 σ_24 => Q r_25 σ_24))) ∧ ((¬ x1 = 0 ∧ ¬ x1 = 1 ∧ ¬ x1 = 2 ∧ ¬ x1 = 3 ∧ ¬ x1 = 4 ∧ ¬ x1 = 5 ∧ ¬ x1 = 6 ∧ ¬ x1 = 7 ∧ ¬ x1 = 8) → (Q ((-1)) σ))
set_option maxHeartbeats 4000000 in
set_option maxRecDepth 100000 in
theorem b_X10_count (C : CX p R s m args meth c cX10_count 2 RX10 6 131 D cs) (hE : RI p l e R s m args below meth c cX10_count D cs LC q .int Q E) : ∀ (x1 : Int32) (σ : St) (H : Heap) (locs : List Loc) (ls : Array Slot), OK D cs LC q s σ H locs → lv_has ls 2 [(0, .ref (q 0)), (1, .int x1)] → w_X10_count x1 σ Q → W p l e R s m args below meth c H locs 0 0 E (F0 m 0 ls []) := by
  have hx := C.1
  have hb := C.2.1
  intro x1 σ H locs ls O hl hf
  unfold w_X10_count at hf
  refine lv_iload_n hx hb dX10_count_0 rfl (lv_at hl 1 rfl) ?_
  by_cases c_1 : x1 = 0
  · have hf := hf.1 c_1
    refine lv_tableIn (tgt := 52) hx hb dX10_count_1 (by rw [c_1]; decide) (by rw [c_1]; decide) (by rw [c_1]; rfl) (by decide) ?_
    refine lv_aload_n hx hb dX10_count_52 rfl (lv_at hl 0 rfl) ?_
    refine r_get C O (k := 0) (j := 3) (v := .ref (q 4)) fX10_33 rfl rfl rfl dX10_count_53 ?_
    refine r_callI C O hl (c_X4_size l) mX10_257 (by decide) rfl rfl rfl rfl (Nat.le_of_ble_eq_true rfl) hf dX10_count_56 (fun r_3 σ_2 H locs O hf => ?_)
    exact hE _ _ _ _ _ _ (vp_nar_int _) O hf dX10_count_59
  by_cases c_4 : x1 = 1
  · have hf := hf.2.1 c_4
    refine lv_tableIn (tgt := 60) hx hb dX10_count_1 (by rw [c_4]; decide) (by rw [c_4]; decide) (by rw [c_4]; rfl) (by decide) ?_
    refine lv_aload_n hx hb dX10_count_60 rfl (lv_at hl 0 rfl) ?_
    refine r_get C O (k := 0) (j := 4) (v := .ref (q 5)) fX10_40 rfl rfl rfl dX10_count_61 ?_
    refine r_callI C O hl (c_X1_size l) mX10_260 (by decide) rfl rfl rfl rfl (Nat.le_of_ble_eq_true rfl) hf dX10_count_64 (fun r_6 σ_5 H locs O hf => ?_)
    exact hE _ _ _ _ _ _ (vp_nar_int _) O hf dX10_count_67
  by_cases c_7 : x1 = 2
  · have hf := hf.2.2.1 c_7
    refine lv_tableIn (tgt := 68) hx hb dX10_count_1 (by rw [c_7]; decide) (by rw [c_7]; decide) (by rw [c_7]; rfl) (by decide) ?_
    refine lv_aload_n hx hb dX10_count_68 rfl (lv_at hl 0 rfl) ?_
    refine r_get C O (k := 0) (j := 4) (v := .ref (q 5)) fX10_40 rfl rfl rfl dX10_count_69 ?_
    refine r_callI C O hl (c_X1_live l) mX10_261 (by decide) rfl rfl rfl rfl (Nat.le_of_ble_eq_true rfl) hf dX10_count_72 (fun r_9 σ_8 H locs O hf => ?_)
    exact hE _ _ _ _ _ _ (vp_nar_int _) O hf dX10_count_75
  by_cases c_10 : x1 = 3
  · have hf := hf.2.2.2.1 c_10
    refine lv_tableIn (tgt := 76) hx hb dX10_count_1 (by rw [c_10]; decide) (by rw [c_10]; decide) (by rw [c_10]; rfl) (by decide) ?_
    refine lv_aload_n hx hb dX10_count_76 rfl (lv_at hl 0 rfl) ?_
    refine r_get C O (k := 0) (j := 6) (v := .ref (q 7)) fX10_56 rfl rfl rfl dX10_count_77 ?_
    refine r_callI C O hl (c_X6_flown l) mX10_169 (by decide) rfl rfl rfl rfl (Nat.le_of_ble_eq_true rfl) hf dX10_count_80 (fun r_12 σ_11 H locs O hf => ?_)
    exact hE _ _ _ _ _ _ (vp_nar_int _) O hf dX10_count_83
  by_cases c_13 : x1 = 4
  · have hf := hf.2.2.2.2.1 c_13
    refine lv_tableIn (tgt := 84) hx hb dX10_count_1 (by rw [c_13]; decide) (by rw [c_13]; decide) (by rw [c_13]; rfl) (by decide) ?_
    refine lv_aload_n hx hb dX10_count_84 rfl (lv_at hl 0 rfl) ?_
    refine r_get C O (k := 0) (j := 6) (v := .ref (q 7)) fX10_56 rfl rfl rfl dX10_count_85 ?_
    refine r_callI C O hl (c_X6_emptyMinutes l) mX10_264 (by decide) rfl rfl rfl rfl (Nat.le_of_ble_eq_true rfl) hf dX10_count_88 (fun r_15 σ_14 H locs O hf => ?_)
    exact hE _ _ _ _ _ _ (vp_nar_int _) O hf dX10_count_91
  by_cases c_16 : x1 = 5
  · have hf := hf.2.2.2.2.2.1 c_16
    refine lv_tableIn (tgt := 92) hx hb dX10_count_1 (by rw [c_16]; decide) (by rw [c_16]; decide) (by rw [c_16]; rfl) (by decide) ?_
    refine lv_aload_n hx hb dX10_count_92 rfl (lv_at hl 0 rfl) ?_
    refine r_get C O (k := 0) (j := 5) (v := .ref (q 6)) fX10_47 rfl rfl rfl dX10_count_93 ?_
    refine r_callI C O hl (c_X7_size l) mX10_267 (by decide) rfl rfl rfl rfl (Nat.le_of_ble_eq_true rfl) hf dX10_count_96 (fun r_18 σ_17 H locs O hf => ?_)
    exact hE _ _ _ _ _ _ (vp_nar_int _) O hf dX10_count_99
  by_cases c_19 : x1 = 6
  · have hf := hf.2.2.2.2.2.2.1 c_19
    refine lv_tableIn (tgt := 100) hx hb dX10_count_1 (by rw [c_19]; decide) (by rw [c_19]; decide) (by rw [c_19]; rfl) (by decide) ?_
    refine lv_aload_n hx hb dX10_count_100 rfl (lv_at hl 0 rfl) ?_
    refine r_get C O (k := 0) (j := 8) (v := .ref (q 10)) fX10_77 rfl rfl rfl dX10_count_101 ?_
    refine r_callI C O hl (c_X3_size l) mX10_268 (by decide) rfl rfl rfl rfl (Nat.le_of_ble_eq_true rfl) hf dX10_count_104 (fun r_21 σ_20 H locs O hf => ?_)
    exact hE _ _ _ _ _ _ (vp_nar_int _) O hf dX10_count_107
  by_cases c_22 : x1 = 7
  · have hf := hf.2.2.2.2.2.2.2.1 c_22
    refine lv_tableIn (tgt := 108) hx hb dX10_count_1 (by rw [c_22]; decide) (by rw [c_22]; decide) (by rw [c_22]; rfl) (by decide) ?_
    refine lv_aload_n hx hb dX10_count_108 rfl (lv_at hl 0 rfl) ?_
    refine r_get C O (k := 0) (j := 9) (v := .int (σ.1 0 9)) fX10_81 rfl rfl rfl dX10_count_109 ?_
    exact hE _ _ _ _ _ _ (vp_nar_int _) O hf dX10_count_112
  by_cases c_23 : x1 = 8
  · have hf := hf.2.2.2.2.2.2.2.2.1 c_23
    refine lv_tableIn (tgt := 113) hx hb dX10_count_1 (by rw [c_23]; decide) (by rw [c_23]; decide) (by rw [c_23]; rfl) (by decide) ?_
    refine lv_aload_n hx hb dX10_count_113 rfl (lv_at hl 0 rfl) ?_
    refine r_get C O (k := 0) (j := 0) (v := .ref (q 1)) fX10_12 rfl rfl rfl dX10_count_114 ?_
    refine r_callI C O hl (c_X8_length l) mX10_93 (by decide) rfl rfl rfl rfl (Nat.le_of_ble_eq_true rfl) hf dX10_count_117 (fun r_25 σ_24 H locs O hf => ?_)
    exact hE _ _ _ _ _ _ (vp_nar_int _) O hf dX10_count_120
  have hf := hf.2.2.2.2.2.2.2.2.2 ⟨c_1, c_4, c_7, c_10, c_13, c_16, c_19, c_22, c_23⟩
  refine lv_tableOut (tgt := 121) hx hb dX10_count_1 (sw_out 8 (by decide) (fun k hk => by rcases (show k = 0 ∨ k = 1 ∨ k = 2 ∨ k = 3 ∨ k = 4 ∨ k = 5 ∨ k = 6 ∨ k = 7 ∨ k = 8 by omega) with rfl | rfl | rfl | rfl | rfl | rfl | rfl | rfl | rfl <;> assumption)) (by decide) ?_
  refine lv_iconst (v := (-1)) hx hb dX10_count_121 (by decide) ?_
  exact hE _ _ _ _ _ _ (vp_nar_int _) O hf dX10_count_122
theorem c_X10_count (l : Launch) (x1 : Int32) : MetI l yX10_count cX10_count 2 .int 6 131 LC 0 (fun q => [.int x1]) (w_X10_count x1) := mk_I (own := RX10) (by decide) rfl (fun q => Nat.le_of_ble_eq_true rfl) (fun C hE O hl hf => b_X10_count C hE x1 _ _ _ _ O hl hf)
end
