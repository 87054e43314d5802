section
variable {p : Program} {l : Launch} {e : Env} {R : Room} {s : State} {m : MethodId} {args : Array Value} {below : List Frame} {meth : Method} {c : Code} {E : State → Prop}
variable {D : va_G} {cs : Nat → ClassId} {q : Nat → Nat}
variable {Q : Int32 → St → Prop}
def w_X2_restOn (x1 : Int32) (σ : St) (Q : Int32 → St → Prop) : Prop := (x1 < 0 → (Q ((-1)) σ)) ∧ (¬ x1 < 0 → ((7 ≤ x1 → (Q ((-1)) σ)) ∧ (¬ 7 ≤ x1 → (vp_in x1 7 ∧ (Q (σ.1 15 x1.toNatClampNeg) σ)))))
set_option maxHeartbeats 4000000 in
set_option maxRecDepth 100000 in
theorem b_X2_restOn (C : CX p R s m args meth c cX2_restOn 2 RX2 0 0 D cs) (hE : RI p l e R s m args below meth c cX2_restOn D cs LC q .int Q E) : ∀ (x1 : Int32) (σ : St) (H : Heap) (locs : List Loc) (ls : Array Slot), OK D cs LC q s σ H locs → lv_has ls 2 [(0, .ref (q 2)), (1, .int x1)] → w_X2_restOn x1 σ Q → W p l e R s m args below meth c H locs 0 0 E (F0 m 0 ls []) := by
  have hx := C.1
  have hb := C.2.1
  intro x1 σ H locs ls O hl hf
  unfold w_X2_restOn at hf
  refine lv_iload_n hx hb dX2_restOn_0 rfl (lv_at hl 1 rfl) ?_
  refine lv_if_lt (tgt := 19) hx hb dX2_restOn_1 (by decide) (fun c_1 => ?_) (fun c_1 => ?_)
  · have hf := hf.1 c_1
    refine lv_iconst (v := (-1)) hx hb dX2_restOn_19 (by decide) ?_
    exact hE _ _ _ _ _ _ (vp_nar_int _) O hf dX2_restOn_20
  · have hf := hf.2 c_1
    refine lv_iload_n hx hb dX2_restOn_4 rfl (lv_at hl 1 rfl) ?_
    refine lv_bipush (v := 7) hx hb dX2_restOn_5 (by decide) ?_
    refine lv_icmp_ge (tgt := 19) hx hb dX2_restOn_7 (by decide) (fun c_2 => ?_) (fun c_2 => ?_)
    · have hf := hf.1 c_2
      refine lv_iconst (v := (-1)) hx hb dX2_restOn_19 (by decide) ?_
      exact hE _ _ _ _ _ _ (vp_nar_int _) O hf dX2_restOn_20
    · have hf := hf.2 c_2
      refine lv_aload_n hx hb dX2_restOn_10 rfl (lv_at hl 0 rfl) ?_
      refine r_get C O (k := 2) (j := 3) (v := .ref (q 15)) fX2_21 rfl rfl rfl dX2_restOn_11 ?_
      refine lv_iload_n hx hb dX2_restOn_14 rfl (lv_at hl 1 rfl) ?_
      refine r_iald C O (k := 15) rfl hf.1 dX2_restOn_15 ?_
      have hf := hf.2
      refine lv_goto (tgt := 20) hx hb dX2_restOn_16 (by decide) ?_
      exact hE _ _ _ _ _ _ (vp_nar_int _) O hf dX2_restOn_20
theorem c_X2_restOn (l : Launch) (x1 : Int32) : MetI l yX2_restOn cX2_restOn 2 .int 0 0 LC 2 (fun q => [.int x1]) (w_X2_restOn x1) := mk_I (own := RX2) (by decide) rfl (fun q => Nat.le_of_ble_eq_true rfl) (fun C hE O hl hf => b_X2_restOn C hE x1 _ _ _ _ O hl hf)
end
section
variable {p : Program} {l : Launch} {e : Env} {R : Room} {s : State} {m : MethodId} {args : Array Value} {below : List Frame} {meth : Method} {c : Code} {E : State → Prop}
variable {D : va_G} {cs : Nat → ClassId} {q : Nat → Nat}
variable {Q : Int32 → St → Prop}
def w_X2_dutyOn (x1 : Int32) (σ : St) (Q : Int32 → St → Prop) : Prop := (x1 < 0 → (Q ((-1)) σ)) ∧ (¬ x1 < 0 → ((7 ≤ x1 → (Q ((-1)) σ)) ∧ (¬ 7 ≤ x1 → (vp_in x1 7 ∧ (Q (σ.1 14 x1.toNatClampNeg) σ)))))
set_option maxHeartbeats 4000000 in
set_option maxRecDepth 100000 in
theorem b_X2_dutyOn (C : CX p R s m args meth c cX2_dutyOn 2 RX2 0 0 D cs) (hE : RI p l e R s m args below meth c cX2_dutyOn D cs LC q .int Q E) : ∀ (x1 : Int32) (σ : St) (H : Heap) (locs : List Loc) (ls : Array Slot), OK D cs LC q s σ H locs → lv_has ls 2 [(0, .ref (q 2)), (1, .int x1)] → w_X2_dutyOn x1 σ Q → W p l e R s m args below meth c H locs 0 0 E (F0 m 0 ls []) := by
  have hx := C.1
  have hb := C.2.1
  intro x1 σ H locs ls O hl hf
  unfold w_X2_dutyOn at hf
  refine lv_iload_n hx hb dX2_dutyOn_0 rfl (lv_at hl 1 rfl) ?_
  refine lv_if_lt (tgt := 19) hx hb dX2_dutyOn_1 (by decide) (fun c_1 => ?_) (fun c_1 => ?_)
  · have hf := hf.1 c_1
    refine lv_iconst (v := (-1)) hx hb dX2_dutyOn_19 (by decide) ?_
    exact hE _ _ _ _ _ _ (vp_nar_int _) O hf dX2_dutyOn_20
  · have hf := hf.2 c_1
    refine lv_iload_n hx hb dX2_dutyOn_4 rfl (lv_at hl 1 rfl) ?_
    refine lv_bipush (v := 7) hx hb dX2_dutyOn_5 (by decide) ?_
    refine lv_icmp_ge (tgt := 19) hx hb dX2_dutyOn_7 (by decide) (fun c_2 => ?_) (fun c_2 => ?_)
    · have hf := hf.1 c_2
      refine lv_iconst (v := (-1)) hx hb dX2_dutyOn_19 (by decide) ?_
      exact hE _ _ _ _ _ _ (vp_nar_int _) O hf dX2_dutyOn_20
    · have hf := hf.2 c_2
      refine lv_aload_n hx hb dX2_dutyOn_10 rfl (lv_at hl 0 rfl) ?_
      refine r_get C O (k := 2) (j := 2) (v := .ref (q 14)) fX2_18 rfl rfl rfl dX2_dutyOn_11 ?_
      refine lv_iload_n hx hb dX2_dutyOn_14 rfl (lv_at hl 1 rfl) ?_
      refine r_iald C O (k := 14) rfl hf.1 dX2_dutyOn_15 ?_
      have hf := hf.2
      refine lv_goto (tgt := 20) hx hb dX2_dutyOn_16 (by decide) ?_
      exact hE _ _ _ _ _ _ (vp_nar_int _) O hf dX2_dutyOn_20
theorem c_X2_dutyOn (l : Launch) (x1 : Int32) : MetI l yX2_dutyOn cX2_dutyOn 2 .int 0 0 LC 2 (fun q => [.int x1]) (w_X2_dutyOn x1) := mk_I (own := RX2) (by decide) rfl (fun q => Nat.le_of_ble_eq_true rfl) (fun C hE O hl hf => b_X2_dutyOn C hE x1 _ _ _ _ O hl hf)
end
section
variable {p : Program} {l : Launch} {e : Env} {R : Room} {s : State} {m : MethodId} {args : Array Value} {below : List Frame} {meth : Method} {c : Code} {E : State → Prop}
variable {D : va_G} {cs : Nat → ClassId} {q : Nat → Nat}
variable {Q : Int32 → St → Prop}
def w_X2_readNumber_5 (Q : Int32 → St → Prop) : Nat → Int32 → Int32 → Int32 → St → Prop
  | 0, _, _, _, _ => False
  | n + 1, x2, x3, x4, σ => (4 < x4 → (Q x3 σ)) ∧ (¬ 4 < x4 → (w_X8_at (σ.1 2 6) x2 σ (fun r_3 σ_2 => (r_3 < 48 → (Q x3 σ_2)) ∧ (¬ r_3 < 48 → ((r_3 ≤ 57 → (∀ σ_6 : St, σ_6 = wr σ_2 2 6 ((σ_2.1 2 6) + 1) → (w_X2_readNumber_5 Q n x2 ((x3 * 10) + (r_3 - 48)) (x4 + 1) σ_6))) ∧ (¬ r_3 ≤ 57 → (Q x3 σ_2)))))))
set_option maxHeartbeats 4000000 in
set_option maxRecDepth 100000 in
theorem b_X2_readNumber_5 (C : CX p R s m args meth c cX2_readNumber 6 RX2 1 22 D cs) (hE : RI p l e R s m args below meth c cX2_readNumber D cs LC q .int Q E) : ∀ n : Nat, ∀ (x2 : Int32) (x3 : Int32) (x4 : Int32) (σ : St) (H : Heap) (locs : List Loc) (ls : Array Slot), OK D cs LC q s σ H locs → lv_has ls 6 [(0, .ref (q 2)), (1, .ref (q 1)), (2, .int x2), (3, .int x3), (4, .int x4)] → w_X2_readNumber_5 Q n x2 x3 x4 σ → W p l e R s m args below meth c H locs 0 0 E (F0 m 5 ls []) := by
  have hx := C.1
  have hb := C.2.1
  intro n
  induction n with
  | zero => intro x2 x3 x4 σ H locs ls O hl hf; exact hf.elim
  | succ n ih =>
    intro x2 x3 x4 σ H locs ls O hl hf
    unfold w_X2_readNumber_5 at hf
    refine lv_iload hx hb dX2_readNumber_5 (lv_at hl 4 rfl) ?_
    refine lv_iconst (v := 4) hx hb dX2_readNumber_7 (by decide) ?_
    refine lv_icmp_gt (tgt := 65) hx hb dX2_readNumber_8 (by decide) (fun c_1 => ?_) (fun c_1 => ?_)
    · have hf := hf.1 c_1
      refine lv_iload_n hx hb dX2_readNumber_65 rfl (lv_at hl 3 rfl) ?_
      exact hE _ _ _ _ _ _ (vp_nar_int _) O hf dX2_readNumber_66
    · have hf := hf.2 c_1
      refine lv_aload_n hx hb dX2_readNumber_11 rfl (lv_at hl 1 rfl) ?_
      refine lv_aload_n hx hb dX2_readNumber_12 rfl (lv_at hl 0 rfl) ?_
      refine r_get C O (k := 2) (j := 6) (v := .int (σ.1 2 6)) fX2_31 rfl rfl rfl dX2_readNumber_13 ?_
      refine lv_iload_n hx hb dX2_readNumber_16 rfl (lv_at hl 2 rfl) ?_
      refine r_callI C O hl (c_X8_at l (σ.1 2 6) x2) mX2_38 (by decide) rfl rfl rfl rfl (Nat.le_of_ble_eq_true rfl) hf dX2_readNumber_17 (fun r_3 σ_2 H locs O hf => ?_)
      refine lv_istore (lv' := [(5, .int r_3), (0, .ref (q 2)), (1, .ref (q 1)), (2, .int x2), (3, .int x3), (4, .int x4)]) hx hb dX2_readNumber_20 hl (by decide) rfl (fun ls hl => ?_)
      refine lv_iload hx hb dX2_readNumber_22 (lv_at hl 0 rfl) ?_
      refine lv_bipush (v := 48) hx hb dX2_readNumber_24 (by decide) ?_
      refine lv_icmp_lt (tgt := 36) hx hb dX2_readNumber_26 (by decide) (fun c_4 => ?_) (fun c_4 => ?_)
      · have hf := hf.1 c_4
        refine lv_iload_n hx hb dX2_readNumber_36 rfl (lv_at hl 4 rfl) ?_
        exact hE _ _ _ _ _ _ (vp_nar_int _) O hf dX2_readNumber_37
      · have hf := hf.2 c_4
        refine lv_iload hx hb dX2_readNumber_29 (lv_at hl 0 rfl) ?_
        refine lv_bipush (v := 57) hx hb dX2_readNumber_31 (by decide) ?_
        refine lv_icmp_le (tgt := 38) hx hb dX2_readNumber_33 (by decide) (fun c_5 => ?_) (fun c_5 => ?_)
        · have hf := hf.1 c_5
          refine lv_iload_n hx hb dX2_readNumber_38 rfl (lv_at hl 4 rfl) ?_
          refine lv_bipush (v := 10) hx hb dX2_readNumber_39 (by decide) ?_
          refine lv_imul hx hb dX2_readNumber_41 ?_
          refine lv_iload hx hb dX2_readNumber_42 (lv_at hl 0 rfl) ?_
          refine lv_bipush (v := 48) hx hb dX2_readNumber_44 (by decide) ?_
          refine lv_isub hx hb dX2_readNumber_46 ?_
          refine lv_iadd hx hb dX2_readNumber_47 ?_
          refine lv_istore_n (lv' := [(3, .int ((x3 * 10) + (r_3 - 48))), (5, .int r_3), (0, .ref (q 2)), (1, .ref (q 1)), (2, .int x2), (4, .int x4)]) hx hb dX2_readNumber_48 rfl hl (by decide) rfl (fun ls hl => ?_)
          refine lv_aload_n hx hb dX2_readNumber_49 rfl (lv_at hl 2 rfl) ?_
          refine lv_dup hx hb dX2_readNumber_50 rfl ?_
          refine r_get C O (k := 2) (j := 6) (v := .int (σ_2.1 2 6)) fX2_31 rfl rfl rfl dX2_readNumber_51 ?_
          refine lv_iconst (v := 1) hx hb dX2_readNumber_54 (by decide) ?_
          refine lv_iadd hx hb dX2_readNumber_55 ?_
          refine r_puti C O (k := 2) pX2_31 rfl rfl dX2_readNumber_56 (fun H locs σ_6 eσ_6 O => ?_)
          have hf := hf σ_6 eσ_6
          refine lv_iinc (v := x4 + 1) (lv' := [(4, .int (x4 + 1)), (3, .int ((x3 * 10) + (r_3 - 48))), (5, .int r_3), (0, .ref (q 2)), (1, .ref (q 1)), (2, .int x2)]) hx hb dX2_readNumber_59 hl (k := 5) rfl rfl (by decide) rfl (fun ls hl => ?_)
          refine lv_goto (tgt := 5) hx hb dX2_readNumber_62 (by decide) ?_
          exact ih x2 ((x3 * 10) + (r_3 - 48)) (x4 + 1) σ_6 _ _ ls O (lv_sub hl [3, 4, 5, 1, 0] rfl) hf
        · have hf := hf.2 c_5
          refine lv_iload_n hx hb dX2_readNumber_36 rfl (lv_at hl 4 rfl) ?_
          exact hE _ _ _ _ _ _ (vp_nar_int _) O hf dX2_readNumber_37
def w_X2_readNumber (x2 : Int32) (σ : St) (Q : Int32 → St → Prop) : Prop := ∃ nn : Nat, w_X2_readNumber_5 Q nn x2 0 0 σ
set_option maxHeartbeats 4000000 in
set_option maxRecDepth 100000 in
theorem b_X2_readNumber (C : CX p R s m args meth c cX2_readNumber 6 RX2 1 22 D cs) (hE : RI p l e R s m args below meth c cX2_readNumber D cs LC q .int Q E) : ∀ (x2 : Int32) (σ : St) (H : Heap) (locs : List Loc) (ls : Array Slot), OK D cs LC q s σ H locs → lv_has ls 6 [(0, .ref (q 2)), (1, .ref (q 1)), (2, .int x2)] → w_X2_readNumber x2 σ Q → W p l e R s m args below meth c H locs 0 0 E (F0 m 0 ls []) := by
  have hx := C.1
  have hb := C.2.1
  intro x2 σ H locs ls O hl hf
  unfold w_X2_readNumber at hf
  refine lv_iconst (v := 0) hx hb dX2_readNumber_0 (by decide) ?_
  refine lv_istore_n (lv' := [(3, .int 0), (0, .ref (q 2)), (1, .ref (q 1)), (2, .int x2)]) hx hb dX2_readNumber_1 rfl hl (by decide) rfl (fun ls hl => ?_)
  refine lv_iconst (v := 0) hx hb dX2_readNumber_2 (by decide) ?_
  refine lv_istore (lv' := [(4, .int 0), (3, .int 0), (0, .ref (q 2)), (1, .ref (q 1)), (2, .int x2)]) hx hb dX2_readNumber_3 hl (by decide) rfl (fun ls hl => ?_)
  obtain ⟨nn, hf⟩ := hf
  exact b_X2_readNumber_5 C hE nn x2 0 0 σ _ _ ls O (lv_sub hl [2, 3, 4, 1, 0] rfl) hf
theorem c_X2_readNumber (l : Launch) (x2 : Int32) : MetI l yX2_readNumber cX2_readNumber 6 .int 1 22 LC 2 (fun q => [.ref (q 1), .int x2]) (w_X2_readNumber x2) := mk_I (own := RX2) (by decide) rfl (fun q => Nat.le_of_ble_eq_true rfl) (fun C hE O hl hf => b_X2_readNumber C hE x2 _ _ _ _ O hl hf)
end
section
variable {p : Program} {l : Launch} {e : Env} {R : Room} {s : State} {m : MethodId} {args : Array Value} {below : List Frame} {meth : Method} {c : Code} {E : State → Prop}
variable {D : va_G} {cs : Nat → ClassId} {q : Nat → Nat}
variable {Q : Int32 → St → Prop}
def w_X2_readClause_84 (Q : Int32 → St → Prop) (x3 : Int32) (x4 : Int32) (x5 : Int32) (s0 : Int32) (σ : St) : Prop := (4 < ((σ.1 2 6) - x4) → (Q (300 + x4) σ)) ∧ (¬ 4 < ((σ.1 2 6) - x4) → (w_X10_isWithin x5 s0 9999 (fun r_2 => (¬ r_2 = 0 → ((¬ x3 = 100 → (∀ σ_5 : St, σ_5 = wr σ 2 5 x5 → (Q 0 σ_5))) ∧ (x3 = 100 → (∀ σ_6 : St, σ_6 = wr σ 2 4 x5 → (Q 0 σ_6))))) ∧ (r_2 = 0 → (Q (300 + x4) σ)))))
set_option maxHeartbeats 4000000 in
set_option maxRecDepth 100000 in
theorem b_X2_readClause_84 (C : CX p R s m args meth c cX2_readClause 7 RX2 2 47 D cs) (hE : RI p l e R s m args below meth c cX2_readClause D cs LC q .int Q E) : ∀ (x3 : Int32) (x4 : Int32) (x5 : Int32) (s0 : Int32) (σ : St) (H : Heap) (locs : List Loc) (ls : Array Slot), OK D cs LC q s σ H locs → lv_has ls 7 [(0, .ref (q 2)), (3, .int x3), (4, .int x4), (5, .int x5)] → w_X2_readClause_84 Q x3 x4 x5 s0 σ → W p l e R s m args below meth c H locs 0 0 E (F0 m 84 ls [.int s0]) := by
  have hx := C.1
  have hb := C.2.1
  intro x3 x4 x5 s0 σ H locs ls O hl hf
  unfold w_X2_readClause_84 at hf
  refine lv_istore (lv' := [(6, .int s0), (0, .ref (q 2)), (3, .int x3), (4, .int x4), (5, .int x5)]) hx hb dX2_readClause_84 hl (by decide) rfl (fun ls hl => ?_)
  refine lv_aload_n hx hb dX2_readClause_86 rfl (lv_at hl 1 rfl) ?_
  refine r_get C O (k := 2) (j := 6) (v := .int (σ.1 2 6)) fX2_31 rfl rfl rfl dX2_readClause_87 ?_
  refine lv_iload hx hb dX2_readClause_90 (lv_at hl 3 rfl) ?_
  refine lv_isub hx hb dX2_readClause_92 ?_
  refine lv_iconst (v := 4) hx hb dX2_readClause_93 (by decide) ?_
  refine lv_icmp_gt (tgt := 110) hx hb dX2_readClause_94 (by decide) (fun c_1 => ?_) (fun c_1 => ?_)
  · have hf := hf.1 c_1
    refine lv_sipush (v := 300) hx hb dX2_readClause_110 (by decide) ?_
    refine lv_iload hx hb dX2_readClause_113 (lv_at hl 3 rfl) ?_
    refine lv_iadd hx hb dX2_readClause_115 ?_
    exact hE _ _ _ _ _ _ (vp_nar_int _) O hf dX2_readClause_116
  · have hf := hf.2 c_1
    refine lv_iload hx hb dX2_readClause_97 (lv_at hl 4 rfl) ?_
    refine lv_iload hx hb dX2_readClause_99 (lv_at hl 0 rfl) ?_
    refine lv_sipush (v := 9999) hx hb dX2_readClause_101 (by decide) ?_
    refine r_callN C hl (c_X10_isWithin l x5 s0 9999) mX2_47 (by decide) rfl rfl (Nat.le_of_ble_eq_true rfl) hf dX2_readClause_104 (fun r_2 hf => ?_)
    refine lv_if_ne (tgt := 117) hx hb dX2_readClause_107 (by decide) (fun c_3 => ?_) (fun c_3 => ?_)
    · have hf := hf.1 c_3
      refine lv_iload_n hx hb dX2_readClause_117 rfl (lv_at hl 2 rfl) ?_
      refine lv_bipush (v := 100) hx hb dX2_readClause_118 (by decide) ?_
      refine lv_icmp_ne (tgt := 132) hx hb dX2_readClause_120 (by decide) (fun c_4 => ?_) (fun c_4 => ?_)
      · have hf := hf.1 c_4
        refine lv_aload_n hx hb dX2_readClause_132 rfl (lv_at hl 1 rfl) ?_
        refine lv_iload hx hb dX2_readClause_133 (lv_at hl 4 rfl) ?_
        refine r_puti C O (k := 2) pX2_28 rfl rfl dX2_readClause_135 (fun H locs σ_5 eσ_5 O => ?_)
        have hf := hf σ_5 eσ_5
        refine lv_iconst (v := 0) hx hb dX2_readClause_138 (by decide) ?_
        exact hE _ _ _ _ _ _ (vp_nar_int _) O hf dX2_readClause_139
      · have hf := hf.2 c_4
        refine lv_aload_n hx hb dX2_readClause_123 rfl (lv_at hl 1 rfl) ?_
        refine lv_iload hx hb dX2_readClause_124 (lv_at hl 4 rfl) ?_
        refine r_puti C O (k := 2) pX2_24 rfl rfl dX2_readClause_126 (fun H locs σ_6 eσ_6 O => ?_)
        have hf := hf σ_6 eσ_6
        refine lv_goto (tgt := 138) hx hb dX2_readClause_129 (by decide) ?_
        refine lv_iconst (v := 0) hx hb dX2_readClause_138 (by decide) ?_
        exact hE _ _ _ _ _ _ (vp_nar_int _) O hf dX2_readClause_139
    · have hf := hf.2 c_3
      refine lv_sipush (v := 300) hx hb dX2_readClause_110 (by decide) ?_
      refine lv_iload hx hb dX2_readClause_113 (lv_at hl 3 rfl) ?_
      refine lv_iadd hx hb dX2_readClause_115 ?_
      exact hE _ _ _ _ _ _ (vp_nar_int _) O hf dX2_readClause_116
def w_X2_readClause_30 (Q : Int32 → St → Prop) (x2 : Int32) (x3 : Int32) (σ : St) : Prop := ∀ σ_1 : St, σ_1 = wr σ 2 6 ((σ.1 2 6) + 1) → (w_X2_readNumber x2 σ_1 (fun r_3 σ_2 => (¬ (σ_2.1 2 6) = (σ_1.1 2 6) → ((¬ x3 = 100 → (w_X2_readClause_84 Q x3 (σ_1.1 2 6) r_3 0 σ_2)) ∧ (x3 = 100 → (w_X2_readClause_84 Q x3 (σ_1.1 2 6) r_3 60 σ_2)))) ∧ ((σ_2.1 2 6) = (σ_1.1 2 6) → (Q (200 + (σ_2.1 2 6)) σ_2))))
set_option maxHeartbeats 4000000 in
set_option maxRecDepth 100000 in
theorem b_X2_readClause_30 (C : CX p R s m args meth c cX2_readClause 7 RX2 2 47 D cs) (hE : RI p l e R s m args below meth c cX2_readClause D cs LC q .int Q E) : ∀ (x2 : Int32) (x3 : Int32) (σ : St) (H : Heap) (locs : List Loc) (ls : Array Slot), OK D cs LC q s σ H locs → lv_has ls 7 [(0, .ref (q 2)), (1, .ref (q 1)), (2, .int x2), (3, .int x3)] → w_X2_readClause_30 Q x2 x3 σ → W p l e R s m args below meth c H locs 0 0 E (F0 m 30 ls []) := by
  have hx := C.1
  have hb := C.2.1
  intro x2 x3 σ H locs ls O hl hf
  unfold w_X2_readClause_30 at hf
  refine lv_aload_n hx hb dX2_readClause_30 rfl (lv_at hl 0 rfl) ?_
  refine lv_dup hx hb dX2_readClause_31 rfl ?_
  refine r_get C O (k := 2) (j := 6) (v := .int (σ.1 2 6)) fX2_31 rfl rfl rfl dX2_readClause_32 ?_
  refine lv_iconst (v := 1) hx hb dX2_readClause_35 (by decide) ?_
  refine lv_iadd hx hb dX2_readClause_36 ?_
  refine r_puti C O (k := 2) pX2_31 rfl rfl dX2_readClause_37 (fun H locs σ_1 eσ_1 O => ?_)
  have hf := hf σ_1 eσ_1
  refine lv_aload_n hx hb dX2_readClause_40 rfl (lv_at hl 0 rfl) ?_
  refine r_get C O (k := 2) (j := 6) (v := .int (σ_1.1 2 6)) fX2_31 rfl rfl rfl dX2_readClause_41 ?_
  refine lv_istore (lv' := [(4, .int (σ_1.1 2 6)), (0, .ref (q 2)), (1, .ref (q 1)), (2, .int x2), (3, .int x3)]) hx hb dX2_readClause_44 hl (by decide) rfl (fun ls hl => ?_)
  refine lv_aload_n hx hb dX2_readClause_46 rfl (lv_at hl 1 rfl) ?_
  refine lv_aload_n hx hb dX2_readClause_47 rfl (lv_at hl 2 rfl) ?_
  refine lv_iload_n hx hb dX2_readClause_48 rfl (lv_at hl 3 rfl) ?_
  refine r_callI C O hl (c_X2_readNumber l x2) mX2_44 (by decide) rfl rfl rfl rfl (Nat.le_of_ble_eq_true rfl) hf dX2_readClause_49 (fun r_3 σ_2 H locs O hf => ?_)
  refine lv_istore (lv' := [(5, .int r_3), (4, .int (σ_1.1 2 6)), (0, .ref (q 2)), (1, .ref (q 1)), (2, .int x2), (3, .int x3)]) hx hb dX2_readClause_52 hl (by decide) rfl (fun ls hl => ?_)
  refine lv_aload_n hx hb dX2_readClause_54 rfl (lv_at hl 2 rfl) ?_
  refine r_get C O (k := 2) (j := 6) (v := .int (σ_2.1 2 6)) fX2_31 rfl rfl rfl dX2_readClause_55 ?_
  refine lv_iload hx hb dX2_readClause_58 (lv_at hl 1 rfl) ?_
  refine lv_icmp_ne (tgt := 72) hx hb dX2_readClause_60 (by decide) (fun c_4 => ?_) (fun c_4 => ?_)
  · have hf := hf.1 c_4
    refine lv_iload_n hx hb dX2_readClause_72 rfl (lv_at hl 5 rfl) ?_
    refine lv_bipush (v := 100) hx hb dX2_readClause_73 (by decide) ?_
    refine lv_icmp_ne (tgt := 83) hx hb dX2_readClause_75 (by decide) (fun c_5 => ?_) (fun c_5 => ?_)
    · have hf := hf.1 c_5
      refine lv_iconst (v := 0) hx hb dX2_readClause_83 (by decide) ?_
      exact b_X2_readClause_84 C hE x3 (σ_1.1 2 6) r_3 0 σ_2 _ _ ls O (lv_sub hl [2, 5, 1, 0] rfl) hf
    · have hf := hf.2 c_5
      refine lv_bipush (v := 60) hx hb dX2_readClause_78 (by decide) ?_
      refine lv_goto (tgt := 84) hx hb dX2_readClause_80 (by decide) ?_
      exact b_X2_readClause_84 C hE x3 (σ_1.1 2 6) r_3 60 σ_2 _ _ ls O (lv_sub hl [2, 5, 1, 0] rfl) hf
  · have hf := hf.2 c_4
    refine lv_sipush (v := 200) hx hb dX2_readClause_63 (by decide) ?_
    refine lv_aload_n hx hb dX2_readClause_66 rfl (lv_at hl 2 rfl) ?_
    refine r_get C O (k := 2) (j := 6) (v := .int (σ_2.1 2 6)) fX2_31 rfl rfl rfl dX2_readClause_67 ?_
    refine lv_iadd hx hb dX2_readClause_70 ?_
    exact hE _ _ _ _ _ _ (vp_nar_int _) O hf dX2_readClause_71
def w_X2_readClause (x2 : Int32) (σ : St) (Q : Int32 → St → Prop) : Prop := w_X8_at (σ.1 2 6) x2 σ (fun r_2 σ_1 => (r_2 = 100 → (w_X2_readClause_30 Q x2 r_2 σ_1)) ∧ (¬ r_2 = 100 → ((r_2 = 114 → (w_X2_readClause_30 Q x2 r_2 σ_1)) ∧ (¬ r_2 = 114 → (Q (100 + (σ_1.1 2 6)) σ_1)))))
set_option maxHeartbeats 4000000 in
set_option maxRecDepth 100000 in
theorem b_X2_readClause (C : CX p R s m args meth c cX2_readClause 7 RX2 2 47 D cs) (hE : RI p l e R s m args below meth c cX2_readClause D cs LC q .int Q E) : ∀ (x2 : Int32) (σ : St) (H : Heap) (locs : List Loc) (ls : Array Slot), OK D cs LC q s σ H locs → lv_has ls 7 [(0, .ref (q 2)), (1, .ref (q 1)), (2, .int x2)] → w_X2_readClause x2 σ Q → W p l e R s m args below meth c H locs 0 0 E (F0 m 0 ls []) := by
  have hx := C.1
  have hb := C.2.1
  intro x2 σ H locs ls O hl hf
  unfold w_X2_readClause at hf
  refine lv_aload_n hx hb dX2_readClause_0 rfl (lv_at hl 1 rfl) ?_
  refine lv_aload_n hx hb dX2_readClause_1 rfl (lv_at hl 0 rfl) ?_
  refine r_get C O (k := 2) (j := 6) (v := .int (σ.1 2 6)) fX2_31 rfl rfl rfl dX2_readClause_2 ?_
  refine lv_iload_n hx hb dX2_readClause_5 rfl (lv_at hl 2 rfl) ?_
  refine r_callI C O hl (c_X8_at l (σ.1 2 6) x2) mX2_38 (by decide) rfl rfl rfl rfl (Nat.le_of_ble_eq_true rfl) hf dX2_readClause_6 (fun r_2 σ_1 H locs O hf => ?_)
  refine lv_istore_n (lv' := [(3, .int r_2), (0, .ref (q 2)), (1, .ref (q 1)), (2, .int x2)]) hx hb dX2_readClause_9 rfl hl (by decide) rfl (fun ls hl => ?_)
  refine lv_iload_n hx hb dX2_readClause_10 rfl (lv_at hl 0 rfl) ?_
  refine lv_bipush (v := 100) hx hb dX2_readClause_11 (by decide) ?_
  refine lv_icmp_eq (tgt := 30) hx hb dX2_readClause_13 (by decide) (fun c_3 => ?_) (fun c_3 => ?_)
  · have hf := hf.1 c_3
    exact b_X2_readClause_30 C hE x2 r_2 σ_1 _ _ ls O (lv_sub hl [1, 2, 3, 0] rfl) hf
  · have hf := hf.2 c_3
    refine lv_iload_n hx hb dX2_readClause_16 rfl (lv_at hl 0 rfl) ?_
    refine lv_bipush (v := 114) hx hb dX2_readClause_17 (by decide) ?_
    refine lv_icmp_eq (tgt := 30) hx hb dX2_readClause_19 (by decide) (fun c_4 => ?_) (fun c_4 => ?_)
    · have hf := hf.1 c_4
      exact b_X2_readClause_30 C hE x2 r_2 σ_1 _ _ ls O (lv_sub hl [1, 2, 3, 0] rfl) hf
    · have hf := hf.2 c_4
      refine lv_bipush (v := 100) hx hb dX2_readClause_22 (by decide) ?_
      refine lv_aload_n hx hb dX2_readClause_24 rfl (lv_at hl 1 rfl) ?_
      refine r_get C O (k := 2) (j := 6) (v := .int (σ_1.1 2 6)) fX2_31 rfl rfl rfl dX2_readClause_25 ?_
      refine lv_iadd hx hb dX2_readClause_28 ?_
      exact hE _ _ _ _ _ _ (vp_nar_int _) O hf dX2_readClause_29
theorem c_X2_readClause (l : Launch) (x2 : Int32) : MetI l yX2_readClause cX2_readClause 7 .int 2 47 LC 2 (fun q => [.ref (q 1), .int x2]) (w_X2_readClause x2) := mk_I (own := RX2) (by decide) rfl (fun q => Nat.le_of_ble_eq_true rfl) (fun C hE O hl hf => b_X2_readClause C hE x2 _ _ _ _ O hl hf)
end
section
variable {p : Program} {l : Launch} {e : Env} {R : Room} {s : State} {m : MethodId} {args : Array Value} {below : List Frame} {meth : Method} {c : Code} {E : State → Prop}
variable {D : va_G} {cs : Nat → ClassId} {q : Nat → Nat}
variable {Q : Int32 → St → Prop}
def w_X2_read_17 (Q : Int32 → St → Prop) : Nat → Int32 → Int32 → St → Prop
  | 0, _, _, _ => False
  | n + 1, x2, x3, σ => (x2 < x3 → (Q 0 σ)) ∧ (¬ x2 < x3 → (w_X2_readClause x2 σ (fun r_3 σ_2 => (r_3 = 0 → (w_X8_at (σ_2.1 2 6) x2 σ_2 (fun r_6 σ_5 => (¬ r_6 = ((-1)) → ((r_6 = 59 → (∀ σ_9 : St, σ_9 = wr σ_5 2 6 ((σ_5.1 2 6) + 1) → (w_X2_read_17 Q n x2 (x3 + 1) σ_9))) ∧ (¬ r_6 = 59 → (Q (400 + (σ_5.1 2 6)) σ_5)))) ∧ (r_6 = ((-1)) → (Q 0 σ_5))))) ∧ (¬ r_3 = 0 → (Q r_3 σ_2)))))
set_option maxHeartbeats 4000000 in
set_option maxRecDepth 100000 in
theorem b_X2_read_17 (C : CX p R s m args meth c cX2_read 6 RX2 3 73 D cs) (hE : RI p l e R s m args below meth c cX2_read D cs LC q .int Q E) : ∀ n : Nat, ∀ (x2 : Int32) (x3 : Int32) (σ : St) (H : Heap) (locs : List Loc) (ls : Array Slot), OK D cs LC q s σ H locs → lv_has ls 6 [(0, .ref (q 2)), (1, .ref (q 1)), (2, .int x2), (3, .int x3)] → w_X2_read_17 Q n x2 x3 σ → W p l e R s m args below meth c H locs 0 0 E (F0 m 17 ls []) := by
  have hx := C.1
  have hb := C.2.1
  intro n
  induction n with
  | zero => intro x2 x3 σ H locs ls O hl hf; exact hf.elim
  | succ n ih =>
    intro x2 x3 σ H locs ls O hl hf
    unfold w_X2_read_17 at hf
    refine lv_iload_n hx hb dX2_read_17 rfl (lv_at hl 3 rfl) ?_
    refine lv_iload_n hx hb dX2_read_18 rfl (lv_at hl 2 rfl) ?_
    refine lv_icmp_gt (tgt := 89) hx hb dX2_read_19 (by decide) (fun c_1 => ?_) (fun c_1 => ?_)
    · have hf := hf.1 c_1
      refine lv_iconst (v := 0) hx hb dX2_read_89 (by decide) ?_
      exact hE _ _ _ _ _ _ (vp_nar_int _) O hf dX2_read_90
    · have hf := hf.2 c_1
      refine lv_aload_n hx hb dX2_read_22 rfl (lv_at hl 0 rfl) ?_
      refine lv_aload_n hx hb dX2_read_23 rfl (lv_at hl 1 rfl) ?_
      refine lv_iload_n hx hb dX2_read_24 rfl (lv_at hl 2 rfl) ?_
      refine r_callI C O hl (c_X2_readClause l x2) mX2_34 (by decide) rfl rfl rfl rfl (Nat.le_of_ble_eq_true rfl) hf dX2_read_25 (fun r_3 σ_2 H locs O hf => ?_)
      refine lv_istore (lv' := [(4, .int r_3), (0, .ref (q 2)), (1, .ref (q 1)), (2, .int x2), (3, .int x3)]) hx hb dX2_read_28 hl (by decide) rfl (fun ls hl => ?_)
      refine lv_iload hx hb dX2_read_30 (lv_at hl 0 rfl) ?_
      refine lv_if_eq (tgt := 38) hx hb dX2_read_32 (by decide) (fun c_4 => ?_) (fun c_4 => ?_)
      · have hf := hf.1 c_4
        refine lv_aload_n hx hb dX2_read_38 rfl (lv_at hl 2 rfl) ?_
        refine lv_aload_n hx hb dX2_read_39 rfl (lv_at hl 1 rfl) ?_
        refine r_get C O (k := 2) (j := 6) (v := .int (σ_2.1 2 6)) fX2_31 rfl rfl rfl dX2_read_40 ?_
        refine lv_iload_n hx hb dX2_read_43 rfl (lv_at hl 3 rfl) ?_
        refine r_callI C O hl (c_X8_at l (σ_2.1 2 6) x2) mX2_38 (by decide) rfl rfl rfl rfl (Nat.le_of_ble_eq_true rfl) hf dX2_read_44 (fun r_6 σ_5 H locs O hf => ?_)
        refine lv_istore (lv' := [(5, .int r_6), (4, .int r_3), (0, .ref (q 2)), (1, .ref (q 1)), (2, .int x2), (3, .int x3)]) hx hb dX2_read_47 hl (by decide) rfl (fun ls hl => ?_)
        refine lv_iload hx hb dX2_read_49 (lv_at hl 0 rfl) ?_
        refine lv_iconst (v := (-1)) hx hb dX2_read_51 (by decide) ?_
        refine lv_icmp_ne (tgt := 57) hx hb dX2_read_52 (by decide) (fun c_7 => ?_) (fun c_7 => ?_)
        · have hf := hf.1 c_7
          refine lv_iload hx hb dX2_read_57 (lv_at hl 0 rfl) ?_
          refine lv_bipush (v := 59) hx hb dX2_read_59 (by decide) ?_
          refine lv_icmp_eq (tgt := 73) hx hb dX2_read_61 (by decide) (fun c_8 => ?_) (fun c_8 => ?_)
          · have hf := hf.1 c_8
            refine lv_aload_n hx hb dX2_read_73 rfl (lv_at hl 2 rfl) ?_
            refine lv_dup hx hb dX2_read_74 rfl ?_
            refine r_get C O (k := 2) (j := 6) (v := .int (σ_5.1 2 6)) fX2_31 rfl rfl rfl dX2_read_75 ?_
            refine lv_iconst (v := 1) hx hb dX2_read_78 (by decide) ?_
            refine lv_iadd hx hb dX2_read_79 ?_
            refine r_puti C O (k := 2) pX2_31 rfl rfl dX2_read_80 (fun H locs σ_9 eσ_9 O => ?_)
            have hf := hf σ_9 eσ_9
            refine lv_iinc (v := x3 + 1) (lv' := [(3, .int (x3 + 1)), (5, .int r_6), (4, .int r_3), (0, .ref (q 2)), (1, .ref (q 1)), (2, .int x2)]) hx hb dX2_read_83 hl (k := 5) rfl rfl (by decide) rfl (fun ls hl => ?_)
            refine lv_goto (tgt := 17) hx hb dX2_read_86 (by decide) ?_
            exact ih x2 (x3 + 1) σ_9 _ _ ls O (lv_sub hl [3, 4, 5, 0] rfl) hf
          · have hf := hf.2 c_8
            refine lv_sipush (v := 400) hx hb dX2_read_64 (by decide) ?_
            refine lv_aload_n hx hb dX2_read_67 rfl (lv_at hl 2 rfl) ?_
            refine r_get C O (k := 2) (j := 6) (v := .int (σ_5.1 2 6)) fX2_31 rfl rfl rfl dX2_read_68 ?_
            refine lv_iadd hx hb dX2_read_71 ?_
            exact hE _ _ _ _ _ _ (vp_nar_int _) O hf dX2_read_72
        · have hf := hf.2 c_7
          refine lv_iconst (v := 0) hx hb dX2_read_55 (by decide) ?_
          exact hE _ _ _ _ _ _ (vp_nar_int _) O hf dX2_read_56
      · have hf := hf.2 c_4
        refine lv_iload hx hb dX2_read_35 (lv_at hl 0 rfl) ?_
        exact hE _ _ _ _ _ _ (vp_nar_int _) O hf dX2_read_37
def w_X2_read (x2 : Int32) (σ : St) (Q : Int32 → St → Prop) : Prop := ∀ σ_1 : St, σ_1 = wr σ 2 4 ((-1)) → (∀ σ_2 : St, σ_2 = wr σ_1 2 5 ((-1)) → (∀ σ_3 : St, σ_3 = wr σ_2 2 6 0 → (∃ nn : Nat, w_X2_read_17 Q nn x2 0 σ_3)))
set_option maxHeartbeats 4000000 in
set_option maxRecDepth 100000 in
theorem b_X2_read (C : CX p R s m args meth c cX2_read 6 RX2 3 73 D cs) (hE : RI p l e R s m args below meth c cX2_read D cs LC q .int Q E) : ∀ (x2 : Int32) (σ : St) (H : Heap) (locs : List Loc) (ls : Array Slot), OK D cs LC q s σ H locs → lv_has ls 6 [(0, .ref (q 2)), (1, .ref (q 1)), (2, .int x2)] → w_X2_read x2 σ Q → W p l e R s m args below meth c H locs 0 0 E (F0 m 0 ls []) := by
  have hx := C.1
  have hb := C.2.1
  intro x2 σ H locs ls O hl hf
  unfold w_X2_read at hf
  refine lv_aload_n hx hb dX2_read_0 rfl (lv_at hl 0 rfl) ?_
  refine lv_iconst (v := (-1)) hx hb dX2_read_1 (by decide) ?_
  refine r_puti C O (k := 2) pX2_24 rfl rfl dX2_read_2 (fun H locs σ_1 eσ_1 O => ?_)
  have hf := hf σ_1 eσ_1
  refine lv_aload_n hx hb dX2_read_5 rfl (lv_at hl 0 rfl) ?_
  refine lv_iconst (v := (-1)) hx hb dX2_read_6 (by decide) ?_
  refine r_puti C O (k := 2) pX2_28 rfl rfl dX2_read_7 (fun H locs σ_2 eσ_2 O => ?_)
  have hf := hf σ_2 eσ_2
  refine lv_aload_n hx hb dX2_read_10 rfl (lv_at hl 0 rfl) ?_
  refine lv_iconst (v := 0) hx hb dX2_read_11 (by decide) ?_
  refine r_puti C O (k := 2) pX2_31 rfl rfl dX2_read_12 (fun H locs σ_3 eσ_3 O => ?_)
  have hf := hf σ_3 eσ_3
  refine lv_iconst (v := 0) hx hb dX2_read_15 (by decide) ?_
  refine lv_istore_n (lv' := [(3, .int 0), (0, .ref (q 2)), (1, .ref (q 1)), (2, .int x2)]) hx hb dX2_read_16 rfl hl (by decide) rfl (fun ls hl => ?_)
  obtain ⟨nn, hf⟩ := hf
  exact b_X2_read_17 C hE nn x2 0 σ_3 _ _ ls O (lv_sub hl [1, 2, 3, 0] rfl) hf
theorem c_X2_read (l : Launch) (x2 : Int32) : MetI l yX2_read cX2_read 6 .int 3 73 LC 2 (fun q => [.ref (q 1), .int x2]) (w_X2_read x2) := mk_I (own := RX2) (by decide) rfl (fun q => Nat.le_of_ble_eq_true rfl) (fun C hE O hl hf => b_X2_read C hE x2 _ _ _ _ O hl hf)
end
section
variable {p : Program} {l : Launch} {e : Env} {R : Room} {s : State} {m : MethodId} {args : Array Value} {below : List Frame} {meth : Method} {c : Code} {E : State → Prop}
variable {D : va_G} {cs : Nat → ClassId} {q : Nat → Nat}
variable {Q : St → Prop}
def w_X2_enact_91 (Q : St → Prop) (K39 : Int32 → Int32 → Int32 → St → Prop) (x2 : Int32) (x4 : Int32) (s0 : Int32) (σ : St) : Prop := vp_in x4 7 ∧ (∀ σ_1 : St, σ_1 = wr σ 14 x4.toNatClampNeg x2 → (vp_in x4 7 ∧ (∀ σ_2 : St, σ_2 = wr σ_1 15 x4.toNatClampNeg s0 → (K39 x2 s0 (x4 + 1) σ_2))))
set_option maxHeartbeats 4000000 in
set_option maxRecDepth 100000 in
theorem b_X2_enact_91 (C : CX p R s m args meth c cX2_enact 5 RX2 1 20 D cs) (hE : RV p l e R s m args below meth c cX2_enact D cs LC q Q E) {K39 : Int32 → Int32 → Int32 → St → Prop} (hK39 : ∀ (x2 : Int32) (x3 : Int32) (x4 : Int32) (σ : St) (H : Heap) (locs : List Loc) (ls : Array Slot), OK D cs LC q s σ H locs → lv_has ls 5 [(0, .ref (q 2)), (2, .int x2), (3, .int x3), (4, .int x4)] → K39 x2 x3 x4 σ → W p l e R s m args below meth c H locs 0 0 E (F0 m 39 ls [])) : ∀ (x2 : Int32) (x4 : Int32) (s0 : Int32) (σ : St) (H : Heap) (locs : List Loc) (ls : Array Slot), OK D cs LC q s σ H locs → lv_has ls 5 [(0, .ref (q 2)), (2, .int x2), (4, .int x4)] → w_X2_enact_91 Q K39 x2 x4 s0 σ → W p l e R s m args below meth c H locs 0 0 E (F0 m 91 ls [.int s0]) := by
  have hx := C.1
  have hb := C.2.1
  intro x2 x4 s0 σ H locs ls O hl hf
  unfold w_X2_enact_91 at hf
  refine lv_istore_n (lv' := [(3, .int s0), (0, .ref (q 2)), (2, .int x2), (4, .int x4)]) hx hb dX2_enact_91 rfl hl (by decide) rfl (fun ls hl => ?_)
  refine lv_aload_n hx hb dX2_enact_92 rfl (lv_at hl 1 rfl) ?_
  refine r_get C O (k := 2) (j := 2) (v := .ref (q 14)) fX2_18 rfl rfl rfl dX2_enact_93 ?_
  refine lv_iload hx hb dX2_enact_96 (lv_at hl 3 rfl) ?_
  refine lv_iload_n hx hb dX2_enact_98 rfl (lv_at hl 2 rfl) ?_
  refine r_iast C O (k := 14) rfl hf.1 dX2_enact_99 (fun H locs σ_1 eσ_1 O => ?_)
  have hf := hf.2 σ_1 eσ_1
  refine lv_aload_n hx hb dX2_enact_100 rfl (lv_at hl 1 rfl) ?_
  refine r_get C O (k := 2) (j := 3) (v := .ref (q 15)) fX2_21 rfl rfl rfl dX2_enact_101 ?_
  refine lv_iload hx hb dX2_enact_104 (lv_at hl 3 rfl) ?_
  refine lv_iload_n hx hb dX2_enact_106 rfl (lv_at hl 0 rfl) ?_
  refine r_iast C O (k := 15) rfl hf.1 dX2_enact_107 (fun H locs σ_2 eσ_2 O => ?_)
  have hf := hf.2 σ_2 eσ_2
  refine lv_iinc (v := x4 + 1) (lv' := [(4, .int (x4 + 1)), (3, .int s0), (0, .ref (q 2)), (2, .int x2)]) hx hb dX2_enact_108 hl (k := 3) rfl rfl (by decide) rfl (fun ls hl => ?_)
  refine lv_goto (tgt := 39) hx hb dX2_enact_111 (by decide) ?_
  exact hK39 x2 s0 (x4 + 1) σ_2 _ _ ls O (lv_sub hl [2, 3, 1, 0] rfl) hf
def w_X2_enact_68 (Q : St → Prop) (K39 : Int32 → Int32 → Int32 → St → Prop) (x3 : Int32) (x4 : Int32) (s0 : Int32) (σ : St) : Prop := vp_in x4 7 ∧ ((¬ (σ.1 13 x4.toNatClampNeg) = ((-1)) → (vp_in x4 7 ∧ (w_X2_enact_91 Q K39 s0 x4 (σ.1 13 x4.toNatClampNeg) σ))) ∧ ((σ.1 13 x4.toNatClampNeg) = ((-1)) → (w_X2_enact_91 Q K39 s0 x4 x3 σ)))
set_option maxHeartbeats 4000000 in
set_option maxRecDepth 100000 in
theorem b_X2_enact_68 (C : CX p R s m args meth c cX2_enact 5 RX2 1 20 D cs) (hE : RV p l e R s m args below meth c cX2_enact D cs LC q Q E) {K39 : Int32 → Int32 → Int32 → St → Prop} (hK39 : ∀ (x2 : Int32) (x3 : Int32) (x4 : Int32) (σ : St) (H : Heap) (locs : List Loc) (ls : Array Slot), OK D cs LC q s σ H locs → lv_has ls 5 [(0, .ref (q 2)), (2, .int x2), (3, .int x3), (4, .int x4)] → K39 x2 x3 x4 σ → W p l e R s m args below meth c H locs 0 0 E (F0 m 39 ls [])) : ∀ (x3 : Int32) (x4 : Int32) (s0 : Int32) (σ : St) (H : Heap) (locs : List Loc) (ls : Array Slot), OK D cs LC q s σ H locs → lv_has ls 5 [(0, .ref (q 2)), (3, .int x3), (4, .int x4)] → w_X2_enact_68 Q K39 x3 x4 s0 σ → W p l e R s m args below meth c H locs 0 0 E (F0 m 68 ls [.int s0]) := by
  have hx := C.1
  have hb := C.2.1
  intro x3 x4 s0 σ H locs ls O hl hf
  unfold w_X2_enact_68 at hf
  refine lv_istore_n (lv' := [(2, .int s0), (0, .ref (q 2)), (3, .int x3), (4, .int x4)]) hx hb dX2_enact_68 rfl hl (by decide) rfl (fun ls hl => ?_)
  refine lv_aload_n hx hb dX2_enact_69 rfl (lv_at hl 1 rfl) ?_
  refine r_get C O (k := 2) (j := 1) (v := .ref (q 13)) fX2_15 rfl rfl rfl dX2_enact_70 ?_
  refine lv_iload hx hb dX2_enact_73 (lv_at hl 3 rfl) ?_
  refine r_iald C O (k := 13) rfl hf.1 dX2_enact_75 ?_
  have hf := hf.2
  refine lv_iconst (v := (-1)) hx hb dX2_enact_76 (by decide) ?_
  refine lv_icmp_ne (tgt := 84) hx hb dX2_enact_77 (by decide) (fun c_1 => ?_) (fun c_1 => ?_)
  · have hf := hf.1 c_1
    refine lv_aload_n hx hb dX2_enact_84 rfl (lv_at hl 1 rfl) ?_
    refine r_get C O (k := 2) (j := 1) (v := .ref (q 13)) fX2_15 rfl rfl rfl dX2_enact_85 ?_
    refine lv_iload hx hb dX2_enact_88 (lv_at hl 3 rfl) ?_
    refine r_iald C O (k := 13) rfl hf.1 dX2_enact_90 ?_
    have hf := hf.2
    exact b_X2_enact_91 C hE hK39 s0 x4 (σ.1 13 x4.toNatClampNeg) σ _ _ ls O (lv_sub hl [1, 0, 3] rfl) hf
  · have hf := hf.2 c_1
    refine lv_iload_n hx hb dX2_enact_80 rfl (lv_at hl 2 rfl) ?_
    refine lv_goto (tgt := 91) hx hb dX2_enact_81 (by decide) ?_
    exact b_X2_enact_91 C hE hK39 s0 x4 x3 σ _ _ ls O (lv_sub hl [1, 0, 3] rfl) hf
def w_X2_enact_39 (Q : St → Prop) : Nat → Int32 → Int32 → Int32 → St → Prop
  | 0, _, _, _, _ => False
  | n + 1, x2, x3, x4, σ => (7 ≤ x4 → (Q σ)) ∧ (¬ 7 ≤ x4 → (vp_in x4 7 ∧ ((¬ (σ.1 12 x4.toNatClampNeg) = ((-1)) → (vp_in x4 7 ∧ (w_X2_enact_68 Q (fun x2 x3 x4 σ => w_X2_enact_39 Q n x2 x3 x4 σ) x3 x4 (σ.1 12 x4.toNatClampNeg) σ))) ∧ ((σ.1 12 x4.toNatClampNeg) = ((-1)) → (w_X2_enact_68 Q (fun x2 x3 x4 σ => w_X2_enact_39 Q n x2 x3 x4 σ) x3 x4 x2 σ)))))
set_option maxHeartbeats 4000000 in
set_option maxRecDepth 100000 in
theorem b_X2_enact_39 (C : CX p R s m args meth c cX2_enact 5 RX2 1 20 D cs) (hE : RV p l e R s m args below meth c cX2_enact D cs LC q Q E) : ∀ n : Nat, ∀ (x2 : Int32) (x3 : Int32) (x4 : Int32) (σ : St) (H : Heap) (locs : List Loc) (ls : Array Slot), OK D cs LC q s σ H locs → lv_has ls 5 [(0, .ref (q 2)), (2, .int x2), (3, .int x3), (4, .int x4)] → w_X2_enact_39 Q n x2 x3 x4 σ → W p l e R s m args below meth c H locs 0 0 E (F0 m 39 ls []) := by
  have hx := C.1
  have hb := C.2.1
  intro n
  induction n with
  | zero => intro x2 x3 x4 σ H locs ls O hl hf; exact hf.elim
  | succ n ih =>
    intro x2 x3 x4 σ H locs ls O hl hf
    unfold w_X2_enact_39 at hf
    refine lv_iload hx hb dX2_enact_39 (lv_at hl 3 rfl) ?_
    refine lv_bipush (v := 7) hx hb dX2_enact_41 (by decide) ?_
    refine lv_icmp_ge (tgt := 114) hx hb dX2_enact_43 (by decide) (fun c_1 => ?_) (fun c_1 => ?_)
    · have hf := hf.1 c_1
      exact hE _ _ _ _ _ O hf dX2_enact_114
    · have hf := hf.2 c_1
      refine lv_aload_n hx hb dX2_enact_46 rfl (lv_at hl 0 rfl) ?_
      refine r_get C O (k := 2) (j := 0) (v := .ref (q 12)) fX2_9 rfl rfl rfl dX2_enact_47 ?_
      refine lv_iload hx hb dX2_enact_50 (lv_at hl 3 rfl) ?_
      refine r_iald C O (k := 12) rfl hf.1 dX2_enact_52 ?_
      have hf := hf.2
      refine lv_iconst (v := (-1)) hx hb dX2_enact_53 (by decide) ?_
      refine lv_icmp_ne (tgt := 61) hx hb dX2_enact_54 (by decide) (fun c_2 => ?_) (fun c_2 => ?_)
      · have hf := hf.1 c_2
        refine lv_aload_n hx hb dX2_enact_61 rfl (lv_at hl 0 rfl) ?_
        refine r_get C O (k := 2) (j := 0) (v := .ref (q 12)) fX2_9 rfl rfl rfl dX2_enact_62 ?_
        refine lv_iload hx hb dX2_enact_65 (lv_at hl 3 rfl) ?_
        refine r_iald C O (k := 12) rfl hf.1 dX2_enact_67 ?_
        have hf := hf.2
        exact b_X2_enact_68 C hE ih x3 x4 (σ.1 12 x4.toNatClampNeg) σ _ _ ls O (lv_sub hl [0, 2, 3] rfl) hf
      · have hf := hf.2 c_2
        refine lv_iload_n hx hb dX2_enact_57 rfl (lv_at hl 1 rfl) ?_
        refine lv_goto (tgt := 68) hx hb dX2_enact_58 (by decide) ?_
        exact b_X2_enact_68 C hE ih x3 x4 x2 σ _ _ ls O (lv_sub hl [0, 2, 3] rfl) hf
def w_X2_enact (x1 : Int32) (σ : St) (Q : St → Prop) : Prop := w_X10_isDay x1 (fun r_1 => (¬ r_1 = 0 → (vp_in x1 7 ∧ (∀ σ_3 : St, σ_3 = wr σ 12 x1.toNatClampNeg (σ.1 2 4) → (vp_in x1 7 ∧ (∀ σ_4 : St, σ_4 = wr σ_3 13 x1.toNatClampNeg (σ_3.1 2 5) → (∃ nn : Nat, w_X2_enact_39 Q nn 840 600 0 σ_4)))))) ∧ (r_1 = 0 → (Q σ)))
set_option maxHeartbeats 4000000 in
set_option maxRecDepth 100000 in
theorem b_X2_enact (C : CX p R s m args meth c cX2_enact 5 RX2 1 20 D cs) (hE : RV p l e R s m args below meth c cX2_enact D cs LC q Q E) : ∀ (x1 : Int32) (σ : St) (H : Heap) (locs : List Loc) (ls : Array Slot), OK D cs LC q s σ H locs → lv_has ls 5 [(0, .ref (q 2)), (1, .int x1)] → w_X2_enact x1 σ Q → W p l e R s m args below meth c H locs 0 0 E (F0 m 0 ls []) := by
  have hx := C.1
  have hb := C.2.1
  intro x1 σ H locs ls O hl hf
  unfold w_X2_enact at hf
  refine lv_iload_n hx hb dX2_enact_0 rfl (lv_at hl 1 rfl) ?_
  refine r_callN C hl (c_X10_isDay l x1) mX2_51 (by decide) rfl rfl (Nat.le_of_ble_eq_true rfl) hf dX2_enact_1 (fun r_1 hf => ?_)
  refine lv_if_ne (tgt := 8) hx hb dX2_enact_4 (by decide) (fun c_2 => ?_) (fun c_2 => ?_)
  · have hf := hf.1 c_2
    refine lv_aload_n hx hb dX2_enact_8 rfl (lv_at hl 0 rfl) ?_
    refine r_get C O (k := 2) (j := 0) (v := .ref (q 12)) fX2_9 rfl rfl rfl dX2_enact_9 ?_
    refine lv_iload_n hx hb dX2_enact_12 rfl (lv_at hl 1 rfl) ?_
    refine lv_aload_n hx hb dX2_enact_13 rfl (lv_at hl 0 rfl) ?_
    refine r_get C O (k := 2) (j := 4) (v := .int (σ.1 2 4)) fX2_24 rfl rfl rfl dX2_enact_14 ?_
    refine r_iast C O (k := 12) rfl hf.1 dX2_enact_17 (fun H locs σ_3 eσ_3 O => ?_)
    have hf := hf.2 σ_3 eσ_3
    refine lv_aload_n hx hb dX2_enact_18 rfl (lv_at hl 0 rfl) ?_
    refine r_get C O (k := 2) (j := 1) (v := .ref (q 13)) fX2_15 rfl rfl rfl dX2_enact_19 ?_
    refine lv_iload_n hx hb dX2_enact_22 rfl (lv_at hl 1 rfl) ?_
    refine lv_aload_n hx hb dX2_enact_23 rfl (lv_at hl 0 rfl) ?_
    refine r_get C O (k := 2) (j := 5) (v := .int (σ_3.1 2 5)) fX2_28 rfl rfl rfl dX2_enact_24 ?_
    refine r_iast C O (k := 13) rfl hf.1 dX2_enact_27 (fun H locs σ_4 eσ_4 O => ?_)
    have hf := hf.2 σ_4 eσ_4
    refine lv_sipush (v := 840) hx hb dX2_enact_28 (by decide) ?_
    refine lv_istore_n (lv' := [(2, .int 840), (0, .ref (q 2)), (1, .int x1)]) hx hb dX2_enact_31 rfl hl (by decide) rfl (fun ls hl => ?_)
    refine lv_sipush (v := 600) hx hb dX2_enact_32 (by decide) ?_
    refine lv_istore_n (lv' := [(3, .int 600), (2, .int 840), (0, .ref (q 2)), (1, .int x1)]) hx hb dX2_enact_35 rfl hl (by decide) rfl (fun ls hl => ?_)
    refine lv_iconst (v := 0) hx hb dX2_enact_36 (by decide) ?_
    refine lv_istore (lv' := [(4, .int 0), (3, .int 600), (2, .int 840), (0, .ref (q 2)), (1, .int x1)]) hx hb dX2_enact_37 hl (by decide) rfl (fun ls hl => ?_)
    obtain ⟨nn, hf⟩ := hf
    exact b_X2_enact_39 C hE nn 840 600 0 σ_4 _ _ ls O (lv_sub hl [3, 2, 1, 0] rfl) hf
  · have hf := hf.2 c_2
    exact hE _ _ _ _ _ O hf dX2_enact_7
theorem c_X2_enact (l : Launch) (x1 : Int32) : MetV l yX2_enact cX2_enact 5 1 20 LC 2 (fun q => [.int x1]) (w_X2_enact x1) := mk_V (own := RX2) (by decide) rfl (fun q => Nat.le_of_ble_eq_true rfl) (fun C hE O hl hf => b_X2_enact C hE x1 _ _ _ _ O hl hf)
end
section
variable {p : Program} {l : Launch} {e : Env} {R : Room} {s : State} {m : MethodId} {args : Array Value} {below : List Frame} {meth : Method} {c : Code} {E : State → Prop}
variable {D : va_G} {cs : Nat → ClassId} {q : Nat → Nat}
variable {Q : Int32 → St → Prop}
def w_X3_add (x1 : Int32) (x2 : Int32) (x3 : Int32) (x4 : Int32) (x5 : Int32) (σ : St) (Q : Int32 → St → Prop) : Prop := ((σ.1 10 7) < 40 → (vp_in (σ.1 10 7) 40 ∧ (∀ σ_2 : St, σ_2 = wr σ 38 (σ.1 10 7).toNatClampNeg 0 → (vp_in (σ_2.1 10 7) 40 ∧ (∀ σ_3 : St, σ_3 = wr σ_2 39 (σ_2.1 10 7).toNatClampNeg x1 → (vp_in (σ_3.1 10 7) 40 ∧ (∀ σ_4 : St, σ_4 = wr σ_3 40 (σ_3.1 10 7).toNatClampNeg x2 → (vp_in (σ_4.1 10 7) 40 ∧ (∀ σ_5 : St, σ_5 = wr σ_4 41 (σ_4.1 10 7).toNatClampNeg x3 → (vp_in (σ_5.1 10 7) 40 ∧ (∀ σ_6 : St, σ_6 = wr σ_5 42 (σ_5.1 10 7).toNatClampNeg x4 → (vp_in (σ_6.1 10 7) 40 ∧ (∀ σ_7 : St, σ_7 = wr σ_6 43 (σ_6.1 10 7).toNatClampNeg x5 → (vp_in (σ_7.1 10 7) 40 ∧ (∀ σ_8 : St, σ_8 = wr σ_7 44 (σ_7.1 10 7).toNatClampNeg ((-1)) → (∀ σ_9 : St, σ_9 = wr σ_8 10 7 ((σ_8.1 10 7) + 1) → (Q ((σ_9.1 10 7) - 1) σ_9))))))))))))))))) ∧ (¬ (σ.1 10 7) < 40 → (Q ((-1)) σ))
set_option maxHeartbeats 4000000 in
set_option maxRecDepth 100000 in
theorem b_X3_add (C : CX p R s m args meth c cX3_add 6 RX3 0 0 D cs) (hE : RI p l e R s m args below meth c cX3_add D cs LC q .int Q E) : ∀ (x1 : Int32) (x2 : Int32) (x3 : Int32) (x4 : Int32) (x5 : Int32) (σ : St) (H : Heap) (locs : List Loc) (ls : Array Slot), OK D cs LC q s σ H locs → lv_has ls 6 [(0, .ref (q 10)), (1, .int x1), (2, .int x2), (3, .int x3), (4, .int x4), (5, .int x5)] → w_X3_add x1 x2 x3 x4 x5 σ Q → W p l e R s m args below meth c H locs 0 0 E (F0 m 0 ls []) := by
  have hx := C.1
  have hb := C.2.1
  intro x1 x2 x3 x4 x5 σ H locs ls O hl hf
  unfold w_X3_add at hf
  refine lv_aload_n hx hb dX3_add_0 rfl (lv_at hl 0 rfl) ?_
  refine r_get C O (k := 10) (j := 7) (v := .int (σ.1 10 7)) fX3_33 rfl rfl rfl dX3_add_1 ?_
  refine lv_bipush (v := 40) hx hb dX3_add_4 (by decide) ?_
  refine lv_icmp_lt (tgt := 11) hx hb dX3_add_6 (by decide) (fun c_1 => ?_) (fun c_1 => ?_)
  · have hf := hf.1 c_1
    refine lv_aload_n hx hb dX3_add_11 rfl (lv_at hl 0 rfl) ?_
    refine r_get C O (k := 10) (j := 0) (v := .ref (q 38)) fX3_11 rfl rfl rfl dX3_add_12 ?_
    refine lv_aload_n hx hb dX3_add_15 rfl (lv_at hl 0 rfl) ?_
    refine r_get C O (k := 10) (j := 7) (v := .int (σ.1 10 7)) fX3_33 rfl rfl rfl dX3_add_16 ?_
    refine lv_iconst (v := 0) hx hb dX3_add_19 (by decide) ?_
    refine r_iast C O (k := 38) rfl hf.1 dX3_add_20 (fun H locs σ_2 eσ_2 O => ?_)
    have hf := hf.2 σ_2 eσ_2
    refine lv_aload_n hx hb dX3_add_21 rfl (lv_at hl 0 rfl) ?_
    refine r_get C O (k := 10) (j := 1) (v := .ref (q 39)) fX3_15 rfl rfl rfl dX3_add_22 ?_
    refine lv_aload_n hx hb dX3_add_25 rfl (lv_at hl 0 rfl) ?_
    refine r_get C O (k := 10) (j := 7) (v := .int (σ_2.1 10 7)) fX3_33 rfl rfl rfl dX3_add_26 ?_
    refine lv_iload_n hx hb dX3_add_29 rfl (lv_at hl 1 rfl) ?_
    refine r_iast C O (k := 39) rfl hf.1 dX3_add_30 (fun H locs σ_3 eσ_3 O => ?_)
    have hf := hf.2 σ_3 eσ_3
    refine lv_aload_n hx hb dX3_add_31 rfl (lv_at hl 0 rfl) ?_
    refine r_get C O (k := 10) (j := 2) (v := .ref (q 40)) fX3_18 rfl rfl rfl dX3_add_32 ?_
    refine lv_aload_n hx hb dX3_add_35 rfl (lv_at hl 0 rfl) ?_
    refine r_get C O (k := 10) (j := 7) (v := .int (σ_3.1 10 7)) fX3_33 rfl rfl rfl dX3_add_36 ?_
    refine lv_iload_n hx hb dX3_add_39 rfl (lv_at hl 2 rfl) ?_
    refine r_iast C O (k := 40) rfl hf.1 dX3_add_40 (fun H locs σ_4 eσ_4 O => ?_)
    have hf := hf.2 σ_4 eσ_4
    refine lv_aload_n hx hb dX3_add_41 rfl (lv_at hl 0 rfl) ?_
    refine r_get C O (k := 10) (j := 3) (v := .ref (q 41)) fX3_21 rfl rfl rfl dX3_add_42 ?_
    refine lv_aload_n hx hb dX3_add_45 rfl (lv_at hl 0 rfl) ?_
    refine r_get C O (k := 10) (j := 7) (v := .int (σ_4.1 10 7)) fX3_33 rfl rfl rfl dX3_add_46 ?_
    refine lv_iload_n hx hb dX3_add_49 rfl (lv_at hl 3 rfl) ?_
    refine r_iast C O (k := 41) rfl hf.1 dX3_add_50 (fun H locs σ_5 eσ_5 O => ?_)
    have hf := hf.2 σ_5 eσ_5
    refine lv_aload_n hx hb dX3_add_51 rfl (lv_at hl 0 rfl) ?_
    refine r_get C O (k := 10) (j := 4) (v := .ref (q 42)) fX3_24 rfl rfl rfl dX3_add_52 ?_
    refine lv_aload_n hx hb dX3_add_55 rfl (lv_at hl 0 rfl) ?_
    refine r_get C O (k := 10) (j := 7) (v := .int (σ_5.1 10 7)) fX3_33 rfl rfl rfl dX3_add_56 ?_
    refine lv_iload hx hb dX3_add_59 (lv_at hl 4 rfl) ?_
    refine r_iast C O (k := 42) rfl hf.1 dX3_add_61 (fun H locs σ_6 eσ_6 O => ?_)
    have hf := hf.2 σ_6 eσ_6
    refine lv_aload_n hx hb dX3_add_62 rfl (lv_at hl 0 rfl) ?_
    refine r_get C O (k := 10) (j := 5) (v := .ref (q 43)) fX3_27 rfl rfl rfl dX3_add_63 ?_
    refine lv_aload_n hx hb dX3_add_66 rfl (lv_at hl 0 rfl) ?_
    refine r_get C O (k := 10) (j := 7) (v := .int (σ_6.1 10 7)) fX3_33 rfl rfl rfl dX3_add_67 ?_
    refine lv_iload hx hb dX3_add_70 (lv_at hl 5 rfl) ?_
    refine r_iast C O (k := 43) rfl hf.1 dX3_add_72 (fun H locs σ_7 eσ_7 O => ?_)
    have hf := hf.2 σ_7 eσ_7
    refine lv_aload_n hx hb dX3_add_73 rfl (lv_at hl 0 rfl) ?_
    refine r_get C O (k := 10) (j := 6) (v := .ref (q 44)) fX3_30 rfl rfl rfl dX3_add_74 ?_
    refine lv_aload_n hx hb dX3_add_77 rfl (lv_at hl 0 rfl) ?_
    refine r_get C O (k := 10) (j := 7) (v := .int (σ_7.1 10 7)) fX3_33 rfl rfl rfl dX3_add_78 ?_
    refine lv_iconst (v := (-1)) hx hb dX3_add_81 (by decide) ?_
    refine r_iast C O (k := 44) rfl hf.1 dX3_add_82 (fun H locs σ_8 eσ_8 O => ?_)
    have hf := hf.2 σ_8 eσ_8
    refine lv_aload_n hx hb dX3_add_83 rfl (lv_at hl 0 rfl) ?_
    refine lv_dup hx hb dX3_add_84 rfl ?_
    refine r_get C O (k := 10) (j := 7) (v := .int (σ_8.1 10 7)) fX3_33 rfl rfl rfl dX3_add_85 ?_
    refine lv_iconst (v := 1) hx hb dX3_add_88 (by decide) ?_
    refine lv_iadd hx hb dX3_add_89 ?_
    refine r_puti C O (k := 10) pX3_33 rfl rfl dX3_add_90 (fun H locs σ_9 eσ_9 O => ?_)
    have hf := hf σ_9 eσ_9
    refine lv_aload_n hx hb dX3_add_93 rfl (lv_at hl 0 rfl) ?_
    refine r_get C O (k := 10) (j := 7) (v := .int (σ_9.1 10 7)) fX3_33 rfl rfl rfl dX3_add_94 ?_
    refine lv_iconst (v := 1) hx hb dX3_add_97 (by decide) ?_
    refine lv_isub hx hb dX3_add_98 ?_
    exact hE _ _ _ _ _ _ (vp_nar_int _) O hf dX3_add_99
  · have hf := hf.2 c_1
    refine lv_iconst (v := (-1)) hx hb dX3_add_9 (by decide) ?_
    exact hE _ _ _ _ _ _ (vp_nar_int _) O hf dX3_add_10
theorem c_X3_add (l : Launch) (x1 : Int32) (x2 : Int32) (x3 : Int32) (x4 : Int32) (x5 : Int32) : MetI l yX3_add cX3_add 6 .int 0 0 LC 10 (fun q => [.int x1, .int x2, .int x3, .int x4, .int x5]) (w_X3_add x1 x2 x3 x4 x5) := mk_I (own := RX3) (by decide) rfl (fun q => Nat.le_of_ble_eq_true rfl) (fun C hE O hl hf => b_X3_add C hE x1 x2 x3 x4 x5 _ _ _ _ O hl hf)
end
section
variable {p : Program} {l : Launch} {e : Env} {R : Room} {s : State} {m : MethodId} {args : Array Value} {below : List Frame} {meth : Method} {c : Code} {E : State → Prop}
variable {D : va_G} {cs : Nat → ClassId} {q : Nat → Nat}
variable {Q : Int32 → St → Prop}
def w_X3_has (x1 : Int32) (σ : St) (Q : Int32 → St → Prop) : Prop := (x1 < 0 → (Q 0 σ)) ∧ (¬ x1 < 0 → (((σ.1 10 7) ≤ x1 → (Q 0 σ)) ∧ (¬ (σ.1 10 7) ≤ x1 → (Q 1 σ))))
set_option maxHeartbeats 4000000 in
set_option maxRecDepth 100000 in
theorem b_X3_has (C : CX p R s m args meth c cX3_has 2 RX3 0 0 D cs) (hE : RI p l e R s m args below meth c cX3_has D cs LC q .boolean Q E) : ∀ (x1 : Int32) (σ : St) (H : Heap) (locs : List Loc) (ls : Array Slot), OK D cs LC q s σ H locs → lv_has ls 2 [(0, .ref (q 10)), (1, .int x1)] → w_X3_has x1 σ Q → W p l e R s m args below meth c H locs 0 0 E (F0 m 0 ls []) := by
  have hx := C.1
  have hb := C.2.1
  intro x1 σ H locs ls O hl hf
  unfold w_X3_has at hf
  refine lv_iload_n hx hb dX3_has_0 rfl (lv_at hl 1 rfl) ?_
  refine lv_if_lt (tgt := 16) hx hb dX3_has_1 (by decide) (fun c_1 => ?_) (fun c_1 => ?_)
  · have hf := hf.1 c_1
    refine lv_iconst (v := 0) hx hb dX3_has_16 (by decide) ?_
    exact hE _ _ _ _ _ _ rfl O hf dX3_has_17
  · have hf := hf.2 c_1
    refine lv_iload_n hx hb dX3_has_4 rfl (lv_at hl 1 rfl) ?_
    refine lv_aload_n hx hb dX3_has_5 rfl (lv_at hl 0 rfl) ?_
    refine r_get C O (k := 10) (j := 7) (v := .int (σ.1 10 7)) fX3_33 rfl rfl rfl dX3_has_6 ?_
    refine lv_icmp_ge (tgt := 16) hx hb dX3_has_9 (by decide) (fun c_2 => ?_) (fun c_2 => ?_)
    · have hf := hf.1 c_2
      refine lv_iconst (v := 0) hx hb dX3_has_16 (by decide) ?_
      exact hE _ _ _ _ _ _ rfl O hf dX3_has_17
    · have hf := hf.2 c_2
      refine lv_iconst (v := 1) hx hb dX3_has_12 (by decide) ?_
      refine lv_goto (tgt := 17) hx hb dX3_has_13 (by decide) ?_
      exact hE _ _ _ _ _ _ rfl O hf dX3_has_17
theorem c_X3_has (l : Launch) (x1 : Int32) : MetI l yX3_has cX3_has 2 .boolean 0 0 LC 10 (fun q => [.int x1]) (w_X3_has x1) := mk_I (own := RX3) (by decide) rfl (fun q => Nat.le_of_ble_eq_true rfl) (fun C hE O hl hf => b_X3_has C hE x1 _ _ _ _ O hl hf)
end
section
variable {p : Program} {l : Launch} {e : Env} {R : Room} {s : State} {m : MethodId} {args : Array Value} {below : List Frame} {meth : Method} {c : Code} {E : State → Prop}
variable {D : va_G} {cs : Nat → ClassId} {q : Nat → Nat}
variable {Q : St → Prop}
def w_X3_sell (x1 : Int32) (x2 : Int32) (σ : St) (Q : St → Prop) : Prop := w_X3_has x1 σ (fun r_2 σ_1 => (r_2 = 0 → (Q σ_1)) ∧ (¬ r_2 = 0 → (vp_in x1 40 ∧ (∀ σ_4 : St, σ_4 = wr σ_1 38 x1.toNatClampNeg 1 → (vp_in x1 40 ∧ (∀ σ_5 : St, σ_5 = wr σ_4 44 x1.toNatClampNeg x2 → (Q σ_5)))))))
set_option maxHeartbeats 4000000 in
set_option maxRecDepth 100000 in
theorem b_X3_sell (C : CX p R s m args meth c cX3_sell 3 RX3 1 21 D cs) (hE : RV p l e R s m args below meth c cX3_sell D cs LC q Q E) : ∀ (x1 : Int32) (x2 : Int32) (σ : St) (H : Heap) (locs : List Loc) (ls : Array Slot), OK D cs LC q s σ H locs → lv_has ls 3 [(0, .ref (q 10)), (1, .int x1), (2, .int x2)] → w_X3_sell x1 x2 σ Q → W p l e R s m args below meth c H locs 0 0 E (F0 m 0 ls []) := by
  have hx := C.1
  have hb := C.2.1
  intro x1 x2 σ H locs ls O hl hf
  unfold w_X3_sell at hf
  refine lv_aload_n hx hb dX3_sell_0 rfl (lv_at hl 0 rfl) ?_
  refine lv_iload_n hx hb dX3_sell_1 rfl (lv_at hl 1 rfl) ?_
  refine r_callI C O hl (c_X3_has l x1) mX3_37 (by decide) rfl rfl rfl rfl (Nat.le_of_ble_eq_true rfl) hf dX3_sell_2 (fun r_2 σ_1 H locs O hf => ?_)
  refine lv_if_eq (tgt := 22) hx hb dX3_sell_5 (by decide) (fun c_3 => ?_) (fun c_3 => ?_)
  · have hf := hf.1 c_3
    exact hE _ _ _ _ _ O hf dX3_sell_22
  · have hf := hf.2 c_3
    refine lv_aload_n hx hb dX3_sell_8 rfl (lv_at hl 0 rfl) ?_
    refine r_get C O (k := 10) (j := 0) (v := .ref (q 38)) fX3_11 rfl rfl rfl dX3_sell_9 ?_
    refine lv_iload_n hx hb dX3_sell_12 rfl (lv_at hl 1 rfl) ?_
    refine lv_iconst (v := 1) hx hb dX3_sell_13 (by decide) ?_
    refine r_iast C O (k := 38) rfl hf.1 dX3_sell_14 (fun H locs σ_4 eσ_4 O => ?_)
    have hf := hf.2 σ_4 eσ_4
    refine lv_aload_n hx hb dX3_sell_15 rfl (lv_at hl 0 rfl) ?_
    refine r_get C O (k := 10) (j := 6) (v := .ref (q 44)) fX3_30 rfl rfl rfl dX3_sell_16 ?_
    refine lv_iload_n hx hb dX3_sell_19 rfl (lv_at hl 1 rfl) ?_
    refine lv_iload_n hx hb dX3_sell_20 rfl (lv_at hl 2 rfl) ?_
    refine r_iast C O (k := 44) rfl hf.1 dX3_sell_21 (fun H locs σ_5 eσ_5 O => ?_)
    have hf := hf.2 σ_5 eσ_5
    exact hE _ _ _ _ _ O hf dX3_sell_22
theorem c_X3_sell (l : Launch) (x1 : Int32) (x2 : Int32) : MetV l yX3_sell cX3_sell 3 1 21 LC 10 (fun q => [.int x1, .int x2]) (w_X3_sell x1 x2) := mk_V (own := RX3) (by decide) rfl (fun q => Nat.le_of_ble_eq_true rfl) (fun C hE O hl hf => b_X3_sell C hE x1 x2 _ _ _ _ O hl hf)
end
section
variable {p : Program} {l : Launch} {e : Env} {R : Room} {s : State} {m : MethodId} {args : Array Value} {below : List Frame} {meth : Method} {c : Code} {E : State → Prop}
variable {D : va_G} {cs : Nat → ClassId} {q : Nat → Nat}
variable {Q : St → Prop}
def w_X3_lapseBehind_2 (Q : St → Prop) : Nat → Int32 → Int32 → St → Prop
  | 0, _, _, _ => False
  | n + 1, x1, x2, σ => ((σ.1 10 7) ≤ x2 → (Q σ)) ∧ (¬ (σ.1 10 7) ≤ x2 → (vp_in x2 40 ∧ ((¬ (σ.1 38 x2.toNatClampNeg) = 0 → (w_X3_lapseBehind_2 Q n x1 (x2 + 1) σ)) ∧ ((σ.1 38 x2.toNatClampNeg) = 0 → (vp_in x2 40 ∧ ((x1 ≤ (σ.1 43 x2.toNatClampNeg) → (w_X3_lapseBehind_2 Q n x1 (x2 + 1) σ)) ∧ (¬ x1 ≤ (σ.1 43 x2.toNatClampNeg) → (vp_in x2 40 ∧ (∀ σ_4 : St, σ_4 = wr σ 38 x2.toNatClampNeg 2 → (w_X3_lapseBehind_2 Q n x1 (x2 + 1) σ_4))))))))))
set_option maxHeartbeats 4000000 in
set_option maxRecDepth 100000 in
theorem b_X3_lapseBehind_2 (C : CX p R s m args meth c cX3_lapseBehind 3 RX3 0 0 D cs) (hE : RV p l e R s m args below meth c cX3_lapseBehind D cs LC q Q E) : ∀ n : Nat, ∀ (x1 : Int32) (x2 : Int32) (σ : St) (H : Heap) (locs : List Loc) (ls : Array Slot), OK D cs LC q s σ H locs → lv_has ls 3 [(0, .ref (q 10)), (1, .int x1), (2, .int x2)] → w_X3_lapseBehind_2 Q n x1 x2 σ → W p l e R s m args below meth c H locs 0 0 E (F0 m 2 ls []) := by
  have hx := C.1
  have hb := C.2.1
  intro n
  induction n with
  | zero => intro x1 x2 σ H locs ls O hl hf; exact hf.elim
  | succ n ih =>
    intro x1 x2 σ H locs ls O hl hf
    unfold w_X3_lapseBehind_2 at hf
    refine lv_iload_n hx hb dX3_lapseBehind_2 rfl (lv_at hl 2 rfl) ?_
    refine lv_aload_n hx hb dX3_lapseBehind_3 rfl (lv_at hl 0 rfl) ?_
    refine r_get C O (k := 10) (j := 7) (v := .int (σ.1 10 7)) fX3_33 rfl rfl rfl dX3_lapseBehind_4 ?_
    refine lv_icmp_ge (tgt := 42) hx hb dX3_lapseBehind_7 (by decide) (fun c_1 => ?_) (fun c_1 => ?_)
    · have hf := hf.1 c_1
      exact hE _ _ _ _ _ O hf dX3_lapseBehind_42
    · have hf := hf.2 c_1
      refine lv_aload_n hx hb dX3_lapseBehind_10 rfl (lv_at hl 0 rfl) ?_
      refine r_get C O (k := 10) (j := 0) (v := .ref (q 38)) fX3_11 rfl rfl rfl dX3_lapseBehind_11 ?_
      refine lv_iload_n hx hb dX3_lapseBehind_14 rfl (lv_at hl 2 rfl) ?_
      refine r_iald C O (k := 38) rfl hf.1 dX3_lapseBehind_15 ?_
      have hf := hf.2
      refine lv_if_ne (tgt := 36) hx hb dX3_lapseBehind_16 (by decide) (fun c_2 => ?_) (fun c_2 => ?_)
      · have hf := hf.1 c_2
        refine lv_iinc (v := x2 + 1) (lv' := [(2, .int (x2 + 1)), (0, .ref (q 10)), (1, .int x1)]) hx hb dX3_lapseBehind_36 hl (k := 2) rfl rfl (by decide) rfl (fun ls hl => ?_)
        refine lv_goto (tgt := 2) hx hb dX3_lapseBehind_39 (by decide) ?_
        exact ih x1 (x2 + 1) σ _ _ ls O (lv_sub hl [1, 2, 0] rfl) hf
      · have hf := hf.2 c_2
        refine lv_iload_n hx hb dX3_lapseBehind_19 rfl (lv_at hl 1 rfl) ?_
        refine lv_aload_n hx hb dX3_lapseBehind_20 rfl (lv_at hl 0 rfl) ?_
        refine r_get C O (k := 10) (j := 5) (v := .ref (q 43)) fX3_27 rfl rfl rfl dX3_lapseBehind_21 ?_
        refine lv_iload_n hx hb dX3_lapseBehind_24 rfl (lv_at hl 2 rfl) ?_
        refine r_iald C O (k := 43) rfl hf.1 dX3_lapseBehind_25 ?_
        have hf := hf.2
        refine lv_icmp_le (tgt := 36) hx hb dX3_lapseBehind_26 (by decide) (fun c_3 => ?_) (fun c_3 => ?_)
        · have hf := hf.1 c_3
          refine lv_iinc (v := x2 + 1) (lv' := [(2, .int (x2 + 1)), (0, .ref (q 10)), (1, .int x1)]) hx hb dX3_lapseBehind_36 hl (k := 2) rfl rfl (by decide) rfl (fun ls hl => ?_)
          refine lv_goto (tgt := 2) hx hb dX3_lapseBehind_39 (by decide) ?_
          exact ih x1 (x2 + 1) σ _ _ ls O (lv_sub hl [1, 2, 0] rfl) hf
        · have hf := hf.2 c_3
          refine lv_aload_n hx hb dX3_lapseBehind_29 rfl (lv_at hl 0 rfl) ?_
          refine r_get C O (k := 10) (j := 0) (v := .ref (q 38)) fX3_11 rfl rfl rfl dX3_lapseBehind_30 ?_
          refine lv_iload_n hx hb dX3_lapseBehind_33 rfl (lv_at hl 2 rfl) ?_
          refine lv_iconst (v := 2) hx hb dX3_lapseBehind_34 (by decide) ?_
          refine r_iast C O (k := 38) rfl hf.1 dX3_lapseBehind_35 (fun H locs σ_4 eσ_4 O => ?_)
          have hf := hf.2 σ_4 eσ_4
          refine lv_iinc (v := x2 + 1) (lv' := [(2, .int (x2 + 1)), (0, .ref (q 10)), (1, .int x1)]) hx hb dX3_lapseBehind_36 hl (k := 2) rfl rfl (by decide) rfl (fun ls hl => ?_)
          refine lv_goto (tgt := 2) hx hb dX3_lapseBehind_39 (by decide) ?_
          exact ih x1 (x2 + 1) σ_4 _ _ ls O (lv_sub hl [1, 2, 0] rfl) hf
def w_X3_lapseBehind (x1 : Int32) (σ : St) (Q : St → Prop) : Prop := ∃ nn : Nat, w_X3_lapseBehind_2 Q nn x1 0 σ
set_option maxHeartbeats 4000000 in
set_option maxRecDepth 100000 in
theorem b_X3_lapseBehind (C : CX p R s m args meth c cX3_lapseBehind 3 RX3 0 0 D cs) (hE : RV p l e R s m args below meth c cX3_lapseBehind D cs LC q Q E) : ∀ (x1 : Int32) (σ : St) (H : Heap) (locs : List Loc) (ls : Array Slot), OK D cs LC q s σ H locs → lv_has ls 3 [(0, .ref (q 10)), (1, .int x1)] → w_X3_lapseBehind x1 σ Q → W p l e R s m args below meth c H locs 0 0 E (F0 m 0 ls []) := by
  have hx := C.1
  have hb := C.2.1
  intro x1 σ H locs ls O hl hf
  unfold w_X3_lapseBehind at hf
  refine lv_iconst (v := 0) hx hb dX3_lapseBehind_0 (by decide) ?_
  refine lv_istore_n (lv' := [(2, .int 0), (0, .ref (q 10)), (1, .int x1)]) hx hb dX3_lapseBehind_1 rfl hl (by decide) rfl (fun ls hl => ?_)
  obtain ⟨nn, hf⟩ := hf
  exact b_X3_lapseBehind_2 C hE nn x1 0 σ _ _ ls O (lv_sub hl [1, 2, 0] rfl) hf
theorem c_X3_lapseBehind (l : Launch) (x1 : Int32) : MetV l yX3_lapseBehind cX3_lapseBehind 3 0 0 LC 10 (fun q => [.int x1]) (w_X3_lapseBehind x1) := mk_V (own := RX3) (by decide) rfl (fun q => Nat.le_of_ble_eq_true rfl) (fun C hE O hl hf => b_X3_lapseBehind C hE x1 _ _ _ _ O hl hf)
end
section
variable {p : Program} {l : Launch} {e : Env} {R : Room} {s : State} {m : MethodId} {args : Array Value} {below : List Frame} {meth : Method} {c : Code} {E : State → Prop}
variable {D : va_G} {cs : Nat → ClassId} {q : Nat → Nat}
variable {Q : Int32 → St → Prop}
def w_X6_planeOf (x1 : Int32) (σ : St) (Q : Int32 → St → Prop) : Prop := w_X1_has x1 σ (fun r_2 σ_1 => (r_2 = 0 → (Q ((-1)) σ_1)) ∧ (¬ r_2 = 0 → (vp_in x1 20 ∧ (Q (σ_1.1 30 x1.toNatClampNeg) σ_1))))
set_option maxHeartbeats 4000000 in
set_option maxRecDepth 100000 in
theorem b_X6_planeOf (C : CX p R s m args meth c cX6_planeOf 2 RX6 1 21 D cs) (hE : RI p l e R s m args below meth c cX6_planeOf D cs LC q .int Q E) : ∀ (x1 : Int32) (σ : St) (H : Heap) (locs : List Loc) (ls : Array Slot), OK D cs LC q s σ H locs → lv_has ls 2 [(0, .ref (q 7)), (1, .int x1)] → w_X6_planeOf x1 σ Q → W p l e R s m args below meth c H locs 0 0 E (F0 m 0 ls []) := by
  have hx := C.1
  have hb := C.2.1
  intro x1 σ H locs ls O hl hf
  unfold w_X6_planeOf at hf
  refine lv_aload_n hx hb dX6_planeOf_0 rfl (lv_at hl 0 rfl) ?_
  refine r_get C O (k := 7) (j := 1) (v := .ref (q 5)) fX6_21 rfl rfl rfl dX6_planeOf_1 ?_
  refine lv_iload_n hx hb dX6_planeOf_4 rfl (lv_at hl 1 rfl) ?_
  refine r_callI C O hl (c_X1_has l x1) mX6_29 (by decide) rfl rfl rfl rfl (Nat.le_of_ble_eq_true rfl) hf dX6_planeOf_5 (fun r_2 σ_1 H locs O hf => ?_)
  refine lv_if_eq (tgt := 20) hx hb dX6_planeOf_8 (by decide) (fun c_3 => ?_) (fun c_3 => ?_)
  · have hf := hf.1 c_3
    refine lv_iconst (v := (-1)) hx hb dX6_planeOf_20 (by decide) ?_
    exact hE _ _ _ _ _ _ (vp_nar_int _) O hf dX6_planeOf_21
  · have hf := hf.2 c_3
    refine lv_aload_n hx hb dX6_planeOf_11 rfl (lv_at hl 0 rfl) ?_
    refine r_get C O (k := 7) (j := 3) (v := .ref (q 30)) fX6_11 rfl rfl rfl dX6_planeOf_12 ?_
    refine lv_iload_n hx hb dX6_planeOf_15 rfl (lv_at hl 1 rfl) ?_
    refine r_iald C O (k := 30) rfl hf.1 dX6_planeOf_16 ?_
    have hf := hf.2
    refine lv_goto (tgt := 21) hx hb dX6_planeOf_17 (by decide) ?_
    exact hE _ _ _ _ _ _ (vp_nar_int _) O hf dX6_planeOf_21
theorem c_X6_planeOf (l : Launch) (x1 : Int32) : MetI l yX6_planeOf cX6_planeOf 2 .int 1 21 LC 7 (fun q => [.int x1]) (w_X6_planeOf x1) := mk_I (own := RX6) (by decide) rfl (fun q => Nat.le_of_ble_eq_true rfl) (fun C hE O hl hf => b_X6_planeOf C hE x1 _ _ _ _ O hl hf)
end
section
variable {p : Program} {l : Launch} {e : Env} {R : Room} {s : State} {m : MethodId} {args : Array Value} {below : List Frame} {meth : Method} {c : Code} {E : State → Prop}
variable {D : va_G} {cs : Nat → ClassId} {q : Nat → Nat}
variable {Q : Int32 → St → Prop}
def w_X6_placeAhead_76 (Q : Int32 → St → Prop) (x2 : Int32) (x3 : Int32) (σ : St) : Prop := (¬ x2 = ((-1)) → (Q x3 σ)) ∧ (x2 = ((-1)) → (Q ((-1)) σ))
set_option maxHeartbeats 4000000 in
set_option maxRecDepth 100000 in
theorem b_X6_placeAhead_76 (C : CX p R s m args meth c cX6_placeAhead 6 RX6 2 42 D cs) (hE : RI p l e R s m args below meth c cX6_placeAhead D cs LC q .int Q E) : ∀ (x2 : Int32) (x3 : Int32) (σ : St) (H : Heap) (locs : List Loc) (ls : Array Slot), OK D cs LC q s σ H locs → lv_has ls 6 [(2, .int x2), (3, .int x3)] → w_X6_placeAhead_76 Q x2 x3 σ → W p l e R s m args below meth c H locs 0 0 E (F0 m 76 ls []) := by
  have hx := C.1
  have hb := C.2.1
  intro x2 x3 σ H locs ls O hl hf
  unfold w_X6_placeAhead_76 at hf
  refine lv_iload_n hx hb dX6_placeAhead_76 rfl (lv_at hl 0 rfl) ?_
  refine lv_iconst (v := (-1)) hx hb dX6_placeAhead_77 (by decide) ?_
  refine lv_icmp_ne (tgt := 85) hx hb dX6_placeAhead_78 (by decide) (fun c_1 => ?_) (fun c_1 => ?_)
  · have hf := hf.1 c_1
    refine lv_iload_n hx hb dX6_placeAhead_85 rfl (lv_at hl 1 rfl) ?_
    exact hE _ _ _ _ _ _ (vp_nar_int _) O hf dX6_placeAhead_86
  · have hf := hf.2 c_1
    refine lv_iconst (v := (-1)) hx hb dX6_placeAhead_81 (by decide) ?_
    refine lv_goto (tgt := 86) hx hb dX6_placeAhead_82 (by decide) ?_
    exact hE _ _ _ _ _ _ (vp_nar_int _) O hf dX6_placeAhead_86
def w_X6_placeAhead_18 (Q : Int32 → St → Prop) : Nat → Int32 → Int32 → Int32 → Int32 → St → Prop
  | 0, _, _, _, _, _ => False
  | n + 1, x1, x2, x3, x4, σ => w_X1_size σ (fun r_2 σ_1 => (r_2 ≤ x4 → (w_X6_placeAhead_76 Q x2 x3 σ_1)) ∧ (¬ r_2 ≤ x4 → (w_X1_inOrder x4 σ_1 (fun r_5 σ_4 => (¬ r_5 = x1 → (w_X6_planeOf r_5 σ_4 (fun r_8 σ_7 => (¬ r_8 = x2 → (w_X6_placeAhead_18 Q n x1 x2 x3 (x4 + 1) σ_7)) ∧ (r_8 = x2 → (w_X1_toOf r_5 σ_7 (fun r_11 σ_10 => w_X6_placeAhead_18 Q n x1 x2 r_11 (x4 + 1) σ_10)))))) ∧ (r_5 = x1 → (w_X6_placeAhead_76 Q x2 x3 σ_4))))))
set_option maxHeartbeats 4000000 in
set_option maxRecDepth 100000 in
theorem b_X6_placeAhead_18 (C : CX p R s m args meth c cX6_placeAhead 6 RX6 2 42 D cs) (hE : RI p l e R s m args below meth c cX6_placeAhead D cs LC q .int Q E) : ∀ n : Nat, ∀ (x1 : Int32) (x2 : Int32) (x3 : Int32) (x4 : Int32) (σ : St) (H : Heap) (locs : List Loc) (ls : Array Slot), OK D cs LC q s σ H locs → lv_has ls 6 [(0, .ref (q 7)), (1, .int x1), (2, .int x2), (3, .int x3), (4, .int x4)] → w_X6_placeAhead_18 Q n x1 x2 x3 x4 σ → W p l e R s m args below meth c H locs 0 0 E (F0 m 18 ls []) := by
  have hx := C.1
  have hb := C.2.1
  intro n
  induction n with
  | zero => intro x1 x2 x3 x4 σ H locs ls O hl hf; exact hf.elim
  | succ n ih =>
    intro x1 x2 x3 x4 σ H locs ls O hl hf
    unfold w_X6_placeAhead_18 at hf
    refine lv_iload hx hb dX6_placeAhead_18 (lv_at hl 4 rfl) ?_
    refine lv_aload_n hx hb dX6_placeAhead_20 rfl (lv_at hl 0 rfl) ?_
    refine r_get C O (k := 7) (j := 1) (v := .ref (q 5)) fX6_21 rfl rfl rfl dX6_placeAhead_21 ?_
    refine r_callI C O hl (c_X1_size l) mX6_33 (by decide) rfl rfl rfl rfl (Nat.le_of_ble_eq_true rfl) hf dX6_placeAhead_24 (fun r_2 σ_1 H locs O hf => ?_)
    refine lv_icmp_ge (tgt := 76) hx hb dX6_placeAhead_27 (by decide) (fun c_3 => ?_) (fun c_3 => ?_)
    · have hf := hf.1 c_3
      exact b_X6_placeAhead_76 C hE x2 x3 σ_1 _ _ ls O (lv_sub hl [2, 3] rfl) hf
    · have hf := hf.2 c_3
      refine lv_aload_n hx hb dX6_placeAhead_30 rfl (lv_at hl 0 rfl) ?_
      refine r_get C O (k := 7) (j := 1) (v := .ref (q 5)) fX6_21 rfl rfl rfl dX6_placeAhead_31 ?_
      refine lv_iload hx hb dX6_placeAhead_34 (lv_at hl 4 rfl) ?_
      refine r_callI C O hl (c_X1_inOrder l x4) mX6_61 (by decide) rfl rfl rfl rfl (Nat.le_of_ble_eq_true rfl) hf dX6_placeAhead_36 (fun r_5 σ_4 H locs O hf => ?_)
      refine lv_istore (lv' := [(5, .int r_5), (0, .ref (q 7)), (1, .int x1), (2, .int x2), (3, .int x3), (4, .int x4)]) hx hb dX6_placeAhead_39 hl (by decide) rfl (fun ls hl => ?_)
      refine lv_iload hx hb dX6_placeAhead_41 (lv_at hl 0 rfl) ?_
      refine lv_iload_n hx hb dX6_placeAhead_43 rfl (lv_at hl 2 rfl) ?_
      refine lv_icmp_ne (tgt := 50) hx hb dX6_placeAhead_44 (by decide) (fun c_6 => ?_) (fun c_6 => ?_)
      · have hf := hf.1 c_6
        refine lv_aload_n hx hb dX6_placeAhead_50 rfl (lv_at hl 1 rfl) ?_
        refine lv_iload hx hb dX6_placeAhead_51 (lv_at hl 0 rfl) ?_
        refine r_callI C O hl (c_X6_planeOf l r_5) mX6_37 (by decide) rfl rfl rfl rfl (Nat.le_of_ble_eq_true rfl) hf dX6_placeAhead_53 (fun r_8 σ_7 H locs O hf => ?_)
        refine lv_iload_n hx hb dX6_placeAhead_56 rfl (lv_at hl 3 rfl) ?_
        refine lv_icmp_ne (tgt := 70) hx hb dX6_placeAhead_57 (by decide) (fun c_9 => ?_) (fun c_9 => ?_)
        · have hf := hf.1 c_9
          refine lv_iinc (v := x4 + 1) (lv' := [(4, .int (x4 + 1)), (5, .int r_5), (0, .ref (q 7)), (1, .int x1), (2, .int x2), (3, .int x3)]) hx hb dX6_placeAhead_70 hl (k := 5) rfl rfl (by decide) rfl (fun ls hl => ?_)
          refine lv_goto (tgt := 18) hx hb dX6_placeAhead_73 (by decide) ?_
          exact ih x1 x2 x3 (x4 + 1) σ_7 _ _ ls O (lv_sub hl [2, 3, 4, 5, 0] rfl) hf
        · have hf := hf.2 c_9
          refine lv_aload_n hx hb dX6_placeAhead_60 rfl (lv_at hl 1 rfl) ?_
          refine r_get C O (k := 7) (j := 1) (v := .ref (q 5)) fX6_21 rfl rfl rfl dX6_placeAhead_61 ?_
          refine lv_iload hx hb dX6_placeAhead_64 (lv_at hl 0 rfl) ?_
          refine r_callI C O hl (c_X1_toOf l r_5) mX6_47 (by decide) rfl rfl rfl rfl (Nat.le_of_ble_eq_true rfl) hf dX6_placeAhead_66 (fun r_11 σ_10 H locs O hf => ?_)
          refine lv_istore_n (lv' := [(3, .int r_11), (5, .int r_5), (0, .ref (q 7)), (1, .int x1), (2, .int x2), (4, .int x4)]) hx hb dX6_placeAhead_69 rfl hl (by decide) rfl (fun ls hl => ?_)
          refine lv_iinc (v := x4 + 1) (lv' := [(4, .int (x4 + 1)), (3, .int r_11), (5, .int r_5), (0, .ref (q 7)), (1, .int x1), (2, .int x2)]) hx hb dX6_placeAhead_70 hl (k := 5) rfl rfl (by decide) rfl (fun ls hl => ?_)
          refine lv_goto (tgt := 18) hx hb dX6_placeAhead_73 (by decide) ?_
          exact ih x1 x2 r_11 (x4 + 1) σ_10 _ _ ls O (lv_sub hl [3, 4, 5, 1, 0] rfl) hf
      · have hf := hf.2 c_6
        refine lv_goto (tgt := 76) hx hb dX6_placeAhead_47 (by decide) ?_
        exact b_X6_placeAhead_76 C hE x2 x3 σ_4 _ _ ls O (lv_sub hl [3, 4] rfl) hf
def w_X6_placeAhead (x1 : Int32) (σ : St) (Q : Int32 → St → Prop) : Prop := w_X6_planeOf x1 σ (fun r_2 σ_1 => w_X4_homeOf r_2 σ_1 (fun r_4 σ_3 => ∃ nn : Nat, w_X6_placeAhead_18 Q nn x1 r_2 r_4 0 σ_3))
set_option maxHeartbeats 4000000 in
set_option maxRecDepth 100000 in
theorem b_X6_placeAhead (C : CX p R s m args meth c cX6_placeAhead 6 RX6 2 42 D cs) (hE : RI p l e R s m args below meth c cX6_placeAhead D cs LC q .int Q E) : ∀ (x1 : Int32) (σ : St) (H : Heap) (locs : List Loc) (ls : Array Slot), OK D cs LC q s σ H locs → lv_has ls 6 [(0, .ref (q 7)), (1, .int x1)] → w_X6_placeAhead x1 σ Q → W p l e R s m args below meth c H locs 0 0 E (F0 m 0 ls []) := by
  have hx := C.1
  have hb := C.2.1
  intro x1 σ H locs ls O hl hf
  unfold w_X6_placeAhead at hf
  refine lv_aload_n hx hb dX6_placeAhead_0 rfl (lv_at hl 0 rfl) ?_
  refine lv_iload_n hx hb dX6_placeAhead_1 rfl (lv_at hl 1 rfl) ?_
  refine r_callI C O hl (c_X6_planeOf l x1) mX6_37 (by decide) rfl rfl rfl rfl (Nat.le_of_ble_eq_true rfl) hf dX6_placeAhead_2 (fun r_2 σ_1 H locs O hf => ?_)
  refine lv_istore_n (lv' := [(2, .int r_2), (0, .ref (q 7)), (1, .int x1)]) hx hb dX6_placeAhead_5 rfl hl (by decide) rfl (fun ls hl => ?_)
  refine lv_aload_n hx hb dX6_placeAhead_6 rfl (lv_at hl 1 rfl) ?_
  refine r_get C O (k := 7) (j := 0) (v := .ref (q 4)) fX6_17 rfl rfl rfl dX6_placeAhead_7 ?_
  refine lv_iload_n hx hb dX6_placeAhead_10 rfl (lv_at hl 0 rfl) ?_
  refine r_callI C O hl (c_X4_homeOf l r_2) mX6_56 (by decide) rfl rfl rfl rfl (Nat.le_of_ble_eq_true rfl) hf dX6_placeAhead_11 (fun r_4 σ_3 H locs O hf => ?_)
  refine lv_istore_n (lv' := [(3, .int r_4), (2, .int r_2), (0, .ref (q 7)), (1, .int x1)]) hx hb dX6_placeAhead_14 rfl hl (by decide) rfl (fun ls hl => ?_)
  refine lv_iconst (v := 0) hx hb dX6_placeAhead_15 (by decide) ?_
  refine lv_istore (lv' := [(4, .int 0), (3, .int r_4), (2, .int r_2), (0, .ref (q 7)), (1, .int x1)]) hx hb dX6_placeAhead_16 hl (by decide) rfl (fun ls hl => ?_)
  obtain ⟨nn, hf⟩ := hf
  exact b_X6_placeAhead_18 C hE nn x1 r_2 r_4 0 σ_3 _ _ ls O (lv_sub hl [3, 4, 2, 1, 0] rfl) hf
theorem c_X6_placeAhead (l : Launch) (x1 : Int32) : MetI l yX6_placeAhead cX6_placeAhead 6 .int 2 42 LC 7 (fun q => [.int x1]) (w_X6_placeAhead x1) := mk_I (own := RX6) (by decide) rfl (fun q => Nat.le_of_ble_eq_true rfl) (fun C hE O hl hf => b_X6_placeAhead C hE x1 _ _ _ _ O hl hf)
end
section
variable {p : Program} {l : Launch} {e : Env} {R : Room} {s : State} {m : MethodId} {args : Array Value} {below : List Frame} {meth : Method} {c : Code} {E : State → Prop}
variable {D : va_G} {cs : Nat → ClassId} {q : Nat → Nat}
variable {Q : Int32 → St → Prop}
def w_X6_hasLeg (x1 : Int32) (σ : St) (Q : Int32 → St → Prop) : Prop := w_X6_planeOf x1 σ (fun r_2 σ_1 => (r_2 = ((-1)) → (Q 0 σ_1)) ∧ (¬ r_2 = ((-1)) → (w_X6_placeAhead x1 σ_1 (fun r_5 σ_4 => w_X1_fromOf x1 σ_4 (fun r_7 σ_6 => (r_5 = r_7 → (Q 0 σ_6)) ∧ (¬ r_5 = r_7 → (Q 1 σ_6)))))))
set_option maxHeartbeats 4000000 in
set_option maxRecDepth 100000 in
theorem b_X6_hasLeg (C : CX p R s m args meth c cX6_hasLeg 2 RX6 3 67 D cs) (hE : RI p l e R s m args below meth c cX6_hasLeg D cs LC q .boolean Q E) : ∀ (x1 : Int32) (σ : St) (H : Heap) (locs : List Loc) (ls : Array Slot), OK D cs LC q s σ H locs → lv_has ls 2 [(0, .ref (q 7)), (1, .int x1)] → w_X6_hasLeg x1 σ Q → W p l e R s m args below meth c H locs 0 0 E (F0 m 0 ls []) := by
  have hx := C.1
  have hb := C.2.1
  intro x1 σ H locs ls O hl hf
  unfold w_X6_hasLeg at hf
  refine lv_aload_n hx hb dX6_hasLeg_0 rfl (lv_at hl 0 rfl) ?_
  refine lv_iload_n hx hb dX6_hasLeg_1 rfl (lv_at hl 1 rfl) ?_
  refine r_callI C O hl (c_X6_planeOf l x1) mX6_37 (by decide) rfl rfl rfl rfl (Nat.le_of_ble_eq_true rfl) hf dX6_hasLeg_2 (fun r_2 σ_1 H locs O hf => ?_)
  refine lv_iconst (v := (-1)) hx hb dX6_hasLeg_5 (by decide) ?_
  refine lv_icmp_eq (tgt := 29) hx hb dX6_hasLeg_6 (by decide) (fun c_3 => ?_) (fun c_3 => ?_)
  · have hf := hf.1 c_3
    refine lv_iconst (v := 0) hx hb dX6_hasLeg_29 (by decide) ?_
    exact hE _ _ _ _ _ _ rfl O hf dX6_hasLeg_30
  · have hf := hf.2 c_3
    refine lv_aload_n hx hb dX6_hasLeg_9 rfl (lv_at hl 0 rfl) ?_
    refine lv_iload_n hx hb dX6_hasLeg_10 rfl (lv_at hl 1 rfl) ?_
    refine r_callI C O hl (c_X6_placeAhead l x1) mX6_64 (by decide) rfl rfl rfl rfl (Nat.le_of_ble_eq_true rfl) hf dX6_hasLeg_11 (fun r_5 σ_4 H locs O hf => ?_)
    refine lv_aload_n hx hb dX6_hasLeg_14 rfl (lv_at hl 0 rfl) ?_
    refine r_get C O (k := 7) (j := 1) (v := .ref (q 5)) fX6_21 rfl rfl rfl dX6_hasLeg_15 ?_
    refine lv_iload_n hx hb dX6_hasLeg_18 rfl (lv_at hl 1 rfl) ?_
    refine r_callI C O hl (c_X1_fromOf l x1) mX6_44 (by decide) rfl rfl rfl rfl (Nat.le_of_ble_eq_true rfl) hf dX6_hasLeg_19 (fun r_7 σ_6 H locs O hf => ?_)
    refine lv_icmp_eq (tgt := 29) hx hb dX6_hasLeg_22 (by decide) (fun c_8 => ?_) (fun c_8 => ?_)
    · have hf := hf.1 c_8
      refine lv_iconst (v := 0) hx hb dX6_hasLeg_29 (by decide) ?_
      exact hE _ _ _ _ _ _ rfl O hf dX6_hasLeg_30
    · have hf := hf.2 c_8
      refine lv_iconst (v := 1) hx hb dX6_hasLeg_25 (by decide) ?_
      refine lv_goto (tgt := 30) hx hb dX6_hasLeg_26 (by decide) ?_
      exact hE _ _ _ _ _ _ rfl O hf dX6_hasLeg_30
theorem c_X6_hasLeg (l : Launch) (x1 : Int32) : MetI l yX6_hasLeg cX6_hasLeg 2 .boolean 3 67 LC 7 (fun q => [.int x1]) (w_X6_hasLeg x1) := mk_I (own := RX6) (by decide) rfl (fun q => Nat.le_of_ble_eq_true rfl) (fun C hE O hl hf => b_X6_hasLeg C hE x1 _ _ _ _ O hl hf)
end
section
variable {p : Program} {l : Launch} {e : Env} {R : Room} {s : State} {m : MethodId} {args : Array Value} {below : List Frame} {meth : Method} {c : Code} {E : State → Prop}
variable {D : va_G} {cs : Nat → ClassId} {q : Nat → Nat}
variable {Q : Int32 → St → Prop}
def w_X3_stateOf (x1 : Int32) (σ : St) (Q : Int32 → St → Prop) : Prop := w_X3_has x1 σ (fun r_2 σ_1 => (r_2 = 0 → (Q ((-1)) σ_1)) ∧ (¬ r_2 = 0 → (vp_in x1 40 ∧ (Q (σ_1.1 38 x1.toNatClampNeg) σ_1))))
set_option maxHeartbeats 4000000 in
set_option maxRecDepth 100000 in
theorem b_X3_stateOf (C : CX p R s m args meth c cX3_stateOf 2 RX3 1 21 D cs) (hE : RI p l e R s m args below meth c cX3_stateOf D cs LC q .int Q E) : ∀ (x1 : Int32) (σ : St) (H : Heap) (locs : List Loc) (ls : Array Slot), OK D cs LC q s σ H locs → lv_has ls 2 [(0, .ref (q 10)), (1, .int x1)] → w_X3_stateOf x1 σ Q → W p l e R s m args below meth c H locs 0 0 E (F0 m 0 ls []) := by
  have hx := C.1
  have hb := C.2.1
  intro x1 σ H locs ls O hl hf
  unfold w_X3_stateOf at hf
  refine lv_aload_n hx hb dX3_stateOf_0 rfl (lv_at hl 0 rfl) ?_
  refine lv_iload_n hx hb dX3_stateOf_1 rfl (lv_at hl 1 rfl) ?_
  refine r_callI C O hl (c_X3_has l x1) mX3_37 (by decide) rfl rfl rfl rfl (Nat.le_of_ble_eq_true rfl) hf dX3_stateOf_2 (fun r_2 σ_1 H locs O hf => ?_)
  refine lv_if_eq (tgt := 17) hx hb dX3_stateOf_5 (by decide) (fun c_3 => ?_) (fun c_3 => ?_)
  · have hf := hf.1 c_3
    refine lv_iconst (v := (-1)) hx hb dX3_stateOf_17 (by decide) ?_
    exact hE _ _ _ _ _ _ (vp_nar_int _) O hf dX3_stateOf_18
  · have hf := hf.2 c_3
    refine lv_aload_n hx hb dX3_stateOf_8 rfl (lv_at hl 0 rfl) ?_
    refine r_get C O (k := 10) (j := 0) (v := .ref (q 38)) fX3_11 rfl rfl rfl dX3_stateOf_9 ?_
    refine lv_iload_n hx hb dX3_stateOf_12 rfl (lv_at hl 1 rfl) ?_
    refine r_iald C O (k := 38) rfl hf.1 dX3_stateOf_13 ?_
    have hf := hf.2
    refine lv_goto (tgt := 18) hx hb dX3_stateOf_14 (by decide) ?_
    exact hE _ _ _ _ _ _ (vp_nar_int _) O hf dX3_stateOf_18
theorem c_X3_stateOf (l : Launch) (x1 : Int32) : MetI l yX3_stateOf cX3_stateOf 2 .int 1 21 LC 10 (fun q => [.int x1]) (w_X3_stateOf x1) := mk_I (own := RX3) (by decide) rfl (fun q => Nat.le_of_ble_eq_true rfl) (fun C hE O hl hf => b_X3_stateOf C hE x1 _ _ _ _ O hl hf)
end
section
variable {p : Program} {l : Launch} {e : Env} {R : Room} {s : State} {m : MethodId} {args : Array Value} {below : List Frame} {meth : Method} {c : Code} {E : State → Prop}
variable {D : va_G} {cs : Nat → ClassId} {q : Nat → Nat}
variable {Q : Int32 → St → Prop}
def w_X3_isStanding (x1 : Int32) (σ : St) (Q : Int32 → St → Prop) : Prop := w_X3_stateOf x1 σ (fun r_2 σ_1 => (r_2 = 0 → (Q 1 σ_1)) ∧ (¬ r_2 = 0 → (w_X3_stateOf x1 σ_1 (fun r_5 σ_4 => (¬ r_5 = 1 → (Q 0 σ_4)) ∧ (r_5 = 1 → (Q 1 σ_4))))))
set_option maxHeartbeats 4000000 in
set_option maxRecDepth 100000 in
theorem b_X3_isStanding (C : CX p R s m args meth c cX3_isStanding 2 RX3 2 42 D cs) (hE : RI p l e R s m args below meth c cX3_isStanding D cs LC q .boolean Q E) : ∀ (x1 : Int32) (σ : St) (H : Heap) (locs : List Loc) (ls : Array Slot), OK D cs LC q s σ H locs → lv_has ls 2 [(0, .ref (q 10)), (1, .int x1)] → w_X3_isStanding x1 σ Q → W p l e R s m args below meth c H locs 0 0 E (F0 m 0 ls []) := by
  have hx := C.1
  have hb := C.2.1
  intro x1 σ H locs ls O hl hf
  unfold w_X3_isStanding at hf
  refine lv_aload_n hx hb dX3_isStanding_0 rfl (lv_at hl 0 rfl) ?_
  refine lv_iload_n hx hb dX3_isStanding_1 rfl (lv_at hl 1 rfl) ?_
  refine r_callI C O hl (c_X3_stateOf l x1) mX3_56 (by decide) rfl rfl rfl rfl (Nat.le_of_ble_eq_true rfl) hf dX3_isStanding_2 (fun r_2 σ_1 H locs O hf => ?_)
  refine lv_if_eq (tgt := 17) hx hb dX3_isStanding_5 (by decide) (fun c_3 => ?_) (fun c_3 => ?_)
  · have hf := hf.1 c_3
    refine lv_iconst (v := 1) hx hb dX3_isStanding_17 (by decide) ?_
    refine lv_goto (tgt := 22) hx hb dX3_isStanding_18 (by decide) ?_
    exact hE _ _ _ _ _ _ rfl O hf dX3_isStanding_22
  · have hf := hf.2 c_3
    refine lv_aload_n hx hb dX3_isStanding_8 rfl (lv_at hl 0 rfl) ?_
    refine lv_iload_n hx hb dX3_isStanding_9 rfl (lv_at hl 1 rfl) ?_
    refine r_callI C O hl (c_X3_stateOf l x1) mX3_56 (by decide) rfl rfl rfl rfl (Nat.le_of_ble_eq_true rfl) hf dX3_isStanding_10 (fun r_5 σ_4 H locs O hf => ?_)
    refine lv_iconst (v := 1) hx hb dX3_isStanding_13 (by decide) ?_
    refine lv_icmp_ne (tgt := 21) hx hb dX3_isStanding_14 (by decide) (fun c_6 => ?_) (fun c_6 => ?_)
    · have hf := hf.1 c_6
      refine lv_iconst (v := 0) hx hb dX3_isStanding_21 (by decide) ?_
      exact hE _ _ _ _ _ _ rfl O hf dX3_isStanding_22
    · have hf := hf.2 c_6
      refine lv_iconst (v := 1) hx hb dX3_isStanding_17 (by decide) ?_
      refine lv_goto (tgt := 22) hx hb dX3_isStanding_18 (by decide) ?_
      exact hE _ _ _ _ _ _ rfl O hf dX3_isStanding_22
theorem c_X3_isStanding (l : Launch) (x1 : Int32) : MetI l yX3_isStanding cX3_isStanding 2 .boolean 2 42 LC 10 (fun q => [.int x1]) (w_X3_isStanding x1) := mk_I (own := RX3) (by decide) rfl (fun q => Nat.le_of_ble_eq_true rfl) (fun C hE O hl hf => b_X3_isStanding C hE x1 _ _ _ _ O hl hf)
end
section
variable {p : Program} {l : Launch} {e : Env} {R : Room} {s : State} {m : MethodId} {args : Array Value} {below : List Frame} {meth : Method} {c : Code} {E : State → Prop}
variable {D : va_G} {cs : Nat → ClassId} {q : Nat → Nat}
variable {Q : St → Prop}
def w_X3_breakLost_58 (Q : St → Prop) (K2 : Int32 → St → Prop) (x2 : Int32) (s0 : Int32) (σ : St) : Prop := w_X3_isStanding x2 σ (fun r_2 σ_1 => (r_2 = 0 → (K2 (x2 + 1) σ_1)) ∧ (¬ r_2 = 0 → ((¬ s0 = 0 → (K2 (x2 + 1) σ_1)) ∧ (s0 = 0 → (vp_in x2 40 ∧ (∀ σ_5 : St, σ_5 = wr σ_1 38 x2.toNatClampNeg 3 → (K2 (x2 + 1) σ_5)))))))
set_option maxHeartbeats 4000000 in
set_option maxRecDepth 100000 in
theorem b_X3_breakLost_58 (C : CX p R s m args meth c cX3_breakLost 5 RX3 4 88 D cs) (hE : RV p l e R s m args below meth c cX3_breakLost D cs LC q Q E) {K2 : Int32 → St → Prop} (hK2 : ∀ (x2 : Int32) (σ : St) (H : Heap) (locs : List Loc) (ls : Array Slot), OK D cs LC q s σ H locs → lv_has ls 5 [(0, .ref (q 10)), (1, .ref (q 7)), (2, .int x2)] → K2 x2 σ → W p l e R s m args below meth c H locs 0 0 E (F0 m 2 ls [])) : ∀ (x2 : Int32) (s0 : Int32) (σ : St) (H : Heap) (locs : List Loc) (ls : Array Slot), OK D cs LC q s σ H locs → lv_has ls 5 [(0, .ref (q 10)), (1, .ref (q 7)), (2, .int x2)] → w_X3_breakLost_58 Q K2 x2 s0 σ → W p l e R s m args below meth c H locs 0 0 E (F0 m 58 ls [.int s0]) := by
  have hx := C.1
  have hb := C.2.1
  intro x2 s0 σ H locs ls O hl hf
  unfold w_X3_breakLost_58 at hf
  refine lv_istore (lv' := [(4, .int s0), (0, .ref (q 10)), (1, .ref (q 7)), (2, .int x2)]) hx hb dX3_breakLost_58 hl (by decide) rfl (fun ls hl => ?_)
  refine lv_aload_n hx hb dX3_breakLost_60 rfl (lv_at hl 1 rfl) ?_
  refine lv_iload_n hx hb dX3_breakLost_61 rfl (lv_at hl 3 rfl) ?_
  refine r_callI C O hl (c_X3_isStanding l x2) mX3_53 (by decide) rfl rfl rfl rfl (Nat.le_of_ble_eq_true rfl) hf dX3_breakLost_62 (fun r_2 σ_1 H locs O hf => ?_)
  refine lv_if_eq (tgt := 80) hx hb dX3_breakLost_65 (by decide) (fun c_3 => ?_) (fun c_3 => ?_)
  · have hf := hf.1 c_3
    refine lv_iinc (v := x2 + 1) (lv' := [(2, .int (x2 + 1)), (4, .int s0), (0, .ref (q 10)), (1, .ref (q 7))]) hx hb dX3_breakLost_80 hl (k := 3) rfl rfl (by decide) rfl (fun ls hl => ?_)
    refine lv_goto (tgt := 2) hx hb dX3_breakLost_83 (by decide) ?_
    exact hK2 (x2 + 1) σ_1 _ _ ls O (lv_sub hl [2, 3, 0] rfl) hf
  · have hf := hf.2 c_3
    refine lv_iload hx hb dX3_breakLost_68 (lv_at hl 0 rfl) ?_
    refine lv_if_ne (tgt := 80) hx hb dX3_breakLost_70 (by decide) (fun c_4 => ?_) (fun c_4 => ?_)
    · have hf := hf.1 c_4
      refine lv_iinc (v := x2 + 1) (lv' := [(2, .int (x2 + 1)), (4, .int s0), (0, .ref (q 10)), (1, .ref (q 7))]) hx hb dX3_breakLost_80 hl (k := 3) rfl rfl (by decide) rfl (fun ls hl => ?_)
      refine lv_goto (tgt := 2) hx hb dX3_breakLost_83 (by decide) ?_
      exact hK2 (x2 + 1) σ_1 _ _ ls O (lv_sub hl [2, 3, 0] rfl) hf
    · have hf := hf.2 c_4
      refine lv_aload_n hx hb dX3_breakLost_73 rfl (lv_at hl 1 rfl) ?_
      refine r_get C O (k := 10) (j := 0) (v := .ref (q 38)) fX3_11 rfl rfl rfl dX3_breakLost_74 ?_
      refine lv_iload_n hx hb dX3_breakLost_77 rfl (lv_at hl 3 rfl) ?_
      refine lv_iconst (v := 3) hx hb dX3_breakLost_78 (by decide) ?_
      refine r_iast C O (k := 38) rfl hf.1 dX3_breakLost_79 (fun H locs σ_5 eσ_5 O => ?_)
      have hf := hf.2 σ_5 eσ_5
      refine lv_iinc (v := x2 + 1) (lv' := [(2, .int (x2 + 1)), (4, .int s0), (0, .ref (q 10)), (1, .ref (q 7))]) hx hb dX3_breakLost_80 hl (k := 3) rfl rfl (by decide) rfl (fun ls hl => ?_)
      refine lv_goto (tgt := 2) hx hb dX3_breakLost_83 (by decide) ?_
      exact hK2 (x2 + 1) σ_5 _ _ ls O (lv_sub hl [2, 3, 0] rfl) hf
def w_X3_breakLost_57 (Q : St → Prop) (K2 : Int32 → St → Prop) (x2 : Int32) (σ : St) : Prop := w_X3_breakLost_58 Q K2 x2 0 σ
set_option maxHeartbeats 4000000 in
set_option maxRecDepth 100000 in
theorem b_X3_breakLost_57 (C : CX p R s m args meth c cX3_breakLost 5 RX3 4 88 D cs) (hE : RV p l e R s m args below meth c cX3_breakLost D cs LC q Q E) {K2 : Int32 → St → Prop} (hK2 : ∀ (x2 : Int32) (σ : St) (H : Heap) (locs : List Loc) (ls : Array Slot), OK D cs LC q s σ H locs → lv_has ls 5 [(0, .ref (q 10)), (1, .ref (q 7)), (2, .int x2)] → K2 x2 σ → W p l e R s m args below meth c H locs 0 0 E (F0 m 2 ls [])) : ∀ (x2 : Int32) (σ : St) (H : Heap) (locs : List Loc) (ls : Array Slot), OK D cs LC q s σ H locs → lv_has ls 5 [(0, .ref (q 10)), (1, .ref (q 7)), (2, .int x2)] → w_X3_breakLost_57 Q K2 x2 σ → W p l e R s m args below meth c H locs 0 0 E (F0 m 57 ls []) := by
  have hx := C.1
  have hb := C.2.1
  intro x2 σ H locs ls O hl hf
  unfold w_X3_breakLost_57 at hf
  refine lv_iconst (v := 0) hx hb dX3_breakLost_57 (by decide) ?_
  exact b_X3_breakLost_58 C hE hK2 x2 0 σ _ _ ls O (lv_sub hl [0, 1, 2] rfl) hf
def w_X3_breakLost_2 (Q : St → Prop) : Nat → Int32 → St → Prop
  | 0, _, _ => False
  | n + 1, x2, σ => ((σ.1 10 7) ≤ x2 → (Q σ)) ∧ (¬ (σ.1 10 7) ≤ x2 → (vp_in x2 40 ∧ (w_X6_planeOf (σ.1 41 x2.toNatClampNeg) σ (fun r_3 σ_2 => vp_in x2 40 ∧ ((¬ r_3 = (σ_2.1 40 x2.toNatClampNeg) → (w_X3_breakLost_57 Q (fun x2 σ => w_X3_breakLost_2 Q n x2 σ) x2 σ_2)) ∧ (r_3 = (σ_2.1 40 x2.toNatClampNeg) → (w_X6_hasLeg (σ.1 41 x2.toNatClampNeg) σ_2 (fun r_6 σ_5 => (r_6 = 0 → (w_X3_breakLost_57 Q (fun x2 σ => w_X3_breakLost_2 Q n x2 σ) x2 σ_5)) ∧ (¬ r_6 = 0 → (w_X6_placeAhead (σ.1 41 x2.toNatClampNeg) σ_5 (fun r_9 σ_8 => vp_in x2 40 ∧ ((¬ r_9 = (σ_8.1 39 x2.toNatClampNeg) → (w_X3_breakLost_57 Q (fun x2 σ => w_X3_breakLost_2 Q n x2 σ) x2 σ_8)) ∧ (r_9 = (σ_8.1 39 x2.toNatClampNeg) → (w_X3_breakLost_58 Q (fun x2 σ => w_X3_breakLost_2 Q n x2 σ) x2 1 σ_8))))))))))))))
set_option maxHeartbeats 4000000 in
set_option maxRecDepth 100000 in
theorem b_X3_breakLost_2 (C : CX p R s m args meth c cX3_breakLost 5 RX3 4 88 D cs) (hE : RV p l e R s m args below meth c cX3_breakLost D cs LC q Q E) : ∀ n : Nat, ∀ (x2 : Int32) (σ : St) (H : Heap) (locs : List Loc) (ls : Array Slot), OK D cs LC q s σ H locs → lv_has ls 5 [(0, .ref (q 10)), (1, .ref (q 7)), (2, .int x2)] → w_X3_breakLost_2 Q n x2 σ → W p l e R s m args below meth c H locs 0 0 E (F0 m 2 ls []) := by
  have hx := C.1
  have hb := C.2.1
  intro n
  induction n with
  | zero => intro x2 σ H locs ls O hl hf; exact hf.elim
  | succ n ih =>
    intro x2 σ H locs ls O hl hf
    unfold w_X3_breakLost_2 at hf
    refine lv_iload_n hx hb dX3_breakLost_2 rfl (lv_at hl 2 rfl) ?_
    refine lv_aload_n hx hb dX3_breakLost_3 rfl (lv_at hl 0 rfl) ?_
    refine r_get C O (k := 10) (j := 7) (v := .int (σ.1 10 7)) fX3_33 rfl rfl rfl dX3_breakLost_4 ?_
    refine lv_icmp_ge (tgt := 86) hx hb dX3_breakLost_7 (by decide) (fun c_1 => ?_) (fun c_1 => ?_)
    · have hf := hf.1 c_1
      exact hE _ _ _ _ _ O hf dX3_breakLost_86
    · have hf := hf.2 c_1
      refine lv_aload_n hx hb dX3_breakLost_10 rfl (lv_at hl 0 rfl) ?_
      refine r_get C O (k := 10) (j := 3) (v := .ref (q 41)) fX3_21 rfl rfl rfl dX3_breakLost_11 ?_
      refine lv_iload_n hx hb dX3_breakLost_14 rfl (lv_at hl 2 rfl) ?_
      refine r_iald C O (k := 41) rfl hf.1 dX3_breakLost_15 ?_
      have hf := hf.2
      refine lv_istore_n (lv' := [(3, .int (σ.1 41 x2.toNatClampNeg)), (0, .ref (q 10)), (1, .ref (q 7)), (2, .int x2)]) hx hb dX3_breakLost_16 rfl hl (by decide) rfl (fun ls hl => ?_)
      refine lv_aload_n hx hb dX3_breakLost_17 rfl (lv_at hl 2 rfl) ?_
      refine lv_iload_n hx hb dX3_breakLost_18 rfl (lv_at hl 0 rfl) ?_
      refine r_callI C O hl (c_X6_planeOf l (σ.1 41 x2.toNatClampNeg)) mX3_41 (by decide) rfl rfl rfl rfl (Nat.le_of_ble_eq_true rfl) hf dX3_breakLost_19 (fun r_3 σ_2 H locs O hf => ?_)
      refine lv_aload_n hx hb dX3_breakLost_22 rfl (lv_at hl 1 rfl) ?_
      refine r_get C O (k := 10) (j := 2) (v := .ref (q 40)) fX3_18 rfl rfl rfl dX3_breakLost_23 ?_
      refine lv_iload_n hx hb dX3_breakLost_26 rfl (lv_at hl 3 rfl) ?_
      refine r_iald C O (k := 40) rfl hf.1 dX3_breakLost_27 ?_
      have hf := hf.2
      refine lv_icmp_ne (tgt := 57) hx hb dX3_breakLost_28 (by decide) (fun c_4 => ?_) (fun c_4 => ?_)
      · have hf := hf.1 c_4
        exact b_X3_breakLost_57 C hE ih x2 σ_2 _ _ ls O (lv_sub hl [1, 2, 3] rfl) hf
      · have hf := hf.2 c_4
        refine lv_aload_n hx hb dX3_breakLost_31 rfl (lv_at hl 2 rfl) ?_
        refine lv_iload_n hx hb dX3_breakLost_32 rfl (lv_at hl 0 rfl) ?_
        refine r_callI C O hl (c_X6_hasLeg l (σ.1 41 x2.toNatClampNeg)) mX3_47 (by decide) rfl rfl rfl rfl (Nat.le_of_ble_eq_true rfl) hf dX3_breakLost_33 (fun r_6 σ_5 H locs O hf => ?_)
        refine lv_if_eq (tgt := 57) hx hb dX3_breakLost_36 (by decide) (fun c_7 => ?_) (fun c_7 => ?_)
        · have hf := hf.1 c_7
          exact b_X3_breakLost_57 C hE ih x2 σ_5 _ _ ls O (lv_sub hl [1, 2, 3] rfl) hf
        · have hf := hf.2 c_7
          refine lv_aload_n hx hb dX3_breakLost_39 rfl (lv_at hl 2 rfl) ?_
          refine lv_iload_n hx hb dX3_breakLost_40 rfl (lv_at hl 0 rfl) ?_
          refine r_callI C O hl (c_X6_placeAhead l (σ.1 41 x2.toNatClampNeg)) mX3_50 (by decide) rfl rfl rfl rfl (Nat.le_of_ble_eq_true rfl) hf dX3_breakLost_41 (fun r_9 σ_8 H locs O hf => ?_)
          refine lv_aload_n hx hb dX3_breakLost_44 rfl (lv_at hl 1 rfl) ?_
          refine r_get C O (k := 10) (j := 1) (v := .ref (q 39)) fX3_15 rfl rfl rfl dX3_breakLost_45 ?_
          refine lv_iload_n hx hb dX3_breakLost_48 rfl (lv_at hl 3 rfl) ?_
          refine r_iald C O (k := 39) rfl hf.1 dX3_breakLost_49 ?_
          have hf := hf.2
          refine lv_icmp_ne (tgt := 57) hx hb dX3_breakLost_50 (by decide) (fun c_10 => ?_) (fun c_10 => ?_)
          · have hf := hf.1 c_10
            exact b_X3_breakLost_57 C hE ih x2 σ_8 _ _ ls O (lv_sub hl [1, 2, 3] rfl) hf
          · have hf := hf.2 c_10
            refine lv_iconst (v := 1) hx hb dX3_breakLost_53 (by decide) ?_
            refine lv_goto (tgt := 58) hx hb dX3_breakLost_54 (by decide) ?_
            exact b_X3_breakLost_58 C hE ih x2 1 σ_8 _ _ ls O (lv_sub hl [1, 2, 3] rfl) hf
def w_X3_breakLost (σ : St) (Q : St → Prop) : Prop := ∃ nn : Nat, w_X3_breakLost_2 Q nn 0 σ
set_option maxHeartbeats 4000000 in
set_option maxRecDepth 100000 in
theorem b_X3_breakLost (C : CX p R s m args meth c cX3_breakLost 5 RX3 4 88 D cs) (hE : RV p l e R s m args below meth c cX3_breakLost D cs LC q Q E) : ∀ (σ : St) (H : Heap) (locs : List Loc) (ls : Array Slot), OK D cs LC q s σ H locs → lv_has ls 5 [(0, .ref (q 10)), (1, .ref (q 7))] → w_X3_breakLost  σ Q → W p l e R s m args below meth c H locs 0 0 E (F0 m 0 ls []) := by
  have hx := C.1
  have hb := C.2.1
  intro  σ H locs ls O hl hf
  unfold w_X3_breakLost at hf
  refine lv_iconst (v := 0) hx hb dX3_breakLost_0 (by decide) ?_
  refine lv_istore_n (lv' := [(2, .int 0), (0, .ref (q 10)), (1, .ref (q 7))]) hx hb dX3_breakLost_1 rfl hl (by decide) rfl (fun ls hl => ?_)
  obtain ⟨nn, hf⟩ := hf
  exact b_X3_breakLost_2 C hE nn 0 σ _ _ ls O (lv_sub hl [1, 2, 0] rfl) hf
theorem c_X3_breakLost (l : Launch) : MetV l yX3_breakLost cX3_breakLost 5 4 88 LC 10 (fun q => [.ref (q 7)]) (w_X3_breakLost ) := mk_V (own := RX3) (by decide) rfl (fun q => Nat.le_of_ble_eq_true rfl) (fun C hE O hl hf => b_X3_breakLost C hE _ _ _ _ O hl hf)
end
section
variable {p : Program} {l : Launch} {e : Env} {R : Room} {s : State} {m : MethodId} {args : Array Value} {below : List Frame} {meth : Method} {c : Code} {E : State → Prop}
variable {D : va_G} {cs : Nat → ClassId} {q : Nat → Nat}
variable {Q : Int32 → St → Prop}
def w_X3_isHeld_2 (Q : Int32 → St → Prop) : Nat → Int32 → Int32 → St → Prop
  | 0, _, _, _ => False
  | n + 1, x1, x2, σ => ((σ.1 10 7) ≤ x2 → (Q 0 σ)) ∧ (¬ (σ.1 10 7) ≤ x2 → (vp_in x2 40 ∧ ((¬ (σ.1 41 x2.toNatClampNeg) = x1 → (w_X3_isHeld_2 Q n x1 (x2 + 1) σ)) ∧ ((σ.1 41 x2.toNatClampNeg) = x1 → (w_X3_isStanding x2 σ (fun r_4 σ_3 => (r_4 = 0 → (w_X3_isHeld_2 Q n x1 (x2 + 1) σ_3)) ∧ (¬ r_4 = 0 → (Q 1 σ_3))))))))
set_option maxHeartbeats 4000000 in
set_option maxRecDepth 100000 in
theorem b_X3_isHeld_2 (C : CX p R s m args meth c cX3_isHeld 3 RX3 3 63 D cs) (hE : RI p l e R s m args below meth c cX3_isHeld D cs LC q .boolean Q E) : ∀ n : Nat, ∀ (x1 : Int32) (x2 : Int32) (σ : St) (H : Heap) (locs : List Loc) (ls : Array Slot), OK D cs LC q s σ H locs → lv_has ls 3 [(0, .ref (q 10)), (1, .int x1), (2, .int x2)] → w_X3_isHeld_2 Q n x1 x2 σ → W p l e R s m args below meth c H locs 0 0 E (F0 m 2 ls []) := by
  have hx := C.1
  have hb := C.2.1
  intro n
  induction n with
  | zero => intro x1 x2 σ H locs ls O hl hf; exact hf.elim
  | succ n ih =>
    intro x1 x2 σ H locs ls O hl hf
    unfold w_X3_isHeld_2 at hf
    refine lv_iload_n hx hb dX3_isHeld_2 rfl (lv_at hl 2 rfl) ?_
    refine lv_aload_n hx hb dX3_isHeld_3 rfl (lv_at hl 0 rfl) ?_
    refine r_get C O (k := 10) (j := 7) (v := .int (σ.1 10 7)) fX3_33 rfl rfl rfl dX3_isHeld_4 ?_
    refine lv_icmp_ge (tgt := 36) hx hb dX3_isHeld_7 (by decide) (fun c_1 => ?_) (fun c_1 => ?_)
    · have hf := hf.1 c_1
      refine lv_iconst (v := 0) hx hb dX3_isHeld_36 (by decide) ?_
      exact hE _ _ _ _ _ _ rfl O hf dX3_isHeld_37
    · have hf := hf.2 c_1
      refine lv_aload_n hx hb dX3_isHeld_10 rfl (lv_at hl 0 rfl) ?_
      refine r_get C O (k := 10) (j := 3) (v := .ref (q 41)) fX3_21 rfl rfl rfl dX3_isHeld_11 ?_
      refine lv_iload_n hx hb dX3_isHeld_14 rfl (lv_at hl 2 rfl) ?_
      refine r_iald C O (k := 41) rfl hf.1 dX3_isHeld_15 ?_
      have hf := hf.2
      refine lv_iload_n hx hb dX3_isHeld_16 rfl (lv_at hl 1 rfl) ?_
      refine lv_icmp_ne (tgt := 30) hx hb dX3_isHeld_17 (by decide) (fun c_2 => ?_) (fun c_2 => ?_)
      · have hf := hf.1 c_2
        refine lv_iinc (v := x2 + 1) (lv' := [(2, .int (x2 + 1)), (0, .ref (q 10)), (1, .int x1)]) hx hb dX3_isHeld_30 hl (k := 2) rfl rfl (by decide) rfl (fun ls hl => ?_)
        refine lv_goto (tgt := 2) hx hb dX3_isHeld_33 (by decide) ?_
        exact ih x1 (x2 + 1) σ _ _ ls O (lv_sub hl [1, 2, 0] rfl) hf
      · have hf := hf.2 c_2
        refine lv_aload_n hx hb dX3_isHeld_20 rfl (lv_at hl 0 rfl) ?_
        refine lv_iload_n hx hb dX3_isHeld_21 rfl (lv_at hl 2 rfl) ?_
        refine r_callI C O hl (c_X3_isStanding l x2) mX3_53 (by decide) rfl rfl rfl rfl (Nat.le_of_ble_eq_true rfl) hf dX3_isHeld_22 (fun r_4 σ_3 H locs O hf => ?_)
        refine lv_if_eq (tgt := 30) hx hb dX3_isHeld_25 (by decide) (fun c_5 => ?_) (fun c_5 => ?_)
        · have hf := hf.1 c_5
          refine lv_iinc (v := x2 + 1) (lv' := [(2, .int (x2 + 1)), (0, .ref (q 10)), (1, .int x1)]) hx hb dX3_isHeld_30 hl (k := 2) rfl rfl (by decide) rfl (fun ls hl => ?_)
          refine lv_goto (tgt := 2) hx hb dX3_isHeld_33 (by decide) ?_
          exact ih x1 (x2 + 1) σ_3 _ _ ls O (lv_sub hl [1, 2, 0] rfl) hf
        · have hf := hf.2 c_5
          refine lv_iconst (v := 1) hx hb dX3_isHeld_28 (by decide) ?_
          exact hE _ _ _ _ _ _ rfl O hf dX3_isHeld_29
def w_X3_isHeld (x1 : Int32) (σ : St) (Q : Int32 → St → Prop) : Prop := ∃ nn : Nat, w_X3_isHeld_2 Q nn x1 0 σ
set_option maxHeartbeats 4000000 in
set_option maxRecDepth 100000 in
theorem b_X3_isHeld (C : CX p R s m args meth c cX3_isHeld 3 RX3 3 63 D cs) (hE : RI p l e R s m args below meth c cX3_isHeld D cs LC q .boolean Q E) : ∀ (x1 : Int32) (σ : St) (H : Heap) (locs : List Loc) (ls : Array Slot), OK D cs LC q s σ H locs → lv_has ls 3 [(0, .ref (q 10)), (1, .int x1)] → w_X3_isHeld x1 σ Q → W p l e R s m args below meth c H locs 0 0 E (F0 m 0 ls []) := by
  have hx := C.1
  have hb := C.2.1
  intro x1 σ H locs ls O hl hf
  unfold w_X3_isHeld at hf
  refine lv_iconst (v := 0) hx hb dX3_isHeld_0 (by decide) ?_
  refine lv_istore_n (lv' := [(2, .int 0), (0, .ref (q 10)), (1, .int x1)]) hx hb dX3_isHeld_1 rfl hl (by decide) rfl (fun ls hl => ?_)
  obtain ⟨nn, hf⟩ := hf
  exact b_X3_isHeld_2 C hE nn x1 0 σ _ _ ls O (lv_sub hl [1, 2, 0] rfl) hf
theorem c_X3_isHeld (l : Launch) (x1 : Int32) : MetI l yX3_isHeld cX3_isHeld 3 .boolean 3 63 LC 10 (fun q => [.int x1]) (w_X3_isHeld x1) := mk_I (own := RX3) (by decide) rfl (fun q => Nat.le_of_ble_eq_true rfl) (fun C hE O hl hf => b_X3_isHeld C hE x1 _ _ _ _ O hl hf)
end
section
variable {p : Program} {l : Launch} {e : Env} {R : Room} {s : State} {m : MethodId} {args : Array Value} {below : List Frame} {meth : Method} {c : Code} {E : State → Prop}
variable {D : va_G} {cs : Nat → ClassId} {q : Nat → Nat}
variable {Q : Int32 → St → Prop}
def w_X3_takenPrice_2 (Q : Int32 → St → Prop) : Nat → Int32 → Int32 → St → Prop
  | 0, _, _, _ => False
  | n + 1, x1, x2, σ => ((σ.1 10 7) ≤ x2 → (Q 0 σ)) ∧ (¬ (σ.1 10 7) ≤ x2 → (vp_in x2 40 ∧ ((¬ (σ.1 41 x2.toNatClampNeg) = x1 → (w_X3_takenPrice_2 Q n x1 (x2 + 1) σ)) ∧ ((σ.1 41 x2.toNatClampNeg) = x1 → (vp_in x2 40 ∧ ((¬ (σ.1 38 x2.toNatClampNeg) = 1 → (w_X3_takenPrice_2 Q n x1 (x2 + 1) σ)) ∧ ((σ.1 38 x2.toNatClampNeg) = 1 → (vp_in x2 40 ∧ (Q (σ.1 42 x2.toNatClampNeg) σ)))))))))
set_option maxHeartbeats 4000000 in
set_option maxRecDepth 100000 in
theorem b_X3_takenPrice_2 (C : CX p R s m args meth c cX3_takenPrice 3 RX3 0 0 D cs) (hE : RI p l e R s m args below meth c cX3_takenPrice D cs LC q .int Q E) : ∀ n : Nat, ∀ (x1 : Int32) (x2 : Int32) (σ : St) (H : Heap) (locs : List Loc) (ls : Array Slot), OK D cs LC q s σ H locs → lv_has ls 3 [(0, .ref (q 10)), (1, .int x1), (2, .int x2)] → w_X3_takenPrice_2 Q n x1 x2 σ → W p l e R s m args below meth c H locs 0 0 E (F0 m 2 ls []) := by
  have hx := C.1
  have hb := C.2.1
  intro n
  induction n with
  | zero => intro x1 x2 σ H locs ls O hl hf; exact hf.elim
  | succ n ih =>
    intro x1 x2 σ H locs ls O hl hf
    unfold w_X3_takenPrice_2 at hf
    refine lv_iload_n hx hb dX3_takenPrice_2 rfl (lv_at hl 2 rfl) ?_
    refine lv_aload_n hx hb dX3_takenPrice_3 rfl (lv_at hl 0 rfl) ?_
    refine r_get C O (k := 10) (j := 7) (v := .int (σ.1 10 7)) fX3_33 rfl rfl rfl dX3_takenPrice_4 ?_
    refine lv_icmp_ge (tgt := 43) hx hb dX3_takenPrice_7 (by decide) (fun c_1 => ?_) (fun c_1 => ?_)
    · have hf := hf.1 c_1
      refine lv_iconst (v := 0) hx hb dX3_takenPrice_43 (by decide) ?_
      exact hE _ _ _ _ _ _ (vp_nar_int _) O hf dX3_takenPrice_44
    · have hf := hf.2 c_1
      refine lv_aload_n hx hb dX3_takenPrice_10 rfl (lv_at hl 0 rfl) ?_
      refine r_get C O (k := 10) (j := 3) (v := .ref (q 41)) fX3_21 rfl rfl rfl dX3_takenPrice_11 ?_
      refine lv_iload_n hx hb dX3_takenPrice_14 rfl (lv_at hl 2 rfl) ?_
      refine r_iald C O (k := 41) rfl hf.1 dX3_takenPrice_15 ?_
      have hf := hf.2
      refine lv_iload_n hx hb dX3_takenPrice_16 rfl (lv_at hl 1 rfl) ?_
      refine lv_icmp_ne (tgt := 37) hx hb dX3_takenPrice_17 (by decide) (fun c_2 => ?_) (fun c_2 => ?_)
      · have hf := hf.1 c_2
        refine lv_iinc (v := x2 + 1) (lv' := [(2, .int (x2 + 1)), (0, .ref (q 10)), (1, .int x1)]) hx hb dX3_takenPrice_37 hl (k := 2) rfl rfl (by decide) rfl (fun ls hl => ?_)
        refine lv_goto (tgt := 2) hx hb dX3_takenPrice_40 (by decide) ?_
        exact ih x1 (x2 + 1) σ _ _ ls O (lv_sub hl [1, 2, 0] rfl) hf
      · have hf := hf.2 c_2
        refine lv_aload_n hx hb dX3_takenPrice_20 rfl (lv_at hl 0 rfl) ?_
        refine r_get C O (k := 10) (j := 0) (v := .ref (q 38)) fX3_11 rfl rfl rfl dX3_takenPrice_21 ?_
        refine lv_iload_n hx hb dX3_takenPrice_24 rfl (lv_at hl 2 rfl) ?_
        refine r_iald C O (k := 38) rfl hf.1 dX3_takenPrice_25 ?_
        have hf := hf.2
        refine lv_iconst (v := 1) hx hb dX3_takenPrice_26 (by decide) ?_
        refine lv_icmp_ne (tgt := 37) hx hb dX3_takenPrice_27 (by decide) (fun c_3 => ?_) (fun c_3 => ?_)
        · have hf := hf.1 c_3
          refine lv_iinc (v := x2 + 1) (lv' := [(2, .int (x2 + 1)), (0, .ref (q 10)), (1, .int x1)]) hx hb dX3_takenPrice_37 hl (k := 2) rfl rfl (by decide) rfl (fun ls hl => ?_)
          refine lv_goto (tgt := 2) hx hb dX3_takenPrice_40 (by decide) ?_
          exact ih x1 (x2 + 1) σ _ _ ls O (lv_sub hl [1, 2, 0] rfl) hf
        · have hf := hf.2 c_3
          refine lv_aload_n hx hb dX3_takenPrice_30 rfl (lv_at hl 0 rfl) ?_
          refine r_get C O (k := 10) (j := 4) (v := .ref (q 42)) fX3_24 rfl rfl rfl dX3_takenPrice_31 ?_
          refine lv_iload_n hx hb dX3_takenPrice_34 rfl (lv_at hl 2 rfl) ?_
          refine r_iald C O (k := 42) rfl hf.1 dX3_takenPrice_35 ?_
          have hf := hf.2
          exact hE _ _ _ _ _ _ (vp_nar_int _) O hf dX3_takenPrice_36
def w_X3_takenPrice (x1 : Int32) (σ : St) (Q : Int32 → St → Prop) : Prop := ∃ nn : Nat, w_X3_takenPrice_2 Q nn x1 0 σ
set_option maxHeartbeats 4000000 in
set_option maxRecDepth 100000 in
theorem b_X3_takenPrice (C : CX p R s m args meth c cX3_takenPrice 3 RX3 0 0 D cs) (hE : RI p l e R s m args below meth c cX3_takenPrice D cs LC q .int Q E) : ∀ (x1 : Int32) (σ : St) (H : Heap) (locs : List Loc) (ls : Array Slot), OK D cs LC q s σ H locs → lv_has ls 3 [(0, .ref (q 10)), (1, .int x1)] → w_X3_takenPrice x1 σ Q → W p l e R s m args below meth c H locs 0 0 E (F0 m 0 ls []) := by
  have hx := C.1
  have hb := C.2.1
  intro x1 σ H locs ls O hl hf
  unfold w_X3_takenPrice at hf
  refine lv_iconst (v := 0) hx hb dX3_takenPrice_0 (by decide) ?_
  refine lv_istore_n (lv' := [(2, .int 0), (0, .ref (q 10)), (1, .int x1)]) hx hb dX3_takenPrice_1 rfl hl (by decide) rfl (fun ls hl => ?_)
  obtain ⟨nn, hf⟩ := hf
  exact b_X3_takenPrice_2 C hE nn x1 0 σ _ _ ls O (lv_sub hl [1, 2, 0] rfl) hf
theorem c_X3_takenPrice (l : Launch) (x1 : Int32) : MetI l yX3_takenPrice cX3_takenPrice 3 .int 0 0 LC 10 (fun q => [.int x1]) (w_X3_takenPrice x1) := mk_I (own := RX3) (by decide) rfl (fun q => Nat.le_of_ble_eq_true rfl) (fun C hE O hl hf => b_X3_takenPrice C hE x1 _ _ _ _ O hl hf)
end
section
variable {p : Program} {l : Launch} {e : Env} {R : Room} {s : State} {m : MethodId} {args : Array Value} {below : List Frame} {meth : Method} {c : Code} {E : State → Prop}
variable {D : va_G} {cs : Nat → ClassId} {q : Nat → Nat}
variable {Q : Int32 → St → Prop}
def w_X3_size (σ : St) (Q : Int32 → St → Prop) : Prop := Q (σ.1 10 7) σ
set_option maxHeartbeats 4000000 in
set_option maxRecDepth 100000 in
theorem b_X3_size (C : CX p R s m args meth c cX3_size 1 RX3 0 0 D cs) (hE : RI p l e R s m args below meth c cX3_size D cs LC q .int Q E) : ∀ (σ : St) (H : Heap) (locs : List Loc) (ls : Array Slot), OK D cs LC q s σ H locs → lv_has ls 1 [(0, .ref (q 10))] → w_X3_size  σ Q → W p l e R s m args below meth c H locs 0 0 E (F0 m 0 ls []) := by
  have hx := C.1
  have hb := C.2.1
  intro  σ H locs ls O hl hf
  unfold w_X3_size at hf
  refine lv_aload_n hx hb dX3_size_0 rfl (lv_at hl 0 rfl) ?_
  refine r_get C O (k := 10) (j := 7) (v := .int (σ.1 10 7)) fX3_33 rfl rfl rfl dX3_size_1 ?_
  exact hE _ _ _ _ _ _ (vp_nar_int _) O hf dX3_size_4
theorem c_X3_size (l : Launch) : MetI l yX3_size cX3_size 1 .int 0 0 LC 10 (fun q => []) (w_X3_size ) := mk_I (own := RX3) (by decide) rfl (fun q => Nat.le_of_ble_eq_true rfl) (fun C hE O hl hf => b_X3_size C hE _ _ _ _ O hl hf)
end
section
variable {p : Program} {l : Launch} {e : Env} {R : Room} {s : State} {m : MethodId} {args : Array Value} {below : List Frame} {meth : Method} {c : Code} {E : State → Prop}
variable {D : va_G} {cs : Nat → ClassId} {q : Nat → Nat}
variable {Q : Int32 → St → Prop}
def w_X3_priceOf (x1 : Int32) (σ : St) (Q : Int32 → St → Prop) : Prop := w_X3_has x1 σ (fun r_2 σ_1 => (r_2 = 0 → (Q ((-1)) σ_1)) ∧ (¬ r_2 = 0 → (vp_in x1 40 ∧ (Q (σ_1.1 42 x1.toNatClampNeg) σ_1))))
set_option maxHeartbeats 4000000 in
set_option maxRecDepth 100000 in
theorem b_X3_priceOf (C : CX p R s m args meth c cX3_priceOf 2 RX3 1 21 D cs) (hE : RI p l e R s m args below meth c cX3_priceOf D cs LC q .int Q E) : ∀ (x1 : Int32) (σ : St) (H : Heap) (locs : List Loc) (ls : Array Slot), OK D cs LC q s σ H locs → lv_has ls 2 [(0, .ref (q 10)), (1, .int x1)] → w_X3_priceOf x1 σ Q → W p l e R s m args below meth c H locs 0 0 E (F0 m 0 ls []) := by
  have hx := C.1
  have hb := C.2.1
  intro x1 σ H locs ls O hl hf
  unfold w_X3_priceOf at hf
  refine lv_aload_n hx hb dX3_priceOf_0 rfl (lv_at hl 0 rfl) ?_
  refine lv_iload_n hx hb dX3_priceOf_1 rfl (lv_at hl 1 rfl) ?_
  refine r_callI C O hl (c_X3_has l x1) mX3_37 (by decide) rfl rfl rfl rfl (Nat.le_of_ble_eq_true rfl) hf dX3_priceOf_2 (fun r_2 σ_1 H locs O hf => ?_)
  refine lv_if_eq (tgt := 17) hx hb dX3_priceOf_5 (by decide) (fun c_3 => ?_) (fun c_3 => ?_)
  · have hf := hf.1 c_3
    refine lv_iconst (v := (-1)) hx hb dX3_priceOf_17 (by decide) ?_
    exact hE _ _ _ _ _ _ (vp_nar_int _) O hf dX3_priceOf_18
  · have hf := hf.2 c_3
    refine lv_aload_n hx hb dX3_priceOf_8 rfl (lv_at hl 0 rfl) ?_
    refine r_get C O (k := 10) (j := 4) (v := .ref (q 42)) fX3_24 rfl rfl rfl dX3_priceOf_9 ?_
    refine lv_iload_n hx hb dX3_priceOf_12 rfl (lv_at hl 1 rfl) ?_
    refine r_iald C O (k := 42) rfl hf.1 dX3_priceOf_13 ?_
    have hf := hf.2
    refine lv_goto (tgt := 18) hx hb dX3_priceOf_14 (by decide) ?_
    exact hE _ _ _ _ _ _ (vp_nar_int _) O hf dX3_priceOf_18
theorem c_X3_priceOf (l : Launch) (x1 : Int32) : MetI l yX3_priceOf cX3_priceOf 2 .int 1 21 LC 10 (fun q => [.int x1]) (w_X3_priceOf x1) := mk_I (own := RX3) (by decide) rfl (fun q => Nat.le_of_ble_eq_true rfl) (fun C hE O hl hf => b_X3_priceOf C hE x1 _ _ _ _ O hl hf)
end
section
variable {p : Program} {l : Launch} {e : Env} {R : Room} {s : State} {m : MethodId} {args : Array Value} {below : List Frame} {meth : Method} {c : Code} {E : State → Prop}
variable {D : va_G} {cs : Nat → ClassId} {q : Nat → Nat}
variable {Q : Int32 → St → Prop}
def w_X3_tillOf (x1 : Int32) (σ : St) (Q : Int32 → St → Prop) : Prop := w_X3_has x1 σ (fun r_2 σ_1 => (r_2 = 0 → (Q ((-1)) σ_1)) ∧ (¬ r_2 = 0 → (vp_in x1 40 ∧ (Q (σ_1.1 43 x1.toNatClampNeg) σ_1))))
set_option maxHeartbeats 4000000 in
set_option maxRecDepth 100000 in
theorem b_X3_tillOf (C : CX p R s m args meth c cX3_tillOf 2 RX3 1 21 D cs) (hE : RI p l e R s m args below meth c cX3_tillOf D cs LC q .int Q E) : ∀ (x1 : Int32) (σ : St) (H : Heap) (locs : List Loc) (ls : Array Slot), OK D cs LC q s σ H locs → lv_has ls 2 [(0, .ref (q 10)), (1, .int x1)] → w_X3_tillOf x1 σ Q → W p l e R s m args below meth c H locs 0 0 E (F0 m 0 ls []) := by
  have hx := C.1
  have hb := C.2.1
  intro x1 σ H locs ls O hl hf
  unfold w_X3_tillOf at hf
  refine lv_aload_n hx hb dX3_tillOf_0 rfl (lv_at hl 0 rfl) ?_
  refine lv_iload_n hx hb dX3_tillOf_1 rfl (lv_at hl 1 rfl) ?_
  refine r_callI C O hl (c_X3_has l x1) mX3_37 (by decide) rfl rfl rfl rfl (Nat.le_of_ble_eq_true rfl) hf dX3_tillOf_2 (fun r_2 σ_1 H locs O hf => ?_)
  refine lv_if_eq (tgt := 17) hx hb dX3_tillOf_5 (by decide) (fun c_3 => ?_) (fun c_3 => ?_)
  · have hf := hf.1 c_3
    refine lv_iconst (v := (-1)) hx hb dX3_tillOf_17 (by decide) ?_
    exact hE _ _ _ _ _ _ (vp_nar_int _) O hf dX3_tillOf_18
  · have hf := hf.2 c_3
    refine lv_aload_n hx hb dX3_tillOf_8 rfl (lv_at hl 0 rfl) ?_
    refine r_get C O (k := 10) (j := 5) (v := .ref (q 43)) fX3_27 rfl rfl rfl dX3_tillOf_9 ?_
    refine lv_iload_n hx hb dX3_tillOf_12 rfl (lv_at hl 1 rfl) ?_
    refine r_iald C O (k := 43) rfl hf.1 dX3_tillOf_13 ?_
    have hf := hf.2
    refine lv_goto (tgt := 18) hx hb dX3_tillOf_14 (by decide) ?_
    exact hE _ _ _ _ _ _ (vp_nar_int _) O hf dX3_tillOf_18
theorem c_X3_tillOf (l : Launch) (x1 : Int32) : MetI l yX3_tillOf cX3_tillOf 2 .int 1 21 LC 10 (fun q => [.int x1]) (w_X3_tillOf x1) := mk_I (own := RX3) (by decide) rfl (fun q => Nat.le_of_ble_eq_true rfl) (fun C hE O hl hf => b_X3_tillOf C hE x1 _ _ _ _ O hl hf)
end
section
variable {p : Program} {l : Launch} {e : Env} {R : Room} {s : State} {m : MethodId} {args : Array Value} {below : List Frame} {meth : Method} {c : Code} {E : State → Prop}
variable {D : va_G} {cs : Nat → ClassId} {q : Nat → Nat}
variable {Q : Int32 → St → Prop}
def w_X3_clientOf (x1 : Int32) (σ : St) (Q : Int32 → St → Prop) : Prop := w_X3_has x1 σ (fun r_2 σ_1 => (r_2 = 0 → (Q ((-1)) σ_1)) ∧ (¬ r_2 = 0 → (vp_in x1 40 ∧ (Q (σ_1.1 44 x1.toNatClampNeg) σ_1))))
set_option maxHeartbeats 4000000 in
set_option maxRecDepth 100000 in
theorem b_X3_clientOf (C : CX p R s m args meth c cX3_clientOf 2 RX3 1 21 D cs) (hE : RI p l e R s m args below meth c cX3_clientOf D cs LC q .int Q E) : ∀ (x1 : Int32) (σ : St) (H : Heap) (locs : List Loc) (ls : Array Slot), OK D cs LC q s σ H locs → lv_has ls 2 [(0, .ref (q 10)), (1, .int x1)] → w_X3_clientOf x1 σ Q → W p l e R s m args below meth c H locs 0 0 E (F0 m 0 ls []) := by
  have hx := C.1
  have hb := C.2.1
  intro x1 σ H locs ls O hl hf
  unfold w_X3_clientOf at hf
  refine lv_aload_n hx hb dX3_clientOf_0 rfl (lv_at hl 0 rfl) ?_
  refine lv_iload_n hx hb dX3_clientOf_1 rfl (lv_at hl 1 rfl) ?_
  refine r_callI C O hl (c_X3_has l x1) mX3_37 (by decide) rfl rfl rfl rfl (Nat.le_of_ble_eq_true rfl) hf dX3_clientOf_2 (fun r_2 σ_1 H locs O hf => ?_)
  refine lv_if_eq (tgt := 17) hx hb dX3_clientOf_5 (by decide) (fun c_3 => ?_) (fun c_3 => ?_)
  · have hf := hf.1 c_3
    refine lv_iconst (v := (-1)) hx hb dX3_clientOf_17 (by decide) ?_
    exact hE _ _ _ _ _ _ (vp_nar_int _) O hf dX3_clientOf_18
  · have hf := hf.2 c_3
    refine lv_aload_n hx hb dX3_clientOf_8 rfl (lv_at hl 0 rfl) ?_
    refine r_get C O (k := 10) (j := 6) (v := .ref (q 44)) fX3_30 rfl rfl rfl dX3_clientOf_9 ?_
    refine lv_iload_n hx hb dX3_clientOf_12 rfl (lv_at hl 1 rfl) ?_
    refine r_iald C O (k := 44) rfl hf.1 dX3_clientOf_13 ?_
    have hf := hf.2
    refine lv_goto (tgt := 18) hx hb dX3_clientOf_14 (by decide) ?_
    exact hE _ _ _ _ _ _ (vp_nar_int _) O hf dX3_clientOf_18
theorem c_X3_clientOf (l : Launch) (x1 : Int32) : MetI l yX3_clientOf cX3_clientOf 2 .int 1 21 LC 10 (fun q => [.int x1]) (w_X3_clientOf x1) := mk_I (own := RX3) (by decide) rfl (fun q => Nat.le_of_ble_eq_true rfl) (fun C hE O hl hf => b_X3_clientOf C hE x1 _ _ _ _ O hl hf)
end
section
variable {p : Program} {l : Launch} {e : Env} {R : Room} {s : State} {m : MethodId} {args : Array Value} {below : List Frame} {meth : Method} {c : Code} {E : State → Prop}
variable {D : va_G} {cs : Nat → ClassId} {q : Nat → Nat}
variable {Q : Int32 → St → Prop}
def w_X3_planeOf (x1 : Int32) (σ : St) (Q : Int32 → St → Prop) : Prop := w_X3_has x1 σ (fun r_2 σ_1 => (r_2 = 0 → (Q ((-1)) σ_1)) ∧ (¬ r_2 = 0 → (vp_in x1 40 ∧ (Q (σ_1.1 40 x1.toNatClampNeg) σ_1))))
set_option maxHeartbeats 4000000 in
set_option maxRecDepth 100000 in
theorem b_X3_planeOf (C : CX p R s m args meth c cX3_planeOf 2 RX3 1 21 D cs) (hE : RI p l e R s m args below meth c cX3_planeOf D cs LC q .int Q E) : ∀ (x1 : Int32) (σ : St) (H : Heap) (locs : List Loc) (ls : Array Slot), OK D cs LC q s σ H locs → lv_has ls 2 [(0, .ref (q 10)), (1, .int x1)] → w_X3_planeOf x1 σ Q → W p l e R s m args below meth c H locs 0 0 E (F0 m 0 ls []) := by
  have hx := C.1
  have hb := C.2.1
  intro x1 σ H locs ls O hl hf
  unfold w_X3_planeOf at hf
  refine lv_aload_n hx hb dX3_planeOf_0 rfl (lv_at hl 0 rfl) ?_
  refine lv_iload_n hx hb dX3_planeOf_1 rfl (lv_at hl 1 rfl) ?_
  refine r_callI C O hl (c_X3_has l x1) mX3_37 (by decide) rfl rfl rfl rfl (Nat.le_of_ble_eq_true rfl) hf dX3_planeOf_2 (fun r_2 σ_1 H locs O hf => ?_)
  refine lv_if_eq (tgt := 17) hx hb dX3_planeOf_5 (by decide) (fun c_3 => ?_) (fun c_3 => ?_)
  · have hf := hf.1 c_3
    refine lv_iconst (v := (-1)) hx hb dX3_planeOf_17 (by decide) ?_
    exact hE _ _ _ _ _ _ (vp_nar_int _) O hf dX3_planeOf_18
  · have hf := hf.2 c_3
    refine lv_aload_n hx hb dX3_planeOf_8 rfl (lv_at hl 0 rfl) ?_
    refine r_get C O (k := 10) (j := 2) (v := .ref (q 40)) fX3_18 rfl rfl rfl dX3_planeOf_9 ?_
    refine lv_iload_n hx hb dX3_planeOf_12 rfl (lv_at hl 1 rfl) ?_
    refine r_iald C O (k := 40) rfl hf.1 dX3_planeOf_13 ?_
    have hf := hf.2
    refine lv_goto (tgt := 18) hx hb dX3_planeOf_14 (by decide) ?_
    exact hE _ _ _ _ _ _ (vp_nar_int _) O hf dX3_planeOf_18
theorem c_X3_planeOf (l : Launch) (x1 : Int32) : MetI l yX3_planeOf cX3_planeOf 2 .int 1 21 LC 10 (fun q => [.int x1]) (w_X3_planeOf x1) := mk_I (own := RX3) (by decide) rfl (fun q => Nat.le_of_ble_eq_true rfl) (fun C hE O hl hf => b_X3_planeOf C hE x1 _ _ _ _ O hl hf)
end
section
variable {p : Program} {l : Launch} {e : Env} {R : Room} {s : State} {m : MethodId} {args : Array Value} {below : List Frame} {meth : Method} {c : Code} {E : State → Prop}
variable {D : va_G} {cs : Nat → ClassId} {q : Nat → Nat}
variable {Q : Int32 → St → Prop}
def w_X3_flightOf (x1 : Int32) (σ : St) (Q : Int32 → St → Prop) : Prop := w_X3_has x1 σ (fun r_2 σ_1 => (r_2 = 0 → (Q ((-1)) σ_1)) ∧ (¬ r_2 = 0 → (vp_in x1 40 ∧ (Q (σ_1.1 41 x1.toNatClampNeg) σ_1))))
set_option maxHeartbeats 4000000 in
set_option maxRecDepth 100000 in
theorem b_X3_flightOf (C : CX p R s m args meth c cX3_flightOf 2 RX3 1 21 D cs) (hE : RI p l e R s m args below meth c cX3_flightOf D cs LC q .int Q E) : ∀ (x1 : Int32) (σ : St) (H : Heap) (locs : List Loc) (ls : Array Slot), OK D cs LC q s σ H locs → lv_has ls 2 [(0, .ref (q 10)), (1, .int x1)] → w_X3_flightOf x1 σ Q → W p l e R s m args below meth c H locs 0 0 E (F0 m 0 ls []) := by
  have hx := C.1
  have hb := C.2.1
  intro x1 σ H locs ls O hl hf
  unfold w_X3_flightOf at hf
  refine lv_aload_n hx hb dX3_flightOf_0 rfl (lv_at hl 0 rfl) ?_
  refine lv_iload_n hx hb dX3_flightOf_1 rfl (lv_at hl 1 rfl) ?_
  refine r_callI C O hl (c_X3_has l x1) mX3_37 (by decide) rfl rfl rfl rfl (Nat.le_of_ble_eq_true rfl) hf dX3_flightOf_2 (fun r_2 σ_1 H locs O hf => ?_)
  refine lv_if_eq (tgt := 17) hx hb dX3_flightOf_5 (by decide) (fun c_3 => ?_) (fun c_3 => ?_)
  · have hf := hf.1 c_3
    refine lv_iconst (v := (-1)) hx hb dX3_flightOf_17 (by decide) ?_
    exact hE _ _ _ _ _ _ (vp_nar_int _) O hf dX3_flightOf_18
  · have hf := hf.2 c_3
    refine lv_aload_n hx hb dX3_flightOf_8 rfl (lv_at hl 0 rfl) ?_
    refine r_get C O (k := 10) (j := 3) (v := .ref (q 41)) fX3_21 rfl rfl rfl dX3_flightOf_9 ?_
    refine lv_iload_n hx hb dX3_flightOf_12 rfl (lv_at hl 1 rfl) ?_
    refine r_iald C O (k := 41) rfl hf.1 dX3_flightOf_13 ?_
    have hf := hf.2
    refine lv_goto (tgt := 18) hx hb dX3_flightOf_14 (by decide) ?_
    exact hE _ _ _ _ _ _ (vp_nar_int _) O hf dX3_flightOf_18
theorem c_X3_flightOf (l : Launch) (x1 : Int32) : MetI l yX3_flightOf cX3_flightOf 2 .int 1 21 LC 10 (fun q => [.int x1]) (w_X3_flightOf x1) := mk_I (own := RX3) (by decide) rfl (fun q => Nat.le_of_ble_eq_true rfl) (fun C hE O hl hf => b_X3_flightOf C hE x1 _ _ _ _ O hl hf)
end
section
variable {p : Program} {l : Launch} {e : Env} {R : Room} {s : State} {m : MethodId} {args : Array Value} {below : List Frame} {meth : Method} {c : Code} {E : State → Prop}
variable {D : va_G} {cs : Nat → ClassId} {q : Nat → Nat}
variable {Q : St → Prop}
def w_X6_assign (x1 : Int32) (x2 : Int32) (σ : St) (Q : St → Prop) : Prop := w_X1_has x1 σ (fun r_2 σ_1 => (r_2 = 0 → (Q σ_1)) ∧ (¬ r_2 = 0 → (vp_in x1 20 ∧ (∀ σ_4 : St, σ_4 = wr σ_1 30 x1.toNatClampNeg x2 → (Q σ_4)))))
set_option maxHeartbeats 4000000 in
set_option maxRecDepth 100000 in
theorem b_X6_assign (C : CX p R s m args meth c cX6_assign 3 RX6 1 21 D cs) (hE : RV p l e R s m args below meth c cX6_assign D cs LC q Q E) : ∀ (x1 : Int32) (x2 : Int32) (σ : St) (H : Heap) (locs : List Loc) (ls : Array Slot), OK D cs LC q s σ H locs → lv_has ls 3 [(0, .ref (q 7)), (1, .int x1), (2, .int x2)] → w_X6_assign x1 x2 σ Q → W p l e R s m args below meth c H locs 0 0 E (F0 m 0 ls []) := by
  have hx := C.1
  have hb := C.2.1
  intro x1 x2 σ H locs ls O hl hf
  unfold w_X6_assign at hf
  refine lv_aload_n hx hb dX6_assign_0 rfl (lv_at hl 0 rfl) ?_
  refine r_get C O (k := 7) (j := 1) (v := .ref (q 5)) fX6_21 rfl rfl rfl dX6_assign_1 ?_
  refine lv_iload_n hx hb dX6_assign_4 rfl (lv_at hl 1 rfl) ?_
  refine r_callI C O hl (c_X1_has l x1) mX6_29 (by decide) rfl rfl rfl rfl (Nat.le_of_ble_eq_true rfl) hf dX6_assign_5 (fun r_2 σ_1 H locs O hf => ?_)
  refine lv_if_eq (tgt := 18) hx hb dX6_assign_8 (by decide) (fun c_3 => ?_) (fun c_3 => ?_)
  · have hf := hf.1 c_3
    exact hE _ _ _ _ _ O hf dX6_assign_18
  · have hf := hf.2 c_3
    refine lv_aload_n hx hb dX6_assign_11 rfl (lv_at hl 0 rfl) ?_
    refine r_get C O (k := 7) (j := 3) (v := .ref (q 30)) fX6_11 rfl rfl rfl dX6_assign_12 ?_
    refine lv_iload_n hx hb dX6_assign_15 rfl (lv_at hl 1 rfl) ?_
    refine lv_iload_n hx hb dX6_assign_16 rfl (lv_at hl 2 rfl) ?_
    refine r_iast C O (k := 30) rfl hf.1 dX6_assign_17 (fun H locs σ_4 eσ_4 O => ?_)
    have hf := hf.2 σ_4 eσ_4
    exact hE _ _ _ _ _ O hf dX6_assign_18
theorem c_X6_assign (l : Launch) (x1 : Int32) (x2 : Int32) : MetV l yX6_assign cX6_assign 3 1 21 LC 7 (fun q => [.int x1, .int x2]) (w_X6_assign x1 x2) := mk_V (own := RX6) (by decide) rfl (fun q => Nat.le_of_ble_eq_true rfl) (fun C hE O hl hf => b_X6_assign C hE x1 x2 _ _ _ _ O hl hf)
end
section
variable {p : Program} {l : Launch} {e : Env} {R : Room} {s : State} {m : MethodId} {args : Array Value} {below : List Frame} {meth : Method} {c : Code} {E : State → Prop}
variable {D : va_G} {cs : Nat → ClassId} {q : Nat → Nat}
variable {Q : Int32 → St → Prop}
def w_X6_flown_4 (Q : Int32 → St → Prop) : Nat → Int32 → Int32 → St → Prop
  | 0, _, _, _ => False
  | n + 1, x1, x2, σ => w_X1_size σ (fun r_2 σ_1 => (r_2 ≤ x2 → (Q x1 σ_1)) ∧ (¬ r_2 ≤ x2 → (w_X6_planeOf x2 σ_1 (fun r_5 σ_4 => (¬ r_5 = ((-1)) → (w_X6_flown_4 Q n (x1 + 1) (x2 + 1) σ_4)) ∧ (r_5 = ((-1)) → (w_X6_flown_4 Q n (x1 + 0) (x2 + 1) σ_4))))))
set_option maxHeartbeats 4000000 in
set_option maxRecDepth 100000 in
theorem b_X6_flown_4 (C : CX p R s m args meth c cX6_flown 3 RX6 2 42 D cs) (hE : RI p l e R s m args below meth c cX6_flown D cs LC q .int Q E) : ∀ n : Nat, ∀ (x1 : Int32) (x2 : Int32) (σ : St) (H : Heap) (locs : List Loc) (ls : Array Slot), OK D cs LC q s σ H locs → lv_has ls 3 [(0, .ref (q 7)), (1, .int x1), (2, .int x2)] → w_X6_flown_4 Q n x1 x2 σ → W p l e R s m args below meth c H locs 0 0 E (F0 m 4 ls []) := by
  have hx := C.1
  have hb := C.2.1
  intro n
  induction n with
  | zero => intro x1 x2 σ H locs ls O hl hf; exact hf.elim
  | succ n ih =>
    intro x1 x2 σ H locs ls O hl hf
    unfold w_X6_flown_4 at hf
    refine lv_iload_n hx hb dX6_flown_4 rfl (lv_at hl 2 rfl) ?_
    refine lv_aload_n hx hb dX6_flown_5 rfl (lv_at hl 0 rfl) ?_
    refine r_get C O (k := 7) (j := 1) (v := .ref (q 5)) fX6_21 rfl rfl rfl dX6_flown_6 ?_
    refine r_callI C O hl (c_X1_size l) mX6_33 (by decide) rfl rfl rfl rfl (Nat.le_of_ble_eq_true rfl) hf dX6_flown_9 (fun r_2 σ_1 H locs O hf => ?_)
    refine lv_icmp_ge (tgt := 38) hx hb dX6_flown_12 (by decide) (fun c_3 => ?_) (fun c_3 => ?_)
    · have hf := hf.1 c_3
      refine lv_iload_n hx hb dX6_flown_38 rfl (lv_at hl 1 rfl) ?_
      exact hE _ _ _ _ _ _ (vp_nar_int _) O hf dX6_flown_39
    · have hf := hf.2 c_3
      refine lv_iload_n hx hb dX6_flown_15 rfl (lv_at hl 1 rfl) ?_
      refine lv_aload_n hx hb dX6_flown_16 rfl (lv_at hl 0 rfl) ?_
      refine lv_iload_n hx hb dX6_flown_17 rfl (lv_at hl 2 rfl) ?_
      refine r_callI C O hl (c_X6_planeOf l x2) mX6_37 (by decide) rfl rfl rfl rfl (Nat.le_of_ble_eq_true rfl) hf dX6_flown_18 (fun r_5 σ_4 H locs O hf => ?_)
      refine lv_iconst (v := (-1)) hx hb dX6_flown_21 (by decide) ?_
      refine lv_icmp_ne (tgt := 29) hx hb dX6_flown_22 (by decide) (fun c_6 => ?_) (fun c_6 => ?_)
      · have hf := hf.1 c_6
        refine lv_iconst (v := 1) hx hb dX6_flown_29 (by decide) ?_
        refine lv_iadd hx hb dX6_flown_30 ?_
        refine lv_istore_n (lv' := [(1, .int (x1 + 1)), (0, .ref (q 7)), (2, .int x2)]) hx hb dX6_flown_31 rfl hl (by decide) rfl (fun ls hl => ?_)
        refine lv_iinc (v := x2 + 1) (lv' := [(2, .int (x2 + 1)), (1, .int (x1 + 1)), (0, .ref (q 7))]) hx hb dX6_flown_32 hl (k := 2) rfl rfl (by decide) rfl (fun ls hl => ?_)
        refine lv_goto (tgt := 4) hx hb dX6_flown_35 (by decide) ?_
        exact ih (x1 + 1) (x2 + 1) σ_4 _ _ ls O (lv_sub hl [2, 1, 0] rfl) hf
      · have hf := hf.2 c_6
        refine lv_iconst (v := 0) hx hb dX6_flown_25 (by decide) ?_
        refine lv_goto (tgt := 30) hx hb dX6_flown_26 (by decide) ?_
        refine lv_iadd hx hb dX6_flown_30 ?_
        refine lv_istore_n (lv' := [(1, .int (x1 + 0)), (0, .ref (q 7)), (2, .int x2)]) hx hb dX6_flown_31 rfl hl (by decide) rfl (fun ls hl => ?_)
        refine lv_iinc (v := x2 + 1) (lv' := [(2, .int (x2 + 1)), (1, .int (x1 + 0)), (0, .ref (q 7))]) hx hb dX6_flown_32 hl (k := 2) rfl rfl (by decide) rfl (fun ls hl => ?_)
        refine lv_goto (tgt := 4) hx hb dX6_flown_35 (by decide) ?_
        exact ih (x1 + 0) (x2 + 1) σ_4 _ _ ls O (lv_sub hl [2, 1, 0] rfl) hf
def w_X6_flown (σ : St) (Q : Int32 → St → Prop) : Prop := ∃ nn : Nat, w_X6_flown_4 Q nn 0 0 σ
set_option maxHeartbeats 4000000 in
set_option maxRecDepth 100000 in
theorem b_X6_flown (C : CX p R s m args meth c cX6_flown 3 RX6 2 42 D cs) (hE : RI p l e R s m args below meth c cX6_flown D cs LC q .int Q E) : ∀ (σ : St) (H : Heap) (locs : List Loc) (ls : Array Slot), OK D cs LC q s σ H locs → lv_has ls 3 [(0, .ref (q 7))] → w_X6_flown  σ Q → W p l e R s m args below meth c H locs 0 0 E (F0 m 0 ls []) := by
  have hx := C.1
  have hb := C.2.1
  intro  σ H locs ls O hl hf
  unfold w_X6_flown at hf
  refine lv_iconst (v := 0) hx hb dX6_flown_0 (by decide) ?_
  refine lv_istore_n (lv' := [(1, .int 0), (0, .ref (q 7))]) hx hb dX6_flown_1 rfl hl (by decide) rfl (fun ls hl => ?_)
  refine lv_iconst (v := 0) hx hb dX6_flown_2 (by decide) ?_
  refine lv_istore_n (lv' := [(2, .int 0), (1, .int 0), (0, .ref (q 7))]) hx hb dX6_flown_3 rfl hl (by decide) rfl (fun ls hl => ?_)
  obtain ⟨nn, hf⟩ := hf
  exact b_X6_flown_4 C hE nn 0 0 σ _ _ ls O (lv_sub hl [2, 1, 0] rfl) hf
theorem c_X6_flown (l : Launch) : MetI l yX6_flown cX6_flown 3 .int 2 42 LC 7 (fun q => []) (w_X6_flown ) := mk_I (own := RX6) (by decide) rfl (fun q => Nat.le_of_ble_eq_true rfl) (fun C hE O hl hf => b_X6_flown C hE _ _ _ _ O hl hf)
end
section
variable {p : Program} {l : Launch} {e : Env} {R : Room} {s : State} {m : MethodId} {args : Array Value} {below : List Frame} {meth : Method} {c : Code} {E : State → Prop}
variable {D : va_G} {cs : Nat → ClassId} {q : Nat → Nat}
variable {Q : Int32 → St → Prop}
def w_X6_legMinutes (x1 : Int32) (σ : St) (Q : Int32 → St → Prop) : Prop := w_X6_hasLeg x1 σ (fun r_2 σ_1 => (r_2 = 0 → (Q 0 σ_1)) ∧ (¬ r_2 = 0 → (w_X6_placeAhead x1 σ_1 (fun r_5 σ_4 => w_X1_fromOf x1 σ_4 (fun r_7 σ_6 => w_X9_minutes r_5 r_7 σ_6 (fun r_9 σ_8 => Q r_9 σ_8))))))
set_option maxHeartbeats 4000000 in
set_option maxRecDepth 100000 in
theorem b_X6_legMinutes (C : CX p R s m args meth c cX6_legMinutes 2 RX6 4 88 D cs) (hE : RI p l e R s m args below meth c cX6_legMinutes D cs LC q .int Q E) : ∀ (x1 : Int32) (σ : St) (H : Heap) (locs : List Loc) (ls : Array Slot), OK D cs LC q s σ H locs → lv_has ls 2 [(0, .ref (q 7)), (1, .int x1)] → w_X6_legMinutes x1 σ Q → W p l e R s m args below meth c H locs 0 0 E (F0 m 0 ls []) := by
  have hx := C.1
  have hb := C.2.1
  intro x1 σ H locs ls O hl hf
  unfold w_X6_legMinutes at hf
  refine lv_aload_n hx hb dX6_legMinutes_0 rfl (lv_at hl 0 rfl) ?_
  refine lv_iload_n hx hb dX6_legMinutes_1 rfl (lv_at hl 1 rfl) ?_
  refine r_callI C O hl (c_X6_hasLeg l x1) mX6_67 (by decide) rfl rfl rfl rfl (Nat.le_of_ble_eq_true rfl) hf dX6_legMinutes_2 (fun r_2 σ_1 H locs O hf => ?_)
  refine lv_if_eq (tgt := 31) hx hb dX6_legMinutes_5 (by decide) (fun c_3 => ?_) (fun c_3 => ?_)
  · have hf := hf.1 c_3
    refine lv_iconst (v := 0) hx hb dX6_legMinutes_31 (by decide) ?_
    exact hE _ _ _ _ _ _ (vp_nar_int _) O hf dX6_legMinutes_32
  · have hf := hf.2 c_3
    refine lv_aload_n hx hb dX6_legMinutes_8 rfl (lv_at hl 0 rfl) ?_
    refine r_get C O (k := 7) (j := 2) (v := .ref (q 3)) fX6_25 rfl rfl rfl dX6_legMinutes_9 ?_
    refine lv_aload_n hx hb dX6_legMinutes_12 rfl (lv_at hl 0 rfl) ?_
    refine lv_iload_n hx hb dX6_legMinutes_13 rfl (lv_at hl 1 rfl) ?_
    refine r_callI C O hl (c_X6_placeAhead l x1) mX6_64 (by decide) rfl rfl rfl rfl (Nat.le_of_ble_eq_true rfl) hf dX6_legMinutes_14 (fun r_5 σ_4 H locs O hf => ?_)
    refine lv_aload_n hx hb dX6_legMinutes_17 rfl (lv_at hl 0 rfl) ?_
    refine r_get C O (k := 7) (j := 1) (v := .ref (q 5)) fX6_21 rfl rfl rfl dX6_legMinutes_18 ?_
    refine lv_iload_n hx hb dX6_legMinutes_21 rfl (lv_at hl 1 rfl) ?_
    refine r_callI C O hl (c_X1_fromOf l x1) mX6_44 (by decide) rfl rfl rfl rfl (Nat.le_of_ble_eq_true rfl) hf dX6_legMinutes_22 (fun r_7 σ_6 H locs O hf => ?_)
    refine r_callI C O hl (c_X9_minutes l r_5 r_7) mX6_50 (by decide) rfl rfl rfl rfl (Nat.le_of_ble_eq_true rfl) hf dX6_legMinutes_25 (fun r_9 σ_8 H locs O hf => ?_)
    refine lv_goto (tgt := 32) hx hb dX6_legMinutes_28 (by decide) ?_
    exact hE _ _ _ _ _ _ (vp_nar_int _) O hf dX6_legMinutes_32
theorem c_X6_legMinutes (l : Launch) (x1 : Int32) : MetI l yX6_legMinutes cX6_legMinutes 2 .int 4 88 LC 7 (fun q => [.int x1]) (w_X6_legMinutes x1) := mk_I (own := RX6) (by decide) rfl (fun q => Nat.le_of_ble_eq_true rfl) (fun C hE O hl hf => b_X6_legMinutes C hE x1 _ _ _ _ O hl hf)
end
section
variable {p : Program} {l : Launch} {e : Env} {R : Room} {s : State} {m : MethodId} {args : Array Value} {below : List Frame} {meth : Method} {c : Code} {E : State → Prop}
variable {D : va_G} {cs : Nat → ClassId} {q : Nat → Nat}
variable {Q : Int32 → St → Prop}
def w_X6_emptyMinutes_4 (Q : Int32 → St → Prop) : Nat → Int32 → Int32 → St → Prop
  | 0, _, _, _ => False
  | n + 1, x1, x2, σ => w_X1_size σ (fun r_2 σ_1 => (r_2 ≤ x2 → (Q x1 σ_1)) ∧ (¬ r_2 ≤ x2 → (w_X6_legMinutes x2 σ_1 (fun r_5 σ_4 => w_X6_emptyMinutes_4 Q n (x1 + r_5) (x2 + 1) σ_4))))
set_option maxHeartbeats 4000000 in
set_option maxRecDepth 100000 in
theorem b_X6_emptyMinutes_4 (C : CX p R s m args meth c cX6_emptyMinutes 3 RX6 5 109 D cs) (hE : RI p l e R s m args below meth c cX6_emptyMinutes D cs LC q .int Q E) : ∀ n : Nat, ∀ (x1 : Int32) (x2 : Int32) (σ : St) (H : Heap) (locs : List Loc) (ls : Array Slot), OK D cs LC q s σ H locs → lv_has ls 3 [(0, .ref (q 7)), (1, .int x1), (2, .int x2)] → w_X6_emptyMinutes_4 Q n x1 x2 σ → W p l e R s m args below meth c H locs 0 0 E (F0 m 4 ls []) := by
  have hx := C.1
  have hb := C.2.1
  intro n
  induction n with
  | zero => intro x1 x2 σ H locs ls O hl hf; exact hf.elim
  | succ n ih =>
    intro x1 x2 σ H locs ls O hl hf
    unfold w_X6_emptyMinutes_4 at hf
    refine lv_iload_n hx hb dX6_emptyMinutes_4 rfl (lv_at hl 2 rfl) ?_
    refine lv_aload_n hx hb dX6_emptyMinutes_5 rfl (lv_at hl 0 rfl) ?_
    refine r_get C O (k := 7) (j := 1) (v := .ref (q 5)) fX6_21 rfl rfl rfl dX6_emptyMinutes_6 ?_
    refine r_callI C O hl (c_X1_size l) mX6_33 (by decide) rfl rfl rfl rfl (Nat.le_of_ble_eq_true rfl) hf dX6_emptyMinutes_9 (fun r_2 σ_1 H locs O hf => ?_)
    refine lv_icmp_ge (tgt := 29) hx hb dX6_emptyMinutes_12 (by decide) (fun c_3 => ?_) (fun c_3 => ?_)
    · have hf := hf.1 c_3
      refine lv_iload_n hx hb dX6_emptyMinutes_29 rfl (lv_at hl 1 rfl) ?_
      exact hE _ _ _ _ _ _ (vp_nar_int _) O hf dX6_emptyMinutes_30
    · have hf := hf.2 c_3
      refine lv_iload_n hx hb dX6_emptyMinutes_15 rfl (lv_at hl 1 rfl) ?_
      refine lv_aload_n hx hb dX6_emptyMinutes_16 rfl (lv_at hl 0 rfl) ?_
      refine lv_iload_n hx hb dX6_emptyMinutes_17 rfl (lv_at hl 2 rfl) ?_
      refine r_callI C O hl (c_X6_legMinutes l x2) mX6_41 (by decide) rfl rfl rfl rfl (Nat.le_of_ble_eq_true rfl) hf dX6_emptyMinutes_18 (fun r_5 σ_4 H locs O hf => ?_)
      refine lv_iadd hx hb dX6_emptyMinutes_21 ?_
      refine lv_istore_n (lv' := [(1, .int (x1 + r_5)), (0, .ref (q 7)), (2, .int x2)]) hx hb dX6_emptyMinutes_22 rfl hl (by decide) rfl (fun ls hl => ?_)
      refine lv_iinc (v := x2 + 1) (lv' := [(2, .int (x2 + 1)), (1, .int (x1 + r_5)), (0, .ref (q 7))]) hx hb dX6_emptyMinutes_23 hl (k := 2) rfl rfl (by decide) rfl (fun ls hl => ?_)
      refine lv_goto (tgt := 4) hx hb dX6_emptyMinutes_26 (by decide) ?_
      exact ih (x1 + r_5) (x2 + 1) σ_4 _ _ ls O (lv_sub hl [2, 1, 0] rfl) hf
def w_X6_emptyMinutes (σ : St) (Q : Int32 → St → Prop) : Prop := ∃ nn : Nat, w_X6_emptyMinutes_4 Q nn 0 0 σ
set_option maxHeartbeats 4000000 in
set_option maxRecDepth 100000 in
theorem b_X6_emptyMinutes (C : CX p R s m args meth c cX6_emptyMinutes 3 RX6 5 109 D cs) (hE : RI p l e R s m args below meth c cX6_emptyMinutes D cs LC q .int Q E) : ∀ (σ : St) (H : Heap) (locs : List Loc) (ls : Array Slot), OK D cs LC q s σ H locs → lv_has ls 3 [(0, .ref (q 7))] → w_X6_emptyMinutes  σ Q → W p l e R s m args below meth c H locs 0 0 E (F0 m 0 ls []) := by
  have hx := C.1
  have hb := C.2.1
  intro  σ H locs ls O hl hf
  unfold w_X6_emptyMinutes at hf
  refine lv_iconst (v := 0) hx hb dX6_emptyMinutes_0 (by decide) ?_
  refine lv_istore_n (lv' := [(1, .int 0), (0, .ref (q 7))]) hx hb dX6_emptyMinutes_1 rfl hl (by decide) rfl (fun ls hl => ?_)
  refine lv_iconst (v := 0) hx hb dX6_emptyMinutes_2 (by decide) ?_
  refine lv_istore_n (lv' := [(2, .int 0), (1, .int 0), (0, .ref (q 7))]) hx hb dX6_emptyMinutes_3 rfl hl (by decide) rfl (fun ls hl => ?_)
  obtain ⟨nn, hf⟩ := hf
  exact b_X6_emptyMinutes_4 C hE nn 0 0 σ _ _ ls O (lv_sub hl [2, 1, 0] rfl) hf
theorem c_X6_emptyMinutes (l : Launch) : MetI l yX6_emptyMinutes cX6_emptyMinutes 3 .int 5 109 LC 7 (fun q => []) (w_X6_emptyMinutes ) := mk_I (own := RX6) (by decide) rfl (fun q => Nat.le_of_ble_eq_true rfl) (fun C hE O hl hf => b_X6_emptyMinutes C hE _ _ _ _ O hl hf)
end
section
variable {p : Program} {l : Launch} {e : Env} {R : Room} {s : State} {m : MethodId} {args : Array Value} {below : List Frame} {meth : Method} {c : Code} {E : State → Prop}
variable {D : va_G} {cs : Nat → ClassId} {q : Nat → Nat}
variable {Q : Int32 → St → Prop}
def w_X6_minutesOf (x1 : Int32) (σ : St) (Q : Int32 → St → Prop) : Prop := w_X1_fromOf x1 σ (fun r_2 σ_1 => w_X1_toOf x1 σ_1 (fun r_4 σ_3 => w_X9_minutes r_2 r_4 σ_3 (fun r_6 σ_5 => Q r_6 σ_5)))
set_option maxHeartbeats 4000000 in
set_option maxRecDepth 100000 in
theorem b_X6_minutesOf (C : CX p R s m args meth c cX6_minutesOf 2 RX6 2 42 D cs) (hE : RI p l e R s m args below meth c cX6_minutesOf D cs LC q .int Q E) : ∀ (x1 : Int32) (σ : St) (H : Heap) (locs : List Loc) (ls : Array Slot), OK D cs LC q s σ H locs → lv_has ls 2 [(0, .ref (q 7)), (1, .int x1)] → w_X6_minutesOf x1 σ Q → W p l e R s m args below meth c H locs 0 0 E (F0 m 0 ls []) := by
  have hx := C.1
  have hb := C.2.1
  intro x1 σ H locs ls O hl hf
  unfold w_X6_minutesOf at hf
  refine lv_aload_n hx hb dX6_minutesOf_0 rfl (lv_at hl 0 rfl) ?_
  refine r_get C O (k := 7) (j := 2) (v := .ref (q 3)) fX6_25 rfl rfl rfl dX6_minutesOf_1 ?_
  refine lv_aload_n hx hb dX6_minutesOf_4 rfl (lv_at hl 0 rfl) ?_
  refine r_get C O (k := 7) (j := 1) (v := .ref (q 5)) fX6_21 rfl rfl rfl dX6_minutesOf_5 ?_
  refine lv_iload_n hx hb dX6_minutesOf_8 rfl (lv_at hl 1 rfl) ?_
  refine r_callI C O hl (c_X1_fromOf l x1) mX6_44 (by decide) rfl rfl rfl rfl (Nat.le_of_ble_eq_true rfl) hf dX6_minutesOf_9 (fun r_2 σ_1 H locs O hf => ?_)
  refine lv_aload_n hx hb dX6_minutesOf_12 rfl (lv_at hl 0 rfl) ?_
  refine r_get C O (k := 7) (j := 1) (v := .ref (q 5)) fX6_21 rfl rfl rfl dX6_minutesOf_13 ?_
  refine lv_iload_n hx hb dX6_minutesOf_16 rfl (lv_at hl 1 rfl) ?_
  refine r_callI C O hl (c_X1_toOf l x1) mX6_47 (by decide) rfl rfl rfl rfl (Nat.le_of_ble_eq_true rfl) hf dX6_minutesOf_17 (fun r_4 σ_3 H locs O hf => ?_)
  refine r_callI C O hl (c_X9_minutes l r_2 r_4) mX6_50 (by decide) rfl rfl rfl rfl (Nat.le_of_ble_eq_true rfl) hf dX6_minutesOf_20 (fun r_6 σ_5 H locs O hf => ?_)
  exact hE _ _ _ _ _ _ (vp_nar_int _) O hf dX6_minutesOf_23
theorem c_X6_minutesOf (l : Launch) (x1 : Int32) : MetI l yX6_minutesOf cX6_minutesOf 2 .int 2 42 LC 7 (fun q => [.int x1]) (w_X6_minutesOf x1) := mk_I (own := RX6) (by decide) rfl (fun q => Nat.le_of_ble_eq_true rfl) (fun C hE O hl hf => b_X6_minutesOf C hE x1 _ _ _ _ O hl hf)
end
section
variable {p : Program} {l : Launch} {e : Env} {R : Room} {s : State} {m : MethodId} {args : Array Value} {below : List Frame} {meth : Method} {c : Code} {E : State → Prop}
variable {D : va_G} {cs : Nat → ClassId} {q : Nat → Nat}
variable {Q : Int32 → St → Prop}
def w_X6_flightAt_64 (Q : Int32 → St → Prop) (K5 : Int32 → Int32 → Int32 → Int32 → St → Prop) (x1 : Int32) (x2 : Int32) (x4 : Int32) (x5 : Int32) (s0 : Int32) (s1 : Int32) (σ : St) : Prop := (¬ (s0 + s1) = x2 → (K5 x1 x2 ((s0 + s1) + 1) (x4 + 1) σ)) ∧ ((s0 + s1) = x2 → (Q x5 σ))
set_option maxHeartbeats 4000000 in
set_option maxRecDepth 100000 in
theorem b_X6_flightAt_64 (C : CX p R s m args meth c cX6_flightAt 6 RX6 4 88 D cs) (hE : RI p l e R s m args below meth c cX6_flightAt D cs LC q .int Q E) {K5 : Int32 → Int32 → Int32 → Int32 → St → Prop} (hK5 : ∀ (x1 : Int32) (x2 : Int32) (x3 : Int32) (x4 : Int32) (σ : St) (H : Heap) (locs : List Loc) (ls : Array Slot), OK D cs LC q s σ H locs → lv_has ls 6 [(0, .ref (q 7)), (1, .int x1), (2, .int x2), (3, .int x3), (4, .int x4)] → K5 x1 x2 x3 x4 σ → W p l e R s m args below meth c H locs 0 0 E (F0 m 5 ls [])) : ∀ (x1 : Int32) (x2 : Int32) (x4 : Int32) (x5 : Int32) (s0 : Int32) (s1 : Int32) (σ : St) (H : Heap) (locs : List Loc) (ls : Array Slot), OK D cs LC q s σ H locs → lv_has ls 6 [(0, .ref (q 7)), (1, .int x1), (2, .int x2), (4, .int x4), (5, .int x5)] → w_X6_flightAt_64 Q K5 x1 x2 x4 x5 s0 s1 σ → W p l e R s m args below meth c H locs 0 0 E (F0 m 64 ls [.int s1, .int s0]) := by
  have hx := C.1
  have hb := C.2.1
  intro x1 x2 x4 x5 s0 s1 σ H locs ls O hl hf
  unfold w_X6_flightAt_64 at hf
  refine lv_iadd hx hb dX6_flightAt_64 ?_
  refine lv_istore_n (lv' := [(3, .int (s0 + s1)), (0, .ref (q 7)), (1, .int x1), (2, .int x2), (4, .int x4), (5, .int x5)]) hx hb dX6_flightAt_65 rfl hl (by decide) rfl (fun ls hl => ?_)
  refine lv_iload_n hx hb dX6_flightAt_66 rfl (lv_at hl 0 rfl) ?_
  refine lv_iload_n hx hb dX6_flightAt_67 rfl (lv_at hl 3 rfl) ?_
  refine lv_icmp_ne (tgt := 74) hx hb dX6_flightAt_68 (by decide) (fun c_1 => ?_) (fun c_1 => ?_)
  · have hf := hf.1 c_1
    refine lv_iinc (v := (s0 + s1) + 1) (lv' := [(3, .int ((s0 + s1) + 1)), (0, .ref (q 7)), (1, .int x1), (2, .int x2), (4, .int x4), (5, .int x5)]) hx hb dX6_flightAt_74 hl (k := 0) rfl rfl (by decide) rfl (fun ls hl => ?_)
    refine lv_iinc (v := x4 + 1) (lv' := [(4, .int (x4 + 1)), (3, .int ((s0 + s1) + 1)), (0, .ref (q 7)), (1, .int x1), (2, .int x2), (5, .int x5)]) hx hb dX6_flightAt_77 hl (k := 4) rfl rfl (by decide) rfl (fun ls hl => ?_)
    refine lv_goto (tgt := 5) hx hb dX6_flightAt_80 (by decide) ?_
    exact hK5 x1 x2 ((s0 + s1) + 1) (x4 + 1) σ _ _ ls O (lv_sub hl [2, 3, 4, 1, 0] rfl) hf
  · have hf := hf.2 c_1
    refine lv_iload hx hb dX6_flightAt_71 (lv_at hl 5 rfl) ?_
    exact hE _ _ _ _ _ _ (vp_nar_int _) O hf dX6_flightAt_73
def w_X6_flightAt_5 (Q : Int32 → St → Prop) : Nat → Int32 → Int32 → Int32 → Int32 → St → Prop
  | 0, _, _, _, _, _ => False
  | n + 1, x1, x2, x3, x4, σ => w_X1_size σ (fun r_2 σ_1 => (r_2 ≤ x4 → (Q ((-1)) σ_1)) ∧ (¬ r_2 ≤ x4 → (w_X1_inOrder x4 σ_1 (fun r_5 σ_4 => w_X4_has x1 σ_4 (fun r_7 σ_6 => (r_7 = 0 → (w_X6_flightAt_5 Q n x1 x2 x3 (x4 + 1) σ_6)) ∧ (¬ r_7 = 0 → (w_X6_planeOf r_5 σ_6 (fun r_10 σ_9 => (¬ r_10 = x1 → (w_X6_flightAt_5 Q n x1 x2 x3 (x4 + 1) σ_9)) ∧ (r_10 = x1 → (w_X6_hasLeg r_5 σ_9 (fun r_13 σ_12 => (r_13 = 0 → (w_X6_flightAt_64 Q (fun x1 x2 x3 x4 σ => w_X6_flightAt_5 Q n x1 x2 x3 x4 σ) x1 x2 x4 r_5 x3 0 σ_12)) ∧ (¬ r_13 = 0 → (w_X6_flightAt_64 Q (fun x1 x2 x3 x4 σ => w_X6_flightAt_5 Q n x1 x2 x3 x4 σ) x1 x2 x4 r_5 x3 1 σ_12)))))))))))))
set_option maxHeartbeats 4000000 in
set_option maxRecDepth 100000 in
theorem b_X6_flightAt_5 (C : CX p R s m args meth c cX6_flightAt 6 RX6 4 88 D cs) (hE : RI p l e R s m args below meth c cX6_flightAt D cs LC q .int Q E) : ∀ n : Nat, ∀ (x1 : Int32) (x2 : Int32) (x3 : Int32) (x4 : Int32) (σ : St) (H : Heap) (locs : List Loc) (ls : Array Slot), OK D cs LC q s σ H locs → lv_has ls 6 [(0, .ref (q 7)), (1, .int x1), (2, .int x2), (3, .int x3), (4, .int x4)] → w_X6_flightAt_5 Q n x1 x2 x3 x4 σ → W p l e R s m args below meth c H locs 0 0 E (F0 m 5 ls []) := by
  have hx := C.1
  have hb := C.2.1
  intro n
  induction n with
  | zero => intro x1 x2 x3 x4 σ H locs ls O hl hf; exact hf.elim
  | succ n ih =>
    intro x1 x2 x3 x4 σ H locs ls O hl hf
    unfold w_X6_flightAt_5 at hf
    refine lv_iload hx hb dX6_flightAt_5 (lv_at hl 4 rfl) ?_
    refine lv_aload_n hx hb dX6_flightAt_7 rfl (lv_at hl 0 rfl) ?_
    refine r_get C O (k := 7) (j := 1) (v := .ref (q 5)) fX6_21 rfl rfl rfl dX6_flightAt_8 ?_
    refine r_callI C O hl (c_X1_size l) mX6_33 (by decide) rfl rfl rfl rfl (Nat.le_of_ble_eq_true rfl) hf dX6_flightAt_11 (fun r_2 σ_1 H locs O hf => ?_)
    refine lv_icmp_ge (tgt := 83) hx hb dX6_flightAt_14 (by decide) (fun c_3 => ?_) (fun c_3 => ?_)
    · have hf := hf.1 c_3
      refine lv_iconst (v := (-1)) hx hb dX6_flightAt_83 (by decide) ?_
      exact hE _ _ _ _ _ _ (vp_nar_int _) O hf dX6_flightAt_84
    · have hf := hf.2 c_3
      refine lv_aload_n hx hb dX6_flightAt_17 rfl (lv_at hl 0 rfl) ?_
      refine r_get C O (k := 7) (j := 1) (v := .ref (q 5)) fX6_21 rfl rfl rfl dX6_flightAt_18 ?_
      refine lv_iload hx hb dX6_flightAt_21 (lv_at hl 4 rfl) ?_
      refine r_callI C O hl (c_X1_inOrder l x4) mX6_61 (by decide) rfl rfl rfl rfl (Nat.le_of_ble_eq_true rfl) hf dX6_flightAt_23 (fun r_5 σ_4 H locs O hf => ?_)
      refine lv_istore (lv' := [(5, .int r_5), (0, .ref (q 7)), (1, .int x1), (2, .int x2), (3, .int x3), (4, .int x4)]) hx hb dX6_flightAt_26 hl (by decide) rfl (fun ls hl => ?_)
      refine lv_aload_n hx hb dX6_flightAt_28 rfl (lv_at hl 1 rfl) ?_
      refine r_get C O (k := 7) (j := 0) (v := .ref (q 4)) fX6_17 rfl rfl rfl dX6_flightAt_29 ?_
      refine lv_iload_n hx hb dX6_flightAt_32 rfl (lv_at hl 2 rfl) ?_
      refine r_callI C O hl (c_X4_has l x1) mX6_70 (by decide) rfl rfl rfl rfl (Nat.le_of_ble_eq_true rfl) hf dX6_flightAt_33 (fun r_7 σ_6 H locs O hf => ?_)
      refine lv_if_eq (tgt := 77) hx hb dX6_flightAt_36 (by decide) (fun c_8 => ?_) (fun c_8 => ?_)
      · have hf := hf.1 c_8
        refine lv_iinc (v := x4 + 1) (lv' := [(4, .int (x4 + 1)), (5, .int r_5), (0, .ref (q 7)), (1, .int x1), (2, .int x2), (3, .int x3)]) hx hb dX6_flightAt_77 hl (k := 5) rfl rfl (by decide) rfl (fun ls hl => ?_)
        refine lv_goto (tgt := 5) hx hb dX6_flightAt_80 (by decide) ?_
        exact ih x1 x2 x3 (x4 + 1) σ_6 _ _ ls O (lv_sub hl [2, 3, 4, 5, 0] rfl) hf
      · have hf := hf.2 c_8
        refine lv_aload_n hx hb dX6_flightAt_39 rfl (lv_at hl 1 rfl) ?_
        refine lv_iload hx hb dX6_flightAt_40 (lv_at hl 0 rfl) ?_
        refine r_callI C O hl (c_X6_planeOf l r_5) mX6_37 (by decide) rfl rfl rfl rfl (Nat.le_of_ble_eq_true rfl) hf dX6_flightAt_42 (fun r_10 σ_9 H locs O hf => ?_)
        refine lv_iload_n hx hb dX6_flightAt_45 rfl (lv_at hl 2 rfl) ?_
        refine lv_icmp_ne (tgt := 77) hx hb dX6_flightAt_46 (by decide) (fun c_11 => ?_) (fun c_11 => ?_)
        · have hf := hf.1 c_11
          refine lv_iinc (v := x4 + 1) (lv' := [(4, .int (x4 + 1)), (5, .int r_5), (0, .ref (q 7)), (1, .int x1), (2, .int x2), (3, .int x3)]) hx hb dX6_flightAt_77 hl (k := 5) rfl rfl (by decide) rfl (fun ls hl => ?_)
          refine lv_goto (tgt := 5) hx hb dX6_flightAt_80 (by decide) ?_
          exact ih x1 x2 x3 (x4 + 1) σ_9 _ _ ls O (lv_sub hl [2, 3, 4, 5, 0] rfl) hf
        · have hf := hf.2 c_11
          refine lv_iload_n hx hb dX6_flightAt_49 rfl (lv_at hl 4 rfl) ?_
          refine lv_aload_n hx hb dX6_flightAt_50 rfl (lv_at hl 1 rfl) ?_
          refine lv_iload hx hb dX6_flightAt_51 (lv_at hl 0 rfl) ?_
          refine r_callI C O hl (c_X6_hasLeg l r_5) mX6_67 (by decide) rfl rfl rfl rfl (Nat.le_of_ble_eq_true rfl) hf dX6_flightAt_53 (fun r_13 σ_12 H locs O hf => ?_)
          refine lv_if_eq (tgt := 63) hx hb dX6_flightAt_56 (by decide) (fun c_14 => ?_) (fun c_14 => ?_)
          · have hf := hf.1 c_14
            refine lv_iconst (v := 0) hx hb dX6_flightAt_63 (by decide) ?_
            exact b_X6_flightAt_64 C hE ih x1 x2 x4 r_5 x3 0 σ_12 _ _ ls O (lv_sub hl [1, 2, 3, 5, 0] rfl) hf
          · have hf := hf.2 c_14
            refine lv_iconst (v := 1) hx hb dX6_flightAt_59 (by decide) ?_
            refine lv_goto (tgt := 64) hx hb dX6_flightAt_60 (by decide) ?_
            exact b_X6_flightAt_64 C hE ih x1 x2 x4 r_5 x3 1 σ_12 _ _ ls O (lv_sub hl [1, 2, 3, 5, 0] rfl) hf
def w_X6_flightAt (x1 : Int32) (x2 : Int32) (σ : St) (Q : Int32 → St → Prop) : Prop := ∃ nn : Nat, w_X6_flightAt_5 Q nn x1 x2 0 0 σ
set_option maxHeartbeats 4000000 in
set_option maxRecDepth 100000 in
theorem b_X6_flightAt (C : CX p R s m args meth c cX6_flightAt 6 RX6 4 88 D cs) (hE : RI p l e R s m args below meth c cX6_flightAt D cs LC q .int Q E) : ∀ (x1 : Int32) (x2 : Int32) (σ : St) (H : Heap) (locs : List Loc) (ls : Array Slot), OK D cs LC q s σ H locs → lv_has ls 6 [(0, .ref (q 7)), (1, .int x1), (2, .int x2)] → w_X6_flightAt x1 x2 σ Q → W p l e R s m args below meth c H locs 0 0 E (F0 m 0 ls []) := by
  have hx := C.1
  have hb := C.2.1
  intro x1 x2 σ H locs ls O hl hf
  unfold w_X6_flightAt at hf
  refine lv_iconst (v := 0) hx hb dX6_flightAt_0 (by decide) ?_
  refine lv_istore_n (lv' := [(3, .int 0), (0, .ref (q 7)), (1, .int x1), (2, .int x2)]) hx hb dX6_flightAt_1 rfl hl (by decide) rfl (fun ls hl => ?_)
  refine lv_iconst (v := 0) hx hb dX6_flightAt_2 (by decide) ?_
  refine lv_istore (lv' := [(4, .int 0), (3, .int 0), (0, .ref (q 7)), (1, .int x1), (2, .int x2)]) hx hb dX6_flightAt_3 hl (by decide) rfl (fun ls hl => ?_)
  obtain ⟨nn, hf⟩ := hf
  exact b_X6_flightAt_5 C hE nn x1 x2 0 0 σ _ _ ls O (lv_sub hl [2, 3, 4, 1, 0] rfl) hf
theorem c_X6_flightAt (l : Launch) (x1 : Int32) (x2 : Int32) : MetI l yX6_flightAt cX6_flightAt 6 .int 4 88 LC 7 (fun q => [.int x1, .int x2]) (w_X6_flightAt x1 x2) := mk_I (own := RX6) (by decide) rfl (fun q => Nat.le_of_ble_eq_true rfl) (fun C hE O hl hf => b_X6_flightAt C hE x1 x2 _ _ _ _ O hl hf)
end
section
variable {p : Program} {l : Launch} {e : Env} {R : Room} {s : State} {m : MethodId} {args : Array Value} {below : List Frame} {meth : Method} {c : Code} {E : State → Prop}
variable {D : va_G} {cs : Nat → ClassId} {q : Nat → Nat}
variable {Q : Int32 → St → Prop}
def w_X6_legAt_22 (Q : Int32 → St → Prop) (s0 : Int32) (σ : St) : Prop := w_X6_hasLeg s0 σ (fun r_2 σ_1 => (r_2 = 0 → (Q ((-1)) σ_1)) ∧ (¬ r_2 = 0 → (Q s0 σ_1)))
set_option maxHeartbeats 4000000 in
set_option maxRecDepth 100000 in
theorem b_X6_legAt_22 (C : CX p R s m args meth c cX6_legAt 4 RX6 5 113 D cs) (hE : RI p l e R s m args below meth c cX6_legAt D cs LC q .int Q E) : ∀ (s0 : Int32) (σ : St) (H : Heap) (locs : List Loc) (ls : Array Slot), OK D cs LC q s σ H locs → lv_has ls 4 [(0, .ref (q 7))] → w_X6_legAt_22 Q s0 σ → W p l e R s m args below meth c H locs 0 0 E (F0 m 22 ls [.int s0]) := by
  have hx := C.1
  have hb := C.2.1
  intro s0 σ H locs ls O hl hf
  unfold w_X6_legAt_22 at hf
  refine lv_istore_n (lv' := [(3, .int s0), (0, .ref (q 7))]) hx hb dX6_legAt_22 rfl hl (by decide) rfl (fun ls hl => ?_)
  refine lv_aload_n hx hb dX6_legAt_23 rfl (lv_at hl 1 rfl) ?_
  refine lv_iload_n hx hb dX6_legAt_24 rfl (lv_at hl 0 rfl) ?_
  refine r_callI C O hl (c_X6_hasLeg l s0) mX6_67 (by decide) rfl rfl rfl rfl (Nat.le_of_ble_eq_true rfl) hf dX6_legAt_25 (fun r_2 σ_1 H locs O hf => ?_)
  refine lv_if_eq (tgt := 35) hx hb dX6_legAt_28 (by decide) (fun c_3 => ?_) (fun c_3 => ?_)
  · have hf := hf.1 c_3
    refine lv_iconst (v := (-1)) hx hb dX6_legAt_35 (by decide) ?_
    exact hE _ _ _ _ _ _ (vp_nar_int _) O hf dX6_legAt_36
  · have hf := hf.2 c_3
    refine lv_iload_n hx hb dX6_legAt_31 rfl (lv_at hl 0 rfl) ?_
    refine lv_goto (tgt := 36) hx hb dX6_legAt_32 (by decide) ?_
    exact hE _ _ _ _ _ _ (vp_nar_int _) O hf dX6_legAt_36
def w_X6_legAt (x1 : Int32) (x2 : Int32) (σ : St) (Q : Int32 → St → Prop) : Prop := w_X10_isWithin x2 0 15 (fun r_1 => (r_1 = 0 → (w_X6_legAt_22 Q ((-1)) σ)) ∧ (¬ r_1 = 0 → (w_X6_flightAt x1 (x2 + 1) σ (fun r_4 σ_3 => w_X6_legAt_22 Q r_4 σ_3))))
set_option maxHeartbeats 4000000 in
set_option maxRecDepth 100000 in
theorem b_X6_legAt (C : CX p R s m args meth c cX6_legAt 4 RX6 5 113 D cs) (hE : RI p l e R s m args below meth c cX6_legAt D cs LC q .int Q E) : ∀ (x1 : Int32) (x2 : Int32) (σ : St) (H : Heap) (locs : List Loc) (ls : Array Slot), OK D cs LC q s σ H locs → lv_has ls 4 [(0, .ref (q 7)), (1, .int x1), (2, .int x2)] → w_X6_legAt x1 x2 σ Q → W p l e R s m args below meth c H locs 0 0 E (F0 m 0 ls []) := by
  have hx := C.1
  have hb := C.2.1
  intro x1 x2 σ H locs ls O hl hf
  unfold w_X6_legAt at hf
  refine lv_iload_n hx hb dX6_legAt_0 rfl (lv_at hl 2 rfl) ?_
  refine lv_iconst (v := 0) hx hb dX6_legAt_1 (by decide) ?_
  refine lv_bipush (v := 15) hx hb dX6_legAt_2 (by decide) ?_
  refine r_callN C hl (c_X10_isWithin l x2 0 15) mX6_71 (by decide) rfl rfl (Nat.le_of_ble_eq_true rfl) hf dX6_legAt_4 (fun r_1 hf => ?_)
  refine lv_if_eq (tgt := 21) hx hb dX6_legAt_7 (by decide) (fun c_2 => ?_) (fun c_2 => ?_)
  · have hf := hf.1 c_2
    refine lv_iconst (v := (-1)) hx hb dX6_legAt_21 (by decide) ?_
    exact b_X6_legAt_22 C hE ((-1)) σ _ _ ls O (lv_sub hl [0] rfl) hf
  · have hf := hf.2 c_2
    refine lv_aload_n hx hb dX6_legAt_10 rfl (lv_at hl 0 rfl) ?_
    refine lv_iload_n hx hb dX6_legAt_11 rfl (lv_at hl 1 rfl) ?_
    refine lv_iload_n hx hb dX6_legAt_12 rfl (lv_at hl 2 rfl) ?_
    refine lv_iconst (v := 1) hx hb dX6_legAt_13 (by decide) ?_
    refine lv_iadd hx hb dX6_legAt_14 ?_
    refine r_callI C O hl (c_X6_flightAt l x1 (x2 + 1)) mX6_75 (by decide) rfl rfl rfl rfl (Nat.le_of_ble_eq_true rfl) hf dX6_legAt_15 (fun r_4 σ_3 H locs O hf => ?_)
    refine lv_goto (tgt := 22) hx hb dX6_legAt_18 (by decide) ?_
    exact b_X6_legAt_22 C hE r_4 σ_3 _ _ ls O (lv_sub hl [0] rfl) hf
theorem c_X6_legAt (l : Launch) (x1 : Int32) (x2 : Int32) : MetI l yX6_legAt cX6_legAt 4 .int 5 113 LC 7 (fun q => [.int x1, .int x2]) (w_X6_legAt x1 x2) := mk_I (own := RX6) (by decide) rfl (fun q => Nat.le_of_ble_eq_true rfl) (fun C hE O hl hf => b_X6_legAt C hE x1 x2 _ _ _ _ O hl hf)
end
