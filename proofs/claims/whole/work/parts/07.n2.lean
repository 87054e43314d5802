section
variable {p : Program} {l : Launch} {e : Env} {R : Room} {s : State} {m : MethodId} {args : Array Value} {below : List Frame} {meth : Method} {c : Code} {E : State → Prop}
variable {D : va_G} {cs : Nat → ClassId} {q : Nat → Nat}
variable {Q : Int32 → St → Prop}
def w_X11_cancel (x1 : Int32) (σ : St) (Q : Int32 → St → Prop) : Prop := w_X11_isFlight x1 σ (fun r_2 σ_1 => (r_2 = 0 → (Q 0 σ_1)) ∧ (¬ r_2 = 0 → (vp_in x1 20 ∧ (((σ_1.1 14 x1.toNatClampNeg) = 0 → (vp_in x1 20 ∧ (∀ σ_5 : St, σ_5 = wr σ_1 14 x1.toNatClampNeg (1 &&& 1) → (vp_in x1 20 ∧ (∀ σ_6 : St, σ_6 = wr σ_5 15 x1.toNatClampNeg ((-1)) → (w_X11_breaks σ_6 (fun σ_7 => Q 1 σ_7))))))) ∧ (¬ (σ_1.1 14 x1.toNatClampNeg) = 0 → (Q 0 σ_1))))))
set_option maxHeartbeats 4000000 in
set_option maxRecDepth 100000 in
theorem b_X11_cancel (C : CX p R s m args meth c cX11_cancel 2 RX11 5 118 D cs) (hE : RI p l e R s m args below meth c cX11_cancel D cs LM q .boolean Q E) : ∀ (x1 : Int32) (σ : St) (H : Heap) (locs : List Loc) (ls : Array Slot), OK D cs LM q s σ H locs → lv_has ls 2 [(0, .ref (q 0)), (1, .int x1)] → w_X11_cancel x1 σ Q → W p l e R s m args below meth c H locs 0 0 E (F0 m 0 ls []) := by
  have hx := C.1
  have hb := C.2.1
  intro x1 σ H locs ls O hl hf
  unfold w_X11_cancel at hf
  refine lv_aload_n hx hb dX11_cancel_0 rfl (lv_at hl 0 rfl) ?_
  refine lv_iload_n hx hb dX11_cancel_1 rfl (lv_at hl 1 rfl) ?_
  refine r_callI C O hl (c_X11_isFlight l x1) mX11_172 (by decide) rfl rfl rfl rfl (Nat.le_of_ble_eq_true rfl) hf dX11_cancel_2 (fun r_2 σ_1 H locs O hf => ?_)
  refine lv_if_eq (tgt := 17) hx hb dX11_cancel_5 (by decide) (fun c_3 => ?_) (fun c_3 => ?_)
  · have hf := hf.1 c_3
    refine lv_iconst (v := 0) hx hb dX11_cancel_17 (by decide) ?_
    exact hE _ _ _ _ _ _ rfl O hf dX11_cancel_18
  · have hf := hf.2 c_3
    refine lv_aload_n hx hb dX11_cancel_8 rfl (lv_at hl 0 rfl) ?_
    refine r_get C O (k := 0) (j := 19) (v := .ref (q 14)) fX11_51 rfl rfl rfl dX11_cancel_9 ?_
    refine lv_iload_n hx hb dX11_cancel_12 rfl (lv_at hl 1 rfl) ?_
    refine r_zald C O (k := 14) rfl hf.1 dX11_cancel_13 ?_
    have hf := hf.2
    refine lv_if_eq (tgt := 19) hx hb dX11_cancel_14 (by decide) (fun c_4 => ?_) (fun c_4 => ?_)
    · have hf := hf.1 c_4
      refine lv_aload_n hx hb dX11_cancel_19 rfl (lv_at hl 0 rfl) ?_
      refine r_get C O (k := 0) (j := 19) (v := .ref (q 14)) fX11_51 rfl rfl rfl dX11_cancel_20 ?_
      refine lv_iload_n hx hb dX11_cancel_23 rfl (lv_at hl 1 rfl) ?_
      refine lv_iconst (v := 1) hx hb dX11_cancel_24 (by decide) ?_
      refine r_zast C O (k := 14) rfl hf.1 dX11_cancel_25 (fun H locs σ_5 eσ_5 O => ?_)
      have hf := hf.2 σ_5 eσ_5
      refine lv_aload_n hx hb dX11_cancel_26 rfl (lv_at hl 0 rfl) ?_
      refine r_get C O (k := 0) (j := 20) (v := .ref (q 15)) fX11_54 rfl rfl rfl dX11_cancel_27 ?_
      refine lv_iload_n hx hb dX11_cancel_30 rfl (lv_at hl 1 rfl) ?_
      refine lv_iconst (v := (-1)) hx hb dX11_cancel_31 (by decide) ?_
      refine r_iast C O (k := 15) rfl hf.1 dX11_cancel_32 (fun H locs σ_6 eσ_6 O => ?_)
      have hf := hf.2 σ_6 eσ_6
      refine lv_aload_n hx hb dX11_cancel_33 rfl (lv_at hl 0 rfl) ?_
      refine r_callV C O hl (c_X11_breaks l) mX11_176 (by decide) rfl rfl rfl rfl (Nat.le_of_ble_eq_true rfl) hf dX11_cancel_34 (fun σ_7 H locs O hf => ?_)
      refine lv_iconst (v := 1) hx hb dX11_cancel_37 (by decide) ?_
      exact hE _ _ _ _ _ _ rfl O hf dX11_cancel_38
    · have hf := hf.2 c_4
      refine lv_iconst (v := 0) hx hb dX11_cancel_17 (by decide) ?_
      exact hE _ _ _ _ _ _ rfl O hf dX11_cancel_18
theorem c_X11_cancel (l : Launch) (x1 : Int32) : MetI l yX11_cancel cX11_cancel 2 .boolean 5 118 LM 0 (fun q => [.int x1]) (w_X11_cancel x1) := mk_I (own := RX11) (by decide) rfl (fun q => Nat.le_of_ble_eq_true rfl) (fun C hE O hl hf => b_X11_cancel C hE x1 _ _ _ _ O hl hf)
end
section
variable {p : Program} {l : Launch} {e : Env} {R : Room} {s : State} {m : MethodId} {args : Array Value} {below : List Frame} {meth : Method} {c : Code} {E : State → Prop}
variable {D : va_G} {cs : Nat → ClassId} {q : Nat → Nat}
variable {Q : Int32 → St → Prop}
def w_X11_storm (x1 : Int32) (x2 : Int32) (x3 : Int32) (σ : St) (Q : Int32 → St → Prop) : Prop := ((σ.1 0 21) = 20 → (Q ((-1)) σ)) ∧ (¬ (σ.1 0 21) = 20 → (w_X11_lies x1 0 7 (fun r_2 => (r_2 = 0 → (Q ((-1)) σ)) ∧ (¬ r_2 = 0 → (w_X11_lies x2 0 10079 (fun r_4 => (r_4 = 0 → (Q ((-1)) σ)) ∧ (¬ r_4 = 0 → (w_X11_lies x3 (x2 + 1) 10080 (fun r_6 => (¬ r_6 = 0 → (vp_in (σ.1 0 21) 20 ∧ (∀ σ_8 : St, σ_8 = wr σ 16 (σ.1 0 21).toNatClampNeg x1 → (vp_in (σ_8.1 0 21) 20 ∧ (∀ σ_9 : St, σ_9 = wr σ_8 17 (σ_8.1 0 21).toNatClampNeg x2 → (vp_in (σ_9.1 0 21) 20 ∧ (∀ σ_10 : St, σ_10 = wr σ_9 18 (σ_9.1 0 21).toNatClampNeg x3 → (∀ σ_11 : St, σ_11 = wr σ_10 0 21 ((σ_10.1 0 21) + 1) → (Q ((σ_11.1 0 21) - 1) σ_11))))))))) ∧ (r_6 = 0 → (Q ((-1)) σ)))))))))))
set_option maxHeartbeats 4000000 in
set_option maxRecDepth 100000 in
theorem b_X11_storm (C : CX p R s m args meth c cX11_storm 4 RX11 1 22 D cs) (hE : RI p l e R s m args below meth c cX11_storm D cs LM q .int Q E) : ∀ (x1 : Int32) (x2 : Int32) (x3 : Int32) (σ : St) (H : Heap) (locs : List Loc) (ls : Array Slot), OK D cs LM q s σ H locs → lv_has ls 4 [(0, .ref (q 0)), (1, .int x1), (2, .int x2), (3, .int x3)] → w_X11_storm x1 x2 x3 σ Q → W p l e R s m args below meth c H locs 0 0 E (F0 m 0 ls []) := by
  have hx := C.1
  have hb := C.2.1
  intro x1 x2 x3 σ H locs ls O hl hf
  unfold w_X11_storm at hf
  refine lv_aload_n hx hb dX11_storm_0 rfl (lv_at hl 0 rfl) ?_
  refine r_get C O (k := 0) (j := 21) (v := .int (σ.1 0 21)) fX11_179 rfl rfl rfl dX11_storm_1 ?_
  refine lv_bipush (v := 20) hx hb dX11_storm_4 (by decide) ?_
  refine lv_icmp_eq (tgt := 43) hx hb dX11_storm_6 (by decide) (fun c_1 => ?_) (fun c_1 => ?_)
  · have hf := hf.1 c_1
    refine lv_iconst (v := (-1)) hx hb dX11_storm_43 (by decide) ?_
    exact hE _ _ _ _ _ _ (vp_nar_int _) O hf dX11_storm_44
  · have hf := hf.2 c_1
    refine lv_iload_n hx hb dX11_storm_9 rfl (lv_at hl 1 rfl) ?_
    refine lv_iconst (v := 0) hx hb dX11_storm_10 (by decide) ?_
    refine lv_bipush (v := 7) hx hb dX11_storm_11 (by decide) ?_
    refine r_callS C hl (c_X11_lies l x1 0 7) mX11_141 (by decide) rfl rfl (Nat.le_of_ble_eq_true rfl) hf dX11_storm_13 (fun r_2 hf => ?_)
    refine lv_if_eq (tgt := 43) hx hb dX11_storm_16 (by decide) (fun c_3 => ?_) (fun c_3 => ?_)
    · have hf := hf.1 c_3
      refine lv_iconst (v := (-1)) hx hb dX11_storm_43 (by decide) ?_
      exact hE _ _ _ _ _ _ (vp_nar_int _) O hf dX11_storm_44
    · have hf := hf.2 c_3
      refine lv_iload_n hx hb dX11_storm_19 rfl (lv_at hl 2 rfl) ?_
      refine lv_iconst (v := 0) hx hb dX11_storm_20 (by decide) ?_
      refine lv_sipush (v := 10079) hx hb dX11_storm_21 (by decide) ?_
      refine r_callS C hl (c_X11_lies l x2 0 10079) mX11_141 (by decide) rfl rfl (Nat.le_of_ble_eq_true rfl) hf dX11_storm_24 (fun r_4 hf => ?_)
      refine lv_if_eq (tgt := 43) hx hb dX11_storm_27 (by decide) (fun c_5 => ?_) (fun c_5 => ?_)
      · have hf := hf.1 c_5
        refine lv_iconst (v := (-1)) hx hb dX11_storm_43 (by decide) ?_
        exact hE _ _ _ _ _ _ (vp_nar_int _) O hf dX11_storm_44
      · have hf := hf.2 c_5
        refine lv_iload_n hx hb dX11_storm_30 rfl (lv_at hl 3 rfl) ?_
        refine lv_iload_n hx hb dX11_storm_31 rfl (lv_at hl 2 rfl) ?_
        refine lv_iconst (v := 1) hx hb dX11_storm_32 (by decide) ?_
        refine lv_iadd hx hb dX11_storm_33 ?_
        refine lv_sipush (v := 10080) hx hb dX11_storm_34 (by decide) ?_
        refine r_callS C hl (c_X11_lies l x3 (x2 + 1) 10080) mX11_141 (by decide) rfl rfl (Nat.le_of_ble_eq_true rfl) hf dX11_storm_37 (fun r_6 hf => ?_)
        refine lv_if_ne (tgt := 45) hx hb dX11_storm_40 (by decide) (fun c_7 => ?_) (fun c_7 => ?_)
        · have hf := hf.1 c_7
          refine lv_aload_n hx hb dX11_storm_45 rfl (lv_at hl 0 rfl) ?_
          refine r_get C O (k := 0) (j := 22) (v := .ref (q 16)) fX11_57 rfl rfl rfl dX11_storm_46 ?_
          refine lv_aload_n hx hb dX11_storm_49 rfl (lv_at hl 0 rfl) ?_
          refine r_get C O (k := 0) (j := 21) (v := .int (σ.1 0 21)) fX11_179 rfl rfl rfl dX11_storm_50 ?_
          refine lv_iload_n hx hb dX11_storm_53 rfl (lv_at hl 1 rfl) ?_
          refine r_iast C O (k := 16) rfl hf.1 dX11_storm_54 (fun H locs σ_8 eσ_8 O => ?_)
          have hf := hf.2 σ_8 eσ_8
          refine lv_aload_n hx hb dX11_storm_55 rfl (lv_at hl 0 rfl) ?_
          refine r_get C O (k := 0) (j := 23) (v := .ref (q 17)) fX11_60 rfl rfl rfl dX11_storm_56 ?_
          refine lv_aload_n hx hb dX11_storm_59 rfl (lv_at hl 0 rfl) ?_
          refine r_get C O (k := 0) (j := 21) (v := .int (σ_8.1 0 21)) fX11_179 rfl rfl rfl dX11_storm_60 ?_
          refine lv_iload_n hx hb dX11_storm_63 rfl (lv_at hl 2 rfl) ?_
          refine r_iast C O (k := 17) rfl hf.1 dX11_storm_64 (fun H locs σ_9 eσ_9 O => ?_)
          have hf := hf.2 σ_9 eσ_9
          refine lv_aload_n hx hb dX11_storm_65 rfl (lv_at hl 0 rfl) ?_
          refine r_get C O (k := 0) (j := 24) (v := .ref (q 18)) fX11_63 rfl rfl rfl dX11_storm_66 ?_
          refine lv_aload_n hx hb dX11_storm_69 rfl (lv_at hl 0 rfl) ?_
          refine r_get C O (k := 0) (j := 21) (v := .int (σ_9.1 0 21)) fX11_179 rfl rfl rfl dX11_storm_70 ?_
          refine lv_iload_n hx hb dX11_storm_73 rfl (lv_at hl 3 rfl) ?_
          refine r_iast C O (k := 18) rfl hf.1 dX11_storm_74 (fun H locs σ_10 eσ_10 O => ?_)
          have hf := hf.2 σ_10 eσ_10
          refine lv_aload_n hx hb dX11_storm_75 rfl (lv_at hl 0 rfl) ?_
          refine lv_dup hx hb dX11_storm_76 rfl ?_
          refine r_get C O (k := 0) (j := 21) (v := .int (σ_10.1 0 21)) fX11_179 rfl rfl rfl dX11_storm_77 ?_
          refine lv_iconst (v := 1) hx hb dX11_storm_80 (by decide) ?_
          refine lv_iadd hx hb dX11_storm_81 ?_
          refine r_puti C O (k := 0) pX11_179 rfl rfl dX11_storm_82 (fun H locs σ_11 eσ_11 O => ?_)
          have hf := hf σ_11 eσ_11
          refine lv_aload_n hx hb dX11_storm_85 rfl (lv_at hl 0 rfl) ?_
          refine r_get C O (k := 0) (j := 21) (v := .int (σ_11.1 0 21)) fX11_179 rfl rfl rfl dX11_storm_86 ?_
          refine lv_iconst (v := 1) hx hb dX11_storm_89 (by decide) ?_
          refine lv_isub hx hb dX11_storm_90 ?_
          exact hE _ _ _ _ _ _ (vp_nar_int _) O hf dX11_storm_91
        · have hf := hf.2 c_7
          refine lv_iconst (v := (-1)) hx hb dX11_storm_43 (by decide) ?_
          exact hE _ _ _ _ _ _ (vp_nar_int _) O hf dX11_storm_44
theorem c_X11_storm (l : Launch) (x1 : Int32) (x2 : Int32) (x3 : Int32) : MetI l yX11_storm cX11_storm 4 .int 1 22 LM 0 (fun q => [.int x1, .int x2, .int x3]) (w_X11_storm x1 x2 x3) := mk_I (own := RX11) (by decide) rfl (fun q => Nat.le_of_ble_eq_true rfl) (fun C hE O hl hf => b_X11_storm C hE x1 x2 x3 _ _ _ _ O hl hf)
end
section
variable {p : Program} {l : Launch} {e : Env} {R : Room} {s : State} {m : MethodId} {args : Array Value} {below : List Frame} {meth : Method} {c : Code} {E : State → Prop}
variable {D : va_G} {cs : Nat → ClassId} {q : Nat → Nat}
variable {Q : Int32 → St → Prop}
def w_X11_clock_23 (Q : Int32 → St → Prop) : Nat → Int32 → St → Prop
  | 0, _, _ => False
  | n + 1, x2, σ => ((σ.1 0 25) ≤ x2 → (Q 1 σ)) ∧ (¬ (σ.1 0 25) ≤ x2 → (vp_in x2 40 ∧ ((¬ (σ.1 19 x2.toNatClampNeg) = 0 → (w_X11_clock_23 Q n (x2 + 1) σ)) ∧ ((σ.1 19 x2.toNatClampNeg) = 0 → (vp_in x2 40 ∧ (((σ.1 0 2) ≤ (σ.1 21 x2.toNatClampNeg) → (w_X11_clock_23 Q n (x2 + 1) σ)) ∧ (¬ (σ.1 0 2) ≤ (σ.1 21 x2.toNatClampNeg) → (vp_in x2 40 ∧ (∀ σ_4 : St, σ_4 = wr σ 19 x2.toNatClampNeg 2 → (w_X11_clock_23 Q n (x2 + 1) σ_4))))))))))
set_option maxHeartbeats 4000000 in
set_option maxRecDepth 100000 in
theorem b_X11_clock_23 (C : CX p R s m args meth c cX11_clock 3 RX11 1 22 D cs) (hE : RI p l e R s m args below meth c cX11_clock D cs LM q .boolean Q E) : ∀ n : Nat, ∀ (x2 : Int32) (σ : St) (H : Heap) (locs : List Loc) (ls : Array Slot), OK D cs LM q s σ H locs → lv_has ls 3 [(0, .ref (q 0)), (2, .int x2)] → w_X11_clock_23 Q n x2 σ → W p l e R s m args below meth c H locs 0 0 E (F0 m 23 ls []) := by
  have hx := C.1
  have hb := C.2.1
  intro n
  induction n with
  | zero => intro x2 σ H locs ls O hl hf; exact hf.elim
  | succ n ih =>
    intro x2 σ H locs ls O hl hf
    unfold w_X11_clock_23 at hf
    refine lv_iload_n hx hb dX11_clock_23 rfl (lv_at hl 1 rfl) ?_
    refine lv_aload_n hx hb dX11_clock_24 rfl (lv_at hl 0 rfl) ?_
    refine r_get C O (k := 0) (j := 25) (v := .int (σ.1 0 25)) fX11_185 rfl rfl rfl dX11_clock_25 ?_
    refine lv_icmp_ge (tgt := 66) hx hb dX11_clock_28 (by decide) (fun c_1 => ?_) (fun c_1 => ?_)
    · have hf := hf.1 c_1
      refine lv_iconst (v := 1) hx hb dX11_clock_66 (by decide) ?_
      exact hE _ _ _ _ _ _ rfl O hf dX11_clock_67
    · have hf := hf.2 c_1
      refine lv_aload_n hx hb dX11_clock_31 rfl (lv_at hl 0 rfl) ?_
      refine r_get C O (k := 0) (j := 26) (v := .ref (q 19)) fX11_66 rfl rfl rfl dX11_clock_32 ?_
      refine lv_iload_n hx hb dX11_clock_35 rfl (lv_at hl 1 rfl) ?_
      refine r_iald C O (k := 19) rfl hf.1 dX11_clock_36 ?_
      have hf := hf.2
      refine lv_if_ne (tgt := 60) hx hb dX11_clock_37 (by decide) (fun c_2 => ?_) (fun c_2 => ?_)
      · have hf := hf.1 c_2
        refine lv_iinc (v := x2 + 1) (lv' := [(2, .int (x2 + 1)), (0, .ref (q 0))]) hx hb dX11_clock_60 hl (k := 1) rfl rfl (by decide) rfl (fun ls hl => ?_)
        refine lv_goto (tgt := 23) hx hb dX11_clock_63 (by decide) ?_
        exact ih (x2 + 1) σ _ _ ls O (lv_sub hl [1, 0] rfl) hf
      · have hf := hf.2 c_2
        refine lv_aload_n hx hb dX11_clock_40 rfl (lv_at hl 0 rfl) ?_
        refine r_get C O (k := 0) (j := 28) (v := .ref (q 21)) fX11_72 rfl rfl rfl dX11_clock_41 ?_
        refine lv_iload_n hx hb dX11_clock_44 rfl (lv_at hl 1 rfl) ?_
        refine r_iald C O (k := 21) rfl hf.1 dX11_clock_45 ?_
        have hf := hf.2
        refine lv_aload_n hx hb dX11_clock_46 rfl (lv_at hl 0 rfl) ?_
        refine r_get C O (k := 0) (j := 2) (v := .int (σ.1 0 2)) fX11_182 rfl rfl rfl dX11_clock_47 ?_
        refine lv_icmp_ge (tgt := 60) hx hb dX11_clock_50 (by decide) (fun c_3 => ?_) (fun c_3 => ?_)
        · have hf := hf.1 c_3
          refine lv_iinc (v := x2 + 1) (lv' := [(2, .int (x2 + 1)), (0, .ref (q 0))]) hx hb dX11_clock_60 hl (k := 1) rfl rfl (by decide) rfl (fun ls hl => ?_)
          refine lv_goto (tgt := 23) hx hb dX11_clock_63 (by decide) ?_
          exact ih (x2 + 1) σ _ _ ls O (lv_sub hl [1, 0] rfl) hf
        · have hf := hf.2 c_3
          refine lv_aload_n hx hb dX11_clock_53 rfl (lv_at hl 0 rfl) ?_
          refine r_get C O (k := 0) (j := 26) (v := .ref (q 19)) fX11_66 rfl rfl rfl dX11_clock_54 ?_
          refine lv_iload_n hx hb dX11_clock_57 rfl (lv_at hl 1 rfl) ?_
          refine lv_iconst (v := 2) hx hb dX11_clock_58 (by decide) ?_
          refine r_iast C O (k := 19) rfl hf.1 dX11_clock_59 (fun H locs σ_4 eσ_4 O => ?_)
          have hf := hf.2 σ_4 eσ_4
          refine lv_iinc (v := x2 + 1) (lv' := [(2, .int (x2 + 1)), (0, .ref (q 0))]) hx hb dX11_clock_60 hl (k := 1) rfl rfl (by decide) rfl (fun ls hl => ?_)
          refine lv_goto (tgt := 23) hx hb dX11_clock_63 (by decide) ?_
          exact ih (x2 + 1) σ_4 _ _ ls O (lv_sub hl [1, 0] rfl) hf
def w_X11_clock (x1 : Int32) (σ : St) (Q : Int32 → St → Prop) : Prop := w_X11_lies x1 (σ.1 0 2) 10079 (fun r_1 => (¬ r_1 = 0 → (∀ σ_3 : St, σ_3 = wr σ 0 2 x1 → (∃ nn : Nat, w_X11_clock_23 Q nn 0 σ_3))) ∧ (r_1 = 0 → (Q 0 σ)))
set_option maxHeartbeats 4000000 in
set_option maxRecDepth 100000 in
theorem b_X11_clock (C : CX p R s m args meth c cX11_clock 3 RX11 1 22 D cs) (hE : RI p l e R s m args below meth c cX11_clock D cs LM q .boolean Q E) : ∀ (x1 : Int32) (σ : St) (H : Heap) (locs : List Loc) (ls : Array Slot), OK D cs LM q s σ H locs → lv_has ls 3 [(0, .ref (q 0)), (1, .int x1)] → w_X11_clock x1 σ Q → W p l e R s m args below meth c H locs 0 0 E (F0 m 0 ls []) := by
  have hx := C.1
  have hb := C.2.1
  intro x1 σ H locs ls O hl hf
  unfold w_X11_clock at hf
  refine lv_iload_n hx hb dX11_clock_0 rfl (lv_at hl 1 rfl) ?_
  refine lv_aload_n hx hb dX11_clock_1 rfl (lv_at hl 0 rfl) ?_
  refine r_get C O (k := 0) (j := 2) (v := .int (σ.1 0 2)) fX11_182 rfl rfl rfl dX11_clock_2 ?_
  refine lv_sipush (v := 10079) hx hb dX11_clock_5 (by decide) ?_
  refine r_callS C hl (c_X11_lies l x1 (σ.1 0 2) 10079) mX11_141 (by decide) rfl rfl (Nat.le_of_ble_eq_true rfl) hf dX11_clock_8 (fun r_1 hf => ?_)
  refine lv_if_ne (tgt := 16) hx hb dX11_clock_11 (by decide) (fun c_2 => ?_) (fun c_2 => ?_)
  · have hf := hf.1 c_2
    refine lv_aload_n hx hb dX11_clock_16 rfl (lv_at hl 0 rfl) ?_
    refine lv_iload_n hx hb dX11_clock_17 rfl (lv_at hl 1 rfl) ?_
    refine r_puti C O (k := 0) pX11_182 rfl rfl dX11_clock_18 (fun H locs σ_3 eσ_3 O => ?_)
    have hf := hf σ_3 eσ_3
    refine lv_iconst (v := 0) hx hb dX11_clock_21 (by decide) ?_
    refine lv_istore_n (lv' := [(2, .int 0), (0, .ref (q 0)), (1, .int x1)]) hx hb dX11_clock_22 rfl hl (by decide) rfl (fun ls hl => ?_)
    obtain ⟨nn, hf⟩ := hf
    exact b_X11_clock_23 C hE nn 0 σ_3 _ _ ls O (lv_sub hl [1, 0] rfl) hf
  · have hf := hf.2 c_2
    refine lv_iconst (v := 0) hx hb dX11_clock_14 (by decide) ?_
    exact hE _ _ _ _ _ _ rfl O hf dX11_clock_15
theorem c_X11_clock (l : Launch) (x1 : Int32) : MetI l yX11_clock cX11_clock 3 .boolean 1 22 LM 0 (fun q => [.int x1]) (w_X11_clock x1) := mk_I (own := RX11) (by decide) rfl (fun q => Nat.le_of_ble_eq_true rfl) (fun C hE O hl hf => b_X11_clock C hE x1 _ _ _ _ O hl hf)
end
section
variable {p : Program} {l : Launch} {e : Env} {R : Room} {s : State} {m : MethodId} {args : Array Value} {below : List Frame} {meth : Method} {c : Code} {E : State → Prop}
variable {D : va_G} {cs : Nat → ClassId} {q : Nat → Nat}
variable {Q : Int32 → St → Prop}
def w_X11_isStorm_2 (Q : Int32 → St → Prop) : Nat → Int32 → Int32 → Int32 → St → Prop
  | 0, _, _, _, _ => False
  | n + 1, x1, x2, x3, σ => ((σ.1 0 21) ≤ x3 → (Q 0 σ)) ∧ (¬ (σ.1 0 21) ≤ x3 → (vp_in x3 20 ∧ ((¬ (σ.1 16 x3.toNatClampNeg) = x1 → (w_X11_isStorm_2 Q n x1 x2 (x3 + 1) σ)) ∧ ((σ.1 16 x3.toNatClampNeg) = x1 → (vp_in x3 20 ∧ (vp_in x3 20 ∧ (w_X11_lies x2 (σ.1 17 x3.toNatClampNeg) ((σ.1 18 x3.toNatClampNeg) - 1) (fun r_3 => (r_3 = 0 → (w_X11_isStorm_2 Q n x1 x2 (x3 + 1) σ)) ∧ (¬ r_3 = 0 → (Q 1 σ))))))))))
set_option maxHeartbeats 4000000 in
set_option maxRecDepth 100000 in
theorem b_X11_isStorm_2 (C : CX p R s m args meth c cX11_isStorm 4 RX11 1 22 D cs) (hE : RI p l e R s m args below meth c cX11_isStorm D cs LM q .boolean Q E) : ∀ n : Nat, ∀ (x1 : Int32) (x2 : Int32) (x3 : Int32) (σ : St) (H : Heap) (locs : List Loc) (ls : Array Slot), OK D cs LM q s σ H locs → lv_has ls 4 [(0, .ref (q 0)), (1, .int x1), (2, .int x2), (3, .int x3)] → w_X11_isStorm_2 Q n x1 x2 x3 σ → W p l e R s m args below meth c H locs 0 0 E (F0 m 2 ls []) := by
  have hx := C.1
  have hb := C.2.1
  intro n
  induction n with
  | zero => intro x1 x2 x3 σ H locs ls O hl hf; exact hf.elim
  | succ n ih =>
    intro x1 x2 x3 σ H locs ls O hl hf
    unfold w_X11_isStorm_2 at hf
    refine lv_iload_n hx hb dX11_isStorm_2 rfl (lv_at hl 3 rfl) ?_
    refine lv_aload_n hx hb dX11_isStorm_3 rfl (lv_at hl 0 rfl) ?_
    refine r_get C O (k := 0) (j := 21) (v := .int (σ.1 0 21)) fX11_179 rfl rfl rfl dX11_isStorm_4 ?_
    refine lv_icmp_ge (tgt := 49) hx hb dX11_isStorm_7 (by decide) (fun c_1 => ?_) (fun c_1 => ?_)
    · have hf := hf.1 c_1
      refine lv_iconst (v := 0) hx hb dX11_isStorm_49 (by decide) ?_
      exact hE _ _ _ _ _ _ rfl O hf dX11_isStorm_50
    · have hf := hf.2 c_1
      refine lv_aload_n hx hb dX11_isStorm_10 rfl (lv_at hl 0 rfl) ?_
      refine r_get C O (k := 0) (j := 22) (v := .ref (q 16)) fX11_57 rfl rfl rfl dX11_isStorm_11 ?_
      refine lv_iload_n hx hb dX11_isStorm_14 rfl (lv_at hl 3 rfl) ?_
      refine r_iald C O (k := 16) rfl hf.1 dX11_isStorm_15 ?_
      have hf := hf.2
      refine lv_iload_n hx hb dX11_isStorm_16 rfl (lv_at hl 1 rfl) ?_
      refine lv_icmp_ne (tgt := 43) hx hb dX11_isStorm_17 (by decide) (fun c_2 => ?_) (fun c_2 => ?_)
      · have hf := hf.1 c_2
        refine lv_iinc (v := x3 + 1) (lv' := [(3, .int (x3 + 1)), (0, .ref (q 0)), (1, .int x1), (2, .int x2)]) hx hb dX11_isStorm_43 hl (k := 3) rfl rfl (by decide) rfl (fun ls hl => ?_)
        refine lv_goto (tgt := 2) hx hb dX11_isStorm_46 (by decide) ?_
        exact ih x1 x2 (x3 + 1) σ _ _ ls O (lv_sub hl [1, 2, 3, 0] rfl) hf
      · have hf := hf.2 c_2
        refine lv_iload_n hx hb dX11_isStorm_20 rfl (lv_at hl 2 rfl) ?_
        refine lv_aload_n hx hb dX11_isStorm_21 rfl (lv_at hl 0 rfl) ?_
        refine r_get C O (k := 0) (j := 23) (v := .ref (q 17)) fX11_60 rfl rfl rfl dX11_isStorm_22 ?_
        refine lv_iload_n hx hb dX11_isStorm_25 rfl (lv_at hl 3 rfl) ?_
        refine r_iald C O (k := 17) rfl hf.1 dX11_isStorm_26 ?_
        have hf := hf.2
        refine lv_aload_n hx hb dX11_isStorm_27 rfl (lv_at hl 0 rfl) ?_
        refine r_get C O (k := 0) (j := 24) (v := .ref (q 18)) fX11_63 rfl rfl rfl dX11_isStorm_28 ?_
        refine lv_iload_n hx hb dX11_isStorm_31 rfl (lv_at hl 3 rfl) ?_
        refine r_iald C O (k := 18) rfl hf.1 dX11_isStorm_32 ?_
        have hf := hf.2
        refine lv_iconst (v := 1) hx hb dX11_isStorm_33 (by decide) ?_
        refine lv_isub hx hb dX11_isStorm_34 ?_
        refine r_callS C hl (c_X11_lies l x2 (σ.1 17 x3.toNatClampNeg) ((σ.1 18 x3.toNatClampNeg) - 1)) mX11_141 (by decide) rfl rfl (Nat.le_of_ble_eq_true rfl) hf dX11_isStorm_35 (fun r_3 hf => ?_)
        refine lv_if_eq (tgt := 43) hx hb dX11_isStorm_38 (by decide) (fun c_4 => ?_) (fun c_4 => ?_)
        · have hf := hf.1 c_4
          refine lv_iinc (v := x3 + 1) (lv' := [(3, .int (x3 + 1)), (0, .ref (q 0)), (1, .int x1), (2, .int x2)]) hx hb dX11_isStorm_43 hl (k := 3) rfl rfl (by decide) rfl (fun ls hl => ?_)
          refine lv_goto (tgt := 2) hx hb dX11_isStorm_46 (by decide) ?_
          exact ih x1 x2 (x3 + 1) σ _ _ ls O (lv_sub hl [1, 2, 3, 0] rfl) hf
        · have hf := hf.2 c_4
          refine lv_iconst (v := 1) hx hb dX11_isStorm_41 (by decide) ?_
          exact hE _ _ _ _ _ _ rfl O hf dX11_isStorm_42
def w_X11_isStorm (x1 : Int32) (x2 : Int32) (σ : St) (Q : Int32 → St → Prop) : Prop := ∃ nn : Nat, w_X11_isStorm_2 Q nn x1 x2 0 σ
set_option maxHeartbeats 4000000 in
set_option maxRecDepth 100000 in
theorem b_X11_isStorm (C : CX p R s m args meth c cX11_isStorm 4 RX11 1 22 D cs) (hE : RI p l e R s m args below meth c cX11_isStorm D cs LM q .boolean Q E) : ∀ (x1 : Int32) (x2 : Int32) (σ : St) (H : Heap) (locs : List Loc) (ls : Array Slot), OK D cs LM q s σ H locs → lv_has ls 4 [(0, .ref (q 0)), (1, .int x1), (2, .int x2)] → w_X11_isStorm x1 x2 σ Q → W p l e R s m args below meth c H locs 0 0 E (F0 m 0 ls []) := by
  have hx := C.1
  have hb := C.2.1
  intro x1 x2 σ H locs ls O hl hf
  unfold w_X11_isStorm at hf
  refine lv_iconst (v := 0) hx hb dX11_isStorm_0 (by decide) ?_
  refine lv_istore_n (lv' := [(3, .int 0), (0, .ref (q 0)), (1, .int x1), (2, .int x2)]) hx hb dX11_isStorm_1 rfl hl (by decide) rfl (fun ls hl => ?_)
  obtain ⟨nn, hf⟩ := hf
  exact b_X11_isStorm_2 C hE nn x1 x2 0 σ _ _ ls O (lv_sub hl [1, 2, 3, 0] rfl) hf
theorem c_X11_isStorm (l : Launch) (x1 : Int32) (x2 : Int32) : MetI l yX11_isStorm cX11_isStorm 4 .boolean 1 22 LM 0 (fun q => [.int x1, .int x2]) (w_X11_isStorm x1 x2) := mk_I (own := RX11) (by decide) rfl (fun q => Nat.le_of_ble_eq_true rfl) (fun C hE O hl hf => b_X11_isStorm C hE x1 x2 _ _ _ _ O hl hf)
end
section
variable {p : Program} {l : Launch} {e : Env} {R : Room} {s : State} {m : MethodId} {args : Array Value} {below : List Frame} {meth : Method} {c : Code} {E : State → Prop}
variable {D : va_G} {cs : Nat → ClassId} {q : Nat → Nat}
variable {Q : Int32 → St → Prop}
def w_X11_holds_194 (Q : Int32 → St → Prop) (K4 : Int32 → Int32 → Int32 → St → Prop) (x1 : Int32) (x2 : Int32) (x3 : Int32) (σ : St) : Prop := vp_in x3 16 ∧ (vp_in x2 16 ∧ (vp_in x2 16 ∧ (w_X11_dutyOn ((σ.1 31 x2.toNatClampNeg) / 1440) σ (fun r_2 σ_1 => (((σ.1 32 x3.toNatClampNeg) - (σ.1 31 x2.toNatClampNeg)) ≤ r_2 → (K4 x1 x2 (x3 + 1) σ_1)) ∧ (¬ ((σ.1 32 x3.toNatClampNeg) - (σ.1 31 x2.toNatClampNeg)) ≤ r_2 → (Q 0 σ_1))))))
set_option maxHeartbeats 4000000 in
set_option maxRecDepth 100000 in
theorem b_X11_holds_194 (C : CX p R s m args meth c cX11_holds 4 RX11 2 45 D cs) (hE : RI p l e R s m args below meth c cX11_holds D cs LM q .boolean Q E) {K4 : Int32 → Int32 → Int32 → St → Prop} (hK4 : ∀ (x1 : Int32) (x2 : Int32) (x3 : Int32) (σ : St) (H : Heap) (locs : List Loc) (ls : Array Slot), OK D cs LM q s σ H locs → lv_has ls 4 [(0, .ref (q 0)), (1, .int x1), (2, .int x2), (3, .int x3)] → K4 x1 x2 x3 σ → W p l e R s m args below meth c H locs 0 0 E (F0 m 4 ls [])) : ∀ (x1 : Int32) (x2 : Int32) (x3 : Int32) (σ : St) (H : Heap) (locs : List Loc) (ls : Array Slot), OK D cs LM q s σ H locs → lv_has ls 4 [(0, .ref (q 0)), (1, .int x1), (2, .int x2), (3, .int x3)] → w_X11_holds_194 Q K4 x1 x2 x3 σ → W p l e R s m args below meth c H locs 0 0 E (F0 m 194 ls []) := by
  have hx := C.1
  have hb := C.2.1
  intro x1 x2 x3 σ H locs ls O hl hf
  unfold w_X11_holds_194 at hf
  refine lv_aload_n hx hb dX11_holds_194 rfl (lv_at hl 0 rfl) ?_
  refine r_get C O (k := 0) (j := 41) (v := .ref (q 32)) fX11_105 rfl rfl rfl dX11_holds_195 ?_
  refine lv_iload_n hx hb dX11_holds_198 rfl (lv_at hl 3 rfl) ?_
  refine r_iald C O (k := 32) rfl hf.1 dX11_holds_199 ?_
  have hf := hf.2
  refine lv_aload_n hx hb dX11_holds_200 rfl (lv_at hl 0 rfl) ?_
  refine r_get C O (k := 0) (j := 40) (v := .ref (q 31)) fX11_102 rfl rfl rfl dX11_holds_201 ?_
  refine lv_iload_n hx hb dX11_holds_204 rfl (lv_at hl 2 rfl) ?_
  refine r_iald C O (k := 31) rfl hf.1 dX11_holds_205 ?_
  have hf := hf.2
  refine lv_isub hx hb dX11_holds_206 ?_
  refine lv_aload_n hx hb dX11_holds_207 rfl (lv_at hl 0 rfl) ?_
  refine lv_aload_n hx hb dX11_holds_208 rfl (lv_at hl 0 rfl) ?_
  refine r_get C O (k := 0) (j := 40) (v := .ref (q 31)) fX11_102 rfl rfl rfl dX11_holds_209 ?_
  refine lv_iload_n hx hb dX11_holds_212 rfl (lv_at hl 2 rfl) ?_
  refine r_iald C O (k := 31) rfl hf.1 dX11_holds_213 ?_
  have hf := hf.2
  refine lv_sipush (v := 1440) hx hb dX11_holds_214 (by decide) ?_
  refine lv_idiv hx hb dX11_holds_217 (by decide) ?_
  refine r_callI C O hl (c_X11_dutyOn l ((σ.1 31 x2.toNatClampNeg) / 1440)) mX11_149 (by decide) rfl rfl rfl rfl (Nat.le_of_ble_eq_true rfl) hf dX11_holds_218 (fun r_2 σ_1 H locs O hf => ?_)
  refine lv_icmp_le (tgt := 226) hx hb dX11_holds_221 (by decide) (fun c_3 => ?_) (fun c_3 => ?_)
  · have hf := hf.1 c_3
    refine lv_iinc (v := x3 + 1) (lv' := [(3, .int (x3 + 1)), (0, .ref (q 0)), (1, .int x1), (2, .int x2)]) hx hb dX11_holds_226 hl (k := 3) rfl rfl (by decide) rfl (fun ls hl => ?_)
    refine lv_goto (tgt := 4) hx hb dX11_holds_229 (by decide) ?_
    exact hK4 x1 x2 (x3 + 1) σ_1 _ _ ls O (lv_sub hl [1, 2, 3, 0] rfl) hf
  · have hf := hf.2 c_3
    refine lv_iconst (v := 0) hx hb dX11_holds_224 (by decide) ?_
    exact hE _ _ _ _ _ _ rfl O hf dX11_holds_225
def w_X11_holds_116 (Q : Int32 → St → Prop) (K4 : Int32 → Int32 → Int32 → St → Prop) (x1 : Int32) (x2 : Int32) (x3 : Int32) (σ : St) : Prop := vp_in x3 16 ∧ (vp_in x3 16 ∧ (w_X11_isStorm (σ.1 29 x3.toNatClampNeg) (σ.1 31 x3.toNatClampNeg) σ (fun r_2 σ_1 => (¬ r_2 = 0 → (Q 0 σ_1)) ∧ (r_2 = 0 → (vp_in x3 16 ∧ (vp_in x3 16 ∧ (w_X11_isStorm (σ_1.1 30 x3.toNatClampNeg) (σ_1.1 32 x3.toNatClampNeg) σ_1 (fun r_5 σ_4 => (r_5 = 0 → ((x3 ≤ 0 → (w_X11_holds_194 Q K4 x1 x2 x3 σ_4)) ∧ (¬ x3 ≤ 0 → (vp_in x3 16 ∧ (vp_in (x3 - 1) 16 ∧ (vp_in x2 16 ∧ (w_X11_restOn ((σ_4.1 31 x2.toNatClampNeg) / 1440) σ_4 (fun r_9 σ_8 => (((σ_4.1 31 x3.toNatClampNeg) - (σ_4.1 32 (x3 - 1).toNatClampNeg)) < r_9 → (w_X11_holds_194 Q K4 x1 x2 x3 σ_8)) ∧ (¬ ((σ_4.1 31 x3.toNatClampNeg) - (σ_4.1 32 (x3 - 1).toNatClampNeg)) < r_9 → (w_X11_holds_194 Q K4 x1 x3 x3 σ_8)))))))))) ∧ (¬ r_5 = 0 → (Q 0 σ_4))))))))))
set_option maxHeartbeats 4000000 in
set_option maxRecDepth 100000 in
theorem b_X11_holds_116 (C : CX p R s m args meth c cX11_holds 4 RX11 2 45 D cs) (hE : RI p l e R s m args below meth c cX11_holds D cs LM q .boolean Q E) {K4 : Int32 → Int32 → Int32 → St → Prop} (hK4 : ∀ (x1 : Int32) (x2 : Int32) (x3 : Int32) (σ : St) (H : Heap) (locs : List Loc) (ls : Array Slot), OK D cs LM q s σ H locs → lv_has ls 4 [(0, .ref (q 0)), (1, .int x1), (2, .int x2), (3, .int x3)] → K4 x1 x2 x3 σ → W p l e R s m args below meth c H locs 0 0 E (F0 m 4 ls [])) : ∀ (x1 : Int32) (x2 : Int32) (x3 : Int32) (σ : St) (H : Heap) (locs : List Loc) (ls : Array Slot), OK D cs LM q s σ H locs → lv_has ls 4 [(0, .ref (q 0)), (1, .int x1), (2, .int x2), (3, .int x3)] → w_X11_holds_116 Q K4 x1 x2 x3 σ → W p l e R s m args below meth c H locs 0 0 E (F0 m 116 ls []) := by
  have hx := C.1
  have hb := C.2.1
  intro x1 x2 x3 σ H locs ls O hl hf
  unfold w_X11_holds_116 at hf
  refine lv_aload_n hx hb dX11_holds_116 rfl (lv_at hl 0 rfl) ?_
  refine lv_aload_n hx hb dX11_holds_117 rfl (lv_at hl 0 rfl) ?_
  refine r_get C O (k := 0) (j := 38) (v := .ref (q 29)) fX11_96 rfl rfl rfl dX11_holds_118 ?_
  refine lv_iload_n hx hb dX11_holds_121 rfl (lv_at hl 3 rfl) ?_
  refine r_iald C O (k := 29) rfl hf.1 dX11_holds_122 ?_
  have hf := hf.2
  refine lv_aload_n hx hb dX11_holds_123 rfl (lv_at hl 0 rfl) ?_
  refine r_get C O (k := 0) (j := 40) (v := .ref (q 31)) fX11_102 rfl rfl rfl dX11_holds_124 ?_
  refine lv_iload_n hx hb dX11_holds_127 rfl (lv_at hl 3 rfl) ?_
  refine r_iald C O (k := 31) rfl hf.1 dX11_holds_128 ?_
  have hf := hf.2
  refine r_callI C O hl (c_X11_isStorm l (σ.1 29 x3.toNatClampNeg) (σ.1 31 x3.toNatClampNeg)) mX11_198 (by decide) rfl rfl rfl rfl (Nat.le_of_ble_eq_true rfl) hf dX11_holds_129 (fun r_2 σ_1 H locs O hf => ?_)
  refine lv_if_ne (tgt := 154) hx hb dX11_holds_132 (by decide) (fun c_3 => ?_) (fun c_3 => ?_)
  · have hf := hf.1 c_3
    refine lv_iconst (v := 0) hx hb dX11_holds_154 (by decide) ?_
    exact hE _ _ _ _ _ _ rfl O hf dX11_holds_155
  · have hf := hf.2 c_3
    refine lv_aload_n hx hb dX11_holds_135 rfl (lv_at hl 0 rfl) ?_
    refine lv_aload_n hx hb dX11_holds_136 rfl (lv_at hl 0 rfl) ?_
    refine r_get C O (k := 0) (j := 39) (v := .ref (q 30)) fX11_99 rfl rfl rfl dX11_holds_137 ?_
    refine lv_iload_n hx hb dX11_holds_140 rfl (lv_at hl 3 rfl) ?_
    refine r_iald C O (k := 30) rfl hf.1 dX11_holds_141 ?_
    have hf := hf.2
    refine lv_aload_n hx hb dX11_holds_142 rfl (lv_at hl 0 rfl) ?_
    refine r_get C O (k := 0) (j := 41) (v := .ref (q 32)) fX11_105 rfl rfl rfl dX11_holds_143 ?_
    refine lv_iload_n hx hb dX11_holds_146 rfl (lv_at hl 3 rfl) ?_
    refine r_iald C O (k := 32) rfl hf.1 dX11_holds_147 ?_
    have hf := hf.2
    refine r_callI C O hl (c_X11_isStorm l (σ_1.1 30 x3.toNatClampNeg) (σ_1.1 32 x3.toNatClampNeg)) mX11_198 (by decide) rfl rfl rfl rfl (Nat.le_of_ble_eq_true rfl) hf dX11_holds_148 (fun r_5 σ_4 H locs O hf => ?_)
    refine lv_if_eq (tgt := 156) hx hb dX11_holds_151 (by decide) (fun c_6 => ?_) (fun c_6 => ?_)
    · have hf := hf.1 c_6
      refine lv_iload_n hx hb dX11_holds_156 rfl (lv_at hl 3 rfl) ?_
      refine lv_if_le (tgt := 194) hx hb dX11_holds_157 (by decide) (fun c_7 => ?_) (fun c_7 => ?_)
      · have hf := hf.1 c_7
        exact b_X11_holds_194 C hE hK4 x1 x2 x3 σ_4 _ _ ls O (lv_sub hl [0, 1, 2, 3] rfl) hf
      · have hf := hf.2 c_7
        refine lv_aload_n hx hb dX11_holds_160 rfl (lv_at hl 0 rfl) ?_
        refine r_get C O (k := 0) (j := 40) (v := .ref (q 31)) fX11_102 rfl rfl rfl dX11_holds_161 ?_
        refine lv_iload_n hx hb dX11_holds_164 rfl (lv_at hl 3 rfl) ?_
        refine r_iald C O (k := 31) rfl hf.1 dX11_holds_165 ?_
        have hf := hf.2
        refine lv_aload_n hx hb dX11_holds_166 rfl (lv_at hl 0 rfl) ?_
        refine r_get C O (k := 0) (j := 41) (v := .ref (q 32)) fX11_105 rfl rfl rfl dX11_holds_167 ?_
        refine lv_iload_n hx hb dX11_holds_170 rfl (lv_at hl 3 rfl) ?_
        refine lv_iconst (v := 1) hx hb dX11_holds_171 (by decide) ?_
        refine lv_isub hx hb dX11_holds_172 ?_
        refine r_iald C O (k := 32) rfl hf.1 dX11_holds_173 ?_
        have hf := hf.2
        refine lv_isub hx hb dX11_holds_174 ?_
        refine lv_aload_n hx hb dX11_holds_175 rfl (lv_at hl 0 rfl) ?_
        refine lv_aload_n hx hb dX11_holds_176 rfl (lv_at hl 0 rfl) ?_
        refine r_get C O (k := 0) (j := 40) (v := .ref (q 31)) fX11_102 rfl rfl rfl dX11_holds_177 ?_
        refine lv_iload_n hx hb dX11_holds_180 rfl (lv_at hl 2 rfl) ?_
        refine r_iald C O (k := 31) rfl hf.1 dX11_holds_181 ?_
        have hf := hf.2
        refine lv_sipush (v := 1440) hx hb dX11_holds_182 (by decide) ?_
        refine lv_idiv hx hb dX11_holds_185 (by decide) ?_
        refine r_callI C O hl (c_X11_restOn l ((σ_4.1 31 x2.toNatClampNeg) / 1440)) mX11_152 (by decide) rfl rfl rfl rfl (Nat.le_of_ble_eq_true rfl) hf dX11_holds_186 (fun r_9 σ_8 H locs O hf => ?_)
        refine lv_icmp_lt (tgt := 194) hx hb dX11_holds_189 (by decide) (fun c_10 => ?_) (fun c_10 => ?_)
        · have hf := hf.1 c_10
          exact b_X11_holds_194 C hE hK4 x1 x2 x3 σ_8 _ _ ls O (lv_sub hl [0, 1, 2, 3] rfl) hf
        · have hf := hf.2 c_10
          refine lv_iload_n hx hb dX11_holds_192 rfl (lv_at hl 3 rfl) ?_
          refine lv_istore_n (lv' := [(2, .int x3), (0, .ref (q 0)), (1, .int x1), (3, .int x3)]) hx hb dX11_holds_193 rfl hl (by decide) rfl (fun ls hl => ?_)
          exact b_X11_holds_194 C hE hK4 x1 x3 x3 σ_8 _ _ ls O (lv_sub hl [1, 2, 0, 3] rfl) hf
    · have hf := hf.2 c_6
      refine lv_iconst (v := 0) hx hb dX11_holds_154 (by decide) ?_
      exact hE _ _ _ _ _ _ rfl O hf dX11_holds_155
def w_X11_holds_86 (Q : Int32 → St → Prop) (K4 : Int32 → Int32 → Int32 → St → Prop) (x1 : Int32) (x2 : Int32) (x3 : Int32) (σ : St) : Prop := (x3 ≤ 0 → (w_X11_holds_116 Q K4 x1 x2 x3 σ)) ∧ (¬ x3 ≤ 0 → (vp_in x3 16 ∧ (vp_in (x3 - 1) 16 ∧ (vp_in x1 4 ∧ ((((σ.1 32 (x3 - 1).toNatClampNeg) + (σ.1 8 x1.toNatClampNeg)) ≤ (σ.1 31 x3.toNatClampNeg) → (w_X11_holds_116 Q K4 x1 x2 x3 σ)) ∧ (¬ ((σ.1 32 (x3 - 1).toNatClampNeg) + (σ.1 8 x1.toNatClampNeg)) ≤ (σ.1 31 x3.toNatClampNeg) → (Q 0 σ)))))))
set_option maxHeartbeats 4000000 in
set_option maxRecDepth 100000 in
theorem b_X11_holds_86 (C : CX p R s m args meth c cX11_holds 4 RX11 2 45 D cs) (hE : RI p l e R s m args below meth c cX11_holds D cs LM q .boolean Q E) {K4 : Int32 → Int32 → Int32 → St → Prop} (hK4 : ∀ (x1 : Int32) (x2 : Int32) (x3 : Int32) (σ : St) (H : Heap) (locs : List Loc) (ls : Array Slot), OK D cs LM q s σ H locs → lv_has ls 4 [(0, .ref (q 0)), (1, .int x1), (2, .int x2), (3, .int x3)] → K4 x1 x2 x3 σ → W p l e R s m args below meth c H locs 0 0 E (F0 m 4 ls [])) : ∀ (x1 : Int32) (x2 : Int32) (x3 : Int32) (σ : St) (H : Heap) (locs : List Loc) (ls : Array Slot), OK D cs LM q s σ H locs → lv_has ls 4 [(0, .ref (q 0)), (1, .int x1), (2, .int x2), (3, .int x3)] → w_X11_holds_86 Q K4 x1 x2 x3 σ → W p l e R s m args below meth c H locs 0 0 E (F0 m 86 ls []) := by
  have hx := C.1
  have hb := C.2.1
  intro x1 x2 x3 σ H locs ls O hl hf
  unfold w_X11_holds_86 at hf
  refine lv_iload_n hx hb dX11_holds_86 rfl (lv_at hl 3 rfl) ?_
  refine lv_if_le (tgt := 116) hx hb dX11_holds_87 (by decide) (fun c_1 => ?_) (fun c_1 => ?_)
  · have hf := hf.1 c_1
    exact b_X11_holds_116 C hE hK4 x1 x2 x3 σ _ _ ls O (lv_sub hl [0, 1, 2, 3] rfl) hf
  · have hf := hf.2 c_1
    refine lv_aload_n hx hb dX11_holds_90 rfl (lv_at hl 0 rfl) ?_
    refine r_get C O (k := 0) (j := 40) (v := .ref (q 31)) fX11_102 rfl rfl rfl dX11_holds_91 ?_
    refine lv_iload_n hx hb dX11_holds_94 rfl (lv_at hl 3 rfl) ?_
    refine r_iald C O (k := 31) rfl hf.1 dX11_holds_95 ?_
    have hf := hf.2
    refine lv_aload_n hx hb dX11_holds_96 rfl (lv_at hl 0 rfl) ?_
    refine r_get C O (k := 0) (j := 41) (v := .ref (q 32)) fX11_105 rfl rfl rfl dX11_holds_97 ?_
    refine lv_iload_n hx hb dX11_holds_100 rfl (lv_at hl 3 rfl) ?_
    refine lv_iconst (v := 1) hx hb dX11_holds_101 (by decide) ?_
    refine lv_isub hx hb dX11_holds_102 ?_
    refine r_iald C O (k := 32) rfl hf.1 dX11_holds_103 ?_
    have hf := hf.2
    refine lv_aload_n hx hb dX11_holds_104 rfl (lv_at hl 0 rfl) ?_
    refine r_get C O (k := 0) (j := 12) (v := .ref (q 8)) fX11_33 rfl rfl rfl dX11_holds_105 ?_
    refine lv_iload_n hx hb dX11_holds_108 rfl (lv_at hl 1 rfl) ?_
    refine r_iald C O (k := 8) rfl hf.1 dX11_holds_109 ?_
    have hf := hf.2
    refine lv_iadd hx hb dX11_holds_110 ?_
    refine lv_icmp_ge (tgt := 116) hx hb dX11_holds_111 (by decide) (fun c_2 => ?_) (fun c_2 => ?_)
    · have hf := hf.1 c_2
      exact b_X11_holds_116 C hE hK4 x1 x2 x3 σ _ _ ls O (lv_sub hl [0, 1, 2, 3] rfl) hf
    · have hf := hf.2 c_2
      refine lv_iconst (v := 0) hx hb dX11_holds_114 (by decide) ?_
      exact hE _ _ _ _ _ _ rfl O hf dX11_holds_115
def w_X11_holds_4 (Q : Int32 → St → Prop) : Nat → Int32 → Int32 → Int32 → St → Prop
  | 0, _, _, _, _ => False
  | n + 1, x1, x2, x3, σ => ((σ.1 0 36) ≤ x3 → (Q 1 σ)) ∧ (¬ (σ.1 0 36) ≤ x3 → (vp_in x3 16 ∧ (vp_in x3 16 ∧ (w_X11_minutes (σ.1 29 x3.toNatClampNeg) (σ.1 30 x3.toNatClampNeg) σ (fun r_3 σ_2 => (r_3 = 0 → (Q 0 σ_2)) ∧ (¬ r_3 = 0 → (vp_in x3 16 ∧ (((σ_2.1 31 x3.toNatClampNeg) < 0 → (Q 0 σ_2)) ∧ (¬ (σ_2.1 31 x3.toNatClampNeg) < 0 → (vp_in x3 16 ∧ (((σ_2.1 32 x3.toNatClampNeg) < 10080 → (vp_in x3 16 ∧ (((σ_2.1 28 x3.toNatClampNeg) = ((-1)) → (w_X11_holds_86 Q (fun x1 x2 x3 σ => w_X11_holds_4 Q n x1 x2 x3 σ) x1 x2 x3 σ_2)) ∧ (¬ (σ_2.1 28 x3.toNatClampNeg) = ((-1)) → (vp_in x3 16 ∧ (vp_in (σ_2.1 28 x3.toNatClampNeg) 20 ∧ (vp_in x1 4 ∧ (((σ_2.1 13 (σ_2.1 28 x3.toNatClampNeg).toNatClampNeg) ≤ (σ_2.1 7 x1.toNatClampNeg) → (w_X11_holds_86 Q (fun x1 x2 x3 σ => w_X11_holds_4 Q n x1 x2 x3 σ) x1 x2 x3 σ_2)) ∧ (¬ (σ_2.1 13 (σ_2.1 28 x3.toNatClampNeg).toNatClampNeg) ≤ (σ_2.1 7 x1.toNatClampNeg) → (Q 0 σ_2)))))))))) ∧ (¬ (σ_2.1 32 x3.toNatClampNeg) < 10080 → (Q 0 σ_2)))))))))))))
set_option maxHeartbeats 4000000 in
set_option maxRecDepth 100000 in
theorem b_X11_holds_4 (C : CX p R s m args meth c cX11_holds 4 RX11 2 45 D cs) (hE : RI p l e R s m args below meth c cX11_holds D cs LM q .boolean Q E) : ∀ n : Nat, ∀ (x1 : Int32) (x2 : Int32) (x3 : Int32) (σ : St) (H : Heap) (locs : List Loc) (ls : Array Slot), OK D cs LM q s σ H locs → lv_has ls 4 [(0, .ref (q 0)), (1, .int x1), (2, .int x2), (3, .int x3)] → w_X11_holds_4 Q n x1 x2 x3 σ → W p l e R s m args below meth c H locs 0 0 E (F0 m 4 ls []) := by
  have hx := C.1
  have hb := C.2.1
  intro n
  induction n with
  | zero => intro x1 x2 x3 σ H locs ls O hl hf; exact hf.elim
  | succ n ih =>
    intro x1 x2 x3 σ H locs ls O hl hf
    unfold w_X11_holds_4 at hf
    refine lv_iload_n hx hb dX11_holds_4 rfl (lv_at hl 3 rfl) ?_
    refine lv_aload_n hx hb dX11_holds_5 rfl (lv_at hl 0 rfl) ?_
    refine r_get C O (k := 0) (j := 36) (v := .int (σ.1 0 36)) fX11_191 rfl rfl rfl dX11_holds_6 ?_
    refine lv_icmp_ge (tgt := 232) hx hb dX11_holds_9 (by decide) (fun c_1 => ?_) (fun c_1 => ?_)
    · have hf := hf.1 c_1
      refine lv_iconst (v := 1) hx hb dX11_holds_232 (by decide) ?_
      exact hE _ _ _ _ _ _ rfl O hf dX11_holds_233
    · have hf := hf.2 c_1
      refine lv_aload_n hx hb dX11_holds_12 rfl (lv_at hl 0 rfl) ?_
      refine lv_aload_n hx hb dX11_holds_13 rfl (lv_at hl 0 rfl) ?_
      refine r_get C O (k := 0) (j := 38) (v := .ref (q 29)) fX11_96 rfl rfl rfl dX11_holds_14 ?_
      refine lv_iload_n hx hb dX11_holds_17 rfl (lv_at hl 3 rfl) ?_
      refine r_iald C O (k := 29) rfl hf.1 dX11_holds_18 ?_
      have hf := hf.2
      refine lv_aload_n hx hb dX11_holds_19 rfl (lv_at hl 0 rfl) ?_
      refine r_get C O (k := 0) (j := 39) (v := .ref (q 30)) fX11_99 rfl rfl rfl dX11_holds_20 ?_
      refine lv_iload_n hx hb dX11_holds_23 rfl (lv_at hl 3 rfl) ?_
      refine r_iald C O (k := 30) rfl hf.1 dX11_holds_24 ?_
      have hf := hf.2
      refine r_callI C O hl (c_X11_minutes l (σ.1 29 x3.toNatClampNeg) (σ.1 30 x3.toNatClampNeg)) mX11_165 (by decide) rfl rfl rfl rfl (Nat.le_of_ble_eq_true rfl) hf dX11_holds_25 (fun r_3 σ_2 H locs O hf => ?_)
      refine lv_if_eq (tgt := 52) hx hb dX11_holds_28 (by decide) (fun c_4 => ?_) (fun c_4 => ?_)
      · have hf := hf.1 c_4
        refine lv_iconst (v := 0) hx hb dX11_holds_52 (by decide) ?_
        exact hE _ _ _ _ _ _ rfl O hf dX11_holds_53
      · have hf := hf.2 c_4
        refine lv_aload_n hx hb dX11_holds_31 rfl (lv_at hl 0 rfl) ?_
        refine r_get C O (k := 0) (j := 40) (v := .ref (q 31)) fX11_102 rfl rfl rfl dX11_holds_32 ?_
        refine lv_iload_n hx hb dX11_holds_35 rfl (lv_at hl 3 rfl) ?_
        refine r_iald C O (k := 31) rfl hf.1 dX11_holds_36 ?_
        have hf := hf.2
        refine lv_if_lt (tgt := 52) hx hb dX11_holds_37 (by decide) (fun c_5 => ?_) (fun c_5 => ?_)
        · have hf := hf.1 c_5
          refine lv_iconst (v := 0) hx hb dX11_holds_52 (by decide) ?_
          exact hE _ _ _ _ _ _ rfl O hf dX11_holds_53
        · have hf := hf.2 c_5
          refine lv_aload_n hx hb dX11_holds_40 rfl (lv_at hl 0 rfl) ?_
          refine r_get C O (k := 0) (j := 41) (v := .ref (q 32)) fX11_105 rfl rfl rfl dX11_holds_41 ?_
          refine lv_iload_n hx hb dX11_holds_44 rfl (lv_at hl 3 rfl) ?_
          refine r_iald C O (k := 32) rfl hf.1 dX11_holds_45 ?_
          have hf := hf.2
          refine lv_sipush (v := 10080) hx hb dX11_holds_46 (by decide) ?_
          refine lv_icmp_lt (tgt := 54) hx hb dX11_holds_49 (by decide) (fun c_6 => ?_) (fun c_6 => ?_)
          · have hf := hf.1 c_6
            refine lv_aload_n hx hb dX11_holds_54 rfl (lv_at hl 0 rfl) ?_
            refine r_get C O (k := 0) (j := 37) (v := .ref (q 28)) fX11_93 rfl rfl rfl dX11_holds_55 ?_
            refine lv_iload_n hx hb dX11_holds_58 rfl (lv_at hl 3 rfl) ?_
            refine r_iald C O (k := 28) rfl hf.1 dX11_holds_59 ?_
            have hf := hf.2
            refine lv_iconst (v := (-1)) hx hb dX11_holds_60 (by decide) ?_
            refine lv_icmp_eq (tgt := 86) hx hb dX11_holds_61 (by decide) (fun c_7 => ?_) (fun c_7 => ?_)
            · have hf := hf.1 c_7
              exact b_X11_holds_86 C hE ih x1 x2 x3 σ_2 _ _ ls O (lv_sub hl [0, 1, 2, 3] rfl) hf
            · have hf := hf.2 c_7
              refine lv_aload_n hx hb dX11_holds_64 rfl (lv_at hl 0 rfl) ?_
              refine r_get C O (k := 0) (j := 18) (v := .ref (q 13)) fX11_48 rfl rfl rfl dX11_holds_65 ?_
              refine lv_aload_n hx hb dX11_holds_68 rfl (lv_at hl 0 rfl) ?_
              refine r_get C O (k := 0) (j := 37) (v := .ref (q 28)) fX11_93 rfl rfl rfl dX11_holds_69 ?_
              refine lv_iload_n hx hb dX11_holds_72 rfl (lv_at hl 3 rfl) ?_
              refine r_iald C O (k := 28) rfl hf.1 dX11_holds_73 ?_
              have hf := hf.2
              refine r_iald C O (k := 13) rfl hf.1 dX11_holds_74 ?_
              have hf := hf.2
              refine lv_aload_n hx hb dX11_holds_75 rfl (lv_at hl 0 rfl) ?_
              refine r_get C O (k := 0) (j := 11) (v := .ref (q 7)) fX11_30 rfl rfl rfl dX11_holds_76 ?_
              refine lv_iload_n hx hb dX11_holds_79 rfl (lv_at hl 1 rfl) ?_
              refine r_iald C O (k := 7) rfl hf.1 dX11_holds_80 ?_
              have hf := hf.2
              refine lv_icmp_le (tgt := 86) hx hb dX11_holds_81 (by decide) (fun c_8 => ?_) (fun c_8 => ?_)
              · have hf := hf.1 c_8
                exact b_X11_holds_86 C hE ih x1 x2 x3 σ_2 _ _ ls O (lv_sub hl [0, 1, 2, 3] rfl) hf
              · have hf := hf.2 c_8
                refine lv_iconst (v := 0) hx hb dX11_holds_84 (by decide) ?_
                exact hE _ _ _ _ _ _ rfl O hf dX11_holds_85
          · have hf := hf.2 c_6
            refine lv_iconst (v := 0) hx hb dX11_holds_52 (by decide) ?_
            exact hE _ _ _ _ _ _ rfl O hf dX11_holds_53
def w_X11_holds (x1 : Int32) (σ : St) (Q : Int32 → St → Prop) : Prop := ∃ nn : Nat, w_X11_holds_4 Q nn x1 0 0 σ
set_option maxHeartbeats 4000000 in
set_option maxRecDepth 100000 in
theorem b_X11_holds (C : CX p R s m args meth c cX11_holds 4 RX11 2 45 D cs) (hE : RI p l e R s m args below meth c cX11_holds D cs LM q .boolean Q E) : ∀ (x1 : Int32) (σ : St) (H : Heap) (locs : List Loc) (ls : Array Slot), OK D cs LM q s σ H locs → lv_has ls 4 [(0, .ref (q 0)), (1, .int x1)] → w_X11_holds x1 σ Q → W p l e R s m args below meth c H locs 0 0 E (F0 m 0 ls []) := by
  have hx := C.1
  have hb := C.2.1
  intro x1 σ H locs ls O hl hf
  unfold w_X11_holds at hf
  refine lv_iconst (v := 0) hx hb dX11_holds_0 (by decide) ?_
  refine lv_istore_n (lv' := [(2, .int 0), (0, .ref (q 0)), (1, .int x1)]) hx hb dX11_holds_1 rfl hl (by decide) rfl (fun ls hl => ?_)
  refine lv_iconst (v := 0) hx hb dX11_holds_2 (by decide) ?_
  refine lv_istore_n (lv' := [(3, .int 0), (2, .int 0), (0, .ref (q 0)), (1, .int x1)]) hx hb dX11_holds_3 rfl hl (by decide) rfl (fun ls hl => ?_)
  obtain ⟨nn, hf⟩ := hf
  exact b_X11_holds_4 C hE nn x1 0 0 σ _ _ ls O (lv_sub hl [2, 3, 1, 0] rfl) hf
theorem c_X11_holds (l : Launch) (x1 : Int32) : MetI l yX11_holds cX11_holds 4 .boolean 2 45 LM 0 (fun q => [.int x1]) (w_X11_holds x1) := mk_I (own := RX11) (by decide) rfl (fun q => Nat.le_of_ble_eq_true rfl) (fun C hE O hl hf => b_X11_holds C hE x1 _ _ _ _ O hl hf)
end
section
variable {p : Program} {l : Launch} {e : Env} {R : Room} {s : State} {m : MethodId} {args : Array Value} {below : List Frame} {meth : Method} {c : Code} {E : State → Prop}
variable {D : va_G} {cs : Nat → ClassId} {q : Nat → Nat}
variable {Q : Int32 → St → Prop}
def w_X11_emptyMinutes_4 (Q : Int32 → St → Prop) : Nat → Int32 → Int32 → St → Prop
  | 0, _, _, _ => False
  | n + 1, x1, x2, σ => ((σ.1 0 36) ≤ x2 → (Q x1 σ)) ∧ (¬ (σ.1 0 36) ≤ x2 → (vp_in x2 16 ∧ ((¬ (σ.1 28 x2.toNatClampNeg) = ((-1)) → (w_X11_emptyMinutes_4 Q n (x1 + 0) (x2 + 1) σ)) ∧ ((σ.1 28 x2.toNatClampNeg) = ((-1)) → (vp_in x2 16 ∧ (vp_in x2 16 ∧ (w_X11_minutes (σ.1 29 x2.toNatClampNeg) (σ.1 30 x2.toNatClampNeg) σ (fun r_4 σ_3 => w_X11_emptyMinutes_4 Q n (x1 + r_4) (x2 + 1) σ_3))))))))
set_option maxHeartbeats 4000000 in
set_option maxRecDepth 100000 in
theorem b_X11_emptyMinutes_4 (C : CX p R s m args meth c cX11_emptyMinutes 3 RX11 1 22 D cs) (hE : RI p l e R s m args below meth c cX11_emptyMinutes D cs LM q .int Q E) : ∀ n : Nat, ∀ (x1 : Int32) (x2 : Int32) (σ : St) (H : Heap) (locs : List Loc) (ls : Array Slot), OK D cs LM q s σ H locs → lv_has ls 3 [(0, .ref (q 0)), (1, .int x1), (2, .int x2)] → w_X11_emptyMinutes_4 Q n x1 x2 σ → W p l e R s m args below meth c H locs 0 0 E (F0 m 4 ls []) := by
  have hx := C.1
  have hb := C.2.1
  intro n
  induction n with
  | zero => intro x1 x2 σ H locs ls O hl hf; exact hf.elim
  | succ n ih =>
    intro x1 x2 σ H locs ls O hl hf
    unfold w_X11_emptyMinutes_4 at hf
    refine lv_iload_n hx hb dX11_emptyMinutes_4 rfl (lv_at hl 2 rfl) ?_
    refine lv_aload_n hx hb dX11_emptyMinutes_5 rfl (lv_at hl 0 rfl) ?_
    refine r_get C O (k := 0) (j := 36) (v := .int (σ.1 0 36)) fX11_191 rfl rfl rfl dX11_emptyMinutes_6 ?_
    refine lv_icmp_ge (tgt := 51) hx hb dX11_emptyMinutes_9 (by decide) (fun c_1 => ?_) (fun c_1 => ?_)
    · have hf := hf.1 c_1
      refine lv_iload_n hx hb dX11_emptyMinutes_51 rfl (lv_at hl 1 rfl) ?_
      exact hE _ _ _ _ _ _ (vp_nar_int _) O hf dX11_emptyMinutes_52
    · have hf := hf.2 c_1
      refine lv_iload_n hx hb dX11_emptyMinutes_12 rfl (lv_at hl 1 rfl) ?_
      refine lv_aload_n hx hb dX11_emptyMinutes_13 rfl (lv_at hl 0 rfl) ?_
      refine r_get C O (k := 0) (j := 37) (v := .ref (q 28)) fX11_93 rfl rfl rfl dX11_emptyMinutes_14 ?_
      refine lv_iload_n hx hb dX11_emptyMinutes_17 rfl (lv_at hl 2 rfl) ?_
      refine r_iald C O (k := 28) rfl hf.1 dX11_emptyMinutes_18 ?_
      have hf := hf.2
      refine lv_iconst (v := (-1)) hx hb dX11_emptyMinutes_19 (by decide) ?_
      refine lv_icmp_ne (tgt := 42) hx hb dX11_emptyMinutes_20 (by decide) (fun c_2 => ?_) (fun c_2 => ?_)
      · have hf := hf.1 c_2
        refine lv_iconst (v := 0) hx hb dX11_emptyMinutes_42 (by decide) ?_
        refine lv_iadd hx hb dX11_emptyMinutes_43 ?_
        refine lv_istore_n (lv' := [(1, .int (x1 + 0)), (0, .ref (q 0)), (2, .int x2)]) hx hb dX11_emptyMinutes_44 rfl hl (by decide) rfl (fun ls hl => ?_)
        refine lv_iinc (v := x2 + 1) (lv' := [(2, .int (x2 + 1)), (1, .int (x1 + 0)), (0, .ref (q 0))]) hx hb dX11_emptyMinutes_45 hl (k := 2) rfl rfl (by decide) rfl (fun ls hl => ?_)
        refine lv_goto (tgt := 4) hx hb dX11_emptyMinutes_48 (by decide) ?_
        exact ih (x1 + 0) (x2 + 1) σ _ _ ls O (lv_sub hl [2, 1, 0] rfl) hf
      · have hf := hf.2 c_2
        refine lv_aload_n hx hb dX11_emptyMinutes_23 rfl (lv_at hl 0 rfl) ?_
        refine lv_aload_n hx hb dX11_emptyMinutes_24 rfl (lv_at hl 0 rfl) ?_
        refine r_get C O (k := 0) (j := 38) (v := .ref (q 29)) fX11_96 rfl rfl rfl dX11_emptyMinutes_25 ?_
        refine lv_iload_n hx hb dX11_emptyMinutes_28 rfl (lv_at hl 2 rfl) ?_
        refine r_iald C O (k := 29) rfl hf.1 dX11_emptyMinutes_29 ?_
        have hf := hf.2
        refine lv_aload_n hx hb dX11_emptyMinutes_30 rfl (lv_at hl 0 rfl) ?_
        refine r_get C O (k := 0) (j := 39) (v := .ref (q 30)) fX11_99 rfl rfl rfl dX11_emptyMinutes_31 ?_
        refine lv_iload_n hx hb dX11_emptyMinutes_34 rfl (lv_at hl 2 rfl) ?_
        refine r_iald C O (k := 30) rfl hf.1 dX11_emptyMinutes_35 ?_
        have hf := hf.2
        refine r_callI C O hl (c_X11_minutes l (σ.1 29 x2.toNatClampNeg) (σ.1 30 x2.toNatClampNeg)) mX11_165 (by decide) rfl rfl rfl rfl (Nat.le_of_ble_eq_true rfl) hf dX11_emptyMinutes_36 (fun r_4 σ_3 H locs O hf => ?_)
        refine lv_goto (tgt := 43) hx hb dX11_emptyMinutes_39 (by decide) ?_
        refine lv_iadd hx hb dX11_emptyMinutes_43 ?_
        refine lv_istore_n (lv' := [(1, .int (x1 + r_4)), (0, .ref (q 0)), (2, .int x2)]) hx hb dX11_emptyMinutes_44 rfl hl (by decide) rfl (fun ls hl => ?_)
        refine lv_iinc (v := x2 + 1) (lv' := [(2, .int (x2 + 1)), (1, .int (x1 + r_4)), (0, .ref (q 0))]) hx hb dX11_emptyMinutes_45 hl (k := 2) rfl rfl (by decide) rfl (fun ls hl => ?_)
        refine lv_goto (tgt := 4) hx hb dX11_emptyMinutes_48 (by decide) ?_
        exact ih (x1 + r_4) (x2 + 1) σ_3 _ _ ls O (lv_sub hl [2, 1, 0] rfl) hf
def w_X11_emptyMinutes (σ : St) (Q : Int32 → St → Prop) : Prop := ∃ nn : Nat, w_X11_emptyMinutes_4 Q nn 0 0 σ
set_option maxHeartbeats 4000000 in
set_option maxRecDepth 100000 in
theorem b_X11_emptyMinutes (C : CX p R s m args meth c cX11_emptyMinutes 3 RX11 1 22 D cs) (hE : RI p l e R s m args below meth c cX11_emptyMinutes D cs LM q .int Q E) : ∀ (σ : St) (H : Heap) (locs : List Loc) (ls : Array Slot), OK D cs LM q s σ H locs → lv_has ls 3 [(0, .ref (q 0))] → w_X11_emptyMinutes  σ Q → W p l e R s m args below meth c H locs 0 0 E (F0 m 0 ls []) := by
  have hx := C.1
  have hb := C.2.1
  intro  σ H locs ls O hl hf
  unfold w_X11_emptyMinutes at hf
  refine lv_iconst (v := 0) hx hb dX11_emptyMinutes_0 (by decide) ?_
  refine lv_istore_n (lv' := [(1, .int 0), (0, .ref (q 0))]) hx hb dX11_emptyMinutes_1 rfl hl (by decide) rfl (fun ls hl => ?_)
  refine lv_iconst (v := 0) hx hb dX11_emptyMinutes_2 (by decide) ?_
  refine lv_istore_n (lv' := [(2, .int 0), (1, .int 0), (0, .ref (q 0))]) hx hb dX11_emptyMinutes_3 rfl hl (by decide) rfl (fun ls hl => ?_)
  obtain ⟨nn, hf⟩ := hf
  exact b_X11_emptyMinutes_4 C hE nn 0 0 σ _ _ ls O (lv_sub hl [2, 1, 0] rfl) hf
theorem c_X11_emptyMinutes (l : Launch) : MetI l yX11_emptyMinutes cX11_emptyMinutes 3 .int 1 22 LM 0 (fun q => []) (w_X11_emptyMinutes ) := mk_I (own := RX11) (by decide) rfl (fun q => Nat.le_of_ble_eq_true rfl) (fun C hE O hl hf => b_X11_emptyMinutes C hE _ _ _ _ O hl hf)
end
section
variable {p : Program} {l : Launch} {e : Env} {R : Room} {s : State} {m : MethodId} {args : Array Value} {below : List Frame} {meth : Method} {c : Code} {E : State → Prop}
variable {D : va_G} {cs : Nat → ClassId} {q : Nat → Nat}
variable {Q : St → Prop}
def w_X11_works_59 (Q : St → Prop) (K6 : Int32 → St → Prop) (K16 : Int32 → Int32 → St → Prop) (x1 : Int32) (x2 : Int32) (s1 : Int32) (s2 : Int32) (σ : St) : Prop := vp_in s1 1024 ∧ (∀ σ_1 : St, σ_1 = wr σ 34 s1.toNatClampNeg s2 → (K16 x1 (x2 + 1) σ_1))
set_option maxHeartbeats 4000000 in
set_option maxRecDepth 100000 in
theorem b_X11_works_59 (C : CX p R s m args meth c cX11_works 3 RX11 3 68 D cs) (hE : RV p l e R s m args below meth c cX11_works D cs LM q Q E) {K6 : Int32 → St → Prop} (hK6 : ∀ (x1 : Int32) (σ : St) (H : Heap) (locs : List Loc) (ls : Array Slot), OK D cs LM q s σ H locs → lv_has ls 3 [(0, .ref (q 0)), (1, .int x1)] → K6 x1 σ → W p l e R s m args below meth c H locs 0 0 E (F0 m 6 ls [])) {K16 : Int32 → Int32 → St → Prop} (hK16 : ∀ (x1 : Int32) (x2 : Int32) (σ : St) (H : Heap) (locs : List Loc) (ls : Array Slot), OK D cs LM q s σ H locs → lv_has ls 3 [(0, .ref (q 0)), (1, .int x1), (2, .int x2)] → K16 x1 x2 σ → W p l e R s m args below meth c H locs 0 0 E (F0 m 16 ls [])) : ∀ (x1 : Int32) (x2 : Int32) (s1 : Int32) (s2 : Int32) (σ : St) (H : Heap) (locs : List Loc) (ls : Array Slot), OK D cs LM q s σ H locs → lv_has ls 3 [(0, .ref (q 0)), (1, .int x1), (2, .int x2)] → w_X11_works_59 Q K6 K16 x1 x2 s1 s2 σ → W p l e R s m args below meth c H locs 0 0 E (F0 m 59 ls [.int s2, .int s1, .ref (q 34)]) := by
  have hx := C.1
  have hb := C.2.1
  intro x1 x2 s1 s2 σ H locs ls O hl hf
  unfold w_X11_works_59 at hf
  refine r_iast C O (k := 34) rfl hf.1 dX11_works_59 (fun H locs σ_1 eσ_1 O => ?_)
  have hf := hf.2 σ_1 eσ_1
  refine lv_iinc (v := x2 + 1) (lv' := [(2, .int (x2 + 1)), (0, .ref (q 0)), (1, .int x1)]) hx hb dX11_works_60 hl (k := 2) rfl rfl (by decide) rfl (fun ls hl => ?_)
  refine lv_goto (tgt := 16) hx hb dX11_works_63 (by decide) ?_
  exact hK16 x1 (x2 + 1) σ_1 _ _ ls O (lv_sub hl [1, 2, 0] rfl) hf
def w_X11_works_16 (Q : St → Prop) (K6 : Int32 → St → Prop) : Nat → Int32 → Int32 → St → Prop
  | 0, _, _, _ => False
  | n + 1, x1, x2, σ => ((1 <<< ((σ.1 0 34) &&& 31)) ≤ x2 → (K6 (x1 + 1) σ)) ∧ (¬ (1 <<< ((σ.1 0 34) &&& 31)) ≤ x2 → (w_X11_chains x1 x2 σ (fun σ_2 => w_X11_holds x1 σ_2 (fun r_4 σ_3 => (r_4 = 0 → (w_X11_works_59 Q K6 (fun x1 x2 σ => w_X11_works_16 Q K6 n x1 x2 σ) x1 x2 ((256 * x1) + x2) ((-1)) σ_3)) ∧ (¬ r_4 = 0 → (w_X11_emptyMinutes σ_3 (fun r_7 σ_6 => w_X11_works_59 Q K6 (fun x1 x2 σ => w_X11_works_16 Q K6 n x1 x2 σ) x1 x2 ((256 * x1) + x2) r_7 σ_6)))))))
set_option maxHeartbeats 4000000 in
set_option maxRecDepth 100000 in
theorem b_X11_works_16 (C : CX p R s m args meth c cX11_works 3 RX11 3 68 D cs) (hE : RV p l e R s m args below meth c cX11_works D cs LM q Q E) {K6 : Int32 → St → Prop} (hK6 : ∀ (x1 : Int32) (σ : St) (H : Heap) (locs : List Loc) (ls : Array Slot), OK D cs LM q s σ H locs → lv_has ls 3 [(0, .ref (q 0)), (1, .int x1)] → K6 x1 σ → W p l e R s m args below meth c H locs 0 0 E (F0 m 6 ls [])) : ∀ n : Nat, ∀ (x1 : Int32) (x2 : Int32) (σ : St) (H : Heap) (locs : List Loc) (ls : Array Slot), OK D cs LM q s σ H locs → lv_has ls 3 [(0, .ref (q 0)), (1, .int x1), (2, .int x2)] → w_X11_works_16 Q K6 n x1 x2 σ → W p l e R s m args below meth c H locs 0 0 E (F0 m 16 ls []) := by
  have hx := C.1
  have hb := C.2.1
  intro n
  induction n with
  | zero => intro x1 x2 σ H locs ls O hl hf; exact hf.elim
  | succ n ih =>
    intro x1 x2 σ H locs ls O hl hf
    unfold w_X11_works_16 at hf
    refine lv_iload_n hx hb dX11_works_16 rfl (lv_at hl 2 rfl) ?_
    refine lv_iconst (v := 1) hx hb dX11_works_17 (by decide) ?_
    refine lv_aload_n hx hb dX11_works_18 rfl (lv_at hl 0 rfl) ?_
    refine r_get C O (k := 0) (j := 34) (v := .int (σ.1 0 34)) fX11_188 rfl rfl rfl dX11_works_19 ?_
    refine lv_ishl hx hb dX11_works_22 ?_
    refine lv_icmp_ge (tgt := 66) hx hb dX11_works_23 (by decide) (fun c_1 => ?_) (fun c_1 => ?_)
    · have hf := hf.1 c_1
      refine lv_iinc (v := x1 + 1) (lv' := [(1, .int (x1 + 1)), (0, .ref (q 0)), (2, .int x2)]) hx hb dX11_works_66 hl (k := 1) rfl rfl (by decide) rfl (fun ls hl => ?_)
      refine lv_goto (tgt := 6) hx hb dX11_works_69 (by decide) ?_
      exact hK6 (x1 + 1) σ _ _ ls O (lv_sub hl [1, 0] rfl) hf
    · have hf := hf.2 c_1
      refine lv_aload_n hx hb dX11_works_26 rfl (lv_at hl 0 rfl) ?_
      refine lv_iload_n hx hb dX11_works_27 rfl (lv_at hl 1 rfl) ?_
      refine lv_iload_n hx hb dX11_works_28 rfl (lv_at hl 2 rfl) ?_
      refine r_callV C O hl (c_X11_chains l x1 x2) mX11_204 (by decide) rfl rfl rfl rfl (Nat.le_of_ble_eq_true rfl) hf dX11_works_29 (fun σ_2 H locs O hf => ?_)
      refine lv_aload_n hx hb dX11_works_32 rfl (lv_at hl 0 rfl) ?_
      refine r_get C O (k := 0) (j := 43) (v := .ref (q 34)) fX11_111 rfl rfl rfl dX11_works_33 ?_
      refine lv_sipush (v := 256) hx hb dX11_works_36 (by decide) ?_
      refine lv_iload_n hx hb dX11_works_39 rfl (lv_at hl 1 rfl) ?_
      refine lv_imul hx hb dX11_works_40 ?_
      refine lv_iload_n hx hb dX11_works_41 rfl (lv_at hl 2 rfl) ?_
      refine lv_iadd hx hb dX11_works_42 ?_
      refine lv_aload_n hx hb dX11_works_43 rfl (lv_at hl 0 rfl) ?_
      refine lv_iload_n hx hb dX11_works_44 rfl (lv_at hl 1 rfl) ?_
      refine r_callI C O hl (c_X11_holds l x1) mX11_208 (by decide) rfl rfl rfl rfl (Nat.le_of_ble_eq_true rfl) hf dX11_works_45 (fun r_4 σ_3 H locs O hf => ?_)
      refine lv_if_eq (tgt := 58) hx hb dX11_works_48 (by decide) (fun c_5 => ?_) (fun c_5 => ?_)
      · have hf := hf.1 c_5
        refine lv_iconst (v := (-1)) hx hb dX11_works_58 (by decide) ?_
        exact b_X11_works_59 C hE hK6 ih x1 x2 ((256 * x1) + x2) ((-1)) σ_3 _ _ ls O (lv_sub hl [0, 1, 2] rfl) hf
      · have hf := hf.2 c_5
        refine lv_aload_n hx hb dX11_works_51 rfl (lv_at hl 0 rfl) ?_
        refine r_callI C O hl (c_X11_emptyMinutes l) mX11_211 (by decide) rfl rfl rfl rfl (Nat.le_of_ble_eq_true rfl) hf dX11_works_52 (fun r_7 σ_6 H locs O hf => ?_)
        refine lv_goto (tgt := 59) hx hb dX11_works_55 (by decide) ?_
        exact b_X11_works_59 C hE hK6 ih x1 x2 ((256 * x1) + x2) r_7 σ_6 _ _ ls O (lv_sub hl [0, 1, 2] rfl) hf
def w_X11_works_6 (Q : St → Prop) : Nat → Int32 → St → Prop
  | 0, _, _ => False
  | n + 1, x1, σ => ((σ.1 0 9) ≤ x1 → (Q σ)) ∧ (¬ (σ.1 0 9) ≤ x1 → (∃ nn : Nat, w_X11_works_16 Q (fun x1 σ => w_X11_works_6 Q n x1 σ) nn x1 0 σ))
set_option maxHeartbeats 4000000 in
set_option maxRecDepth 100000 in
theorem b_X11_works_6 (C : CX p R s m args meth c cX11_works 3 RX11 3 68 D cs) (hE : RV p l e R s m args below meth c cX11_works D cs LM q Q E) : ∀ n : Nat, ∀ (x1 : Int32) (σ : St) (H : Heap) (locs : List Loc) (ls : Array Slot), OK D cs LM q s σ H locs → lv_has ls 3 [(0, .ref (q 0)), (1, .int x1)] → w_X11_works_6 Q n x1 σ → W p l e R s m args below meth c H locs 0 0 E (F0 m 6 ls []) := by
  have hx := C.1
  have hb := C.2.1
  intro n
  induction n with
  | zero => intro x1 σ H locs ls O hl hf; exact hf.elim
  | succ n ih =>
    intro x1 σ H locs ls O hl hf
    unfold w_X11_works_6 at hf
    refine lv_iload_n hx hb dX11_works_6 rfl (lv_at hl 1 rfl) ?_
    refine lv_aload_n hx hb dX11_works_7 rfl (lv_at hl 0 rfl) ?_
    refine r_get C O (k := 0) (j := 9) (v := .int (σ.1 0 9)) fX11_162 rfl rfl rfl dX11_works_8 ?_
    refine lv_icmp_ge (tgt := 72) hx hb dX11_works_11 (by decide) (fun c_1 => ?_) (fun c_1 => ?_)
    · have hf := hf.1 c_1
      exact hE _ _ _ _ _ O hf dX11_works_72
    · have hf := hf.2 c_1
      refine lv_iconst (v := 0) hx hb dX11_works_14 (by decide) ?_
      refine lv_istore_n (lv' := [(2, .int 0), (0, .ref (q 0)), (1, .int x1)]) hx hb dX11_works_15 rfl hl (by decide) rfl (fun ls hl => ?_)
      obtain ⟨nn, hf⟩ := hf
      exact b_X11_works_16 C hE ih nn x1 0 σ _ _ ls O (lv_sub hl [1, 2, 0] rfl) hf
def w_X11_works (σ : St) (Q : St → Prop) : Prop := w_X11_orders σ (fun σ_1 => ∃ nn : Nat, w_X11_works_6 Q nn 0 σ_1)
set_option maxHeartbeats 4000000 in
set_option maxRecDepth 100000 in
theorem b_X11_works (C : CX p R s m args meth c cX11_works 3 RX11 3 68 D cs) (hE : RV p l e R s m args below meth c cX11_works D cs LM q Q E) : ∀ (σ : St) (H : Heap) (locs : List Loc) (ls : Array Slot), OK D cs LM q s σ H locs → lv_has ls 3 [(0, .ref (q 0))] → w_X11_works  σ Q → W p l e R s m args below meth c H locs 0 0 E (F0 m 0 ls []) := by
  have hx := C.1
  have hb := C.2.1
  intro  σ H locs ls O hl hf
  unfold w_X11_works at hf
  refine lv_aload_n hx hb dX11_works_0 rfl (lv_at hl 0 rfl) ?_
  refine r_callV C O hl (c_X11_orders l) mX11_201 (by decide) rfl rfl rfl rfl (Nat.le_of_ble_eq_true rfl) hf dX11_works_1 (fun σ_1 H locs O hf => ?_)
  refine lv_iconst (v := 0) hx hb dX11_works_4 (by decide) ?_
  refine lv_istore_n (lv' := [(1, .int 0), (0, .ref (q 0))]) hx hb dX11_works_5 rfl hl (by decide) rfl (fun ls hl => ?_)
  obtain ⟨nn, hf⟩ := hf
  exact b_X11_works_6 C hE nn 0 σ_1 _ _ ls O (lv_sub hl [1, 0] rfl) hf
theorem c_X11_works (l : Launch) : MetV l yX11_works cX11_works 3 3 68 LM 0 (fun q => []) (w_X11_works ) := mk_V (own := RX11) (by decide) rfl (fun q => Nat.le_of_ble_eq_true rfl) (fun C hE O hl hf => b_X11_works C hE _ _ _ _ O hl hf)
end
section
variable {p : Program} {l : Launch} {e : Env} {R : Room} {s : State} {m : MethodId} {args : Array Value} {below : List Frame} {meth : Method} {c : Code} {E : State → Prop}
variable {D : va_G} {cs : Nat → ClassId} {q : Nat → Nat}
variable {Q : Int32 → St → Prop}
def w_X11_isMoved_49 (Q : Int32 → St → Prop) (s0 : Int32) (s1 : Int32) (σ : St) : Prop := (s0 = s1 → (Q 0 σ)) ∧ (¬ s0 = s1 → (Q 1 σ))
set_option maxHeartbeats 4000000 in
set_option maxRecDepth 100000 in
theorem b_X11_isMoved_49 (C : CX p R s m args meth c cX11_isMoved 2 RX11 0 0 D cs) (hE : RI p l e R s m args below meth c cX11_isMoved D cs LM q .int Q E) : ∀ (s0 : Int32) (s1 : Int32) (σ : St) (H : Heap) (locs : List Loc) (ls : Array Slot), OK D cs LM q s σ H locs → lv_has ls 2 [] → w_X11_isMoved_49 Q s0 s1 σ → W p l e R s m args below meth c H locs 0 0 E (F0 m 49 ls [.int s1, .int s0]) := by
  have hx := C.1
  have hb := C.2.1
  intro s0 s1 σ H locs ls O hl hf
  unfold w_X11_isMoved_49 at hf
  refine lv_icmp_eq (tgt := 56) hx hb dX11_isMoved_49 (by decide) (fun c_1 => ?_) (fun c_1 => ?_)
  · have hf := hf.1 c_1
    refine lv_iconst (v := 0) hx hb dX11_isMoved_56 (by decide) ?_
    exact hE _ _ _ _ _ _ (vp_nar_int _) O hf dX11_isMoved_57
  · have hf := hf.2 c_1
    refine lv_iconst (v := 1) hx hb dX11_isMoved_52 (by decide) ?_
    refine lv_goto (tgt := 57) hx hb dX11_isMoved_53 (by decide) ?_
    exact hE _ _ _ _ _ _ (vp_nar_int _) O hf dX11_isMoved_57
def w_X11_isMoved (x1 : Int32) (σ : St) (Q : Int32 → St → Prop) : Prop := vp_in x1 8 ∧ (vp_in (σ.1 27 x1.toNatClampNeg) 20 ∧ (((σ.1 15 (σ.1 27 x1.toNatClampNeg).toNatClampNeg) = ((-1)) → (Q 0 σ)) ∧ (¬ (σ.1 15 (σ.1 27 x1.toNatClampNeg).toNatClampNeg) = ((-1)) → (vp_in x1 8 ∧ (vp_in (σ.1 27 x1.toNatClampNeg) 20 ∧ (vp_in x1 8 ∧ ((¬ (σ.1 35 x1.toNatClampNeg) = (σ.1 0 9) → (vp_in x1 8 ∧ (w_X11_isMoved_49 Q (σ.1 15 (σ.1 27 x1.toNatClampNeg).toNatClampNeg) (σ.1 35 x1.toNatClampNeg) σ))) ∧ ((σ.1 35 x1.toNatClampNeg) = (σ.1 0 9) → (w_X11_isMoved_49 Q (σ.1 15 (σ.1 27 x1.toNatClampNeg).toNatClampNeg) ((-1)) σ)))))))))
set_option maxHeartbeats 4000000 in
set_option maxRecDepth 100000 in
theorem b_X11_isMoved (C : CX p R s m args meth c cX11_isMoved 2 RX11 0 0 D cs) (hE : RI p l e R s m args below meth c cX11_isMoved D cs LM q .int Q E) : ∀ (x1 : Int32) (σ : St) (H : Heap) (locs : List Loc) (ls : Array Slot), OK D cs LM q s σ H locs → lv_has ls 2 [(0, .ref (q 0)), (1, .int x1)] → w_X11_isMoved x1 σ Q → W p l e R s m args below meth c H locs 0 0 E (F0 m 0 ls []) := by
  have hx := C.1
  have hb := C.2.1
  intro x1 σ H locs ls O hl hf
  unfold w_X11_isMoved at hf
  refine lv_aload_n hx hb dX11_isMoved_0 rfl (lv_at hl 0 rfl) ?_
  refine r_get C O (k := 0) (j := 20) (v := .ref (q 15)) fX11_54 rfl rfl rfl dX11_isMoved_1 ?_
  refine lv_aload_n hx hb dX11_isMoved_4 rfl (lv_at hl 0 rfl) ?_
  refine r_get C O (k := 0) (j := 35) (v := .ref (q 27)) fX11_90 rfl rfl rfl dX11_isMoved_5 ?_
  refine lv_iload_n hx hb dX11_isMoved_8 rfl (lv_at hl 1 rfl) ?_
  refine r_iald C O (k := 27) rfl hf.1 dX11_isMoved_9 ?_
  have hf := hf.2
  refine r_iald C O (k := 15) rfl hf.1 dX11_isMoved_10 ?_
  have hf := hf.2
  refine lv_iconst (v := (-1)) hx hb dX11_isMoved_11 (by decide) ?_
  refine lv_icmp_eq (tgt := 56) hx hb dX11_isMoved_12 (by decide) (fun c_1 => ?_) (fun c_1 => ?_)
  · have hf := hf.1 c_1
    refine lv_iconst (v := 0) hx hb dX11_isMoved_56 (by decide) ?_
    exact hE _ _ _ _ _ _ (vp_nar_int _) O hf dX11_isMoved_57
  · have hf := hf.2 c_1
    refine lv_aload_n hx hb dX11_isMoved_15 rfl (lv_at hl 0 rfl) ?_
    refine r_get C O (k := 0) (j := 20) (v := .ref (q 15)) fX11_54 rfl rfl rfl dX11_isMoved_16 ?_
    refine lv_aload_n hx hb dX11_isMoved_19 rfl (lv_at hl 0 rfl) ?_
    refine r_get C O (k := 0) (j := 35) (v := .ref (q 27)) fX11_90 rfl rfl rfl dX11_isMoved_20 ?_
    refine lv_iload_n hx hb dX11_isMoved_23 rfl (lv_at hl 1 rfl) ?_
    refine r_iald C O (k := 27) rfl hf.1 dX11_isMoved_24 ?_
    have hf := hf.2
    refine r_iald C O (k := 15) rfl hf.1 dX11_isMoved_25 ?_
    have hf := hf.2
    refine lv_aload_n hx hb dX11_isMoved_26 rfl (lv_at hl 0 rfl) ?_
    refine r_get C O (k := 0) (j := 44) (v := .ref (q 35)) fX11_114 rfl rfl rfl dX11_isMoved_27 ?_
    refine lv_iload_n hx hb dX11_isMoved_30 rfl (lv_at hl 1 rfl) ?_
    refine r_iald C O (k := 35) rfl hf.1 dX11_isMoved_31 ?_
    have hf := hf.2
    refine lv_aload_n hx hb dX11_isMoved_32 rfl (lv_at hl 0 rfl) ?_
    refine r_get C O (k := 0) (j := 9) (v := .int (σ.1 0 9)) fX11_162 rfl rfl rfl dX11_isMoved_33 ?_
    refine lv_icmp_ne (tgt := 43) hx hb dX11_isMoved_36 (by decide) (fun c_2 => ?_) (fun c_2 => ?_)
    · have hf := hf.1 c_2
      refine lv_aload_n hx hb dX11_isMoved_43 rfl (lv_at hl 0 rfl) ?_
      refine r_get C O (k := 0) (j := 44) (v := .ref (q 35)) fX11_114 rfl rfl rfl dX11_isMoved_44 ?_
      refine lv_iload_n hx hb dX11_isMoved_47 rfl (lv_at hl 1 rfl) ?_
      refine r_iald C O (k := 35) rfl hf.1 dX11_isMoved_48 ?_
      have hf := hf.2
      exact b_X11_isMoved_49 C hE (σ.1 15 (σ.1 27 x1.toNatClampNeg).toNatClampNeg) (σ.1 35 x1.toNatClampNeg) σ _ _ ls O (lv_sub hl [] rfl) hf
    · have hf := hf.2 c_2
      refine lv_iconst (v := (-1)) hx hb dX11_isMoved_39 (by decide) ?_
      refine lv_goto (tgt := 49) hx hb dX11_isMoved_40 (by decide) ?_
      exact b_X11_isMoved_49 C hE (σ.1 15 (σ.1 27 x1.toNatClampNeg).toNatClampNeg) ((-1)) σ _ _ ls O (lv_sub hl [] rfl) hf
theorem c_X11_isMoved (l : Launch) (x1 : Int32) : MetI l yX11_isMoved cX11_isMoved 2 .int 0 0 LM 0 (fun q => [.int x1]) (w_X11_isMoved x1) := mk_I (own := RX11) (by decide) rfl (fun q => Nat.le_of_ble_eq_true rfl) (fun C hE O hl hf => b_X11_isMoved C hE x1 _ _ _ _ O hl hf)
end
section
variable {p : Program} {l : Launch} {e : Env} {R : Room} {s : State} {m : MethodId} {args : Array Value} {below : List Frame} {meth : Method} {c : Code} {E : State → Prop}
variable {D : va_G} {cs : Nat → ClassId} {q : Nat → Nat}
variable {Q : Int32 → St → Prop}
def w_X11_finds_448 (Q : Int32 → St → Prop) (K372 : Int32 → Int32 → St → Prop) (x7 : Int32) (x8 : Int32) (s0 : Int32) (s1 : Int32) (σ : St) : Prop := vp_in x7 8 ∧ (vp_in (σ.1 27 x7.toNatClampNeg) 20 ∧ (∀ σ_1 : St, σ_1 = wr σ 15 (σ.1 27 x7.toNatClampNeg).toNatClampNeg x8 → (K372 (s0 + s1) (x7 + 1) σ_1)))
set_option maxHeartbeats 4000000 in
set_option maxRecDepth 100000 in
theorem b_X11_finds_448 (C : CX p R s m args meth c cX11_finds 14 RX11 5 118 D cs) (hE : RI p l e R s m args below meth c cX11_finds D cs LM q .int Q E) {K372 : Int32 → Int32 → St → Prop} (hK372 : ∀ (x6 : Int32) (x7 : Int32) (σ : St) (H : Heap) (locs : List Loc) (ls : Array Slot), OK D cs LM q s σ H locs → lv_has ls 14 [(0, .ref (q 0)), (6, .int x6), (7, .int x7)] → K372 x6 x7 σ → W p l e R s m args below meth c H locs 0 0 E (F0 m 372 ls [])) : ∀ (x7 : Int32) (x8 : Int32) (s0 : Int32) (s1 : Int32) (σ : St) (H : Heap) (locs : List Loc) (ls : Array Slot), OK D cs LM q s σ H locs → lv_has ls 14 [(0, .ref (q 0)), (7, .int x7), (8, .int x8)] → w_X11_finds_448 Q K372 x7 x8 s0 s1 σ → W p l e R s m args below meth c H locs 0 0 E (F0 m 448 ls [.int s1, .int s0]) := by
  have hx := C.1
  have hb := C.2.1
  intro x7 x8 s0 s1 σ H locs ls O hl hf
  unfold w_X11_finds_448 at hf
  refine lv_iadd hx hb dX11_finds_448 ?_
  refine lv_istore (lv' := [(6, .int (s0 + s1)), (0, .ref (q 0)), (7, .int x7), (8, .int x8)]) hx hb dX11_finds_449 hl (by decide) rfl (fun ls hl => ?_)
  refine lv_aload_n hx hb dX11_finds_451 rfl (lv_at hl 1 rfl) ?_
  refine r_get C O (k := 0) (j := 20) (v := .ref (q 15)) fX11_54 rfl rfl rfl dX11_finds_452 ?_
  refine lv_aload_n hx hb dX11_finds_455 rfl (lv_at hl 1 rfl) ?_
  refine r_get C O (k := 0) (j := 35) (v := .ref (q 27)) fX11_90 rfl rfl rfl dX11_finds_456 ?_
  refine lv_iload hx hb dX11_finds_459 (lv_at hl 2 rfl) ?_
  refine r_iald C O (k := 27) rfl hf.1 dX11_finds_461 ?_
  have hf := hf.2
  refine lv_iload hx hb dX11_finds_462 (lv_at hl 3 rfl) ?_
  refine r_iast C O (k := 15) rfl hf.1 dX11_finds_464 (fun H locs σ_1 eσ_1 O => ?_)
  have hf := hf.2 σ_1 eσ_1
  refine lv_iinc (v := x7 + 1) (lv' := [(7, .int (x7 + 1)), (6, .int (s0 + s1)), (0, .ref (q 0)), (8, .int x8)]) hx hb dX11_finds_465 hl (k := 2) rfl rfl (by decide) rfl (fun ls hl => ?_)
  refine lv_goto (tgt := 372) hx hb dX11_finds_468 (by decide) ?_
  exact hK372 (s0 + s1) (x7 + 1) σ_1 _ _ ls O (lv_sub hl [2, 1, 0] rfl) hf
def w_X11_finds_447 (Q : Int32 → St → Prop) (K372 : Int32 → Int32 → St → Prop) (x7 : Int32) (x8 : Int32) (s0 : Int32) (σ : St) : Prop := w_X11_finds_448 Q K372 x7 x8 s0 0 σ
set_option maxHeartbeats 4000000 in
set_option maxRecDepth 100000 in
theorem b_X11_finds_447 (C : CX p R s m args meth c cX11_finds 14 RX11 5 118 D cs) (hE : RI p l e R s m args below meth c cX11_finds D cs LM q .int Q E) {K372 : Int32 → Int32 → St → Prop} (hK372 : ∀ (x6 : Int32) (x7 : Int32) (σ : St) (H : Heap) (locs : List Loc) (ls : Array Slot), OK D cs LM q s σ H locs → lv_has ls 14 [(0, .ref (q 0)), (6, .int x6), (7, .int x7)] → K372 x6 x7 σ → W p l e R s m args below meth c H locs 0 0 E (F0 m 372 ls [])) : ∀ (x7 : Int32) (x8 : Int32) (s0 : Int32) (σ : St) (H : Heap) (locs : List Loc) (ls : Array Slot), OK D cs LM q s σ H locs → lv_has ls 14 [(0, .ref (q 0)), (7, .int x7), (8, .int x8)] → w_X11_finds_447 Q K372 x7 x8 s0 σ → W p l e R s m args below meth c H locs 0 0 E (F0 m 447 ls [.int s0]) := by
  have hx := C.1
  have hb := C.2.1
  intro x7 x8 s0 σ H locs ls O hl hf
  unfold w_X11_finds_447 at hf
  refine lv_iconst (v := 0) hx hb dX11_finds_447 (by decide) ?_
  exact b_X11_finds_448 C hE hK372 x7 x8 s0 0 σ _ _ ls O (lv_sub hl [0, 1, 2] rfl) hf
def w_X11_finds_406 (Q : Int32 → St → Prop) (K372 : Int32 → Int32 → St → Prop) (x6 : Int32) (x7 : Int32) (s0 : Int32) (σ : St) : Prop := vp_in x7 8 ∧ (vp_in (σ.1 27 x7.toNatClampNeg) 20 ∧ (((σ.1 15 (σ.1 27 x7.toNatClampNeg).toNatClampNeg) = ((-1)) → (w_X11_finds_447 Q K372 x7 s0 x6 σ)) ∧ (¬ (σ.1 15 (σ.1 27 x7.toNatClampNeg).toNatClampNeg) = ((-1)) → (vp_in x7 8 ∧ (vp_in (σ.1 27 x7.toNatClampNeg) 20 ∧ (((σ.1 15 (σ.1 27 x7.toNatClampNeg).toNatClampNeg) = s0 → (w_X11_finds_447 Q K372 x7 s0 x6 σ)) ∧ (¬ (σ.1 15 (σ.1 27 x7.toNatClampNeg).toNatClampNeg) = s0 → (w_X11_finds_448 Q K372 x7 s0 x6 1 σ))))))))
set_option maxHeartbeats 4000000 in
set_option maxRecDepth 100000 in
theorem b_X11_finds_406 (C : CX p R s m args meth c cX11_finds 14 RX11 5 118 D cs) (hE : RI p l e R s m args below meth c cX11_finds D cs LM q .int Q E) {K372 : Int32 → Int32 → St → Prop} (hK372 : ∀ (x6 : Int32) (x7 : Int32) (σ : St) (H : Heap) (locs : List Loc) (ls : Array Slot), OK D cs LM q s σ H locs → lv_has ls 14 [(0, .ref (q 0)), (6, .int x6), (7, .int x7)] → K372 x6 x7 σ → W p l e R s m args below meth c H locs 0 0 E (F0 m 372 ls [])) : ∀ (x6 : Int32) (x7 : Int32) (s0 : Int32) (σ : St) (H : Heap) (locs : List Loc) (ls : Array Slot), OK D cs LM q s σ H locs → lv_has ls 14 [(0, .ref (q 0)), (6, .int x6), (7, .int x7)] → w_X11_finds_406 Q K372 x6 x7 s0 σ → W p l e R s m args below meth c H locs 0 0 E (F0 m 406 ls [.int s0]) := by
  have hx := C.1
  have hb := C.2.1
  intro x6 x7 s0 σ H locs ls O hl hf
  unfold w_X11_finds_406 at hf
  refine lv_istore (lv' := [(8, .int s0), (0, .ref (q 0)), (6, .int x6), (7, .int x7)]) hx hb dX11_finds_406 hl (by decide) rfl (fun ls hl => ?_)
  refine lv_iload hx hb dX11_finds_408 (lv_at hl 2 rfl) ?_
  refine lv_aload_n hx hb dX11_finds_410 rfl (lv_at hl 1 rfl) ?_
  refine r_get C O (k := 0) (j := 20) (v := .ref (q 15)) fX11_54 rfl rfl rfl dX11_finds_411 ?_
  refine lv_aload_n hx hb dX11_finds_414 rfl (lv_at hl 1 rfl) ?_
  refine r_get C O (k := 0) (j := 35) (v := .ref (q 27)) fX11_90 rfl rfl rfl dX11_finds_415 ?_
  refine lv_iload hx hb dX11_finds_418 (lv_at hl 3 rfl) ?_
  refine r_iald C O (k := 27) rfl hf.1 dX11_finds_420 ?_
  have hf := hf.2
  refine r_iald C O (k := 15) rfl hf.1 dX11_finds_421 ?_
  have hf := hf.2
  refine lv_iconst (v := (-1)) hx hb dX11_finds_422 (by decide) ?_
  refine lv_icmp_eq (tgt := 447) hx hb dX11_finds_423 (by decide) (fun c_1 => ?_) (fun c_1 => ?_)
  · have hf := hf.1 c_1
    exact b_X11_finds_447 C hE hK372 x7 s0 x6 σ _ _ ls O (lv_sub hl [1, 3, 0] rfl) hf
  · have hf := hf.2 c_1
    refine lv_aload_n hx hb dX11_finds_426 rfl (lv_at hl 1 rfl) ?_
    refine r_get C O (k := 0) (j := 20) (v := .ref (q 15)) fX11_54 rfl rfl rfl dX11_finds_427 ?_
    refine lv_aload_n hx hb dX11_finds_430 rfl (lv_at hl 1 rfl) ?_
    refine r_get C O (k := 0) (j := 35) (v := .ref (q 27)) fX11_90 rfl rfl rfl dX11_finds_431 ?_
    refine lv_iload hx hb dX11_finds_434 (lv_at hl 3 rfl) ?_
    refine r_iald C O (k := 27) rfl hf.1 dX11_finds_436 ?_
    have hf := hf.2
    refine r_iald C O (k := 15) rfl hf.1 dX11_finds_437 ?_
    have hf := hf.2
    refine lv_iload hx hb dX11_finds_438 (lv_at hl 0 rfl) ?_
    refine lv_icmp_eq (tgt := 447) hx hb dX11_finds_440 (by decide) (fun c_2 => ?_) (fun c_2 => ?_)
    · have hf := hf.1 c_2
      exact b_X11_finds_447 C hE hK372 x7 s0 x6 σ _ _ ls O (lv_sub hl [1, 3, 0] rfl) hf
    · have hf := hf.2 c_2
      refine lv_iconst (v := 1) hx hb dX11_finds_443 (by decide) ?_
      refine lv_goto (tgt := 448) hx hb dX11_finds_444 (by decide) ?_
      exact b_X11_finds_448 C hE hK372 x7 s0 x6 1 σ _ _ ls O (lv_sub hl [1, 3, 0] rfl) hf
def w_X11_finds_372 (Q : Int32 → St → Prop) : Nat → Int32 → Int32 → St → Prop
  | 0, _, _, _ => False
  | n + 1, x6, x7, σ => ((σ.1 0 34) ≤ x7 → (w_X11_breaks σ (fun σ_2 => Q x6 σ_2))) ∧ (¬ (σ.1 0 34) ≤ x7 → (vp_in x7 8 ∧ ((¬ (σ.1 36 x7.toNatClampNeg) = (σ.1 0 9) → (vp_in x7 8 ∧ (w_X11_finds_406 Q (fun x6 x7 σ => w_X11_finds_372 Q n x6 x7 σ) x6 x7 (σ.1 36 x7.toNatClampNeg) σ))) ∧ ((σ.1 36 x7.toNatClampNeg) = (σ.1 0 9) → (w_X11_finds_406 Q (fun x6 x7 σ => w_X11_finds_372 Q n x6 x7 σ) x6 x7 ((-1)) σ)))))
set_option maxHeartbeats 4000000 in
set_option maxRecDepth 100000 in
theorem b_X11_finds_372 (C : CX p R s m args meth c cX11_finds 14 RX11 5 118 D cs) (hE : RI p l e R s m args below meth c cX11_finds D cs LM q .int Q E) : ∀ n : Nat, ∀ (x6 : Int32) (x7 : Int32) (σ : St) (H : Heap) (locs : List Loc) (ls : Array Slot), OK D cs LM q s σ H locs → lv_has ls 14 [(0, .ref (q 0)), (6, .int x6), (7, .int x7)] → w_X11_finds_372 Q n x6 x7 σ → W p l e R s m args below meth c H locs 0 0 E (F0 m 372 ls []) := by
  have hx := C.1
  have hb := C.2.1
  intro n
  induction n with
  | zero => intro x6 x7 σ H locs ls O hl hf; exact hf.elim
  | succ n ih =>
    intro x6 x7 σ H locs ls O hl hf
    unfold w_X11_finds_372 at hf
    refine lv_iload hx hb dX11_finds_372 (lv_at hl 2 rfl) ?_
    refine lv_aload_n hx hb dX11_finds_374 rfl (lv_at hl 0 rfl) ?_
    refine r_get C O (k := 0) (j := 34) (v := .int (σ.1 0 34)) fX11_188 rfl rfl rfl dX11_finds_375 ?_
    refine lv_icmp_ge (tgt := 471) hx hb dX11_finds_378 (by decide) (fun c_1 => ?_) (fun c_1 => ?_)
    · have hf := hf.1 c_1
      refine lv_aload_n hx hb dX11_finds_471 rfl (lv_at hl 0 rfl) ?_
      refine r_callV C O hl (c_X11_breaks l) mX11_176 (by decide) rfl rfl rfl rfl (Nat.le_of_ble_eq_true rfl) hf dX11_finds_472 (fun σ_2 H locs O hf => ?_)
      refine lv_iload hx hb dX11_finds_475 (lv_at hl 1 rfl) ?_
      exact hE _ _ _ _ _ _ (vp_nar_int _) O hf dX11_finds_477
    · have hf := hf.2 c_1
      refine lv_aload_n hx hb dX11_finds_381 rfl (lv_at hl 0 rfl) ?_
      refine r_get C O (k := 0) (j := 45) (v := .ref (q 36)) fX11_117 rfl rfl rfl dX11_finds_382 ?_
      refine lv_iload hx hb dX11_finds_385 (lv_at hl 2 rfl) ?_
      refine r_iald C O (k := 36) rfl hf.1 dX11_finds_387 ?_
      have hf := hf.2
      refine lv_aload_n hx hb dX11_finds_388 rfl (lv_at hl 0 rfl) ?_
      refine r_get C O (k := 0) (j := 9) (v := .int (σ.1 0 9)) fX11_162 rfl rfl rfl dX11_finds_389 ?_
      refine lv_icmp_ne (tgt := 399) hx hb dX11_finds_392 (by decide) (fun c_3 => ?_) (fun c_3 => ?_)
      · have hf := hf.1 c_3
        refine lv_aload_n hx hb dX11_finds_399 rfl (lv_at hl 0 rfl) ?_
        refine r_get C O (k := 0) (j := 45) (v := .ref (q 36)) fX11_117 rfl rfl rfl dX11_finds_400 ?_
        refine lv_iload hx hb dX11_finds_403 (lv_at hl 2 rfl) ?_
        refine r_iald C O (k := 36) rfl hf.1 dX11_finds_405 ?_
        have hf := hf.2
        exact b_X11_finds_406 C hE ih x6 x7 (σ.1 36 x7.toNatClampNeg) σ _ _ ls O (lv_sub hl [0, 1, 2] rfl) hf
      · have hf := hf.2 c_3
        refine lv_iconst (v := (-1)) hx hb dX11_finds_395 (by decide) ?_
        refine lv_goto (tgt := 406) hx hb dX11_finds_396 (by decide) ?_
        exact b_X11_finds_406 C hE ih x6 x7 ((-1)) σ _ _ ls O (lv_sub hl [0, 1, 2] rfl) hf
def w_X11_finds_331 (Q : Int32 → St → Prop) (K42 : Int32 → Int32 → Int32 → Int32 → Int32 → Int32 → St → Prop) : Nat → Int32 → Int32 → Int32 → Int32 → Int32 → Int32 → Int32 → St → Prop
  | 0, _, _, _, _, _, _, _, _ => False
  | n + 1, x1, x2, x3, x4, x5, x6, x12, σ => ((σ.1 0 34) ≤ x12 → (K42 x1 x2 x3 x4 x5 (x6 + 1) σ)) ∧ (¬ (σ.1 0 34) ≤ x12 → (vp_in x12 8 ∧ (vp_in x12 8 ∧ (∀ σ_2 : St, σ_2 = wr σ 36 x12.toNatClampNeg (σ.1 35 x12.toNatClampNeg) → (w_X11_finds_331 Q K42 n x1 x2 x3 x4 x5 x6 (x12 + 1) σ_2)))))
set_option maxHeartbeats 4000000 in
set_option maxRecDepth 100000 in
theorem b_X11_finds_331 (C : CX p R s m args meth c cX11_finds 14 RX11 5 118 D cs) (hE : RI p l e R s m args below meth c cX11_finds D cs LM q .int Q E) {K42 : Int32 → Int32 → Int32 → Int32 → Int32 → Int32 → St → Prop} (hK42 : ∀ (x1 : Int32) (x2 : Int32) (x3 : Int32) (x4 : Int32) (x5 : Int32) (x6 : Int32) (σ : St) (H : Heap) (locs : List Loc) (ls : Array Slot), OK D cs LM q s σ H locs → lv_has ls 14 [(0, .ref (q 0)), (1, .int x1), (2, .int x2), (3, .int x3), (4, .int x4), (5, .int x5), (6, .int x6)] → K42 x1 x2 x3 x4 x5 x6 σ → W p l e R s m args below meth c H locs 0 0 E (F0 m 42 ls [])) : ∀ n : Nat, ∀ (x1 : Int32) (x2 : Int32) (x3 : Int32) (x4 : Int32) (x5 : Int32) (x6 : Int32) (x12 : Int32) (σ : St) (H : Heap) (locs : List Loc) (ls : Array Slot), OK D cs LM q s σ H locs → lv_has ls 14 [(0, .ref (q 0)), (1, .int x1), (2, .int x2), (3, .int x3), (4, .int x4), (5, .int x5), (6, .int x6), (12, .int x12)] → w_X11_finds_331 Q K42 n x1 x2 x3 x4 x5 x6 x12 σ → W p l e R s m args below meth c H locs 0 0 E (F0 m 331 ls []) := by
  have hx := C.1
  have hb := C.2.1
  intro n
  induction n with
  | zero => intro x1 x2 x3 x4 x5 x6 x12 σ H locs ls O hl hf; exact hf.elim
  | succ n ih =>
    intro x1 x2 x3 x4 x5 x6 x12 σ H locs ls O hl hf
    unfold w_X11_finds_331 at hf
    refine lv_iload hx hb dX11_finds_331 (lv_at hl 7 rfl) ?_
    refine lv_aload_n hx hb dX11_finds_333 rfl (lv_at hl 0 rfl) ?_
    refine r_get C O (k := 0) (j := 34) (v := .int (σ.1 0 34)) fX11_188 rfl rfl rfl dX11_finds_334 ?_
    refine lv_icmp_ge (tgt := 360) hx hb dX11_finds_337 (by decide) (fun c_1 => ?_) (fun c_1 => ?_)
    · have hf := hf.1 c_1
      refine lv_iinc (v := x6 + 1) (lv' := [(6, .int (x6 + 1)), (0, .ref (q 0)), (1, .int x1), (2, .int x2), (3, .int x3), (4, .int x4), (5, .int x5), (12, .int x12)]) hx hb dX11_finds_360 hl (k := 6) rfl rfl (by decide) rfl (fun ls hl => ?_)
      refine lv_goto (tgt := 42) hx hb dX11_finds_363 (by decide) ?_
      exact hK42 x1 x2 x3 x4 x5 (x6 + 1) σ _ _ ls O (lv_sub hl [1, 2, 3, 4, 5, 6, 0] rfl) hf
    · have hf := hf.2 c_1
      refine lv_aload_n hx hb dX11_finds_340 rfl (lv_at hl 0 rfl) ?_
      refine r_get C O (k := 0) (j := 45) (v := .ref (q 36)) fX11_117 rfl rfl rfl dX11_finds_341 ?_
      refine lv_iload hx hb dX11_finds_344 (lv_at hl 7 rfl) ?_
      refine lv_aload_n hx hb dX11_finds_346 rfl (lv_at hl 0 rfl) ?_
      refine r_get C O (k := 0) (j := 44) (v := .ref (q 35)) fX11_114 rfl rfl rfl dX11_finds_347 ?_
      refine lv_iload hx hb dX11_finds_350 (lv_at hl 7 rfl) ?_
      refine r_iald C O (k := 35) rfl hf.1 dX11_finds_352 ?_
      have hf := hf.2
      refine r_iast C O (k := 36) rfl hf.1 dX11_finds_353 (fun H locs σ_2 eσ_2 O => ?_)
      have hf := hf.2 σ_2 eσ_2
      refine lv_iinc (v := x12 + 1) (lv' := [(12, .int (x12 + 1)), (0, .ref (q 0)), (1, .int x1), (2, .int x2), (3, .int x3), (4, .int x4), (5, .int x5), (6, .int x6)]) hx hb dX11_finds_354 hl (k := 7) rfl rfl (by decide) rfl (fun ls hl => ?_)
      refine lv_goto (tgt := 331) hx hb dX11_finds_357 (by decide) ?_
      exact ih x1 x2 x3 x4 x5 x6 (x12 + 1) σ_2 _ _ ls O (lv_sub hl [1, 2, 3, 4, 5, 6, 7, 0] rfl) hf
def w_X11_finds_317 (Q : Int32 → St → Prop) (K42 : Int32 → Int32 → Int32 → Int32 → Int32 → Int32 → St → Prop) (x1 : Int32) (x2 : Int32) (x6 : Int32) (x8 : Int32) (x9 : Int32) (x10 : Int32) (σ : St) : Prop := ∃ nn : Nat, w_X11_finds_331 Q K42 nn x1 x2 x8 x9 x10 x6 0 σ
set_option maxHeartbeats 4000000 in
set_option maxRecDepth 100000 in
theorem b_X11_finds_317 (C : CX p R s m args meth c cX11_finds 14 RX11 5 118 D cs) (hE : RI p l e R s m args below meth c cX11_finds D cs LM q .int Q E) {K42 : Int32 → Int32 → Int32 → Int32 → Int32 → Int32 → St → Prop} (hK42 : ∀ (x1 : Int32) (x2 : Int32) (x3 : Int32) (x4 : Int32) (x5 : Int32) (x6 : Int32) (σ : St) (H : Heap) (locs : List Loc) (ls : Array Slot), OK D cs LM q s σ H locs → lv_has ls 14 [(0, .ref (q 0)), (1, .int x1), (2, .int x2), (3, .int x3), (4, .int x4), (5, .int x5), (6, .int x6)] → K42 x1 x2 x3 x4 x5 x6 σ → W p l e R s m args below meth c H locs 0 0 E (F0 m 42 ls [])) : ∀ (x1 : Int32) (x2 : Int32) (x6 : Int32) (x8 : Int32) (x9 : Int32) (x10 : Int32) (σ : St) (H : Heap) (locs : List Loc) (ls : Array Slot), OK D cs LM q s σ H locs → lv_has ls 14 [(0, .ref (q 0)), (1, .int x1), (2, .int x2), (6, .int x6), (8, .int x8), (9, .int x9), (10, .int x10)] → w_X11_finds_317 Q K42 x1 x2 x6 x8 x9 x10 σ → W p l e R s m args below meth c H locs 0 0 E (F0 m 317 ls []) := by
  have hx := C.1
  have hb := C.2.1
  intro x1 x2 x6 x8 x9 x10 σ H locs ls O hl hf
  unfold w_X11_finds_317 at hf
  refine lv_iload hx hb dX11_finds_317 (lv_at hl 4 rfl) ?_
  refine lv_istore_n (lv' := [(3, .int x8), (0, .ref (q 0)), (1, .int x1), (2, .int x2), (6, .int x6), (8, .int x8), (9, .int x9), (10, .int x10)]) hx hb dX11_finds_319 rfl hl (by decide) rfl (fun ls hl => ?_)
  refine lv_iload hx hb dX11_finds_320 (lv_at hl 6 rfl) ?_
  refine lv_istore (lv' := [(4, .int x9), (3, .int x8), (0, .ref (q 0)), (1, .int x1), (2, .int x2), (6, .int x6), (8, .int x8), (9, .int x9), (10, .int x10)]) hx hb dX11_finds_322 hl (by decide) rfl (fun ls hl => ?_)
  refine lv_iload hx hb dX11_finds_324 (lv_at hl 8 rfl) ?_
  refine lv_istore (lv' := [(5, .int x10), (4, .int x9), (3, .int x8), (0, .ref (q 0)), (1, .int x1), (2, .int x2), (6, .int x6), (8, .int x8), (9, .int x9), (10, .int x10)]) hx hb dX11_finds_326 hl (by decide) rfl (fun ls hl => ?_)
  refine lv_iconst (v := 0) hx hb dX11_finds_328 (by decide) ?_
  refine lv_istore (lv' := [(12, .int 0), (5, .int x10), (4, .int x9), (3, .int x8), (0, .ref (q 0)), (1, .int x1), (2, .int x2), (6, .int x6), (8, .int x8), (9, .int x9), (10, .int x10)]) hx hb dX11_finds_329 hl (by decide) rfl (fun ls hl => ?_)
  obtain ⟨nn, hf⟩ := hf
  exact b_X11_finds_331 C hE hK42 nn x1 x2 x8 x9 x10 x6 0 σ _ _ ls O (lv_sub hl [4, 5, 6, 3, 2, 1, 7, 0] rfl) hf
def w_X11_finds_261 (Q : Int32 → St → Prop) (K42 : Int32 → Int32 → Int32 → Int32 → Int32 → Int32 → St → Prop) (K215 : Int32 → Int32 → Int32 → Int32 → Int32 → Int32 → Int32 → Int32 → Int32 → Int32 → Int32 → St → Prop) (x1 : Int32) (x2 : Int32) (x3 : Int32) (x4 : Int32) (x5 : Int32) (x6 : Int32) (x8 : Int32) (x9 : Int32) (x10 : Int32) (x12 : Int32) (x13 : Int32) (s0 : Int32) (σ : St) : Prop := K215 x1 x2 x3 x4 x5 x6 x8 x9 (x10 + x13) s0 (x12 + 1) σ
set_option maxHeartbeats 4000000 in
set_option maxRecDepth 100000 in
theorem b_X11_finds_261 (C : CX p R s m args meth c cX11_finds 14 RX11 5 118 D cs) (hE : RI p l e R s m args below meth c cX11_finds D cs LM q .int Q E) {K42 : Int32 → Int32 → Int32 → Int32 → Int32 → Int32 → St → Prop} (hK42 : ∀ (x1 : Int32) (x2 : Int32) (x3 : Int32) (x4 : Int32) (x5 : Int32) (x6 : Int32) (σ : St) (H : Heap) (locs : List Loc) (ls : Array Slot), OK D cs LM q s σ H locs → lv_has ls 14 [(0, .ref (q 0)), (1, .int x1), (2, .int x2), (3, .int x3), (4, .int x4), (5, .int x5), (6, .int x6)] → K42 x1 x2 x3 x4 x5 x6 σ → W p l e R s m args below meth c H locs 0 0 E (F0 m 42 ls [])) {K215 : Int32 → Int32 → Int32 → Int32 → Int32 → Int32 → Int32 → Int32 → Int32 → Int32 → Int32 → St → Prop} (hK215 : ∀ (x1 : Int32) (x2 : Int32) (x3 : Int32) (x4 : Int32) (x5 : Int32) (x6 : Int32) (x8 : Int32) (x9 : Int32) (x10 : Int32) (x11 : Int32) (x12 : Int32) (σ : St) (H : Heap) (locs : List Loc) (ls : Array Slot), OK D cs LM q s σ H locs → lv_has ls 14 [(0, .ref (q 0)), (1, .int x1), (2, .int x2), (3, .int x3), (4, .int x4), (5, .int x5), (6, .int x6), (8, .int x8), (9, .int x9), (10, .int x10), (11, .int x11), (12, .int x12)] → K215 x1 x2 x3 x4 x5 x6 x8 x9 x10 x11 x12 σ → W p l e R s m args below meth c H locs 0 0 E (F0 m 215 ls [])) : ∀ (x1 : Int32) (x2 : Int32) (x3 : Int32) (x4 : Int32) (x5 : Int32) (x6 : Int32) (x8 : Int32) (x9 : Int32) (x10 : Int32) (x12 : Int32) (x13 : Int32) (s0 : Int32) (σ : St) (H : Heap) (locs : List Loc) (ls : Array Slot), OK D cs LM q s σ H locs → lv_has ls 14 [(0, .ref (q 0)), (1, .int x1), (2, .int x2), (3, .int x3), (4, .int x4), (5, .int x5), (6, .int x6), (8, .int x8), (9, .int x9), (10, .int x10), (12, .int x12), (13, .int x13)] → w_X11_finds_261 Q K42 K215 x1 x2 x3 x4 x5 x6 x8 x9 x10 x12 x13 s0 σ → W p l e R s m args below meth c H locs 0 0 E (F0 m 261 ls [.int s0]) := by
  have hx := C.1
  have hb := C.2.1
  intro x1 x2 x3 x4 x5 x6 x8 x9 x10 x12 x13 s0 σ H locs ls O hl hf
  unfold w_X11_finds_261 at hf
  refine lv_istore (lv' := [(11, .int s0), (0, .ref (q 0)), (1, .int x1), (2, .int x2), (3, .int x3), (4, .int x4), (5, .int x5), (6, .int x6), (8, .int x8), (9, .int x9), (10, .int x10), (12, .int x12), (13, .int x13)]) hx hb dX11_finds_261 hl (by decide) rfl (fun ls hl => ?_)
  refine lv_iload hx hb dX11_finds_263 (lv_at hl 10 rfl) ?_
  refine lv_iload hx hb dX11_finds_265 (lv_at hl 12 rfl) ?_
  refine lv_iadd hx hb dX11_finds_267 ?_
  refine lv_istore (lv' := [(10, .int (x10 + x13)), (11, .int s0), (0, .ref (q 0)), (1, .int x1), (2, .int x2), (3, .int x3), (4, .int x4), (5, .int x5), (6, .int x6), (8, .int x8), (9, .int x9), (12, .int x12), (13, .int x13)]) hx hb dX11_finds_268 hl (by decide) rfl (fun ls hl => ?_)
  refine lv_iinc (v := x12 + 1) (lv' := [(12, .int (x12 + 1)), (10, .int (x10 + x13)), (11, .int s0), (0, .ref (q 0)), (1, .int x1), (2, .int x2), (3, .int x3), (4, .int x4), (5, .int x5), (6, .int x6), (8, .int x8), (9, .int x9), (13, .int x13)]) hx hb dX11_finds_270 hl (k := 11) rfl rfl (by decide) rfl (fun ls hl => ?_)
  refine lv_goto (tgt := 215) hx hb dX11_finds_273 (by decide) ?_
  exact hK215 x1 x2 x3 x4 x5 x6 x8 x9 (x10 + x13) s0 (x12 + 1) σ _ _ ls O (lv_sub hl [3, 4, 5, 6, 7, 8, 9, 10, 11, 1, 2, 0] rfl) hf
def w_X11_finds_260 (Q : Int32 → St → Prop) (K42 : Int32 → Int32 → Int32 → Int32 → Int32 → Int32 → St → Prop) (K215 : Int32 → Int32 → Int32 → Int32 → Int32 → Int32 → Int32 → Int32 → Int32 → Int32 → Int32 → St → Prop) (x1 : Int32) (x2 : Int32) (x3 : Int32) (x4 : Int32) (x5 : Int32) (x6 : Int32) (x8 : Int32) (x9 : Int32) (x10 : Int32) (x12 : Int32) (x13 : Int32) (σ : St) : Prop := w_X11_finds_261 Q K42 K215 x1 x2 x3 x4 x5 x6 x8 x9 x10 x12 x13 0 σ
set_option maxHeartbeats 4000000 in
set_option maxRecDepth 100000 in
theorem b_X11_finds_260 (C : CX p R s m args meth c cX11_finds 14 RX11 5 118 D cs) (hE : RI p l e R s m args below meth c cX11_finds D cs LM q .int Q E) {K42 : Int32 → Int32 → Int32 → Int32 → Int32 → Int32 → St → Prop} (hK42 : ∀ (x1 : Int32) (x2 : Int32) (x3 : Int32) (x4 : Int32) (x5 : Int32) (x6 : Int32) (σ : St) (H : Heap) (locs : List Loc) (ls : Array Slot), OK D cs LM q s σ H locs → lv_has ls 14 [(0, .ref (q 0)), (1, .int x1), (2, .int x2), (3, .int x3), (4, .int x4), (5, .int x5), (6, .int x6)] → K42 x1 x2 x3 x4 x5 x6 σ → W p l e R s m args below meth c H locs 0 0 E (F0 m 42 ls [])) {K215 : Int32 → Int32 → Int32 → Int32 → Int32 → Int32 → Int32 → Int32 → Int32 → Int32 → Int32 → St → Prop} (hK215 : ∀ (x1 : Int32) (x2 : Int32) (x3 : Int32) (x4 : Int32) (x5 : Int32) (x6 : Int32) (x8 : Int32) (x9 : Int32) (x10 : Int32) (x11 : Int32) (x12 : Int32) (σ : St) (H : Heap) (locs : List Loc) (ls : Array Slot), OK D cs LM q s σ H locs → lv_has ls 14 [(0, .ref (q 0)), (1, .int x1), (2, .int x2), (3, .int x3), (4, .int x4), (5, .int x5), (6, .int x6), (8, .int x8), (9, .int x9), (10, .int x10), (11, .int x11), (12, .int x12)] → K215 x1 x2 x3 x4 x5 x6 x8 x9 x10 x11 x12 σ → W p l e R s m args below meth c H locs 0 0 E (F0 m 215 ls [])) : ∀ (x1 : Int32) (x2 : Int32) (x3 : Int32) (x4 : Int32) (x5 : Int32) (x6 : Int32) (x8 : Int32) (x9 : Int32) (x10 : Int32) (x12 : Int32) (x13 : Int32) (σ : St) (H : Heap) (locs : List Loc) (ls : Array Slot), OK D cs LM q s σ H locs → lv_has ls 14 [(0, .ref (q 0)), (1, .int x1), (2, .int x2), (3, .int x3), (4, .int x4), (5, .int x5), (6, .int x6), (8, .int x8), (9, .int x9), (10, .int x10), (12, .int x12), (13, .int x13)] → w_X11_finds_260 Q K42 K215 x1 x2 x3 x4 x5 x6 x8 x9 x10 x12 x13 σ → W p l e R s m args below meth c H locs 0 0 E (F0 m 260 ls []) := by
  have hx := C.1
  have hb := C.2.1
  intro x1 x2 x3 x4 x5 x6 x8 x9 x10 x12 x13 σ H locs ls O hl hf
  unfold w_X11_finds_260 at hf
  refine lv_iconst (v := 0) hx hb dX11_finds_260 (by decide) ?_
  exact b_X11_finds_261 C hE hK42 hK215 x1 x2 x3 x4 x5 x6 x8 x9 x10 x12 x13 0 σ _ _ ls O (lv_sub hl [0, 1, 2, 3, 4, 5, 6, 7, 8, 9, 10, 11] rfl) hf
def w_X11_finds_215 (Q : Int32 → St → Prop) (K42 : Int32 → Int32 → Int32 → Int32 → Int32 → Int32 → St → Prop) : Nat → Int32 → Int32 → Int32 → Int32 → Int32 → Int32 → Int32 → Int32 → Int32 → Int32 → Int32 → St → Prop
  | 0, _, _, _, _, _, _, _, _, _, _, _, _ => False
  | n + 1, x1, x2, x3, x4, x5, x6, x8, x9, x10, x11, x12, σ => ((σ.1 0 9) ≤ x12 → ((x11 = 0 → (K42 x1 x2 x3 x4 x5 (x6 + 1) σ)) ∧ (¬ x11 = 0 → ((x8 < x3 → (K42 x1 x2 x3 x4 x5 (x6 + 1) σ)) ∧ (¬ x8 < x3 → ((¬ x8 = x3 → (w_X11_finds_317 Q K42 x1 x2 x6 x8 x9 x10 σ)) ∧ (x8 = x3 → ((x4 < x9 → (K42 x1 x2 x3 x4 x5 (x6 + 1) σ)) ∧ (¬ x4 < x9 → ((¬ x9 = x4 → (w_X11_finds_317 Q K42 x1 x2 x6 x8 x9 x10 σ)) ∧ (x9 = x4 → ((x10 < x5 → (w_X11_finds_317 Q K42 x1 x2 x6 x8 x9 x10 σ)) ∧ (¬ x10 < x5 → (K42 x1 x2 x3 x4 x5 (x6 + 1) σ)))))))))))))) ∧ (¬ (σ.1 0 9) ≤ x12 → (vp_in x12 4 ∧ (vp_in ((256 * x12) + (σ.1 37 x12.toNatClampNeg)) 1024 ∧ (∀ v_8 : Int32, v_8 = (σ.1 34 ((256 * x12) + (σ.1 37 x12.toNatClampNeg)).toNatClampNeg) → ((x11 = 0 → (w_X11_finds_260 Q K42 (fun x1 x2 x3 x4 x5 x6 x8 x9 x10 x11 x12 σ => w_X11_finds_215 Q K42 n x1 x2 x3 x4 x5 x6 x8 x9 x10 x11 x12 σ) x1 x2 x3 x4 x5 x6 x8 x9 x10 x12 v_8 σ)) ∧ (¬ x11 = 0 → ((v_8 = ((-1)) → (w_X11_finds_260 Q K42 (fun x1 x2 x3 x4 x5 x6 x8 x9 x10 x11 x12 σ => w_X11_finds_215 Q K42 n x1 x2 x3 x4 x5 x6 x8 x9 x10 x11 x12 σ) x1 x2 x3 x4 x5 x6 x8 x9 x10 x12 v_8 σ)) ∧ (¬ v_8 = ((-1)) → (w_X11_finds_261 Q K42 (fun x1 x2 x3 x4 x5 x6 x8 x9 x10 x11 x12 σ => w_X11_finds_215 Q K42 n x1 x2 x3 x4 x5 x6 x8 x9 x10 x11 x12 σ) x1 x2 x3 x4 x5 x6 x8 x9 x10 x12 v_8 1 σ)))))))))
set_option maxHeartbeats 4000000 in
set_option maxRecDepth 100000 in
theorem b_X11_finds_215 (C : CX p R s m args meth c cX11_finds 14 RX11 5 118 D cs) (hE : RI p l e R s m args below meth c cX11_finds D cs LM q .int Q E) {K42 : Int32 → Int32 → Int32 → Int32 → Int32 → Int32 → St → Prop} (hK42 : ∀ (x1 : Int32) (x2 : Int32) (x3 : Int32) (x4 : Int32) (x5 : Int32) (x6 : Int32) (σ : St) (H : Heap) (locs : List Loc) (ls : Array Slot), OK D cs LM q s σ H locs → lv_has ls 14 [(0, .ref (q 0)), (1, .int x1), (2, .int x2), (3, .int x3), (4, .int x4), (5, .int x5), (6, .int x6)] → K42 x1 x2 x3 x4 x5 x6 σ → W p l e R s m args below meth c H locs 0 0 E (F0 m 42 ls [])) : ∀ n : Nat, ∀ (x1 : Int32) (x2 : Int32) (x3 : Int32) (x4 : Int32) (x5 : Int32) (x6 : Int32) (x8 : Int32) (x9 : Int32) (x10 : Int32) (x11 : Int32) (x12 : Int32) (σ : St) (H : Heap) (locs : List Loc) (ls : Array Slot), OK D cs LM q s σ H locs → lv_has ls 14 [(0, .ref (q 0)), (1, .int x1), (2, .int x2), (3, .int x3), (4, .int x4), (5, .int x5), (6, .int x6), (8, .int x8), (9, .int x9), (10, .int x10), (11, .int x11), (12, .int x12)] → w_X11_finds_215 Q K42 n x1 x2 x3 x4 x5 x6 x8 x9 x10 x11 x12 σ → W p l e R s m args below meth c H locs 0 0 E (F0 m 215 ls []) := by
  have hx := C.1
  have hb := C.2.1
  intro n
  induction n with
  | zero => intro x1 x2 x3 x4 x5 x6 x8 x9 x10 x11 x12 σ H locs ls O hl hf; exact hf.elim
  | succ n ih =>
    intro x1 x2 x3 x4 x5 x6 x8 x9 x10 x11 x12 σ H locs ls O hl hf
    unfold w_X11_finds_215 at hf
    refine lv_iload hx hb dX11_finds_215 (lv_at hl 11 rfl) ?_
    refine lv_aload_n hx hb dX11_finds_217 rfl (lv_at hl 0 rfl) ?_
    refine r_get C O (k := 0) (j := 9) (v := .int (σ.1 0 9)) fX11_162 rfl rfl rfl dX11_finds_218 ?_
    refine lv_icmp_ge (tgt := 276) hx hb dX11_finds_221 (by decide) (fun c_1 => ?_) (fun c_1 => ?_)
    · have hf := hf.1 c_1
      refine lv_iload hx hb dX11_finds_276 (lv_at hl 10 rfl) ?_
      refine lv_if_eq (tgt := 360) hx hb dX11_finds_278 (by decide) (fun c_2 => ?_) (fun c_2 => ?_)
      · have hf := hf.1 c_2
        refine lv_iinc (v := x6 + 1) (lv' := [(6, .int (x6 + 1)), (0, .ref (q 0)), (1, .int x1), (2, .int x2), (3, .int x3), (4, .int x4), (5, .int x5), (8, .int x8), (9, .int x9), (10, .int x10), (11, .int x11), (12, .int x12)]) hx hb dX11_finds_360 hl (k := 6) rfl rfl (by decide) rfl (fun ls hl => ?_)
        refine lv_goto (tgt := 42) hx hb dX11_finds_363 (by decide) ?_
        exact hK42 x1 x2 x3 x4 x5 (x6 + 1) σ _ _ ls O (lv_sub hl [1, 2, 3, 4, 5, 6, 0] rfl) hf
      · have hf := hf.2 c_2
        refine lv_iload hx hb dX11_finds_281 (lv_at hl 7 rfl) ?_
        refine lv_iload_n hx hb dX11_finds_283 rfl (lv_at hl 3 rfl) ?_
        refine lv_icmp_lt (tgt := 360) hx hb dX11_finds_284 (by decide) (fun c_3 => ?_) (fun c_3 => ?_)
        · have hf := hf.1 c_3
          refine lv_iinc (v := x6 + 1) (lv' := [(6, .int (x6 + 1)), (0, .ref (q 0)), (1, .int x1), (2, .int x2), (3, .int x3), (4, .int x4), (5, .int x5), (8, .int x8), (9, .int x9), (10, .int x10), (11, .int x11), (12, .int x12)]) hx hb dX11_finds_360 hl (k := 6) rfl rfl (by decide) rfl (fun ls hl => ?_)
          refine lv_goto (tgt := 42) hx hb dX11_finds_363 (by decide) ?_
          exact hK42 x1 x2 x3 x4 x5 (x6 + 1) σ _ _ ls O (lv_sub hl [1, 2, 3, 4, 5, 6, 0] rfl) hf
        · have hf := hf.2 c_3
          refine lv_iload hx hb dX11_finds_287 (lv_at hl 7 rfl) ?_
          refine lv_iload_n hx hb dX11_finds_289 rfl (lv_at hl 3 rfl) ?_
          refine lv_icmp_ne (tgt := 317) hx hb dX11_finds_290 (by decide) (fun c_4 => ?_) (fun c_4 => ?_)
          · have hf := hf.1 c_4
            exact b_X11_finds_317 C hE hK42 x1 x2 x6 x8 x9 x10 σ _ _ ls O (lv_sub hl [0, 1, 2, 6, 7, 8, 9] rfl) hf
          · have hf := hf.2 c_4
            refine lv_iload hx hb dX11_finds_293 (lv_at hl 8 rfl) ?_
            refine lv_iload hx hb dX11_finds_295 (lv_at hl 4 rfl) ?_
            refine lv_icmp_gt (tgt := 360) hx hb dX11_finds_297 (by decide) (fun c_5 => ?_) (fun c_5 => ?_)
            · have hf := hf.1 c_5
              refine lv_iinc (v := x6 + 1) (lv' := [(6, .int (x6 + 1)), (0, .ref (q 0)), (1, .int x1), (2, .int x2), (3, .int x3), (4, .int x4), (5, .int x5), (8, .int x8), (9, .int x9), (10, .int x10), (11, .int x11), (12, .int x12)]) hx hb dX11_finds_360 hl (k := 6) rfl rfl (by decide) rfl (fun ls hl => ?_)
              refine lv_goto (tgt := 42) hx hb dX11_finds_363 (by decide) ?_
              exact hK42 x1 x2 x3 x4 x5 (x6 + 1) σ _ _ ls O (lv_sub hl [1, 2, 3, 4, 5, 6, 0] rfl) hf
            · have hf := hf.2 c_5
              refine lv_iload hx hb dX11_finds_300 (lv_at hl 8 rfl) ?_
              refine lv_iload hx hb dX11_finds_302 (lv_at hl 4 rfl) ?_
              refine lv_icmp_ne (tgt := 317) hx hb dX11_finds_304 (by decide) (fun c_6 => ?_) (fun c_6 => ?_)
              · have hf := hf.1 c_6
                exact b_X11_finds_317 C hE hK42 x1 x2 x6 x8 x9 x10 σ _ _ ls O (lv_sub hl [0, 1, 2, 6, 7, 8, 9] rfl) hf
              · have hf := hf.2 c_6
                refine lv_iload hx hb dX11_finds_307 (lv_at hl 9 rfl) ?_
                refine lv_iload hx hb dX11_finds_309 (lv_at hl 5 rfl) ?_
                refine lv_icmp_lt (tgt := 317) hx hb dX11_finds_311 (by decide) (fun c_7 => ?_) (fun c_7 => ?_)
                · have hf := hf.1 c_7
                  exact b_X11_finds_317 C hE hK42 x1 x2 x6 x8 x9 x10 σ _ _ ls O (lv_sub hl [0, 1, 2, 6, 7, 8, 9] rfl) hf
                · have hf := hf.2 c_7
                  refine lv_goto (tgt := 360) hx hb dX11_finds_314 (by decide) ?_
                  refine lv_iinc (v := x6 + 1) (lv' := [(6, .int (x6 + 1)), (0, .ref (q 0)), (1, .int x1), (2, .int x2), (3, .int x3), (4, .int x4), (5, .int x5), (8, .int x8), (9, .int x9), (10, .int x10), (11, .int x11), (12, .int x12)]) hx hb dX11_finds_360 hl (k := 6) rfl rfl (by decide) rfl (fun ls hl => ?_)
                  refine lv_goto (tgt := 42) hx hb dX11_finds_363 (by decide) ?_
                  exact hK42 x1 x2 x3 x4 x5 (x6 + 1) σ _ _ ls O (lv_sub hl [1, 2, 3, 4, 5, 6, 0] rfl) hf
    · have hf := hf.2 c_1
      refine lv_aload_n hx hb dX11_finds_224 rfl (lv_at hl 0 rfl) ?_
      refine r_get C O (k := 0) (j := 43) (v := .ref (q 34)) fX11_111 rfl rfl rfl dX11_finds_225 ?_
      refine lv_sipush (v := 256) hx hb dX11_finds_228 (by decide) ?_
      refine lv_iload hx hb dX11_finds_231 (lv_at hl 11 rfl) ?_
      refine lv_imul hx hb dX11_finds_233 ?_
      refine lv_aload_n hx hb dX11_finds_234 rfl (lv_at hl 0 rfl) ?_
      refine r_get C O (k := 0) (j := 46) (v := .ref (q 37)) fX11_120 rfl rfl rfl dX11_finds_235 ?_
      refine lv_iload hx hb dX11_finds_238 (lv_at hl 11 rfl) ?_
      refine r_iald C O (k := 37) rfl hf.1 dX11_finds_240 ?_
      have hf := hf.2
      refine lv_iadd hx hb dX11_finds_241 ?_
      refine r_iald C O (k := 34) rfl hf.1 dX11_finds_242 ?_
      have hf := hf.2
      refine lv_topi (fun v_8 ev_8 => ?_)
      have hf := hf v_8 ev_8
      refine lv_istore (lv' := [(13, .int v_8), (0, .ref (q 0)), (1, .int x1), (2, .int x2), (3, .int x3), (4, .int x4), (5, .int x5), (6, .int x6), (8, .int x8), (9, .int x9), (10, .int x10), (11, .int x11), (12, .int x12)]) hx hb dX11_finds_243 hl (by decide) rfl (fun ls hl => ?_)
      refine lv_iload hx hb dX11_finds_245 (lv_at hl 11 rfl) ?_
      refine lv_if_eq (tgt := 260) hx hb dX11_finds_247 (by decide) (fun c_9 => ?_) (fun c_9 => ?_)
      · have hf := hf.1 c_9
        exact b_X11_finds_260 C hE hK42 ih x1 x2 x3 x4 x5 x6 x8 x9 x10 x12 v_8 σ _ _ ls O (lv_sub hl [1, 2, 3, 4, 5, 6, 7, 8, 9, 10, 12, 0] rfl) hf
      · have hf := hf.2 c_9
        refine lv_iload hx hb dX11_finds_250 (lv_at hl 0 rfl) ?_
        refine lv_iconst (v := (-1)) hx hb dX11_finds_252 (by decide) ?_
        refine lv_icmp_eq (tgt := 260) hx hb dX11_finds_253 (by decide) (fun c_10 => ?_) (fun c_10 => ?_)
        · have hf := hf.1 c_10
          exact b_X11_finds_260 C hE hK42 ih x1 x2 x3 x4 x5 x6 x8 x9 x10 x12 v_8 σ _ _ ls O (lv_sub hl [1, 2, 3, 4, 5, 6, 7, 8, 9, 10, 12, 0] rfl) hf
        · have hf := hf.2 c_10
          refine lv_iconst (v := 1) hx hb dX11_finds_256 (by decide) ?_
          refine lv_goto (tgt := 261) hx hb dX11_finds_257 (by decide) ?_
          exact b_X11_finds_261 C hE hK42 ih x1 x2 x3 x4 x5 x6 x8 x9 x10 x12 v_8 1 σ _ _ ls O (lv_sub hl [1, 2, 3, 4, 5, 6, 7, 8, 9, 10, 12, 0] rfl) hf
def w_X11_finds_181 (Q : Int32 → St → Prop) (K42 : Int32 → Int32 → Int32 → Int32 → Int32 → Int32 → St → Prop) (K95 : Int32 → Int32 → Int32 → Int32 → Int32 → Int32 → Int32 → Int32 → Int32 → Int32 → Int32 → St → Prop) (x1 : Int32) (x2 : Int32) (x3 : Int32) (x4 : Int32) (x5 : Int32) (x6 : Int32) (x7 : Int32) (x9 : Int32) (x10 : Int32) (x11 : Int32) (s0 : Int32) (s1 : Int32) (σ : St) : Prop := (x1 = 0 → (K95 x1 x2 x3 x4 x5 x6 x7 (s0 + s1) (x9 + 0) x10 (x11 + (-1)) σ)) ∧ (¬ x1 = 0 → (w_X11_isMoved x11 σ (fun r_3 σ_2 => K95 x1 x2 x3 x4 x5 x6 x7 (s0 + s1) (x9 + r_3) x10 (x11 + (-1)) σ_2)))
set_option maxHeartbeats 4000000 in
set_option maxRecDepth 100000 in
theorem b_X11_finds_181 (C : CX p R s m args meth c cX11_finds 14 RX11 5 118 D cs) (hE : RI p l e R s m args below meth c cX11_finds D cs LM q .int Q E) {K42 : Int32 → Int32 → Int32 → Int32 → Int32 → Int32 → St → Prop} (hK42 : ∀ (x1 : Int32) (x2 : Int32) (x3 : Int32) (x4 : Int32) (x5 : Int32) (x6 : Int32) (σ : St) (H : Heap) (locs : List Loc) (ls : Array Slot), OK D cs LM q s σ H locs → lv_has ls 14 [(0, .ref (q 0)), (1, .int x1), (2, .int x2), (3, .int x3), (4, .int x4), (5, .int x5), (6, .int x6)] → K42 x1 x2 x3 x4 x5 x6 σ → W p l e R s m args below meth c H locs 0 0 E (F0 m 42 ls [])) {K95 : Int32 → Int32 → Int32 → Int32 → Int32 → Int32 → Int32 → Int32 → Int32 → Int32 → Int32 → St → Prop} (hK95 : ∀ (x1 : Int32) (x2 : Int32) (x3 : Int32) (x4 : Int32) (x5 : Int32) (x6 : Int32) (x7 : Int32) (x8 : Int32) (x9 : Int32) (x10 : Int32) (x11 : Int32) (σ : St) (H : Heap) (locs : List Loc) (ls : Array Slot), OK D cs LM q s σ H locs → lv_has ls 14 [(0, .ref (q 0)), (1, .int x1), (2, .int x2), (3, .int x3), (4, .int x4), (5, .int x5), (6, .int x6), (7, .int x7), (8, .int x8), (9, .int x9), (10, .int x10), (11, .int x11)] → K95 x1 x2 x3 x4 x5 x6 x7 x8 x9 x10 x11 σ → W p l e R s m args below meth c H locs 0 0 E (F0 m 95 ls [])) : ∀ (x1 : Int32) (x2 : Int32) (x3 : Int32) (x4 : Int32) (x5 : Int32) (x6 : Int32) (x7 : Int32) (x9 : Int32) (x10 : Int32) (x11 : Int32) (s0 : Int32) (s1 : Int32) (σ : St) (H : Heap) (locs : List Loc) (ls : Array Slot), OK D cs LM q s σ H locs → lv_has ls 14 [(0, .ref (q 0)), (1, .int x1), (2, .int x2), (3, .int x3), (4, .int x4), (5, .int x5), (6, .int x6), (7, .int x7), (9, .int x9), (10, .int x10), (11, .int x11)] → w_X11_finds_181 Q K42 K95 x1 x2 x3 x4 x5 x6 x7 x9 x10 x11 s0 s1 σ → W p l e R s m args below meth c H locs 0 0 E (F0 m 181 ls [.int s1, .int s0]) := by
  have hx := C.1
  have hb := C.2.1
  intro x1 x2 x3 x4 x5 x6 x7 x9 x10 x11 s0 s1 σ H locs ls O hl hf
  unfold w_X11_finds_181 at hf
  refine lv_iadd hx hb dX11_finds_181 ?_
  refine lv_istore (lv' := [(8, .int (s0 + s1)), (0, .ref (q 0)), (1, .int x1), (2, .int x2), (3, .int x3), (4, .int x4), (5, .int x5), (6, .int x6), (7, .int x7), (9, .int x9), (10, .int x10), (11, .int x11)]) hx hb dX11_finds_182 hl (by decide) rfl (fun ls hl => ?_)
  refine lv_iload hx hb dX11_finds_184 (lv_at hl 9 rfl) ?_
  refine lv_iload_n hx hb dX11_finds_186 rfl (lv_at hl 2 rfl) ?_
  refine lv_if_eq (tgt := 199) hx hb dX11_finds_187 (by decide) (fun c_1 => ?_) (fun c_1 => ?_)
  · have hf := hf.1 c_1
    refine lv_iconst (v := 0) hx hb dX11_finds_199 (by decide) ?_
    refine lv_iadd hx hb dX11_finds_200 ?_
    refine lv_istore (lv' := [(9, .int (x9 + 0)), (8, .int (s0 + s1)), (0, .ref (q 0)), (1, .int x1), (2, .int x2), (3, .int x3), (4, .int x4), (5, .int x5), (6, .int x6), (7, .int x7), (10, .int x10), (11, .int x11)]) hx hb dX11_finds_201 hl (by decide) rfl (fun ls hl => ?_)
    refine lv_iinc (v := x11 + (-1)) (lv' := [(11, .int (x11 + (-1))), (9, .int (x9 + 0)), (8, .int (s0 + s1)), (0, .ref (q 0)), (1, .int x1), (2, .int x2), (3, .int x3), (4, .int x4), (5, .int x5), (6, .int x6), (7, .int x7), (10, .int x10)]) hx hb dX11_finds_203 hl (k := 11) rfl rfl (by decide) rfl (fun ls hl => ?_)
    refine lv_goto (tgt := 95) hx hb dX11_finds_206 (by decide) ?_
    exact hK95 x1 x2 x3 x4 x5 x6 x7 (s0 + s1) (x9 + 0) x10 (x11 + (-1)) σ _ _ ls O (lv_sub hl [3, 4, 5, 6, 7, 8, 9, 10, 2, 1, 11, 0] rfl) hf
  · have hf := hf.2 c_1
    refine lv_aload_n hx hb dX11_finds_190 rfl (lv_at hl 1 rfl) ?_
    refine lv_iload hx hb dX11_finds_191 (lv_at hl 11 rfl) ?_
    refine r_callI C O hl (c_X11_isMoved l x11) mX11_217 (by decide) rfl rfl rfl rfl (Nat.le_of_ble_eq_true rfl) hf dX11_finds_193 (fun r_3 σ_2 H locs O hf => ?_)
    refine lv_goto (tgt := 200) hx hb dX11_finds_196 (by decide) ?_
    refine lv_iadd hx hb dX11_finds_200 ?_
    refine lv_istore (lv' := [(9, .int (x9 + r_3)), (8, .int (s0 + s1)), (0, .ref (q 0)), (1, .int x1), (2, .int x2), (3, .int x3), (4, .int x4), (5, .int x5), (6, .int x6), (7, .int x7), (10, .int x10), (11, .int x11)]) hx hb dX11_finds_201 hl (by decide) rfl (fun ls hl => ?_)
    refine lv_iinc (v := x11 + (-1)) (lv' := [(11, .int (x11 + (-1))), (9, .int (x9 + r_3)), (8, .int (s0 + s1)), (0, .ref (q 0)), (1, .int x1), (2, .int x2), (3, .int x3), (4, .int x4), (5, .int x5), (6, .int x6), (7, .int x7), (10, .int x10)]) hx hb dX11_finds_203 hl (k := 11) rfl rfl (by decide) rfl (fun ls hl => ?_)
    refine lv_goto (tgt := 95) hx hb dX11_finds_206 (by decide) ?_
    exact hK95 x1 x2 x3 x4 x5 x6 x7 (s0 + s1) (x9 + r_3) x10 (x11 + (-1)) σ_2 _ _ ls O (lv_sub hl [3, 4, 5, 6, 7, 8, 9, 10, 2, 1, 11, 0] rfl) hf
def w_X11_finds_160 (Q : Int32 → St → Prop) (K42 : Int32 → Int32 → Int32 → Int32 → Int32 → Int32 → St → Prop) (K95 : Int32 → Int32 → Int32 → Int32 → Int32 → Int32 → Int32 → Int32 → Int32 → Int32 → Int32 → St → Prop) (x1 : Int32) (x2 : Int32) (x3 : Int32) (x4 : Int32) (x5 : Int32) (x6 : Int32) (x7 : Int32) (x8 : Int32) (x9 : Int32) (x10 : Int32) (x11 : Int32) (σ : St) : Prop := vp_in x11 8 ∧ (((σ.1 0 9) ≤ (σ.1 35 x11.toNatClampNeg) → (w_X11_finds_181 Q K42 K95 x1 x2 x3 x4 x5 x6 x7 x9 x10 x11 x8 0 σ)) ∧ (¬ (σ.1 0 9) ≤ (σ.1 35 x11.toNatClampNeg) → (w_X11_finds_181 Q K42 K95 x1 x2 x3 x4 x5 x6 x7 x9 x10 x11 x8 1 σ)))
set_option maxHeartbeats 4000000 in
set_option maxRecDepth 100000 in
theorem b_X11_finds_160 (C : CX p R s m args meth c cX11_finds 14 RX11 5 118 D cs) (hE : RI p l e R s m args below meth c cX11_finds D cs LM q .int Q E) {K42 : Int32 → Int32 → Int32 → Int32 → Int32 → Int32 → St → Prop} (hK42 : ∀ (x1 : Int32) (x2 : Int32) (x3 : Int32) (x4 : Int32) (x5 : Int32) (x6 : Int32) (σ : St) (H : Heap) (locs : List Loc) (ls : Array Slot), OK D cs LM q s σ H locs → lv_has ls 14 [(0, .ref (q 0)), (1, .int x1), (2, .int x2), (3, .int x3), (4, .int x4), (5, .int x5), (6, .int x6)] → K42 x1 x2 x3 x4 x5 x6 σ → W p l e R s m args below meth c H locs 0 0 E (F0 m 42 ls [])) {K95 : Int32 → Int32 → Int32 → Int32 → Int32 → Int32 → Int32 → Int32 → Int32 → Int32 → Int32 → St → Prop} (hK95 : ∀ (x1 : Int32) (x2 : Int32) (x3 : Int32) (x4 : Int32) (x5 : Int32) (x6 : Int32) (x7 : Int32) (x8 : Int32) (x9 : Int32) (x10 : Int32) (x11 : Int32) (σ : St) (H : Heap) (locs : List Loc) (ls : Array Slot), OK D cs LM q s σ H locs → lv_has ls 14 [(0, .ref (q 0)), (1, .int x1), (2, .int x2), (3, .int x3), (4, .int x4), (5, .int x5), (6, .int x6), (7, .int x7), (8, .int x8), (9, .int x9), (10, .int x10), (11, .int x11)] → K95 x1 x2 x3 x4 x5 x6 x7 x8 x9 x10 x11 σ → W p l e R s m args below meth c H locs 0 0 E (F0 m 95 ls [])) : ∀ (x1 : Int32) (x2 : Int32) (x3 : Int32) (x4 : Int32) (x5 : Int32) (x6 : Int32) (x7 : Int32) (x8 : Int32) (x9 : Int32) (x10 : Int32) (x11 : Int32) (σ : St) (H : Heap) (locs : List Loc) (ls : Array Slot), OK D cs LM q s σ H locs → lv_has ls 14 [(0, .ref (q 0)), (1, .int x1), (2, .int x2), (3, .int x3), (4, .int x4), (5, .int x5), (6, .int x6), (7, .int x7), (8, .int x8), (9, .int x9), (10, .int x10), (11, .int x11)] → w_X11_finds_160 Q K42 K95 x1 x2 x3 x4 x5 x6 x7 x8 x9 x10 x11 σ → W p l e R s m args below meth c H locs 0 0 E (F0 m 160 ls []) := by
  have hx := C.1
  have hb := C.2.1
  intro x1 x2 x3 x4 x5 x6 x7 x8 x9 x10 x11 σ H locs ls O hl hf
  unfold w_X11_finds_160 at hf
  refine lv_iload hx hb dX11_finds_160 (lv_at hl 8 rfl) ?_
  refine lv_aload_n hx hb dX11_finds_162 rfl (lv_at hl 0 rfl) ?_
  refine r_get C O (k := 0) (j := 44) (v := .ref (q 35)) fX11_114 rfl rfl rfl dX11_finds_163 ?_
  refine lv_iload hx hb dX11_finds_166 (lv_at hl 11 rfl) ?_
  refine r_iald C O (k := 35) rfl hf.1 dX11_finds_168 ?_
  have hf := hf.2
  refine lv_aload_n hx hb dX11_finds_169 rfl (lv_at hl 0 rfl) ?_
  refine r_get C O (k := 0) (j := 9) (v := .int (σ.1 0 9)) fX11_162 rfl rfl rfl dX11_finds_170 ?_
  refine lv_icmp_ge (tgt := 180) hx hb dX11_finds_173 (by decide) (fun c_1 => ?_) (fun c_1 => ?_)
  · have hf := hf.1 c_1
    refine lv_iconst (v := 0) hx hb dX11_finds_180 (by decide) ?_
    exact b_X11_finds_181 C hE hK42 hK95 x1 x2 x3 x4 x5 x6 x7 x9 x10 x11 x8 0 σ _ _ ls O (lv_sub hl [0, 1, 2, 3, 4, 5, 6, 7, 9, 10, 11] rfl) hf
  · have hf := hf.2 c_1
    refine lv_iconst (v := 1) hx hb dX11_finds_176 (by decide) ?_
    refine lv_goto (tgt := 181) hx hb dX11_finds_177 (by decide) ?_
    exact b_X11_finds_181 C hE hK42 hK95 x1 x2 x3 x4 x5 x6 x7 x9 x10 x11 x8 1 σ _ _ ls O (lv_sub hl [0, 1, 2, 3, 4, 5, 6, 7, 9, 10, 11] rfl) hf
def w_X11_finds_95 (Q : Int32 → St → Prop) (K42 : Int32 → Int32 → Int32 → Int32 → Int32 → Int32 → St → Prop) : Nat → Int32 → Int32 → Int32 → Int32 → Int32 → Int32 → Int32 → Int32 → Int32 → Int32 → Int32 → St → Prop
  | 0, _, _, _, _, _, _, _, _, _, _, _, _ => False
  | n + 1, x1, x2, x3, x4, x5, x6, x7, x8, x9, x10, x11, σ => (x11 < 0 → (∃ nn : Nat, w_X11_finds_215 Q K42 nn x1 x2 x3 x4 x5 x6 x8 x9 x10 1 0 σ)) ∧ (¬ x11 < 0 → (¬ ((σ.1 0 9) + 1) = 0 ∧ (vp_in x11 8 ∧ (∀ σ_2 : St, σ_2 = wr σ 35 x11.toNatClampNeg (x7 - x7 / ((σ.1 0 9) + 1) * ((σ.1 0 9) + 1)) → (¬ ((σ_2.1 0 9) + 1) = 0 ∧ (vp_in x11 8 ∧ (((σ_2.1 0 9) ≤ (σ_2.1 35 x11.toNatClampNeg) → (w_X11_finds_160 Q K42 (fun x1 x2 x3 x4 x5 x6 x7 x8 x9 x10 x11 σ => w_X11_finds_95 Q K42 n x1 x2 x3 x4 x5 x6 x7 x8 x9 x10 x11 σ) x1 x2 x3 x4 x5 x6 (x7 / ((σ_2.1 0 9) + 1)) x8 x9 x10 x11 σ_2)) ∧ (¬ (σ_2.1 0 9) ≤ (σ_2.1 35 x11.toNatClampNeg) → (vp_in x11 8 ∧ (vp_in (σ_2.1 35 x11.toNatClampNeg) 4 ∧ (vp_in (σ_2.1 35 x11.toNatClampNeg) 4 ∧ (∀ σ_4 : St, σ_4 = wr σ_2 37 (σ_2.1 35 x11.toNatClampNeg).toNatClampNeg ((σ_2.1 37 (σ_2.1 35 x11.toNatClampNeg).toNatClampNeg) ||| (1 <<< (x11 &&& 31))) → (w_X11_finds_160 Q K42 (fun x1 x2 x3 x4 x5 x6 x7 x8 x9 x10 x11 σ => w_X11_finds_95 Q K42 n x1 x2 x3 x4 x5 x6 x7 x8 x9 x10 x11 σ) x1 x2 x3 x4 x5 x6 (x7 / ((σ_2.1 0 9) + 1)) x8 x9 x10 x11 σ_4)))))))))))))
set_option maxHeartbeats 4000000 in
set_option maxRecDepth 100000 in
theorem b_X11_finds_95 (C : CX p R s m args meth c cX11_finds 14 RX11 5 118 D cs) (hE : RI p l e R s m args below meth c cX11_finds D cs LM q .int Q E) {K42 : Int32 → Int32 → Int32 → Int32 → Int32 → Int32 → St → Prop} (hK42 : ∀ (x1 : Int32) (x2 : Int32) (x3 : Int32) (x4 : Int32) (x5 : Int32) (x6 : Int32) (σ : St) (H : Heap) (locs : List Loc) (ls : Array Slot), OK D cs LM q s σ H locs → lv_has ls 14 [(0, .ref (q 0)), (1, .int x1), (2, .int x2), (3, .int x3), (4, .int x4), (5, .int x5), (6, .int x6)] → K42 x1 x2 x3 x4 x5 x6 σ → W p l e R s m args below meth c H locs 0 0 E (F0 m 42 ls [])) : ∀ n : Nat, ∀ (x1 : Int32) (x2 : Int32) (x3 : Int32) (x4 : Int32) (x5 : Int32) (x6 : Int32) (x7 : Int32) (x8 : Int32) (x9 : Int32) (x10 : Int32) (x11 : Int32) (σ : St) (H : Heap) (locs : List Loc) (ls : Array Slot), OK D cs LM q s σ H locs → lv_has ls 14 [(0, .ref (q 0)), (1, .int x1), (2, .int x2), (3, .int x3), (4, .int x4), (5, .int x5), (6, .int x6), (7, .int x7), (8, .int x8), (9, .int x9), (10, .int x10), (11, .int x11)] → w_X11_finds_95 Q K42 n x1 x2 x3 x4 x5 x6 x7 x8 x9 x10 x11 σ → W p l e R s m args below meth c H locs 0 0 E (F0 m 95 ls []) := by
  have hx := C.1
  have hb := C.2.1
  intro n
  induction n with
  | zero => intro x1 x2 x3 x4 x5 x6 x7 x8 x9 x10 x11 σ H locs ls O hl hf; exact hf.elim
  | succ n ih =>
    intro x1 x2 x3 x4 x5 x6 x7 x8 x9 x10 x11 σ H locs ls O hl hf
    unfold w_X11_finds_95 at hf
    refine lv_iload hx hb dX11_finds_95 (lv_at hl 11 rfl) ?_
    refine lv_if_lt (tgt := 209) hx hb dX11_finds_97 (by decide) (fun c_1 => ?_) (fun c_1 => ?_)
    · have hf := hf.1 c_1
      refine lv_iconst (v := 1) hx hb dX11_finds_209 (by decide) ?_
      refine lv_istore (lv' := [(11, .int 1), (0, .ref (q 0)), (1, .int x1), (2, .int x2), (3, .int x3), (4, .int x4), (5, .int x5), (6, .int x6), (7, .int x7), (8, .int x8), (9, .int x9), (10, .int x10)]) hx hb dX11_finds_210 hl (by decide) rfl (fun ls hl => ?_)
      refine lv_iconst (v := 0) hx hb dX11_finds_212 (by decide) ?_
      refine lv_istore (lv' := [(12, .int 0), (11, .int 1), (0, .ref (q 0)), (1, .int x1), (2, .int x2), (3, .int x3), (4, .int x4), (5, .int x5), (6, .int x6), (7, .int x7), (8, .int x8), (9, .int x9), (10, .int x10)]) hx hb dX11_finds_213 hl (by decide) rfl (fun ls hl => ?_)
      obtain ⟨nn, hf⟩ := hf
      exact b_X11_finds_215 C hE hK42 nn x1 x2 x3 x4 x5 x6 x8 x9 x10 1 0 σ _ _ ls O (lv_sub hl [2, 3, 4, 5, 6, 7, 8, 10, 11, 12, 1, 0] rfl) hf
    · have hf := hf.2 c_1
      refine lv_aload_n hx hb dX11_finds_100 rfl (lv_at hl 0 rfl) ?_
      refine r_get C O (k := 0) (j := 44) (v := .ref (q 35)) fX11_114 rfl rfl rfl dX11_finds_101 ?_
      refine lv_iload hx hb dX11_finds_104 (lv_at hl 11 rfl) ?_
      refine lv_iload hx hb dX11_finds_106 (lv_at hl 7 rfl) ?_
      refine lv_aload_n hx hb dX11_finds_108 rfl (lv_at hl 0 rfl) ?_
      refine r_get C O (k := 0) (j := 9) (v := .int (σ.1 0 9)) fX11_162 rfl rfl rfl dX11_finds_109 ?_
      refine lv_iconst (v := 1) hx hb dX11_finds_112 (by decide) ?_
      refine lv_iadd hx hb dX11_finds_113 ?_
      refine lv_irem hx hb dX11_finds_114 hf.1 ?_
      have hf := hf.2
      refine r_iast C O (k := 35) rfl hf.1 dX11_finds_115 (fun H locs σ_2 eσ_2 O => ?_)
      have hf := hf.2 σ_2 eσ_2
      refine lv_iload hx hb dX11_finds_116 (lv_at hl 7 rfl) ?_
      refine lv_aload_n hx hb dX11_finds_118 rfl (lv_at hl 0 rfl) ?_
      refine r_get C O (k := 0) (j := 9) (v := .int (σ_2.1 0 9)) fX11_162 rfl rfl rfl dX11_finds_119 ?_
      refine lv_iconst (v := 1) hx hb dX11_finds_122 (by decide) ?_
      refine lv_iadd hx hb dX11_finds_123 ?_
      refine lv_idiv hx hb dX11_finds_124 hf.1 ?_
      have hf := hf.2
      refine lv_istore (lv' := [(7, .int (x7 / ((σ_2.1 0 9) + 1))), (0, .ref (q 0)), (1, .int x1), (2, .int x2), (3, .int x3), (4, .int x4), (5, .int x5), (6, .int x6), (8, .int x8), (9, .int x9), (10, .int x10), (11, .int x11)]) hx hb dX11_finds_125 hl (by decide) rfl (fun ls hl => ?_)
      refine lv_aload_n hx hb dX11_finds_127 rfl (lv_at hl 1 rfl) ?_
      refine r_get C O (k := 0) (j := 44) (v := .ref (q 35)) fX11_114 rfl rfl rfl dX11_finds_128 ?_
      refine lv_iload hx hb dX11_finds_131 (lv_at hl 11 rfl) ?_
      refine r_iald C O (k := 35) rfl hf.1 dX11_finds_133 ?_
      have hf := hf.2
      refine lv_aload_n hx hb dX11_finds_134 rfl (lv_at hl 1 rfl) ?_
      refine r_get C O (k := 0) (j := 9) (v := .int (σ_2.1 0 9)) fX11_162 rfl rfl rfl dX11_finds_135 ?_
      refine lv_icmp_ge (tgt := 160) hx hb dX11_finds_138 (by decide) (fun c_3 => ?_) (fun c_3 => ?_)
      · have hf := hf.1 c_3
        exact b_X11_finds_160 C hE hK42 ih x1 x2 x3 x4 x5 x6 (x7 / ((σ_2.1 0 9) + 1)) x8 x9 x10 x11 σ_2 _ _ ls O (lv_sub hl [1, 2, 3, 4, 5, 6, 7, 0, 8, 9, 10, 11] rfl) hf
      · have hf := hf.2 c_3
        refine lv_aload_n hx hb dX11_finds_141 rfl (lv_at hl 1 rfl) ?_
        refine r_get C O (k := 0) (j := 46) (v := .ref (q 37)) fX11_120 rfl rfl rfl dX11_finds_142 ?_
        refine lv_aload_n hx hb dX11_finds_145 rfl (lv_at hl 1 rfl) ?_
        refine r_get C O (k := 0) (j := 44) (v := .ref (q 35)) fX11_114 rfl rfl rfl dX11_finds_146 ?_
        refine lv_iload hx hb dX11_finds_149 (lv_at hl 11 rfl) ?_
        refine r_iald C O (k := 35) rfl hf.1 dX11_finds_151 ?_
        have hf := hf.2
        refine lv_dup2_11 hx hb dX11_finds_152 rfl rfl ?_
        refine r_iald C O (k := 37) rfl hf.1 dX11_finds_153 ?_
        have hf := hf.2
        refine lv_iconst (v := 1) hx hb dX11_finds_154 (by decide) ?_
        refine lv_iload hx hb dX11_finds_155 (lv_at hl 11 rfl) ?_
        refine lv_ishl hx hb dX11_finds_157 ?_
        refine lv_ior hx hb dX11_finds_158 ?_
        refine r_iast C O (k := 37) rfl hf.1 dX11_finds_159 (fun H locs σ_4 eσ_4 O => ?_)
        have hf := hf.2 σ_4 eσ_4
        exact b_X11_finds_160 C hE hK42 ih x1 x2 x3 x4 x5 x6 (x7 / ((σ_2.1 0 9) + 1)) x8 x9 x10 x11 σ_4 _ _ ls O (lv_sub hl [1, 2, 3, 4, 5, 6, 7, 0, 8, 9, 10, 11] rfl) hf
def w_X11_finds_64 (Q : Int32 → St → Prop) (K42 : Int32 → Int32 → Int32 → Int32 → Int32 → Int32 → St → Prop) : Nat → Int32 → Int32 → Int32 → Int32 → Int32 → Int32 → Int32 → Int32 → Int32 → Int32 → Int32 → St → Prop
  | 0, _, _, _, _, _, _, _, _, _, _, _, _ => False
  | n + 1, x1, x2, x3, x4, x5, x6, x7, x8, x9, x10, x11, σ => ((σ.1 0 9) ≤ x11 → (∃ nn : Nat, w_X11_finds_95 Q K42 nn x1 x2 x3 x4 x5 x6 x7 x8 x9 x10 ((σ.1 0 34) - 1) σ)) ∧ (¬ (σ.1 0 9) ≤ x11 → (vp_in x11 4 ∧ (∀ σ_2 : St, σ_2 = wr σ 37 x11.toNatClampNeg 0 → (w_X11_finds_64 Q K42 n x1 x2 x3 x4 x5 x6 x7 x8 x9 x10 (x11 + 1) σ_2))))
set_option maxHeartbeats 4000000 in
set_option maxRecDepth 100000 in
theorem b_X11_finds_64 (C : CX p R s m args meth c cX11_finds 14 RX11 5 118 D cs) (hE : RI p l e R s m args below meth c cX11_finds D cs LM q .int Q E) {K42 : Int32 → Int32 → Int32 → Int32 → Int32 → Int32 → St → Prop} (hK42 : ∀ (x1 : Int32) (x2 : Int32) (x3 : Int32) (x4 : Int32) (x5 : Int32) (x6 : Int32) (σ : St) (H : Heap) (locs : List Loc) (ls : Array Slot), OK D cs LM q s σ H locs → lv_has ls 14 [(0, .ref (q 0)), (1, .int x1), (2, .int x2), (3, .int x3), (4, .int x4), (5, .int x5), (6, .int x6)] → K42 x1 x2 x3 x4 x5 x6 σ → W p l e R s m args below meth c H locs 0 0 E (F0 m 42 ls [])) : ∀ n : Nat, ∀ (x1 : Int32) (x2 : Int32) (x3 : Int32) (x4 : Int32) (x5 : Int32) (x6 : Int32) (x7 : Int32) (x8 : Int32) (x9 : Int32) (x10 : Int32) (x11 : Int32) (σ : St) (H : Heap) (locs : List Loc) (ls : Array Slot), OK D cs LM q s σ H locs → lv_has ls 14 [(0, .ref (q 0)), (1, .int x1), (2, .int x2), (3, .int x3), (4, .int x4), (5, .int x5), (6, .int x6), (7, .int x7), (8, .int x8), (9, .int x9), (10, .int x10), (11, .int x11)] → w_X11_finds_64 Q K42 n x1 x2 x3 x4 x5 x6 x7 x8 x9 x10 x11 σ → W p l e R s m args below meth c H locs 0 0 E (F0 m 64 ls []) := by
  have hx := C.1
  have hb := C.2.1
  intro n
  induction n with
  | zero => intro x1 x2 x3 x4 x5 x6 x7 x8 x9 x10 x11 σ H locs ls O hl hf; exact hf.elim
  | succ n ih =>
    intro x1 x2 x3 x4 x5 x6 x7 x8 x9 x10 x11 σ H locs ls O hl hf
    unfold w_X11_finds_64 at hf
    refine lv_iload hx hb dX11_finds_64 (lv_at hl 11 rfl) ?_
    refine lv_aload_n hx hb dX11_finds_66 rfl (lv_at hl 0 rfl) ?_
    refine r_get C O (k := 0) (j := 9) (v := .int (σ.1 0 9)) fX11_162 rfl rfl rfl dX11_finds_67 ?_
    refine lv_icmp_ge (tgt := 87) hx hb dX11_finds_70 (by decide) (fun c_1 => ?_) (fun c_1 => ?_)
    · have hf := hf.1 c_1
      refine lv_aload_n hx hb dX11_finds_87 rfl (lv_at hl 0 rfl) ?_
      refine r_get C O (k := 0) (j := 34) (v := .int (σ.1 0 34)) fX11_188 rfl rfl rfl dX11_finds_88 ?_
      refine lv_iconst (v := 1) hx hb dX11_finds_91 (by decide) ?_
      refine lv_isub hx hb dX11_finds_92 ?_
      refine lv_istore (lv' := [(11, .int ((σ.1 0 34) - 1)), (0, .ref (q 0)), (1, .int x1), (2, .int x2), (3, .int x3), (4, .int x4), (5, .int x5), (6, .int x6), (7, .int x7), (8, .int x8), (9, .int x9), (10, .int x10)]) hx hb dX11_finds_93 hl (by decide) rfl (fun ls hl => ?_)
      obtain ⟨nn, hf⟩ := hf
      exact b_X11_finds_95 C hE hK42 nn x1 x2 x3 x4 x5 x6 x7 x8 x9 x10 ((σ.1 0 34) - 1) σ _ _ ls O (lv_sub hl [1, 2, 3, 4, 5, 6, 7, 8, 9, 10, 11, 0] rfl) hf
    · have hf := hf.2 c_1
      refine lv_aload_n hx hb dX11_finds_73 rfl (lv_at hl 0 rfl) ?_
      refine r_get C O (k := 0) (j := 46) (v := .ref (q 37)) fX11_120 rfl rfl rfl dX11_finds_74 ?_
      refine lv_iload hx hb dX11_finds_77 (lv_at hl 11 rfl) ?_
      refine lv_iconst (v := 0) hx hb dX11_finds_79 (by decide) ?_
      refine r_iast C O (k := 37) rfl hf.1 dX11_finds_80 (fun H locs σ_2 eσ_2 O => ?_)
      have hf := hf.2 σ_2 eσ_2
      refine lv_iinc (v := x11 + 1) (lv' := [(11, .int (x11 + 1)), (0, .ref (q 0)), (1, .int x1), (2, .int x2), (3, .int x3), (4, .int x4), (5, .int x5), (6, .int x6), (7, .int x7), (8, .int x8), (9, .int x9), (10, .int x10)]) hx hb dX11_finds_81 hl (k := 11) rfl rfl (by decide) rfl (fun ls hl => ?_)
      refine lv_goto (tgt := 64) hx hb dX11_finds_84 (by decide) ?_
      exact ih x1 x2 x3 x4 x5 x6 x7 x8 x9 x10 (x11 + 1) σ_2 _ _ ls O (lv_sub hl [1, 2, 3, 4, 5, 6, 7, 8, 9, 10, 11, 0] rfl) hf
def w_X11_finds_42 (Q : Int32 → St → Prop) : Nat → Int32 → Int32 → Int32 → Int32 → Int32 → Int32 → St → Prop
  | 0, _, _, _, _, _, _, _ => False
  | n + 1, x1, x2, x3, x4, x5, x6, σ => (x2 ≤ x6 → (∃ nn : Nat, w_X11_finds_372 Q nn 0 0 σ)) ∧ (¬ x2 ≤ x6 → (∃ nn : Nat, w_X11_finds_64 Q (fun x1 x2 x3 x4 x5 x6 σ => w_X11_finds_42 Q n x1 x2 x3 x4 x5 x6 σ) nn x1 x2 x3 x4 x5 x6 x6 0 0 0 0 σ))
set_option maxHeartbeats 4000000 in
set_option maxRecDepth 100000 in
theorem b_X11_finds_42 (C : CX p R s m args meth c cX11_finds 14 RX11 5 118 D cs) (hE : RI p l e R s m args below meth c cX11_finds D cs LM q .int Q E) : ∀ n : Nat, ∀ (x1 : Int32) (x2 : Int32) (x3 : Int32) (x4 : Int32) (x5 : Int32) (x6 : Int32) (σ : St) (H : Heap) (locs : List Loc) (ls : Array Slot), OK D cs LM q s σ H locs → lv_has ls 14 [(0, .ref (q 0)), (1, .int x1), (2, .int x2), (3, .int x3), (4, .int x4), (5, .int x5), (6, .int x6)] → w_X11_finds_42 Q n x1 x2 x3 x4 x5 x6 σ → W p l e R s m args below meth c H locs 0 0 E (F0 m 42 ls []) := by
  have hx := C.1
  have hb := C.2.1
  intro n
  induction n with
  | zero => intro x1 x2 x3 x4 x5 x6 σ H locs ls O hl hf; exact hf.elim
  | succ n ih =>
    intro x1 x2 x3 x4 x5 x6 σ H locs ls O hl hf
    unfold w_X11_finds_42 at hf
    refine lv_iload hx hb dX11_finds_42 (lv_at hl 6 rfl) ?_
    refine lv_iload_n hx hb dX11_finds_44 rfl (lv_at hl 2 rfl) ?_
    refine lv_icmp_ge (tgt := 366) hx hb dX11_finds_45 (by decide) (fun c_1 => ?_) (fun c_1 => ?_)
    · have hf := hf.1 c_1
      refine lv_iconst (v := 0) hx hb dX11_finds_366 (by decide) ?_
      refine lv_istore (lv' := [(6, .int 0), (0, .ref (q 0)), (1, .int x1), (2, .int x2), (3, .int x3), (4, .int x4), (5, .int x5)]) hx hb dX11_finds_367 hl (by decide) rfl (fun ls hl => ?_)
      refine lv_iconst (v := 0) hx hb dX11_finds_369 (by decide) ?_
      refine lv_istore (lv' := [(7, .int 0), (6, .int 0), (0, .ref (q 0)), (1, .int x1), (2, .int x2), (3, .int x3), (4, .int x4), (5, .int x5)]) hx hb dX11_finds_370 hl (by decide) rfl (fun ls hl => ?_)
      obtain ⟨nn, hf⟩ := hf
      exact b_X11_finds_372 C hE nn 0 0 σ _ _ ls O (lv_sub hl [2, 1, 0] rfl) hf
    · have hf := hf.2 c_1
      refine lv_iload hx hb dX11_finds_48 (lv_at hl 6 rfl) ?_
      refine lv_istore (lv' := [(7, .int x6), (0, .ref (q 0)), (1, .int x1), (2, .int x2), (3, .int x3), (4, .int x4), (5, .int x5), (6, .int x6)]) hx hb dX11_finds_50 hl (by decide) rfl (fun ls hl => ?_)
      refine lv_iconst (v := 0) hx hb dX11_finds_52 (by decide) ?_
      refine lv_istore (lv' := [(8, .int 0), (7, .int x6), (0, .ref (q 0)), (1, .int x1), (2, .int x2), (3, .int x3), (4, .int x4), (5, .int x5), (6, .int x6)]) hx hb dX11_finds_53 hl (by decide) rfl (fun ls hl => ?_)
      refine lv_iconst (v := 0) hx hb dX11_finds_55 (by decide) ?_
      refine lv_istore (lv' := [(9, .int 0), (8, .int 0), (7, .int x6), (0, .ref (q 0)), (1, .int x1), (2, .int x2), (3, .int x3), (4, .int x4), (5, .int x5), (6, .int x6)]) hx hb dX11_finds_56 hl (by decide) rfl (fun ls hl => ?_)
      refine lv_iconst (v := 0) hx hb dX11_finds_58 (by decide) ?_
      refine lv_istore (lv' := [(10, .int 0), (9, .int 0), (8, .int 0), (7, .int x6), (0, .ref (q 0)), (1, .int x1), (2, .int x2), (3, .int x3), (4, .int x4), (5, .int x5), (6, .int x6)]) hx hb dX11_finds_59 hl (by decide) rfl (fun ls hl => ?_)
      refine lv_iconst (v := 0) hx hb dX11_finds_61 (by decide) ?_
      refine lv_istore (lv' := [(11, .int 0), (10, .int 0), (9, .int 0), (8, .int 0), (7, .int x6), (0, .ref (q 0)), (1, .int x1), (2, .int x2), (3, .int x3), (4, .int x4), (5, .int x5), (6, .int x6)]) hx hb dX11_finds_62 hl (by decide) rfl (fun ls hl => ?_)
      obtain ⟨nn, hf⟩ := hf
      exact b_X11_finds_64 C hE ih nn x1 x2 x3 x4 x5 x6 x6 0 0 0 0 σ _ _ ls O (lv_sub hl [5, 6, 7, 8, 9, 10, 11, 4, 3, 2, 1, 0] rfl) hf
def w_X11_finds_8 (Q : Int32 → St → Prop) : Nat → Int32 → Int32 → Int32 → St → Prop
  | 0, _, _, _, _ => False
  | n + 1, x1, x2, x3, σ => ((σ.1 0 34) ≤ x3 → (∃ nn : Nat, w_X11_finds_42 Q nn x1 x2 ((-1)) 0 0 0 σ)) ∧ (¬ (σ.1 0 34) ≤ x3 → (w_X11_finds_8 Q n x1 (x2 * ((σ.1 0 9) + 1)) (x3 + 1) σ))
set_option maxHeartbeats 4000000 in
set_option maxRecDepth 100000 in
theorem b_X11_finds_8 (C : CX p R s m args meth c cX11_finds 14 RX11 5 118 D cs) (hE : RI p l e R s m args below meth c cX11_finds D cs LM q .int Q E) : ∀ n : Nat, ∀ (x1 : Int32) (x2 : Int32) (x3 : Int32) (σ : St) (H : Heap) (locs : List Loc) (ls : Array Slot), OK D cs LM q s σ H locs → lv_has ls 14 [(0, .ref (q 0)), (1, .int x1), (2, .int x2), (3, .int x3)] → w_X11_finds_8 Q n x1 x2 x3 σ → W p l e R s m args below meth c H locs 0 0 E (F0 m 8 ls []) := by
  have hx := C.1
  have hb := C.2.1
  intro n
  induction n with
  | zero => intro x1 x2 x3 σ H locs ls O hl hf; exact hf.elim
  | succ n ih =>
    intro x1 x2 x3 σ H locs ls O hl hf
    unfold w_X11_finds_8 at hf
    refine lv_iload_n hx hb dX11_finds_8 rfl (lv_at hl 3 rfl) ?_
    refine lv_aload_n hx hb dX11_finds_9 rfl (lv_at hl 0 rfl) ?_
    refine r_get C O (k := 0) (j := 34) (v := .int (σ.1 0 34)) fX11_188 rfl rfl rfl dX11_finds_10 ?_
    refine lv_icmp_ge (tgt := 31) hx hb dX11_finds_13 (by decide) (fun c_1 => ?_) (fun c_1 => ?_)
    · have hf := hf.1 c_1
      refine lv_iconst (v := (-1)) hx hb dX11_finds_31 (by decide) ?_
      refine lv_istore_n (lv' := [(3, .int ((-1))), (0, .ref (q 0)), (1, .int x1), (2, .int x2)]) hx hb dX11_finds_32 rfl hl (by decide) rfl (fun ls hl => ?_)
      refine lv_iconst (v := 0) hx hb dX11_finds_33 (by decide) ?_
      refine lv_istore (lv' := [(4, .int 0), (3, .int ((-1))), (0, .ref (q 0)), (1, .int x1), (2, .int x2)]) hx hb dX11_finds_34 hl (by decide) rfl (fun ls hl => ?_)
      refine lv_iconst (v := 0) hx hb dX11_finds_36 (by decide) ?_
      refine lv_istore (lv' := [(5, .int 0), (4, .int 0), (3, .int ((-1))), (0, .ref (q 0)), (1, .int x1), (2, .int x2)]) hx hb dX11_finds_37 hl (by decide) rfl (fun ls hl => ?_)
      refine lv_iconst (v := 0) hx hb dX11_finds_39 (by decide) ?_
      refine lv_istore (lv' := [(6, .int 0), (5, .int 0), (4, .int 0), (3, .int ((-1))), (0, .ref (q 0)), (1, .int x1), (2, .int x2)]) hx hb dX11_finds_40 hl (by decide) rfl (fun ls hl => ?_)
      obtain ⟨nn, hf⟩ := hf
      exact b_X11_finds_42 C hE nn x1 x2 ((-1)) 0 0 0 σ _ _ ls O (lv_sub hl [4, 5, 6, 3, 2, 1, 0] rfl) hf
    · have hf := hf.2 c_1
      refine lv_iload_n hx hb dX11_finds_16 rfl (lv_at hl 2 rfl) ?_
      refine lv_aload_n hx hb dX11_finds_17 rfl (lv_at hl 0 rfl) ?_
      refine r_get C O (k := 0) (j := 9) (v := .int (σ.1 0 9)) fX11_162 rfl rfl rfl dX11_finds_18 ?_
      refine lv_iconst (v := 1) hx hb dX11_finds_21 (by decide) ?_
      refine lv_iadd hx hb dX11_finds_22 ?_
      refine lv_imul hx hb dX11_finds_23 ?_
      refine lv_istore_n (lv' := [(2, .int (x2 * ((σ.1 0 9) + 1))), (0, .ref (q 0)), (1, .int x1), (3, .int x3)]) hx hb dX11_finds_24 rfl hl (by decide) rfl (fun ls hl => ?_)
      refine lv_iinc (v := x3 + 1) (lv' := [(3, .int (x3 + 1)), (2, .int (x2 * ((σ.1 0 9) + 1))), (0, .ref (q 0)), (1, .int x1)]) hx hb dX11_finds_25 hl (k := 3) rfl rfl (by decide) rfl (fun ls hl => ?_)
      refine lv_goto (tgt := 8) hx hb dX11_finds_28 (by decide) ?_
      exact ih x1 (x2 * ((σ.1 0 9) + 1)) (x3 + 1) σ _ _ ls O (lv_sub hl [2, 3, 1, 0] rfl) hf
def w_X11_finds (x1 : Int32) (σ : St) (Q : Int32 → St → Prop) : Prop := w_X11_works σ (fun σ_1 => ∃ nn : Nat, w_X11_finds_8 Q nn x1 1 0 σ_1)
set_option maxHeartbeats 4000000 in
set_option maxRecDepth 100000 in
theorem b_X11_finds (C : CX p R s m args meth c cX11_finds 14 RX11 5 118 D cs) (hE : RI p l e R s m args below meth c cX11_finds D cs LM q .int Q E) : ∀ (x1 : Int32) (σ : St) (H : Heap) (locs : List Loc) (ls : Array Slot), OK D cs LM q s σ H locs → lv_has ls 14 [(0, .ref (q 0)), (1, .int x1)] → w_X11_finds x1 σ Q → W p l e R s m args below meth c H locs 0 0 E (F0 m 0 ls []) := by
  have hx := C.1
  have hb := C.2.1
  intro x1 σ H locs ls O hl hf
  unfold w_X11_finds at hf
  refine lv_aload_n hx hb dX11_finds_0 rfl (lv_at hl 0 rfl) ?_
  refine r_callV C O hl (c_X11_works l) mX11_214 (by decide) rfl rfl rfl rfl (Nat.le_of_ble_eq_true rfl) hf dX11_finds_1 (fun σ_1 H locs O hf => ?_)
  refine lv_iconst (v := 1) hx hb dX11_finds_4 (by decide) ?_
  refine lv_istore_n (lv' := [(2, .int 1), (0, .ref (q 0)), (1, .int x1)]) hx hb dX11_finds_5 rfl hl (by decide) rfl (fun ls hl => ?_)
  refine lv_iconst (v := 0) hx hb dX11_finds_6 (by decide) ?_
  refine lv_istore_n (lv' := [(3, .int 0), (2, .int 1), (0, .ref (q 0)), (1, .int x1)]) hx hb dX11_finds_7 rfl hl (by decide) rfl (fun ls hl => ?_)
  obtain ⟨nn, hf⟩ := hf
  exact b_X11_finds_8 C hE nn x1 1 0 σ_1 _ _ ls O (lv_sub hl [2, 3, 1, 0] rfl) hf
theorem c_X11_finds (l : Launch) (x1 : Int32) : MetI l yX11_finds cX11_finds 14 .int 5 118 LM 0 (fun q => [.int x1]) (w_X11_finds x1) := mk_I (own := RX11) (by decide) rfl (fun q => Nat.le_of_ble_eq_true rfl) (fun C hE O hl hf => b_X11_finds C hE x1 _ _ _ _ O hl hf)
end
section
variable {p : Program} {l : Launch} {e : Env} {R : Room} {s : State} {m : MethodId} {args : Array Value} {below : List Frame} {meth : Method} {c : Code} {E : State → Prop}
variable {D : va_G} {cs : Nat → ClassId} {q : Nat → Nat}
variable {Q : Int32 → St → Prop}
def w_X11_flown_4 (Q : Int32 → St → Prop) : Nat → Int32 → Int32 → St → Prop
  | 0, _, _, _ => False
  | n + 1, x1, x2, σ => ((σ.1 0 14) ≤ x2 → (Q x1 σ)) ∧ (¬ (σ.1 0 14) ≤ x2 → (vp_in x2 20 ∧ ((¬ (σ.1 15 x2.toNatClampNeg) = ((-1)) → (w_X11_flown_4 Q n (x1 + 1) (x2 + 1) σ)) ∧ ((σ.1 15 x2.toNatClampNeg) = ((-1)) → (w_X11_flown_4 Q n (x1 + 0) (x2 + 1) σ)))))
set_option maxHeartbeats 4000000 in
set_option maxRecDepth 100000 in
theorem b_X11_flown_4 (C : CX p R s m args meth c cX11_flown 3 RX11 0 0 D cs) (hE : RI p l e R s m args below meth c cX11_flown D cs LM q .int Q E) : ∀ n : Nat, ∀ (x1 : Int32) (x2 : Int32) (σ : St) (H : Heap) (locs : List Loc) (ls : Array Slot), OK D cs LM q s σ H locs → lv_has ls 3 [(0, .ref (q 0)), (1, .int x1), (2, .int x2)] → w_X11_flown_4 Q n x1 x2 σ → W p l e R s m args below meth c H locs 0 0 E (F0 m 4 ls []) := by
  have hx := C.1
  have hb := C.2.1
  intro n
  induction n with
  | zero => intro x1 x2 σ H locs ls O hl hf; exact hf.elim
  | succ n ih =>
    intro x1 x2 σ H locs ls O hl hf
    unfold w_X11_flown_4 at hf
    refine lv_iload_n hx hb dX11_flown_4 rfl (lv_at hl 2 rfl) ?_
    refine lv_aload_n hx hb dX11_flown_5 rfl (lv_at hl 0 rfl) ?_
    refine r_get C O (k := 0) (j := 14) (v := .int (σ.1 0 14)) fX11_159 rfl rfl rfl dX11_flown_6 ?_
    refine lv_icmp_ge (tgt := 36) hx hb dX11_flown_9 (by decide) (fun c_1 => ?_) (fun c_1 => ?_)
    · have hf := hf.1 c_1
      refine lv_iload_n hx hb dX11_flown_36 rfl (lv_at hl 1 rfl) ?_
      exact hE _ _ _ _ _ _ (vp_nar_int _) O hf dX11_flown_37
    · have hf := hf.2 c_1
      refine lv_iload_n hx hb dX11_flown_12 rfl (lv_at hl 1 rfl) ?_
      refine lv_aload_n hx hb dX11_flown_13 rfl (lv_at hl 0 rfl) ?_
      refine r_get C O (k := 0) (j := 20) (v := .ref (q 15)) fX11_54 rfl rfl rfl dX11_flown_14 ?_
      refine lv_iload_n hx hb dX11_flown_17 rfl (lv_at hl 2 rfl) ?_
      refine r_iald C O (k := 15) rfl hf.1 dX11_flown_18 ?_
      have hf := hf.2
      refine lv_iconst (v := (-1)) hx hb dX11_flown_19 (by decide) ?_
      refine lv_icmp_ne (tgt := 27) hx hb dX11_flown_20 (by decide) (fun c_2 => ?_) (fun c_2 => ?_)
      · have hf := hf.1 c_2
        refine lv_iconst (v := 1) hx hb dX11_flown_27 (by decide) ?_
        refine lv_iadd hx hb dX11_flown_28 ?_
        refine lv_istore_n (lv' := [(1, .int (x1 + 1)), (0, .ref (q 0)), (2, .int x2)]) hx hb dX11_flown_29 rfl hl (by decide) rfl (fun ls hl => ?_)
        refine lv_iinc (v := x2 + 1) (lv' := [(2, .int (x2 + 1)), (1, .int (x1 + 1)), (0, .ref (q 0))]) hx hb dX11_flown_30 hl (k := 2) rfl rfl (by decide) rfl (fun ls hl => ?_)
        refine lv_goto (tgt := 4) hx hb dX11_flown_33 (by decide) ?_
        exact ih (x1 + 1) (x2 + 1) σ _ _ ls O (lv_sub hl [2, 1, 0] rfl) hf
      · have hf := hf.2 c_2
        refine lv_iconst (v := 0) hx hb dX11_flown_23 (by decide) ?_
        refine lv_goto (tgt := 28) hx hb dX11_flown_24 (by decide) ?_
        refine lv_iadd hx hb dX11_flown_28 ?_
        refine lv_istore_n (lv' := [(1, .int (x1 + 0)), (0, .ref (q 0)), (2, .int x2)]) hx hb dX11_flown_29 rfl hl (by decide) rfl (fun ls hl => ?_)
        refine lv_iinc (v := x2 + 1) (lv' := [(2, .int (x2 + 1)), (1, .int (x1 + 0)), (0, .ref (q 0))]) hx hb dX11_flown_30 hl (k := 2) rfl rfl (by decide) rfl (fun ls hl => ?_)
        refine lv_goto (tgt := 4) hx hb dX11_flown_33 (by decide) ?_
        exact ih (x1 + 0) (x2 + 1) σ _ _ ls O (lv_sub hl [2, 1, 0] rfl) hf
def w_X11_flown (σ : St) (Q : Int32 → St → Prop) : Prop := ∃ nn : Nat, w_X11_flown_4 Q nn 0 0 σ
set_option maxHeartbeats 4000000 in
set_option maxRecDepth 100000 in
theorem b_X11_flown (C : CX p R s m args meth c cX11_flown 3 RX11 0 0 D cs) (hE : RI p l e R s m args below meth c cX11_flown D cs LM q .int Q E) : ∀ (σ : St) (H : Heap) (locs : List Loc) (ls : Array Slot), OK D cs LM q s σ H locs → lv_has ls 3 [(0, .ref (q 0))] → w_X11_flown  σ Q → W p l e R s m args below meth c H locs 0 0 E (F0 m 0 ls []) := by
  have hx := C.1
  have hb := C.2.1
  intro  σ H locs ls O hl hf
  unfold w_X11_flown at hf
  refine lv_iconst (v := 0) hx hb dX11_flown_0 (by decide) ?_
  refine lv_istore_n (lv' := [(1, .int 0), (0, .ref (q 0))]) hx hb dX11_flown_1 rfl hl (by decide) rfl (fun ls hl => ?_)
  refine lv_iconst (v := 0) hx hb dX11_flown_2 (by decide) ?_
  refine lv_istore_n (lv' := [(2, .int 0), (1, .int 0), (0, .ref (q 0))]) hx hb dX11_flown_3 rfl hl (by decide) rfl (fun ls hl => ?_)
  obtain ⟨nn, hf⟩ := hf
  exact b_X11_flown_4 C hE nn 0 0 σ _ _ ls O (lv_sub hl [2, 1, 0] rfl) hf
theorem c_X11_flown (l : Launch) : MetI l yX11_flown cX11_flown 3 .int 0 0 LM 0 (fun q => []) (w_X11_flown ) := mk_I (own := RX11) (by decide) rfl (fun q => Nat.le_of_ble_eq_true rfl) (fun C hE O hl hf => b_X11_flown C hE _ _ _ _ O hl hf)
end
section
variable {p : Program} {l : Launch} {e : Env} {R : Room} {s : State} {m : MethodId} {args : Array Value} {below : List Frame} {meth : Method} {c : Code} {E : State → Prop}
variable {D : va_G} {cs : Nat → ClassId} {q : Nat → Nat}
variable {Q : Int32 → St → Prop}
def w_X11_plan (σ : St) (Q : Int32 → St → Prop) : Prop := w_X11_finds 0 σ (fun r_2 σ_1 => w_X11_flown σ_1 (fun r_4 σ_3 => Q r_4 σ_3))
set_option maxHeartbeats 4000000 in
set_option maxRecDepth 100000 in
theorem b_X11_plan (C : CX p R s m args meth c cX11_plan 2 RX11 6 151 D cs) (hE : RI p l e R s m args below meth c cX11_plan D cs LM q .int Q E) : ∀ (σ : St) (H : Heap) (locs : List Loc) (ls : Array Slot), OK D cs LM q s σ H locs → lv_has ls 2 [(0, .ref (q 0))] → w_X11_plan  σ Q → W p l e R s m args below meth c H locs 0 0 E (F0 m 0 ls []) := by
  have hx := C.1
  have hb := C.2.1
  intro  σ H locs ls O hl hf
  unfold w_X11_plan at hf
  refine lv_aload_n hx hb dX11_plan_0 rfl (lv_at hl 0 rfl) ?_
  refine lv_iconst (v := 0) hx hb dX11_plan_1 (by decide) ?_
  refine r_callI C O hl (c_X11_finds l 0) mX11_220 (by decide) rfl rfl rfl rfl (Nat.le_of_ble_eq_true rfl) hf dX11_plan_2 (fun r_2 σ_1 H locs O hf => ?_)
  refine lv_istore_n (lv' := [(1, .int r_2), (0, .ref (q 0))]) hx hb dX11_plan_5 rfl hl (by decide) rfl (fun ls hl => ?_)
  refine lv_aload_n hx hb dX11_plan_6 rfl (lv_at hl 1 rfl) ?_
  refine r_callI C O hl (c_X11_flown l) mX11_224 (by decide) rfl rfl rfl rfl (Nat.le_of_ble_eq_true rfl) hf dX11_plan_7 (fun r_4 σ_3 H locs O hf => ?_)
  exact hE _ _ _ _ _ _ (vp_nar_int _) O hf dX11_plan_10
theorem c_X11_plan (l : Launch) : MetI l yX11_plan cX11_plan 2 .int 6 151 LM 0 (fun q => []) (w_X11_plan ) := mk_I (own := RX11) (by decide) rfl (fun q => Nat.le_of_ble_eq_true rfl) (fun C hE O hl hf => b_X11_plan C hE _ _ _ _ O hl hf)
end
section
variable {p : Program} {l : Launch} {e : Env} {R : Room} {s : State} {m : MethodId} {args : Array Value} {below : List Frame} {meth : Method} {c : Code} {E : State → Prop}
variable {D : va_G} {cs : Nat → ClassId} {q : Nat → Nat}
variable {Q : Int32 → St → Prop}
def w_X11_replan (σ : St) (Q : Int32 → St → Prop) : Prop := w_X11_finds 1 σ (fun r_2 σ_1 => Q r_2 σ_1)
set_option maxHeartbeats 4000000 in
set_option maxRecDepth 100000 in
theorem b_X11_replan (C : CX p R s m args meth c cX11_replan 1 RX11 6 151 D cs) (hE : RI p l e R s m args below meth c cX11_replan D cs LM q .int Q E) : ∀ (σ : St) (H : Heap) (locs : List Loc) (ls : Array Slot), OK D cs LM q s σ H locs → lv_has ls 1 [(0, .ref (q 0))] → w_X11_replan  σ Q → W p l e R s m args below meth c H locs 0 0 E (F0 m 0 ls []) := by
  have hx := C.1
  have hb := C.2.1
  intro  σ H locs ls O hl hf
  unfold w_X11_replan at hf
  refine lv_aload_n hx hb dX11_replan_0 rfl (lv_at hl 0 rfl) ?_
  refine lv_iconst (v := 1) hx hb dX11_replan_1 (by decide) ?_
  refine r_callI C O hl (c_X11_finds l 1) mX11_220 (by decide) rfl rfl rfl rfl (Nat.le_of_ble_eq_true rfl) hf dX11_replan_2 (fun r_2 σ_1 H locs O hf => ?_)
  exact hE _ _ _ _ _ _ (vp_nar_int _) O hf dX11_replan_5
theorem c_X11_replan (l : Launch) : MetI l yX11_replan cX11_replan 1 .int 6 151 LM 0 (fun q => []) (w_X11_replan ) := mk_I (own := RX11) (by decide) rfl (fun q => Nat.le_of_ble_eq_true rfl) (fun C hE O hl hf => b_X11_replan C hE _ _ _ _ O hl hf)
end
section
variable {p : Program} {l : Launch} {e : Env} {R : Room} {s : State} {m : MethodId} {args : Array Value} {below : List Frame} {meth : Method} {c : Code} {E : State → Prop}
variable {D : va_G} {cs : Nat → ClassId} {q : Nat → Nat}
variable {Q : Int32 → St → Prop}
def w_X11_fits_2 (Q : Int32 → St → Prop) : Nat → Int32 → St → Prop
  | 0, _, _ => False
  | n + 1, x1, σ => ((σ.1 0 9) ≤ x1 → (Q 1 σ)) ∧ (¬ (σ.1 0 9) ≤ x1 → (w_X11_hand x1 σ (fun σ_2 => w_X11_holds x1 σ_2 (fun r_4 σ_3 => (¬ r_4 = 0 → (w_X11_fits_2 Q n (x1 + 1) σ_3)) ∧ (r_4 = 0 → (Q 0 σ_3))))))
set_option maxHeartbeats 4000000 in
set_option maxRecDepth 100000 in
theorem b_X11_fits_2 (C : CX p R s m args meth c cX11_fits 2 RX11 3 75 D cs) (hE : RI p l e R s m args below meth c cX11_fits D cs LM q .int Q E) : ∀ n : Nat, ∀ (x1 : Int32) (σ : St) (H : Heap) (locs : List Loc) (ls : Array Slot), OK D cs LM q s σ H locs → lv_has ls 2 [(0, .ref (q 0)), (1, .int x1)] → w_X11_fits_2 Q n x1 σ → W p l e R s m args below meth c H locs 0 0 E (F0 m 2 ls []) := by
  have hx := C.1
  have hb := C.2.1
  intro n
  induction n with
  | zero => intro x1 σ H locs ls O hl hf; exact hf.elim
  | succ n ih =>
    intro x1 σ H locs ls O hl hf
    unfold w_X11_fits_2 at hf
    refine lv_iload_n hx hb dX11_fits_2 rfl (lv_at hl 1 rfl) ?_
    refine lv_aload_n hx hb dX11_fits_3 rfl (lv_at hl 0 rfl) ?_
    refine r_get C O (k := 0) (j := 9) (v := .int (σ.1 0 9)) fX11_162 rfl rfl rfl dX11_fits_4 ?_
    refine lv_icmp_ge (tgt := 31) hx hb dX11_fits_7 (by decide) (fun c_1 => ?_) (fun c_1 => ?_)
    · have hf := hf.1 c_1
      refine lv_iconst (v := 1) hx hb dX11_fits_31 (by decide) ?_
      exact hE _ _ _ _ _ _ (vp_nar_int _) O hf dX11_fits_32
    · have hf := hf.2 c_1
      refine lv_aload_n hx hb dX11_fits_10 rfl (lv_at hl 0 rfl) ?_
      refine lv_iload_n hx hb dX11_fits_11 rfl (lv_at hl 1 rfl) ?_
      refine r_callV C O hl (c_X11_hand l x1) mX11_227 (by decide) rfl rfl rfl rfl (Nat.le_of_ble_eq_true rfl) hf dX11_fits_12 (fun σ_2 H locs O hf => ?_)
      refine lv_aload_n hx hb dX11_fits_15 rfl (lv_at hl 0 rfl) ?_
      refine lv_iload_n hx hb dX11_fits_16 rfl (lv_at hl 1 rfl) ?_
      refine r_callI C O hl (c_X11_holds l x1) mX11_208 (by decide) rfl rfl rfl rfl (Nat.le_of_ble_eq_true rfl) hf dX11_fits_17 (fun r_4 σ_3 H locs O hf => ?_)
      refine lv_if_ne (tgt := 25) hx hb dX11_fits_20 (by decide) (fun c_5 => ?_) (fun c_5 => ?_)
      · have hf := hf.1 c_5
        refine lv_iinc (v := x1 + 1) (lv' := [(1, .int (x1 + 1)), (0, .ref (q 0))]) hx hb dX11_fits_25 hl (k := 1) rfl rfl (by decide) rfl (fun ls hl => ?_)
        refine lv_goto (tgt := 2) hx hb dX11_fits_28 (by decide) ?_
        exact ih (x1 + 1) σ_3 _ _ ls O (lv_sub hl [1, 0] rfl) hf
      · have hf := hf.2 c_5
        refine lv_iconst (v := 0) hx hb dX11_fits_23 (by decide) ?_
        exact hE _ _ _ _ _ _ (vp_nar_int _) O hf dX11_fits_24
def w_X11_fits (σ : St) (Q : Int32 → St → Prop) : Prop := ∃ nn : Nat, w_X11_fits_2 Q nn 0 σ
set_option maxHeartbeats 4000000 in
set_option maxRecDepth 100000 in
theorem b_X11_fits (C : CX p R s m args meth c cX11_fits 2 RX11 3 75 D cs) (hE : RI p l e R s m args below meth c cX11_fits D cs LM q .int Q E) : ∀ (σ : St) (H : Heap) (locs : List Loc) (ls : Array Slot), OK D cs LM q s σ H locs → lv_has ls 2 [(0, .ref (q 0))] → w_X11_fits  σ Q → W p l e R s m args below meth c H locs 0 0 E (F0 m 0 ls []) := by
  have hx := C.1
  have hb := C.2.1
  intro  σ H locs ls O hl hf
  unfold w_X11_fits at hf
  refine lv_iconst (v := 0) hx hb dX11_fits_0 (by decide) ?_
  refine lv_istore_n (lv' := [(1, .int 0), (0, .ref (q 0))]) hx hb dX11_fits_1 rfl hl (by decide) rfl (fun ls hl => ?_)
  obtain ⟨nn, hf⟩ := hf
  exact b_X11_fits_2 C hE nn 0 σ _ _ ls O (lv_sub hl [1, 0] rfl) hf
theorem c_X11_fits (l : Launch) : MetI l yX11_fits cX11_fits 2 .int 3 75 LM 0 (fun q => []) (w_X11_fits ) := mk_I (own := RX11) (by decide) rfl (fun q => Nat.le_of_ble_eq_true rfl) (fun C hE O hl hf => b_X11_fits C hE _ _ _ _ O hl hf)
end
section
variable {p : Program} {l : Launch} {e : Env} {R : Room} {s : State} {m : MethodId} {args : Array Value} {below : List Frame} {meth : Method} {c : Code} {E : State → Prop}
variable {D : va_G} {cs : Nat → ClassId} {q : Nat → Nat}
variable {Q : Int32 → St → Prop}
def w_X11_on (x1 : Int32) (σ : St) (Q : Int32 → St → Prop) : Prop := w_X11_isFlight x1 σ (fun r_2 σ_1 => (r_2 = 0 → (Q ((-1)) σ_1)) ∧ (¬ r_2 = 0 → (vp_in x1 20 ∧ (Q (σ_1.1 15 x1.toNatClampNeg) σ_1))))
set_option maxHeartbeats 4000000 in
set_option maxRecDepth 100000 in
theorem b_X11_on (C : CX p R s m args meth c cX11_on 2 RX11 2 43 D cs) (hE : RI p l e R s m args below meth c cX11_on D cs LM q .int Q E) : ∀ (x1 : Int32) (σ : St) (H : Heap) (locs : List Loc) (ls : Array Slot), OK D cs LM q s σ H locs → lv_has ls 2 [(0, .ref (q 0)), (1, .int x1)] → w_X11_on x1 σ Q → W p l e R s m args below meth c H locs 0 0 E (F0 m 0 ls []) := by
  have hx := C.1
  have hb := C.2.1
  intro x1 σ H locs ls O hl hf
  unfold w_X11_on at hf
  refine lv_aload_n hx hb dX11_on_0 rfl (lv_at hl 0 rfl) ?_
  refine lv_iload_n hx hb dX11_on_1 rfl (lv_at hl 1 rfl) ?_
  refine r_callI C O hl (c_X11_isFlight l x1) mX11_172 (by decide) rfl rfl rfl rfl (Nat.le_of_ble_eq_true rfl) hf dX11_on_2 (fun r_2 σ_1 H locs O hf => ?_)
  refine lv_if_eq (tgt := 17) hx hb dX11_on_5 (by decide) (fun c_3 => ?_) (fun c_3 => ?_)
  · have hf := hf.1 c_3
    refine lv_iconst (v := (-1)) hx hb dX11_on_17 (by decide) ?_
    exact hE _ _ _ _ _ _ (vp_nar_int _) O hf dX11_on_18
  · have hf := hf.2 c_3
    refine lv_aload_n hx hb dX11_on_8 rfl (lv_at hl 0 rfl) ?_
    refine r_get C O (k := 0) (j := 20) (v := .ref (q 15)) fX11_54 rfl rfl rfl dX11_on_9 ?_
    refine lv_iload_n hx hb dX11_on_12 rfl (lv_at hl 1 rfl) ?_
    refine r_iald C O (k := 15) rfl hf.1 dX11_on_13 ?_
    have hf := hf.2
    refine lv_goto (tgt := 18) hx hb dX11_on_14 (by decide) ?_
    exact hE _ _ _ _ _ _ (vp_nar_int _) O hf dX11_on_18
theorem c_X11_on (l : Launch) (x1 : Int32) : MetI l yX11_on cX11_on 2 .int 2 43 LM 0 (fun q => [.int x1]) (w_X11_on x1) := mk_I (own := RX11) (by decide) rfl (fun q => Nat.le_of_ble_eq_true rfl) (fun C hE O hl hf => b_X11_on C hE x1 _ _ _ _ O hl hf)
end
section
variable {p : Program} {l : Launch} {e : Env} {R : Room} {s : State} {m : MethodId} {args : Array Value} {below : List Frame} {meth : Method} {c : Code} {E : State → Prop}
variable {D : va_G} {cs : Nat → ClassId} {q : Nat → Nat}
variable {Q : Int32 → St → Prop}
def w_X11_move_61 (Q : Int32 → St → Prop) (x2 : Int32) (x3 : Int32) (s0 : Int32) (σ : St) : Prop := (x3 = 0 → (vp_in x2 16 ∧ (Q (σ.1 28 x2.toNatClampNeg) σ))) ∧ (x3 = 1 → (vp_in x2 16 ∧ (Q (σ.1 29 x2.toNatClampNeg) σ))) ∧ (x3 = 2 → (vp_in x2 16 ∧ (Q (σ.1 30 x2.toNatClampNeg) σ))) ∧ (x3 = 3 → ((s0 = 0 → (Q ((-1)) σ)) ∧ (¬ s0 = 0 → (vp_in x2 16 ∧ (Q (σ.1 31 x2.toNatClampNeg) σ))))) ∧ (x3 = 4 → ((s0 = 0 → (Q ((-1)) σ)) ∧ (¬ s0 = 0 → (vp_in x2 16 ∧ (Q (σ.1 32 x2.toNatClampNeg) σ))))) ∧ ((¬ x3 = 0 ∧ ¬ x3 = 1 ∧ ¬ x3 = 2 ∧ ¬ x3 = 3 ∧ ¬ x3 = 4) → (Q ((-1)) σ))
set_option maxHeartbeats 4000000 in
set_option maxRecDepth 100000 in
theorem b_X11_move_61 (C : CX p R s m args meth c cX11_move 5 RX11 3 75 D cs) (hE : RI p l e R s m args below meth c cX11_move D cs LM q .int Q E) : ∀ (x2 : Int32) (x3 : Int32) (s0 : Int32) (σ : St) (H : Heap) (locs : List Loc) (ls : Array Slot), OK D cs LM q s σ H locs → lv_has ls 5 [(0, .ref (q 0)), (2, .int x2), (3, .int x3)] → w_X11_move_61 Q x2 x3 s0 σ → W p l e R s m args below meth c H locs 0 0 E (F0 m 61 ls [.int s0]) := by
  have hx := C.1
  have hb := C.2.1
  intro x2 x3 s0 σ H locs ls O hl hf
  unfold w_X11_move_61 at hf
  refine lv_istore (lv' := [(4, .int s0), (0, .ref (q 0)), (2, .int x2), (3, .int x3)]) hx hb dX11_move_61 hl (by decide) rfl (fun ls hl => ?_)
  refine lv_iload_n hx hb dX11_move_63 rfl (lv_at hl 3 rfl) ?_
  by_cases c_1 : x3 = 0
  · have hf := hf.1 c_1
    refine lv_tableIn (tgt := 100) hx hb dX11_move_64 (by rw [c_1]; decide) (by rw [c_1]; decide) (by rw [c_1]; rfl) (by decide) ?_
    refine lv_aload_n hx hb dX11_move_100 rfl (lv_at hl 1 rfl) ?_
    refine r_get C O (k := 0) (j := 37) (v := .ref (q 28)) fX11_93 rfl rfl rfl dX11_move_101 ?_
    refine lv_iload_n hx hb dX11_move_104 rfl (lv_at hl 2 rfl) ?_
    refine r_iald C O (k := 28) rfl hf.1 dX11_move_105 ?_
    have hf := hf.2
    exact hE _ _ _ _ _ _ (vp_nar_int _) O hf dX11_move_106
  by_cases c_2 : x3 = 1
  · have hf := hf.2.1 c_2
    refine lv_tableIn (tgt := 107) hx hb dX11_move_64 (by rw [c_2]; decide) (by rw [c_2]; decide) (by rw [c_2]; rfl) (by decide) ?_
    refine lv_aload_n hx hb dX11_move_107 rfl (lv_at hl 1 rfl) ?_
    refine r_get C O (k := 0) (j := 38) (v := .ref (q 29)) fX11_96 rfl rfl rfl dX11_move_108 ?_
    refine lv_iload_n hx hb dX11_move_111 rfl (lv_at hl 2 rfl) ?_
    refine r_iald C O (k := 29) rfl hf.1 dX11_move_112 ?_
    have hf := hf.2
    exact hE _ _ _ _ _ _ (vp_nar_int _) O hf dX11_move_113
  by_cases c_3 : x3 = 2
  · have hf := hf.2.2.1 c_3
    refine lv_tableIn (tgt := 114) hx hb dX11_move_64 (by rw [c_3]; decide) (by rw [c_3]; decide) (by rw [c_3]; rfl) (by decide) ?_
    refine lv_aload_n hx hb dX11_move_114 rfl (lv_at hl 1 rfl) ?_
    refine r_get C O (k := 0) (j := 39) (v := .ref (q 30)) fX11_99 rfl rfl rfl dX11_move_115 ?_
    refine lv_iload_n hx hb dX11_move_118 rfl (lv_at hl 2 rfl) ?_
    refine r_iald C O (k := 30) rfl hf.1 dX11_move_119 ?_
    have hf := hf.2
    exact hE _ _ _ _ _ _ (vp_nar_int _) O hf dX11_move_120
  by_cases c_4 : x3 = 3
  · have hf := hf.2.2.2.1 c_4
    refine lv_tableIn (tgt := 121) hx hb dX11_move_64 (by rw [c_4]; decide) (by rw [c_4]; decide) (by rw [c_4]; rfl) (by decide) ?_
    refine lv_iload hx hb dX11_move_121 (lv_at hl 0 rfl) ?_
    refine lv_if_eq (tgt := 135) hx hb dX11_move_123 (by decide) (fun c_5 => ?_) (fun c_5 => ?_)
    · have hf := hf.1 c_5
      refine lv_iconst (v := (-1)) hx hb dX11_move_135 (by decide) ?_
      exact hE _ _ _ _ _ _ (vp_nar_int _) O hf dX11_move_136
    · have hf := hf.2 c_5
      refine lv_aload_n hx hb dX11_move_126 rfl (lv_at hl 1 rfl) ?_
      refine r_get C O (k := 0) (j := 40) (v := .ref (q 31)) fX11_102 rfl rfl rfl dX11_move_127 ?_
      refine lv_iload_n hx hb dX11_move_130 rfl (lv_at hl 2 rfl) ?_
      refine r_iald C O (k := 31) rfl hf.1 dX11_move_131 ?_
      have hf := hf.2
      refine lv_goto (tgt := 136) hx hb dX11_move_132 (by decide) ?_
      exact hE _ _ _ _ _ _ (vp_nar_int _) O hf dX11_move_136
  by_cases c_6 : x3 = 4
  · have hf := hf.2.2.2.2.1 c_6
    refine lv_tableIn (tgt := 137) hx hb dX11_move_64 (by rw [c_6]; decide) (by rw [c_6]; decide) (by rw [c_6]; rfl) (by decide) ?_
    refine lv_iload hx hb dX11_move_137 (lv_at hl 0 rfl) ?_
    refine lv_if_eq (tgt := 151) hx hb dX11_move_139 (by decide) (fun c_7 => ?_) (fun c_7 => ?_)
    · have hf := hf.1 c_7
      refine lv_iconst (v := (-1)) hx hb dX11_move_151 (by decide) ?_
      exact hE _ _ _ _ _ _ (vp_nar_int _) O hf dX11_move_152
    · have hf := hf.2 c_7
      refine lv_aload_n hx hb dX11_move_142 rfl (lv_at hl 1 rfl) ?_
      refine r_get C O (k := 0) (j := 41) (v := .ref (q 32)) fX11_105 rfl rfl rfl dX11_move_143 ?_
      refine lv_iload_n hx hb dX11_move_146 rfl (lv_at hl 2 rfl) ?_
      refine r_iald C O (k := 32) rfl hf.1 dX11_move_147 ?_
      have hf := hf.2
      refine lv_goto (tgt := 152) hx hb dX11_move_148 (by decide) ?_
      exact hE _ _ _ _ _ _ (vp_nar_int _) O hf dX11_move_152
  have hf := hf.2.2.2.2.2 ⟨c_1, c_2, c_3, c_4, c_6⟩
  refine lv_tableOut (tgt := 153) hx hb dX11_move_64 (sw_out 4 (by decide) (fun k hk => by rcases (show k = 0 ∨ k = 1 ∨ k = 2 ∨ k = 3 ∨ k = 4 by omega) with rfl | rfl | rfl | rfl | rfl <;> assumption)) (by decide) ?_
  refine lv_iconst (v := (-1)) hx hb dX11_move_153 (by decide) ?_
  exact hE _ _ _ _ _ _ (vp_nar_int _) O hf dX11_move_154
def w_X11_move (x1 : Int32) (x2 : Int32) (x3 : Int32) (σ : St) (Q : Int32 → St → Prop) : Prop := w_X11_lies x1 0 ((σ.1 0 9) - 1) (fun r_1 => (¬ r_1 = 0 → (w_X11_hand x1 σ (fun σ_3 => w_X11_lies x2 0 ((σ_3.1 0 36) - 1) (fun r_4 => (¬ r_4 = 0 → (vp_in x2 16 ∧ (vp_in x2 16 ∧ (w_X11_minutes (σ_3.1 29 x2.toNatClampNeg) (σ_3.1 30 x2.toNatClampNeg) σ_3 (fun r_7 σ_6 => (r_7 ≤ 0 → (w_X11_move_61 Q x2 x3 0 σ_6)) ∧ (¬ r_7 ≤ 0 → (w_X11_move_61 Q x2 x3 1 σ_6))))))) ∧ (r_4 = 0 → (Q ((-1)) σ_3)))))) ∧ (r_1 = 0 → (Q ((-1)) σ)))
set_option maxHeartbeats 4000000 in
set_option maxRecDepth 100000 in
theorem b_X11_move (C : CX p R s m args meth c cX11_move 5 RX11 3 75 D cs) (hE : RI p l e R s m args below meth c cX11_move D cs LM q .int Q E) : ∀ (x1 : Int32) (x2 : Int32) (x3 : Int32) (σ : St) (H : Heap) (locs : List Loc) (ls : Array Slot), OK D cs LM q s σ H locs → lv_has ls 5 [(0, .ref (q 0)), (1, .int x1), (2, .int x2), (3, .int x3)] → w_X11_move x1 x2 x3 σ Q → W p l e R s m args below meth c H locs 0 0 E (F0 m 0 ls []) := by
  have hx := C.1
  have hb := C.2.1
  intro x1 x2 x3 σ H locs ls O hl hf
  unfold w_X11_move at hf
  refine lv_iload_n hx hb dX11_move_0 rfl (lv_at hl 1 rfl) ?_
  refine lv_iconst (v := 0) hx hb dX11_move_1 (by decide) ?_
  refine lv_aload_n hx hb dX11_move_2 rfl (lv_at hl 0 rfl) ?_
  refine r_get C O (k := 0) (j := 9) (v := .int (σ.1 0 9)) fX11_162 rfl rfl rfl dX11_move_3 ?_
  refine lv_iconst (v := 1) hx hb dX11_move_6 (by decide) ?_
  refine lv_isub hx hb dX11_move_7 ?_
  refine r_callS C hl (c_X11_lies l x1 0 ((σ.1 0 9) - 1)) mX11_141 (by decide) rfl rfl (Nat.le_of_ble_eq_true rfl) hf dX11_move_8 (fun r_1 hf => ?_)
  refine lv_if_ne (tgt := 16) hx hb dX11_move_11 (by decide) (fun c_2 => ?_) (fun c_2 => ?_)
  · have hf := hf.1 c_2
    refine lv_aload_n hx hb dX11_move_16 rfl (lv_at hl 0 rfl) ?_
    refine lv_iload_n hx hb dX11_move_17 rfl (lv_at hl 1 rfl) ?_
    refine r_callV C O hl (c_X11_hand l x1) mX11_227 (by decide) rfl rfl rfl rfl (Nat.le_of_ble_eq_true rfl) hf dX11_move_18 (fun σ_3 H locs O hf => ?_)
    refine lv_iload_n hx hb dX11_move_21 rfl (lv_at hl 2 rfl) ?_
    refine lv_iconst (v := 0) hx hb dX11_move_22 (by decide) ?_
    refine lv_aload_n hx hb dX11_move_23 rfl (lv_at hl 0 rfl) ?_
    refine r_get C O (k := 0) (j := 36) (v := .int (σ_3.1 0 36)) fX11_191 rfl rfl rfl dX11_move_24 ?_
    refine lv_iconst (v := 1) hx hb dX11_move_27 (by decide) ?_
    refine lv_isub hx hb dX11_move_28 ?_
    refine r_callS C hl (c_X11_lies l x2 0 ((σ_3.1 0 36) - 1)) mX11_141 (by decide) rfl rfl (Nat.le_of_ble_eq_true rfl) hf dX11_move_29 (fun r_4 hf => ?_)
    refine lv_if_ne (tgt := 37) hx hb dX11_move_32 (by decide) (fun c_5 => ?_) (fun c_5 => ?_)
    · have hf := hf.1 c_5
      refine lv_aload_n hx hb dX11_move_37 rfl (lv_at hl 0 rfl) ?_
      refine lv_aload_n hx hb dX11_move_38 rfl (lv_at hl 0 rfl) ?_
      refine r_get C O (k := 0) (j := 38) (v := .ref (q 29)) fX11_96 rfl rfl rfl dX11_move_39 ?_
      refine lv_iload_n hx hb dX11_move_42 rfl (lv_at hl 2 rfl) ?_
      refine r_iald C O (k := 29) rfl hf.1 dX11_move_43 ?_
      have hf := hf.2
      refine lv_aload_n hx hb dX11_move_44 rfl (lv_at hl 0 rfl) ?_
      refine r_get C O (k := 0) (j := 39) (v := .ref (q 30)) fX11_99 rfl rfl rfl dX11_move_45 ?_
      refine lv_iload_n hx hb dX11_move_48 rfl (lv_at hl 2 rfl) ?_
      refine r_iald C O (k := 30) rfl hf.1 dX11_move_49 ?_
      have hf := hf.2
      refine r_callI C O hl (c_X11_minutes l (σ_3.1 29 x2.toNatClampNeg) (σ_3.1 30 x2.toNatClampNeg)) mX11_165 (by decide) rfl rfl rfl rfl (Nat.le_of_ble_eq_true rfl) hf dX11_move_50 (fun r_7 σ_6 H locs O hf => ?_)
      refine lv_if_le (tgt := 60) hx hb dX11_move_53 (by decide) (fun c_8 => ?_) (fun c_8 => ?_)
      · have hf := hf.1 c_8
        refine lv_iconst (v := 0) hx hb dX11_move_60 (by decide) ?_
        exact b_X11_move_61 C hE x2 x3 0 σ_6 _ _ ls O (lv_sub hl [0, 2, 3] rfl) hf
      · have hf := hf.2 c_8
        refine lv_iconst (v := 1) hx hb dX11_move_56 (by decide) ?_
        refine lv_goto (tgt := 61) hx hb dX11_move_57 (by decide) ?_
        exact b_X11_move_61 C hE x2 x3 1 σ_6 _ _ ls O (lv_sub hl [0, 2, 3] rfl) hf
    · have hf := hf.2 c_5
      refine lv_iconst (v := (-1)) hx hb dX11_move_35 (by decide) ?_
      exact hE _ _ _ _ _ _ (vp_nar_int _) O hf dX11_move_36
  · have hf := hf.2 c_2
    refine lv_iconst (v := (-1)) hx hb dX11_move_14 (by decide) ?_
    exact hE _ _ _ _ _ _ (vp_nar_int _) O hf dX11_move_15
theorem c_X11_move (l : Launch) (x1 : Int32) (x2 : Int32) (x3 : Int32) : MetI l yX11_move cX11_move 5 .int 3 75 LM 0 (fun q => [.int x1, .int x2, .int x3]) (w_X11_move x1 x2 x3) := mk_I (own := RX11) (by decide) rfl (fun q => Nat.le_of_ble_eq_true rfl) (fun C hE O hl hf => b_X11_move C hE x1 x2 x3 _ _ _ _ O hl hf)
end
section
variable {p : Program} {l : Launch} {e : Env} {R : Room} {s : State} {m : MethodId} {args : Array Value} {below : List Frame} {meth : Method} {c : Code} {E : State → Prop}
variable {D : va_G} {cs : Nat → ClassId} {q : Nat → Nat}
variable {Q : Int32 → St → Prop}
def w_X11_offer_84 (Q : Int32 → St → Prop) : Nat → Int32 → Int32 → Int32 → Int32 → Int32 → St → Prop
  | 0, _, _, _, _, _, _ => False
  | n + 1, x1, x2, x3, x4, x5, σ => ((σ.1 0 25) ≤ x5 → (vp_in (σ.1 0 25) 40 ∧ (∀ σ_2 : St, σ_2 = wr σ 19 (σ.1 0 25).toNatClampNeg 0 → (vp_in (σ_2.1 0 25) 40 ∧ (∀ σ_3 : St, σ_3 = wr σ_2 20 (σ_2.1 0 25).toNatClampNeg x3 → (vp_in (σ_3.1 0 25) 40 ∧ (∀ σ_4 : St, σ_4 = wr σ_3 21 (σ_3.1 0 25).toNatClampNeg x4 → (vp_in (σ_4.1 0 25) 40 ∧ (∀ σ_5 : St, σ_5 = wr σ_4 22 (σ_4.1 0 25).toNatClampNeg ((-1)) → (vp_in (σ_5.1 0 25) 40 ∧ (∀ σ_6 : St, σ_6 = wr σ_5 23 (σ_5.1 0 25).toNatClampNeg x1 → (vp_in x2 16 ∧ (vp_in (σ_6.1 0 25) 40 ∧ (∀ σ_7 : St, σ_7 = wr σ_6 24 (σ_6.1 0 25).toNatClampNeg (σ_6.1 29 x2.toNatClampNeg) → (vp_in x2 16 ∧ (vp_in (σ_7.1 0 25) 40 ∧ (∀ σ_8 : St, σ_8 = wr σ_7 25 (σ_7.1 0 25).toNatClampNeg (σ_7.1 30 x2.toNatClampNeg) → (vp_in x2 16 ∧ (vp_in (σ_8.1 0 25) 40 ∧ (∀ σ_9 : St, σ_9 = wr σ_8 26 (σ_8.1 0 25).toNatClampNeg (σ_8.1 33 x2.toNatClampNeg) → (∀ σ_10 : St, σ_10 = wr σ_9 0 25 ((σ_9.1 0 25) + 1) → (Q ((σ_10.1 0 25) - 1) σ_10)))))))))))))))))))))) ∧ (¬ (σ.1 0 25) ≤ x5 → (w_X11_binds x5 σ (fun r_12 σ_11 => (r_12 = 0 → (w_X11_offer_84 Q n x1 x2 x3 x4 (x5 + 1) σ_11)) ∧ (¬ r_12 = 0 → (vp_in x5 40 ∧ ((¬ (σ_11.1 23 x5.toNatClampNeg) = x1 → (w_X11_offer_84 Q n x1 x2 x3 x4 (x5 + 1) σ_11)) ∧ ((σ_11.1 23 x5.toNatClampNeg) = x1 → (w_X11_isLeg x5 x2 σ_11 (fun r_16 σ_15 => (r_16 = 0 → (w_X11_offer_84 Q n x1 x2 x3 x4 (x5 + 1) σ_15)) ∧ (¬ r_16 = 0 → (Q ((-1)) σ_15)))))))))))
set_option maxHeartbeats 4000000 in
set_option maxRecDepth 100000 in
theorem b_X11_offer_84 (C : CX p R s m args meth c cX11_offer 6 RX11 3 75 D cs) (hE : RI p l e R s m args below meth c cX11_offer D cs LM q .int Q E) : ∀ n : Nat, ∀ (x1 : Int32) (x2 : Int32) (x3 : Int32) (x4 : Int32) (x5 : Int32) (σ : St) (H : Heap) (locs : List Loc) (ls : Array Slot), OK D cs LM q s σ H locs → lv_has ls 6 [(0, .ref (q 0)), (1, .int x1), (2, .int x2), (3, .int x3), (4, .int x4), (5, .int x5)] → w_X11_offer_84 Q n x1 x2 x3 x4 x5 σ → W p l e R s m args below meth c H locs 0 0 E (F0 m 84 ls []) := by
  have hx := C.1
  have hb := C.2.1
  intro n
  induction n with
  | zero => intro x1 x2 x3 x4 x5 σ H locs ls O hl hf; exact hf.elim
  | succ n ih =>
    intro x1 x2 x3 x4 x5 σ H locs ls O hl hf
    unfold w_X11_offer_84 at hf
    refine lv_iload hx hb dX11_offer_84 (lv_at hl 5 rfl) ?_
    refine lv_aload_n hx hb dX11_offer_86 rfl (lv_at hl 0 rfl) ?_
    refine r_get C O (k := 0) (j := 25) (v := .int (σ.1 0 25)) fX11_185 rfl rfl rfl dX11_offer_87 ?_
    refine lv_icmp_ge (tgt := 131) hx hb dX11_offer_90 (by decide) (fun c_1 => ?_) (fun c_1 => ?_)
    · have hf := hf.1 c_1
      refine lv_aload_n hx hb dX11_offer_131 rfl (lv_at hl 0 rfl) ?_
      refine r_get C O (k := 0) (j := 26) (v := .ref (q 19)) fX11_66 rfl rfl rfl dX11_offer_132 ?_
      refine lv_aload_n hx hb dX11_offer_135 rfl (lv_at hl 0 rfl) ?_
      refine r_get C O (k := 0) (j := 25) (v := .int (σ.1 0 25)) fX11_185 rfl rfl rfl dX11_offer_136 ?_
      refine lv_iconst (v := 0) hx hb dX11_offer_139 (by decide) ?_
      refine r_iast C O (k := 19) rfl hf.1 dX11_offer_140 (fun H locs σ_2 eσ_2 O => ?_)
      have hf := hf.2 σ_2 eσ_2
      refine lv_aload_n hx hb dX11_offer_141 rfl (lv_at hl 0 rfl) ?_
      refine r_get C O (k := 0) (j := 27) (v := .ref (q 20)) fX11_69 rfl rfl rfl dX11_offer_142 ?_
      refine lv_aload_n hx hb dX11_offer_145 rfl (lv_at hl 0 rfl) ?_
      refine r_get C O (k := 0) (j := 25) (v := .int (σ_2.1 0 25)) fX11_185 rfl rfl rfl dX11_offer_146 ?_
      refine lv_iload_n hx hb dX11_offer_149 rfl (lv_at hl 3 rfl) ?_
      refine r_iast C O (k := 20) rfl hf.1 dX11_offer_150 (fun H locs σ_3 eσ_3 O => ?_)
      have hf := hf.2 σ_3 eσ_3
      refine lv_aload_n hx hb dX11_offer_151 rfl (lv_at hl 0 rfl) ?_
      refine r_get C O (k := 0) (j := 28) (v := .ref (q 21)) fX11_72 rfl rfl rfl dX11_offer_152 ?_
      refine lv_aload_n hx hb dX11_offer_155 rfl (lv_at hl 0 rfl) ?_
      refine r_get C O (k := 0) (j := 25) (v := .int (σ_3.1 0 25)) fX11_185 rfl rfl rfl dX11_offer_156 ?_
      refine lv_iload hx hb dX11_offer_159 (lv_at hl 4 rfl) ?_
      refine r_iast C O (k := 21) rfl hf.1 dX11_offer_161 (fun H locs σ_4 eσ_4 O => ?_)
      have hf := hf.2 σ_4 eσ_4
      refine lv_aload_n hx hb dX11_offer_162 rfl (lv_at hl 0 rfl) ?_
      refine r_get C O (k := 0) (j := 29) (v := .ref (q 22)) fX11_75 rfl rfl rfl dX11_offer_163 ?_
      refine lv_aload_n hx hb dX11_offer_166 rfl (lv_at hl 0 rfl) ?_
      refine r_get C O (k := 0) (j := 25) (v := .int (σ_4.1 0 25)) fX11_185 rfl rfl rfl dX11_offer_167 ?_
      refine lv_iconst (v := (-1)) hx hb dX11_offer_170 (by decide) ?_
      refine r_iast C O (k := 22) rfl hf.1 dX11_offer_171 (fun H locs σ_5 eσ_5 O => ?_)
      have hf := hf.2 σ_5 eσ_5
      refine lv_aload_n hx hb dX11_offer_172 rfl (lv_at hl 0 rfl) ?_
      refine r_get C O (k := 0) (j := 30) (v := .ref (q 23)) fX11_78 rfl rfl rfl dX11_offer_173 ?_
      refine lv_aload_n hx hb dX11_offer_176 rfl (lv_at hl 0 rfl) ?_
      refine r_get C O (k := 0) (j := 25) (v := .int (σ_5.1 0 25)) fX11_185 rfl rfl rfl dX11_offer_177 ?_
      refine lv_iload_n hx hb dX11_offer_180 rfl (lv_at hl 1 rfl) ?_
      refine r_iast C O (k := 23) rfl hf.1 dX11_offer_181 (fun H locs σ_6 eσ_6 O => ?_)
      have hf := hf.2 σ_6 eσ_6
      refine lv_aload_n hx hb dX11_offer_182 rfl (lv_at hl 0 rfl) ?_
      refine r_get C O (k := 0) (j := 31) (v := .ref (q 24)) fX11_81 rfl rfl rfl dX11_offer_183 ?_
      refine lv_aload_n hx hb dX11_offer_186 rfl (lv_at hl 0 rfl) ?_
      refine r_get C O (k := 0) (j := 25) (v := .int (σ_6.1 0 25)) fX11_185 rfl rfl rfl dX11_offer_187 ?_
      refine lv_aload_n hx hb dX11_offer_190 rfl (lv_at hl 0 rfl) ?_
      refine r_get C O (k := 0) (j := 38) (v := .ref (q 29)) fX11_96 rfl rfl rfl dX11_offer_191 ?_
      refine lv_iload_n hx hb dX11_offer_194 rfl (lv_at hl 2 rfl) ?_
      refine r_iald C O (k := 29) rfl hf.1 dX11_offer_195 ?_
      have hf := hf.2
      refine r_iast C O (k := 24) rfl hf.1 dX11_offer_196 (fun H locs σ_7 eσ_7 O => ?_)
      have hf := hf.2 σ_7 eσ_7
      refine lv_aload_n hx hb dX11_offer_197 rfl (lv_at hl 0 rfl) ?_
      refine r_get C O (k := 0) (j := 32) (v := .ref (q 25)) fX11_84 rfl rfl rfl dX11_offer_198 ?_
      refine lv_aload_n hx hb dX11_offer_201 rfl (lv_at hl 0 rfl) ?_
      refine r_get C O (k := 0) (j := 25) (v := .int (σ_7.1 0 25)) fX11_185 rfl rfl rfl dX11_offer_202 ?_
      refine lv_aload_n hx hb dX11_offer_205 rfl (lv_at hl 0 rfl) ?_
      refine r_get C O (k := 0) (j := 39) (v := .ref (q 30)) fX11_99 rfl rfl rfl dX11_offer_206 ?_
      refine lv_iload_n hx hb dX11_offer_209 rfl (lv_at hl 2 rfl) ?_
      refine r_iald C O (k := 30) rfl hf.1 dX11_offer_210 ?_
      have hf := hf.2
      refine r_iast C O (k := 25) rfl hf.1 dX11_offer_211 (fun H locs σ_8 eσ_8 O => ?_)
      have hf := hf.2 σ_8 eσ_8
      refine lv_aload_n hx hb dX11_offer_212 rfl (lv_at hl 0 rfl) ?_
      refine r_get C O (k := 0) (j := 33) (v := .ref (q 26)) fX11_87 rfl rfl rfl dX11_offer_213 ?_
      refine lv_aload_n hx hb dX11_offer_216 rfl (lv_at hl 0 rfl) ?_
      refine r_get C O (k := 0) (j := 25) (v := .int (σ_8.1 0 25)) fX11_185 rfl rfl rfl dX11_offer_217 ?_
      refine lv_aload_n hx hb dX11_offer_220 rfl (lv_at hl 0 rfl) ?_
      refine r_get C O (k := 0) (j := 42) (v := .ref (q 33)) fX11_108 rfl rfl rfl dX11_offer_221 ?_
      refine lv_iload_n hx hb dX11_offer_224 rfl (lv_at hl 2 rfl) ?_
      refine r_iald C O (k := 33) rfl hf.1 dX11_offer_225 ?_
      have hf := hf.2
      refine r_iast C O (k := 26) rfl hf.1 dX11_offer_226 (fun H locs σ_9 eσ_9 O => ?_)
      have hf := hf.2 σ_9 eσ_9
      refine lv_aload_n hx hb dX11_offer_227 rfl (lv_at hl 0 rfl) ?_
      refine lv_dup hx hb dX11_offer_228 rfl ?_
      refine r_get C O (k := 0) (j := 25) (v := .int (σ_9.1 0 25)) fX11_185 rfl rfl rfl dX11_offer_229 ?_
      refine lv_iconst (v := 1) hx hb dX11_offer_232 (by decide) ?_
      refine lv_iadd hx hb dX11_offer_233 ?_
      refine r_puti C O (k := 0) pX11_185 rfl rfl dX11_offer_234 (fun H locs σ_10 eσ_10 O => ?_)
      have hf := hf σ_10 eσ_10
      refine lv_aload_n hx hb dX11_offer_237 rfl (lv_at hl 0 rfl) ?_
      refine r_get C O (k := 0) (j := 25) (v := .int (σ_10.1 0 25)) fX11_185 rfl rfl rfl dX11_offer_238 ?_
      refine lv_iconst (v := 1) hx hb dX11_offer_241 (by decide) ?_
      refine lv_isub hx hb dX11_offer_242 ?_
      exact hE _ _ _ _ _ _ (vp_nar_int _) O hf dX11_offer_243
    · have hf := hf.2 c_1
      refine lv_aload_n hx hb dX11_offer_93 rfl (lv_at hl 0 rfl) ?_
      refine lv_iload hx hb dX11_offer_94 (lv_at hl 5 rfl) ?_
      refine r_callI C O hl (c_X11_binds l x5) mX11_233 (by decide) rfl rfl rfl rfl (Nat.le_of_ble_eq_true rfl) hf dX11_offer_96 (fun r_12 σ_11 H locs O hf => ?_)
      refine lv_if_eq (tgt := 125) hx hb dX11_offer_99 (by decide) (fun c_13 => ?_) (fun c_13 => ?_)
      · have hf := hf.1 c_13
        refine lv_iinc (v := x5 + 1) (lv' := [(5, .int (x5 + 1)), (0, .ref (q 0)), (1, .int x1), (2, .int x2), (3, .int x3), (4, .int x4)]) hx hb dX11_offer_125 hl (k := 5) rfl rfl (by decide) rfl (fun ls hl => ?_)
        refine lv_goto (tgt := 84) hx hb dX11_offer_128 (by decide) ?_
        exact ih x1 x2 x3 x4 (x5 + 1) σ_11 _ _ ls O (lv_sub hl [1, 2, 3, 4, 5, 0] rfl) hf
      · have hf := hf.2 c_13
        refine lv_aload_n hx hb dX11_offer_102 rfl (lv_at hl 0 rfl) ?_
        refine r_get C O (k := 0) (j := 30) (v := .ref (q 23)) fX11_78 rfl rfl rfl dX11_offer_103 ?_
        refine lv_iload hx hb dX11_offer_106 (lv_at hl 5 rfl) ?_
        refine r_iald C O (k := 23) rfl hf.1 dX11_offer_108 ?_
        have hf := hf.2
        refine lv_iload_n hx hb dX11_offer_109 rfl (lv_at hl 1 rfl) ?_
        refine lv_icmp_ne (tgt := 125) hx hb dX11_offer_110 (by decide) (fun c_14 => ?_) (fun c_14 => ?_)
        · have hf := hf.1 c_14
          refine lv_iinc (v := x5 + 1) (lv' := [(5, .int (x5 + 1)), (0, .ref (q 0)), (1, .int x1), (2, .int x2), (3, .int x3), (4, .int x4)]) hx hb dX11_offer_125 hl (k := 5) rfl rfl (by decide) rfl (fun ls hl => ?_)
          refine lv_goto (tgt := 84) hx hb dX11_offer_128 (by decide) ?_
          exact ih x1 x2 x3 x4 (x5 + 1) σ_11 _ _ ls O (lv_sub hl [1, 2, 3, 4, 5, 0] rfl) hf
        · have hf := hf.2 c_14
          refine lv_aload_n hx hb dX11_offer_113 rfl (lv_at hl 0 rfl) ?_
          refine lv_iload hx hb dX11_offer_114 (lv_at hl 5 rfl) ?_
          refine lv_iload_n hx hb dX11_offer_116 rfl (lv_at hl 2 rfl) ?_
          refine r_callI C O hl (c_X11_isLeg l x5 x2) mX11_230 (by decide) rfl rfl rfl rfl (Nat.le_of_ble_eq_true rfl) hf dX11_offer_117 (fun r_16 σ_15 H locs O hf => ?_)
          refine lv_if_eq (tgt := 125) hx hb dX11_offer_120 (by decide) (fun c_17 => ?_) (fun c_17 => ?_)
          · have hf := hf.1 c_17
            refine lv_iinc (v := x5 + 1) (lv' := [(5, .int (x5 + 1)), (0, .ref (q 0)), (1, .int x1), (2, .int x2), (3, .int x3), (4, .int x4)]) hx hb dX11_offer_125 hl (k := 5) rfl rfl (by decide) rfl (fun ls hl => ?_)
            refine lv_goto (tgt := 84) hx hb dX11_offer_128 (by decide) ?_
            exact ih x1 x2 x3 x4 (x5 + 1) σ_15 _ _ ls O (lv_sub hl [1, 2, 3, 4, 5, 0] rfl) hf
          · have hf := hf.2 c_17
            refine lv_iconst (v := (-1)) hx hb dX11_offer_123 (by decide) ?_
            exact hE _ _ _ _ _ _ (vp_nar_int _) O hf dX11_offer_124
def w_X11_offer (x1 : Int32) (x2 : Int32) (x3 : Int32) (x4 : Int32) (σ : St) (Q : Int32 → St → Prop) : Prop := ((σ.1 0 25) = 40 → (Q ((-1)) σ)) ∧ (¬ (σ.1 0 25) = 40 → (w_X11_lies x1 0 ((σ.1 0 9) - 1) (fun r_2 => (r_2 = 0 → (Q ((-1)) σ)) ∧ (¬ r_2 = 0 → (w_X11_lies x3 0 1000000 (fun r_4 => (r_4 = 0 → (Q ((-1)) σ)) ∧ (¬ r_4 = 0 → (w_X11_lies x4 (σ.1 0 2) 10079 (fun r_6 => (¬ r_6 = 0 → (w_X11_hand x1 σ (fun σ_8 => w_X11_lies x2 0 ((σ_8.1 0 36) - 1) (fun r_9 => (r_9 = 0 → (Q ((-1)) σ_8)) ∧ (¬ r_9 = 0 → (vp_in x2 16 ∧ (((σ_8.1 28 x2.toNatClampNeg) = ((-1)) → (∃ nn : Nat, w_X11_offer_84 Q nn x1 x2 x3 x4 0 σ_8)) ∧ (¬ (σ_8.1 28 x2.toNatClampNeg) = ((-1)) → (Q ((-1)) σ_8))))))))) ∧ (r_6 = 0 → (Q ((-1)) σ)))))))))))
set_option maxHeartbeats 4000000 in
set_option maxRecDepth 100000 in
theorem b_X11_offer (C : CX p R s m args meth c cX11_offer 6 RX11 3 75 D cs) (hE : RI p l e R s m args below meth c cX11_offer D cs LM q .int Q E) : ∀ (x1 : Int32) (x2 : Int32) (x3 : Int32) (x4 : Int32) (σ : St) (H : Heap) (locs : List Loc) (ls : Array Slot), OK D cs LM q s σ H locs → lv_has ls 6 [(0, .ref (q 0)), (1, .int x1), (2, .int x2), (3, .int x3), (4, .int x4)] → w_X11_offer x1 x2 x3 x4 σ Q → W p l e R s m args below meth c H locs 0 0 E (F0 m 0 ls []) := by
  have hx := C.1
  have hb := C.2.1
  intro x1 x2 x3 x4 σ H locs ls O hl hf
  unfold w_X11_offer at hf
  refine lv_aload_n hx hb dX11_offer_0 rfl (lv_at hl 0 rfl) ?_
  refine r_get C O (k := 0) (j := 25) (v := .int (σ.1 0 25)) fX11_185 rfl rfl rfl dX11_offer_1 ?_
  refine lv_bipush (v := 40) hx hb dX11_offer_4 (by decide) ?_
  refine lv_icmp_eq (tgt := 48) hx hb dX11_offer_6 (by decide) (fun c_1 => ?_) (fun c_1 => ?_)
  · have hf := hf.1 c_1
    refine lv_iconst (v := (-1)) hx hb dX11_offer_48 (by decide) ?_
    exact hE _ _ _ _ _ _ (vp_nar_int _) O hf dX11_offer_49
  · have hf := hf.2 c_1
    refine lv_iload_n hx hb dX11_offer_9 rfl (lv_at hl 1 rfl) ?_
    refine lv_iconst (v := 0) hx hb dX11_offer_10 (by decide) ?_
    refine lv_aload_n hx hb dX11_offer_11 rfl (lv_at hl 0 rfl) ?_
    refine r_get C O (k := 0) (j := 9) (v := .int (σ.1 0 9)) fX11_162 rfl rfl rfl dX11_offer_12 ?_
    refine lv_iconst (v := 1) hx hb dX11_offer_15 (by decide) ?_
    refine lv_isub hx hb dX11_offer_16 ?_
    refine r_callS C hl (c_X11_lies l x1 0 ((σ.1 0 9) - 1)) mX11_141 (by decide) rfl rfl (Nat.le_of_ble_eq_true rfl) hf dX11_offer_17 (fun r_2 hf => ?_)
    refine lv_if_eq (tgt := 48) hx hb dX11_offer_20 (by decide) (fun c_3 => ?_) (fun c_3 => ?_)
    · have hf := hf.1 c_3
      refine lv_iconst (v := (-1)) hx hb dX11_offer_48 (by decide) ?_
      exact hE _ _ _ _ _ _ (vp_nar_int _) O hf dX11_offer_49
    · have hf := hf.2 c_3
      refine lv_iload_n hx hb dX11_offer_23 rfl (lv_at hl 3 rfl) ?_
      refine lv_iconst (v := 0) hx hb dX11_offer_24 (by decide) ?_
      refine lv_ldc (v := 1000000) hx hb C.2.2.2.1 (C.2.2.2.2.1 _ kX11_239) dX11_offer_25 ?_
      refine r_callS C hl (c_X11_lies l x3 0 1000000) mX11_141 (by decide) rfl rfl (Nat.le_of_ble_eq_true rfl) hf dX11_offer_27 (fun r_4 hf => ?_)
      refine lv_if_eq (tgt := 48) hx hb dX11_offer_30 (by decide) (fun c_5 => ?_) (fun c_5 => ?_)
      · have hf := hf.1 c_5
        refine lv_iconst (v := (-1)) hx hb dX11_offer_48 (by decide) ?_
        exact hE _ _ _ _ _ _ (vp_nar_int _) O hf dX11_offer_49
      · have hf := hf.2 c_5
        refine lv_iload hx hb dX11_offer_33 (lv_at hl 4 rfl) ?_
        refine lv_aload_n hx hb dX11_offer_35 rfl (lv_at hl 0 rfl) ?_
        refine r_get C O (k := 0) (j := 2) (v := .int (σ.1 0 2)) fX11_182 rfl rfl rfl dX11_offer_36 ?_
        refine lv_sipush (v := 10079) hx hb dX11_offer_39 (by decide) ?_
        refine r_callS C hl (c_X11_lies l x4 (σ.1 0 2) 10079) mX11_141 (by decide) rfl rfl (Nat.le_of_ble_eq_true rfl) hf dX11_offer_42 (fun r_6 hf => ?_)
        refine lv_if_ne (tgt := 50) hx hb dX11_offer_45 (by decide) (fun c_7 => ?_) (fun c_7 => ?_)
        · have hf := hf.1 c_7
          refine lv_aload_n hx hb dX11_offer_50 rfl (lv_at hl 0 rfl) ?_
          refine lv_iload_n hx hb dX11_offer_51 rfl (lv_at hl 1 rfl) ?_
          refine r_callV C O hl (c_X11_hand l x1) mX11_227 (by decide) rfl rfl rfl rfl (Nat.le_of_ble_eq_true rfl) hf dX11_offer_52 (fun σ_8 H locs O hf => ?_)
          refine lv_iload_n hx hb dX11_offer_55 rfl (lv_at hl 2 rfl) ?_
          refine lv_iconst (v := 0) hx hb dX11_offer_56 (by decide) ?_
          refine lv_aload_n hx hb dX11_offer_57 rfl (lv_at hl 0 rfl) ?_
          refine r_get C O (k := 0) (j := 36) (v := .int (σ_8.1 0 36)) fX11_191 rfl rfl rfl dX11_offer_58 ?_
          refine lv_iconst (v := 1) hx hb dX11_offer_61 (by decide) ?_
          refine lv_isub hx hb dX11_offer_62 ?_
          refine r_callS C hl (c_X11_lies l x2 0 ((σ_8.1 0 36) - 1)) mX11_141 (by decide) rfl rfl (Nat.le_of_ble_eq_true rfl) hf dX11_offer_63 (fun r_9 hf => ?_)
          refine lv_if_eq (tgt := 79) hx hb dX11_offer_66 (by decide) (fun c_10 => ?_) (fun c_10 => ?_)
          · have hf := hf.1 c_10
            refine lv_iconst (v := (-1)) hx hb dX11_offer_79 (by decide) ?_
            exact hE _ _ _ _ _ _ (vp_nar_int _) O hf dX11_offer_80
          · have hf := hf.2 c_10
            refine lv_aload_n hx hb dX11_offer_69 rfl (lv_at hl 0 rfl) ?_
            refine r_get C O (k := 0) (j := 37) (v := .ref (q 28)) fX11_93 rfl rfl rfl dX11_offer_70 ?_
            refine lv_iload_n hx hb dX11_offer_73 rfl (lv_at hl 2 rfl) ?_
            refine r_iald C O (k := 28) rfl hf.1 dX11_offer_74 ?_
            have hf := hf.2
            refine lv_iconst (v := (-1)) hx hb dX11_offer_75 (by decide) ?_
            refine lv_icmp_eq (tgt := 81) hx hb dX11_offer_76 (by decide) (fun c_11 => ?_) (fun c_11 => ?_)
            · have hf := hf.1 c_11
              refine lv_iconst (v := 0) hx hb dX11_offer_81 (by decide) ?_
              refine lv_istore (lv' := [(5, .int 0), (0, .ref (q 0)), (1, .int x1), (2, .int x2), (3, .int x3), (4, .int x4)]) hx hb dX11_offer_82 hl (by decide) rfl (fun ls hl => ?_)
              obtain ⟨nn, hf⟩ := hf
              exact b_X11_offer_84 C hE nn x1 x2 x3 x4 0 σ_8 _ _ ls O (lv_sub hl [1, 2, 3, 4, 5, 0] rfl) hf
            · have hf := hf.2 c_11
              refine lv_iconst (v := (-1)) hx hb dX11_offer_79 (by decide) ?_
              exact hE _ _ _ _ _ _ (vp_nar_int _) O hf dX11_offer_80
        · have hf := hf.2 c_7
          refine lv_iconst (v := (-1)) hx hb dX11_offer_48 (by decide) ?_
          exact hE _ _ _ _ _ _ (vp_nar_int _) O hf dX11_offer_49
theorem c_X11_offer (l : Launch) (x1 : Int32) (x2 : Int32) (x3 : Int32) (x4 : Int32) : MetI l yX11_offer cX11_offer 6 .int 3 75 LM 0 (fun q => [.int x1, .int x2, .int x3, .int x4]) (w_X11_offer x1 x2 x3 x4) := mk_I (own := RX11) (by decide) rfl (fun q => Nat.le_of_ble_eq_true rfl) (fun C hE O hl hf => b_X11_offer C hE x1 x2 x3 x4 _ _ _ _ O hl hf)
end
section
variable {p : Program} {l : Launch} {e : Env} {R : Room} {s : State} {m : MethodId} {args : Array Value} {below : List Frame} {meth : Method} {c : Code} {E : State → Prop}
variable {D : va_G} {cs : Nat → ClassId} {q : Nat → Nat}
variable {Q : Int32 → St → Prop}
def w_X11_take (x1 : Int32) (x2 : Int32) (σ : St) (Q : Int32 → St → Prop) : Prop := w_X11_lies x1 0 ((σ.1 0 25) - 1) (fun r_1 => (r_1 = 0 → (Q 0 σ)) ∧ (¬ r_1 = 0 → (vp_in x1 40 ∧ ((¬ (σ.1 19 x1.toNatClampNeg) = 0 → (Q 0 σ)) ∧ ((σ.1 19 x1.toNatClampNeg) = 0 → (w_X11_lies x2 0 99 (fun r_4 => (¬ r_4 = 0 → (vp_in x1 40 ∧ (∀ σ_6 : St, σ_6 = wr σ 19 x1.toNatClampNeg 1 → (vp_in x1 40 ∧ (∀ σ_7 : St, σ_7 = wr σ_6 22 x1.toNatClampNeg x2 → (Q 1 σ_7)))))) ∧ (r_4 = 0 → (Q 0 σ)))))))))
set_option maxHeartbeats 4000000 in
set_option maxRecDepth 100000 in
theorem b_X11_take (C : CX p R s m args meth c cX11_take 3 RX11 1 22 D cs) (hE : RI p l e R s m args below meth c cX11_take D cs LM q .boolean Q E) : ∀ (x1 : Int32) (x2 : Int32) (σ : St) (H : Heap) (locs : List Loc) (ls : Array Slot), OK D cs LM q s σ H locs → lv_has ls 3 [(0, .ref (q 0)), (1, .int x1), (2, .int x2)] → w_X11_take x1 x2 σ Q → W p l e R s m args below meth c H locs 0 0 E (F0 m 0 ls []) := by
  have hx := C.1
  have hb := C.2.1
  intro x1 x2 σ H locs ls O hl hf
  unfold w_X11_take at hf
  refine lv_iload_n hx hb dX11_take_0 rfl (lv_at hl 1 rfl) ?_
  refine lv_iconst (v := 0) hx hb dX11_take_1 (by decide) ?_
  refine lv_aload_n hx hb dX11_take_2 rfl (lv_at hl 0 rfl) ?_
  refine r_get C O (k := 0) (j := 25) (v := .int (σ.1 0 25)) fX11_185 rfl rfl rfl dX11_take_3 ?_
  refine lv_iconst (v := 1) hx hb dX11_take_6 (by decide) ?_
  refine lv_isub hx hb dX11_take_7 ?_
  refine r_callS C hl (c_X11_lies l x1 0 ((σ.1 0 25) - 1)) mX11_141 (by decide) rfl rfl (Nat.le_of_ble_eq_true rfl) hf dX11_take_8 (fun r_1 hf => ?_)
  refine lv_if_eq (tgt := 33) hx hb dX11_take_11 (by decide) (fun c_2 => ?_) (fun c_2 => ?_)
  · have hf := hf.1 c_2
    refine lv_iconst (v := 0) hx hb dX11_take_33 (by decide) ?_
    exact hE _ _ _ _ _ _ rfl O hf dX11_take_34
  · have hf := hf.2 c_2
    refine lv_aload_n hx hb dX11_take_14 rfl (lv_at hl 0 rfl) ?_
    refine r_get C O (k := 0) (j := 26) (v := .ref (q 19)) fX11_66 rfl rfl rfl dX11_take_15 ?_
    refine lv_iload_n hx hb dX11_take_18 rfl (lv_at hl 1 rfl) ?_
    refine r_iald C O (k := 19) rfl hf.1 dX11_take_19 ?_
    have hf := hf.2
    refine lv_if_ne (tgt := 33) hx hb dX11_take_20 (by decide) (fun c_3 => ?_) (fun c_3 => ?_)
    · have hf := hf.1 c_3
      refine lv_iconst (v := 0) hx hb dX11_take_33 (by decide) ?_
      exact hE _ _ _ _ _ _ rfl O hf dX11_take_34
    · have hf := hf.2 c_3
      refine lv_iload_n hx hb dX11_take_23 rfl (lv_at hl 2 rfl) ?_
      refine lv_iconst (v := 0) hx hb dX11_take_24 (by decide) ?_
      refine lv_bipush (v := 99) hx hb dX11_take_25 (by decide) ?_
      refine r_callS C hl (c_X11_lies l x2 0 99) mX11_141 (by decide) rfl rfl (Nat.le_of_ble_eq_true rfl) hf dX11_take_27 (fun r_4 hf => ?_)
      refine lv_if_ne (tgt := 35) hx hb dX11_take_30 (by decide) (fun c_5 => ?_) (fun c_5 => ?_)
      · have hf := hf.1 c_5
        refine lv_aload_n hx hb dX11_take_35 rfl (lv_at hl 0 rfl) ?_
        refine r_get C O (k := 0) (j := 26) (v := .ref (q 19)) fX11_66 rfl rfl rfl dX11_take_36 ?_
        refine lv_iload_n hx hb dX11_take_39 rfl (lv_at hl 1 rfl) ?_
        refine lv_iconst (v := 1) hx hb dX11_take_40 (by decide) ?_
        refine r_iast C O (k := 19) rfl hf.1 dX11_take_41 (fun H locs σ_6 eσ_6 O => ?_)
        have hf := hf.2 σ_6 eσ_6
        refine lv_aload_n hx hb dX11_take_42 rfl (lv_at hl 0 rfl) ?_
        refine r_get C O (k := 0) (j := 29) (v := .ref (q 22)) fX11_75 rfl rfl rfl dX11_take_43 ?_
        refine lv_iload_n hx hb dX11_take_46 rfl (lv_at hl 1 rfl) ?_
        refine lv_iload_n hx hb dX11_take_47 rfl (lv_at hl 2 rfl) ?_
        refine r_iast C O (k := 22) rfl hf.1 dX11_take_48 (fun H locs σ_7 eσ_7 O => ?_)
        have hf := hf.2 σ_7 eσ_7
        refine lv_iconst (v := 1) hx hb dX11_take_49 (by decide) ?_
        exact hE _ _ _ _ _ _ rfl O hf dX11_take_50
      · have hf := hf.2 c_5
        refine lv_iconst (v := 0) hx hb dX11_take_33 (by decide) ?_
        exact hE _ _ _ _ _ _ rfl O hf dX11_take_34
theorem c_X11_take (l : Launch) (x1 : Int32) (x2 : Int32) : MetI l yX11_take cX11_take 3 .boolean 1 22 LM 0 (fun q => [.int x1, .int x2]) (w_X11_take x1 x2) := mk_I (own := RX11) (by decide) rfl (fun q => Nat.le_of_ble_eq_true rfl) (fun C hE O hl hf => b_X11_take C hE x1 x2 _ _ _ _ O hl hf)
end
section
variable {p : Program} {l : Launch} {e : Env} {R : Room} {s : State} {m : MethodId} {args : Array Value} {below : List Frame} {meth : Method} {c : Code} {E : State → Prop}
variable {D : va_G} {cs : Nat → ClassId} {q : Nat → Nat}
variable {Q : Int32 → St → Prop}
def w_X11_told (x1 : Int32) (x2 : Int32) (σ : St) (Q : Int32 → St → Prop) : Prop := w_X11_lies x1 0 ((σ.1 0 25) - 1) (fun r_1 => (¬ r_1 = 0 → ((x2 = 0 → (vp_in x1 40 ∧ (Q (σ.1 19 x1.toNatClampNeg) σ))) ∧ (x2 = 1 → (vp_in x1 40 ∧ (Q (σ.1 20 x1.toNatClampNeg) σ))) ∧ (x2 = 2 → (vp_in x1 40 ∧ (Q (σ.1 21 x1.toNatClampNeg) σ))) ∧ (x2 = 3 → (vp_in x1 40 ∧ (Q (σ.1 22 x1.toNatClampNeg) σ))) ∧ (x2 = 4 → (vp_in x1 40 ∧ (Q (σ.1 23 x1.toNatClampNeg) σ))) ∧ (x2 = 5 → (vp_in x1 40 ∧ (Q (σ.1 26 x1.toNatClampNeg) σ))) ∧ ((¬ x2 = 0 ∧ ¬ x2 = 1 ∧ ¬ x2 = 2 ∧ ¬ x2 = 3 ∧ ¬ x2 = 4 ∧ ¬ x2 = 5) → (Q ((-1)) σ)))) ∧ (r_1 = 0 → (Q ((-1)) σ)))
set_option maxHeartbeats 4000000 in
set_option maxRecDepth 100000 in
theorem b_X11_told (C : CX p R s m args meth c cX11_told 3 RX11 1 22 D cs) (hE : RI p l e R s m args below meth c cX11_told D cs LM q .int Q E) : ∀ (x1 : Int32) (x2 : Int32) (σ : St) (H : Heap) (locs : List Loc) (ls : Array Slot), OK D cs LM q s σ H locs → lv_has ls 3 [(0, .ref (q 0)), (1, .int x1), (2, .int x2)] → w_X11_told x1 x2 σ Q → W p l e R s m args below meth c H locs 0 0 E (F0 m 0 ls []) := by
  have hx := C.1
  have hb := C.2.1
  intro x1 x2 σ H locs ls O hl hf
  unfold w_X11_told at hf
  refine lv_iload_n hx hb dX11_told_0 rfl (lv_at hl 1 rfl) ?_
  refine lv_iconst (v := 0) hx hb dX11_told_1 (by decide) ?_
  refine lv_aload_n hx hb dX11_told_2 rfl (lv_at hl 0 rfl) ?_
  refine r_get C O (k := 0) (j := 25) (v := .int (σ.1 0 25)) fX11_185 rfl rfl rfl dX11_told_3 ?_
  refine lv_iconst (v := 1) hx hb dX11_told_6 (by decide) ?_
  refine lv_isub hx hb dX11_told_7 ?_
  refine r_callS C hl (c_X11_lies l x1 0 ((σ.1 0 25) - 1)) mX11_141 (by decide) rfl rfl (Nat.le_of_ble_eq_true rfl) hf dX11_told_8 (fun r_1 hf => ?_)
  refine lv_if_ne (tgt := 16) hx hb dX11_told_11 (by decide) (fun c_2 => ?_) (fun c_2 => ?_)
  · have hf := hf.1 c_2
    refine lv_iload_n hx hb dX11_told_16 rfl (lv_at hl 2 rfl) ?_
    by_cases c_3 : x2 = 0
    · have hf := hf.1 c_3
      refine lv_tableIn (tgt := 56) hx hb dX11_told_17 (by rw [c_3]; decide) (by rw [c_3]; decide) (by rw [c_3]; rfl) (by decide) ?_
      refine lv_aload_n hx hb dX11_told_56 rfl (lv_at hl 0 rfl) ?_
      refine r_get C O (k := 0) (j := 26) (v := .ref (q 19)) fX11_66 rfl rfl rfl dX11_told_57 ?_
      refine lv_iload_n hx hb dX11_told_60 rfl (lv_at hl 1 rfl) ?_
      refine r_iald C O (k := 19) rfl hf.1 dX11_told_61 ?_
      have hf := hf.2
      exact hE _ _ _ _ _ _ (vp_nar_int _) O hf dX11_told_62
    by_cases c_4 : x2 = 1
    · have hf := hf.2.1 c_4
      refine lv_tableIn (tgt := 63) hx hb dX11_told_17 (by rw [c_4]; decide) (by rw [c_4]; decide) (by rw [c_4]; rfl) (by decide) ?_
      refine lv_aload_n hx hb dX11_told_63 rfl (lv_at hl 0 rfl) ?_
      refine r_get C O (k := 0) (j := 27) (v := .ref (q 20)) fX11_69 rfl rfl rfl dX11_told_64 ?_
      refine lv_iload_n hx hb dX11_told_67 rfl (lv_at hl 1 rfl) ?_
      refine r_iald C O (k := 20) rfl hf.1 dX11_told_68 ?_
      have hf := hf.2
      exact hE _ _ _ _ _ _ (vp_nar_int _) O hf dX11_told_69
    by_cases c_5 : x2 = 2
    · have hf := hf.2.2.1 c_5
      refine lv_tableIn (tgt := 70) hx hb dX11_told_17 (by rw [c_5]; decide) (by rw [c_5]; decide) (by rw [c_5]; rfl) (by decide) ?_
      refine lv_aload_n hx hb dX11_told_70 rfl (lv_at hl 0 rfl) ?_
      refine r_get C O (k := 0) (j := 28) (v := .ref (q 21)) fX11_72 rfl rfl rfl dX11_told_71 ?_
      refine lv_iload_n hx hb dX11_told_74 rfl (lv_at hl 1 rfl) ?_
      refine r_iald C O (k := 21) rfl hf.1 dX11_told_75 ?_
      have hf := hf.2
      exact hE _ _ _ _ _ _ (vp_nar_int _) O hf dX11_told_76
    by_cases c_6 : x2 = 3
    · have hf := hf.2.2.2.1 c_6
      refine lv_tableIn (tgt := 77) hx hb dX11_told_17 (by rw [c_6]; decide) (by rw [c_6]; decide) (by rw [c_6]; rfl) (by decide) ?_
      refine lv_aload_n hx hb dX11_told_77 rfl (lv_at hl 0 rfl) ?_
      refine r_get C O (k := 0) (j := 29) (v := .ref (q 22)) fX11_75 rfl rfl rfl dX11_told_78 ?_
      refine lv_iload_n hx hb dX11_told_81 rfl (lv_at hl 1 rfl) ?_
      refine r_iald C O (k := 22) rfl hf.1 dX11_told_82 ?_
      have hf := hf.2
      exact hE _ _ _ _ _ _ (vp_nar_int _) O hf dX11_told_83
    by_cases c_7 : x2 = 4
    · have hf := hf.2.2.2.2.1 c_7
      refine lv_tableIn (tgt := 84) hx hb dX11_told_17 (by rw [c_7]; decide) (by rw [c_7]; decide) (by rw [c_7]; rfl) (by decide) ?_
      refine lv_aload_n hx hb dX11_told_84 rfl (lv_at hl 0 rfl) ?_
      refine r_get C O (k := 0) (j := 30) (v := .ref (q 23)) fX11_78 rfl rfl rfl dX11_told_85 ?_
      refine lv_iload_n hx hb dX11_told_88 rfl (lv_at hl 1 rfl) ?_
      refine r_iald C O (k := 23) rfl hf.1 dX11_told_89 ?_
      have hf := hf.2
      exact hE _ _ _ _ _ _ (vp_nar_int _) O hf dX11_told_90
    by_cases c_8 : x2 = 5
    · have hf := hf.2.2.2.2.2.1 c_8
      refine lv_tableIn (tgt := 91) hx hb dX11_told_17 (by rw [c_8]; decide) (by rw [c_8]; decide) (by rw [c_8]; rfl) (by decide) ?_
      refine lv_aload_n hx hb dX11_told_91 rfl (lv_at hl 0 rfl) ?_
      refine r_get C O (k := 0) (j := 33) (v := .ref (q 26)) fX11_87 rfl rfl rfl dX11_told_92 ?_
      refine lv_iload_n hx hb dX11_told_95 rfl (lv_at hl 1 rfl) ?_
      refine r_iald C O (k := 26) rfl hf.1 dX11_told_96 ?_
      have hf := hf.2
      exact hE _ _ _ _ _ _ (vp_nar_int _) O hf dX11_told_97
    have hf := hf.2.2.2.2.2.2 ⟨c_3, c_4, c_5, c_6, c_7, c_8⟩
    refine lv_tableOut (tgt := 98) hx hb dX11_told_17 (sw_out 5 (by decide) (fun k hk => by rcases (show k = 0 ∨ k = 1 ∨ k = 2 ∨ k = 3 ∨ k = 4 ∨ k = 5 by omega) with rfl | rfl | rfl | rfl | rfl | rfl <;> assumption)) (by decide) ?_
    refine lv_iconst (v := (-1)) hx hb dX11_told_98 (by decide) ?_
    exact hE _ _ _ _ _ _ (vp_nar_int _) O hf dX11_told_99
  · have hf := hf.2 c_2
    refine lv_iconst (v := (-1)) hx hb dX11_told_14 (by decide) ?_
    exact hE _ _ _ _ _ _ (vp_nar_int _) O hf dX11_told_15
theorem c_X11_told (l : Launch) (x1 : Int32) (x2 : Int32) : MetI l yX11_told cX11_told 3 .int 1 22 LM 0 (fun q => [.int x1, .int x2]) (w_X11_told x1 x2) := mk_I (own := RX11) (by decide) rfl (fun q => Nat.le_of_ble_eq_true rfl) (fun C hE O hl hf => b_X11_told C hE x1 x2 _ _ _ _ O hl hf)
end
section
variable {p : Program} {l : Launch} {e : Env} {R : Room} {s : State} {m : MethodId} {args : Array Value} {below : List Frame} {meth : Method} {c : Code} {E : State → Prop}
variable {D : va_G} {cs : Nat → ClassId} {q : Nat → Nat}
variable {Q : Int64 → St → Prop}
def w_X11_bill_143 (Q : Int64 → St → Prop) (K63 : Int32 → Int32 → Int64 → Int32 → St → Prop) : Nat → Int32 → Int32 → Int64 → Int32 → Int32 → St → Prop
  | 0, _, _, _, _, _, _ => False
  | n + 1, x1, x2, x3, x5, x7, σ => ((σ.1 0 25) ≤ x7 → (K63 x1 x2 x3 (x5 + 1) σ)) ∧ (¬ (σ.1 0 25) ≤ x7 → (vp_in x7 40 ∧ ((¬ (σ.1 19 x7.toNatClampNeg) = 1 → (w_X11_bill_143 Q K63 n x1 x2 (x3 - 0) x5 (x7 + 1) σ)) ∧ ((σ.1 19 x7.toNatClampNeg) = 1 → (vp_in x7 40 ∧ ((¬ (σ.1 23 x7.toNatClampNeg) = x2 → (w_X11_bill_143 Q K63 n x1 x2 (x3 - 0) x5 (x7 + 1) σ)) ∧ ((σ.1 23 x7.toNatClampNeg) = x2 → (w_X11_isLeg x7 x5 σ (fun r_5 σ_4 => (r_5 = 0 → (w_X11_bill_143 Q K63 n x1 x2 (x3 - 0) x5 (x7 + 1) σ_4)) ∧ (¬ r_5 = 0 → (vp_in x7 40 ∧ (∀ v_7 : Int64, v_7 = (x3 - (((σ_4.1 20 x7.toNatClampNeg) / 2).toInt64)) → (w_X11_bill_143 Q K63 n x1 x2 v_7 x5 (x7 + 1) σ_4)))))))))))))
set_option maxHeartbeats 4000000 in
set_option maxRecDepth 100000 in
theorem b_X11_bill_143 (C : CX p R s m args meth c cX11_bill 8 RX11 3 75 D cs) (hE : RLx p l e R s m args below meth c cX11_bill D cs LM q Q E) {K63 : Int32 → Int32 → Int64 → Int32 → St → Prop} (hK63 : ∀ (x1 : Int32) (x2 : Int32) (x3 : Int64) (x5 : Int32) (σ : St) (H : Heap) (locs : List Loc) (ls : Array Slot), OK D cs LM q s σ H locs → lv_has ls 8 [(0, .ref (q 0)), (1, .int x1), (2, .int x2), (3, .long x3), (5, .int x5)] → K63 x1 x2 x3 x5 σ → W p l e R s m args below meth c H locs 0 0 E (F0 m 63 ls [])) : ∀ n : Nat, ∀ (x1 : Int32) (x2 : Int32) (x3 : Int64) (x5 : Int32) (x7 : Int32) (σ : St) (H : Heap) (locs : List Loc) (ls : Array Slot), OK D cs LM q s σ H locs → lv_has ls 8 [(0, .ref (q 0)), (1, .int x1), (2, .int x2), (3, .long x3), (5, .int x5), (7, .int x7)] → w_X11_bill_143 Q K63 n x1 x2 x3 x5 x7 σ → W p l e R s m args below meth c H locs 0 0 E (F0 m 143 ls []) := by
  have hx := C.1
  have hb := C.2.1
  intro n
  induction n with
  | zero => intro x1 x2 x3 x5 x7 σ H locs ls O hl hf; exact hf.elim
  | succ n ih =>
    intro x1 x2 x3 x5 x7 σ H locs ls O hl hf
    unfold w_X11_bill_143 at hf
    refine lv_iload hx hb dX11_bill_143 (lv_at hl 5 rfl) ?_
    refine lv_aload_n hx hb dX11_bill_145 rfl (lv_at hl 0 rfl) ?_
    refine r_get C O (k := 0) (j := 25) (v := .int (σ.1 0 25)) fX11_185 rfl rfl rfl dX11_bill_146 ?_
    refine lv_icmp_ge (tgt := 208) hx hb dX11_bill_149 (by decide) (fun c_1 => ?_) (fun c_1 => ?_)
    · have hf := hf.1 c_1
      refine lv_iinc (v := x5 + 1) (lv' := [(5, .int (x5 + 1)), (0, .ref (q 0)), (1, .int x1), (2, .int x2), (3, .long x3), (7, .int x7)]) hx hb dX11_bill_208 hl (k := 4) rfl rfl (by decide) rfl (fun ls hl => ?_)
      refine lv_goto (tgt := 63) hx hb dX11_bill_211 (by decide) ?_
      exact hK63 x1 x2 x3 (x5 + 1) σ _ _ ls O (lv_sub hl [1, 2, 3, 4, 0] rfl) hf
    · have hf := hf.2 c_1
      refine lv_lload_n hx hb dX11_bill_152 rfl (lv_at hl 3 rfl) ?_
      refine lv_aload_n hx hb dX11_bill_153 rfl (lv_at hl 0 rfl) ?_
      refine r_get C O (k := 0) (j := 26) (v := .ref (q 19)) fX11_66 rfl rfl rfl dX11_bill_154 ?_
      refine lv_iload hx hb dX11_bill_157 (lv_at hl 5 rfl) ?_
      refine r_iald C O (k := 19) rfl hf.1 dX11_bill_159 ?_
      have hf := hf.2
      refine lv_iconst (v := 1) hx hb dX11_bill_160 (by decide) ?_
      refine lv_icmp_ne (tgt := 199) hx hb dX11_bill_161 (by decide) (fun c_2 => ?_) (fun c_2 => ?_)
      · have hf := hf.1 c_2
        refine lv_lconst (v := 0) hx hb dX11_bill_199 (by decide) ?_
        refine lv_lsub hx hb dX11_bill_200 ?_
        refine lv_lstore_n (lv' := [(3, .long (x3 - 0)), (0, .ref (q 0)), (1, .int x1), (2, .int x2), (5, .int x5), (7, .int x7)]) hx hb dX11_bill_201 rfl hl (by decide) rfl (fun ls hl => ?_)
        refine lv_iinc (v := x7 + 1) (lv' := [(7, .int (x7 + 1)), (3, .long (x3 - 0)), (0, .ref (q 0)), (1, .int x1), (2, .int x2), (5, .int x5)]) hx hb dX11_bill_202 hl (k := 5) rfl rfl (by decide) rfl (fun ls hl => ?_)
        refine lv_goto (tgt := 143) hx hb dX11_bill_205 (by decide) ?_
        exact ih x1 x2 (x3 - 0) x5 (x7 + 1) σ _ _ ls O (lv_sub hl [2, 3, 4, 1, 5, 0] rfl) hf
      · have hf := hf.2 c_2
        refine lv_aload_n hx hb dX11_bill_164 rfl (lv_at hl 0 rfl) ?_
        refine r_get C O (k := 0) (j := 30) (v := .ref (q 23)) fX11_78 rfl rfl rfl dX11_bill_165 ?_
        refine lv_iload hx hb dX11_bill_168 (lv_at hl 5 rfl) ?_
        refine r_iald C O (k := 23) rfl hf.1 dX11_bill_170 ?_
        have hf := hf.2
        refine lv_iload_n hx hb dX11_bill_171 rfl (lv_at hl 2 rfl) ?_
        refine lv_icmp_ne (tgt := 199) hx hb dX11_bill_172 (by decide) (fun c_3 => ?_) (fun c_3 => ?_)
        · have hf := hf.1 c_3
          refine lv_lconst (v := 0) hx hb dX11_bill_199 (by decide) ?_
          refine lv_lsub hx hb dX11_bill_200 ?_
          refine lv_lstore_n (lv' := [(3, .long (x3 - 0)), (0, .ref (q 0)), (1, .int x1), (2, .int x2), (5, .int x5), (7, .int x7)]) hx hb dX11_bill_201 rfl hl (by decide) rfl (fun ls hl => ?_)
          refine lv_iinc (v := x7 + 1) (lv' := [(7, .int (x7 + 1)), (3, .long (x3 - 0)), (0, .ref (q 0)), (1, .int x1), (2, .int x2), (5, .int x5)]) hx hb dX11_bill_202 hl (k := 5) rfl rfl (by decide) rfl (fun ls hl => ?_)
          refine lv_goto (tgt := 143) hx hb dX11_bill_205 (by decide) ?_
          exact ih x1 x2 (x3 - 0) x5 (x7 + 1) σ _ _ ls O (lv_sub hl [2, 3, 4, 1, 5, 0] rfl) hf
        · have hf := hf.2 c_3
          refine lv_aload_n hx hb dX11_bill_175 rfl (lv_at hl 0 rfl) ?_
          refine lv_iload hx hb dX11_bill_176 (lv_at hl 5 rfl) ?_
          refine lv_iload hx hb dX11_bill_178 (lv_at hl 4 rfl) ?_
          refine r_callI C O hl (c_X11_isLeg l x7 x5) mX11_230 (by decide) rfl rfl rfl rfl (Nat.le_of_ble_eq_true rfl) hf dX11_bill_180 (fun r_5 σ_4 H locs O hf => ?_)
          refine lv_if_eq (tgt := 199) hx hb dX11_bill_183 (by decide) (fun c_6 => ?_) (fun c_6 => ?_)
          · have hf := hf.1 c_6
            refine lv_lconst (v := 0) hx hb dX11_bill_199 (by decide) ?_
            refine lv_lsub hx hb dX11_bill_200 ?_
            refine lv_lstore_n (lv' := [(3, .long (x3 - 0)), (0, .ref (q 0)), (1, .int x1), (2, .int x2), (5, .int x5), (7, .int x7)]) hx hb dX11_bill_201 rfl hl (by decide) rfl (fun ls hl => ?_)
            refine lv_iinc (v := x7 + 1) (lv' := [(7, .int (x7 + 1)), (3, .long (x3 - 0)), (0, .ref (q 0)), (1, .int x1), (2, .int x2), (5, .int x5)]) hx hb dX11_bill_202 hl (k := 5) rfl rfl (by decide) rfl (fun ls hl => ?_)
            refine lv_goto (tgt := 143) hx hb dX11_bill_205 (by decide) ?_
            exact ih x1 x2 (x3 - 0) x5 (x7 + 1) σ_4 _ _ ls O (lv_sub hl [2, 3, 4, 1, 5, 0] rfl) hf
          · have hf := hf.2 c_6
            refine lv_aload_n hx hb dX11_bill_186 rfl (lv_at hl 0 rfl) ?_
            refine r_get C O (k := 0) (j := 27) (v := .ref (q 20)) fX11_69 rfl rfl rfl dX11_bill_187 ?_
            refine lv_iload hx hb dX11_bill_190 (lv_at hl 5 rfl) ?_
            refine r_iald C O (k := 20) rfl hf.1 dX11_bill_192 ?_
            have hf := hf.2
            refine lv_iconst (v := 2) hx hb dX11_bill_193 (by decide) ?_
            refine lv_idiv hx hb dX11_bill_194 (by decide) ?_
            refine lv_i2l (v := ((σ_4.1 20 x7.toNatClampNeg) / 2).toInt64) hx hb dX11_bill_195 rfl ?_
            refine lv_goto (tgt := 200) hx hb dX11_bill_196 (by decide) ?_
            refine lv_lsub hx hb dX11_bill_200 ?_
            refine lv_topl (fun v_7 ev_7 => ?_)
            have hf := hf v_7 ev_7
            refine lv_lstore_n (lv' := [(3, .long v_7), (0, .ref (q 0)), (1, .int x1), (2, .int x2), (5, .int x5), (7, .int x7)]) hx hb dX11_bill_201 rfl hl (by decide) rfl (fun ls hl => ?_)
            refine lv_iinc (v := x7 + 1) (lv' := [(7, .int (x7 + 1)), (3, .long v_7), (0, .ref (q 0)), (1, .int x1), (2, .int x2), (5, .int x5)]) hx hb dX11_bill_202 hl (k := 5) rfl rfl (by decide) rfl (fun ls hl => ?_)
            refine lv_goto (tgt := 143) hx hb dX11_bill_205 (by decide) ?_
            exact ih x1 x2 v_7 x5 (x7 + 1) σ_4 _ _ ls O (lv_sub hl [2, 3, 4, 1, 5, 0] rfl) hf
def w_X11_bill_63 (Q : Int64 → St → Prop) : Nat → Int32 → Int32 → Int64 → Int32 → St → Prop
  | 0, _, _, _, _, _ => False
  | n + 1, x1, x2, x3, x5, σ => ((σ.1 0 36) ≤ x5 → ((0 ≤ (lg_cmp x3 0) → (Q x3 σ)) ∧ (¬ 0 ≤ (lg_cmp x3 0) → (Q 0 σ)))) ∧ (¬ (σ.1 0 36) ≤ x5 → (vp_in x5 16 ∧ ((¬ (σ.1 28 x5.toNatClampNeg) = ((-1)) → (w_X11_bill_63 Q n x1 x2 x3 (x5 + 1) σ)) ∧ ((σ.1 28 x5.toNatClampNeg) = ((-1)) → (vp_in x5 16 ∧ (((σ.1 33 x5.toNatClampNeg) = x1 → (vp_in x5 16 ∧ (vp_in x5 16 ∧ (w_X11_minutes (σ.1 29 x5.toNatClampNeg) (σ.1 30 x5.toNatClampNeg) σ (fun r_6 σ_5 => (¬ r_6 = 0 → (vp_in x2 4 ∧ (∀ v_8 : Int64, v_8 = (x3 + (((σ_5.1 9 x2.toNatClampNeg).toInt64) * r_6.toInt64)) → (∃ nn : Nat, w_X11_bill_143 Q (fun x1 x2 x3 x5 σ => w_X11_bill_63 Q n x1 x2 x3 x5 σ) nn x1 x2 v_8 x5 0 σ_5)))) ∧ (r_6 = 0 → (Q ((-1)) σ_5))))))) ∧ (¬ (σ.1 33 x5.toNatClampNeg) = x1 → (w_X11_bill_63 Q n x1 x2 x3 (x5 + 1) σ))))))))
set_option maxHeartbeats 4000000 in
set_option maxRecDepth 100000 in
theorem b_X11_bill_63 (C : CX p R s m args meth c cX11_bill 8 RX11 3 75 D cs) (hE : RLx p l e R s m args below meth c cX11_bill D cs LM q Q E) : ∀ n : Nat, ∀ (x1 : Int32) (x2 : Int32) (x3 : Int64) (x5 : Int32) (σ : St) (H : Heap) (locs : List Loc) (ls : Array Slot), OK D cs LM q s σ H locs → lv_has ls 8 [(0, .ref (q 0)), (1, .int x1), (2, .int x2), (3, .long x3), (5, .int x5)] → w_X11_bill_63 Q n x1 x2 x3 x5 σ → W p l e R s m args below meth c H locs 0 0 E (F0 m 63 ls []) := by
  have hx := C.1
  have hb := C.2.1
  intro n
  induction n with
  | zero => intro x1 x2 x3 x5 σ H locs ls O hl hf; exact hf.elim
  | succ n ih =>
    intro x1 x2 x3 x5 σ H locs ls O hl hf
    unfold w_X11_bill_63 at hf
    refine lv_iload hx hb dX11_bill_63 (lv_at hl 4 rfl) ?_
    refine lv_aload_n hx hb dX11_bill_65 rfl (lv_at hl 0 rfl) ?_
    refine r_get C O (k := 0) (j := 36) (v := .int (σ.1 0 36)) fX11_191 rfl rfl rfl dX11_bill_66 ?_
    refine lv_icmp_ge (tgt := 214) hx hb dX11_bill_69 (by decide) (fun c_1 => ?_) (fun c_1 => ?_)
    · have hf := hf.1 c_1
      refine lv_lload_n hx hb dX11_bill_214 rfl (lv_at hl 3 rfl) ?_
      refine lv_lconst (v := 0) hx hb dX11_bill_215 (by decide) ?_
      refine W.lcmp hx hb dX11_bill_216 ?_
      refine lv_if_ge (tgt := 224) hx hb dX11_bill_217 (by decide) (fun c_2 => ?_) (fun c_2 => ?_)
      · have hf := hf.1 c_2
        refine lv_lload_n hx hb dX11_bill_224 rfl (lv_at hl 3 rfl) ?_
        exact hE _ _ _ _ _ _ O hf dX11_bill_225
      · have hf := hf.2 c_2
        refine lv_lconst (v := 0) hx hb dX11_bill_220 (by decide) ?_
        refine lv_goto (tgt := 225) hx hb dX11_bill_221 (by decide) ?_
        exact hE _ _ _ _ _ _ O hf dX11_bill_225
    · have hf := hf.2 c_1
      refine lv_aload_n hx hb dX11_bill_72 rfl (lv_at hl 0 rfl) ?_
      refine r_get C O (k := 0) (j := 37) (v := .ref (q 28)) fX11_93 rfl rfl rfl dX11_bill_73 ?_
      refine lv_iload hx hb dX11_bill_76 (lv_at hl 4 rfl) ?_
      refine r_iald C O (k := 28) rfl hf.1 dX11_bill_78 ?_
      have hf := hf.2
      refine lv_iconst (v := (-1)) hx hb dX11_bill_79 (by decide) ?_
      refine lv_icmp_ne (tgt := 208) hx hb dX11_bill_80 (by decide) (fun c_3 => ?_) (fun c_3 => ?_)
      · have hf := hf.1 c_3
        refine lv_iinc (v := x5 + 1) (lv' := [(5, .int (x5 + 1)), (0, .ref (q 0)), (1, .int x1), (2, .int x2), (3, .long x3)]) hx hb dX11_bill_208 hl (k := 4) rfl rfl (by decide) rfl (fun ls hl => ?_)
        refine lv_goto (tgt := 63) hx hb dX11_bill_211 (by decide) ?_
        exact ih x1 x2 x3 (x5 + 1) σ _ _ ls O (lv_sub hl [1, 2, 3, 4, 0] rfl) hf
      · have hf := hf.2 c_3
        refine lv_aload_n hx hb dX11_bill_83 rfl (lv_at hl 0 rfl) ?_
        refine r_get C O (k := 0) (j := 42) (v := .ref (q 33)) fX11_108 rfl rfl rfl dX11_bill_84 ?_
        refine lv_iload hx hb dX11_bill_87 (lv_at hl 4 rfl) ?_
        refine r_iald C O (k := 33) rfl hf.1 dX11_bill_89 ?_
        have hf := hf.2
        refine lv_iload_n hx hb dX11_bill_90 rfl (lv_at hl 1 rfl) ?_
        refine lv_icmp_eq (tgt := 97) hx hb dX11_bill_91 (by decide) (fun c_4 => ?_) (fun c_4 => ?_)
        · have hf := hf.1 c_4
          refine lv_aload_n hx hb dX11_bill_97 rfl (lv_at hl 0 rfl) ?_
          refine lv_aload_n hx hb dX11_bill_98 rfl (lv_at hl 0 rfl) ?_
          refine r_get C O (k := 0) (j := 38) (v := .ref (q 29)) fX11_96 rfl rfl rfl dX11_bill_99 ?_
          refine lv_iload hx hb dX11_bill_102 (lv_at hl 4 rfl) ?_
          refine r_iald C O (k := 29) rfl hf.1 dX11_bill_104 ?_
          have hf := hf.2
          refine lv_aload_n hx hb dX11_bill_105 rfl (lv_at hl 0 rfl) ?_
          refine r_get C O (k := 0) (j := 39) (v := .ref (q 30)) fX11_99 rfl rfl rfl dX11_bill_106 ?_
          refine lv_iload hx hb dX11_bill_109 (lv_at hl 4 rfl) ?_
          refine r_iald C O (k := 30) rfl hf.1 dX11_bill_111 ?_
          have hf := hf.2
          refine r_callI C O hl (c_X11_minutes l (σ.1 29 x5.toNatClampNeg) (σ.1 30 x5.toNatClampNeg)) mX11_165 (by decide) rfl rfl rfl rfl (Nat.le_of_ble_eq_true rfl) hf dX11_bill_112 (fun r_6 σ_5 H locs O hf => ?_)
          refine lv_istore (lv' := [(6, .int r_6), (0, .ref (q 0)), (1, .int x1), (2, .int x2), (3, .long x3), (5, .int x5)]) hx hb dX11_bill_115 hl (by decide) rfl (fun ls hl => ?_)
          refine lv_iload hx hb dX11_bill_117 (lv_at hl 0 rfl) ?_
          refine lv_if_ne (tgt := 126) hx hb dX11_bill_119 (by decide) (fun c_7 => ?_) (fun c_7 => ?_)
          · have hf := hf.1 c_7
            refine lv_lload_n hx hb dX11_bill_126 rfl (lv_at hl 4 rfl) ?_
            refine lv_aload_n hx hb dX11_bill_127 rfl (lv_at hl 1 rfl) ?_
            refine r_get C O (k := 0) (j := 13) (v := .ref (q 9)) fX11_36 rfl rfl rfl dX11_bill_128 ?_
            refine lv_iload_n hx hb dX11_bill_131 rfl (lv_at hl 3 rfl) ?_
            refine r_iald C O (k := 9) rfl hf.1 dX11_bill_132 ?_
            have hf := hf.2
            refine lv_i2l (v := (σ_5.1 9 x2.toNatClampNeg).toInt64) hx hb dX11_bill_133 rfl ?_
            refine lv_iload hx hb dX11_bill_134 (lv_at hl 0 rfl) ?_
            refine lv_i2l (v := r_6.toInt64) hx hb dX11_bill_136 rfl ?_
            refine lv_lmul hx hb dX11_bill_137 ?_
            refine lv_ladd hx hb dX11_bill_138 ?_
            refine lv_topl (fun v_8 ev_8 => ?_)
            have hf := hf v_8 ev_8
            refine lv_lstore_n (lv' := [(3, .long v_8), (6, .int r_6), (0, .ref (q 0)), (1, .int x1), (2, .int x2), (5, .int x5)]) hx hb dX11_bill_139 rfl hl (by decide) rfl (fun ls hl => ?_)
            refine lv_iconst (v := 0) hx hb dX11_bill_140 (by decide) ?_
            refine lv_istore (lv' := [(7, .int 0), (3, .long v_8), (6, .int r_6), (0, .ref (q 0)), (1, .int x1), (2, .int x2), (5, .int x5)]) hx hb dX11_bill_141 hl (by decide) rfl (fun ls hl => ?_)
            obtain ⟨nn, hf⟩ := hf
            exact b_X11_bill_143 C hE ih nn x1 x2 v_8 x5 0 σ_5 _ _ ls O (lv_sub hl [3, 4, 5, 1, 6, 0] rfl) hf
          · have hf := hf.2 c_7
            refine lv_ldc2 (v := (-1)) hx hb C.2.2.2.1 (C.2.2.2.2.1 _ kX11_240) dX11_bill_122 ?_
            exact hE _ _ _ _ _ _ O hf dX11_bill_125
        · have hf := hf.2 c_4
          refine lv_goto (tgt := 208) hx hb dX11_bill_94 (by decide) ?_
          refine lv_iinc (v := x5 + 1) (lv' := [(5, .int (x5 + 1)), (0, .ref (q 0)), (1, .int x1), (2, .int x2), (3, .long x3)]) hx hb dX11_bill_208 hl (k := 4) rfl rfl (by decide) rfl (fun ls hl => ?_)
          refine lv_goto (tgt := 63) hx hb dX11_bill_211 (by decide) ?_
          exact ih x1 x2 x3 (x5 + 1) σ _ _ ls O (lv_sub hl [1, 2, 3, 4, 0] rfl) hf
def w_X11_bill (x1 : Int32) (σ : St) (Q : Int64 → St → Prop) : Prop := w_X11_isFlight x1 σ (fun r_2 σ_1 => (r_2 = 0 → (Q ((-1)) σ_1)) ∧ (¬ r_2 = 0 → (vp_in x1 20 ∧ ((¬ (σ_1.1 15 x1.toNatClampNeg) = ((-1)) → (vp_in x1 20 ∧ (w_X11_hand (σ_1.1 15 x1.toNatClampNeg) σ_1 (fun σ_5 => vp_in (σ_1.1 15 x1.toNatClampNeg) 4 ∧ (vp_in x1 20 ∧ (vp_in x1 20 ∧ (w_X11_minutes (σ_5.1 10 x1.toNatClampNeg) (σ_5.1 11 x1.toNatClampNeg) σ_5 (fun r_7 σ_6 => ∀ v_8 : Int64, v_8 = (((σ_5.1 9 (σ_1.1 15 x1.toNatClampNeg).toNatClampNeg).toInt64) * r_7.toInt64) → (∃ nn : Nat, w_X11_bill_63 Q nn x1 (σ_1.1 15 x1.toNatClampNeg) v_8 0 σ_6))))))))) ∧ ((σ_1.1 15 x1.toNatClampNeg) = ((-1)) → (Q ((-1)) σ_1))))))
set_option maxHeartbeats 4000000 in
set_option maxRecDepth 100000 in
theorem b_X11_bill (C : CX p R s m args meth c cX11_bill 8 RX11 3 75 D cs) (hE : RLx p l e R s m args below meth c cX11_bill D cs LM q Q E) : ∀ (x1 : Int32) (σ : St) (H : Heap) (locs : List Loc) (ls : Array Slot), OK D cs LM q s σ H locs → lv_has ls 8 [(0, .ref (q 0)), (1, .int x1)] → w_X11_bill x1 σ Q → W p l e R s m args below meth c H locs 0 0 E (F0 m 0 ls []) := by
  have hx := C.1
  have hb := C.2.1
  intro x1 σ H locs ls O hl hf
  unfold w_X11_bill at hf
  refine lv_aload_n hx hb dX11_bill_0 rfl (lv_at hl 0 rfl) ?_
  refine lv_iload_n hx hb dX11_bill_1 rfl (lv_at hl 1 rfl) ?_
  refine r_callI C O hl (c_X11_isFlight l x1) mX11_172 (by decide) rfl rfl rfl rfl (Nat.le_of_ble_eq_true rfl) hf dX11_bill_2 (fun r_2 σ_1 H locs O hf => ?_)
  refine lv_if_eq (tgt := 18) hx hb dX11_bill_5 (by decide) (fun c_3 => ?_) (fun c_3 => ?_)
  · have hf := hf.1 c_3
    refine lv_ldc2 (v := (-1)) hx hb C.2.2.2.1 (C.2.2.2.2.1 _ kX11_240) dX11_bill_18 ?_
    exact hE _ _ _ _ _ _ O hf dX11_bill_21
  · have hf := hf.2 c_3
    refine lv_aload_n hx hb dX11_bill_8 rfl (lv_at hl 0 rfl) ?_
    refine r_get C O (k := 0) (j := 20) (v := .ref (q 15)) fX11_54 rfl rfl rfl dX11_bill_9 ?_
    refine lv_iload_n hx hb dX11_bill_12 rfl (lv_at hl 1 rfl) ?_
    refine r_iald C O (k := 15) rfl hf.1 dX11_bill_13 ?_
    have hf := hf.2
    refine lv_iconst (v := (-1)) hx hb dX11_bill_14 (by decide) ?_
    refine lv_icmp_ne (tgt := 22) hx hb dX11_bill_15 (by decide) (fun c_4 => ?_) (fun c_4 => ?_)
    · have hf := hf.1 c_4
      refine lv_aload_n hx hb dX11_bill_22 rfl (lv_at hl 0 rfl) ?_
      refine r_get C O (k := 0) (j := 20) (v := .ref (q 15)) fX11_54 rfl rfl rfl dX11_bill_23 ?_
      refine lv_iload_n hx hb dX11_bill_26 rfl (lv_at hl 1 rfl) ?_
      refine r_iald C O (k := 15) rfl hf.1 dX11_bill_27 ?_
      have hf := hf.2
      refine lv_istore_n (lv' := [(2, .int (σ_1.1 15 x1.toNatClampNeg)), (0, .ref (q 0)), (1, .int x1)]) hx hb dX11_bill_28 rfl hl (by decide) rfl (fun ls hl => ?_)
      refine lv_aload_n hx hb dX11_bill_29 rfl (lv_at hl 1 rfl) ?_
      refine lv_iload_n hx hb dX11_bill_30 rfl (lv_at hl 0 rfl) ?_
      refine r_callV C O hl (c_X11_hand l (σ_1.1 15 x1.toNatClampNeg)) mX11_227 (by decide) rfl rfl rfl rfl (Nat.le_of_ble_eq_true rfl) hf dX11_bill_31 (fun σ_5 H locs O hf => ?_)
      refine lv_aload_n hx hb dX11_bill_34 rfl (lv_at hl 1 rfl) ?_
      refine r_get C O (k := 0) (j := 13) (v := .ref (q 9)) fX11_36 rfl rfl rfl dX11_bill_35 ?_
      refine lv_iload_n hx hb dX11_bill_38 rfl (lv_at hl 0 rfl) ?_
      refine r_iald C O (k := 9) rfl hf.1 dX11_bill_39 ?_
      have hf := hf.2
      refine lv_i2l (v := (σ_5.1 9 (σ_1.1 15 x1.toNatClampNeg).toNatClampNeg).toInt64) hx hb dX11_bill_40 rfl ?_
      refine lv_aload_n hx hb dX11_bill_41 rfl (lv_at hl 1 rfl) ?_
      refine lv_aload_n hx hb dX11_bill_42 rfl (lv_at hl 1 rfl) ?_
      refine r_get C O (k := 0) (j := 15) (v := .ref (q 10)) fX11_39 rfl rfl rfl dX11_bill_43 ?_
      refine lv_iload_n hx hb dX11_bill_46 rfl (lv_at hl 2 rfl) ?_
      refine r_iald C O (k := 10) rfl hf.1 dX11_bill_47 ?_
      have hf := hf.2
      refine lv_aload_n hx hb dX11_bill_48 rfl (lv_at hl 1 rfl) ?_
      refine r_get C O (k := 0) (j := 16) (v := .ref (q 11)) fX11_42 rfl rfl rfl dX11_bill_49 ?_
      refine lv_iload_n hx hb dX11_bill_52 rfl (lv_at hl 2 rfl) ?_
      refine r_iald C O (k := 11) rfl hf.1 dX11_bill_53 ?_
      have hf := hf.2
      refine r_callI C O hl (c_X11_minutes l (σ_5.1 10 x1.toNatClampNeg) (σ_5.1 11 x1.toNatClampNeg)) mX11_165 (by decide) rfl rfl rfl rfl (Nat.le_of_ble_eq_true rfl) hf dX11_bill_54 (fun r_7 σ_6 H locs O hf => ?_)
      refine lv_i2l (v := r_7.toInt64) hx hb dX11_bill_57 rfl ?_
      refine lv_lmul hx hb dX11_bill_58 ?_
      refine lv_topl (fun v_8 ev_8 => ?_)
      have hf := hf v_8 ev_8
      refine lv_lstore_n (lv' := [(3, .long v_8), (2, .int (σ_1.1 15 x1.toNatClampNeg)), (0, .ref (q 0)), (1, .int x1)]) hx hb dX11_bill_59 rfl hl (by decide) rfl (fun ls hl => ?_)
      refine lv_iconst (v := 0) hx hb dX11_bill_60 (by decide) ?_
      refine lv_istore (lv' := [(5, .int 0), (3, .long v_8), (2, .int (σ_1.1 15 x1.toNatClampNeg)), (0, .ref (q 0)), (1, .int x1)]) hx hb dX11_bill_61 hl (by decide) rfl (fun ls hl => ?_)
      obtain ⟨nn, hf⟩ := hf
      exact b_X11_bill_63 C hE nn x1 (σ_1.1 15 x1.toNatClampNeg) v_8 0 σ_6 _ _ ls O (lv_sub hl [3, 4, 2, 1, 0] rfl) hf
    · have hf := hf.2 c_4
      refine lv_ldc2 (v := (-1)) hx hb C.2.2.2.1 (C.2.2.2.2.1 _ kX11_240) dX11_bill_18 ?_
      exact hE _ _ _ _ _ _ O hf dX11_bill_21
theorem c_X11_bill (l : Launch) (x1 : Int32) : MetL l yX11_bill cX11_bill 8 3 75 LM 0 (fun q => [.int x1]) (w_X11_bill x1) := mk_L (own := RX11) (by decide) rfl (fun q => Nat.le_of_ble_eq_true rfl) (fun C hE O hl hf => b_X11_bill C hE x1 _ _ _ _ O hl hf)
end
section
variable {p : Program} {l : Launch} {e : Env} {R : Room} {s : State} {m : MethodId} {args : Array Value} {below : List Frame} {meth : Method} {c : Code} {E : State → Prop}
variable {D : va_G} {cs : Nat → ClassId} {q : Nat → Nat}
variable {Q : Int32 → St → Prop}
def w_X11_look (x1 : Int32) (x2 : Int32) (σ : St) (Q : Int32 → St → Prop) : Prop := w_X11_isFlight x1 σ (fun r_2 σ_1 => (¬ r_2 = 0 → ((x2 = 0 → (vp_in x1 20 ∧ (Q (σ_1.1 10 x1.toNatClampNeg) σ_1))) ∧ (x2 = 1 → (vp_in x1 20 ∧ (Q (σ_1.1 11 x1.toNatClampNeg) σ_1))) ∧ (x2 = 2 → (vp_in x1 20 ∧ (Q (σ_1.1 12 x1.toNatClampNeg) σ_1))) ∧ (x2 = 3 → (vp_in x1 20 ∧ (Q (σ_1.1 13 x1.toNatClampNeg) σ_1))) ∧ (x2 = 4 → (vp_in x1 20 ∧ (((σ_1.1 14 x1.toNatClampNeg) = 0 → (Q 0 σ_1)) ∧ (¬ (σ_1.1 14 x1.toNatClampNeg) = 0 → (Q 1 σ_1))))) ∧ (x2 = 5 → (vp_in x1 20 ∧ (vp_in x1 20 ∧ (w_X11_minutes (σ_1.1 10 x1.toNatClampNeg) (σ_1.1 11 x1.toNatClampNeg) σ_1 (fun r_12 σ_11 => Q r_12 σ_11))))) ∧ ((¬ x2 = 0 ∧ ¬ x2 = 1 ∧ ¬ x2 = 2 ∧ ¬ x2 = 3 ∧ ¬ x2 = 4 ∧ ¬ x2 = 5) → (Q ((-1)) σ_1)))) ∧ (r_2 = 0 → (Q ((-1)) σ_1)))
set_option maxHeartbeats 4000000 in
set_option maxRecDepth 100000 in
theorem b_X11_look (C : CX p R s m args meth c cX11_look 3 RX11 2 43 D cs) (hE : RI p l e R s m args below meth c cX11_look D cs LM q .int Q E) : ∀ (x1 : Int32) (x2 : Int32) (σ : St) (H : Heap) (locs : List Loc) (ls : Array Slot), OK D cs LM q s σ H locs → lv_has ls 3 [(0, .ref (q 0)), (1, .int x1), (2, .int x2)] → w_X11_look x1 x2 σ Q → W p l e R s m args below meth c H locs 0 0 E (F0 m 0 ls []) := by
  have hx := C.1
  have hb := C.2.1
  intro x1 x2 σ H locs ls O hl hf
  unfold w_X11_look at hf
  refine lv_aload_n hx hb dX11_look_0 rfl (lv_at hl 0 rfl) ?_
  refine lv_iload_n hx hb dX11_look_1 rfl (lv_at hl 1 rfl) ?_
  refine r_callI C O hl (c_X11_isFlight l x1) mX11_172 (by decide) rfl rfl rfl rfl (Nat.le_of_ble_eq_true rfl) hf dX11_look_2 (fun r_2 σ_1 H locs O hf => ?_)
  refine lv_if_ne (tgt := 10) hx hb dX11_look_5 (by decide) (fun c_3 => ?_) (fun c_3 => ?_)
  · have hf := hf.1 c_3
    refine lv_iload_n hx hb dX11_look_10 rfl (lv_at hl 2 rfl) ?_
    by_cases c_4 : x2 = 0
    · have hf := hf.1 c_4
      refine lv_tableIn (tgt := 48) hx hb dX11_look_11 (by rw [c_4]; decide) (by rw [c_4]; decide) (by rw [c_4]; rfl) (by decide) ?_
      refine lv_aload_n hx hb dX11_look_48 rfl (lv_at hl 0 rfl) ?_
      refine r_get C O (k := 0) (j := 15) (v := .ref (q 10)) fX11_39 rfl rfl rfl dX11_look_49 ?_
      refine lv_iload_n hx hb dX11_look_52 rfl (lv_at hl 1 rfl) ?_
      refine r_iald C O (k := 10) rfl hf.1 dX11_look_53 ?_
      have hf := hf.2
      exact hE _ _ _ _ _ _ (vp_nar_int _) O hf dX11_look_54
    by_cases c_5 : x2 = 1
    · have hf := hf.2.1 c_5
      refine lv_tableIn (tgt := 55) hx hb dX11_look_11 (by rw [c_5]; decide) (by rw [c_5]; decide) (by rw [c_5]; rfl) (by decide) ?_
      refine lv_aload_n hx hb dX11_look_55 rfl (lv_at hl 0 rfl) ?_
      refine r_get C O (k := 0) (j := 16) (v := .ref (q 11)) fX11_42 rfl rfl rfl dX11_look_56 ?_
      refine lv_iload_n hx hb dX11_look_59 rfl (lv_at hl 1 rfl) ?_
      refine r_iald C O (k := 11) rfl hf.1 dX11_look_60 ?_
      have hf := hf.2
      exact hE _ _ _ _ _ _ (vp_nar_int _) O hf dX11_look_61
    by_cases c_6 : x2 = 2
    · have hf := hf.2.2.1 c_6
      refine lv_tableIn (tgt := 62) hx hb dX11_look_11 (by rw [c_6]; decide) (by rw [c_6]; decide) (by rw [c_6]; rfl) (by decide) ?_
      refine lv_aload_n hx hb dX11_look_62 rfl (lv_at hl 0 rfl) ?_
      refine r_get C O (k := 0) (j := 17) (v := .ref (q 12)) fX11_45 rfl rfl rfl dX11_look_63 ?_
      refine lv_iload_n hx hb dX11_look_66 rfl (lv_at hl 1 rfl) ?_
      refine r_iald C O (k := 12) rfl hf.1 dX11_look_67 ?_
      have hf := hf.2
      exact hE _ _ _ _ _ _ (vp_nar_int _) O hf dX11_look_68
    by_cases c_7 : x2 = 3
    · have hf := hf.2.2.2.1 c_7
      refine lv_tableIn (tgt := 69) hx hb dX11_look_11 (by rw [c_7]; decide) (by rw [c_7]; decide) (by rw [c_7]; rfl) (by decide) ?_
      refine lv_aload_n hx hb dX11_look_69 rfl (lv_at hl 0 rfl) ?_
      refine r_get C O (k := 0) (j := 18) (v := .ref (q 13)) fX11_48 rfl rfl rfl dX11_look_70 ?_
      refine lv_iload_n hx hb dX11_look_73 rfl (lv_at hl 1 rfl) ?_
      refine r_iald C O (k := 13) rfl hf.1 dX11_look_74 ?_
      have hf := hf.2
      exact hE _ _ _ _ _ _ (vp_nar_int _) O hf dX11_look_75
    by_cases c_8 : x2 = 4
    · have hf := hf.2.2.2.2.1 c_8
      refine lv_tableIn (tgt := 76) hx hb dX11_look_11 (by rw [c_8]; decide) (by rw [c_8]; decide) (by rw [c_8]; rfl) (by decide) ?_
      refine lv_aload_n hx hb dX11_look_76 rfl (lv_at hl 0 rfl) ?_
      refine r_get C O (k := 0) (j := 19) (v := .ref (q 14)) fX11_51 rfl rfl rfl dX11_look_77 ?_
      refine lv_iload_n hx hb dX11_look_80 rfl (lv_at hl 1 rfl) ?_
      refine r_zald C O (k := 14) rfl hf.1 dX11_look_81 ?_
      have hf := hf.2
      refine lv_if_eq (tgt := 89) hx hb dX11_look_82 (by decide) (fun c_9 => ?_) (fun c_9 => ?_)
      · have hf := hf.1 c_9
        refine lv_iconst (v := 0) hx hb dX11_look_89 (by decide) ?_
        exact hE _ _ _ _ _ _ (vp_nar_int _) O hf dX11_look_90
      · have hf := hf.2 c_9
        refine lv_iconst (v := 1) hx hb dX11_look_85 (by decide) ?_
        refine lv_goto (tgt := 90) hx hb dX11_look_86 (by decide) ?_
        exact hE _ _ _ _ _ _ (vp_nar_int _) O hf dX11_look_90
    by_cases c_10 : x2 = 5
    · have hf := hf.2.2.2.2.2.1 c_10
      refine lv_tableIn (tgt := 91) hx hb dX11_look_11 (by rw [c_10]; decide) (by rw [c_10]; decide) (by rw [c_10]; rfl) (by decide) ?_
      refine lv_aload_n hx hb dX11_look_91 rfl (lv_at hl 0 rfl) ?_
      refine lv_aload_n hx hb dX11_look_92 rfl (lv_at hl 0 rfl) ?_
      refine r_get C O (k := 0) (j := 15) (v := .ref (q 10)) fX11_39 rfl rfl rfl dX11_look_93 ?_
      refine lv_iload_n hx hb dX11_look_96 rfl (lv_at hl 1 rfl) ?_
      refine r_iald C O (k := 10) rfl hf.1 dX11_look_97 ?_
      have hf := hf.2
      refine lv_aload_n hx hb dX11_look_98 rfl (lv_at hl 0 rfl) ?_
      refine r_get C O (k := 0) (j := 16) (v := .ref (q 11)) fX11_42 rfl rfl rfl dX11_look_99 ?_
      refine lv_iload_n hx hb dX11_look_102 rfl (lv_at hl 1 rfl) ?_
      refine r_iald C O (k := 11) rfl hf.1 dX11_look_103 ?_
      have hf := hf.2
      refine r_callI C O hl (c_X11_minutes l (σ_1.1 10 x1.toNatClampNeg) (σ_1.1 11 x1.toNatClampNeg)) mX11_165 (by decide) rfl rfl rfl rfl (Nat.le_of_ble_eq_true rfl) hf dX11_look_104 (fun r_12 σ_11 H locs O hf => ?_)
      exact hE _ _ _ _ _ _ (vp_nar_int _) O hf dX11_look_107
    have hf := hf.2.2.2.2.2.2 ⟨c_4, c_5, c_6, c_7, c_8, c_10⟩
    refine lv_tableOut (tgt := 108) hx hb dX11_look_11 (sw_out 5 (by decide) (fun k hk => by rcases (show k = 0 ∨ k = 1 ∨ k = 2 ∨ k = 3 ∨ k = 4 ∨ k = 5 by omega) with rfl | rfl | rfl | rfl | rfl | rfl <;> assumption)) (by decide) ?_
    refine lv_iconst (v := (-1)) hx hb dX11_look_108 (by decide) ?_
    exact hE _ _ _ _ _ _ (vp_nar_int _) O hf dX11_look_109
  · have hf := hf.2 c_3
    refine lv_iconst (v := (-1)) hx hb dX11_look_8 (by decide) ?_
    exact hE _ _ _ _ _ _ (vp_nar_int _) O hf dX11_look_9
theorem c_X11_look (l : Launch) (x1 : Int32) (x2 : Int32) : MetI l yX11_look cX11_look 3 .int 2 43 LM 0 (fun q => [.int x1, .int x2]) (w_X11_look x1 x2) := mk_I (own := RX11) (by decide) rfl (fun q => Nat.le_of_ble_eq_true rfl) (fun C hE O hl hf => b_X11_look C hE x1 x2 _ _ _ _ O hl hf)
end
section
variable {p : Program} {l : Launch} {e : Env} {R : Room} {s : State} {m : MethodId} {args : Array Value} {below : List Frame} {meth : Method} {c : Code} {E : State → Prop}
variable {D : va_G} {cs : Nat → ClassId} {q : Nat → Nat}
variable {Q : Int32 → St → Prop}
def w_X11_count_74 (Q : Int32 → St → Prop) : Nat → Int32 → Int32 → St → Prop
  | 0, _, _, _ => False
  | n + 1, x2, x3, σ => ((σ.1 0 9) ≤ x3 → (Q x2 σ)) ∧ (¬ (σ.1 0 9) ≤ x3 → (w_X11_hand x3 σ (fun σ_2 => w_X11_emptyMinutes σ_2 (fun r_4 σ_3 => w_X11_count_74 Q n (x2 + r_4) (x3 + 1) σ_3))))
set_option maxHeartbeats 4000000 in
set_option maxRecDepth 100000 in
theorem b_X11_count_74 (C : CX p R s m args meth c cX11_count 4 RX11 3 75 D cs) (hE : RI p l e R s m args below meth c cX11_count D cs LM q .int Q E) : ∀ n : Nat, ∀ (x2 : Int32) (x3 : Int32) (σ : St) (H : Heap) (locs : List Loc) (ls : Array Slot), OK D cs LM q s σ H locs → lv_has ls 4 [(0, .ref (q 0)), (2, .int x2), (3, .int x3)] → w_X11_count_74 Q n x2 x3 σ → W p l e R s m args below meth c H locs 0 0 E (F0 m 74 ls []) := by
  have hx := C.1
  have hb := C.2.1
  intro n
  induction n with
  | zero => intro x2 x3 σ H locs ls O hl hf; exact hf.elim
  | succ n ih =>
    intro x2 x3 σ H locs ls O hl hf
    unfold w_X11_count_74 at hf
    refine lv_iload_n hx hb dX11_count_74 rfl (lv_at hl 2 rfl) ?_
    refine lv_aload_n hx hb dX11_count_75 rfl (lv_at hl 0 rfl) ?_
    refine r_get C O (k := 0) (j := 9) (v := .int (σ.1 0 9)) fX11_162 rfl rfl rfl dX11_count_76 ?_
    refine lv_icmp_ge (tgt := 100) hx hb dX11_count_79 (by decide) (fun c_1 => ?_) (fun c_1 => ?_)
    · have hf := hf.1 c_1
      refine lv_iload_n hx hb dX11_count_100 rfl (lv_at hl 1 rfl) ?_
      exact hE _ _ _ _ _ _ (vp_nar_int _) O hf dX11_count_101
    · have hf := hf.2 c_1
      refine lv_aload_n hx hb dX11_count_82 rfl (lv_at hl 0 rfl) ?_
      refine lv_iload_n hx hb dX11_count_83 rfl (lv_at hl 2 rfl) ?_
      refine r_callV C O hl (c_X11_hand l x3) mX11_227 (by decide) rfl rfl rfl rfl (Nat.le_of_ble_eq_true rfl) hf dX11_count_84 (fun σ_2 H locs O hf => ?_)
      refine lv_iload_n hx hb dX11_count_87 rfl (lv_at hl 1 rfl) ?_
      refine lv_aload_n hx hb dX11_count_88 rfl (lv_at hl 0 rfl) ?_
      refine r_callI C O hl (c_X11_emptyMinutes l) mX11_211 (by decide) rfl rfl rfl rfl (Nat.le_of_ble_eq_true rfl) hf dX11_count_89 (fun r_4 σ_3 H locs O hf => ?_)
      refine lv_iadd hx hb dX11_count_92 ?_
      refine lv_istore_n (lv' := [(2, .int (x2 + r_4)), (0, .ref (q 0)), (3, .int x3)]) hx hb dX11_count_93 rfl hl (by decide) rfl (fun ls hl => ?_)
      refine lv_iinc (v := x3 + 1) (lv' := [(3, .int (x3 + 1)), (2, .int (x2 + r_4)), (0, .ref (q 0))]) hx hb dX11_count_94 hl (k := 2) rfl rfl (by decide) rfl (fun ls hl => ?_)
      refine lv_goto (tgt := 74) hx hb dX11_count_97 (by decide) ?_
      exact ih (x2 + r_4) (x3 + 1) σ_3 _ _ ls O (lv_sub hl [2, 1, 0] rfl) hf
def w_X11_count (x1 : Int32) (σ : St) (Q : Int32 → St → Prop) : Prop := (x1 = 0 → (Q (σ.1 0 9) σ)) ∧ (x1 = 1 → (Q (σ.1 0 14) σ)) ∧ (x1 = 2 → (w_X11_there σ (fun r_5 σ_4 => Q r_5 σ_4))) ∧ (x1 = 3 → (w_X11_flown σ (fun r_8 σ_7 => Q r_8 σ_7))) ∧ (x1 = 4 → (∃ nn : Nat, w_X11_count_74 Q nn 0 0 σ)) ∧ (x1 = 5 → (Q (σ.1 0 21) σ)) ∧ (x1 = 6 → (Q (σ.1 0 25) σ)) ∧ (x1 = 7 → (Q (σ.1 0 2) σ)) ∧ (x1 = 8 → (Q (σ.1 0 1) σ)) ∧ ((¬ x1 = 0 ∧ ¬ x1 = 1 ∧ ¬ x1 = 2 ∧ ¬ x1 = 3 ∧ ¬ x1 = 4 ∧ ¬ x1 = 5 ∧ ¬ x1 = 6 ∧ ¬ x1 = 7 ∧ ¬ x1 = 8) → (Q ((-1)) σ))
set_option maxHeartbeats 4000000 in
set_option maxRecDepth 100000 in
theorem b_X11_count (C : CX p R s m args meth c cX11_count 4 RX11 3 75 D cs) (hE : RI p l e R s m args below meth c cX11_count D cs LM q .int Q E) : ∀ (x1 : Int32) (σ : St) (H : Heap) (locs : List Loc) (ls : Array Slot), OK D cs LM q s σ H locs → lv_has ls 4 [(0, .ref (q 0)), (1, .int x1)] → w_X11_count x1 σ Q → W p l e R s m args below meth c H locs 0 0 E (F0 m 0 ls []) := by
  have hx := C.1
  have hb := C.2.1
  intro x1 σ H locs ls O hl hf
  unfold w_X11_count at hf
  refine lv_iconst (v := 0) hx hb dX11_count_0 (by decide) ?_
  refine lv_istore_n (lv' := [(2, .int 0), (0, .ref (q 0)), (1, .int x1)]) hx hb dX11_count_1 rfl hl (by decide) rfl (fun ls hl => ?_)
  refine lv_iload_n hx hb dX11_count_2 rfl (lv_at hl 2 rfl) ?_
  by_cases c_1 : x1 = 0
  · have hf := hf.1 c_1
    refine lv_tableIn (tgt := 52) hx hb dX11_count_3 (by rw [c_1]; decide) (by rw [c_1]; decide) (by rw [c_1]; rfl) (by decide) ?_
    refine lv_aload_n hx hb dX11_count_52 rfl (lv_at hl 1 rfl) ?_
    refine r_get C O (k := 0) (j := 9) (v := .int (σ.1 0 9)) fX11_162 rfl rfl rfl dX11_count_53 ?_
    exact hE _ _ _ _ _ _ (vp_nar_int _) O hf dX11_count_56
  by_cases c_2 : x1 = 1
  · have hf := hf.2.1 c_2
    refine lv_tableIn (tgt := 57) hx hb dX11_count_3 (by rw [c_2]; decide) (by rw [c_2]; decide) (by rw [c_2]; rfl) (by decide) ?_
    refine lv_aload_n hx hb dX11_count_57 rfl (lv_at hl 1 rfl) ?_
    refine r_get C O (k := 0) (j := 14) (v := .int (σ.1 0 14)) fX11_159 rfl rfl rfl dX11_count_58 ?_
    exact hE _ _ _ _ _ _ (vp_nar_int _) O hf dX11_count_61
  by_cases c_3 : x1 = 2
  · have hf := hf.2.2.1 c_3
    refine lv_tableIn (tgt := 62) hx hb dX11_count_3 (by rw [c_3]; decide) (by rw [c_3]; decide) (by rw [c_3]; rfl) (by decide) ?_
    refine lv_aload_n hx hb dX11_count_62 rfl (lv_at hl 1 rfl) ?_
    refine r_callI C O hl (c_X11_there l) mX11_168 (by decide) rfl rfl rfl rfl (Nat.le_of_ble_eq_true rfl) hf dX11_count_63 (fun r_5 σ_4 H locs O hf => ?_)
    exact hE _ _ _ _ _ _ (vp_nar_int _) O hf dX11_count_66
  by_cases c_6 : x1 = 3
  · have hf := hf.2.2.2.1 c_6
    refine lv_tableIn (tgt := 67) hx hb dX11_count_3 (by rw [c_6]; decide) (by rw [c_6]; decide) (by rw [c_6]; rfl) (by decide) ?_
    refine lv_aload_n hx hb dX11_count_67 rfl (lv_at hl 1 rfl) ?_
    refine r_callI C O hl (c_X11_flown l) mX11_224 (by decide) rfl rfl rfl rfl (Nat.le_of_ble_eq_true rfl) hf dX11_count_68 (fun r_8 σ_7 H locs O hf => ?_)
    exact hE _ _ _ _ _ _ (vp_nar_int _) O hf dX11_count_71
  by_cases c_9 : x1 = 4
  · have hf := hf.2.2.2.2.1 c_9
    refine lv_tableIn (tgt := 72) hx hb dX11_count_3 (by rw [c_9]; decide) (by rw [c_9]; decide) (by rw [c_9]; rfl) (by decide) ?_
    refine lv_iconst (v := 0) hx hb dX11_count_72 (by decide) ?_
    refine lv_istore_n (lv' := [(3, .int 0), (2, .int 0), (0, .ref (q 0)), (1, .int x1)]) hx hb dX11_count_73 rfl hl (by decide) rfl (fun ls hl => ?_)
    obtain ⟨nn, hf⟩ := hf
    exact b_X11_count_74 C hE nn 0 0 σ _ _ ls O (lv_sub hl [2, 1, 0] rfl) hf
  by_cases c_10 : x1 = 5
  · have hf := hf.2.2.2.2.2.1 c_10
    refine lv_tableIn (tgt := 102) hx hb dX11_count_3 (by rw [c_10]; decide) (by rw [c_10]; decide) (by rw [c_10]; rfl) (by decide) ?_
    refine lv_aload_n hx hb dX11_count_102 rfl (lv_at hl 1 rfl) ?_
    refine r_get C O (k := 0) (j := 21) (v := .int (σ.1 0 21)) fX11_179 rfl rfl rfl dX11_count_103 ?_
    exact hE _ _ _ _ _ _ (vp_nar_int _) O hf dX11_count_106
  by_cases c_11 : x1 = 6
  · have hf := hf.2.2.2.2.2.2.1 c_11
    refine lv_tableIn (tgt := 107) hx hb dX11_count_3 (by rw [c_11]; decide) (by rw [c_11]; decide) (by rw [c_11]; rfl) (by decide) ?_
    refine lv_aload_n hx hb dX11_count_107 rfl (lv_at hl 1 rfl) ?_
    refine r_get C O (k := 0) (j := 25) (v := .int (σ.1 0 25)) fX11_185 rfl rfl rfl dX11_count_108 ?_
    exact hE _ _ _ _ _ _ (vp_nar_int _) O hf dX11_count_111
  by_cases c_12 : x1 = 7
  · have hf := hf.2.2.2.2.2.2.2.1 c_12
    refine lv_tableIn (tgt := 112) hx hb dX11_count_3 (by rw [c_12]; decide) (by rw [c_12]; decide) (by rw [c_12]; rfl) (by decide) ?_
    refine lv_aload_n hx hb dX11_count_112 rfl (lv_at hl 1 rfl) ?_
    refine r_get C O (k := 0) (j := 2) (v := .int (σ.1 0 2)) fX11_182 rfl rfl rfl dX11_count_113 ?_
    exact hE _ _ _ _ _ _ (vp_nar_int _) O hf dX11_count_116
  by_cases c_13 : x1 = 8
  · have hf := hf.2.2.2.2.2.2.2.2.1 c_13
    refine lv_tableIn (tgt := 117) hx hb dX11_count_3 (by rw [c_13]; decide) (by rw [c_13]; decide) (by rw [c_13]; rfl) (by decide) ?_
    refine lv_aload_n hx hb dX11_count_117 rfl (lv_at hl 1 rfl) ?_
    refine r_get C O (k := 0) (j := 1) (v := .int (σ.1 0 1)) fX11_123 rfl rfl rfl dX11_count_118 ?_
    exact hE _ _ _ _ _ _ (vp_nar_int _) O hf dX11_count_121
  have hf := hf.2.2.2.2.2.2.2.2.2 ⟨c_1, c_2, c_3, c_6, c_9, c_10, c_11, c_12, c_13⟩
  refine lv_tableOut (tgt := 122) hx hb dX11_count_3 (sw_out 8 (by decide) (fun k hk => by rcases (show k = 0 ∨ k = 1 ∨ k = 2 ∨ k = 3 ∨ k = 4 ∨ k = 5 ∨ k = 6 ∨ k = 7 ∨ k = 8 by omega) with rfl | rfl | rfl | rfl | rfl | rfl | rfl | rfl | rfl <;> assumption)) (by decide) ?_
  refine lv_iconst (v := (-1)) hx hb dX11_count_122 (by decide) ?_
  exact hE _ _ _ _ _ _ (vp_nar_int _) O hf dX11_count_123
theorem c_X11_count (l : Launch) (x1 : Int32) : MetI l yX11_count cX11_count 4 .int 3 75 LM 0 (fun q => [.int x1]) (w_X11_count x1) := mk_I (own := RX11) (by decide) rfl (fun q => Nat.le_of_ble_eq_true rfl) (fun C hE O hl hf => b_X11_count C hE x1 _ _ _ _ O hl hf)
end
