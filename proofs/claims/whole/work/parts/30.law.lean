/-! ===== the law's loop ===== -/
def AL (s : State) : Nat → Prop := fun a => s.heap.size ≤ a
/-- both systems' worlds, apart -/
def OL (D : va_G) (cs : Nat → ClassId) (q q' : Nat → Nat) (s : State) (σ τ : St) (H : Heap) (locs : List Loc) : Prop :=
  va_P D vwCl (wd cs LC q σ) H ∧ va_P D vwCl (wd cs LM q' τ) H ∧ va_D (AL s) (wd cs LC q σ) ∧ va_D (AL s) (wd cs LM q' τ) ∧ (∀ i j : Nat, i < LC.length → j < LM.length → q i ≠ q' j) ∧ va_S (AL s) s.heap H locs
theorem wd_kept {D : va_G} {cs : Nat → ClassId} {L1 L2 : List Lay} {q1 q2 : Nat → Nat} {τ : St} {H H1 : Heap} (hP : va_P D vwCl (wd cs L2 q2 τ) H) (hne : ∀ i j : Nat, i < L1.length → j < L2.length → q1 i ≠ q2 j) (hk : ∀ a : Nat, a < H.size → ¬ Ar L1 q1 H.size a → H1[a]? = H[a]?) : va_P D vwCl (wd cs L2 q2 τ) H1 := by
  intro k x hx
  have hat := hP k x hx
  have hlt := hat.lt
  obtain ⟨y, hy, rfl⟩ := wd_inv hx
  refine hat.kept (hk _ hlt ?_)
  rintro (⟨i, hi, he⟩ | h)
  · exact hne i k hi (List.getElem?_eq_some_iff.mp hy).1 he.symm
  · exact absurd hlt (Nat.not_lt.mpr h)
section LAWCALLS
variable {p : Program} {l : Launch} {e : Env} {R : Room} {s : State} {m : MethodId} {args : Array Value} {below : List Frame} {meth : Method} {c : Code} {H : Heap} {locs : List Loc} {E : State → Prop} {cells slots : Nat}
variable {cc : ByteArray} {nL : Nat} {own : String} {fr lo : Nat} {D : va_G} {cs : Nat → ClassId} {q q' : Nat → Nat} {σ τ : St} {pc : Nat} {ls : Array Slot} {rest st : List Value} {lv : List (Nat × Value)}
variable {y : MethodName} {b : ByteArray} {nL' fr' lo' o idx n ci : Nat} {fs : List Fdx} {Cn : String} {as : (Nat → Nat) → List Value} {ret : FieldType}

theorem r_xI {w : St → (Int32 → St → Prop) → Prop} {Q : Int32 → St → Prop} (C : CX p R s m args meth c cc nL own fr lo D cs) (hcl : cells ≤ R.cells) (hsl : slots ≤ R.slots) (O : OL D cs q q' s σ τ H locs) (hl : lv_has ls nL lv) (hM : MetI l y b nL' ret fr' lo' LC 0 as w) (hm : MV own idx Cn y b nL' (some ret) n) (hroom : fr' + 1 ≤ fr ∧ 8 + (nL' + 11) + lo' ≤ lo) (hL : LC[0]? = some (.inr (ci, fs))) (hc : (vwCl[ci]?).map (fun z => z.1) = some Cn) (hn : (as q).length = n) (hst : st = (as q).reverse ++ .ref (q 0) :: rest) (hrs : (rest.map fun v => v.category).sum ≤ 8) (hw : w σ Q) (hd : decode cc pc = .ok (.invokevirtual idx, 3))
    (kk : ∀ (r : Int32) (σ1 : St) (H : Heap) (locs : List Loc), OL D cs q q' s σ1 τ H locs → Q r σ1 → W p l e R s m args below meth c H locs cells slots E (F0 m (pc + 3) ls (.int r :: rest))) : W p l e R s m args below meth c H locs cells slots E (F0 m pc ls st) := by
  obtain ⟨hx, hb, hml, hown, hts, hK, hN, hfr, hlo⟩ := C
  obtain ⟨hPx, hPm, hDx, hDm, hne, hS⟩ := O
  have hA : ∀ a, Ar LC q H.size a → AL s a := Ar_le hDx (fun a h => Nat.le_trans hS.1 h)
  obtain ⟨z, hz, hz2⟩ := Option.map_eq_some_iff.mp hc
  have hrec := va_recv (q0 := 0) hK hPx hz (wd_at hL)
  rw [hz2] at hrec
  refine va_calli (va_runV (As := as q) (rest := rest) ⟨hx, hb, hml, hown, hts⟩ (hM D cs q σ H.size Q) (cwV n hts (gV hm) rfl rfl rfl hm.2.2.2.2.2 ⟨Nat.le_trans hroom.1 hfr, Nat.le_trans hroom.2 hlo⟩) ⟨Pre_blind, hrec, fun U hU hW => ⟨rfl, by rw [hU], by rw [hU]; exact hPx, va_K.moved hW.alike hK, NW.warm hW hN, hDx.weaken (fun _ _ _ _ => trivial), hw⟩⟩ rfl hn hl.1 hst (lv_room hrs) hd ⟨hcl, hsl⟩) hS (fun a _ h => hA a h) hA (fun r σ1 t H1 locs1 ht hvm hq hB hz hk hS1 => ?_)
  exact kk r σ1 H1 locs1 ⟨by rw [← ht]; exact hB, wd_kept hPm hne hk, wd_D hDx, hDm, hne, hS1⟩ hq

theorem r_xL {w : St → (Int64 → St → Prop) → Prop} {Q : Int64 → St → Prop} (C : CX p R s m args meth c cc nL own fr lo D cs) (hcl : cells ≤ R.cells) (hsl : slots ≤ R.slots) (O : OL D cs q q' s σ τ H locs) (hl : lv_has ls nL lv) (hM : MetL l y b nL' fr' lo' LC 0 as w) (hm : MV own idx Cn y b nL' (some .long) n) (hroom : fr' + 1 ≤ fr ∧ 8 + (nL' + 11) + lo' ≤ lo) (hL : LC[0]? = some (.inr (ci, fs))) (hc : (vwCl[ci]?).map (fun z => z.1) = some Cn) (hn : (as q).length = n) (hst : st = (as q).reverse ++ .ref (q 0) :: rest) (hrs : (rest.map fun v => v.category).sum ≤ 8) (hw : w σ Q) (hd : decode cc pc = .ok (.invokevirtual idx, 3))
    (kk : ∀ (r : Int64) (σ1 : St) (H : Heap) (locs : List Loc), OL D cs q q' s σ1 τ H locs → Q r σ1 → W p l e R s m args below meth c H locs cells slots E (F0 m (pc + 3) ls (.long r :: rest))) : W p l e R s m args below meth c H locs cells slots E (F0 m pc ls st) := by
  obtain ⟨hx, hb, hml, hown, hts, hK, hN, hfr, hlo⟩ := C
  obtain ⟨hPx, hPm, hDx, hDm, hne, hS⟩ := O
  have hA : ∀ a, Ar LC q H.size a → AL s a := Ar_le hDx (fun a h => Nat.le_trans hS.1 h)
  obtain ⟨z, hz, hz2⟩ := Option.map_eq_some_iff.mp hc
  have hrec := va_recv (q0 := 0) hK hPx hz (wd_at hL)
  rw [hz2] at hrec
  refine va_calll (va_runV (As := as q) (rest := rest) ⟨hx, hb, hml, hown, hts⟩ (hM D cs q σ H.size Q) (cwV n hts (gV hm) rfl rfl rfl hm.2.2.2.2.2 ⟨Nat.le_trans hroom.1 hfr, Nat.le_trans hroom.2 hlo⟩) ⟨Pre_blind, hrec, fun U hU hW => ⟨rfl, by rw [hU], by rw [hU]; exact hPx, va_K.moved hW.alike hK, NW.warm hW hN, hDx.weaken (fun _ _ _ _ => trivial), hw⟩⟩ rfl hn hl.1 hst (lv_room hrs) hd ⟨hcl, hsl⟩) hS (fun a _ h => hA a h) hA (fun r σ1 t H1 locs1 ht hvm hq hB hz hk hS1 => ?_)
  exact kk r σ1 H1 locs1 ⟨by rw [← ht]; exact hB, wd_kept hPm hne hk, wd_D hDx, hDm, hne, hS1⟩ hq

theorem r_mI {w : St → (Int32 → St → Prop) → Prop} {Q : Int32 → St → Prop} (C : CX p R s m args meth c cc nL own fr lo D cs) (hcl : cells ≤ R.cells) (hsl : slots ≤ R.slots) (O : OL D cs q q' s σ τ H locs) (hl : lv_has ls nL lv) (hM : MetI l y b nL' ret fr' lo' LM 0 as w) (hm : MV own idx Cn y b nL' (some ret) n) (hroom : fr' + 1 ≤ fr ∧ 8 + (nL' + 11) + lo' ≤ lo) (hL : LM[0]? = some (.inr (ci, fs))) (hc : (vwCl[ci]?).map (fun z => z.1) = some Cn) (hn : (as q').length = n) (hst : st = (as q').reverse ++ .ref (q' 0) :: rest) (hrs : (rest.map fun v => v.category).sum ≤ 8) (hw : w τ Q) (hd : decode cc pc = .ok (.invokevirtual idx, 3))
    (kk : ∀ (r : Int32) (σ1 : St) (H : Heap) (locs : List Loc), OL D cs q q' s σ σ1 H locs → Q r σ1 → W p l e R s m args below meth c H locs cells slots E (F0 m (pc + 3) ls (.int r :: rest))) : W p l e R s m args below meth c H locs cells slots E (F0 m pc ls st) := by
  obtain ⟨hx, hb, hml, hown, hts, hK, hN, hfr, hlo⟩ := C
  obtain ⟨hPx, hPm, hDx, hDm, hne, hS⟩ := O
  have hA : ∀ a, Ar LM q' H.size a → AL s a := Ar_le hDm (fun a h => Nat.le_trans hS.1 h)
  obtain ⟨z, hz, hz2⟩ := Option.map_eq_some_iff.mp hc
  have hrec := va_recv (q0 := 0) hK hPm hz (wd_at hL)
  rw [hz2] at hrec
  refine va_calli (va_runV (As := as q') (rest := rest) ⟨hx, hb, hml, hown, hts⟩ (hM D cs q' τ H.size Q) (cwV n hts (gV hm) rfl rfl rfl hm.2.2.2.2.2 ⟨Nat.le_trans hroom.1 hfr, Nat.le_trans hroom.2 hlo⟩) ⟨Pre_blind, hrec, fun U hU hW => ⟨rfl, by rw [hU], by rw [hU]; exact hPm, va_K.moved hW.alike hK, NW.warm hW hN, hDm.weaken (fun _ _ _ _ => trivial), hw⟩⟩ rfl hn hl.1 hst (lv_room hrs) hd ⟨hcl, hsl⟩) hS (fun a _ h => hA a h) hA (fun r σ1 t H1 locs1 ht hvm hq hB hz hk hS1 => ?_)
  exact kk r σ1 H1 locs1 ⟨wd_kept hPx (fun i j hi hj h => hne j i hj hi h.symm) hk, by rw [← ht]; exact hB, hDx, wd_D hDm, hne, hS1⟩ hq

theorem r_mL {w : St → (Int64 → St → Prop) → Prop} {Q : Int64 → St → Prop} (C : CX p R s m args meth c cc nL own fr lo D cs) (hcl : cells ≤ R.cells) (hsl : slots ≤ R.slots) (O : OL D cs q q' s σ τ H locs) (hl : lv_has ls nL lv) (hM : MetL l y b nL' fr' lo' LM 0 as w) (hm : MV own idx Cn y b nL' (some .long) n) (hroom : fr' + 1 ≤ fr ∧ 8 + (nL' + 11) + lo' ≤ lo) (hL : LM[0]? = some (.inr (ci, fs))) (hc : (vwCl[ci]?).map (fun z => z.1) = some Cn) (hn : (as q').length = n) (hst : st = (as q').reverse ++ .ref (q' 0) :: rest) (hrs : (rest.map fun v => v.category).sum ≤ 8) (hw : w τ Q) (hd : decode cc pc = .ok (.invokevirtual idx, 3))
    (kk : ∀ (r : Int64) (σ1 : St) (H : Heap) (locs : List Loc), OL D cs q q' s σ σ1 H locs → Q r σ1 → W p l e R s m args below meth c H locs cells slots E (F0 m (pc + 3) ls (.long r :: rest))) : W p l e R s m args below meth c H locs cells slots E (F0 m pc ls st) := by
  obtain ⟨hx, hb, hml, hown, hts, hK, hN, hfr, hlo⟩ := C
  obtain ⟨hPx, hPm, hDx, hDm, hne, hS⟩ := O
  have hA : ∀ a, Ar LM q' H.size a → AL s a := Ar_le hDm (fun a h => Nat.le_trans hS.1 h)
  obtain ⟨z, hz, hz2⟩ := Option.map_eq_some_iff.mp hc
  have hrec := va_recv (q0 := 0) hK hPm hz (wd_at hL)
  rw [hz2] at hrec
  refine va_calll (va_runV (As := as q') (rest := rest) ⟨hx, hb, hml, hown, hts⟩ (hM D cs q' τ H.size Q) (cwV n hts (gV hm) rfl rfl rfl hm.2.2.2.2.2 ⟨Nat.le_trans hroom.1 hfr, Nat.le_trans hroom.2 hlo⟩) ⟨Pre_blind, hrec, fun U hU hW => ⟨rfl, by rw [hU], by rw [hU]; exact hPm, va_K.moved hW.alike hK, NW.warm hW hN, hDm.weaken (fun _ _ _ _ => trivial), hw⟩⟩ rfl hn hl.1 hst (lv_room hrs) hd ⟨hcl, hsl⟩) hS (fun a _ h => hA a h) hA (fun r σ1 t H1 locs1 ht hvm hq hB hz hk hS1 => ?_)
  exact kk r σ1 H1 locs1 ⟨wd_kept hPx (fun i j hi hj h => hne j i hj hi h.symm) hk, by rw [← ht]; exact hB, hDx, wd_D hDm, hne, hS1⟩ hq

end LAWCALLS
theorem law_le {L i : Nat} (hL : L ≤ 3072) (hi : i ≤ 3072) (h : ¬ nI L - 6 < nI i) : i + 6 ≤ L := by
  have e : (nI L - 6).toInt = (L : Int) - 6 := pk_sub_toInt (b := 6) (by omega) (by omega)
  rw [Int32.lt_iff_toInt_lt, e, nI_toInt (by omega)] at h
  omega
theorem law_in {L i k : Nat} (hL : L ≤ 3072) (h : i + 6 ≤ L) (hk : k < 6) : vp_in (nI i + nI k) L := by
  rw [nI_add]
  exact vp_in_nI (by omega) (by omega)
theorem lg_cmp_self (x : Int64) : lg_cmp x x = 0 := by simp [lg_cmp]

set_option maxHeartbeats 4000000 in
set_option maxRecDepth 100000 in
theorem law_loop {p : Program} {l : Launch} {e : Env} {s : State} {m : MethodId} {below : List Frame} {meth : Method} {c : Code} {D : va_G} {cs : Nat → ClassId} {q q' : Nat → Nat} {b L : Nat} {xs : Nat → Int32} (hL : L ≤ 3072) (C0 : lw_At p s m meth c b L xs) (C : CX p room_1 s m #[Value.ref b] meth c cL_law 4 "EmptyLegsLaw" 9 350 D cs) : ∀ (n i : Nat), i ≤ L → L + 1 ≤ i + n → ∀ (σ τ : St) (H : Heap) (locs : List Loc), Rel σ τ → OL D cs q q' s σ τ H locs → ∀ (ls : Array Slot), lv_has ls 4 [(0, .ref b), (1, .ref (q 0)), (2, .ref (q' 0)), (3, .int (nI i))] → W p l e room_1 s m #[Value.ref b] below meth c H locs 83 3832 (lw_Z below #[Value.ref b] s) (F0 m 18 ls []) := by
  obtain ⟨hx, hb, hr, hml, hown, hts, hX, hbl, hlocks, hgv⟩ := C0
  have hbA : ¬ AL s b := Nat.not_le.mpr hbl
  intro n
  induction n with
  | zero =>
    intro i h1 h2
    exact absurd h2 (by omega)
  | succ n ih =>
    intro i hi hin σ τ H locs hR O ls hl
    refine lv_iload_n hx hb dL_law_18 rfl (lv_at hl 3 rfl) ?_
    refine lv_aload_n hx hb dL_law_19 rfl (lv_at hl 0 rfl) ?_
    refine va_slen hx hb hX hbl hbA O.2.2.2.2.2 dL_law_20 ?_
    refine lv_bipush (v := 6) hx hb dL_law_21 (by decide) ?_
    refine lv_isub hx hb dL_law_23 ?_
    refine lv_icmp_gt (tgt := 805) hx hb dL_law_24 (by decide) (fun c_1 => ?_) (fun c_1 => ?_)
    · refine lv_iconst (v := 1) hx hb dL_law_805 (by decide) ?_
      refine va_forget (fun q hq => O.2.2.2.2.2.2.2 q hq) ?_
      exact lw_ret hx hb hr hlocks dL_law_806
    · have hi6 : i + 6 ≤ L := law_le hL (by omega) c_1
      refine lv_aload_n hx hb dL_law_27 rfl (lv_at hl 0 rfl) ?_
      refine lv_iload_n hx hb dL_law_28 rfl (lv_at hl 3 rfl) ?_
      refine va_sld hx hb hX hbl hbA O.2.2.2.2.2 (vp_in_nI (by omega) (by omega)) dL_law_29 ?_
      refine lv_bipush (v := 31) hx hb dL_law_30 (by decide) ?_
      refine lv_iand hx hb dL_law_32 ?_
      refine lv_topi (fun v ev => ?_)
      by_cases h_0 : v = 0
      · refine lv_tableIn (tgt := 128) hx hb dL_law_33 (by rw [h_0]; decide) (by rw [h_0]; decide) (by rw [h_0]; rfl) (by decide) ?_
        refine lv_aload_n hx hb dL_law_128 rfl (lv_at hl 1 rfl) ?_
        refine lv_aload_n hx hb dL_law_129 rfl (lv_at hl 0 rfl) ?_
        refine lv_iload_n hx hb dL_law_130 rfl (lv_at hl 3 rfl) ?_
        refine lv_iconst (v := nI 1) hx hb dL_law_131 (by decide) ?_
        refine lv_iadd hx hb dL_law_132 ?_
        refine va_sld hx hb hX hbl hbA O.2.2.2.2.2 (law_in hL hi6 (k := 1) (by decide)) dL_law_133 ?_
        refine lv_aload_n hx hb dL_law_134 rfl (lv_at hl 0 rfl) ?_
        refine lv_iload_n hx hb dL_law_135 rfl (lv_at hl 3 rfl) ?_
        refine lv_iconst (v := nI 2) hx hb dL_law_136 (by decide) ?_
        refine lv_iadd hx hb dL_law_137 ?_
        refine va_sld hx hb hX hbl hbA O.2.2.2.2.2 (law_in hL hi6 (k := 2) (by decide)) dL_law_138 ?_
        refine lv_aload_n hx hb dL_law_139 rfl (lv_at hl 0 rfl) ?_
        refine lv_iload_n hx hb dL_law_140 rfl (lv_at hl 3 rfl) ?_
        refine lv_iconst (v := nI 3) hx hb dL_law_141 (by decide) ?_
        refine lv_iadd hx hb dL_law_142 ?_
        refine va_sld hx hb hX hbl hbA O.2.2.2.2.2 (law_in hL hi6 (k := 3) (by decide)) dL_law_143 ?_
        refine lv_aload_n hx hb dL_law_144 rfl (lv_at hl 0 rfl) ?_
        refine lv_iload_n hx hb dL_law_145 rfl (lv_at hl 3 rfl) ?_
        refine lv_iconst (v := nI 4) hx hb dL_law_146 (by decide) ?_
        refine lv_iadd hx hb dL_law_147 ?_
        refine va_sld hx hb hX hbl hbA O.2.2.2.2.2 (law_in hL hi6 (k := 4) (by decide)) dL_law_148 ?_
        refine lv_aload_n hx hb dL_law_149 rfl (lv_at hl 0 rfl) ?_
        refine lv_iload_n hx hb dL_law_150 rfl (lv_at hl 3 rfl) ?_
        refine lv_iconst (v := nI 5) hx hb dL_law_151 (by decide) ?_
        refine lv_iadd hx hb dL_law_152 ?_
        refine va_sld hx hb hX hbl hbA O.2.2.2.2.2 (law_in hL hi6 (k := 5) (by decide)) dL_law_153 ?_
        have hf := sim_feed (xs (nI i + nI 1).toNatClampNeg) (xs (nI i + nI 2).toNatClampNeg) (xs (nI i + nI 3).toNatClampNeg) (xs (nI i + nI 4).toNatClampNeg) (xs (nI i + nI 5).toNatClampNeg) hR
        refine r_xI C (by decide) (by decide) O hl (c_X10_feed l (xs (nI i + nI 1).toNatClampNeg) (xs (nI i + nI 2).toNatClampNeg) (xs (nI i + nI 3).toNatClampNeg) (xs (nI i + nI 4).toNatClampNeg) (xs (nI i + nI 5).toNatClampNeg)) mL_13 (by decide) rfl rfl rfl rfl (Nat.le_of_ble_eq_true rfl) hf dL_law_154 (fun r1 σ1 H locs O hf => ?_)
        refine lv_aload_n hx hb dL_law_157 rfl (lv_at hl 2 rfl) ?_
        refine lv_aload_n hx hb dL_law_158 rfl (lv_at hl 0 rfl) ?_
        refine lv_iload_n hx hb dL_law_159 rfl (lv_at hl 3 rfl) ?_
        refine lv_iconst (v := nI 1) hx hb dL_law_160 (by decide) ?_
        refine lv_iadd hx hb dL_law_161 ?_
        refine va_sld hx hb hX hbl hbA O.2.2.2.2.2 (law_in hL hi6 (k := 1) (by decide)) dL_law_162 ?_
        refine lv_aload_n hx hb dL_law_163 rfl (lv_at hl 0 rfl) ?_
        refine lv_iload_n hx hb dL_law_164 rfl (lv_at hl 3 rfl) ?_
        refine lv_iconst (v := nI 2) hx hb dL_law_165 (by decide) ?_
        refine lv_iadd hx hb dL_law_166 ?_
        refine va_sld hx hb hX hbl hbA O.2.2.2.2.2 (law_in hL hi6 (k := 2) (by decide)) dL_law_167 ?_
        refine lv_aload_n hx hb dL_law_168 rfl (lv_at hl 0 rfl) ?_
        refine lv_iload_n hx hb dL_law_169 rfl (lv_at hl 3 rfl) ?_
        refine lv_iconst (v := nI 3) hx hb dL_law_170 (by decide) ?_
        refine lv_iadd hx hb dL_law_171 ?_
        refine va_sld hx hb hX hbl hbA O.2.2.2.2.2 (law_in hL hi6 (k := 3) (by decide)) dL_law_172 ?_
        refine lv_aload_n hx hb dL_law_173 rfl (lv_at hl 0 rfl) ?_
        refine lv_iload_n hx hb dL_law_174 rfl (lv_at hl 3 rfl) ?_
        refine lv_iconst (v := nI 4) hx hb dL_law_175 (by decide) ?_
        refine lv_iadd hx hb dL_law_176 ?_
        refine va_sld hx hb hX hbl hbA O.2.2.2.2.2 (law_in hL hi6 (k := 4) (by decide)) dL_law_177 ?_
        refine lv_aload_n hx hb dL_law_178 rfl (lv_at hl 0 rfl) ?_
        refine lv_iload_n hx hb dL_law_179 rfl (lv_at hl 3 rfl) ?_
        refine lv_iconst (v := nI 5) hx hb dL_law_180 (by decide) ?_
        refine lv_iadd hx hb dL_law_181 ?_
        refine va_sld hx hb hX hbl hbA O.2.2.2.2.2 (law_in hL hi6 (k := 5) (by decide)) dL_law_182 ?_
        refine r_mI C (by decide) (by decide) O hl (c_X11_feed l (xs (nI i + nI 1).toNatClampNeg) (xs (nI i + nI 2).toNatClampNeg) (xs (nI i + nI 3).toNatClampNeg) (xs (nI i + nI 4).toNatClampNeg) (xs (nI i + nI 5).toNatClampNeg)) mL_17 (by decide) rfl rfl rfl rfl (Nat.le_of_ble_eq_true rfl) hf dL_law_183 (fun r2 τ1 H locs O hf => ?_)
        refine lv_icmp_eq (tgt := 799) hx hb dL_law_186 (by decide) (fun cc1 => ?_) (fun cc1 => ?_)
        · refine lv_iinc (v := nI (i + 6)) (lv' := [(3, .int (nI (i + 6))), (0, .ref b), (1, .ref (q 0)), (2, .ref (q' 0))]) hx hb dL_law_799 hl (k := 3) rfl (nI_add i 6) (by decide) rfl (fun ls hl => ?_)
          refine lv_goto (tgt := 18) hx hb dL_law_802 (by decide) ?_
          exact ih (i + 6) (by omega) (by omega) _ _ _ _ hf.2 O ls (lv_sub hl [1, 2, 3, 0] rfl)
        · exact absurd hf.1 cc1
      by_cases h_1 : v = 1
      · refine lv_tableIn (tgt := 191) hx hb dL_law_33 (by rw [h_1]; decide) (by rw [h_1]; decide) (by rw [h_1]; rfl) (by decide) ?_
        refine lv_aload_n hx hb dL_law_191 rfl (lv_at hl 1 rfl) ?_
        refine lv_aload_n hx hb dL_law_192 rfl (lv_at hl 0 rfl) ?_
        refine lv_iload_n hx hb dL_law_193 rfl (lv_at hl 3 rfl) ?_
        refine lv_iconst (v := nI 1) hx hb dL_law_194 (by decide) ?_
        refine lv_iadd hx hb dL_law_195 ?_
        refine va_sld hx hb hX hbl hbA O.2.2.2.2.2 (law_in hL hi6 (k := 1) (by decide)) dL_law_196 ?_
        refine lv_aload_n hx hb dL_law_197 rfl (lv_at hl 0 rfl) ?_
        refine lv_iload_n hx hb dL_law_198 rfl (lv_at hl 3 rfl) ?_
        refine lv_iconst (v := nI 2) hx hb dL_law_199 (by decide) ?_
        refine lv_iadd hx hb dL_law_200 ?_
        refine va_sld hx hb hX hbl hbA O.2.2.2.2.2 (law_in hL hi6 (k := 2) (by decide)) dL_law_201 ?_
        have hf := sim_law (xs (nI i + nI 1).toNatClampNeg) (xs (nI i + nI 2).toNatClampNeg) hR
        refine r_xI C (by decide) (by decide) O hl (c_X10_law l (xs (nI i + nI 1).toNatClampNeg) (xs (nI i + nI 2).toNatClampNeg)) mL_18 (by decide) rfl rfl rfl rfl (Nat.le_of_ble_eq_true rfl) hf dL_law_202 (fun r1 σ1 H locs O hf => ?_)
        refine lv_aload_n hx hb dL_law_205 rfl (lv_at hl 2 rfl) ?_
        refine lv_aload_n hx hb dL_law_206 rfl (lv_at hl 0 rfl) ?_
        refine lv_iload_n hx hb dL_law_207 rfl (lv_at hl 3 rfl) ?_
        refine lv_iconst (v := nI 1) hx hb dL_law_208 (by decide) ?_
        refine lv_iadd hx hb dL_law_209 ?_
        refine va_sld hx hb hX hbl hbA O.2.2.2.2.2 (law_in hL hi6 (k := 1) (by decide)) dL_law_210 ?_
        refine lv_aload_n hx hb dL_law_211 rfl (lv_at hl 0 rfl) ?_
        refine lv_iload_n hx hb dL_law_212 rfl (lv_at hl 3 rfl) ?_
        refine lv_iconst (v := nI 2) hx hb dL_law_213 (by decide) ?_
        refine lv_iadd hx hb dL_law_214 ?_
        refine va_sld hx hb hX hbl hbA O.2.2.2.2.2 (law_in hL hi6 (k := 2) (by decide)) dL_law_215 ?_
        refine r_mI C (by decide) (by decide) O hl (c_X11_law l (xs (nI i + nI 1).toNatClampNeg) (xs (nI i + nI 2).toNatClampNeg)) mL_22 (by decide) rfl rfl rfl rfl (Nat.le_of_ble_eq_true rfl) hf dL_law_216 (fun r2 τ1 H locs O hf => ?_)
        refine lv_icmp_eq (tgt := 799) hx hb dL_law_219 (by decide) (fun cc1 => ?_) (fun cc1 => ?_)
        · refine lv_iinc (v := nI (i + 6)) (lv' := [(3, .int (nI (i + 6))), (0, .ref b), (1, .ref (q 0)), (2, .ref (q' 0))]) hx hb dL_law_799 hl (k := 3) rfl (nI_add i 6) (by decide) rfl (fun ls hl => ?_)
          refine lv_goto (tgt := 18) hx hb dL_law_802 (by decide) ?_
          exact ih (i + 6) (by omega) (by omega) _ _ _ _ hf.2 O ls (lv_sub hl [1, 2, 3, 0] rfl)
        · exact absurd hf.1 cc1
      by_cases h_2 : v = 2
      · refine lv_tableIn (tgt := 224) hx hb dL_law_33 (by rw [h_2]; decide) (by rw [h_2]; decide) (by rw [h_2]; rfl) (by decide) ?_
        refine lv_aload_n hx hb dL_law_224 rfl (lv_at hl 1 rfl) ?_
        refine lv_aload_n hx hb dL_law_225 rfl (lv_at hl 0 rfl) ?_
        refine lv_iload_n hx hb dL_law_226 rfl (lv_at hl 3 rfl) ?_
        refine lv_iconst (v := nI 1) hx hb dL_law_227 (by decide) ?_
        refine lv_iadd hx hb dL_law_228 ?_
        refine va_sld hx hb hX hbl hbA O.2.2.2.2.2 (law_in hL hi6 (k := 1) (by decide)) dL_law_229 ?_
        refine lv_aload_n hx hb dL_law_230 rfl (lv_at hl 0 rfl) ?_
        refine lv_iload_n hx hb dL_law_231 rfl (lv_at hl 3 rfl) ?_
        refine lv_iconst (v := nI 2) hx hb dL_law_232 (by decide) ?_
        refine lv_iadd hx hb dL_law_233 ?_
        refine va_sld hx hb hX hbl hbA O.2.2.2.2.2 (law_in hL hi6 (k := 2) (by decide)) dL_law_234 ?_
        have hf := sim_rule (xs (nI i + nI 1).toNatClampNeg) (xs (nI i + nI 2).toNatClampNeg) hR
        refine r_xI C (by decide) (by decide) O hl (c_X10_rule l (xs (nI i + nI 1).toNatClampNeg) (xs (nI i + nI 2).toNatClampNeg)) mL_23 (by decide) rfl rfl rfl rfl (Nat.le_of_ble_eq_true rfl) hf dL_law_235 (fun r1 σ1 H locs O hf => ?_)
        refine lv_aload_n hx hb dL_law_238 rfl (lv_at hl 2 rfl) ?_
        refine lv_aload_n hx hb dL_law_239 rfl (lv_at hl 0 rfl) ?_
        refine lv_iload_n hx hb dL_law_240 rfl (lv_at hl 3 rfl) ?_
        refine lv_iconst (v := nI 1) hx hb dL_law_241 (by decide) ?_
        refine lv_iadd hx hb dL_law_242 ?_
        refine va_sld hx hb hX hbl hbA O.2.2.2.2.2 (law_in hL hi6 (k := 1) (by decide)) dL_law_243 ?_
        refine lv_aload_n hx hb dL_law_244 rfl (lv_at hl 0 rfl) ?_
        refine lv_iload_n hx hb dL_law_245 rfl (lv_at hl 3 rfl) ?_
        refine lv_iconst (v := nI 2) hx hb dL_law_246 (by decide) ?_
        refine lv_iadd hx hb dL_law_247 ?_
        refine va_sld hx hb hX hbl hbA O.2.2.2.2.2 (law_in hL hi6 (k := 2) (by decide)) dL_law_248 ?_
        refine r_mI C (by decide) (by decide) O hl (c_X11_rule l (xs (nI i + nI 1).toNatClampNeg) (xs (nI i + nI 2).toNatClampNeg)) mL_26 (by decide) rfl rfl rfl rfl (Nat.le_of_ble_eq_true rfl) hf dL_law_249 (fun r2 τ1 H locs O hf => ?_)
        refine lv_icmp_eq (tgt := 799) hx hb dL_law_252 (by decide) (fun cc1 => ?_) (fun cc1 => ?_)
        · refine lv_iinc (v := nI (i + 6)) (lv' := [(3, .int (nI (i + 6))), (0, .ref b), (1, .ref (q 0)), (2, .ref (q' 0))]) hx hb dL_law_799 hl (k := 3) rfl (nI_add i 6) (by decide) rfl (fun ls hl => ?_)
          refine lv_goto (tgt := 18) hx hb dL_law_802 (by decide) ?_
          exact ih (i + 6) (by omega) (by omega) _ _ _ _ hf.2 O ls (lv_sub hl [1, 2, 3, 0] rfl)
        · exact absurd hf.1 cc1
      by_cases h_3 : v = 3
      · refine lv_tableIn (tgt := 257) hx hb dL_law_33 (by rw [h_3]; decide) (by rw [h_3]; decide) (by rw [h_3]; rfl) (by decide) ?_
        refine lv_aload_n hx hb dL_law_257 rfl (lv_at hl 1 rfl) ?_
        refine lv_aload_n hx hb dL_law_258 rfl (lv_at hl 0 rfl) ?_
        refine lv_iload_n hx hb dL_law_259 rfl (lv_at hl 3 rfl) ?_
        refine lv_iconst (v := nI 1) hx hb dL_law_260 (by decide) ?_
        refine lv_iadd hx hb dL_law_261 ?_
        refine va_sld hx hb hX hbl hbA O.2.2.2.2.2 (law_in hL hi6 (k := 1) (by decide)) dL_law_262 ?_
        refine lv_aload_n hx hb dL_law_263 rfl (lv_at hl 0 rfl) ?_
        refine lv_iload_n hx hb dL_law_264 rfl (lv_at hl 3 rfl) ?_
        refine lv_iconst (v := nI 2) hx hb dL_law_265 (by decide) ?_
        refine lv_iadd hx hb dL_law_266 ?_
        refine va_sld hx hb hX hbl hbA O.2.2.2.2.2 (law_in hL hi6 (k := 2) (by decide)) dL_law_267 ?_
        refine lv_aload_n hx hb dL_law_268 rfl (lv_at hl 0 rfl) ?_
        refine lv_iload_n hx hb dL_law_269 rfl (lv_at hl 3 rfl) ?_
        refine lv_iconst (v := nI 3) hx hb dL_law_270 (by decide) ?_
        refine lv_iadd hx hb dL_law_271 ?_
        refine va_sld hx hb hX hbl hbA O.2.2.2.2.2 (law_in hL hi6 (k := 3) (by decide)) dL_law_272 ?_
        have hf := sim_way (xs (nI i + nI 1).toNatClampNeg) (xs (nI i + nI 2).toNatClampNeg) (xs (nI i + nI 3).toNatClampNeg) hR
        refine r_xI C (by decide) (by decide) O hl (c_X10_way l (xs (nI i + nI 1).toNatClampNeg) (xs (nI i + nI 2).toNatClampNeg) (xs (nI i + nI 3).toNatClampNeg)) mL_27 (by decide) rfl rfl rfl rfl (Nat.le_of_ble_eq_true rfl) hf dL_law_273 (fun r1 σ1 H locs O hf => ?_)
        refine lv_aload_n hx hb dL_law_276 rfl (lv_at hl 2 rfl) ?_
        refine lv_aload_n hx hb dL_law_277 rfl (lv_at hl 0 rfl) ?_
        refine lv_iload_n hx hb dL_law_278 rfl (lv_at hl 3 rfl) ?_
        refine lv_iconst (v := nI 1) hx hb dL_law_279 (by decide) ?_
        refine lv_iadd hx hb dL_law_280 ?_
        refine va_sld hx hb hX hbl hbA O.2.2.2.2.2 (law_in hL hi6 (k := 1) (by decide)) dL_law_281 ?_
        refine lv_aload_n hx hb dL_law_282 rfl (lv_at hl 0 rfl) ?_
        refine lv_iload_n hx hb dL_law_283 rfl (lv_at hl 3 rfl) ?_
        refine lv_iconst (v := nI 2) hx hb dL_law_284 (by decide) ?_
        refine lv_iadd hx hb dL_law_285 ?_
        refine va_sld hx hb hX hbl hbA O.2.2.2.2.2 (law_in hL hi6 (k := 2) (by decide)) dL_law_286 ?_
        refine lv_aload_n hx hb dL_law_287 rfl (lv_at hl 0 rfl) ?_
        refine lv_iload_n hx hb dL_law_288 rfl (lv_at hl 3 rfl) ?_
        refine lv_iconst (v := nI 3) hx hb dL_law_289 (by decide) ?_
        refine lv_iadd hx hb dL_law_290 ?_
        refine va_sld hx hb hX hbl hbA O.2.2.2.2.2 (law_in hL hi6 (k := 3) (by decide)) dL_law_291 ?_
        refine r_mI C (by decide) (by decide) O hl (c_X11_way l (xs (nI i + nI 1).toNatClampNeg) (xs (nI i + nI 2).toNatClampNeg) (xs (nI i + nI 3).toNatClampNeg)) mL_31 (by decide) rfl rfl rfl rfl (Nat.le_of_ble_eq_true rfl) hf dL_law_292 (fun r2 τ1 H locs O hf => ?_)
        refine lv_icmp_eq (tgt := 799) hx hb dL_law_295 (by decide) (fun cc1 => ?_) (fun cc1 => ?_)
        · refine lv_iinc (v := nI (i + 6)) (lv' := [(3, .int (nI (i + 6))), (0, .ref b), (1, .ref (q 0)), (2, .ref (q' 0))]) hx hb dL_law_799 hl (k := 3) rfl (nI_add i 6) (by decide) rfl (fun ls hl => ?_)
          refine lv_goto (tgt := 18) hx hb dL_law_802 (by decide) ?_
          exact ih (i + 6) (by omega) (by omega) _ _ _ _ hf.2 O ls (lv_sub hl [1, 2, 3, 0] rfl)
        · exact absurd hf.1 cc1
      by_cases h_4 : v = 4
      · refine lv_tableIn (tgt := 300) hx hb dL_law_33 (by rw [h_4]; decide) (by rw [h_4]; decide) (by rw [h_4]; rfl) (by decide) ?_
        refine lv_aload_n hx hb dL_law_300 rfl (lv_at hl 1 rfl) ?_
        refine lv_aload_n hx hb dL_law_301 rfl (lv_at hl 0 rfl) ?_
        refine lv_iload_n hx hb dL_law_302 rfl (lv_at hl 3 rfl) ?_
        refine lv_iconst (v := nI 1) hx hb dL_law_303 (by decide) ?_
        refine lv_iadd hx hb dL_law_304 ?_
        refine va_sld hx hb hX hbl hbA O.2.2.2.2.2 (law_in hL hi6 (k := 1) (by decide)) dL_law_305 ?_
        refine lv_aload_n hx hb dL_law_306 rfl (lv_at hl 0 rfl) ?_
        refine lv_iload_n hx hb dL_law_307 rfl (lv_at hl 3 rfl) ?_
        refine lv_iconst (v := nI 2) hx hb dL_law_308 (by decide) ?_
        refine lv_iadd hx hb dL_law_309 ?_
        refine va_sld hx hb hX hbl hbA O.2.2.2.2.2 (law_in hL hi6 (k := 2) (by decide)) dL_law_310 ?_
        refine lv_aload_n hx hb dL_law_311 rfl (lv_at hl 0 rfl) ?_
        refine lv_iload_n hx hb dL_law_312 rfl (lv_at hl 3 rfl) ?_
        refine lv_iconst (v := nI 3) hx hb dL_law_313 (by decide) ?_
        refine lv_iadd hx hb dL_law_314 ?_
        refine va_sld hx hb hX hbl hbA O.2.2.2.2.2 (law_in hL hi6 (k := 3) (by decide)) dL_law_315 ?_
        refine lv_aload_n hx hb dL_law_316 rfl (lv_at hl 0 rfl) ?_
        refine lv_iload_n hx hb dL_law_317 rfl (lv_at hl 3 rfl) ?_
        refine lv_iconst (v := nI 4) hx hb dL_law_318 (by decide) ?_
        refine lv_iadd hx hb dL_law_319 ?_
        refine va_sld hx hb hX hbl hbA O.2.2.2.2.2 (law_in hL hi6 (k := 4) (by decide)) dL_law_320 ?_
        have hf := sim_plane (xs (nI i + nI 1).toNatClampNeg) (xs (nI i + nI 2).toNatClampNeg) (xs (nI i + nI 3).toNatClampNeg) (xs (nI i + nI 4).toNatClampNeg) hR
        refine r_xI C (by decide) (by decide) O hl (c_X10_plane l (xs (nI i + nI 1).toNatClampNeg) (xs (nI i + nI 2).toNatClampNeg) (xs (nI i + nI 3).toNatClampNeg) (xs (nI i + nI 4).toNatClampNeg)) mL_32 (by decide) rfl rfl rfl rfl (Nat.le_of_ble_eq_true rfl) hf dL_law_321 (fun r1 σ1 H locs O hf => ?_)
        refine lv_aload_n hx hb dL_law_324 rfl (lv_at hl 2 rfl) ?_
        refine lv_aload_n hx hb dL_law_325 rfl (lv_at hl 0 rfl) ?_
        refine lv_iload_n hx hb dL_law_326 rfl (lv_at hl 3 rfl) ?_
        refine lv_iconst (v := nI 1) hx hb dL_law_327 (by decide) ?_
        refine lv_iadd hx hb dL_law_328 ?_
        refine va_sld hx hb hX hbl hbA O.2.2.2.2.2 (law_in hL hi6 (k := 1) (by decide)) dL_law_329 ?_
        refine lv_aload_n hx hb dL_law_330 rfl (lv_at hl 0 rfl) ?_
        refine lv_iload_n hx hb dL_law_331 rfl (lv_at hl 3 rfl) ?_
        refine lv_iconst (v := nI 2) hx hb dL_law_332 (by decide) ?_
        refine lv_iadd hx hb dL_law_333 ?_
        refine va_sld hx hb hX hbl hbA O.2.2.2.2.2 (law_in hL hi6 (k := 2) (by decide)) dL_law_334 ?_
        refine lv_aload_n hx hb dL_law_335 rfl (lv_at hl 0 rfl) ?_
        refine lv_iload_n hx hb dL_law_336 rfl (lv_at hl 3 rfl) ?_
        refine lv_iconst (v := nI 3) hx hb dL_law_337 (by decide) ?_
        refine lv_iadd hx hb dL_law_338 ?_
        refine va_sld hx hb hX hbl hbA O.2.2.2.2.2 (law_in hL hi6 (k := 3) (by decide)) dL_law_339 ?_
        refine lv_aload_n hx hb dL_law_340 rfl (lv_at hl 0 rfl) ?_
        refine lv_iload_n hx hb dL_law_341 rfl (lv_at hl 3 rfl) ?_
        refine lv_iconst (v := nI 4) hx hb dL_law_342 (by decide) ?_
        refine lv_iadd hx hb dL_law_343 ?_
        refine va_sld hx hb hX hbl hbA O.2.2.2.2.2 (law_in hL hi6 (k := 4) (by decide)) dL_law_344 ?_
        refine r_mI C (by decide) (by decide) O hl (c_X11_plane l (xs (nI i + nI 1).toNatClampNeg) (xs (nI i + nI 2).toNatClampNeg) (xs (nI i + nI 3).toNatClampNeg) (xs (nI i + nI 4).toNatClampNeg)) mL_36 (by decide) rfl rfl rfl rfl (Nat.le_of_ble_eq_true rfl) hf dL_law_345 (fun r2 τ1 H locs O hf => ?_)
        refine lv_icmp_eq (tgt := 799) hx hb dL_law_348 (by decide) (fun cc1 => ?_) (fun cc1 => ?_)
        · refine lv_iinc (v := nI (i + 6)) (lv' := [(3, .int (nI (i + 6))), (0, .ref b), (1, .ref (q 0)), (2, .ref (q' 0))]) hx hb dL_law_799 hl (k := 3) rfl (nI_add i 6) (by decide) rfl (fun ls hl => ?_)
          refine lv_goto (tgt := 18) hx hb dL_law_802 (by decide) ?_
          exact ih (i + 6) (by omega) (by omega) _ _ _ _ hf.2 O ls (lv_sub hl [1, 2, 3, 0] rfl)
        · exact absurd hf.1 cc1
      by_cases h_5 : v = 5
      · refine lv_tableIn (tgt := 353) hx hb dL_law_33 (by rw [h_5]; decide) (by rw [h_5]; decide) (by rw [h_5]; rfl) (by decide) ?_
        refine lv_aload_n hx hb dL_law_353 rfl (lv_at hl 1 rfl) ?_
        refine lv_aload_n hx hb dL_law_354 rfl (lv_at hl 0 rfl) ?_
        refine lv_iload_n hx hb dL_law_355 rfl (lv_at hl 3 rfl) ?_
        refine lv_iconst (v := nI 1) hx hb dL_law_356 (by decide) ?_
        refine lv_iadd hx hb dL_law_357 ?_
        refine va_sld hx hb hX hbl hbA O.2.2.2.2.2 (law_in hL hi6 (k := 1) (by decide)) dL_law_358 ?_
        refine lv_aload_n hx hb dL_law_359 rfl (lv_at hl 0 rfl) ?_
        refine lv_iload_n hx hb dL_law_360 rfl (lv_at hl 3 rfl) ?_
        refine lv_iconst (v := nI 2) hx hb dL_law_361 (by decide) ?_
        refine lv_iadd hx hb dL_law_362 ?_
        refine va_sld hx hb hX hbl hbA O.2.2.2.2.2 (law_in hL hi6 (k := 2) (by decide)) dL_law_363 ?_
        refine lv_aload_n hx hb dL_law_364 rfl (lv_at hl 0 rfl) ?_
        refine lv_iload_n hx hb dL_law_365 rfl (lv_at hl 3 rfl) ?_
        refine lv_iconst (v := nI 3) hx hb dL_law_366 (by decide) ?_
        refine lv_iadd hx hb dL_law_367 ?_
        refine va_sld hx hb hX hbl hbA O.2.2.2.2.2 (law_in hL hi6 (k := 3) (by decide)) dL_law_368 ?_
        refine lv_aload_n hx hb dL_law_369 rfl (lv_at hl 0 rfl) ?_
        refine lv_iload_n hx hb dL_law_370 rfl (lv_at hl 3 rfl) ?_
        refine lv_iconst (v := nI 4) hx hb dL_law_371 (by decide) ?_
        refine lv_iadd hx hb dL_law_372 ?_
        refine va_sld hx hb hX hbl hbA O.2.2.2.2.2 (law_in hL hi6 (k := 4) (by decide)) dL_law_373 ?_
        have hf := sim_flight (xs (nI i + nI 1).toNatClampNeg) (xs (nI i + nI 2).toNatClampNeg) (xs (nI i + nI 3).toNatClampNeg) (xs (nI i + nI 4).toNatClampNeg) hR
        refine r_xI C (by decide) (by decide) O hl (c_X10_flight l (xs (nI i + nI 1).toNatClampNeg) (xs (nI i + nI 2).toNatClampNeg) (xs (nI i + nI 3).toNatClampNeg) (xs (nI i + nI 4).toNatClampNeg)) mL_37 (by decide) rfl rfl rfl rfl (Nat.le_of_ble_eq_true rfl) hf dL_law_374 (fun r1 σ1 H locs O hf => ?_)
        refine lv_aload_n hx hb dL_law_377 rfl (lv_at hl 2 rfl) ?_
        refine lv_aload_n hx hb dL_law_378 rfl (lv_at hl 0 rfl) ?_
        refine lv_iload_n hx hb dL_law_379 rfl (lv_at hl 3 rfl) ?_
        refine lv_iconst (v := nI 1) hx hb dL_law_380 (by decide) ?_
        refine lv_iadd hx hb dL_law_381 ?_
        refine va_sld hx hb hX hbl hbA O.2.2.2.2.2 (law_in hL hi6 (k := 1) (by decide)) dL_law_382 ?_
        refine lv_aload_n hx hb dL_law_383 rfl (lv_at hl 0 rfl) ?_
        refine lv_iload_n hx hb dL_law_384 rfl (lv_at hl 3 rfl) ?_
        refine lv_iconst (v := nI 2) hx hb dL_law_385 (by decide) ?_
        refine lv_iadd hx hb dL_law_386 ?_
        refine va_sld hx hb hX hbl hbA O.2.2.2.2.2 (law_in hL hi6 (k := 2) (by decide)) dL_law_387 ?_
        refine lv_aload_n hx hb dL_law_388 rfl (lv_at hl 0 rfl) ?_
        refine lv_iload_n hx hb dL_law_389 rfl (lv_at hl 3 rfl) ?_
        refine lv_iconst (v := nI 3) hx hb dL_law_390 (by decide) ?_
        refine lv_iadd hx hb dL_law_391 ?_
        refine va_sld hx hb hX hbl hbA O.2.2.2.2.2 (law_in hL hi6 (k := 3) (by decide)) dL_law_392 ?_
        refine lv_aload_n hx hb dL_law_393 rfl (lv_at hl 0 rfl) ?_
        refine lv_iload_n hx hb dL_law_394 rfl (lv_at hl 3 rfl) ?_
        refine lv_iconst (v := nI 4) hx hb dL_law_395 (by decide) ?_
        refine lv_iadd hx hb dL_law_396 ?_
        refine va_sld hx hb hX hbl hbA O.2.2.2.2.2 (law_in hL hi6 (k := 4) (by decide)) dL_law_397 ?_
        refine r_mI C (by decide) (by decide) O hl (c_X11_flight l (xs (nI i + nI 1).toNatClampNeg) (xs (nI i + nI 2).toNatClampNeg) (xs (nI i + nI 3).toNatClampNeg) (xs (nI i + nI 4).toNatClampNeg)) mL_40 (by decide) rfl rfl rfl rfl (Nat.le_of_ble_eq_true rfl) hf dL_law_398 (fun r2 τ1 H locs O hf => ?_)
        refine lv_icmp_eq (tgt := 799) hx hb dL_law_401 (by decide) (fun cc1 => ?_) (fun cc1 => ?_)
        · refine lv_iinc (v := nI (i + 6)) (lv' := [(3, .int (nI (i + 6))), (0, .ref b), (1, .ref (q 0)), (2, .ref (q' 0))]) hx hb dL_law_799 hl (k := 3) rfl (nI_add i 6) (by decide) rfl (fun ls hl => ?_)
          refine lv_goto (tgt := 18) hx hb dL_law_802 (by decide) ?_
          exact ih (i + 6) (by omega) (by omega) _ _ _ _ hf.2 O ls (lv_sub hl [1, 2, 3, 0] rfl)
        · exact absurd hf.1 cc1
      by_cases h_6 : v = 6
      · refine lv_tableIn (tgt := 406) hx hb dL_law_33 (by rw [h_6]; decide) (by rw [h_6]; decide) (by rw [h_6]; rfl) (by decide) ?_
        refine lv_aload_n hx hb dL_law_406 rfl (lv_at hl 1 rfl) ?_
        refine lv_aload_n hx hb dL_law_407 rfl (lv_at hl 0 rfl) ?_
        refine lv_iload_n hx hb dL_law_408 rfl (lv_at hl 3 rfl) ?_
        refine lv_iconst (v := nI 1) hx hb dL_law_409 (by decide) ?_
        refine lv_iadd hx hb dL_law_410 ?_
        refine va_sld hx hb hX hbl hbA O.2.2.2.2.2 (law_in hL hi6 (k := 1) (by decide)) dL_law_411 ?_
        have hf := sim_cancel (xs (nI i + nI 1).toNatClampNeg) hR
        refine r_xI C (by decide) (by decide) O hl (c_X10_cancel l (xs (nI i + nI 1).toNatClampNeg)) mL_41 (by decide) rfl rfl rfl rfl (Nat.le_of_ble_eq_true rfl) hf dL_law_412 (fun r1 σ1 H locs O hf => ?_)
        refine lv_aload_n hx hb dL_law_415 rfl (lv_at hl 2 rfl) ?_
        refine lv_aload_n hx hb dL_law_416 rfl (lv_at hl 0 rfl) ?_
        refine lv_iload_n hx hb dL_law_417 rfl (lv_at hl 3 rfl) ?_
        refine lv_iconst (v := nI 1) hx hb dL_law_418 (by decide) ?_
        refine lv_iadd hx hb dL_law_419 ?_
        refine va_sld hx hb hX hbl hbA O.2.2.2.2.2 (law_in hL hi6 (k := 1) (by decide)) dL_law_420 ?_
        refine r_mI C (by decide) (by decide) O hl (c_X11_cancel l (xs (nI i + nI 1).toNatClampNeg)) mL_45 (by decide) rfl rfl rfl rfl (Nat.le_of_ble_eq_true rfl) hf dL_law_421 (fun r2 τ1 H locs O hf => ?_)
        refine lv_icmp_eq (tgt := 799) hx hb dL_law_424 (by decide) (fun cc1 => ?_) (fun cc1 => ?_)
        · refine lv_iinc (v := nI (i + 6)) (lv' := [(3, .int (nI (i + 6))), (0, .ref b), (1, .ref (q 0)), (2, .ref (q' 0))]) hx hb dL_law_799 hl (k := 3) rfl (nI_add i 6) (by decide) rfl (fun ls hl => ?_)
          refine lv_goto (tgt := 18) hx hb dL_law_802 (by decide) ?_
          exact ih (i + 6) (by omega) (by omega) _ _ _ _ hf.2 O ls (lv_sub hl [1, 2, 3, 0] rfl)
        · exact absurd hf.1 cc1
      by_cases h_7 : v = 7
      · refine lv_tableIn (tgt := 429) hx hb dL_law_33 (by rw [h_7]; decide) (by rw [h_7]; decide) (by rw [h_7]; rfl) (by decide) ?_
        refine lv_aload_n hx hb dL_law_429 rfl (lv_at hl 1 rfl) ?_
        refine lv_aload_n hx hb dL_law_430 rfl (lv_at hl 0 rfl) ?_
        refine lv_iload_n hx hb dL_law_431 rfl (lv_at hl 3 rfl) ?_
        refine lv_iconst (v := nI 1) hx hb dL_law_432 (by decide) ?_
        refine lv_iadd hx hb dL_law_433 ?_
        refine va_sld hx hb hX hbl hbA O.2.2.2.2.2 (law_in hL hi6 (k := 1) (by decide)) dL_law_434 ?_
        refine lv_aload_n hx hb dL_law_435 rfl (lv_at hl 0 rfl) ?_
        refine lv_iload_n hx hb dL_law_436 rfl (lv_at hl 3 rfl) ?_
        refine lv_iconst (v := nI 2) hx hb dL_law_437 (by decide) ?_
        refine lv_iadd hx hb dL_law_438 ?_
        refine va_sld hx hb hX hbl hbA O.2.2.2.2.2 (law_in hL hi6 (k := 2) (by decide)) dL_law_439 ?_
        refine lv_aload_n hx hb dL_law_440 rfl (lv_at hl 0 rfl) ?_
        refine lv_iload_n hx hb dL_law_441 rfl (lv_at hl 3 rfl) ?_
        refine lv_iconst (v := nI 3) hx hb dL_law_442 (by decide) ?_
        refine lv_iadd hx hb dL_law_443 ?_
        refine va_sld hx hb hX hbl hbA O.2.2.2.2.2 (law_in hL hi6 (k := 3) (by decide)) dL_law_444 ?_
        have hf := sim_storm (xs (nI i + nI 1).toNatClampNeg) (xs (nI i + nI 2).toNatClampNeg) (xs (nI i + nI 3).toNatClampNeg) hR
        refine r_xI C (by decide) (by decide) O hl (c_X10_storm l (xs (nI i + nI 1).toNatClampNeg) (xs (nI i + nI 2).toNatClampNeg) (xs (nI i + nI 3).toNatClampNeg)) mL_46 (by decide) rfl rfl rfl rfl (Nat.le_of_ble_eq_true rfl) hf dL_law_445 (fun r1 σ1 H locs O hf => ?_)
        refine lv_aload_n hx hb dL_law_448 rfl (lv_at hl 2 rfl) ?_
        refine lv_aload_n hx hb dL_law_449 rfl (lv_at hl 0 rfl) ?_
        refine lv_iload_n hx hb dL_law_450 rfl (lv_at hl 3 rfl) ?_
        refine lv_iconst (v := nI 1) hx hb dL_law_451 (by decide) ?_
        refine lv_iadd hx hb dL_law_452 ?_
        refine va_sld hx hb hX hbl hbA O.2.2.2.2.2 (law_in hL hi6 (k := 1) (by decide)) dL_law_453 ?_
        refine lv_aload_n hx hb dL_law_454 rfl (lv_at hl 0 rfl) ?_
        refine lv_iload_n hx hb dL_law_455 rfl (lv_at hl 3 rfl) ?_
        refine lv_iconst (v := nI 2) hx hb dL_law_456 (by decide) ?_
        refine lv_iadd hx hb dL_law_457 ?_
        refine va_sld hx hb hX hbl hbA O.2.2.2.2.2 (law_in hL hi6 (k := 2) (by decide)) dL_law_458 ?_
        refine lv_aload_n hx hb dL_law_459 rfl (lv_at hl 0 rfl) ?_
        refine lv_iload_n hx hb dL_law_460 rfl (lv_at hl 3 rfl) ?_
        refine lv_iconst (v := nI 3) hx hb dL_law_461 (by decide) ?_
        refine lv_iadd hx hb dL_law_462 ?_
        refine va_sld hx hb hX hbl hbA O.2.2.2.2.2 (law_in hL hi6 (k := 3) (by decide)) dL_law_463 ?_
        refine r_mI C (by decide) (by decide) O hl (c_X11_storm l (xs (nI i + nI 1).toNatClampNeg) (xs (nI i + nI 2).toNatClampNeg) (xs (nI i + nI 3).toNatClampNeg)) mL_50 (by decide) rfl rfl rfl rfl (Nat.le_of_ble_eq_true rfl) hf dL_law_464 (fun r2 τ1 H locs O hf => ?_)
        refine lv_icmp_eq (tgt := 799) hx hb dL_law_467 (by decide) (fun cc1 => ?_) (fun cc1 => ?_)
        · refine lv_iinc (v := nI (i + 6)) (lv' := [(3, .int (nI (i + 6))), (0, .ref b), (1, .ref (q 0)), (2, .ref (q' 0))]) hx hb dL_law_799 hl (k := 3) rfl (nI_add i 6) (by decide) rfl (fun ls hl => ?_)
          refine lv_goto (tgt := 18) hx hb dL_law_802 (by decide) ?_
          exact ih (i + 6) (by omega) (by omega) _ _ _ _ hf.2 O ls (lv_sub hl [1, 2, 3, 0] rfl)
        · exact absurd hf.1 cc1
      by_cases h_8 : v = 8
      · refine lv_tableIn (tgt := 472) hx hb dL_law_33 (by rw [h_8]; decide) (by rw [h_8]; decide) (by rw [h_8]; rfl) (by decide) ?_
        refine lv_aload_n hx hb dL_law_472 rfl (lv_at hl 1 rfl) ?_
        refine lv_aload_n hx hb dL_law_473 rfl (lv_at hl 0 rfl) ?_
        refine lv_iload_n hx hb dL_law_474 rfl (lv_at hl 3 rfl) ?_
        refine lv_iconst (v := nI 1) hx hb dL_law_475 (by decide) ?_
        refine lv_iadd hx hb dL_law_476 ?_
        refine va_sld hx hb hX hbl hbA O.2.2.2.2.2 (law_in hL hi6 (k := 1) (by decide)) dL_law_477 ?_
        have hf := sim_clock (xs (nI i + nI 1).toNatClampNeg) hR
        refine r_xI C (by decide) (by decide) O hl (c_X10_clock l (xs (nI i + nI 1).toNatClampNeg)) mL_51 (by decide) rfl rfl rfl rfl (Nat.le_of_ble_eq_true rfl) hf dL_law_478 (fun r1 σ1 H locs O hf => ?_)
        refine lv_aload_n hx hb dL_law_481 rfl (lv_at hl 2 rfl) ?_
        refine lv_aload_n hx hb dL_law_482 rfl (lv_at hl 0 rfl) ?_
        refine lv_iload_n hx hb dL_law_483 rfl (lv_at hl 3 rfl) ?_
        refine lv_iconst (v := nI 1) hx hb dL_law_484 (by decide) ?_
        refine lv_iadd hx hb dL_law_485 ?_
        refine va_sld hx hb hX hbl hbA O.2.2.2.2.2 (law_in hL hi6 (k := 1) (by decide)) dL_law_486 ?_
        refine r_mI C (by decide) (by decide) O hl (c_X11_clock l (xs (nI i + nI 1).toNatClampNeg)) mL_54 (by decide) rfl rfl rfl rfl (Nat.le_of_ble_eq_true rfl) hf dL_law_487 (fun r2 τ1 H locs O hf => ?_)
        refine lv_icmp_eq (tgt := 799) hx hb dL_law_490 (by decide) (fun cc1 => ?_) (fun cc1 => ?_)
        · refine lv_iinc (v := nI (i + 6)) (lv' := [(3, .int (nI (i + 6))), (0, .ref b), (1, .ref (q 0)), (2, .ref (q' 0))]) hx hb dL_law_799 hl (k := 3) rfl (nI_add i 6) (by decide) rfl (fun ls hl => ?_)
          refine lv_goto (tgt := 18) hx hb dL_law_802 (by decide) ?_
          exact ih (i + 6) (by omega) (by omega) _ _ _ _ hf.2 O ls (lv_sub hl [1, 2, 3, 0] rfl)
        · exact absurd hf.1 cc1
      by_cases h_9 : v = 9
      · refine lv_tableIn (tgt := 495) hx hb dL_law_33 (by rw [h_9]; decide) (by rw [h_9]; decide) (by rw [h_9]; rfl) (by decide) ?_
        refine lv_aload_n hx hb dL_law_495 rfl (lv_at hl 1 rfl) ?_
        have hf := sim_plan hR
        refine r_xI C (by decide) (by decide) O hl (c_X10_plan l) mL_55 (by decide) rfl rfl rfl rfl (Nat.le_of_ble_eq_true rfl) hf dL_law_496 (fun r1 σ1 H locs O hf => ?_)
        refine lv_aload_n hx hb dL_law_499 rfl (lv_at hl 2 rfl) ?_
        refine r_mI C (by decide) (by decide) O hl (c_X11_plan l) mL_59 (by decide) rfl rfl rfl rfl (Nat.le_of_ble_eq_true rfl) hf dL_law_500 (fun r2 τ1 H locs O hf => ?_)
        refine lv_icmp_eq (tgt := 799) hx hb dL_law_503 (by decide) (fun cc1 => ?_) (fun cc1 => ?_)
        · refine lv_iinc (v := nI (i + 6)) (lv' := [(3, .int (nI (i + 6))), (0, .ref b), (1, .ref (q 0)), (2, .ref (q' 0))]) hx hb dL_law_799 hl (k := 3) rfl (nI_add i 6) (by decide) rfl (fun ls hl => ?_)
          refine lv_goto (tgt := 18) hx hb dL_law_802 (by decide) ?_
          exact ih (i + 6) (by omega) (by omega) _ _ _ _ hf.2 O ls (lv_sub hl [1, 2, 3, 0] rfl)
        · exact absurd hf.1 cc1
      by_cases h_10 : v = 10
      · refine lv_tableIn (tgt := 508) hx hb dL_law_33 (by rw [h_10]; decide) (by rw [h_10]; decide) (by rw [h_10]; rfl) (by decide) ?_
        refine lv_aload_n hx hb dL_law_508 rfl (lv_at hl 1 rfl) ?_
        have hf := sim_replan hR
        refine r_xI C (by decide) (by decide) O hl (c_X10_replan l) mL_60 (by decide) rfl rfl rfl rfl (Nat.le_of_ble_eq_true rfl) hf dL_law_509 (fun r1 σ1 H locs O hf => ?_)
        refine lv_aload_n hx hb dL_law_512 rfl (lv_at hl 2 rfl) ?_
        refine r_mI C (by decide) (by decide) O hl (c_X11_replan l) mL_63 (by decide) rfl rfl rfl rfl (Nat.le_of_ble_eq_true rfl) hf dL_law_513 (fun r2 τ1 H locs O hf => ?_)
        refine lv_icmp_eq (tgt := 799) hx hb dL_law_516 (by decide) (fun cc1 => ?_) (fun cc1 => ?_)
        · refine lv_iinc (v := nI (i + 6)) (lv' := [(3, .int (nI (i + 6))), (0, .ref b), (1, .ref (q 0)), (2, .ref (q' 0))]) hx hb dL_law_799 hl (k := 3) rfl (nI_add i 6) (by decide) rfl (fun ls hl => ?_)
          refine lv_goto (tgt := 18) hx hb dL_law_802 (by decide) ?_
          exact ih (i + 6) (by omega) (by omega) _ _ _ _ hf.2 O ls (lv_sub hl [1, 2, 3, 0] rfl)
        · exact absurd hf.1 cc1
      by_cases h_11 : v = 11
      · refine lv_tableIn (tgt := 521) hx hb dL_law_33 (by rw [h_11]; decide) (by rw [h_11]; decide) (by rw [h_11]; rfl) (by decide) ?_
        refine lv_aload_n hx hb dL_law_521 rfl (lv_at hl 1 rfl) ?_
        have hf := sim_fits hR
        refine r_xI C (by decide) (by decide) O hl (c_X10_fits l) mL_64 (by decide) rfl rfl rfl rfl (Nat.le_of_ble_eq_true rfl) hf dL_law_522 (fun r1 σ1 H locs O hf => ?_)
        refine lv_aload_n hx hb dL_law_525 rfl (lv_at hl 2 rfl) ?_
        refine r_mI C (by decide) (by decide) O hl (c_X11_fits l) mL_67 (by decide) rfl rfl rfl rfl (Nat.le_of_ble_eq_true rfl) hf dL_law_526 (fun r2 τ1 H locs O hf => ?_)
        refine lv_icmp_eq (tgt := 799) hx hb dL_law_529 (by decide) (fun cc1 => ?_) (fun cc1 => ?_)
        · refine lv_iinc (v := nI (i + 6)) (lv' := [(3, .int (nI (i + 6))), (0, .ref b), (1, .ref (q 0)), (2, .ref (q' 0))]) hx hb dL_law_799 hl (k := 3) rfl (nI_add i 6) (by decide) rfl (fun ls hl => ?_)
          refine lv_goto (tgt := 18) hx hb dL_law_802 (by decide) ?_
          exact ih (i + 6) (by omega) (by omega) _ _ _ _ hf.2 O ls (lv_sub hl [1, 2, 3, 0] rfl)
        · exact absurd hf.1 cc1
      by_cases h_12 : v = 12
      · refine lv_tableIn (tgt := 534) hx hb dL_law_33 (by rw [h_12]; decide) (by rw [h_12]; decide) (by rw [h_12]; rfl) (by decide) ?_
        refine lv_aload_n hx hb dL_law_534 rfl (lv_at hl 1 rfl) ?_
        refine lv_aload_n hx hb dL_law_535 rfl (lv_at hl 0 rfl) ?_
        refine lv_iload_n hx hb dL_law_536 rfl (lv_at hl 3 rfl) ?_
        refine lv_iconst (v := nI 1) hx hb dL_law_537 (by decide) ?_
        refine lv_iadd hx hb dL_law_538 ?_
        refine va_sld hx hb hX hbl hbA O.2.2.2.2.2 (law_in hL hi6 (k := 1) (by decide)) dL_law_539 ?_
        have hf := sim_on (xs (nI i + nI 1).toNatClampNeg) hR
        refine r_xI C (by decide) (by decide) O hl (c_X10_on l (xs (nI i + nI 1).toNatClampNeg)) mL_68 (by decide) rfl rfl rfl rfl (Nat.le_of_ble_eq_true rfl) hf dL_law_540 (fun r1 σ1 H locs O hf => ?_)
        refine lv_aload_n hx hb dL_law_543 rfl (lv_at hl 2 rfl) ?_
        refine lv_aload_n hx hb dL_law_544 rfl (lv_at hl 0 rfl) ?_
        refine lv_iload_n hx hb dL_law_545 rfl (lv_at hl 3 rfl) ?_
        refine lv_iconst (v := nI 1) hx hb dL_law_546 (by decide) ?_
        refine lv_iadd hx hb dL_law_547 ?_
        refine va_sld hx hb hX hbl hbA O.2.2.2.2.2 (law_in hL hi6 (k := 1) (by decide)) dL_law_548 ?_
        refine r_mI C (by decide) (by decide) O hl (c_X11_on l (xs (nI i + nI 1).toNatClampNeg)) mL_72 (by decide) rfl rfl rfl rfl (Nat.le_of_ble_eq_true rfl) hf dL_law_549 (fun r2 τ1 H locs O hf => ?_)
        refine lv_icmp_eq (tgt := 799) hx hb dL_law_552 (by decide) (fun cc1 => ?_) (fun cc1 => ?_)
        · refine lv_iinc (v := nI (i + 6)) (lv' := [(3, .int (nI (i + 6))), (0, .ref b), (1, .ref (q 0)), (2, .ref (q' 0))]) hx hb dL_law_799 hl (k := 3) rfl (nI_add i 6) (by decide) rfl (fun ls hl => ?_)
          refine lv_goto (tgt := 18) hx hb dL_law_802 (by decide) ?_
          exact ih (i + 6) (by omega) (by omega) _ _ _ _ hf.2 O ls (lv_sub hl [1, 2, 3, 0] rfl)
        · exact absurd hf.1 cc1
      by_cases h_13 : v = 13
      · refine lv_tableIn (tgt := 557) hx hb dL_law_33 (by rw [h_13]; decide) (by rw [h_13]; decide) (by rw [h_13]; rfl) (by decide) ?_
        refine lv_aload_n hx hb dL_law_557 rfl (lv_at hl 1 rfl) ?_
        refine lv_aload_n hx hb dL_law_558 rfl (lv_at hl 0 rfl) ?_
        refine lv_iload_n hx hb dL_law_559 rfl (lv_at hl 3 rfl) ?_
        refine lv_iconst (v := nI 1) hx hb dL_law_560 (by decide) ?_
        refine lv_iadd hx hb dL_law_561 ?_
        refine va_sld hx hb hX hbl hbA O.2.2.2.2.2 (law_in hL hi6 (k := 1) (by decide)) dL_law_562 ?_
        refine lv_aload_n hx hb dL_law_563 rfl (lv_at hl 0 rfl) ?_
        refine lv_iload_n hx hb dL_law_564 rfl (lv_at hl 3 rfl) ?_
        refine lv_iconst (v := nI 2) hx hb dL_law_565 (by decide) ?_
        refine lv_iadd hx hb dL_law_566 ?_
        refine va_sld hx hb hX hbl hbA O.2.2.2.2.2 (law_in hL hi6 (k := 2) (by decide)) dL_law_567 ?_
        refine lv_aload_n hx hb dL_law_568 rfl (lv_at hl 0 rfl) ?_
        refine lv_iload_n hx hb dL_law_569 rfl (lv_at hl 3 rfl) ?_
        refine lv_iconst (v := nI 3) hx hb dL_law_570 (by decide) ?_
        refine lv_iadd hx hb dL_law_571 ?_
        refine va_sld hx hb hX hbl hbA O.2.2.2.2.2 (law_in hL hi6 (k := 3) (by decide)) dL_law_572 ?_
        have hf := sim_move (xs (nI i + nI 1).toNatClampNeg) (xs (nI i + nI 2).toNatClampNeg) (xs (nI i + nI 3).toNatClampNeg) hR
        refine r_xI C (by decide) (by decide) O hl (c_X10_move l (xs (nI i + nI 1).toNatClampNeg) (xs (nI i + nI 2).toNatClampNeg) (xs (nI i + nI 3).toNatClampNeg)) mL_73 (by decide) rfl rfl rfl rfl (Nat.le_of_ble_eq_true rfl) hf dL_law_573 (fun r1 σ1 H locs O hf => ?_)
        refine lv_aload_n hx hb dL_law_576 rfl (lv_at hl 2 rfl) ?_
        refine lv_aload_n hx hb dL_law_577 rfl (lv_at hl 0 rfl) ?_
        refine lv_iload_n hx hb dL_law_578 rfl (lv_at hl 3 rfl) ?_
        refine lv_iconst (v := nI 1) hx hb dL_law_579 (by decide) ?_
        refine lv_iadd hx hb dL_law_580 ?_
        refine va_sld hx hb hX hbl hbA O.2.2.2.2.2 (law_in hL hi6 (k := 1) (by decide)) dL_law_581 ?_
        refine lv_aload_n hx hb dL_law_582 rfl (lv_at hl 0 rfl) ?_
        refine lv_iload_n hx hb dL_law_583 rfl (lv_at hl 3 rfl) ?_
        refine lv_iconst (v := nI 2) hx hb dL_law_584 (by decide) ?_
        refine lv_iadd hx hb dL_law_585 ?_
        refine va_sld hx hb hX hbl hbA O.2.2.2.2.2 (law_in hL hi6 (k := 2) (by decide)) dL_law_586 ?_
        refine lv_aload_n hx hb dL_law_587 rfl (lv_at hl 0 rfl) ?_
        refine lv_iload_n hx hb dL_law_588 rfl (lv_at hl 3 rfl) ?_
        refine lv_iconst (v := nI 3) hx hb dL_law_589 (by decide) ?_
        refine lv_iadd hx hb dL_law_590 ?_
        refine va_sld hx hb hX hbl hbA O.2.2.2.2.2 (law_in hL hi6 (k := 3) (by decide)) dL_law_591 ?_
        refine r_mI C (by decide) (by decide) O hl (c_X11_move l (xs (nI i + nI 1).toNatClampNeg) (xs (nI i + nI 2).toNatClampNeg) (xs (nI i + nI 3).toNatClampNeg)) mL_76 (by decide) rfl rfl rfl rfl (Nat.le_of_ble_eq_true rfl) hf dL_law_592 (fun r2 τ1 H locs O hf => ?_)
        refine lv_icmp_eq (tgt := 799) hx hb dL_law_595 (by decide) (fun cc1 => ?_) (fun cc1 => ?_)
        · refine lv_iinc (v := nI (i + 6)) (lv' := [(3, .int (nI (i + 6))), (0, .ref b), (1, .ref (q 0)), (2, .ref (q' 0))]) hx hb dL_law_799 hl (k := 3) rfl (nI_add i 6) (by decide) rfl (fun ls hl => ?_)
          refine lv_goto (tgt := 18) hx hb dL_law_802 (by decide) ?_
          exact ih (i + 6) (by omega) (by omega) _ _ _ _ hf.2 O ls (lv_sub hl [1, 2, 3, 0] rfl)
        · exact absurd hf.1 cc1
      by_cases h_14 : v = 14
      · refine lv_tableIn (tgt := 600) hx hb dL_law_33 (by rw [h_14]; decide) (by rw [h_14]; decide) (by rw [h_14]; rfl) (by decide) ?_
        refine lv_aload_n hx hb dL_law_600 rfl (lv_at hl 1 rfl) ?_
        refine lv_aload_n hx hb dL_law_601 rfl (lv_at hl 0 rfl) ?_
        refine lv_iload_n hx hb dL_law_602 rfl (lv_at hl 3 rfl) ?_
        refine lv_iconst (v := nI 1) hx hb dL_law_603 (by decide) ?_
        refine lv_iadd hx hb dL_law_604 ?_
        refine va_sld hx hb hX hbl hbA O.2.2.2.2.2 (law_in hL hi6 (k := 1) (by decide)) dL_law_605 ?_
        refine lv_aload_n hx hb dL_law_606 rfl (lv_at hl 0 rfl) ?_
        refine lv_iload_n hx hb dL_law_607 rfl (lv_at hl 3 rfl) ?_
        refine lv_iconst (v := nI 2) hx hb dL_law_608 (by decide) ?_
        refine lv_iadd hx hb dL_law_609 ?_
        refine va_sld hx hb hX hbl hbA O.2.2.2.2.2 (law_in hL hi6 (k := 2) (by decide)) dL_law_610 ?_
        refine lv_aload_n hx hb dL_law_611 rfl (lv_at hl 0 rfl) ?_
        refine lv_iload_n hx hb dL_law_612 rfl (lv_at hl 3 rfl) ?_
        refine lv_iconst (v := nI 3) hx hb dL_law_613 (by decide) ?_
        refine lv_iadd hx hb dL_law_614 ?_
        refine va_sld hx hb hX hbl hbA O.2.2.2.2.2 (law_in hL hi6 (k := 3) (by decide)) dL_law_615 ?_
        refine lv_aload_n hx hb dL_law_616 rfl (lv_at hl 0 rfl) ?_
        refine lv_iload_n hx hb dL_law_617 rfl (lv_at hl 3 rfl) ?_
        refine lv_iconst (v := nI 4) hx hb dL_law_618 (by decide) ?_
        refine lv_iadd hx hb dL_law_619 ?_
        refine va_sld hx hb hX hbl hbA O.2.2.2.2.2 (law_in hL hi6 (k := 4) (by decide)) dL_law_620 ?_
        have hf := sim_offer (xs (nI i + nI 1).toNatClampNeg) (xs (nI i + nI 2).toNatClampNeg) (xs (nI i + nI 3).toNatClampNeg) (xs (nI i + nI 4).toNatClampNeg) hR
        refine r_xI C (by decide) (by decide) O hl (c_X10_offer l (xs (nI i + nI 1).toNatClampNeg) (xs (nI i + nI 2).toNatClampNeg) (xs (nI i + nI 3).toNatClampNeg) (xs (nI i + nI 4).toNatClampNeg)) mL_77 (by decide) rfl rfl rfl rfl (Nat.le_of_ble_eq_true rfl) hf dL_law_621 (fun r1 σ1 H locs O hf => ?_)
        refine lv_aload_n hx hb dL_law_624 rfl (lv_at hl 2 rfl) ?_
        refine lv_aload_n hx hb dL_law_625 rfl (lv_at hl 0 rfl) ?_
        refine lv_iload_n hx hb dL_law_626 rfl (lv_at hl 3 rfl) ?_
        refine lv_iconst (v := nI 1) hx hb dL_law_627 (by decide) ?_
        refine lv_iadd hx hb dL_law_628 ?_
        refine va_sld hx hb hX hbl hbA O.2.2.2.2.2 (law_in hL hi6 (k := 1) (by decide)) dL_law_629 ?_
        refine lv_aload_n hx hb dL_law_630 rfl (lv_at hl 0 rfl) ?_
        refine lv_iload_n hx hb dL_law_631 rfl (lv_at hl 3 rfl) ?_
        refine lv_iconst (v := nI 2) hx hb dL_law_632 (by decide) ?_
        refine lv_iadd hx hb dL_law_633 ?_
        refine va_sld hx hb hX hbl hbA O.2.2.2.2.2 (law_in hL hi6 (k := 2) (by decide)) dL_law_634 ?_
        refine lv_aload_n hx hb dL_law_635 rfl (lv_at hl 0 rfl) ?_
        refine lv_iload_n hx hb dL_law_636 rfl (lv_at hl 3 rfl) ?_
        refine lv_iconst (v := nI 3) hx hb dL_law_637 (by decide) ?_
        refine lv_iadd hx hb dL_law_638 ?_
        refine va_sld hx hb hX hbl hbA O.2.2.2.2.2 (law_in hL hi6 (k := 3) (by decide)) dL_law_639 ?_
        refine lv_aload_n hx hb dL_law_640 rfl (lv_at hl 0 rfl) ?_
        refine lv_iload_n hx hb dL_law_641 rfl (lv_at hl 3 rfl) ?_
        refine lv_iconst (v := nI 4) hx hb dL_law_642 (by decide) ?_
        refine lv_iadd hx hb dL_law_643 ?_
        refine va_sld hx hb hX hbl hbA O.2.2.2.2.2 (law_in hL hi6 (k := 4) (by decide)) dL_law_644 ?_
        refine r_mI C (by decide) (by decide) O hl (c_X11_offer l (xs (nI i + nI 1).toNatClampNeg) (xs (nI i + nI 2).toNatClampNeg) (xs (nI i + nI 3).toNatClampNeg) (xs (nI i + nI 4).toNatClampNeg)) mL_80 (by decide) rfl rfl rfl rfl (Nat.le_of_ble_eq_true rfl) hf dL_law_645 (fun r2 τ1 H locs O hf => ?_)
        refine lv_icmp_eq (tgt := 799) hx hb dL_law_648 (by decide) (fun cc1 => ?_) (fun cc1 => ?_)
        · refine lv_iinc (v := nI (i + 6)) (lv' := [(3, .int (nI (i + 6))), (0, .ref b), (1, .ref (q 0)), (2, .ref (q' 0))]) hx hb dL_law_799 hl (k := 3) rfl (nI_add i 6) (by decide) rfl (fun ls hl => ?_)
          refine lv_goto (tgt := 18) hx hb dL_law_802 (by decide) ?_
          exact ih (i + 6) (by omega) (by omega) _ _ _ _ hf.2 O ls (lv_sub hl [1, 2, 3, 0] rfl)
        · exact absurd hf.1 cc1
      by_cases h_15 : v = 15
      · refine lv_tableIn (tgt := 653) hx hb dL_law_33 (by rw [h_15]; decide) (by rw [h_15]; decide) (by rw [h_15]; rfl) (by decide) ?_
        refine lv_aload_n hx hb dL_law_653 rfl (lv_at hl 1 rfl) ?_
        refine lv_aload_n hx hb dL_law_654 rfl (lv_at hl 0 rfl) ?_
        refine lv_iload_n hx hb dL_law_655 rfl (lv_at hl 3 rfl) ?_
        refine lv_iconst (v := nI 1) hx hb dL_law_656 (by decide) ?_
        refine lv_iadd hx hb dL_law_657 ?_
        refine va_sld hx hb hX hbl hbA O.2.2.2.2.2 (law_in hL hi6 (k := 1) (by decide)) dL_law_658 ?_
        refine lv_aload_n hx hb dL_law_659 rfl (lv_at hl 0 rfl) ?_
        refine lv_iload_n hx hb dL_law_660 rfl (lv_at hl 3 rfl) ?_
        refine lv_iconst (v := nI 2) hx hb dL_law_661 (by decide) ?_
        refine lv_iadd hx hb dL_law_662 ?_
        refine va_sld hx hb hX hbl hbA O.2.2.2.2.2 (law_in hL hi6 (k := 2) (by decide)) dL_law_663 ?_
        have hf := sim_take (xs (nI i + nI 1).toNatClampNeg) (xs (nI i + nI 2).toNatClampNeg) hR
        refine r_xI C (by decide) (by decide) O hl (c_X10_take l (xs (nI i + nI 1).toNatClampNeg) (xs (nI i + nI 2).toNatClampNeg)) mL_81 (by decide) rfl rfl rfl rfl (Nat.le_of_ble_eq_true rfl) hf dL_law_664 (fun r1 σ1 H locs O hf => ?_)
        refine lv_aload_n hx hb dL_law_667 rfl (lv_at hl 2 rfl) ?_
        refine lv_aload_n hx hb dL_law_668 rfl (lv_at hl 0 rfl) ?_
        refine lv_iload_n hx hb dL_law_669 rfl (lv_at hl 3 rfl) ?_
        refine lv_iconst (v := nI 1) hx hb dL_law_670 (by decide) ?_
        refine lv_iadd hx hb dL_law_671 ?_
        refine va_sld hx hb hX hbl hbA O.2.2.2.2.2 (law_in hL hi6 (k := 1) (by decide)) dL_law_672 ?_
        refine lv_aload_n hx hb dL_law_673 rfl (lv_at hl 0 rfl) ?_
        refine lv_iload_n hx hb dL_law_674 rfl (lv_at hl 3 rfl) ?_
        refine lv_iconst (v := nI 2) hx hb dL_law_675 (by decide) ?_
        refine lv_iadd hx hb dL_law_676 ?_
        refine va_sld hx hb hX hbl hbA O.2.2.2.2.2 (law_in hL hi6 (k := 2) (by decide)) dL_law_677 ?_
        refine r_mI C (by decide) (by decide) O hl (c_X11_take l (xs (nI i + nI 1).toNatClampNeg) (xs (nI i + nI 2).toNatClampNeg)) mL_85 (by decide) rfl rfl rfl rfl (Nat.le_of_ble_eq_true rfl) hf dL_law_678 (fun r2 τ1 H locs O hf => ?_)
        refine lv_icmp_eq (tgt := 799) hx hb dL_law_681 (by decide) (fun cc1 => ?_) (fun cc1 => ?_)
        · refine lv_iinc (v := nI (i + 6)) (lv' := [(3, .int (nI (i + 6))), (0, .ref b), (1, .ref (q 0)), (2, .ref (q' 0))]) hx hb dL_law_799 hl (k := 3) rfl (nI_add i 6) (by decide) rfl (fun ls hl => ?_)
          refine lv_goto (tgt := 18) hx hb dL_law_802 (by decide) ?_
          exact ih (i + 6) (by omega) (by omega) _ _ _ _ hf.2 O ls (lv_sub hl [1, 2, 3, 0] rfl)
        · exact absurd hf.1 cc1
      by_cases h_16 : v = 16
      · refine lv_tableIn (tgt := 686) hx hb dL_law_33 (by rw [h_16]; decide) (by rw [h_16]; decide) (by rw [h_16]; rfl) (by decide) ?_
        refine lv_aload_n hx hb dL_law_686 rfl (lv_at hl 1 rfl) ?_
        refine lv_aload_n hx hb dL_law_687 rfl (lv_at hl 0 rfl) ?_
        refine lv_iload_n hx hb dL_law_688 rfl (lv_at hl 3 rfl) ?_
        refine lv_iconst (v := nI 1) hx hb dL_law_689 (by decide) ?_
        refine lv_iadd hx hb dL_law_690 ?_
        refine va_sld hx hb hX hbl hbA O.2.2.2.2.2 (law_in hL hi6 (k := 1) (by decide)) dL_law_691 ?_
        refine lv_aload_n hx hb dL_law_692 rfl (lv_at hl 0 rfl) ?_
        refine lv_iload_n hx hb dL_law_693 rfl (lv_at hl 3 rfl) ?_
        refine lv_iconst (v := nI 2) hx hb dL_law_694 (by decide) ?_
        refine lv_iadd hx hb dL_law_695 ?_
        refine va_sld hx hb hX hbl hbA O.2.2.2.2.2 (law_in hL hi6 (k := 2) (by decide)) dL_law_696 ?_
        have hf := sim_told (xs (nI i + nI 1).toNatClampNeg) (xs (nI i + nI 2).toNatClampNeg) hR
        refine r_xI C (by decide) (by decide) O hl (c_X10_told l (xs (nI i + nI 1).toNatClampNeg) (xs (nI i + nI 2).toNatClampNeg)) mL_86 (by decide) rfl rfl rfl rfl (Nat.le_of_ble_eq_true rfl) hf dL_law_697 (fun r1 σ1 H locs O hf => ?_)
        refine lv_aload_n hx hb dL_law_700 rfl (lv_at hl 2 rfl) ?_
        refine lv_aload_n hx hb dL_law_701 rfl (lv_at hl 0 rfl) ?_
        refine lv_iload_n hx hb dL_law_702 rfl (lv_at hl 3 rfl) ?_
        refine lv_iconst (v := nI 1) hx hb dL_law_703 (by decide) ?_
        refine lv_iadd hx hb dL_law_704 ?_
        refine va_sld hx hb hX hbl hbA O.2.2.2.2.2 (law_in hL hi6 (k := 1) (by decide)) dL_law_705 ?_
        refine lv_aload_n hx hb dL_law_706 rfl (lv_at hl 0 rfl) ?_
        refine lv_iload_n hx hb dL_law_707 rfl (lv_at hl 3 rfl) ?_
        refine lv_iconst (v := nI 2) hx hb dL_law_708 (by decide) ?_
        refine lv_iadd hx hb dL_law_709 ?_
        refine va_sld hx hb hX hbl hbA O.2.2.2.2.2 (law_in hL hi6 (k := 2) (by decide)) dL_law_710 ?_
        refine r_mI C (by decide) (by decide) O hl (c_X11_told l (xs (nI i + nI 1).toNatClampNeg) (xs (nI i + nI 2).toNatClampNeg)) mL_89 (by decide) rfl rfl rfl rfl (Nat.le_of_ble_eq_true rfl) hf dL_law_711 (fun r2 τ1 H locs O hf => ?_)
        refine lv_icmp_eq (tgt := 799) hx hb dL_law_714 (by decide) (fun cc1 => ?_) (fun cc1 => ?_)
        · refine lv_iinc (v := nI (i + 6)) (lv' := [(3, .int (nI (i + 6))), (0, .ref b), (1, .ref (q 0)), (2, .ref (q' 0))]) hx hb dL_law_799 hl (k := 3) rfl (nI_add i 6) (by decide) rfl (fun ls hl => ?_)
          refine lv_goto (tgt := 18) hx hb dL_law_802 (by decide) ?_
          exact ih (i + 6) (by omega) (by omega) _ _ _ _ hf.2 O ls (lv_sub hl [1, 2, 3, 0] rfl)
        · exact absurd hf.1 cc1
      by_cases h_17 : v = 17
      · refine lv_tableIn (tgt := 719) hx hb dL_law_33 (by rw [h_17]; decide) (by rw [h_17]; decide) (by rw [h_17]; rfl) (by decide) ?_
        refine lv_aload_n hx hb dL_law_719 rfl (lv_at hl 1 rfl) ?_
        refine lv_aload_n hx hb dL_law_720 rfl (lv_at hl 0 rfl) ?_
        refine lv_iload_n hx hb dL_law_721 rfl (lv_at hl 3 rfl) ?_
        refine lv_iconst (v := nI 1) hx hb dL_law_722 (by decide) ?_
        refine lv_iadd hx hb dL_law_723 ?_
        refine va_sld hx hb hX hbl hbA O.2.2.2.2.2 (law_in hL hi6 (k := 1) (by decide)) dL_law_724 ?_
        have hf := sim_bill (xs (nI i + nI 1).toNatClampNeg) hR
        refine r_xL C (by decide) (by decide) O hl (c_X10_bill l (xs (nI i + nI 1).toNatClampNeg)) mL_90 (by decide) rfl rfl rfl rfl (Nat.le_of_ble_eq_true rfl) hf dL_law_725 (fun r1 σ1 H locs O hf => ?_)
        refine lv_aload_n hx hb dL_law_728 rfl (lv_at hl 2 rfl) ?_
        refine lv_aload_n hx hb dL_law_729 rfl (lv_at hl 0 rfl) ?_
        refine lv_iload_n hx hb dL_law_730 rfl (lv_at hl 3 rfl) ?_
        refine lv_iconst (v := nI 1) hx hb dL_law_731 (by decide) ?_
        refine lv_iadd hx hb dL_law_732 ?_
        refine va_sld hx hb hX hbl hbA O.2.2.2.2.2 (law_in hL hi6 (k := 1) (by decide)) dL_law_733 ?_
        refine r_mL C (by decide) (by decide) O hl (c_X11_bill l (xs (nI i + nI 1).toNatClampNeg)) mL_94 (by decide) rfl rfl rfl rfl (Nat.le_of_ble_eq_true rfl) hf dL_law_734 (fun r2 τ1 H locs O hf => ?_)
        refine W.lcmp hx hb dL_law_737 ?_
        refine lv_if_eq (tgt := 799) hx hb dL_law_738 (by decide) (fun cc1 => ?_) (fun cc1 => ?_)
        · refine lv_iinc (v := nI (i + 6)) (lv' := [(3, .int (nI (i + 6))), (0, .ref b), (1, .ref (q 0)), (2, .ref (q' 0))]) hx hb dL_law_799 hl (k := 3) rfl (nI_add i 6) (by decide) rfl (fun ls hl => ?_)
          refine lv_goto (tgt := 18) hx hb dL_law_802 (by decide) ?_
          exact ih (i + 6) (by omega) (by omega) _ _ _ _ hf.2 O ls (lv_sub hl [1, 2, 3, 0] rfl)
        · exact absurd (by rw [hf.1]; exact lg_cmp_self _) cc1
      by_cases h_18 : v = 18
      · refine lv_tableIn (tgt := 743) hx hb dL_law_33 (by rw [h_18]; decide) (by rw [h_18]; decide) (by rw [h_18]; rfl) (by decide) ?_
        refine lv_aload_n hx hb dL_law_743 rfl (lv_at hl 1 rfl) ?_
        refine lv_aload_n hx hb dL_law_744 rfl (lv_at hl 0 rfl) ?_
        refine lv_iload_n hx hb dL_law_745 rfl (lv_at hl 3 rfl) ?_
        refine lv_iconst (v := nI 1) hx hb dL_law_746 (by decide) ?_
        refine lv_iadd hx hb dL_law_747 ?_
        refine va_sld hx hb hX hbl hbA O.2.2.2.2.2 (law_in hL hi6 (k := 1) (by decide)) dL_law_748 ?_
        refine lv_aload_n hx hb dL_law_749 rfl (lv_at hl 0 rfl) ?_
        refine lv_iload_n hx hb dL_law_750 rfl (lv_at hl 3 rfl) ?_
        refine lv_iconst (v := nI 2) hx hb dL_law_751 (by decide) ?_
        refine lv_iadd hx hb dL_law_752 ?_
        refine va_sld hx hb hX hbl hbA O.2.2.2.2.2 (law_in hL hi6 (k := 2) (by decide)) dL_law_753 ?_
        have hf := sim_look (xs (nI i + nI 1).toNatClampNeg) (xs (nI i + nI 2).toNatClampNeg) hR
        refine r_xI C (by decide) (by decide) O hl (c_X10_look l (xs (nI i + nI 1).toNatClampNeg) (xs (nI i + nI 2).toNatClampNeg)) mL_95 (by decide) rfl rfl rfl rfl (Nat.le_of_ble_eq_true rfl) hf dL_law_754 (fun r1 σ1 H locs O hf => ?_)
        refine lv_aload_n hx hb dL_law_757 rfl (lv_at hl 2 rfl) ?_
        refine lv_aload_n hx hb dL_law_758 rfl (lv_at hl 0 rfl) ?_
        refine lv_iload_n hx hb dL_law_759 rfl (lv_at hl 3 rfl) ?_
        refine lv_iconst (v := nI 1) hx hb dL_law_760 (by decide) ?_
        refine lv_iadd hx hb dL_law_761 ?_
        refine va_sld hx hb hX hbl hbA O.2.2.2.2.2 (law_in hL hi6 (k := 1) (by decide)) dL_law_762 ?_
        refine lv_aload_n hx hb dL_law_763 rfl (lv_at hl 0 rfl) ?_
        refine lv_iload_n hx hb dL_law_764 rfl (lv_at hl 3 rfl) ?_
        refine lv_iconst (v := nI 2) hx hb dL_law_765 (by decide) ?_
        refine lv_iadd hx hb dL_law_766 ?_
        refine va_sld hx hb hX hbl hbA O.2.2.2.2.2 (law_in hL hi6 (k := 2) (by decide)) dL_law_767 ?_
        refine r_mI C (by decide) (by decide) O hl (c_X11_look l (xs (nI i + nI 1).toNatClampNeg) (xs (nI i + nI 2).toNatClampNeg)) mL_98 (by decide) rfl rfl rfl rfl (Nat.le_of_ble_eq_true rfl) hf dL_law_768 (fun r2 τ1 H locs O hf => ?_)
        refine lv_icmp_eq (tgt := 799) hx hb dL_law_771 (by decide) (fun cc1 => ?_) (fun cc1 => ?_)
        · refine lv_iinc (v := nI (i + 6)) (lv' := [(3, .int (nI (i + 6))), (0, .ref b), (1, .ref (q 0)), (2, .ref (q' 0))]) hx hb dL_law_799 hl (k := 3) rfl (nI_add i 6) (by decide) rfl (fun ls hl => ?_)
          refine lv_goto (tgt := 18) hx hb dL_law_802 (by decide) ?_
          exact ih (i + 6) (by omega) (by omega) _ _ _ _ hf.2 O ls (lv_sub hl [1, 2, 3, 0] rfl)
        · exact absurd hf.1 cc1
      by_cases h_19 : v = 19
      · refine lv_tableIn (tgt := 776) hx hb dL_law_33 (by rw [h_19]; decide) (by rw [h_19]; decide) (by rw [h_19]; rfl) (by decide) ?_
        refine lv_aload_n hx hb dL_law_776 rfl (lv_at hl 1 rfl) ?_
        refine lv_aload_n hx hb dL_law_777 rfl (lv_at hl 0 rfl) ?_
        refine lv_iload_n hx hb dL_law_778 rfl (lv_at hl 3 rfl) ?_
        refine lv_iconst (v := nI 1) hx hb dL_law_779 (by decide) ?_
        refine lv_iadd hx hb dL_law_780 ?_
        refine va_sld hx hb hX hbl hbA O.2.2.2.2.2 (law_in hL hi6 (k := 1) (by decide)) dL_law_781 ?_
        have hf := sim_count (xs (nI i + nI 1).toNatClampNeg) hR
        refine r_xI C (by decide) (by decide) O hl (c_X10_count l (xs (nI i + nI 1).toNatClampNeg)) mL_99 (by decide) rfl rfl rfl rfl (Nat.le_of_ble_eq_true rfl) hf dL_law_782 (fun r1 σ1 H locs O hf => ?_)
        refine lv_aload_n hx hb dL_law_785 rfl (lv_at hl 2 rfl) ?_
        refine lv_aload_n hx hb dL_law_786 rfl (lv_at hl 0 rfl) ?_
        refine lv_iload_n hx hb dL_law_787 rfl (lv_at hl 3 rfl) ?_
        refine lv_iconst (v := nI 1) hx hb dL_law_788 (by decide) ?_
        refine lv_iadd hx hb dL_law_789 ?_
        refine va_sld hx hb hX hbl hbA O.2.2.2.2.2 (law_in hL hi6 (k := 1) (by decide)) dL_law_790 ?_
        refine r_mI C (by decide) (by decide) O hl (c_X11_count l (xs (nI i + nI 1).toNatClampNeg)) mL_102 (by decide) rfl rfl rfl rfl (Nat.le_of_ble_eq_true rfl) hf dL_law_791 (fun r2 τ1 H locs O hf => ?_)
        refine lv_icmp_eq (tgt := 799) hx hb dL_law_794 (by decide) (fun cc1 => ?_) (fun cc1 => ?_)
        · refine lv_iinc (v := nI (i + 6)) (lv' := [(3, .int (nI (i + 6))), (0, .ref b), (1, .ref (q 0)), (2, .ref (q' 0))]) hx hb dL_law_799 hl (k := 3) rfl (nI_add i 6) (by decide) rfl (fun ls hl => ?_)
          refine lv_goto (tgt := 18) hx hb dL_law_802 (by decide) ?_
          exact ih (i + 6) (by omega) (by omega) _ _ _ _ hf.2 O ls (lv_sub hl [1, 2, 3, 0] rfl)
        · exact absurd hf.1 cc1
      refine lv_tableOut (tgt := 799) hx hb dL_law_33 (sw_out 19 (by decide) (fun k hk => by rcases (show k = 0 ∨ k = 1 ∨ k = 2 ∨ k = 3 ∨ k = 4 ∨ k = 5 ∨ k = 6 ∨ k = 7 ∨ k = 8 ∨ k = 9 ∨ k = 10 ∨ k = 11 ∨ k = 12 ∨ k = 13 ∨ k = 14 ∨ k = 15 ∨ k = 16 ∨ k = 17 ∨ k = 18 ∨ k = 19 by omega) with rfl | rfl | rfl | rfl | rfl | rfl | rfl | rfl | rfl | rfl | rfl | rfl | rfl | rfl | rfl | rfl | rfl | rfl | rfl | rfl <;> assumption)) (by decide) ?_
      refine lv_iinc (v := nI (i + 6)) (lv' := [(3, .int (nI (i + 6))), (0, .ref b), (1, .ref (q 0)), (2, .ref (q' 0))]) hx hb dL_law_799 hl (k := 3) rfl (nI_add i 6) (by decide) rfl (fun ls hl => ?_)
      refine lv_goto (tgt := 18) hx hb dL_law_802 (by decide) ?_
      exact ih (i + 6) (by omega) (by omega) _ _ _ _ hR O ls (lv_sub hl [1, 2, 3, 0] rfl)
