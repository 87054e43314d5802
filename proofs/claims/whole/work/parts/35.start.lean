/-! ===== THE LAW, from its entry ===== -/
theorem gw_tbl {args : Array Value} {s : State} (h : ∀ w ∈ lw_tbl, w.before args s = true) : ∀ w ∈ gw, w.before args s = true := fun w hw => h w (List.mem_filter.mp hw).1
theorem NW_tbl {args : Array Value} {s : State} (h : ∀ w ∈ lw_tbl, w.before args s = true) : NW s := by
  intro q hq
  exact va_Nw.of rfl (h _ ((by decide +kernel : ∀ q ∈ nestL, Cond.methodLinkNest q.1 q.2.1 q.2.2.1 q.2.2.2 ∈ lw_tbl) q hq))
set_option maxHeartbeats 8000000 in
set_option maxRecDepth 100000 in
theorem whole_start {p : Program} {e : Env} {s : State} {m : MethodId} {below : List Frame} {meth : Method} {c : Code} (l : Launch) {b L : Nat} {xs : Nat → Int32} (hL : L ≤ 3072) (C0 : lw_At p s m meth c b L xs) : W p l e room_1 s m #[Value.ref b] below meth c s.heap [] 0 0 (lw_Z below #[Value.ref b] s) (entryFrame m ([Value.ref b] : List Value).toArray 4) := by
  obtain ⟨hx, hb, hr, hml, hown, hts0, hX, hbl, hlocks, hgv⟩ := id C0
  have hts := gw_tbl hts0
  have hN := NW_tbl hts0
  have hA : ∀ q : Nat, s.heap.size ≤ q → AL s q := fun _ h => h
  obtain ⟨cC0, iS0, hKn0⟩ := u_known (C := RX0) (T := TX0) (N := 10) (n := 10) hts inX0 (hts (.instantiable RX0 10) (gw_of (i := 209) (by decide +kernel) (by decide +kernel)))
  obtain ⟨cC1, iS1, hKn1⟩ := u_known (C := RX1) (T := TX1) (N := 8) (n := 8) hts inX1 (hts (.instantiable RX1 8) (gw_of (i := 137) (by decide +kernel) (by decide +kernel)))
  obtain ⟨cC2, iS2, hKn2⟩ := u_known (C := RX2) (T := TX2) (N := 7) (n := 7) hts inX2 (hts (.instantiable RX2 7) (gw_of (i := 77) (by decide +kernel) (by decide +kernel)))
  obtain ⟨cC3, iS3, hKn3⟩ := u_known (C := RX3) (T := TX3) (N := 8) (n := 8) hts inX3 (hts (.instantiable RX3 8) (gw_of (i := 291) (by decide +kernel) (by decide +kernel)))
  obtain ⟨cC4, iS4, hKn4⟩ := u_known (C := RX4) (T := TX4) (N := 5) (n := 5) hts inX4 (hts (.instantiable RX4 5) (gw_of (i := 115) (by decide +kernel) (by decide +kernel)))
  obtain ⟨cC5, iS5, hKn5⟩ := u_known (C := RX5) (T := TX5) (N := 13) (n := 13) hts inX5 (hts (.instantiable RX5 13) (gw_of (i := 207) (by decide +kernel) (by decide +kernel)))
  obtain ⟨cC6, iS6, hKn6⟩ := u_known (C := RX6) (T := TX6) (N := 4) (n := 4) hts inX6 (hts (.instantiable RX6 4) (gw_of (i := 188) (by decide +kernel) (by decide +kernel)))
  obtain ⟨cC7, iS7, hKn7⟩ := u_known (C := RX7) (T := TX7) (N := 4) (n := 4) hts inX7 (hts (.instantiable RX7 4) (gw_of (i := 169) (by decide +kernel) (by decide +kernel)))
  obtain ⟨cC8, iS8, hKn8⟩ := u_known (C := RX8) (T := TX8) (N := 2) (n := 2) hts inX8 (hts (.instantiable RX8 2) (gw_of (i := 63) (by decide +kernel) (by decide +kernel)))
  obtain ⟨cC9, iS9, hKn9⟩ := u_known (C := RX9) (T := TX9) (N := 1) (n := 1) hts inX9 (hts (.instantiable RX9 1) (gw_of (i := 105) (by decide +kernel) (by decide +kernel)))
  obtain ⟨cC10, iS10, hKn10⟩ := u_known (C := RX10) (T := TX10) (N := 10) (n := 10) hts inX10 (hts (.instantiable RX10 10) (gw_of (i := 55) (by decide +kernel) (by decide +kernel)))
  obtain ⟨cC11, iS11, hKn11⟩ := u_known (C := RX11) (T := TX11) (N := 47) (n := 47) hts inX11 (hts (.instantiable RX11 47) (gw_of (i := 821) (by decide +kernel) (by decide +kernel)))
  obtain ⟨ca_int, ka_int, co_int, h1_int, h2_int, h3_int⟩ := Cond.arrayClass_spec (hts _ kA_int)
  obtain ⟨ca_boolean, ka_boolean, co_boolean, h1_boolean, h2_boolean, h3_boolean⟩ := Cond.arrayClass_spec (hts _ kA_boolean)
  obtain ⟨ca_byte, ka_byte, co_byte, h1_byte, h2_byte, h3_byte⟩ := Cond.arrayClass_spec (hts _ kA_byte)
  obtain ⟨ca_long, ka_long, co_long, h1_long, h2_long, h3_long⟩ := Cond.arrayClass_spec (hts _ kA_long)
  obtain ⟨dC, dI, hKc⟩ : ∃ (dC : Nat → ClassId) (dI : Nat → Nat → Nat), ∀ (k : Nat) (q : vw_C), vwCl[k]? = some q → u_Kn s q.1 q.2.1 q.2.2 (dC k) (dI k) := by
    refine ⟨fun k => if k = 0 then cC0 else if k = 1 then cC1 else if k = 2 then cC2 else if k = 3 then cC3 else if k = 4 then cC4 else if k = 5 then cC5 else if k = 6 then cC6 else if k = 7 then cC7 else if k = 8 then cC8 else if k = 9 then cC9 else if k = 10 then cC10 else cC11, fun k => if k = 0 then iS0 else if k = 1 then iS1 else if k = 2 then iS2 else if k = 3 then iS3 else if k = 4 then iS4 else if k = 5 then iS5 else if k = 6 then iS6 else if k = 7 then iS7 else if k = 8 then iS8 else if k = 9 then iS9 else if k = 10 then iS10 else iS11, ?_⟩
    intro k q hq
    match k, hq with
    | 0, hq => cases hq; exact hKn0
    | 1, hq => cases hq; exact hKn1
    | 2, hq => cases hq; exact hKn2
    | 3, hq => cases hq; exact hKn3
    | 4, hq => cases hq; exact hKn4
    | 5, hq => cases hq; exact hKn5
    | 6, hq => cases hq; exact hKn6
    | 7, hq => cases hq; exact hKn7
    | 8, hq => cases hq; exact hKn8
    | 9, hq => cases hq; exact hKn9
    | 10, hq => cases hq; exact hKn10
    | 11, hq => cases hq; exact hKn11
    | k + 12, hq => simp [vwCl] at hq
  obtain ⟨cs, hcs0, hcs1, hcs2, hcs3⟩ : ∃ cs : Nat → ClassId, cs 0 = ca_int ∧ cs 1 = ca_boolean ∧ cs 2 = ca_byte ∧ cs 3 = ca_long := ⟨fun t => if t = 0 then ca_int else if t = 1 then ca_boolean else if t = 2 then ca_byte else ca_long, rfl, rfl, rfl, rfl⟩
  have hK : va_K (dC, dI) vwCl (tys cs) s := by
    refine ⟨hKc, fun k q hq => ?_⟩
    match k, hq with
    | 0, hq => cases hq; rw [hcs0]; exact ⟨fun n z => ⟨fun k h => (by cases h), ka_int, h2_int, co_int, h3_int⟩, h1_int⟩
    | 1, hq => cases hq; rw [hcs1]; exact ⟨fun n z => ⟨fun k h => (by cases h), ka_boolean, h2_boolean, co_boolean, h3_boolean⟩, h1_boolean⟩
    | 2, hq => cases hq; rw [hcs2]; exact ⟨fun n z => ⟨fun k h => (by cases h), ka_byte, h2_byte, co_byte, h3_byte⟩, h1_byte⟩
    | 3, hq => cases hq; rw [hcs3]; exact ⟨fun n z => ⟨fun k h => (by cases h), ka_long, h2_long, co_long, h3_long⟩, h1_long⟩
    | k + 4, hq => simp [tys] at hq
  have hS : va_S (AL s) s.heap s.heap [] := va_S.rf
  have hP : va_P (dC, dI) vwCl [] s.heap := fun k q h => by simp at h
  have hD : va_D (AL s) [] := ⟨fun i j p q h => by simp at h, fun k q h => by simp at h⟩
  have hl := lv_entry ([.ref b]) (n := 4) (Nat.le_of_ble_eq_true rfl)
  rw [lg_entry_eq]
  generalize (lg_sl ([.ref b]) ++ List.replicate (4 - (lg_sl ([.ref b])).length) Slot.unset).toArray = ls at hl ⊢
  have hl : lv_has ls 4 [(0, .ref b)] := hl
  refine k_new hx hb hown hts hK hA hP hD hS (ci := 10) (fs := [.null, .null, .null, .null, .null, .null, .null, .null, .null, .int 0]) rfl inX10 tyX10_ok (gw_of (i := 54) (by decide +kernel) (by decide +kernel)) (gw_of (i := 55) (by decide +kernel) (by decide +kernel)) (gw_of (i := 41) (by decide +kernel) (by decide +kernel)) (fun j hj => by rcases (show j = 0 ∨ j = 1 ∨ j = 2 ∨ j = 3 ∨ j = 4 ∨ j = 5 ∨ j = 6 ∨ j = 7 ∨ j = 8 ∨ j = 9 by omega) with rfl | rfl | rfl | rfl | rfl | rfl | rfl | rfl | rfl | rfl <;> rfl) (Nat.le_of_ble_eq_true rfl) (Nat.le_of_ble_eq_true rfl) dL_law_0 (fun o1 H hP hD hS => ?_)
  have hP : va_P (dC, dI) vwCl [(o1, .inr (10, [.null, .null, .null, .null, .null, .null, .null, .null, .null, .int 0]))] H := hP
  have hD : va_D (AL s) [(o1, .inr (10, [.null, .null, .null, .null, .null, .null, .null, .null, .null, .int 0]))] := hD
  refine W.widen (k := 1) (n := 10) (by omega) (by omega) ?_
  refine lv_dup hx hb dL_law_3 rfl ?_
  refine k_callI hx hb hml hown hts hK hN hA hP hD hS hl (i_X10 l) (gw_of (i := 58) (by decide +kernel) (by decide +kernel)) (gw_of (i := 41) (by decide +kernel) (by decide +kernel)) (gw_of (i := 56) (by decide +kernel) (by decide +kernel)) (gw_of (i := 57) (by decide +kernel) (by decide +kernel)) rfl (by decide +kernel) ⟨rfl, rfl⟩ ⟨Nat.le_of_ble_eq_true rfl, Nat.le_of_ble_eq_true rfl⟩ ⟨Nat.le_of_ble_eq_true rfl, Nat.le_of_ble_eq_true rfl⟩ (wr' := []) 0 [] rfl rfl (by decide) (by decide) rfl rfl (Nat.le_of_ble_eq_true rfl) dL_law_4 (fun u H locs hp hP hD hS => ?_)
  obtain ⟨q, σ⟩ := u
  obtain ⟨hq0, hσ⟩ := hp
  dsimp only at hq0 hσ hP hD
  subst hσ
  rw [List.nil_append] at hP hD
  have hP2 := hP
  have hD2 := hD
  subst hq0
  have hP := hP2
  have hD := hD2
  refine W.widen (k := 45) (n := 1996) (by omega) (by omega) ?_
  refine lv_astore_n (lv' := [(1, .ref (q 0)), (0, .ref b)]) hx hb dL_law_7 rfl hl (by decide) rfl (fun ls hl => ?_)
  refine k_new hx hb hown hts hK hA hP hD hS (ci := 11) (fs := [.null, .int 0, .int 0, .null, .null, .null, .int 0, .int 0, .null, .int 0, .null, .null, .null, .null, .int 0, .null, .null, .null, .null, .null, .null, .int 0, .null, .null, .null, .int 0, .null, .null, .null, .null, .null, .null, .null, .null, .int 0, .null, .int 0, .null, .null, .null, .null, .null, .null, .null, .null, .null, .null]) rfl inX11 tyX11_ok (gw_of (i := 820) (by decide +kernel) (by decide +kernel)) (gw_of (i := 821) (by decide +kernel) (by decide +kernel)) (gw_of (i := 52) (by decide +kernel) (by decide +kernel)) (fun j hj => by rcases (show j = 0 ∨ j = 1 ∨ j = 2 ∨ j = 3 ∨ j = 4 ∨ j = 5 ∨ j = 6 ∨ j = 7 ∨ j = 8 ∨ j = 9 ∨ j = 10 ∨ j = 11 ∨ j = 12 ∨ j = 13 ∨ j = 14 ∨ j = 15 ∨ j = 16 ∨ j = 17 ∨ j = 18 ∨ j = 19 ∨ j = 20 ∨ j = 21 ∨ j = 22 ∨ j = 23 ∨ j = 24 ∨ j = 25 ∨ j = 26 ∨ j = 27 ∨ j = 28 ∨ j = 29 ∨ j = 30 ∨ j = 31 ∨ j = 32 ∨ j = 33 ∨ j = 34 ∨ j = 35 ∨ j = 36 ∨ j = 37 ∨ j = 38 ∨ j = 39 ∨ j = 40 ∨ j = 41 ∨ j = 42 ∨ j = 43 ∨ j = 44 ∨ j = 45 ∨ j = 46 by omega) with rfl | rfl | rfl | rfl | rfl | rfl | rfl | rfl | rfl | rfl | rfl | rfl | rfl | rfl | rfl | rfl | rfl | rfl | rfl | rfl | rfl | rfl | rfl | rfl | rfl | rfl | rfl | rfl | rfl | rfl | rfl | rfl | rfl | rfl | rfl | rfl | rfl | rfl | rfl | rfl | rfl | rfl | rfl | rfl | rfl | rfl | rfl <;> rfl) (Nat.le_of_ble_eq_true rfl) (Nat.le_of_ble_eq_true rfl) dL_law_8 (fun o2 H hP hD hS => ?_)
  refine W.widen (k := 46) (n := 2043) (by omega) (by omega) ?_
  refine lv_dup hx hb dL_law_11 rfl ?_
  have hlen : (wd cs LC q elSt).length = 45 := by unfold wd; rw [List.length_mapIdx]; rfl
  have hob : (wd cs LC q elSt ++ [(o2, .inr (11, [.null, .int 0, .int 0, .null, .null, .null, .int 0, .int 0, .null, .int 0, .null, .null, .null, .null, .int 0, .null, .null, .null, .null, .null, .null, .int 0, .null, .null, .null, .int 0, .null, .null, .null, .null, .null, .null, .null, .null, .int 0, .null, .int 0, .null, .null, .null, .null, .null, .null, .null, .null, .null, .null]))])[45]? = some (o2, .inr (11, [.null, .int 0, .int 0, .null, .null, .null, .int 0, .int 0, .null, .int 0, .null, .null, .null, .null, .int 0, .null, .null, .null, .null, .null, .null, .int 0, .null, .null, .null, .int 0, .null, .null, .null, .null, .null, .null, .null, .null, .int 0, .null, .int 0, .null, .null, .null, .null, .null, .null, .null, .null, .null, .null])) := by rw [List.getElem?_append_right (by omega), hlen]; rfl
  have hRs : (List.range 45).map (fun i => (wd cs LC q elSt ++ [(o2, .inr (11, [.null, .int 0, .int 0, .null, .null, .null, .int 0, .int 0, .null, .int 0, .null, .null, .null, .null, .int 0, .null, .null, .null, .null, .null, .null, .int 0, .null, .null, .null, .int 0, .null, .null, .null, .null, .null, .null, .null, .null, .int 0, .null, .int 0, .null, .null, .null, .null, .null, .null, .null, .null, .null, .null]))])[i]?) = (wd cs LC q elSt).map some := by
    apply List.ext_getElem?
    intro i
    rw [List.getElem?_map, List.getElem?_map]
    by_cases hi : i < 45
    · rw [List.getElem?_range hi, Option.map_some, List.getElem?_append_left (by omega), List.getElem?_eq_getElem (by omega)]
      rfl
    · rw [List.getElem?_eq_none (by rw [List.length_range]; omega), List.getElem?_eq_none (by omega)]
      rfl
  refine k_callI hx hb hml hown hts hK hN hA hP hD hS hl (i_X11 l) (gw_of (i := 824) (by decide +kernel) (by decide +kernel)) (gw_of (i := 52) (by decide +kernel) (by decide +kernel)) (gw_of (i := 822) (by decide +kernel) (by decide +kernel)) (gw_of (i := 823) (by decide +kernel) (by decide +kernel)) rfl (by decide +kernel) ⟨rfl, rfl⟩ ⟨Nat.le_of_ble_eq_true rfl, Nat.le_of_ble_eq_true rfl⟩ ⟨Nat.le_of_ble_eq_true rfl, Nat.le_of_ble_eq_true rfl⟩ (wr' := wd cs LC q elSt) 45 (List.range 45) hob hRs (by decide) (by decide) rfl rfl (Nat.le_of_ble_eq_true rfl) dL_law_12 (fun u H locs hp hP hD hS => ?_)
  obtain ⟨q', τ⟩ := u
  obtain ⟨hq0, hτ⟩ := hp
  dsimp only at hq0 hτ hP hD
  subst hτ
  have hP2 := hP
  have hD2 := hD
  subst hq0
  have hP := hP2
  have hD := hD2
  refine W.widen (k := 83) (n := 3832) (by omega) (by omega) ?_
  refine lv_astore_n (lv' := [(2, .ref (q' 0)), (1, .ref (q 0)), (0, .ref b)]) hx hb dL_law_15 rfl hl (by decide) rfl (fun ls hl => ?_)
  refine lv_iconst (v := 0) hx hb dL_law_16 (by decide) ?_
  refine lv_istore_n (lv' := [(3, .int 0), (2, .ref (q' 0)), (1, .ref (q 0)), (0, .ref b)]) hx hb dL_law_17 rfl hl (by decide) rfl (fun ls hl => ?_)
  have hO : OL (dC, dI) cs q q' s elSt (modSt 7) H locs := by
    have hat1 : ∀ (k : Nat) (x : Nat × va_E), (wd cs LC q elSt)[k]? = some x → (wd cs LC q elSt ++ wd cs LM q' (modSt 7))[k]? = some x := fun k x hx => by
      rw [List.getElem?_append_left (List.getElem?_eq_some_iff.mp hx).1]; exact hx
    have hat2 : ∀ (k : Nat) (x : Nat × va_E), (wd cs LM q' (modSt 7))[k]? = some x → (wd cs LC q elSt ++ wd cs LM q' (modSt 7))[45 + k]? = some x := fun k x hx => by
      rw [List.getElem?_append_right (by omega), hlen, Nat.add_sub_cancel_left]; exact hx
    refine ⟨fun k x hx => hP k x (hat1 k x hx), fun k x hx => hP _ x (hat2 k x hx), ⟨fun i j x y hi hj hxy => hD.1 i j x y (hat1 i x hi) (hat1 j y hj) hxy, fun k x hx => hD.2 k x (hat1 k x hx)⟩, ⟨fun i j x y hi hj hxy => by have := hD.1 _ _ x y (hat2 i x hi) (hat2 j y hj) hxy; omega, fun k x hx => hD.2 _ x (hat2 k x hx)⟩, fun i j hi hj he => ?_, hS⟩
    have h1 := hat1 i _ (wd_at (cs := cs) (q := q) (σ := elSt) (List.getElem?_eq_getElem hi))
    have h2 := hat2 j _ (wd_at (cs := cs) (q := q') (σ := modSt 7) (List.getElem?_eq_getElem hj))
    have h3 := hD.1 _ _ _ _ h1 h2 he
    have h4 : i < 45 := hi
    omega
  have C : CX p room_1 s m #[Value.ref b] meth c cL_law 4 "EmptyLegsLaw" 9 350 (dC, dI) cs := ⟨hx, hb, hml, hown, hts, hK, hN, Nat.le_refl _, Nat.le_refl _⟩
  exact law_loop hL C0 C (L + 1) 0 (Nat.zero_le L) (by omega) _ _ _ _ rel_init hO ls (lv_sub hl [3, 2, 1, 0] rfl)
