set_option maxHeartbeats 4000000 in
set_option maxRecDepth 100000 in
theorem c_J_bitCount (l : Launch) (x : Int32) : XMs l y_J_bitCount k_J_bitCount { frames := 0, cells := 0, slots := 0, locals := 0 } [.int x] (fun r => r = fBc x) := by
  refine xb_ofs (cc := b_J_bitCount) (maxL := 1) (ret := some .int) (by decide) rfl (Nat.le_of_ble_eq_true rfl) ?_
  intro p e s m below meth c ls hx hb hml hr hlocks hts hown hl
  have hl : lv_has ls 1 [(0, .int x)] := hl
  refine lv_iload_n hx hb d_J_bitCount_0 rfl (lv_at hl 0 rfl) ?_
  refine lv_iload_n hx hb d_J_bitCount_1 rfl (lv_at hl 0 rfl) ?_
  refine lv_iconst (v := 1) hx hb d_J_bitCount_2 (by decide) ?_
  refine lv_iushr hx hb d_J_bitCount_3 rfl ?_
  refine lv_ldcw (v := 1431655765) hx hb hown (hts (Cond.constant "java/lang/Integer" 265 (1431655765 : Int32)) (List.mem_cons_of_mem _ wm_335)) d_J_bitCount_4 ?_
  refine lv_iand hx hb d_J_bitCount_7 ?_
  refine lv_isub hx hb d_J_bitCount_8 ?_
  refine xa_top (fBc1 x) rfl ?_
  refine lv_istore_n (lv' := [(0, .int _)]) hx hb d_J_bitCount_9 rfl hl (by decide) rfl (fun ls hl => ?_)
  refine lv_iload_n hx hb d_J_bitCount_10 rfl (lv_at hl 0 rfl) ?_
  refine lv_ldcw (v := 858993459) hx hb hown (hts (Cond.constant "java/lang/Integer" 266 (858993459 : Int32)) (List.mem_cons_of_mem _ wm_336)) d_J_bitCount_11 ?_
  refine lv_iand hx hb d_J_bitCount_14 ?_
  refine lv_iload_n hx hb d_J_bitCount_15 rfl (lv_at hl 0 rfl) ?_
  refine lv_iconst (v := 2) hx hb d_J_bitCount_16 (by decide) ?_
  refine lv_iushr hx hb d_J_bitCount_17 rfl ?_
  refine lv_ldcw (v := 858993459) hx hb hown (hts (Cond.constant "java/lang/Integer" 266 (858993459 : Int32)) (List.mem_cons_of_mem _ wm_336)) d_J_bitCount_18 ?_
  refine lv_iand hx hb d_J_bitCount_21 ?_
  refine lv_iadd hx hb d_J_bitCount_22 ?_
  refine xa_top (fBc2 (fBc1 x)) rfl ?_
  refine lv_istore_n (lv' := [(0, .int _)]) hx hb d_J_bitCount_23 rfl hl (by decide) rfl (fun ls hl => ?_)
  refine lv_iload_n hx hb d_J_bitCount_24 rfl (lv_at hl 0 rfl) ?_
  refine lv_iload_n hx hb d_J_bitCount_25 rfl (lv_at hl 0 rfl) ?_
  refine lv_iconst (v := 4) hx hb d_J_bitCount_26 (by decide) ?_
  refine lv_iushr hx hb d_J_bitCount_27 rfl ?_
  refine lv_iadd hx hb d_J_bitCount_28 ?_
  refine lv_ldcw (v := 252645135) hx hb hown (hts (Cond.constant "java/lang/Integer" 267 (252645135 : Int32)) (List.mem_cons_of_mem _ wm_337)) d_J_bitCount_29 ?_
  refine lv_iand hx hb d_J_bitCount_32 ?_
  refine xa_top (fBc3 (fBc2 (fBc1 x))) rfl ?_
  refine lv_istore_n (lv' := [(0, .int _)]) hx hb d_J_bitCount_33 rfl hl (by decide) rfl (fun ls hl => ?_)
  refine lv_iload_n hx hb d_J_bitCount_34 rfl (lv_at hl 0 rfl) ?_
  refine lv_iload_n hx hb d_J_bitCount_35 rfl (lv_at hl 0 rfl) ?_
  refine lv_bipush (v := 8) hx hb d_J_bitCount_36 (by decide) ?_
  refine lv_iushr hx hb d_J_bitCount_38 rfl ?_
  refine lv_iadd hx hb d_J_bitCount_39 ?_
  refine xa_top (fBc4 (fBc3 (fBc2 (fBc1 x)))) rfl ?_
  refine lv_istore_n (lv' := [(0, .int _)]) hx hb d_J_bitCount_40 rfl hl (by decide) rfl (fun ls hl => ?_)
  refine lv_iload_n hx hb d_J_bitCount_41 rfl (lv_at hl 0 rfl) ?_
  refine lv_iload_n hx hb d_J_bitCount_42 rfl (lv_at hl 0 rfl) ?_
  refine lv_bipush (v := 16) hx hb d_J_bitCount_43 (by decide) ?_
  refine lv_iushr hx hb d_J_bitCount_45 rfl ?_
  refine lv_iadd hx hb d_J_bitCount_46 ?_
  refine xa_top (fBc5 (fBc4 (fBc3 (fBc2 (fBc1 x))))) rfl ?_
  refine lv_istore_n (lv' := [(0, .int _)]) hx hb d_J_bitCount_47 rfl hl (by decide) rfl (fun ls hl => ?_)
  refine lv_iload_n hx hb d_J_bitCount_48 rfl (lv_at hl 0 rfl) ?_
  refine lv_bipush (v := 63) hx hb d_J_bitCount_49 (by decide) ?_
  refine lv_iand hx hb d_J_bitCount_51 ?_
  exact xc_sret hx hb hr hlocks rfl d_J_bitCount_52
set_option maxHeartbeats 4000000 in
set_option maxRecDepth 100000 in
theorem lp_T_howManyKept {p : Program} {l : Launch} {e : Env} {s : State} {m : MethodId} {args : Array Value} {below : List Frame} {meth : Method} {c : Code} {Q : State → Prop} {D : va_G} {a : Nat} {cA : ClassId} {n : Nat} {f : Nat → Int32} (hn : n < 2 ^ 30) (hx : p.tables.exec = Jvm.exec) (hb : c.code = b_T_howManyKept) (hP : va_P D vwCl [(a, .inl (cA, n, .inl f))] s.heap) (hK : va_K D vwCl [(cA, .int)] s) (kk : ∀ (acc : Int32) (ls : Array Slot), acc = fCntNe (-1) f n 0 0 → lv_has ls 6 [(4, .int (nI n)), (1, .int acc), (3, .int (nI n)), (2, .ref a), (0, .ref a)] → W p l e ({ frames := 0, cells := 0, slots := 0, locals := 0 }) s m args below meth c s.heap [] 0 0 Q (F0 m 37 ls [])) : ∀ (d i : Nat), i + d = n → ∀ (acc : Int32) (ls : Array Slot), fCntNe (-1) f d i acc = fCntNe (-1) f n 0 0 → lv_has ls 6 [(4, .int (nI i)), (1, .int acc), (3, .int (nI n)), (2, .ref a), (0, .ref a)] → W p l e ({ frames := 0, cells := 0, slots := 0, locals := 0 }) s m args below meth c s.heap [] 0 0 Q (F0 m 10 ls []) := by
  intro d
  induction d with
  | zero =>
    intro i hi acc ls hu hl
    obtain rfl : i = n := by omega
    refine lv_iload hx hb d_T_howManyKept_10 (lv_at hl 0 rfl) ?_
    refine lv_iload_n hx hb d_T_howManyKept_12 rfl (lv_at hl 2 rfl) ?_
    refine lv_icmp_ge (tgt := 37) hx hb d_T_howManyKept_13 (by decide) (fun _ => ?_) (fun c9 => absurd (nI_le (a := i) (b := i) (by omega) (by omega)) c9)
    exact kk acc ls hu hl
  | succ d ih =>
    intro i hi acc ls hu hl
    have hin : i < n := by omega
    by_cases h2 : f i = (-1)
    · skip
      refine lv_iload hx hb d_T_howManyKept_10 (lv_at hl 0 rfl) ?_
      refine lv_iload_n hx hb d_T_howManyKept_12 rfl (lv_at hl 2 rfl) ?_
      refine lv_icmp_ge (tgt := 37) hx hb d_T_howManyKept_13 (by decide) (fun c9 => absurd c9 (nI_ge (a := i) (b := n) (by omega) (by omega))) (fun _ => ?_)
      refine lv_aload_n hx hb d_T_howManyKept_16 rfl (lv_at hl 3 rfl) ?_
      refine lv_iload hx hb d_T_howManyKept_17 (lv_at hl 0 rfl) ?_
      refine xa_iald hx hb hK hP 0 0 rfl rfl (by omega) i rfl hin d_T_howManyKept_19 ?_
      refine lv_istore (lv' := [(5, .int _), (4, .int (nI i)), (1, .int _), (3, .int (nI n)), (2, .ref _), (0, .ref _)]) hx hb d_T_howManyKept_20 hl (by decide) rfl (fun ls hl => ?_)
      refine lv_iload hx hb d_T_howManyKept_22 (lv_at hl 0 rfl) ?_
      refine lv_iconst (v := (-1)) hx hb d_T_howManyKept_24 (by decide) ?_
      refine lv_icmp_eq (tgt := 31) hx hb d_T_howManyKept_25 (by decide) (fun _ => ?_) (fun c9 => absurd h2 c9)
      refine lv_iinc (v := nI (i + 1)) (lv' := [(4, .int (nI (i + 1))), (5, .int _), (1, .int _), (3, .int (nI n)), (2, .ref _), (0, .ref _)]) hx hb d_T_howManyKept_31 hl (k := 1) rfl (nI_add _ _) (by decide) rfl (fun ls hl => ?_)
      refine lv_goto (tgt := 10) hx hb d_T_howManyKept_34 (by decide) ?_
      exact ih (i + 1) (by omega) _ _ (by rw [← hu]; show _ = fCntNe (-1) f d (i + 1) (if f i = (-1) then acc else acc + 1); rw [if_pos h2]) (lv_sub hl [0, 2, 3, 4, 5] rfl)
    · skip
      refine lv_iload hx hb d_T_howManyKept_10 (lv_at hl 0 rfl) ?_
      refine lv_iload_n hx hb d_T_howManyKept_12 rfl (lv_at hl 2 rfl) ?_
      refine lv_icmp_ge (tgt := 37) hx hb d_T_howManyKept_13 (by decide) (fun c9 => absurd c9 (nI_ge (a := i) (b := n) (by omega) (by omega))) (fun _ => ?_)
      refine lv_aload_n hx hb d_T_howManyKept_16 rfl (lv_at hl 3 rfl) ?_
      refine lv_iload hx hb d_T_howManyKept_17 (lv_at hl 0 rfl) ?_
      refine xa_iald hx hb hK hP 0 0 rfl rfl (by omega) i rfl hin d_T_howManyKept_19 ?_
      refine lv_istore (lv' := [(5, .int _), (4, .int (nI i)), (1, .int _), (3, .int (nI n)), (2, .ref _), (0, .ref _)]) hx hb d_T_howManyKept_20 hl (by decide) rfl (fun ls hl => ?_)
      refine lv_iload hx hb d_T_howManyKept_22 (lv_at hl 0 rfl) ?_
      refine lv_iconst (v := (-1)) hx hb d_T_howManyKept_24 (by decide) ?_
      refine lv_icmp_eq (tgt := 31) hx hb d_T_howManyKept_25 (by decide) (fun c9 => absurd c9 h2) (fun _ => ?_)
      refine lv_iinc (lv' := [(1, .int _), (5, .int _), (4, .int (nI i)), (3, .int (nI n)), (2, .ref _), (0, .ref _)]) hx hb d_T_howManyKept_28 hl (k := 2) rfl rfl (by decide) rfl (fun ls hl => ?_)
      refine lv_iinc (v := nI (i + 1)) (lv' := [(4, .int (nI (i + 1))), (1, .int _), (5, .int _), (3, .int (nI n)), (2, .ref _), (0, .ref _)]) hx hb d_T_howManyKept_31 hl (k := 2) rfl (nI_add _ _) (by decide) rfl (fun ls hl => ?_)
      refine lv_goto (tgt := 10) hx hb d_T_howManyKept_34 (by decide) ?_
      exact ih (i + 1) (by omega) _ _ (by rw [← hu]; show _ = fCntNe (-1) f d (i + 1) (if f i = (-1) then acc else acc + 1); rw [if_neg h2]; rfl) (lv_sub hl [0, 1, 3, 4, 5] rfl)
set_option maxHeartbeats 4000000 in
set_option maxRecDepth 100000 in
theorem c_T_howManyKept (l : Launch) (D : va_G) (a : Nat) (cA : ClassId) (n : Nat) (f : Nat → Int32) (hn : n < 2 ^ 30) : XMa l y_T_howManyKept k_T_howManyKept { frames := 0, cells := 0, slots := 0, locals := 0 } D vwCl a cA n f .int (fun r => r = fCntNe (-1) f n 0 0) := by
  refine xb_ofa (cc := b_T_howManyKept) (maxL := 6) (ret := some .int) (by decide) rfl (Nat.le_of_ble_eq_true rfl) ?_
  intro p e s m below meth c ls hx hb hml hr hlocks hts hown hP hK hl
  have hl : lv_has ls 6 [(0, .ref a)] := hl
  refine lv_iconst (v := 0) hx hb d_T_howManyKept_0 (by decide) ?_
  refine lv_istore_n (lv' := [(1, .int (nI 0)), (0, .ref _)]) hx hb d_T_howManyKept_1 rfl hl (by decide) rfl (fun ls hl => ?_)
  refine lv_aload_n hx hb d_T_howManyKept_2 rfl (lv_at hl 1 rfl) ?_
  refine lv_astore_n (lv' := [(2, .ref _), (1, .int (nI 0)), (0, .ref _)]) hx hb d_T_howManyKept_3 rfl hl (by decide) rfl (fun ls hl => ?_)
  refine lv_aload_n hx hb d_T_howManyKept_4 rfl (lv_at hl 0 rfl) ?_
  refine va_alen hx hb hK hP 0 0 rfl rfl (v := nI n) rfl d_T_howManyKept_5 ?_
  refine lv_istore_n (lv' := [(3, .int (nI n)), (2, .ref _), (1, .int (nI 0)), (0, .ref _)]) hx hb d_T_howManyKept_6 rfl hl (by decide) rfl (fun ls hl => ?_)
  refine lv_iconst (v := 0) hx hb d_T_howManyKept_7 (by decide) ?_
  refine lv_istore (lv' := [(4, .int (nI 0)), (3, .int (nI n)), (2, .ref _), (1, .int (nI 0)), (0, .ref _)]) hx hb d_T_howManyKept_8 hl (by decide) rfl (fun ls hl => ?_)
  refine lp_T_howManyKept hn hx hb hP hK ?_ n 0 (by omega) _ _ rfl (lv_sub hl [0, 3, 1, 2, 4] rfl)
  intro acc ls he hl
  refine lv_iload_n hx hb d_T_howManyKept_37 rfl (lv_at hl 1 rfl) ?_
  exact xc_sret hx hb hr hlocks he d_T_howManyKept_38
set_option maxHeartbeats 4000000 in
set_option maxRecDepth 100000 in
theorem lp_T_howManyChanged {p : Program} {l : Launch} {e : Env} {s : State} {m : MethodId} {args : Array Value} {below : List Frame} {meth : Method} {c : Code} {Q : State → Prop} {D : va_G} {a : Nat} {cA : ClassId} {n : Nat} {f : Nat → Int32} (hn : n < 2 ^ 30) (hx : p.tables.exec = Jvm.exec) (hb : c.code = b_T_howManyChanged) (hP : va_P D vwCl [(a, .inl (cA, n, .inl f))] s.heap) (hK : va_K D vwCl [(cA, .boolean)] s) (kk : ∀ (acc : Int32) (ls : Array Slot), acc = fCntNe 0 f n 0 0 → lv_has ls 6 [(4, .int (nI n)), (1, .int acc), (3, .int (nI n)), (2, .ref a), (0, .ref a)] → W p l e ({ frames := 0, cells := 0, slots := 0, locals := 0 }) s m args below meth c s.heap [] 0 0 Q (F0 m 36 ls [])) : ∀ (d i : Nat), i + d = n → ∀ (acc : Int32) (ls : Array Slot), fCntNe 0 f d i acc = fCntNe 0 f n 0 0 → lv_has ls 6 [(4, .int (nI i)), (1, .int acc), (3, .int (nI n)), (2, .ref a), (0, .ref a)] → W p l e ({ frames := 0, cells := 0, slots := 0, locals := 0 }) s m args below meth c s.heap [] 0 0 Q (F0 m 10 ls []) := by
  intro d
  induction d with
  | zero =>
    intro i hi acc ls hu hl
    obtain rfl : i = n := by omega
    refine lv_iload hx hb d_T_howManyChanged_10 (lv_at hl 0 rfl) ?_
    refine lv_iload_n hx hb d_T_howManyChanged_12 rfl (lv_at hl 2 rfl) ?_
    refine lv_icmp_ge (tgt := 36) hx hb d_T_howManyChanged_13 (by decide) (fun _ => ?_) (fun c9 => absurd (nI_le (a := i) (b := i) (by omega) (by omega)) c9)
    exact kk acc ls hu hl
  | succ d ih =>
    intro i hi acc ls hu hl
    have hin : i < n := by omega
    by_cases h2 : f i = 0
    · skip
      refine lv_iload hx hb d_T_howManyChanged_10 (lv_at hl 0 rfl) ?_
      refine lv_iload_n hx hb d_T_howManyChanged_12 rfl (lv_at hl 2 rfl) ?_
      refine lv_icmp_ge (tgt := 36) hx hb d_T_howManyChanged_13 (by decide) (fun c9 => absurd c9 (nI_ge (a := i) (b := n) (by omega) (by omega))) (fun _ => ?_)
      refine lv_aload_n hx hb d_T_howManyChanged_16 rfl (lv_at hl 3 rfl) ?_
      refine lv_iload hx hb d_T_howManyChanged_17 (lv_at hl 0 rfl) ?_
      refine xa_zald hx hb hK hP 0 0 rfl rfl (by omega) i rfl hin d_T_howManyChanged_19 ?_
      refine lv_istore (lv' := [(5, .int _), (4, .int (nI i)), (1, .int _), (3, .int (nI n)), (2, .ref _), (0, .ref _)]) hx hb d_T_howManyChanged_20 hl (by decide) rfl (fun ls hl => ?_)
      refine lv_iload hx hb d_T_howManyChanged_22 (lv_at hl 0 rfl) ?_
      refine lv_if_eq (tgt := 30) hx hb d_T_howManyChanged_24 (by decide) (fun _ => ?_) (fun c9 => absurd h2 c9)
      refine lv_iinc (v := nI (i + 1)) (lv' := [(4, .int (nI (i + 1))), (5, .int _), (1, .int _), (3, .int (nI n)), (2, .ref _), (0, .ref _)]) hx hb d_T_howManyChanged_30 hl (k := 1) rfl (nI_add _ _) (by decide) rfl (fun ls hl => ?_)
      refine lv_goto (tgt := 10) hx hb d_T_howManyChanged_33 (by decide) ?_
      exact ih (i + 1) (by omega) _ _ (by rw [← hu]; show _ = fCntNe 0 f d (i + 1) (if f i = 0 then acc else acc + 1); rw [if_pos h2]) (lv_sub hl [0, 2, 3, 4, 5] rfl)
    · skip
      refine lv_iload hx hb d_T_howManyChanged_10 (lv_at hl 0 rfl) ?_
      refine lv_iload_n hx hb d_T_howManyChanged_12 rfl (lv_at hl 2 rfl) ?_
      refine lv_icmp_ge (tgt := 36) hx hb d_T_howManyChanged_13 (by decide) (fun c9 => absurd c9 (nI_ge (a := i) (b := n) (by omega) (by omega))) (fun _ => ?_)
      refine lv_aload_n hx hb d_T_howManyChanged_16 rfl (lv_at hl 3 rfl) ?_
      refine lv_iload hx hb d_T_howManyChanged_17 (lv_at hl 0 rfl) ?_
      refine xa_zald hx hb hK hP 0 0 rfl rfl (by omega) i rfl hin d_T_howManyChanged_19 ?_
      refine lv_istore (lv' := [(5, .int _), (4, .int (nI i)), (1, .int _), (3, .int (nI n)), (2, .ref _), (0, .ref _)]) hx hb d_T_howManyChanged_20 hl (by decide) rfl (fun ls hl => ?_)
      refine lv_iload hx hb d_T_howManyChanged_22 (lv_at hl 0 rfl) ?_
      refine lv_if_eq (tgt := 30) hx hb d_T_howManyChanged_24 (by decide) (fun c9 => absurd c9 h2) (fun _ => ?_)
      refine lv_iinc (lv' := [(1, .int _), (5, .int _), (4, .int (nI i)), (3, .int (nI n)), (2, .ref _), (0, .ref _)]) hx hb d_T_howManyChanged_27 hl (k := 2) rfl rfl (by decide) rfl (fun ls hl => ?_)
      refine lv_iinc (v := nI (i + 1)) (lv' := [(4, .int (nI (i + 1))), (1, .int _), (5, .int _), (3, .int (nI n)), (2, .ref _), (0, .ref _)]) hx hb d_T_howManyChanged_30 hl (k := 2) rfl (nI_add _ _) (by decide) rfl (fun ls hl => ?_)
      refine lv_goto (tgt := 10) hx hb d_T_howManyChanged_33 (by decide) ?_
      exact ih (i + 1) (by omega) _ _ (by rw [← hu]; show _ = fCntNe 0 f d (i + 1) (if f i = 0 then acc else acc + 1); rw [if_neg h2]; rfl) (lv_sub hl [0, 1, 3, 4, 5] rfl)
set_option maxHeartbeats 4000000 in
set_option maxRecDepth 100000 in
theorem c_T_howManyChanged (l : Launch) (D : va_G) (a : Nat) (cA : ClassId) (n : Nat) (f : Nat → Int32) (hn : n < 2 ^ 30) : XMa l y_T_howManyChanged k_T_howManyChanged { frames := 0, cells := 0, slots := 0, locals := 0 } D vwCl a cA n f .boolean (fun r => r = fCntNe 0 f n 0 0) := by
  refine xb_ofa (cc := b_T_howManyChanged) (maxL := 6) (ret := some .int) (by decide) rfl (Nat.le_of_ble_eq_true rfl) ?_
  intro p e s m below meth c ls hx hb hml hr hlocks hts hown hP hK hl
  have hl : lv_has ls 6 [(0, .ref a)] := hl
  refine lv_iconst (v := 0) hx hb d_T_howManyChanged_0 (by decide) ?_
  refine lv_istore_n (lv' := [(1, .int (nI 0)), (0, .ref _)]) hx hb d_T_howManyChanged_1 rfl hl (by decide) rfl (fun ls hl => ?_)
  refine lv_aload_n hx hb d_T_howManyChanged_2 rfl (lv_at hl 1 rfl) ?_
  refine lv_astore_n (lv' := [(2, .ref _), (1, .int (nI 0)), (0, .ref _)]) hx hb d_T_howManyChanged_3 rfl hl (by decide) rfl (fun ls hl => ?_)
  refine lv_aload_n hx hb d_T_howManyChanged_4 rfl (lv_at hl 0 rfl) ?_
  refine va_alen hx hb hK hP 0 0 rfl rfl (v := nI n) rfl d_T_howManyChanged_5 ?_
  refine lv_istore_n (lv' := [(3, .int (nI n)), (2, .ref _), (1, .int (nI 0)), (0, .ref _)]) hx hb d_T_howManyChanged_6 rfl hl (by decide) rfl (fun ls hl => ?_)
  refine lv_iconst (v := 0) hx hb d_T_howManyChanged_7 (by decide) ?_
  refine lv_istore (lv' := [(4, .int (nI 0)), (3, .int (nI n)), (2, .ref _), (1, .int (nI 0)), (0, .ref _)]) hx hb d_T_howManyChanged_8 hl (by decide) rfl (fun ls hl => ?_)
  refine lp_T_howManyChanged hn hx hb hP hK ?_ n 0 (by omega) _ _ rfl (lv_sub hl [0, 3, 1, 2, 4] rfl)
  intro acc ls he hl
  refine lv_iload_n hx hb d_T_howManyChanged_36 rfl (lv_at hl 1 rfl) ?_
  exact xc_sret hx hb hr hlocks he d_T_howManyChanged_37
set_option maxHeartbeats 4000000 in
set_option maxRecDepth 100000 in
theorem lp_T_allTags1 {p : Program} {l : Launch} {e : Env} {s : State} {m : MethodId} {args : Array Value} {below : List Frame} {meth : Method} {c : Code} {Q : State → Prop} {D : va_G} {A : Nat → Prop} {G : Nat → Nat} {kc : Nat → ClassId} {c1 : Cond} (hx : p.tables.exec = Jvm.exec) (hb : c.code = b_T_allTags) (hml : c.maxLocals = 3) (hown : s.vm.findClass "TagMemory" = some m.cls) (hts : ∀ w ∈ c1 :: TB, w.before args s = true) (hK : va_K D vwCl (tyTs kc) s) (hA : ∀ q, s.heap.size ≤ q → A q) (u : TC) (kk : ∀ (acc : Int32) (H : Heap) (locs : List Loc) (ls : Array Slot), acc = fSumR u 32 0 0 → va_P D vwCl (wT G kc u) H → va_D A (wT G kc u) → va_S A s.heap H locs → lv_has ls 3 [(2, .int (nI 32)), (1, .int acc), (0, .ref (G 0))] → W p l e ({ frames := 3, cells := 0, slots := 0, locals := 63 }) s m args below meth c H locs 0 0 Q (F0 m 27 ls [])) : ∀ (d i : Nat), i + d = 32 → ∀ (acc : Int32) (H : Heap) (locs : List Loc) (ls : Array Slot), fSumR u d i acc = fSumR u 32 0 0 → va_P D vwCl (wT G kc u) H → va_D A (wT G kc u) → va_S A s.heap H locs → lv_has ls 3 [(2, .int (nI i)), (1, .int acc), (0, .ref (G 0))] → W p l e ({ frames := 3, cells := 0, slots := 0, locals := 63 }) s m args below meth c H locs 0 0 Q (F0 m 4 ls []) := by
  intro d
  induction d with
  | zero =>
    intro i hi acc H locs ls hu hP hD hS hl
    obtain rfl : i = 32 := by omega
    refine lv_iload_n hx hb d_T_allTags_4 rfl (lv_at hl 0 rfl) ?_
    refine lv_bipush (v := 32) hx hb d_T_allTags_5 (by decide) ?_
    refine lv_icmp_ge (tgt := 27) hx hb d_T_allTags_7 (by decide) (fun _ => ?_) (fun c9 => absurd (nI_le (a := 32) (b := 32) (by omega) (by omega)) c9)
    exact kk acc H locs ls hu hP hD hS hl
  | succ d ih =>
    intro i hi acc H locs ls hu hP hD hS hl
    have hiN : i < 32 := by omega
    refine lv_iload_n hx hb d_T_allTags_4 rfl (lv_at hl 0 rfl) ?_
    refine lv_bipush (v := 32) hx hb d_T_allTags_5 (by decide) ?_
    refine lv_icmp_ge (tgt := 27) hx hb d_T_allTags_7 (by decide) (fun c9 => absurd c9 (nI_ge (a := i) (b := 32) (by omega) (by omega))) (fun _ => ?_)
    refine lv_iload_n hx hb d_T_allTags_10 rfl (lv_at hl 1 rfl) ?_
    refine lv_aload_n hx hb d_T_allTags_11 rfl (lv_at hl 2 rfl) ?_
    refine lv_iload_n hx hb d_T_allTags_12 rfl (lv_at hl 0 rfl) ?_
    refine xc_calli (n := 1) (C := "TagMemory") hx hb hml hown hts (c_T_peekRow l D G kc _ _ i (by omega)) (tb_V wm_108 wm_110 ws_7 wm_1 wm_111) rfl rfl rfl (by decide +kernel) ⟨Nat.le_of_ble_eq_true rfl, Nat.le_of_ble_eq_true rfl⟩ hK hP hD hS hA rfl rfl rfl rfl hl.1 rfl (Nat.le_of_ble_eq_true rfl) d_T_allTags_13 ⟨Nat.zero_le _, Nat.zero_le _⟩ (fun r u1 H locs hw hP hD hS => ?_)
    obtain ⟨e1, e2⟩ := hw
    subst e1
    rw [e2] at hP hD; clear e2 u1
    refine xc_callJ (n := 1) (C := "TagMemory") hx hb hml hown hts (c_J_bitCount l _) wm_332 wm_333 wm_9 wm_334 rfl rfl rfl (by decide +kernel) ⟨Nat.le_of_ble_eq_true rfl, Nat.le_of_ble_eq_true rfl⟩ rfl hl.1 rfl (Nat.le_of_ble_eq_true rfl) d_T_allTags_16 ⟨Nat.zero_le _, Nat.zero_le _⟩ (fun r hw => ?_)
    subst hw
    refine lv_iadd hx hb d_T_allTags_19 ?_
    refine lv_istore_n (lv' := [(1, .int _), (2, .int (nI i)), (0, .ref _)]) hx hb d_T_allTags_20 rfl hl (by decide) rfl (fun ls hl => ?_)
    refine lv_iinc (v := nI (i + 1)) (lv' := [(2, .int (nI (i + 1))), (1, .int _), (0, .ref _)]) hx hb d_T_allTags_21 hl (k := 1) rfl (nI_add _ _) (by decide) rfl (fun ls hl => ?_)
    refine lv_goto (tgt := 4) hx hb d_T_allTags_24 (by decide) ?_
    exact ih (i + 1) (by omega) _ _ _ _ hu hP hD hS (lv_sub hl [0, 1, 2] rfl)
set_option maxHeartbeats 4000000 in
set_option maxRecDepth 100000 in
theorem lp_T_allTags2 {p : Program} {l : Launch} {e : Env} {s : State} {m : MethodId} {args : Array Value} {below : List Frame} {meth : Method} {c : Code} {Q : State → Prop} {D : va_G} {A : Nat → Prop} {G : Nat → Nat} {kc : Nat → ClassId} {c1 : Cond} (hx : p.tables.exec = Jvm.exec) (hb : c.code = b_T_allTags) (hml : c.maxLocals = 3) (hown : s.vm.findClass "TagMemory" = some m.cls) (hts : ∀ w ∈ c1 :: TB, w.before args s = true) (hK : va_K D vwCl (tyTs kc) s) (hA : ∀ q, s.heap.size ≤ q → A q) (u : TC) (a0 : Int32) (hI : tI u) (kk : ∀ (acc : Int32) (H : Heap) (locs : List Loc) (ls : Array Slot), acc = fSumL u 16 0 a0 → va_P D vwCl (wT G kc u) H → va_D A (wT G kc u) → va_S A s.heap H locs → lv_has ls 3 [(2, .int (nI 16)), (1, .int acc), (0, .ref (G 0))] → W p l e ({ frames := 3, cells := 0, slots := 0, locals := 63 }) s m args below meth c H locs 0 0 Q (F0 m 77 ls [])) : ∀ (d i : Nat), i + d = 16 → ∀ (acc : Int32) (H : Heap) (locs : List Loc) (ls : Array Slot), fSumL u d i acc = fSumL u 16 0 a0 → va_P D vwCl (wT G kc u) H → va_D A (wT G kc u) → va_S A s.heap H locs → lv_has ls 3 [(2, .int (nI i)), (1, .int acc), (0, .ref (G 0))] → W p l e ({ frames := 3, cells := 0, slots := 0, locals := 63 }) s m args below meth c H locs 0 0 Q (F0 m 29 ls []) := by
  intro d
  induction d with
  | zero =>
    intro i hi acc H locs ls hu hP hD hS hl
    obtain rfl : i = 16 := by omega
    refine lv_iload_n hx hb d_T_allTags_29 rfl (lv_at hl 0 rfl) ?_
    refine lv_bipush (v := 16) hx hb d_T_allTags_30 (by decide) ?_
    refine lv_icmp_ge (tgt := 77) hx hb d_T_allTags_32 (by decide) (fun _ => ?_) (fun c9 => absurd (nI_le (a := 16) (b := 16) (by omega) (by omega)) c9)
    exact kk acc H locs ls hu hP hD hS hl
  | succ d ih =>
    intro i hi acc H locs ls hu hP hD hS hl
    have hiN : i < 16 := by omega
    by_cases h1 : tLa u i = -1
    · skip
      refine lv_iload_n hx hb d_T_allTags_29 rfl (lv_at hl 0 rfl) ?_
      refine lv_bipush (v := 16) hx hb d_T_allTags_30 (by decide) ?_
      refine lv_icmp_ge (tgt := 77) hx hb d_T_allTags_32 (by decide) (fun c9 => absurd c9 (nI_ge (a := i) (b := 16) (by omega) (by omega))) (fun _ => ?_)
      refine lv_aload_n hx hb d_T_allTags_35 rfl (lv_at hl 2 rfl) ?_
      refine xt_g1 hx hb hts hown hK hP d_T_allTags_36 ?_
      refine lv_iload_n hx hb d_T_allTags_39 rfl (lv_at hl 0 rfl) ?_
      refine xt_l1 hx hb hK hP i rfl (by omega) d_T_allTags_40 ?_
      refine lv_iconst (v := (-1)) hx hb d_T_allTags_41 (by decide) ?_
      refine lv_icmp_eq (tgt := 71) hx hb d_T_allTags_42 (by decide) (fun _ => ?_) (fun c9 => absurd h1 c9)
      refine lv_iinc (v := nI (i + 1)) (lv' := [(2, .int (nI (i + 1))), (1, .int _), (0, .ref _)]) hx hb d_T_allTags_71 hl (k := 0) rfl (nI_add _ _) (by decide) rfl (fun ls hl => ?_)
      refine lv_goto (tgt := 29) hx hb d_T_allTags_74 (by decide) ?_
      exact ih (i + 1) (by omega) _ _ _ _ (by rw [← hu]; show _ = fSumL u d (i + 1) (if tLa u i = -1 then acc else _); rw [if_pos h1]) hP hD hS (lv_sub hl [0, 1, 2] rfl)
    · obtain ⟨n, hn, hnq, hn1⟩ : ∃ n, n < 512 ∧ n % 16 = i ∧ tLa u i = nI n := (hI.2 i hiN).resolve_left h1
      refine lv_iload_n hx hb d_T_allTags_29 rfl (lv_at hl 0 rfl) ?_
      refine lv_bipush (v := 16) hx hb d_T_allTags_30 (by decide) ?_
      refine lv_icmp_ge (tgt := 77) hx hb d_T_allTags_32 (by decide) (fun c9 => absurd c9 (nI_ge (a := i) (b := 16) (by omega) (by omega))) (fun _ => ?_)
      refine lv_aload_n hx hb d_T_allTags_35 rfl (lv_at hl 2 rfl) ?_
      refine xt_g1 hx hb hts hown hK hP d_T_allTags_36 ?_
      refine lv_iload_n hx hb d_T_allTags_39 rfl (lv_at hl 0 rfl) ?_
      refine xt_l1 hx hb hK hP i rfl (by omega) d_T_allTags_40 ?_
      refine lv_iconst (v := (-1)) hx hb d_T_allTags_41 (by decide) ?_
      refine lv_icmp_eq (tgt := 71) hx hb d_T_allTags_42 (by decide) (fun c9 => absurd c9 h1) (fun _ => ?_)
      refine lv_iload_n hx hb d_T_allTags_45 rfl (lv_at hl 1 rfl) ?_
      refine lv_aload_n hx hb d_T_allTags_46 rfl (lv_at hl 2 rfl) ?_
      refine xt_g3 hx hb hts hown hK hP d_T_allTags_47 ?_
      refine lv_iload_n hx hb d_T_allTags_50 rfl (lv_at hl 0 rfl) ?_
      refine xt_l3 hx hb hK hP i rfl (by omega) d_T_allTags_51 ?_
      refine xc_callJ (n := 1) (C := "TagMemory") hx hb hml hown hts (c_J_bitCount l _) wm_332 wm_333 wm_9 wm_334 rfl rfl rfl (by decide +kernel) ⟨Nat.le_of_ble_eq_true rfl, Nat.le_of_ble_eq_true rfl⟩ rfl hl.1 rfl (Nat.le_of_ble_eq_true rfl) d_T_allTags_52 ⟨Nat.zero_le _, Nat.zero_le _⟩ (fun r hw => ?_)
      subst hw
      refine lv_aload_n hx hb d_T_allTags_55 rfl (lv_at hl 2 rfl) ?_
      refine lv_aload_n hx hb d_T_allTags_56 rfl (lv_at hl 2 rfl) ?_
      refine xt_g1 hx hb hts hown hK hP d_T_allTags_57 ?_
      refine lv_iload_n hx hb d_T_allTags_60 rfl (lv_at hl 0 rfl) ?_
      refine xt_l1 hx hb hK hP i rfl (by omega) d_T_allTags_61 ?_
      refine xa_top (nI n) hn1 ?_
      refine xc_calli (n := 1) (C := "TagMemory") hx hb hml hown hts (c_T_tagsBehindLine l D G kc _ _ n (by omega)) (tb_V wm_104 wm_106 ws_6 wm_1 wm_107) rfl rfl rfl (by decide +kernel) ⟨Nat.le_of_ble_eq_true rfl, Nat.le_of_ble_eq_true rfl⟩ hK hP hD hS hA rfl rfl rfl rfl hl.1 rfl (Nat.le_of_ble_eq_true rfl) d_T_allTags_62 ⟨Nat.zero_le _, Nat.zero_le _⟩ (fun r u1 H locs hw hP hD hS => ?_)
      obtain ⟨e1, e2⟩ := hw
      subst e1
      rw [e2] at hP hD; clear e2 u1
      refine xc_callJ (n := 1) (C := "TagMemory") hx hb hml hown hts (c_J_bitCount l _) wm_332 wm_333 wm_9 wm_334 rfl rfl rfl (by decide +kernel) ⟨Nat.le_of_ble_eq_true rfl, Nat.le_of_ble_eq_true rfl⟩ rfl hl.1 rfl (Nat.le_of_ble_eq_true rfl) d_T_allTags_65 ⟨Nat.zero_le _, Nat.zero_le _⟩ (fun r hw => ?_)
      subst hw
      refine lv_isub hx hb d_T_allTags_68 ?_
      refine lv_iadd hx hb d_T_allTags_69 ?_
      refine lv_istore_n (lv' := [(1, .int _), (2, .int (nI i)), (0, .ref _)]) hx hb d_T_allTags_70 rfl hl (by decide) rfl (fun ls hl => ?_)
      refine lv_iinc (v := nI (i + 1)) (lv' := [(2, .int (nI (i + 1))), (1, .int _), (0, .ref _)]) hx hb d_T_allTags_71 hl (k := 1) rfl (nI_add _ _) (by decide) rfl (fun ls hl => ?_)
      refine lv_goto (tgt := 29) hx hb d_T_allTags_74 (by decide) ?_
      exact ih (i + 1) (by omega) _ _ _ _ (by rw [← hu]; show _ = fSumL u d (i + 1) (if tLa u i = -1 then acc else _); rw [if_neg h1, hn1, nI_clamp (by omega)]; rfl) hP hD hS (lv_sub hl [0, 1, 2] rfl)
set_option maxHeartbeats 4000000 in
set_option maxRecDepth 100000 in
theorem c_T_allTags (l : Launch) (D : va_G) (G : Nat → Nat) (kc : Nat → ClassId) (sz : Nat) (u : TC) (hI : tI u) : XMi l y_T_allTags k_T_allTags { frames := 3, cells := 0, slots := 0, locals := 63 } D vwCl (wT G kc) (tyTs kc) u sz [.ref (G 0)] (fun r u1 => r = fAll u ∧ u1 = u) := by
  refine xb_ofi (cc := b_T_allTags) (maxL := 3) (ret := some .int) (by decide) rfl (Nat.le_of_ble_eq_true rfl) ?_
  intro p e s m below meth c A ls hsz hx hb hml hr hlocks hts hown hP hK hD hA hl
  have hl : lv_has ls 3 [(0, .ref (G 0))] := hl
  have hS : va_S A s.heap s.heap [] := va_S.rf
  refine lv_iconst (v := 0) hx hb d_T_allTags_0 (by decide) ?_
  refine lv_istore_n (lv' := [(1, .int (nI 0)), (0, .ref _)]) hx hb d_T_allTags_1 rfl hl (by decide) rfl (fun ls hl => ?_)
  refine lv_iconst (v := 0) hx hb d_T_allTags_2 (by decide) ?_
  refine lv_istore_n (lv' := [(2, .int (nI 0)), (1, .int (nI 0)), (0, .ref _)]) hx hb d_T_allTags_3 rfl hl (by decide) rfl (fun ls hl => ?_)
  refine lp_T_allTags1 hx hb hml hown hts hK hA u ?_ 32 0 rfl _ _ _ _ rfl hP hD hS (lv_sub hl [0, 1, 2] rfl)
  intro acc H locs ls he hP hD hS hl
  refine lv_iconst (v := 0) hx hb d_T_allTags_27 (by decide) ?_
  refine lv_istore_n (lv' := [(2, .int (nI 0)), (1, .int _), (0, .ref _)]) hx hb d_T_allTags_28 rfl hl (by decide) rfl (fun ls hl => ?_)
  refine lp_T_allTags2 hx hb hml hown hts hK hA u acc hI ?_ 16 0 rfl _ _ _ _ rfl hP hD hS (lv_sub hl [0, 1, 2] rfl)
  intro acc2 H locs ls he2 hP hD hS hl
  refine lv_iload_n hx hb d_T_allTags_77 rfl (lv_at hl 1 rfl) ?_
  exact xc_iret hx hb hr hlocks hP hK hD hS ⟨by rw [he2, he]; rfl, rfl⟩ d_T_allTags_78
set_option maxHeartbeats 4000000 in
set_option maxRecDepth 100000 in
theorem c_T_count (l : Launch) (D : va_G) (G : Nat → Nat) (kc : Nat → ClassId) (sz : Nat) (u : TC) (w : Nat) (hw : w < 9) (hI : tI u) : XMi l y_T_count k_T_count { frames := 4, cells := 0, slots := 0, locals := 85 } D vwCl (wT G kc) (tyTs kc) u sz [.ref (G 0), .int (nI w)] (fun r u1 => r = rCount u w ∧ u1 = u) := by
  refine xb_ofi (cc := b_T_count) (maxL := 2) (ret := some .int) (by decide) rfl (Nat.le_of_ble_eq_true rfl) ?_
  intro p e s m below meth c A ls hsz hx hb hml hr hlocks hts hown hP hK hD hA hl
  have hl : lv_has ls 2 [(0, .ref (G 0)), (1, .int (nI w))] := hl
  have hS : va_S A s.heap s.heap [] := va_S.rf
  obtain rfl | rfl | rfl | rfl | rfl | rfl | rfl | rfl | rfl : w = 0 ∨ w = 1 ∨ w = 2 ∨ w = 3 ∨ w = 4 ∨ w = 5 ∨ w = 6 ∨ w = 7 ∨ w = 8 := by omega
  · skip
    refine lv_iload_n hx hb d_T_count_0 rfl (lv_at hl 1 rfl) ?_
    refine lv_tableIn (tgt := 52) (off := 51) hx hb d_T_count_1 (by decide +kernel) (by decide +kernel) (by decide +kernel) (by decide) ?_
    refine lv_aload_n hx hb d_T_count_52 rfl (lv_at hl 0 rfl) ?_
    refine xt_g8 hx hb hts hown hK hP d_T_count_53 ?_
    exact xc_iret hx hb hr hlocks hP hK hD hS ⟨rfl, rfl⟩ d_T_count_56
  · skip
    refine lv_iload_n hx hb d_T_count_0 rfl (lv_at hl 1 rfl) ?_
    refine lv_tableIn (tgt := 57) (off := 56) hx hb d_T_count_1 (by decide +kernel) (by decide +kernel) (by decide +kernel) (by decide) ?_
    refine lv_aload_n hx hb d_T_count_57 rfl (lv_at hl 0 rfl) ?_
    refine xt_g9 hx hb hts hown hK hP d_T_count_58 ?_
    exact xc_iret hx hb hr hlocks hP hK hD hS ⟨rfl, rfl⟩ d_T_count_61
  · skip
    refine lv_iload_n hx hb d_T_count_0 rfl (lv_at hl 1 rfl) ?_
    refine lv_tableIn (tgt := 62) (off := 61) hx hb d_T_count_1 (by decide +kernel) (by decide +kernel) (by decide +kernel) (by decide) ?_
    refine lv_aload_n hx hb d_T_count_62 rfl (lv_at hl 0 rfl) ?_
    refine xt_g10 hx hb hts hown hK hP d_T_count_63 ?_
    exact xc_iret hx hb hr hlocks hP hK hD hS ⟨rfl, rfl⟩ d_T_count_66
  · skip
    refine lv_iload_n hx hb d_T_count_0 rfl (lv_at hl 1 rfl) ?_
    refine lv_tableIn (tgt := 67) (off := 66) hx hb d_T_count_1 (by decide +kernel) (by decide +kernel) (by decide +kernel) (by decide) ?_
    refine lv_aload_n hx hb d_T_count_67 rfl (lv_at hl 0 rfl) ?_
    refine xt_g11 hx hb hts hown hK hP d_T_count_68 ?_
    exact xc_iret hx hb hr hlocks hP hK hD hS ⟨rfl, rfl⟩ d_T_count_71
  · skip
    refine lv_iload_n hx hb d_T_count_0 rfl (lv_at hl 1 rfl) ?_
    refine lv_tableIn (tgt := 72) (off := 71) hx hb d_T_count_1 (by decide +kernel) (by decide +kernel) (by decide +kernel) (by decide) ?_
    refine lv_aload_n hx hb d_T_count_72 rfl (lv_at hl 0 rfl) ?_
    refine xc_calli (n := 0) (C := "TagMemory") hx hb hml hown hts (c_T_allTags l D G kc _ _ (by exact hI)) (tb_V wm_328 wm_330 ws_16 wm_1 wm_331) rfl rfl rfl (by decide +kernel) ⟨Nat.le_of_ble_eq_true rfl, Nat.le_of_ble_eq_true rfl⟩ hK hP hD hS hA rfl rfl rfl rfl hl.1 rfl (Nat.le_of_ble_eq_true rfl) d_T_count_73 ⟨Nat.zero_le _, Nat.zero_le _⟩ (fun r u1 H locs hw hP hD hS => ?_)
    obtain ⟨e1, e2⟩ := hw
    subst e1
    rw [e2] at hP hD; clear e2 u1
    exact xc_iret hx hb hr hlocks hP hK hD hS ⟨rfl, rfl⟩ d_T_count_76
  · skip
    refine lv_iload_n hx hb d_T_count_0 rfl (lv_at hl 1 rfl) ?_
    refine lv_tableIn (tgt := 77) (off := 76) hx hb d_T_count_1 (by decide +kernel) (by decide +kernel) (by decide +kernel) (by decide) ?_
    refine lv_aload_n hx hb d_T_count_77 rfl (lv_at hl 0 rfl) ?_
    refine xt_g1 hx hb hts hown hK hP d_T_count_78 ?_
    refine xc_calla (C := "TagMemory") hx hb hml hown hts (c_T_howManyKept l D (G 2) (kc 2) 16 _ (by decide)) (tb_S wm_338 wm_339 wm_1 wm_340) rfl rfl rfl (by decide +kernel) ⟨Nat.le_of_ble_eq_true rfl, Nat.le_of_ble_eq_true rfl⟩ (hP.sub [2] rfl) (hK.sub [1] rfl) hl.1 (Nat.le_of_ble_eq_true rfl) d_T_count_81 ⟨Nat.zero_le _, Nat.zero_le _⟩ (fun r hw => ?_)
    subst hw
    exact xc_iret hx hb hr hlocks hP hK hD hS ⟨rfl, rfl⟩ d_T_count_84
  · skip
    refine lv_iload_n hx hb d_T_count_0 rfl (lv_at hl 1 rfl) ?_
    refine lv_tableIn (tgt := 85) (off := 84) hx hb d_T_count_1 (by decide +kernel) (by decide +kernel) (by decide +kernel) (by decide) ?_
    refine lv_aload_n hx hb d_T_count_85 rfl (lv_at hl 0 rfl) ?_
    refine xt_g4 hx hb hts hown hK hP d_T_count_86 ?_
    refine xc_calla (C := "TagMemory") hx hb hml hown hts (c_T_howManyChanged l D (G 5) (kc 5) 16 _ (by decide)) (tb_S wm_341 wm_342 wm_1 wm_343) rfl rfl rfl (by decide +kernel) ⟨Nat.le_of_ble_eq_true rfl, Nat.le_of_ble_eq_true rfl⟩ (hP.sub [5] rfl) (hK.sub [4] rfl) hl.1 (Nat.le_of_ble_eq_true rfl) d_T_count_89 ⟨Nat.zero_le _, Nat.zero_le _⟩ (fun r hw => ?_)
    subst hw
    exact xc_iret hx hb hr hlocks hP hK hD hS ⟨rfl, rfl⟩ d_T_count_92
  · skip
    refine lv_iload_n hx hb d_T_count_0 rfl (lv_at hl 1 rfl) ?_
    refine lv_tableIn (tgt := 93) (off := 92) hx hb d_T_count_1 (by decide +kernel) (by decide +kernel) (by decide +kernel) (by decide) ?_
    refine lv_aload_n hx hb d_T_count_93 rfl (lv_at hl 0 rfl) ?_
    refine xt_g5 hx hb hts hown hK hP d_T_count_94 ?_
    refine xc_calla (C := "TagMemory") hx hb hml hown hts (c_T_howManyKept l D (G 6) (kc 6) 4 _ (by decide)) (tb_S wm_338 wm_339 wm_1 wm_340) rfl rfl rfl (by decide +kernel) ⟨Nat.le_of_ble_eq_true rfl, Nat.le_of_ble_eq_true rfl⟩ (hP.sub [6] rfl) (hK.sub [5] rfl) hl.1 (Nat.le_of_ble_eq_true rfl) d_T_count_97 ⟨Nat.zero_le _, Nat.zero_le _⟩ (fun r hw => ?_)
    subst hw
    exact xc_iret hx hb hr hlocks hP hK hD hS ⟨rfl, rfl⟩ d_T_count_100
  · skip
    refine lv_iload_n hx hb d_T_count_0 rfl (lv_at hl 1 rfl) ?_
    refine lv_tableIn (tgt := 101) (off := 100) hx hb d_T_count_1 (by decide +kernel) (by decide +kernel) (by decide +kernel) (by decide) ?_
    refine lv_aload_n hx hb d_T_count_101 rfl (lv_at hl 0 rfl) ?_
    refine xt_g7 hx hb hts hown hK hP d_T_count_102 ?_
    refine xc_calla (C := "TagMemory") hx hb hml hown hts (c_T_howManyChanged l D (G 8) (kc 8) 4 _ (by decide)) (tb_S wm_341 wm_342 wm_1 wm_343) rfl rfl rfl (by decide +kernel) ⟨Nat.le_of_ble_eq_true rfl, Nat.le_of_ble_eq_true rfl⟩ (hP.sub [8] rfl) (hK.sub [7] rfl) hl.1 (Nat.le_of_ble_eq_true rfl) d_T_count_105 ⟨Nat.zero_le _, Nat.zero_le _⟩ (fun r hw => ?_)
    subst hw
    exact xc_iret hx hb hr hlocks hP hK hD hS ⟨rfl, rfl⟩ d_T_count_108
set_option maxHeartbeats 4000000 in
set_option maxRecDepth 100000 in
theorem lp_T_check1 {p : Program} {l : Launch} {e : Env} {s : State} {m : MethodId} {args : Array Value} {below : List Frame} {meth : Method} {c : Code} {Q : State → Prop} {D : va_G} {A : Nat → Prop} {G : Nat → Nat} {kc : Nat → ClassId} {c1 : Cond} (hx : p.tables.exec = Jvm.exec) (hb : c.code = b_T_check) (hml : c.maxLocals = 3) (hown : s.vm.findClass "TagMemory" = some m.cls) (hts : ∀ w ∈ c1 :: TB, w.before args s = true) (hK : va_K D vwCl (tyTs kc) s) (hA : ∀ q, s.heap.size ≤ q → A q) (u : TC) (hI : tI u) (hg : tG u) (kk : ∀ (H : Heap) (locs : List Loc) (ls : Array Slot), va_P D vwCl (wT G kc u) H → va_D A (wT G kc u) → va_S A s.heap H locs → lv_has ls 3 [(2, .int (nI 16)), (1, .int (nI 0)), (0, .ref (G 0))] → W p l e ({ frames := 4, cells := 0, slots := 0, locals := 86 }) s m args below meth c H locs 0 0 Q (F0 m 37 ls [])) : ∀ (d i : Nat), i + d = 16 → ∀ (H : Heap) (locs : List Loc) (ls : Array Slot), va_P D vwCl (wT G kc u) H → va_D A (wT G kc u) → va_S A s.heap H locs → lv_has ls 3 [(2, .int (nI i)), (1, .int (nI 0)), (0, .ref (G 0))] → W p l e ({ frames := 4, cells := 0, slots := 0, locals := 86 }) s m args below meth c H locs 0 0 Q (F0 m 4 ls []) := by
  intro d
  induction d with
  | zero =>
    intro i hi H locs ls hP hD hS hl
    obtain rfl : i = 16 := by omega
    refine lv_iload_n hx hb d_T_check_4 rfl (lv_at hl 0 rfl) ?_
    refine lv_bipush (v := 16) hx hb d_T_check_5 (by decide) ?_
    refine lv_icmp_ge (tgt := 37) hx hb d_T_check_7 (by decide) (fun _ => ?_) (fun c9 => absurd (nI_le (a := 16) (b := 16) (by omega) (by omega)) c9)
    exact kk H locs ls hP hD hS hl
  | succ d ih =>
    intro i hi H locs ls hP hD hS hl
    have hiN : i < 16 := by omega
    by_cases h1 : tLa u i = -1
    · skip
      refine lv_iload_n hx hb d_T_check_4 rfl (lv_at hl 0 rfl) ?_
      refine lv_bipush (v := 16) hx hb d_T_check_5 (by decide) ?_
      refine lv_icmp_ge (tgt := 37) hx hb d_T_check_7 (by decide) (fun c9 => absurd c9 (nI_ge (a := i) (b := 16) (by omega) (by omega))) (fun _ => ?_)
      refine lv_aload_n hx hb d_T_check_10 rfl (lv_at hl 2 rfl) ?_
      refine xt_g1 hx hb hts hown hK hP d_T_check_11 ?_
      refine lv_iload_n hx hb d_T_check_14 rfl (lv_at hl 0 rfl) ?_
      refine xt_l1 hx hb hK hP i rfl (by omega) d_T_check_15 ?_
      refine lv_iconst (v := (-1)) hx hb d_T_check_16 (by decide) ?_
      refine lv_icmp_eq (tgt := 31) hx hb d_T_check_17 (by decide) (fun _ => ?_) (fun c9 => absurd h1 c9)
      refine lv_iinc (v := nI (i + 1)) (lv' := [(2, .int (nI (i + 1))), (1, .int (nI 0)), (0, .ref _)]) hx hb d_T_check_31 hl (k := 0) rfl (nI_add _ _) (by decide) rfl (fun ls hl => ?_)
      refine lv_goto (tgt := 4) hx hb d_T_check_34 (by decide) ?_
      exact ih (i + 1) (by omega) _ _ _ hP hD hS (lv_sub hl [0, 1, 2] rfl)
    · obtain ⟨n, hn, hnq, hn1⟩ : ∃ n, n < 512 ∧ n % 16 = i ∧ tLa u i = nI n := (hI.2 i hiN).resolve_left h1
      refine lv_iload_n hx hb d_T_check_4 rfl (lv_at hl 0 rfl) ?_
      refine lv_bipush (v := 16) hx hb d_T_check_5 (by decide) ?_
      refine lv_icmp_ge (tgt := 37) hx hb d_T_check_7 (by decide) (fun c9 => absurd c9 (nI_ge (a := i) (b := 16) (by omega) (by omega))) (fun _ => ?_)
      refine lv_aload_n hx hb d_T_check_10 rfl (lv_at hl 2 rfl) ?_
      refine xt_g1 hx hb hts hown hK hP d_T_check_11 ?_
      refine lv_iload_n hx hb d_T_check_14 rfl (lv_at hl 0 rfl) ?_
      refine xt_l1 hx hb hK hP i rfl (by omega) d_T_check_15 ?_
      refine lv_iconst (v := (-1)) hx hb d_T_check_16 (by decide) ?_
      refine lv_icmp_eq (tgt := 31) hx hb d_T_check_17 (by decide) (fun c9 => absurd c9 h1) (fun _ => ?_)
      refine lv_aload_n hx hb d_T_check_20 rfl (lv_at hl 2 rfl) ?_
      refine lv_iload_n hx hb d_T_check_21 rfl (lv_at hl 0 rfl) ?_
      refine xc_calli (n := 1) (C := "TagMemory") hx hb hml hown hts (c_T_isLineWrong l D G kc _ _ n i (by omega) (by omega) hnq hn1 (fun z => hg.1 i n hiN hn hn1 z)) (tb_V wm_93 wm_95 ws_4 wm_1 wm_96) rfl rfl rfl (by decide +kernel) ⟨Nat.le_of_ble_eq_true rfl, Nat.le_of_ble_eq_true rfl⟩ hK hP hD hS hA rfl rfl rfl rfl hl.1 rfl (Nat.le_of_ble_eq_true rfl) d_T_check_22 ⟨Nat.zero_le _, Nat.zero_le _⟩ (fun r u1 H locs hw hP hD hS => ?_)
      obtain ⟨e1, e2⟩ := hw
      subst e1
      rw [e2] at hP hD; clear e2 u1
      refine lv_if_eq (tgt := 31) hx hb d_T_check_25 (by decide) (fun _ => ?_) (fun c9 => absurd rfl c9)
      refine lv_iinc (v := nI (i + 1)) (lv' := [(2, .int (nI (i + 1))), (1, .int (nI 0)), (0, .ref _)]) hx hb d_T_check_31 hl (k := 0) rfl (nI_add _ _) (by decide) rfl (fun ls hl => ?_)
      refine lv_goto (tgt := 4) hx hb d_T_check_34 (by decide) ?_
      exact ih (i + 1) (by omega) _ _ _ hP hD hS (lv_sub hl [0, 1, 2] rfl)
set_option maxHeartbeats 4000000 in
set_option maxRecDepth 100000 in
theorem lp_T_check2 {p : Program} {l : Launch} {e : Env} {s : State} {m : MethodId} {args : Array Value} {below : List Frame} {meth : Method} {c : Code} {Q : State → Prop} {D : va_G} {A : Nat → Prop} {G : Nat → Nat} {kc : Nat → ClassId} {c1 : Cond} (hx : p.tables.exec = Jvm.exec) (hb : c.code = b_T_check) (hml : c.maxLocals = 3) (hown : s.vm.findClass "TagMemory" = some m.cls) (hts : ∀ w ∈ c1 :: TB, w.before args s = true) (hK : va_K D vwCl (tyTs kc) s) (hA : ∀ q, s.heap.size ≤ q → A q) (u : TC) (hI : tI u) (hg : tG u) (kk : ∀ (H : Heap) (locs : List Loc) (ls : Array Slot), va_P D vwCl (wT G kc u) H → va_D A (wT G kc u) → va_S A s.heap H locs → lv_has ls 3 [(2, .int (nI 4)), (1, .int (nI 0)), (0, .ref (G 0))] → W p l e ({ frames := 4, cells := 0, slots := 0, locals := 86 }) s m args below meth c H locs 0 0 Q (F0 m 71 ls [])) : ∀ (d i : Nat), i + d = 4 → ∀ (H : Heap) (locs : List Loc) (ls : Array Slot), va_P D vwCl (wT G kc u) H → va_D A (wT G kc u) → va_S A s.heap H locs → lv_has ls 3 [(2, .int (nI i)), (1, .int (nI 0)), (0, .ref (G 0))] → W p l e ({ frames := 4, cells := 0, slots := 0, locals := 86 }) s m args below meth c H locs 0 0 Q (F0 m 39 ls []) := by
  intro d
  induction d with
  | zero =>
    intro i hi H locs ls hP hD hS hl
    obtain rfl : i = 4 := by omega
    refine lv_iload_n hx hb d_T_check_39 rfl (lv_at hl 0 rfl) ?_
    refine lv_iconst (v := 4) hx hb d_T_check_40 (by decide) ?_
    refine lv_icmp_ge (tgt := 71) hx hb d_T_check_41 (by decide) (fun _ => ?_) (fun c9 => absurd (nI_le (a := 4) (b := 4) (by omega) (by omega)) c9)
    exact kk H locs ls hP hD hS hl
  | succ d ih =>
    intro i hi H locs ls hP hD hS hl
    have hiN : i < 4 := by omega
    by_cases h1 : tRa u i = -1
    · skip
      refine lv_iload_n hx hb d_T_check_39 rfl (lv_at hl 0 rfl) ?_
      refine lv_iconst (v := 4) hx hb d_T_check_40 (by decide) ?_
      refine lv_icmp_ge (tgt := 71) hx hb d_T_check_41 (by decide) (fun c9 => absurd c9 (nI_ge (a := i) (b := 4) (by omega) (by omega))) (fun _ => ?_)
      refine lv_aload_n hx hb d_T_check_44 rfl (lv_at hl 2 rfl) ?_
      refine xt_g5 hx hb hts hown hK hP d_T_check_45 ?_
      refine lv_iload_n hx hb d_T_check_48 rfl (lv_at hl 0 rfl) ?_
      refine xt_l5 hx hb hK hP i rfl (by omega) d_T_check_49 ?_
      refine lv_iconst (v := (-1)) hx hb d_T_check_50 (by decide) ?_
      refine lv_icmp_eq (tgt := 65) hx hb d_T_check_51 (by decide) (fun _ => ?_) (fun c9 => absurd h1 c9)
      refine lv_iinc (v := nI (i + 1)) (lv' := [(2, .int (nI (i + 1))), (1, .int (nI 0)), (0, .ref _)]) hx hb d_T_check_65 hl (k := 0) rfl (nI_add _ _) (by decide) rfl (fun ls hl => ?_)
      refine lv_goto (tgt := 39) hx hb d_T_check_68 (by decide) ?_
      exact ih (i + 1) (by omega) _ _ _ hP hD hS (lv_sub hl [0, 1, 2] rfl)
    · obtain ⟨k, hk, hkq, hk1⟩ : ∃ k, k < 32 ∧ k % 4 = i ∧ tRa u i = nI k := (hI.1 i hiN).resolve_left h1
      refine lv_iload_n hx hb d_T_check_39 rfl (lv_at hl 0 rfl) ?_
      refine lv_iconst (v := 4) hx hb d_T_check_40 (by decide) ?_
      refine lv_icmp_ge (tgt := 71) hx hb d_T_check_41 (by decide) (fun c9 => absurd c9 (nI_ge (a := i) (b := 4) (by omega) (by omega))) (fun _ => ?_)
      refine lv_aload_n hx hb d_T_check_44 rfl (lv_at hl 2 rfl) ?_
      refine xt_g5 hx hb hts hown hK hP d_T_check_45 ?_
      refine lv_iload_n hx hb d_T_check_48 rfl (lv_at hl 0 rfl) ?_
      refine xt_l5 hx hb hK hP i rfl (by omega) d_T_check_49 ?_
      refine lv_iconst (v := (-1)) hx hb d_T_check_50 (by decide) ?_
      refine lv_icmp_eq (tgt := 65) hx hb d_T_check_51 (by decide) (fun c9 => absurd c9 h1) (fun _ => ?_)
      refine lv_aload_n hx hb d_T_check_54 rfl (lv_at hl 2 rfl) ?_
      refine lv_iload_n hx hb d_T_check_55 rfl (lv_at hl 0 rfl) ?_
      refine xc_calli (n := 1) (C := "TagMemory") hx hb hml hown hts (c_T_isRowWrong l D G kc _ _ k i (by omega) (by omega) hkq hk1 (fun z => hg.2 i k hiN hk hk1 z)) (tb_V wm_115 wm_117 ws_8 wm_1 wm_118) rfl rfl rfl (by decide +kernel) ⟨Nat.le_of_ble_eq_true rfl, Nat.le_of_ble_eq_true rfl⟩ hK hP hD hS hA rfl rfl rfl rfl hl.1 rfl (Nat.le_of_ble_eq_true rfl) d_T_check_56 ⟨Nat.zero_le _, Nat.zero_le _⟩ (fun r u1 H locs hw hP hD hS => ?_)
      obtain ⟨e1, e2⟩ := hw
      subst e1
      rw [e2] at hP hD; clear e2 u1
      refine lv_if_eq (tgt := 65) hx hb d_T_check_59 (by decide) (fun _ => ?_) (fun c9 => absurd rfl c9)
      refine lv_iinc (v := nI (i + 1)) (lv' := [(2, .int (nI (i + 1))), (1, .int (nI 0)), (0, .ref _)]) hx hb d_T_check_65 hl (k := 0) rfl (nI_add _ _) (by decide) rfl (fun ls hl => ?_)
      refine lv_goto (tgt := 39) hx hb d_T_check_68 (by decide) ?_
      exact ih (i + 1) (by omega) _ _ _ hP hD hS (lv_sub hl [0, 1, 2] rfl)
set_option maxHeartbeats 4000000 in
set_option maxRecDepth 100000 in
theorem c_T_check (l : Launch) (D : va_G) (G : Nat → Nat) (kc : Nat → ClassId) (sz : Nat) (u : TC) (hI : tI u) (hg : tG u) : XMi l y_T_check k_T_check { frames := 4, cells := 0, slots := 0, locals := 86 } D vwCl (wT G kc) (tyTs kc) u sz [.ref (G 0)] (fun r u1 => r = 0 ∧ u1 = u) := by
  refine xb_ofi (cc := b_T_check) (maxL := 3) (ret := some .int) (by decide) rfl (Nat.le_of_ble_eq_true rfl) ?_
  intro p e s m below meth c A ls hsz hx hb hml hr hlocks hts hown hP hK hD hA hl
  have hl : lv_has ls 3 [(0, .ref (G 0))] := hl
  have hS : va_S A s.heap s.heap [] := va_S.rf
  refine lv_iconst (v := 0) hx hb d_T_check_0 (by decide) ?_
  refine lv_istore_n (lv' := [(1, .int (nI 0)), (0, .ref _)]) hx hb d_T_check_1 rfl hl (by decide) rfl (fun ls hl => ?_)
  refine lv_iconst (v := 0) hx hb d_T_check_2 (by decide) ?_
  refine lv_istore_n (lv' := [(2, .int (nI 0)), (1, .int (nI 0)), (0, .ref _)]) hx hb d_T_check_3 rfl hl (by decide) rfl (fun ls hl => ?_)
  refine lp_T_check1 hx hb hml hown hts hK hA u hI hg ?_ 16 0 rfl _ _ _ hP hD hS (lv_sub hl [0, 1, 2] rfl)
  intro H locs ls hP hD hS hl
  refine lv_iconst (v := 0) hx hb d_T_check_37 (by decide) ?_
  refine lv_istore_n (lv' := [(2, .int (nI 0)), (1, .int (nI 0)), (0, .ref _)]) hx hb d_T_check_38 rfl hl (by decide) rfl (fun ls hl => ?_)
  refine lp_T_check2 hx hb hml hown hts hK hA u hI hg ?_ 4 0 rfl _ _ _ hP hD hS (lv_sub hl [0, 1, 2] rfl)
  intro H locs ls hP hD hS hl
  refine lv_iload_n hx hb d_T_check_71 rfl (lv_at hl 1 rfl) ?_
  exact xc_iret hx hb hr hlocks hP hK hD hS ⟨rfl, rfl⟩ d_T_check_72
