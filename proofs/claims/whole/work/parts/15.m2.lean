set_option maxHeartbeats 4000000 in
set_option maxRecDepth 100000 in
theorem c_M_read (l : Launch) (D : va_G) (G : Nat → Nat) (kc : Nat → ClassId) (sz : Nat) (u : TM) (i : Nat) (hi : i < 2048) (hI : mI u) : XMi l y_M_read k_M_read { frames := 5, cells := 0, slots := 0, locals := 111 } D vwCl (wM G kc) (tyMs kc) u sz [.ref (G 0), .int (nI i)] (fun r u1 => r = mWd (gWant (nTh u 0) (i / 4)) i ∧ u1 = gWant (nTh u 0) (i / 4)) := by
  refine xb_ofi (cc := b_M_read) (maxL := 2) (ret := some .int) (by decide) rfl (Nat.le_of_ble_eq_true rfl) ?_
  intro p e s m below meth c A ls hsz hx hb hml hr hlocks hts hown hP hK hD hA hl
  have hl : lv_has ls 2 [(0, .ref (G 0)), (1, .int (nI i))] := hl
  have hS : va_S A s.heap s.heap [] := va_S.rf
  refine lv_aload_n hx hb d_M_read_0 rfl (lv_at hl 0 rfl) ?_
  refine lv_iload_n hx hb d_M_read_1 rfl (lv_at hl 1 rfl) ?_
  refine lv_if_lt (tgt := 12) hx hb d_M_read_2 (by decide) (fun c9 => absurd c9 (nI_pos (by omega))) (fun _ => ?_)
  refine lv_iload_n hx hb d_M_read_5 rfl (lv_at hl 1 rfl) ?_
  refine lv_sipush (v := 2047) hx hb d_M_read_6 (by decide) ?_
  refine lv_icmp_le (tgt := 16) hx hb d_M_read_9 (by decide) (fun _ => ?_) (fun c9 => absurd (nI_le (a := i) (b := 2047) (by omega) (by decide)) c9)
  refine lv_iconst (v := 0) hx hb d_M_read_16 (by decide) ?_
  refine lv_iconst (v := 1) hx hb d_M_read_17 (by decide) ?_
  refine xc_calli (n := 2) (C := "TagMemoryModel") hx hb hml hown hts (c_M_bad l D G kc _ _ _ _ (Or.inl rfl)) (tb_V wm_390 wm_392 ws_17 wm_2 wm_393) rfl rfl rfl (by decide +kernel) ⟨Nat.le_of_ble_eq_true rfl, Nat.le_of_ble_eq_true rfl⟩ hK hP hD hS hA rfl rfl rfl rfl hl.1 rfl (Nat.le_of_ble_eq_true rfl) d_M_read_18 ⟨Nat.zero_le _, Nat.zero_le _⟩ (fun r u1 H locs hw hP hD hS => ?_)
  obtain ⟨e1, e2⟩ := hw
  subst e1
  rw [e2] at hP hD; clear e2 u1
  have hP : va_P D vwCl (wM G kc (nTh u 0)) H := hP
  have hD : va_D A (wM G kc (nTh u 0)) := hD
  refine lv_if_eq (tgt := 26) hx hb d_M_read_21 (by decide) (fun _ => ?_) (fun c9 => absurd rfl c9)
  refine lv_aload_n hx hb d_M_read_26 rfl (lv_at hl 0 rfl) ?_
  refine lv_iload_n hx hb d_M_read_27 rfl (lv_at hl 1 rfl) ?_
  refine lv_iconst (v := 4) hx hb d_M_read_28 (by decide) ?_
  refine xa_idiv hx hb i 4 rfl rfl (by omega) (by decide) (by decide) d_M_read_29 ?_
  refine xc_callv (n := 1) (C := "TagMemoryModel") hx hb hml hown hts (c_M_want l D G kc _ _ (i / 4) (by omega) (by exact hI)) (tb_V wm_394 wm_396 ws_18 wm_2 wm_397) rfl rfl rfl (by decide +kernel) ⟨Nat.le_of_ble_eq_true rfl, Nat.le_of_ble_eq_true rfl⟩ hK hP hD hS hA rfl rfl rfl rfl hl.1 rfl (Nat.le_of_ble_eq_true rfl) d_M_read_30 ⟨Nat.zero_le _, Nat.zero_le _⟩ (fun u1 H locs hw hP hD hS => ?_)
  rw [hw] at hP hD; clear hw u1
  refine lv_aload_n hx hb d_M_read_33 rfl (lv_at hl 0 rfl) ?_
  refine xm_g0 hx hb hts hown hK hP d_M_read_34 ?_
  refine lv_iload_n hx hb d_M_read_37 rfl (lv_at hl 1 rfl) ?_
  refine xm_l0 hx hb hK hP i rfl (by omega) d_M_read_38 ?_
  exact xc_iret hx hb hr hlocks hP hK hD hS ⟨rfl, rfl⟩ d_M_read_39
set_option maxHeartbeats 4000000 in
set_option maxRecDepth 100000 in
theorem c_M_tag (l : Launch) (D : va_G) (G : Nat → Nat) (kc : Nat → ClassId) (sz : Nat) (u : TM) (i : Nat) (hi : i < 2048) (hI : mI u) : XMi l y_M_tag k_M_tag { frames := 5, cells := 0, slots := 0, locals := 111 } D vwCl (wM G kc) (tyMs kc) u sz [.ref (G 0), .int (nI i)] (fun r u1 => r = mTg (gWant (nTh u 0) (i / 4)) (i / 2) ∧ u1 = gWant (nTh u 0) (i / 4)) := by
  refine xb_ofi (cc := b_M_tag) (maxL := 2) (ret := some .boolean) (by decide) rfl (Nat.le_of_ble_eq_true rfl) ?_
  intro p e s m below meth c A ls hsz hx hb hml hr hlocks hts hown hP hK hD hA hl
  have hl : lv_has ls 2 [(0, .ref (G 0)), (1, .int (nI i))] := hl
  have hS : va_S A s.heap s.heap [] := va_S.rf
  refine lv_aload_n hx hb d_M_tag_0 rfl (lv_at hl 0 rfl) ?_
  refine lv_iload_n hx hb d_M_tag_1 rfl (lv_at hl 1 rfl) ?_
  refine lv_if_lt (tgt := 12) hx hb d_M_tag_2 (by decide) (fun c9 => absurd c9 (nI_pos (by omega))) (fun _ => ?_)
  refine lv_iload_n hx hb d_M_tag_5 rfl (lv_at hl 1 rfl) ?_
  refine lv_sipush (v := 2047) hx hb d_M_tag_6 (by decide) ?_
  refine lv_icmp_le (tgt := 16) hx hb d_M_tag_9 (by decide) (fun _ => ?_) (fun c9 => absurd (nI_le (a := i) (b := 2047) (by omega) (by decide)) c9)
  refine lv_iconst (v := 0) hx hb d_M_tag_16 (by decide) ?_
  refine lv_iconst (v := 1) hx hb d_M_tag_17 (by decide) ?_
  refine xc_calli (n := 2) (C := "TagMemoryModel") hx hb hml hown hts (c_M_bad l D G kc _ _ _ _ (Or.inl rfl)) (tb_V wm_390 wm_392 ws_17 wm_2 wm_393) rfl rfl rfl (by decide +kernel) ⟨Nat.le_of_ble_eq_true rfl, Nat.le_of_ble_eq_true rfl⟩ hK hP hD hS hA rfl rfl rfl rfl hl.1 rfl (Nat.le_of_ble_eq_true rfl) d_M_tag_18 ⟨Nat.zero_le _, Nat.zero_le _⟩ (fun r u1 H locs hw hP hD hS => ?_)
  obtain ⟨e1, e2⟩ := hw
  subst e1
  rw [e2] at hP hD; clear e2 u1
  have hP : va_P D vwCl (wM G kc (nTh u 0)) H := hP
  have hD : va_D A (wM G kc (nTh u 0)) := hD
  refine lv_if_eq (tgt := 26) hx hb d_M_tag_21 (by decide) (fun _ => ?_) (fun c9 => absurd rfl c9)
  refine lv_aload_n hx hb d_M_tag_26 rfl (lv_at hl 0 rfl) ?_
  refine lv_iload_n hx hb d_M_tag_27 rfl (lv_at hl 1 rfl) ?_
  refine lv_iconst (v := 4) hx hb d_M_tag_28 (by decide) ?_
  refine xa_idiv hx hb i 4 rfl rfl (by omega) (by decide) (by decide) d_M_tag_29 ?_
  refine xc_callv (n := 1) (C := "TagMemoryModel") hx hb hml hown hts (c_M_want l D G kc _ _ (i / 4) (by omega) (by exact hI)) (tb_V wm_394 wm_396 ws_18 wm_2 wm_397) rfl rfl rfl (by decide +kernel) ⟨Nat.le_of_ble_eq_true rfl, Nat.le_of_ble_eq_true rfl⟩ hK hP hD hS hA rfl rfl rfl rfl hl.1 rfl (Nat.le_of_ble_eq_true rfl) d_M_tag_30 ⟨Nat.zero_le _, Nat.zero_le _⟩ (fun u1 H locs hw hP hD hS => ?_)
  rw [hw] at hP hD; clear hw u1
  refine lv_aload_n hx hb d_M_tag_33 rfl (lv_at hl 0 rfl) ?_
  refine xm_g1 hx hb hts hown hK hP d_M_tag_34 ?_
  refine lv_iload_n hx hb d_M_tag_37 rfl (lv_at hl 1 rfl) ?_
  refine lv_iconst (v := 2) hx hb d_M_tag_38 (by decide) ?_
  refine xa_idiv hx hb i 2 rfl rfl (by omega) (by decide) (by decide) d_M_tag_39 ?_
  refine xm_l1 hx hb hK hP (i / 2) rfl (by omega) d_M_tag_40 ?_
  exact xc_zret hx hb hr hlocks ((mI_want (v := nTh u 0) (n := i / 4) hI (by omega)).2.2 (i / 2) (by omega)) hP hK hD hS ⟨rfl, rfl⟩ d_M_tag_41
set_option maxHeartbeats 4000000 in
set_option maxRecDepth 100000 in
theorem c_M_write (l : Launch) (D : va_G) (G : Nat → Nat) (kc : Nat → ClassId) (sz : Nat) (u : TM) (i : Nat) (hi : i < 2048) (w : Int32) (hI : mI u) : XMi l y_M_write k_M_write { frames := 5, cells := 0, slots := 0, locals := 112 } D vwCl (wM G kc) (tyMs kc) u sz [.ref (G 0), .int (nI i), .int w] (fun r u1 => r = mWd u i ∧ u1 = gCh (nTh u 0) i w 0) := by
  refine xb_ofi (cc := b_M_write) (maxL := 4) (ret := some .int) (by decide) rfl (Nat.le_of_ble_eq_true rfl) ?_
  intro p e s m below meth c A ls hsz hx hb hml hr hlocks hts hown hP hK hD hA hl
  have hl : lv_has ls 4 [(0, .ref (G 0)), (1, .int (nI i)), (2, .int w)] := hl
  have hS : va_S A s.heap s.heap [] := va_S.rf
  refine lv_aload_n hx hb d_M_write_0 rfl (lv_at hl 0 rfl) ?_
  refine lv_iload_n hx hb d_M_write_1 rfl (lv_at hl 1 rfl) ?_
  refine lv_if_lt (tgt := 12) hx hb d_M_write_2 (by decide) (fun c9 => absurd c9 (nI_pos (by omega))) (fun _ => ?_)
  refine lv_iload_n hx hb d_M_write_5 rfl (lv_at hl 1 rfl) ?_
  refine lv_sipush (v := 2047) hx hb d_M_write_6 (by decide) ?_
  refine lv_icmp_le (tgt := 16) hx hb d_M_write_9 (by decide) (fun _ => ?_) (fun c9 => absurd (nI_le (a := i) (b := 2047) (by omega) (by decide)) c9)
  refine lv_iconst (v := 0) hx hb d_M_write_16 (by decide) ?_
  refine lv_iconst (v := 1) hx hb d_M_write_17 (by decide) ?_
  refine xc_calli (n := 2) (C := "TagMemoryModel") hx hb hml hown hts (c_M_bad l D G kc _ _ _ _ (Or.inl rfl)) (tb_V wm_390 wm_392 ws_17 wm_2 wm_393) rfl rfl rfl (by decide +kernel) ⟨Nat.le_of_ble_eq_true rfl, Nat.le_of_ble_eq_true rfl⟩ hK hP hD hS hA rfl rfl rfl rfl hl.1 rfl (Nat.le_of_ble_eq_true rfl) d_M_write_18 ⟨Nat.zero_le _, Nat.zero_le _⟩ (fun r u1 H locs hw hP hD hS => ?_)
  obtain ⟨e1, e2⟩ := hw
  subst e1
  rw [e2] at hP hD; clear e2 u1
  have hP : va_P D vwCl (wM G kc (nTh u 0)) H := hP
  have hD : va_D A (wM G kc (nTh u 0)) := hD
  refine lv_if_eq (tgt := 26) hx hb d_M_write_21 (by decide) (fun _ => ?_) (fun c9 => absurd rfl c9)
  refine lv_aload_n hx hb d_M_write_26 rfl (lv_at hl 0 rfl) ?_
  refine xm_g0 hx hb hts hown hK hP d_M_write_27 ?_
  refine lv_iload_n hx hb d_M_write_30 rfl (lv_at hl 1 rfl) ?_
  refine xm_l0 hx hb hK hP i rfl (by omega) d_M_write_31 ?_
  refine lv_istore_n (lv' := [(3, .int _), (0, .ref _), (1, .int (nI i)), (2, .int _)]) hx hb d_M_write_32 rfl hl (by decide) rfl (fun ls hl => ?_)
  refine lv_aload_n hx hb d_M_write_33 rfl (lv_at hl 1 rfl) ?_
  refine lv_iload_n hx hb d_M_write_34 rfl (lv_at hl 2 rfl) ?_
  refine lv_iload_n hx hb d_M_write_35 rfl (lv_at hl 3 rfl) ?_
  refine lv_iconst (v := 0) hx hb d_M_write_36 (by decide) ?_
  refine xc_callv (n := 3) (C := "TagMemoryModel") hx hb hml hown hts (c_M_changes l D G kc _ _ i (by omega) _ _ (Or.inl rfl) (by exact hI)) (tb_V wm_418 wm_420 ws_22 wm_2 wm_421) rfl rfl rfl (by decide +kernel) ⟨Nat.le_of_ble_eq_true rfl, Nat.le_of_ble_eq_true rfl⟩ hK hP hD hS hA rfl rfl rfl rfl hl.1 rfl (Nat.le_of_ble_eq_true rfl) d_M_write_37 ⟨Nat.zero_le _, Nat.zero_le _⟩ (fun u1 H locs hw hP hD hS => ?_)
  rw [hw] at hP hD; clear hw u1
  refine lv_iload_n hx hb d_M_write_40 rfl (lv_at hl 0 rfl) ?_
  exact xc_iret hx hb hr hlocks hP hK hD hS ⟨rfl, rfl⟩ d_M_write_41
set_option maxHeartbeats 4000000 in
set_option maxRecDepth 100000 in
theorem c_M_part (l : Launch) (D : va_G) (G : Nat → Nat) (kc : Nat → ClassId) (sz : Nat) (u : TM) (i j n : Nat) (hi : i < 2048) (hj : j < 4) (hn : n = 1 ∨ n = 2) (hd : j % n = 0) (w : Int32) (hI : mI u) : XMi l y_M_part k_M_part { frames := 5, cells := 0, slots := 0, locals := 112 } D vwCl (wM G kc) (tyMs kc) u sz [.ref (G 0), .int (nI i), .int (nI j), .int (nI n), .int w] (fun r u1 => r = mWd (gCh (nTh u 0) i (gPart (mWd u i) j n w) 0) i ∧ u1 = gCh (nTh u 0) i (gPart (mWd u i) j n w) 0) := by
  refine xb_ofi (cc := b_M_part) (maxL := 6) (ret := some .int) (by decide) rfl (Nat.le_of_ble_eq_true rfl) ?_
  intro p e s m below meth c A ls hsz hx hb hml hr hlocks hts hown hP hK hD hA hl
  have hl : lv_has ls 6 [(0, .ref (G 0)), (1, .int (nI i)), (2, .int (nI j)), (3, .int (nI n)), (4, .int w)] := hl
  have hS : va_S A s.heap s.heap [] := va_S.rf
  by_cases h1 : n = 1
  · have hm : fMask n = 255 := by unfold fMask; rw [if_pos h1]
    refine lv_aload_n hx hb d_M_part_0 rfl (lv_at hl 0 rfl) ?_
    refine lv_iload_n hx hb d_M_part_1 rfl (lv_at hl 1 rfl) ?_
    refine lv_if_lt (tgt := 12) hx hb d_M_part_2 (by decide) (fun c9 => absurd c9 (nI_pos (by omega))) (fun _ => ?_)
    refine lv_iload_n hx hb d_M_part_5 rfl (lv_at hl 1 rfl) ?_
    refine lv_sipush (v := 2047) hx hb d_M_part_6 (by decide) ?_
    refine lv_icmp_le (tgt := 16) hx hb d_M_part_9 (by decide) (fun _ => ?_) (fun c9 => absurd (nI_le (a := i) (b := 2047) (by omega) (by decide)) c9)
    refine lv_iconst (v := 0) hx hb d_M_part_16 (by decide) ?_
    refine lv_iconst (v := 1) hx hb d_M_part_17 (by decide) ?_
    refine xc_calli (n := 2) (C := "TagMemoryModel") hx hb hml hown hts (c_M_bad l D G kc _ _ _ _ (Or.inl rfl)) (tb_V wm_390 wm_392 ws_17 wm_2 wm_393) rfl rfl rfl (by decide +kernel) ⟨Nat.le_of_ble_eq_true rfl, Nat.le_of_ble_eq_true rfl⟩ hK hP hD hS hA rfl rfl rfl rfl hl.1 rfl (Nat.le_of_ble_eq_true rfl) d_M_part_18 ⟨Nat.zero_le _, Nat.zero_le _⟩ (fun r u1 H locs hw hP hD hS => ?_)
    obtain ⟨e1, e2⟩ := hw
    subst e1
    rw [e2] at hP hD; clear e2 u1
    have hP : va_P D vwCl (wM G kc (nTh u 0)) H := hP
    have hD : va_D A (wM G kc (nTh u 0)) := hD
    refine lv_if_ne (tgt := 62) hx hb d_M_part_21 (by decide) (fun c9 => absurd rfl c9) (fun _ => ?_)
    refine lv_aload_n hx hb d_M_part_24 rfl (lv_at hl 0 rfl) ?_
    refine lv_iload_n hx hb d_M_part_25 rfl (lv_at hl 3 rfl) ?_
    refine lv_iconst (v := 1) hx hb d_M_part_26 (by decide) ?_
    refine lv_icmp_lt (tgt := 50) hx hb d_M_part_27 (by decide) (fun c9 => absurd c9 (by rcases hn with h | h <;> subst h <;> decide)) (fun _ => ?_)
    refine lv_iload_n hx hb d_M_part_30 rfl (lv_at hl 3 rfl) ?_
    refine lv_iconst (v := 2) hx hb d_M_part_31 (by decide) ?_
    refine lv_icmp_gt (tgt := 50) hx hb d_M_part_32 (by decide) (fun c9 => absurd c9 (by rcases hn with h | h <;> subst h <;> decide)) (fun _ => ?_)
    refine lv_iload_n hx hb d_M_part_35 rfl (lv_at hl 2 rfl) ?_
    refine lv_if_lt (tgt := 50) hx hb d_M_part_36 (by decide) (fun c9 => absurd c9 (nI_pos (by omega))) (fun _ => ?_)
    refine lv_iload_n hx hb d_M_part_39 rfl (lv_at hl 2 rfl) ?_
    refine lv_iconst (v := 3) hx hb d_M_part_40 (by decide) ?_
    refine lv_icmp_gt (tgt := 50) hx hb d_M_part_41 (by decide) (fun c9 => absurd c9 (nI_nlt (a := 3) (b := j) (by omega) (by decide))) (fun _ => ?_)
    refine lv_iload_n hx hb d_M_part_44 rfl (lv_at hl 2 rfl) ?_
    refine lv_iload_n hx hb d_M_part_45 rfl (lv_at hl 3 rfl) ?_
    refine xa_irem hx hb j n rfl rfl (by omega) (by omega) (by omega) d_M_part_46 ?_
    refine lv_if_eq (tgt := 54) hx hb d_M_part_47 (by decide) (fun _ => ?_) (fun c9 => absurd (by rw [hd]; rfl) c9)
    refine lv_iconst (v := 0) hx hb d_M_part_54 (by decide) ?_
    refine lv_iconst (v := 2) hx hb d_M_part_55 (by decide) ?_
    refine xc_calli (n := 2) (C := "TagMemoryModel") hx hb hml hown hts (c_M_bad l D G kc _ _ _ _ (Or.inl rfl)) (tb_V wm_390 wm_392 ws_17 wm_2 wm_393) rfl rfl rfl (by decide +kernel) ⟨Nat.le_of_ble_eq_true rfl, Nat.le_of_ble_eq_true rfl⟩ hK hP hD hS hA rfl rfl rfl rfl hl.1 rfl (Nat.le_of_ble_eq_true rfl) d_M_part_56 ⟨Nat.zero_le _, Nat.zero_le _⟩ (fun r u1 H locs hw hP hD hS => ?_)
    obtain ⟨e1, e2⟩ := hw
    subst e1
    rw [e2] at hP hD; clear e2 u1
    have hP : va_P D vwCl (wM G kc (nTh u 0)) H := hP
    have hD : va_D A (wM G kc (nTh u 0)) := hD
    refine lv_if_eq (tgt := 64) hx hb d_M_part_59 (by decide) (fun _ => ?_) (fun c9 => absurd rfl c9)
    refine lv_iload_n hx hb d_M_part_64 rfl (lv_at hl 3 rfl) ?_
    refine lv_iconst (v := 1) hx hb d_M_part_65 (by decide) ?_
    refine lv_icmp_ne (tgt := 75) hx hb d_M_part_66 (by decide) (fun c9 => absurd (by rw [h1]; rfl) c9) (fun _ => ?_)
    refine lv_sipush (v := 255) hx hb d_M_part_69 (by decide) ?_
    refine lv_goto (tgt := 77) hx hb d_M_part_72 (by decide) ?_
    refine lv_bipush (v := 8) hx hb d_M_part_77 (by decide) ?_
    refine lv_iload_n hx hb d_M_part_79 rfl (lv_at hl 2 rfl) ?_
    refine xa_imul hx hb 8 j rfl rfl d_M_part_80 ?_
    refine lv_ishl hx hb d_M_part_81 ?_
    refine lv_istore (lv' := [(5, .int _), (0, .ref _), (1, .int (nI i)), (2, .int (nI j)), (3, .int (nI n)), (4, .int _)]) hx hb d_M_part_82 hl (by decide) rfl (fun ls hl => ?_)
    refine lv_aload_n hx hb d_M_part_84 rfl (lv_at hl 1 rfl) ?_
    refine lv_iload_n hx hb d_M_part_85 rfl (lv_at hl 2 rfl) ?_
    refine lv_aload_n hx hb d_M_part_86 rfl (lv_at hl 1 rfl) ?_
    refine xm_g0 hx hb hts hown hK hP d_M_part_87 ?_
    refine lv_iload_n hx hb d_M_part_90 rfl (lv_at hl 2 rfl) ?_
    refine xm_l0 hx hb hK hP i rfl (by omega) d_M_part_91 ?_
    refine lv_iload hx hb d_M_part_92 (lv_at hl 0 rfl) ?_
    refine lv_iconst (v := (-1)) hx hb d_M_part_94 (by decide) ?_
    refine lv_ixor hx hb d_M_part_95 ?_
    refine lv_iand hx hb d_M_part_96 ?_
    refine lv_iload hx hb d_M_part_97 (lv_at hl 5 rfl) ?_
    refine lv_bipush (v := 8) hx hb d_M_part_99 (by decide) ?_
    refine lv_iload_n hx hb d_M_part_101 rfl (lv_at hl 3 rfl) ?_
    refine xa_imul hx hb 8 j rfl rfl d_M_part_102 ?_
    refine lv_ishl hx hb d_M_part_103 ?_
    refine lv_iload hx hb d_M_part_104 (lv_at hl 0 rfl) ?_
    refine lv_iand hx hb d_M_part_106 ?_
    refine lv_ior hx hb d_M_part_107 ?_
    refine lv_iconst (v := 0) hx hb d_M_part_108 (by decide) ?_
    refine xc_callv (n := 3) (C := "TagMemoryModel") hx hb hml hown hts (c_M_changes l D G kc _ _ i (by omega) _ _ (Or.inl rfl) (by exact hI)) (tb_V wm_418 wm_420 ws_22 wm_2 wm_421) rfl rfl rfl (by decide +kernel) ⟨Nat.le_of_ble_eq_true rfl, Nat.le_of_ble_eq_true rfl⟩ hK hP hD hS hA rfl rfl rfl rfl hl.1 rfl (Nat.le_of_ble_eq_true rfl) d_M_part_109 ⟨Nat.zero_le _, Nat.zero_le _⟩ (fun u1 H locs hw hP hD hS => ?_)
    rw [hw] at hP hD; clear hw u1
    refine lv_aload_n hx hb d_M_part_112 rfl (lv_at hl 1 rfl) ?_
    refine xm_g0 hx hb hts hown hK hP d_M_part_113 ?_
    refine lv_iload_n hx hb d_M_part_116 rfl (lv_at hl 2 rfl) ?_
    refine xm_l0 hx hb hK hP i rfl (by omega) d_M_part_117 ?_
    exact xc_iret hx hb hr hlocks hP hK hD hS (by unfold gPart; rw [hm]; exact ⟨rfl, rfl⟩) d_M_part_118
  · have hm : fMask n = 65535 := by unfold fMask; rw [if_neg h1]
    have h2 : n = 2 := by omega
    refine lv_aload_n hx hb d_M_part_0 rfl (lv_at hl 0 rfl) ?_
    refine lv_iload_n hx hb d_M_part_1 rfl (lv_at hl 1 rfl) ?_
    refine lv_if_lt (tgt := 12) hx hb d_M_part_2 (by decide) (fun c9 => absurd c9 (nI_pos (by omega))) (fun _ => ?_)
    refine lv_iload_n hx hb d_M_part_5 rfl (lv_at hl 1 rfl) ?_
    refine lv_sipush (v := 2047) hx hb d_M_part_6 (by decide) ?_
    refine lv_icmp_le (tgt := 16) hx hb d_M_part_9 (by decide) (fun _ => ?_) (fun c9 => absurd (nI_le (a := i) (b := 2047) (by omega) (by decide)) c9)
    refine lv_iconst (v := 0) hx hb d_M_part_16 (by decide) ?_
    refine lv_iconst (v := 1) hx hb d_M_part_17 (by decide) ?_
    refine xc_calli (n := 2) (C := "TagMemoryModel") hx hb hml hown hts (c_M_bad l D G kc _ _ _ _ (Or.inl rfl)) (tb_V wm_390 wm_392 ws_17 wm_2 wm_393) rfl rfl rfl (by decide +kernel) ⟨Nat.le_of_ble_eq_true rfl, Nat.le_of_ble_eq_true rfl⟩ hK hP hD hS hA rfl rfl rfl rfl hl.1 rfl (Nat.le_of_ble_eq_true rfl) d_M_part_18 ⟨Nat.zero_le _, Nat.zero_le _⟩ (fun r u1 H locs hw hP hD hS => ?_)
    obtain ⟨e1, e2⟩ := hw
    subst e1
    rw [e2] at hP hD; clear e2 u1
    have hP : va_P D vwCl (wM G kc (nTh u 0)) H := hP
    have hD : va_D A (wM G kc (nTh u 0)) := hD
    refine lv_if_ne (tgt := 62) hx hb d_M_part_21 (by decide) (fun c9 => absurd rfl c9) (fun _ => ?_)
    refine lv_aload_n hx hb d_M_part_24 rfl (lv_at hl 0 rfl) ?_
    refine lv_iload_n hx hb d_M_part_25 rfl (lv_at hl 3 rfl) ?_
    refine lv_iconst (v := 1) hx hb d_M_part_26 (by decide) ?_
    refine lv_icmp_lt (tgt := 50) hx hb d_M_part_27 (by decide) (fun c9 => absurd c9 (by rcases hn with h | h <;> subst h <;> decide)) (fun _ => ?_)
    refine lv_iload_n hx hb d_M_part_30 rfl (lv_at hl 3 rfl) ?_
    refine lv_iconst (v := 2) hx hb d_M_part_31 (by decide) ?_
    refine lv_icmp_gt (tgt := 50) hx hb d_M_part_32 (by decide) (fun c9 => absurd c9 (by rcases hn with h | h <;> subst h <;> decide)) (fun _ => ?_)
    refine lv_iload_n hx hb d_M_part_35 rfl (lv_at hl 2 rfl) ?_
    refine lv_if_lt (tgt := 50) hx hb d_M_part_36 (by decide) (fun c9 => absurd c9 (nI_pos (by omega))) (fun _ => ?_)
    refine lv_iload_n hx hb d_M_part_39 rfl (lv_at hl 2 rfl) ?_
    refine lv_iconst (v := 3) hx hb d_M_part_40 (by decide) ?_
    refine lv_icmp_gt (tgt := 50) hx hb d_M_part_41 (by decide) (fun c9 => absurd c9 (nI_nlt (a := 3) (b := j) (by omega) (by decide))) (fun _ => ?_)
    refine lv_iload_n hx hb d_M_part_44 rfl (lv_at hl 2 rfl) ?_
    refine lv_iload_n hx hb d_M_part_45 rfl (lv_at hl 3 rfl) ?_
    refine xa_irem hx hb j n rfl rfl (by omega) (by omega) (by omega) d_M_part_46 ?_
    refine lv_if_eq (tgt := 54) hx hb d_M_part_47 (by decide) (fun _ => ?_) (fun c9 => absurd (by rw [hd]; rfl) c9)
    refine lv_iconst (v := 0) hx hb d_M_part_54 (by decide) ?_
    refine lv_iconst (v := 2) hx hb d_M_part_55 (by decide) ?_
    refine xc_calli (n := 2) (C := "TagMemoryModel") hx hb hml hown hts (c_M_bad l D G kc _ _ _ _ (Or.inl rfl)) (tb_V wm_390 wm_392 ws_17 wm_2 wm_393) rfl rfl rfl (by decide +kernel) ⟨Nat.le_of_ble_eq_true rfl, Nat.le_of_ble_eq_true rfl⟩ hK hP hD hS hA rfl rfl rfl rfl hl.1 rfl (Nat.le_of_ble_eq_true rfl) d_M_part_56 ⟨Nat.zero_le _, Nat.zero_le _⟩ (fun r u1 H locs hw hP hD hS => ?_)
    obtain ⟨e1, e2⟩ := hw
    subst e1
    rw [e2] at hP hD; clear e2 u1
    have hP : va_P D vwCl (wM G kc (nTh u 0)) H := hP
    have hD : va_D A (wM G kc (nTh u 0)) := hD
    refine lv_if_eq (tgt := 64) hx hb d_M_part_59 (by decide) (fun _ => ?_) (fun c9 => absurd rfl c9)
    refine lv_iload_n hx hb d_M_part_64 rfl (lv_at hl 3 rfl) ?_
    refine lv_iconst (v := 1) hx hb d_M_part_65 (by decide) ?_
    refine lv_icmp_ne (tgt := 75) hx hb d_M_part_66 (by decide) (fun _ => ?_) (fun c9 => absurd (show nI n = nI 1 from c9) (by rw [h2]; decide))
    refine lv_ldc (v := 65535) hx hb hown (hts (Cond.constant "TagMemoryModel" 64 (65535 : Int32)) (List.mem_cons_of_mem _ wm_426)) d_M_part_75 ?_
    refine lv_bipush (v := 8) hx hb d_M_part_77 (by decide) ?_
    refine lv_iload_n hx hb d_M_part_79 rfl (lv_at hl 2 rfl) ?_
    refine xa_imul hx hb 8 j rfl rfl d_M_part_80 ?_
    refine lv_ishl hx hb d_M_part_81 ?_
    refine lv_istore (lv' := [(5, .int _), (0, .ref _), (1, .int (nI i)), (2, .int (nI j)), (3, .int (nI n)), (4, .int _)]) hx hb d_M_part_82 hl (by decide) rfl (fun ls hl => ?_)
    refine lv_aload_n hx hb d_M_part_84 rfl (lv_at hl 1 rfl) ?_
    refine lv_iload_n hx hb d_M_part_85 rfl (lv_at hl 2 rfl) ?_
    refine lv_aload_n hx hb d_M_part_86 rfl (lv_at hl 1 rfl) ?_
    refine xm_g0 hx hb hts hown hK hP d_M_part_87 ?_
    refine lv_iload_n hx hb d_M_part_90 rfl (lv_at hl 2 rfl) ?_
    refine xm_l0 hx hb hK hP i rfl (by omega) d_M_part_91 ?_
    refine lv_iload hx hb d_M_part_92 (lv_at hl 0 rfl) ?_
    refine lv_iconst (v := (-1)) hx hb d_M_part_94 (by decide) ?_
    refine lv_ixor hx hb d_M_part_95 ?_
    refine lv_iand hx hb d_M_part_96 ?_
    refine lv_iload hx hb d_M_part_97 (lv_at hl 5 rfl) ?_
    refine lv_bipush (v := 8) hx hb d_M_part_99 (by decide) ?_
    refine lv_iload_n hx hb d_M_part_101 rfl (lv_at hl 3 rfl) ?_
    refine xa_imul hx hb 8 j rfl rfl d_M_part_102 ?_
    refine lv_ishl hx hb d_M_part_103 ?_
    refine lv_iload hx hb d_M_part_104 (lv_at hl 0 rfl) ?_
    refine lv_iand hx hb d_M_part_106 ?_
    refine lv_ior hx hb d_M_part_107 ?_
    refine lv_iconst (v := 0) hx hb d_M_part_108 (by decide) ?_
    refine xc_callv (n := 3) (C := "TagMemoryModel") hx hb hml hown hts (c_M_changes l D G kc _ _ i (by omega) _ _ (Or.inl rfl) (by exact hI)) (tb_V wm_418 wm_420 ws_22 wm_2 wm_421) rfl rfl rfl (by decide +kernel) ⟨Nat.le_of_ble_eq_true rfl, Nat.le_of_ble_eq_true rfl⟩ hK hP hD hS hA rfl rfl rfl rfl hl.1 rfl (Nat.le_of_ble_eq_true rfl) d_M_part_109 ⟨Nat.zero_le _, Nat.zero_le _⟩ (fun u1 H locs hw hP hD hS => ?_)
    rw [hw] at hP hD; clear hw u1
    refine lv_aload_n hx hb d_M_part_112 rfl (lv_at hl 1 rfl) ?_
    refine xm_g0 hx hb hts hown hK hP d_M_part_113 ?_
    refine lv_iload_n hx hb d_M_part_116 rfl (lv_at hl 2 rfl) ?_
    refine xm_l0 hx hb hK hP i rfl (by omega) d_M_part_117 ?_
    exact xc_iret hx hb hr hlocks hP hK hD hS (by unfold gPart; rw [hm]; exact ⟨rfl, rfl⟩) d_M_part_118
set_option maxHeartbeats 4000000 in
set_option maxRecDepth 100000 in
theorem c_M_put (l : Launch) (D : va_G) (G : Nat → Nat) (kc : Nat → ClassId) (sz : Nat) (u : TM) (g : Nat) (hg : g < 1024) (lo hi t : Int32) (ht : t = 0 ∨ t = 1) (hI : mI u) : XMv l y_M_put k_M_put { frames := 5, cells := 0, slots := 0, locals := 112 } D vwCl (wM G kc) (tyMs kc) u sz [.ref (G 0), .int (nI g), .int lo, .int hi, .int t] (fun u1 => u1 = gPut (nTh u 0) g lo hi t) := by
  refine xb_ofv (cc := b_M_put) (maxL := 5) (ret := none) (by decide) rfl (Nat.le_of_ble_eq_true rfl) ?_
  intro p e s m below meth c A ls hsz hx hb hml hr hlocks hts hown hP hK hD hA hl
  have hl : lv_has ls 5 [(0, .ref (G 0)), (1, .int (nI g)), (2, .int lo), (3, .int hi), (4, .int t)] := hl
  have hS : va_S A s.heap s.heap [] := va_S.rf
  have hI1 : mI (gCh (nTh u 0) (2 * g) lo t) := mI_ch (v := nTh u 0) hI (by omega) ht
  refine lv_aload_n hx hb d_M_put_0 rfl (lv_at hl 0 rfl) ?_
  refine lv_iload_n hx hb d_M_put_1 rfl (lv_at hl 1 rfl) ?_
  refine lv_if_lt (tgt := 12) hx hb d_M_put_2 (by decide) (fun c9 => absurd c9 (nI_pos (by omega))) (fun _ => ?_)
  refine lv_iload_n hx hb d_M_put_5 rfl (lv_at hl 1 rfl) ?_
  refine lv_sipush (v := 1023) hx hb d_M_put_6 (by decide) ?_
  refine lv_icmp_le (tgt := 16) hx hb d_M_put_9 (by decide) (fun _ => ?_) (fun c9 => absurd (nI_le (a := g) (b := 1023) (by omega) (by decide)) c9)
  refine lv_iconst (v := 0) hx hb d_M_put_16 (by decide) ?_
  refine lv_iconst (v := 1) hx hb d_M_put_17 (by decide) ?_
  refine xc_calli (n := 2) (C := "TagMemoryModel") hx hb hml hown hts (c_M_bad l D G kc _ _ _ _ (Or.inl rfl)) (tb_V wm_390 wm_392 ws_17 wm_2 wm_393) rfl rfl rfl (by decide +kernel) ⟨Nat.le_of_ble_eq_true rfl, Nat.le_of_ble_eq_true rfl⟩ hK hP hD hS hA rfl rfl rfl rfl hl.1 rfl (Nat.le_of_ble_eq_true rfl) d_M_put_18 ⟨Nat.zero_le _, Nat.zero_le _⟩ (fun r u1 H locs hw hP hD hS => ?_)
  obtain ⟨e1, e2⟩ := hw
  subst e1
  rw [e2] at hP hD; clear e2 u1
  have hP : va_P D vwCl (wM G kc (nTh u 0)) H := hP
  have hD : va_D A (wM G kc (nTh u 0)) := hD
  refine lv_if_eq (tgt := 25) hx hb d_M_put_21 (by decide) (fun _ => ?_) (fun c9 => absurd rfl c9)
  refine lv_aload_n hx hb d_M_put_25 rfl (lv_at hl 0 rfl) ?_
  refine lv_iconst (v := 2) hx hb d_M_put_26 (by decide) ?_
  refine lv_iload_n hx hb d_M_put_27 rfl (lv_at hl 1 rfl) ?_
  refine xa_imul hx hb 2 g rfl rfl d_M_put_28 ?_
  refine lv_iload_n hx hb d_M_put_29 rfl (lv_at hl 2 rfl) ?_
  refine lv_iload hx hb d_M_put_30 (lv_at hl 4 rfl) ?_
  refine xc_callv (n := 3) (C := "TagMemoryModel") hx hb hml hown hts (c_M_changes l D G kc _ _ (2 * g) (by omega) _ _ ht (by exact hI)) (tb_V wm_418 wm_420 ws_22 wm_2 wm_421) rfl rfl rfl (by decide +kernel) ⟨Nat.le_of_ble_eq_true rfl, Nat.le_of_ble_eq_true rfl⟩ hK hP hD hS hA rfl rfl rfl rfl hl.1 rfl (Nat.le_of_ble_eq_true rfl) d_M_put_32 ⟨Nat.zero_le _, Nat.zero_le _⟩ (fun u1 H locs hw hP hD hS => ?_)
  rw [hw] at hP hD; clear hw u1
  refine lv_aload_n hx hb d_M_put_35 rfl (lv_at hl 0 rfl) ?_
  refine lv_iconst (v := 2) hx hb d_M_put_36 (by decide) ?_
  refine lv_iload_n hx hb d_M_put_37 rfl (lv_at hl 1 rfl) ?_
  refine xa_imul hx hb 2 g rfl rfl d_M_put_38 ?_
  refine lv_iconst (v := 1) hx hb d_M_put_39 (by decide) ?_
  refine xa_iadd hx hb (2 * g) 1 rfl rfl d_M_put_40 ?_
  refine lv_iload_n hx hb d_M_put_41 rfl (lv_at hl 3 rfl) ?_
  refine lv_iload hx hb d_M_put_42 (lv_at hl 4 rfl) ?_
  refine xc_callv (n := 3) (C := "TagMemoryModel") hx hb hml hown hts (c_M_changes l D G kc _ _ ((2 * g) + 1) (by omega) _ _ ht (by exact hI1)) (tb_V wm_418 wm_420 ws_22 wm_2 wm_421) rfl rfl rfl (by decide +kernel) ⟨Nat.le_of_ble_eq_true rfl, Nat.le_of_ble_eq_true rfl⟩ hK hP hD hS hA rfl rfl rfl rfl hl.1 rfl (Nat.le_of_ble_eq_true rfl) d_M_put_44 ⟨Nat.zero_le _, Nat.zero_le _⟩ (fun u1 H locs hw hP hD hS => ?_)
  rw [hw] at hP hD; clear hw u1
  exact xc_vret hx hb hr hlocks hP hK hD hS rfl d_M_put_47
set_option maxHeartbeats 4000000 in
set_option maxRecDepth 100000 in
theorem c_M_copy (l : Launch) (D : va_G) (G : Nat → Nat) (kc : Nat → ClassId) (sz : Nat) (u : TM) (g f : Nat) (hg : g < 1024) (hf : f < 1024) (hI : mI u) : XMi l y_M_copy k_M_copy { frames := 5, cells := 0, slots := 0, locals := 112 } D vwCl (wM G kc) (tyMs kc) u sz [.ref (G 0), .int (nI g), .int (nI f)] (fun r u1 => r = mTg (gWant (nTh u 0) (f / 2)) f ∧ u1 = gCopy (gWant (nTh u 0) (f / 2)) g f) := by
  refine xb_ofi (cc := b_M_copy) (maxL := 4) (ret := some .boolean) (by decide) rfl (Nat.le_of_ble_eq_true rfl) ?_
  intro p e s m below meth c A ls hsz hx hb hml hr hlocks hts hown hP hK hD hA hl
  have hl : lv_has ls 4 [(0, .ref (G 0)), (1, .int (nI g)), (2, .int (nI f))] := hl
  have hS : va_S A s.heap s.heap [] := va_S.rf
  have hI1 : mI (gWant (nTh u 0) (f / 2)) := mI_want (v := nTh u 0) hI (by omega)
  have ht1 : mTg (gWant (nTh u 0) (f / 2)) f = 0 ∨ mTg (gWant (nTh u 0) (f / 2)) f = 1 := hI1.2.2 f hf
  have hI2 : mI (gCopy1 (gWant (nTh u 0) (f / 2)) g f) := mI_ch hI1 (by omega) ht1
  refine lv_aload_n hx hb d_M_copy_0 rfl (lv_at hl 0 rfl) ?_
  refine lv_iload_n hx hb d_M_copy_1 rfl (lv_at hl 2 rfl) ?_
  refine lv_if_lt (tgt := 23) hx hb d_M_copy_2 (by decide) (fun c9 => absurd c9 (nI_pos (by omega))) (fun _ => ?_)
  refine lv_iload_n hx hb d_M_copy_5 rfl (lv_at hl 2 rfl) ?_
  refine lv_sipush (v := 1023) hx hb d_M_copy_6 (by decide) ?_
  refine lv_icmp_gt (tgt := 23) hx hb d_M_copy_9 (by decide) (fun c9 => absurd c9 (nI_nlt (a := 1023) (b := f) (by omega) (by decide))) (fun _ => ?_)
  refine lv_iload_n hx hb d_M_copy_12 rfl (lv_at hl 1 rfl) ?_
  refine lv_if_lt (tgt := 23) hx hb d_M_copy_13 (by decide) (fun c9 => absurd c9 (nI_pos (by omega))) (fun _ => ?_)
  refine lv_iload_n hx hb d_M_copy_16 rfl (lv_at hl 1 rfl) ?_
  refine lv_sipush (v := 1023) hx hb d_M_copy_17 (by decide) ?_
  refine lv_icmp_le (tgt := 27) hx hb d_M_copy_20 (by decide) (fun _ => ?_) (fun c9 => absurd (nI_le (a := g) (b := 1023) (by omega) (by decide)) c9)
  refine lv_iconst (v := 0) hx hb d_M_copy_27 (by decide) ?_
  refine lv_iconst (v := 1) hx hb d_M_copy_28 (by decide) ?_
  refine xc_calli (n := 2) (C := "TagMemoryModel") hx hb hml hown hts (c_M_bad l D G kc _ _ _ _ (Or.inl rfl)) (tb_V wm_390 wm_392 ws_17 wm_2 wm_393) rfl rfl rfl (by decide +kernel) ⟨Nat.le_of_ble_eq_true rfl, Nat.le_of_ble_eq_true rfl⟩ hK hP hD hS hA rfl rfl rfl rfl hl.1 rfl (Nat.le_of_ble_eq_true rfl) d_M_copy_29 ⟨Nat.zero_le _, Nat.zero_le _⟩ (fun r u1 H locs hw hP hD hS => ?_)
  obtain ⟨e1, e2⟩ := hw
  subst e1
  rw [e2] at hP hD; clear e2 u1
  have hP : va_P D vwCl (wM G kc (nTh u 0)) H := hP
  have hD : va_D A (wM G kc (nTh u 0)) := hD
  refine lv_if_eq (tgt := 37) hx hb d_M_copy_32 (by decide) (fun _ => ?_) (fun c9 => absurd rfl c9)
  refine lv_aload_n hx hb d_M_copy_37 rfl (lv_at hl 0 rfl) ?_
  refine lv_iload_n hx hb d_M_copy_38 rfl (lv_at hl 2 rfl) ?_
  refine lv_iconst (v := 2) hx hb d_M_copy_39 (by decide) ?_
  refine xa_idiv hx hb f 2 rfl rfl (by omega) (by decide) (by decide) d_M_copy_40 ?_
  refine xc_callv (n := 1) (C := "TagMemoryModel") hx hb hml hown hts (c_M_want l D G kc _ _ (f / 2) (by omega) (by exact hI)) (tb_V wm_394 wm_396 ws_18 wm_2 wm_397) rfl rfl rfl (by decide +kernel) ⟨Nat.le_of_ble_eq_true rfl, Nat.le_of_ble_eq_true rfl⟩ hK hP hD hS hA rfl rfl rfl rfl hl.1 rfl (Nat.le_of_ble_eq_true rfl) d_M_copy_41 ⟨Nat.zero_le _, Nat.zero_le _⟩ (fun u1 H locs hw hP hD hS => ?_)
  rw [hw] at hP hD; clear hw u1
  refine lv_aload_n hx hb d_M_copy_44 rfl (lv_at hl 0 rfl) ?_
  refine xm_g1 hx hb hts hown hK hP d_M_copy_45 ?_
  refine lv_iload_n hx hb d_M_copy_48 rfl (lv_at hl 2 rfl) ?_
  refine xm_l1 hx hb hK hP f rfl (by omega) d_M_copy_49 ?_
  refine lv_istore_n (lv' := [(3, .int _), (0, .ref _), (1, .int (nI g)), (2, .int (nI f))]) hx hb d_M_copy_50 rfl hl (by decide) rfl (fun ls hl => ?_)
  refine lv_aload_n hx hb d_M_copy_51 rfl (lv_at hl 1 rfl) ?_
  refine lv_iconst (v := 2) hx hb d_M_copy_52 (by decide) ?_
  refine lv_iload_n hx hb d_M_copy_53 rfl (lv_at hl 2 rfl) ?_
  refine xa_imul hx hb 2 g rfl rfl d_M_copy_54 ?_
  refine lv_aload_n hx hb d_M_copy_55 rfl (lv_at hl 1 rfl) ?_
  refine xm_g0 hx hb hts hown hK hP d_M_copy_56 ?_
  refine lv_iconst (v := 2) hx hb d_M_copy_59 (by decide) ?_
  refine lv_iload_n hx hb d_M_copy_60 rfl (lv_at hl 3 rfl) ?_
  refine xa_imul hx hb 2 f rfl rfl d_M_copy_61 ?_
  refine xm_l0 hx hb hK hP (2 * f) rfl (by omega) d_M_copy_62 ?_
  refine lv_iload_n hx hb d_M_copy_63 rfl (lv_at hl 0 rfl) ?_
  refine xc_callv (n := 3) (C := "TagMemoryModel") hx hb hml hown hts (c_M_changes l D G kc _ _ (2 * g) (by omega) _ _ ht1 (by exact hI1)) (tb_V wm_418 wm_420 ws_22 wm_2 wm_421) rfl rfl rfl (by decide +kernel) ⟨Nat.le_of_ble_eq_true rfl, Nat.le_of_ble_eq_true rfl⟩ hK hP hD hS hA rfl rfl rfl rfl hl.1 rfl (Nat.le_of_ble_eq_true rfl) d_M_copy_64 ⟨Nat.zero_le _, Nat.zero_le _⟩ (fun u1 H locs hw hP hD hS => ?_)
  rw [hw] at hP hD; clear hw u1
  refine lv_aload_n hx hb d_M_copy_67 rfl (lv_at hl 1 rfl) ?_
  refine lv_iconst (v := 2) hx hb d_M_copy_68 (by decide) ?_
  refine lv_iload_n hx hb d_M_copy_69 rfl (lv_at hl 2 rfl) ?_
  refine xa_imul hx hb 2 g rfl rfl d_M_copy_70 ?_
  refine lv_iconst (v := 1) hx hb d_M_copy_71 (by decide) ?_
  refine xa_iadd hx hb (2 * g) 1 rfl rfl d_M_copy_72 ?_
  refine lv_aload_n hx hb d_M_copy_73 rfl (lv_at hl 1 rfl) ?_
  refine xm_g0 hx hb hts hown hK hP d_M_copy_74 ?_
  refine lv_iconst (v := 2) hx hb d_M_copy_77 (by decide) ?_
  refine lv_iload_n hx hb d_M_copy_78 rfl (lv_at hl 3 rfl) ?_
  refine xa_imul hx hb 2 f rfl rfl d_M_copy_79 ?_
  refine lv_iconst (v := 1) hx hb d_M_copy_80 (by decide) ?_
  refine xa_iadd hx hb (2 * f) 1 rfl rfl d_M_copy_81 ?_
  refine xm_l0 hx hb hK hP ((2 * f) + 1) rfl (by omega) d_M_copy_82 ?_
  refine lv_iload_n hx hb d_M_copy_83 rfl (lv_at hl 0 rfl) ?_
  refine xc_callv (n := 3) (C := "TagMemoryModel") hx hb hml hown hts (c_M_changes l D G kc _ _ ((2 * g) + 1) (by omega) _ _ ht1 (by exact hI2)) (tb_V wm_418 wm_420 ws_22 wm_2 wm_421) rfl rfl rfl (by decide +kernel) ⟨Nat.le_of_ble_eq_true rfl, Nat.le_of_ble_eq_true rfl⟩ hK hP hD hS hA rfl rfl rfl rfl hl.1 rfl (Nat.le_of_ble_eq_true rfl) d_M_copy_84 ⟨Nat.zero_le _, Nat.zero_le _⟩ (fun u1 H locs hw hP hD hS => ?_)
  rw [hw] at hP hD; clear hw u1
  refine lv_iload_n hx hb d_M_copy_87 rfl (lv_at hl 0 rfl) ?_
  exact xc_zret hx hb hr hlocks ht1 hP hK hD hS ⟨rfl, rfl⟩ d_M_copy_88
set_option maxHeartbeats 4000000 in
set_option maxRecDepth 100000 in
theorem c_M_drop (l : Launch) (D : va_G) (G : Nat → Nat) (kc : Nat → ClassId) (sz : Nat) (u : TM) (q : Nat) (hq : q < 16) (hI : mI u) : XMi l y_M_drop k_M_drop { frames := 3, cells := 0, slots := 0, locals := 67 } D vwCl (wM G kc) (tyMs kc) u sz [.ref (G 0), .int (nI q)] (fun r u1 => r = (if mLn u q = -1 then -1 else rmLineGo (nTh u 0) q) ∧ u1 = (if mLn u q = -1 then nTh u 0 else gLineGo (nTh u 0) q)) := by
  refine xb_ofi (cc := b_M_drop) (maxL := 2) (ret := some .int) (by decide) rfl (Nat.le_of_ble_eq_true rfl) ?_
  intro p e s m below meth c A ls hsz hx hb hml hr hlocks hts hown hP hK hD hA hl
  have hl : lv_has ls 2 [(0, .ref (G 0)), (1, .int (nI q))] := hl
  have hS : va_S A s.heap s.heap [] := va_S.rf
  by_cases h1 : mLn u q = -1
  · skip
    refine lv_aload_n hx hb d_M_drop_0 rfl (lv_at hl 0 rfl) ?_
    refine lv_iload_n hx hb d_M_drop_1 rfl (lv_at hl 1 rfl) ?_
    refine lv_if_lt (tgt := 11) hx hb d_M_drop_2 (by decide) (fun c9 => absurd c9 (nI_pos (by omega))) (fun _ => ?_)
    refine lv_iload_n hx hb d_M_drop_5 rfl (lv_at hl 1 rfl) ?_
    refine lv_bipush (v := 15) hx hb d_M_drop_6 (by decide) ?_
    refine lv_icmp_le (tgt := 15) hx hb d_M_drop_8 (by decide) (fun _ => ?_) (fun c9 => absurd (nI_le (a := q) (b := 15) (by omega) (by decide)) c9)
    refine lv_iconst (v := 0) hx hb d_M_drop_15 (by decide) ?_
    refine lv_iconst (v := 1) hx hb d_M_drop_16 (by decide) ?_
    refine xc_calli (n := 2) (C := "TagMemoryModel") hx hb hml hown hts (c_M_bad l D G kc _ _ _ _ (Or.inl rfl)) (tb_V wm_390 wm_392 ws_17 wm_2 wm_393) rfl rfl rfl (by decide +kernel) ⟨Nat.le_of_ble_eq_true rfl, Nat.le_of_ble_eq_true rfl⟩ hK hP hD hS hA rfl rfl rfl rfl hl.1 rfl (Nat.le_of_ble_eq_true rfl) d_M_drop_17 ⟨Nat.zero_le _, Nat.zero_le _⟩ (fun r u1 H locs hw hP hD hS => ?_)
    obtain ⟨e1, e2⟩ := hw
    subst e1
    rw [e2] at hP hD; clear e2 u1
    have hP : va_P D vwCl (wM G kc (nTh u 0)) H := hP
    have hD : va_D A (wM G kc (nTh u 0)) := hD
    refine lv_if_eq (tgt := 25) hx hb d_M_drop_20 (by decide) (fun _ => ?_) (fun c9 => absurd rfl c9)
    refine lv_aload_n hx hb d_M_drop_25 rfl (lv_at hl 0 rfl) ?_
    refine xm_g4 hx hb hts hown hK hP d_M_drop_26 ?_
    refine lv_iload_n hx hb d_M_drop_29 rfl (lv_at hl 1 rfl) ?_
    refine xm_l4 hx hb hK hP q rfl (by omega) d_M_drop_30 ?_
    refine lv_if_ge (tgt := 36) hx hb d_M_drop_31 (by decide) (fun c9 => absurd c9 (by rw [show mLn (nTh u 0) q = -1 from h1]; decide)) (fun _ => ?_)
    refine lv_iconst (v := (-1)) hx hb d_M_drop_34 (by decide) ?_
    exact xc_iret hx hb hr hlocks hP hK hD hS ⟨by rw [if_pos h1], by rw [if_pos h1]⟩ d_M_drop_35
  · obtain ⟨n, hn, hnq, hn1⟩ : ∃ n, n < 512 ∧ n % 16 = q ∧ mLn u q = nI n := (hI.2.1 q hq).resolve_left h1
    by_cases h2 : rmLineGo (nTh u 0) q = 0
    · skip
      refine lv_aload_n hx hb d_M_drop_0 rfl (lv_at hl 0 rfl) ?_
      refine lv_iload_n hx hb d_M_drop_1 rfl (lv_at hl 1 rfl) ?_
      refine lv_if_lt (tgt := 11) hx hb d_M_drop_2 (by decide) (fun c9 => absurd c9 (nI_pos (by omega))) (fun _ => ?_)
      refine lv_iload_n hx hb d_M_drop_5 rfl (lv_at hl 1 rfl) ?_
      refine lv_bipush (v := 15) hx hb d_M_drop_6 (by decide) ?_
      refine lv_icmp_le (tgt := 15) hx hb d_M_drop_8 (by decide) (fun _ => ?_) (fun c9 => absurd (nI_le (a := q) (b := 15) (by omega) (by decide)) c9)
      refine lv_iconst (v := 0) hx hb d_M_drop_15 (by decide) ?_
      refine lv_iconst (v := 1) hx hb d_M_drop_16 (by decide) ?_
      refine xc_calli (n := 2) (C := "TagMemoryModel") hx hb hml hown hts (c_M_bad l D G kc _ _ _ _ (Or.inl rfl)) (tb_V wm_390 wm_392 ws_17 wm_2 wm_393) rfl rfl rfl (by decide +kernel) ⟨Nat.le_of_ble_eq_true rfl, Nat.le_of_ble_eq_true rfl⟩ hK hP hD hS hA rfl rfl rfl rfl hl.1 rfl (Nat.le_of_ble_eq_true rfl) d_M_drop_17 ⟨Nat.zero_le _, Nat.zero_le _⟩ (fun r u1 H locs hw hP hD hS => ?_)
      obtain ⟨e1, e2⟩ := hw
      subst e1
      rw [e2] at hP hD; clear e2 u1
      have hP : va_P D vwCl (wM G kc (nTh u 0)) H := hP
      have hD : va_D A (wM G kc (nTh u 0)) := hD
      refine lv_if_eq (tgt := 25) hx hb d_M_drop_20 (by decide) (fun _ => ?_) (fun c9 => absurd rfl c9)
      refine lv_aload_n hx hb d_M_drop_25 rfl (lv_at hl 0 rfl) ?_
      refine xm_g4 hx hb hts hown hK hP d_M_drop_26 ?_
      refine lv_iload_n hx hb d_M_drop_29 rfl (lv_at hl 1 rfl) ?_
      refine xm_l4 hx hb hK hP q rfl (by omega) d_M_drop_30 ?_
      refine lv_if_ge (tgt := 36) hx hb d_M_drop_31 (by decide) (fun _ => ?_) (fun c9 => absurd (by rw [show mLn (nTh u 0) q = nI n from hn1]; exact nI_pos' (by omega)) c9)
      refine lv_aload_n hx hb d_M_drop_36 rfl (lv_at hl 0 rfl) ?_
      refine lv_iload_n hx hb d_M_drop_37 rfl (lv_at hl 1 rfl) ?_
      refine xc_calli (n := 1) (C := "TagMemoryModel") hx hb hml hown hts (c_M_lineGoes l D G kc _ _ q (by omega) (by exact hI)) (tb_V wm_398 wm_400 ws_19 wm_2 wm_401) rfl rfl rfl (by decide +kernel) ⟨Nat.le_of_ble_eq_true rfl, Nat.le_of_ble_eq_true rfl⟩ hK hP hD hS hA rfl rfl rfl rfl hl.1 rfl (Nat.le_of_ble_eq_true rfl) d_M_drop_38 ⟨Nat.zero_le _, Nat.zero_le _⟩ (fun r u1 H locs hw hP hD hS => ?_)
      obtain ⟨e1, e2⟩ := hw
      subst e1
      rw [e2] at hP hD; clear e2 u1
      refine lv_if_eq (tgt := 48) hx hb d_M_drop_41 (by decide) (fun _ => ?_) (fun c9 => absurd h2 c9)
      refine lv_iconst (v := 0) hx hb d_M_drop_48 (by decide) ?_
      exact xc_iret hx hb hr hlocks hP hK hD hS ⟨by rw [if_neg h1, h2], by rw [if_neg h1]⟩ d_M_drop_49
    · have h3 : rmLineGo (nTh u 0) q = 1 := (rmLineGo_01 (nTh u 0) q).resolve_left h2
      refine lv_aload_n hx hb d_M_drop_0 rfl (lv_at hl 0 rfl) ?_
      refine lv_iload_n hx hb d_M_drop_1 rfl (lv_at hl 1 rfl) ?_
      refine lv_if_lt (tgt := 11) hx hb d_M_drop_2 (by decide) (fun c9 => absurd c9 (nI_pos (by omega))) (fun _ => ?_)
      refine lv_iload_n hx hb d_M_drop_5 rfl (lv_at hl 1 rfl) ?_
      refine lv_bipush (v := 15) hx hb d_M_drop_6 (by decide) ?_
      refine lv_icmp_le (tgt := 15) hx hb d_M_drop_8 (by decide) (fun _ => ?_) (fun c9 => absurd (nI_le (a := q) (b := 15) (by omega) (by decide)) c9)
      refine lv_iconst (v := 0) hx hb d_M_drop_15 (by decide) ?_
      refine lv_iconst (v := 1) hx hb d_M_drop_16 (by decide) ?_
      refine xc_calli (n := 2) (C := "TagMemoryModel") hx hb hml hown hts (c_M_bad l D G kc _ _ _ _ (Or.inl rfl)) (tb_V wm_390 wm_392 ws_17 wm_2 wm_393) rfl rfl rfl (by decide +kernel) ⟨Nat.le_of_ble_eq_true rfl, Nat.le_of_ble_eq_true rfl⟩ hK hP hD hS hA rfl rfl rfl rfl hl.1 rfl (Nat.le_of_ble_eq_true rfl) d_M_drop_17 ⟨Nat.zero_le _, Nat.zero_le _⟩ (fun r u1 H locs hw hP hD hS => ?_)
      obtain ⟨e1, e2⟩ := hw
      subst e1
      rw [e2] at hP hD; clear e2 u1
      have hP : va_P D vwCl (wM G kc (nTh u 0)) H := hP
      have hD : va_D A (wM G kc (nTh u 0)) := hD
      refine lv_if_eq (tgt := 25) hx hb d_M_drop_20 (by decide) (fun _ => ?_) (fun c9 => absurd rfl c9)
      refine lv_aload_n hx hb d_M_drop_25 rfl (lv_at hl 0 rfl) ?_
      refine xm_g4 hx hb hts hown hK hP d_M_drop_26 ?_
      refine lv_iload_n hx hb d_M_drop_29 rfl (lv_at hl 1 rfl) ?_
      refine xm_l4 hx hb hK hP q rfl (by omega) d_M_drop_30 ?_
      refine lv_if_ge (tgt := 36) hx hb d_M_drop_31 (by decide) (fun _ => ?_) (fun c9 => absurd (by rw [show mLn (nTh u 0) q = nI n from hn1]; exact nI_pos' (by omega)) c9)
      refine lv_aload_n hx hb d_M_drop_36 rfl (lv_at hl 0 rfl) ?_
      refine lv_iload_n hx hb d_M_drop_37 rfl (lv_at hl 1 rfl) ?_
      refine xc_calli (n := 1) (C := "TagMemoryModel") hx hb hml hown hts (c_M_lineGoes l D G kc _ _ q (by omega) (by exact hI)) (tb_V wm_398 wm_400 ws_19 wm_2 wm_401) rfl rfl rfl (by decide +kernel) ⟨Nat.le_of_ble_eq_true rfl, Nat.le_of_ble_eq_true rfl⟩ hK hP hD hS hA rfl rfl rfl rfl hl.1 rfl (Nat.le_of_ble_eq_true rfl) d_M_drop_38 ⟨Nat.zero_le _, Nat.zero_le _⟩ (fun r u1 H locs hw hP hD hS => ?_)
      obtain ⟨e1, e2⟩ := hw
      subst e1
      rw [e2] at hP hD; clear e2 u1
      refine lv_if_eq (tgt := 48) hx hb d_M_drop_41 (by decide) (fun c9 => absurd c9 h2) (fun _ => ?_)
      refine lv_iconst (v := 1) hx hb d_M_drop_44 (by decide) ?_
      refine lv_goto (tgt := 49) hx hb d_M_drop_45 (by decide) ?_
      exact xc_iret hx hb hr hlocks hP hK hD hS ⟨by rw [if_neg h1, h3], by rw [if_neg h1]⟩ d_M_drop_49
set_option maxHeartbeats 4000000 in
set_option maxRecDepth 100000 in
theorem c_M_store (l : Launch) (D : va_G) (G : Nat → Nat) (kc : Nat → ClassId) (sz : Nat) (u : TM) (i : Nat) (hi : i < 2080) : XMi l y_M_store k_M_store { frames := 1, cells := 0, slots := 0, locals := 22 } D vwCl (wM G kc) (tyMs kc) u sz [.ref (G 0), .int (nI i)] (fun r u1 => r = mSo u i ∧ u1 = nTh u 0) := by
  refine xb_ofi (cc := b_M_store) (maxL := 2) (ret := some .int) (by decide) rfl (Nat.le_of_ble_eq_true rfl) ?_
  intro p e s m below meth c A ls hsz hx hb hml hr hlocks hts hown hP hK hD hA hl
  have hl : lv_has ls 2 [(0, .ref (G 0)), (1, .int (nI i))] := hl
  have hS : va_S A s.heap s.heap [] := va_S.rf
  refine lv_aload_n hx hb d_M_store_0 rfl (lv_at hl 0 rfl) ?_
  refine lv_iload_n hx hb d_M_store_1 rfl (lv_at hl 1 rfl) ?_
  refine lv_if_lt (tgt := 12) hx hb d_M_store_2 (by decide) (fun c9 => absurd c9 (nI_pos (by omega))) (fun _ => ?_)
  refine lv_iload_n hx hb d_M_store_5 rfl (lv_at hl 1 rfl) ?_
  refine lv_sipush (v := 2079) hx hb d_M_store_6 (by decide) ?_
  refine lv_icmp_le (tgt := 16) hx hb d_M_store_9 (by decide) (fun _ => ?_) (fun c9 => absurd (nI_le (a := i) (b := 2079) (by omega) (by decide)) c9)
  refine lv_iconst (v := 0) hx hb d_M_store_16 (by decide) ?_
  refine lv_iconst (v := 1) hx hb d_M_store_17 (by decide) ?_
  refine xc_calli (n := 2) (C := "TagMemoryModel") hx hb hml hown hts (c_M_bad l D G kc _ _ _ _ (Or.inl rfl)) (tb_V wm_390 wm_392 ws_17 wm_2 wm_393) rfl rfl rfl (by decide +kernel) ⟨Nat.le_of_ble_eq_true rfl, Nat.le_of_ble_eq_true rfl⟩ hK hP hD hS hA rfl rfl rfl rfl hl.1 rfl (Nat.le_of_ble_eq_true rfl) d_M_store_18 ⟨Nat.zero_le _, Nat.zero_le _⟩ (fun r u1 H locs hw hP hD hS => ?_)
  obtain ⟨e1, e2⟩ := hw
  subst e1
  rw [e2] at hP hD; clear e2 u1
  have hP : va_P D vwCl (wM G kc (nTh u 0)) H := hP
  have hD : va_D A (wM G kc (nTh u 0)) := hD
  refine lv_if_eq (tgt := 28) hx hb d_M_store_21 (by decide) (fun _ => ?_) (fun c9 => absurd rfl c9)
  refine lv_aload_n hx hb d_M_store_28 rfl (lv_at hl 0 rfl) ?_
  refine xm_g2 hx hb hts hown hK hP d_M_store_29 ?_
  refine lv_iload_n hx hb d_M_store_32 rfl (lv_at hl 1 rfl) ?_
  refine xm_l2 hx hb hK hP i rfl (by omega) d_M_store_33 ?_
  exact xc_iret hx hb hr hlocks hP hK hD hS ⟨rfl, rfl⟩ d_M_store_34
set_option maxHeartbeats 4000000 in
set_option maxRecDepth 100000 in
theorem c_M_kept (l : Launch) (D : va_G) (G : Nat → Nat) (kc : Nat → ClassId) (sz : Nat) (u : TM) (q : Nat) (hq : q < 20) : XMi l y_M_kept k_M_kept { frames := 1, cells := 0, slots := 0, locals := 22 } D vwCl (wM G kc) (tyMs kc) u sz [.ref (G 0), .int (nI q)] (fun r u1 => r = (if q < 16 then mLn u q else mKr u (q - 16)) ∧ u1 = nTh u 0) := by
  refine xb_ofi (cc := b_M_kept) (maxL := 2) (ret := some .int) (by decide) rfl (Nat.le_of_ble_eq_true rfl) ?_
  intro p e s m below meth c A ls hsz hx hb hml hr hlocks hts hown hP hK hD hA hl
  have hl : lv_has ls 2 [(0, .ref (G 0)), (1, .int (nI q))] := hl
  have hS : va_S A s.heap s.heap [] := va_S.rf
  by_cases h1 : q < 16
  · skip
    refine lv_aload_n hx hb d_M_kept_0 rfl (lv_at hl 0 rfl) ?_
    refine lv_iload_n hx hb d_M_kept_1 rfl (lv_at hl 1 rfl) ?_
    refine lv_if_lt (tgt := 11) hx hb d_M_kept_2 (by decide) (fun c9 => absurd c9 (nI_pos (by omega))) (fun _ => ?_)
    refine lv_iload_n hx hb d_M_kept_5 rfl (lv_at hl 1 rfl) ?_
    refine lv_bipush (v := 19) hx hb d_M_kept_6 (by decide) ?_
    refine lv_icmp_le (tgt := 15) hx hb d_M_kept_8 (by decide) (fun _ => ?_) (fun c9 => absurd (nI_le (a := q) (b := 19) (by omega) (by decide)) c9)
    refine lv_iconst (v := 0) hx hb d_M_kept_15 (by decide) ?_
    refine lv_iconst (v := 1) hx hb d_M_kept_16 (by decide) ?_
    refine xc_calli (n := 2) (C := "TagMemoryModel") hx hb hml hown hts (c_M_bad l D G kc _ _ _ _ (Or.inl rfl)) (tb_V wm_390 wm_392 ws_17 wm_2 wm_393) rfl rfl rfl (by decide +kernel) ⟨Nat.le_of_ble_eq_true rfl, Nat.le_of_ble_eq_true rfl⟩ hK hP hD hS hA rfl rfl rfl rfl hl.1 rfl (Nat.le_of_ble_eq_true rfl) d_M_kept_17 ⟨Nat.zero_le _, Nat.zero_le _⟩ (fun r u1 H locs hw hP hD hS => ?_)
    obtain ⟨e1, e2⟩ := hw
    subst e1
    rw [e2] at hP hD; clear e2 u1
    have hP : va_P D vwCl (wM G kc (nTh u 0)) H := hP
    have hD : va_D A (wM G kc (nTh u 0)) := hD
    refine lv_if_eq (tgt := 27) hx hb d_M_kept_20 (by decide) (fun _ => ?_) (fun c9 => absurd rfl c9)
    refine lv_iload_n hx hb d_M_kept_27 rfl (lv_at hl 1 rfl) ?_
    refine lv_bipush (v := 16) hx hb d_M_kept_28 (by decide) ?_
    refine lv_icmp_ge (tgt := 42) hx hb d_M_kept_30 (by decide) (fun c9 => absurd c9 (nI_ge (a := q) (b := 16) (by omega) (by omega))) (fun _ => ?_)
    refine lv_aload_n hx hb d_M_kept_33 rfl (lv_at hl 0 rfl) ?_
    refine xm_g4 hx hb hts hown hK hP d_M_kept_34 ?_
    refine lv_iload_n hx hb d_M_kept_37 rfl (lv_at hl 1 rfl) ?_
    refine xm_l4 hx hb hK hP q rfl (by omega) d_M_kept_38 ?_
    refine lv_goto (tgt := 51) hx hb d_M_kept_39 (by decide) ?_
    exact xc_iret hx hb hr hlocks hP hK hD hS ⟨by rw [if_pos h1]; rfl, rfl⟩ d_M_kept_51
  · skip
    refine lv_aload_n hx hb d_M_kept_0 rfl (lv_at hl 0 rfl) ?_
    refine lv_iload_n hx hb d_M_kept_1 rfl (lv_at hl 1 rfl) ?_
    refine lv_if_lt (tgt := 11) hx hb d_M_kept_2 (by decide) (fun c9 => absurd c9 (nI_pos (by omega))) (fun _ => ?_)
    refine lv_iload_n hx hb d_M_kept_5 rfl (lv_at hl 1 rfl) ?_
    refine lv_bipush (v := 19) hx hb d_M_kept_6 (by decide) ?_
    refine lv_icmp_le (tgt := 15) hx hb d_M_kept_8 (by decide) (fun _ => ?_) (fun c9 => absurd (nI_le (a := q) (b := 19) (by omega) (by decide)) c9)
    refine lv_iconst (v := 0) hx hb d_M_kept_15 (by decide) ?_
    refine lv_iconst (v := 1) hx hb d_M_kept_16 (by decide) ?_
    refine xc_calli (n := 2) (C := "TagMemoryModel") hx hb hml hown hts (c_M_bad l D G kc _ _ _ _ (Or.inl rfl)) (tb_V wm_390 wm_392 ws_17 wm_2 wm_393) rfl rfl rfl (by decide +kernel) ⟨Nat.le_of_ble_eq_true rfl, Nat.le_of_ble_eq_true rfl⟩ hK hP hD hS hA rfl rfl rfl rfl hl.1 rfl (Nat.le_of_ble_eq_true rfl) d_M_kept_17 ⟨Nat.zero_le _, Nat.zero_le _⟩ (fun r u1 H locs hw hP hD hS => ?_)
    obtain ⟨e1, e2⟩ := hw
    subst e1
    rw [e2] at hP hD; clear e2 u1
    have hP : va_P D vwCl (wM G kc (nTh u 0)) H := hP
    have hD : va_D A (wM G kc (nTh u 0)) := hD
    refine lv_if_eq (tgt := 27) hx hb d_M_kept_20 (by decide) (fun _ => ?_) (fun c9 => absurd rfl c9)
    refine lv_iload_n hx hb d_M_kept_27 rfl (lv_at hl 1 rfl) ?_
    refine lv_bipush (v := 16) hx hb d_M_kept_28 (by decide) ?_
    refine lv_icmp_ge (tgt := 42) hx hb d_M_kept_30 (by decide) (fun _ => ?_) (fun c9 => absurd (nI_le (a := 16) (b := q) (by omega) (by omega)) c9)
    refine lv_aload_n hx hb d_M_kept_42 rfl (lv_at hl 0 rfl) ?_
    refine xm_g6 hx hb hts hown hK hP d_M_kept_43 ?_
    refine lv_iload_n hx hb d_M_kept_46 rfl (lv_at hl 1 rfl) ?_
    refine lv_bipush (v := 16) hx hb d_M_kept_47 (by decide) ?_
    refine xa_isub hx hb q 16 rfl rfl (by omega) d_M_kept_49 ?_
    refine xm_l6 hx hb hK hP (q - 16) rfl (by omega) d_M_kept_50 ?_
    exact xc_iret hx hb hr hlocks hP hK hD hS ⟨by rw [if_neg h1]; rfl, rfl⟩ d_M_kept_51
set_option maxHeartbeats 4000000 in
set_option maxRecDepth 100000 in
theorem c_M_check (l : Launch) (D : va_G) (G : Nat → Nat) (kc : Nat → ClassId) (sz : Nat) (u : TM)  : XMi l y_M_check k_M_check { frames := 0, cells := 0, slots := 0, locals := 0 } D vwCl (wM G kc) (tyMs kc) u sz [.ref (G 0)] (fun r u1 => r = 0 ∧ u1 = nTh u 0) := by
  refine xb_ofi (cc := b_M_check) (maxL := 1) (ret := some .int) (by decide) rfl (Nat.le_of_ble_eq_true rfl) ?_
  intro p e s m below meth c A ls hsz hx hb hml hr hlocks hts hown hP hK hD hA hl
  have hl : lv_has ls 1 [(0, .ref (G 0))] := hl
  have hS : va_S A s.heap s.heap [] := va_S.rf
  refine lv_aload_n hx hb d_M_check_0 rfl (lv_at hl 0 rfl) ?_
  refine lv_iconst (v := 0) hx hb d_M_check_1 (by decide) ?_
  refine xm_p9 hx hb hts hown hK hP hD hS d_M_check_2 (fun H locs hP hD hS => ?_)
  refine lv_iconst (v := 0) hx hb d_M_check_5 (by decide) ?_
  exact xc_iret hx hb hr hlocks hP hK hD hS ⟨rfl, rfl⟩ d_M_check_6
set_option maxHeartbeats 4000000 in
set_option maxRecDepth 100000 in
theorem x_M_read (l : Launch) (D : va_G) (G : Nat → Nat) (kc : Nat → ClassId) (sz : Nat) (u : TM) (x : Int32) (hbad : xbad 2048 x) : XMi l y_M_read k_M_read { frames := 1, cells := 0, slots := 0, locals := 22 } D vwCl (wM G kc) (tyMs kc) u sz [.ref (G 0), .int x] (fun r u1 => r = 0 ∧ u1 = nTh u 1) := by
  refine xb_ofi (cc := b_M_read) (maxL := 2) (ret := some .int) (by decide) rfl (Nat.le_of_ble_eq_true rfl) ?_
  intro p e s m below meth c A ls hsz hx hb hml hr hlocks hts hown hP hK hD hA hl
  have hl : lv_has ls 2 [(0, .ref (G 0)), (1, .int x)] := hl
  have hS : va_S A s.heap s.heap [] := va_S.rf
  rcases hbad with h1 | ⟨h1, h2⟩
  · skip
    refine lv_aload_n hx hb d_M_read_0 rfl (lv_at hl 0 rfl) ?_
    refine lv_iload_n hx hb d_M_read_1 rfl (lv_at hl 1 rfl) ?_
    refine lv_if_lt (tgt := 12) hx hb d_M_read_2 (by decide) (fun _ => ?_) (fun c9 => absurd h1 c9)
    refine lv_iconst (v := 1) hx hb d_M_read_12 (by decide) ?_
    refine lv_goto (tgt := 17) hx hb d_M_read_13 (by decide) ?_
    refine lv_iconst (v := 1) hx hb d_M_read_17 (by decide) ?_
    refine xc_calli (n := 2) (C := "TagMemoryModel") hx hb hml hown hts (c_M_bad l D G kc _ _ _ _ (Or.inr rfl)) (tb_V wm_390 wm_392 ws_17 wm_2 wm_393) rfl rfl rfl (by decide +kernel) ⟨Nat.le_of_ble_eq_true rfl, Nat.le_of_ble_eq_true rfl⟩ hK hP hD hS hA rfl rfl rfl rfl hl.1 rfl (Nat.le_of_ble_eq_true rfl) d_M_read_18 ⟨Nat.zero_le _, Nat.zero_le _⟩ (fun r u1 H locs hw hP hD hS => ?_)
    obtain ⟨e1, e2⟩ := hw
    subst e1
    rw [e2] at hP hD; clear e2 u1
    have hP : va_P D vwCl (wM G kc (nTh u 1)) H := hP
    have hD : va_D A (wM G kc (nTh u 1)) := hD
    refine lv_if_eq (tgt := 26) hx hb d_M_read_21 (by decide) (fun c9 => absurd c9 (by decide)) (fun _ => ?_)
    refine lv_iconst (v := 0) hx hb d_M_read_24 (by decide) ?_
    exact xc_iret hx hb hr hlocks hP hK hD hS ⟨rfl, rfl⟩ d_M_read_25
  · skip
    refine lv_aload_n hx hb d_M_read_0 rfl (lv_at hl 0 rfl) ?_
    refine lv_iload_n hx hb d_M_read_1 rfl (lv_at hl 1 rfl) ?_
    refine lv_if_lt (tgt := 12) hx hb d_M_read_2 (by decide) (fun c9 => absurd c9 h1) (fun _ => ?_)
    refine lv_iload_n hx hb d_M_read_5 rfl (lv_at hl 1 rfl) ?_
    refine lv_sipush (v := 2047) hx hb d_M_read_6 (by decide) ?_
    refine lv_icmp_le (tgt := 16) hx hb d_M_read_9 (by decide) (fun c9 => absurd (show x ≤ nI 2047 from c9) (xbad_le (by decide) h2)) (fun _ => ?_)
    refine lv_iconst (v := 1) hx hb d_M_read_12 (by decide) ?_
    refine lv_goto (tgt := 17) hx hb d_M_read_13 (by decide) ?_
    refine lv_iconst (v := 1) hx hb d_M_read_17 (by decide) ?_
    refine xc_calli (n := 2) (C := "TagMemoryModel") hx hb hml hown hts (c_M_bad l D G kc _ _ _ _ (Or.inr rfl)) (tb_V wm_390 wm_392 ws_17 wm_2 wm_393) rfl rfl rfl (by decide +kernel) ⟨Nat.le_of_ble_eq_true rfl, Nat.le_of_ble_eq_true rfl⟩ hK hP hD hS hA rfl rfl rfl rfl hl.1 rfl (Nat.le_of_ble_eq_true rfl) d_M_read_18 ⟨Nat.zero_le _, Nat.zero_le _⟩ (fun r u1 H locs hw hP hD hS => ?_)
    obtain ⟨e1, e2⟩ := hw
    subst e1
    rw [e2] at hP hD; clear e2 u1
    have hP : va_P D vwCl (wM G kc (nTh u 1)) H := hP
    have hD : va_D A (wM G kc (nTh u 1)) := hD
    refine lv_if_eq (tgt := 26) hx hb d_M_read_21 (by decide) (fun c9 => absurd c9 (by decide)) (fun _ => ?_)
    refine lv_iconst (v := 0) hx hb d_M_read_24 (by decide) ?_
    exact xc_iret hx hb hr hlocks hP hK hD hS ⟨rfl, rfl⟩ d_M_read_25
set_option maxHeartbeats 4000000 in
set_option maxRecDepth 100000 in
theorem x_M_tag (l : Launch) (D : va_G) (G : Nat → Nat) (kc : Nat → ClassId) (sz : Nat) (u : TM) (x : Int32) (hbad : xbad 2048 x) : XMi l y_M_tag k_M_tag { frames := 1, cells := 0, slots := 0, locals := 22 } D vwCl (wM G kc) (tyMs kc) u sz [.ref (G 0), .int x] (fun r u1 => r = 0 ∧ u1 = nTh u 1) := by
  refine xb_ofi (cc := b_M_tag) (maxL := 2) (ret := some .boolean) (by decide) rfl (Nat.le_of_ble_eq_true rfl) ?_
  intro p e s m below meth c A ls hsz hx hb hml hr hlocks hts hown hP hK hD hA hl
  have hl : lv_has ls 2 [(0, .ref (G 0)), (1, .int x)] := hl
  have hS : va_S A s.heap s.heap [] := va_S.rf
  rcases hbad with h1 | ⟨h1, h2⟩
  · skip
    refine lv_aload_n hx hb d_M_tag_0 rfl (lv_at hl 0 rfl) ?_
    refine lv_iload_n hx hb d_M_tag_1 rfl (lv_at hl 1 rfl) ?_
    refine lv_if_lt (tgt := 12) hx hb d_M_tag_2 (by decide) (fun _ => ?_) (fun c9 => absurd h1 c9)
    refine lv_iconst (v := 1) hx hb d_M_tag_12 (by decide) ?_
    refine lv_goto (tgt := 17) hx hb d_M_tag_13 (by decide) ?_
    refine lv_iconst (v := 1) hx hb d_M_tag_17 (by decide) ?_
    refine xc_calli (n := 2) (C := "TagMemoryModel") hx hb hml hown hts (c_M_bad l D G kc _ _ _ _ (Or.inr rfl)) (tb_V wm_390 wm_392 ws_17 wm_2 wm_393) rfl rfl rfl (by decide +kernel) ⟨Nat.le_of_ble_eq_true rfl, Nat.le_of_ble_eq_true rfl⟩ hK hP hD hS hA rfl rfl rfl rfl hl.1 rfl (Nat.le_of_ble_eq_true rfl) d_M_tag_18 ⟨Nat.zero_le _, Nat.zero_le _⟩ (fun r u1 H locs hw hP hD hS => ?_)
    obtain ⟨e1, e2⟩ := hw
    subst e1
    rw [e2] at hP hD; clear e2 u1
    have hP : va_P D vwCl (wM G kc (nTh u 1)) H := hP
    have hD : va_D A (wM G kc (nTh u 1)) := hD
    refine lv_if_eq (tgt := 26) hx hb d_M_tag_21 (by decide) (fun c9 => absurd c9 (by decide)) (fun _ => ?_)
    refine lv_iconst (v := 0) hx hb d_M_tag_24 (by decide) ?_
    exact xc_zret hx hb hr hlocks (Or.inl rfl) hP hK hD hS ⟨rfl, rfl⟩ d_M_tag_25
  · skip
    refine lv_aload_n hx hb d_M_tag_0 rfl (lv_at hl 0 rfl) ?_
    refine lv_iload_n hx hb d_M_tag_1 rfl (lv_at hl 1 rfl) ?_
    refine lv_if_lt (tgt := 12) hx hb d_M_tag_2 (by decide) (fun c9 => absurd c9 h1) (fun _ => ?_)
    refine lv_iload_n hx hb d_M_tag_5 rfl (lv_at hl 1 rfl) ?_
    refine lv_sipush (v := 2047) hx hb d_M_tag_6 (by decide) ?_
    refine lv_icmp_le (tgt := 16) hx hb d_M_tag_9 (by decide) (fun c9 => absurd (show x ≤ nI 2047 from c9) (xbad_le (by decide) h2)) (fun _ => ?_)
    refine lv_iconst (v := 1) hx hb d_M_tag_12 (by decide) ?_
    refine lv_goto (tgt := 17) hx hb d_M_tag_13 (by decide) ?_
    refine lv_iconst (v := 1) hx hb d_M_tag_17 (by decide) ?_
    refine xc_calli (n := 2) (C := "TagMemoryModel") hx hb hml hown hts (c_M_bad l D G kc _ _ _ _ (Or.inr rfl)) (tb_V wm_390 wm_392 ws_17 wm_2 wm_393) rfl rfl rfl (by decide +kernel) ⟨Nat.le_of_ble_eq_true rfl, Nat.le_of_ble_eq_true rfl⟩ hK hP hD hS hA rfl rfl rfl rfl hl.1 rfl (Nat.le_of_ble_eq_true rfl) d_M_tag_18 ⟨Nat.zero_le _, Nat.zero_le _⟩ (fun r u1 H locs hw hP hD hS => ?_)
    obtain ⟨e1, e2⟩ := hw
    subst e1
    rw [e2] at hP hD; clear e2 u1
    have hP : va_P D vwCl (wM G kc (nTh u 1)) H := hP
    have hD : va_D A (wM G kc (nTh u 1)) := hD
    refine lv_if_eq (tgt := 26) hx hb d_M_tag_21 (by decide) (fun c9 => absurd c9 (by decide)) (fun _ => ?_)
    refine lv_iconst (v := 0) hx hb d_M_tag_24 (by decide) ?_
    exact xc_zret hx hb hr hlocks (Or.inl rfl) hP hK hD hS ⟨rfl, rfl⟩ d_M_tag_25
set_option maxHeartbeats 4000000 in
set_option maxRecDepth 100000 in
theorem x_M_write (l : Launch) (D : va_G) (G : Nat → Nat) (kc : Nat → ClassId) (sz : Nat) (u : TM) (x w : Int32) (hbad : xbad 2048 x) : XMi l y_M_write k_M_write { frames := 1, cells := 0, slots := 0, locals := 22 } D vwCl (wM G kc) (tyMs kc) u sz [.ref (G 0), .int x, .int w] (fun r u1 => r = 0 ∧ u1 = nTh u 1) := by
  refine xb_ofi (cc := b_M_write) (maxL := 4) (ret := some .int) (by decide) rfl (Nat.le_of_ble_eq_true rfl) ?_
  intro p e s m below meth c A ls hsz hx hb hml hr hlocks hts hown hP hK hD hA hl
  have hl : lv_has ls 4 [(0, .ref (G 0)), (1, .int x), (2, .int w)] := hl
  have hS : va_S A s.heap s.heap [] := va_S.rf
  rcases hbad with h1 | ⟨h1, h2⟩
  · skip
    refine lv_aload_n hx hb d_M_write_0 rfl (lv_at hl 0 rfl) ?_
    refine lv_iload_n hx hb d_M_write_1 rfl (lv_at hl 1 rfl) ?_
    refine lv_if_lt (tgt := 12) hx hb d_M_write_2 (by decide) (fun _ => ?_) (fun c9 => absurd h1 c9)
    refine lv_iconst (v := 1) hx hb d_M_write_12 (by decide) ?_
    refine lv_goto (tgt := 17) hx hb d_M_write_13 (by decide) ?_
    refine lv_iconst (v := 1) hx hb d_M_write_17 (by decide) ?_
    refine xc_calli (n := 2) (C := "TagMemoryModel") hx hb hml hown hts (c_M_bad l D G kc _ _ _ _ (Or.inr rfl)) (tb_V wm_390 wm_392 ws_17 wm_2 wm_393) rfl rfl rfl (by decide +kernel) ⟨Nat.le_of_ble_eq_true rfl, Nat.le_of_ble_eq_true rfl⟩ hK hP hD hS hA rfl rfl rfl rfl hl.1 rfl (Nat.le_of_ble_eq_true rfl) d_M_write_18 ⟨Nat.zero_le _, Nat.zero_le _⟩ (fun r u1 H locs hw hP hD hS => ?_)
    obtain ⟨e1, e2⟩ := hw
    subst e1
    rw [e2] at hP hD; clear e2 u1
    have hP : va_P D vwCl (wM G kc (nTh u 1)) H := hP
    have hD : va_D A (wM G kc (nTh u 1)) := hD
    refine lv_if_eq (tgt := 26) hx hb d_M_write_21 (by decide) (fun c9 => absurd c9 (by decide)) (fun _ => ?_)
    refine lv_iconst (v := 0) hx hb d_M_write_24 (by decide) ?_
    exact xc_iret hx hb hr hlocks hP hK hD hS ⟨rfl, rfl⟩ d_M_write_25
  · skip
    refine lv_aload_n hx hb d_M_write_0 rfl (lv_at hl 0 rfl) ?_
    refine lv_iload_n hx hb d_M_write_1 rfl (lv_at hl 1 rfl) ?_
    refine lv_if_lt (tgt := 12) hx hb d_M_write_2 (by decide) (fun c9 => absurd c9 h1) (fun _ => ?_)
    refine lv_iload_n hx hb d_M_write_5 rfl (lv_at hl 1 rfl) ?_
    refine lv_sipush (v := 2047) hx hb d_M_write_6 (by decide) ?_
    refine lv_icmp_le (tgt := 16) hx hb d_M_write_9 (by decide) (fun c9 => absurd (show x ≤ nI 2047 from c9) (xbad_le (by decide) h2)) (fun _ => ?_)
    refine lv_iconst (v := 1) hx hb d_M_write_12 (by decide) ?_
    refine lv_goto (tgt := 17) hx hb d_M_write_13 (by decide) ?_
    refine lv_iconst (v := 1) hx hb d_M_write_17 (by decide) ?_
    refine xc_calli (n := 2) (C := "TagMemoryModel") hx hb hml hown hts (c_M_bad l D G kc _ _ _ _ (Or.inr rfl)) (tb_V wm_390 wm_392 ws_17 wm_2 wm_393) rfl rfl rfl (by decide +kernel) ⟨Nat.le_of_ble_eq_true rfl, Nat.le_of_ble_eq_true rfl⟩ hK hP hD hS hA rfl rfl rfl rfl hl.1 rfl (Nat.le_of_ble_eq_true rfl) d_M_write_18 ⟨Nat.zero_le _, Nat.zero_le _⟩ (fun r u1 H locs hw hP hD hS => ?_)
    obtain ⟨e1, e2⟩ := hw
    subst e1
    rw [e2] at hP hD; clear e2 u1
    have hP : va_P D vwCl (wM G kc (nTh u 1)) H := hP
    have hD : va_D A (wM G kc (nTh u 1)) := hD
    refine lv_if_eq (tgt := 26) hx hb d_M_write_21 (by decide) (fun c9 => absurd c9 (by decide)) (fun _ => ?_)
    refine lv_iconst (v := 0) hx hb d_M_write_24 (by decide) ?_
    exact xc_iret hx hb hr hlocks hP hK hD hS ⟨rfl, rfl⟩ d_M_write_25
set_option maxHeartbeats 4000000 in
set_option maxRecDepth 100000 in
theorem x_M_put (l : Launch) (D : va_G) (G : Nat → Nat) (kc : Nat → ClassId) (sz : Nat) (u : TM) (x lo hi t : Int32) (hbad : xbad 1024 x) : XMv l y_M_put k_M_put { frames := 1, cells := 0, slots := 0, locals := 22 } D vwCl (wM G kc) (tyMs kc) u sz [.ref (G 0), .int x, .int lo, .int hi, .int t] (fun u1 => u1 = nTh u 1) := by
  refine xb_ofv (cc := b_M_put) (maxL := 5) (ret := none) (by decide) rfl (Nat.le_of_ble_eq_true rfl) ?_
  intro p e s m below meth c A ls hsz hx hb hml hr hlocks hts hown hP hK hD hA hl
  have hl : lv_has ls 5 [(0, .ref (G 0)), (1, .int x), (2, .int lo), (3, .int hi), (4, .int t)] := hl
  have hS : va_S A s.heap s.heap [] := va_S.rf
  rcases hbad with h1 | ⟨h1, h2⟩
  · skip
    refine lv_aload_n hx hb d_M_put_0 rfl (lv_at hl 0 rfl) ?_
    refine lv_iload_n hx hb d_M_put_1 rfl (lv_at hl 1 rfl) ?_
    refine lv_if_lt (tgt := 12) hx hb d_M_put_2 (by decide) (fun _ => ?_) (fun c9 => absurd h1 c9)
    refine lv_iconst (v := 1) hx hb d_M_put_12 (by decide) ?_
    refine lv_goto (tgt := 17) hx hb d_M_put_13 (by decide) ?_
    refine lv_iconst (v := 1) hx hb d_M_put_17 (by decide) ?_
    refine xc_calli (n := 2) (C := "TagMemoryModel") hx hb hml hown hts (c_M_bad l D G kc _ _ _ _ (Or.inr rfl)) (tb_V wm_390 wm_392 ws_17 wm_2 wm_393) rfl rfl rfl (by decide +kernel) ⟨Nat.le_of_ble_eq_true rfl, Nat.le_of_ble_eq_true rfl⟩ hK hP hD hS hA rfl rfl rfl rfl hl.1 rfl (Nat.le_of_ble_eq_true rfl) d_M_put_18 ⟨Nat.zero_le _, Nat.zero_le _⟩ (fun r u1 H locs hw hP hD hS => ?_)
    obtain ⟨e1, e2⟩ := hw
    subst e1
    rw [e2] at hP hD; clear e2 u1
    have hP : va_P D vwCl (wM G kc (nTh u 1)) H := hP
    have hD : va_D A (wM G kc (nTh u 1)) := hD
    refine lv_if_eq (tgt := 25) hx hb d_M_put_21 (by decide) (fun c9 => absurd c9 (by decide)) (fun _ => ?_)
    exact xc_vret hx hb hr hlocks hP hK hD hS rfl d_M_put_24
  · skip
    refine lv_aload_n hx hb d_M_put_0 rfl (lv_at hl 0 rfl) ?_
    refine lv_iload_n hx hb d_M_put_1 rfl (lv_at hl 1 rfl) ?_
    refine lv_if_lt (tgt := 12) hx hb d_M_put_2 (by decide) (fun c9 => absurd c9 h1) (fun _ => ?_)
    refine lv_iload_n hx hb d_M_put_5 rfl (lv_at hl 1 rfl) ?_
    refine lv_sipush (v := 1023) hx hb d_M_put_6 (by decide) ?_
    refine lv_icmp_le (tgt := 16) hx hb d_M_put_9 (by decide) (fun c9 => absurd (show x ≤ nI 1023 from c9) (xbad_le (by decide) h2)) (fun _ => ?_)
    refine lv_iconst (v := 1) hx hb d_M_put_12 (by decide) ?_
    refine lv_goto (tgt := 17) hx hb d_M_put_13 (by decide) ?_
    refine lv_iconst (v := 1) hx hb d_M_put_17 (by decide) ?_
    refine xc_calli (n := 2) (C := "TagMemoryModel") hx hb hml hown hts (c_M_bad l D G kc _ _ _ _ (Or.inr rfl)) (tb_V wm_390 wm_392 ws_17 wm_2 wm_393) rfl rfl rfl (by decide +kernel) ⟨Nat.le_of_ble_eq_true rfl, Nat.le_of_ble_eq_true rfl⟩ hK hP hD hS hA rfl rfl rfl rfl hl.1 rfl (Nat.le_of_ble_eq_true rfl) d_M_put_18 ⟨Nat.zero_le _, Nat.zero_le _⟩ (fun r u1 H locs hw hP hD hS => ?_)
    obtain ⟨e1, e2⟩ := hw
    subst e1
    rw [e2] at hP hD; clear e2 u1
    have hP : va_P D vwCl (wM G kc (nTh u 1)) H := hP
    have hD : va_D A (wM G kc (nTh u 1)) := hD
    refine lv_if_eq (tgt := 25) hx hb d_M_put_21 (by decide) (fun c9 => absurd c9 (by decide)) (fun _ => ?_)
    exact xc_vret hx hb hr hlocks hP hK hD hS rfl d_M_put_24
set_option maxHeartbeats 4000000 in
set_option maxRecDepth 100000 in
theorem x_M_drop (l : Launch) (D : va_G) (G : Nat → Nat) (kc : Nat → ClassId) (sz : Nat) (u : TM) (x : Int32) (hbad : xbad 16 x) : XMi l y_M_drop k_M_drop { frames := 1, cells := 0, slots := 0, locals := 22 } D vwCl (wM G kc) (tyMs kc) u sz [.ref (G 0), .int x] (fun r u1 => r = 0 ∧ u1 = nTh u 1) := by
  refine xb_ofi (cc := b_M_drop) (maxL := 2) (ret := some .int) (by decide) rfl (Nat.le_of_ble_eq_true rfl) ?_
  intro p e s m below meth c A ls hsz hx hb hml hr hlocks hts hown hP hK hD hA hl
  have hl : lv_has ls 2 [(0, .ref (G 0)), (1, .int x)] := hl
  have hS : va_S A s.heap s.heap [] := va_S.rf
  rcases hbad with h1 | ⟨h1, h2⟩
  · skip
    refine lv_aload_n hx hb d_M_drop_0 rfl (lv_at hl 0 rfl) ?_
    refine lv_iload_n hx hb d_M_drop_1 rfl (lv_at hl 1 rfl) ?_
    refine lv_if_lt (tgt := 11) hx hb d_M_drop_2 (by decide) (fun _ => ?_) (fun c9 => absurd h1 c9)
    refine lv_iconst (v := 1) hx hb d_M_drop_11 (by decide) ?_
    refine lv_goto (tgt := 16) hx hb d_M_drop_12 (by decide) ?_
    refine lv_iconst (v := 1) hx hb d_M_drop_16 (by decide) ?_
    refine xc_calli (n := 2) (C := "TagMemoryModel") hx hb hml hown hts (c_M_bad l D G kc _ _ _ _ (Or.inr rfl)) (tb_V wm_390 wm_392 ws_17 wm_2 wm_393) rfl rfl rfl (by decide +kernel) ⟨Nat.le_of_ble_eq_true rfl, Nat.le_of_ble_eq_true rfl⟩ hK hP hD hS hA rfl rfl rfl rfl hl.1 rfl (Nat.le_of_ble_eq_true rfl) d_M_drop_17 ⟨Nat.zero_le _, Nat.zero_le _⟩ (fun r u1 H locs hw hP hD hS => ?_)
    obtain ⟨e1, e2⟩ := hw
    subst e1
    rw [e2] at hP hD; clear e2 u1
    have hP : va_P D vwCl (wM G kc (nTh u 1)) H := hP
    have hD : va_D A (wM G kc (nTh u 1)) := hD
    refine lv_if_eq (tgt := 25) hx hb d_M_drop_20 (by decide) (fun c9 => absurd c9 (by decide)) (fun _ => ?_)
    refine lv_iconst (v := 0) hx hb d_M_drop_23 (by decide) ?_
    exact xc_iret hx hb hr hlocks hP hK hD hS ⟨rfl, rfl⟩ d_M_drop_24
  · skip
    refine lv_aload_n hx hb d_M_drop_0 rfl (lv_at hl 0 rfl) ?_
    refine lv_iload_n hx hb d_M_drop_1 rfl (lv_at hl 1 rfl) ?_
    refine lv_if_lt (tgt := 11) hx hb d_M_drop_2 (by decide) (fun c9 => absurd c9 h1) (fun _ => ?_)
    refine lv_iload_n hx hb d_M_drop_5 rfl (lv_at hl 1 rfl) ?_
    refine lv_bipush (v := 15) hx hb d_M_drop_6 (by decide) ?_
    refine lv_icmp_le (tgt := 15) hx hb d_M_drop_8 (by decide) (fun c9 => absurd (show x ≤ nI 15 from c9) (xbad_le (by decide) h2)) (fun _ => ?_)
    refine lv_iconst (v := 1) hx hb d_M_drop_11 (by decide) ?_
    refine lv_goto (tgt := 16) hx hb d_M_drop_12 (by decide) ?_
    refine lv_iconst (v := 1) hx hb d_M_drop_16 (by decide) ?_
    refine xc_calli (n := 2) (C := "TagMemoryModel") hx hb hml hown hts (c_M_bad l D G kc _ _ _ _ (Or.inr rfl)) (tb_V wm_390 wm_392 ws_17 wm_2 wm_393) rfl rfl rfl (by decide +kernel) ⟨Nat.le_of_ble_eq_true rfl, Nat.le_of_ble_eq_true rfl⟩ hK hP hD hS hA rfl rfl rfl rfl hl.1 rfl (Nat.le_of_ble_eq_true rfl) d_M_drop_17 ⟨Nat.zero_le _, Nat.zero_le _⟩ (fun r u1 H locs hw hP hD hS => ?_)
    obtain ⟨e1, e2⟩ := hw
    subst e1
    rw [e2] at hP hD; clear e2 u1
    have hP : va_P D vwCl (wM G kc (nTh u 1)) H := hP
    have hD : va_D A (wM G kc (nTh u 1)) := hD
    refine lv_if_eq (tgt := 25) hx hb d_M_drop_20 (by decide) (fun c9 => absurd c9 (by decide)) (fun _ => ?_)
    refine lv_iconst (v := 0) hx hb d_M_drop_23 (by decide) ?_
    exact xc_iret hx hb hr hlocks hP hK hD hS ⟨rfl, rfl⟩ d_M_drop_24
set_option maxHeartbeats 4000000 in
set_option maxRecDepth 100000 in
theorem x_M_store (l : Launch) (D : va_G) (G : Nat → Nat) (kc : Nat → ClassId) (sz : Nat) (u : TM) (x : Int32) (hbad : xbad 2080 x) : XMi l y_M_store k_M_store { frames := 1, cells := 0, slots := 0, locals := 22 } D vwCl (wM G kc) (tyMs kc) u sz [.ref (G 0), .int x] (fun r u1 => r = 0 ∧ u1 = nTh u 1) := by
  refine xb_ofi (cc := b_M_store) (maxL := 2) (ret := some .int) (by decide) rfl (Nat.le_of_ble_eq_true rfl) ?_
  intro p e s m below meth c A ls hsz hx hb hml hr hlocks hts hown hP hK hD hA hl
  have hl : lv_has ls 2 [(0, .ref (G 0)), (1, .int x)] := hl
  have hS : va_S A s.heap s.heap [] := va_S.rf
  rcases hbad with h1 | ⟨h1, h2⟩
  · skip
    refine lv_aload_n hx hb d_M_store_0 rfl (lv_at hl 0 rfl) ?_
    refine lv_iload_n hx hb d_M_store_1 rfl (lv_at hl 1 rfl) ?_
    refine lv_if_lt (tgt := 12) hx hb d_M_store_2 (by decide) (fun _ => ?_) (fun c9 => absurd h1 c9)
    refine lv_iconst (v := 1) hx hb d_M_store_12 (by decide) ?_
    refine lv_goto (tgt := 17) hx hb d_M_store_13 (by decide) ?_
    refine lv_iconst (v := 1) hx hb d_M_store_17 (by decide) ?_
    refine xc_calli (n := 2) (C := "TagMemoryModel") hx hb hml hown hts (c_M_bad l D G kc _ _ _ _ (Or.inr rfl)) (tb_V wm_390 wm_392 ws_17 wm_2 wm_393) rfl rfl rfl (by decide +kernel) ⟨Nat.le_of_ble_eq_true rfl, Nat.le_of_ble_eq_true rfl⟩ hK hP hD hS hA rfl rfl rfl rfl hl.1 rfl (Nat.le_of_ble_eq_true rfl) d_M_store_18 ⟨Nat.zero_le _, Nat.zero_le _⟩ (fun r u1 H locs hw hP hD hS => ?_)
    obtain ⟨e1, e2⟩ := hw
    subst e1
    rw [e2] at hP hD; clear e2 u1
    have hP : va_P D vwCl (wM G kc (nTh u 1)) H := hP
    have hD : va_D A (wM G kc (nTh u 1)) := hD
    refine lv_if_eq (tgt := 28) hx hb d_M_store_21 (by decide) (fun c9 => absurd c9 (by decide)) (fun _ => ?_)
    refine lv_iconst (v := 0) hx hb d_M_store_24 (by decide) ?_
    refine lv_goto (tgt := 34) hx hb d_M_store_25 (by decide) ?_
    exact xc_iret hx hb hr hlocks hP hK hD hS ⟨rfl, rfl⟩ d_M_store_34
  · skip
    refine lv_aload_n hx hb d_M_store_0 rfl (lv_at hl 0 rfl) ?_
    refine lv_iload_n hx hb d_M_store_1 rfl (lv_at hl 1 rfl) ?_
    refine lv_if_lt (tgt := 12) hx hb d_M_store_2 (by decide) (fun c9 => absurd c9 h1) (fun _ => ?_)
    refine lv_iload_n hx hb d_M_store_5 rfl (lv_at hl 1 rfl) ?_
    refine lv_sipush (v := 2079) hx hb d_M_store_6 (by decide) ?_
    refine lv_icmp_le (tgt := 16) hx hb d_M_store_9 (by decide) (fun c9 => absurd (show x ≤ nI 2079 from c9) (xbad_le (by decide) h2)) (fun _ => ?_)
    refine lv_iconst (v := 1) hx hb d_M_store_12 (by decide) ?_
    refine lv_goto (tgt := 17) hx hb d_M_store_13 (by decide) ?_
    refine lv_iconst (v := 1) hx hb d_M_store_17 (by decide) ?_
    refine xc_calli (n := 2) (C := "TagMemoryModel") hx hb hml hown hts (c_M_bad l D G kc _ _ _ _ (Or.inr rfl)) (tb_V wm_390 wm_392 ws_17 wm_2 wm_393) rfl rfl rfl (by decide +kernel) ⟨Nat.le_of_ble_eq_true rfl, Nat.le_of_ble_eq_true rfl⟩ hK hP hD hS hA rfl rfl rfl rfl hl.1 rfl (Nat.le_of_ble_eq_true rfl) d_M_store_18 ⟨Nat.zero_le _, Nat.zero_le _⟩ (fun r u1 H locs hw hP hD hS => ?_)
    obtain ⟨e1, e2⟩ := hw
    subst e1
    rw [e2] at hP hD; clear e2 u1
    have hP : va_P D vwCl (wM G kc (nTh u 1)) H := hP
    have hD : va_D A (wM G kc (nTh u 1)) := hD
    refine lv_if_eq (tgt := 28) hx hb d_M_store_21 (by decide) (fun c9 => absurd c9 (by decide)) (fun _ => ?_)
    refine lv_iconst (v := 0) hx hb d_M_store_24 (by decide) ?_
    refine lv_goto (tgt := 34) hx hb d_M_store_25 (by decide) ?_
    exact xc_iret hx hb hr hlocks hP hK hD hS ⟨rfl, rfl⟩ d_M_store_34
set_option maxHeartbeats 4000000 in
set_option maxRecDepth 100000 in
theorem x_M_kept (l : Launch) (D : va_G) (G : Nat → Nat) (kc : Nat → ClassId) (sz : Nat) (u : TM) (x : Int32) (hbad : xbad 20 x) : XMi l y_M_kept k_M_kept { frames := 1, cells := 0, slots := 0, locals := 22 } D vwCl (wM G kc) (tyMs kc) u sz [.ref (G 0), .int x] (fun r u1 => r = 0 ∧ u1 = nTh u 1) := by
  refine xb_ofi (cc := b_M_kept) (maxL := 2) (ret := some .int) (by decide) rfl (Nat.le_of_ble_eq_true rfl) ?_
  intro p e s m below meth c A ls hsz hx hb hml hr hlocks hts hown hP hK hD hA hl
  have hl : lv_has ls 2 [(0, .ref (G 0)), (1, .int x)] := hl
  have hS : va_S A s.heap s.heap [] := va_S.rf
  rcases hbad with h1 | ⟨h1, h2⟩
  · skip
    refine lv_aload_n hx hb d_M_kept_0 rfl (lv_at hl 0 rfl) ?_
    refine lv_iload_n hx hb d_M_kept_1 rfl (lv_at hl 1 rfl) ?_
    refine lv_if_lt (tgt := 11) hx hb d_M_kept_2 (by decide) (fun _ => ?_) (fun c9 => absurd h1 c9)
    refine lv_iconst (v := 1) hx hb d_M_kept_11 (by decide) ?_
    refine lv_goto (tgt := 16) hx hb d_M_kept_12 (by decide) ?_
    refine lv_iconst (v := 1) hx hb d_M_kept_16 (by decide) ?_
    refine xc_calli (n := 2) (C := "TagMemoryModel") hx hb hml hown hts (c_M_bad l D G kc _ _ _ _ (Or.inr rfl)) (tb_V wm_390 wm_392 ws_17 wm_2 wm_393) rfl rfl rfl (by decide +kernel) ⟨Nat.le_of_ble_eq_true rfl, Nat.le_of_ble_eq_true rfl⟩ hK hP hD hS hA rfl rfl rfl rfl hl.1 rfl (Nat.le_of_ble_eq_true rfl) d_M_kept_17 ⟨Nat.zero_le _, Nat.zero_le _⟩ (fun r u1 H locs hw hP hD hS => ?_)
    obtain ⟨e1, e2⟩ := hw
    subst e1
    rw [e2] at hP hD; clear e2 u1
    have hP : va_P D vwCl (wM G kc (nTh u 1)) H := hP
    have hD : va_D A (wM G kc (nTh u 1)) := hD
    refine lv_if_eq (tgt := 27) hx hb d_M_kept_20 (by decide) (fun c9 => absurd c9 (by decide)) (fun _ => ?_)
    refine lv_iconst (v := 0) hx hb d_M_kept_23 (by decide) ?_
    refine lv_goto (tgt := 51) hx hb d_M_kept_24 (by decide) ?_
    exact xc_iret hx hb hr hlocks hP hK hD hS ⟨rfl, rfl⟩ d_M_kept_51
  · skip
    refine lv_aload_n hx hb d_M_kept_0 rfl (lv_at hl 0 rfl) ?_
    refine lv_iload_n hx hb d_M_kept_1 rfl (lv_at hl 1 rfl) ?_
    refine lv_if_lt (tgt := 11) hx hb d_M_kept_2 (by decide) (fun c9 => absurd c9 h1) (fun _ => ?_)
    refine lv_iload_n hx hb d_M_kept_5 rfl (lv_at hl 1 rfl) ?_
    refine lv_bipush (v := 19) hx hb d_M_kept_6 (by decide) ?_
    refine lv_icmp_le (tgt := 15) hx hb d_M_kept_8 (by decide) (fun c9 => absurd (show x ≤ nI 19 from c9) (xbad_le (by decide) h2)) (fun _ => ?_)
    refine lv_iconst (v := 1) hx hb d_M_kept_11 (by decide) ?_
    refine lv_goto (tgt := 16) hx hb d_M_kept_12 (by decide) ?_
    refine lv_iconst (v := 1) hx hb d_M_kept_16 (by decide) ?_
    refine xc_calli (n := 2) (C := "TagMemoryModel") hx hb hml hown hts (c_M_bad l D G kc _ _ _ _ (Or.inr rfl)) (tb_V wm_390 wm_392 ws_17 wm_2 wm_393) rfl rfl rfl (by decide +kernel) ⟨Nat.le_of_ble_eq_true rfl, Nat.le_of_ble_eq_true rfl⟩ hK hP hD hS hA rfl rfl rfl rfl hl.1 rfl (Nat.le_of_ble_eq_true rfl) d_M_kept_17 ⟨Nat.zero_le _, Nat.zero_le _⟩ (fun r u1 H locs hw hP hD hS => ?_)
    obtain ⟨e1, e2⟩ := hw
    subst e1
    rw [e2] at hP hD; clear e2 u1
    have hP : va_P D vwCl (wM G kc (nTh u 1)) H := hP
    have hD : va_D A (wM G kc (nTh u 1)) := hD
    refine lv_if_eq (tgt := 27) hx hb d_M_kept_20 (by decide) (fun c9 => absurd c9 (by decide)) (fun _ => ?_)
    refine lv_iconst (v := 0) hx hb d_M_kept_23 (by decide) ?_
    refine lv_goto (tgt := 51) hx hb d_M_kept_24 (by decide) ?_
    exact xc_iret hx hb hr hlocks hP hK hD hS ⟨rfl, rfl⟩ d_M_kept_51
set_option maxHeartbeats 4000000 in
set_option maxRecDepth 100000 in
theorem x_M_count (l : Launch) (D : va_G) (G : Nat → Nat) (kc : Nat → ClassId) (sz : Nat) (u : TM) (x : Int32) (hbad : xbad 9 x) : XMi l y_M_count k_M_count { frames := 1, cells := 0, slots := 0, locals := 22 } D vwCl (wM G kc) (tyMs kc) u sz [.ref (G 0), .int x] (fun r u1 => r = 0 ∧ u1 = nTh u 1) := by
  refine xb_ofi (cc := b_M_count) (maxL := 4) (ret := some .int) (by decide) rfl (Nat.le_of_ble_eq_true rfl) ?_
  intro p e s m below meth c A ls hsz hx hb hml hr hlocks hts hown hP hK hD hA hl
  have hl : lv_has ls 4 [(0, .ref (G 0)), (1, .int x)] := hl
  have hS : va_S A s.heap s.heap [] := va_S.rf
  rcases hbad with h1 | ⟨h1, h2⟩
  · skip
    refine lv_aload_n hx hb d_M_count_0 rfl (lv_at hl 0 rfl) ?_
    refine lv_iload_n hx hb d_M_count_1 rfl (lv_at hl 1 rfl) ?_
    refine lv_if_lt (tgt := 11) hx hb d_M_count_2 (by decide) (fun _ => ?_) (fun c9 => absurd h1 c9)
    refine lv_iconst (v := 1) hx hb d_M_count_11 (by decide) ?_
    refine lv_goto (tgt := 16) hx hb d_M_count_12 (by decide) ?_
    refine lv_iconst (v := 1) hx hb d_M_count_16 (by decide) ?_
    refine xc_calli (n := 2) (C := "TagMemoryModel") hx hb hml hown hts (c_M_bad l D G kc _ _ _ _ (Or.inr rfl)) (tb_V wm_390 wm_392 ws_17 wm_2 wm_393) rfl rfl rfl (by decide +kernel) ⟨Nat.le_of_ble_eq_true rfl, Nat.le_of_ble_eq_true rfl⟩ hK hP hD hS hA rfl rfl rfl rfl hl.1 rfl (Nat.le_of_ble_eq_true rfl) d_M_count_17 ⟨Nat.zero_le _, Nat.zero_le _⟩ (fun r u1 H locs hw hP hD hS => ?_)
    obtain ⟨e1, e2⟩ := hw
    subst e1
    rw [e2] at hP hD; clear e2 u1
    have hP : va_P D vwCl (wM G kc (nTh u 1)) H := hP
    have hD : va_D A (wM G kc (nTh u 1)) := hD
    refine lv_if_eq (tgt := 25) hx hb d_M_count_20 (by decide) (fun c9 => absurd c9 (by decide)) (fun _ => ?_)
    refine lv_iconst (v := 0) hx hb d_M_count_23 (by decide) ?_
    exact xc_iret hx hb hr hlocks hP hK hD hS ⟨rfl, rfl⟩ d_M_count_24
  · skip
    refine lv_aload_n hx hb d_M_count_0 rfl (lv_at hl 0 rfl) ?_
    refine lv_iload_n hx hb d_M_count_1 rfl (lv_at hl 1 rfl) ?_
    refine lv_if_lt (tgt := 11) hx hb d_M_count_2 (by decide) (fun c9 => absurd c9 h1) (fun _ => ?_)
    refine lv_iload_n hx hb d_M_count_5 rfl (lv_at hl 1 rfl) ?_
    refine lv_bipush (v := 8) hx hb d_M_count_6 (by decide) ?_
    refine lv_icmp_le (tgt := 15) hx hb d_M_count_8 (by decide) (fun c9 => absurd (show x ≤ nI 8 from c9) (xbad_le (by decide) h2)) (fun _ => ?_)
    refine lv_iconst (v := 1) hx hb d_M_count_11 (by decide) ?_
    refine lv_goto (tgt := 16) hx hb d_M_count_12 (by decide) ?_
    refine lv_iconst (v := 1) hx hb d_M_count_16 (by decide) ?_
    refine xc_calli (n := 2) (C := "TagMemoryModel") hx hb hml hown hts (c_M_bad l D G kc _ _ _ _ (Or.inr rfl)) (tb_V wm_390 wm_392 ws_17 wm_2 wm_393) rfl rfl rfl (by decide +kernel) ⟨Nat.le_of_ble_eq_true rfl, Nat.le_of_ble_eq_true rfl⟩ hK hP hD hS hA rfl rfl rfl rfl hl.1 rfl (Nat.le_of_ble_eq_true rfl) d_M_count_17 ⟨Nat.zero_le _, Nat.zero_le _⟩ (fun r u1 H locs hw hP hD hS => ?_)
    obtain ⟨e1, e2⟩ := hw
    subst e1
    rw [e2] at hP hD; clear e2 u1
    have hP : va_P D vwCl (wM G kc (nTh u 1)) H := hP
    have hD : va_D A (wM G kc (nTh u 1)) := hD
    refine lv_if_eq (tgt := 25) hx hb d_M_count_20 (by decide) (fun c9 => absurd c9 (by decide)) (fun _ => ?_)
    refine lv_iconst (v := 0) hx hb d_M_count_23 (by decide) ?_
    exact xc_iret hx hb hr hlocks hP hK hD hS ⟨rfl, rfl⟩ d_M_count_24
set_option maxHeartbeats 4000000 in
set_option maxRecDepth 100000 in
theorem x_M_part (l : Launch) (D : va_G) (G : Nat → Nat) (kc : Nat → ClassId) (sz : Nat) (u : TM) (x j n v : Int32) (hbad : xbad 2048 x) : XMi l y_M_part k_M_part { frames := 1, cells := 0, slots := 0, locals := 22 } D vwCl (wM G kc) (tyMs kc) u sz [.ref (G 0), .int x, .int j, .int n, .int v] (fun r u1 => r = 0 ∧ u1 = nTh u 1) := by
  refine xb_ofi (cc := b_M_part) (maxL := 6) (ret := some .int) (by decide) rfl (Nat.le_of_ble_eq_true rfl) ?_
  intro p e s m below meth c A ls hsz hx hb hml hr hlocks hts hown hP hK hD hA hl
  have hl : lv_has ls 6 [(0, .ref (G 0)), (1, .int x), (2, .int j), (3, .int n), (4, .int v)] := hl
  have hS : va_S A s.heap s.heap [] := va_S.rf
  rcases hbad with h1 | ⟨h1, h2⟩
  · skip
    refine lv_aload_n hx hb d_M_part_0 rfl (lv_at hl 0 rfl) ?_
    refine lv_iload_n hx hb d_M_part_1 rfl (lv_at hl 1 rfl) ?_
    refine lv_if_lt (tgt := 12) hx hb d_M_part_2 (by decide) (fun _ => ?_) (fun c9 => absurd h1 c9)
    refine lv_iconst (v := 1) hx hb d_M_part_12 (by decide) ?_
    refine lv_goto (tgt := 17) hx hb d_M_part_13 (by decide) ?_
    refine lv_iconst (v := 1) hx hb d_M_part_17 (by decide) ?_
    refine xc_calli (n := 2) (C := "TagMemoryModel") hx hb hml hown hts (c_M_bad l D G kc _ _ _ _ (Or.inr rfl)) (tb_V wm_390 wm_392 ws_17 wm_2 wm_393) rfl rfl rfl (by decide +kernel) ⟨Nat.le_of_ble_eq_true rfl, Nat.le_of_ble_eq_true rfl⟩ hK hP hD hS hA rfl rfl rfl rfl hl.1 rfl (Nat.le_of_ble_eq_true rfl) d_M_part_18 ⟨Nat.zero_le _, Nat.zero_le _⟩ (fun r u1 H locs hw hP hD hS => ?_)
    obtain ⟨e1, e2⟩ := hw
    subst e1
    rw [e2] at hP hD; clear e2 u1
    have hP : va_P D vwCl (wM G kc (nTh u 1)) H := hP
    have hD : va_D A (wM G kc (nTh u 1)) := hD
    refine lv_if_ne (tgt := 62) hx hb d_M_part_21 (by decide) (fun _ => ?_) (fun c9 => absurd c9 (by decide))
    refine lv_iconst (v := 0) hx hb d_M_part_62 (by decide) ?_
    exact xc_iret hx hb hr hlocks hP hK hD hS ⟨rfl, rfl⟩ d_M_part_63
  · skip
    refine lv_aload_n hx hb d_M_part_0 rfl (lv_at hl 0 rfl) ?_
    refine lv_iload_n hx hb d_M_part_1 rfl (lv_at hl 1 rfl) ?_
    refine lv_if_lt (tgt := 12) hx hb d_M_part_2 (by decide) (fun c9 => absurd c9 h1) (fun _ => ?_)
    refine lv_iload_n hx hb d_M_part_5 rfl (lv_at hl 1 rfl) ?_
    refine lv_sipush (v := 2047) hx hb d_M_part_6 (by decide) ?_
    refine lv_icmp_le (tgt := 16) hx hb d_M_part_9 (by decide) (fun c9 => absurd (show x ≤ nI 2047 from c9) (xbad_le (by decide) h2)) (fun _ => ?_)
    refine lv_iconst (v := 1) hx hb d_M_part_12 (by decide) ?_
    refine lv_goto (tgt := 17) hx hb d_M_part_13 (by decide) ?_
    refine lv_iconst (v := 1) hx hb d_M_part_17 (by decide) ?_
    refine xc_calli (n := 2) (C := "TagMemoryModel") hx hb hml hown hts (c_M_bad l D G kc _ _ _ _ (Or.inr rfl)) (tb_V wm_390 wm_392 ws_17 wm_2 wm_393) rfl rfl rfl (by decide +kernel) ⟨Nat.le_of_ble_eq_true rfl, Nat.le_of_ble_eq_true rfl⟩ hK hP hD hS hA rfl rfl rfl rfl hl.1 rfl (Nat.le_of_ble_eq_true rfl) d_M_part_18 ⟨Nat.zero_le _, Nat.zero_le _⟩ (fun r u1 H locs hw hP hD hS => ?_)
    obtain ⟨e1, e2⟩ := hw
    subst e1
    rw [e2] at hP hD; clear e2 u1
    have hP : va_P D vwCl (wM G kc (nTh u 1)) H := hP
    have hD : va_D A (wM G kc (nTh u 1)) := hD
    refine lv_if_ne (tgt := 62) hx hb d_M_part_21 (by decide) (fun _ => ?_) (fun c9 => absurd c9 (by decide))
    refine lv_iconst (v := 0) hx hb d_M_part_62 (by decide) ?_
    exact xc_iret hx hb hr hlocks hP hK hD hS ⟨rfl, rfl⟩ d_M_part_63
