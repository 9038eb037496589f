set_option maxHeartbeats 4000000 in
set_option maxRecDepth 100000 in
theorem c_T_refuseNoWord (l : Launch) (i : Nat) (hi : i < 2048) : XMz l y_T_refuseNoWord k_T_refuseNoWord { frames := 0, cells := 0, slots := 0, locals := 0 } [.int (nI i)] := by
  refine xb_ofz (cc := b_T_refuseNoWord) (maxL := 1) (ret := none) (by decide) rfl (Nat.le_of_ble_eq_true rfl) ?_
  intro p e s m below meth c ls hx hb hml hr hlocks hts hown hl
  have hl : lv_has ls 1 [(0, .int (nI i))] := hl
  refine lv_iload_n hx hb d_T_refuseNoWord_0 rfl (lv_at hl 0 rfl) ?_
  refine lv_if_lt (tgt := 11) hx hb d_T_refuseNoWord_1 (by decide) (fun c9 => absurd c9 (nI_pos (by omega))) (fun _ => ?_)
  refine lv_iload_n hx hb d_T_refuseNoWord_4 rfl (lv_at hl 0 rfl) ?_
  refine lv_sipush (v := 2048) hx hb d_T_refuseNoWord_5 (by decide) ?_
  refine lv_icmp_lt (tgt := 21) hx hb d_T_refuseNoWord_8 (by decide) (fun _ => ?_) (fun c9 => absurd (nI_lt (a := i) (b := 2048) (by omega) (by decide)) c9)
  exact xc_zsret hx hb hr hlocks d_T_refuseNoWord_21
set_option maxHeartbeats 4000000 in
set_option maxRecDepth 100000 in
theorem c_T_refuseNoGranule (l : Launch) (i : Nat) (hi : i < 1024) : XMz l y_T_refuseNoGranule k_T_refuseNoGranule { frames := 0, cells := 0, slots := 0, locals := 0 } [.int (nI i)] := by
  refine xb_ofz (cc := b_T_refuseNoGranule) (maxL := 1) (ret := none) (by decide) rfl (Nat.le_of_ble_eq_true rfl) ?_
  intro p e s m below meth c ls hx hb hml hr hlocks hts hown hl
  have hl : lv_has ls 1 [(0, .int (nI i))] := hl
  refine lv_iload_n hx hb d_T_refuseNoGranule_0 rfl (lv_at hl 0 rfl) ?_
  refine lv_if_lt (tgt := 11) hx hb d_T_refuseNoGranule_1 (by decide) (fun c9 => absurd c9 (nI_pos (by omega))) (fun _ => ?_)
  refine lv_iload_n hx hb d_T_refuseNoGranule_4 rfl (lv_at hl 0 rfl) ?_
  refine lv_sipush (v := 1024) hx hb d_T_refuseNoGranule_5 (by decide) ?_
  refine lv_icmp_lt (tgt := 21) hx hb d_T_refuseNoGranule_8 (by decide) (fun _ => ?_) (fun c9 => absurd (nI_lt (a := i) (b := 1024) (by omega) (by decide)) c9)
  exact xc_zsret hx hb hr hlocks d_T_refuseNoGranule_21
set_option maxHeartbeats 4000000 in
set_option maxRecDepth 100000 in
theorem c_T_refuseNoPart (l : Launch) (i n : Nat) (hi : i < 4) (hn : n = 1 ∨ n = 2) (hd : i % n = 0) : XMz l y_T_refuseNoPart k_T_refuseNoPart { frames := 0, cells := 0, slots := 0, locals := 0 } [.int (nI i), .int (nI n)] := by
  rcases hn with rfl | rfl
  · skip
    refine xb_ofz (cc := b_T_refuseNoPart) (maxL := 2) (ret := none) (by decide) rfl (Nat.le_of_ble_eq_true rfl) ?_
    intro p e s m below meth c ls hx hb hml hr hlocks hts hown hl
    have hl : lv_has ls 2 [(0, .int (nI i)), (1, .int (nI 1))] := hl
    refine lv_iload_n hx hb d_T_refuseNoPart_0 rfl (lv_at hl 1 rfl) ?_
    refine lv_iconst (v := 1) hx hb d_T_refuseNoPart_1 (by decide) ?_
    refine lv_icmp_eq (tgt := 20) hx hb d_T_refuseNoPart_2 (by decide) (fun _ => ?_) (fun c9 => absurd rfl c9)
    refine lv_iload_n hx hb d_T_refuseNoPart_20 rfl (lv_at hl 0 rfl) ?_
    refine lv_if_lt (tgt := 35) hx hb d_T_refuseNoPart_21 (by decide) (fun c9 => absurd c9 (nI_pos (by omega))) (fun _ => ?_)
    refine lv_iload_n hx hb d_T_refuseNoPart_24 rfl (lv_at hl 0 rfl) ?_
    refine lv_iconst (v := 3) hx hb d_T_refuseNoPart_25 (by decide) ?_
    refine lv_icmp_gt (tgt := 35) hx hb d_T_refuseNoPart_26 (by decide) (fun c9 => absurd c9 (nI_nlt (a := 3) (b := i) (by omega) (by decide))) (fun _ => ?_)
    refine lv_iload_n hx hb d_T_refuseNoPart_29 rfl (lv_at hl 0 rfl) ?_
    refine lv_iload_n hx hb d_T_refuseNoPart_30 rfl (lv_at hl 1 rfl) ?_
    refine xa_irem hx hb i 1 rfl rfl (by omega) (by decide) (by decide) d_T_refuseNoPart_31 ?_
    refine lv_if_eq (tgt := 45) hx hb d_T_refuseNoPart_32 (by decide) (fun _ => ?_) (fun c9 => absurd (by rw [hd]; rfl) c9)
    exact xc_zsret hx hb hr hlocks d_T_refuseNoPart_45
  · skip
    refine xb_ofz (cc := b_T_refuseNoPart) (maxL := 2) (ret := none) (by decide) rfl (Nat.le_of_ble_eq_true rfl) ?_
    intro p e s m below meth c ls hx hb hml hr hlocks hts hown hl
    have hl : lv_has ls 2 [(0, .int (nI i)), (1, .int (nI 2))] := hl
    refine lv_iload_n hx hb d_T_refuseNoPart_0 rfl (lv_at hl 1 rfl) ?_
    refine lv_iconst (v := 1) hx hb d_T_refuseNoPart_1 (by decide) ?_
    refine lv_icmp_eq (tgt := 20) hx hb d_T_refuseNoPart_2 (by decide) (fun c9 => absurd c9 (by decide)) (fun _ => ?_)
    refine lv_iload_n hx hb d_T_refuseNoPart_5 rfl (lv_at hl 1 rfl) ?_
    refine lv_iconst (v := 2) hx hb d_T_refuseNoPart_6 (by decide) ?_
    refine lv_icmp_eq (tgt := 20) hx hb d_T_refuseNoPart_7 (by decide) (fun _ => ?_) (fun c9 => absurd rfl c9)
    refine lv_iload_n hx hb d_T_refuseNoPart_20 rfl (lv_at hl 0 rfl) ?_
    refine lv_if_lt (tgt := 35) hx hb d_T_refuseNoPart_21 (by decide) (fun c9 => absurd c9 (nI_pos (by omega))) (fun _ => ?_)
    refine lv_iload_n hx hb d_T_refuseNoPart_24 rfl (lv_at hl 0 rfl) ?_
    refine lv_iconst (v := 3) hx hb d_T_refuseNoPart_25 (by decide) ?_
    refine lv_icmp_gt (tgt := 35) hx hb d_T_refuseNoPart_26 (by decide) (fun c9 => absurd c9 (nI_nlt (a := 3) (b := i) (by omega) (by decide))) (fun _ => ?_)
    refine lv_iload_n hx hb d_T_refuseNoPart_29 rfl (lv_at hl 0 rfl) ?_
    refine lv_iload_n hx hb d_T_refuseNoPart_30 rfl (lv_at hl 1 rfl) ?_
    refine xa_irem hx hb i 2 rfl rfl (by omega) (by decide) (by decide) d_T_refuseNoPart_31 ?_
    refine lv_if_eq (tgt := 45) hx hb d_T_refuseNoPart_32 (by decide) (fun _ => ?_) (fun c9 => absurd (by rw [hd]; rfl) c9)
    exact xc_zsret hx hb hr hlocks d_T_refuseNoPart_45
set_option maxHeartbeats 4000000 in
set_option maxRecDepth 100000 in
theorem c_T_read (l : Launch) (D : va_G) (G : Nat → Nat) (kc : Nat → ClassId) (sz : Nat) (u : TC) (i : Nat) (hi : i < 2048) (hI : tI u) : XMi l y_T_read k_T_read { frames := 5, cells := 0, slots := 0, locals := 111 } D vwCl (wT G kc) (tyTs kc) u sz [.ref (G 0), .int (nI i)] (fun r u1 => r = tLw (fWant u (i / 4)) (i % 64) ∧ u1 = fWant u (i / 4)) := by
  refine xb_ofi (cc := b_T_read) (maxL := 2) (ret := some .int) (by decide) rfl (Nat.le_of_ble_eq_true rfl) ?_
  intro p e s m below meth c A ls hsz hx hb hml hr hlocks hts hown hP hK hD hA hl
  have hl : lv_has ls 2 [(0, .ref (G 0)), (1, .int (nI i))] := hl
  have hS : va_S A s.heap s.heap [] := va_S.rf
  refine lv_iload_n hx hb d_T_read_0 rfl (lv_at hl 1 rfl) ?_
  refine xc_callz (n := 1) (C := "TagMemory") hx hb hml hown hts (c_T_refuseNoWord l i (by omega)) (tb_S wm_127 wm_128 wm_1 wm_129) rfl rfl rfl (by decide +kernel) ⟨Nat.le_of_ble_eq_true rfl, Nat.le_of_ble_eq_true rfl⟩ rfl hl.1 rfl (Nat.le_of_ble_eq_true rfl) d_T_read_1 ⟨Nat.zero_le _, Nat.zero_le _⟩ ?_
  refine lv_aload_n hx hb d_T_read_4 rfl (lv_at hl 0 rfl) ?_
  refine lv_iload_n hx hb d_T_read_5 rfl (lv_at hl 1 rfl) ?_
  refine xc_calls (n := 1) (C := "TagMemory") hx hb hml hown hts (c_T_lineOfWord l i (by omega)) (tb_S wm_197 wm_198 wm_1 wm_199) rfl rfl rfl (by decide +kernel) ⟨Nat.le_of_ble_eq_true rfl, Nat.le_of_ble_eq_true rfl⟩ rfl hl.1 rfl (Nat.le_of_ble_eq_true rfl) d_T_read_6 ⟨Nat.zero_le _, Nat.zero_le _⟩ (fun r hw => ?_)
  subst hw
  refine xc_callv (n := 1) (C := "TagMemory") hx hb hml hown hts (c_T_wantLine l D G kc _ _ (i / 4) (by omega) (by exact hI)) (tb_V wm_200 wm_202 ws_10 wm_1 wm_203) rfl rfl rfl (by decide +kernel) ⟨Nat.le_of_ble_eq_true rfl, Nat.le_of_ble_eq_true rfl⟩ hK hP hD hS hA rfl rfl rfl rfl hl.1 rfl (Nat.le_of_ble_eq_true rfl) d_T_read_9 ⟨Nat.zero_le _, Nat.zero_le _⟩ (fun u1 H locs hw hP hD hS => ?_)
  rw [hw] at hP hD; clear hw u1
  refine lv_aload_n hx hb d_T_read_12 rfl (lv_at hl 0 rfl) ?_
  refine xt_g2 hx hb hts hown hK hP d_T_read_13 ?_
  refine lv_iload_n hx hb d_T_read_16 rfl (lv_at hl 1 rfl) ?_
  refine xc_calls (n := 1) (C := "TagMemory") hx hb hml hown hts (c_T_slotOfWord l i (by omega)) (tb_S wm_208 wm_209 wm_1 wm_210) rfl rfl rfl (by decide +kernel) ⟨Nat.le_of_ble_eq_true rfl, Nat.le_of_ble_eq_true rfl⟩ rfl hl.1 rfl (Nat.le_of_ble_eq_true rfl) d_T_read_17 ⟨Nat.zero_le _, Nat.zero_le _⟩ (fun r hw => ?_)
  subst hw
  refine xt_l2 hx hb hK hP (i % 64) rfl (by omega) d_T_read_20 ?_
  exact xc_iret hx hb hr hlocks hP hK hD hS ⟨rfl, rfl⟩ d_T_read_21
set_option maxHeartbeats 4000000 in
set_option maxRecDepth 100000 in
theorem c_T_tag (l : Launch) (D : va_G) (G : Nat → Nat) (kc : Nat → ClassId) (sz : Nat) (u : TC) (i : Nat) (hi : i < 2048) (hI : tI u) : XMi l y_T_tag k_T_tag { frames := 5, cells := 0, slots := 0, locals := 111 } D vwCl (wT G kc) (tyTs kc) u sz [.ref (G 0), .int (nI i)] (fun r u1 => r = rTag (fWant u (i / 2 / 2)) (i / 2) ∧ u1 = fWant u (i / 2 / 2)) := by
  refine xb_ofi (cc := b_T_tag) (maxL := 3) (ret := some .boolean) (by decide) rfl (Nat.le_of_ble_eq_true rfl) ?_
  intro p e s m below meth c A ls hsz hx hb hml hr hlocks hts hown hP hK hD hA hl
  have hl : lv_has ls 3 [(0, .ref (G 0)), (1, .int (nI i))] := hl
  have hS : va_S A s.heap s.heap [] := va_S.rf
  refine lv_iload_n hx hb d_T_tag_0 rfl (lv_at hl 1 rfl) ?_
  refine xc_callz (n := 1) (C := "TagMemory") hx hb hml hown hts (c_T_refuseNoWord l i (by omega)) (tb_S wm_127 wm_128 wm_1 wm_129) rfl rfl rfl (by decide +kernel) ⟨Nat.le_of_ble_eq_true rfl, Nat.le_of_ble_eq_true rfl⟩ rfl hl.1 rfl (Nat.le_of_ble_eq_true rfl) d_T_tag_1 ⟨Nat.zero_le _, Nat.zero_le _⟩ ?_
  refine lv_iload_n hx hb d_T_tag_4 rfl (lv_at hl 1 rfl) ?_
  refine xc_calls (n := 1) (C := "TagMemory") hx hb hml hown hts (c_T_granuleOfWord l i (by omega)) (tb_S wm_218 wm_219 wm_1 wm_220) rfl rfl rfl (by decide +kernel) ⟨Nat.le_of_ble_eq_true rfl, Nat.le_of_ble_eq_true rfl⟩ rfl hl.1 rfl (Nat.le_of_ble_eq_true rfl) d_T_tag_5 ⟨Nat.zero_le _, Nat.zero_le _⟩ (fun r hw => ?_)
  subst hw
  refine lv_istore_n (lv' := [(2, .int (nI (i / 2))), (0, .ref _), (1, .int (nI i))]) hx hb d_T_tag_8 rfl hl (by decide) rfl (fun ls hl => ?_)
  refine lv_aload_n hx hb d_T_tag_9 rfl (lv_at hl 1 rfl) ?_
  refine lv_iload_n hx hb d_T_tag_10 rfl (lv_at hl 0 rfl) ?_
  refine xc_calls (n := 1) (C := "TagMemory") hx hb hml hown hts (c_T_lineOfGranule l (i / 2) (by omega)) (tb_S wm_221 wm_222 wm_1 wm_223) rfl rfl rfl (by decide +kernel) ⟨Nat.le_of_ble_eq_true rfl, Nat.le_of_ble_eq_true rfl⟩ rfl hl.1 rfl (Nat.le_of_ble_eq_true rfl) d_T_tag_11 ⟨Nat.zero_le _, Nat.zero_le _⟩ (fun r hw => ?_)
  subst hw
  refine xc_callv (n := 1) (C := "TagMemory") hx hb hml hown hts (c_T_wantLine l D G kc _ _ ((i / 2) / 2) (by omega) (by exact hI)) (tb_V wm_200 wm_202 ws_10 wm_1 wm_203) rfl rfl rfl (by decide +kernel) ⟨Nat.le_of_ble_eq_true rfl, Nat.le_of_ble_eq_true rfl⟩ hK hP hD hS hA rfl rfl rfl rfl hl.1 rfl (Nat.le_of_ble_eq_true rfl) d_T_tag_14 ⟨Nat.zero_le _, Nat.zero_le _⟩ (fun u1 H locs hw hP hD hS => ?_)
  rw [hw] at hP hD; clear hw u1
  refine lv_aload_n hx hb d_T_tag_17 rfl (lv_at hl 1 rfl) ?_
  refine lv_iload_n hx hb d_T_tag_18 rfl (lv_at hl 0 rfl) ?_
  refine xc_calli (n := 1) (C := "TagMemory") hx hb hml hown hts (c_T_keptTag l D G kc _ _ (i / 2) (by omega)) (tb_V wm_224 wm_226 ws_12 wm_1 wm_227) rfl rfl rfl (by decide +kernel) ⟨Nat.le_of_ble_eq_true rfl, Nat.le_of_ble_eq_true rfl⟩ hK hP hD hS hA rfl rfl rfl rfl hl.1 rfl (Nat.le_of_ble_eq_true rfl) d_T_tag_19 ⟨Nat.zero_le _, Nat.zero_le _⟩ (fun r u1 H locs hw hP hD hS => ?_)
  obtain ⟨e1, e2⟩ := hw
  subst e1
  rw [e2] at hP hD; clear e2 u1
  exact xc_zret hx hb hr hlocks (rTag_01 _ _) hP hK hD hS ⟨rfl, rfl⟩ d_T_tag_22
set_option maxHeartbeats 4000000 in
set_option maxRecDepth 100000 in
theorem c_T_write (l : Launch) (D : va_G) (G : Nat → Nat) (kc : Nat → ClassId) (sz : Nat) (u : TC) (i : Nat) (hi : i < 2048) (w : Int32) (hI : tI u) : XMi l y_T_write k_T_write { frames := 5, cells := 0, slots := 0, locals := 111 } D vwCl (wT G kc) (tyTs kc) u sz [.ref (G 0), .int (nI i), .int w] (fun r u1 => r = tLw (fWant u (i / 4)) (i % 64) ∧ u1 = fChWord (fWant u (i / 4)) i w) := by
  refine xb_ofi (cc := b_T_write) (maxL := 4) (ret := some .int) (by decide) rfl (Nat.le_of_ble_eq_true rfl) ?_
  intro p e s m below meth c A ls hsz hx hb hml hr hlocks hts hown hP hK hD hA hl
  have hl : lv_has ls 4 [(0, .ref (G 0)), (1, .int (nI i)), (2, .int w)] := hl
  have hS : va_S A s.heap s.heap [] := va_S.rf
  refine lv_iload_n hx hb d_T_write_0 rfl (lv_at hl 1 rfl) ?_
  refine xc_callz (n := 1) (C := "TagMemory") hx hb hml hown hts (c_T_refuseNoWord l i (by omega)) (tb_S wm_127 wm_128 wm_1 wm_129) rfl rfl rfl (by decide +kernel) ⟨Nat.le_of_ble_eq_true rfl, Nat.le_of_ble_eq_true rfl⟩ rfl hl.1 rfl (Nat.le_of_ble_eq_true rfl) d_T_write_1 ⟨Nat.zero_le _, Nat.zero_le _⟩ ?_
  refine lv_aload_n hx hb d_T_write_4 rfl (lv_at hl 0 rfl) ?_
  refine lv_iload_n hx hb d_T_write_5 rfl (lv_at hl 1 rfl) ?_
  refine xc_calls (n := 1) (C := "TagMemory") hx hb hml hown hts (c_T_lineOfWord l i (by omega)) (tb_S wm_197 wm_198 wm_1 wm_199) rfl rfl rfl (by decide +kernel) ⟨Nat.le_of_ble_eq_true rfl, Nat.le_of_ble_eq_true rfl⟩ rfl hl.1 rfl (Nat.le_of_ble_eq_true rfl) d_T_write_6 ⟨Nat.zero_le _, Nat.zero_le _⟩ (fun r hw => ?_)
  subst hw
  refine xc_callv (n := 1) (C := "TagMemory") hx hb hml hown hts (c_T_wantLine l D G kc _ _ (i / 4) (by omega) (by exact hI)) (tb_V wm_200 wm_202 ws_10 wm_1 wm_203) rfl rfl rfl (by decide +kernel) ⟨Nat.le_of_ble_eq_true rfl, Nat.le_of_ble_eq_true rfl⟩ hK hP hD hS hA rfl rfl rfl rfl hl.1 rfl (Nat.le_of_ble_eq_true rfl) d_T_write_9 ⟨Nat.zero_le _, Nat.zero_le _⟩ (fun u1 H locs hw hP hD hS => ?_)
  rw [hw] at hP hD; clear hw u1
  refine lv_aload_n hx hb d_T_write_12 rfl (lv_at hl 0 rfl) ?_
  refine xt_g2 hx hb hts hown hK hP d_T_write_13 ?_
  refine lv_iload_n hx hb d_T_write_16 rfl (lv_at hl 1 rfl) ?_
  refine xc_calls (n := 1) (C := "TagMemory") hx hb hml hown hts (c_T_slotOfWord l i (by omega)) (tb_S wm_208 wm_209 wm_1 wm_210) rfl rfl rfl (by decide +kernel) ⟨Nat.le_of_ble_eq_true rfl, Nat.le_of_ble_eq_true rfl⟩ rfl hl.1 rfl (Nat.le_of_ble_eq_true rfl) d_T_write_17 ⟨Nat.zero_le _, Nat.zero_le _⟩ (fun r hw => ?_)
  subst hw
  refine xt_l2 hx hb hK hP (i % 64) rfl (by omega) d_T_write_20 ?_
  refine lv_istore_n (lv' := [(3, .int _), (0, .ref _), (1, .int (nI i)), (2, .int _)]) hx hb d_T_write_21 rfl hl (by decide) rfl (fun ls hl => ?_)
  refine lv_aload_n hx hb d_T_write_22 rfl (lv_at hl 1 rfl) ?_
  refine lv_iload_n hx hb d_T_write_23 rfl (lv_at hl 2 rfl) ?_
  refine lv_iload_n hx hb d_T_write_24 rfl (lv_at hl 3 rfl) ?_
  refine xc_callv (n := 2) (C := "TagMemory") hx hb hml hown hts (c_T_changeWord l D G kc _ _ i (by omega) _) (tb_V wm_238 wm_240 ws_13 wm_1 wm_241) rfl rfl rfl (by decide +kernel) ⟨Nat.le_of_ble_eq_true rfl, Nat.le_of_ble_eq_true rfl⟩ hK hP hD hS hA rfl rfl rfl rfl hl.1 rfl (Nat.le_of_ble_eq_true rfl) d_T_write_25 ⟨Nat.zero_le _, Nat.zero_le _⟩ (fun u1 H locs hw hP hD hS => ?_)
  rw [hw] at hP hD; clear hw u1
  refine lv_iload_n hx hb d_T_write_28 rfl (lv_at hl 0 rfl) ?_
  exact xc_iret hx hb hr hlocks hP hK hD hS ⟨rfl, rfl⟩ d_T_write_29
set_option maxHeartbeats 4000000 in
set_option maxRecDepth 100000 in
theorem c_T_part (l : Launch) (D : va_G) (G : Nat → Nat) (kc : Nat → ClassId) (sz : Nat) (u : TC) (i j n : Nat) (hi : i < 2048) (hj : j < 4) (hn : n = 1 ∨ n = 2) (hd : j % n = 0) (v : Int32) (hI : tI u) : XMi l y_T_part k_T_part { frames := 5, cells := 0, slots := 0, locals := 111 } D vwCl (wT G kc) (tyTs kc) u sz [.ref (G 0), .int (nI i), .int (nI j), .int (nI n), .int v] (fun r u1 => r = fPart (tLw (fWant u (i / 4)) (i % 64)) j n v ∧ u1 = fChWord (fWant u (i / 4)) i (fPart (tLw (fWant u (i / 4)) (i % 64)) j n v)) := by
  refine xb_ofi (cc := b_T_part) (maxL := 9) (ret := some .int) (by decide) rfl (Nat.le_of_ble_eq_true rfl) ?_
  intro p e s m below meth c A ls hsz hx hb hml hr hlocks hts hown hP hK hD hA hl
  have hl : lv_has ls 9 [(0, .ref (G 0)), (1, .int (nI i)), (2, .int (nI j)), (3, .int (nI n)), (4, .int v)] := hl
  have hS : va_S A s.heap s.heap [] := va_S.rf
  by_cases h1 : n = 1
  · have hm : fMask n = 255 := by unfold fMask; rw [if_pos h1]
    refine lv_iload_n hx hb d_T_part_0 rfl (lv_at hl 1 rfl) ?_
    refine xc_callz (n := 1) (C := "TagMemory") hx hb hml hown hts (c_T_refuseNoWord l i (by omega)) (tb_S wm_127 wm_128 wm_1 wm_129) rfl rfl rfl (by decide +kernel) ⟨Nat.le_of_ble_eq_true rfl, Nat.le_of_ble_eq_true rfl⟩ rfl hl.1 rfl (Nat.le_of_ble_eq_true rfl) d_T_part_1 ⟨Nat.zero_le _, Nat.zero_le _⟩ ?_
    refine lv_iload_n hx hb d_T_part_4 rfl (lv_at hl 2 rfl) ?_
    refine lv_iload_n hx hb d_T_part_5 rfl (lv_at hl 3 rfl) ?_
    refine xc_callz (n := 2) (C := "TagMemory") hx hb hml hown hts (c_T_refuseNoPart l j n (by omega) hn hd) (tb_S wm_254 wm_255 wm_1 wm_256) rfl rfl rfl (by decide +kernel) ⟨Nat.le_of_ble_eq_true rfl, Nat.le_of_ble_eq_true rfl⟩ rfl hl.1 rfl (Nat.le_of_ble_eq_true rfl) d_T_part_6 ⟨Nat.zero_le _, Nat.zero_le _⟩ ?_
    refine lv_aload_n hx hb d_T_part_9 rfl (lv_at hl 0 rfl) ?_
    refine lv_iload_n hx hb d_T_part_10 rfl (lv_at hl 1 rfl) ?_
    refine xc_calls (n := 1) (C := "TagMemory") hx hb hml hown hts (c_T_lineOfWord l i (by omega)) (tb_S wm_197 wm_198 wm_1 wm_199) rfl rfl rfl (by decide +kernel) ⟨Nat.le_of_ble_eq_true rfl, Nat.le_of_ble_eq_true rfl⟩ rfl hl.1 rfl (Nat.le_of_ble_eq_true rfl) d_T_part_11 ⟨Nat.zero_le _, Nat.zero_le _⟩ (fun r hw => ?_)
    subst hw
    refine xc_callv (n := 1) (C := "TagMemory") hx hb hml hown hts (c_T_wantLine l D G kc _ _ (i / 4) (by omega) (by exact hI)) (tb_V wm_200 wm_202 ws_10 wm_1 wm_203) rfl rfl rfl (by decide +kernel) ⟨Nat.le_of_ble_eq_true rfl, Nat.le_of_ble_eq_true rfl⟩ hK hP hD hS hA rfl rfl rfl rfl hl.1 rfl (Nat.le_of_ble_eq_true rfl) d_T_part_14 ⟨Nat.zero_le _, Nat.zero_le _⟩ (fun u1 H locs hw hP hD hS => ?_)
    rw [hw] at hP hD; clear hw u1
    refine lv_bipush (v := 8) hx hb d_T_part_17 (by decide) ?_
    refine lv_iload_n hx hb d_T_part_19 rfl (lv_at hl 2 rfl) ?_
    refine xa_imul hx hb 8 j rfl rfl d_T_part_20 ?_
    refine lv_istore (lv' := [(5, .int (nI (8 * j))), (0, .ref _), (1, .int (nI i)), (2, .int (nI j)), (3, .int (nI n)), (4, .int _)]) hx hb d_T_part_21 hl (by decide) rfl (fun ls hl => ?_)
    refine lv_iload_n hx hb d_T_part_23 rfl (lv_at hl 4 rfl) ?_
    refine lv_iconst (v := 1) hx hb d_T_part_24 (by decide) ?_
    refine lv_icmp_ne (tgt := 34) hx hb d_T_part_25 (by decide) (fun c9 => absurd (by rw [h1]; rfl) c9) (fun _ => ?_)
    refine lv_sipush (v := 255) hx hb d_T_part_28 (by decide) ?_
    refine lv_goto (tgt := 36) hx hb d_T_part_31 (by decide) ?_
    refine lv_istore (lv' := [(6, .int (nI 255)), (5, .int (nI (8 * j))), (0, .ref _), (1, .int (nI i)), (2, .int (nI j)), (3, .int (nI n)), (4, .int _)]) hx hb d_T_part_36 hl (by decide) rfl (fun ls hl => ?_)
    refine lv_aload_n hx hb d_T_part_38 rfl (lv_at hl 2 rfl) ?_
    refine xt_g2 hx hb hts hown hK hP d_T_part_39 ?_
    refine lv_iload_n hx hb d_T_part_42 rfl (lv_at hl 3 rfl) ?_
    refine xc_calls (n := 1) (C := "TagMemory") hx hb hml hown hts (c_T_slotOfWord l i (by omega)) (tb_S wm_208 wm_209 wm_1 wm_210) rfl rfl rfl (by decide +kernel) ⟨Nat.le_of_ble_eq_true rfl, Nat.le_of_ble_eq_true rfl⟩ rfl hl.1 rfl (Nat.le_of_ble_eq_true rfl) d_T_part_43 ⟨Nat.zero_le _, Nat.zero_le _⟩ (fun r hw => ?_)
    subst hw
    refine xt_l2 hx hb hK hP (i % 64) rfl (by omega) d_T_part_46 ?_
    refine lv_iload hx hb d_T_part_47 (lv_at hl 0 rfl) ?_
    refine lv_iload hx hb d_T_part_49 (lv_at hl 1 rfl) ?_
    refine lv_ishl hx hb d_T_part_51 ?_
    refine lv_iconst (v := (-1)) hx hb d_T_part_52 (by decide) ?_
    refine lv_ixor hx hb d_T_part_53 ?_
    refine lv_iand hx hb d_T_part_54 ?_
    refine lv_istore (lv' := [(7, .int _), (6, .int (nI 255)), (5, .int (nI (8 * j))), (0, .ref _), (1, .int (nI i)), (2, .int (nI j)), (3, .int (nI n)), (4, .int _)]) hx hb d_T_part_55 hl (by decide) rfl (fun ls hl => ?_)
    refine lv_iload hx hb d_T_part_57 (lv_at hl 0 rfl) ?_
    refine lv_iload hx hb d_T_part_59 (lv_at hl 7 rfl) ?_
    refine lv_iload hx hb d_T_part_61 (lv_at hl 1 rfl) ?_
    refine lv_iand hx hb d_T_part_63 ?_
    refine lv_iload hx hb d_T_part_64 (lv_at hl 2 rfl) ?_
    refine lv_ishl hx hb d_T_part_66 ?_
    refine lv_ior hx hb d_T_part_67 ?_
    refine lv_istore (lv' := [(8, .int _), (7, .int _), (6, .int (nI 255)), (5, .int (nI (8 * j))), (0, .ref _), (1, .int (nI i)), (2, .int (nI j)), (3, .int (nI n)), (4, .int _)]) hx hb d_T_part_68 hl (by decide) rfl (fun ls hl => ?_)
    refine lv_aload_n hx hb d_T_part_70 rfl (lv_at hl 4 rfl) ?_
    refine lv_iload_n hx hb d_T_part_71 rfl (lv_at hl 5 rfl) ?_
    refine lv_iload hx hb d_T_part_72 (lv_at hl 0 rfl) ?_
    refine xc_callv (n := 2) (C := "TagMemory") hx hb hml hown hts (c_T_changeWord l D G kc _ _ i (by omega) _) (tb_V wm_238 wm_240 ws_13 wm_1 wm_241) rfl rfl rfl (by decide +kernel) ⟨Nat.le_of_ble_eq_true rfl, Nat.le_of_ble_eq_true rfl⟩ hK hP hD hS hA rfl rfl rfl rfl hl.1 rfl (Nat.le_of_ble_eq_true rfl) d_T_part_74 ⟨Nat.zero_le _, Nat.zero_le _⟩ (fun u1 H locs hw hP hD hS => ?_)
    rw [hw] at hP hD; clear hw u1
    refine lv_iload hx hb d_T_part_77 (lv_at hl 0 rfl) ?_
    exact xc_iret hx hb hr hlocks hP hK hD hS (by unfold fPart; rw [hm]; exact ⟨rfl, rfl⟩) d_T_part_79
  · have hm : fMask n = 65535 := by unfold fMask; rw [if_neg h1]
    have h2 : n = 2 := by omega
    refine lv_iload_n hx hb d_T_part_0 rfl (lv_at hl 1 rfl) ?_
    refine xc_callz (n := 1) (C := "TagMemory") hx hb hml hown hts (c_T_refuseNoWord l i (by omega)) (tb_S wm_127 wm_128 wm_1 wm_129) rfl rfl rfl (by decide +kernel) ⟨Nat.le_of_ble_eq_true rfl, Nat.le_of_ble_eq_true rfl⟩ rfl hl.1 rfl (Nat.le_of_ble_eq_true rfl) d_T_part_1 ⟨Nat.zero_le _, Nat.zero_le _⟩ ?_
    refine lv_iload_n hx hb d_T_part_4 rfl (lv_at hl 2 rfl) ?_
    refine lv_iload_n hx hb d_T_part_5 rfl (lv_at hl 3 rfl) ?_
    refine xc_callz (n := 2) (C := "TagMemory") hx hb hml hown hts (c_T_refuseNoPart l j n (by omega) hn hd) (tb_S wm_254 wm_255 wm_1 wm_256) rfl rfl rfl (by decide +kernel) ⟨Nat.le_of_ble_eq_true rfl, Nat.le_of_ble_eq_true rfl⟩ rfl hl.1 rfl (Nat.le_of_ble_eq_true rfl) d_T_part_6 ⟨Nat.zero_le _, Nat.zero_le _⟩ ?_
    refine lv_aload_n hx hb d_T_part_9 rfl (lv_at hl 0 rfl) ?_
    refine lv_iload_n hx hb d_T_part_10 rfl (lv_at hl 1 rfl) ?_
    refine xc_calls (n := 1) (C := "TagMemory") hx hb hml hown hts (c_T_lineOfWord l i (by omega)) (tb_S wm_197 wm_198 wm_1 wm_199) rfl rfl rfl (by decide +kernel) ⟨Nat.le_of_ble_eq_true rfl, Nat.le_of_ble_eq_true rfl⟩ rfl hl.1 rfl (Nat.le_of_ble_eq_true rfl) d_T_part_11 ⟨Nat.zero_le _, Nat.zero_le _⟩ (fun r hw => ?_)
    subst hw
    refine xc_callv (n := 1) (C := "TagMemory") hx hb hml hown hts (c_T_wantLine l D G kc _ _ (i / 4) (by omega) (by exact hI)) (tb_V wm_200 wm_202 ws_10 wm_1 wm_203) rfl rfl rfl (by decide +kernel) ⟨Nat.le_of_ble_eq_true rfl, Nat.le_of_ble_eq_true rfl⟩ hK hP hD hS hA rfl rfl rfl rfl hl.1 rfl (Nat.le_of_ble_eq_true rfl) d_T_part_14 ⟨Nat.zero_le _, Nat.zero_le _⟩ (fun u1 H locs hw hP hD hS => ?_)
    rw [hw] at hP hD; clear hw u1
    refine lv_bipush (v := 8) hx hb d_T_part_17 (by decide) ?_
    refine lv_iload_n hx hb d_T_part_19 rfl (lv_at hl 2 rfl) ?_
    refine xa_imul hx hb 8 j rfl rfl d_T_part_20 ?_
    refine lv_istore (lv' := [(5, .int (nI (8 * j))), (0, .ref _), (1, .int (nI i)), (2, .int (nI j)), (3, .int (nI n)), (4, .int _)]) hx hb d_T_part_21 hl (by decide) rfl (fun ls hl => ?_)
    refine lv_iload_n hx hb d_T_part_23 rfl (lv_at hl 4 rfl) ?_
    refine lv_iconst (v := 1) hx hb d_T_part_24 (by decide) ?_
    refine lv_icmp_ne (tgt := 34) hx hb d_T_part_25 (by decide) (fun _ => ?_) (fun c9 => absurd (show nI n = nI 1 from c9) (by rw [h2]; decide))
    refine lv_ldc (v := 65535) hx hb hown (hts (Cond.constant "TagMemory" 66 (65535 : Int32)) (List.mem_cons_of_mem _ wm_274)) d_T_part_34 ?_
    refine lv_istore (lv' := [(6, .int (nI 65535)), (5, .int (nI (8 * j))), (0, .ref _), (1, .int (nI i)), (2, .int (nI j)), (3, .int (nI n)), (4, .int _)]) hx hb d_T_part_36 hl (by decide) rfl (fun ls hl => ?_)
    refine lv_aload_n hx hb d_T_part_38 rfl (lv_at hl 2 rfl) ?_
    refine xt_g2 hx hb hts hown hK hP d_T_part_39 ?_
    refine lv_iload_n hx hb d_T_part_42 rfl (lv_at hl 3 rfl) ?_
    refine xc_calls (n := 1) (C := "TagMemory") hx hb hml hown hts (c_T_slotOfWord l i (by omega)) (tb_S wm_208 wm_209 wm_1 wm_210) rfl rfl rfl (by decide +kernel) ⟨Nat.le_of_ble_eq_true rfl, Nat.le_of_ble_eq_true rfl⟩ rfl hl.1 rfl (Nat.le_of_ble_eq_true rfl) d_T_part_43 ⟨Nat.zero_le _, Nat.zero_le _⟩ (fun r hw => ?_)
    subst hw
    refine xt_l2 hx hb hK hP (i % 64) rfl (by omega) d_T_part_46 ?_
    refine lv_iload hx hb d_T_part_47 (lv_at hl 0 rfl) ?_
    refine lv_iload hx hb d_T_part_49 (lv_at hl 1 rfl) ?_
    refine lv_ishl hx hb d_T_part_51 ?_
    refine lv_iconst (v := (-1)) hx hb d_T_part_52 (by decide) ?_
    refine lv_ixor hx hb d_T_part_53 ?_
    refine lv_iand hx hb d_T_part_54 ?_
    refine lv_istore (lv' := [(7, .int _), (6, .int (nI 65535)), (5, .int (nI (8 * j))), (0, .ref _), (1, .int (nI i)), (2, .int (nI j)), (3, .int (nI n)), (4, .int _)]) hx hb d_T_part_55 hl (by decide) rfl (fun ls hl => ?_)
    refine lv_iload hx hb d_T_part_57 (lv_at hl 0 rfl) ?_
    refine lv_iload hx hb d_T_part_59 (lv_at hl 7 rfl) ?_
    refine lv_iload hx hb d_T_part_61 (lv_at hl 1 rfl) ?_
    refine lv_iand hx hb d_T_part_63 ?_
    refine lv_iload hx hb d_T_part_64 (lv_at hl 2 rfl) ?_
    refine lv_ishl hx hb d_T_part_66 ?_
    refine lv_ior hx hb d_T_part_67 ?_
    refine lv_istore (lv' := [(8, .int _), (7, .int _), (6, .int (nI 65535)), (5, .int (nI (8 * j))), (0, .ref _), (1, .int (nI i)), (2, .int (nI j)), (3, .int (nI n)), (4, .int _)]) hx hb d_T_part_68 hl (by decide) rfl (fun ls hl => ?_)
    refine lv_aload_n hx hb d_T_part_70 rfl (lv_at hl 4 rfl) ?_
    refine lv_iload_n hx hb d_T_part_71 rfl (lv_at hl 5 rfl) ?_
    refine lv_iload hx hb d_T_part_72 (lv_at hl 0 rfl) ?_
    refine xc_callv (n := 2) (C := "TagMemory") hx hb hml hown hts (c_T_changeWord l D G kc _ _ i (by omega) _) (tb_V wm_238 wm_240 ws_13 wm_1 wm_241) rfl rfl rfl (by decide +kernel) ⟨Nat.le_of_ble_eq_true rfl, Nat.le_of_ble_eq_true rfl⟩ hK hP hD hS hA rfl rfl rfl rfl hl.1 rfl (Nat.le_of_ble_eq_true rfl) d_T_part_74 ⟨Nat.zero_le _, Nat.zero_le _⟩ (fun u1 H locs hw hP hD hS => ?_)
    rw [hw] at hP hD; clear hw u1
    refine lv_iload hx hb d_T_part_77 (lv_at hl 0 rfl) ?_
    exact xc_iret hx hb hr hlocks hP hK hD hS (by unfold fPart; rw [hm]; exact ⟨rfl, rfl⟩) d_T_part_79
set_option maxHeartbeats 4000000 in
set_option maxRecDepth 100000 in
theorem c_T_put (l : Launch) (D : va_G) (G : Nat → Nat) (kc : Nat → ClassId) (sz : Nat) (u : TC) (g : Nat) (hg : g < 1024) (lo hi t : Int32) (hI : tI u) : XMv l y_T_put k_T_put { frames := 5, cells := 0, slots := 0, locals := 111 } D vwCl (wT G kc) (tyTs kc) u sz [.ref (G 0), .int (nI g), .int lo, .int hi, .int t] (fun u1 => u1 = fChGran (fWant u (g / 2)) g lo hi t) := by
  refine xb_ofv (cc := b_T_put) (maxL := 5) (ret := none) (by decide) rfl (Nat.le_of_ble_eq_true rfl) ?_
  intro p e s m below meth c A ls hsz hx hb hml hr hlocks hts hown hP hK hD hA hl
  have hl : lv_has ls 5 [(0, .ref (G 0)), (1, .int (nI g)), (2, .int lo), (3, .int hi), (4, .int t)] := hl
  have hS : va_S A s.heap s.heap [] := va_S.rf
  refine lv_iload_n hx hb d_T_put_0 rfl (lv_at hl 1 rfl) ?_
  refine xc_callz (n := 1) (C := "TagMemory") hx hb hml hown hts (c_T_refuseNoGranule l g (by omega)) (tb_S wm_282 wm_283 wm_1 wm_284) rfl rfl rfl (by decide +kernel) ⟨Nat.le_of_ble_eq_true rfl, Nat.le_of_ble_eq_true rfl⟩ rfl hl.1 rfl (Nat.le_of_ble_eq_true rfl) d_T_put_1 ⟨Nat.zero_le _, Nat.zero_le _⟩ ?_
  refine lv_aload_n hx hb d_T_put_4 rfl (lv_at hl 0 rfl) ?_
  refine lv_iload_n hx hb d_T_put_5 rfl (lv_at hl 1 rfl) ?_
  refine xc_calls (n := 1) (C := "TagMemory") hx hb hml hown hts (c_T_lineOfGranule l g (by omega)) (tb_S wm_221 wm_222 wm_1 wm_223) rfl rfl rfl (by decide +kernel) ⟨Nat.le_of_ble_eq_true rfl, Nat.le_of_ble_eq_true rfl⟩ rfl hl.1 rfl (Nat.le_of_ble_eq_true rfl) d_T_put_6 ⟨Nat.zero_le _, Nat.zero_le _⟩ (fun r hw => ?_)
  subst hw
  refine xc_callv (n := 1) (C := "TagMemory") hx hb hml hown hts (c_T_wantLine l D G kc _ _ (g / 2) (by omega) (by exact hI)) (tb_V wm_200 wm_202 ws_10 wm_1 wm_203) rfl rfl rfl (by decide +kernel) ⟨Nat.le_of_ble_eq_true rfl, Nat.le_of_ble_eq_true rfl⟩ hK hP hD hS hA rfl rfl rfl rfl hl.1 rfl (Nat.le_of_ble_eq_true rfl) d_T_put_9 ⟨Nat.zero_le _, Nat.zero_le _⟩ (fun u1 H locs hw hP hD hS => ?_)
  rw [hw] at hP hD; clear hw u1
  refine lv_aload_n hx hb d_T_put_12 rfl (lv_at hl 0 rfl) ?_
  refine lv_iload_n hx hb d_T_put_13 rfl (lv_at hl 1 rfl) ?_
  refine lv_iload_n hx hb d_T_put_14 rfl (lv_at hl 2 rfl) ?_
  refine lv_iload_n hx hb d_T_put_15 rfl (lv_at hl 3 rfl) ?_
  refine lv_iload hx hb d_T_put_16 (lv_at hl 4 rfl) ?_
  refine xc_callv (n := 4) (C := "TagMemory") hx hb hml hown hts (c_T_changeGranule l D G kc _ _ g (by omega) _ _ _) (tb_V wm_286 wm_288 ws_15 wm_1 wm_289) rfl rfl rfl (by decide +kernel) ⟨Nat.le_of_ble_eq_true rfl, Nat.le_of_ble_eq_true rfl⟩ hK hP hD hS hA rfl rfl rfl rfl hl.1 rfl (Nat.le_of_ble_eq_true rfl) d_T_put_18 ⟨Nat.zero_le _, Nat.zero_le _⟩ (fun u1 H locs hw hP hD hS => ?_)
  rw [hw] at hP hD; clear hw u1
  exact xc_vret hx hb hr hlocks hP hK hD hS rfl d_T_put_21
set_option maxHeartbeats 4000000 in
set_option maxRecDepth 100000 in
theorem c_T_copy (l : Launch) (D : va_G) (G : Nat → Nat) (kc : Nat → ClassId) (sz : Nat) (u : TC) (g f : Nat) (hg : g < 1024) (hf : f < 1024) (hI : tI u) : XMi l y_T_copy k_T_copy { frames := 5, cells := 0, slots := 0, locals := 111 } D vwCl (wT G kc) (tyTs kc) u sz [.ref (G 0), .int (nI g), .int (nI f)] (fun r u1 => r = rTag (fWant u (f / 2)) f ∧ u1 = fCopy2 (fWant u (f / 2)) g f) := by
  refine xb_ofi (cc := b_T_copy) (maxL := 6) (ret := some .boolean) (by decide) rfl (Nat.le_of_ble_eq_true rfl) ?_
  intro p e s m below meth c A ls hsz hx hb hml hr hlocks hts hown hP hK hD hA hl
  have hl : lv_has ls 6 [(0, .ref (G 0)), (1, .int (nI g)), (2, .int (nI f))] := hl
  have hS : va_S A s.heap s.heap [] := va_S.rf
  have hI1 : tI (fWant u (f / 2)) := tI_want hI (by omega)
  refine lv_iload_n hx hb d_T_copy_0 rfl (lv_at hl 2 rfl) ?_
  refine xc_callz (n := 1) (C := "TagMemory") hx hb hml hown hts (c_T_refuseNoGranule l f (by omega)) (tb_S wm_282 wm_283 wm_1 wm_284) rfl rfl rfl (by decide +kernel) ⟨Nat.le_of_ble_eq_true rfl, Nat.le_of_ble_eq_true rfl⟩ rfl hl.1 rfl (Nat.le_of_ble_eq_true rfl) d_T_copy_1 ⟨Nat.zero_le _, Nat.zero_le _⟩ ?_
  refine lv_iload_n hx hb d_T_copy_4 rfl (lv_at hl 1 rfl) ?_
  refine xc_callz (n := 1) (C := "TagMemory") hx hb hml hown hts (c_T_refuseNoGranule l g (by omega)) (tb_S wm_282 wm_283 wm_1 wm_284) rfl rfl rfl (by decide +kernel) ⟨Nat.le_of_ble_eq_true rfl, Nat.le_of_ble_eq_true rfl⟩ rfl hl.1 rfl (Nat.le_of_ble_eq_true rfl) d_T_copy_5 ⟨Nat.zero_le _, Nat.zero_le _⟩ ?_
  refine lv_aload_n hx hb d_T_copy_8 rfl (lv_at hl 0 rfl) ?_
  refine lv_iload_n hx hb d_T_copy_9 rfl (lv_at hl 2 rfl) ?_
  refine xc_calls (n := 1) (C := "TagMemory") hx hb hml hown hts (c_T_lineOfGranule l f (by omega)) (tb_S wm_221 wm_222 wm_1 wm_223) rfl rfl rfl (by decide +kernel) ⟨Nat.le_of_ble_eq_true rfl, Nat.le_of_ble_eq_true rfl⟩ rfl hl.1 rfl (Nat.le_of_ble_eq_true rfl) d_T_copy_10 ⟨Nat.zero_le _, Nat.zero_le _⟩ (fun r hw => ?_)
  subst hw
  refine xc_callv (n := 1) (C := "TagMemory") hx hb hml hown hts (c_T_wantLine l D G kc _ _ (f / 2) (by omega) (by exact hI)) (tb_V wm_200 wm_202 ws_10 wm_1 wm_203) rfl rfl rfl (by decide +kernel) ⟨Nat.le_of_ble_eq_true rfl, Nat.le_of_ble_eq_true rfl⟩ hK hP hD hS hA rfl rfl rfl rfl hl.1 rfl (Nat.le_of_ble_eq_true rfl) d_T_copy_13 ⟨Nat.zero_le _, Nat.zero_le _⟩ (fun u1 H locs hw hP hD hS => ?_)
  rw [hw] at hP hD; clear hw u1
  refine lv_aload_n hx hb d_T_copy_16 rfl (lv_at hl 0 rfl) ?_
  refine xt_g2 hx hb hts hown hK hP d_T_copy_17 ?_
  refine lv_iconst (v := 2) hx hb d_T_copy_20 (by decide) ?_
  refine lv_iload_n hx hb d_T_copy_21 rfl (lv_at hl 2 rfl) ?_
  refine xa_imul hx hb 2 f rfl rfl d_T_copy_22 ?_
  refine xc_calls (n := 1) (C := "TagMemory") hx hb hml hown hts (c_T_slotOfWord l (2 * f) (by omega)) (tb_S wm_208 wm_209 wm_1 wm_210) rfl rfl rfl (by decide +kernel) ⟨Nat.le_of_ble_eq_true rfl, Nat.le_of_ble_eq_true rfl⟩ rfl hl.1 rfl (Nat.le_of_ble_eq_true rfl) d_T_copy_23 ⟨Nat.zero_le _, Nat.zero_le _⟩ (fun r hw => ?_)
  subst hw
  refine xt_l2 hx hb hK hP ((2 * f) % 64) rfl (by omega) d_T_copy_26 ?_
  refine lv_istore_n (lv' := [(3, .int _), (0, .ref _), (1, .int (nI g)), (2, .int (nI f))]) hx hb d_T_copy_27 rfl hl (by decide) rfl (fun ls hl => ?_)
  refine lv_aload_n hx hb d_T_copy_28 rfl (lv_at hl 1 rfl) ?_
  refine xt_g2 hx hb hts hown hK hP d_T_copy_29 ?_
  refine lv_iconst (v := 2) hx hb d_T_copy_32 (by decide) ?_
  refine lv_iload_n hx hb d_T_copy_33 rfl (lv_at hl 3 rfl) ?_
  refine xa_imul hx hb 2 f rfl rfl d_T_copy_34 ?_
  refine lv_iconst (v := 1) hx hb d_T_copy_35 (by decide) ?_
  refine xa_iadd hx hb (2 * f) 1 rfl rfl d_T_copy_36 ?_
  refine xc_calls (n := 1) (C := "TagMemory") hx hb hml hown hts (c_T_slotOfWord l ((2 * f) + 1) (by omega)) (tb_S wm_208 wm_209 wm_1 wm_210) rfl rfl rfl (by decide +kernel) ⟨Nat.le_of_ble_eq_true rfl, Nat.le_of_ble_eq_true rfl⟩ rfl hl.1 rfl (Nat.le_of_ble_eq_true rfl) d_T_copy_37 ⟨Nat.zero_le _, Nat.zero_le _⟩ (fun r hw => ?_)
  subst hw
  refine xt_l2 hx hb hK hP (((2 * f) + 1) % 64) rfl (by omega) d_T_copy_40 ?_
  refine lv_istore (lv' := [(4, .int _), (3, .int _), (0, .ref _), (1, .int (nI g)), (2, .int (nI f))]) hx hb d_T_copy_41 hl (by decide) rfl (fun ls hl => ?_)
  refine lv_aload_n hx hb d_T_copy_43 rfl (lv_at hl 2 rfl) ?_
  refine lv_iload_n hx hb d_T_copy_44 rfl (lv_at hl 4 rfl) ?_
  refine xc_calli (n := 1) (C := "TagMemory") hx hb hml hown hts (c_T_keptTag l D G kc _ _ f (by omega)) (tb_V wm_224 wm_226 ws_12 wm_1 wm_227) rfl rfl rfl (by decide +kernel) ⟨Nat.le_of_ble_eq_true rfl, Nat.le_of_ble_eq_true rfl⟩ hK hP hD hS hA rfl rfl rfl rfl hl.1 rfl (Nat.le_of_ble_eq_true rfl) d_T_copy_45 ⟨Nat.zero_le _, Nat.zero_le _⟩ (fun r u1 H locs hw hP hD hS => ?_)
  obtain ⟨e1, e2⟩ := hw
  subst e1
  rw [e2] at hP hD; clear e2 u1
  refine lv_istore (lv' := [(5, .int _), (4, .int _), (3, .int _), (0, .ref _), (1, .int (nI g)), (2, .int (nI f))]) hx hb d_T_copy_48 hl (by decide) rfl (fun ls hl => ?_)
  refine lv_aload_n hx hb d_T_copy_50 rfl (lv_at hl 3 rfl) ?_
  refine lv_iload_n hx hb d_T_copy_51 rfl (lv_at hl 4 rfl) ?_
  refine xc_calls (n := 1) (C := "TagMemory") hx hb hml hown hts (c_T_lineOfGranule l g (by omega)) (tb_S wm_221 wm_222 wm_1 wm_223) rfl rfl rfl (by decide +kernel) ⟨Nat.le_of_ble_eq_true rfl, Nat.le_of_ble_eq_true rfl⟩ rfl hl.1 rfl (Nat.le_of_ble_eq_true rfl) d_T_copy_52 ⟨Nat.zero_le _, Nat.zero_le _⟩ (fun r hw => ?_)
  subst hw
  refine xc_callv (n := 1) (C := "TagMemory") hx hb hml hown hts (c_T_wantLine l D G kc _ _ (g / 2) (by omega) (by exact hI1)) (tb_V wm_200 wm_202 ws_10 wm_1 wm_203) rfl rfl rfl (by decide +kernel) ⟨Nat.le_of_ble_eq_true rfl, Nat.le_of_ble_eq_true rfl⟩ hK hP hD hS hA rfl rfl rfl rfl hl.1 rfl (Nat.le_of_ble_eq_true rfl) d_T_copy_55 ⟨Nat.zero_le _, Nat.zero_le _⟩ (fun u1 H locs hw hP hD hS => ?_)
  rw [hw] at hP hD; clear hw u1
  refine lv_aload_n hx hb d_T_copy_58 rfl (lv_at hl 3 rfl) ?_
  refine lv_iload_n hx hb d_T_copy_59 rfl (lv_at hl 4 rfl) ?_
  refine lv_iload_n hx hb d_T_copy_60 rfl (lv_at hl 2 rfl) ?_
  refine lv_iload hx hb d_T_copy_61 (lv_at hl 1 rfl) ?_
  refine lv_iload hx hb d_T_copy_63 (lv_at hl 0 rfl) ?_
  refine xc_callv (n := 4) (C := "TagMemory") hx hb hml hown hts (c_T_changeGranule l D G kc _ _ g (by omega) _ _ _) (tb_V wm_286 wm_288 ws_15 wm_1 wm_289) rfl rfl rfl (by decide +kernel) ⟨Nat.le_of_ble_eq_true rfl, Nat.le_of_ble_eq_true rfl⟩ hK hP hD hS hA rfl rfl rfl rfl hl.1 rfl (Nat.le_of_ble_eq_true rfl) d_T_copy_65 ⟨Nat.zero_le _, Nat.zero_le _⟩ (fun u1 H locs hw hP hD hS => ?_)
  rw [hw] at hP hD; clear hw u1
  refine lv_iload hx hb d_T_copy_68 (lv_at hl 0 rfl) ?_
  exact xc_zret hx hb hr hlocks (rTag_01 _ _) hP hK hD hS ⟨rfl, rfl⟩ d_T_copy_70
set_option maxHeartbeats 4000000 in
set_option maxRecDepth 100000 in
theorem c_T_drop (l : Launch) (D : va_G) (G : Nat → Nat) (kc : Nat → ClassId) (sz : Nat) (u : TC) (q : Nat) (hq : q < 16) (hI : tI u) : XMi l y_T_drop k_T_drop { frames := 4, cells := 0, slots := 0, locals := 89 } D vwCl (wT G kc) (tyTs kc) u sz [.ref (G 0), .int (nI q)] (fun r u1 => r = (if tLa u q = -1 then -1 else rLineGo u q) ∧ u1 = (if tLa u q = -1 then u else fLineGo u q)) := by
  refine xb_ofi (cc := b_T_drop) (maxL := 2) (ret := some .int) (by decide) rfl (Nat.le_of_ble_eq_true rfl) ?_
  intro p e s m below meth c A ls hsz hx hb hml hr hlocks hts hown hP hK hD hA hl
  have hl : lv_has ls 2 [(0, .ref (G 0)), (1, .int (nI q))] := hl
  have hS : va_S A s.heap s.heap [] := va_S.rf
  by_cases h1 : tLa u q = -1
  · skip
    refine lv_iload_n hx hb d_T_drop_0 rfl (lv_at hl 1 rfl) ?_
    refine lv_if_lt (tgt := 10) hx hb d_T_drop_1 (by decide) (fun c9 => absurd c9 (nI_pos (by omega))) (fun _ => ?_)
    refine lv_iload_n hx hb d_T_drop_4 rfl (lv_at hl 1 rfl) ?_
    refine lv_bipush (v := 16) hx hb d_T_drop_5 (by decide) ?_
    refine lv_icmp_lt (tgt := 20) hx hb d_T_drop_7 (by decide) (fun _ => ?_) (fun c9 => absurd (nI_lt (a := q) (b := 16) (by omega) (by decide)) c9)
    refine lv_aload_n hx hb d_T_drop_20 rfl (lv_at hl 0 rfl) ?_
    refine xt_g1 hx hb hts hown hK hP d_T_drop_21 ?_
    refine lv_iload_n hx hb d_T_drop_24 rfl (lv_at hl 1 rfl) ?_
    refine xt_l1 hx hb hK hP q rfl (by omega) d_T_drop_25 ?_
    refine lv_iconst (v := (-1)) hx hb d_T_drop_26 (by decide) ?_
    refine lv_icmp_ne (tgt := 32) hx hb d_T_drop_27 (by decide) (fun c9 => absurd h1 c9) (fun _ => ?_)
    refine lv_iconst (v := (-1)) hx hb d_T_drop_30 (by decide) ?_
    exact xc_iret hx hb hr hlocks hP hK hD hS ⟨by rw [if_pos h1], by rw [if_pos h1]⟩ d_T_drop_31
  · by_cases h2 : rLineGo u q = 0
    · skip
      refine lv_iload_n hx hb d_T_drop_0 rfl (lv_at hl 1 rfl) ?_
      refine lv_if_lt (tgt := 10) hx hb d_T_drop_1 (by decide) (fun c9 => absurd c9 (nI_pos (by omega))) (fun _ => ?_)
      refine lv_iload_n hx hb d_T_drop_4 rfl (lv_at hl 1 rfl) ?_
      refine lv_bipush (v := 16) hx hb d_T_drop_5 (by decide) ?_
      refine lv_icmp_lt (tgt := 20) hx hb d_T_drop_7 (by decide) (fun _ => ?_) (fun c9 => absurd (nI_lt (a := q) (b := 16) (by omega) (by decide)) c9)
      refine lv_aload_n hx hb d_T_drop_20 rfl (lv_at hl 0 rfl) ?_
      refine xt_g1 hx hb hts hown hK hP d_T_drop_21 ?_
      refine lv_iload_n hx hb d_T_drop_24 rfl (lv_at hl 1 rfl) ?_
      refine xt_l1 hx hb hK hP q rfl (by omega) d_T_drop_25 ?_
      refine lv_iconst (v := (-1)) hx hb d_T_drop_26 (by decide) ?_
      refine lv_icmp_ne (tgt := 32) hx hb d_T_drop_27 (by decide) (fun _ => ?_) (fun c9 => absurd c9 h1)
      refine lv_aload_n hx hb d_T_drop_32 rfl (lv_at hl 0 rfl) ?_
      refine lv_iload_n hx hb d_T_drop_33 rfl (lv_at hl 1 rfl) ?_
      refine xc_calli (n := 1) (C := "TagMemory") hx hb hml hown hts (c_T_letLineGo l D G kc _ _ q (by omega) (by exact hI)) (tb_V wm_61 wm_63 ws_0 wm_1 wm_64) rfl rfl rfl (by decide +kernel) ⟨Nat.le_of_ble_eq_true rfl, Nat.le_of_ble_eq_true rfl⟩ hK hP hD hS hA rfl rfl rfl rfl hl.1 rfl (Nat.le_of_ble_eq_true rfl) d_T_drop_34 ⟨Nat.zero_le _, Nat.zero_le _⟩ (fun r u1 H locs hw hP hD hS => ?_)
      obtain ⟨e1, e2⟩ := hw
      subst e1
      rw [e2] at hP hD; clear e2 u1
      refine lv_if_eq (tgt := 44) hx hb d_T_drop_37 (by decide) (fun _ => ?_) (fun c9 => absurd h2 c9)
      refine lv_iconst (v := 0) hx hb d_T_drop_44 (by decide) ?_
      exact xc_iret hx hb hr hlocks hP hK hD hS ⟨by rw [if_neg h1, h2], by rw [if_neg h1]⟩ d_T_drop_45
    · have h3 : rLineGo u q = 1 := (rLineGo_01 u q).resolve_left h2
      refine lv_iload_n hx hb d_T_drop_0 rfl (lv_at hl 1 rfl) ?_
      refine lv_if_lt (tgt := 10) hx hb d_T_drop_1 (by decide) (fun c9 => absurd c9 (nI_pos (by omega))) (fun _ => ?_)
      refine lv_iload_n hx hb d_T_drop_4 rfl (lv_at hl 1 rfl) ?_
      refine lv_bipush (v := 16) hx hb d_T_drop_5 (by decide) ?_
      refine lv_icmp_lt (tgt := 20) hx hb d_T_drop_7 (by decide) (fun _ => ?_) (fun c9 => absurd (nI_lt (a := q) (b := 16) (by omega) (by decide)) c9)
      refine lv_aload_n hx hb d_T_drop_20 rfl (lv_at hl 0 rfl) ?_
      refine xt_g1 hx hb hts hown hK hP d_T_drop_21 ?_
      refine lv_iload_n hx hb d_T_drop_24 rfl (lv_at hl 1 rfl) ?_
      refine xt_l1 hx hb hK hP q rfl (by omega) d_T_drop_25 ?_
      refine lv_iconst (v := (-1)) hx hb d_T_drop_26 (by decide) ?_
      refine lv_icmp_ne (tgt := 32) hx hb d_T_drop_27 (by decide) (fun _ => ?_) (fun c9 => absurd c9 h1)
      refine lv_aload_n hx hb d_T_drop_32 rfl (lv_at hl 0 rfl) ?_
      refine lv_iload_n hx hb d_T_drop_33 rfl (lv_at hl 1 rfl) ?_
      refine xc_calli (n := 1) (C := "TagMemory") hx hb hml hown hts (c_T_letLineGo l D G kc _ _ q (by omega) (by exact hI)) (tb_V wm_61 wm_63 ws_0 wm_1 wm_64) rfl rfl rfl (by decide +kernel) ⟨Nat.le_of_ble_eq_true rfl, Nat.le_of_ble_eq_true rfl⟩ hK hP hD hS hA rfl rfl rfl rfl hl.1 rfl (Nat.le_of_ble_eq_true rfl) d_T_drop_34 ⟨Nat.zero_le _, Nat.zero_le _⟩ (fun r u1 H locs hw hP hD hS => ?_)
      obtain ⟨e1, e2⟩ := hw
      subst e1
      rw [e2] at hP hD; clear e2 u1
      refine lv_if_eq (tgt := 44) hx hb d_T_drop_37 (by decide) (fun c9 => absurd c9 h2) (fun _ => ?_)
      refine lv_iconst (v := 1) hx hb d_T_drop_40 (by decide) ?_
      refine lv_goto (tgt := 45) hx hb d_T_drop_41 (by decide) ?_
      exact xc_iret hx hb hr hlocks hP hK hD hS ⟨by rw [if_neg h1, h3], by rw [if_neg h1]⟩ d_T_drop_45
set_option maxHeartbeats 4000000 in
set_option maxRecDepth 100000 in
theorem c_T_store (l : Launch) (D : va_G) (G : Nat → Nat) (kc : Nat → ClassId) (sz : Nat) (u : TC) (i : Nat) (hi : i < 2080) : XMi l y_T_store k_T_store { frames := 0, cells := 0, slots := 0, locals := 0 } D vwCl (wT G kc) (tyTs kc) u sz [.ref (G 0), .int (nI i)] (fun r u1 => r = tSt u i ∧ u1 = u) := by
  refine xb_ofi (cc := b_T_store) (maxL := 2) (ret := some .int) (by decide) rfl (Nat.le_of_ble_eq_true rfl) ?_
  intro p e s m below meth c A ls hsz hx hb hml hr hlocks hts hown hP hK hD hA hl
  have hl : lv_has ls 2 [(0, .ref (G 0)), (1, .int (nI i))] := hl
  have hS : va_S A s.heap s.heap [] := va_S.rf
  refine lv_iload_n hx hb d_T_store_0 rfl (lv_at hl 1 rfl) ?_
  refine lv_if_lt (tgt := 11) hx hb d_T_store_1 (by decide) (fun c9 => absurd c9 (nI_pos (by omega))) (fun _ => ?_)
  refine lv_iload_n hx hb d_T_store_4 rfl (lv_at hl 1 rfl) ?_
  refine lv_sipush (v := 2080) hx hb d_T_store_5 (by decide) ?_
  refine lv_icmp_lt (tgt := 21) hx hb d_T_store_8 (by decide) (fun _ => ?_) (fun c9 => absurd (nI_lt (a := i) (b := 2080) (by omega) (by decide)) c9)
  refine lv_aload_n hx hb d_T_store_21 rfl (lv_at hl 0 rfl) ?_
  refine xt_g0 hx hb hts hown hK hP d_T_store_22 ?_
  refine lv_iload_n hx hb d_T_store_25 rfl (lv_at hl 1 rfl) ?_
  refine xt_l0 hx hb hK hP i rfl (by omega) d_T_store_26 ?_
  exact xc_iret hx hb hr hlocks hP hK hD hS ⟨rfl, rfl⟩ d_T_store_27
set_option maxHeartbeats 4000000 in
set_option maxRecDepth 100000 in
theorem c_T_kept (l : Launch) (D : va_G) (G : Nat → Nat) (kc : Nat → ClassId) (sz : Nat) (u : TC) (q : Nat) (hq : q < 20) : XMi l y_T_kept k_T_kept { frames := 0, cells := 0, slots := 0, locals := 0 } D vwCl (wT G kc) (tyTs kc) u sz [.ref (G 0), .int (nI q)] (fun r u1 => r = (if q < 16 then tLa u q else tRa u (q - 16)) ∧ u1 = u) := by
  refine xb_ofi (cc := b_T_kept) (maxL := 2) (ret := some .int) (by decide) rfl (Nat.le_of_ble_eq_true rfl) ?_
  intro p e s m below meth c A ls hsz hx hb hml hr hlocks hts hown hP hK hD hA hl
  have hl : lv_has ls 2 [(0, .ref (G 0)), (1, .int (nI q))] := hl
  have hS : va_S A s.heap s.heap [] := va_S.rf
  by_cases h1 : q < 16
  · skip
    refine lv_iload_n hx hb d_T_kept_0 rfl (lv_at hl 1 rfl) ?_
    refine lv_if_lt (tgt := 10) hx hb d_T_kept_1 (by decide) (fun c9 => absurd c9 (nI_pos (by omega))) (fun _ => ?_)
    refine lv_iload_n hx hb d_T_kept_4 rfl (lv_at hl 1 rfl) ?_
    refine lv_bipush (v := 20) hx hb d_T_kept_5 (by decide) ?_
    refine lv_icmp_lt (tgt := 20) hx hb d_T_kept_7 (by decide) (fun _ => ?_) (fun c9 => absurd (nI_lt (a := q) (b := 20) (by omega) (by decide)) c9)
    refine lv_iload_n hx hb d_T_kept_20 rfl (lv_at hl 1 rfl) ?_
    refine lv_bipush (v := 16) hx hb d_T_kept_21 (by decide) ?_
    refine lv_icmp_ge (tgt := 35) hx hb d_T_kept_23 (by decide) (fun c9 => absurd c9 (nI_ge (a := q) (b := 16) (by omega) (by omega))) (fun _ => ?_)
    refine lv_aload_n hx hb d_T_kept_26 rfl (lv_at hl 0 rfl) ?_
    refine xt_g1 hx hb hts hown hK hP d_T_kept_27 ?_
    refine lv_iload_n hx hb d_T_kept_30 rfl (lv_at hl 1 rfl) ?_
    refine xt_l1 hx hb hK hP q rfl (by omega) d_T_kept_31 ?_
    refine lv_goto (tgt := 44) hx hb d_T_kept_32 (by decide) ?_
    exact xc_iret hx hb hr hlocks hP hK hD hS ⟨by rw [if_pos h1], rfl⟩ d_T_kept_44
  · skip
    refine lv_iload_n hx hb d_T_kept_0 rfl (lv_at hl 1 rfl) ?_
    refine lv_if_lt (tgt := 10) hx hb d_T_kept_1 (by decide) (fun c9 => absurd c9 (nI_pos (by omega))) (fun _ => ?_)
    refine lv_iload_n hx hb d_T_kept_4 rfl (lv_at hl 1 rfl) ?_
    refine lv_bipush (v := 20) hx hb d_T_kept_5 (by decide) ?_
    refine lv_icmp_lt (tgt := 20) hx hb d_T_kept_7 (by decide) (fun _ => ?_) (fun c9 => absurd (nI_lt (a := q) (b := 20) (by omega) (by decide)) c9)
    refine lv_iload_n hx hb d_T_kept_20 rfl (lv_at hl 1 rfl) ?_
    refine lv_bipush (v := 16) hx hb d_T_kept_21 (by decide) ?_
    refine lv_icmp_ge (tgt := 35) hx hb d_T_kept_23 (by decide) (fun _ => ?_) (fun c9 => absurd (nI_le (a := 16) (b := q) (by omega) (by omega)) c9)
    refine lv_aload_n hx hb d_T_kept_35 rfl (lv_at hl 0 rfl) ?_
    refine xt_g5 hx hb hts hown hK hP d_T_kept_36 ?_
    refine lv_iload_n hx hb d_T_kept_39 rfl (lv_at hl 1 rfl) ?_
    refine lv_bipush (v := 16) hx hb d_T_kept_40 (by decide) ?_
    refine xa_isub hx hb q 16 rfl rfl (by omega) d_T_kept_42 ?_
    refine xt_l5 hx hb hK hP (q - 16) rfl (by omega) d_T_kept_43 ?_
    exact xc_iret hx hb hr hlocks hP hK hD hS ⟨by rw [if_neg h1], rfl⟩ d_T_kept_44
set_option maxHeartbeats 4000000 in
set_option maxRecDepth 100000 in
theorem lp_T_flush1 {p : Program} {l : Launch} {e : Env} {s : State} {m : MethodId} {args : Array Value} {below : List Frame} {meth : Method} {c : Code} {Q : State → Prop} {D : va_G} {A : Nat → Prop} {G : Nat → Nat} {kc : Nat → ClassId} {c1 : Cond} (hx : p.tables.exec = Jvm.exec) (hb : c.code = b_T_flush) (hml : c.maxLocals = 3) (hown : s.vm.findClass "TagMemory" = some m.cls) (hts : ∀ w ∈ c1 :: TB, w.before args s = true) (hK : va_K D vwCl (tyTs kc) s) (hA : ∀ q, s.heap.size ≤ q → A q) (u : TC) (kk : ∀ (acc : Int32) (u1 : TC) (H : Heap) (locs : List Loc) (ls : Array Slot), (u1, acc) = fFlL 16 0 u 0 → va_P D vwCl (wT G kc u1) H → va_D A (wT G kc u1) → va_S A s.heap H locs → lv_has ls 3 [(2, .int (nI 16)), (1, .int acc), (0, .ref (G 0))] → W p l e ({ frames := 4, cells := 0, slots := 0, locals := 89 }) s m args below meth c H locs 0 0 Q (F0 m 27 ls [])) : ∀ (d i : Nat), i + d = 16 → ∀ (acc : Int32) (u1 : TC) (H : Heap) (locs : List Loc) (ls : Array Slot), fFlL d i u1 acc = fFlL 16 0 u 0 → tI u1 → va_P D vwCl (wT G kc u1) H → va_D A (wT G kc u1) → va_S A s.heap H locs → lv_has ls 3 [(2, .int (nI i)), (1, .int acc), (0, .ref (G 0))] → W p l e ({ frames := 4, cells := 0, slots := 0, locals := 89 }) s m args below meth c H locs 0 0 Q (F0 m 4 ls []) := by
  intro d
  induction d with
  | zero =>
    intro i hi acc u1 H locs ls hu hI hP hD hS hl
    obtain rfl : i = 16 := by omega
    refine lv_iload_n hx hb d_T_flush_4 rfl (lv_at hl 0 rfl) ?_
    refine lv_bipush (v := 16) hx hb d_T_flush_5 (by decide) ?_
    refine lv_icmp_ge (tgt := 27) hx hb d_T_flush_7 (by decide) (fun _ => ?_) (fun c9 => absurd (nI_le (a := 16) (b := 16) (by omega) (by omega)) c9)
    exact kk acc u1 H locs ls hu hP hD hS hl
  | succ d ih =>
    intro i hi acc u1 H locs ls hu hI hP hD hS hl
    have hi16 : i < 16 := by omega
    by_cases h2 : rLineGo u1 i = 0
    · skip
      refine lv_iload_n hx hb d_T_flush_4 rfl (lv_at hl 0 rfl) ?_
      refine lv_bipush (v := 16) hx hb d_T_flush_5 (by decide) ?_
      refine lv_icmp_ge (tgt := 27) hx hb d_T_flush_7 (by decide) (fun c9 => absurd c9 (nI_ge (a := i) (b := 16) (by omega) (by omega))) (fun _ => ?_)
      refine lv_aload_n hx hb d_T_flush_10 rfl (lv_at hl 2 rfl) ?_
      refine lv_iload_n hx hb d_T_flush_11 rfl (lv_at hl 0 rfl) ?_
      refine xc_calli (n := 1) (C := "TagMemory") hx hb hml hown hts (c_T_letLineGo l D G kc _ _ i (by omega) (by exact hI)) (tb_V wm_61 wm_63 ws_0 wm_1 wm_64) rfl rfl rfl (by decide +kernel) ⟨Nat.le_of_ble_eq_true rfl, Nat.le_of_ble_eq_true rfl⟩ hK hP hD hS hA rfl rfl rfl rfl hl.1 rfl (Nat.le_of_ble_eq_true rfl) d_T_flush_12 ⟨Nat.zero_le _, Nat.zero_le _⟩ (fun r u1 H locs hw hP hD hS => ?_)
      obtain ⟨e1, e2⟩ := hw
      subst e1
      rw [e2] at hP hD; clear e2 u1
      refine lv_if_eq (tgt := 21) hx hb d_T_flush_15 (by decide) (fun _ => ?_) (fun c9 => absurd h2 c9)
      refine lv_iinc (v := nI (i + 1)) (lv' := [(2, .int (nI (i + 1))), (1, .int _), (0, .ref _)]) hx hb d_T_flush_21 hl (k := 0) rfl (nI_add _ _) (by decide) rfl (fun ls hl => ?_)
      refine lv_goto (tgt := 4) hx hb d_T_flush_24 (by decide) ?_
      exact ih (i + 1) (by omega) _ _ _ _ _ (by rw [← hu]; show _ = fFlL d (i + 1) (fLineGo u1 i) (acc + rLineGo u1 i); rw [h2, Int32.add_zero]) (tI_lineGo hI hi16) hP hD hS (lv_sub hl [0, 1, 2] rfl)
    · have h3 : rLineGo u1 i = 1 := (rLineGo_01 u1 i).resolve_left h2
      refine lv_iload_n hx hb d_T_flush_4 rfl (lv_at hl 0 rfl) ?_
      refine lv_bipush (v := 16) hx hb d_T_flush_5 (by decide) ?_
      refine lv_icmp_ge (tgt := 27) hx hb d_T_flush_7 (by decide) (fun c9 => absurd c9 (nI_ge (a := i) (b := 16) (by omega) (by omega))) (fun _ => ?_)
      refine lv_aload_n hx hb d_T_flush_10 rfl (lv_at hl 2 rfl) ?_
      refine lv_iload_n hx hb d_T_flush_11 rfl (lv_at hl 0 rfl) ?_
      refine xc_calli (n := 1) (C := "TagMemory") hx hb hml hown hts (c_T_letLineGo l D G kc _ _ i (by omega) (by exact hI)) (tb_V wm_61 wm_63 ws_0 wm_1 wm_64) rfl rfl rfl (by decide +kernel) ⟨Nat.le_of_ble_eq_true rfl, Nat.le_of_ble_eq_true rfl⟩ hK hP hD hS hA rfl rfl rfl rfl hl.1 rfl (Nat.le_of_ble_eq_true rfl) d_T_flush_12 ⟨Nat.zero_le _, Nat.zero_le _⟩ (fun r u1 H locs hw hP hD hS => ?_)
      obtain ⟨e1, e2⟩ := hw
      subst e1
      rw [e2] at hP hD; clear e2 u1
      refine lv_if_eq (tgt := 21) hx hb d_T_flush_15 (by decide) (fun c9 => absurd c9 h2) (fun _ => ?_)
      refine lv_iinc (lv' := [(1, .int _), (2, .int (nI i)), (0, .ref _)]) hx hb d_T_flush_18 hl (k := 1) rfl rfl (by decide) rfl (fun ls hl => ?_)
      refine lv_iinc (v := nI (i + 1)) (lv' := [(2, .int (nI (i + 1))), (1, .int _), (0, .ref _)]) hx hb d_T_flush_21 hl (k := 1) rfl (nI_add _ _) (by decide) rfl (fun ls hl => ?_)
      refine lv_goto (tgt := 4) hx hb d_T_flush_24 (by decide) ?_
      exact ih (i + 1) (by omega) _ _ _ _ _ (by rw [← hu]; show _ = fFlL d (i + 1) (fLineGo u1 i) (acc + rLineGo u1 i); rw [h3]; rfl) (tI_lineGo hI hi16) hP hD hS (lv_sub hl [0, 1, 2] rfl)
set_option maxHeartbeats 4000000 in
set_option maxRecDepth 100000 in
theorem lp_T_flush2 {p : Program} {l : Launch} {e : Env} {s : State} {m : MethodId} {args : Array Value} {below : List Frame} {meth : Method} {c : Code} {Q : State → Prop} {D : va_G} {A : Nat → Prop} {G : Nat → Nat} {kc : Nat → ClassId} {c1 : Cond} (hx : p.tables.exec = Jvm.exec) (hb : c.code = b_T_flush) (hml : c.maxLocals = 3) (hown : s.vm.findClass "TagMemory" = some m.cls) (hts : ∀ w ∈ c1 :: TB, w.before args s = true) (hK : va_K D vwCl (tyTs kc) s) (hA : ∀ q, s.heap.size ≤ q → A q) (u : TC) (acc : Int32) (kk : ∀ (u1 : TC) (H : Heap) (locs : List Loc) (ls : Array Slot), u1 = fFlR 4 0 u → va_P D vwCl (wT G kc u1) H → va_D A (wT G kc u1) → va_S A s.heap H locs → lv_has ls 3 [(2, .int (nI 4)), (1, .int acc), (0, .ref (G 0))] → W p l e ({ frames := 4, cells := 0, slots := 0, locals := 89 }) s m args below meth c H locs 0 0 Q (F0 m 45 ls [])) : ∀ (d i : Nat), i + d = 4 → ∀ (u1 : TC) (H : Heap) (locs : List Loc) (ls : Array Slot), fFlR d i u1 = fFlR 4 0 u → tI u1 → va_P D vwCl (wT G kc u1) H → va_D A (wT G kc u1) → va_S A s.heap H locs → lv_has ls 3 [(2, .int (nI i)), (1, .int acc), (0, .ref (G 0))] → W p l e ({ frames := 4, cells := 0, slots := 0, locals := 89 }) s m args below meth c H locs 0 0 Q (F0 m 29 ls []) := by
  intro d
  induction d with
  | zero =>
    intro i hi u1 H locs ls hu hI hP hD hS hl
    obtain rfl : i = 4 := by omega
    refine lv_iload_n hx hb d_T_flush_29 rfl (lv_at hl 0 rfl) ?_
    refine lv_iconst (v := 4) hx hb d_T_flush_30 (by decide) ?_
    refine lv_icmp_ge (tgt := 45) hx hb d_T_flush_31 (by decide) (fun _ => ?_) (fun c9 => absurd (nI_le (a := 4) (b := 4) (by omega) (by omega)) c9)
    exact kk u1 H locs ls hu hP hD hS hl
  | succ d ih =>
    intro i hi u1 H locs ls hu hI hP hD hS hl
    have hi4 : i < 4 := by omega
    refine lv_iload_n hx hb d_T_flush_29 rfl (lv_at hl 0 rfl) ?_
    refine lv_iconst (v := 4) hx hb d_T_flush_30 (by decide) ?_
    refine lv_icmp_ge (tgt := 45) hx hb d_T_flush_31 (by decide) (fun c9 => absurd c9 (nI_ge (a := i) (b := 4) (by omega) (by omega))) (fun _ => ?_)
    refine lv_aload_n hx hb d_T_flush_34 rfl (lv_at hl 2 rfl) ?_
    refine lv_iload_n hx hb d_T_flush_35 rfl (lv_at hl 0 rfl) ?_
    refine xc_callv (n := 1) (C := "TagMemory") hx hb hml hown hts (c_T_letRowGo l D G kc _ _ i (by omega) (by exact hI)) (tb_V wm_82 wm_84 ws_3 wm_1 wm_85) rfl rfl rfl (by decide +kernel) ⟨Nat.le_of_ble_eq_true rfl, Nat.le_of_ble_eq_true rfl⟩ hK hP hD hS hA rfl rfl rfl rfl hl.1 rfl (Nat.le_of_ble_eq_true rfl) d_T_flush_36 ⟨Nat.zero_le _, Nat.zero_le _⟩ (fun u1 H locs hw hP hD hS => ?_)
    rw [hw] at hP hD; clear hw u1
    refine lv_iinc (v := nI (i + 1)) (lv' := [(2, .int (nI (i + 1))), (1, .int _), (0, .ref _)]) hx hb d_T_flush_39 hl (k := 0) rfl (nI_add _ _) (by decide) rfl (fun ls hl => ?_)
    refine lv_goto (tgt := 29) hx hb d_T_flush_42 (by decide) ?_
    exact ih (i + 1) (by omega) _ _ _ _ hu (tI_rowGo hI) hP hD hS (lv_sub hl [0, 1, 2] rfl)
set_option maxHeartbeats 4000000 in
set_option maxRecDepth 100000 in
theorem c_T_flush (l : Launch) (D : va_G) (G : Nat → Nat) (kc : Nat → ClassId) (sz : Nat) (u : TC) (hI : tI u) : XMi l y_T_flush k_T_flush { frames := 4, cells := 0, slots := 0, locals := 89 } D vwCl (wT G kc) (tyTs kc) u sz [.ref (G 0)] (fun r u1 => r = rFlush u ∧ u1 = fFlush u) := by
  refine xb_ofi (cc := b_T_flush) (maxL := 3) (ret := some .int) (by decide) rfl (Nat.le_of_ble_eq_true rfl) ?_
  intro p e s m below meth c A ls hsz hx hb hml hr hlocks hts hown hP hK hD hA hl
  have hl : lv_has ls 3 [(0, .ref (G 0))] := hl
  have hS : va_S A s.heap s.heap [] := va_S.rf
  refine lv_iconst (v := 0) hx hb d_T_flush_0 (by decide) ?_
  refine lv_istore_n (lv' := [(1, .int (nI 0)), (0, .ref _)]) hx hb d_T_flush_1 rfl hl (by decide) rfl (fun ls hl => ?_)
  refine lv_iconst (v := 0) hx hb d_T_flush_2 (by decide) ?_
  refine lv_istore_n (lv' := [(2, .int (nI 0)), (1, .int (nI 0)), (0, .ref _)]) hx hb d_T_flush_3 rfl hl (by decide) rfl (fun ls hl => ?_)
  refine lp_T_flush1 hx hb hml hown hts hK hA u ?_ 16 0 rfl _ _ _ _ _ rfl hI hP hD hS (lv_sub hl [0, 1, 2] rfl)
  intro acc u1 H locs ls he hP hD hS hl
  have hI1 : tI u1 := by have := tI_flL 16 0 u 0 (by omega) hI; rw [← he] at this; exact this
  refine lv_iconst (v := 0) hx hb d_T_flush_27 (by decide) ?_
  refine lv_istore_n (lv' := [(2, .int (nI 0)), (1, .int _), (0, .ref _)]) hx hb d_T_flush_28 rfl hl (by decide) rfl (fun ls hl => ?_)
  refine lp_T_flush2 hx hb hml hown hts hK hA u1 acc ?_ 4 0 rfl _ _ _ _ rfl hI1 hP hD hS (lv_sub hl [0, 1, 2] rfl)
  intro u2 H locs ls he2 hP hD hS hl
  refine lv_iload_n hx hb d_T_flush_45 rfl (lv_at hl 1 rfl) ?_
  exact xc_iret hx hb hr hlocks hP hK hD hS ⟨by show acc = (fFlL 16 0 u 0).2; rw [← he], by rw [he2]; show fFlR 4 0 u1 = fFlR 4 0 (fFlL 16 0 u 0).1; rw [← he]⟩ d_T_flush_46
