set_option maxHeartbeats 4000000 in
set_option maxRecDepth 100000 in
theorem c_T_granuleOfWord (l : Launch) (i : Nat) (hi : i < 2 ^ 31) : XMs l y_T_granuleOfWord k_T_granuleOfWord { frames := 0, cells := 0, slots := 0, locals := 0 } [.int (nI i)] (fun r => r = nI (i / 2)) := by
  refine xb_ofs (cc := b_T_granuleOfWord) (maxL := 1) (ret := some .int) (by decide) rfl (Nat.le_of_ble_eq_true rfl) ?_
  intro p e s m below meth c ls hx hb hml hr hlocks hts hown hl
  have hl : lv_has ls 1 [(0, .int (nI i))] := hl
  refine lv_iload_n hx hb d_T_granuleOfWord_0 rfl (lv_at hl 0 rfl) ?_
  refine lv_iconst (v := 2) hx hb d_T_granuleOfWord_1 (by decide) ?_
  refine xa_idiv hx hb i 2 rfl rfl (by omega) (by decide) (by decide) d_T_granuleOfWord_2 ?_
  exact xc_sret hx hb hr hlocks rfl d_T_granuleOfWord_3
set_option maxHeartbeats 4000000 in
set_option maxRecDepth 100000 in
theorem c_T_lineOfWord (l : Launch) (i : Nat) (hi : i < 2 ^ 31) : XMs l y_T_lineOfWord k_T_lineOfWord { frames := 0, cells := 0, slots := 0, locals := 0 } [.int (nI i)] (fun r => r = nI (i / 4)) := by
  refine xb_ofs (cc := b_T_lineOfWord) (maxL := 1) (ret := some .int) (by decide) rfl (Nat.le_of_ble_eq_true rfl) ?_
  intro p e s m below meth c ls hx hb hml hr hlocks hts hown hl
  have hl : lv_has ls 1 [(0, .int (nI i))] := hl
  refine lv_iload_n hx hb d_T_lineOfWord_0 rfl (lv_at hl 0 rfl) ?_
  refine lv_iconst (v := 4) hx hb d_T_lineOfWord_1 (by decide) ?_
  refine xa_idiv hx hb i 4 rfl rfl (by omega) (by decide) (by decide) d_T_lineOfWord_2 ?_
  exact xc_sret hx hb hr hlocks rfl d_T_lineOfWord_3
set_option maxHeartbeats 4000000 in
set_option maxRecDepth 100000 in
theorem c_T_lineOfGranule (l : Launch) (i : Nat) (hi : i < 2 ^ 31) : XMs l y_T_lineOfGranule k_T_lineOfGranule { frames := 0, cells := 0, slots := 0, locals := 0 } [.int (nI i)] (fun r => r = nI (i / 2)) := by
  refine xb_ofs (cc := b_T_lineOfGranule) (maxL := 1) (ret := some .int) (by decide) rfl (Nat.le_of_ble_eq_true rfl) ?_
  intro p e s m below meth c ls hx hb hml hr hlocks hts hown hl
  have hl : lv_has ls 1 [(0, .int (nI i))] := hl
  refine lv_iload_n hx hb d_T_lineOfGranule_0 rfl (lv_at hl 0 rfl) ?_
  refine lv_iconst (v := 2) hx hb d_T_lineOfGranule_1 (by decide) ?_
  refine xa_idiv hx hb i 2 rfl rfl (by omega) (by decide) (by decide) d_T_lineOfGranule_2 ?_
  exact xc_sret hx hb hr hlocks rfl d_T_lineOfGranule_3
set_option maxHeartbeats 4000000 in
set_option maxRecDepth 100000 in
theorem c_T_rowOfLine (l : Launch) (i : Nat) (hi : i < 2 ^ 31) : XMs l y_T_rowOfLine k_T_rowOfLine { frames := 0, cells := 0, slots := 0, locals := 0 } [.int (nI i)] (fun r => r = nI (i / 16)) := by
  refine xb_ofs (cc := b_T_rowOfLine) (maxL := 1) (ret := some .int) (by decide) rfl (Nat.le_of_ble_eq_true rfl) ?_
  intro p e s m below meth c ls hx hb hml hr hlocks hts hown hl
  have hl : lv_has ls 1 [(0, .int (nI i))] := hl
  refine lv_iload_n hx hb d_T_rowOfLine_0 rfl (lv_at hl 0 rfl) ?_
  refine lv_bipush (v := 16) hx hb d_T_rowOfLine_1 (by decide) ?_
  refine xa_idiv hx hb i 16 rfl rfl (by omega) (by decide) (by decide) d_T_rowOfLine_3 ?_
  exact xc_sret hx hb hr hlocks rfl d_T_rowOfLine_4
set_option maxHeartbeats 4000000 in
set_option maxRecDepth 100000 in
theorem c_T_placeOfLine (l : Launch) (i : Nat) (hi : i < 2 ^ 31) : XMs l y_T_placeOfLine k_T_placeOfLine { frames := 0, cells := 0, slots := 0, locals := 0 } [.int (nI i)] (fun r => r = nI (i % 16)) := by
  refine xb_ofs (cc := b_T_placeOfLine) (maxL := 1) (ret := some .int) (by decide) rfl (Nat.le_of_ble_eq_true rfl) ?_
  intro p e s m below meth c ls hx hb hml hr hlocks hts hown hl
  have hl : lv_has ls 1 [(0, .int (nI i))] := hl
  refine lv_iload_n hx hb d_T_placeOfLine_0 rfl (lv_at hl 0 rfl) ?_
  refine lv_bipush (v := 16) hx hb d_T_placeOfLine_1 (by decide) ?_
  refine xa_irem hx hb i 16 rfl rfl (by omega) (by decide) (by decide) d_T_placeOfLine_3 ?_
  exact xc_sret hx hb hr hlocks rfl d_T_placeOfLine_4
set_option maxHeartbeats 4000000 in
set_option maxRecDepth 100000 in
theorem c_T_placeOfRow (l : Launch) (i : Nat) (hi : i < 2 ^ 31) : XMs l y_T_placeOfRow k_T_placeOfRow { frames := 0, cells := 0, slots := 0, locals := 0 } [.int (nI i)] (fun r => r = nI (i % 4)) := by
  refine xb_ofs (cc := b_T_placeOfRow) (maxL := 1) (ret := some .int) (by decide) rfl (Nat.le_of_ble_eq_true rfl) ?_
  intro p e s m below meth c ls hx hb hml hr hlocks hts hown hl
  have hl : lv_has ls 1 [(0, .int (nI i))] := hl
  refine lv_iload_n hx hb d_T_placeOfRow_0 rfl (lv_at hl 0 rfl) ?_
  refine lv_iconst (v := 4) hx hb d_T_placeOfRow_1 (by decide) ?_
  refine xa_irem hx hb i 4 rfl rfl (by omega) (by decide) (by decide) d_T_placeOfRow_2 ?_
  exact xc_sret hx hb hr hlocks rfl d_T_placeOfRow_3
set_option maxHeartbeats 4000000 in
set_option maxRecDepth 100000 in
theorem c_T_slotOfWord (l : Launch) (i : Nat) (hi : i < 2 ^ 31) : XMs l y_T_slotOfWord k_T_slotOfWord { frames := 0, cells := 0, slots := 0, locals := 0 } [.int (nI i)] (fun r => r = nI (i % 64)) := by
  refine xb_ofs (cc := b_T_slotOfWord) (maxL := 1) (ret := some .int) (by decide) rfl (Nat.le_of_ble_eq_true rfl) ?_
  intro p e s m below meth c ls hx hb hml hr hlocks hts hown hl
  have hl : lv_has ls 1 [(0, .int (nI i))] := hl
  refine lv_iload_n hx hb d_T_slotOfWord_0 rfl (lv_at hl 0 rfl) ?_
  refine lv_bipush (v := 64) hx hb d_T_slotOfWord_1 (by decide) ?_
  refine xa_irem hx hb i 64 rfl rfl (by omega) (by decide) (by decide) d_T_slotOfWord_3 ?_
  exact xc_sret hx hb hr hlocks rfl d_T_slotOfWord_4
set_option maxHeartbeats 4000000 in
set_option maxRecDepth 100000 in
theorem c_T_firstTagBit (l : Launch) (i : Nat) (hi : i < 2 ^ 31) : XMs l y_T_firstTagBit k_T_firstTagBit { frames := 0, cells := 0, slots := 0, locals := 0 } [.int (nI i)] (fun r => r = nI (i % 16 * 2)) := by
  refine xb_ofs (cc := b_T_firstTagBit) (maxL := 1) (ret := some .int) (by decide) rfl (Nat.le_of_ble_eq_true rfl) ?_
  intro p e s m below meth c ls hx hb hml hr hlocks hts hown hl
  have hl : lv_has ls 1 [(0, .int (nI i))] := hl
  refine lv_iload_n hx hb d_T_firstTagBit_0 rfl (lv_at hl 0 rfl) ?_
  refine lv_bipush (v := 16) hx hb d_T_firstTagBit_1 (by decide) ?_
  refine xa_irem hx hb i 16 rfl rfl (by omega) (by decide) (by decide) d_T_firstTagBit_3 ?_
  refine lv_iconst (v := 2) hx hb d_T_firstTagBit_4 (by decide) ?_
  refine xa_imul hx hb (i % 16) 2 rfl rfl d_T_firstTagBit_5 ?_
  exact xc_sret hx hb hr hlocks rfl d_T_firstTagBit_6
set_option maxHeartbeats 4000000 in
set_option maxRecDepth 100000 in
theorem c_T_tagBit (l : Launch) (i : Nat) (hi : i < 2 ^ 31) : XMs l y_T_tagBit k_T_tagBit { frames := 0, cells := 0, slots := 0, locals := 0 } [.int (nI i)] (fun r => r = ftb i) := by
  refine xb_ofs (cc := b_T_tagBit) (maxL := 1) (ret := some .int) (by decide) rfl (Nat.le_of_ble_eq_true rfl) ?_
  intro p e s m below meth c ls hx hb hml hr hlocks hts hown hl
  have hl : lv_has ls 1 [(0, .int (nI i))] := hl
  refine lv_iconst (v := 1) hx hb d_T_tagBit_0 (by decide) ?_
  refine lv_iload_n hx hb d_T_tagBit_1 rfl (lv_at hl 0 rfl) ?_
  refine lv_iconst (v := 2) hx hb d_T_tagBit_2 (by decide) ?_
  refine xa_irem hx hb i 2 rfl rfl (by omega) (by decide) (by decide) d_T_tagBit_3 ?_
  refine lv_ishl hx hb d_T_tagBit_4 ?_
  exact xc_sret hx hb hr hlocks rfl d_T_tagBit_5
set_option maxHeartbeats 4000000 in
set_option maxRecDepth 100000 in
theorem c_T_tagsOfLine (l : Launch) (i : Nat) (hi : i < 2 ^ 31) (x : Int32) : XMs l y_T_tagsOfLine k_T_tagsOfLine { frames := 1, cells := 0, slots := 0, locals := 20 } [.int (nI i), .int x] (fun r => r = ftol i x) := by
  refine xb_ofs (cc := b_T_tagsOfLine) (maxL := 2) (ret := some .int) (by decide) rfl (Nat.le_of_ble_eq_true rfl) ?_
  intro p e s m below meth c ls hx hb hml hr hlocks hts hown hl
  have hl : lv_has ls 2 [(0, .int (nI i)), (1, .int x)] := hl
  refine lv_iload_n hx hb d_T_tagsOfLine_0 rfl (lv_at hl 1 rfl) ?_
  refine lv_iload_n hx hb d_T_tagsOfLine_1 rfl (lv_at hl 0 rfl) ?_
  refine xc_calls (n := 1) (C := "TagMemory") hx hb hml hown hts (c_T_firstTagBit l i (by omega)) (tb_S wm_86 wm_87 wm_1 wm_88) rfl rfl rfl (by decide +kernel) ⟨Nat.le_of_ble_eq_true rfl, Nat.le_of_ble_eq_true rfl⟩ rfl hl.1 rfl (Nat.le_of_ble_eq_true rfl) d_T_tagsOfLine_2 ⟨Nat.zero_le _, Nat.zero_le _⟩ (fun r hw => ?_)
  subst hw
  refine lv_iushr hx hb d_T_tagsOfLine_5 rfl ?_
  refine lv_iconst (v := 3) hx hb d_T_tagsOfLine_6 (by decide) ?_
  refine lv_iand hx hb d_T_tagsOfLine_7 ?_
  exact xc_sret hx hb hr hlocks rfl d_T_tagsOfLine_8
set_option maxHeartbeats 4000000 in
set_option maxRecDepth 100000 in
theorem c_T_letRowGo (l : Launch) (D : va_G) (G : Nat → Nat) (kc : Nat → ClassId) (sz : Nat) (u : TC) (q : Nat) (hq : q < 4) (hI : tI u) : XMv l y_T_letRowGo k_T_letRowGo { frames := 0, cells := 0, slots := 0, locals := 0 } D vwCl (wT G kc) (tyTs kc) u sz [.ref (G 0), .int (nI q)] (fun u1 => u1 = fRowGo u q) := by
  refine xb_ofv (cc := b_T_letRowGo) (maxL := 2) (ret := none) (by decide) rfl (Nat.le_of_ble_eq_true rfl) ?_
  intro p e s m below meth c A ls hsz hx hb hml hr hlocks hts hown hP hK hD hA hl
  have hl : lv_has ls 2 [(0, .ref (G 0)), (1, .int (nI q))] := hl
  have hS : va_S A s.heap s.heap [] := va_S.rf
  by_cases h1 : tRa u q = -1
  · clear hI
    refine lv_aload_n hx hb d_T_letRowGo_0 rfl (lv_at hl 0 rfl) ?_
    refine xt_g5 hx hb hts hown hK hP d_T_letRowGo_1 ?_
    refine lv_iload_n hx hb d_T_letRowGo_4 rfl (lv_at hl 1 rfl) ?_
    refine xt_l5 hx hb hK hP q rfl (by omega) d_T_letRowGo_5 ?_
    refine lv_iconst (v := (-1)) hx hb d_T_letRowGo_6 (by decide) ?_
    refine lv_icmp_eq (tgt := 50) hx hb d_T_letRowGo_7 (by decide) (fun _ => ?_) (fun c9 => absurd h1 c9)
    refine lv_aload_n hx hb d_T_letRowGo_50 rfl (lv_at hl 0 rfl) ?_
    refine xt_g5 hx hb hts hown hK hP d_T_letRowGo_51 ?_
    refine lv_iload_n hx hb d_T_letRowGo_54 rfl (lv_at hl 1 rfl) ?_
    refine lv_iconst (v := (-1)) hx hb d_T_letRowGo_55 (by decide) ?_
    refine xt_s5 hx hb hK hP hD hS q rfl (by omega) d_T_letRowGo_56 (fun H locs hP hD hS => ?_)
    refine lv_aload_n hx hb d_T_letRowGo_57 rfl (lv_at hl 0 rfl) ?_
    refine xt_g7 hx hb hts hown hK hP d_T_letRowGo_58 ?_
    refine lv_iload_n hx hb d_T_letRowGo_61 rfl (lv_at hl 1 rfl) ?_
    refine lv_iconst (v := 0) hx hb d_T_letRowGo_62 (by decide) ?_
    refine xt_s7 hx hb hK hP hD hS (Or.inl rfl) q rfl (by omega) d_T_letRowGo_63 (fun H locs hP hD hS => ?_)
    exact xc_vret hx hb hr hlocks hP hK hD hS (by unfold fRowGo; rw [if_pos (Or.inl h1)]; rfl) d_T_letRowGo_64
  · by_cases h2 : tRc u q = 0
    · refine lv_aload_n hx hb d_T_letRowGo_0 rfl (lv_at hl 0 rfl) ?_
      refine xt_g5 hx hb hts hown hK hP d_T_letRowGo_1 ?_
      refine lv_iload_n hx hb d_T_letRowGo_4 rfl (lv_at hl 1 rfl) ?_
      refine xt_l5 hx hb hK hP q rfl (by omega) d_T_letRowGo_5 ?_
      refine lv_iconst (v := (-1)) hx hb d_T_letRowGo_6 (by decide) ?_
      refine lv_icmp_eq (tgt := 50) hx hb d_T_letRowGo_7 (by decide) (fun c9 => absurd c9 h1) (fun _ => ?_)
      refine lv_aload_n hx hb d_T_letRowGo_10 rfl (lv_at hl 0 rfl) ?_
      refine xt_g7 hx hb hts hown hK hP d_T_letRowGo_11 ?_
      refine lv_iload_n hx hb d_T_letRowGo_14 rfl (lv_at hl 1 rfl) ?_
      refine xt_l7 hx hb hK hP q rfl (by omega) d_T_letRowGo_15 ?_
      refine lv_if_eq (tgt := 50) hx hb d_T_letRowGo_16 (by decide) (fun _ => ?_) (fun c9 => absurd h2 c9)
      refine lv_aload_n hx hb d_T_letRowGo_50 rfl (lv_at hl 0 rfl) ?_
      refine xt_g5 hx hb hts hown hK hP d_T_letRowGo_51 ?_
      refine lv_iload_n hx hb d_T_letRowGo_54 rfl (lv_at hl 1 rfl) ?_
      refine lv_iconst (v := (-1)) hx hb d_T_letRowGo_55 (by decide) ?_
      refine xt_s5 hx hb hK hP hD hS q rfl (by omega) d_T_letRowGo_56 (fun H locs hP hD hS => ?_)
      refine lv_aload_n hx hb d_T_letRowGo_57 rfl (lv_at hl 0 rfl) ?_
      refine xt_g7 hx hb hts hown hK hP d_T_letRowGo_58 ?_
      refine lv_iload_n hx hb d_T_letRowGo_61 rfl (lv_at hl 1 rfl) ?_
      refine lv_iconst (v := 0) hx hb d_T_letRowGo_62 (by decide) ?_
      refine xt_s7 hx hb hK hP hD hS (Or.inl rfl) q rfl (by omega) d_T_letRowGo_63 (fun H locs hP hD hS => ?_)
      exact xc_vret hx hb hr hlocks hP hK hD hS (by unfold fRowGo; rw [if_pos (Or.inr h2)]; rfl) d_T_letRowGo_64
    · obtain ⟨k, hk, hkq, hk1⟩ : ∃ k, k < 32 ∧ k % 4 = q ∧ tRa u q = nI k := (hI.1 q hq).resolve_left h1
      refine lv_aload_n hx hb d_T_letRowGo_0 rfl (lv_at hl 0 rfl) ?_
      refine xt_g5 hx hb hts hown hK hP d_T_letRowGo_1 ?_
      refine lv_iload_n hx hb d_T_letRowGo_4 rfl (lv_at hl 1 rfl) ?_
      refine xt_l5 hx hb hK hP q rfl (by omega) d_T_letRowGo_5 ?_
      refine lv_iconst (v := (-1)) hx hb d_T_letRowGo_6 (by decide) ?_
      refine lv_icmp_eq (tgt := 50) hx hb d_T_letRowGo_7 (by decide) (fun c9 => absurd c9 h1) (fun _ => ?_)
      refine lv_aload_n hx hb d_T_letRowGo_10 rfl (lv_at hl 0 rfl) ?_
      refine xt_g7 hx hb hts hown hK hP d_T_letRowGo_11 ?_
      refine lv_iload_n hx hb d_T_letRowGo_14 rfl (lv_at hl 1 rfl) ?_
      refine xt_l7 hx hb hK hP q rfl (by omega) d_T_letRowGo_15 ?_
      refine lv_if_eq (tgt := 50) hx hb d_T_letRowGo_16 (by decide) (fun c9 => absurd c9 h2) (fun _ => ?_)
      refine lv_aload_n hx hb d_T_letRowGo_19 rfl (lv_at hl 0 rfl) ?_
      refine xt_g0 hx hb hts hown hK hP d_T_letRowGo_20 ?_
      refine lv_sipush (v := 2048) hx hb d_T_letRowGo_23 (by decide) ?_
      refine lv_aload_n hx hb d_T_letRowGo_26 rfl (lv_at hl 0 rfl) ?_
      refine xt_g5 hx hb hts hown hK hP d_T_letRowGo_27 ?_
      refine lv_iload_n hx hb d_T_letRowGo_30 rfl (lv_at hl 1 rfl) ?_
      refine xt_l5 hx hb hK hP q rfl (by omega) d_T_letRowGo_31 ?_
      refine xa_top (nI k) hk1 ?_
      refine xa_iadd hx hb 2048 k rfl rfl d_T_letRowGo_32 ?_
      refine lv_aload_n hx hb d_T_letRowGo_33 rfl (lv_at hl 0 rfl) ?_
      refine xt_g6 hx hb hts hown hK hP d_T_letRowGo_34 ?_
      refine lv_iload_n hx hb d_T_letRowGo_37 rfl (lv_at hl 1 rfl) ?_
      refine xt_l6 hx hb hK hP q rfl (by omega) d_T_letRowGo_38 ?_
      refine xt_s0 hx hb hK hP hD hS (2048 + k) rfl (by omega) d_T_letRowGo_39 (fun H locs hP hD hS => ?_)
      refine lv_aload_n hx hb d_T_letRowGo_40 rfl (lv_at hl 0 rfl) ?_
      refine lv_dup hx hb d_T_letRowGo_41 rfl ?_
      refine xt_g11 hx hb hts hown hK hP d_T_letRowGo_42 ?_
      refine lv_iconst (v := 1) hx hb d_T_letRowGo_45 (by decide) ?_
      refine lv_iadd hx hb d_T_letRowGo_46 ?_
      refine xt_p11 hx hb hts hown hK hP hD hS d_T_letRowGo_47 (fun H locs hP hD hS => ?_)
      refine lv_aload_n hx hb d_T_letRowGo_50 rfl (lv_at hl 0 rfl) ?_
      refine xt_g5 hx hb hts hown hK hP d_T_letRowGo_51 ?_
      refine lv_iload_n hx hb d_T_letRowGo_54 rfl (lv_at hl 1 rfl) ?_
      refine lv_iconst (v := (-1)) hx hb d_T_letRowGo_55 (by decide) ?_
      refine xt_s5 hx hb hK hP hD hS q rfl (by omega) d_T_letRowGo_56 (fun H locs hP hD hS => ?_)
      refine lv_aload_n hx hb d_T_letRowGo_57 rfl (lv_at hl 0 rfl) ?_
      refine xt_g7 hx hb hts hown hK hP d_T_letRowGo_58 ?_
      refine lv_iload_n hx hb d_T_letRowGo_61 rfl (lv_at hl 1 rfl) ?_
      refine lv_iconst (v := 0) hx hb d_T_letRowGo_62 (by decide) ?_
      refine xt_s7 hx hb hK hP hD hS (Or.inl rfl) q rfl (by omega) d_T_letRowGo_63 (fun H locs hP hD hS => ?_)
      exact xc_vret hx hb hr hlocks hP hK hD hS (by unfold fRowGo; rw [if_neg (fun z => z.elim h1 h2), hk1, nI_clamp (by omega)]; rfl) d_T_letRowGo_64
set_option maxHeartbeats 4000000 in
set_option maxRecDepth 100000 in
theorem c_T_wantRow (l : Launch) (D : va_G) (G : Nat → Nat) (kc : Nat → ClassId) (sz : Nat) (u : TC) (k : Nat) (hk : k < 32) (hI : tI u) : XMi l y_T_wantRow k_T_wantRow { frames := 1, cells := 0, slots := 0, locals := 21 } D vwCl (wT G kc) (tyTs kc) u sz [.ref (G 0), .int (nI k)] (fun r u1 => r = nI (k % 4) ∧ u1 = fWantRow u k) := by
  refine xb_ofi (cc := b_T_wantRow) (maxL := 3) (ret := some .int) (by decide) rfl (Nat.le_of_ble_eq_true rfl) ?_
  intro p e s m below meth c A ls hsz hx hb hml hr hlocks hts hown hP hK hD hA hl
  have hl : lv_has ls 3 [(0, .ref (G 0)), (1, .int (nI k))] := hl
  have hS : va_S A s.heap s.heap [] := va_S.rf
  by_cases h1 : tRa u (k % 4) = nI k
  · clear hI
    refine lv_iload_n hx hb d_T_wantRow_0 rfl (lv_at hl 1 rfl) ?_
    refine xc_calls (n := 1) (C := "TagMemory") hx hb hml hown hts (c_T_placeOfRow l k (by omega)) (tb_S wm_79 wm_80 wm_1 wm_81) rfl rfl rfl (by decide +kernel) ⟨Nat.le_of_ble_eq_true rfl, Nat.le_of_ble_eq_true rfl⟩ rfl hl.1 rfl (Nat.le_of_ble_eq_true rfl) d_T_wantRow_1 ⟨Nat.zero_le _, Nat.zero_le _⟩ (fun r hw => ?_)
    subst hw
    refine lv_istore_n (lv' := [(2, .int (nI (k % 4))), (0, .ref _), (1, .int (nI k))]) hx hb d_T_wantRow_4 rfl hl (by decide) rfl (fun ls hl => ?_)
    refine lv_aload_n hx hb d_T_wantRow_5 rfl (lv_at hl 1 rfl) ?_
    refine xt_g5 hx hb hts hown hK hP d_T_wantRow_6 ?_
    refine lv_iload_n hx hb d_T_wantRow_9 rfl (lv_at hl 0 rfl) ?_
    refine xt_l5 hx hb hK hP (k % 4) rfl (by omega) d_T_wantRow_10 ?_
    refine lv_iload_n hx hb d_T_wantRow_11 rfl (lv_at hl 2 rfl) ?_
    refine lv_icmp_eq (tgt := 53) hx hb d_T_wantRow_12 (by decide) (fun _ => ?_) (fun c9 => absurd h1 c9)
    refine lv_iload_n hx hb d_T_wantRow_53 rfl (lv_at hl 0 rfl) ?_
    exact xc_iret hx hb hr hlocks hP hK hD hS ⟨rfl, by unfold fWantRow; rw [if_pos h1]⟩ d_T_wantRow_54
  · have hk4 : k % 4 < 4 := by omega
    refine lv_iload_n hx hb d_T_wantRow_0 rfl (lv_at hl 1 rfl) ?_
    refine xc_calls (n := 1) (C := "TagMemory") hx hb hml hown hts (c_T_placeOfRow l k (by omega)) (tb_S wm_79 wm_80 wm_1 wm_81) rfl rfl rfl (by decide +kernel) ⟨Nat.le_of_ble_eq_true rfl, Nat.le_of_ble_eq_true rfl⟩ rfl hl.1 rfl (Nat.le_of_ble_eq_true rfl) d_T_wantRow_1 ⟨Nat.zero_le _, Nat.zero_le _⟩ (fun r hw => ?_)
    subst hw
    refine lv_istore_n (lv' := [(2, .int (nI (k % 4))), (0, .ref _), (1, .int (nI k))]) hx hb d_T_wantRow_4 rfl hl (by decide) rfl (fun ls hl => ?_)
    refine lv_aload_n hx hb d_T_wantRow_5 rfl (lv_at hl 1 rfl) ?_
    refine xt_g5 hx hb hts hown hK hP d_T_wantRow_6 ?_
    refine lv_iload_n hx hb d_T_wantRow_9 rfl (lv_at hl 0 rfl) ?_
    refine xt_l5 hx hb hK hP (k % 4) rfl (by omega) d_T_wantRow_10 ?_
    refine lv_iload_n hx hb d_T_wantRow_11 rfl (lv_at hl 2 rfl) ?_
    refine lv_icmp_eq (tgt := 53) hx hb d_T_wantRow_12 (by decide) (fun c9 => absurd c9 h1) (fun _ => ?_)
    refine lv_aload_n hx hb d_T_wantRow_15 rfl (lv_at hl 1 rfl) ?_
    refine lv_iload_n hx hb d_T_wantRow_16 rfl (lv_at hl 0 rfl) ?_
    refine xc_callv (n := 1) (C := "TagMemory") hx hb hml hown hts (c_T_letRowGo l D G kc _ _ (k % 4) (by omega) (by exact hI)) (tb_V wm_82 wm_84 ws_3 wm_1 wm_85) rfl rfl rfl (by decide +kernel) ⟨Nat.le_of_ble_eq_true rfl, Nat.le_of_ble_eq_true rfl⟩ hK hP hD hS hA rfl rfl rfl rfl hl.1 rfl (Nat.le_of_ble_eq_true rfl) d_T_wantRow_17 ⟨Nat.zero_le _, Nat.zero_le _⟩ (fun u1 H locs hw hP hD hS => ?_)
    rw [hw] at hP hD; clear hw u1
    refine lv_aload_n hx hb d_T_wantRow_20 rfl (lv_at hl 1 rfl) ?_
    refine xt_g6 hx hb hts hown hK hP d_T_wantRow_21 ?_
    refine lv_iload_n hx hb d_T_wantRow_24 rfl (lv_at hl 0 rfl) ?_
    refine lv_aload_n hx hb d_T_wantRow_25 rfl (lv_at hl 1 rfl) ?_
    refine xt_g0 hx hb hts hown hK hP d_T_wantRow_26 ?_
    refine lv_sipush (v := 2048) hx hb d_T_wantRow_29 (by decide) ?_
    refine lv_iload_n hx hb d_T_wantRow_32 rfl (lv_at hl 2 rfl) ?_
    refine xa_iadd hx hb 2048 k rfl rfl d_T_wantRow_33 ?_
    refine xt_l0 hx hb hK hP (2048 + k) rfl (by omega) d_T_wantRow_34 ?_
    refine xt_s6 hx hb hK hP hD hS (k % 4) rfl (by omega) d_T_wantRow_35 (fun H locs hP hD hS => ?_)
    refine lv_aload_n hx hb d_T_wantRow_36 rfl (lv_at hl 1 rfl) ?_
    refine xt_g5 hx hb hts hown hK hP d_T_wantRow_37 ?_
    refine lv_iload_n hx hb d_T_wantRow_40 rfl (lv_at hl 0 rfl) ?_
    refine lv_iload_n hx hb d_T_wantRow_41 rfl (lv_at hl 2 rfl) ?_
    refine xt_s5 hx hb hK hP hD hS (k % 4) rfl (by omega) d_T_wantRow_42 (fun H locs hP hD hS => ?_)
    refine lv_aload_n hx hb d_T_wantRow_43 rfl (lv_at hl 1 rfl) ?_
    refine lv_dup hx hb d_T_wantRow_44 rfl ?_
    refine xt_g10 hx hb hts hown hK hP d_T_wantRow_45 ?_
    refine lv_iconst (v := 1) hx hb d_T_wantRow_48 (by decide) ?_
    refine lv_iadd hx hb d_T_wantRow_49 ?_
    refine xt_p10 hx hb hts hown hK hP hD hS d_T_wantRow_50 (fun H locs hP hD hS => ?_)
    refine lv_iload_n hx hb d_T_wantRow_53 rfl (lv_at hl 0 rfl) ?_
    exact xc_iret hx hb hr hlocks hP hK hD hS ⟨rfl, by unfold fWantRow; rw [if_neg h1]; rfl⟩ d_T_wantRow_54
