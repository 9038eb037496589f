set_option maxHeartbeats 4000000 in
set_option maxRecDepth 100000 in
theorem c_M_rowGoes (l : Launch) (D : va_G) (G : Nat → Nat) (kc : Nat → ClassId) (sz : Nat) (u : TM) (q : Nat) (hq : q < 4) (hI : mI u) : XMv l y_M_rowGoes k_M_rowGoes { frames := 0, cells := 0, slots := 0, locals := 0 } D vwCl (wM G kc) (tyMs kc) u sz [.ref (G 0), .int (nI q)] (fun u1 => u1 = gRowGo u q) := by
  refine xb_ofv (cc := b_M_rowGoes) (maxL := 2) (ret := none) (by decide) rfl (Nat.le_of_ble_eq_true rfl) ?_
  intro p e s m below meth c A ls hsz hx hb hml hr hlocks hts hown hP hK hD hA hl
  have hl : lv_has ls 2 [(0, .ref (G 0)), (1, .int (nI q))] := hl
  have hS : va_S A s.heap s.heap [] := va_S.rf
  by_cases h1 : mKr u q = -1
  · clear hI
    refine lv_aload_n hx hb d_M_rowGoes_0 rfl (lv_at hl 0 rfl) ?_
    refine xm_g6 hx hb hts hown hK hP d_M_rowGoes_1 ?_
    refine lv_iload_n hx hb d_M_rowGoes_4 rfl (lv_at hl 1 rfl) ?_
    refine xm_l6 hx hb hK hP q rfl (by omega) d_M_rowGoes_5 ?_
    refine lv_if_lt (tgt := 54) hx hb d_M_rowGoes_6 (by decide) (fun _ => ?_) (fun c9 => absurd (by rw [h1]; decide) c9)
    refine lv_aload_n hx hb d_M_rowGoes_54 rfl (lv_at hl 0 rfl) ?_
    refine xm_g6 hx hb hts hown hK hP d_M_rowGoes_55 ?_
    refine lv_iload_n hx hb d_M_rowGoes_58 rfl (lv_at hl 1 rfl) ?_
    refine lv_iconst (v := (-1)) hx hb d_M_rowGoes_59 (by decide) ?_
    refine xm_s6 hx hb hK hP hD hS q rfl (by omega) d_M_rowGoes_60 (fun H locs hP hD hS => ?_)
    refine lv_aload_n hx hb d_M_rowGoes_61 rfl (lv_at hl 0 rfl) ?_
    refine xm_g7 hx hb hts hown hK hP d_M_rowGoes_62 ?_
    refine lv_iload_n hx hb d_M_rowGoes_65 rfl (lv_at hl 1 rfl) ?_
    refine lv_iconst (v := 0) hx hb d_M_rowGoes_66 (by decide) ?_
    refine xm_s7 hx hb hK hP hD hS (Or.inl rfl) q rfl (by omega) d_M_rowGoes_67 (fun H locs hP hD hS => ?_)
    exact xc_vret hx hb hr hlocks hP hK hD hS (by unfold gRowGo; rw [if_pos (Or.inl h1)]; rfl) d_M_rowGoes_68
  · obtain ⟨k, hk, hkq, hk1⟩ : ∃ k, k < 32 ∧ k % 4 = q ∧ mKr u q = nI k := (hI.1 q hq).resolve_left h1
    by_cases h2 : mRc u q = 0
    · clear hI
      refine lv_aload_n hx hb d_M_rowGoes_0 rfl (lv_at hl 0 rfl) ?_
      refine xm_g6 hx hb hts hown hK hP d_M_rowGoes_1 ?_
      refine lv_iload_n hx hb d_M_rowGoes_4 rfl (lv_at hl 1 rfl) ?_
      refine xm_l6 hx hb hK hP q rfl (by omega) d_M_rowGoes_5 ?_
      refine lv_if_lt (tgt := 54) hx hb d_M_rowGoes_6 (by decide) (fun c9 => absurd c9 (by rw [hk1]; exact nI_pos (by omega))) (fun _ => ?_)
      refine lv_aload_n hx hb d_M_rowGoes_9 rfl (lv_at hl 0 rfl) ?_
      refine xm_g7 hx hb hts hown hK hP d_M_rowGoes_10 ?_
      refine lv_iload_n hx hb d_M_rowGoes_13 rfl (lv_at hl 1 rfl) ?_
      refine xm_l7 hx hb hK hP q rfl (by omega) d_M_rowGoes_14 ?_
      refine lv_if_eq (tgt := 54) hx hb d_M_rowGoes_15 (by decide) (fun _ => ?_) (fun c9 => absurd h2 c9)
      refine lv_aload_n hx hb d_M_rowGoes_54 rfl (lv_at hl 0 rfl) ?_
      refine xm_g6 hx hb hts hown hK hP d_M_rowGoes_55 ?_
      refine lv_iload_n hx hb d_M_rowGoes_58 rfl (lv_at hl 1 rfl) ?_
      refine lv_iconst (v := (-1)) hx hb d_M_rowGoes_59 (by decide) ?_
      refine xm_s6 hx hb hK hP hD hS q rfl (by omega) d_M_rowGoes_60 (fun H locs hP hD hS => ?_)
      refine lv_aload_n hx hb d_M_rowGoes_61 rfl (lv_at hl 0 rfl) ?_
      refine xm_g7 hx hb hts hown hK hP d_M_rowGoes_62 ?_
      refine lv_iload_n hx hb d_M_rowGoes_65 rfl (lv_at hl 1 rfl) ?_
      refine lv_iconst (v := 0) hx hb d_M_rowGoes_66 (by decide) ?_
      refine xm_s7 hx hb hK hP hD hS (Or.inl rfl) q rfl (by omega) d_M_rowGoes_67 (fun H locs hP hD hS => ?_)
      exact xc_vret hx hb hr hlocks hP hK hD hS (by unfold gRowGo; rw [if_pos (Or.inr h2)]; rfl) d_M_rowGoes_68
    · clear hI
      refine lv_aload_n hx hb d_M_rowGoes_0 rfl (lv_at hl 0 rfl) ?_
      refine xm_g6 hx hb hts hown hK hP d_M_rowGoes_1 ?_
      refine lv_iload_n hx hb d_M_rowGoes_4 rfl (lv_at hl 1 rfl) ?_
      refine xm_l6 hx hb hK hP q rfl (by omega) d_M_rowGoes_5 ?_
      refine lv_if_lt (tgt := 54) hx hb d_M_rowGoes_6 (by decide) (fun c9 => absurd c9 (by rw [hk1]; exact nI_pos (by omega))) (fun _ => ?_)
      refine lv_aload_n hx hb d_M_rowGoes_9 rfl (lv_at hl 0 rfl) ?_
      refine xm_g7 hx hb hts hown hK hP d_M_rowGoes_10 ?_
      refine lv_iload_n hx hb d_M_rowGoes_13 rfl (lv_at hl 1 rfl) ?_
      refine xm_l7 hx hb hK hP q rfl (by omega) d_M_rowGoes_14 ?_
      refine lv_if_eq (tgt := 54) hx hb d_M_rowGoes_15 (by decide) (fun c9 => absurd c9 h2) (fun _ => ?_)
      refine lv_aload_n hx hb d_M_rowGoes_18 rfl (lv_at hl 0 rfl) ?_
      refine xm_g2 hx hb hts hown hK hP d_M_rowGoes_19 ?_
      refine lv_sipush (v := 2048) hx hb d_M_rowGoes_22 (by decide) ?_
      refine lv_aload_n hx hb d_M_rowGoes_25 rfl (lv_at hl 0 rfl) ?_
      refine xm_g6 hx hb hts hown hK hP d_M_rowGoes_26 ?_
      refine lv_iload_n hx hb d_M_rowGoes_29 rfl (lv_at hl 1 rfl) ?_
      refine xm_l6 hx hb hK hP q rfl (by omega) d_M_rowGoes_30 ?_
      refine xa_top (nI k) hk1 ?_
      refine xa_iadd hx hb 2048 k rfl rfl d_M_rowGoes_31 ?_
      refine lv_aload_n hx hb d_M_rowGoes_32 rfl (lv_at hl 0 rfl) ?_
      refine xm_g3 hx hb hts hown hK hP d_M_rowGoes_33 ?_
      refine lv_aload_n hx hb d_M_rowGoes_36 rfl (lv_at hl 0 rfl) ?_
      refine xm_g6 hx hb hts hown hK hP d_M_rowGoes_37 ?_
      refine lv_iload_n hx hb d_M_rowGoes_40 rfl (lv_at hl 1 rfl) ?_
      refine xm_l6 hx hb hK hP q rfl (by omega) d_M_rowGoes_41 ?_
      refine xa_top (nI k) hk1 ?_
      refine xm_l3 hx hb hK hP k rfl (by omega) d_M_rowGoes_42 ?_
      refine xm_s2 hx hb hK hP hD hS (2048 + k) rfl (by omega) d_M_rowGoes_43 (fun H locs hP hD hS => ?_)
      refine lv_aload_n hx hb d_M_rowGoes_44 rfl (lv_at hl 0 rfl) ?_
      refine xm_g8 hx hb hts hown hK hP d_M_rowGoes_45 ?_
      refine lv_iconst (v := 3) hx hb d_M_rowGoes_48 (by decide) ?_
      refine lv_dup2_11 hx hb d_M_rowGoes_49 rfl rfl ?_
      refine xm_l8 hx hb hK hP 3 rfl (by omega) d_M_rowGoes_50 ?_
      refine lv_iconst (v := 1) hx hb d_M_rowGoes_51 (by decide) ?_
      refine lv_iadd hx hb d_M_rowGoes_52 ?_
      refine xm_s8 hx hb hK hP hD hS 3 rfl (by omega) d_M_rowGoes_53 (fun H locs hP hD hS => ?_)
      refine lv_aload_n hx hb d_M_rowGoes_54 rfl (lv_at hl 0 rfl) ?_
      refine xm_g6 hx hb hts hown hK hP d_M_rowGoes_55 ?_
      refine lv_iload_n hx hb d_M_rowGoes_58 rfl (lv_at hl 1 rfl) ?_
      refine lv_iconst (v := (-1)) hx hb d_M_rowGoes_59 (by decide) ?_
      refine xm_s6 hx hb hK hP hD hS q rfl (by omega) d_M_rowGoes_60 (fun H locs hP hD hS => ?_)
      refine lv_aload_n hx hb d_M_rowGoes_61 rfl (lv_at hl 0 rfl) ?_
      refine xm_g7 hx hb hts hown hK hP d_M_rowGoes_62 ?_
      refine lv_iload_n hx hb d_M_rowGoes_65 rfl (lv_at hl 1 rfl) ?_
      refine lv_iconst (v := 0) hx hb d_M_rowGoes_66 (by decide) ?_
      refine xm_s7 hx hb hK hP hD hS (Or.inl rfl) q rfl (by omega) d_M_rowGoes_67 (fun H locs hP hD hS => ?_)
      exact xc_vret hx hb hr hlocks hP hK hD hS (by unfold gRowGo; rw [if_neg (fun z => z.elim h1 h2), hk1, nI_clamp (by omega)]; rfl) d_M_rowGoes_68
set_option maxHeartbeats 4000000 in
set_option maxRecDepth 100000 in
theorem c_M_wantRow (l : Launch) (D : va_G) (G : Nat → Nat) (kc : Nat → ClassId) (sz : Nat) (u : TM) (k : Nat) (hk : k < 32) (hI : mI u) : XMv l y_M_wantRow k_M_wantRow { frames := 1, cells := 0, slots := 0, locals := 21 } D vwCl (wM G kc) (tyMs kc) u sz [.ref (G 0), .int (nI k)] (fun u1 => u1 = gWantRow u k) := by
  refine xb_ofv (cc := b_M_wantRow) (maxL := 2) (ret := none) (by decide) rfl (Nat.le_of_ble_eq_true rfl) ?_
  intro p e s m below meth c A ls hsz hx hb hml hr hlocks hts hown hP hK hD hA hl
  have hl : lv_has ls 2 [(0, .ref (G 0)), (1, .int (nI k))] := hl
  have hS : va_S A s.heap s.heap [] := va_S.rf
  by_cases h1 : mKr u (k % 4) = nI k
  · clear hI
    refine lv_aload_n hx hb d_M_wantRow_0 rfl (lv_at hl 0 rfl) ?_
    refine xm_g6 hx hb hts hown hK hP d_M_wantRow_1 ?_
    refine lv_iload_n hx hb d_M_wantRow_4 rfl (lv_at hl 1 rfl) ?_
    refine lv_iconst (v := 4) hx hb d_M_wantRow_5 (by decide) ?_
    refine xa_irem hx hb k 4 rfl rfl (by omega) (by decide) (by decide) d_M_wantRow_6 ?_
    refine xm_l6 hx hb hK hP (k % 4) rfl (by omega) d_M_wantRow_7 ?_
    refine lv_iload_n hx hb d_M_wantRow_8 rfl (lv_at hl 1 rfl) ?_
    refine lv_icmp_ne (tgt := 13) hx hb d_M_wantRow_9 (by decide) (fun c9 => absurd h1 c9) (fun _ => ?_)
    exact xc_vret hx hb hr hlocks hP hK hD hS (by unfold gWantRow; rw [if_pos h1]) d_M_wantRow_12
  · have hk4 : k % 4 < 4 := by omega
    refine lv_aload_n hx hb d_M_wantRow_0 rfl (lv_at hl 0 rfl) ?_
    refine xm_g6 hx hb hts hown hK hP d_M_wantRow_1 ?_
    refine lv_iload_n hx hb d_M_wantRow_4 rfl (lv_at hl 1 rfl) ?_
    refine lv_iconst (v := 4) hx hb d_M_wantRow_5 (by decide) ?_
    refine xa_irem hx hb k 4 rfl rfl (by omega) (by decide) (by decide) d_M_wantRow_6 ?_
    refine xm_l6 hx hb hK hP (k % 4) rfl (by omega) d_M_wantRow_7 ?_
    refine lv_iload_n hx hb d_M_wantRow_8 rfl (lv_at hl 1 rfl) ?_
    refine lv_icmp_ne (tgt := 13) hx hb d_M_wantRow_9 (by decide) (fun _ => ?_) (fun c9 => absurd c9 h1)
    refine lv_aload_n hx hb d_M_wantRow_13 rfl (lv_at hl 0 rfl) ?_
    refine lv_iload_n hx hb d_M_wantRow_14 rfl (lv_at hl 1 rfl) ?_
    refine lv_iconst (v := 4) hx hb d_M_wantRow_15 (by decide) ?_
    refine xa_irem hx hb k 4 rfl rfl (by omega) (by decide) (by decide) d_M_wantRow_16 ?_
    refine xc_callv (n := 1) (C := "TagMemoryModel") hx hb hml hown hts (c_M_rowGoes l D G kc _ _ (k % 4) (by omega) (by exact hI)) (tb_V wm_406 wm_408 ws_21 wm_2 wm_409) rfl rfl rfl (by decide +kernel) ⟨Nat.le_of_ble_eq_true rfl, Nat.le_of_ble_eq_true rfl⟩ hK hP hD hS hA rfl rfl rfl rfl hl.1 rfl (Nat.le_of_ble_eq_true rfl) d_M_wantRow_17 ⟨Nat.zero_le _, Nat.zero_le _⟩ (fun u1 H locs hw hP hD hS => ?_)
    rw [hw] at hP hD; clear hw u1
    refine lv_aload_n hx hb d_M_wantRow_20 rfl (lv_at hl 0 rfl) ?_
    refine xm_g6 hx hb hts hown hK hP d_M_wantRow_21 ?_
    refine lv_iload_n hx hb d_M_wantRow_24 rfl (lv_at hl 1 rfl) ?_
    refine lv_iconst (v := 4) hx hb d_M_wantRow_25 (by decide) ?_
    refine xa_irem hx hb k 4 rfl rfl (by omega) (by decide) (by decide) d_M_wantRow_26 ?_
    refine lv_iload_n hx hb d_M_wantRow_27 rfl (lv_at hl 1 rfl) ?_
    refine xm_s6 hx hb hK hP hD hS (k % 4) rfl (by omega) d_M_wantRow_28 (fun H locs hP hD hS => ?_)
    refine lv_aload_n hx hb d_M_wantRow_29 rfl (lv_at hl 0 rfl) ?_
    refine xm_g3 hx hb hts hown hK hP d_M_wantRow_30 ?_
    refine lv_iload_n hx hb d_M_wantRow_33 rfl (lv_at hl 1 rfl) ?_
    refine lv_aload_n hx hb d_M_wantRow_34 rfl (lv_at hl 0 rfl) ?_
    refine xm_g2 hx hb hts hown hK hP d_M_wantRow_35 ?_
    refine lv_sipush (v := 2048) hx hb d_M_wantRow_38 (by decide) ?_
    refine lv_iload_n hx hb d_M_wantRow_41 rfl (lv_at hl 1 rfl) ?_
    refine xa_iadd hx hb 2048 k rfl rfl d_M_wantRow_42 ?_
    refine xm_l2 hx hb hK hP (2048 + k) rfl (by omega) d_M_wantRow_43 ?_
    refine xm_s3 hx hb hK hP hD hS k rfl (by omega) d_M_wantRow_44 (fun H locs hP hD hS => ?_)
    refine lv_aload_n hx hb d_M_wantRow_45 rfl (lv_at hl 0 rfl) ?_
    refine xm_g8 hx hb hts hown hK hP d_M_wantRow_46 ?_
    refine lv_iconst (v := 2) hx hb d_M_wantRow_49 (by decide) ?_
    refine lv_dup2_11 hx hb d_M_wantRow_50 rfl rfl ?_
    refine xm_l8 hx hb hK hP 2 rfl (by omega) d_M_wantRow_51 ?_
    refine lv_iconst (v := 1) hx hb d_M_wantRow_52 (by decide) ?_
    refine lv_iadd hx hb d_M_wantRow_53 ?_
    refine xm_s8 hx hb hK hP hD hS 2 rfl (by omega) d_M_wantRow_54 (fun H locs hP hD hS => ?_)
    exact xc_vret hx hb hr hlocks hP hK hD hS (by unfold gWantRow; rw [if_neg h1]; rfl) d_M_wantRow_55
set_option maxHeartbeats 4000000 in
set_option maxRecDepth 100000 in
theorem c_M_lineGoes (l : Launch) (D : va_G) (G : Nat → Nat) (kc : Nat → ClassId) (sz : Nat) (u : TM) (q : Nat) (hq : q < 16) (hI : mI u) : XMi l y_M_lineGoes k_M_lineGoes { frames := 2, cells := 0, slots := 0, locals := 42 } D vwCl (wM G kc) (tyMs kc) u sz [.ref (G 0), .int (nI q)] (fun r u1 => r = rmLineGo u q ∧ u1 = gLineGo u q) := by
  refine xb_ofi (cc := b_M_lineGoes) (maxL := 6) (ret := some .boolean) (by decide) rfl (Nat.le_of_ble_eq_true rfl) ?_
  intro p e s m below meth c A ls hsz hx hb hml hr hlocks hts hown hP hK hD hA hl
  have hl : lv_has ls 6 [(0, .ref (G 0)), (1, .int (nI q))] := hl
  have hS : va_S A s.heap s.heap [] := va_S.rf
  by_cases h1 : mLn u q = -1
  · clear hI
    refine lv_aload_n hx hb d_M_lineGoes_0 rfl (lv_at hl 0 rfl) ?_
    refine xm_g4 hx hb hts hown hK hP d_M_lineGoes_1 ?_
    refine lv_iload_n hx hb d_M_lineGoes_4 rfl (lv_at hl 1 rfl) ?_
    refine xm_l4 hx hb hK hP q rfl (by omega) d_M_lineGoes_5 ?_
    refine lv_istore_n (lv' := [(2, .int _), (0, .ref _), (1, .int (nI q))]) hx hb d_M_lineGoes_6 rfl hl (by decide) rfl (fun ls hl => ?_)
    refine lv_iload_n hx hb d_M_lineGoes_7 rfl (lv_at hl 0 rfl) ?_
    refine lv_if_lt (tgt := 24) hx hb d_M_lineGoes_8 (by decide) (fun _ => ?_) (fun c9 => absurd (by rw [h1]; decide) c9)
    refine lv_iconst (v := 0) hx hb d_M_lineGoes_24 (by decide) ?_
    refine lv_istore_n (lv' := [(3, .int (nI 0)), (2, .int _), (0, .ref _), (1, .int (nI q))]) hx hb d_M_lineGoes_25 rfl hl (by decide) rfl (fun ls hl => ?_)
    refine lv_iload_n hx hb d_M_lineGoes_26 rfl (lv_at hl 0 rfl) ?_
    refine lv_if_eq (tgt := 164) hx hb d_M_lineGoes_27 (by decide) (fun _ => ?_) (fun c9 => absurd nI_0 c9)
    refine lv_aload_n hx hb d_M_lineGoes_164 rfl (lv_at hl 2 rfl) ?_
    refine xm_g4 hx hb hts hown hK hP d_M_lineGoes_165 ?_
    refine lv_iload_n hx hb d_M_lineGoes_168 rfl (lv_at hl 3 rfl) ?_
    refine lv_iconst (v := (-1)) hx hb d_M_lineGoes_169 (by decide) ?_
    refine xm_s4 hx hb hK hP hD hS q rfl (by omega) d_M_lineGoes_170 (fun H locs hP hD hS => ?_)
    refine lv_aload_n hx hb d_M_lineGoes_171 rfl (lv_at hl 2 rfl) ?_
    refine xm_g5 hx hb hts hown hK hP d_M_lineGoes_172 ?_
    refine lv_iload_n hx hb d_M_lineGoes_175 rfl (lv_at hl 3 rfl) ?_
    refine lv_iconst (v := 0) hx hb d_M_lineGoes_176 (by decide) ?_
    refine xm_s5 hx hb hK hP hD hS (Or.inl rfl) q rfl (by omega) d_M_lineGoes_177 (fun H locs hP hD hS => ?_)
    refine lv_iload_n hx hb d_M_lineGoes_178 rfl (lv_at hl 0 rfl) ?_
    exact xc_zret hx hb hr hlocks (Or.inl rfl) hP hK hD hS ⟨by unfold rmLineGo; rw [if_pos (Or.inl h1)]; rfl, by unfold gLineGo; rw [if_pos (Or.inl h1)]; rfl⟩ d_M_lineGoes_179
  · obtain ⟨n, hn, hnq, hn1⟩ : ∃ n, n < 512 ∧ n % 16 = q ∧ mLn u q = nI n := (hI.2.1 q hq).resolve_left h1
    by_cases h2 : mLc u q = 0
    · clear hI
      refine lv_aload_n hx hb d_M_lineGoes_0 rfl (lv_at hl 0 rfl) ?_
      refine xm_g4 hx hb hts hown hK hP d_M_lineGoes_1 ?_
      refine lv_iload_n hx hb d_M_lineGoes_4 rfl (lv_at hl 1 rfl) ?_
      refine xm_l4 hx hb hK hP q rfl (by omega) d_M_lineGoes_5 ?_
      refine xa_top (nI n) hn1 ?_
      refine lv_istore_n (lv' := [(2, .int (nI n)), (0, .ref _), (1, .int (nI q))]) hx hb d_M_lineGoes_6 rfl hl (by decide) rfl (fun ls hl => ?_)
      refine lv_iload_n hx hb d_M_lineGoes_7 rfl (lv_at hl 0 rfl) ?_
      refine lv_if_lt (tgt := 24) hx hb d_M_lineGoes_8 (by decide) (fun c9 => absurd c9 (nI_pos (by omega))) (fun _ => ?_)
      refine lv_aload_n hx hb d_M_lineGoes_11 rfl (lv_at hl 1 rfl) ?_
      refine xm_g5 hx hb hts hown hK hP d_M_lineGoes_12 ?_
      refine lv_iload_n hx hb d_M_lineGoes_15 rfl (lv_at hl 2 rfl) ?_
      refine xm_l5 hx hb hK hP q rfl (by omega) d_M_lineGoes_16 ?_
      refine lv_if_eq (tgt := 24) hx hb d_M_lineGoes_17 (by decide) (fun _ => ?_) (fun c9 => absurd h2 c9)
      refine lv_iconst (v := 0) hx hb d_M_lineGoes_24 (by decide) ?_
      refine lv_istore_n (lv' := [(3, .int (nI 0)), (2, .int (nI n)), (0, .ref _), (1, .int (nI q))]) hx hb d_M_lineGoes_25 rfl hl (by decide) rfl (fun ls hl => ?_)
      refine lv_iload_n hx hb d_M_lineGoes_26 rfl (lv_at hl 0 rfl) ?_
      refine lv_if_eq (tgt := 164) hx hb d_M_lineGoes_27 (by decide) (fun _ => ?_) (fun c9 => absurd nI_0 c9)
      refine lv_aload_n hx hb d_M_lineGoes_164 rfl (lv_at hl 2 rfl) ?_
      refine xm_g4 hx hb hts hown hK hP d_M_lineGoes_165 ?_
      refine lv_iload_n hx hb d_M_lineGoes_168 rfl (lv_at hl 3 rfl) ?_
      refine lv_iconst (v := (-1)) hx hb d_M_lineGoes_169 (by decide) ?_
      refine xm_s4 hx hb hK hP hD hS q rfl (by omega) d_M_lineGoes_170 (fun H locs hP hD hS => ?_)
      refine lv_aload_n hx hb d_M_lineGoes_171 rfl (lv_at hl 2 rfl) ?_
      refine xm_g5 hx hb hts hown hK hP d_M_lineGoes_172 ?_
      refine lv_iload_n hx hb d_M_lineGoes_175 rfl (lv_at hl 3 rfl) ?_
      refine lv_iconst (v := 0) hx hb d_M_lineGoes_176 (by decide) ?_
      refine xm_s5 hx hb hK hP hD hS (Or.inl rfl) q rfl (by omega) d_M_lineGoes_177 (fun H locs hP hD hS => ?_)
      refine lv_iload_n hx hb d_M_lineGoes_178 rfl (lv_at hl 0 rfl) ?_
      exact xc_zret hx hb hr hlocks (Or.inl rfl) hP hK hD hS ⟨by unfold rmLineGo; rw [if_pos (Or.inr h2)]; rfl, by unfold gLineGo; rw [if_pos (Or.inr h2)]; rfl⟩ d_M_lineGoes_179
    · by_cases h3 : mTg (gWantRow (gWbL1 u n) (n / 16)) (2 * n) = 0
      · by_cases h4 : mTg (gWantRow (gWbL1 u n) (n / 16)) (2 * n + 1) = 0
        · skip
          refine lv_aload_n hx hb d_M_lineGoes_0 rfl (lv_at hl 0 rfl) ?_
          refine xm_g4 hx hb hts hown hK hP d_M_lineGoes_1 ?_
          refine lv_iload_n hx hb d_M_lineGoes_4 rfl (lv_at hl 1 rfl) ?_
          refine xm_l4 hx hb hK hP q rfl (by omega) d_M_lineGoes_5 ?_
          refine xa_top (nI n) hn1 ?_
          refine lv_istore_n (lv' := [(2, .int (nI n)), (0, .ref _), (1, .int (nI q))]) hx hb d_M_lineGoes_6 rfl hl (by decide) rfl (fun ls hl => ?_)
          refine lv_iload_n hx hb d_M_lineGoes_7 rfl (lv_at hl 0 rfl) ?_
          refine lv_if_lt (tgt := 24) hx hb d_M_lineGoes_8 (by decide) (fun c9 => absurd c9 (nI_pos (by omega))) (fun _ => ?_)
          refine lv_aload_n hx hb d_M_lineGoes_11 rfl (lv_at hl 1 rfl) ?_
          refine xm_g5 hx hb hts hown hK hP d_M_lineGoes_12 ?_
          refine lv_iload_n hx hb d_M_lineGoes_15 rfl (lv_at hl 2 rfl) ?_
          refine xm_l5 hx hb hK hP q rfl (by omega) d_M_lineGoes_16 ?_
          refine lv_if_eq (tgt := 24) hx hb d_M_lineGoes_17 (by decide) (fun c9 => absurd c9 h2) (fun _ => ?_)
          refine lv_iconst (v := 1) hx hb d_M_lineGoes_20 (by decide) ?_
          refine lv_goto (tgt := 25) hx hb d_M_lineGoes_21 (by decide) ?_
          refine lv_istore_n (lv' := [(3, .int (nI 1)), (2, .int (nI n)), (0, .ref _), (1, .int (nI q))]) hx hb d_M_lineGoes_25 rfl hl (by decide) rfl (fun ls hl => ?_)
          refine lv_iload_n hx hb d_M_lineGoes_26 rfl (lv_at hl 0 rfl) ?_
          refine lv_if_eq (tgt := 164) hx hb d_M_lineGoes_27 (by decide) (fun c9 => absurd c9 (by decide)) (fun _ => ?_)
          refine lv_iconst (v := 4) hx hb d_M_lineGoes_30 (by decide) ?_
          refine lv_iload_n hx hb d_M_lineGoes_31 rfl (lv_at hl 1 rfl) ?_
          refine xa_imul hx hb 4 n rfl rfl d_M_lineGoes_32 ?_
          refine lv_istore (lv' := [(4, .int (nI (4 * n))), (3, .int (nI 1)), (2, .int (nI n)), (0, .ref _), (1, .int (nI q))]) hx hb d_M_lineGoes_33 hl (by decide) rfl (fun ls hl => ?_)
          refine lv_iload hx hb d_M_lineGoes_35 (lv_at hl 0 rfl) ?_
          refine lv_iconst (v := 4) hx hb d_M_lineGoes_37 (by decide) ?_
          refine lv_iload_n hx hb d_M_lineGoes_38 rfl (lv_at hl 2 rfl) ?_
          refine xa_imul hx hb 4 n rfl rfl d_M_lineGoes_39 ?_
          refine lv_iconst (v := 4) hx hb d_M_lineGoes_40 (by decide) ?_
          refine xa_iadd hx hb (4 * n) 4 rfl rfl d_M_lineGoes_41 ?_
          refine lv_icmp_ge (tgt := 65) hx hb d_M_lineGoes_42 (by decide) (fun c9 => absurd c9 (nI_ge (a := (4 * n)) (b := ((4 * n) + 4)) (by omega) (by omega))) (fun _ => ?_)
          refine lv_aload_n hx hb d_M_lineGoes_45 rfl (lv_at hl 3 rfl) ?_
          refine xm_g2 hx hb hts hown hK hP d_M_lineGoes_46 ?_
          refine lv_iload hx hb d_M_lineGoes_49 (lv_at hl 0 rfl) ?_
          refine lv_aload_n hx hb d_M_lineGoes_51 rfl (lv_at hl 3 rfl) ?_
          refine xm_g0 hx hb hts hown hK hP d_M_lineGoes_52 ?_
          refine lv_iload hx hb d_M_lineGoes_55 (lv_at hl 0 rfl) ?_
          refine xm_l0 hx hb hK hP (4 * n) rfl (by omega) d_M_lineGoes_57 ?_
          refine xm_s2 hx hb hK hP hD hS (4 * n) rfl (by omega) d_M_lineGoes_58 (fun H locs hP hD hS => ?_)
          refine lv_iinc (v := nI ((4 * n) + 1)) (lv' := [(4, .int (nI ((4 * n) + 1))), (3, .int (nI 1)), (2, .int (nI n)), (0, .ref _), (1, .int (nI q))]) hx hb d_M_lineGoes_59 hl (k := 0) rfl (nI_add _ _) (by decide) rfl (fun ls hl => ?_)
          refine lv_goto (tgt := 35) hx hb d_M_lineGoes_62 (by decide) ?_
          refine lv_iload hx hb d_M_lineGoes_35 (lv_at hl 0 rfl) ?_
          refine lv_iconst (v := 4) hx hb d_M_lineGoes_37 (by decide) ?_
          refine lv_iload_n hx hb d_M_lineGoes_38 rfl (lv_at hl 2 rfl) ?_
          refine xa_imul hx hb 4 n rfl rfl d_M_lineGoes_39 ?_
          refine lv_iconst (v := 4) hx hb d_M_lineGoes_40 (by decide) ?_
          refine xa_iadd hx hb (4 * n) 4 rfl rfl d_M_lineGoes_41 ?_
          refine lv_icmp_ge (tgt := 65) hx hb d_M_lineGoes_42 (by decide) (fun c9 => absurd c9 (nI_ge (a := ((4 * n) + 1)) (b := ((4 * n) + 4)) (by omega) (by omega))) (fun _ => ?_)
          refine lv_aload_n hx hb d_M_lineGoes_45 rfl (lv_at hl 3 rfl) ?_
          refine xm_g2 hx hb hts hown hK hP d_M_lineGoes_46 ?_
          refine lv_iload hx hb d_M_lineGoes_49 (lv_at hl 0 rfl) ?_
          refine lv_aload_n hx hb d_M_lineGoes_51 rfl (lv_at hl 3 rfl) ?_
          refine xm_g0 hx hb hts hown hK hP d_M_lineGoes_52 ?_
          refine lv_iload hx hb d_M_lineGoes_55 (lv_at hl 0 rfl) ?_
          refine xm_l0 hx hb hK hP ((4 * n) + 1) rfl (by omega) d_M_lineGoes_57 ?_
          refine xm_s2 hx hb hK hP hD hS ((4 * n) + 1) rfl (by omega) d_M_lineGoes_58 (fun H locs hP hD hS => ?_)
          refine lv_iinc (v := nI (((4 * n) + 1) + 1)) (lv' := [(4, .int (nI (((4 * n) + 1) + 1))), (3, .int (nI 1)), (2, .int (nI n)), (0, .ref _), (1, .int (nI q))]) hx hb d_M_lineGoes_59 hl (k := 0) rfl (nI_add _ _) (by decide) rfl (fun ls hl => ?_)
          refine lv_goto (tgt := 35) hx hb d_M_lineGoes_62 (by decide) ?_
          refine lv_iload hx hb d_M_lineGoes_35 (lv_at hl 0 rfl) ?_
          refine lv_iconst (v := 4) hx hb d_M_lineGoes_37 (by decide) ?_
          refine lv_iload_n hx hb d_M_lineGoes_38 rfl (lv_at hl 2 rfl) ?_
          refine xa_imul hx hb 4 n rfl rfl d_M_lineGoes_39 ?_
          refine lv_iconst (v := 4) hx hb d_M_lineGoes_40 (by decide) ?_
          refine xa_iadd hx hb (4 * n) 4 rfl rfl d_M_lineGoes_41 ?_
          refine lv_icmp_ge (tgt := 65) hx hb d_M_lineGoes_42 (by decide) (fun c9 => absurd c9 (nI_ge (a := (((4 * n) + 1) + 1)) (b := ((4 * n) + 4)) (by omega) (by omega))) (fun _ => ?_)
          refine lv_aload_n hx hb d_M_lineGoes_45 rfl (lv_at hl 3 rfl) ?_
          refine xm_g2 hx hb hts hown hK hP d_M_lineGoes_46 ?_
          refine lv_iload hx hb d_M_lineGoes_49 (lv_at hl 0 rfl) ?_
          refine lv_aload_n hx hb d_M_lineGoes_51 rfl (lv_at hl 3 rfl) ?_
          refine xm_g0 hx hb hts hown hK hP d_M_lineGoes_52 ?_
          refine lv_iload hx hb d_M_lineGoes_55 (lv_at hl 0 rfl) ?_
          refine xm_l0 hx hb hK hP (((4 * n) + 1) + 1) rfl (by omega) d_M_lineGoes_57 ?_
          refine xm_s2 hx hb hK hP hD hS (((4 * n) + 1) + 1) rfl (by omega) d_M_lineGoes_58 (fun H locs hP hD hS => ?_)
          refine lv_iinc (v := nI ((((4 * n) + 1) + 1) + 1)) (lv' := [(4, .int (nI ((((4 * n) + 1) + 1) + 1))), (3, .int (nI 1)), (2, .int (nI n)), (0, .ref _), (1, .int (nI q))]) hx hb d_M_lineGoes_59 hl (k := 0) rfl (nI_add _ _) (by decide) rfl (fun ls hl => ?_)
          refine lv_goto (tgt := 35) hx hb d_M_lineGoes_62 (by decide) ?_
          refine lv_iload hx hb d_M_lineGoes_35 (lv_at hl 0 rfl) ?_
          refine lv_iconst (v := 4) hx hb d_M_lineGoes_37 (by decide) ?_
          refine lv_iload_n hx hb d_M_lineGoes_38 rfl (lv_at hl 2 rfl) ?_
          refine xa_imul hx hb 4 n rfl rfl d_M_lineGoes_39 ?_
          refine lv_iconst (v := 4) hx hb d_M_lineGoes_40 (by decide) ?_
          refine xa_iadd hx hb (4 * n) 4 rfl rfl d_M_lineGoes_41 ?_
          refine lv_icmp_ge (tgt := 65) hx hb d_M_lineGoes_42 (by decide) (fun c9 => absurd c9 (nI_ge (a := ((((4 * n) + 1) + 1) + 1)) (b := ((4 * n) + 4)) (by omega) (by omega))) (fun _ => ?_)
          refine lv_aload_n hx hb d_M_lineGoes_45 rfl (lv_at hl 3 rfl) ?_
          refine xm_g2 hx hb hts hown hK hP d_M_lineGoes_46 ?_
          refine lv_iload hx hb d_M_lineGoes_49 (lv_at hl 0 rfl) ?_
          refine lv_aload_n hx hb d_M_lineGoes_51 rfl (lv_at hl 3 rfl) ?_
          refine xm_g0 hx hb hts hown hK hP d_M_lineGoes_52 ?_
          refine lv_iload hx hb d_M_lineGoes_55 (lv_at hl 0 rfl) ?_
          refine xm_l0 hx hb hK hP ((((4 * n) + 1) + 1) + 1) rfl (by omega) d_M_lineGoes_57 ?_
          refine xm_s2 hx hb hK hP hD hS ((((4 * n) + 1) + 1) + 1) rfl (by omega) d_M_lineGoes_58 (fun H locs hP hD hS => ?_)
          refine lv_iinc (v := nI (((((4 * n) + 1) + 1) + 1) + 1)) (lv' := [(4, .int (nI (((((4 * n) + 1) + 1) + 1) + 1))), (3, .int (nI 1)), (2, .int (nI n)), (0, .ref _), (1, .int (nI q))]) hx hb d_M_lineGoes_59 hl (k := 0) rfl (nI_add _ _) (by decide) rfl (fun ls hl => ?_)
          refine lv_goto (tgt := 35) hx hb d_M_lineGoes_62 (by decide) ?_
          refine lv_iload hx hb d_M_lineGoes_35 (lv_at hl 0 rfl) ?_
          refine lv_iconst (v := 4) hx hb d_M_lineGoes_37 (by decide) ?_
          refine lv_iload_n hx hb d_M_lineGoes_38 rfl (lv_at hl 2 rfl) ?_
          refine xa_imul hx hb 4 n rfl rfl d_M_lineGoes_39 ?_
          refine lv_iconst (v := 4) hx hb d_M_lineGoes_40 (by decide) ?_
          refine xa_iadd hx hb (4 * n) 4 rfl rfl d_M_lineGoes_41 ?_
          refine lv_icmp_ge (tgt := 65) hx hb d_M_lineGoes_42 (by decide) (fun _ => ?_) (fun c9 => absurd (nI_le (a := ((4 * n) + 4)) (b := (((((4 * n) + 1) + 1) + 1) + 1)) (by omega) (by omega)) c9)
          have hP : va_P D vwCl (wM G kc (gWbL1 u n)) H := hP
          have hD : va_D A (wM G kc (gWbL1 u n)) := hD
          refine lv_iload_n hx hb d_M_lineGoes_65 rfl (lv_at hl 2 rfl) ?_
          refine lv_bipush (v := 16) hx hb d_M_lineGoes_66 (by decide) ?_
          refine xa_idiv hx hb n 16 rfl rfl (by omega) (by decide) (by decide) d_M_lineGoes_68 ?_
          refine lv_istore (lv' := [(4, .int (nI (n / 16))), (3, .int (nI 1)), (2, .int (nI n)), (0, .ref _), (1, .int (nI q))]) hx hb d_M_lineGoes_69 hl (by decide) rfl (fun ls hl => ?_)
          refine lv_aload_n hx hb d_M_lineGoes_71 rfl (lv_at hl 3 rfl) ?_
          refine lv_iload hx hb d_M_lineGoes_72 (lv_at hl 0 rfl) ?_
          refine xc_callv (n := 1) (C := "TagMemoryModel") hx hb hml hown hts (c_M_wantRow l D G kc _ _ (n / 16) (by omega) (by exact mI_wbL1 hI)) (tb_V wm_402 wm_404 ws_20 wm_2 wm_405) rfl rfl rfl (by decide +kernel) ⟨Nat.le_of_ble_eq_true rfl, Nat.le_of_ble_eq_true rfl⟩ hK hP hD hS hA rfl rfl rfl rfl hl.1 rfl (Nat.le_of_ble_eq_true rfl) d_M_lineGoes_74 ⟨Nat.zero_le _, Nat.zero_le _⟩ (fun u1 H locs hw hP hD hS => ?_)
          rw [hw] at hP hD; clear hw u1
          refine lv_iconst (v := 2) hx hb d_M_lineGoes_77 (by decide) ?_
          refine lv_iload_n hx hb d_M_lineGoes_78 rfl (lv_at hl 2 rfl) ?_
          refine xa_imul hx hb 2 n rfl rfl d_M_lineGoes_79 ?_
          refine lv_istore (lv' := [(5, .int (nI (2 * n))), (4, .int (nI (n / 16))), (3, .int (nI 1)), (2, .int (nI n)), (0, .ref _), (1, .int (nI q))]) hx hb d_M_lineGoes_80 hl (by decide) rfl (fun ls hl => ?_)
          refine lv_iload hx hb d_M_lineGoes_82 (lv_at hl 0 rfl) ?_
          refine lv_iconst (v := 2) hx hb d_M_lineGoes_84 (by decide) ?_
          refine lv_iload_n hx hb d_M_lineGoes_85 rfl (lv_at hl 3 rfl) ?_
          refine xa_imul hx hb 2 n rfl rfl d_M_lineGoes_86 ?_
          refine lv_iconst (v := 2) hx hb d_M_lineGoes_87 (by decide) ?_
          refine xa_iadd hx hb (2 * n) 2 rfl rfl d_M_lineGoes_88 ?_
          refine lv_icmp_ge (tgt := 144) hx hb d_M_lineGoes_89 (by decide) (fun c9 => absurd c9 (nI_ge (a := (2 * n)) (b := ((2 * n) + 2)) (by omega) (by omega))) (fun _ => ?_)
          refine lv_aload_n hx hb d_M_lineGoes_92 rfl (lv_at hl 4 rfl) ?_
          refine xm_g3 hx hb hts hown hK hP d_M_lineGoes_93 ?_
          refine lv_iload hx hb d_M_lineGoes_96 (lv_at hl 1 rfl) ?_
          refine lv_aload_n hx hb d_M_lineGoes_98 rfl (lv_at hl 4 rfl) ?_
          refine xm_g3 hx hb hts hown hK hP d_M_lineGoes_99 ?_
          refine lv_iload hx hb d_M_lineGoes_102 (lv_at hl 1 rfl) ?_
          refine xm_l3 hx hb hK hP (n / 16) rfl (by omega) d_M_lineGoes_104 ?_
          refine lv_iconst (v := 1) hx hb d_M_lineGoes_105 (by decide) ?_
          refine lv_iload hx hb d_M_lineGoes_106 (lv_at hl 0 rfl) ?_
          refine lv_bipush (v := 32) hx hb d_M_lineGoes_108 (by decide) ?_
          refine xa_irem hx hb (2 * n) 32 rfl rfl (by omega) (by decide) (by decide) d_M_lineGoes_110 ?_
          refine lv_ishl hx hb d_M_lineGoes_111 ?_
          refine lv_iconst (v := (-1)) hx hb d_M_lineGoes_112 (by decide) ?_
          refine lv_ixor hx hb d_M_lineGoes_113 ?_
          refine lv_iand hx hb d_M_lineGoes_114 ?_
          refine lv_aload_n hx hb d_M_lineGoes_115 rfl (lv_at hl 4 rfl) ?_
          refine xm_g1 hx hb hts hown hK hP d_M_lineGoes_116 ?_
          refine lv_iload hx hb d_M_lineGoes_119 (lv_at hl 0 rfl) ?_
          refine xm_l1 hx hb hK hP (2 * n) rfl (by omega) d_M_lineGoes_121 ?_
          refine lv_if_eq (tgt := 135) hx hb d_M_lineGoes_122 (by decide) (fun _ => ?_) (fun c9 => absurd h3 c9)
          refine lv_iconst (v := 0) hx hb d_M_lineGoes_135 (by decide) ?_
          refine lv_ior hx hb d_M_lineGoes_136 ?_
          refine xm_s3 hx hb hK hP hD hS (n / 16) rfl (by omega) d_M_lineGoes_137 (fun H locs hP hD hS => ?_)
          have hP : va_P D vwCl (wM G kc (gTg1 (gWantRow (gWbL1 u n) (n / 16)) (n / 16) (2 * n))) H := by rw [gTg1_t h3]; exact hP
          have hD : va_D A (wM G kc (gTg1 (gWantRow (gWbL1 u n) (n / 16)) (n / 16) (2 * n))) := by rw [gTg1_t h3]; exact hD
          refine lv_iinc (v := nI ((2 * n) + 1)) (lv' := [(5, .int (nI ((2 * n) + 1))), (4, .int (nI (n / 16))), (3, .int (nI 1)), (2, .int (nI n)), (0, .ref _), (1, .int (nI q))]) hx hb d_M_lineGoes_138 hl (k := 0) rfl (nI_add _ _) (by decide) rfl (fun ls hl => ?_)
          refine lv_goto (tgt := 82) hx hb d_M_lineGoes_141 (by decide) ?_
          refine lv_iload hx hb d_M_lineGoes_82 (lv_at hl 0 rfl) ?_
          refine lv_iconst (v := 2) hx hb d_M_lineGoes_84 (by decide) ?_
          refine lv_iload_n hx hb d_M_lineGoes_85 rfl (lv_at hl 3 rfl) ?_
          refine xa_imul hx hb 2 n rfl rfl d_M_lineGoes_86 ?_
          refine lv_iconst (v := 2) hx hb d_M_lineGoes_87 (by decide) ?_
          refine xa_iadd hx hb (2 * n) 2 rfl rfl d_M_lineGoes_88 ?_
          refine lv_icmp_ge (tgt := 144) hx hb d_M_lineGoes_89 (by decide) (fun c9 => absurd c9 (nI_ge (a := ((2 * n) + 1)) (b := ((2 * n) + 2)) (by omega) (by omega))) (fun _ => ?_)
          refine lv_aload_n hx hb d_M_lineGoes_92 rfl (lv_at hl 4 rfl) ?_
          refine xm_g3 hx hb hts hown hK hP d_M_lineGoes_93 ?_
          refine lv_iload hx hb d_M_lineGoes_96 (lv_at hl 1 rfl) ?_
          refine lv_aload_n hx hb d_M_lineGoes_98 rfl (lv_at hl 4 rfl) ?_
          refine xm_g3 hx hb hts hown hK hP d_M_lineGoes_99 ?_
          refine lv_iload hx hb d_M_lineGoes_102 (lv_at hl 1 rfl) ?_
          refine xm_l3 hx hb hK hP (n / 16) rfl (by omega) d_M_lineGoes_104 ?_
          refine lv_iconst (v := 1) hx hb d_M_lineGoes_105 (by decide) ?_
          refine lv_iload hx hb d_M_lineGoes_106 (lv_at hl 0 rfl) ?_
          refine lv_bipush (v := 32) hx hb d_M_lineGoes_108 (by decide) ?_
          refine xa_irem hx hb ((2 * n) + 1) 32 rfl rfl (by omega) (by decide) (by decide) d_M_lineGoes_110 ?_
          refine lv_ishl hx hb d_M_lineGoes_111 ?_
          refine lv_iconst (v := (-1)) hx hb d_M_lineGoes_112 (by decide) ?_
          refine lv_ixor hx hb d_M_lineGoes_113 ?_
          refine lv_iand hx hb d_M_lineGoes_114 ?_
          refine lv_aload_n hx hb d_M_lineGoes_115 rfl (lv_at hl 4 rfl) ?_
          refine xm_g1 hx hb hts hown hK hP d_M_lineGoes_116 ?_
          refine lv_iload hx hb d_M_lineGoes_119 (lv_at hl 0 rfl) ?_
          refine xm_l1 hx hb hK hP ((2 * n) + 1) rfl (by omega) d_M_lineGoes_121 ?_
          refine lv_if_eq (tgt := 135) hx hb d_M_lineGoes_122 (by decide) (fun _ => ?_) (fun c9 => absurd (show mTg (gTg1 (gWantRow (gWbL1 u n) (n / 16)) (n / 16) (2 * n)) (2 * n + 1) = 0 from h4) c9)
          refine lv_iconst (v := 0) hx hb d_M_lineGoes_135 (by decide) ?_
          refine lv_ior hx hb d_M_lineGoes_136 ?_
          refine xm_s3 hx hb hK hP hD hS (n / 16) rfl (by omega) d_M_lineGoes_137 (fun H locs hP hD hS => ?_)
          have hP : va_P D vwCl (wM G kc (gTg1 (gTg1 (gWantRow (gWbL1 u n) (n / 16)) (n / 16) (2 * n)) (n / 16) (2 * n + 1))) H := by rw [gTg1_t (show mTg (gTg1 (gWantRow (gWbL1 u n) (n / 16)) (n / 16) (2 * n)) (2 * n + 1) = 0 from h4)]; exact hP
          have hD : va_D A (wM G kc (gTg1 (gTg1 (gWantRow (gWbL1 u n) (n / 16)) (n / 16) (2 * n)) (n / 16) (2 * n + 1))) := by rw [gTg1_t (show mTg (gTg1 (gWantRow (gWbL1 u n) (n / 16)) (n / 16) (2 * n)) (2 * n + 1) = 0 from h4)]; exact hD
          refine lv_iinc (v := nI (((2 * n) + 1) + 1)) (lv' := [(5, .int (nI (((2 * n) + 1) + 1))), (4, .int (nI (n / 16))), (3, .int (nI 1)), (2, .int (nI n)), (0, .ref _), (1, .int (nI q))]) hx hb d_M_lineGoes_138 hl (k := 0) rfl (nI_add _ _) (by decide) rfl (fun ls hl => ?_)
          refine lv_goto (tgt := 82) hx hb d_M_lineGoes_141 (by decide) ?_
          refine lv_iload hx hb d_M_lineGoes_82 (lv_at hl 0 rfl) ?_
          refine lv_iconst (v := 2) hx hb d_M_lineGoes_84 (by decide) ?_
          refine lv_iload_n hx hb d_M_lineGoes_85 rfl (lv_at hl 3 rfl) ?_
          refine xa_imul hx hb 2 n rfl rfl d_M_lineGoes_86 ?_
          refine lv_iconst (v := 2) hx hb d_M_lineGoes_87 (by decide) ?_
          refine xa_iadd hx hb (2 * n) 2 rfl rfl d_M_lineGoes_88 ?_
          refine lv_icmp_ge (tgt := 144) hx hb d_M_lineGoes_89 (by decide) (fun _ => ?_) (fun c9 => absurd (nI_le (a := ((2 * n) + 2)) (b := (((2 * n) + 1) + 1)) (by omega) (by omega)) c9)
          refine lv_aload_n hx hb d_M_lineGoes_144 rfl (lv_at hl 4 rfl) ?_
          refine xm_g7 hx hb hts hown hK hP d_M_lineGoes_145 ?_
          refine lv_iload hx hb d_M_lineGoes_148 (lv_at hl 1 rfl) ?_
          refine lv_iconst (v := 4) hx hb d_M_lineGoes_150 (by decide) ?_
          refine xa_irem hx hb (n / 16) 4 rfl rfl (by omega) (by decide) (by decide) d_M_lineGoes_151 ?_
          refine lv_iconst (v := 1) hx hb d_M_lineGoes_152 (by decide) ?_
          refine xm_s7 hx hb hK hP hD hS (Or.inr rfl) ((n / 16) % 4) rfl (by omega) d_M_lineGoes_153 (fun H locs hP hD hS => ?_)
          refine lv_aload_n hx hb d_M_lineGoes_154 rfl (lv_at hl 4 rfl) ?_
          refine xm_g8 hx hb hts hown hK hP d_M_lineGoes_155 ?_
          refine lv_iconst (v := 1) hx hb d_M_lineGoes_158 (by decide) ?_
          refine lv_dup2_11 hx hb d_M_lineGoes_159 rfl rfl ?_
          refine xm_l8 hx hb hK hP 1 rfl (by omega) d_M_lineGoes_160 ?_
          refine lv_iconst (v := 1) hx hb d_M_lineGoes_161 (by decide) ?_
          refine lv_iadd hx hb d_M_lineGoes_162 ?_
          refine xm_s8 hx hb hK hP hD hS 1 rfl (by omega) d_M_lineGoes_163 (fun H locs hP hD hS => ?_)
          refine lv_aload_n hx hb d_M_lineGoes_164 rfl (lv_at hl 4 rfl) ?_
          refine xm_g4 hx hb hts hown hK hP d_M_lineGoes_165 ?_
          refine lv_iload_n hx hb d_M_lineGoes_168 rfl (lv_at hl 5 rfl) ?_
          refine lv_iconst (v := (-1)) hx hb d_M_lineGoes_169 (by decide) ?_
          refine xm_s4 hx hb hK hP hD hS q rfl (by omega) d_M_lineGoes_170 (fun H locs hP hD hS => ?_)
          refine lv_aload_n hx hb d_M_lineGoes_171 rfl (lv_at hl 4 rfl) ?_
          refine xm_g5 hx hb hts hown hK hP d_M_lineGoes_172 ?_
          refine lv_iload_n hx hb d_M_lineGoes_175 rfl (lv_at hl 5 rfl) ?_
          refine lv_iconst (v := 0) hx hb d_M_lineGoes_176 (by decide) ?_
          refine xm_s5 hx hb hK hP hD hS (Or.inl rfl) q rfl (by omega) d_M_lineGoes_177 (fun H locs hP hD hS => ?_)
          refine lv_iload_n hx hb d_M_lineGoes_178 rfl (lv_at hl 2 rfl) ?_
          exact xc_zret hx hb hr hlocks (Or.inr rfl) hP hK hD hS ⟨by unfold rmLineGo; rw [if_neg (fun z => z.elim h1 h2)]; rfl, by unfold gLineGo; rw [if_neg (fun z => z.elim h1 h2), hn1, nI_clamp (by omega)]; rfl⟩ d_M_lineGoes_179
        · skip
          refine lv_aload_n hx hb d_M_lineGoes_0 rfl (lv_at hl 0 rfl) ?_
          refine xm_g4 hx hb hts hown hK hP d_M_lineGoes_1 ?_
          refine lv_iload_n hx hb d_M_lineGoes_4 rfl (lv_at hl 1 rfl) ?_
          refine xm_l4 hx hb hK hP q rfl (by omega) d_M_lineGoes_5 ?_
          refine xa_top (nI n) hn1 ?_
          refine lv_istore_n (lv' := [(2, .int (nI n)), (0, .ref _), (1, .int (nI q))]) hx hb d_M_lineGoes_6 rfl hl (by decide) rfl (fun ls hl => ?_)
          refine lv_iload_n hx hb d_M_lineGoes_7 rfl (lv_at hl 0 rfl) ?_
          refine lv_if_lt (tgt := 24) hx hb d_M_lineGoes_8 (by decide) (fun c9 => absurd c9 (nI_pos (by omega))) (fun _ => ?_)
          refine lv_aload_n hx hb d_M_lineGoes_11 rfl (lv_at hl 1 rfl) ?_
          refine xm_g5 hx hb hts hown hK hP d_M_lineGoes_12 ?_
          refine lv_iload_n hx hb d_M_lineGoes_15 rfl (lv_at hl 2 rfl) ?_
          refine xm_l5 hx hb hK hP q rfl (by omega) d_M_lineGoes_16 ?_
          refine lv_if_eq (tgt := 24) hx hb d_M_lineGoes_17 (by decide) (fun c9 => absurd c9 h2) (fun _ => ?_)
          refine lv_iconst (v := 1) hx hb d_M_lineGoes_20 (by decide) ?_
          refine lv_goto (tgt := 25) hx hb d_M_lineGoes_21 (by decide) ?_
          refine lv_istore_n (lv' := [(3, .int (nI 1)), (2, .int (nI n)), (0, .ref _), (1, .int (nI q))]) hx hb d_M_lineGoes_25 rfl hl (by decide) rfl (fun ls hl => ?_)
          refine lv_iload_n hx hb d_M_lineGoes_26 rfl (lv_at hl 0 rfl) ?_
          refine lv_if_eq (tgt := 164) hx hb d_M_lineGoes_27 (by decide) (fun c9 => absurd c9 (by decide)) (fun _ => ?_)
          refine lv_iconst (v := 4) hx hb d_M_lineGoes_30 (by decide) ?_
          refine lv_iload_n hx hb d_M_lineGoes_31 rfl (lv_at hl 1 rfl) ?_
          refine xa_imul hx hb 4 n rfl rfl d_M_lineGoes_32 ?_
          refine lv_istore (lv' := [(4, .int (nI (4 * n))), (3, .int (nI 1)), (2, .int (nI n)), (0, .ref _), (1, .int (nI q))]) hx hb d_M_lineGoes_33 hl (by decide) rfl (fun ls hl => ?_)
          refine lv_iload hx hb d_M_lineGoes_35 (lv_at hl 0 rfl) ?_
          refine lv_iconst (v := 4) hx hb d_M_lineGoes_37 (by decide) ?_
          refine lv_iload_n hx hb d_M_lineGoes_38 rfl (lv_at hl 2 rfl) ?_
          refine xa_imul hx hb 4 n rfl rfl d_M_lineGoes_39 ?_
          refine lv_iconst (v := 4) hx hb d_M_lineGoes_40 (by decide) ?_
          refine xa_iadd hx hb (4 * n) 4 rfl rfl d_M_lineGoes_41 ?_
          refine lv_icmp_ge (tgt := 65) hx hb d_M_lineGoes_42 (by decide) (fun c9 => absurd c9 (nI_ge (a := (4 * n)) (b := ((4 * n) + 4)) (by omega) (by omega))) (fun _ => ?_)
          refine lv_aload_n hx hb d_M_lineGoes_45 rfl (lv_at hl 3 rfl) ?_
          refine xm_g2 hx hb hts hown hK hP d_M_lineGoes_46 ?_
          refine lv_iload hx hb d_M_lineGoes_49 (lv_at hl 0 rfl) ?_
          refine lv_aload_n hx hb d_M_lineGoes_51 rfl (lv_at hl 3 rfl) ?_
          refine xm_g0 hx hb hts hown hK hP d_M_lineGoes_52 ?_
          refine lv_iload hx hb d_M_lineGoes_55 (lv_at hl 0 rfl) ?_
          refine xm_l0 hx hb hK hP (4 * n) rfl (by omega) d_M_lineGoes_57 ?_
          refine xm_s2 hx hb hK hP hD hS (4 * n) rfl (by omega) d_M_lineGoes_58 (fun H locs hP hD hS => ?_)
          refine lv_iinc (v := nI ((4 * n) + 1)) (lv' := [(4, .int (nI ((4 * n) + 1))), (3, .int (nI 1)), (2, .int (nI n)), (0, .ref _), (1, .int (nI q))]) hx hb d_M_lineGoes_59 hl (k := 0) rfl (nI_add _ _) (by decide) rfl (fun ls hl => ?_)
          refine lv_goto (tgt := 35) hx hb d_M_lineGoes_62 (by decide) ?_
          refine lv_iload hx hb d_M_lineGoes_35 (lv_at hl 0 rfl) ?_
          refine lv_iconst (v := 4) hx hb d_M_lineGoes_37 (by decide) ?_
          refine lv_iload_n hx hb d_M_lineGoes_38 rfl (lv_at hl 2 rfl) ?_
          refine xa_imul hx hb 4 n rfl rfl d_M_lineGoes_39 ?_
          refine lv_iconst (v := 4) hx hb d_M_lineGoes_40 (by decide) ?_
          refine xa_iadd hx hb (4 * n) 4 rfl rfl d_M_lineGoes_41 ?_
          refine lv_icmp_ge (tgt := 65) hx hb d_M_lineGoes_42 (by decide) (fun c9 => absurd c9 (nI_ge (a := ((4 * n) + 1)) (b := ((4 * n) + 4)) (by omega) (by omega))) (fun _ => ?_)
          refine lv_aload_n hx hb d_M_lineGoes_45 rfl (lv_at hl 3 rfl) ?_
          refine xm_g2 hx hb hts hown hK hP d_M_lineGoes_46 ?_
          refine lv_iload hx hb d_M_lineGoes_49 (lv_at hl 0 rfl) ?_
          refine lv_aload_n hx hb d_M_lineGoes_51 rfl (lv_at hl 3 rfl) ?_
          refine xm_g0 hx hb hts hown hK hP d_M_lineGoes_52 ?_
          refine lv_iload hx hb d_M_lineGoes_55 (lv_at hl 0 rfl) ?_
          refine xm_l0 hx hb hK hP ((4 * n) + 1) rfl (by omega) d_M_lineGoes_57 ?_
          refine xm_s2 hx hb hK hP hD hS ((4 * n) + 1) rfl (by omega) d_M_lineGoes_58 (fun H locs hP hD hS => ?_)
          refine lv_iinc (v := nI (((4 * n) + 1) + 1)) (lv' := [(4, .int (nI (((4 * n) + 1) + 1))), (3, .int (nI 1)), (2, .int (nI n)), (0, .ref _), (1, .int (nI q))]) hx hb d_M_lineGoes_59 hl (k := 0) rfl (nI_add _ _) (by decide) rfl (fun ls hl => ?_)
          refine lv_goto (tgt := 35) hx hb d_M_lineGoes_62 (by decide) ?_
          refine lv_iload hx hb d_M_lineGoes_35 (lv_at hl 0 rfl) ?_
          refine lv_iconst (v := 4) hx hb d_M_lineGoes_37 (by decide) ?_
          refine lv_iload_n hx hb d_M_lineGoes_38 rfl (lv_at hl 2 rfl) ?_
          refine xa_imul hx hb 4 n rfl rfl d_M_lineGoes_39 ?_
          refine lv_iconst (v := 4) hx hb d_M_lineGoes_40 (by decide) ?_
          refine xa_iadd hx hb (4 * n) 4 rfl rfl d_M_lineGoes_41 ?_
          refine lv_icmp_ge (tgt := 65) hx hb d_M_lineGoes_42 (by decide) (fun c9 => absurd c9 (nI_ge (a := (((4 * n) + 1) + 1)) (b := ((4 * n) + 4)) (by omega) (by omega))) (fun _ => ?_)
          refine lv_aload_n hx hb d_M_lineGoes_45 rfl (lv_at hl 3 rfl) ?_
          refine xm_g2 hx hb hts hown hK hP d_M_lineGoes_46 ?_
          refine lv_iload hx hb d_M_lineGoes_49 (lv_at hl 0 rfl) ?_
          refine lv_aload_n hx hb d_M_lineGoes_51 rfl (lv_at hl 3 rfl) ?_
          refine xm_g0 hx hb hts hown hK hP d_M_lineGoes_52 ?_
          refine lv_iload hx hb d_M_lineGoes_55 (lv_at hl 0 rfl) ?_
          refine xm_l0 hx hb hK hP (((4 * n) + 1) + 1) rfl (by omega) d_M_lineGoes_57 ?_
          refine xm_s2 hx hb hK hP hD hS (((4 * n) + 1) + 1) rfl (by omega) d_M_lineGoes_58 (fun H locs hP hD hS => ?_)
          refine lv_iinc (v := nI ((((4 * n) + 1) + 1) + 1)) (lv' := [(4, .int (nI ((((4 * n) + 1) + 1) + 1))), (3, .int (nI 1)), (2, .int (nI n)), (0, .ref _), (1, .int (nI q))]) hx hb d_M_lineGoes_59 hl (k := 0) rfl (nI_add _ _) (by decide) rfl (fun ls hl => ?_)
          refine lv_goto (tgt := 35) hx hb d_M_lineGoes_62 (by decide) ?_
          refine lv_iload hx hb d_M_lineGoes_35 (lv_at hl 0 rfl) ?_
          refine lv_iconst (v := 4) hx hb d_M_lineGoes_37 (by decide) ?_
          refine lv_iload_n hx hb d_M_lineGoes_38 rfl (lv_at hl 2 rfl) ?_
          refine xa_imul hx hb 4 n rfl rfl d_M_lineGoes_39 ?_
          refine lv_iconst (v := 4) hx hb d_M_lineGoes_40 (by decide) ?_
          refine xa_iadd hx hb (4 * n) 4 rfl rfl d_M_lineGoes_41 ?_
          refine lv_icmp_ge (tgt := 65) hx hb d_M_lineGoes_42 (by decide) (fun c9 => absurd c9 (nI_ge (a := ((((4 * n) + 1) + 1) + 1)) (b := ((4 * n) + 4)) (by omega) (by omega))) (fun _ => ?_)
          refine lv_aload_n hx hb d_M_lineGoes_45 rfl (lv_at hl 3 rfl) ?_
          refine xm_g2 hx hb hts hown hK hP d_M_lineGoes_46 ?_
          refine lv_iload hx hb d_M_lineGoes_49 (lv_at hl 0 rfl) ?_
          refine lv_aload_n hx hb d_M_lineGoes_51 rfl (lv_at hl 3 rfl) ?_
          refine xm_g0 hx hb hts hown hK hP d_M_lineGoes_52 ?_
          refine lv_iload hx hb d_M_lineGoes_55 (lv_at hl 0 rfl) ?_
          refine xm_l0 hx hb hK hP ((((4 * n) + 1) + 1) + 1) rfl (by omega) d_M_lineGoes_57 ?_
          refine xm_s2 hx hb hK hP hD hS ((((4 * n) + 1) + 1) + 1) rfl (by omega) d_M_lineGoes_58 (fun H locs hP hD hS => ?_)
          refine lv_iinc (v := nI (((((4 * n) + 1) + 1) + 1) + 1)) (lv' := [(4, .int (nI (((((4 * n) + 1) + 1) + 1) + 1))), (3, .int (nI 1)), (2, .int (nI n)), (0, .ref _), (1, .int (nI q))]) hx hb d_M_lineGoes_59 hl (k := 0) rfl (nI_add _ _) (by decide) rfl (fun ls hl => ?_)
          refine lv_goto (tgt := 35) hx hb d_M_lineGoes_62 (by decide) ?_
          refine lv_iload hx hb d_M_lineGoes_35 (lv_at hl 0 rfl) ?_
          refine lv_iconst (v := 4) hx hb d_M_lineGoes_37 (by decide) ?_
          refine lv_iload_n hx hb d_M_lineGoes_38 rfl (lv_at hl 2 rfl) ?_
          refine xa_imul hx hb 4 n rfl rfl d_M_lineGoes_39 ?_
          refine lv_iconst (v := 4) hx hb d_M_lineGoes_40 (by decide) ?_
          refine xa_iadd hx hb (4 * n) 4 rfl rfl d_M_lineGoes_41 ?_
          refine lv_icmp_ge (tgt := 65) hx hb d_M_lineGoes_42 (by decide) (fun _ => ?_) (fun c9 => absurd (nI_le (a := ((4 * n) + 4)) (b := (((((4 * n) + 1) + 1) + 1) + 1)) (by omega) (by omega)) c9)
          have hP : va_P D vwCl (wM G kc (gWbL1 u n)) H := hP
          have hD : va_D A (wM G kc (gWbL1 u n)) := hD
          refine lv_iload_n hx hb d_M_lineGoes_65 rfl (lv_at hl 2 rfl) ?_
          refine lv_bipush (v := 16) hx hb d_M_lineGoes_66 (by decide) ?_
          refine xa_idiv hx hb n 16 rfl rfl (by omega) (by decide) (by decide) d_M_lineGoes_68 ?_
          refine lv_istore (lv' := [(4, .int (nI (n / 16))), (3, .int (nI 1)), (2, .int (nI n)), (0, .ref _), (1, .int (nI q))]) hx hb d_M_lineGoes_69 hl (by decide) rfl (fun ls hl => ?_)
          refine lv_aload_n hx hb d_M_lineGoes_71 rfl (lv_at hl 3 rfl) ?_
          refine lv_iload hx hb d_M_lineGoes_72 (lv_at hl 0 rfl) ?_
          refine xc_callv (n := 1) (C := "TagMemoryModel") hx hb hml hown hts (c_M_wantRow l D G kc _ _ (n / 16) (by omega) (by exact mI_wbL1 hI)) (tb_V wm_402 wm_404 ws_20 wm_2 wm_405) rfl rfl rfl (by decide +kernel) ⟨Nat.le_of_ble_eq_true rfl, Nat.le_of_ble_eq_true rfl⟩ hK hP hD hS hA rfl rfl rfl rfl hl.1 rfl (Nat.le_of_ble_eq_true rfl) d_M_lineGoes_74 ⟨Nat.zero_le _, Nat.zero_le _⟩ (fun u1 H locs hw hP hD hS => ?_)
          rw [hw] at hP hD; clear hw u1
          refine lv_iconst (v := 2) hx hb d_M_lineGoes_77 (by decide) ?_
          refine lv_iload_n hx hb d_M_lineGoes_78 rfl (lv_at hl 2 rfl) ?_
          refine xa_imul hx hb 2 n rfl rfl d_M_lineGoes_79 ?_
          refine lv_istore (lv' := [(5, .int (nI (2 * n))), (4, .int (nI (n / 16))), (3, .int (nI 1)), (2, .int (nI n)), (0, .ref _), (1, .int (nI q))]) hx hb d_M_lineGoes_80 hl (by decide) rfl (fun ls hl => ?_)
          refine lv_iload hx hb d_M_lineGoes_82 (lv_at hl 0 rfl) ?_
          refine lv_iconst (v := 2) hx hb d_M_lineGoes_84 (by decide) ?_
          refine lv_iload_n hx hb d_M_lineGoes_85 rfl (lv_at hl 3 rfl) ?_
          refine xa_imul hx hb 2 n rfl rfl d_M_lineGoes_86 ?_
          refine lv_iconst (v := 2) hx hb d_M_lineGoes_87 (by decide) ?_
          refine xa_iadd hx hb (2 * n) 2 rfl rfl d_M_lineGoes_88 ?_
          refine lv_icmp_ge (tgt := 144) hx hb d_M_lineGoes_89 (by decide) (fun c9 => absurd c9 (nI_ge (a := (2 * n)) (b := ((2 * n) + 2)) (by omega) (by omega))) (fun _ => ?_)
          refine lv_aload_n hx hb d_M_lineGoes_92 rfl (lv_at hl 4 rfl) ?_
          refine xm_g3 hx hb hts hown hK hP d_M_lineGoes_93 ?_
          refine lv_iload hx hb d_M_lineGoes_96 (lv_at hl 1 rfl) ?_
          refine lv_aload_n hx hb d_M_lineGoes_98 rfl (lv_at hl 4 rfl) ?_
          refine xm_g3 hx hb hts hown hK hP d_M_lineGoes_99 ?_
          refine lv_iload hx hb d_M_lineGoes_102 (lv_at hl 1 rfl) ?_
          refine xm_l3 hx hb hK hP (n / 16) rfl (by omega) d_M_lineGoes_104 ?_
          refine lv_iconst (v := 1) hx hb d_M_lineGoes_105 (by decide) ?_
          refine lv_iload hx hb d_M_lineGoes_106 (lv_at hl 0 rfl) ?_
          refine lv_bipush (v := 32) hx hb d_M_lineGoes_108 (by decide) ?_
          refine xa_irem hx hb (2 * n) 32 rfl rfl (by omega) (by decide) (by decide) d_M_lineGoes_110 ?_
          refine lv_ishl hx hb d_M_lineGoes_111 ?_
          refine lv_iconst (v := (-1)) hx hb d_M_lineGoes_112 (by decide) ?_
          refine lv_ixor hx hb d_M_lineGoes_113 ?_
          refine lv_iand hx hb d_M_lineGoes_114 ?_
          refine lv_aload_n hx hb d_M_lineGoes_115 rfl (lv_at hl 4 rfl) ?_
          refine xm_g1 hx hb hts hown hK hP d_M_lineGoes_116 ?_
          refine lv_iload hx hb d_M_lineGoes_119 (lv_at hl 0 rfl) ?_
          refine xm_l1 hx hb hK hP (2 * n) rfl (by omega) d_M_lineGoes_121 ?_
          refine lv_if_eq (tgt := 135) hx hb d_M_lineGoes_122 (by decide) (fun _ => ?_) (fun c9 => absurd h3 c9)
          refine lv_iconst (v := 0) hx hb d_M_lineGoes_135 (by decide) ?_
          refine lv_ior hx hb d_M_lineGoes_136 ?_
          refine xm_s3 hx hb hK hP hD hS (n / 16) rfl (by omega) d_M_lineGoes_137 (fun H locs hP hD hS => ?_)
          have hP : va_P D vwCl (wM G kc (gTg1 (gWantRow (gWbL1 u n) (n / 16)) (n / 16) (2 * n))) H := by rw [gTg1_t h3]; exact hP
          have hD : va_D A (wM G kc (gTg1 (gWantRow (gWbL1 u n) (n / 16)) (n / 16) (2 * n))) := by rw [gTg1_t h3]; exact hD
          refine lv_iinc (v := nI ((2 * n) + 1)) (lv' := [(5, .int (nI ((2 * n) + 1))), (4, .int (nI (n / 16))), (3, .int (nI 1)), (2, .int (nI n)), (0, .ref _), (1, .int (nI q))]) hx hb d_M_lineGoes_138 hl (k := 0) rfl (nI_add _ _) (by decide) rfl (fun ls hl => ?_)
          refine lv_goto (tgt := 82) hx hb d_M_lineGoes_141 (by decide) ?_
          refine lv_iload hx hb d_M_lineGoes_82 (lv_at hl 0 rfl) ?_
          refine lv_iconst (v := 2) hx hb d_M_lineGoes_84 (by decide) ?_
          refine lv_iload_n hx hb d_M_lineGoes_85 rfl (lv_at hl 3 rfl) ?_
          refine xa_imul hx hb 2 n rfl rfl d_M_lineGoes_86 ?_
          refine lv_iconst (v := 2) hx hb d_M_lineGoes_87 (by decide) ?_
          refine xa_iadd hx hb (2 * n) 2 rfl rfl d_M_lineGoes_88 ?_
          refine lv_icmp_ge (tgt := 144) hx hb d_M_lineGoes_89 (by decide) (fun c9 => absurd c9 (nI_ge (a := ((2 * n) + 1)) (b := ((2 * n) + 2)) (by omega) (by omega))) (fun _ => ?_)
          refine lv_aload_n hx hb d_M_lineGoes_92 rfl (lv_at hl 4 rfl) ?_
          refine xm_g3 hx hb hts hown hK hP d_M_lineGoes_93 ?_
          refine lv_iload hx hb d_M_lineGoes_96 (lv_at hl 1 rfl) ?_
          refine lv_aload_n hx hb d_M_lineGoes_98 rfl (lv_at hl 4 rfl) ?_
          refine xm_g3 hx hb hts hown hK hP d_M_lineGoes_99 ?_
          refine lv_iload hx hb d_M_lineGoes_102 (lv_at hl 1 rfl) ?_
          refine xm_l3 hx hb hK hP (n / 16) rfl (by omega) d_M_lineGoes_104 ?_
          refine lv_iconst (v := 1) hx hb d_M_lineGoes_105 (by decide) ?_
          refine lv_iload hx hb d_M_lineGoes_106 (lv_at hl 0 rfl) ?_
          refine lv_bipush (v := 32) hx hb d_M_lineGoes_108 (by decide) ?_
          refine xa_irem hx hb ((2 * n) + 1) 32 rfl rfl (by omega) (by decide) (by decide) d_M_lineGoes_110 ?_
          refine lv_ishl hx hb d_M_lineGoes_111 ?_
          refine lv_iconst (v := (-1)) hx hb d_M_lineGoes_112 (by decide) ?_
          refine lv_ixor hx hb d_M_lineGoes_113 ?_
          refine lv_iand hx hb d_M_lineGoes_114 ?_
          refine lv_aload_n hx hb d_M_lineGoes_115 rfl (lv_at hl 4 rfl) ?_
          refine xm_g1 hx hb hts hown hK hP d_M_lineGoes_116 ?_
          refine lv_iload hx hb d_M_lineGoes_119 (lv_at hl 0 rfl) ?_
          refine xm_l1 hx hb hK hP ((2 * n) + 1) rfl (by omega) d_M_lineGoes_121 ?_
          refine lv_if_eq (tgt := 135) hx hb d_M_lineGoes_122 (by decide) (fun c9 => absurd c9 (show ¬ mTg (gTg1 (gWantRow (gWbL1 u n) (n / 16)) (n / 16) (2 * n)) (2 * n + 1) = 0 from h4)) (fun _ => ?_)
          refine lv_iconst (v := 1) hx hb d_M_lineGoes_125 (by decide) ?_
          refine lv_iload hx hb d_M_lineGoes_126 (lv_at hl 0 rfl) ?_
          refine lv_bipush (v := 32) hx hb d_M_lineGoes_128 (by decide) ?_
          refine xa_irem hx hb ((2 * n) + 1) 32 rfl rfl (by omega) (by decide) (by decide) d_M_lineGoes_130 ?_
          refine lv_ishl hx hb d_M_lineGoes_131 ?_
          refine lv_goto (tgt := 136) hx hb d_M_lineGoes_132 (by decide) ?_
          refine lv_ior hx hb d_M_lineGoes_136 ?_
          refine xm_s3 hx hb hK hP hD hS (n / 16) rfl (by omega) d_M_lineGoes_137 (fun H locs hP hD hS => ?_)
          have hP : va_P D vwCl (wM G kc (gTg1 (gTg1 (gWantRow (gWbL1 u n) (n / 16)) (n / 16) (2 * n)) (n / 16) (2 * n + 1))) H := by rw [gTg1_f (show ¬ mTg (gTg1 (gWantRow (gWbL1 u n) (n / 16)) (n / 16) (2 * n)) (2 * n + 1) = 0 from h4)]; exact hP
          have hD : va_D A (wM G kc (gTg1 (gTg1 (gWantRow (gWbL1 u n) (n / 16)) (n / 16) (2 * n)) (n / 16) (2 * n + 1))) := by rw [gTg1_f (show ¬ mTg (gTg1 (gWantRow (gWbL1 u n) (n / 16)) (n / 16) (2 * n)) (2 * n + 1) = 0 from h4)]; exact hD
          refine lv_iinc (v := nI (((2 * n) + 1) + 1)) (lv' := [(5, .int (nI (((2 * n) + 1) + 1))), (4, .int (nI (n / 16))), (3, .int (nI 1)), (2, .int (nI n)), (0, .ref _), (1, .int (nI q))]) hx hb d_M_lineGoes_138 hl (k := 0) rfl (nI_add _ _) (by decide) rfl (fun ls hl => ?_)
          refine lv_goto (tgt := 82) hx hb d_M_lineGoes_141 (by decide) ?_
          refine lv_iload hx hb d_M_lineGoes_82 (lv_at hl 0 rfl) ?_
          refine lv_iconst (v := 2) hx hb d_M_lineGoes_84 (by decide) ?_
          refine lv_iload_n hx hb d_M_lineGoes_85 rfl (lv_at hl 3 rfl) ?_
          refine xa_imul hx hb 2 n rfl rfl d_M_lineGoes_86 ?_
          refine lv_iconst (v := 2) hx hb d_M_lineGoes_87 (by decide) ?_
          refine xa_iadd hx hb (2 * n) 2 rfl rfl d_M_lineGoes_88 ?_
          refine lv_icmp_ge (tgt := 144) hx hb d_M_lineGoes_89 (by decide) (fun _ => ?_) (fun c9 => absurd (nI_le (a := ((2 * n) + 2)) (b := (((2 * n) + 1) + 1)) (by omega) (by omega)) c9)
          refine lv_aload_n hx hb d_M_lineGoes_144 rfl (lv_at hl 4 rfl) ?_
          refine xm_g7 hx hb hts hown hK hP d_M_lineGoes_145 ?_
          refine lv_iload hx hb d_M_lineGoes_148 (lv_at hl 1 rfl) ?_
          refine lv_iconst (v := 4) hx hb d_M_lineGoes_150 (by decide) ?_
          refine xa_irem hx hb (n / 16) 4 rfl rfl (by omega) (by decide) (by decide) d_M_lineGoes_151 ?_
          refine lv_iconst (v := 1) hx hb d_M_lineGoes_152 (by decide) ?_
          refine xm_s7 hx hb hK hP hD hS (Or.inr rfl) ((n / 16) % 4) rfl (by omega) d_M_lineGoes_153 (fun H locs hP hD hS => ?_)
          refine lv_aload_n hx hb d_M_lineGoes_154 rfl (lv_at hl 4 rfl) ?_
          refine xm_g8 hx hb hts hown hK hP d_M_lineGoes_155 ?_
          refine lv_iconst (v := 1) hx hb d_M_lineGoes_158 (by decide) ?_
          refine lv_dup2_11 hx hb d_M_lineGoes_159 rfl rfl ?_
          refine xm_l8 hx hb hK hP 1 rfl (by omega) d_M_lineGoes_160 ?_
          refine lv_iconst (v := 1) hx hb d_M_lineGoes_161 (by decide) ?_
          refine lv_iadd hx hb d_M_lineGoes_162 ?_
          refine xm_s8 hx hb hK hP hD hS 1 rfl (by omega) d_M_lineGoes_163 (fun H locs hP hD hS => ?_)
          refine lv_aload_n hx hb d_M_lineGoes_164 rfl (lv_at hl 4 rfl) ?_
          refine xm_g4 hx hb hts hown hK hP d_M_lineGoes_165 ?_
          refine lv_iload_n hx hb d_M_lineGoes_168 rfl (lv_at hl 5 rfl) ?_
          refine lv_iconst (v := (-1)) hx hb d_M_lineGoes_169 (by decide) ?_
          refine xm_s4 hx hb hK hP hD hS q rfl (by omega) d_M_lineGoes_170 (fun H locs hP hD hS => ?_)
          refine lv_aload_n hx hb d_M_lineGoes_171 rfl (lv_at hl 4 rfl) ?_
          refine xm_g5 hx hb hts hown hK hP d_M_lineGoes_172 ?_
          refine lv_iload_n hx hb d_M_lineGoes_175 rfl (lv_at hl 5 rfl) ?_
          refine lv_iconst (v := 0) hx hb d_M_lineGoes_176 (by decide) ?_
          refine xm_s5 hx hb hK hP hD hS (Or.inl rfl) q rfl (by omega) d_M_lineGoes_177 (fun H locs hP hD hS => ?_)
          refine lv_iload_n hx hb d_M_lineGoes_178 rfl (lv_at hl 2 rfl) ?_
          exact xc_zret hx hb hr hlocks (Or.inr rfl) hP hK hD hS ⟨by unfold rmLineGo; rw [if_neg (fun z => z.elim h1 h2)]; rfl, by unfold gLineGo; rw [if_neg (fun z => z.elim h1 h2), hn1, nI_clamp (by omega)]; rfl⟩ d_M_lineGoes_179
      · by_cases h4 : mTg (gWantRow (gWbL1 u n) (n / 16)) (2 * n + 1) = 0
        · skip
          refine lv_aload_n hx hb d_M_lineGoes_0 rfl (lv_at hl 0 rfl) ?_
          refine xm_g4 hx hb hts hown hK hP d_M_lineGoes_1 ?_
          refine lv_iload_n hx hb d_M_lineGoes_4 rfl (lv_at hl 1 rfl) ?_
          refine xm_l4 hx hb hK hP q rfl (by omega) d_M_lineGoes_5 ?_
          refine xa_top (nI n) hn1 ?_
          refine lv_istore_n (lv' := [(2, .int (nI n)), (0, .ref _), (1, .int (nI q))]) hx hb d_M_lineGoes_6 rfl hl (by decide) rfl (fun ls hl => ?_)
          refine lv_iload_n hx hb d_M_lineGoes_7 rfl (lv_at hl 0 rfl) ?_
          refine lv_if_lt (tgt := 24) hx hb d_M_lineGoes_8 (by decide) (fun c9 => absurd c9 (nI_pos (by omega))) (fun _ => ?_)
          refine lv_aload_n hx hb d_M_lineGoes_11 rfl (lv_at hl 1 rfl) ?_
          refine xm_g5 hx hb hts hown hK hP d_M_lineGoes_12 ?_
          refine lv_iload_n hx hb d_M_lineGoes_15 rfl (lv_at hl 2 rfl) ?_
          refine xm_l5 hx hb hK hP q rfl (by omega) d_M_lineGoes_16 ?_
          refine lv_if_eq (tgt := 24) hx hb d_M_lineGoes_17 (by decide) (fun c9 => absurd c9 h2) (fun _ => ?_)
          refine lv_iconst (v := 1) hx hb d_M_lineGoes_20 (by decide) ?_
          refine lv_goto (tgt := 25) hx hb d_M_lineGoes_21 (by decide) ?_
          refine lv_istore_n (lv' := [(3, .int (nI 1)), (2, .int (nI n)), (0, .ref _), (1, .int (nI q))]) hx hb d_M_lineGoes_25 rfl hl (by decide) rfl (fun ls hl => ?_)
          refine lv_iload_n hx hb d_M_lineGoes_26 rfl (lv_at hl 0 rfl) ?_
          refine lv_if_eq (tgt := 164) hx hb d_M_lineGoes_27 (by decide) (fun c9 => absurd c9 (by decide)) (fun _ => ?_)
          refine lv_iconst (v := 4) hx hb d_M_lineGoes_30 (by decide) ?_
          refine lv_iload_n hx hb d_M_lineGoes_31 rfl (lv_at hl 1 rfl) ?_
          refine xa_imul hx hb 4 n rfl rfl d_M_lineGoes_32 ?_
          refine lv_istore (lv' := [(4, .int (nI (4 * n))), (3, .int (nI 1)), (2, .int (nI n)), (0, .ref _), (1, .int (nI q))]) hx hb d_M_lineGoes_33 hl (by decide) rfl (fun ls hl => ?_)
          refine lv_iload hx hb d_M_lineGoes_35 (lv_at hl 0 rfl) ?_
          refine lv_iconst (v := 4) hx hb d_M_lineGoes_37 (by decide) ?_
          refine lv_iload_n hx hb d_M_lineGoes_38 rfl (lv_at hl 2 rfl) ?_
          refine xa_imul hx hb 4 n rfl rfl d_M_lineGoes_39 ?_
          refine lv_iconst (v := 4) hx hb d_M_lineGoes_40 (by decide) ?_
          refine xa_iadd hx hb (4 * n) 4 rfl rfl d_M_lineGoes_41 ?_
          refine lv_icmp_ge (tgt := 65) hx hb d_M_lineGoes_42 (by decide) (fun c9 => absurd c9 (nI_ge (a := (4 * n)) (b := ((4 * n) + 4)) (by omega) (by omega))) (fun _ => ?_)
          refine lv_aload_n hx hb d_M_lineGoes_45 rfl (lv_at hl 3 rfl) ?_
          refine xm_g2 hx hb hts hown hK hP d_M_lineGoes_46 ?_
          refine lv_iload hx hb d_M_lineGoes_49 (lv_at hl 0 rfl) ?_
          refine lv_aload_n hx hb d_M_lineGoes_51 rfl (lv_at hl 3 rfl) ?_
          refine xm_g0 hx hb hts hown hK hP d_M_lineGoes_52 ?_
          refine lv_iload hx hb d_M_lineGoes_55 (lv_at hl 0 rfl) ?_
          refine xm_l0 hx hb hK hP (4 * n) rfl (by omega) d_M_lineGoes_57 ?_
          refine xm_s2 hx hb hK hP hD hS (4 * n) rfl (by omega) d_M_lineGoes_58 (fun H locs hP hD hS => ?_)
          refine lv_iinc (v := nI ((4 * n) + 1)) (lv' := [(4, .int (nI ((4 * n) + 1))), (3, .int (nI 1)), (2, .int (nI n)), (0, .ref _), (1, .int (nI q))]) hx hb d_M_lineGoes_59 hl (k := 0) rfl (nI_add _ _) (by decide) rfl (fun ls hl => ?_)
          refine lv_goto (tgt := 35) hx hb d_M_lineGoes_62 (by decide) ?_
          refine lv_iload hx hb d_M_lineGoes_35 (lv_at hl 0 rfl) ?_
          refine lv_iconst (v := 4) hx hb d_M_lineGoes_37 (by decide) ?_
          refine lv_iload_n hx hb d_M_lineGoes_38 rfl (lv_at hl 2 rfl) ?_
          refine xa_imul hx hb 4 n rfl rfl d_M_lineGoes_39 ?_
          refine lv_iconst (v := 4) hx hb d_M_lineGoes_40 (by decide) ?_
          refine xa_iadd hx hb (4 * n) 4 rfl rfl d_M_lineGoes_41 ?_
          refine lv_icmp_ge (tgt := 65) hx hb d_M_lineGoes_42 (by decide) (fun c9 => absurd c9 (nI_ge (a := ((4 * n) + 1)) (b := ((4 * n) + 4)) (by omega) (by omega))) (fun _ => ?_)
          refine lv_aload_n hx hb d_M_lineGoes_45 rfl (lv_at hl 3 rfl) ?_
          refine xm_g2 hx hb hts hown hK hP d_M_lineGoes_46 ?_
          refine lv_iload hx hb d_M_lineGoes_49 (lv_at hl 0 rfl) ?_
          refine lv_aload_n hx hb d_M_lineGoes_51 rfl (lv_at hl 3 rfl) ?_
          refine xm_g0 hx hb hts hown hK hP d_M_lineGoes_52 ?_
          refine lv_iload hx hb d_M_lineGoes_55 (lv_at hl 0 rfl) ?_
          refine xm_l0 hx hb hK hP ((4 * n) + 1) rfl (by omega) d_M_lineGoes_57 ?_
          refine xm_s2 hx hb hK hP hD hS ((4 * n) + 1) rfl (by omega) d_M_lineGoes_58 (fun H locs hP hD hS => ?_)
          refine lv_iinc (v := nI (((4 * n) + 1) + 1)) (lv' := [(4, .int (nI (((4 * n) + 1) + 1))), (3, .int (nI 1)), (2, .int (nI n)), (0, .ref _), (1, .int (nI q))]) hx hb d_M_lineGoes_59 hl (k := 0) rfl (nI_add _ _) (by decide) rfl (fun ls hl => ?_)
          refine lv_goto (tgt := 35) hx hb d_M_lineGoes_62 (by decide) ?_
          refine lv_iload hx hb d_M_lineGoes_35 (lv_at hl 0 rfl) ?_
          refine lv_iconst (v := 4) hx hb d_M_lineGoes_37 (by decide) ?_
          refine lv_iload_n hx hb d_M_lineGoes_38 rfl (lv_at hl 2 rfl) ?_
          refine xa_imul hx hb 4 n rfl rfl d_M_lineGoes_39 ?_
          refine lv_iconst (v := 4) hx hb d_M_lineGoes_40 (by decide) ?_
          refine xa_iadd hx hb (4 * n) 4 rfl rfl d_M_lineGoes_41 ?_
          refine lv_icmp_ge (tgt := 65) hx hb d_M_lineGoes_42 (by decide) (fun c9 => absurd c9 (nI_ge (a := (((4 * n) + 1) + 1)) (b := ((4 * n) + 4)) (by omega) (by omega))) (fun _ => ?_)
          refine lv_aload_n hx hb d_M_lineGoes_45 rfl (lv_at hl 3 rfl) ?_
          refine xm_g2 hx hb hts hown hK hP d_M_lineGoes_46 ?_
          refine lv_iload hx hb d_M_lineGoes_49 (lv_at hl 0 rfl) ?_
          refine lv_aload_n hx hb d_M_lineGoes_51 rfl (lv_at hl 3 rfl) ?_
          refine xm_g0 hx hb hts hown hK hP d_M_lineGoes_52 ?_
          refine lv_iload hx hb d_M_lineGoes_55 (lv_at hl 0 rfl) ?_
          refine xm_l0 hx hb hK hP (((4 * n) + 1) + 1) rfl (by omega) d_M_lineGoes_57 ?_
          refine xm_s2 hx hb hK hP hD hS (((4 * n) + 1) + 1) rfl (by omega) d_M_lineGoes_58 (fun H locs hP hD hS => ?_)
          refine lv_iinc (v := nI ((((4 * n) + 1) + 1) + 1)) (lv' := [(4, .int (nI ((((4 * n) + 1) + 1) + 1))), (3, .int (nI 1)), (2, .int (nI n)), (0, .ref _), (1, .int (nI q))]) hx hb d_M_lineGoes_59 hl (k := 0) rfl (nI_add _ _) (by decide) rfl (fun ls hl => ?_)
          refine lv_goto (tgt := 35) hx hb d_M_lineGoes_62 (by decide) ?_
          refine lv_iload hx hb d_M_lineGoes_35 (lv_at hl 0 rfl) ?_
          refine lv_iconst (v := 4) hx hb d_M_lineGoes_37 (by decide) ?_
          refine lv_iload_n hx hb d_M_lineGoes_38 rfl (lv_at hl 2 rfl) ?_
          refine xa_imul hx hb 4 n rfl rfl d_M_lineGoes_39 ?_
          refine lv_iconst (v := 4) hx hb d_M_lineGoes_40 (by decide) ?_
          refine xa_iadd hx hb (4 * n) 4 rfl rfl d_M_lineGoes_41 ?_
          refine lv_icmp_ge (tgt := 65) hx hb d_M_lineGoes_42 (by decide) (fun c9 => absurd c9 (nI_ge (a := ((((4 * n) + 1) + 1) + 1)) (b := ((4 * n) + 4)) (by omega) (by omega))) (fun _ => ?_)
          refine lv_aload_n hx hb d_M_lineGoes_45 rfl (lv_at hl 3 rfl) ?_
          refine xm_g2 hx hb hts hown hK hP d_M_lineGoes_46 ?_
          refine lv_iload hx hb d_M_lineGoes_49 (lv_at hl 0 rfl) ?_
          refine lv_aload_n hx hb d_M_lineGoes_51 rfl (lv_at hl 3 rfl) ?_
          refine xm_g0 hx hb hts hown hK hP d_M_lineGoes_52 ?_
          refine lv_iload hx hb d_M_lineGoes_55 (lv_at hl 0 rfl) ?_
          refine xm_l0 hx hb hK hP ((((4 * n) + 1) + 1) + 1) rfl (by omega) d_M_lineGoes_57 ?_
          refine xm_s2 hx hb hK hP hD hS ((((4 * n) + 1) + 1) + 1) rfl (by omega) d_M_lineGoes_58 (fun H locs hP hD hS => ?_)
          refine lv_iinc (v := nI (((((4 * n) + 1) + 1) + 1) + 1)) (lv' := [(4, .int (nI (((((4 * n) + 1) + 1) + 1) + 1))), (3, .int (nI 1)), (2, .int (nI n)), (0, .ref _), (1, .int (nI q))]) hx hb d_M_lineGoes_59 hl (k := 0) rfl (nI_add _ _) (by decide) rfl (fun ls hl => ?_)
          refine lv_goto (tgt := 35) hx hb d_M_lineGoes_62 (by decide) ?_
          refine lv_iload hx hb d_M_lineGoes_35 (lv_at hl 0 rfl) ?_
          refine lv_iconst (v := 4) hx hb d_M_lineGoes_37 (by decide) ?_
          refine lv_iload_n hx hb d_M_lineGoes_38 rfl (lv_at hl 2 rfl) ?_
          refine xa_imul hx hb 4 n rfl rfl d_M_lineGoes_39 ?_
          refine lv_iconst (v := 4) hx hb d_M_lineGoes_40 (by decide) ?_
          refine xa_iadd hx hb (4 * n) 4 rfl rfl d_M_lineGoes_41 ?_
          refine lv_icmp_ge (tgt := 65) hx hb d_M_lineGoes_42 (by decide) (fun _ => ?_) (fun c9 => absurd (nI_le (a := ((4 * n) + 4)) (b := (((((4 * n) + 1) + 1) + 1) + 1)) (by omega) (by omega)) c9)
          have hP : va_P D vwCl (wM G kc (gWbL1 u n)) H := hP
          have hD : va_D A (wM G kc (gWbL1 u n)) := hD
          refine lv_iload_n hx hb d_M_lineGoes_65 rfl (lv_at hl 2 rfl) ?_
          refine lv_bipush (v := 16) hx hb d_M_lineGoes_66 (by decide) ?_
          refine xa_idiv hx hb n 16 rfl rfl (by omega) (by decide) (by decide) d_M_lineGoes_68 ?_
          refine lv_istore (lv' := [(4, .int (nI (n / 16))), (3, .int (nI 1)), (2, .int (nI n)), (0, .ref _), (1, .int (nI q))]) hx hb d_M_lineGoes_69 hl (by decide) rfl (fun ls hl => ?_)
          refine lv_aload_n hx hb d_M_lineGoes_71 rfl (lv_at hl 3 rfl) ?_
          refine lv_iload hx hb d_M_lineGoes_72 (lv_at hl 0 rfl) ?_
          refine xc_callv (n := 1) (C := "TagMemoryModel") hx hb hml hown hts (c_M_wantRow l D G kc _ _ (n / 16) (by omega) (by exact mI_wbL1 hI)) (tb_V wm_402 wm_404 ws_20 wm_2 wm_405) rfl rfl rfl (by decide +kernel) ⟨Nat.le_of_ble_eq_true rfl, Nat.le_of_ble_eq_true rfl⟩ hK hP hD hS hA rfl rfl rfl rfl hl.1 rfl (Nat.le_of_ble_eq_true rfl) d_M_lineGoes_74 ⟨Nat.zero_le _, Nat.zero_le _⟩ (fun u1 H locs hw hP hD hS => ?_)
          rw [hw] at hP hD; clear hw u1
          refine lv_iconst (v := 2) hx hb d_M_lineGoes_77 (by decide) ?_
          refine lv_iload_n hx hb d_M_lineGoes_78 rfl (lv_at hl 2 rfl) ?_
          refine xa_imul hx hb 2 n rfl rfl d_M_lineGoes_79 ?_
          refine lv_istore (lv' := [(5, .int (nI (2 * n))), (4, .int (nI (n / 16))), (3, .int (nI 1)), (2, .int (nI n)), (0, .ref _), (1, .int (nI q))]) hx hb d_M_lineGoes_80 hl (by decide) rfl (fun ls hl => ?_)
          refine lv_iload hx hb d_M_lineGoes_82 (lv_at hl 0 rfl) ?_
          refine lv_iconst (v := 2) hx hb d_M_lineGoes_84 (by decide) ?_
          refine lv_iload_n hx hb d_M_lineGoes_85 rfl (lv_at hl 3 rfl) ?_
          refine xa_imul hx hb 2 n rfl rfl d_M_lineGoes_86 ?_
          refine lv_iconst (v := 2) hx hb d_M_lineGoes_87 (by decide) ?_
          refine xa_iadd hx hb (2 * n) 2 rfl rfl d_M_lineGoes_88 ?_
          refine lv_icmp_ge (tgt := 144) hx hb d_M_lineGoes_89 (by decide) (fun c9 => absurd c9 (nI_ge (a := (2 * n)) (b := ((2 * n) + 2)) (by omega) (by omega))) (fun _ => ?_)
          refine lv_aload_n hx hb d_M_lineGoes_92 rfl (lv_at hl 4 rfl) ?_
          refine xm_g3 hx hb hts hown hK hP d_M_lineGoes_93 ?_
          refine lv_iload hx hb d_M_lineGoes_96 (lv_at hl 1 rfl) ?_
          refine lv_aload_n hx hb d_M_lineGoes_98 rfl (lv_at hl 4 rfl) ?_
          refine xm_g3 hx hb hts hown hK hP d_M_lineGoes_99 ?_
          refine lv_iload hx hb d_M_lineGoes_102 (lv_at hl 1 rfl) ?_
          refine xm_l3 hx hb hK hP (n / 16) rfl (by omega) d_M_lineGoes_104 ?_
          refine lv_iconst (v := 1) hx hb d_M_lineGoes_105 (by decide) ?_
          refine lv_iload hx hb d_M_lineGoes_106 (lv_at hl 0 rfl) ?_
          refine lv_bipush (v := 32) hx hb d_M_lineGoes_108 (by decide) ?_
          refine xa_irem hx hb (2 * n) 32 rfl rfl (by omega) (by decide) (by decide) d_M_lineGoes_110 ?_
          refine lv_ishl hx hb d_M_lineGoes_111 ?_
          refine lv_iconst (v := (-1)) hx hb d_M_lineGoes_112 (by decide) ?_
          refine lv_ixor hx hb d_M_lineGoes_113 ?_
          refine lv_iand hx hb d_M_lineGoes_114 ?_
          refine lv_aload_n hx hb d_M_lineGoes_115 rfl (lv_at hl 4 rfl) ?_
          refine xm_g1 hx hb hts hown hK hP d_M_lineGoes_116 ?_
          refine lv_iload hx hb d_M_lineGoes_119 (lv_at hl 0 rfl) ?_
          refine xm_l1 hx hb hK hP (2 * n) rfl (by omega) d_M_lineGoes_121 ?_
          refine lv_if_eq (tgt := 135) hx hb d_M_lineGoes_122 (by decide) (fun c9 => absurd c9 h3) (fun _ => ?_)
          refine lv_iconst (v := 1) hx hb d_M_lineGoes_125 (by decide) ?_
          refine lv_iload hx hb d_M_lineGoes_126 (lv_at hl 0 rfl) ?_
          refine lv_bipush (v := 32) hx hb d_M_lineGoes_128 (by decide) ?_
          refine xa_irem hx hb (2 * n) 32 rfl rfl (by omega) (by decide) (by decide) d_M_lineGoes_130 ?_
          refine lv_ishl hx hb d_M_lineGoes_131 ?_
          refine lv_goto (tgt := 136) hx hb d_M_lineGoes_132 (by decide) ?_
          refine lv_ior hx hb d_M_lineGoes_136 ?_
          refine xm_s3 hx hb hK hP hD hS (n / 16) rfl (by omega) d_M_lineGoes_137 (fun H locs hP hD hS => ?_)
          have hP : va_P D vwCl (wM G kc (gTg1 (gWantRow (gWbL1 u n) (n / 16)) (n / 16) (2 * n))) H := by rw [gTg1_f h3]; exact hP
          have hD : va_D A (wM G kc (gTg1 (gWantRow (gWbL1 u n) (n / 16)) (n / 16) (2 * n))) := by rw [gTg1_f h3]; exact hD
          refine lv_iinc (v := nI ((2 * n) + 1)) (lv' := [(5, .int (nI ((2 * n) + 1))), (4, .int (nI (n / 16))), (3, .int (nI 1)), (2, .int (nI n)), (0, .ref _), (1, .int (nI q))]) hx hb d_M_lineGoes_138 hl (k := 0) rfl (nI_add _ _) (by decide) rfl (fun ls hl => ?_)
          refine lv_goto (tgt := 82) hx hb d_M_lineGoes_141 (by decide) ?_
          refine lv_iload hx hb d_M_lineGoes_82 (lv_at hl 0 rfl) ?_
          refine lv_iconst (v := 2) hx hb d_M_lineGoes_84 (by decide) ?_
          refine lv_iload_n hx hb d_M_lineGoes_85 rfl (lv_at hl 3 rfl) ?_
          refine xa_imul hx hb 2 n rfl rfl d_M_lineGoes_86 ?_
          refine lv_iconst (v := 2) hx hb d_M_lineGoes_87 (by decide) ?_
          refine xa_iadd hx hb (2 * n) 2 rfl rfl d_M_lineGoes_88 ?_
          refine lv_icmp_ge (tgt := 144) hx hb d_M_lineGoes_89 (by decide) (fun c9 => absurd c9 (nI_ge (a := ((2 * n) + 1)) (b := ((2 * n) + 2)) (by omega) (by omega))) (fun _ => ?_)
          refine lv_aload_n hx hb d_M_lineGoes_92 rfl (lv_at hl 4 rfl) ?_
          refine xm_g3 hx hb hts hown hK hP d_M_lineGoes_93 ?_
          refine lv_iload hx hb d_M_lineGoes_96 (lv_at hl 1 rfl) ?_
          refine lv_aload_n hx hb d_M_lineGoes_98 rfl (lv_at hl 4 rfl) ?_
          refine xm_g3 hx hb hts hown hK hP d_M_lineGoes_99 ?_
          refine lv_iload hx hb d_M_lineGoes_102 (lv_at hl 1 rfl) ?_
          refine xm_l3 hx hb hK hP (n / 16) rfl (by omega) d_M_lineGoes_104 ?_
          refine lv_iconst (v := 1) hx hb d_M_lineGoes_105 (by decide) ?_
          refine lv_iload hx hb d_M_lineGoes_106 (lv_at hl 0 rfl) ?_
          refine lv_bipush (v := 32) hx hb d_M_lineGoes_108 (by decide) ?_
          refine xa_irem hx hb ((2 * n) + 1) 32 rfl rfl (by omega) (by decide) (by decide) d_M_lineGoes_110 ?_
          refine lv_ishl hx hb d_M_lineGoes_111 ?_
          refine lv_iconst (v := (-1)) hx hb d_M_lineGoes_112 (by decide) ?_
          refine lv_ixor hx hb d_M_lineGoes_113 ?_
          refine lv_iand hx hb d_M_lineGoes_114 ?_
          refine lv_aload_n hx hb d_M_lineGoes_115 rfl (lv_at hl 4 rfl) ?_
          refine xm_g1 hx hb hts hown hK hP d_M_lineGoes_116 ?_
          refine lv_iload hx hb d_M_lineGoes_119 (lv_at hl 0 rfl) ?_
          refine xm_l1 hx hb hK hP ((2 * n) + 1) rfl (by omega) d_M_lineGoes_121 ?_
          refine lv_if_eq (tgt := 135) hx hb d_M_lineGoes_122 (by decide) (fun _ => ?_) (fun c9 => absurd (show mTg (gTg1 (gWantRow (gWbL1 u n) (n / 16)) (n / 16) (2 * n)) (2 * n + 1) = 0 from h4) c9)
          refine lv_iconst (v := 0) hx hb d_M_lineGoes_135 (by decide) ?_
          refine lv_ior hx hb d_M_lineGoes_136 ?_
          refine xm_s3 hx hb hK hP hD hS (n / 16) rfl (by omega) d_M_lineGoes_137 (fun H locs hP hD hS => ?_)
          have hP : va_P D vwCl (wM G kc (gTg1 (gTg1 (gWantRow (gWbL1 u n) (n / 16)) (n / 16) (2 * n)) (n / 16) (2 * n + 1))) H := by rw [gTg1_t (show mTg (gTg1 (gWantRow (gWbL1 u n) (n / 16)) (n / 16) (2 * n)) (2 * n + 1) = 0 from h4)]; exact hP
          have hD : va_D A (wM G kc (gTg1 (gTg1 (gWantRow (gWbL1 u n) (n / 16)) (n / 16) (2 * n)) (n / 16) (2 * n + 1))) := by rw [gTg1_t (show mTg (gTg1 (gWantRow (gWbL1 u n) (n / 16)) (n / 16) (2 * n)) (2 * n + 1) = 0 from h4)]; exact hD
          refine lv_iinc (v := nI (((2 * n) + 1) + 1)) (lv' := [(5, .int (nI (((2 * n) + 1) + 1))), (4, .int (nI (n / 16))), (3, .int (nI 1)), (2, .int (nI n)), (0, .ref _), (1, .int (nI q))]) hx hb d_M_lineGoes_138 hl (k := 0) rfl (nI_add _ _) (by decide) rfl (fun ls hl => ?_)
          refine lv_goto (tgt := 82) hx hb d_M_lineGoes_141 (by decide) ?_
          refine lv_iload hx hb d_M_lineGoes_82 (lv_at hl 0 rfl) ?_
          refine lv_iconst (v := 2) hx hb d_M_lineGoes_84 (by decide) ?_
          refine lv_iload_n hx hb d_M_lineGoes_85 rfl (lv_at hl 3 rfl) ?_
          refine xa_imul hx hb 2 n rfl rfl d_M_lineGoes_86 ?_
          refine lv_iconst (v := 2) hx hb d_M_lineGoes_87 (by decide) ?_
          refine xa_iadd hx hb (2 * n) 2 rfl rfl d_M_lineGoes_88 ?_
          refine lv_icmp_ge (tgt := 144) hx hb d_M_lineGoes_89 (by decide) (fun _ => ?_) (fun c9 => absurd (nI_le (a := ((2 * n) + 2)) (b := (((2 * n) + 1) + 1)) (by omega) (by omega)) c9)
          refine lv_aload_n hx hb d_M_lineGoes_144 rfl (lv_at hl 4 rfl) ?_
          refine xm_g7 hx hb hts hown hK hP d_M_lineGoes_145 ?_
          refine lv_iload hx hb d_M_lineGoes_148 (lv_at hl 1 rfl) ?_
          refine lv_iconst (v := 4) hx hb d_M_lineGoes_150 (by decide) ?_
          refine xa_irem hx hb (n / 16) 4 rfl rfl (by omega) (by decide) (by decide) d_M_lineGoes_151 ?_
          refine lv_iconst (v := 1) hx hb d_M_lineGoes_152 (by decide) ?_
          refine xm_s7 hx hb hK hP hD hS (Or.inr rfl) ((n / 16) % 4) rfl (by omega) d_M_lineGoes_153 (fun H locs hP hD hS => ?_)
          refine lv_aload_n hx hb d_M_lineGoes_154 rfl (lv_at hl 4 rfl) ?_
          refine xm_g8 hx hb hts hown hK hP d_M_lineGoes_155 ?_
          refine lv_iconst (v := 1) hx hb d_M_lineGoes_158 (by decide) ?_
          refine lv_dup2_11 hx hb d_M_lineGoes_159 rfl rfl ?_
          refine xm_l8 hx hb hK hP 1 rfl (by omega) d_M_lineGoes_160 ?_
          refine lv_iconst (v := 1) hx hb d_M_lineGoes_161 (by decide) ?_
          refine lv_iadd hx hb d_M_lineGoes_162 ?_
          refine xm_s8 hx hb hK hP hD hS 1 rfl (by omega) d_M_lineGoes_163 (fun H locs hP hD hS => ?_)
          refine lv_aload_n hx hb d_M_lineGoes_164 rfl (lv_at hl 4 rfl) ?_
          refine xm_g4 hx hb hts hown hK hP d_M_lineGoes_165 ?_
          refine lv_iload_n hx hb d_M_lineGoes_168 rfl (lv_at hl 5 rfl) ?_
          refine lv_iconst (v := (-1)) hx hb d_M_lineGoes_169 (by decide) ?_
          refine xm_s4 hx hb hK hP hD hS q rfl (by omega) d_M_lineGoes_170 (fun H locs hP hD hS => ?_)
          refine lv_aload_n hx hb d_M_lineGoes_171 rfl (lv_at hl 4 rfl) ?_
          refine xm_g5 hx hb hts hown hK hP d_M_lineGoes_172 ?_
          refine lv_iload_n hx hb d_M_lineGoes_175 rfl (lv_at hl 5 rfl) ?_
          refine lv_iconst (v := 0) hx hb d_M_lineGoes_176 (by decide) ?_
          refine xm_s5 hx hb hK hP hD hS (Or.inl rfl) q rfl (by omega) d_M_lineGoes_177 (fun H locs hP hD hS => ?_)
          refine lv_iload_n hx hb d_M_lineGoes_178 rfl (lv_at hl 2 rfl) ?_
          exact xc_zret hx hb hr hlocks (Or.inr rfl) hP hK hD hS ⟨by unfold rmLineGo; rw [if_neg (fun z => z.elim h1 h2)]; rfl, by unfold gLineGo; rw [if_neg (fun z => z.elim h1 h2), hn1, nI_clamp (by omega)]; rfl⟩ d_M_lineGoes_179
        · skip
          refine lv_aload_n hx hb d_M_lineGoes_0 rfl (lv_at hl 0 rfl) ?_
          refine xm_g4 hx hb hts hown hK hP d_M_lineGoes_1 ?_
          refine lv_iload_n hx hb d_M_lineGoes_4 rfl (lv_at hl 1 rfl) ?_
          refine xm_l4 hx hb hK hP q rfl (by omega) d_M_lineGoes_5 ?_
          refine xa_top (nI n) hn1 ?_
          refine lv_istore_n (lv' := [(2, .int (nI n)), (0, .ref _), (1, .int (nI q))]) hx hb d_M_lineGoes_6 rfl hl (by decide) rfl (fun ls hl => ?_)
          refine lv_iload_n hx hb d_M_lineGoes_7 rfl (lv_at hl 0 rfl) ?_
          refine lv_if_lt (tgt := 24) hx hb d_M_lineGoes_8 (by decide) (fun c9 => absurd c9 (nI_pos (by omega))) (fun _ => ?_)
          refine lv_aload_n hx hb d_M_lineGoes_11 rfl (lv_at hl 1 rfl) ?_
          refine xm_g5 hx hb hts hown hK hP d_M_lineGoes_12 ?_
          refine lv_iload_n hx hb d_M_lineGoes_15 rfl (lv_at hl 2 rfl) ?_
          refine xm_l5 hx hb hK hP q rfl (by omega) d_M_lineGoes_16 ?_
          refine lv_if_eq (tgt := 24) hx hb d_M_lineGoes_17 (by decide) (fun c9 => absurd c9 h2) (fun _ => ?_)
          refine lv_iconst (v := 1) hx hb d_M_lineGoes_20 (by decide) ?_
          refine lv_goto (tgt := 25) hx hb d_M_lineGoes_21 (by decide) ?_
          refine lv_istore_n (lv' := [(3, .int (nI 1)), (2, .int (nI n)), (0, .ref _), (1, .int (nI q))]) hx hb d_M_lineGoes_25 rfl hl (by decide) rfl (fun ls hl => ?_)
          refine lv_iload_n hx hb d_M_lineGoes_26 rfl (lv_at hl 0 rfl) ?_
          refine lv_if_eq (tgt := 164) hx hb d_M_lineGoes_27 (by decide) (fun c9 => absurd c9 (by decide)) (fun _ => ?_)
          refine lv_iconst (v := 4) hx hb d_M_lineGoes_30 (by decide) ?_
          refine lv_iload_n hx hb d_M_lineGoes_31 rfl (lv_at hl 1 rfl) ?_
          refine xa_imul hx hb 4 n rfl rfl d_M_lineGoes_32 ?_
          refine lv_istore (lv' := [(4, .int (nI (4 * n))), (3, .int (nI 1)), (2, .int (nI n)), (0, .ref _), (1, .int (nI q))]) hx hb d_M_lineGoes_33 hl (by decide) rfl (fun ls hl => ?_)
          refine lv_iload hx hb d_M_lineGoes_35 (lv_at hl 0 rfl) ?_
          refine lv_iconst (v := 4) hx hb d_M_lineGoes_37 (by decide) ?_
          refine lv_iload_n hx hb d_M_lineGoes_38 rfl (lv_at hl 2 rfl) ?_
          refine xa_imul hx hb 4 n rfl rfl d_M_lineGoes_39 ?_
          refine lv_iconst (v := 4) hx hb d_M_lineGoes_40 (by decide) ?_
          refine xa_iadd hx hb (4 * n) 4 rfl rfl d_M_lineGoes_41 ?_
          refine lv_icmp_ge (tgt := 65) hx hb d_M_lineGoes_42 (by decide) (fun c9 => absurd c9 (nI_ge (a := (4 * n)) (b := ((4 * n) + 4)) (by omega) (by omega))) (fun _ => ?_)
          refine lv_aload_n hx hb d_M_lineGoes_45 rfl (lv_at hl 3 rfl) ?_
          refine xm_g2 hx hb hts hown hK hP d_M_lineGoes_46 ?_
          refine lv_iload hx hb d_M_lineGoes_49 (lv_at hl 0 rfl) ?_
          refine lv_aload_n hx hb d_M_lineGoes_51 rfl (lv_at hl 3 rfl) ?_
          refine xm_g0 hx hb hts hown hK hP d_M_lineGoes_52 ?_
          refine lv_iload hx hb d_M_lineGoes_55 (lv_at hl 0 rfl) ?_
          refine xm_l0 hx hb hK hP (4 * n) rfl (by omega) d_M_lineGoes_57 ?_
          refine xm_s2 hx hb hK hP hD hS (4 * n) rfl (by omega) d_M_lineGoes_58 (fun H locs hP hD hS => ?_)
          refine lv_iinc (v := nI ((4 * n) + 1)) (lv' := [(4, .int (nI ((4 * n) + 1))), (3, .int (nI 1)), (2, .int (nI n)), (0, .ref _), (1, .int (nI q))]) hx hb d_M_lineGoes_59 hl (k := 0) rfl (nI_add _ _) (by decide) rfl (fun ls hl => ?_)
          refine lv_goto (tgt := 35) hx hb d_M_lineGoes_62 (by decide) ?_
          refine lv_iload hx hb d_M_lineGoes_35 (lv_at hl 0 rfl) ?_
          refine lv_iconst (v := 4) hx hb d_M_lineGoes_37 (by decide) ?_
          refine lv_iload_n hx hb d_M_lineGoes_38 rfl (lv_at hl 2 rfl) ?_
          refine xa_imul hx hb 4 n rfl rfl d_M_lineGoes_39 ?_
          refine lv_iconst (v := 4) hx hb d_M_lineGoes_40 (by decide) ?_
          refine xa_iadd hx hb (4 * n) 4 rfl rfl d_M_lineGoes_41 ?_
          refine lv_icmp_ge (tgt := 65) hx hb d_M_lineGoes_42 (by decide) (fun c9 => absurd c9 (nI_ge (a := ((4 * n) + 1)) (b := ((4 * n) + 4)) (by omega) (by omega))) (fun _ => ?_)
          refine lv_aload_n hx hb d_M_lineGoes_45 rfl (lv_at hl 3 rfl) ?_
          refine xm_g2 hx hb hts hown hK hP d_M_lineGoes_46 ?_
          refine lv_iload hx hb d_M_lineGoes_49 (lv_at hl 0 rfl) ?_
          refine lv_aload_n hx hb d_M_lineGoes_51 rfl (lv_at hl 3 rfl) ?_
          refine xm_g0 hx hb hts hown hK hP d_M_lineGoes_52 ?_
          refine lv_iload hx hb d_M_lineGoes_55 (lv_at hl 0 rfl) ?_
          refine xm_l0 hx hb hK hP ((4 * n) + 1) rfl (by omega) d_M_lineGoes_57 ?_
          refine xm_s2 hx hb hK hP hD hS ((4 * n) + 1) rfl (by omega) d_M_lineGoes_58 (fun H locs hP hD hS => ?_)
          refine lv_iinc (v := nI (((4 * n) + 1) + 1)) (lv' := [(4, .int (nI (((4 * n) + 1) + 1))), (3, .int (nI 1)), (2, .int (nI n)), (0, .ref _), (1, .int (nI q))]) hx hb d_M_lineGoes_59 hl (k := 0) rfl (nI_add _ _) (by decide) rfl (fun ls hl => ?_)
          refine lv_goto (tgt := 35) hx hb d_M_lineGoes_62 (by decide) ?_
          refine lv_iload hx hb d_M_lineGoes_35 (lv_at hl 0 rfl) ?_
          refine lv_iconst (v := 4) hx hb d_M_lineGoes_37 (by decide) ?_
          refine lv_iload_n hx hb d_M_lineGoes_38 rfl (lv_at hl 2 rfl) ?_
          refine xa_imul hx hb 4 n rfl rfl d_M_lineGoes_39 ?_
          refine lv_iconst (v := 4) hx hb d_M_lineGoes_40 (by decide) ?_
          refine xa_iadd hx hb (4 * n) 4 rfl rfl d_M_lineGoes_41 ?_
          refine lv_icmp_ge (tgt := 65) hx hb d_M_lineGoes_42 (by decide) (fun c9 => absurd c9 (nI_ge (a := (((4 * n) + 1) + 1)) (b := ((4 * n) + 4)) (by omega) (by omega))) (fun _ => ?_)
          refine lv_aload_n hx hb d_M_lineGoes_45 rfl (lv_at hl 3 rfl) ?_
          refine xm_g2 hx hb hts hown hK hP d_M_lineGoes_46 ?_
          refine lv_iload hx hb d_M_lineGoes_49 (lv_at hl 0 rfl) ?_
          refine lv_aload_n hx hb d_M_lineGoes_51 rfl (lv_at hl 3 rfl) ?_
          refine xm_g0 hx hb hts hown hK hP d_M_lineGoes_52 ?_
          refine lv_iload hx hb d_M_lineGoes_55 (lv_at hl 0 rfl) ?_
          refine xm_l0 hx hb hK hP (((4 * n) + 1) + 1) rfl (by omega) d_M_lineGoes_57 ?_
          refine xm_s2 hx hb hK hP hD hS (((4 * n) + 1) + 1) rfl (by omega) d_M_lineGoes_58 (fun H locs hP hD hS => ?_)
          refine lv_iinc (v := nI ((((4 * n) + 1) + 1) + 1)) (lv' := [(4, .int (nI ((((4 * n) + 1) + 1) + 1))), (3, .int (nI 1)), (2, .int (nI n)), (0, .ref _), (1, .int (nI q))]) hx hb d_M_lineGoes_59 hl (k := 0) rfl (nI_add _ _) (by decide) rfl (fun ls hl => ?_)
          refine lv_goto (tgt := 35) hx hb d_M_lineGoes_62 (by decide) ?_
          refine lv_iload hx hb d_M_lineGoes_35 (lv_at hl 0 rfl) ?_
          refine lv_iconst (v := 4) hx hb d_M_lineGoes_37 (by decide) ?_
          refine lv_iload_n hx hb d_M_lineGoes_38 rfl (lv_at hl 2 rfl) ?_
          refine xa_imul hx hb 4 n rfl rfl d_M_lineGoes_39 ?_
          refine lv_iconst (v := 4) hx hb d_M_lineGoes_40 (by decide) ?_
          refine xa_iadd hx hb (4 * n) 4 rfl rfl d_M_lineGoes_41 ?_
          refine lv_icmp_ge (tgt := 65) hx hb d_M_lineGoes_42 (by decide) (fun c9 => absurd c9 (nI_ge (a := ((((4 * n) + 1) + 1) + 1)) (b := ((4 * n) + 4)) (by omega) (by omega))) (fun _ => ?_)
          refine lv_aload_n hx hb d_M_lineGoes_45 rfl (lv_at hl 3 rfl) ?_
          refine xm_g2 hx hb hts hown hK hP d_M_lineGoes_46 ?_
          refine lv_iload hx hb d_M_lineGoes_49 (lv_at hl 0 rfl) ?_
          refine lv_aload_n hx hb d_M_lineGoes_51 rfl (lv_at hl 3 rfl) ?_
          refine xm_g0 hx hb hts hown hK hP d_M_lineGoes_52 ?_
          refine lv_iload hx hb d_M_lineGoes_55 (lv_at hl 0 rfl) ?_
          refine xm_l0 hx hb hK hP ((((4 * n) + 1) + 1) + 1) rfl (by omega) d_M_lineGoes_57 ?_
          refine xm_s2 hx hb hK hP hD hS ((((4 * n) + 1) + 1) + 1) rfl (by omega) d_M_lineGoes_58 (fun H locs hP hD hS => ?_)
          refine lv_iinc (v := nI (((((4 * n) + 1) + 1) + 1) + 1)) (lv' := [(4, .int (nI (((((4 * n) + 1) + 1) + 1) + 1))), (3, .int (nI 1)), (2, .int (nI n)), (0, .ref _), (1, .int (nI q))]) hx hb d_M_lineGoes_59 hl (k := 0) rfl (nI_add _ _) (by decide) rfl (fun ls hl => ?_)
          refine lv_goto (tgt := 35) hx hb d_M_lineGoes_62 (by decide) ?_
          refine lv_iload hx hb d_M_lineGoes_35 (lv_at hl 0 rfl) ?_
          refine lv_iconst (v := 4) hx hb d_M_lineGoes_37 (by decide) ?_
          refine lv_iload_n hx hb d_M_lineGoes_38 rfl (lv_at hl 2 rfl) ?_
          refine xa_imul hx hb 4 n rfl rfl d_M_lineGoes_39 ?_
          refine lv_iconst (v := 4) hx hb d_M_lineGoes_40 (by decide) ?_
          refine xa_iadd hx hb (4 * n) 4 rfl rfl d_M_lineGoes_41 ?_
          refine lv_icmp_ge (tgt := 65) hx hb d_M_lineGoes_42 (by decide) (fun _ => ?_) (fun c9 => absurd (nI_le (a := ((4 * n) + 4)) (b := (((((4 * n) + 1) + 1) + 1) + 1)) (by omega) (by omega)) c9)
          have hP : va_P D vwCl (wM G kc (gWbL1 u n)) H := hP
          have hD : va_D A (wM G kc (gWbL1 u n)) := hD
          refine lv_iload_n hx hb d_M_lineGoes_65 rfl (lv_at hl 2 rfl) ?_
          refine lv_bipush (v := 16) hx hb d_M_lineGoes_66 (by decide) ?_
          refine xa_idiv hx hb n 16 rfl rfl (by omega) (by decide) (by decide) d_M_lineGoes_68 ?_
          refine lv_istore (lv' := [(4, .int (nI (n / 16))), (3, .int (nI 1)), (2, .int (nI n)), (0, .ref _), (1, .int (nI q))]) hx hb d_M_lineGoes_69 hl (by decide) rfl (fun ls hl => ?_)
          refine lv_aload_n hx hb d_M_lineGoes_71 rfl (lv_at hl 3 rfl) ?_
          refine lv_iload hx hb d_M_lineGoes_72 (lv_at hl 0 rfl) ?_
          refine xc_callv (n := 1) (C := "TagMemoryModel") hx hb hml hown hts (c_M_wantRow l D G kc _ _ (n / 16) (by omega) (by exact mI_wbL1 hI)) (tb_V wm_402 wm_404 ws_20 wm_2 wm_405) rfl rfl rfl (by decide +kernel) ⟨Nat.le_of_ble_eq_true rfl, Nat.le_of_ble_eq_true rfl⟩ hK hP hD hS hA rfl rfl rfl rfl hl.1 rfl (Nat.le_of_ble_eq_true rfl) d_M_lineGoes_74 ⟨Nat.zero_le _, Nat.zero_le _⟩ (fun u1 H locs hw hP hD hS => ?_)
          rw [hw] at hP hD; clear hw u1
          refine lv_iconst (v := 2) hx hb d_M_lineGoes_77 (by decide) ?_
          refine lv_iload_n hx hb d_M_lineGoes_78 rfl (lv_at hl 2 rfl) ?_
          refine xa_imul hx hb 2 n rfl rfl d_M_lineGoes_79 ?_
          refine lv_istore (lv' := [(5, .int (nI (2 * n))), (4, .int (nI (n / 16))), (3, .int (nI 1)), (2, .int (nI n)), (0, .ref _), (1, .int (nI q))]) hx hb d_M_lineGoes_80 hl (by decide) rfl (fun ls hl => ?_)
          refine lv_iload hx hb d_M_lineGoes_82 (lv_at hl 0 rfl) ?_
          refine lv_iconst (v := 2) hx hb d_M_lineGoes_84 (by decide) ?_
          refine lv_iload_n hx hb d_M_lineGoes_85 rfl (lv_at hl 3 rfl) ?_
          refine xa_imul hx hb 2 n rfl rfl d_M_lineGoes_86 ?_
          refine lv_iconst (v := 2) hx hb d_M_lineGoes_87 (by decide) ?_
          refine xa_iadd hx hb (2 * n) 2 rfl rfl d_M_lineGoes_88 ?_
          refine lv_icmp_ge (tgt := 144) hx hb d_M_lineGoes_89 (by decide) (fun c9 => absurd c9 (nI_ge (a := (2 * n)) (b := ((2 * n) + 2)) (by omega) (by omega))) (fun _ => ?_)
          refine lv_aload_n hx hb d_M_lineGoes_92 rfl (lv_at hl 4 rfl) ?_
          refine xm_g3 hx hb hts hown hK hP d_M_lineGoes_93 ?_
          refine lv_iload hx hb d_M_lineGoes_96 (lv_at hl 1 rfl) ?_
          refine lv_aload_n hx hb d_M_lineGoes_98 rfl (lv_at hl 4 rfl) ?_
          refine xm_g3 hx hb hts hown hK hP d_M_lineGoes_99 ?_
          refine lv_iload hx hb d_M_lineGoes_102 (lv_at hl 1 rfl) ?_
          refine xm_l3 hx hb hK hP (n / 16) rfl (by omega) d_M_lineGoes_104 ?_
          refine lv_iconst (v := 1) hx hb d_M_lineGoes_105 (by decide) ?_
          refine lv_iload hx hb d_M_lineGoes_106 (lv_at hl 0 rfl) ?_
          refine lv_bipush (v := 32) hx hb d_M_lineGoes_108 (by decide) ?_
          refine xa_irem hx hb (2 * n) 32 rfl rfl (by omega) (by decide) (by decide) d_M_lineGoes_110 ?_
          refine lv_ishl hx hb d_M_lineGoes_111 ?_
          refine lv_iconst (v := (-1)) hx hb d_M_lineGoes_112 (by decide) ?_
          refine lv_ixor hx hb d_M_lineGoes_113 ?_
          refine lv_iand hx hb d_M_lineGoes_114 ?_
          refine lv_aload_n hx hb d_M_lineGoes_115 rfl (lv_at hl 4 rfl) ?_
          refine xm_g1 hx hb hts hown hK hP d_M_lineGoes_116 ?_
          refine lv_iload hx hb d_M_lineGoes_119 (lv_at hl 0 rfl) ?_
          refine xm_l1 hx hb hK hP (2 * n) rfl (by omega) d_M_lineGoes_121 ?_
          refine lv_if_eq (tgt := 135) hx hb d_M_lineGoes_122 (by decide) (fun c9 => absurd c9 h3) (fun _ => ?_)
          refine lv_iconst (v := 1) hx hb d_M_lineGoes_125 (by decide) ?_
          refine lv_iload hx hb d_M_lineGoes_126 (lv_at hl 0 rfl) ?_
          refine lv_bipush (v := 32) hx hb d_M_lineGoes_128 (by decide) ?_
          refine xa_irem hx hb (2 * n) 32 rfl rfl (by omega) (by decide) (by decide) d_M_lineGoes_130 ?_
          refine lv_ishl hx hb d_M_lineGoes_131 ?_
          refine lv_goto (tgt := 136) hx hb d_M_lineGoes_132 (by decide) ?_
          refine lv_ior hx hb d_M_lineGoes_136 ?_
          refine xm_s3 hx hb hK hP hD hS (n / 16) rfl (by omega) d_M_lineGoes_137 (fun H locs hP hD hS => ?_)
          have hP : va_P D vwCl (wM G kc (gTg1 (gWantRow (gWbL1 u n) (n / 16)) (n / 16) (2 * n))) H := by rw [gTg1_f h3]; exact hP
          have hD : va_D A (wM G kc (gTg1 (gWantRow (gWbL1 u n) (n / 16)) (n / 16) (2 * n))) := by rw [gTg1_f h3]; exact hD
          refine lv_iinc (v := nI ((2 * n) + 1)) (lv' := [(5, .int (nI ((2 * n) + 1))), (4, .int (nI (n / 16))), (3, .int (nI 1)), (2, .int (nI n)), (0, .ref _), (1, .int (nI q))]) hx hb d_M_lineGoes_138 hl (k := 0) rfl (nI_add _ _) (by decide) rfl (fun ls hl => ?_)
          refine lv_goto (tgt := 82) hx hb d_M_lineGoes_141 (by decide) ?_
          refine lv_iload hx hb d_M_lineGoes_82 (lv_at hl 0 rfl) ?_
          refine lv_iconst (v := 2) hx hb d_M_lineGoes_84 (by decide) ?_
          refine lv_iload_n hx hb d_M_lineGoes_85 rfl (lv_at hl 3 rfl) ?_
          refine xa_imul hx hb 2 n rfl rfl d_M_lineGoes_86 ?_
          refine lv_iconst (v := 2) hx hb d_M_lineGoes_87 (by decide) ?_
          refine xa_iadd hx hb (2 * n) 2 rfl rfl d_M_lineGoes_88 ?_
          refine lv_icmp_ge (tgt := 144) hx hb d_M_lineGoes_89 (by decide) (fun c9 => absurd c9 (nI_ge (a := ((2 * n) + 1)) (b := ((2 * n) + 2)) (by omega) (by omega))) (fun _ => ?_)
          refine lv_aload_n hx hb d_M_lineGoes_92 rfl (lv_at hl 4 rfl) ?_
          refine xm_g3 hx hb hts hown hK hP d_M_lineGoes_93 ?_
          refine lv_iload hx hb d_M_lineGoes_96 (lv_at hl 1 rfl) ?_
          refine lv_aload_n hx hb d_M_lineGoes_98 rfl (lv_at hl 4 rfl) ?_
          refine xm_g3 hx hb hts hown hK hP d_M_lineGoes_99 ?_
          refine lv_iload hx hb d_M_lineGoes_102 (lv_at hl 1 rfl) ?_
          refine xm_l3 hx hb hK hP (n / 16) rfl (by omega) d_M_lineGoes_104 ?_
          refine lv_iconst (v := 1) hx hb d_M_lineGoes_105 (by decide) ?_
          refine lv_iload hx hb d_M_lineGoes_106 (lv_at hl 0 rfl) ?_
          refine lv_bipush (v := 32) hx hb d_M_lineGoes_108 (by decide) ?_
          refine xa_irem hx hb ((2 * n) + 1) 32 rfl rfl (by omega) (by decide) (by decide) d_M_lineGoes_110 ?_
          refine lv_ishl hx hb d_M_lineGoes_111 ?_
          refine lv_iconst (v := (-1)) hx hb d_M_lineGoes_112 (by decide) ?_
          refine lv_ixor hx hb d_M_lineGoes_113 ?_
          refine lv_iand hx hb d_M_lineGoes_114 ?_
          refine lv_aload_n hx hb d_M_lineGoes_115 rfl (lv_at hl 4 rfl) ?_
          refine xm_g1 hx hb hts hown hK hP d_M_lineGoes_116 ?_
          refine lv_iload hx hb d_M_lineGoes_119 (lv_at hl 0 rfl) ?_
          refine xm_l1 hx hb hK hP ((2 * n) + 1) rfl (by omega) d_M_lineGoes_121 ?_
          refine lv_if_eq (tgt := 135) hx hb d_M_lineGoes_122 (by decide) (fun c9 => absurd c9 (show ¬ mTg (gTg1 (gWantRow (gWbL1 u n) (n / 16)) (n / 16) (2 * n)) (2 * n + 1) = 0 from h4)) (fun _ => ?_)
          refine lv_iconst (v := 1) hx hb d_M_lineGoes_125 (by decide) ?_
          refine lv_iload hx hb d_M_lineGoes_126 (lv_at hl 0 rfl) ?_
          refine lv_bipush (v := 32) hx hb d_M_lineGoes_128 (by decide) ?_
          refine xa_irem hx hb ((2 * n) + 1) 32 rfl rfl (by omega) (by decide) (by decide) d_M_lineGoes_130 ?_
          refine lv_ishl hx hb d_M_lineGoes_131 ?_
          refine lv_goto (tgt := 136) hx hb d_M_lineGoes_132 (by decide) ?_
          refine lv_ior hx hb d_M_lineGoes_136 ?_
          refine xm_s3 hx hb hK hP hD hS (n / 16) rfl (by omega) d_M_lineGoes_137 (fun H locs hP hD hS => ?_)
          have hP : va_P D vwCl (wM G kc (gTg1 (gTg1 (gWantRow (gWbL1 u n) (n / 16)) (n / 16) (2 * n)) (n / 16) (2 * n + 1))) H := by rw [gTg1_f (show ¬ mTg (gTg1 (gWantRow (gWbL1 u n) (n / 16)) (n / 16) (2 * n)) (2 * n + 1) = 0 from h4)]; exact hP
          have hD : va_D A (wM G kc (gTg1 (gTg1 (gWantRow (gWbL1 u n) (n / 16)) (n / 16) (2 * n)) (n / 16) (2 * n + 1))) := by rw [gTg1_f (show ¬ mTg (gTg1 (gWantRow (gWbL1 u n) (n / 16)) (n / 16) (2 * n)) (2 * n + 1) = 0 from h4)]; exact hD
          refine lv_iinc (v := nI (((2 * n) + 1) + 1)) (lv' := [(5, .int (nI (((2 * n) + 1) + 1))), (4, .int (nI (n / 16))), (3, .int (nI 1)), (2, .int (nI n)), (0, .ref _), (1, .int (nI q))]) hx hb d_M_lineGoes_138 hl (k := 0) rfl (nI_add _ _) (by decide) rfl (fun ls hl => ?_)
          refine lv_goto (tgt := 82) hx hb d_M_lineGoes_141 (by decide) ?_
          refine lv_iload hx hb d_M_lineGoes_82 (lv_at hl 0 rfl) ?_
          refine lv_iconst (v := 2) hx hb d_M_lineGoes_84 (by decide) ?_
          refine lv_iload_n hx hb d_M_lineGoes_85 rfl (lv_at hl 3 rfl) ?_
          refine xa_imul hx hb 2 n rfl rfl d_M_lineGoes_86 ?_
          refine lv_iconst (v := 2) hx hb d_M_lineGoes_87 (by decide) ?_
          refine xa_iadd hx hb (2 * n) 2 rfl rfl d_M_lineGoes_88 ?_
          refine lv_icmp_ge (tgt := 144) hx hb d_M_lineGoes_89 (by decide) (fun _ => ?_) (fun c9 => absurd (nI_le (a := ((2 * n) + 2)) (b := (((2 * n) + 1) + 1)) (by omega) (by omega)) c9)
          refine lv_aload_n hx hb d_M_lineGoes_144 rfl (lv_at hl 4 rfl) ?_
          refine xm_g7 hx hb hts hown hK hP d_M_lineGoes_145 ?_
          refine lv_iload hx hb d_M_lineGoes_148 (lv_at hl 1 rfl) ?_
          refine lv_iconst (v := 4) hx hb d_M_lineGoes_150 (by decide) ?_
          refine xa_irem hx hb (n / 16) 4 rfl rfl (by omega) (by decide) (by decide) d_M_lineGoes_151 ?_
          refine lv_iconst (v := 1) hx hb d_M_lineGoes_152 (by decide) ?_
          refine xm_s7 hx hb hK hP hD hS (Or.inr rfl) ((n / 16) % 4) rfl (by omega) d_M_lineGoes_153 (fun H locs hP hD hS => ?_)
          refine lv_aload_n hx hb d_M_lineGoes_154 rfl (lv_at hl 4 rfl) ?_
          refine xm_g8 hx hb hts hown hK hP d_M_lineGoes_155 ?_
          refine lv_iconst (v := 1) hx hb d_M_lineGoes_158 (by decide) ?_
          refine lv_dup2_11 hx hb d_M_lineGoes_159 rfl rfl ?_
          refine xm_l8 hx hb hK hP 1 rfl (by omega) d_M_lineGoes_160 ?_
          refine lv_iconst (v := 1) hx hb d_M_lineGoes_161 (by decide) ?_
          refine lv_iadd hx hb d_M_lineGoes_162 ?_
          refine xm_s8 hx hb hK hP hD hS 1 rfl (by omega) d_M_lineGoes_163 (fun H locs hP hD hS => ?_)
          refine lv_aload_n hx hb d_M_lineGoes_164 rfl (lv_at hl 4 rfl) ?_
          refine xm_g4 hx hb hts hown hK hP d_M_lineGoes_165 ?_
          refine lv_iload_n hx hb d_M_lineGoes_168 rfl (lv_at hl 5 rfl) ?_
          refine lv_iconst (v := (-1)) hx hb d_M_lineGoes_169 (by decide) ?_
          refine xm_s4 hx hb hK hP hD hS q rfl (by omega) d_M_lineGoes_170 (fun H locs hP hD hS => ?_)
          refine lv_aload_n hx hb d_M_lineGoes_171 rfl (lv_at hl 4 rfl) ?_
          refine xm_g5 hx hb hts hown hK hP d_M_lineGoes_172 ?_
          refine lv_iload_n hx hb d_M_lineGoes_175 rfl (lv_at hl 5 rfl) ?_
          refine lv_iconst (v := 0) hx hb d_M_lineGoes_176 (by decide) ?_
          refine xm_s5 hx hb hK hP hD hS (Or.inl rfl) q rfl (by omega) d_M_lineGoes_177 (fun H locs hP hD hS => ?_)
          refine lv_iload_n hx hb d_M_lineGoes_178 rfl (lv_at hl 2 rfl) ?_
          exact xc_zret hx hb hr hlocks (Or.inr rfl) hP hK hD hS ⟨by unfold rmLineGo; rw [if_neg (fun z => z.elim h1 h2)]; rfl, by unfold gLineGo; rw [if_neg (fun z => z.elim h1 h2), hn1, nI_clamp (by omega)]; rfl⟩ d_M_lineGoes_179
set_option maxHeartbeats 4000000 in
set_option maxRecDepth 100000 in
theorem c_M_want (l : Launch) (D : va_G) (G : Nat → Nat) (kc : Nat → ClassId) (sz : Nat) (u : TM) (n : Nat) (hn : n < 512) (hI : mI u) : XMv l y_M_want k_M_want { frames := 3, cells := 0, slots := 0, locals := 67 } D vwCl (wM G kc) (tyMs kc) u sz [.ref (G 0), .int (nI n)] (fun u1 => u1 = gWant u n) := by
  refine xb_ofv (cc := b_M_want) (maxL := 3) (ret := none) (by decide) rfl (Nat.le_of_ble_eq_true rfl) ?_
  intro p e s m below meth c A ls hsz hx hb hml hr hlocks hts hown hP hK hD hA hl
  have hl : lv_has ls 3 [(0, .ref (G 0)), (1, .int (nI n))] := hl
  have hS : va_S A s.heap s.heap [] := va_S.rf
  by_cases h1 : mLn u (n % 16) = nI n
  · clear hI
    refine lv_iload_n hx hb d_M_want_0 rfl (lv_at hl 1 rfl) ?_
    refine lv_bipush (v := 16) hx hb d_M_want_1 (by decide) ?_
    refine xa_irem hx hb n 16 rfl rfl (by omega) (by decide) (by decide) d_M_want_3 ?_
    refine lv_istore_n (lv' := [(2, .int (nI (n % 16))), (0, .ref _), (1, .int (nI n))]) hx hb d_M_want_4 rfl hl (by decide) rfl (fun ls hl => ?_)
    refine lv_aload_n hx hb d_M_want_5 rfl (lv_at hl 1 rfl) ?_
    refine xm_g4 hx hb hts hown hK hP d_M_want_6 ?_
    refine lv_iload_n hx hb d_M_want_9 rfl (lv_at hl 0 rfl) ?_
    refine xm_l4 hx hb hK hP (n % 16) rfl (by omega) d_M_want_10 ?_
    refine lv_iload_n hx hb d_M_want_11 rfl (lv_at hl 2 rfl) ?_
    refine lv_icmp_ne (tgt := 16) hx hb d_M_want_12 (by decide) (fun c9 => absurd h1 c9) (fun _ => ?_)
    exact xc_vret hx hb hr hlocks hP hK hD hS (by unfold gWant; rw [if_pos h1]) d_M_want_15
  · have hI1 : mI (gLineGo u (n % 16)) := mI_lineGo hI (by omega)
    refine lv_iload_n hx hb d_M_want_0 rfl (lv_at hl 1 rfl) ?_
    refine lv_bipush (v := 16) hx hb d_M_want_1 (by decide) ?_
    refine xa_irem hx hb n 16 rfl rfl (by omega) (by decide) (by decide) d_M_want_3 ?_
    refine lv_istore_n (lv' := [(2, .int (nI (n % 16))), (0, .ref _), (1, .int (nI n))]) hx hb d_M_want_4 rfl hl (by decide) rfl (fun ls hl => ?_)
    refine lv_aload_n hx hb d_M_want_5 rfl (lv_at hl 1 rfl) ?_
    refine xm_g4 hx hb hts hown hK hP d_M_want_6 ?_
    refine lv_iload_n hx hb d_M_want_9 rfl (lv_at hl 0 rfl) ?_
    refine xm_l4 hx hb hK hP (n % 16) rfl (by omega) d_M_want_10 ?_
    refine lv_iload_n hx hb d_M_want_11 rfl (lv_at hl 2 rfl) ?_
    refine lv_icmp_ne (tgt := 16) hx hb d_M_want_12 (by decide) (fun _ => ?_) (fun c9 => absurd c9 h1)
    refine lv_aload_n hx hb d_M_want_16 rfl (lv_at hl 1 rfl) ?_
    refine lv_iload_n hx hb d_M_want_17 rfl (lv_at hl 0 rfl) ?_
    refine xc_calli (n := 1) (C := "TagMemoryModel") hx hb hml hown hts (c_M_lineGoes l D G kc _ _ (n % 16) (by omega) (by exact hI)) (tb_V wm_398 wm_400 ws_19 wm_2 wm_401) rfl rfl rfl (by decide +kernel) ⟨Nat.le_of_ble_eq_true rfl, Nat.le_of_ble_eq_true rfl⟩ hK hP hD hS hA rfl rfl rfl rfl hl.1 rfl (Nat.le_of_ble_eq_true rfl) d_M_want_18 ⟨Nat.zero_le _, Nat.zero_le _⟩ (fun r u1 H locs hw hP hD hS => ?_)
    obtain ⟨e1, e2⟩ := hw
    subst e1
    rw [e2] at hP hD; clear e2 u1
    refine lv_pop hx hb d_M_want_21 rfl ?_
    refine lv_aload_n hx hb d_M_want_22 rfl (lv_at hl 1 rfl) ?_
    refine lv_iload_n hx hb d_M_want_23 rfl (lv_at hl 2 rfl) ?_
    refine lv_bipush (v := 16) hx hb d_M_want_24 (by decide) ?_
    refine xa_idiv hx hb n 16 rfl rfl (by omega) (by decide) (by decide) d_M_want_26 ?_
    refine xc_callv (n := 1) (C := "TagMemoryModel") hx hb hml hown hts (c_M_wantRow l D G kc _ _ (n / 16) (by omega) (by exact hI1)) (tb_V wm_402 wm_404 ws_20 wm_2 wm_405) rfl rfl rfl (by decide +kernel) ⟨Nat.le_of_ble_eq_true rfl, Nat.le_of_ble_eq_true rfl⟩ hK hP hD hS hA rfl rfl rfl rfl hl.1 rfl (Nat.le_of_ble_eq_true rfl) d_M_want_27 ⟨Nat.zero_le _, Nat.zero_le _⟩ (fun u1 H locs hw hP hD hS => ?_)
    rw [hw] at hP hD; clear hw u1
    refine lv_aload_n hx hb d_M_want_30 rfl (lv_at hl 1 rfl) ?_
    refine xm_g4 hx hb hts hown hK hP d_M_want_31 ?_
    refine lv_iload_n hx hb d_M_want_34 rfl (lv_at hl 0 rfl) ?_
    refine lv_iload_n hx hb d_M_want_35 rfl (lv_at hl 2 rfl) ?_
    refine xm_s4 hx hb hK hP hD hS (n % 16) rfl (by omega) d_M_want_36 (fun H locs hP hD hS => ?_)
    refine lv_aload_n hx hb d_M_want_37 rfl (lv_at hl 1 rfl) ?_
    refine xm_g8 hx hb hts hown hK hP d_M_want_38 ?_
    refine lv_iconst (v := 0) hx hb d_M_want_41 (by decide) ?_
    refine lv_dup2_11 hx hb d_M_want_42 rfl rfl ?_
    refine xm_l8 hx hb hK hP 0 rfl (by omega) d_M_want_43 ?_
    refine lv_iconst (v := 1) hx hb d_M_want_44 (by decide) ?_
    refine lv_iadd hx hb d_M_want_45 ?_
    refine xm_s8 hx hb hK hP hD hS 0 rfl (by omega) d_M_want_46 (fun H locs hP hD hS => ?_)
    exact xc_vret hx hb hr hlocks hP hK hD hS (by unfold gWant; rw [if_neg h1]; rfl) d_M_want_47
set_option maxHeartbeats 4000000 in
set_option maxRecDepth 100000 in
theorem c_M_changes (l : Launch) (D : va_G) (G : Nat → Nat) (kc : Nat → ClassId) (sz : Nat) (u : TM) (i : Nat) (hi : i < 2048) (w t : Int32) (ht : t = 0 ∨ t = 1) (hI : mI u) : XMv l y_M_changes k_M_changes { frames := 4, cells := 0, slots := 0, locals := 89 } D vwCl (wM G kc) (tyMs kc) u sz [.ref (G 0), .int (nI i), .int w, .int t] (fun u1 => u1 = gCh u i w t) := by
  refine xb_ofv (cc := b_M_changes) (maxL := 4) (ret := none) (by decide) rfl (Nat.le_of_ble_eq_true rfl) ?_
  intro p e s m below meth c A ls hsz hx hb hml hr hlocks hts hown hP hK hD hA hl
  have hl : lv_has ls 4 [(0, .ref (G 0)), (1, .int (nI i)), (2, .int w), (3, .int t)] := hl
  have hS : va_S A s.heap s.heap [] := va_S.rf
  refine lv_aload_n hx hb d_M_changes_0 rfl (lv_at hl 0 rfl) ?_
  refine lv_iload_n hx hb d_M_changes_1 rfl (lv_at hl 1 rfl) ?_
  refine lv_iconst (v := 4) hx hb d_M_changes_2 (by decide) ?_
  refine xa_idiv hx hb i 4 rfl rfl (by omega) (by decide) (by decide) d_M_changes_3 ?_
  refine xc_callv (n := 1) (C := "TagMemoryModel") hx hb hml hown hts (c_M_want l D G kc _ _ (i / 4) (by omega) (by exact hI)) (tb_V wm_394 wm_396 ws_18 wm_2 wm_397) rfl rfl rfl (by decide +kernel) ⟨Nat.le_of_ble_eq_true rfl, Nat.le_of_ble_eq_true rfl⟩ hK hP hD hS hA rfl rfl rfl rfl hl.1 rfl (Nat.le_of_ble_eq_true rfl) d_M_changes_4 ⟨Nat.zero_le _, Nat.zero_le _⟩ (fun u1 H locs hw hP hD hS => ?_)
  rw [hw] at hP hD; clear hw u1
  refine lv_aload_n hx hb d_M_changes_7 rfl (lv_at hl 0 rfl) ?_
  refine xm_g0 hx hb hts hown hK hP d_M_changes_8 ?_
  refine lv_iload_n hx hb d_M_changes_11 rfl (lv_at hl 1 rfl) ?_
  refine lv_iload_n hx hb d_M_changes_12 rfl (lv_at hl 2 rfl) ?_
  refine xm_s0 hx hb hK hP hD hS i rfl (by omega) d_M_changes_13 (fun H locs hP hD hS => ?_)
  refine lv_aload_n hx hb d_M_changes_14 rfl (lv_at hl 0 rfl) ?_
  refine xm_g1 hx hb hts hown hK hP d_M_changes_15 ?_
  refine lv_iload_n hx hb d_M_changes_18 rfl (lv_at hl 1 rfl) ?_
  refine lv_iconst (v := 2) hx hb d_M_changes_19 (by decide) ?_
  refine xa_idiv hx hb i 2 rfl rfl (by omega) (by decide) (by decide) d_M_changes_20 ?_
  refine lv_iload_n hx hb d_M_changes_21 rfl (lv_at hl 3 rfl) ?_
  refine xm_s1 hx hb hK hP hD hS ht (i / 2) rfl (by omega) d_M_changes_22 (fun H locs hP hD hS => ?_)
  refine lv_aload_n hx hb d_M_changes_23 rfl (lv_at hl 0 rfl) ?_
  refine xm_g5 hx hb hts hown hK hP d_M_changes_24 ?_
  refine lv_iload_n hx hb d_M_changes_27 rfl (lv_at hl 1 rfl) ?_
  refine lv_iconst (v := 4) hx hb d_M_changes_28 (by decide) ?_
  refine xa_idiv hx hb i 4 rfl rfl (by omega) (by decide) (by decide) d_M_changes_29 ?_
  refine lv_bipush (v := 16) hx hb d_M_changes_30 (by decide) ?_
  refine xa_irem hx hb (i / 4) 16 rfl rfl (by omega) (by decide) (by decide) d_M_changes_32 ?_
  refine lv_iconst (v := 1) hx hb d_M_changes_33 (by decide) ?_
  refine xm_s5 hx hb hK hP hD hS (Or.inr rfl) ((i / 4) % 16) rfl (by omega) d_M_changes_34 (fun H locs hP hD hS => ?_)
  exact xc_vret hx hb hr hlocks hP hK hD hS rfl d_M_changes_35
set_option maxHeartbeats 4000000 in
set_option maxRecDepth 100000 in
theorem c_M_bad (l : Launch) (D : va_G) (G : Nat → Nat) (kc : Nat → ClassId) (sz : Nat) (u : TM) (b k : Int32) (hb0 : b = 0 ∨ b = 1) : XMi l y_M_bad k_M_bad { frames := 0, cells := 0, slots := 0, locals := 0 } D vwCl (wM G kc) (tyMs kc) u sz [.ref (G 0), .int b, .int k] (fun r u1 => r = b ∧ u1 = nTh u (if b = 0 then 0 else k)) := by
  refine xb_ofi (cc := b_M_bad) (maxL := 3) (ret := some .boolean) (by decide) rfl (Nat.le_of_ble_eq_true rfl) ?_
  intro p e s m below meth c A ls hsz hx hb hml hr hlocks hts hown hP hK hD hA hl
  have hl : lv_has ls 3 [(0, .ref (G 0)), (1, .int b), (2, .int k)] := hl
  have hS : va_S A s.heap s.heap [] := va_S.rf
  by_cases h1 : b = 0
  · skip
    refine lv_aload_n hx hb d_M_bad_0 rfl (lv_at hl 0 rfl) ?_
    refine lv_iload_n hx hb d_M_bad_1 rfl (lv_at hl 1 rfl) ?_
    refine lv_if_eq (tgt := 9) hx hb d_M_bad_2 (by decide) (fun _ => ?_) (fun c9 => absurd h1 c9)
    refine lv_iconst (v := 0) hx hb d_M_bad_9 (by decide) ?_
    refine xm_p9 hx hb hts hown hK hP hD hS d_M_bad_10 (fun H locs hP hD hS => ?_)
    refine lv_iload_n hx hb d_M_bad_13 rfl (lv_at hl 1 rfl) ?_
    exact xc_zret hx hb hr hlocks hb0 hP hK hD hS ⟨rfl, by rw [if_pos h1]⟩ d_M_bad_14
  · skip
    refine lv_aload_n hx hb d_M_bad_0 rfl (lv_at hl 0 rfl) ?_
    refine lv_iload_n hx hb d_M_bad_1 rfl (lv_at hl 1 rfl) ?_
    refine lv_if_eq (tgt := 9) hx hb d_M_bad_2 (by decide) (fun c9 => absurd c9 h1) (fun _ => ?_)
    refine lv_iload_n hx hb d_M_bad_5 rfl (lv_at hl 2 rfl) ?_
    refine lv_goto (tgt := 10) hx hb d_M_bad_6 (by decide) ?_
    refine xm_p9 hx hb hts hown hK hP hD hS d_M_bad_10 (fun H locs hP hD hS => ?_)
    refine lv_iload_n hx hb d_M_bad_13 rfl (lv_at hl 1 rfl) ?_
    exact xc_zret hx hb hr hlocks hb0 hP hK hD hS ⟨rfl, by rw [if_neg h1]⟩ d_M_bad_14
set_option maxHeartbeats 4000000 in
set_option maxRecDepth 100000 in
theorem c_M_thrown (l : Launch) (D : va_G) (G : Nat → Nat) (kc : Nat → ClassId) (sz : Nat) (u : TM)  : XMi l y_M_thrown k_M_thrown { frames := 0, cells := 0, slots := 0, locals := 0 } D vwCl (wM G kc) (tyMs kc) u sz [.ref (G 0)] (fun r u1 => r = mTh u ∧ u1 = u) := by
  refine xb_ofi (cc := b_M_thrown) (maxL := 1) (ret := some .int) (by decide) rfl (Nat.le_of_ble_eq_true rfl) ?_
  intro p e s m below meth c A ls hsz hx hb hml hr hlocks hts hown hP hK hD hA hl
  have hl : lv_has ls 1 [(0, .ref (G 0))] := hl
  have hS : va_S A s.heap s.heap [] := va_S.rf
  refine lv_aload_n hx hb d_M_thrown_0 rfl (lv_at hl 0 rfl) ?_
  refine xm_g9 hx hb hts hown hK hP d_M_thrown_1 ?_
  exact xc_iret hx hb hr hlocks hP hK hD hS ⟨rfl, rfl⟩ d_M_thrown_4
