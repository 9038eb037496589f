set_option maxHeartbeats 4000000 in
set_option maxRecDepth 100000 in
theorem c_T_writeLineBack (l : Launch) (D : va_G) (G : Nat → Nat) (kc : Nat → ClassId) (sz : Nat) (u : TC) (n q : Nat) (hn : n < 512) (hq : q < 16) (hI : tI u) : XMv l y_T_writeLineBack k_T_writeLineBack { frames := 2, cells := 0, slots := 0, locals := 43 } D vwCl (wT G kc) (tyTs kc) u sz [.ref (G 0), .int (nI n), .int (nI q)] (fun u1 => u1 = fWbL u n q) := by
  refine xb_ofv (cc := b_T_writeLineBack) (maxL := 5) (ret := none) (by decide) rfl (Nat.le_of_ble_eq_true rfl) ?_
  intro p e s m below meth c A ls hsz hx hb hml hr hlocks hts hown hP hK hD hA hl
  have hl : lv_has ls 5 [(0, .ref (G 0)), (1, .int (nI n)), (2, .int (nI q))] := hl
  have hS : va_S A s.heap s.heap [] := va_S.rf
  refine lv_aload_n hx hb d_T_writeLineBack_0 rfl (lv_at hl 0 rfl) ?_
  refine xt_g2 hx hb hts hown hK hP d_T_writeLineBack_1 ?_
  refine lv_iload_n hx hb d_T_writeLineBack_4 rfl (lv_at hl 2 rfl) ?_
  refine lv_iconst (v := 4) hx hb d_T_writeLineBack_5 (by decide) ?_
  refine xa_imul hx hb q 4 rfl rfl d_T_writeLineBack_6 ?_
  refine lv_aload_n hx hb d_T_writeLineBack_7 rfl (lv_at hl 0 rfl) ?_
  refine xt_g0 hx hb hts hown hK hP d_T_writeLineBack_8 ?_
  refine lv_iload_n hx hb d_T_writeLineBack_11 rfl (lv_at hl 1 rfl) ?_
  refine lv_iconst (v := 4) hx hb d_T_writeLineBack_12 (by decide) ?_
  refine xa_imul hx hb n 4 rfl rfl d_T_writeLineBack_13 ?_
  refine lv_iconst (v := 4) hx hb d_T_writeLineBack_14 (by decide) ?_
  refine xa_copy hx hb (hml.trans hl.1.symm) hown (hts (Cond.methodLink "TagMemory" 151 ⟨"java/lang/System", "arraycopy", "(Ljava/lang/Object;ILjava/lang/Object;II)V"⟩) (List.mem_cons_of_mem _ wm_69)) (hts (Cond.native ⟨"java/lang/System", "arraycopy", "(Ljava/lang/Object;ILjava/lang/Object;II)V"⟩) (List.mem_cons_of_mem _ wm_71)) (hts (Cond.static ⟨"java/lang/System", "arraycopy", "(Ljava/lang/Object;ILjava/lang/Object;II)V"⟩) (List.mem_cons_of_mem _ wm_70)) (hts (Cond.initialized "java/lang/System") (List.mem_cons_of_mem _ wm_7)) hK hP hD hS 3 1 2 0 rfl rfl rfl rfl (q * 4) (n * 4) 4 rfl rfl rfl (by omega) (by omega) (by decide) (by decide) (Nat.le_of_ble_eq_true rfl) (Nat.le_of_ble_eq_true rfl) d_T_writeLineBack_15 (fun H locs hP hD hS => ?_)
  have hP : va_P D vwCl (wT G kc (fWbL1 u n q)) H := hP
  have hD : va_D A (wT G kc (fWbL1 u n q)) := hD
  refine lv_aload_n hx hb d_T_writeLineBack_18 rfl (lv_at hl 0 rfl) ?_
  refine lv_iload_n hx hb d_T_writeLineBack_19 rfl (lv_at hl 1 rfl) ?_
  refine xc_calls (n := 1) (C := "TagMemory") hx hb hml hown hts (c_T_rowOfLine l n (by omega)) (tb_S wm_72 wm_73 wm_1 wm_74) rfl rfl rfl (by decide +kernel) ⟨Nat.le_of_ble_eq_true rfl, Nat.le_of_ble_eq_true rfl⟩ rfl hl.1 rfl (Nat.le_of_ble_eq_true rfl) d_T_writeLineBack_20 ⟨Nat.zero_le _, Nat.zero_le _⟩ (fun r hw => ?_)
  subst hw
  refine xc_calli (n := 1) (C := "TagMemory") hx hb hml hown hts (c_T_wantRow l D G kc _ _ (n / 16) (by omega) (by exact hI)) (tb_V wm_75 wm_77 ws_2 wm_1 wm_78) rfl rfl rfl (by decide +kernel) ⟨Nat.le_of_ble_eq_true rfl, Nat.le_of_ble_eq_true rfl⟩ hK hP hD hS hA rfl rfl rfl rfl hl.1 rfl (Nat.le_of_ble_eq_true rfl) d_T_writeLineBack_23 ⟨Nat.zero_le _, Nat.zero_le _⟩ (fun r u1 H locs hw hP hD hS => ?_)
  obtain ⟨e1, e2⟩ := hw
  subst e1
  rw [e2] at hP hD; clear e2 u1
  refine lv_istore_n (lv' := [(3, .int (nI ((n / 16) % 4))), (0, .ref _), (1, .int (nI n)), (2, .int (nI q))]) hx hb d_T_writeLineBack_26 rfl hl (by decide) rfl (fun ls hl => ?_)
  refine lv_aload_n hx hb d_T_writeLineBack_27 rfl (lv_at hl 1 rfl) ?_
  refine xt_g6 hx hb hts hown hK hP d_T_writeLineBack_28 ?_
  refine lv_iload_n hx hb d_T_writeLineBack_31 rfl (lv_at hl 0 rfl) ?_
  refine xt_l6 hx hb hK hP ((n / 16) % 4) rfl (by omega) d_T_writeLineBack_32 ?_
  refine lv_iconst (v := 3) hx hb d_T_writeLineBack_33 (by decide) ?_
  refine lv_iload_n hx hb d_T_writeLineBack_34 rfl (lv_at hl 2 rfl) ?_
  refine xc_calls (n := 1) (C := "TagMemory") hx hb hml hown hts (c_T_firstTagBit l n (by omega)) (tb_S wm_86 wm_87 wm_1 wm_88) rfl rfl rfl (by decide +kernel) ⟨Nat.le_of_ble_eq_true rfl, Nat.le_of_ble_eq_true rfl⟩ rfl hl.1 rfl (Nat.le_of_ble_eq_true rfl) d_T_writeLineBack_35 ⟨Nat.zero_le _, Nat.zero_le _⟩ (fun r hw => ?_)
  subst hw
  refine lv_ishl hx hb d_T_writeLineBack_38 ?_
  refine lv_iconst (v := (-1)) hx hb d_T_writeLineBack_39 (by decide) ?_
  refine lv_ixor hx hb d_T_writeLineBack_40 ?_
  refine lv_iand hx hb d_T_writeLineBack_41 ?_
  refine lv_istore (lv' := [(4, .int _), (3, .int (nI ((n / 16) % 4))), (0, .ref _), (1, .int (nI n)), (2, .int (nI q))]) hx hb d_T_writeLineBack_42 hl (by decide) rfl (fun ls hl => ?_)
  refine lv_aload_n hx hb d_T_writeLineBack_44 rfl (lv_at hl 2 rfl) ?_
  refine xt_g6 hx hb hts hown hK hP d_T_writeLineBack_45 ?_
  refine lv_iload_n hx hb d_T_writeLineBack_48 rfl (lv_at hl 1 rfl) ?_
  refine lv_iload hx hb d_T_writeLineBack_49 (lv_at hl 0 rfl) ?_
  refine lv_aload_n hx hb d_T_writeLineBack_51 rfl (lv_at hl 2 rfl) ?_
  refine xt_g3 hx hb hts hown hK hP d_T_writeLineBack_52 ?_
  refine lv_iload_n hx hb d_T_writeLineBack_55 rfl (lv_at hl 4 rfl) ?_
  refine xt_l3 hx hb hK hP q rfl (by omega) d_T_writeLineBack_56 ?_
  refine lv_iload_n hx hb d_T_writeLineBack_57 rfl (lv_at hl 3 rfl) ?_
  refine xc_calls (n := 1) (C := "TagMemory") hx hb hml hown hts (c_T_firstTagBit l n (by omega)) (tb_S wm_86 wm_87 wm_1 wm_88) rfl rfl rfl (by decide +kernel) ⟨Nat.le_of_ble_eq_true rfl, Nat.le_of_ble_eq_true rfl⟩ rfl hl.1 rfl (Nat.le_of_ble_eq_true rfl) d_T_writeLineBack_58 ⟨Nat.zero_le _, Nat.zero_le _⟩ (fun r hw => ?_)
  subst hw
  refine lv_ishl hx hb d_T_writeLineBack_61 ?_
  refine lv_ior hx hb d_T_writeLineBack_62 ?_
  refine xt_s6 hx hb hK hP hD hS ((n / 16) % 4) rfl (by omega) d_T_writeLineBack_63 (fun H locs hP hD hS => ?_)
  refine lv_aload_n hx hb d_T_writeLineBack_64 rfl (lv_at hl 2 rfl) ?_
  refine xt_g7 hx hb hts hown hK hP d_T_writeLineBack_65 ?_
  refine lv_iload_n hx hb d_T_writeLineBack_68 rfl (lv_at hl 1 rfl) ?_
  refine lv_iconst (v := 1) hx hb d_T_writeLineBack_69 (by decide) ?_
  refine xt_s7 hx hb hK hP hD hS (Or.inr rfl) ((n / 16) % 4) rfl (by omega) d_T_writeLineBack_70 (fun H locs hP hD hS => ?_)
  refine lv_aload_n hx hb d_T_writeLineBack_71 rfl (lv_at hl 2 rfl) ?_
  refine lv_dup hx hb d_T_writeLineBack_72 rfl ?_
  refine xt_g9 hx hb hts hown hK hP d_T_writeLineBack_73 ?_
  refine lv_iconst (v := 1) hx hb d_T_writeLineBack_76 (by decide) ?_
  refine lv_iadd hx hb d_T_writeLineBack_77 ?_
  refine xt_p9 hx hb hts hown hK hP hD hS d_T_writeLineBack_78 (fun H locs hP hD hS => ?_)
  exact xc_vret hx hb hr hlocks hP hK hD hS rfl d_T_writeLineBack_81
set_option maxHeartbeats 4000000 in
set_option maxRecDepth 100000 in
theorem c_T_letLineGo (l : Launch) (D : va_G) (G : Nat → Nat) (kc : Nat → ClassId) (sz : Nat) (u : TC) (q : Nat) (hq : q < 16) (hI : tI u) : XMi l y_T_letLineGo k_T_letLineGo { frames := 3, cells := 0, slots := 0, locals := 67 } D vwCl (wT G kc) (tyTs kc) u sz [.ref (G 0), .int (nI q)] (fun r u1 => r = rLineGo u q ∧ u1 = fLineGo u q) := by
  refine xb_ofi (cc := b_T_letLineGo) (maxL := 3) (ret := some .boolean) (by decide) rfl (Nat.le_of_ble_eq_true rfl) ?_
  intro p e s m below meth c A ls hsz hx hb hml hr hlocks hts hown hP hK hD hA hl
  have hl : lv_has ls 3 [(0, .ref (G 0)), (1, .int (nI q))] := hl
  have hS : va_S A s.heap s.heap [] := va_S.rf
  by_cases h1 : tLa u q = -1
  · clear hI
    refine lv_aload_n hx hb d_T_letLineGo_0 rfl (lv_at hl 0 rfl) ?_
    refine xt_g1 hx hb hts hown hK hP d_T_letLineGo_1 ?_
    refine lv_iload_n hx hb d_T_letLineGo_4 rfl (lv_at hl 1 rfl) ?_
    refine xt_l1 hx hb hK hP q rfl (by omega) d_T_letLineGo_5 ?_
    refine lv_iconst (v := (-1)) hx hb d_T_letLineGo_6 (by decide) ?_
    refine lv_icmp_eq (tgt := 23) hx hb d_T_letLineGo_7 (by decide) (fun _ => ?_) (fun c9 => absurd h1 c9)
    refine lv_iconst (v := 0) hx hb d_T_letLineGo_23 (by decide) ?_
    refine lv_istore_n (lv' := [(2, .int (nI 0)), (0, .ref _), (1, .int (nI q))]) hx hb d_T_letLineGo_24 rfl hl (by decide) rfl (fun ls hl => ?_)
    refine lv_iload_n hx hb d_T_letLineGo_25 rfl (lv_at hl 0 rfl) ?_
    refine lv_if_eq (tgt := 40) hx hb d_T_letLineGo_26 (by decide) (fun _ => ?_) (fun c9 => absurd nI_0 c9)
    refine lv_aload_n hx hb d_T_letLineGo_40 rfl (lv_at hl 1 rfl) ?_
    refine xt_g1 hx hb hts hown hK hP d_T_letLineGo_41 ?_
    refine lv_iload_n hx hb d_T_letLineGo_44 rfl (lv_at hl 2 rfl) ?_
    refine lv_iconst (v := (-1)) hx hb d_T_letLineGo_45 (by decide) ?_
    refine xt_s1 hx hb hK hP hD hS q rfl (by omega) d_T_letLineGo_46 (fun H locs hP hD hS => ?_)
    refine lv_aload_n hx hb d_T_letLineGo_47 rfl (lv_at hl 1 rfl) ?_
    refine xt_g4 hx hb hts hown hK hP d_T_letLineGo_48 ?_
    refine lv_iload_n hx hb d_T_letLineGo_51 rfl (lv_at hl 2 rfl) ?_
    refine lv_iconst (v := 0) hx hb d_T_letLineGo_52 (by decide) ?_
    refine xt_s4 hx hb hK hP hD hS (Or.inl rfl) q rfl (by omega) d_T_letLineGo_53 (fun H locs hP hD hS => ?_)
    refine lv_iload_n hx hb d_T_letLineGo_54 rfl (lv_at hl 0 rfl) ?_
    exact xc_zret hx hb hr hlocks (Or.inl rfl) hP hK hD hS ⟨by unfold rLineGo; rw [if_pos (Or.inl h1)]; rfl, by unfold fLineGo; rw [if_pos (Or.inl h1)]; rfl⟩ d_T_letLineGo_55
  · by_cases h2 : tLc u q = 0
    · clear hI
      refine lv_aload_n hx hb d_T_letLineGo_0 rfl (lv_at hl 0 rfl) ?_
      refine xt_g1 hx hb hts hown hK hP d_T_letLineGo_1 ?_
      refine lv_iload_n hx hb d_T_letLineGo_4 rfl (lv_at hl 1 rfl) ?_
      refine xt_l1 hx hb hK hP q rfl (by omega) d_T_letLineGo_5 ?_
      refine lv_iconst (v := (-1)) hx hb d_T_letLineGo_6 (by decide) ?_
      refine lv_icmp_eq (tgt := 23) hx hb d_T_letLineGo_7 (by decide) (fun c9 => absurd c9 h1) (fun _ => ?_)
      refine lv_aload_n hx hb d_T_letLineGo_10 rfl (lv_at hl 0 rfl) ?_
      refine xt_g4 hx hb hts hown hK hP d_T_letLineGo_11 ?_
      refine lv_iload_n hx hb d_T_letLineGo_14 rfl (lv_at hl 1 rfl) ?_
      refine xt_l4 hx hb hK hP q rfl (by omega) d_T_letLineGo_15 ?_
      refine lv_if_eq (tgt := 23) hx hb d_T_letLineGo_16 (by decide) (fun _ => ?_) (fun c9 => absurd h2 c9)
      refine lv_iconst (v := 0) hx hb d_T_letLineGo_23 (by decide) ?_
      refine lv_istore_n (lv' := [(2, .int (nI 0)), (0, .ref _), (1, .int (nI q))]) hx hb d_T_letLineGo_24 rfl hl (by decide) rfl (fun ls hl => ?_)
      refine lv_iload_n hx hb d_T_letLineGo_25 rfl (lv_at hl 0 rfl) ?_
      refine lv_if_eq (tgt := 40) hx hb d_T_letLineGo_26 (by decide) (fun _ => ?_) (fun c9 => absurd nI_0 c9)
      refine lv_aload_n hx hb d_T_letLineGo_40 rfl (lv_at hl 1 rfl) ?_
      refine xt_g1 hx hb hts hown hK hP d_T_letLineGo_41 ?_
      refine lv_iload_n hx hb d_T_letLineGo_44 rfl (lv_at hl 2 rfl) ?_
      refine lv_iconst (v := (-1)) hx hb d_T_letLineGo_45 (by decide) ?_
      refine xt_s1 hx hb hK hP hD hS q rfl (by omega) d_T_letLineGo_46 (fun H locs hP hD hS => ?_)
      refine lv_aload_n hx hb d_T_letLineGo_47 rfl (lv_at hl 1 rfl) ?_
      refine xt_g4 hx hb hts hown hK hP d_T_letLineGo_48 ?_
      refine lv_iload_n hx hb d_T_letLineGo_51 rfl (lv_at hl 2 rfl) ?_
      refine lv_iconst (v := 0) hx hb d_T_letLineGo_52 (by decide) ?_
      refine xt_s4 hx hb hK hP hD hS (Or.inl rfl) q rfl (by omega) d_T_letLineGo_53 (fun H locs hP hD hS => ?_)
      refine lv_iload_n hx hb d_T_letLineGo_54 rfl (lv_at hl 0 rfl) ?_
      exact xc_zret hx hb hr hlocks (Or.inl rfl) hP hK hD hS ⟨by unfold rLineGo; rw [if_pos (Or.inr h2)]; rfl, by unfold fLineGo; rw [if_pos (Or.inr h2)]; rfl⟩ d_T_letLineGo_55
    · obtain ⟨n, hn, hnq, hn1⟩ : ∃ n, n < 512 ∧ n % 16 = q ∧ tLa u q = nI n := (hI.2 q hq).resolve_left h1
      refine lv_aload_n hx hb d_T_letLineGo_0 rfl (lv_at hl 0 rfl) ?_
      refine xt_g1 hx hb hts hown hK hP d_T_letLineGo_1 ?_
      refine lv_iload_n hx hb d_T_letLineGo_4 rfl (lv_at hl 1 rfl) ?_
      refine xt_l1 hx hb hK hP q rfl (by omega) d_T_letLineGo_5 ?_
      refine lv_iconst (v := (-1)) hx hb d_T_letLineGo_6 (by decide) ?_
      refine lv_icmp_eq (tgt := 23) hx hb d_T_letLineGo_7 (by decide) (fun c9 => absurd c9 h1) (fun _ => ?_)
      refine lv_aload_n hx hb d_T_letLineGo_10 rfl (lv_at hl 0 rfl) ?_
      refine xt_g4 hx hb hts hown hK hP d_T_letLineGo_11 ?_
      refine lv_iload_n hx hb d_T_letLineGo_14 rfl (lv_at hl 1 rfl) ?_
      refine xt_l4 hx hb hK hP q rfl (by omega) d_T_letLineGo_15 ?_
      refine lv_if_eq (tgt := 23) hx hb d_T_letLineGo_16 (by decide) (fun c9 => absurd c9 h2) (fun _ => ?_)
      refine lv_iconst (v := 1) hx hb d_T_letLineGo_19 (by decide) ?_
      refine lv_goto (tgt := 24) hx hb d_T_letLineGo_20 (by decide) ?_
      refine lv_istore_n (lv' := [(2, .int (nI 1)), (0, .ref _), (1, .int (nI q))]) hx hb d_T_letLineGo_24 rfl hl (by decide) rfl (fun ls hl => ?_)
      refine lv_iload_n hx hb d_T_letLineGo_25 rfl (lv_at hl 0 rfl) ?_
      refine lv_if_eq (tgt := 40) hx hb d_T_letLineGo_26 (by decide) (fun c9 => absurd c9 (by decide)) (fun _ => ?_)
      refine lv_aload_n hx hb d_T_letLineGo_29 rfl (lv_at hl 1 rfl) ?_
      refine lv_aload_n hx hb d_T_letLineGo_30 rfl (lv_at hl 1 rfl) ?_
      refine xt_g1 hx hb hts hown hK hP d_T_letLineGo_31 ?_
      refine lv_iload_n hx hb d_T_letLineGo_34 rfl (lv_at hl 2 rfl) ?_
      refine xt_l1 hx hb hK hP q rfl (by omega) d_T_letLineGo_35 ?_
      refine xa_top (nI n) hn1 ?_
      refine lv_iload_n hx hb d_T_letLineGo_36 rfl (lv_at hl 2 rfl) ?_
      refine xc_callv (n := 2) (C := "TagMemory") hx hb hml hown hts (c_T_writeLineBack l D G kc _ _ n q (by omega) (by omega) (by exact hI)) (tb_V wm_65 wm_67 ws_1 wm_1 wm_68) rfl rfl rfl (by decide +kernel) ⟨Nat.le_of_ble_eq_true rfl, Nat.le_of_ble_eq_true rfl⟩ hK hP hD hS hA rfl rfl rfl rfl hl.1 rfl (Nat.le_of_ble_eq_true rfl) d_T_letLineGo_37 ⟨Nat.zero_le _, Nat.zero_le _⟩ (fun u1 H locs hw hP hD hS => ?_)
      rw [hw] at hP hD; clear hw u1
      refine lv_aload_n hx hb d_T_letLineGo_40 rfl (lv_at hl 1 rfl) ?_
      refine xt_g1 hx hb hts hown hK hP d_T_letLineGo_41 ?_
      refine lv_iload_n hx hb d_T_letLineGo_44 rfl (lv_at hl 2 rfl) ?_
      refine lv_iconst (v := (-1)) hx hb d_T_letLineGo_45 (by decide) ?_
      refine xt_s1 hx hb hK hP hD hS q rfl (by omega) d_T_letLineGo_46 (fun H locs hP hD hS => ?_)
      refine lv_aload_n hx hb d_T_letLineGo_47 rfl (lv_at hl 1 rfl) ?_
      refine xt_g4 hx hb hts hown hK hP d_T_letLineGo_48 ?_
      refine lv_iload_n hx hb d_T_letLineGo_51 rfl (lv_at hl 2 rfl) ?_
      refine lv_iconst (v := 0) hx hb d_T_letLineGo_52 (by decide) ?_
      refine xt_s4 hx hb hK hP hD hS (Or.inl rfl) q rfl (by omega) d_T_letLineGo_53 (fun H locs hP hD hS => ?_)
      refine lv_iload_n hx hb d_T_letLineGo_54 rfl (lv_at hl 0 rfl) ?_
      exact xc_zret hx hb hr hlocks (Or.inr rfl) hP hK hD hS ⟨by unfold rLineGo; rw [if_neg (fun z => z.elim h1 h2)]; rfl, by unfold fLineGo; rw [if_neg (fun z => z.elim h1 h2), hn1, nI_clamp (by omega)]; rfl⟩ d_T_letLineGo_55
set_option maxHeartbeats 4000000 in
set_option maxRecDepth 100000 in
theorem c_T_bringLine (l : Launch) (D : va_G) (G : Nat → Nat) (kc : Nat → ClassId) (sz : Nat) (u : TC) (n q : Nat) (hn : n < 512) (hq : q < 16) (hI : tI u) : XMv l y_T_bringLine k_T_bringLine { frames := 2, cells := 0, slots := 0, locals := 43 } D vwCl (wT G kc) (tyTs kc) u sz [.ref (G 0), .int (nI n), .int (nI q)] (fun u1 => u1 = fBring u n q) := by
  refine xb_ofv (cc := b_T_bringLine) (maxL := 4) (ret := none) (by decide) rfl (Nat.le_of_ble_eq_true rfl) ?_
  intro p e s m below meth c A ls hsz hx hb hml hr hlocks hts hown hP hK hD hA hl
  have hl : lv_has ls 4 [(0, .ref (G 0)), (1, .int (nI n)), (2, .int (nI q))] := hl
  have hS : va_S A s.heap s.heap [] := va_S.rf
  refine lv_aload_n hx hb d_T_bringLine_0 rfl (lv_at hl 0 rfl) ?_
  refine xt_g0 hx hb hts hown hK hP d_T_bringLine_1 ?_
  refine lv_iload_n hx hb d_T_bringLine_4 rfl (lv_at hl 1 rfl) ?_
  refine lv_iconst (v := 4) hx hb d_T_bringLine_5 (by decide) ?_
  refine xa_imul hx hb n 4 rfl rfl d_T_bringLine_6 ?_
  refine lv_aload_n hx hb d_T_bringLine_7 rfl (lv_at hl 0 rfl) ?_
  refine xt_g2 hx hb hts hown hK hP d_T_bringLine_8 ?_
  refine lv_iload_n hx hb d_T_bringLine_11 rfl (lv_at hl 2 rfl) ?_
  refine lv_iconst (v := 4) hx hb d_T_bringLine_12 (by decide) ?_
  refine xa_imul hx hb q 4 rfl rfl d_T_bringLine_13 ?_
  refine lv_iconst (v := 4) hx hb d_T_bringLine_14 (by decide) ?_
  refine xa_copy hx hb (hml.trans hl.1.symm) hown (hts (Cond.methodLink "TagMemory" 151 ⟨"java/lang/System", "arraycopy", "(Ljava/lang/Object;ILjava/lang/Object;II)V"⟩) (List.mem_cons_of_mem _ wm_69)) (hts (Cond.native ⟨"java/lang/System", "arraycopy", "(Ljava/lang/Object;ILjava/lang/Object;II)V"⟩) (List.mem_cons_of_mem _ wm_71)) (hts (Cond.static ⟨"java/lang/System", "arraycopy", "(Ljava/lang/Object;ILjava/lang/Object;II)V"⟩) (List.mem_cons_of_mem _ wm_70)) (hts (Cond.initialized "java/lang/System") (List.mem_cons_of_mem _ wm_7)) hK hP hD hS 1 3 0 2 rfl rfl rfl rfl (n * 4) (q * 4) 4 rfl rfl rfl (by omega) (by omega) (by decide) (by decide) (Nat.le_of_ble_eq_true rfl) (Nat.le_of_ble_eq_true rfl) d_T_bringLine_15 (fun H locs hP hD hS => ?_)
  have hP : va_P D vwCl (wT G kc (fBring1 u n q)) H := hP
  have hD : va_D A (wT G kc (fBring1 u n q)) := hD
  refine lv_aload_n hx hb d_T_bringLine_18 rfl (lv_at hl 0 rfl) ?_
  refine lv_iload_n hx hb d_T_bringLine_19 rfl (lv_at hl 1 rfl) ?_
  refine xc_calls (n := 1) (C := "TagMemory") hx hb hml hown hts (c_T_rowOfLine l n (by omega)) (tb_S wm_72 wm_73 wm_1 wm_74) rfl rfl rfl (by decide +kernel) ⟨Nat.le_of_ble_eq_true rfl, Nat.le_of_ble_eq_true rfl⟩ rfl hl.1 rfl (Nat.le_of_ble_eq_true rfl) d_T_bringLine_20 ⟨Nat.zero_le _, Nat.zero_le _⟩ (fun r hw => ?_)
  subst hw
  refine xc_calli (n := 1) (C := "TagMemory") hx hb hml hown hts (c_T_wantRow l D G kc _ _ (n / 16) (by omega) (by exact hI)) (tb_V wm_75 wm_77 ws_2 wm_1 wm_78) rfl rfl rfl (by decide +kernel) ⟨Nat.le_of_ble_eq_true rfl, Nat.le_of_ble_eq_true rfl⟩ hK hP hD hS hA rfl rfl rfl rfl hl.1 rfl (Nat.le_of_ble_eq_true rfl) d_T_bringLine_23 ⟨Nat.zero_le _, Nat.zero_le _⟩ (fun r u1 H locs hw hP hD hS => ?_)
  obtain ⟨e1, e2⟩ := hw
  subst e1
  rw [e2] at hP hD; clear e2 u1
  refine lv_istore_n (lv' := [(3, .int (nI ((n / 16) % 4))), (0, .ref _), (1, .int (nI n)), (2, .int (nI q))]) hx hb d_T_bringLine_26 rfl hl (by decide) rfl (fun ls hl => ?_)
  refine lv_aload_n hx hb d_T_bringLine_27 rfl (lv_at hl 1 rfl) ?_
  refine xt_g3 hx hb hts hown hK hP d_T_bringLine_28 ?_
  refine lv_iload_n hx hb d_T_bringLine_31 rfl (lv_at hl 3 rfl) ?_
  refine lv_iload_n hx hb d_T_bringLine_32 rfl (lv_at hl 2 rfl) ?_
  refine lv_aload_n hx hb d_T_bringLine_33 rfl (lv_at hl 1 rfl) ?_
  refine xt_g6 hx hb hts hown hK hP d_T_bringLine_34 ?_
  refine lv_iload_n hx hb d_T_bringLine_37 rfl (lv_at hl 0 rfl) ?_
  refine xt_l6 hx hb hK hP ((n / 16) % 4) rfl (by omega) d_T_bringLine_38 ?_
  refine xc_calls (n := 2) (C := "TagMemory") hx hb hml hown hts (c_T_tagsOfLine l n (by omega) _) (tb_S wm_112 wm_113 wm_1 wm_114) rfl rfl rfl (by decide +kernel) ⟨Nat.le_of_ble_eq_true rfl, Nat.le_of_ble_eq_true rfl⟩ rfl hl.1 rfl (Nat.le_of_ble_eq_true rfl) d_T_bringLine_39 ⟨Nat.zero_le _, Nat.zero_le _⟩ (fun r hw => ?_)
  subst hw
  refine xt_s3 hx hb hK hP hD hS q rfl (by omega) d_T_bringLine_42 (fun H locs hP hD hS => ?_)
  refine lv_aload_n hx hb d_T_bringLine_43 rfl (lv_at hl 1 rfl) ?_
  refine xt_g1 hx hb hts hown hK hP d_T_bringLine_44 ?_
  refine lv_iload_n hx hb d_T_bringLine_47 rfl (lv_at hl 3 rfl) ?_
  refine lv_iload_n hx hb d_T_bringLine_48 rfl (lv_at hl 2 rfl) ?_
  refine xt_s1 hx hb hK hP hD hS q rfl (by omega) d_T_bringLine_49 (fun H locs hP hD hS => ?_)
  refine lv_aload_n hx hb d_T_bringLine_50 rfl (lv_at hl 1 rfl) ?_
  refine xt_g4 hx hb hts hown hK hP d_T_bringLine_51 ?_
  refine lv_iload_n hx hb d_T_bringLine_54 rfl (lv_at hl 3 rfl) ?_
  refine lv_iconst (v := 0) hx hb d_T_bringLine_55 (by decide) ?_
  refine xt_s4 hx hb hK hP hD hS (Or.inl rfl) q rfl (by omega) d_T_bringLine_56 (fun H locs hP hD hS => ?_)
  refine lv_aload_n hx hb d_T_bringLine_57 rfl (lv_at hl 1 rfl) ?_
  refine lv_dup hx hb d_T_bringLine_58 rfl ?_
  refine xt_g8 hx hb hts hown hK hP d_T_bringLine_59 ?_
  refine lv_iconst (v := 1) hx hb d_T_bringLine_62 (by decide) ?_
  refine lv_iadd hx hb d_T_bringLine_63 ?_
  refine xt_p8 hx hb hts hown hK hP hD hS d_T_bringLine_64 (fun H locs hP hD hS => ?_)
  exact xc_vret hx hb hr hlocks hP hK hD hS rfl d_T_bringLine_67
set_option maxHeartbeats 4000000 in
set_option maxRecDepth 100000 in
theorem c_T_wantLine (l : Launch) (D : va_G) (G : Nat → Nat) (kc : Nat → ClassId) (sz : Nat) (u : TC) (n : Nat) (hn : n < 512) (hI : tI u) : XMv l y_T_wantLine k_T_wantLine { frames := 4, cells := 0, slots := 0, locals := 89 } D vwCl (wT G kc) (tyTs kc) u sz [.ref (G 0), .int (nI n)] (fun u1 => u1 = fWant u n) := by
  refine xb_ofv (cc := b_T_wantLine) (maxL := 3) (ret := none) (by decide) rfl (Nat.le_of_ble_eq_true rfl) ?_
  intro p e s m below meth c A ls hsz hx hb hml hr hlocks hts hown hP hK hD hA hl
  have hl : lv_has ls 3 [(0, .ref (G 0)), (1, .int (nI n))] := hl
  have hS : va_S A s.heap s.heap [] := va_S.rf
  by_cases h1 : tLa u (n % 16) = nI n
  · clear hI
    refine lv_iload_n hx hb d_T_wantLine_0 rfl (lv_at hl 1 rfl) ?_
    refine xc_calls (n := 1) (C := "TagMemory") hx hb hml hown hts (c_T_placeOfLine l n (by omega)) (tb_S wm_97 wm_98 wm_1 wm_99) rfl rfl rfl (by decide +kernel) ⟨Nat.le_of_ble_eq_true rfl, Nat.le_of_ble_eq_true rfl⟩ rfl hl.1 rfl (Nat.le_of_ble_eq_true rfl) d_T_wantLine_1 ⟨Nat.zero_le _, Nat.zero_le _⟩ (fun r hw => ?_)
    subst hw
    refine lv_istore_n (lv' := [(2, .int (nI (n % 16))), (0, .ref _), (1, .int (nI n))]) hx hb d_T_wantLine_4 rfl hl (by decide) rfl (fun ls hl => ?_)
    refine lv_aload_n hx hb d_T_wantLine_5 rfl (lv_at hl 1 rfl) ?_
    refine xt_g1 hx hb hts hown hK hP d_T_wantLine_6 ?_
    refine lv_iload_n hx hb d_T_wantLine_9 rfl (lv_at hl 0 rfl) ?_
    refine xt_l1 hx hb hK hP (n % 16) rfl (by omega) d_T_wantLine_10 ?_
    refine lv_iload_n hx hb d_T_wantLine_11 rfl (lv_at hl 2 rfl) ?_
    refine lv_icmp_eq (tgt := 27) hx hb d_T_wantLine_12 (by decide) (fun _ => ?_) (fun c9 => absurd h1 c9)
    exact xc_vret hx hb hr hlocks hP hK hD hS (by unfold fWant; rw [if_pos h1]) d_T_wantLine_27
  · have hI1 : tI (fLineGo u (n % 16)) := tI_lineGo hI (by omega)
    refine lv_iload_n hx hb d_T_wantLine_0 rfl (lv_at hl 1 rfl) ?_
    refine xc_calls (n := 1) (C := "TagMemory") hx hb hml hown hts (c_T_placeOfLine l n (by omega)) (tb_S wm_97 wm_98 wm_1 wm_99) rfl rfl rfl (by decide +kernel) ⟨Nat.le_of_ble_eq_true rfl, Nat.le_of_ble_eq_true rfl⟩ rfl hl.1 rfl (Nat.le_of_ble_eq_true rfl) d_T_wantLine_1 ⟨Nat.zero_le _, Nat.zero_le _⟩ (fun r hw => ?_)
    subst hw
    refine lv_istore_n (lv' := [(2, .int (nI (n % 16))), (0, .ref _), (1, .int (nI n))]) hx hb d_T_wantLine_4 rfl hl (by decide) rfl (fun ls hl => ?_)
    refine lv_aload_n hx hb d_T_wantLine_5 rfl (lv_at hl 1 rfl) ?_
    refine xt_g1 hx hb hts hown hK hP d_T_wantLine_6 ?_
    refine lv_iload_n hx hb d_T_wantLine_9 rfl (lv_at hl 0 rfl) ?_
    refine xt_l1 hx hb hK hP (n % 16) rfl (by omega) d_T_wantLine_10 ?_
    refine lv_iload_n hx hb d_T_wantLine_11 rfl (lv_at hl 2 rfl) ?_
    refine lv_icmp_eq (tgt := 27) hx hb d_T_wantLine_12 (by decide) (fun c9 => absurd c9 h1) (fun _ => ?_)
    refine lv_aload_n hx hb d_T_wantLine_15 rfl (lv_at hl 1 rfl) ?_
    refine lv_iload_n hx hb d_T_wantLine_16 rfl (lv_at hl 0 rfl) ?_
    refine xc_calli (n := 1) (C := "TagMemory") hx hb hml hown hts (c_T_letLineGo l D G kc _ _ (n % 16) (by omega) (by exact hI)) (tb_V wm_61 wm_63 ws_0 wm_1 wm_64) rfl rfl rfl (by decide +kernel) ⟨Nat.le_of_ble_eq_true rfl, Nat.le_of_ble_eq_true rfl⟩ hK hP hD hS hA rfl rfl rfl rfl hl.1 rfl (Nat.le_of_ble_eq_true rfl) d_T_wantLine_17 ⟨Nat.zero_le _, Nat.zero_le _⟩ (fun r u1 H locs hw hP hD hS => ?_)
    obtain ⟨e1, e2⟩ := hw
    subst e1
    rw [e2] at hP hD; clear e2 u1
    refine lv_pop hx hb d_T_wantLine_20 rfl ?_
    refine lv_aload_n hx hb d_T_wantLine_21 rfl (lv_at hl 1 rfl) ?_
    refine lv_iload_n hx hb d_T_wantLine_22 rfl (lv_at hl 2 rfl) ?_
    refine lv_iload_n hx hb d_T_wantLine_23 rfl (lv_at hl 0 rfl) ?_
    refine xc_callv (n := 2) (C := "TagMemory") hx hb hml hown hts (c_T_bringLine l D G kc _ _ n (n % 16) (by omega) (by omega) (by exact hI1)) (tb_V wm_204 wm_206 ws_11 wm_1 wm_207) rfl rfl rfl (by decide +kernel) ⟨Nat.le_of_ble_eq_true rfl, Nat.le_of_ble_eq_true rfl⟩ hK hP hD hS hA rfl rfl rfl rfl hl.1 rfl (Nat.le_of_ble_eq_true rfl) d_T_wantLine_24 ⟨Nat.zero_le _, Nat.zero_le _⟩ (fun u1 H locs hw hP hD hS => ?_)
    rw [hw] at hP hD; clear hw u1
    exact xc_vret hx hb hr hlocks hP hK hD hS (by unfold fWant; rw [if_neg h1]) d_T_wantLine_27
set_option maxHeartbeats 4000000 in
set_option maxRecDepth 100000 in
theorem c_T_keptTag (l : Launch) (D : va_G) (G : Nat → Nat) (kc : Nat → ClassId) (sz : Nat) (u : TC) (g : Nat) (hg : g < 1024) : XMi l y_T_keptTag k_T_keptTag { frames := 1, cells := 0, slots := 0, locals := 20 } D vwCl (wT G kc) (tyTs kc) u sz [.ref (G 0), .int (nI g)] (fun r u1 => r = rTag u g ∧ u1 = u) := by
  refine xb_ofi (cc := b_T_keptTag) (maxL := 2) (ret := some .boolean) (by decide) rfl (Nat.le_of_ble_eq_true rfl) ?_
  intro p e s m below meth c A ls hsz hx hb hml hr hlocks hts hown hP hK hD hA hl
  have hl : lv_has ls 2 [(0, .ref (G 0)), (1, .int (nI g))] := hl
  have hS : va_S A s.heap s.heap [] := va_S.rf
  by_cases h1 : tLt u (g / 2 % 16) &&& ftb g = 0
  · skip
    refine lv_aload_n hx hb d_T_keptTag_0 rfl (lv_at hl 0 rfl) ?_
    refine xt_g3 hx hb hts hown hK hP d_T_keptTag_1 ?_
    refine lv_iload_n hx hb d_T_keptTag_4 rfl (lv_at hl 1 rfl) ?_
    refine xc_calls (n := 1) (C := "TagMemory") hx hb hml hown hts (c_T_lineOfGranule l g (by omega)) (tb_S wm_221 wm_222 wm_1 wm_223) rfl rfl rfl (by decide +kernel) ⟨Nat.le_of_ble_eq_true rfl, Nat.le_of_ble_eq_true rfl⟩ rfl hl.1 rfl (Nat.le_of_ble_eq_true rfl) d_T_keptTag_5 ⟨Nat.zero_le _, Nat.zero_le _⟩ (fun r hw => ?_)
    subst hw
    refine xc_calls (n := 1) (C := "TagMemory") hx hb hml hown hts (c_T_placeOfLine l (g / 2) (by omega)) (tb_S wm_97 wm_98 wm_1 wm_99) rfl rfl rfl (by decide +kernel) ⟨Nat.le_of_ble_eq_true rfl, Nat.le_of_ble_eq_true rfl⟩ rfl hl.1 rfl (Nat.le_of_ble_eq_true rfl) d_T_keptTag_8 ⟨Nat.zero_le _, Nat.zero_le _⟩ (fun r hw => ?_)
    subst hw
    refine xt_l3 hx hb hK hP ((g / 2) % 16) rfl (by omega) d_T_keptTag_11 ?_
    refine lv_iload_n hx hb d_T_keptTag_12 rfl (lv_at hl 1 rfl) ?_
    refine xc_calls (n := 1) (C := "TagMemory") hx hb hml hown hts (c_T_tagBit l g (by omega)) (tb_S wm_228 wm_229 wm_1 wm_230) rfl rfl rfl (by decide +kernel) ⟨Nat.le_of_ble_eq_true rfl, Nat.le_of_ble_eq_true rfl⟩ rfl hl.1 rfl (Nat.le_of_ble_eq_true rfl) d_T_keptTag_13 ⟨Nat.zero_le _, Nat.zero_le _⟩ (fun r hw => ?_)
    subst hw
    refine lv_iand hx hb d_T_keptTag_16 ?_
    refine lv_if_eq (tgt := 24) hx hb d_T_keptTag_17 (by decide) (fun _ => ?_) (fun c9 => absurd h1 c9)
    refine lv_iconst (v := 0) hx hb d_T_keptTag_24 (by decide) ?_
    exact xc_zret hx hb hr hlocks (Or.inl rfl) hP hK hD hS ⟨by unfold rTag; rw [if_pos h1], rfl⟩ d_T_keptTag_25
  · skip
    refine lv_aload_n hx hb d_T_keptTag_0 rfl (lv_at hl 0 rfl) ?_
    refine xt_g3 hx hb hts hown hK hP d_T_keptTag_1 ?_
    refine lv_iload_n hx hb d_T_keptTag_4 rfl (lv_at hl 1 rfl) ?_
    refine xc_calls (n := 1) (C := "TagMemory") hx hb hml hown hts (c_T_lineOfGranule l g (by omega)) (tb_S wm_221 wm_222 wm_1 wm_223) rfl rfl rfl (by decide +kernel) ⟨Nat.le_of_ble_eq_true rfl, Nat.le_of_ble_eq_true rfl⟩ rfl hl.1 rfl (Nat.le_of_ble_eq_true rfl) d_T_keptTag_5 ⟨Nat.zero_le _, Nat.zero_le _⟩ (fun r hw => ?_)
    subst hw
    refine xc_calls (n := 1) (C := "TagMemory") hx hb hml hown hts (c_T_placeOfLine l (g / 2) (by omega)) (tb_S wm_97 wm_98 wm_1 wm_99) rfl rfl rfl (by decide +kernel) ⟨Nat.le_of_ble_eq_true rfl, Nat.le_of_ble_eq_true rfl⟩ rfl hl.1 rfl (Nat.le_of_ble_eq_true rfl) d_T_keptTag_8 ⟨Nat.zero_le _, Nat.zero_le _⟩ (fun r hw => ?_)
    subst hw
    refine xt_l3 hx hb hK hP ((g / 2) % 16) rfl (by omega) d_T_keptTag_11 ?_
    refine lv_iload_n hx hb d_T_keptTag_12 rfl (lv_at hl 1 rfl) ?_
    refine xc_calls (n := 1) (C := "TagMemory") hx hb hml hown hts (c_T_tagBit l g (by omega)) (tb_S wm_228 wm_229 wm_1 wm_230) rfl rfl rfl (by decide +kernel) ⟨Nat.le_of_ble_eq_true rfl, Nat.le_of_ble_eq_true rfl⟩ rfl hl.1 rfl (Nat.le_of_ble_eq_true rfl) d_T_keptTag_13 ⟨Nat.zero_le _, Nat.zero_le _⟩ (fun r hw => ?_)
    subst hw
    refine lv_iand hx hb d_T_keptTag_16 ?_
    refine lv_if_eq (tgt := 24) hx hb d_T_keptTag_17 (by decide) (fun c9 => absurd c9 h1) (fun _ => ?_)
    refine lv_iconst (v := 1) hx hb d_T_keptTag_20 (by decide) ?_
    refine lv_goto (tgt := 25) hx hb d_T_keptTag_21 (by decide) ?_
    exact xc_zret hx hb hr hlocks (Or.inr rfl) hP hK hD hS ⟨by unfold rTag; rw [if_neg h1], rfl⟩ d_T_keptTag_25
set_option maxHeartbeats 4000000 in
set_option maxRecDepth 100000 in
theorem c_T_changeTag (l : Launch) (D : va_G) (G : Nat → Nat) (kc : Nat → ClassId) (sz : Nat) (u : TC) (g : Nat) (hg : g < 1024) (t : Int32) : XMv l y_T_changeTag k_T_changeTag { frames := 1, cells := 0, slots := 0, locals := 20 } D vwCl (wT G kc) (tyTs kc) u sz [.ref (G 0), .int (nI g), .int t] (fun u1 => u1 = fChTag u g t) := by
  refine xb_ofv (cc := b_T_changeTag) (maxL := 5) (ret := none) (by decide) rfl (Nat.le_of_ble_eq_true rfl) ?_
  intro p e s m below meth c A ls hsz hx hb hml hr hlocks hts hown hP hK hD hA hl
  have hl : lv_has ls 5 [(0, .ref (G 0)), (1, .int (nI g)), (2, .int t)] := hl
  have hS : va_S A s.heap s.heap [] := va_S.rf
  by_cases h1 : t = 0
  · skip
    refine lv_iload_n hx hb d_T_changeTag_0 rfl (lv_at hl 1 rfl) ?_
    refine xc_calls (n := 1) (C := "TagMemory") hx hb hml hown hts (c_T_lineOfGranule l g (by omega)) (tb_S wm_221 wm_222 wm_1 wm_223) rfl rfl rfl (by decide +kernel) ⟨Nat.le_of_ble_eq_true rfl, Nat.le_of_ble_eq_true rfl⟩ rfl hl.1 rfl (Nat.le_of_ble_eq_true rfl) d_T_changeTag_1 ⟨Nat.zero_le _, Nat.zero_le _⟩ (fun r hw => ?_)
    subst hw
    refine xc_calls (n := 1) (C := "TagMemory") hx hb hml hown hts (c_T_placeOfLine l (g / 2) (by omega)) (tb_S wm_97 wm_98 wm_1 wm_99) rfl rfl rfl (by decide +kernel) ⟨Nat.le_of_ble_eq_true rfl, Nat.le_of_ble_eq_true rfl⟩ rfl hl.1 rfl (Nat.le_of_ble_eq_true rfl) d_T_changeTag_4 ⟨Nat.zero_le _, Nat.zero_le _⟩ (fun r hw => ?_)
    subst hw
    refine lv_istore_n (lv' := [(3, .int (nI ((g / 2) % 16))), (0, .ref _), (1, .int (nI g)), (2, .int _)]) hx hb d_T_changeTag_7 rfl hl (by decide) rfl (fun ls hl => ?_)
    refine lv_aload_n hx hb d_T_changeTag_8 rfl (lv_at hl 1 rfl) ?_
    refine xt_g3 hx hb hts hown hK hP d_T_changeTag_9 ?_
    refine lv_iload_n hx hb d_T_changeTag_12 rfl (lv_at hl 0 rfl) ?_
    refine xt_l3 hx hb hK hP ((g / 2) % 16) rfl (by omega) d_T_changeTag_13 ?_
    refine lv_iload_n hx hb d_T_changeTag_14 rfl (lv_at hl 2 rfl) ?_
    refine xc_calls (n := 1) (C := "TagMemory") hx hb hml hown hts (c_T_tagBit l g (by omega)) (tb_S wm_228 wm_229 wm_1 wm_230) rfl rfl rfl (by decide +kernel) ⟨Nat.le_of_ble_eq_true rfl, Nat.le_of_ble_eq_true rfl⟩ rfl hl.1 rfl (Nat.le_of_ble_eq_true rfl) d_T_changeTag_15 ⟨Nat.zero_le _, Nat.zero_le _⟩ (fun r hw => ?_)
    subst hw
    refine lv_iconst (v := (-1)) hx hb d_T_changeTag_18 (by decide) ?_
    refine lv_ixor hx hb d_T_changeTag_19 ?_
    refine lv_iand hx hb d_T_changeTag_20 ?_
    refine lv_istore (lv' := [(4, .int _), (3, .int (nI ((g / 2) % 16))), (0, .ref _), (1, .int (nI g)), (2, .int _)]) hx hb d_T_changeTag_21 hl (by decide) rfl (fun ls hl => ?_)
    refine lv_aload_n hx hb d_T_changeTag_23 rfl (lv_at hl 2 rfl) ?_
    refine xt_g3 hx hb hts hown hK hP d_T_changeTag_24 ?_
    refine lv_iload_n hx hb d_T_changeTag_27 rfl (lv_at hl 1 rfl) ?_
    refine lv_iload_n hx hb d_T_changeTag_28 rfl (lv_at hl 4 rfl) ?_
    refine lv_if_eq (tgt := 42) hx hb d_T_changeTag_29 (by decide) (fun _ => ?_) (fun c9 => absurd h1 c9)
    refine lv_iload hx hb d_T_changeTag_42 (lv_at hl 0 rfl) ?_
    refine xt_s3 hx hb hK hP hD hS ((g / 2) % 16) rfl (by omega) d_T_changeTag_44 (fun H locs hP hD hS => ?_)
    refine lv_aload_n hx hb d_T_changeTag_45 rfl (lv_at hl 2 rfl) ?_
    refine xt_g4 hx hb hts hown hK hP d_T_changeTag_46 ?_
    refine lv_iload_n hx hb d_T_changeTag_49 rfl (lv_at hl 1 rfl) ?_
    refine lv_iconst (v := 1) hx hb d_T_changeTag_50 (by decide) ?_
    refine xt_s4 hx hb hK hP hD hS (Or.inr rfl) ((g / 2) % 16) rfl (by omega) d_T_changeTag_51 (fun H locs hP hD hS => ?_)
    exact xc_vret hx hb hr hlocks hP hK hD hS (by unfold fChTag; rw [if_pos h1]; rfl) d_T_changeTag_52
  · skip
    refine lv_iload_n hx hb d_T_changeTag_0 rfl (lv_at hl 1 rfl) ?_
    refine xc_calls (n := 1) (C := "TagMemory") hx hb hml hown hts (c_T_lineOfGranule l g (by omega)) (tb_S wm_221 wm_222 wm_1 wm_223) rfl rfl rfl (by decide +kernel) ⟨Nat.le_of_ble_eq_true rfl, Nat.le_of_ble_eq_true rfl⟩ rfl hl.1 rfl (Nat.le_of_ble_eq_true rfl) d_T_changeTag_1 ⟨Nat.zero_le _, Nat.zero_le _⟩ (fun r hw => ?_)
    subst hw
    refine xc_calls (n := 1) (C := "TagMemory") hx hb hml hown hts (c_T_placeOfLine l (g / 2) (by omega)) (tb_S wm_97 wm_98 wm_1 wm_99) rfl rfl rfl (by decide +kernel) ⟨Nat.le_of_ble_eq_true rfl, Nat.le_of_ble_eq_true rfl⟩ rfl hl.1 rfl (Nat.le_of_ble_eq_true rfl) d_T_changeTag_4 ⟨Nat.zero_le _, Nat.zero_le _⟩ (fun r hw => ?_)
    subst hw
    refine lv_istore_n (lv' := [(3, .int (nI ((g / 2) % 16))), (0, .ref _), (1, .int (nI g)), (2, .int _)]) hx hb d_T_changeTag_7 rfl hl (by decide) rfl (fun ls hl => ?_)
    refine lv_aload_n hx hb d_T_changeTag_8 rfl (lv_at hl 1 rfl) ?_
    refine xt_g3 hx hb hts hown hK hP d_T_changeTag_9 ?_
    refine lv_iload_n hx hb d_T_changeTag_12 rfl (lv_at hl 0 rfl) ?_
    refine xt_l3 hx hb hK hP ((g / 2) % 16) rfl (by omega) d_T_changeTag_13 ?_
    refine lv_iload_n hx hb d_T_changeTag_14 rfl (lv_at hl 2 rfl) ?_
    refine xc_calls (n := 1) (C := "TagMemory") hx hb hml hown hts (c_T_tagBit l g (by omega)) (tb_S wm_228 wm_229 wm_1 wm_230) rfl rfl rfl (by decide +kernel) ⟨Nat.le_of_ble_eq_true rfl, Nat.le_of_ble_eq_true rfl⟩ rfl hl.1 rfl (Nat.le_of_ble_eq_true rfl) d_T_changeTag_15 ⟨Nat.zero_le _, Nat.zero_le _⟩ (fun r hw => ?_)
    subst hw
    refine lv_iconst (v := (-1)) hx hb d_T_changeTag_18 (by decide) ?_
    refine lv_ixor hx hb d_T_changeTag_19 ?_
    refine lv_iand hx hb d_T_changeTag_20 ?_
    refine lv_istore (lv' := [(4, .int _), (3, .int (nI ((g / 2) % 16))), (0, .ref _), (1, .int (nI g)), (2, .int _)]) hx hb d_T_changeTag_21 hl (by decide) rfl (fun ls hl => ?_)
    refine lv_aload_n hx hb d_T_changeTag_23 rfl (lv_at hl 2 rfl) ?_
    refine xt_g3 hx hb hts hown hK hP d_T_changeTag_24 ?_
    refine lv_iload_n hx hb d_T_changeTag_27 rfl (lv_at hl 1 rfl) ?_
    refine lv_iload_n hx hb d_T_changeTag_28 rfl (lv_at hl 4 rfl) ?_
    refine lv_if_eq (tgt := 42) hx hb d_T_changeTag_29 (by decide) (fun c9 => absurd c9 h1) (fun _ => ?_)
    refine lv_iload hx hb d_T_changeTag_32 (lv_at hl 0 rfl) ?_
    refine lv_iload_n hx hb d_T_changeTag_34 rfl (lv_at hl 3 rfl) ?_
    refine xc_calls (n := 1) (C := "TagMemory") hx hb hml hown hts (c_T_tagBit l g (by omega)) (tb_S wm_228 wm_229 wm_1 wm_230) rfl rfl rfl (by decide +kernel) ⟨Nat.le_of_ble_eq_true rfl, Nat.le_of_ble_eq_true rfl⟩ rfl hl.1 rfl (Nat.le_of_ble_eq_true rfl) d_T_changeTag_35 ⟨Nat.zero_le _, Nat.zero_le _⟩ (fun r hw => ?_)
    subst hw
    refine lv_ior hx hb d_T_changeTag_38 ?_
    refine lv_goto (tgt := 44) hx hb d_T_changeTag_39 (by decide) ?_
    refine xt_s3 hx hb hK hP hD hS ((g / 2) % 16) rfl (by omega) d_T_changeTag_44 (fun H locs hP hD hS => ?_)
    refine lv_aload_n hx hb d_T_changeTag_45 rfl (lv_at hl 2 rfl) ?_
    refine xt_g4 hx hb hts hown hK hP d_T_changeTag_46 ?_
    refine lv_iload_n hx hb d_T_changeTag_49 rfl (lv_at hl 1 rfl) ?_
    refine lv_iconst (v := 1) hx hb d_T_changeTag_50 (by decide) ?_
    refine xt_s4 hx hb hK hP hD hS (Or.inr rfl) ((g / 2) % 16) rfl (by omega) d_T_changeTag_51 (fun H locs hP hD hS => ?_)
    exact xc_vret hx hb hr hlocks hP hK hD hS (by unfold fChTag; rw [if_neg h1]; rfl) d_T_changeTag_52
set_option maxHeartbeats 4000000 in
set_option maxRecDepth 100000 in
theorem c_T_changeWord (l : Launch) (D : va_G) (G : Nat → Nat) (kc : Nat → ClassId) (sz : Nat) (u : TC) (i : Nat) (hi : i < 2048) (w : Int32) : XMv l y_T_changeWord k_T_changeWord { frames := 2, cells := 0, slots := 0, locals := 44 } D vwCl (wT G kc) (tyTs kc) u sz [.ref (G 0), .int (nI i), .int w] (fun u1 => u1 = fChWord u i w) := by
  refine xb_ofv (cc := b_T_changeWord) (maxL := 3) (ret := none) (by decide) rfl (Nat.le_of_ble_eq_true rfl) ?_
  intro p e s m below meth c A ls hsz hx hb hml hr hlocks hts hown hP hK hD hA hl
  have hl : lv_has ls 3 [(0, .ref (G 0)), (1, .int (nI i)), (2, .int w)] := hl
  have hS : va_S A s.heap s.heap [] := va_S.rf
  refine lv_aload_n hx hb d_T_changeWord_0 rfl (lv_at hl 0 rfl) ?_
  refine xt_g2 hx hb hts hown hK hP d_T_changeWord_1 ?_
  refine lv_iload_n hx hb d_T_changeWord_4 rfl (lv_at hl 1 rfl) ?_
  refine xc_calls (n := 1) (C := "TagMemory") hx hb hml hown hts (c_T_slotOfWord l i (by omega)) (tb_S wm_208 wm_209 wm_1 wm_210) rfl rfl rfl (by decide +kernel) ⟨Nat.le_of_ble_eq_true rfl, Nat.le_of_ble_eq_true rfl⟩ rfl hl.1 rfl (Nat.le_of_ble_eq_true rfl) d_T_changeWord_5 ⟨Nat.zero_le _, Nat.zero_le _⟩ (fun r hw => ?_)
  subst hw
  refine lv_iload_n hx hb d_T_changeWord_8 rfl (lv_at hl 2 rfl) ?_
  refine xt_s2 hx hb hK hP hD hS (i % 64) rfl (by omega) d_T_changeWord_9 (fun H locs hP hD hS => ?_)
  refine lv_aload_n hx hb d_T_changeWord_10 rfl (lv_at hl 0 rfl) ?_
  refine lv_iload_n hx hb d_T_changeWord_11 rfl (lv_at hl 1 rfl) ?_
  refine xc_calls (n := 1) (C := "TagMemory") hx hb hml hown hts (c_T_granuleOfWord l i (by omega)) (tb_S wm_218 wm_219 wm_1 wm_220) rfl rfl rfl (by decide +kernel) ⟨Nat.le_of_ble_eq_true rfl, Nat.le_of_ble_eq_true rfl⟩ rfl hl.1 rfl (Nat.le_of_ble_eq_true rfl) d_T_changeWord_12 ⟨Nat.zero_le _, Nat.zero_le _⟩ (fun r hw => ?_)
  subst hw
  refine lv_iconst (v := 0) hx hb d_T_changeWord_15 (by decide) ?_
  refine xc_callv (n := 2) (C := "TagMemory") hx hb hml hown hts (c_T_changeTag l D G kc _ _ (i / 2) (by omega) _) (tb_V wm_242 wm_244 ws_14 wm_1 wm_245) rfl rfl rfl (by decide +kernel) ⟨Nat.le_of_ble_eq_true rfl, Nat.le_of_ble_eq_true rfl⟩ hK hP hD hS hA rfl rfl rfl rfl hl.1 rfl (Nat.le_of_ble_eq_true rfl) d_T_changeWord_16 ⟨Nat.zero_le _, Nat.zero_le _⟩ (fun u1 H locs hw hP hD hS => ?_)
  rw [hw] at hP hD; clear hw u1
  exact xc_vret hx hb hr hlocks hP hK hD hS rfl d_T_changeWord_19
set_option maxHeartbeats 4000000 in
set_option maxRecDepth 100000 in
theorem c_T_changeGranule (l : Launch) (D : va_G) (G : Nat → Nat) (kc : Nat → ClassId) (sz : Nat) (u : TC) (g : Nat) (hg : g < 1024) (lo hi t : Int32) : XMv l y_T_changeGranule k_T_changeGranule { frames := 2, cells := 0, slots := 0, locals := 44 } D vwCl (wT G kc) (tyTs kc) u sz [.ref (G 0), .int (nI g), .int lo, .int hi, .int t] (fun u1 => u1 = fChGran u g lo hi t) := by
  refine xb_ofv (cc := b_T_changeGranule) (maxL := 5) (ret := none) (by decide) rfl (Nat.le_of_ble_eq_true rfl) ?_
  intro p e s m below meth c A ls hsz hx hb hml hr hlocks hts hown hP hK hD hA hl
  have hl : lv_has ls 5 [(0, .ref (G 0)), (1, .int (nI g)), (2, .int lo), (3, .int hi), (4, .int t)] := hl
  have hS : va_S A s.heap s.heap [] := va_S.rf
  refine lv_aload_n hx hb d_T_changeGranule_0 rfl (lv_at hl 0 rfl) ?_
  refine xt_g2 hx hb hts hown hK hP d_T_changeGranule_1 ?_
  refine lv_iconst (v := 2) hx hb d_T_changeGranule_4 (by decide) ?_
  refine lv_iload_n hx hb d_T_changeGranule_5 rfl (lv_at hl 1 rfl) ?_
  refine xa_imul hx hb 2 g rfl rfl d_T_changeGranule_6 ?_
  refine xc_calls (n := 1) (C := "TagMemory") hx hb hml hown hts (c_T_slotOfWord l (2 * g) (by omega)) (tb_S wm_208 wm_209 wm_1 wm_210) rfl rfl rfl (by decide +kernel) ⟨Nat.le_of_ble_eq_true rfl, Nat.le_of_ble_eq_true rfl⟩ rfl hl.1 rfl (Nat.le_of_ble_eq_true rfl) d_T_changeGranule_7 ⟨Nat.zero_le _, Nat.zero_le _⟩ (fun r hw => ?_)
  subst hw
  refine lv_iload_n hx hb d_T_changeGranule_10 rfl (lv_at hl 2 rfl) ?_
  refine xt_s2 hx hb hK hP hD hS ((2 * g) % 64) rfl (by omega) d_T_changeGranule_11 (fun H locs hP hD hS => ?_)
  refine lv_aload_n hx hb d_T_changeGranule_12 rfl (lv_at hl 0 rfl) ?_
  refine xt_g2 hx hb hts hown hK hP d_T_changeGranule_13 ?_
  refine lv_iconst (v := 2) hx hb d_T_changeGranule_16 (by decide) ?_
  refine lv_iload_n hx hb d_T_changeGranule_17 rfl (lv_at hl 1 rfl) ?_
  refine xa_imul hx hb 2 g rfl rfl d_T_changeGranule_18 ?_
  refine lv_iconst (v := 1) hx hb d_T_changeGranule_19 (by decide) ?_
  refine xa_iadd hx hb (2 * g) 1 rfl rfl d_T_changeGranule_20 ?_
  refine xc_calls (n := 1) (C := "TagMemory") hx hb hml hown hts (c_T_slotOfWord l ((2 * g) + 1) (by omega)) (tb_S wm_208 wm_209 wm_1 wm_210) rfl rfl rfl (by decide +kernel) ⟨Nat.le_of_ble_eq_true rfl, Nat.le_of_ble_eq_true rfl⟩ rfl hl.1 rfl (Nat.le_of_ble_eq_true rfl) d_T_changeGranule_21 ⟨Nat.zero_le _, Nat.zero_le _⟩ (fun r hw => ?_)
  subst hw
  refine lv_iload_n hx hb d_T_changeGranule_24 rfl (lv_at hl 3 rfl) ?_
  refine xt_s2 hx hb hK hP hD hS (((2 * g) + 1) % 64) rfl (by omega) d_T_changeGranule_25 (fun H locs hP hD hS => ?_)
  refine lv_aload_n hx hb d_T_changeGranule_26 rfl (lv_at hl 0 rfl) ?_
  refine lv_iload_n hx hb d_T_changeGranule_27 rfl (lv_at hl 1 rfl) ?_
  refine lv_iload hx hb d_T_changeGranule_28 (lv_at hl 4 rfl) ?_
  refine xc_callv (n := 2) (C := "TagMemory") hx hb hml hown hts (c_T_changeTag l D G kc _ _ g (by omega) _) (tb_V wm_242 wm_244 ws_14 wm_1 wm_245) rfl rfl rfl (by decide +kernel) ⟨Nat.le_of_ble_eq_true rfl, Nat.le_of_ble_eq_true rfl⟩ hK hP hD hS hA rfl rfl rfl rfl hl.1 rfl (Nat.le_of_ble_eq_true rfl) d_T_changeGranule_30 ⟨Nat.zero_le _, Nat.zero_le _⟩ (fun u1 H locs hw hP hD hS => ?_)
  rw [hw] at hP hD; clear hw u1
  exact xc_vret hx hb hr hlocks hP hK hD hS rfl d_T_changeGranule_33
set_option maxHeartbeats 4000000 in
set_option maxRecDepth 100000 in
theorem c_T_peekRow (l : Launch) (D : va_G) (G : Nat → Nat) (kc : Nat → ClassId) (sz : Nat) (u : TC) (k : Nat) (hk : k < 32) : XMi l y_T_peekRow k_T_peekRow { frames := 1, cells := 0, slots := 0, locals := 20 } D vwCl (wT G kc) (tyTs kc) u sz [.ref (G 0), .int (nI k)] (fun r u1 => r = fPeek u k ∧ u1 = u) := by
  refine xb_ofi (cc := b_T_peekRow) (maxL := 3) (ret := some .int) (by decide) rfl (Nat.le_of_ble_eq_true rfl) ?_
  intro p e s m below meth c A ls hsz hx hb hml hr hlocks hts hown hP hK hD hA hl
  have hl : lv_has ls 3 [(0, .ref (G 0)), (1, .int (nI k))] := hl
  have hS : va_S A s.heap s.heap [] := va_S.rf
  by_cases h1 : tRa u (k % 4) = nI k
  · skip
    refine lv_iload_n hx hb d_T_peekRow_0 rfl (lv_at hl 1 rfl) ?_
    refine xc_calls (n := 1) (C := "TagMemory") hx hb hml hown hts (c_T_placeOfRow l k (by omega)) (tb_S wm_79 wm_80 wm_1 wm_81) rfl rfl rfl (by decide +kernel) ⟨Nat.le_of_ble_eq_true rfl, Nat.le_of_ble_eq_true rfl⟩ rfl hl.1 rfl (Nat.le_of_ble_eq_true rfl) d_T_peekRow_1 ⟨Nat.zero_le _, Nat.zero_le _⟩ (fun r hw => ?_)
    subst hw
    refine lv_istore_n (lv' := [(2, .int (nI (k % 4))), (0, .ref _), (1, .int (nI k))]) hx hb d_T_peekRow_4 rfl hl (by decide) rfl (fun ls hl => ?_)
    refine lv_aload_n hx hb d_T_peekRow_5 rfl (lv_at hl 1 rfl) ?_
    refine xt_g5 hx hb hts hown hK hP d_T_peekRow_6 ?_
    refine lv_iload_n hx hb d_T_peekRow_9 rfl (lv_at hl 0 rfl) ?_
    refine xt_l5 hx hb hK hP (k % 4) rfl (by omega) d_T_peekRow_10 ?_
    refine lv_iload_n hx hb d_T_peekRow_11 rfl (lv_at hl 2 rfl) ?_
    refine lv_icmp_ne (tgt := 24) hx hb d_T_peekRow_12 (by decide) (fun c9 => absurd h1 c9) (fun _ => ?_)
    refine lv_aload_n hx hb d_T_peekRow_15 rfl (lv_at hl 1 rfl) ?_
    refine xt_g6 hx hb hts hown hK hP d_T_peekRow_16 ?_
    refine lv_iload_n hx hb d_T_peekRow_19 rfl (lv_at hl 0 rfl) ?_
    refine xt_l6 hx hb hK hP (k % 4) rfl (by omega) d_T_peekRow_20 ?_
    refine lv_goto (tgt := 34) hx hb d_T_peekRow_21 (by decide) ?_
    exact xc_iret hx hb hr hlocks hP hK hD hS ⟨by unfold fPeek; rw [if_pos h1], rfl⟩ d_T_peekRow_34
  · skip
    refine lv_iload_n hx hb d_T_peekRow_0 rfl (lv_at hl 1 rfl) ?_
    refine xc_calls (n := 1) (C := "TagMemory") hx hb hml hown hts (c_T_placeOfRow l k (by omega)) (tb_S wm_79 wm_80 wm_1 wm_81) rfl rfl rfl (by decide +kernel) ⟨Nat.le_of_ble_eq_true rfl, Nat.le_of_ble_eq_true rfl⟩ rfl hl.1 rfl (Nat.le_of_ble_eq_true rfl) d_T_peekRow_1 ⟨Nat.zero_le _, Nat.zero_le _⟩ (fun r hw => ?_)
    subst hw
    refine lv_istore_n (lv' := [(2, .int (nI (k % 4))), (0, .ref _), (1, .int (nI k))]) hx hb d_T_peekRow_4 rfl hl (by decide) rfl (fun ls hl => ?_)
    refine lv_aload_n hx hb d_T_peekRow_5 rfl (lv_at hl 1 rfl) ?_
    refine xt_g5 hx hb hts hown hK hP d_T_peekRow_6 ?_
    refine lv_iload_n hx hb d_T_peekRow_9 rfl (lv_at hl 0 rfl) ?_
    refine xt_l5 hx hb hK hP (k % 4) rfl (by omega) d_T_peekRow_10 ?_
    refine lv_iload_n hx hb d_T_peekRow_11 rfl (lv_at hl 2 rfl) ?_
    refine lv_icmp_ne (tgt := 24) hx hb d_T_peekRow_12 (by decide) (fun _ => ?_) (fun c9 => absurd c9 h1)
    refine lv_aload_n hx hb d_T_peekRow_24 rfl (lv_at hl 1 rfl) ?_
    refine xt_g0 hx hb hts hown hK hP d_T_peekRow_25 ?_
    refine lv_sipush (v := 2048) hx hb d_T_peekRow_28 (by decide) ?_
    refine lv_iload_n hx hb d_T_peekRow_31 rfl (lv_at hl 2 rfl) ?_
    refine xa_iadd hx hb 2048 k rfl rfl d_T_peekRow_32 ?_
    refine xt_l0 hx hb hK hP (2048 + k) rfl (by omega) d_T_peekRow_33 ?_
    exact xc_iret hx hb hr hlocks hP hK hD hS ⟨by unfold fPeek; rw [if_neg h1], rfl⟩ d_T_peekRow_34
set_option maxHeartbeats 4000000 in
set_option maxRecDepth 100000 in
theorem c_T_tagsBehindLine (l : Launch) (D : va_G) (G : Nat → Nat) (kc : Nat → ClassId) (sz : Nat) (u : TC) (n : Nat) (hn : n < 512) : XMi l y_T_tagsBehindLine k_T_tagsBehindLine { frames := 2, cells := 0, slots := 0, locals := 42 } D vwCl (wT G kc) (tyTs kc) u sz [.ref (G 0), .int (nI n)] (fun r u1 => r = ftol n (fPeek u (n / 16)) ∧ u1 = u) := by
  refine xb_ofi (cc := b_T_tagsBehindLine) (maxL := 2) (ret := some .int) (by decide) rfl (Nat.le_of_ble_eq_true rfl) ?_
  intro p e s m below meth c A ls hsz hx hb hml hr hlocks hts hown hP hK hD hA hl
  have hl : lv_has ls 2 [(0, .ref (G 0)), (1, .int (nI n))] := hl
  have hS : va_S A s.heap s.heap [] := va_S.rf
  refine lv_iload_n hx hb d_T_tagsBehindLine_0 rfl (lv_at hl 1 rfl) ?_
  refine lv_aload_n hx hb d_T_tagsBehindLine_1 rfl (lv_at hl 0 rfl) ?_
  refine lv_iload_n hx hb d_T_tagsBehindLine_2 rfl (lv_at hl 1 rfl) ?_
  refine xc_calls (n := 1) (C := "TagMemory") hx hb hml hown hts (c_T_rowOfLine l n (by omega)) (tb_S wm_72 wm_73 wm_1 wm_74) rfl rfl rfl (by decide +kernel) ⟨Nat.le_of_ble_eq_true rfl, Nat.le_of_ble_eq_true rfl⟩ rfl hl.1 rfl (Nat.le_of_ble_eq_true rfl) d_T_tagsBehindLine_3 ⟨Nat.zero_le _, Nat.zero_le _⟩ (fun r hw => ?_)
  subst hw
  refine xc_calli (n := 1) (C := "TagMemory") hx hb hml hown hts (c_T_peekRow l D G kc _ _ (n / 16) (by omega)) (tb_V wm_108 wm_110 ws_7 wm_1 wm_111) rfl rfl rfl (by decide +kernel) ⟨Nat.le_of_ble_eq_true rfl, Nat.le_of_ble_eq_true rfl⟩ hK hP hD hS hA rfl rfl rfl rfl hl.1 rfl (Nat.le_of_ble_eq_true rfl) d_T_tagsBehindLine_6 ⟨Nat.zero_le _, Nat.zero_le _⟩ (fun r u1 H locs hw hP hD hS => ?_)
  obtain ⟨e1, e2⟩ := hw
  subst e1
  rw [e2] at hP hD; clear e2 u1
  refine xc_calls (n := 2) (C := "TagMemory") hx hb hml hown hts (c_T_tagsOfLine l n (by omega) _) (tb_S wm_112 wm_113 wm_1 wm_114) rfl rfl rfl (by decide +kernel) ⟨Nat.le_of_ble_eq_true rfl, Nat.le_of_ble_eq_true rfl⟩ rfl hl.1 rfl (Nat.le_of_ble_eq_true rfl) d_T_tagsBehindLine_9 ⟨Nat.zero_le _, Nat.zero_le _⟩ (fun r hw => ?_)
  subst hw
  exact xc_iret hx hb hr hlocks hP hK hD hS ⟨rfl, rfl⟩ d_T_tagsBehindLine_12
set_option maxHeartbeats 4000000 in
set_option maxRecDepth 100000 in
theorem c_T_areWordsAsStored (l : Launch) (D : va_G) (G : Nat → Nat) (kc : Nat → ClassId) (sz : Nat) (u : TC) (n q : Nat) (hn : n < 512) (hq : q < 16) (hw : ∀ w, w < 4 → tLw u (q * 4 + w) = tSt u (n * 4 + w)) : XMi l y_T_areWordsAsStored k_T_areWordsAsStored { frames := 0, cells := 0, slots := 0, locals := 0 } D vwCl (wT G kc) (tyTs kc) u sz [.ref (G 0), .int (nI n), .int (nI q)] (fun r u1 => r = 1 ∧ u1 = u) := by
  refine xb_ofi (cc := b_T_areWordsAsStored) (maxL := 4) (ret := some .boolean) (by decide) rfl (Nat.le_of_ble_eq_true rfl) ?_
  intro p e s m below meth c A ls hsz hx hb hml hr hlocks hts hown hP hK hD hA hl
  have hl : lv_has ls 4 [(0, .ref (G 0)), (1, .int (nI n)), (2, .int (nI q))] := hl
  have hS : va_S A s.heap s.heap [] := va_S.rf
  refine lv_iconst (v := 0) hx hb d_T_areWordsAsStored_0 (by decide) ?_
  refine lv_istore_n (lv' := [(3, .int (nI 0)), (0, .ref _), (1, .int (nI n)), (2, .int (nI q))]) hx hb d_T_areWordsAsStored_1 rfl hl (by decide) rfl (fun ls hl => ?_)
  refine lv_iload_n hx hb d_T_areWordsAsStored_2 rfl (lv_at hl 0 rfl) ?_
  refine lv_iconst (v := 4) hx hb d_T_areWordsAsStored_3 (by decide) ?_
  refine lv_icmp_ge (tgt := 38) hx hb d_T_areWordsAsStored_4 (by decide) (fun c9 => absurd c9 (by decide)) (fun _ => ?_)
  refine lv_aload_n hx hb d_T_areWordsAsStored_7 rfl (lv_at hl 1 rfl) ?_
  refine xt_g2 hx hb hts hown hK hP d_T_areWordsAsStored_8 ?_
  refine lv_iload_n hx hb d_T_areWordsAsStored_11 rfl (lv_at hl 3 rfl) ?_
  refine lv_iconst (v := 4) hx hb d_T_areWordsAsStored_12 (by decide) ?_
  refine xa_imul hx hb q 4 rfl rfl d_T_areWordsAsStored_13 ?_
  refine lv_iload_n hx hb d_T_areWordsAsStored_14 rfl (lv_at hl 0 rfl) ?_
  refine xa_iadd hx hb (q * 4) 0 rfl rfl d_T_areWordsAsStored_15 ?_
  refine xt_l2 hx hb hK hP ((q * 4) + 0) rfl (by omega) d_T_areWordsAsStored_16 ?_
  refine lv_aload_n hx hb d_T_areWordsAsStored_17 rfl (lv_at hl 1 rfl) ?_
  refine xt_g0 hx hb hts hown hK hP d_T_areWordsAsStored_18 ?_
  refine lv_iload_n hx hb d_T_areWordsAsStored_21 rfl (lv_at hl 2 rfl) ?_
  refine lv_iconst (v := 4) hx hb d_T_areWordsAsStored_22 (by decide) ?_
  refine xa_imul hx hb n 4 rfl rfl d_T_areWordsAsStored_23 ?_
  refine lv_iload_n hx hb d_T_areWordsAsStored_24 rfl (lv_at hl 0 rfl) ?_
  refine xa_iadd hx hb (n * 4) 0 rfl rfl d_T_areWordsAsStored_25 ?_
  refine xt_l0 hx hb hK hP ((n * 4) + 0) rfl (by omega) d_T_areWordsAsStored_26 ?_
  refine lv_icmp_eq (tgt := 32) hx hb d_T_areWordsAsStored_27 (by decide) (fun _ => ?_) (fun c9 => absurd (hw _ (by omega)) c9)
  refine lv_iinc (v := nI (0 + 1)) (lv' := [(3, .int (nI (0 + 1))), (0, .ref _), (1, .int (nI n)), (2, .int (nI q))]) hx hb d_T_areWordsAsStored_32 hl (k := 0) rfl (nI_add _ _) (by decide) rfl (fun ls hl => ?_)
  refine lv_goto (tgt := 2) hx hb d_T_areWordsAsStored_35 (by decide) ?_
  refine lv_iload_n hx hb d_T_areWordsAsStored_2 rfl (lv_at hl 0 rfl) ?_
  refine lv_iconst (v := 4) hx hb d_T_areWordsAsStored_3 (by decide) ?_
  refine lv_icmp_ge (tgt := 38) hx hb d_T_areWordsAsStored_4 (by decide) (fun c9 => absurd c9 (by decide)) (fun _ => ?_)
  refine lv_aload_n hx hb d_T_areWordsAsStored_7 rfl (lv_at hl 1 rfl) ?_
  refine xt_g2 hx hb hts hown hK hP d_T_areWordsAsStored_8 ?_
  refine lv_iload_n hx hb d_T_areWordsAsStored_11 rfl (lv_at hl 3 rfl) ?_
  refine lv_iconst (v := 4) hx hb d_T_areWordsAsStored_12 (by decide) ?_
  refine xa_imul hx hb q 4 rfl rfl d_T_areWordsAsStored_13 ?_
  refine lv_iload_n hx hb d_T_areWordsAsStored_14 rfl (lv_at hl 0 rfl) ?_
  refine xa_iadd hx hb (q * 4) (0 + 1) rfl rfl d_T_areWordsAsStored_15 ?_
  refine xt_l2 hx hb hK hP ((q * 4) + (0 + 1)) rfl (by omega) d_T_areWordsAsStored_16 ?_
  refine lv_aload_n hx hb d_T_areWordsAsStored_17 rfl (lv_at hl 1 rfl) ?_
  refine xt_g0 hx hb hts hown hK hP d_T_areWordsAsStored_18 ?_
  refine lv_iload_n hx hb d_T_areWordsAsStored_21 rfl (lv_at hl 2 rfl) ?_
  refine lv_iconst (v := 4) hx hb d_T_areWordsAsStored_22 (by decide) ?_
  refine xa_imul hx hb n 4 rfl rfl d_T_areWordsAsStored_23 ?_
  refine lv_iload_n hx hb d_T_areWordsAsStored_24 rfl (lv_at hl 0 rfl) ?_
  refine xa_iadd hx hb (n * 4) (0 + 1) rfl rfl d_T_areWordsAsStored_25 ?_
  refine xt_l0 hx hb hK hP ((n * 4) + (0 + 1)) rfl (by omega) d_T_areWordsAsStored_26 ?_
  refine lv_icmp_eq (tgt := 32) hx hb d_T_areWordsAsStored_27 (by decide) (fun _ => ?_) (fun c9 => absurd (hw _ (by omega)) c9)
  refine lv_iinc (v := nI ((0 + 1) + 1)) (lv' := [(3, .int (nI ((0 + 1) + 1))), (0, .ref _), (1, .int (nI n)), (2, .int (nI q))]) hx hb d_T_areWordsAsStored_32 hl (k := 0) rfl (nI_add _ _) (by decide) rfl (fun ls hl => ?_)
  refine lv_goto (tgt := 2) hx hb d_T_areWordsAsStored_35 (by decide) ?_
  refine lv_iload_n hx hb d_T_areWordsAsStored_2 rfl (lv_at hl 0 rfl) ?_
  refine lv_iconst (v := 4) hx hb d_T_areWordsAsStored_3 (by decide) ?_
  refine lv_icmp_ge (tgt := 38) hx hb d_T_areWordsAsStored_4 (by decide) (fun c9 => absurd c9 (by decide)) (fun _ => ?_)
  refine lv_aload_n hx hb d_T_areWordsAsStored_7 rfl (lv_at hl 1 rfl) ?_
  refine xt_g2 hx hb hts hown hK hP d_T_areWordsAsStored_8 ?_
  refine lv_iload_n hx hb d_T_areWordsAsStored_11 rfl (lv_at hl 3 rfl) ?_
  refine lv_iconst (v := 4) hx hb d_T_areWordsAsStored_12 (by decide) ?_
  refine xa_imul hx hb q 4 rfl rfl d_T_areWordsAsStored_13 ?_
  refine lv_iload_n hx hb d_T_areWordsAsStored_14 rfl (lv_at hl 0 rfl) ?_
  refine xa_iadd hx hb (q * 4) ((0 + 1) + 1) rfl rfl d_T_areWordsAsStored_15 ?_
  refine xt_l2 hx hb hK hP ((q * 4) + ((0 + 1) + 1)) rfl (by omega) d_T_areWordsAsStored_16 ?_
  refine lv_aload_n hx hb d_T_areWordsAsStored_17 rfl (lv_at hl 1 rfl) ?_
  refine xt_g0 hx hb hts hown hK hP d_T_areWordsAsStored_18 ?_
  refine lv_iload_n hx hb d_T_areWordsAsStored_21 rfl (lv_at hl 2 rfl) ?_
  refine lv_iconst (v := 4) hx hb d_T_areWordsAsStored_22 (by decide) ?_
  refine xa_imul hx hb n 4 rfl rfl d_T_areWordsAsStored_23 ?_
  refine lv_iload_n hx hb d_T_areWordsAsStored_24 rfl (lv_at hl 0 rfl) ?_
  refine xa_iadd hx hb (n * 4) ((0 + 1) + 1) rfl rfl d_T_areWordsAsStored_25 ?_
  refine xt_l0 hx hb hK hP ((n * 4) + ((0 + 1) + 1)) rfl (by omega) d_T_areWordsAsStored_26 ?_
  refine lv_icmp_eq (tgt := 32) hx hb d_T_areWordsAsStored_27 (by decide) (fun _ => ?_) (fun c9 => absurd (hw _ (by omega)) c9)
  refine lv_iinc (v := nI (((0 + 1) + 1) + 1)) (lv' := [(3, .int (nI (((0 + 1) + 1) + 1))), (0, .ref _), (1, .int (nI n)), (2, .int (nI q))]) hx hb d_T_areWordsAsStored_32 hl (k := 0) rfl (nI_add _ _) (by decide) rfl (fun ls hl => ?_)
  refine lv_goto (tgt := 2) hx hb d_T_areWordsAsStored_35 (by decide) ?_
  refine lv_iload_n hx hb d_T_areWordsAsStored_2 rfl (lv_at hl 0 rfl) ?_
  refine lv_iconst (v := 4) hx hb d_T_areWordsAsStored_3 (by decide) ?_
  refine lv_icmp_ge (tgt := 38) hx hb d_T_areWordsAsStored_4 (by decide) (fun c9 => absurd c9 (by decide)) (fun _ => ?_)
  refine lv_aload_n hx hb d_T_areWordsAsStored_7 rfl (lv_at hl 1 rfl) ?_
  refine xt_g2 hx hb hts hown hK hP d_T_areWordsAsStored_8 ?_
  refine lv_iload_n hx hb d_T_areWordsAsStored_11 rfl (lv_at hl 3 rfl) ?_
  refine lv_iconst (v := 4) hx hb d_T_areWordsAsStored_12 (by decide) ?_
  refine xa_imul hx hb q 4 rfl rfl d_T_areWordsAsStored_13 ?_
  refine lv_iload_n hx hb d_T_areWordsAsStored_14 rfl (lv_at hl 0 rfl) ?_
  refine xa_iadd hx hb (q * 4) (((0 + 1) + 1) + 1) rfl rfl d_T_areWordsAsStored_15 ?_
  refine xt_l2 hx hb hK hP ((q * 4) + (((0 + 1) + 1) + 1)) rfl (by omega) d_T_areWordsAsStored_16 ?_
  refine lv_aload_n hx hb d_T_areWordsAsStored_17 rfl (lv_at hl 1 rfl) ?_
  refine xt_g0 hx hb hts hown hK hP d_T_areWordsAsStored_18 ?_
  refine lv_iload_n hx hb d_T_areWordsAsStored_21 rfl (lv_at hl 2 rfl) ?_
  refine lv_iconst (v := 4) hx hb d_T_areWordsAsStored_22 (by decide) ?_
  refine xa_imul hx hb n 4 rfl rfl d_T_areWordsAsStored_23 ?_
  refine lv_iload_n hx hb d_T_areWordsAsStored_24 rfl (lv_at hl 0 rfl) ?_
  refine xa_iadd hx hb (n * 4) (((0 + 1) + 1) + 1) rfl rfl d_T_areWordsAsStored_25 ?_
  refine xt_l0 hx hb hK hP ((n * 4) + (((0 + 1) + 1) + 1)) rfl (by omega) d_T_areWordsAsStored_26 ?_
  refine lv_icmp_eq (tgt := 32) hx hb d_T_areWordsAsStored_27 (by decide) (fun _ => ?_) (fun c9 => absurd (hw _ (by omega)) c9)
  refine lv_iinc (v := nI ((((0 + 1) + 1) + 1) + 1)) (lv' := [(3, .int (nI ((((0 + 1) + 1) + 1) + 1))), (0, .ref _), (1, .int (nI n)), (2, .int (nI q))]) hx hb d_T_areWordsAsStored_32 hl (k := 0) rfl (nI_add _ _) (by decide) rfl (fun ls hl => ?_)
  refine lv_goto (tgt := 2) hx hb d_T_areWordsAsStored_35 (by decide) ?_
  refine lv_iload_n hx hb d_T_areWordsAsStored_2 rfl (lv_at hl 0 rfl) ?_
  refine lv_iconst (v := 4) hx hb d_T_areWordsAsStored_3 (by decide) ?_
  refine lv_icmp_ge (tgt := 38) hx hb d_T_areWordsAsStored_4 (by decide) (fun _ => ?_) (fun c9 => absurd (by decide) c9)
  refine lv_iconst (v := 1) hx hb d_T_areWordsAsStored_38 (by decide) ?_
  exact xc_zret hx hb hr hlocks (Or.inr rfl) hP hK hD hS ⟨rfl, rfl⟩ d_T_areWordsAsStored_39
set_option maxHeartbeats 4000000 in
set_option maxRecDepth 100000 in
theorem c_T_isLineWrong (l : Launch) (D : va_G) (G : Nat → Nat) (kc : Nat → ClassId) (sz : Nat) (u : TC) (n q : Nat) (hn : n < 512) (hq : q < 16) (hnq : n % 16 = q) (hn1 : tLa u q = nI n) (hc : tLc u q = 0 → (∀ w, w < 4 → tLw u (q * 4 + w) = tSt u (n * 4 + w)) ∧ tLt u q = ftol n (fPeek u (n / 16))) : XMi l y_T_isLineWrong k_T_isLineWrong { frames := 3, cells := 0, slots := 0, locals := 64 } D vwCl (wT G kc) (tyTs kc) u sz [.ref (G 0), .int (nI q)] (fun r u1 => r = 0 ∧ u1 = u) := by
  refine xb_ofi (cc := b_T_isLineWrong) (maxL := 3) (ret := some .boolean) (by decide) rfl (Nat.le_of_ble_eq_true rfl) ?_
  intro p e s m below meth c A ls hsz hx hb hml hr hlocks hts hown hP hK hD hA hl
  have hl : lv_has ls 3 [(0, .ref (G 0)), (1, .int (nI q))] := hl
  have hS : va_S A s.heap s.heap [] := va_S.rf
  by_cases h1 : tLc u q = 0
  · obtain ⟨hw, ht⟩ := hc h1
    refine lv_aload_n hx hb d_T_isLineWrong_0 rfl (lv_at hl 0 rfl) ?_
    refine xt_g1 hx hb hts hown hK hP d_T_isLineWrong_1 ?_
    refine lv_iload_n hx hb d_T_isLineWrong_4 rfl (lv_at hl 1 rfl) ?_
    refine xt_l1 hx hb hK hP q rfl (by omega) d_T_isLineWrong_5 ?_
    refine xa_top (nI n) hn1 ?_
    refine lv_istore_n (lv' := [(2, .int (nI n)), (0, .ref _), (1, .int (nI q))]) hx hb d_T_isLineWrong_6 rfl hl (by decide) rfl (fun ls hl => ?_)
    refine lv_iload_n hx hb d_T_isLineWrong_7 rfl (lv_at hl 0 rfl) ?_
    refine xc_calls (n := 1) (C := "TagMemory") hx hb hml hown hts (c_T_placeOfLine l n (by omega)) (tb_S wm_97 wm_98 wm_1 wm_99) rfl rfl rfl (by decide +kernel) ⟨Nat.le_of_ble_eq_true rfl, Nat.le_of_ble_eq_true rfl⟩ rfl hl.1 rfl (Nat.le_of_ble_eq_true rfl) d_T_isLineWrong_8 ⟨Nat.zero_le _, Nat.zero_le _⟩ (fun r hw => ?_)
    subst hw
    refine lv_iload_n hx hb d_T_isLineWrong_11 rfl (lv_at hl 2 rfl) ?_
    refine lv_icmp_eq (tgt := 17) hx hb d_T_isLineWrong_12 (by decide) (fun _ => ?_) (fun c9 => absurd (by rw [hnq]) c9)
    refine lv_aload_n hx hb d_T_isLineWrong_17 rfl (lv_at hl 1 rfl) ?_
    refine xt_g4 hx hb hts hown hK hP d_T_isLineWrong_18 ?_
    refine lv_iload_n hx hb d_T_isLineWrong_21 rfl (lv_at hl 2 rfl) ?_
    refine xt_l4 hx hb hK hP q rfl (by omega) d_T_isLineWrong_22 ?_
    refine lv_if_ne (tgt := 53) hx hb d_T_isLineWrong_23 (by decide) (fun c9 => absurd h1 c9) (fun _ => ?_)
    refine lv_aload_n hx hb d_T_isLineWrong_26 rfl (lv_at hl 1 rfl) ?_
    refine lv_iload_n hx hb d_T_isLineWrong_27 rfl (lv_at hl 0 rfl) ?_
    refine lv_iload_n hx hb d_T_isLineWrong_28 rfl (lv_at hl 2 rfl) ?_
    refine xc_calli (n := 2) (C := "TagMemory") hx hb hml hown hts (c_T_areWordsAsStored l D G kc _ _ n q (by omega) (by omega) hw) (tb_V wm_100 wm_102 ws_5 wm_1 wm_103) rfl rfl rfl (by decide +kernel) ⟨Nat.le_of_ble_eq_true rfl, Nat.le_of_ble_eq_true rfl⟩ hK hP hD hS hA rfl rfl rfl rfl hl.1 rfl (Nat.le_of_ble_eq_true rfl) d_T_isLineWrong_29 ⟨Nat.zero_le _, Nat.zero_le _⟩ (fun r u1 H locs hw hP hD hS => ?_)
    obtain ⟨e1, e2⟩ := hw
    subst e1
    rw [e2] at hP hD; clear e2 u1
    refine lv_if_eq (tgt := 49) hx hb d_T_isLineWrong_32 (by decide) (fun c9 => absurd c9 (by decide)) (fun _ => ?_)
    refine lv_aload_n hx hb d_T_isLineWrong_35 rfl (lv_at hl 1 rfl) ?_
    refine xt_g3 hx hb hts hown hK hP d_T_isLineWrong_36 ?_
    refine lv_iload_n hx hb d_T_isLineWrong_39 rfl (lv_at hl 2 rfl) ?_
    refine xt_l3 hx hb hK hP q rfl (by omega) d_T_isLineWrong_40 ?_
    refine lv_aload_n hx hb d_T_isLineWrong_41 rfl (lv_at hl 1 rfl) ?_
    refine lv_iload_n hx hb d_T_isLineWrong_42 rfl (lv_at hl 0 rfl) ?_
    refine xc_calli (n := 1) (C := "TagMemory") hx hb hml hown hts (c_T_tagsBehindLine l D G kc _ _ n (by omega)) (tb_V wm_104 wm_106 ws_6 wm_1 wm_107) rfl rfl rfl (by decide +kernel) ⟨Nat.le_of_ble_eq_true rfl, Nat.le_of_ble_eq_true rfl⟩ hK hP hD hS hA rfl rfl rfl rfl hl.1 rfl (Nat.le_of_ble_eq_true rfl) d_T_isLineWrong_43 ⟨Nat.zero_le _, Nat.zero_le _⟩ (fun r u1 H locs hw hP hD hS => ?_)
    obtain ⟨e1, e2⟩ := hw
    subst e1
    rw [e2] at hP hD; clear e2 u1
    refine lv_icmp_eq (tgt := 53) hx hb d_T_isLineWrong_46 (by decide) (fun _ => ?_) (fun c9 => absurd ht c9)
    refine lv_iconst (v := 0) hx hb d_T_isLineWrong_53 (by decide) ?_
    exact xc_zret hx hb hr hlocks (Or.inl rfl) hP hK hD hS ⟨rfl, rfl⟩ d_T_isLineWrong_54
  · skip
    refine lv_aload_n hx hb d_T_isLineWrong_0 rfl (lv_at hl 0 rfl) ?_
    refine xt_g1 hx hb hts hown hK hP d_T_isLineWrong_1 ?_
    refine lv_iload_n hx hb d_T_isLineWrong_4 rfl (lv_at hl 1 rfl) ?_
    refine xt_l1 hx hb hK hP q rfl (by omega) d_T_isLineWrong_5 ?_
    refine xa_top (nI n) hn1 ?_
    refine lv_istore_n (lv' := [(2, .int (nI n)), (0, .ref _), (1, .int (nI q))]) hx hb d_T_isLineWrong_6 rfl hl (by decide) rfl (fun ls hl => ?_)
    refine lv_iload_n hx hb d_T_isLineWrong_7 rfl (lv_at hl 0 rfl) ?_
    refine xc_calls (n := 1) (C := "TagMemory") hx hb hml hown hts (c_T_placeOfLine l n (by omega)) (tb_S wm_97 wm_98 wm_1 wm_99) rfl rfl rfl (by decide +kernel) ⟨Nat.le_of_ble_eq_true rfl, Nat.le_of_ble_eq_true rfl⟩ rfl hl.1 rfl (Nat.le_of_ble_eq_true rfl) d_T_isLineWrong_8 ⟨Nat.zero_le _, Nat.zero_le _⟩ (fun r hw => ?_)
    subst hw
    refine lv_iload_n hx hb d_T_isLineWrong_11 rfl (lv_at hl 2 rfl) ?_
    refine lv_icmp_eq (tgt := 17) hx hb d_T_isLineWrong_12 (by decide) (fun _ => ?_) (fun c9 => absurd (by rw [hnq]) c9)
    refine lv_aload_n hx hb d_T_isLineWrong_17 rfl (lv_at hl 1 rfl) ?_
    refine xt_g4 hx hb hts hown hK hP d_T_isLineWrong_18 ?_
    refine lv_iload_n hx hb d_T_isLineWrong_21 rfl (lv_at hl 2 rfl) ?_
    refine xt_l4 hx hb hK hP q rfl (by omega) d_T_isLineWrong_22 ?_
    refine lv_if_ne (tgt := 53) hx hb d_T_isLineWrong_23 (by decide) (fun _ => ?_) (fun c9 => absurd c9 h1)
    refine lv_iconst (v := 0) hx hb d_T_isLineWrong_53 (by decide) ?_
    exact xc_zret hx hb hr hlocks (Or.inl rfl) hP hK hD hS ⟨rfl, rfl⟩ d_T_isLineWrong_54
set_option maxHeartbeats 4000000 in
set_option maxRecDepth 100000 in
theorem c_T_isRowWrong (l : Launch) (D : va_G) (G : Nat → Nat) (kc : Nat → ClassId) (sz : Nat) (u : TC) (k q : Nat) (hk : k < 32) (hq : q < 4) (hkq : k % 4 = q) (hk1 : tRa u q = nI k) (hc : tRc u q = 0 → tRt u q = tSt u (2048 + k)) : XMi l y_T_isRowWrong k_T_isRowWrong { frames := 1, cells := 0, slots := 0, locals := 20 } D vwCl (wT G kc) (tyTs kc) u sz [.ref (G 0), .int (nI q)] (fun r u1 => r = 0 ∧ u1 = u) := by
  refine xb_ofi (cc := b_T_isRowWrong) (maxL := 3) (ret := some .boolean) (by decide) rfl (Nat.le_of_ble_eq_true rfl) ?_
  intro p e s m below meth c A ls hsz hx hb hml hr hlocks hts hown hP hK hD hA hl
  have hl : lv_has ls 3 [(0, .ref (G 0)), (1, .int (nI q))] := hl
  have hS : va_S A s.heap s.heap [] := va_S.rf
  by_cases h1 : tRc u q = 0
  · have ht := hc h1
    refine lv_aload_n hx hb d_T_isRowWrong_0 rfl (lv_at hl 0 rfl) ?_
    refine xt_g5 hx hb hts hown hK hP d_T_isRowWrong_1 ?_
    refine lv_iload_n hx hb d_T_isRowWrong_4 rfl (lv_at hl 1 rfl) ?_
    refine xt_l5 hx hb hK hP q rfl (by omega) d_T_isRowWrong_5 ?_
    refine xa_top (nI k) hk1 ?_
    refine lv_istore_n (lv' := [(2, .int (nI k)), (0, .ref _), (1, .int (nI q))]) hx hb d_T_isRowWrong_6 rfl hl (by decide) rfl (fun ls hl => ?_)
    refine lv_iload_n hx hb d_T_isRowWrong_7 rfl (lv_at hl 0 rfl) ?_
    refine xc_calls (n := 1) (C := "TagMemory") hx hb hml hown hts (c_T_placeOfRow l k (by omega)) (tb_S wm_79 wm_80 wm_1 wm_81) rfl rfl rfl (by decide +kernel) ⟨Nat.le_of_ble_eq_true rfl, Nat.le_of_ble_eq_true rfl⟩ rfl hl.1 rfl (Nat.le_of_ble_eq_true rfl) d_T_isRowWrong_8 ⟨Nat.zero_le _, Nat.zero_le _⟩ (fun r hw => ?_)
    subst hw
    refine lv_iload_n hx hb d_T_isRowWrong_11 rfl (lv_at hl 2 rfl) ?_
    refine lv_icmp_eq (tgt := 17) hx hb d_T_isRowWrong_12 (by decide) (fun _ => ?_) (fun c9 => absurd (by rw [hkq]) c9)
    refine lv_aload_n hx hb d_T_isRowWrong_17 rfl (lv_at hl 1 rfl) ?_
    refine xt_g7 hx hb hts hown hK hP d_T_isRowWrong_18 ?_
    refine lv_iload_n hx hb d_T_isRowWrong_21 rfl (lv_at hl 2 rfl) ?_
    refine xt_l7 hx hb hK hP q rfl (by omega) d_T_isRowWrong_22 ?_
    refine lv_if_ne (tgt := 49) hx hb d_T_isRowWrong_23 (by decide) (fun c9 => absurd h1 c9) (fun _ => ?_)
    refine lv_aload_n hx hb d_T_isRowWrong_26 rfl (lv_at hl 1 rfl) ?_
    refine xt_g6 hx hb hts hown hK hP d_T_isRowWrong_27 ?_
    refine lv_iload_n hx hb d_T_isRowWrong_30 rfl (lv_at hl 2 rfl) ?_
    refine xt_l6 hx hb hK hP q rfl (by omega) d_T_isRowWrong_31 ?_
    refine lv_aload_n hx hb d_T_isRowWrong_32 rfl (lv_at hl 1 rfl) ?_
    refine xt_g0 hx hb hts hown hK hP d_T_isRowWrong_33 ?_
    refine lv_sipush (v := 2048) hx hb d_T_isRowWrong_36 (by decide) ?_
    refine lv_iload_n hx hb d_T_isRowWrong_39 rfl (lv_at hl 0 rfl) ?_
    refine xa_iadd hx hb 2048 k rfl rfl d_T_isRowWrong_40 ?_
    refine xt_l0 hx hb hK hP (2048 + k) rfl (by omega) d_T_isRowWrong_41 ?_
    refine lv_icmp_eq (tgt := 49) hx hb d_T_isRowWrong_42 (by decide) (fun _ => ?_) (fun c9 => absurd ht c9)
    refine lv_iconst (v := 0) hx hb d_T_isRowWrong_49 (by decide) ?_
    exact xc_zret hx hb hr hlocks (Or.inl rfl) hP hK hD hS ⟨rfl, rfl⟩ d_T_isRowWrong_50
  · skip
    refine lv_aload_n hx hb d_T_isRowWrong_0 rfl (lv_at hl 0 rfl) ?_
    refine xt_g5 hx hb hts hown hK hP d_T_isRowWrong_1 ?_
    refine lv_iload_n hx hb d_T_isRowWrong_4 rfl (lv_at hl 1 rfl) ?_
    refine xt_l5 hx hb hK hP q rfl (by omega) d_T_isRowWrong_5 ?_
    refine xa_top (nI k) hk1 ?_
    refine lv_istore_n (lv' := [(2, .int (nI k)), (0, .ref _), (1, .int (nI q))]) hx hb d_T_isRowWrong_6 rfl hl (by decide) rfl (fun ls hl => ?_)
    refine lv_iload_n hx hb d_T_isRowWrong_7 rfl (lv_at hl 0 rfl) ?_
    refine xc_calls (n := 1) (C := "TagMemory") hx hb hml hown hts (c_T_placeOfRow l k (by omega)) (tb_S wm_79 wm_80 wm_1 wm_81) rfl rfl rfl (by decide +kernel) ⟨Nat.le_of_ble_eq_true rfl, Nat.le_of_ble_eq_true rfl⟩ rfl hl.1 rfl (Nat.le_of_ble_eq_true rfl) d_T_isRowWrong_8 ⟨Nat.zero_le _, Nat.zero_le _⟩ (fun r hw => ?_)
    subst hw
    refine lv_iload_n hx hb d_T_isRowWrong_11 rfl (lv_at hl 2 rfl) ?_
    refine lv_icmp_eq (tgt := 17) hx hb d_T_isRowWrong_12 (by decide) (fun _ => ?_) (fun c9 => absurd (by rw [hkq]) c9)
    refine lv_aload_n hx hb d_T_isRowWrong_17 rfl (lv_at hl 1 rfl) ?_
    refine xt_g7 hx hb hts hown hK hP d_T_isRowWrong_18 ?_
    refine lv_iload_n hx hb d_T_isRowWrong_21 rfl (lv_at hl 2 rfl) ?_
    refine xt_l7 hx hb hK hP q rfl (by omega) d_T_isRowWrong_22 ?_
    refine lv_if_ne (tgt := 49) hx hb d_T_isRowWrong_23 (by decide) (fun _ => ?_) (fun c9 => absurd c9 h1)
    refine lv_iconst (v := 0) hx hb d_T_isRowWrong_49 (by decide) ?_
    exact xc_zret hx hb hr hlocks (Or.inl rfl) hP hK hD hS ⟨rfl, rfl⟩ d_T_isRowWrong_50
