def pbad (a n : Int32) : Prop := n < 1 ∨ (¬ n < 1 ∧ 2 < n) ∨ ∃ k : Nat, (k = 1 ∨ k = 2) ∧ n = nI k ∧ (a < 0 ∨ (¬ a < 0 ∧ 3 < a) ∨ ∃ j : Nat, j < 4 ∧ a = nI j ∧ j % k ≠ 0)
def cbad (g f : Int32) : Prop := xbad 1024 f ∨ ∃ k : Nat, k < 1024 ∧ f = nI k ∧ xbad 1024 g
set_option maxHeartbeats 4000000 in
set_option maxRecDepth 100000 in
theorem x_M_copy (l : Launch) (D : va_G) (G : Nat → Nat) (kc : Nat → ClassId) (sz : Nat) (u : TM) (x y : Int32) (hbad : cbad x y) : XMi l y_M_copy k_M_copy { frames := 1, cells := 0, slots := 0, locals := 22 } D vwCl (wM G kc) (tyMs kc) u sz [.ref (G 0), .int x, .int y] (fun r u1 => r = 0 ∧ u1 = nTh u 1) := by
  rcases hbad with h | ⟨k, hk, rfl, h⟩
  · rcases h with h1 | ⟨h1, h2⟩
    · skip
      refine xb_ofi (cc := b_M_copy) (maxL := 4) (ret := some .boolean) (by decide) rfl (Nat.le_of_ble_eq_true rfl) ?_
      intro p e s m below meth c A ls hsz hx hb hml hr hlocks hts hown hP hK hD hA hl
      have hl : lv_has ls 4 [(0, .ref (G 0)), (1, .int x), (2, .int y)] := hl
      have hS : va_S A s.heap s.heap [] := va_S.rf
      refine lv_aload_n hx hb d_M_copy_0 rfl (lv_at hl 0 rfl) ?_
      refine lv_iload_n hx hb d_M_copy_1 rfl (lv_at hl 2 rfl) ?_
      refine lv_if_lt (tgt := 23) hx hb d_M_copy_2 (by decide) (fun _ => ?_) (fun c9 => absurd h1 c9)
      refine lv_iconst (v := 1) hx hb d_M_copy_23 (by decide) ?_
      refine lv_goto (tgt := 28) hx hb d_M_copy_24 (by decide) ?_
      refine lv_iconst (v := 1) hx hb d_M_copy_28 (by decide) ?_
      refine xc_calli (n := 2) (C := "TagMemoryModel") hx hb hml hown hts (c_M_bad l D G kc _ _ _ _ (Or.inr rfl)) (tb_V wm_390 wm_392 ws_17 wm_2 wm_393) rfl rfl rfl (by decide +kernel) ⟨Nat.le_of_ble_eq_true rfl, Nat.le_of_ble_eq_true rfl⟩ hK hP hD hS hA rfl rfl rfl rfl hl.1 rfl (Nat.le_of_ble_eq_true rfl) d_M_copy_29 ⟨Nat.zero_le _, Nat.zero_le _⟩ (fun r u1 H locs hw hP hD hS => ?_)
      obtain ⟨e1, e2⟩ := hw
      subst e1
      rw [e2] at hP hD; clear e2 u1
      have hP : va_P D vwCl (wM G kc (nTh u 1)) H := hP
      have hD : va_D A (wM G kc (nTh u 1)) := hD
      refine lv_if_eq (tgt := 37) hx hb d_M_copy_32 (by decide) (fun c9 => absurd c9 (by decide)) (fun _ => ?_)
      refine lv_iconst (v := 0) hx hb d_M_copy_35 (by decide) ?_
      exact xc_zret hx hb hr hlocks (Or.inl rfl) hP hK hD hS ⟨rfl, rfl⟩ d_M_copy_36
    · skip
      refine xb_ofi (cc := b_M_copy) (maxL := 4) (ret := some .boolean) (by decide) rfl (Nat.le_of_ble_eq_true rfl) ?_
      intro p e s m below meth c A ls hsz hx hb hml hr hlocks hts hown hP hK hD hA hl
      have hl : lv_has ls 4 [(0, .ref (G 0)), (1, .int x), (2, .int y)] := hl
      have hS : va_S A s.heap s.heap [] := va_S.rf
      refine lv_aload_n hx hb d_M_copy_0 rfl (lv_at hl 0 rfl) ?_
      refine lv_iload_n hx hb d_M_copy_1 rfl (lv_at hl 2 rfl) ?_
      refine lv_if_lt (tgt := 23) hx hb d_M_copy_2 (by decide) (fun c9 => absurd c9 h1) (fun _ => ?_)
      refine lv_iload_n hx hb d_M_copy_5 rfl (lv_at hl 2 rfl) ?_
      refine lv_sipush (v := 1023) hx hb d_M_copy_6 (by decide) ?_
      refine lv_icmp_gt (tgt := 23) hx hb d_M_copy_9 (by decide) (fun _ => ?_) (fun c9 => absurd (show nI 1023 < y from by rw [Int32.lt_iff_toInt_lt, nI_toInt (by decide)]; rw [Int32.le_iff_toInt_le, nI_toInt (by decide)] at h2; omega) c9)
      refine lv_iconst (v := 1) hx hb d_M_copy_23 (by decide) ?_
      refine lv_goto (tgt := 28) hx hb d_M_copy_24 (by decide) ?_
      refine lv_iconst (v := 1) hx hb d_M_copy_28 (by decide) ?_
      refine xc_calli (n := 2) (C := "TagMemoryModel") hx hb hml hown hts (c_M_bad l D G kc _ _ _ _ (Or.inr rfl)) (tb_V wm_390 wm_392 ws_17 wm_2 wm_393) rfl rfl rfl (by decide +kernel) ⟨Nat.le_of_ble_eq_true rfl, Nat.le_of_ble_eq_true rfl⟩ hK hP hD hS hA rfl rfl rfl rfl hl.1 rfl (Nat.le_of_ble_eq_true rfl) d_M_copy_29 ⟨Nat.zero_le _, Nat.zero_le _⟩ (fun r u1 H locs hw hP hD hS => ?_)
      obtain ⟨e1, e2⟩ := hw
      subst e1
      rw [e2] at hP hD; clear e2 u1
      have hP : va_P D vwCl (wM G kc (nTh u 1)) H := hP
      have hD : va_D A (wM G kc (nTh u 1)) := hD
      refine lv_if_eq (tgt := 37) hx hb d_M_copy_32 (by decide) (fun c9 => absurd c9 (by decide)) (fun _ => ?_)
      refine lv_iconst (v := 0) hx hb d_M_copy_35 (by decide) ?_
      exact xc_zret hx hb hr hlocks (Or.inl rfl) hP hK hD hS ⟨rfl, rfl⟩ d_M_copy_36
  · rcases h with h1 | ⟨h1, h2⟩
    · skip
      refine xb_ofi (cc := b_M_copy) (maxL := 4) (ret := some .boolean) (by decide) rfl (Nat.le_of_ble_eq_true rfl) ?_
      intro p e s m below meth c A ls hsz hx hb hml hr hlocks hts hown hP hK hD hA hl
      have hl : lv_has ls 4 [(0, .ref (G 0)), (1, .int x), (2, .int (nI k))] := hl
      have hS : va_S A s.heap s.heap [] := va_S.rf
      refine lv_aload_n hx hb d_M_copy_0 rfl (lv_at hl 0 rfl) ?_
      refine lv_iload_n hx hb d_M_copy_1 rfl (lv_at hl 2 rfl) ?_
      refine lv_if_lt (tgt := 23) hx hb d_M_copy_2 (by decide) (fun c9 => absurd c9 (nI_pos (by omega))) (fun _ => ?_)
      refine lv_iload_n hx hb d_M_copy_5 rfl (lv_at hl 2 rfl) ?_
      refine lv_sipush (v := 1023) hx hb d_M_copy_6 (by decide) ?_
      refine lv_icmp_gt (tgt := 23) hx hb d_M_copy_9 (by decide) (fun c9 => absurd c9 (nI_nlt (a := 1023) (b := k) (by omega) (by decide))) (fun _ => ?_)
      refine lv_iload_n hx hb d_M_copy_12 rfl (lv_at hl 1 rfl) ?_
      refine lv_if_lt (tgt := 23) hx hb d_M_copy_13 (by decide) (fun _ => ?_) (fun c9 => absurd h1 c9)
      refine lv_iconst (v := 1) hx hb d_M_copy_23 (by decide) ?_
      refine lv_goto (tgt := 28) hx hb d_M_copy_24 (by decide) ?_
      refine lv_iconst (v := 1) hx hb d_M_copy_28 (by decide) ?_
      refine xc_calli (n := 2) (C := "TagMemoryModel") hx hb hml hown hts (c_M_bad l D G kc _ _ _ _ (Or.inr rfl)) (tb_V wm_390 wm_392 ws_17 wm_2 wm_393) rfl rfl rfl (by decide +kernel) ⟨Nat.le_of_ble_eq_true rfl, Nat.le_of_ble_eq_true rfl⟩ hK hP hD hS hA rfl rfl rfl rfl hl.1 rfl (Nat.le_of_ble_eq_true rfl) d_M_copy_29 ⟨Nat.zero_le _, Nat.zero_le _⟩ (fun r u1 H locs hw hP hD hS => ?_)
      obtain ⟨e1, e2⟩ := hw
      subst e1
      rw [e2] at hP hD; clear e2 u1
      have hP : va_P D vwCl (wM G kc (nTh u 1)) H := hP
      have hD : va_D A (wM G kc (nTh u 1)) := hD
      refine lv_if_eq (tgt := 37) hx hb d_M_copy_32 (by decide) (fun c9 => absurd c9 (by decide)) (fun _ => ?_)
      refine lv_iconst (v := 0) hx hb d_M_copy_35 (by decide) ?_
      exact xc_zret hx hb hr hlocks (Or.inl rfl) hP hK hD hS ⟨rfl, rfl⟩ d_M_copy_36
    · skip
      refine xb_ofi (cc := b_M_copy) (maxL := 4) (ret := some .boolean) (by decide) rfl (Nat.le_of_ble_eq_true rfl) ?_
      intro p e s m below meth c A ls hsz hx hb hml hr hlocks hts hown hP hK hD hA hl
      have hl : lv_has ls 4 [(0, .ref (G 0)), (1, .int x), (2, .int (nI k))] := hl
      have hS : va_S A s.heap s.heap [] := va_S.rf
      refine lv_aload_n hx hb d_M_copy_0 rfl (lv_at hl 0 rfl) ?_
      refine lv_iload_n hx hb d_M_copy_1 rfl (lv_at hl 2 rfl) ?_
      refine lv_if_lt (tgt := 23) hx hb d_M_copy_2 (by decide) (fun c9 => absurd c9 (nI_pos (by omega))) (fun _ => ?_)
      refine lv_iload_n hx hb d_M_copy_5 rfl (lv_at hl 2 rfl) ?_
      refine lv_sipush (v := 1023) hx hb d_M_copy_6 (by decide) ?_
      refine lv_icmp_gt (tgt := 23) hx hb d_M_copy_9 (by decide) (fun c9 => absurd c9 (nI_nlt (a := 1023) (b := k) (by omega) (by decide))) (fun _ => ?_)
      refine lv_iload_n hx hb d_M_copy_12 rfl (lv_at hl 1 rfl) ?_
      refine lv_if_lt (tgt := 23) hx hb d_M_copy_13 (by decide) (fun c9 => absurd c9 h1) (fun _ => ?_)
      refine lv_iload_n hx hb d_M_copy_16 rfl (lv_at hl 1 rfl) ?_
      refine lv_sipush (v := 1023) hx hb d_M_copy_17 (by decide) ?_
      refine lv_icmp_le (tgt := 27) hx hb d_M_copy_20 (by decide) (fun c9 => absurd (show x ≤ nI 1023 from c9) (xbad_le (by decide) h2)) (fun _ => ?_)
      refine lv_iconst (v := 1) hx hb d_M_copy_23 (by decide) ?_
      refine lv_goto (tgt := 28) hx hb d_M_copy_24 (by decide) ?_
      refine lv_iconst (v := 1) hx hb d_M_copy_28 (by decide) ?_
      refine xc_calli (n := 2) (C := "TagMemoryModel") hx hb hml hown hts (c_M_bad l D G kc _ _ _ _ (Or.inr rfl)) (tb_V wm_390 wm_392 ws_17 wm_2 wm_393) rfl rfl rfl (by decide +kernel) ⟨Nat.le_of_ble_eq_true rfl, Nat.le_of_ble_eq_true rfl⟩ hK hP hD hS hA rfl rfl rfl rfl hl.1 rfl (Nat.le_of_ble_eq_true rfl) d_M_copy_29 ⟨Nat.zero_le _, Nat.zero_le _⟩ (fun r u1 H locs hw hP hD hS => ?_)
      obtain ⟨e1, e2⟩ := hw
      subst e1
      rw [e2] at hP hD; clear e2 u1
      have hP : va_P D vwCl (wM G kc (nTh u 1)) H := hP
      have hD : va_D A (wM G kc (nTh u 1)) := hD
      refine lv_if_eq (tgt := 37) hx hb d_M_copy_32 (by decide) (fun c9 => absurd c9 (by decide)) (fun _ => ?_)
      refine lv_iconst (v := 0) hx hb d_M_copy_35 (by decide) ?_
      exact xc_zret hx hb hr hlocks (Or.inl rfl) hP hK hD hS ⟨rfl, rfl⟩ d_M_copy_36
set_option maxHeartbeats 4000000 in
set_option maxRecDepth 100000 in
theorem x_M_part2 (l : Launch) (D : va_G) (G : Nat → Nat) (kc : Nat → ClassId) (sz : Nat) (u : TM) (i : Nat) (hi : i < 2048) (a n v : Int32) (hbad : pbad a n) : XMi l y_M_part k_M_part { frames := 1, cells := 0, slots := 0, locals := 22 } D vwCl (wM G kc) (tyMs kc) u sz [.ref (G 0), .int (nI i), .int a, .int n, .int v] (fun r u1 => r = 0 ∧ u1 = nTh u 2) := by
  rcases hbad with h1 | ⟨h1, h2⟩ | ⟨k, hk, rfl, h⟩
  · skip
    refine xb_ofi (cc := b_M_part) (maxL := 6) (ret := some .int) (by decide) rfl (Nat.le_of_ble_eq_true rfl) ?_
    intro p e s m below meth c A ls hsz hx hb hml hr hlocks hts hown hP hK hD hA hl
    have hl : lv_has ls 6 [(0, .ref (G 0)), (1, .int (nI i)), (2, .int a), (3, .int n), (4, .int v)] := hl
    have hS : va_S A s.heap s.heap [] := va_S.rf
    refine lv_aload_n hx hb d_M_part_0 rfl (lv_at hl 0 rfl) ?_
    refine lv_iload_n hx hb d_M_part_1 rfl (lv_at hl 1 rfl) ?_
    refine lv_if_lt (tgt := 12) hx hb d_M_part_2 (by decide) (fun c9 => absurd c9 (nI_pos (by omega))) (fun _ => ?_)
    refine lv_iload_n hx hb d_M_part_5 rfl (lv_at hl 1 rfl) ?_
    refine lv_sipush (v := 2047) hx hb d_M_part_6 (by decide) ?_
    refine lv_icmp_le (tgt := 16) hx hb d_M_part_9 (by decide) (fun _ => ?_) (fun c9 => absurd (nI_le (a := i) (b := 2047) (by omega) (by decide)) c9)
    refine lv_iconst (v := 0) hx hb d_M_part_16 (by decide) ?_
    refine lv_iconst (v := 1) hx hb d_M_part_17 (by decide) ?_
    refine xc_calli (n := 2) (C := "TagMemoryModel") hx hb hml hown hts (c_M_bad l D G kc _ _ _ _ (Or.inl rfl)) (tb_V wm_390 wm_392 ws_17 wm_2 wm_393) rfl rfl rfl (by decide +kernel) ⟨Nat.le_of_ble_eq_true rfl, Nat.le_of_ble_eq_true rfl⟩ hK hP hD hS hA rfl rfl rfl rfl hl.1 rfl (Nat.le_of_ble_eq_true rfl) d_M_part_18 ⟨Nat.zero_le _, Nat.zero_le _⟩ (fun r u1 H locs hw hP hD hS => ?_)
    obtain ⟨e1, e2⟩ := hw
    subst e1
    rw [e2] at hP hD; clear e2 u1
    have hP : va_P D vwCl (wM G kc (nTh u 0)) H := hP
    have hD : va_D A (wM G kc (nTh u 0)) := hD
    refine lv_if_ne (tgt := 62) hx hb d_M_part_21 (by decide) (fun c9 => absurd rfl c9) (fun _ => ?_)
    refine lv_aload_n hx hb d_M_part_24 rfl (lv_at hl 0 rfl) ?_
    refine lv_iload_n hx hb d_M_part_25 rfl (lv_at hl 3 rfl) ?_
    refine lv_iconst (v := 1) hx hb d_M_part_26 (by decide) ?_
    refine lv_icmp_lt (tgt := 50) hx hb d_M_part_27 (by decide) (fun _ => ?_) (fun c9 => absurd h1 c9)
    refine lv_iconst (v := 1) hx hb d_M_part_50 (by decide) ?_
    refine lv_goto (tgt := 55) hx hb d_M_part_51 (by decide) ?_
    refine lv_iconst (v := 2) hx hb d_M_part_55 (by decide) ?_
    refine xc_calli (n := 2) (C := "TagMemoryModel") hx hb hml hown hts (c_M_bad l D G kc _ _ _ _ (Or.inr rfl)) (tb_V wm_390 wm_392 ws_17 wm_2 wm_393) rfl rfl rfl (by decide +kernel) ⟨Nat.le_of_ble_eq_true rfl, Nat.le_of_ble_eq_true rfl⟩ hK hP hD hS hA rfl rfl rfl rfl hl.1 rfl (Nat.le_of_ble_eq_true rfl) d_M_part_56 ⟨Nat.zero_le _, Nat.zero_le _⟩ (fun r u1 H locs hw hP hD hS => ?_)
    obtain ⟨e1, e2⟩ := hw
    subst e1
    rw [e2] at hP hD; clear e2 u1
    have hP : va_P D vwCl (wM G kc (nTh u 2)) H := hP
    have hD : va_D A (wM G kc (nTh u 2)) := hD
    refine lv_if_eq (tgt := 64) hx hb d_M_part_59 (by decide) (fun c9 => absurd c9 (by decide)) (fun _ => ?_)
    refine lv_iconst (v := 0) hx hb d_M_part_62 (by decide) ?_
    exact xc_iret hx hb hr hlocks hP hK hD hS ⟨rfl, rfl⟩ d_M_part_63
  · skip
    refine xb_ofi (cc := b_M_part) (maxL := 6) (ret := some .int) (by decide) rfl (Nat.le_of_ble_eq_true rfl) ?_
    intro p e s m below meth c A ls hsz hx hb hml hr hlocks hts hown hP hK hD hA hl
    have hl : lv_has ls 6 [(0, .ref (G 0)), (1, .int (nI i)), (2, .int a), (3, .int n), (4, .int v)] := hl
    have hS : va_S A s.heap s.heap [] := va_S.rf
    refine lv_aload_n hx hb d_M_part_0 rfl (lv_at hl 0 rfl) ?_
    refine lv_iload_n hx hb d_M_part_1 rfl (lv_at hl 1 rfl) ?_
    refine lv_if_lt (tgt := 12) hx hb d_M_part_2 (by decide) (fun c9 => absurd c9 (nI_pos (by omega))) (fun _ => ?_)
    refine lv_iload_n hx hb d_M_part_5 rfl (lv_at hl 1 rfl) ?_
    refine lv_sipush (v := 2047) hx hb d_M_part_6 (by decide) ?_
    refine lv_icmp_le (tgt := 16) hx hb d_M_part_9 (by decide) (fun _ => ?_) (fun c9 => absurd (nI_le (a := i) (b := 2047) (by omega) (by decide)) c9)
    refine lv_iconst (v := 0) hx hb d_M_part_16 (by decide) ?_
    refine lv_iconst (v := 1) hx hb d_M_part_17 (by decide) ?_
    refine xc_calli (n := 2) (C := "TagMemoryModel") hx hb hml hown hts (c_M_bad l D G kc _ _ _ _ (Or.inl rfl)) (tb_V wm_390 wm_392 ws_17 wm_2 wm_393) rfl rfl rfl (by decide +kernel) ⟨Nat.le_of_ble_eq_true rfl, Nat.le_of_ble_eq_true rfl⟩ hK hP hD hS hA rfl rfl rfl rfl hl.1 rfl (Nat.le_of_ble_eq_true rfl) d_M_part_18 ⟨Nat.zero_le _, Nat.zero_le _⟩ (fun r u1 H locs hw hP hD hS => ?_)
    obtain ⟨e1, e2⟩ := hw
    subst e1
    rw [e2] at hP hD; clear e2 u1
    have hP : va_P D vwCl (wM G kc (nTh u 0)) H := hP
    have hD : va_D A (wM G kc (nTh u 0)) := hD
    refine lv_if_ne (tgt := 62) hx hb d_M_part_21 (by decide) (fun c9 => absurd rfl c9) (fun _ => ?_)
    refine lv_aload_n hx hb d_M_part_24 rfl (lv_at hl 0 rfl) ?_
    refine lv_iload_n hx hb d_M_part_25 rfl (lv_at hl 3 rfl) ?_
    refine lv_iconst (v := 1) hx hb d_M_part_26 (by decide) ?_
    refine lv_icmp_lt (tgt := 50) hx hb d_M_part_27 (by decide) (fun c9 => absurd c9 h1) (fun _ => ?_)
    refine lv_iload_n hx hb d_M_part_30 rfl (lv_at hl 3 rfl) ?_
    refine lv_iconst (v := 2) hx hb d_M_part_31 (by decide) ?_
    refine lv_icmp_gt (tgt := 50) hx hb d_M_part_32 (by decide) (fun _ => ?_) (fun c9 => absurd h2 c9)
    refine lv_iconst (v := 1) hx hb d_M_part_50 (by decide) ?_
    refine lv_goto (tgt := 55) hx hb d_M_part_51 (by decide) ?_
    refine lv_iconst (v := 2) hx hb d_M_part_55 (by decide) ?_
    refine xc_calli (n := 2) (C := "TagMemoryModel") hx hb hml hown hts (c_M_bad l D G kc _ _ _ _ (Or.inr rfl)) (tb_V wm_390 wm_392 ws_17 wm_2 wm_393) rfl rfl rfl (by decide +kernel) ⟨Nat.le_of_ble_eq_true rfl, Nat.le_of_ble_eq_true rfl⟩ hK hP hD hS hA rfl rfl rfl rfl hl.1 rfl (Nat.le_of_ble_eq_true rfl) d_M_part_56 ⟨Nat.zero_le _, Nat.zero_le _⟩ (fun r u1 H locs hw hP hD hS => ?_)
    obtain ⟨e1, e2⟩ := hw
    subst e1
    rw [e2] at hP hD; clear e2 u1
    have hP : va_P D vwCl (wM G kc (nTh u 2)) H := hP
    have hD : va_D A (wM G kc (nTh u 2)) := hD
    refine lv_if_eq (tgt := 64) hx hb d_M_part_59 (by decide) (fun c9 => absurd c9 (by decide)) (fun _ => ?_)
    refine lv_iconst (v := 0) hx hb d_M_part_62 (by decide) ?_
    exact xc_iret hx hb hr hlocks hP hK hD hS ⟨rfl, rfl⟩ d_M_part_63
  · rcases h with h1 | ⟨h1, h2⟩ | ⟨j, hj, rfl, hjk⟩
    · skip
      refine xb_ofi (cc := b_M_part) (maxL := 6) (ret := some .int) (by decide) rfl (Nat.le_of_ble_eq_true rfl) ?_
      intro p e s m below meth c A ls hsz hx hb hml hr hlocks hts hown hP hK hD hA hl
      have hl : lv_has ls 6 [(0, .ref (G 0)), (1, .int (nI i)), (2, .int a), (3, .int (nI k)), (4, .int v)] := hl
      have hS : va_S A s.heap s.heap [] := va_S.rf
      refine lv_aload_n hx hb d_M_part_0 rfl (lv_at hl 0 rfl) ?_
      refine lv_iload_n hx hb d_M_part_1 rfl (lv_at hl 1 rfl) ?_
      refine lv_if_lt (tgt := 12) hx hb d_M_part_2 (by decide) (fun c9 => absurd c9 (nI_pos (by omega))) (fun _ => ?_)
      refine lv_iload_n hx hb d_M_part_5 rfl (lv_at hl 1 rfl) ?_
      refine lv_sipush (v := 2047) hx hb d_M_part_6 (by decide) ?_
      refine lv_icmp_le (tgt := 16) hx hb d_M_part_9 (by decide) (fun _ => ?_) (fun c9 => absurd (nI_le (a := i) (b := 2047) (by omega) (by decide)) c9)
      refine lv_iconst (v := 0) hx hb d_M_part_16 (by decide) ?_
      refine lv_iconst (v := 1) hx hb d_M_part_17 (by decide) ?_
      refine xc_calli (n := 2) (C := "TagMemoryModel") hx hb hml hown hts (c_M_bad l D G kc _ _ _ _ (Or.inl rfl)) (tb_V wm_390 wm_392 ws_17 wm_2 wm_393) rfl rfl rfl (by decide +kernel) ⟨Nat.le_of_ble_eq_true rfl, Nat.le_of_ble_eq_true rfl⟩ hK hP hD hS hA rfl rfl rfl rfl hl.1 rfl (Nat.le_of_ble_eq_true rfl) d_M_part_18 ⟨Nat.zero_le _, Nat.zero_le _⟩ (fun r u1 H locs hw hP hD hS => ?_)
      obtain ⟨e1, e2⟩ := hw
      subst e1
      rw [e2] at hP hD; clear e2 u1
      have hP : va_P D vwCl (wM G kc (nTh u 0)) H := hP
      have hD : va_D A (wM G kc (nTh u 0)) := hD
      refine lv_if_ne (tgt := 62) hx hb d_M_part_21 (by decide) (fun c9 => absurd rfl c9) (fun _ => ?_)
      refine lv_aload_n hx hb d_M_part_24 rfl (lv_at hl 0 rfl) ?_
      refine lv_iload_n hx hb d_M_part_25 rfl (lv_at hl 3 rfl) ?_
      refine lv_iconst (v := 1) hx hb d_M_part_26 (by decide) ?_
      refine lv_icmp_lt (tgt := 50) hx hb d_M_part_27 (by decide) (fun c9 => absurd c9 (by rcases hk with h | h <;> subst h <;> decide)) (fun _ => ?_)
      refine lv_iload_n hx hb d_M_part_30 rfl (lv_at hl 3 rfl) ?_
      refine lv_iconst (v := 2) hx hb d_M_part_31 (by decide) ?_
      refine lv_icmp_gt (tgt := 50) hx hb d_M_part_32 (by decide) (fun c9 => absurd c9 (by rcases hk with h | h <;> subst h <;> decide)) (fun _ => ?_)
      refine lv_iload_n hx hb d_M_part_35 rfl (lv_at hl 2 rfl) ?_
      refine lv_if_lt (tgt := 50) hx hb d_M_part_36 (by decide) (fun _ => ?_) (fun c9 => absurd h1 c9)
      refine lv_iconst (v := 1) hx hb d_M_part_50 (by decide) ?_
      refine lv_goto (tgt := 55) hx hb d_M_part_51 (by decide) ?_
      refine lv_iconst (v := 2) hx hb d_M_part_55 (by decide) ?_
      refine xc_calli (n := 2) (C := "TagMemoryModel") hx hb hml hown hts (c_M_bad l D G kc _ _ _ _ (Or.inr rfl)) (tb_V wm_390 wm_392 ws_17 wm_2 wm_393) rfl rfl rfl (by decide +kernel) ⟨Nat.le_of_ble_eq_true rfl, Nat.le_of_ble_eq_true rfl⟩ hK hP hD hS hA rfl rfl rfl rfl hl.1 rfl (Nat.le_of_ble_eq_true rfl) d_M_part_56 ⟨Nat.zero_le _, Nat.zero_le _⟩ (fun r u1 H locs hw hP hD hS => ?_)
      obtain ⟨e1, e2⟩ := hw
      subst e1
      rw [e2] at hP hD; clear e2 u1
      have hP : va_P D vwCl (wM G kc (nTh u 2)) H := hP
      have hD : va_D A (wM G kc (nTh u 2)) := hD
      refine lv_if_eq (tgt := 64) hx hb d_M_part_59 (by decide) (fun c9 => absurd c9 (by decide)) (fun _ => ?_)
      refine lv_iconst (v := 0) hx hb d_M_part_62 (by decide) ?_
      exact xc_iret hx hb hr hlocks hP hK hD hS ⟨rfl, rfl⟩ d_M_part_63
    · skip
      refine xb_ofi (cc := b_M_part) (maxL := 6) (ret := some .int) (by decide) rfl (Nat.le_of_ble_eq_true rfl) ?_
      intro p e s m below meth c A ls hsz hx hb hml hr hlocks hts hown hP hK hD hA hl
      have hl : lv_has ls 6 [(0, .ref (G 0)), (1, .int (nI i)), (2, .int a), (3, .int (nI k)), (4, .int v)] := hl
      have hS : va_S A s.heap s.heap [] := va_S.rf
      refine lv_aload_n hx hb d_M_part_0 rfl (lv_at hl 0 rfl) ?_
      refine lv_iload_n hx hb d_M_part_1 rfl (lv_at hl 1 rfl) ?_
      refine lv_if_lt (tgt := 12) hx hb d_M_part_2 (by decide) (fun c9 => absurd c9 (nI_pos (by omega))) (fun _ => ?_)
      refine lv_iload_n hx hb d_M_part_5 rfl (lv_at hl 1 rfl) ?_
      refine lv_sipush (v := 2047) hx hb d_M_part_6 (by decide) ?_
      refine lv_icmp_le (tgt := 16) hx hb d_M_part_9 (by decide) (fun _ => ?_) (fun c9 => absurd (nI_le (a := i) (b := 2047) (by omega) (by decide)) c9)
      refine lv_iconst (v := 0) hx hb d_M_part_16 (by decide) ?_
      refine lv_iconst (v := 1) hx hb d_M_part_17 (by decide) ?_
      refine xc_calli (n := 2) (C := "TagMemoryModel") hx hb hml hown hts (c_M_bad l D G kc _ _ _ _ (Or.inl rfl)) (tb_V wm_390 wm_392 ws_17 wm_2 wm_393) rfl rfl rfl (by decide +kernel) ⟨Nat.le_of_ble_eq_true rfl, Nat.le_of_ble_eq_true rfl⟩ hK hP hD hS hA rfl rfl rfl rfl hl.1 rfl (Nat.le_of_ble_eq_true rfl) d_M_part_18 ⟨Nat.zero_le _, Nat.zero_le _⟩ (fun r u1 H locs hw hP hD hS => ?_)
      obtain ⟨e1, e2⟩ := hw
      subst e1
      rw [e2] at hP hD; clear e2 u1
      have hP : va_P D vwCl (wM G kc (nTh u 0)) H := hP
      have hD : va_D A (wM G kc (nTh u 0)) := hD
      refine lv_if_ne (tgt := 62) hx hb d_M_part_21 (by decide) (fun c9 => absurd rfl c9) (fun _ => ?_)
      refine lv_aload_n hx hb d_M_part_24 rfl (lv_at hl 0 rfl) ?_
      refine lv_iload_n hx hb d_M_part_25 rfl (lv_at hl 3 rfl) ?_
      refine lv_iconst (v := 1) hx hb d_M_part_26 (by decide) ?_
      refine lv_icmp_lt (tgt := 50) hx hb d_M_part_27 (by decide) (fun c9 => absurd c9 (by rcases hk with h | h <;> subst h <;> decide)) (fun _ => ?_)
      refine lv_iload_n hx hb d_M_part_30 rfl (lv_at hl 3 rfl) ?_
      refine lv_iconst (v := 2) hx hb d_M_part_31 (by decide) ?_
      refine lv_icmp_gt (tgt := 50) hx hb d_M_part_32 (by decide) (fun c9 => absurd c9 (by rcases hk with h | h <;> subst h <;> decide)) (fun _ => ?_)
      refine lv_iload_n hx hb d_M_part_35 rfl (lv_at hl 2 rfl) ?_
      refine lv_if_lt (tgt := 50) hx hb d_M_part_36 (by decide) (fun c9 => absurd c9 h1) (fun _ => ?_)
      refine lv_iload_n hx hb d_M_part_39 rfl (lv_at hl 2 rfl) ?_
      refine lv_iconst (v := 3) hx hb d_M_part_40 (by decide) ?_
      refine lv_icmp_gt (tgt := 50) hx hb d_M_part_41 (by decide) (fun _ => ?_) (fun c9 => absurd h2 c9)
      refine lv_iconst (v := 1) hx hb d_M_part_50 (by decide) ?_
      refine lv_goto (tgt := 55) hx hb d_M_part_51 (by decide) ?_
      refine lv_iconst (v := 2) hx hb d_M_part_55 (by decide) ?_
      refine xc_calli (n := 2) (C := "TagMemoryModel") hx hb hml hown hts (c_M_bad l D G kc _ _ _ _ (Or.inr rfl)) (tb_V wm_390 wm_392 ws_17 wm_2 wm_393) rfl rfl rfl (by decide +kernel) ⟨Nat.le_of_ble_eq_true rfl, Nat.le_of_ble_eq_true rfl⟩ hK hP hD hS hA rfl rfl rfl rfl hl.1 rfl (Nat.le_of_ble_eq_true rfl) d_M_part_56 ⟨Nat.zero_le _, Nat.zero_le _⟩ (fun r u1 H locs hw hP hD hS => ?_)
      obtain ⟨e1, e2⟩ := hw
      subst e1
      rw [e2] at hP hD; clear e2 u1
      have hP : va_P D vwCl (wM G kc (nTh u 2)) H := hP
      have hD : va_D A (wM G kc (nTh u 2)) := hD
      refine lv_if_eq (tgt := 64) hx hb d_M_part_59 (by decide) (fun c9 => absurd c9 (by decide)) (fun _ => ?_)
      refine lv_iconst (v := 0) hx hb d_M_part_62 (by decide) ?_
      exact xc_iret hx hb hr hlocks hP hK hD hS ⟨rfl, rfl⟩ d_M_part_63
    · skip
      refine xb_ofi (cc := b_M_part) (maxL := 6) (ret := some .int) (by decide) rfl (Nat.le_of_ble_eq_true rfl) ?_
      intro p e s m below meth c A ls hsz hx hb hml hr hlocks hts hown hP hK hD hA hl
      have hl : lv_has ls 6 [(0, .ref (G 0)), (1, .int (nI i)), (2, .int (nI j)), (3, .int (nI k)), (4, .int v)] := hl
      have hS : va_S A s.heap s.heap [] := va_S.rf
      refine lv_aload_n hx hb d_M_part_0 rfl (lv_at hl 0 rfl) ?_
      refine lv_iload_n hx hb d_M_part_1 rfl (lv_at hl 1 rfl) ?_
      refine lv_if_lt (tgt := 12) hx hb d_M_part_2 (by decide) (fun c9 => absurd c9 (nI_pos (by omega))) (fun _ => ?_)
      refine lv_iload_n hx hb d_M_part_5 rfl (lv_at hl 1 rfl) ?_
      refine lv_sipush (v := 2047) hx hb d_M_part_6 (by decide) ?_
      refine lv_icmp_le (tgt := 16) hx hb d_M_part_9 (by decide) (fun _ => ?_) (fun c9 => absurd (nI_le (a := i) (b := 2047) (by omega) (by decide)) c9)
      refine lv_iconst (v := 0) hx hb d_M_part_16 (by decide) ?_
      refine lv_iconst (v := 1) hx hb d_M_part_17 (by decide) ?_
      refine xc_calli (n := 2) (C := "TagMemoryModel") hx hb hml hown hts (c_M_bad l D G kc _ _ _ _ (Or.inl rfl)) (tb_V wm_390 wm_392 ws_17 wm_2 wm_393) rfl rfl rfl (by decide +kernel) ⟨Nat.le_of_ble_eq_true rfl, Nat.le_of_ble_eq_true rfl⟩ hK hP hD hS hA rfl rfl rfl rfl hl.1 rfl (Nat.le_of_ble_eq_true rfl) d_M_part_18 ⟨Nat.zero_le _, Nat.zero_le _⟩ (fun r u1 H locs hw hP hD hS => ?_)
      obtain ⟨e1, e2⟩ := hw
      subst e1
      rw [e2] at hP hD; clear e2 u1
      have hP : va_P D vwCl (wM G kc (nTh u 0)) H := hP
      have hD : va_D A (wM G kc (nTh u 0)) := hD
      refine lv_if_ne (tgt := 62) hx hb d_M_part_21 (by decide) (fun c9 => absurd rfl c9) (fun _ => ?_)
      refine lv_aload_n hx hb d_M_part_24 rfl (lv_at hl 0 rfl) ?_
      refine lv_iload_n hx hb d_M_part_25 rfl (lv_at hl 3 rfl) ?_
      refine lv_iconst (v := 1) hx hb d_M_part_26 (by decide) ?_
      refine lv_icmp_lt (tgt := 50) hx hb d_M_part_27 (by decide) (fun c9 => absurd c9 (by rcases hk with h | h <;> subst h <;> decide)) (fun _ => ?_)
      refine lv_iload_n hx hb d_M_part_30 rfl (lv_at hl 3 rfl) ?_
      refine lv_iconst (v := 2) hx hb d_M_part_31 (by decide) ?_
      refine lv_icmp_gt (tgt := 50) hx hb d_M_part_32 (by decide) (fun c9 => absurd c9 (by rcases hk with h | h <;> subst h <;> decide)) (fun _ => ?_)
      refine lv_iload_n hx hb d_M_part_35 rfl (lv_at hl 2 rfl) ?_
      refine lv_if_lt (tgt := 50) hx hb d_M_part_36 (by decide) (fun c9 => absurd c9 (nI_pos (by omega))) (fun _ => ?_)
      refine lv_iload_n hx hb d_M_part_39 rfl (lv_at hl 2 rfl) ?_
      refine lv_iconst (v := 3) hx hb d_M_part_40 (by decide) ?_
      refine lv_icmp_gt (tgt := 50) hx hb d_M_part_41 (by decide) (fun c9 => absurd c9 (nI_nlt (a := 3) (b := j) (by omega) (by decide))) (fun _ => ?_)
      refine lv_iload_n hx hb d_M_part_44 rfl (lv_at hl 2 rfl) ?_
      refine lv_iload_n hx hb d_M_part_45 rfl (lv_at hl 3 rfl) ?_
      refine xa_irem hx hb j k rfl rfl (by omega) (by omega) (by omega) d_M_part_46 ?_
      refine lv_if_eq (tgt := 54) hx hb d_M_part_47 (by decide) (fun c9 => absurd c9 (nI_ne0 (by omega) (Nat.lt_of_le_of_lt (Nat.mod_le j k) (by omega)))) (fun _ => ?_)
      refine lv_iconst (v := 1) hx hb d_M_part_50 (by decide) ?_
      refine lv_goto (tgt := 55) hx hb d_M_part_51 (by decide) ?_
      refine lv_iconst (v := 2) hx hb d_M_part_55 (by decide) ?_
      refine xc_calli (n := 2) (C := "TagMemoryModel") hx hb hml hown hts (c_M_bad l D G kc _ _ _ _ (Or.inr rfl)) (tb_V wm_390 wm_392 ws_17 wm_2 wm_393) rfl rfl rfl (by decide +kernel) ⟨Nat.le_of_ble_eq_true rfl, Nat.le_of_ble_eq_true rfl⟩ hK hP hD hS hA rfl rfl rfl rfl hl.1 rfl (Nat.le_of_ble_eq_true rfl) d_M_part_56 ⟨Nat.zero_le _, Nat.zero_le _⟩ (fun r u1 H locs hw hP hD hS => ?_)
      obtain ⟨e1, e2⟩ := hw
      subst e1
      rw [e2] at hP hD; clear e2 u1
      have hP : va_P D vwCl (wM G kc (nTh u 2)) H := hP
      have hD : va_D A (wM G kc (nTh u 2)) := hD
      refine lv_if_eq (tgt := 64) hx hb d_M_part_59 (by decide) (fun c9 => absurd c9 (by decide)) (fun _ => ?_)
      refine lv_iconst (v := 0) hx hb d_M_part_62 (by decide) ?_
      exact xc_iret hx hb hr hlocks hP hK hD hS ⟨rfl, rfl⟩ d_M_part_63
set_option maxHeartbeats 4000000 in
set_option maxRecDepth 100000 in
theorem lp_M_count4 {p : Program} {l : Launch} {e : Env} {s : State} {m : MethodId} {args : Array Value} {below : List Frame} {meth : Method} {c : Code} {Q : State → Prop} {D : va_G} {A : Nat → Prop} {G : Nat → Nat} {kc : Nat → ClassId} {c1 : Cond} (hx : p.tables.exec = Jvm.exec) (hb : c.code = b_M_count) (hml : c.maxLocals = 4) (hown : s.vm.findClass "TagMemoryModel" = some m.cls) (hts : ∀ w ∈ c1 :: TB, w.before args s = true) (hK : va_K D vwCl (tyMs kc) s) (hA : ∀ q, s.heap.size ≤ q → A q) (u : TM) (kk : ∀ (acc : Int32) (H : Heap) (locs : List Loc) (ls : Array Slot), acc = fCntNe 0 (mTg u) 1024 0 0 → va_P D vwCl (wM G kc u) H → va_D A (wM G kc u) → va_S A s.heap H locs → lv_has ls 4 [(3, .int (nI 1024)), (2, .int acc), (1, .int (nI 4)), (0, .ref (G 0))] → W p l e ({ frames := 1, cells := 0, slots := 0, locals := 22 }) s m args below meth c H locs 0 0 Q (F0 m 71 ls [])) : ∀ (d i : Nat), i + d = 1024 → ∀ (acc : Int32) (H : Heap) (locs : List Loc) (ls : Array Slot), fCntNe 0 (mTg u) d i acc = fCntNe 0 (mTg u) 1024 0 0 → va_P D vwCl (wM G kc u) H → va_D A (wM G kc u) → va_S A s.heap H locs → lv_has ls 4 [(3, .int (nI i)), (2, .int acc), (1, .int (nI 4)), (0, .ref (G 0))] → W p l e ({ frames := 1, cells := 0, slots := 0, locals := 22 }) s m args below meth c H locs 0 0 Q (F0 m 46 ls []) := by
  intro d
  induction d with
  | zero =>
    intro i hi acc H locs ls hu hP hD hS hl
    obtain rfl : i = 1024 := by omega
    refine lv_iload_n hx hb d_M_count_46 rfl (lv_at hl 0 rfl) ?_
    refine lv_sipush (v := 1024) hx hb d_M_count_47 (by decide) ?_
    refine lv_icmp_ge (tgt := 71) hx hb d_M_count_50 (by decide) (fun _ => ?_) (fun c9 => absurd (nI_le (a := 1024) (b := 1024) (by omega) (by omega)) c9)
    exact kk acc H locs ls hu hP hD hS hl
  | succ d ih =>
    intro i hi acc H locs ls hu hP hD hS hl
    have hiN : i < 1024 := by omega
    by_cases h2 : mTg u i = 0
    · skip
      refine lv_iload_n hx hb d_M_count_46 rfl (lv_at hl 0 rfl) ?_
      refine lv_sipush (v := 1024) hx hb d_M_count_47 (by decide) ?_
      refine lv_icmp_ge (tgt := 71) hx hb d_M_count_50 (by decide) (fun c9 => absurd c9 (nI_ge (a := i) (b := 1024) (by omega) (by omega))) (fun _ => ?_)
      refine lv_aload_n hx hb d_M_count_53 rfl (lv_at hl 3 rfl) ?_
      refine xm_g1 hx hb hts hown hK hP d_M_count_54 ?_
      refine lv_iload_n hx hb d_M_count_57 rfl (lv_at hl 0 rfl) ?_
      refine xm_l1 hx hb hK hP i rfl (by omega) d_M_count_58 ?_
      refine lv_if_eq (tgt := 65) hx hb d_M_count_59 (by decide) (fun _ => ?_) (fun c9 => absurd h2 c9)
      refine lv_iinc (v := nI (i + 1)) (lv' := [(3, .int (nI (i + 1))), (2, .int _), (1, .int (nI 4)), (0, .ref _)]) hx hb d_M_count_65 hl (k := 0) rfl (nI_add _ _) (by decide) rfl (fun ls hl => ?_)
      refine lv_goto (tgt := 46) hx hb d_M_count_68 (by decide) ?_
      exact ih (i + 1) (by omega) _ _ _ _ (by rw [← hu]; show _ = fCntNe 0 (mTg u) d (i + 1) (if mTg u i = 0 then acc else acc + 1); rw [if_pos h2]) hP hD hS (lv_sub hl [0, 1, 2, 3] rfl)
    · skip
      refine lv_iload_n hx hb d_M_count_46 rfl (lv_at hl 0 rfl) ?_
      refine lv_sipush (v := 1024) hx hb d_M_count_47 (by decide) ?_
      refine lv_icmp_ge (tgt := 71) hx hb d_M_count_50 (by decide) (fun c9 => absurd c9 (nI_ge (a := i) (b := 1024) (by omega) (by omega))) (fun _ => ?_)
      refine lv_aload_n hx hb d_M_count_53 rfl (lv_at hl 3 rfl) ?_
      refine xm_g1 hx hb hts hown hK hP d_M_count_54 ?_
      refine lv_iload_n hx hb d_M_count_57 rfl (lv_at hl 0 rfl) ?_
      refine xm_l1 hx hb hK hP i rfl (by omega) d_M_count_58 ?_
      refine lv_if_eq (tgt := 65) hx hb d_M_count_59 (by decide) (fun c9 => absurd c9 h2) (fun _ => ?_)
      refine lv_iinc (lv' := [(2, .int _), (3, .int (nI i)), (1, .int (nI 4)), (0, .ref _)]) hx hb d_M_count_62 hl (k := 1) rfl rfl (by decide) rfl (fun ls hl => ?_)
      refine lv_iinc (v := nI (i + 1)) (lv' := [(3, .int (nI (i + 1))), (2, .int _), (1, .int (nI 4)), (0, .ref _)]) hx hb d_M_count_65 hl (k := 1) rfl (nI_add _ _) (by decide) rfl (fun ls hl => ?_)
      refine lv_goto (tgt := 46) hx hb d_M_count_68 (by decide) ?_
      exact ih (i + 1) (by omega) _ _ _ _ (by rw [← hu]; show _ = fCntNe 0 (mTg u) d (i + 1) (if mTg u i = 0 then acc else acc + 1); rw [if_neg h2]; rfl) hP hD hS (lv_sub hl [0, 1, 2, 3] rfl)
set_option maxHeartbeats 4000000 in
set_option maxRecDepth 100000 in
theorem lp_M_count5 {p : Program} {l : Launch} {e : Env} {s : State} {m : MethodId} {args : Array Value} {below : List Frame} {meth : Method} {c : Code} {Q : State → Prop} {D : va_G} {A : Nat → Prop} {G : Nat → Nat} {kc : Nat → ClassId} {c1 : Cond} (hx : p.tables.exec = Jvm.exec) (hb : c.code = b_M_count) (hml : c.maxLocals = 4) (hown : s.vm.findClass "TagMemoryModel" = some m.cls) (hts : ∀ w ∈ c1 :: TB, w.before args s = true) (hK : va_K D vwCl (tyMs kc) s) (hA : ∀ q, s.heap.size ≤ q → A q) (u : TM) (hI : mI u) (kk : ∀ (acc : Int32) (H : Heap) (locs : List Loc) (ls : Array Slot), acc = fCntNe (-1) (mLn u) 16 0 0 → va_P D vwCl (wM G kc u) H → va_D A (wM G kc u) → va_S A s.heap H locs → lv_has ls 4 [(3, .int (nI 16)), (2, .int acc), (1, .int (nI 5)), (0, .ref (G 0))] → W p l e ({ frames := 1, cells := 0, slots := 0, locals := 22 }) s m args below meth c H locs 0 0 Q (F0 m 102 ls [])) : ∀ (d i : Nat), i + d = 16 → ∀ (acc : Int32) (H : Heap) (locs : List Loc) (ls : Array Slot), fCntNe (-1) (mLn u) d i acc = fCntNe (-1) (mLn u) 16 0 0 → va_P D vwCl (wM G kc u) H → va_D A (wM G kc u) → va_S A s.heap H locs → lv_has ls 4 [(3, .int (nI i)), (2, .int acc), (1, .int (nI 5)), (0, .ref (G 0))] → W p l e ({ frames := 1, cells := 0, slots := 0, locals := 22 }) s m args below meth c H locs 0 0 Q (F0 m 73 ls []) := by
  intro d
  induction d with
  | zero =>
    intro i hi acc H locs ls hu hP hD hS hl
    obtain rfl : i = 16 := by omega
    refine lv_iload_n hx hb d_M_count_73 rfl (lv_at hl 2 rfl) ?_
    refine lv_iconst (v := 5) hx hb d_M_count_74 (by decide) ?_
    refine lv_icmp_ne (tgt := 102) hx hb d_M_count_75 (by decide) (fun c9 => absurd (show nI 5 = nI 5 from rfl) c9) (fun _ => ?_)
    refine lv_iload_n hx hb d_M_count_78 rfl (lv_at hl 0 rfl) ?_
    refine lv_bipush (v := 16) hx hb d_M_count_79 (by decide) ?_
    refine lv_icmp_ge (tgt := 102) hx hb d_M_count_81 (by decide) (fun _ => ?_) (fun c9 => absurd (nI_le (a := 16) (b := 16) (by omega) (by omega)) c9)
    exact kk acc H locs ls hu hP hD hS hl
  | succ d ih =>
    intro i hi acc H locs ls hu hP hD hS hl
    have hiN : i < 16 := by omega
    by_cases h2 : mLn u i = (-1)
    · skip
      refine lv_iload_n hx hb d_M_count_73 rfl (lv_at hl 2 rfl) ?_
      refine lv_iconst (v := 5) hx hb d_M_count_74 (by decide) ?_
      refine lv_icmp_ne (tgt := 102) hx hb d_M_count_75 (by decide) (fun c9 => absurd (show nI 5 = nI 5 from rfl) c9) (fun _ => ?_)
      refine lv_iload_n hx hb d_M_count_78 rfl (lv_at hl 0 rfl) ?_
      refine lv_bipush (v := 16) hx hb d_M_count_79 (by decide) ?_
      refine lv_icmp_ge (tgt := 102) hx hb d_M_count_81 (by decide) (fun c9 => absurd c9 (nI_ge (a := i) (b := 16) (by omega) (by omega))) (fun _ => ?_)
      refine lv_aload_n hx hb d_M_count_84 rfl (lv_at hl 3 rfl) ?_
      refine xm_g4 hx hb hts hown hK hP d_M_count_85 ?_
      refine lv_iload_n hx hb d_M_count_88 rfl (lv_at hl 0 rfl) ?_
      refine xm_l4 hx hb hK hP i rfl (by omega) d_M_count_89 ?_
      refine lv_if_lt (tgt := 96) hx hb d_M_count_90 (by decide) (fun _ => ?_) (fun c9 => absurd (by rw [h2]; decide) c9)
      refine lv_iinc (v := nI (i + 1)) (lv' := [(3, .int (nI (i + 1))), (2, .int _), (1, .int (nI 5)), (0, .ref _)]) hx hb d_M_count_96 hl (k := 0) rfl (nI_add _ _) (by decide) rfl (fun ls hl => ?_)
      refine lv_goto (tgt := 73) hx hb d_M_count_99 (by decide) ?_
      exact ih (i + 1) (by omega) _ _ _ _ (by rw [← hu]; show _ = fCntNe (-1) (mLn u) d (i + 1) (if mLn u i = (-1) then acc else acc + 1); rw [if_pos h2]) hP hD hS (lv_sub hl [0, 1, 2, 3] rfl)
    · skip
      obtain ⟨k, hk0, hk1⟩ : ∃ k, k < 512 ∧ mLn u i = nI k := by obtain ⟨k, a, _, b⟩ := (hI.2.1 i hiN).resolve_left h2; exact ⟨k, a, b⟩
      refine lv_iload_n hx hb d_M_count_73 rfl (lv_at hl 2 rfl) ?_
      refine lv_iconst (v := 5) hx hb d_M_count_74 (by decide) ?_
      refine lv_icmp_ne (tgt := 102) hx hb d_M_count_75 (by decide) (fun c9 => absurd (show nI 5 = nI 5 from rfl) c9) (fun _ => ?_)
      refine lv_iload_n hx hb d_M_count_78 rfl (lv_at hl 0 rfl) ?_
      refine lv_bipush (v := 16) hx hb d_M_count_79 (by decide) ?_
      refine lv_icmp_ge (tgt := 102) hx hb d_M_count_81 (by decide) (fun c9 => absurd c9 (nI_ge (a := i) (b := 16) (by omega) (by omega))) (fun _ => ?_)
      refine lv_aload_n hx hb d_M_count_84 rfl (lv_at hl 3 rfl) ?_
      refine xm_g4 hx hb hts hown hK hP d_M_count_85 ?_
      refine lv_iload_n hx hb d_M_count_88 rfl (lv_at hl 0 rfl) ?_
      refine xm_l4 hx hb hK hP i rfl (by omega) d_M_count_89 ?_
      refine lv_if_lt (tgt := 96) hx hb d_M_count_90 (by decide) (fun c9 => absurd c9 (by rw [hk1]; exact nI_pos (by omega))) (fun _ => ?_)
      refine lv_iinc (lv' := [(2, .int _), (3, .int (nI i)), (1, .int (nI 5)), (0, .ref _)]) hx hb d_M_count_93 hl (k := 1) rfl rfl (by decide) rfl (fun ls hl => ?_)
      refine lv_iinc (v := nI (i + 1)) (lv' := [(3, .int (nI (i + 1))), (2, .int _), (1, .int (nI 5)), (0, .ref _)]) hx hb d_M_count_96 hl (k := 1) rfl (nI_add _ _) (by decide) rfl (fun ls hl => ?_)
      refine lv_goto (tgt := 73) hx hb d_M_count_99 (by decide) ?_
      exact ih (i + 1) (by omega) _ _ _ _ (by rw [← hu]; show _ = fCntNe (-1) (mLn u) d (i + 1) (if mLn u i = (-1) then acc else acc + 1); rw [if_neg h2]; rfl) hP hD hS (lv_sub hl [0, 1, 2, 3] rfl)
set_option maxHeartbeats 4000000 in
set_option maxRecDepth 100000 in
theorem lp_M_count6 {p : Program} {l : Launch} {e : Env} {s : State} {m : MethodId} {args : Array Value} {below : List Frame} {meth : Method} {c : Code} {Q : State → Prop} {D : va_G} {A : Nat → Prop} {G : Nat → Nat} {kc : Nat → ClassId} {c1 : Cond} (hx : p.tables.exec = Jvm.exec) (hb : c.code = b_M_count) (hml : c.maxLocals = 4) (hown : s.vm.findClass "TagMemoryModel" = some m.cls) (hts : ∀ w ∈ c1 :: TB, w.before args s = true) (hK : va_K D vwCl (tyMs kc) s) (hA : ∀ q, s.heap.size ≤ q → A q) (u : TM) (kk : ∀ (acc : Int32) (H : Heap) (locs : List Loc) (ls : Array Slot), acc = fCntNe 0 (mLc u) 16 0 0 → va_P D vwCl (wM G kc u) H → va_D A (wM G kc u) → va_S A s.heap H locs → lv_has ls 4 [(3, .int (nI 16)), (2, .int acc), (1, .int (nI 6)), (0, .ref (G 0))] → W p l e ({ frames := 1, cells := 0, slots := 0, locals := 22 }) s m args below meth c H locs 0 0 Q (F0 m 134 ls [])) : ∀ (d i : Nat), i + d = 16 → ∀ (acc : Int32) (H : Heap) (locs : List Loc) (ls : Array Slot), fCntNe 0 (mLc u) d i acc = fCntNe 0 (mLc u) 16 0 0 → va_P D vwCl (wM G kc u) H → va_D A (wM G kc u) → va_S A s.heap H locs → lv_has ls 4 [(3, .int (nI i)), (2, .int acc), (1, .int (nI 6)), (0, .ref (G 0))] → W p l e ({ frames := 1, cells := 0, slots := 0, locals := 22 }) s m args below meth c H locs 0 0 Q (F0 m 104 ls []) := by
  intro d
  induction d with
  | zero =>
    intro i hi acc H locs ls hu hP hD hS hl
    obtain rfl : i = 16 := by omega
    refine lv_iload_n hx hb d_M_count_104 rfl (lv_at hl 2 rfl) ?_
    refine lv_bipush (v := 6) hx hb d_M_count_105 (by decide) ?_
    refine lv_icmp_ne (tgt := 134) hx hb d_M_count_107 (by decide) (fun c9 => absurd (show nI 6 = nI 6 from rfl) c9) (fun _ => ?_)
    refine lv_iload_n hx hb d_M_count_110 rfl (lv_at hl 0 rfl) ?_
    refine lv_bipush (v := 16) hx hb d_M_count_111 (by decide) ?_
    refine lv_icmp_ge (tgt := 134) hx hb d_M_count_113 (by decide) (fun _ => ?_) (fun c9 => absurd (nI_le (a := 16) (b := 16) (by omega) (by omega)) c9)
    exact kk acc H locs ls hu hP hD hS hl
  | succ d ih =>
    intro i hi acc H locs ls hu hP hD hS hl
    have hiN : i < 16 := by omega
    by_cases h2 : mLc u i = 0
    · skip
      refine lv_iload_n hx hb d_M_count_104 rfl (lv_at hl 2 rfl) ?_
      refine lv_bipush (v := 6) hx hb d_M_count_105 (by decide) ?_
      refine lv_icmp_ne (tgt := 134) hx hb d_M_count_107 (by decide) (fun c9 => absurd (show nI 6 = nI 6 from rfl) c9) (fun _ => ?_)
      refine lv_iload_n hx hb d_M_count_110 rfl (lv_at hl 0 rfl) ?_
      refine lv_bipush (v := 16) hx hb d_M_count_111 (by decide) ?_
      refine lv_icmp_ge (tgt := 134) hx hb d_M_count_113 (by decide) (fun c9 => absurd c9 (nI_ge (a := i) (b := 16) (by omega) (by omega))) (fun _ => ?_)
      refine lv_aload_n hx hb d_M_count_116 rfl (lv_at hl 3 rfl) ?_
      refine xm_g5 hx hb hts hown hK hP d_M_count_117 ?_
      refine lv_iload_n hx hb d_M_count_120 rfl (lv_at hl 0 rfl) ?_
      refine xm_l5 hx hb hK hP i rfl (by omega) d_M_count_121 ?_
      refine lv_if_eq (tgt := 128) hx hb d_M_count_122 (by decide) (fun _ => ?_) (fun c9 => absurd h2 c9)
      refine lv_iinc (v := nI (i + 1)) (lv' := [(3, .int (nI (i + 1))), (2, .int _), (1, .int (nI 6)), (0, .ref _)]) hx hb d_M_count_128 hl (k := 0) rfl (nI_add _ _) (by decide) rfl (fun ls hl => ?_)
      refine lv_goto (tgt := 104) hx hb d_M_count_131 (by decide) ?_
      exact ih (i + 1) (by omega) _ _ _ _ (by rw [← hu]; show _ = fCntNe 0 (mLc u) d (i + 1) (if mLc u i = 0 then acc else acc + 1); rw [if_pos h2]) hP hD hS (lv_sub hl [0, 1, 2, 3] rfl)
    · skip
      refine lv_iload_n hx hb d_M_count_104 rfl (lv_at hl 2 rfl) ?_
      refine lv_bipush (v := 6) hx hb d_M_count_105 (by decide) ?_
      refine lv_icmp_ne (tgt := 134) hx hb d_M_count_107 (by decide) (fun c9 => absurd (show nI 6 = nI 6 from rfl) c9) (fun _ => ?_)
      refine lv_iload_n hx hb d_M_count_110 rfl (lv_at hl 0 rfl) ?_
      refine lv_bipush (v := 16) hx hb d_M_count_111 (by decide) ?_
      refine lv_icmp_ge (tgt := 134) hx hb d_M_count_113 (by decide) (fun c9 => absurd c9 (nI_ge (a := i) (b := 16) (by omega) (by omega))) (fun _ => ?_)
      refine lv_aload_n hx hb d_M_count_116 rfl (lv_at hl 3 rfl) ?_
      refine xm_g5 hx hb hts hown hK hP d_M_count_117 ?_
      refine lv_iload_n hx hb d_M_count_120 rfl (lv_at hl 0 rfl) ?_
      refine xm_l5 hx hb hK hP i rfl (by omega) d_M_count_121 ?_
      refine lv_if_eq (tgt := 128) hx hb d_M_count_122 (by decide) (fun c9 => absurd c9 h2) (fun _ => ?_)
      refine lv_iinc (lv' := [(2, .int _), (3, .int (nI i)), (1, .int (nI 6)), (0, .ref _)]) hx hb d_M_count_125 hl (k := 1) rfl rfl (by decide) rfl (fun ls hl => ?_)
      refine lv_iinc (v := nI (i + 1)) (lv' := [(3, .int (nI (i + 1))), (2, .int _), (1, .int (nI 6)), (0, .ref _)]) hx hb d_M_count_128 hl (k := 1) rfl (nI_add _ _) (by decide) rfl (fun ls hl => ?_)
      refine lv_goto (tgt := 104) hx hb d_M_count_131 (by decide) ?_
      exact ih (i + 1) (by omega) _ _ _ _ (by rw [← hu]; show _ = fCntNe 0 (mLc u) d (i + 1) (if mLc u i = 0 then acc else acc + 1); rw [if_neg h2]; rfl) hP hD hS (lv_sub hl [0, 1, 2, 3] rfl)
set_option maxHeartbeats 4000000 in
set_option maxRecDepth 100000 in
theorem lp_M_count7 {p : Program} {l : Launch} {e : Env} {s : State} {m : MethodId} {args : Array Value} {below : List Frame} {meth : Method} {c : Code} {Q : State → Prop} {D : va_G} {A : Nat → Prop} {G : Nat → Nat} {kc : Nat → ClassId} {c1 : Cond} (hx : p.tables.exec = Jvm.exec) (hb : c.code = b_M_count) (hml : c.maxLocals = 4) (hown : s.vm.findClass "TagMemoryModel" = some m.cls) (hts : ∀ w ∈ c1 :: TB, w.before args s = true) (hK : va_K D vwCl (tyMs kc) s) (hA : ∀ q, s.heap.size ≤ q → A q) (u : TM) (hI : mI u) (kk : ∀ (acc : Int32) (H : Heap) (locs : List Loc) (ls : Array Slot), acc = fCntNe (-1) (mKr u) 4 0 0 → va_P D vwCl (wM G kc u) H → va_D A (wM G kc u) → va_S A s.heap H locs → lv_has ls 4 [(3, .int (nI 4)), (2, .int acc), (1, .int (nI 7)), (0, .ref (G 0))] → W p l e ({ frames := 1, cells := 0, slots := 0, locals := 22 }) s m args below meth c H locs 0 0 Q (F0 m 165 ls [])) : ∀ (d i : Nat), i + d = 4 → ∀ (acc : Int32) (H : Heap) (locs : List Loc) (ls : Array Slot), fCntNe (-1) (mKr u) d i acc = fCntNe (-1) (mKr u) 4 0 0 → va_P D vwCl (wM G kc u) H → va_D A (wM G kc u) → va_S A s.heap H locs → lv_has ls 4 [(3, .int (nI i)), (2, .int acc), (1, .int (nI 7)), (0, .ref (G 0))] → W p l e ({ frames := 1, cells := 0, slots := 0, locals := 22 }) s m args below meth c H locs 0 0 Q (F0 m 136 ls []) := by
  intro d
  induction d with
  | zero =>
    intro i hi acc H locs ls hu hP hD hS hl
    obtain rfl : i = 4 := by omega
    refine lv_iload_n hx hb d_M_count_136 rfl (lv_at hl 2 rfl) ?_
    refine lv_bipush (v := 7) hx hb d_M_count_137 (by decide) ?_
    refine lv_icmp_ne (tgt := 165) hx hb d_M_count_139 (by decide) (fun c9 => absurd (show nI 7 = nI 7 from rfl) c9) (fun _ => ?_)
    refine lv_iload_n hx hb d_M_count_142 rfl (lv_at hl 0 rfl) ?_
    refine lv_iconst (v := 4) hx hb d_M_count_143 (by decide) ?_
    refine lv_icmp_ge (tgt := 165) hx hb d_M_count_144 (by decide) (fun _ => ?_) (fun c9 => absurd (nI_le (a := 4) (b := 4) (by omega) (by omega)) c9)
    exact kk acc H locs ls hu hP hD hS hl
  | succ d ih =>
    intro i hi acc H locs ls hu hP hD hS hl
    have hiN : i < 4 := by omega
    by_cases h2 : mKr u i = (-1)
    · skip
      refine lv_iload_n hx hb d_M_count_136 rfl (lv_at hl 2 rfl) ?_
      refine lv_bipush (v := 7) hx hb d_M_count_137 (by decide) ?_
      refine lv_icmp_ne (tgt := 165) hx hb d_M_count_139 (by decide) (fun c9 => absurd (show nI 7 = nI 7 from rfl) c9) (fun _ => ?_)
      refine lv_iload_n hx hb d_M_count_142 rfl (lv_at hl 0 rfl) ?_
      refine lv_iconst (v := 4) hx hb d_M_count_143 (by decide) ?_
      refine lv_icmp_ge (tgt := 165) hx hb d_M_count_144 (by decide) (fun c9 => absurd c9 (nI_ge (a := i) (b := 4) (by omega) (by omega))) (fun _ => ?_)
      refine lv_aload_n hx hb d_M_count_147 rfl (lv_at hl 3 rfl) ?_
      refine xm_g6 hx hb hts hown hK hP d_M_count_148 ?_
      refine lv_iload_n hx hb d_M_count_151 rfl (lv_at hl 0 rfl) ?_
      refine xm_l6 hx hb hK hP i rfl (by omega) d_M_count_152 ?_
      refine lv_if_lt (tgt := 159) hx hb d_M_count_153 (by decide) (fun _ => ?_) (fun c9 => absurd (by rw [h2]; decide) c9)
      refine lv_iinc (v := nI (i + 1)) (lv' := [(3, .int (nI (i + 1))), (2, .int _), (1, .int (nI 7)), (0, .ref _)]) hx hb d_M_count_159 hl (k := 0) rfl (nI_add _ _) (by decide) rfl (fun ls hl => ?_)
      refine lv_goto (tgt := 136) hx hb d_M_count_162 (by decide) ?_
      exact ih (i + 1) (by omega) _ _ _ _ (by rw [← hu]; show _ = fCntNe (-1) (mKr u) d (i + 1) (if mKr u i = (-1) then acc else acc + 1); rw [if_pos h2]) hP hD hS (lv_sub hl [0, 1, 2, 3] rfl)
    · skip
      obtain ⟨k, hk0, hk1⟩ : ∃ k, k < 512 ∧ mKr u i = nI k := by obtain ⟨k, a, _, b⟩ := (hI.1 i hiN).resolve_left h2; exact ⟨k, by omega, b⟩
      refine lv_iload_n hx hb d_M_count_136 rfl (lv_at hl 2 rfl) ?_
      refine lv_bipush (v := 7) hx hb d_M_count_137 (by decide) ?_
      refine lv_icmp_ne (tgt := 165) hx hb d_M_count_139 (by decide) (fun c9 => absurd (show nI 7 = nI 7 from rfl) c9) (fun _ => ?_)
      refine lv_iload_n hx hb d_M_count_142 rfl (lv_at hl 0 rfl) ?_
      refine lv_iconst (v := 4) hx hb d_M_count_143 (by decide) ?_
      refine lv_icmp_ge (tgt := 165) hx hb d_M_count_144 (by decide) (fun c9 => absurd c9 (nI_ge (a := i) (b := 4) (by omega) (by omega))) (fun _ => ?_)
      refine lv_aload_n hx hb d_M_count_147 rfl (lv_at hl 3 rfl) ?_
      refine xm_g6 hx hb hts hown hK hP d_M_count_148 ?_
      refine lv_iload_n hx hb d_M_count_151 rfl (lv_at hl 0 rfl) ?_
      refine xm_l6 hx hb hK hP i rfl (by omega) d_M_count_152 ?_
      refine lv_if_lt (tgt := 159) hx hb d_M_count_153 (by decide) (fun c9 => absurd c9 (by rw [hk1]; exact nI_pos (by omega))) (fun _ => ?_)
      refine lv_iinc (lv' := [(2, .int _), (3, .int (nI i)), (1, .int (nI 7)), (0, .ref _)]) hx hb d_M_count_156 hl (k := 1) rfl rfl (by decide) rfl (fun ls hl => ?_)
      refine lv_iinc (v := nI (i + 1)) (lv' := [(3, .int (nI (i + 1))), (2, .int _), (1, .int (nI 7)), (0, .ref _)]) hx hb d_M_count_159 hl (k := 1) rfl (nI_add _ _) (by decide) rfl (fun ls hl => ?_)
      refine lv_goto (tgt := 136) hx hb d_M_count_162 (by decide) ?_
      exact ih (i + 1) (by omega) _ _ _ _ (by rw [← hu]; show _ = fCntNe (-1) (mKr u) d (i + 1) (if mKr u i = (-1) then acc else acc + 1); rw [if_neg h2]; rfl) hP hD hS (lv_sub hl [0, 1, 2, 3] rfl)
set_option maxHeartbeats 4000000 in
set_option maxRecDepth 100000 in
theorem lp_M_count8 {p : Program} {l : Launch} {e : Env} {s : State} {m : MethodId} {args : Array Value} {below : List Frame} {meth : Method} {c : Code} {Q : State → Prop} {D : va_G} {A : Nat → Prop} {G : Nat → Nat} {kc : Nat → ClassId} {c1 : Cond} (hx : p.tables.exec = Jvm.exec) (hb : c.code = b_M_count) (hml : c.maxLocals = 4) (hown : s.vm.findClass "TagMemoryModel" = some m.cls) (hts : ∀ w ∈ c1 :: TB, w.before args s = true) (hK : va_K D vwCl (tyMs kc) s) (hA : ∀ q, s.heap.size ≤ q → A q) (u : TM) (kk : ∀ (acc : Int32) (H : Heap) (locs : List Loc) (ls : Array Slot), acc = fCntNe 0 (mRc u) 4 0 0 → va_P D vwCl (wM G kc u) H → va_D A (wM G kc u) → va_S A s.heap H locs → lv_has ls 4 [(3, .int (nI 4)), (2, .int acc), (1, .int (nI 8)), (0, .ref (G 0))] → W p l e ({ frames := 1, cells := 0, slots := 0, locals := 22 }) s m args below meth c H locs 0 0 Q (F0 m 196 ls [])) : ∀ (d i : Nat), i + d = 4 → ∀ (acc : Int32) (H : Heap) (locs : List Loc) (ls : Array Slot), fCntNe 0 (mRc u) d i acc = fCntNe 0 (mRc u) 4 0 0 → va_P D vwCl (wM G kc u) H → va_D A (wM G kc u) → va_S A s.heap H locs → lv_has ls 4 [(3, .int (nI i)), (2, .int acc), (1, .int (nI 8)), (0, .ref (G 0))] → W p l e ({ frames := 1, cells := 0, slots := 0, locals := 22 }) s m args below meth c H locs 0 0 Q (F0 m 167 ls []) := by
  intro d
  induction d with
  | zero =>
    intro i hi acc H locs ls hu hP hD hS hl
    obtain rfl : i = 4 := by omega
    refine lv_iload_n hx hb d_M_count_167 rfl (lv_at hl 2 rfl) ?_
    refine lv_bipush (v := 8) hx hb d_M_count_168 (by decide) ?_
    refine lv_icmp_ne (tgt := 196) hx hb d_M_count_170 (by decide) (fun c9 => absurd (show nI 8 = nI 8 from rfl) c9) (fun _ => ?_)
    refine lv_iload_n hx hb d_M_count_173 rfl (lv_at hl 0 rfl) ?_
    refine lv_iconst (v := 4) hx hb d_M_count_174 (by decide) ?_
    refine lv_icmp_ge (tgt := 196) hx hb d_M_count_175 (by decide) (fun _ => ?_) (fun c9 => absurd (nI_le (a := 4) (b := 4) (by omega) (by omega)) c9)
    exact kk acc H locs ls hu hP hD hS hl
  | succ d ih =>
    intro i hi acc H locs ls hu hP hD hS hl
    have hiN : i < 4 := by omega
    by_cases h2 : mRc u i = 0
    · skip
      refine lv_iload_n hx hb d_M_count_167 rfl (lv_at hl 2 rfl) ?_
      refine lv_bipush (v := 8) hx hb d_M_count_168 (by decide) ?_
      refine lv_icmp_ne (tgt := 196) hx hb d_M_count_170 (by decide) (fun c9 => absurd (show nI 8 = nI 8 from rfl) c9) (fun _ => ?_)
      refine lv_iload_n hx hb d_M_count_173 rfl (lv_at hl 0 rfl) ?_
      refine lv_iconst (v := 4) hx hb d_M_count_174 (by decide) ?_
      refine lv_icmp_ge (tgt := 196) hx hb d_M_count_175 (by decide) (fun c9 => absurd c9 (nI_ge (a := i) (b := 4) (by omega) (by omega))) (fun _ => ?_)
      refine lv_aload_n hx hb d_M_count_178 rfl (lv_at hl 3 rfl) ?_
      refine xm_g7 hx hb hts hown hK hP d_M_count_179 ?_
      refine lv_iload_n hx hb d_M_count_182 rfl (lv_at hl 0 rfl) ?_
      refine xm_l7 hx hb hK hP i rfl (by omega) d_M_count_183 ?_
      refine lv_if_eq (tgt := 190) hx hb d_M_count_184 (by decide) (fun _ => ?_) (fun c9 => absurd h2 c9)
      refine lv_iinc (v := nI (i + 1)) (lv' := [(3, .int (nI (i + 1))), (2, .int _), (1, .int (nI 8)), (0, .ref _)]) hx hb d_M_count_190 hl (k := 0) rfl (nI_add _ _) (by decide) rfl (fun ls hl => ?_)
      refine lv_goto (tgt := 167) hx hb d_M_count_193 (by decide) ?_
      exact ih (i + 1) (by omega) _ _ _ _ (by rw [← hu]; show _ = fCntNe 0 (mRc u) d (i + 1) (if mRc u i = 0 then acc else acc + 1); rw [if_pos h2]) hP hD hS (lv_sub hl [0, 1, 2, 3] rfl)
    · skip
      refine lv_iload_n hx hb d_M_count_167 rfl (lv_at hl 2 rfl) ?_
      refine lv_bipush (v := 8) hx hb d_M_count_168 (by decide) ?_
      refine lv_icmp_ne (tgt := 196) hx hb d_M_count_170 (by decide) (fun c9 => absurd (show nI 8 = nI 8 from rfl) c9) (fun _ => ?_)
      refine lv_iload_n hx hb d_M_count_173 rfl (lv_at hl 0 rfl) ?_
      refine lv_iconst (v := 4) hx hb d_M_count_174 (by decide) ?_
      refine lv_icmp_ge (tgt := 196) hx hb d_M_count_175 (by decide) (fun c9 => absurd c9 (nI_ge (a := i) (b := 4) (by omega) (by omega))) (fun _ => ?_)
      refine lv_aload_n hx hb d_M_count_178 rfl (lv_at hl 3 rfl) ?_
      refine xm_g7 hx hb hts hown hK hP d_M_count_179 ?_
      refine lv_iload_n hx hb d_M_count_182 rfl (lv_at hl 0 rfl) ?_
      refine xm_l7 hx hb hK hP i rfl (by omega) d_M_count_183 ?_
      refine lv_if_eq (tgt := 190) hx hb d_M_count_184 (by decide) (fun c9 => absurd c9 h2) (fun _ => ?_)
      refine lv_iinc (lv' := [(2, .int _), (3, .int (nI i)), (1, .int (nI 8)), (0, .ref _)]) hx hb d_M_count_187 hl (k := 1) rfl rfl (by decide) rfl (fun ls hl => ?_)
      refine lv_iinc (v := nI (i + 1)) (lv' := [(3, .int (nI (i + 1))), (2, .int _), (1, .int (nI 8)), (0, .ref _)]) hx hb d_M_count_190 hl (k := 1) rfl (nI_add _ _) (by decide) rfl (fun ls hl => ?_)
      refine lv_goto (tgt := 167) hx hb d_M_count_193 (by decide) ?_
      exact ih (i + 1) (by omega) _ _ _ _ (by rw [← hu]; show _ = fCntNe 0 (mRc u) d (i + 1) (if mRc u i = 0 then acc else acc + 1); rw [if_neg h2]; rfl) hP hD hS (lv_sub hl [0, 1, 2, 3] rfl)
set_option maxHeartbeats 4000000 in
set_option maxRecDepth 100000 in
theorem c_M_count (l : Launch) (D : va_G) (G : Nat → Nat) (kc : Nat → ClassId) (sz : Nat) (u : TM) (w : Nat) (hw : w < 9) (hI : mI u) : XMi l y_M_count k_M_count { frames := 1, cells := 0, slots := 0, locals := 22 } D vwCl (wM G kc) (tyMs kc) u sz [.ref (G 0), .int (nI w)] (fun r u1 => r = rmCount u w ∧ u1 = nTh u 0) := by
  by_cases h4 : w < 4
  · skip
    refine xb_ofi (cc := b_M_count) (maxL := 4) (ret := some .int) (by decide) rfl (Nat.le_of_ble_eq_true rfl) ?_
    intro p e s m below meth c A ls hsz hx hb hml hr hlocks hts hown hP hK hD hA hl
    have hl : lv_has ls 4 [(0, .ref (G 0)), (1, .int (nI w))] := hl
    have hS : va_S A s.heap s.heap [] := va_S.rf
    refine lv_aload_n hx hb d_M_count_0 rfl (lv_at hl 0 rfl) ?_
    refine lv_iload_n hx hb d_M_count_1 rfl (lv_at hl 1 rfl) ?_
    refine lv_if_lt (tgt := 11) hx hb d_M_count_2 (by decide) (fun c9 => absurd c9 (nI_pos (by omega))) (fun _ => ?_)
    refine lv_iload_n hx hb d_M_count_5 rfl (lv_at hl 1 rfl) ?_
    refine lv_bipush (v := 8) hx hb d_M_count_6 (by decide) ?_
    refine lv_icmp_le (tgt := 15) hx hb d_M_count_8 (by decide) (fun _ => ?_) (fun c9 => absurd (nI_le (a := w) (b := 8) (by omega) (by decide)) c9)
    refine lv_iconst (v := 0) hx hb d_M_count_15 (by decide) ?_
    refine lv_iconst (v := 1) hx hb d_M_count_16 (by decide) ?_
    refine xc_calli (n := 2) (C := "TagMemoryModel") hx hb hml hown hts (c_M_bad l D G kc _ _ _ _ (Or.inl rfl)) (tb_V wm_390 wm_392 ws_17 wm_2 wm_393) rfl rfl rfl (by decide +kernel) ⟨Nat.le_of_ble_eq_true rfl, Nat.le_of_ble_eq_true rfl⟩ hK hP hD hS hA rfl rfl rfl rfl hl.1 rfl (Nat.le_of_ble_eq_true rfl) d_M_count_17 ⟨Nat.zero_le _, Nat.zero_le _⟩ (fun r u1 H locs hw hP hD hS => ?_)
    obtain ⟨e1, e2⟩ := hw
    subst e1
    rw [e2] at hP hD; clear e2 u1
    have hP : va_P D vwCl (wM G kc (nTh u 0)) H := hP
    have hD : va_D A (wM G kc (nTh u 0)) := hD
    refine lv_if_eq (tgt := 25) hx hb d_M_count_20 (by decide) (fun _ => ?_) (fun c9 => absurd rfl c9)
    refine lv_iload_n hx hb d_M_count_25 rfl (lv_at hl 1 rfl) ?_
    refine lv_iconst (v := 4) hx hb d_M_count_26 (by decide) ?_
    refine lv_icmp_ge (tgt := 37) hx hb d_M_count_27 (by decide) (fun c9 => absurd c9 (nI_ge (a := w) (b := 4) (by omega) (by omega))) (fun _ => ?_)
    refine lv_aload_n hx hb d_M_count_30 rfl (lv_at hl 0 rfl) ?_
    refine xm_g8 hx hb hts hown hK hP d_M_count_31 ?_
    refine lv_iload_n hx hb d_M_count_34 rfl (lv_at hl 1 rfl) ?_
    refine xm_l8 hx hb hK hP w rfl (by omega) d_M_count_35 ?_
    exact xc_iret hx hb hr hlocks hP hK hD hS ⟨by unfold rmCount; rw [if_pos h4]; rfl, rfl⟩ d_M_count_36
  · obtain rfl | rfl | rfl | rfl | rfl : w = 4 ∨ w = 5 ∨ w = 6 ∨ w = 7 ∨ w = 8 := by omega
    · skip
      refine xb_ofi (cc := b_M_count) (maxL := 4) (ret := some .int) (by decide) rfl (Nat.le_of_ble_eq_true rfl) ?_
      intro p e s m below meth c A ls hsz hx hb hml hr hlocks hts hown hP hK hD hA hl
      have hl : lv_has ls 4 [(0, .ref (G 0)), (1, .int (nI 4))] := hl
      have hS : va_S A s.heap s.heap [] := va_S.rf
      refine lv_aload_n hx hb d_M_count_0 rfl (lv_at hl 0 rfl) ?_
      refine lv_iload_n hx hb d_M_count_1 rfl (lv_at hl 1 rfl) ?_
      refine lv_if_lt (tgt := 11) hx hb d_M_count_2 (by decide) (fun c9 => absurd c9 (nI_pos (by omega))) (fun _ => ?_)
      refine lv_iload_n hx hb d_M_count_5 rfl (lv_at hl 1 rfl) ?_
      refine lv_bipush (v := 8) hx hb d_M_count_6 (by decide) ?_
      refine lv_icmp_le (tgt := 15) hx hb d_M_count_8 (by decide) (fun _ => ?_) (fun c9 => absurd (nI_le (a := 4) (b := 8) (by omega) (by decide)) c9)
      refine lv_iconst (v := 0) hx hb d_M_count_15 (by decide) ?_
      refine lv_iconst (v := 1) hx hb d_M_count_16 (by decide) ?_
      refine xc_calli (n := 2) (C := "TagMemoryModel") hx hb hml hown hts (c_M_bad l D G kc _ _ _ _ (Or.inl rfl)) (tb_V wm_390 wm_392 ws_17 wm_2 wm_393) rfl rfl rfl (by decide +kernel) ⟨Nat.le_of_ble_eq_true rfl, Nat.le_of_ble_eq_true rfl⟩ hK hP hD hS hA rfl rfl rfl rfl hl.1 rfl (Nat.le_of_ble_eq_true rfl) d_M_count_17 ⟨Nat.zero_le _, Nat.zero_le _⟩ (fun r u1 H locs hw hP hD hS => ?_)
      obtain ⟨e1, e2⟩ := hw
      subst e1
      rw [e2] at hP hD; clear e2 u1
      have hP : va_P D vwCl (wM G kc (nTh u 0)) H := hP
      have hD : va_D A (wM G kc (nTh u 0)) := hD
      refine lv_if_eq (tgt := 25) hx hb d_M_count_20 (by decide) (fun _ => ?_) (fun c9 => absurd rfl c9)
      refine lv_iload_n hx hb d_M_count_25 rfl (lv_at hl 1 rfl) ?_
      refine lv_iconst (v := 4) hx hb d_M_count_26 (by decide) ?_
      refine lv_icmp_ge (tgt := 37) hx hb d_M_count_27 (by decide) (fun _ => ?_) (fun c9 => absurd (nI_le (a := 4) (b := 4) (by omega) (by omega)) c9)
      refine lv_iconst (v := 0) hx hb d_M_count_37 (by decide) ?_
      refine lv_istore_n (lv' := [(2, .int (nI 0)), (0, .ref _), (1, .int (nI 4))]) hx hb d_M_count_38 rfl hl (by decide) rfl (fun ls hl => ?_)
      refine lv_iload_n hx hb d_M_count_39 rfl (lv_at hl 2 rfl) ?_
      refine lv_iconst (v := 4) hx hb d_M_count_40 (by decide) ?_
      refine lv_icmp_ne (tgt := 71) hx hb d_M_count_41 (by decide) (fun c9 => absurd (show nI 4 = nI 4 from rfl) c9) (fun _ => ?_)
      refine lv_iconst (v := 0) hx hb d_M_count_44 (by decide) ?_
      refine lv_istore_n (lv' := [(3, .int (nI 0)), (2, .int (nI 0)), (0, .ref _), (1, .int (nI 4))]) hx hb d_M_count_45 rfl hl (by decide) rfl (fun ls hl => ?_)
      refine lp_M_count4 hx hb hml hown hts hK hA (nTh u 0) ?_ 1024 0 rfl _ _ _ _ rfl hP hD hS (lv_sub hl [0, 1, 3, 2] rfl)
      intro acc H locs ls he hP hD hS hl
      refine lv_iconst (v := 0) hx hb d_M_count_71 (by decide) ?_
      refine lv_istore_n (lv' := [(3, .int (nI 0)), (2, .int _), (1, .int (nI 4)), (0, .ref _)]) hx hb d_M_count_72 rfl hl (by decide) rfl (fun ls hl => ?_)
      refine lv_iload_n hx hb d_M_count_73 rfl (lv_at hl 2 rfl) ?_
      refine lv_iconst (v := 5) hx hb d_M_count_74 (by decide) ?_
      refine lv_icmp_ne (tgt := 102) hx hb d_M_count_75 (by decide) (fun _ => ?_) (fun c9 => absurd c9 (show ¬ nI 4 = nI 5 from by decide))
      refine lv_iconst (v := 0) hx hb d_M_count_102 (by decide) ?_
      refine lv_istore_n (lv' := [(3, .int (nI 0)), (2, .int _), (1, .int (nI 4)), (0, .ref _)]) hx hb d_M_count_103 rfl hl (by decide) rfl (fun ls hl => ?_)
      refine lv_iload_n hx hb d_M_count_104 rfl (lv_at hl 2 rfl) ?_
      refine lv_bipush (v := 6) hx hb d_M_count_105 (by decide) ?_
      refine lv_icmp_ne (tgt := 134) hx hb d_M_count_107 (by decide) (fun _ => ?_) (fun c9 => absurd c9 (show ¬ nI 4 = nI 6 from by decide))
      refine lv_iconst (v := 0) hx hb d_M_count_134 (by decide) ?_
      refine lv_istore_n (lv' := [(3, .int (nI 0)), (2, .int _), (1, .int (nI 4)), (0, .ref _)]) hx hb d_M_count_135 rfl hl (by decide) rfl (fun ls hl => ?_)
      refine lv_iload_n hx hb d_M_count_136 rfl (lv_at hl 2 rfl) ?_
      refine lv_bipush (v := 7) hx hb d_M_count_137 (by decide) ?_
      refine lv_icmp_ne (tgt := 165) hx hb d_M_count_139 (by decide) (fun _ => ?_) (fun c9 => absurd c9 (show ¬ nI 4 = nI 7 from by decide))
      refine lv_iconst (v := 0) hx hb d_M_count_165 (by decide) ?_
      refine lv_istore_n (lv' := [(3, .int (nI 0)), (2, .int _), (1, .int (nI 4)), (0, .ref _)]) hx hb d_M_count_166 rfl hl (by decide) rfl (fun ls hl => ?_)
      refine lv_iload_n hx hb d_M_count_167 rfl (lv_at hl 2 rfl) ?_
      refine lv_bipush (v := 8) hx hb d_M_count_168 (by decide) ?_
      refine lv_icmp_ne (tgt := 196) hx hb d_M_count_170 (by decide) (fun _ => ?_) (fun c9 => absurd c9 (show ¬ nI 4 = nI 8 from by decide))
      refine lv_iload_n hx hb d_M_count_196 rfl (lv_at hl 1 rfl) ?_
      exact xc_iret hx hb hr hlocks hP hK hD hS ⟨by unfold rmCount; rw [if_neg (by decide), if_pos rfl]; exact he, rfl⟩ d_M_count_197
    · skip
      refine xb_ofi (cc := b_M_count) (maxL := 4) (ret := some .int) (by decide) rfl (Nat.le_of_ble_eq_true rfl) ?_
      intro p e s m below meth c A ls hsz hx hb hml hr hlocks hts hown hP hK hD hA hl
      have hl : lv_has ls 4 [(0, .ref (G 0)), (1, .int (nI 5))] := hl
      have hS : va_S A s.heap s.heap [] := va_S.rf
      refine lv_aload_n hx hb d_M_count_0 rfl (lv_at hl 0 rfl) ?_
      refine lv_iload_n hx hb d_M_count_1 rfl (lv_at hl 1 rfl) ?_
      refine lv_if_lt (tgt := 11) hx hb d_M_count_2 (by decide) (fun c9 => absurd c9 (nI_pos (by omega))) (fun _ => ?_)
      refine lv_iload_n hx hb d_M_count_5 rfl (lv_at hl 1 rfl) ?_
      refine lv_bipush (v := 8) hx hb d_M_count_6 (by decide) ?_
      refine lv_icmp_le (tgt := 15) hx hb d_M_count_8 (by decide) (fun _ => ?_) (fun c9 => absurd (nI_le (a := 5) (b := 8) (by omega) (by decide)) c9)
      refine lv_iconst (v := 0) hx hb d_M_count_15 (by decide) ?_
      refine lv_iconst (v := 1) hx hb d_M_count_16 (by decide) ?_
      refine xc_calli (n := 2) (C := "TagMemoryModel") hx hb hml hown hts (c_M_bad l D G kc _ _ _ _ (Or.inl rfl)) (tb_V wm_390 wm_392 ws_17 wm_2 wm_393) rfl rfl rfl (by decide +kernel) ⟨Nat.le_of_ble_eq_true rfl, Nat.le_of_ble_eq_true rfl⟩ hK hP hD hS hA rfl rfl rfl rfl hl.1 rfl (Nat.le_of_ble_eq_true rfl) d_M_count_17 ⟨Nat.zero_le _, Nat.zero_le _⟩ (fun r u1 H locs hw hP hD hS => ?_)
      obtain ⟨e1, e2⟩ := hw
      subst e1
      rw [e2] at hP hD; clear e2 u1
      have hP : va_P D vwCl (wM G kc (nTh u 0)) H := hP
      have hD : va_D A (wM G kc (nTh u 0)) := hD
      refine lv_if_eq (tgt := 25) hx hb d_M_count_20 (by decide) (fun _ => ?_) (fun c9 => absurd rfl c9)
      refine lv_iload_n hx hb d_M_count_25 rfl (lv_at hl 1 rfl) ?_
      refine lv_iconst (v := 4) hx hb d_M_count_26 (by decide) ?_
      refine lv_icmp_ge (tgt := 37) hx hb d_M_count_27 (by decide) (fun _ => ?_) (fun c9 => absurd (nI_le (a := 4) (b := 5) (by omega) (by omega)) c9)
      refine lv_iconst (v := 0) hx hb d_M_count_37 (by decide) ?_
      refine lv_istore_n (lv' := [(2, .int (nI 0)), (0, .ref _), (1, .int (nI 5))]) hx hb d_M_count_38 rfl hl (by decide) rfl (fun ls hl => ?_)
      refine lv_iload_n hx hb d_M_count_39 rfl (lv_at hl 2 rfl) ?_
      refine lv_iconst (v := 4) hx hb d_M_count_40 (by decide) ?_
      refine lv_icmp_ne (tgt := 71) hx hb d_M_count_41 (by decide) (fun _ => ?_) (fun c9 => absurd c9 (show ¬ nI 5 = nI 4 from by decide))
      refine lv_iconst (v := 0) hx hb d_M_count_71 (by decide) ?_
      refine lv_istore_n (lv' := [(3, .int (nI 0)), (2, .int (nI 0)), (0, .ref _), (1, .int (nI 5))]) hx hb d_M_count_72 rfl hl (by decide) rfl (fun ls hl => ?_)
      refine lp_M_count5 hx hb hml hown hts hK hA (nTh u 0) (by exact hI) ?_ 16 0 rfl _ _ _ _ rfl hP hD hS (lv_sub hl [0, 1, 3, 2] rfl)
      intro acc H locs ls he hP hD hS hl
      refine lv_iconst (v := 0) hx hb d_M_count_102 (by decide) ?_
      refine lv_istore_n (lv' := [(3, .int (nI 0)), (2, .int _), (1, .int (nI 5)), (0, .ref _)]) hx hb d_M_count_103 rfl hl (by decide) rfl (fun ls hl => ?_)
      refine lv_iload_n hx hb d_M_count_104 rfl (lv_at hl 2 rfl) ?_
      refine lv_bipush (v := 6) hx hb d_M_count_105 (by decide) ?_
      refine lv_icmp_ne (tgt := 134) hx hb d_M_count_107 (by decide) (fun _ => ?_) (fun c9 => absurd c9 (show ¬ nI 5 = nI 6 from by decide))
      refine lv_iconst (v := 0) hx hb d_M_count_134 (by decide) ?_
      refine lv_istore_n (lv' := [(3, .int (nI 0)), (2, .int _), (1, .int (nI 5)), (0, .ref _)]) hx hb d_M_count_135 rfl hl (by decide) rfl (fun ls hl => ?_)
      refine lv_iload_n hx hb d_M_count_136 rfl (lv_at hl 2 rfl) ?_
      refine lv_bipush (v := 7) hx hb d_M_count_137 (by decide) ?_
      refine lv_icmp_ne (tgt := 165) hx hb d_M_count_139 (by decide) (fun _ => ?_) (fun c9 => absurd c9 (show ¬ nI 5 = nI 7 from by decide))
      refine lv_iconst (v := 0) hx hb d_M_count_165 (by decide) ?_
      refine lv_istore_n (lv' := [(3, .int (nI 0)), (2, .int _), (1, .int (nI 5)), (0, .ref _)]) hx hb d_M_count_166 rfl hl (by decide) rfl (fun ls hl => ?_)
      refine lv_iload_n hx hb d_M_count_167 rfl (lv_at hl 2 rfl) ?_
      refine lv_bipush (v := 8) hx hb d_M_count_168 (by decide) ?_
      refine lv_icmp_ne (tgt := 196) hx hb d_M_count_170 (by decide) (fun _ => ?_) (fun c9 => absurd c9 (show ¬ nI 5 = nI 8 from by decide))
      refine lv_iload_n hx hb d_M_count_196 rfl (lv_at hl 1 rfl) ?_
      exact xc_iret hx hb hr hlocks hP hK hD hS ⟨by unfold rmCount; rw [if_neg (by decide), if_neg (by decide), if_pos rfl]; exact he, rfl⟩ d_M_count_197
    · skip
      refine xb_ofi (cc := b_M_count) (maxL := 4) (ret := some .int) (by decide) rfl (Nat.le_of_ble_eq_true rfl) ?_
      intro p e s m below meth c A ls hsz hx hb hml hr hlocks hts hown hP hK hD hA hl
      have hl : lv_has ls 4 [(0, .ref (G 0)), (1, .int (nI 6))] := hl
      have hS : va_S A s.heap s.heap [] := va_S.rf
      refine lv_aload_n hx hb d_M_count_0 rfl (lv_at hl 0 rfl) ?_
      refine lv_iload_n hx hb d_M_count_1 rfl (lv_at hl 1 rfl) ?_
      refine lv_if_lt (tgt := 11) hx hb d_M_count_2 (by decide) (fun c9 => absurd c9 (nI_pos (by omega))) (fun _ => ?_)
      refine lv_iload_n hx hb d_M_count_5 rfl (lv_at hl 1 rfl) ?_
      refine lv_bipush (v := 8) hx hb d_M_count_6 (by decide) ?_
      refine lv_icmp_le (tgt := 15) hx hb d_M_count_8 (by decide) (fun _ => ?_) (fun c9 => absurd (nI_le (a := 6) (b := 8) (by omega) (by decide)) c9)
      refine lv_iconst (v := 0) hx hb d_M_count_15 (by decide) ?_
      refine lv_iconst (v := 1) hx hb d_M_count_16 (by decide) ?_
      refine xc_calli (n := 2) (C := "TagMemoryModel") hx hb hml hown hts (c_M_bad l D G kc _ _ _ _ (Or.inl rfl)) (tb_V wm_390 wm_392 ws_17 wm_2 wm_393) rfl rfl rfl (by decide +kernel) ⟨Nat.le_of_ble_eq_true rfl, Nat.le_of_ble_eq_true rfl⟩ hK hP hD hS hA rfl rfl rfl rfl hl.1 rfl (Nat.le_of_ble_eq_true rfl) d_M_count_17 ⟨Nat.zero_le _, Nat.zero_le _⟩ (fun r u1 H locs hw hP hD hS => ?_)
      obtain ⟨e1, e2⟩ := hw
      subst e1
      rw [e2] at hP hD; clear e2 u1
      have hP : va_P D vwCl (wM G kc (nTh u 0)) H := hP
      have hD : va_D A (wM G kc (nTh u 0)) := hD
      refine lv_if_eq (tgt := 25) hx hb d_M_count_20 (by decide) (fun _ => ?_) (fun c9 => absurd rfl c9)
      refine lv_iload_n hx hb d_M_count_25 rfl (lv_at hl 1 rfl) ?_
      refine lv_iconst (v := 4) hx hb d_M_count_26 (by decide) ?_
      refine lv_icmp_ge (tgt := 37) hx hb d_M_count_27 (by decide) (fun _ => ?_) (fun c9 => absurd (nI_le (a := 4) (b := 6) (by omega) (by omega)) c9)
      refine lv_iconst (v := 0) hx hb d_M_count_37 (by decide) ?_
      refine lv_istore_n (lv' := [(2, .int (nI 0)), (0, .ref _), (1, .int (nI 6))]) hx hb d_M_count_38 rfl hl (by decide) rfl (fun ls hl => ?_)
      refine lv_iload_n hx hb d_M_count_39 rfl (lv_at hl 2 rfl) ?_
      refine lv_iconst (v := 4) hx hb d_M_count_40 (by decide) ?_
      refine lv_icmp_ne (tgt := 71) hx hb d_M_count_41 (by decide) (fun _ => ?_) (fun c9 => absurd c9 (show ¬ nI 6 = nI 4 from by decide))
      refine lv_iconst (v := 0) hx hb d_M_count_71 (by decide) ?_
      refine lv_istore_n (lv' := [(3, .int (nI 0)), (2, .int (nI 0)), (0, .ref _), (1, .int (nI 6))]) hx hb d_M_count_72 rfl hl (by decide) rfl (fun ls hl => ?_)
      refine lv_iload_n hx hb d_M_count_73 rfl (lv_at hl 3 rfl) ?_
      refine lv_iconst (v := 5) hx hb d_M_count_74 (by decide) ?_
      refine lv_icmp_ne (tgt := 102) hx hb d_M_count_75 (by decide) (fun _ => ?_) (fun c9 => absurd c9 (show ¬ nI 6 = nI 5 from by decide))
      refine lv_iconst (v := 0) hx hb d_M_count_102 (by decide) ?_
      refine lv_istore_n (lv' := [(3, .int (nI 0)), (2, .int (nI 0)), (0, .ref _), (1, .int (nI 6))]) hx hb d_M_count_103 rfl hl (by decide) rfl (fun ls hl => ?_)
      refine lp_M_count6 hx hb hml hown hts hK hA (nTh u 0) ?_ 16 0 rfl _ _ _ _ rfl hP hD hS (lv_sub hl [0, 1, 3, 2] rfl)
      intro acc H locs ls he hP hD hS hl
      refine lv_iconst (v := 0) hx hb d_M_count_134 (by decide) ?_
      refine lv_istore_n (lv' := [(3, .int (nI 0)), (2, .int _), (1, .int (nI 6)), (0, .ref _)]) hx hb d_M_count_135 rfl hl (by decide) rfl (fun ls hl => ?_)
      refine lv_iload_n hx hb d_M_count_136 rfl (lv_at hl 2 rfl) ?_
      refine lv_bipush (v := 7) hx hb d_M_count_137 (by decide) ?_
      refine lv_icmp_ne (tgt := 165) hx hb d_M_count_139 (by decide) (fun _ => ?_) (fun c9 => absurd c9 (show ¬ nI 6 = nI 7 from by decide))
      refine lv_iconst (v := 0) hx hb d_M_count_165 (by decide) ?_
      refine lv_istore_n (lv' := [(3, .int (nI 0)), (2, .int _), (1, .int (nI 6)), (0, .ref _)]) hx hb d_M_count_166 rfl hl (by decide) rfl (fun ls hl => ?_)
      refine lv_iload_n hx hb d_M_count_167 rfl (lv_at hl 2 rfl) ?_
      refine lv_bipush (v := 8) hx hb d_M_count_168 (by decide) ?_
      refine lv_icmp_ne (tgt := 196) hx hb d_M_count_170 (by decide) (fun _ => ?_) (fun c9 => absurd c9 (show ¬ nI 6 = nI 8 from by decide))
      refine lv_iload_n hx hb d_M_count_196 rfl (lv_at hl 1 rfl) ?_
      exact xc_iret hx hb hr hlocks hP hK hD hS ⟨by unfold rmCount; rw [if_neg (by decide), if_neg (by decide), if_neg (by decide), if_pos rfl]; exact he, rfl⟩ d_M_count_197
    · skip
      refine xb_ofi (cc := b_M_count) (maxL := 4) (ret := some .int) (by decide) rfl (Nat.le_of_ble_eq_true rfl) ?_
      intro p e s m below meth c A ls hsz hx hb hml hr hlocks hts hown hP hK hD hA hl
      have hl : lv_has ls 4 [(0, .ref (G 0)), (1, .int (nI 7))] := hl
      have hS : va_S A s.heap s.heap [] := va_S.rf
      refine lv_aload_n hx hb d_M_count_0 rfl (lv_at hl 0 rfl) ?_
      refine lv_iload_n hx hb d_M_count_1 rfl (lv_at hl 1 rfl) ?_
      refine lv_if_lt (tgt := 11) hx hb d_M_count_2 (by decide) (fun c9 => absurd c9 (nI_pos (by omega))) (fun _ => ?_)
      refine lv_iload_n hx hb d_M_count_5 rfl (lv_at hl 1 rfl) ?_
      refine lv_bipush (v := 8) hx hb d_M_count_6 (by decide) ?_
      refine lv_icmp_le (tgt := 15) hx hb d_M_count_8 (by decide) (fun _ => ?_) (fun c9 => absurd (nI_le (a := 7) (b := 8) (by omega) (by decide)) c9)
      refine lv_iconst (v := 0) hx hb d_M_count_15 (by decide) ?_
      refine lv_iconst (v := 1) hx hb d_M_count_16 (by decide) ?_
      refine xc_calli (n := 2) (C := "TagMemoryModel") hx hb hml hown hts (c_M_bad l D G kc _ _ _ _ (Or.inl rfl)) (tb_V wm_390 wm_392 ws_17 wm_2 wm_393) rfl rfl rfl (by decide +kernel) ⟨Nat.le_of_ble_eq_true rfl, Nat.le_of_ble_eq_true rfl⟩ hK hP hD hS hA rfl rfl rfl rfl hl.1 rfl (Nat.le_of_ble_eq_true rfl) d_M_count_17 ⟨Nat.zero_le _, Nat.zero_le _⟩ (fun r u1 H locs hw hP hD hS => ?_)
      obtain ⟨e1, e2⟩ := hw
      subst e1
      rw [e2] at hP hD; clear e2 u1
      have hP : va_P D vwCl (wM G kc (nTh u 0)) H := hP
      have hD : va_D A (wM G kc (nTh u 0)) := hD
      refine lv_if_eq (tgt := 25) hx hb d_M_count_20 (by decide) (fun _ => ?_) (fun c9 => absurd rfl c9)
      refine lv_iload_n hx hb d_M_count_25 rfl (lv_at hl 1 rfl) ?_
      refine lv_iconst (v := 4) hx hb d_M_count_26 (by decide) ?_
      refine lv_icmp_ge (tgt := 37) hx hb d_M_count_27 (by decide) (fun _ => ?_) (fun c9 => absurd (nI_le (a := 4) (b := 7) (by omega) (by omega)) c9)
      refine lv_iconst (v := 0) hx hb d_M_count_37 (by decide) ?_
      refine lv_istore_n (lv' := [(2, .int (nI 0)), (0, .ref _), (1, .int (nI 7))]) hx hb d_M_count_38 rfl hl (by decide) rfl (fun ls hl => ?_)
      refine lv_iload_n hx hb d_M_count_39 rfl (lv_at hl 2 rfl) ?_
      refine lv_iconst (v := 4) hx hb d_M_count_40 (by decide) ?_
      refine lv_icmp_ne (tgt := 71) hx hb d_M_count_41 (by decide) (fun _ => ?_) (fun c9 => absurd c9 (show ¬ nI 7 = nI 4 from by decide))
      refine lv_iconst (v := 0) hx hb d_M_count_71 (by decide) ?_
      refine lv_istore_n (lv' := [(3, .int (nI 0)), (2, .int (nI 0)), (0, .ref _), (1, .int (nI 7))]) hx hb d_M_count_72 rfl hl (by decide) rfl (fun ls hl => ?_)
      refine lv_iload_n hx hb d_M_count_73 rfl (lv_at hl 3 rfl) ?_
      refine lv_iconst (v := 5) hx hb d_M_count_74 (by decide) ?_
      refine lv_icmp_ne (tgt := 102) hx hb d_M_count_75 (by decide) (fun _ => ?_) (fun c9 => absurd c9 (show ¬ nI 7 = nI 5 from by decide))
      refine lv_iconst (v := 0) hx hb d_M_count_102 (by decide) ?_
      refine lv_istore_n (lv' := [(3, .int (nI 0)), (2, .int (nI 0)), (0, .ref _), (1, .int (nI 7))]) hx hb d_M_count_103 rfl hl (by decide) rfl (fun ls hl => ?_)
      refine lv_iload_n hx hb d_M_count_104 rfl (lv_at hl 3 rfl) ?_
      refine lv_bipush (v := 6) hx hb d_M_count_105 (by decide) ?_
      refine lv_icmp_ne (tgt := 134) hx hb d_M_count_107 (by decide) (fun _ => ?_) (fun c9 => absurd c9 (show ¬ nI 7 = nI 6 from by decide))
      refine lv_iconst (v := 0) hx hb d_M_count_134 (by decide) ?_
      refine lv_istore_n (lv' := [(3, .int (nI 0)), (2, .int (nI 0)), (0, .ref _), (1, .int (nI 7))]) hx hb d_M_count_135 rfl hl (by decide) rfl (fun ls hl => ?_)
      refine lp_M_count7 hx hb hml hown hts hK hA (nTh u 0) (by exact hI) ?_ 4 0 rfl _ _ _ _ rfl hP hD hS (lv_sub hl [0, 1, 3, 2] rfl)
      intro acc H locs ls he hP hD hS hl
      refine lv_iconst (v := 0) hx hb d_M_count_165 (by decide) ?_
      refine lv_istore_n (lv' := [(3, .int (nI 0)), (2, .int _), (1, .int (nI 7)), (0, .ref _)]) hx hb d_M_count_166 rfl hl (by decide) rfl (fun ls hl => ?_)
      refine lv_iload_n hx hb d_M_count_167 rfl (lv_at hl 2 rfl) ?_
      refine lv_bipush (v := 8) hx hb d_M_count_168 (by decide) ?_
      refine lv_icmp_ne (tgt := 196) hx hb d_M_count_170 (by decide) (fun _ => ?_) (fun c9 => absurd c9 (show ¬ nI 7 = nI 8 from by decide))
      refine lv_iload_n hx hb d_M_count_196 rfl (lv_at hl 1 rfl) ?_
      exact xc_iret hx hb hr hlocks hP hK hD hS ⟨by unfold rmCount; rw [if_neg (by decide), if_neg (by decide), if_neg (by decide), if_neg (by decide), if_pos rfl]; exact he, rfl⟩ d_M_count_197
    · skip
      refine xb_ofi (cc := b_M_count) (maxL := 4) (ret := some .int) (by decide) rfl (Nat.le_of_ble_eq_true rfl) ?_
      intro p e s m below meth c A ls hsz hx hb hml hr hlocks hts hown hP hK hD hA hl
      have hl : lv_has ls 4 [(0, .ref (G 0)), (1, .int (nI 8))] := hl
      have hS : va_S A s.heap s.heap [] := va_S.rf
      refine lv_aload_n hx hb d_M_count_0 rfl (lv_at hl 0 rfl) ?_
      refine lv_iload_n hx hb d_M_count_1 rfl (lv_at hl 1 rfl) ?_
      refine lv_if_lt (tgt := 11) hx hb d_M_count_2 (by decide) (fun c9 => absurd c9 (nI_pos (by omega))) (fun _ => ?_)
      refine lv_iload_n hx hb d_M_count_5 rfl (lv_at hl 1 rfl) ?_
      refine lv_bipush (v := 8) hx hb d_M_count_6 (by decide) ?_
      refine lv_icmp_le (tgt := 15) hx hb d_M_count_8 (by decide) (fun _ => ?_) (fun c9 => absurd (nI_le (a := 8) (b := 8) (by omega) (by decide)) c9)
      refine lv_iconst (v := 0) hx hb d_M_count_15 (by decide) ?_
      refine lv_iconst (v := 1) hx hb d_M_count_16 (by decide) ?_
      refine xc_calli (n := 2) (C := "TagMemoryModel") hx hb hml hown hts (c_M_bad l D G kc _ _ _ _ (Or.inl rfl)) (tb_V wm_390 wm_392 ws_17 wm_2 wm_393) rfl rfl rfl (by decide +kernel) ⟨Nat.le_of_ble_eq_true rfl, Nat.le_of_ble_eq_true rfl⟩ hK hP hD hS hA rfl rfl rfl rfl hl.1 rfl (Nat.le_of_ble_eq_true rfl) d_M_count_17 ⟨Nat.zero_le _, Nat.zero_le _⟩ (fun r u1 H locs hw hP hD hS => ?_)
      obtain ⟨e1, e2⟩ := hw
      subst e1
      rw [e2] at hP hD; clear e2 u1
      have hP : va_P D vwCl (wM G kc (nTh u 0)) H := hP
      have hD : va_D A (wM G kc (nTh u 0)) := hD
      refine lv_if_eq (tgt := 25) hx hb d_M_count_20 (by decide) (fun _ => ?_) (fun c9 => absurd rfl c9)
      refine lv_iload_n hx hb d_M_count_25 rfl (lv_at hl 1 rfl) ?_
      refine lv_iconst (v := 4) hx hb d_M_count_26 (by decide) ?_
      refine lv_icmp_ge (tgt := 37) hx hb d_M_count_27 (by decide) (fun _ => ?_) (fun c9 => absurd (nI_le (a := 4) (b := 8) (by omega) (by omega)) c9)
      refine lv_iconst (v := 0) hx hb d_M_count_37 (by decide) ?_
      refine lv_istore_n (lv' := [(2, .int (nI 0)), (0, .ref _), (1, .int (nI 8))]) hx hb d_M_count_38 rfl hl (by decide) rfl (fun ls hl => ?_)
      refine lv_iload_n hx hb d_M_count_39 rfl (lv_at hl 2 rfl) ?_
      refine lv_iconst (v := 4) hx hb d_M_count_40 (by decide) ?_
      refine lv_icmp_ne (tgt := 71) hx hb d_M_count_41 (by decide) (fun _ => ?_) (fun c9 => absurd c9 (show ¬ nI 8 = nI 4 from by decide))
      refine lv_iconst (v := 0) hx hb d_M_count_71 (by decide) ?_
      refine lv_istore_n (lv' := [(3, .int (nI 0)), (2, .int (nI 0)), (0, .ref _), (1, .int (nI 8))]) hx hb d_M_count_72 rfl hl (by decide) rfl (fun ls hl => ?_)
      refine lv_iload_n hx hb d_M_count_73 rfl (lv_at hl 3 rfl) ?_
      refine lv_iconst (v := 5) hx hb d_M_count_74 (by decide) ?_
      refine lv_icmp_ne (tgt := 102) hx hb d_M_count_75 (by decide) (fun _ => ?_) (fun c9 => absurd c9 (show ¬ nI 8 = nI 5 from by decide))
      refine lv_iconst (v := 0) hx hb d_M_count_102 (by decide) ?_
      refine lv_istore_n (lv' := [(3, .int (nI 0)), (2, .int (nI 0)), (0, .ref _), (1, .int (nI 8))]) hx hb d_M_count_103 rfl hl (by decide) rfl (fun ls hl => ?_)
      refine lv_iload_n hx hb d_M_count_104 rfl (lv_at hl 3 rfl) ?_
      refine lv_bipush (v := 6) hx hb d_M_count_105 (by decide) ?_
      refine lv_icmp_ne (tgt := 134) hx hb d_M_count_107 (by decide) (fun _ => ?_) (fun c9 => absurd c9 (show ¬ nI 8 = nI 6 from by decide))
      refine lv_iconst (v := 0) hx hb d_M_count_134 (by decide) ?_
      refine lv_istore_n (lv' := [(3, .int (nI 0)), (2, .int (nI 0)), (0, .ref _), (1, .int (nI 8))]) hx hb d_M_count_135 rfl hl (by decide) rfl (fun ls hl => ?_)
      refine lv_iload_n hx hb d_M_count_136 rfl (lv_at hl 3 rfl) ?_
      refine lv_bipush (v := 7) hx hb d_M_count_137 (by decide) ?_
      refine lv_icmp_ne (tgt := 165) hx hb d_M_count_139 (by decide) (fun _ => ?_) (fun c9 => absurd c9 (show ¬ nI 8 = nI 7 from by decide))
      refine lv_iconst (v := 0) hx hb d_M_count_165 (by decide) ?_
      refine lv_istore_n (lv' := [(3, .int (nI 0)), (2, .int (nI 0)), (0, .ref _), (1, .int (nI 8))]) hx hb d_M_count_166 rfl hl (by decide) rfl (fun ls hl => ?_)
      refine lp_M_count8 hx hb hml hown hts hK hA (nTh u 0) ?_ 4 0 rfl _ _ _ _ rfl hP hD hS (lv_sub hl [0, 1, 3, 2] rfl)
      intro acc H locs ls he hP hD hS hl
      refine lv_iload_n hx hb d_M_count_196 rfl (lv_at hl 1 rfl) ?_
      exact xc_iret hx hb hr hlocks hP hK hD hS ⟨by unfold rmCount; rw [if_neg (by decide), if_neg (by decide), if_neg (by decide), if_neg (by decide), if_neg (by decide)]; exact he, rfl⟩ d_M_count_197
set_option maxHeartbeats 4000000 in
set_option maxRecDepth 100000 in
theorem lp_M_flush1 {p : Program} {l : Launch} {e : Env} {s : State} {m : MethodId} {args : Array Value} {below : List Frame} {meth : Method} {c : Code} {Q : State → Prop} {D : va_G} {A : Nat → Prop} {G : Nat → Nat} {kc : Nat → ClassId} {c1 : Cond} (hx : p.tables.exec = Jvm.exec) (hb : c.code = b_M_flush) (hml : c.maxLocals = 3) (hown : s.vm.findClass "TagMemoryModel" = some m.cls) (hts : ∀ w ∈ c1 :: TB, w.before args s = true) (hK : va_K D vwCl (tyMs kc) s) (hA : ∀ q, s.heap.size ≤ q → A q) (u : TM) (kk : ∀ (acc : Int32) (u1 : TM) (H : Heap) (locs : List Loc) (ls : Array Slot), (u1, acc) = gFlL 16 0 u 0 → va_P D vwCl (wM G kc u1) H → va_D A (wM G kc u1) → va_S A s.heap H locs → lv_has ls 3 [(2, .int (nI 16)), (1, .int acc), (0, .ref (G 0))] → W p l e ({ frames := 3, cells := 0, slots := 0, locals := 67 }) s m args below meth c H locs 0 0 Q (F0 m 32 ls [])) : ∀ (d i : Nat), i + d = 16 → ∀ (acc : Int32) (u1 : TM) (H : Heap) (locs : List Loc) (ls : Array Slot), gFlL d i u1 acc = gFlL 16 0 u 0 → mI u1 → va_P D vwCl (wM G kc u1) H → va_D A (wM G kc u1) → va_S A s.heap H locs → lv_has ls 3 [(2, .int (nI i)), (1, .int acc), (0, .ref (G 0))] → W p l e ({ frames := 3, cells := 0, slots := 0, locals := 67 }) s m args below meth c H locs 0 0 Q (F0 m 9 ls []) := by
  intro d
  induction d with
  | zero =>
    intro i hi acc u1 H locs ls hu hI hP hD hS hl
    obtain rfl : i = 16 := by omega
    refine lv_iload_n hx hb d_M_flush_9 rfl (lv_at hl 0 rfl) ?_
    refine lv_bipush (v := 16) hx hb d_M_flush_10 (by decide) ?_
    refine lv_icmp_ge (tgt := 32) hx hb d_M_flush_12 (by decide) (fun _ => ?_) (fun c9 => absurd (nI_le (a := 16) (b := 16) (by omega) (by omega)) c9)
    exact kk acc u1 H locs ls hu hP hD hS hl
  | succ d ih =>
    intro i hi acc u1 H locs ls hu hI hP hD hS hl
    have hi16 : i < 16 := by omega
    by_cases h2 : rmLineGo u1 i = 0
    · skip
      refine lv_iload_n hx hb d_M_flush_9 rfl (lv_at hl 0 rfl) ?_
      refine lv_bipush (v := 16) hx hb d_M_flush_10 (by decide) ?_
      refine lv_icmp_ge (tgt := 32) hx hb d_M_flush_12 (by decide) (fun c9 => absurd c9 (nI_ge (a := i) (b := 16) (by omega) (by omega))) (fun _ => ?_)
      refine lv_aload_n hx hb d_M_flush_15 rfl (lv_at hl 2 rfl) ?_
      refine lv_iload_n hx hb d_M_flush_16 rfl (lv_at hl 0 rfl) ?_
      refine xc_calli (n := 1) (C := "TagMemoryModel") hx hb hml hown hts (c_M_lineGoes l D G kc _ _ i (by omega) (by exact hI)) (tb_V wm_398 wm_400 ws_19 wm_2 wm_401) rfl rfl rfl (by decide +kernel) ⟨Nat.le_of_ble_eq_true rfl, Nat.le_of_ble_eq_true rfl⟩ hK hP hD hS hA rfl rfl rfl rfl hl.1 rfl (Nat.le_of_ble_eq_true rfl) d_M_flush_17 ⟨Nat.zero_le _, Nat.zero_le _⟩ (fun r u1 H locs hw hP hD hS => ?_)
      obtain ⟨e1, e2⟩ := hw
      subst e1
      rw [e2] at hP hD; clear e2 u1
      refine lv_if_eq (tgt := 26) hx hb d_M_flush_20 (by decide) (fun _ => ?_) (fun c9 => absurd h2 c9)
      refine lv_iinc (v := nI (i + 1)) (lv' := [(2, .int (nI (i + 1))), (1, .int _), (0, .ref _)]) hx hb d_M_flush_26 hl (k := 0) rfl (nI_add _ _) (by decide) rfl (fun ls hl => ?_)
      refine lv_goto (tgt := 9) hx hb d_M_flush_29 (by decide) ?_
      exact ih (i + 1) (by omega) _ _ _ _ _ (by rw [← hu]; show _ = gFlL d (i + 1) (gLineGo u1 i) (acc + rmLineGo u1 i); rw [h2, Int32.add_zero]) (mI_lineGo hI hi16) hP hD hS (lv_sub hl [0, 1, 2] rfl)
    · have h3 : rmLineGo u1 i = 1 := (rmLineGo_01 u1 i).resolve_left h2
      refine lv_iload_n hx hb d_M_flush_9 rfl (lv_at hl 0 rfl) ?_
      refine lv_bipush (v := 16) hx hb d_M_flush_10 (by decide) ?_
      refine lv_icmp_ge (tgt := 32) hx hb d_M_flush_12 (by decide) (fun c9 => absurd c9 (nI_ge (a := i) (b := 16) (by omega) (by omega))) (fun _ => ?_)
      refine lv_aload_n hx hb d_M_flush_15 rfl (lv_at hl 2 rfl) ?_
      refine lv_iload_n hx hb d_M_flush_16 rfl (lv_at hl 0 rfl) ?_
      refine xc_calli (n := 1) (C := "TagMemoryModel") hx hb hml hown hts (c_M_lineGoes l D G kc _ _ i (by omega) (by exact hI)) (tb_V wm_398 wm_400 ws_19 wm_2 wm_401) rfl rfl rfl (by decide +kernel) ⟨Nat.le_of_ble_eq_true rfl, Nat.le_of_ble_eq_true rfl⟩ hK hP hD hS hA rfl rfl rfl rfl hl.1 rfl (Nat.le_of_ble_eq_true rfl) d_M_flush_17 ⟨Nat.zero_le _, Nat.zero_le _⟩ (fun r u1 H locs hw hP hD hS => ?_)
      obtain ⟨e1, e2⟩ := hw
      subst e1
      rw [e2] at hP hD; clear e2 u1
      refine lv_if_eq (tgt := 26) hx hb d_M_flush_20 (by decide) (fun c9 => absurd c9 h2) (fun _ => ?_)
      refine lv_iinc (lv' := [(1, .int _), (2, .int (nI i)), (0, .ref _)]) hx hb d_M_flush_23 hl (k := 1) rfl rfl (by decide) rfl (fun ls hl => ?_)
      refine lv_iinc (v := nI (i + 1)) (lv' := [(2, .int (nI (i + 1))), (1, .int _), (0, .ref _)]) hx hb d_M_flush_26 hl (k := 1) rfl (nI_add _ _) (by decide) rfl (fun ls hl => ?_)
      refine lv_goto (tgt := 9) hx hb d_M_flush_29 (by decide) ?_
      exact ih (i + 1) (by omega) _ _ _ _ _ (by rw [← hu]; show _ = gFlL d (i + 1) (gLineGo u1 i) (acc + rmLineGo u1 i); rw [h3]; rfl) (mI_lineGo hI hi16) hP hD hS (lv_sub hl [0, 1, 2] rfl)
set_option maxHeartbeats 4000000 in
set_option maxRecDepth 100000 in
theorem lp_M_flush2 {p : Program} {l : Launch} {e : Env} {s : State} {m : MethodId} {args : Array Value} {below : List Frame} {meth : Method} {c : Code} {Q : State → Prop} {D : va_G} {A : Nat → Prop} {G : Nat → Nat} {kc : Nat → ClassId} {c1 : Cond} (hx : p.tables.exec = Jvm.exec) (hb : c.code = b_M_flush) (hml : c.maxLocals = 3) (hown : s.vm.findClass "TagMemoryModel" = some m.cls) (hts : ∀ w ∈ c1 :: TB, w.before args s = true) (hK : va_K D vwCl (tyMs kc) s) (hA : ∀ q, s.heap.size ≤ q → A q) (u : TM) (acc : Int32) (kk : ∀ (u1 : TM) (H : Heap) (locs : List Loc) (ls : Array Slot), u1 = gFlR 4 0 u → va_P D vwCl (wM G kc u1) H → va_D A (wM G kc u1) → va_S A s.heap H locs → lv_has ls 3 [(2, .int (nI 4)), (1, .int acc), (0, .ref (G 0))] → W p l e ({ frames := 3, cells := 0, slots := 0, locals := 67 }) s m args below meth c H locs 0 0 Q (F0 m 50 ls [])) : ∀ (d i : Nat), i + d = 4 → ∀ (u1 : TM) (H : Heap) (locs : List Loc) (ls : Array Slot), gFlR d i u1 = gFlR 4 0 u → mI u1 → va_P D vwCl (wM G kc u1) H → va_D A (wM G kc u1) → va_S A s.heap H locs → lv_has ls 3 [(2, .int (nI i)), (1, .int acc), (0, .ref (G 0))] → W p l e ({ frames := 3, cells := 0, slots := 0, locals := 67 }) s m args below meth c H locs 0 0 Q (F0 m 34 ls []) := by
  intro d
  induction d with
  | zero =>
    intro i hi u1 H locs ls hu hI hP hD hS hl
    obtain rfl : i = 4 := by omega
    refine lv_iload_n hx hb d_M_flush_34 rfl (lv_at hl 0 rfl) ?_
    refine lv_iconst (v := 4) hx hb d_M_flush_35 (by decide) ?_
    refine lv_icmp_ge (tgt := 50) hx hb d_M_flush_36 (by decide) (fun _ => ?_) (fun c9 => absurd (nI_le (a := 4) (b := 4) (by omega) (by omega)) c9)
    exact kk u1 H locs ls hu hP hD hS hl
  | succ d ih =>
    intro i hi u1 H locs ls hu hI hP hD hS hl
    have hi4 : i < 4 := by omega
    refine lv_iload_n hx hb d_M_flush_34 rfl (lv_at hl 0 rfl) ?_
    refine lv_iconst (v := 4) hx hb d_M_flush_35 (by decide) ?_
    refine lv_icmp_ge (tgt := 50) hx hb d_M_flush_36 (by decide) (fun c9 => absurd c9 (nI_ge (a := i) (b := 4) (by omega) (by omega))) (fun _ => ?_)
    refine lv_aload_n hx hb d_M_flush_39 rfl (lv_at hl 2 rfl) ?_
    refine lv_iload_n hx hb d_M_flush_40 rfl (lv_at hl 0 rfl) ?_
    refine xc_callv (n := 1) (C := "TagMemoryModel") hx hb hml hown hts (c_M_rowGoes l D G kc _ _ i (by omega) (by exact hI)) (tb_V wm_406 wm_408 ws_21 wm_2 wm_409) rfl rfl rfl (by decide +kernel) ⟨Nat.le_of_ble_eq_true rfl, Nat.le_of_ble_eq_true rfl⟩ hK hP hD hS hA rfl rfl rfl rfl hl.1 rfl (Nat.le_of_ble_eq_true rfl) d_M_flush_41 ⟨Nat.zero_le _, Nat.zero_le _⟩ (fun u1 H locs hw hP hD hS => ?_)
    rw [hw] at hP hD; clear hw u1
    refine lv_iinc (v := nI (i + 1)) (lv' := [(2, .int (nI (i + 1))), (1, .int _), (0, .ref _)]) hx hb d_M_flush_44 hl (k := 0) rfl (nI_add _ _) (by decide) rfl (fun ls hl => ?_)
    refine lv_goto (tgt := 34) hx hb d_M_flush_47 (by decide) ?_
    exact ih (i + 1) (by omega) _ _ _ _ hu (mI_rowGo hI) hP hD hS (lv_sub hl [0, 1, 2] rfl)
set_option maxHeartbeats 4000000 in
set_option maxRecDepth 100000 in
theorem c_M_flush (l : Launch) (D : va_G) (G : Nat → Nat) (kc : Nat → ClassId) (sz : Nat) (u : TM) (hI : mI u) : XMi l y_M_flush k_M_flush { frames := 3, cells := 0, slots := 0, locals := 67 } D vwCl (wM G kc) (tyMs kc) u sz [.ref (G 0)] (fun r u1 => r = rmFlush u ∧ u1 = gFlush u) := by
  refine xb_ofi (cc := b_M_flush) (maxL := 3) (ret := some .int) (by decide) rfl (Nat.le_of_ble_eq_true rfl) ?_
  intro p e s m below meth c A ls hsz hx hb hml hr hlocks hts hown hP hK hD hA hl
  have hl : lv_has ls 3 [(0, .ref (G 0))] := hl
  have hS : va_S A s.heap s.heap [] := va_S.rf
  refine lv_aload_n hx hb d_M_flush_0 rfl (lv_at hl 0 rfl) ?_
  refine lv_iconst (v := 0) hx hb d_M_flush_1 (by decide) ?_
  refine xm_p9 hx hb hts hown hK hP hD hS d_M_flush_2 (fun H locs hP hD hS => ?_)
  refine lv_iconst (v := 0) hx hb d_M_flush_5 (by decide) ?_
  refine lv_istore_n (lv' := [(1, .int (nI 0)), (0, .ref _)]) hx hb d_M_flush_6 rfl hl (by decide) rfl (fun ls hl => ?_)
  refine lv_iconst (v := 0) hx hb d_M_flush_7 (by decide) ?_
  refine lv_istore_n (lv' := [(2, .int (nI 0)), (1, .int (nI 0)), (0, .ref _)]) hx hb d_M_flush_8 rfl hl (by decide) rfl (fun ls hl => ?_)
  refine lp_M_flush1 hx hb hml hown hts hK hA (nTh u 0) ?_ 16 0 rfl _ _ _ _ _ rfl hI hP hD hS (lv_sub hl [0, 1, 2] rfl)
  intro acc u1 H locs ls he hP hD hS hl
  have hI1 : mI u1 := by have := mI_flL 16 0 (nTh u 0) 0 (by omega) hI; rw [← he] at this; exact this
  refine lv_iconst (v := 0) hx hb d_M_flush_32 (by decide) ?_
  refine lv_istore_n (lv' := [(2, .int (nI 0)), (1, .int _), (0, .ref _)]) hx hb d_M_flush_33 rfl hl (by decide) rfl (fun ls hl => ?_)
  refine lp_M_flush2 hx hb hml hown hts hK hA u1 acc ?_ 4 0 rfl _ _ _ _ rfl hI1 hP hD hS (lv_sub hl [0, 1, 2] rfl)
  intro u2 H locs ls he2 hP hD hS hl
  refine lv_iload_n hx hb d_M_flush_50 rfl (lv_at hl 1 rfl) ?_
  exact xc_iret hx hb hr hlocks hP hK hD hS ⟨by show acc = (gFlL 16 0 (nTh u 0) 0).2; rw [← he], by rw [he2]; show gFlR 4 0 u1 = gFlR 4 0 (gFlL 16 0 (nTh u 0) 0).1; rw [← he]⟩ d_M_flush_51
