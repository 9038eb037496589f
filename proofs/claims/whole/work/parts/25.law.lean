theorem wl_foldP {D : va_G} {H : Heap} {GT GM : Nat → Nat} {kT kM : Nat → ClassId} {o : Nat} {ko : ClassId} {U : TC} {f : Nat → Int64} {v : TM} (h : va_P D vwCl (wT GT kT U ++ ([(o, .inl (ko, 1, .inr (.inl f)))] ++ wM GM kM v)) H) : va_P D vwCl (wL GT GM kT kM o ko U f v) H := by rw [← List.append_assoc] at h; exact h
theorem wl_foldD {A : Nat → Prop} {GT GM : Nat → Nat} {kT kM : Nat → ClassId} {o : Nat} {ko : ClassId} {U : TC} {f : Nat → Int64} {v : TM} (h : va_D A (wT GT kT U ++ ([(o, .inl (ko, 1, .inr (.inl f)))] ++ wM GM kM v))) : va_D A (wL GT GM kT kM o ko U f v) := by rw [← List.append_assoc] at h; exact h
theorem wl_unP {D : va_G} {H : Heap} {GT GM : Nat → Nat} {kT kM : Nat → ClassId} {o : Nat} {ko : ClassId} {U : TC} {f : Nat → Int64} {v : TM} (h : va_P D vwCl (wL GT GM kT kM o ko U f v) H) : va_P D vwCl (wT GT kT U ++ ([(o, .inl (ko, 1, .inr (.inl f)))] ++ wM GM kM v)) H := by rw [← List.append_assoc]; exact h
theorem wl_unD {A : Nat → Prop} {GT GM : Nat → Nat} {kT kM : Nat → ClassId} {o : Nat} {ko : ClassId} {U : TC} {f : Nat → Int64} {v : TM} (h : va_D A (wL GT GM kT kM o ko U f v)) : va_D A (wT GT kT U ++ ([(o, .inl (ko, 1, .inr (.inl f)))] ++ wM GM kM v)) := by rw [← List.append_assoc]; exact h
theorem wl_unK {D : va_G} {kT kM : Nat → ClassId} {ko : ClassId} {s : State} (h : va_K D vwCl (tyL kT kM ko) s) : va_K D vwCl (tyTs kT ++ ([(ko, .long)] ++ tyMs kM)) s := by rw [← List.append_assoc]; exact h
theorem cmp_u {U : TC} {f : Nat → Int64} {x y : Int64} (h : x = y) : lg_cmp ((U, vp_updL f 0 x).2 0) y = 0 := cmp_eq (by show vp_updL f 0 x 0 = y; rw [upd0, h])
set_option maxHeartbeats 4000000 in
set_option maxRecDepth 100000 in
theorem lc_read {p : Program} {l : Launch} {e : Env} {s : State} {m : MethodId} {below : List Frame} {meth : Method} {c : Code} {Q : State → Prop} {D : va_G} {GT GM : Nat → Nat} {kT kM : Nat → ClassId} {o : Nat} {ko : ClassId} {b L : Nat} {xs : Nat → Int32} (hl9 : l.stackTraces = false) (hLX : LX s) (hL : L ≤ 2560) (C0 : lw_At p s m meth c b L xs) (hK : va_K D vwCl (tyL kT kM ko) s) (u : TC) (v : TM) (f : Nat → Int64) (hR : REL u v) (j : Nat) (hj : 5 * j + 5 ≤ L) {H : Heap} {locs : List Loc} {ls : Array Slot} (hP : va_P D vwCl (wL GT GM kT kM o ko u f v) H) (hD : va_D (fun q : Nat => s.heap.size ≤ q) (wL GT GM kT kM o ko u f v)) (hS : va_S (fun q : Nat => s.heap.size ≤ q) s.heap H locs) (hl : lv_has ls 7 [(4, .int (nI (5 * j))), (3, .ref o), (2, .ref (GM 0)), (1, .ref (GT 0)), (0, .ref b)]) (kk : ∀ (u : TC) (v : TM) (f : Nat → Int64) (H : Heap) (locs : List Loc) (ls : Array Slot), REL u v → va_P D vwCl (wL GT GM kT kM o ko u f v) H → va_D (fun q : Nat => s.heap.size ≤ q) (wL GT GM kT kM o ko u f v) → va_S (fun q : Nat => s.heap.size ≤ q) s.heap H locs → lv_has ls 7 [(4, .int (nI (5 * j))), (3, .ref o), (2, .ref (GM 0)), (1, .ref (GT 0)), (0, .ref b)] → W p l e room_1 s m #[Value.ref b] below meth c H locs (20 + j + 1) (7455 + 6 * j + 6) Q (F0 m 792 ls [])) : W p l e room_1 s m #[Value.ref b] below meth c H locs (20 + j) (7455 + 6 * j) Q (F0 m 100 ls []) := by
  obtain ⟨hx, hb, hr, hml, hown, hts, hX, hbl, hlocks, hgv⟩ := C0
  have hA : ∀ q : Nat, s.heap.size ≤ q → (fun q : Nat => s.heap.size ≤ q) q := fun _ h => h
  have hbA : ¬ (fun q : Nat => s.heap.size ≤ q) b := Nat.not_le.mpr hbl
  have hj5 : j < 512 := by omega
  rcases xbad_or (N := 2048) (by decide) (xs (5 * j + 1)) with hbad | ⟨a, ha, h1⟩
  · skip
    refine lv_aload_n hx hb d_L_law_100 rfl (lv_at hl 3 rfl) ?_
    refine lv_aload_n hx hb d_L_law_101 rfl (lv_at hl 4 rfl) ?_
    refine lv_iload hx hb d_L_law_102 (lv_at hl 0 rfl) ?_
    refine lv_iconst (v := 1) hx hb d_L_law_104 (by decide) ?_
    refine xa_iadd hx hb (5 * j) 1 rfl rfl d_L_law_105 ?_
    refine xa_sld hx hb hX hbl hbA hS hL ((5 * j) + 1) rfl (by omega) d_L_law_106 ?_
    refine lv_aload_n hx hb d_L_law_107 rfl (lv_at hl 1 rfl) ?_
    refine yc_calls (n := 3) (own := "TagMemoryLaw") (wf := wX GT kT o ko) (tys := tyX kT ko) (wr := wM GM kM v) (tr := tyMs kM) hx hb hml hown hts (x_L_read l hl9 D GT kT o ko _ u f (xs (5 * j + 1)) hbad) (tb_SL wm_119 wm_120 wm_0 wm_121) rfl rfl rfl (by decide +kernel) ⟨by show (8 : Nat) + 1 ≤ 11; omega, by show 8 + (4 + 11) + (160 : Nat) ≤ 400; omega⟩ pxe_blind (fun U hU hW => hLX.pI hLX.2.2.2.2.2.2.1 hS hU hW) hK hP hD hS hA rfl hl.1 rfl (Nat.le_of_ble_eq_true rfl) d_L_law_108 ⟨by show _ ≤ 1052; omega, by show _ ≤ 15695; omega⟩ (fun r z H locs hw hP hD hS => ?_)
    obtain ⟨e1, e2⟩ := hw
    subst e1
    rw [e2] at hP hD; clear e2 z
    refine lv_istore (lv' := [(5, .int _), (4, .int (nI (5 * j))), (3, .ref _), (2, .ref _), (1, .ref _), (0, .ref _)]) hx hb d_L_law_111 hl (by decide) rfl (fun ls hl => ?_)
    refine lv_aload_n hx hb d_L_law_113 rfl (lv_at hl 3 rfl) ?_
    refine lv_aload_n hx hb d_L_law_114 rfl (lv_at hl 5 rfl) ?_
    refine lv_iload hx hb d_L_law_115 (lv_at hl 1 rfl) ?_
    refine lv_iconst (v := 1) hx hb d_L_law_117 (by decide) ?_
    refine xa_iadd hx hb (5 * j) 1 rfl rfl d_L_law_118 ?_
    refine xa_sld hx hb hX hbl hbA hS hL ((5 * j) + 1) rfl (by omega) d_L_law_119 ?_
    refine yb_calli (n := 1) (own := "TagMemoryLaw") (C := "TagMemoryModel") (wf := wM GM kM) (tys := tyMs kM) hx hb hml hown hts (x_M_read l D GM kM _ _ (xs (5 * j + 1)) hbad) (tb_VL wm_386 wm_387 wm_388 wm_2 wm_389) rfl rfl rfl (by decide +kernel) ⟨by show (1 : Nat) + 1 ≤ 11; omega, by show 8 + (2 + 11) + (22 : Nat) ≤ 400; omega⟩ (ya_Kc hK) (ya_Pc hP) (ya_Dc hD) hS hA rfl rfl rfl rfl hl.1 rfl (Nat.le_of_ble_eq_true rfl) d_L_law_120 ⟨by show _ ≤ 1052; omega, by show _ ≤ 15695; omega⟩ (fun r v1 H locs hw hP hD hS => ?_)
    obtain ⟨e1, e2⟩ := hw
    subst e1
    rw [e2] at hP hD; clear e2 v1
    have hP := ya_Pc hP
    have hD := ya_Dc hD
    refine lv_istore (lv' := [(6, .int _), (5, .int _), (4, .int (nI (5 * j))), (3, .ref _), (2, .ref _), (1, .ref _), (0, .ref _)]) hx hb d_L_law_123 hl (by decide) rfl (fun ls hl => ?_)
    refine lv_aload_n hx hb d_L_law_125 rfl (lv_at hl 4 rfl) ?_
    refine yb_calli (n := 0) (own := "TagMemoryLaw") (C := "TagMemoryModel") (wf := wM GM kM) (tys := tyMs kM) hx hb hml hown hts (c_M_thrown l D GM kM _ _ ) (tb_VL wm_382 wm_383 wm_384 wm_2 wm_385) rfl rfl rfl (by decide +kernel) ⟨by show (0 : Nat) + 1 ≤ 11; omega, by show 8 + (1 + 11) + (0 : Nat) ≤ 400; omega⟩ (ya_Kc hK) (ya_Pc hP) (ya_Dc hD) hS hA rfl rfl rfl rfl hl.1 rfl (Nat.le_of_ble_eq_true rfl) d_L_law_126 ⟨by show _ ≤ 1052; omega, by show _ ≤ 15695; omega⟩ (fun r v1 H locs hw hP hD hS => ?_)
    obtain ⟨e1, e2⟩ := hw
    subst e1
    rw [e2] at hP hD; clear e2 v1
    have hP := ya_Pc hP
    have hD := ya_Dc hD
    refine lv_iload hx hb d_L_law_129 (lv_at hl 1 rfl) ?_
    refine lv_icmp_eq (tgt := 136) hx hb d_L_law_131 (by decide) (fun _ => ?_) (fun c9 => absurd rfl c9)
    refine lv_iload hx hb d_L_law_136 (lv_at hl 1 rfl) ?_
    refine lv_if_ne (tgt := 153) hx hb d_L_law_138 (by decide) (fun _ => ?_) (fun c9 => absurd c9 (by decide))
    refine lv_goto (tgt := 792) hx hb d_L_law_153 (by decide) ?_
    have hP : va_P D vwCl (wL GT GM kT kM o ko (u) (f) (nTh v 1)) H := hP
    have hD : va_D (fun q : Nat => s.heap.size ≤ q) (wL GT GM kT kM o ko (u) (f) (nTh v 1)) := hD
    exact kk _ _ _ _ _ _ hR.th hP hD hS (lv_sub hl [2, 3, 4, 5, 6] rfl)
  · skip
    obtain ⟨hR1, hans, hth⟩ := sim_read hR ha
    refine lv_aload_n hx hb d_L_law_100 rfl (lv_at hl 3 rfl) ?_
    refine lv_aload_n hx hb d_L_law_101 rfl (lv_at hl 4 rfl) ?_
    refine lv_iload hx hb d_L_law_102 (lv_at hl 0 rfl) ?_
    refine lv_iconst (v := 1) hx hb d_L_law_104 (by decide) ?_
    refine xa_iadd hx hb (5 * j) 1 rfl rfl d_L_law_105 ?_
    refine xa_sld hx hb hX hbl hbA hS hL ((5 * j) + 1) rfl (by omega) d_L_law_106 ?_
    refine xa_top (nI a) h1 ?_
    refine lv_aload_n hx hb d_L_law_107 rfl (lv_at hl 1 rfl) ?_
    refine yc_calls (n := 3) (own := "TagMemoryLaw") (wf := wX GT kT o ko) (tys := tyX kT ko) (wr := wM GM kM v) (tr := tyMs kM) hx hb hml hown hts (c_L_read l D GT kT o ko _ u f a ha (by exact hR.tI)) (tb_SL wm_119 wm_120 wm_0 wm_121) rfl rfl rfl (by decide +kernel) ⟨by show (8 : Nat) + 1 ≤ 11; omega, by show 8 + (4 + 11) + (160 : Nat) ≤ 400; omega⟩ (fun _ _ _ _ h => h) (fun _ _ _ => trivial) hK hP hD hS hA rfl hl.1 rfl (Nat.le_of_ble_eq_true rfl) d_L_law_108 ⟨by show _ ≤ 1052; omega, by show _ ≤ 15695; omega⟩ (fun r z H locs hw hP hD hS => ?_)
    obtain ⟨e1, e2⟩ := hw
    subst e1
    rw [e2] at hP hD; clear e2 z
    refine lv_istore (lv' := [(5, .int _), (4, .int (nI (5 * j))), (3, .ref _), (2, .ref _), (1, .ref _), (0, .ref _)]) hx hb d_L_law_111 hl (by decide) rfl (fun ls hl => ?_)
    refine lv_aload_n hx hb d_L_law_113 rfl (lv_at hl 3 rfl) ?_
    refine lv_aload_n hx hb d_L_law_114 rfl (lv_at hl 5 rfl) ?_
    refine lv_iload hx hb d_L_law_115 (lv_at hl 1 rfl) ?_
    refine lv_iconst (v := 1) hx hb d_L_law_117 (by decide) ?_
    refine xa_iadd hx hb (5 * j) 1 rfl rfl d_L_law_118 ?_
    refine xa_sld hx hb hX hbl hbA hS hL ((5 * j) + 1) rfl (by omega) d_L_law_119 ?_
    refine xa_top (nI a) h1 ?_
    refine yb_calli (n := 1) (own := "TagMemoryLaw") (C := "TagMemoryModel") (wf := wM GM kM) (tys := tyMs kM) hx hb hml hown hts (c_M_read l D GM kM _ _ a ha (by exact hR.mI)) (tb_VL wm_386 wm_387 wm_388 wm_2 wm_389) rfl rfl rfl (by decide +kernel) ⟨by show (5 : Nat) + 1 ≤ 11; omega, by show 8 + (2 + 11) + (111 : Nat) ≤ 400; omega⟩ (ya_Kc hK) (ya_Pc hP) (ya_Dc hD) hS hA rfl rfl rfl rfl hl.1 rfl (Nat.le_of_ble_eq_true rfl) d_L_law_120 ⟨by show _ ≤ 1052; omega, by show _ ≤ 15695; omega⟩ (fun r v1 H locs hw hP hD hS => ?_)
    obtain ⟨e1, e2⟩ := hw
    subst e1
    rw [e2] at hP hD; clear e2 v1
    have hP := ya_Pc hP
    have hD := ya_Dc hD
    refine lv_istore (lv' := [(6, .int _), (5, .int _), (4, .int (nI (5 * j))), (3, .ref _), (2, .ref _), (1, .ref _), (0, .ref _)]) hx hb d_L_law_123 hl (by decide) rfl (fun ls hl => ?_)
    refine lv_aload_n hx hb d_L_law_125 rfl (lv_at hl 4 rfl) ?_
    refine yb_calli (n := 0) (own := "TagMemoryLaw") (C := "TagMemoryModel") (wf := wM GM kM) (tys := tyMs kM) hx hb hml hown hts (c_M_thrown l D GM kM _ _ ) (tb_VL wm_382 wm_383 wm_384 wm_2 wm_385) rfl rfl rfl (by decide +kernel) ⟨by show (0 : Nat) + 1 ≤ 11; omega, by show 8 + (1 + 11) + (0 : Nat) ≤ 400; omega⟩ (ya_Kc hK) (ya_Pc hP) (ya_Dc hD) hS hA rfl rfl rfl rfl hl.1 rfl (Nat.le_of_ble_eq_true rfl) d_L_law_126 ⟨by show _ ≤ 1052; omega, by show _ ≤ 15695; omega⟩ (fun r v1 H locs hw hP hD hS => ?_)
    obtain ⟨e1, e2⟩ := hw
    subst e1
    rw [e2] at hP hD; clear e2 v1
    have hP := ya_Pc hP
    have hD := ya_Dc hD
    refine lv_iload hx hb d_L_law_129 (lv_at hl 1 rfl) ?_
    refine lv_icmp_eq (tgt := 136) hx hb d_L_law_131 (by decide) (fun _ => ?_) (fun c9 => absurd hth c9)
    refine lv_iload hx hb d_L_law_136 (lv_at hl 1 rfl) ?_
    refine lv_if_ne (tgt := 153) hx hb d_L_law_138 (by decide) (fun c9 => absurd rfl c9) (fun _ => ?_)
    refine lv_aload_n hx hb d_L_law_141 rfl (lv_at hl 3 rfl) ?_
    refine lv_iconst (v := 0) hx hb d_L_law_142 (by decide) ?_
    refine xa_lald hx hb hK hP 9 8 rfl rfl (by decide) 0 rfl (by decide) d_L_law_143 ?_
    refine lv_iload hx hb d_L_law_144 (lv_at hl 0 rfl) ?_
    refine lv_i2l hx hb d_L_law_146 rfl ?_
    refine W.lcmp hx hb d_L_law_147 ?_
    refine lv_if_eq (tgt := 153) hx hb d_L_law_148 (by decide) (fun _ => ?_) (fun c9 => absurd (cmp_u (by rw [hans])) c9)
    refine lv_goto (tgt := 792) hx hb d_L_law_153 (by decide) ?_
    have hP : va_P D vwCl (wL GT GM kT kM o ko (fWant u (a / 4)) (vp_updL f 0 (tLw (fWant u (a / 4)) (a % 64)).toInt64) (gWant (nTh v 0) (a / 4))) H := hP
    have hD : va_D (fun q : Nat => s.heap.size ≤ q) (wL GT GM kT kM o ko (fWant u (a / 4)) (vp_updL f 0 (tLw (fWant u (a / 4)) (a % 64)).toInt64) (gWant (nTh v 0) (a / 4))) := hD
    refine W.widen (k := 20 + j + 1) (n := 7455 + 6 * j + 6) (by omega) (by omega) ?_
    exact kk _ _ _ _ _ _ hR1 hP hD hS (lv_sub hl [2, 3, 4, 5, 6] rfl)
set_option maxHeartbeats 4000000 in
set_option maxRecDepth 100000 in
theorem lc_tag {p : Program} {l : Launch} {e : Env} {s : State} {m : MethodId} {below : List Frame} {meth : Method} {c : Code} {Q : State → Prop} {D : va_G} {GT GM : Nat → Nat} {kT kM : Nat → ClassId} {o : Nat} {ko : ClassId} {b L : Nat} {xs : Nat → Int32} (hl9 : l.stackTraces = false) (hLX : LX s) (hL : L ≤ 2560) (C0 : lw_At p s m meth c b L xs) (hK : va_K D vwCl (tyL kT kM ko) s) (u : TC) (v : TM) (f : Nat → Int64) (hR : REL u v) (j : Nat) (hj : 5 * j + 5 ≤ L) {H : Heap} {locs : List Loc} {ls : Array Slot} (hP : va_P D vwCl (wL GT GM kT kM o ko u f v) H) (hD : va_D (fun q : Nat => s.heap.size ≤ q) (wL GT GM kT kM o ko u f v)) (hS : va_S (fun q : Nat => s.heap.size ≤ q) s.heap H locs) (hl : lv_has ls 7 [(4, .int (nI (5 * j))), (3, .ref o), (2, .ref (GM 0)), (1, .ref (GT 0)), (0, .ref b)]) (kk : ∀ (u : TC) (v : TM) (f : Nat → Int64) (H : Heap) (locs : List Loc) (ls : Array Slot), REL u v → va_P D vwCl (wL GT GM kT kM o ko u f v) H → va_D (fun q : Nat => s.heap.size ≤ q) (wL GT GM kT kM o ko u f v) → va_S (fun q : Nat => s.heap.size ≤ q) s.heap H locs → lv_has ls 7 [(4, .int (nI (5 * j))), (3, .ref o), (2, .ref (GM 0)), (1, .ref (GT 0)), (0, .ref b)] → W p l e room_1 s m #[Value.ref b] below meth c H locs (20 + j + 1) (7455 + 6 * j + 6) Q (F0 m 792 ls [])) : W p l e room_1 s m #[Value.ref b] below meth c H locs (20 + j) (7455 + 6 * j) Q (F0 m 156 ls []) := by
  obtain ⟨hx, hb, hr, hml, hown, hts, hX, hbl, hlocks, hgv⟩ := C0
  have hA : ∀ q : Nat, s.heap.size ≤ q → (fun q : Nat => s.heap.size ≤ q) q := fun _ h => h
  have hbA : ¬ (fun q : Nat => s.heap.size ≤ q) b := Nat.not_le.mpr hbl
  have hj5 : j < 512 := by omega
  rcases xbad_or (N := 2048) (by decide) (xs (5 * j + 1)) with hbad | ⟨a, ha, h1⟩
  · skip
    refine lv_aload_n hx hb d_L_law_156 rfl (lv_at hl 3 rfl) ?_
    refine lv_aload_n hx hb d_L_law_157 rfl (lv_at hl 4 rfl) ?_
    refine lv_iload hx hb d_L_law_158 (lv_at hl 0 rfl) ?_
    refine lv_iconst (v := 1) hx hb d_L_law_160 (by decide) ?_
    refine xa_iadd hx hb (5 * j) 1 rfl rfl d_L_law_161 ?_
    refine xa_sld hx hb hX hbl hbA hS hL ((5 * j) + 1) rfl (by omega) d_L_law_162 ?_
    refine lv_aload_n hx hb d_L_law_163 rfl (lv_at hl 1 rfl) ?_
    refine yc_calls (n := 3) (own := "TagMemoryLaw") (wf := wX GT kT o ko) (tys := tyX kT ko) (wr := wM GM kM v) (tr := tyMs kM) hx hb hml hown hts (x_L_tag l hl9 D GT kT o ko _ u f (xs (5 * j + 1)) hbad) (tb_SL wm_211 wm_212 wm_0 wm_213) rfl rfl rfl (by decide +kernel) ⟨by show (8 : Nat) + 1 ≤ 11; omega, by show 8 + (4 + 11) + (160 : Nat) ≤ 400; omega⟩ pxe_blind (fun U hU hW => hLX.pI hLX.2.2.2.2.2.2.1 hS hU hW) hK hP hD hS hA rfl hl.1 rfl (Nat.le_of_ble_eq_true rfl) d_L_law_164 ⟨by show _ ≤ 1052; omega, by show _ ≤ 15695; omega⟩ (fun r z H locs hw hP hD hS => ?_)
    obtain ⟨e1, e2⟩ := hw
    subst e1
    rw [e2] at hP hD; clear e2 z
    refine lv_istore (lv' := [(5, .int _), (4, .int (nI (5 * j))), (3, .ref _), (2, .ref _), (1, .ref _), (0, .ref _)]) hx hb d_L_law_167 hl (by decide) rfl (fun ls hl => ?_)
    refine lv_aload_n hx hb d_L_law_169 rfl (lv_at hl 3 rfl) ?_
    refine lv_aload_n hx hb d_L_law_170 rfl (lv_at hl 5 rfl) ?_
    refine lv_iload hx hb d_L_law_171 (lv_at hl 1 rfl) ?_
    refine lv_iconst (v := 1) hx hb d_L_law_173 (by decide) ?_
    refine xa_iadd hx hb (5 * j) 1 rfl rfl d_L_law_174 ?_
    refine xa_sld hx hb hX hbl hbA hS hL ((5 * j) + 1) rfl (by omega) d_L_law_175 ?_
    refine yb_calli (n := 1) (own := "TagMemoryLaw") (C := "TagMemoryModel") (wf := wM GM kM) (tys := tyMs kM) hx hb hml hown hts (x_M_tag l D GM kM _ _ (xs (5 * j + 1)) hbad) (tb_VL wm_410 wm_411 wm_412 wm_2 wm_413) rfl rfl rfl (by decide +kernel) ⟨by show (1 : Nat) + 1 ≤ 11; omega, by show 8 + (2 + 11) + (22 : Nat) ≤ 400; omega⟩ (ya_Kc hK) (ya_Pc hP) (ya_Dc hD) hS hA rfl rfl rfl rfl hl.1 rfl (Nat.le_of_ble_eq_true rfl) d_L_law_176 ⟨by show _ ≤ 1052; omega, by show _ ≤ 15695; omega⟩ (fun r v1 H locs hw hP hD hS => ?_)
    obtain ⟨e1, e2⟩ := hw
    subst e1
    rw [e2] at hP hD; clear e2 v1
    have hP := ya_Pc hP
    have hD := ya_Dc hD
    refine lv_istore (lv' := [(6, .int _), (5, .int _), (4, .int (nI (5 * j))), (3, .ref _), (2, .ref _), (1, .ref _), (0, .ref _)]) hx hb d_L_law_179 hl (by decide) rfl (fun ls hl => ?_)
    refine lv_aload_n hx hb d_L_law_181 rfl (lv_at hl 4 rfl) ?_
    refine yb_calli (n := 0) (own := "TagMemoryLaw") (C := "TagMemoryModel") (wf := wM GM kM) (tys := tyMs kM) hx hb hml hown hts (c_M_thrown l D GM kM _ _ ) (tb_VL wm_382 wm_383 wm_384 wm_2 wm_385) rfl rfl rfl (by decide +kernel) ⟨by show (0 : Nat) + 1 ≤ 11; omega, by show 8 + (1 + 11) + (0 : Nat) ≤ 400; omega⟩ (ya_Kc hK) (ya_Pc hP) (ya_Dc hD) hS hA rfl rfl rfl rfl hl.1 rfl (Nat.le_of_ble_eq_true rfl) d_L_law_182 ⟨by show _ ≤ 1052; omega, by show _ ≤ 15695; omega⟩ (fun r v1 H locs hw hP hD hS => ?_)
    obtain ⟨e1, e2⟩ := hw
    subst e1
    rw [e2] at hP hD; clear e2 v1
    have hP := ya_Pc hP
    have hD := ya_Dc hD
    refine lv_iload hx hb d_L_law_185 (lv_at hl 1 rfl) ?_
    refine lv_icmp_eq (tgt := 192) hx hb d_L_law_187 (by decide) (fun _ => ?_) (fun c9 => absurd rfl c9)
    refine lv_iload hx hb d_L_law_192 (lv_at hl 1 rfl) ?_
    refine lv_if_ne (tgt := 216) hx hb d_L_law_194 (by decide) (fun _ => ?_) (fun c9 => absurd c9 (by decide))
    refine lv_goto (tgt := 792) hx hb d_L_law_216 (by decide) ?_
    have hP : va_P D vwCl (wL GT GM kT kM o ko (u) (f) (nTh v 1)) H := hP
    have hD : va_D (fun q : Nat => s.heap.size ≤ q) (wL GT GM kT kM o ko (u) (f) (nTh v 1)) := hD
    exact kk _ _ _ _ _ _ hR.th hP hD hS (lv_sub hl [2, 3, 4, 5, 6] rfl)
  · skip
    obtain ⟨hR1, hans, hth⟩ := sim_tag hR ha
    by_cases hb0 : mTg (gWant (nTh v 0) (a / 4)) (a / 2) = 0
    · skip
      refine lv_aload_n hx hb d_L_law_156 rfl (lv_at hl 3 rfl) ?_
      refine lv_aload_n hx hb d_L_law_157 rfl (lv_at hl 4 rfl) ?_
      refine lv_iload hx hb d_L_law_158 (lv_at hl 0 rfl) ?_
      refine lv_iconst (v := 1) hx hb d_L_law_160 (by decide) ?_
      refine xa_iadd hx hb (5 * j) 1 rfl rfl d_L_law_161 ?_
      refine xa_sld hx hb hX hbl hbA hS hL ((5 * j) + 1) rfl (by omega) d_L_law_162 ?_
      refine xa_top (nI a) h1 ?_
      refine lv_aload_n hx hb d_L_law_163 rfl (lv_at hl 1 rfl) ?_
      refine yc_calls (n := 3) (own := "TagMemoryLaw") (wf := wX GT kT o ko) (tys := tyX kT ko) (wr := wM GM kM v) (tr := tyMs kM) hx hb hml hown hts (c_L_tag l D GT kT o ko _ u f a ha (by exact hR.tI)) (tb_SL wm_211 wm_212 wm_0 wm_213) rfl rfl rfl (by decide +kernel) ⟨by show (8 : Nat) + 1 ≤ 11; omega, by show 8 + (4 + 11) + (160 : Nat) ≤ 400; omega⟩ (fun _ _ _ _ h => h) (fun _ _ _ => trivial) hK hP hD hS hA rfl hl.1 rfl (Nat.le_of_ble_eq_true rfl) d_L_law_164 ⟨by show _ ≤ 1052; omega, by show _ ≤ 15695; omega⟩ (fun r z H locs hw hP hD hS => ?_)
      obtain ⟨e1, e2⟩ := hw
      subst e1
      rw [e2] at hP hD; clear e2 z
      refine lv_istore (lv' := [(5, .int _), (4, .int (nI (5 * j))), (3, .ref _), (2, .ref _), (1, .ref _), (0, .ref _)]) hx hb d_L_law_167 hl (by decide) rfl (fun ls hl => ?_)
      refine lv_aload_n hx hb d_L_law_169 rfl (lv_at hl 3 rfl) ?_
      refine lv_aload_n hx hb d_L_law_170 rfl (lv_at hl 5 rfl) ?_
      refine lv_iload hx hb d_L_law_171 (lv_at hl 1 rfl) ?_
      refine lv_iconst (v := 1) hx hb d_L_law_173 (by decide) ?_
      refine xa_iadd hx hb (5 * j) 1 rfl rfl d_L_law_174 ?_
      refine xa_sld hx hb hX hbl hbA hS hL ((5 * j) + 1) rfl (by omega) d_L_law_175 ?_
      refine xa_top (nI a) h1 ?_
      refine yb_calli (n := 1) (own := "TagMemoryLaw") (C := "TagMemoryModel") (wf := wM GM kM) (tys := tyMs kM) hx hb hml hown hts (c_M_tag l D GM kM _ _ a ha (by exact hR.mI)) (tb_VL wm_410 wm_411 wm_412 wm_2 wm_413) rfl rfl rfl (by decide +kernel) ⟨by show (5 : Nat) + 1 ≤ 11; omega, by show 8 + (2 + 11) + (111 : Nat) ≤ 400; omega⟩ (ya_Kc hK) (ya_Pc hP) (ya_Dc hD) hS hA rfl rfl rfl rfl hl.1 rfl (Nat.le_of_ble_eq_true rfl) d_L_law_176 ⟨by show _ ≤ 1052; omega, by show _ ≤ 15695; omega⟩ (fun r v1 H locs hw hP hD hS => ?_)
      obtain ⟨e1, e2⟩ := hw
      subst e1
      rw [e2] at hP hD; clear e2 v1
      have hP := ya_Pc hP
      have hD := ya_Dc hD
      refine lv_istore (lv' := [(6, .int _), (5, .int _), (4, .int (nI (5 * j))), (3, .ref _), (2, .ref _), (1, .ref _), (0, .ref _)]) hx hb d_L_law_179 hl (by decide) rfl (fun ls hl => ?_)
      refine lv_aload_n hx hb d_L_law_181 rfl (lv_at hl 4 rfl) ?_
      refine yb_calli (n := 0) (own := "TagMemoryLaw") (C := "TagMemoryModel") (wf := wM GM kM) (tys := tyMs kM) hx hb hml hown hts (c_M_thrown l D GM kM _ _ ) (tb_VL wm_382 wm_383 wm_384 wm_2 wm_385) rfl rfl rfl (by decide +kernel) ⟨by show (0 : Nat) + 1 ≤ 11; omega, by show 8 + (1 + 11) + (0 : Nat) ≤ 400; omega⟩ (ya_Kc hK) (ya_Pc hP) (ya_Dc hD) hS hA rfl rfl rfl rfl hl.1 rfl (Nat.le_of_ble_eq_true rfl) d_L_law_182 ⟨by show _ ≤ 1052; omega, by show _ ≤ 15695; omega⟩ (fun r v1 H locs hw hP hD hS => ?_)
      obtain ⟨e1, e2⟩ := hw
      subst e1
      rw [e2] at hP hD; clear e2 v1
      have hP := ya_Pc hP
      have hD := ya_Dc hD
      refine lv_iload hx hb d_L_law_185 (lv_at hl 1 rfl) ?_
      refine lv_icmp_eq (tgt := 192) hx hb d_L_law_187 (by decide) (fun _ => ?_) (fun c9 => absurd hth c9)
      refine lv_iload hx hb d_L_law_192 (lv_at hl 1 rfl) ?_
      refine lv_if_ne (tgt := 216) hx hb d_L_law_194 (by decide) (fun c9 => absurd rfl c9) (fun _ => ?_)
      refine lv_aload_n hx hb d_L_law_197 rfl (lv_at hl 3 rfl) ?_
      refine lv_iconst (v := 0) hx hb d_L_law_198 (by decide) ?_
      refine xa_lald hx hb hK hP 9 8 rfl rfl (by decide) 0 rfl (by decide) d_L_law_199 ?_
      refine lv_iload hx hb d_L_law_200 (lv_at hl 0 rfl) ?_
      refine lv_if_eq (tgt := 209) hx hb d_L_law_202 (by decide) (fun _ => ?_) (fun c9 => absurd hb0 c9)
      refine lv_lconst (v := 0) hx hb d_L_law_209 (by decide) ?_
      refine W.lcmp hx hb d_L_law_210 ?_
      refine lv_if_eq (tgt := 216) hx hb d_L_law_211 (by decide) (fun _ => ?_) (fun c9 => absurd (cmp_u (by rw [hans]; unfold outB; rw [if_pos hb0])) c9)
      refine lv_goto (tgt := 792) hx hb d_L_law_216 (by decide) ?_
      have hP : va_P D vwCl (wL GT GM kT kM o ko (fWant u (a / 2 / 2)) (vp_updL f 0 (outB (rTag (fWant u (a / 2 / 2)) (a / 2)))) (gWant (nTh v 0) (a / 4))) H := hP
      have hD : va_D (fun q : Nat => s.heap.size ≤ q) (wL GT GM kT kM o ko (fWant u (a / 2 / 2)) (vp_updL f 0 (outB (rTag (fWant u (a / 2 / 2)) (a / 2)))) (gWant (nTh v 0) (a / 4))) := hD
      refine W.widen (k := 20 + j + 1) (n := 7455 + 6 * j + 6) (by omega) (by omega) ?_
      exact kk _ _ _ _ _ _ hR1 hP hD hS (lv_sub hl [2, 3, 4, 5, 6] rfl)
    · skip
      refine lv_aload_n hx hb d_L_law_156 rfl (lv_at hl 3 rfl) ?_
      refine lv_aload_n hx hb d_L_law_157 rfl (lv_at hl 4 rfl) ?_
      refine lv_iload hx hb d_L_law_158 (lv_at hl 0 rfl) ?_
      refine lv_iconst (v := 1) hx hb d_L_law_160 (by decide) ?_
      refine xa_iadd hx hb (5 * j) 1 rfl rfl d_L_law_161 ?_
      refine xa_sld hx hb hX hbl hbA hS hL ((5 * j) + 1) rfl (by omega) d_L_law_162 ?_
      refine xa_top (nI a) h1 ?_
      refine lv_aload_n hx hb d_L_law_163 rfl (lv_at hl 1 rfl) ?_
      refine yc_calls (n := 3) (own := "TagMemoryLaw") (wf := wX GT kT o ko) (tys := tyX kT ko) (wr := wM GM kM v) (tr := tyMs kM) hx hb hml hown hts (c_L_tag l D GT kT o ko _ u f a ha (by exact hR.tI)) (tb_SL wm_211 wm_212 wm_0 wm_213) rfl rfl rfl (by decide +kernel) ⟨by show (8 : Nat) + 1 ≤ 11; omega, by show 8 + (4 + 11) + (160 : Nat) ≤ 400; omega⟩ (fun _ _ _ _ h => h) (fun _ _ _ => trivial) hK hP hD hS hA rfl hl.1 rfl (Nat.le_of_ble_eq_true rfl) d_L_law_164 ⟨by show _ ≤ 1052; omega, by show _ ≤ 15695; omega⟩ (fun r z H locs hw hP hD hS => ?_)
      obtain ⟨e1, e2⟩ := hw
      subst e1
      rw [e2] at hP hD; clear e2 z
      refine lv_istore (lv' := [(5, .int _), (4, .int (nI (5 * j))), (3, .ref _), (2, .ref _), (1, .ref _), (0, .ref _)]) hx hb d_L_law_167 hl (by decide) rfl (fun ls hl => ?_)
      refine lv_aload_n hx hb d_L_law_169 rfl (lv_at hl 3 rfl) ?_
      refine lv_aload_n hx hb d_L_law_170 rfl (lv_at hl 5 rfl) ?_
      refine lv_iload hx hb d_L_law_171 (lv_at hl 1 rfl) ?_
      refine lv_iconst (v := 1) hx hb d_L_law_173 (by decide) ?_
      refine xa_iadd hx hb (5 * j) 1 rfl rfl d_L_law_174 ?_
      refine xa_sld hx hb hX hbl hbA hS hL ((5 * j) + 1) rfl (by omega) d_L_law_175 ?_
      refine xa_top (nI a) h1 ?_
      refine yb_calli (n := 1) (own := "TagMemoryLaw") (C := "TagMemoryModel") (wf := wM GM kM) (tys := tyMs kM) hx hb hml hown hts (c_M_tag l D GM kM _ _ a ha (by exact hR.mI)) (tb_VL wm_410 wm_411 wm_412 wm_2 wm_413) rfl rfl rfl (by decide +kernel) ⟨by show (5 : Nat) + 1 ≤ 11; omega, by show 8 + (2 + 11) + (111 : Nat) ≤ 400; omega⟩ (ya_Kc hK) (ya_Pc hP) (ya_Dc hD) hS hA rfl rfl rfl rfl hl.1 rfl (Nat.le_of_ble_eq_true rfl) d_L_law_176 ⟨by show _ ≤ 1052; omega, by show _ ≤ 15695; omega⟩ (fun r v1 H locs hw hP hD hS => ?_)
      obtain ⟨e1, e2⟩ := hw
      subst e1
      rw [e2] at hP hD; clear e2 v1
      have hP := ya_Pc hP
      have hD := ya_Dc hD
      refine lv_istore (lv' := [(6, .int _), (5, .int _), (4, .int (nI (5 * j))), (3, .ref _), (2, .ref _), (1, .ref _), (0, .ref _)]) hx hb d_L_law_179 hl (by decide) rfl (fun ls hl => ?_)
      refine lv_aload_n hx hb d_L_law_181 rfl (lv_at hl 4 rfl) ?_
      refine yb_calli (n := 0) (own := "TagMemoryLaw") (C := "TagMemoryModel") (wf := wM GM kM) (tys := tyMs kM) hx hb hml hown hts (c_M_thrown l D GM kM _ _ ) (tb_VL wm_382 wm_383 wm_384 wm_2 wm_385) rfl rfl rfl (by decide +kernel) ⟨by show (0 : Nat) + 1 ≤ 11; omega, by show 8 + (1 + 11) + (0 : Nat) ≤ 400; omega⟩ (ya_Kc hK) (ya_Pc hP) (ya_Dc hD) hS hA rfl rfl rfl rfl hl.1 rfl (Nat.le_of_ble_eq_true rfl) d_L_law_182 ⟨by show _ ≤ 1052; omega, by show _ ≤ 15695; omega⟩ (fun r v1 H locs hw hP hD hS => ?_)
      obtain ⟨e1, e2⟩ := hw
      subst e1
      rw [e2] at hP hD; clear e2 v1
      have hP := ya_Pc hP
      have hD := ya_Dc hD
      refine lv_iload hx hb d_L_law_185 (lv_at hl 1 rfl) ?_
      refine lv_icmp_eq (tgt := 192) hx hb d_L_law_187 (by decide) (fun _ => ?_) (fun c9 => absurd hth c9)
      refine lv_iload hx hb d_L_law_192 (lv_at hl 1 rfl) ?_
      refine lv_if_ne (tgt := 216) hx hb d_L_law_194 (by decide) (fun c9 => absurd rfl c9) (fun _ => ?_)
      refine lv_aload_n hx hb d_L_law_197 rfl (lv_at hl 3 rfl) ?_
      refine lv_iconst (v := 0) hx hb d_L_law_198 (by decide) ?_
      refine xa_lald hx hb hK hP 9 8 rfl rfl (by decide) 0 rfl (by decide) d_L_law_199 ?_
      refine lv_iload hx hb d_L_law_200 (lv_at hl 0 rfl) ?_
      refine lv_if_eq (tgt := 209) hx hb d_L_law_202 (by decide) (fun c9 => absurd c9 hb0) (fun _ => ?_)
      refine lv_lconst (v := 1) hx hb d_L_law_205 (by decide) ?_
      refine lv_goto (tgt := 210) hx hb d_L_law_206 (by decide) ?_
      refine W.lcmp hx hb d_L_law_210 ?_
      refine lv_if_eq (tgt := 216) hx hb d_L_law_211 (by decide) (fun _ => ?_) (fun c9 => absurd (cmp_u (by rw [hans]; unfold outB; rw [if_neg hb0])) c9)
      refine lv_goto (tgt := 792) hx hb d_L_law_216 (by decide) ?_
      have hP : va_P D vwCl (wL GT GM kT kM o ko (fWant u (a / 2 / 2)) (vp_updL f 0 (outB (rTag (fWant u (a / 2 / 2)) (a / 2)))) (gWant (nTh v 0) (a / 4))) H := hP
      have hD : va_D (fun q : Nat => s.heap.size ≤ q) (wL GT GM kT kM o ko (fWant u (a / 2 / 2)) (vp_updL f 0 (outB (rTag (fWant u (a / 2 / 2)) (a / 2)))) (gWant (nTh v 0) (a / 4))) := hD
      refine W.widen (k := 20 + j + 1) (n := 7455 + 6 * j + 6) (by omega) (by omega) ?_
      exact kk _ _ _ _ _ _ hR1 hP hD hS (lv_sub hl [2, 3, 4, 5, 6] rfl)
set_option maxHeartbeats 4000000 in
set_option maxRecDepth 100000 in
theorem lc_write {p : Program} {l : Launch} {e : Env} {s : State} {m : MethodId} {below : List Frame} {meth : Method} {c : Code} {Q : State → Prop} {D : va_G} {GT GM : Nat → Nat} {kT kM : Nat → ClassId} {o : Nat} {ko : ClassId} {b L : Nat} {xs : Nat → Int32} (hl9 : l.stackTraces = false) (hLX : LX s) (hL : L ≤ 2560) (C0 : lw_At p s m meth c b L xs) (hK : va_K D vwCl (tyL kT kM ko) s) (u : TC) (v : TM) (f : Nat → Int64) (hR : REL u v) (j : Nat) (hj : 5 * j + 5 ≤ L) {H : Heap} {locs : List Loc} {ls : Array Slot} (hP : va_P D vwCl (wL GT GM kT kM o ko u f v) H) (hD : va_D (fun q : Nat => s.heap.size ≤ q) (wL GT GM kT kM o ko u f v)) (hS : va_S (fun q : Nat => s.heap.size ≤ q) s.heap H locs) (hl : lv_has ls 7 [(4, .int (nI (5 * j))), (3, .ref o), (2, .ref (GM 0)), (1, .ref (GT 0)), (0, .ref b)]) (kk : ∀ (u : TC) (v : TM) (f : Nat → Int64) (H : Heap) (locs : List Loc) (ls : Array Slot), REL u v → va_P D vwCl (wL GT GM kT kM o ko u f v) H → va_D (fun q : Nat => s.heap.size ≤ q) (wL GT GM kT kM o ko u f v) → va_S (fun q : Nat => s.heap.size ≤ q) s.heap H locs → lv_has ls 7 [(4, .int (nI (5 * j))), (3, .ref o), (2, .ref (GM 0)), (1, .ref (GT 0)), (0, .ref b)] → W p l e room_1 s m #[Value.ref b] below meth c H locs (20 + j + 1) (7455 + 6 * j + 6) Q (F0 m 792 ls [])) : W p l e room_1 s m #[Value.ref b] below meth c H locs (20 + j) (7455 + 6 * j) Q (F0 m 219 ls []) := by
  obtain ⟨hx, hb, hr, hml, hown, hts, hX, hbl, hlocks, hgv⟩ := C0
  have hA : ∀ q : Nat, s.heap.size ≤ q → (fun q : Nat => s.heap.size ≤ q) q := fun _ h => h
  have hbA : ¬ (fun q : Nat => s.heap.size ≤ q) b := Nat.not_le.mpr hbl
  have hj5 : j < 512 := by omega
  rcases xbad_or (N := 2048) (by decide) (xs (5 * j + 1)) with hbad | ⟨a, ha, h1⟩
  · skip
    refine lv_aload_n hx hb d_L_law_219 rfl (lv_at hl 3 rfl) ?_
    refine lv_aload_n hx hb d_L_law_220 rfl (lv_at hl 4 rfl) ?_
    refine lv_iload hx hb d_L_law_221 (lv_at hl 0 rfl) ?_
    refine lv_iconst (v := 1) hx hb d_L_law_223 (by decide) ?_
    refine xa_iadd hx hb (5 * j) 1 rfl rfl d_L_law_224 ?_
    refine xa_sld hx hb hX hbl hbA hS hL ((5 * j) + 1) rfl (by omega) d_L_law_225 ?_
    refine lv_aload_n hx hb d_L_law_226 rfl (lv_at hl 4 rfl) ?_
    refine lv_iload hx hb d_L_law_227 (lv_at hl 0 rfl) ?_
    refine lv_iconst (v := 2) hx hb d_L_law_229 (by decide) ?_
    refine xa_iadd hx hb (5 * j) 2 rfl rfl d_L_law_230 ?_
    refine xa_sld hx hb hX hbl hbA hS hL ((5 * j) + 2) rfl (by omega) d_L_law_231 ?_
    refine lv_aload_n hx hb d_L_law_232 rfl (lv_at hl 1 rfl) ?_
    refine yc_calls (n := 4) (own := "TagMemoryLaw") (wf := wX GT kT o ko) (tys := tyX kT ko) (wr := wM GM kM v) (tr := tyMs kM) hx hb hml hown hts (x_L_write l hl9 D GT kT o ko _ u f (xs (5 * j + 1)) (xs (5 * j + 2)) hbad) (tb_SL wm_231 wm_232 wm_0 wm_233) rfl rfl rfl (by decide +kernel) ⟨by show (8 : Nat) + 1 ≤ 11; omega, by show 8 + (5 + 11) + (160 : Nat) ≤ 400; omega⟩ pxe_blind (fun U hU hW => hLX.pI hLX.2.2.2.2.2.2.1 hS hU hW) hK hP hD hS hA rfl hl.1 rfl (Nat.le_of_ble_eq_true rfl) d_L_law_233 ⟨by show _ ≤ 1052; omega, by show _ ≤ 15695; omega⟩ (fun r z H locs hw hP hD hS => ?_)
    obtain ⟨e1, e2⟩ := hw
    subst e1
    rw [e2] at hP hD; clear e2 z
    refine lv_istore (lv' := [(5, .int _), (4, .int (nI (5 * j))), (3, .ref _), (2, .ref _), (1, .ref _), (0, .ref _)]) hx hb d_L_law_236 hl (by decide) rfl (fun ls hl => ?_)
    refine lv_aload_n hx hb d_L_law_238 rfl (lv_at hl 3 rfl) ?_
    refine lv_aload_n hx hb d_L_law_239 rfl (lv_at hl 5 rfl) ?_
    refine lv_iload hx hb d_L_law_240 (lv_at hl 1 rfl) ?_
    refine lv_iconst (v := 1) hx hb d_L_law_242 (by decide) ?_
    refine xa_iadd hx hb (5 * j) 1 rfl rfl d_L_law_243 ?_
    refine xa_sld hx hb hX hbl hbA hS hL ((5 * j) + 1) rfl (by omega) d_L_law_244 ?_
    refine lv_aload_n hx hb d_L_law_245 rfl (lv_at hl 5 rfl) ?_
    refine lv_iload hx hb d_L_law_246 (lv_at hl 1 rfl) ?_
    refine lv_iconst (v := 2) hx hb d_L_law_248 (by decide) ?_
    refine xa_iadd hx hb (5 * j) 2 rfl rfl d_L_law_249 ?_
    refine xa_sld hx hb hX hbl hbA hS hL ((5 * j) + 2) rfl (by omega) d_L_law_250 ?_
    refine yb_calli (n := 2) (own := "TagMemoryLaw") (C := "TagMemoryModel") (wf := wM GM kM) (tys := tyMs kM) hx hb hml hown hts (x_M_write l D GM kM _ _ (xs (5 * j + 1)) (xs (5 * j + 2)) hbad) (tb_VL wm_414 wm_415 wm_416 wm_2 wm_417) rfl rfl rfl (by decide +kernel) ⟨by show (1 : Nat) + 1 ≤ 11; omega, by show 8 + (4 + 11) + (22 : Nat) ≤ 400; omega⟩ (ya_Kc hK) (ya_Pc hP) (ya_Dc hD) hS hA rfl rfl rfl rfl hl.1 rfl (Nat.le_of_ble_eq_true rfl) d_L_law_251 ⟨by show _ ≤ 1052; omega, by show _ ≤ 15695; omega⟩ (fun r v1 H locs hw hP hD hS => ?_)
    obtain ⟨e1, e2⟩ := hw
    subst e1
    rw [e2] at hP hD; clear e2 v1
    have hP := ya_Pc hP
    have hD := ya_Dc hD
    refine lv_istore (lv' := [(6, .int _), (5, .int _), (4, .int (nI (5 * j))), (3, .ref _), (2, .ref _), (1, .ref _), (0, .ref _)]) hx hb d_L_law_254 hl (by decide) rfl (fun ls hl => ?_)
    refine lv_aload_n hx hb d_L_law_256 rfl (lv_at hl 4 rfl) ?_
    refine yb_calli (n := 0) (own := "TagMemoryLaw") (C := "TagMemoryModel") (wf := wM GM kM) (tys := tyMs kM) hx hb hml hown hts (c_M_thrown l D GM kM _ _ ) (tb_VL wm_382 wm_383 wm_384 wm_2 wm_385) rfl rfl rfl (by decide +kernel) ⟨by show (0 : Nat) + 1 ≤ 11; omega, by show 8 + (1 + 11) + (0 : Nat) ≤ 400; omega⟩ (ya_Kc hK) (ya_Pc hP) (ya_Dc hD) hS hA rfl rfl rfl rfl hl.1 rfl (Nat.le_of_ble_eq_true rfl) d_L_law_257 ⟨by show _ ≤ 1052; omega, by show _ ≤ 15695; omega⟩ (fun r v1 H locs hw hP hD hS => ?_)
    obtain ⟨e1, e2⟩ := hw
    subst e1
    rw [e2] at hP hD; clear e2 v1
    have hP := ya_Pc hP
    have hD := ya_Dc hD
    refine lv_iload hx hb d_L_law_260 (lv_at hl 1 rfl) ?_
    refine lv_icmp_eq (tgt := 267) hx hb d_L_law_262 (by decide) (fun _ => ?_) (fun c9 => absurd rfl c9)
    refine lv_iload hx hb d_L_law_267 (lv_at hl 1 rfl) ?_
    refine lv_if_ne (tgt := 284) hx hb d_L_law_269 (by decide) (fun _ => ?_) (fun c9 => absurd c9 (by decide))
    refine lv_goto (tgt := 792) hx hb d_L_law_284 (by decide) ?_
    have hP : va_P D vwCl (wL GT GM kT kM o ko (u) (f) (nTh v 1)) H := hP
    have hD : va_D (fun q : Nat => s.heap.size ≤ q) (wL GT GM kT kM o ko (u) (f) (nTh v 1)) := hD
    exact kk _ _ _ _ _ _ hR.th hP hD hS (lv_sub hl [2, 3, 4, 5, 6] rfl)
  · skip
    obtain ⟨hR1, hans, hth⟩ := sim_write (w := xs (5 * j + 2)) hR ha
    refine lv_aload_n hx hb d_L_law_219 rfl (lv_at hl 3 rfl) ?_
    refine lv_aload_n hx hb d_L_law_220 rfl (lv_at hl 4 rfl) ?_
    refine lv_iload hx hb d_L_law_221 (lv_at hl 0 rfl) ?_
    refine lv_iconst (v := 1) hx hb d_L_law_223 (by decide) ?_
    refine xa_iadd hx hb (5 * j) 1 rfl rfl d_L_law_224 ?_
    refine xa_sld hx hb hX hbl hbA hS hL ((5 * j) + 1) rfl (by omega) d_L_law_225 ?_
    refine xa_top (nI a) h1 ?_
    refine lv_aload_n hx hb d_L_law_226 rfl (lv_at hl 4 rfl) ?_
    refine lv_iload hx hb d_L_law_227 (lv_at hl 0 rfl) ?_
    refine lv_iconst (v := 2) hx hb d_L_law_229 (by decide) ?_
    refine xa_iadd hx hb (5 * j) 2 rfl rfl d_L_law_230 ?_
    refine xa_sld hx hb hX hbl hbA hS hL ((5 * j) + 2) rfl (by omega) d_L_law_231 ?_
    refine lv_aload_n hx hb d_L_law_232 rfl (lv_at hl 1 rfl) ?_
    refine yc_calls (n := 4) (own := "TagMemoryLaw") (wf := wX GT kT o ko) (tys := tyX kT ko) (wr := wM GM kM v) (tr := tyMs kM) hx hb hml hown hts (c_L_write l D GT kT o ko _ u f a ha (xs (5 * j + 2)) (by exact hR.tI)) (tb_SL wm_231 wm_232 wm_0 wm_233) rfl rfl rfl (by decide +kernel) ⟨by show (8 : Nat) + 1 ≤ 11; omega, by show 8 + (5 + 11) + (160 : Nat) ≤ 400; omega⟩ (fun _ _ _ _ h => h) (fun _ _ _ => trivial) hK hP hD hS hA rfl hl.1 rfl (Nat.le_of_ble_eq_true rfl) d_L_law_233 ⟨by show _ ≤ 1052; omega, by show _ ≤ 15695; omega⟩ (fun r z H locs hw hP hD hS => ?_)
    obtain ⟨e1, e2⟩ := hw
    subst e1
    rw [e2] at hP hD; clear e2 z
    refine lv_istore (lv' := [(5, .int _), (4, .int (nI (5 * j))), (3, .ref _), (2, .ref _), (1, .ref _), (0, .ref _)]) hx hb d_L_law_236 hl (by decide) rfl (fun ls hl => ?_)
    refine lv_aload_n hx hb d_L_law_238 rfl (lv_at hl 3 rfl) ?_
    refine lv_aload_n hx hb d_L_law_239 rfl (lv_at hl 5 rfl) ?_
    refine lv_iload hx hb d_L_law_240 (lv_at hl 1 rfl) ?_
    refine lv_iconst (v := 1) hx hb d_L_law_242 (by decide) ?_
    refine xa_iadd hx hb (5 * j) 1 rfl rfl d_L_law_243 ?_
    refine xa_sld hx hb hX hbl hbA hS hL ((5 * j) + 1) rfl (by omega) d_L_law_244 ?_
    refine xa_top (nI a) h1 ?_
    refine lv_aload_n hx hb d_L_law_245 rfl (lv_at hl 5 rfl) ?_
    refine lv_iload hx hb d_L_law_246 (lv_at hl 1 rfl) ?_
    refine lv_iconst (v := 2) hx hb d_L_law_248 (by decide) ?_
    refine xa_iadd hx hb (5 * j) 2 rfl rfl d_L_law_249 ?_
    refine xa_sld hx hb hX hbl hbA hS hL ((5 * j) + 2) rfl (by omega) d_L_law_250 ?_
    refine yb_calli (n := 2) (own := "TagMemoryLaw") (C := "TagMemoryModel") (wf := wM GM kM) (tys := tyMs kM) hx hb hml hown hts (c_M_write l D GM kM _ _ a ha (xs (5 * j + 2)) (by exact hR.mI)) (tb_VL wm_414 wm_415 wm_416 wm_2 wm_417) rfl rfl rfl (by decide +kernel) ⟨by show (5 : Nat) + 1 ≤ 11; omega, by show 8 + (4 + 11) + (112 : Nat) ≤ 400; omega⟩ (ya_Kc hK) (ya_Pc hP) (ya_Dc hD) hS hA rfl rfl rfl rfl hl.1 rfl (Nat.le_of_ble_eq_true rfl) d_L_law_251 ⟨by show _ ≤ 1052; omega, by show _ ≤ 15695; omega⟩ (fun r v1 H locs hw hP hD hS => ?_)
    obtain ⟨e1, e2⟩ := hw
    subst e1
    rw [e2] at hP hD; clear e2 v1
    have hP := ya_Pc hP
    have hD := ya_Dc hD
    refine lv_istore (lv' := [(6, .int _), (5, .int _), (4, .int (nI (5 * j))), (3, .ref _), (2, .ref _), (1, .ref _), (0, .ref _)]) hx hb d_L_law_254 hl (by decide) rfl (fun ls hl => ?_)
    refine lv_aload_n hx hb d_L_law_256 rfl (lv_at hl 4 rfl) ?_
    refine yb_calli (n := 0) (own := "TagMemoryLaw") (C := "TagMemoryModel") (wf := wM GM kM) (tys := tyMs kM) hx hb hml hown hts (c_M_thrown l D GM kM _ _ ) (tb_VL wm_382 wm_383 wm_384 wm_2 wm_385) rfl rfl rfl (by decide +kernel) ⟨by show (0 : Nat) + 1 ≤ 11; omega, by show 8 + (1 + 11) + (0 : Nat) ≤ 400; omega⟩ (ya_Kc hK) (ya_Pc hP) (ya_Dc hD) hS hA rfl rfl rfl rfl hl.1 rfl (Nat.le_of_ble_eq_true rfl) d_L_law_257 ⟨by show _ ≤ 1052; omega, by show _ ≤ 15695; omega⟩ (fun r v1 H locs hw hP hD hS => ?_)
    obtain ⟨e1, e2⟩ := hw
    subst e1
    rw [e2] at hP hD; clear e2 v1
    have hP := ya_Pc hP
    have hD := ya_Dc hD
    refine lv_iload hx hb d_L_law_260 (lv_at hl 1 rfl) ?_
    refine lv_icmp_eq (tgt := 267) hx hb d_L_law_262 (by decide) (fun _ => ?_) (fun c9 => absurd hth c9)
    refine lv_iload hx hb d_L_law_267 (lv_at hl 1 rfl) ?_
    refine lv_if_ne (tgt := 284) hx hb d_L_law_269 (by decide) (fun c9 => absurd rfl c9) (fun _ => ?_)
    refine lv_aload_n hx hb d_L_law_272 rfl (lv_at hl 3 rfl) ?_
    refine lv_iconst (v := 0) hx hb d_L_law_273 (by decide) ?_
    refine xa_lald hx hb hK hP 9 8 rfl rfl (by decide) 0 rfl (by decide) d_L_law_274 ?_
    refine lv_iload hx hb d_L_law_275 (lv_at hl 0 rfl) ?_
    refine lv_i2l hx hb d_L_law_277 rfl ?_
    refine W.lcmp hx hb d_L_law_278 ?_
    refine lv_if_eq (tgt := 284) hx hb d_L_law_279 (by decide) (fun _ => ?_) (fun c9 => absurd (cmp_u (by rw [hans])) c9)
    refine lv_goto (tgt := 792) hx hb d_L_law_284 (by decide) ?_
    have hP : va_P D vwCl (wL GT GM kT kM o ko (fChWord (fWant u (a / 4)) a (xs (5 * j + 2))) (vp_updL f 0 (tLw (fWant u (a / 4)) (a % 64)).toInt64) (gCh (nTh v 0) a (xs (5 * j + 2)) 0)) H := hP
    have hD : va_D (fun q : Nat => s.heap.size ≤ q) (wL GT GM kT kM o ko (fChWord (fWant u (a / 4)) a (xs (5 * j + 2))) (vp_updL f 0 (tLw (fWant u (a / 4)) (a % 64)).toInt64) (gCh (nTh v 0) a (xs (5 * j + 2)) 0)) := hD
    refine W.widen (k := 20 + j + 1) (n := 7455 + 6 * j + 6) (by omega) (by omega) ?_
    exact kk _ _ _ _ _ _ hR1 hP hD hS (lv_sub hl [2, 3, 4, 5, 6] rfl)
set_option maxHeartbeats 4000000 in
set_option maxRecDepth 100000 in
theorem lc_drop {p : Program} {l : Launch} {e : Env} {s : State} {m : MethodId} {below : List Frame} {meth : Method} {c : Code} {Q : State → Prop} {D : va_G} {GT GM : Nat → Nat} {kT kM : Nat → ClassId} {o : Nat} {ko : ClassId} {b L : Nat} {xs : Nat → Int32} (hl9 : l.stackTraces = false) (hLX : LX s) (hL : L ≤ 2560) (C0 : lw_At p s m meth c b L xs) (hK : va_K D vwCl (tyL kT kM ko) s) (u : TC) (v : TM) (f : Nat → Int64) (hR : REL u v) (j : Nat) (hj : 5 * j + 5 ≤ L) {H : Heap} {locs : List Loc} {ls : Array Slot} (hP : va_P D vwCl (wL GT GM kT kM o ko u f v) H) (hD : va_D (fun q : Nat => s.heap.size ≤ q) (wL GT GM kT kM o ko u f v)) (hS : va_S (fun q : Nat => s.heap.size ≤ q) s.heap H locs) (hl : lv_has ls 7 [(4, .int (nI (5 * j))), (3, .ref o), (2, .ref (GM 0)), (1, .ref (GT 0)), (0, .ref b)]) (kk : ∀ (u : TC) (v : TM) (f : Nat → Int64) (H : Heap) (locs : List Loc) (ls : Array Slot), REL u v → va_P D vwCl (wL GT GM kT kM o ko u f v) H → va_D (fun q : Nat => s.heap.size ≤ q) (wL GT GM kT kM o ko u f v) → va_S (fun q : Nat => s.heap.size ≤ q) s.heap H locs → lv_has ls 7 [(4, .int (nI (5 * j))), (3, .ref o), (2, .ref (GM 0)), (1, .ref (GT 0)), (0, .ref b)] → W p l e room_1 s m #[Value.ref b] below meth c H locs (20 + j + 1) (7455 + 6 * j + 6) Q (F0 m 792 ls [])) : W p l e room_1 s m #[Value.ref b] below meth c H locs (20 + j) (7455 + 6 * j) Q (F0 m 542 ls []) := by
  obtain ⟨hx, hb, hr, hml, hown, hts, hX, hbl, hlocks, hgv⟩ := C0
  have hA : ∀ q : Nat, s.heap.size ≤ q → (fun q : Nat => s.heap.size ≤ q) q := fun _ h => h
  have hbA : ¬ (fun q : Nat => s.heap.size ≤ q) b := Nat.not_le.mpr hbl
  have hj5 : j < 512 := by omega
  rcases xbad_or (N := 16) (by decide) (xs (5 * j + 1)) with hbad | ⟨a, ha, h1⟩
  · skip
    refine lv_aload_n hx hb d_L_law_542 rfl (lv_at hl 3 rfl) ?_
    refine lv_aload_n hx hb d_L_law_543 rfl (lv_at hl 4 rfl) ?_
    refine lv_iload hx hb d_L_law_544 (lv_at hl 0 rfl) ?_
    refine lv_iconst (v := 1) hx hb d_L_law_546 (by decide) ?_
    refine xa_iadd hx hb (5 * j) 1 rfl rfl d_L_law_547 ?_
    refine xa_sld hx hb hX hbl hbA hS hL ((5 * j) + 1) rfl (by omega) d_L_law_548 ?_
    refine lv_aload_n hx hb d_L_law_549 rfl (lv_at hl 1 rfl) ?_
    refine yc_calls (n := 3) (own := "TagMemoryLaw") (wf := wX GT kT o ko) (tys := tyX kT ko) (wr := wM GM kM v) (tr := tyMs kM) hx hb hml hown hts (x_L_drop l hl9 D GT kT o ko _ u f (xs (5 * j + 1)) hbad) (tb_SL wm_297 wm_298 wm_0 wm_299) rfl rfl rfl (by decide +kernel) ⟨by show (8 : Nat) + 1 ≤ 11; omega, by show 8 + (4 + 11) + (160 : Nat) ≤ 400; omega⟩ pxe_blind (fun U hU hW => hLX.pI hLX.2.2.2.2.2.2.2.2.2.2.1 hS hU hW) hK hP hD hS hA rfl hl.1 rfl (Nat.le_of_ble_eq_true rfl) d_L_law_550 ⟨by show _ ≤ 1052; omega, by show _ ≤ 15695; omega⟩ (fun r z H locs hw hP hD hS => ?_)
    obtain ⟨e1, e2⟩ := hw
    subst e1
    rw [e2] at hP hD; clear e2 z
    refine lv_istore (lv' := [(5, .int _), (4, .int (nI (5 * j))), (3, .ref _), (2, .ref _), (1, .ref _), (0, .ref _)]) hx hb d_L_law_553 hl (by decide) rfl (fun ls hl => ?_)
    refine lv_aload_n hx hb d_L_law_555 rfl (lv_at hl 3 rfl) ?_
    refine lv_aload_n hx hb d_L_law_556 rfl (lv_at hl 5 rfl) ?_
    refine lv_iload hx hb d_L_law_557 (lv_at hl 1 rfl) ?_
    refine lv_iconst (v := 1) hx hb d_L_law_559 (by decide) ?_
    refine xa_iadd hx hb (5 * j) 1 rfl rfl d_L_law_560 ?_
    refine xa_sld hx hb hX hbl hbA hS hL ((5 * j) + 1) rfl (by omega) d_L_law_561 ?_
    refine yb_calli (n := 1) (own := "TagMemoryLaw") (C := "TagMemoryModel") (wf := wM GM kM) (tys := tyMs kM) hx hb hml hown hts (x_M_drop l D GM kM _ _ (xs (5 * j + 1)) hbad) (tb_VL wm_435 wm_436 wm_437 wm_2 wm_438) rfl rfl rfl (by decide +kernel) ⟨by show (1 : Nat) + 1 ≤ 11; omega, by show 8 + (2 + 11) + (22 : Nat) ≤ 400; omega⟩ (ya_Kc hK) (ya_Pc hP) (ya_Dc hD) hS hA rfl rfl rfl rfl hl.1 rfl (Nat.le_of_ble_eq_true rfl) d_L_law_562 ⟨by show _ ≤ 1052; omega, by show _ ≤ 15695; omega⟩ (fun r v1 H locs hw hP hD hS => ?_)
    obtain ⟨e1, e2⟩ := hw
    subst e1
    rw [e2] at hP hD; clear e2 v1
    have hP := ya_Pc hP
    have hD := ya_Dc hD
    refine lv_istore (lv' := [(6, .int _), (5, .int _), (4, .int (nI (5 * j))), (3, .ref _), (2, .ref _), (1, .ref _), (0, .ref _)]) hx hb d_L_law_565 hl (by decide) rfl (fun ls hl => ?_)
    refine lv_aload_n hx hb d_L_law_567 rfl (lv_at hl 4 rfl) ?_
    refine yb_calli (n := 0) (own := "TagMemoryLaw") (C := "TagMemoryModel") (wf := wM GM kM) (tys := tyMs kM) hx hb hml hown hts (c_M_thrown l D GM kM _ _ ) (tb_VL wm_382 wm_383 wm_384 wm_2 wm_385) rfl rfl rfl (by decide +kernel) ⟨by show (0 : Nat) + 1 ≤ 11; omega, by show 8 + (1 + 11) + (0 : Nat) ≤ 400; omega⟩ (ya_Kc hK) (ya_Pc hP) (ya_Dc hD) hS hA rfl rfl rfl rfl hl.1 rfl (Nat.le_of_ble_eq_true rfl) d_L_law_568 ⟨by show _ ≤ 1052; omega, by show _ ≤ 15695; omega⟩ (fun r v1 H locs hw hP hD hS => ?_)
    obtain ⟨e1, e2⟩ := hw
    subst e1
    rw [e2] at hP hD; clear e2 v1
    have hP := ya_Pc hP
    have hD := ya_Dc hD
    refine lv_iload hx hb d_L_law_571 (lv_at hl 1 rfl) ?_
    refine lv_icmp_eq (tgt := 578) hx hb d_L_law_573 (by decide) (fun _ => ?_) (fun c9 => absurd rfl c9)
    refine lv_iload hx hb d_L_law_578 (lv_at hl 1 rfl) ?_
    refine lv_if_ne (tgt := 595) hx hb d_L_law_580 (by decide) (fun _ => ?_) (fun c9 => absurd c9 (by decide))
    refine lv_goto (tgt := 792) hx hb d_L_law_595 (by decide) ?_
    have hP : va_P D vwCl (wL GT GM kT kM o ko (u) (f) (nTh v 1)) H := hP
    have hD : va_D (fun q : Nat => s.heap.size ≤ q) (wL GT GM kT kM o ko (u) (f) (nTh v 1)) := hD
    exact kk _ _ _ _ _ _ hR.th hP hD hS (lv_sub hl [2, 3, 4, 5, 6] rfl)
  · skip
    obtain ⟨hR1, hans, hth⟩ := sim_drop hR ha
    refine lv_aload_n hx hb d_L_law_542 rfl (lv_at hl 3 rfl) ?_
    refine lv_aload_n hx hb d_L_law_543 rfl (lv_at hl 4 rfl) ?_
    refine lv_iload hx hb d_L_law_544 (lv_at hl 0 rfl) ?_
    refine lv_iconst (v := 1) hx hb d_L_law_546 (by decide) ?_
    refine xa_iadd hx hb (5 * j) 1 rfl rfl d_L_law_547 ?_
    refine xa_sld hx hb hX hbl hbA hS hL ((5 * j) + 1) rfl (by omega) d_L_law_548 ?_
    refine xa_top (nI a) h1 ?_
    refine lv_aload_n hx hb d_L_law_549 rfl (lv_at hl 1 rfl) ?_
    refine yc_calls (n := 3) (own := "TagMemoryLaw") (wf := wX GT kT o ko) (tys := tyX kT ko) (wr := wM GM kM v) (tr := tyMs kM) hx hb hml hown hts (c_L_drop l D GT kT o ko _ u f a ha (by exact hR.tI)) (tb_SL wm_297 wm_298 wm_0 wm_299) rfl rfl rfl (by decide +kernel) ⟨by show (8 : Nat) + 1 ≤ 11; omega, by show 8 + (4 + 11) + (160 : Nat) ≤ 400; omega⟩ (fun _ _ _ _ h => h) (fun _ _ _ => trivial) hK hP hD hS hA rfl hl.1 rfl (Nat.le_of_ble_eq_true rfl) d_L_law_550 ⟨by show _ ≤ 1052; omega, by show _ ≤ 15695; omega⟩ (fun r z H locs hw hP hD hS => ?_)
    obtain ⟨e1, e2⟩ := hw
    subst e1
    rw [e2] at hP hD; clear e2 z
    refine lv_istore (lv' := [(5, .int _), (4, .int (nI (5 * j))), (3, .ref _), (2, .ref _), (1, .ref _), (0, .ref _)]) hx hb d_L_law_553 hl (by decide) rfl (fun ls hl => ?_)
    refine lv_aload_n hx hb d_L_law_555 rfl (lv_at hl 3 rfl) ?_
    refine lv_aload_n hx hb d_L_law_556 rfl (lv_at hl 5 rfl) ?_
    refine lv_iload hx hb d_L_law_557 (lv_at hl 1 rfl) ?_
    refine lv_iconst (v := 1) hx hb d_L_law_559 (by decide) ?_
    refine xa_iadd hx hb (5 * j) 1 rfl rfl d_L_law_560 ?_
    refine xa_sld hx hb hX hbl hbA hS hL ((5 * j) + 1) rfl (by omega) d_L_law_561 ?_
    refine xa_top (nI a) h1 ?_
    refine yb_calli (n := 1) (own := "TagMemoryLaw") (C := "TagMemoryModel") (wf := wM GM kM) (tys := tyMs kM) hx hb hml hown hts (c_M_drop l D GM kM _ _ a ha (by exact hR.mI)) (tb_VL wm_435 wm_436 wm_437 wm_2 wm_438) rfl rfl rfl (by decide +kernel) ⟨by show (3 : Nat) + 1 ≤ 11; omega, by show 8 + (2 + 11) + (67 : Nat) ≤ 400; omega⟩ (ya_Kc hK) (ya_Pc hP) (ya_Dc hD) hS hA rfl rfl rfl rfl hl.1 rfl (Nat.le_of_ble_eq_true rfl) d_L_law_562 ⟨by show _ ≤ 1052; omega, by show _ ≤ 15695; omega⟩ (fun r v1 H locs hw hP hD hS => ?_)
    obtain ⟨e1, e2⟩ := hw
    subst e1
    rw [e2] at hP hD; clear e2 v1
    have hP := ya_Pc hP
    have hD := ya_Dc hD
    refine lv_istore (lv' := [(6, .int _), (5, .int _), (4, .int (nI (5 * j))), (3, .ref _), (2, .ref _), (1, .ref _), (0, .ref _)]) hx hb d_L_law_565 hl (by decide) rfl (fun ls hl => ?_)
    refine lv_aload_n hx hb d_L_law_567 rfl (lv_at hl 4 rfl) ?_
    refine yb_calli (n := 0) (own := "TagMemoryLaw") (C := "TagMemoryModel") (wf := wM GM kM) (tys := tyMs kM) hx hb hml hown hts (c_M_thrown l D GM kM _ _ ) (tb_VL wm_382 wm_383 wm_384 wm_2 wm_385) rfl rfl rfl (by decide +kernel) ⟨by show (0 : Nat) + 1 ≤ 11; omega, by show 8 + (1 + 11) + (0 : Nat) ≤ 400; omega⟩ (ya_Kc hK) (ya_Pc hP) (ya_Dc hD) hS hA rfl rfl rfl rfl hl.1 rfl (Nat.le_of_ble_eq_true rfl) d_L_law_568 ⟨by show _ ≤ 1052; omega, by show _ ≤ 15695; omega⟩ (fun r v1 H locs hw hP hD hS => ?_)
    obtain ⟨e1, e2⟩ := hw
    subst e1
    rw [e2] at hP hD; clear e2 v1
    have hP := ya_Pc hP
    have hD := ya_Dc hD
    refine lv_iload hx hb d_L_law_571 (lv_at hl 1 rfl) ?_
    refine lv_icmp_eq (tgt := 578) hx hb d_L_law_573 (by decide) (fun _ => ?_) (fun c9 => absurd hth c9)
    refine lv_iload hx hb d_L_law_578 (lv_at hl 1 rfl) ?_
    refine lv_if_ne (tgt := 595) hx hb d_L_law_580 (by decide) (fun c9 => absurd rfl c9) (fun _ => ?_)
    refine lv_aload_n hx hb d_L_law_583 rfl (lv_at hl 3 rfl) ?_
    refine lv_iconst (v := 0) hx hb d_L_law_584 (by decide) ?_
    refine xa_lald hx hb hK hP 9 8 rfl rfl (by decide) 0 rfl (by decide) d_L_law_585 ?_
    refine lv_iload hx hb d_L_law_586 (lv_at hl 0 rfl) ?_
    refine lv_i2l hx hb d_L_law_588 rfl ?_
    refine W.lcmp hx hb d_L_law_589 ?_
    refine lv_if_eq (tgt := 595) hx hb d_L_law_590 (by decide) (fun _ => ?_) (fun c9 => absurd (cmp_u (by rw [hans])) c9)
    refine lv_goto (tgt := 792) hx hb d_L_law_595 (by decide) ?_
    have hP : va_P D vwCl (wL GT GM kT kM o ko (if tLa u a = -1 then u else fLineGo u a) (vp_updL f 0 (if tLa u a = -1 then (-1 : Int32) else rLineGo u a).toInt64) (if mLn v a = -1 then nTh v 0 else gLineGo (nTh v 0) a)) H := hP
    have hD : va_D (fun q : Nat => s.heap.size ≤ q) (wL GT GM kT kM o ko (if tLa u a = -1 then u else fLineGo u a) (vp_updL f 0 (if tLa u a = -1 then (-1 : Int32) else rLineGo u a).toInt64) (if mLn v a = -1 then nTh v 0 else gLineGo (nTh v 0) a)) := hD
    refine W.widen (k := 20 + j + 1) (n := 7455 + 6 * j + 6) (by omega) (by omega) ?_
    exact kk _ _ _ _ _ _ hR1 hP hD hS (lv_sub hl [2, 3, 4, 5, 6] rfl)
set_option maxHeartbeats 4000000 in
set_option maxRecDepth 100000 in
theorem lc_store {p : Program} {l : Launch} {e : Env} {s : State} {m : MethodId} {below : List Frame} {meth : Method} {c : Code} {Q : State → Prop} {D : va_G} {GT GM : Nat → Nat} {kT kM : Nat → ClassId} {o : Nat} {ko : ClassId} {b L : Nat} {xs : Nat → Int32} (hl9 : l.stackTraces = false) (hLX : LX s) (hL : L ≤ 2560) (C0 : lw_At p s m meth c b L xs) (hK : va_K D vwCl (tyL kT kM ko) s) (u : TC) (v : TM) (f : Nat → Int64) (hR : REL u v) (j : Nat) (hj : 5 * j + 5 ≤ L) {H : Heap} {locs : List Loc} {ls : Array Slot} (hP : va_P D vwCl (wL GT GM kT kM o ko u f v) H) (hD : va_D (fun q : Nat => s.heap.size ≤ q) (wL GT GM kT kM o ko u f v)) (hS : va_S (fun q : Nat => s.heap.size ≤ q) s.heap H locs) (hl : lv_has ls 7 [(4, .int (nI (5 * j))), (3, .ref o), (2, .ref (GM 0)), (1, .ref (GT 0)), (0, .ref b)]) (kk : ∀ (u : TC) (v : TM) (f : Nat → Int64) (H : Heap) (locs : List Loc) (ls : Array Slot), REL u v → va_P D vwCl (wL GT GM kT kM o ko u f v) H → va_D (fun q : Nat => s.heap.size ≤ q) (wL GT GM kT kM o ko u f v) → va_S (fun q : Nat => s.heap.size ≤ q) s.heap H locs → lv_has ls 7 [(4, .int (nI (5 * j))), (3, .ref o), (2, .ref (GM 0)), (1, .ref (GT 0)), (0, .ref b)] → W p l e room_1 s m #[Value.ref b] below meth c H locs (20 + j + 1) (7455 + 6 * j + 6) Q (F0 m 792 ls [])) : W p l e room_1 s m #[Value.ref b] below meth c H locs (20 + j) (7455 + 6 * j) Q (F0 m 611 ls []) := by
  obtain ⟨hx, hb, hr, hml, hown, hts, hX, hbl, hlocks, hgv⟩ := C0
  have hA : ∀ q : Nat, s.heap.size ≤ q → (fun q : Nat => s.heap.size ≤ q) q := fun _ h => h
  have hbA : ¬ (fun q : Nat => s.heap.size ≤ q) b := Nat.not_le.mpr hbl
  have hj5 : j < 512 := by omega
  rcases xbad_or (N := 2080) (by decide) (xs (5 * j + 1)) with hbad | ⟨a, ha, h1⟩
  · skip
    refine lv_aload_n hx hb d_L_law_611 rfl (lv_at hl 3 rfl) ?_
    refine lv_aload_n hx hb d_L_law_612 rfl (lv_at hl 4 rfl) ?_
    refine lv_iload hx hb d_L_law_613 (lv_at hl 0 rfl) ?_
    refine lv_iconst (v := 1) hx hb d_L_law_615 (by decide) ?_
    refine xa_iadd hx hb (5 * j) 1 rfl rfl d_L_law_616 ?_
    refine xa_sld hx hb hX hbl hbA hS hL ((5 * j) + 1) rfl (by omega) d_L_law_617 ?_
    refine lv_aload_n hx hb d_L_law_618 rfl (lv_at hl 1 rfl) ?_
    refine yc_calls (n := 3) (own := "TagMemoryLaw") (wf := wX GT kT o ko) (tys := tyX kT ko) (wr := wM GM kM v) (tr := tyMs kM) hx hb hml hown hts (x_L_store l hl9 D GT kT o ko _ u f (xs (5 * j + 1)) hbad) (tb_SL wm_305 wm_306 wm_0 wm_307) rfl rfl rfl (by decide +kernel) ⟨by show (8 : Nat) + 1 ≤ 11; omega, by show 8 + (4 + 11) + (160 : Nat) ≤ 400; omega⟩ pxe_blind (fun U hU hW => hLX.pI hLX.2.2.2.2.2.2.2.2.2.2.2.1 hS hU hW) hK hP hD hS hA rfl hl.1 rfl (Nat.le_of_ble_eq_true rfl) d_L_law_619 ⟨by show _ ≤ 1052; omega, by show _ ≤ 15695; omega⟩ (fun r z H locs hw hP hD hS => ?_)
    obtain ⟨e1, e2⟩ := hw
    subst e1
    rw [e2] at hP hD; clear e2 z
    refine lv_istore (lv' := [(5, .int _), (4, .int (nI (5 * j))), (3, .ref _), (2, .ref _), (1, .ref _), (0, .ref _)]) hx hb d_L_law_622 hl (by decide) rfl (fun ls hl => ?_)
    refine lv_aload_n hx hb d_L_law_624 rfl (lv_at hl 3 rfl) ?_
    refine lv_aload_n hx hb d_L_law_625 rfl (lv_at hl 5 rfl) ?_
    refine lv_iload hx hb d_L_law_626 (lv_at hl 1 rfl) ?_
    refine lv_iconst (v := 1) hx hb d_L_law_628 (by decide) ?_
    refine xa_iadd hx hb (5 * j) 1 rfl rfl d_L_law_629 ?_
    refine xa_sld hx hb hX hbl hbA hS hL ((5 * j) + 1) rfl (by omega) d_L_law_630 ?_
    refine yb_calli (n := 1) (own := "TagMemoryLaw") (C := "TagMemoryModel") (wf := wM GM kM) (tys := tyMs kM) hx hb hml hown hts (x_M_store l D GM kM _ _ (xs (5 * j + 1)) hbad) (tb_VL wm_443 wm_444 wm_445 wm_2 wm_446) rfl rfl rfl (by decide +kernel) ⟨by show (1 : Nat) + 1 ≤ 11; omega, by show 8 + (2 + 11) + (22 : Nat) ≤ 400; omega⟩ (ya_Kc hK) (ya_Pc hP) (ya_Dc hD) hS hA rfl rfl rfl rfl hl.1 rfl (Nat.le_of_ble_eq_true rfl) d_L_law_631 ⟨by show _ ≤ 1052; omega, by show _ ≤ 15695; omega⟩ (fun r v1 H locs hw hP hD hS => ?_)
    obtain ⟨e1, e2⟩ := hw
    subst e1
    rw [e2] at hP hD; clear e2 v1
    have hP := ya_Pc hP
    have hD := ya_Dc hD
    refine lv_istore (lv' := [(6, .int _), (5, .int _), (4, .int (nI (5 * j))), (3, .ref _), (2, .ref _), (1, .ref _), (0, .ref _)]) hx hb d_L_law_634 hl (by decide) rfl (fun ls hl => ?_)
    refine lv_aload_n hx hb d_L_law_636 rfl (lv_at hl 4 rfl) ?_
    refine yb_calli (n := 0) (own := "TagMemoryLaw") (C := "TagMemoryModel") (wf := wM GM kM) (tys := tyMs kM) hx hb hml hown hts (c_M_thrown l D GM kM _ _ ) (tb_VL wm_382 wm_383 wm_384 wm_2 wm_385) rfl rfl rfl (by decide +kernel) ⟨by show (0 : Nat) + 1 ≤ 11; omega, by show 8 + (1 + 11) + (0 : Nat) ≤ 400; omega⟩ (ya_Kc hK) (ya_Pc hP) (ya_Dc hD) hS hA rfl rfl rfl rfl hl.1 rfl (Nat.le_of_ble_eq_true rfl) d_L_law_637 ⟨by show _ ≤ 1052; omega, by show _ ≤ 15695; omega⟩ (fun r v1 H locs hw hP hD hS => ?_)
    obtain ⟨e1, e2⟩ := hw
    subst e1
    rw [e2] at hP hD; clear e2 v1
    have hP := ya_Pc hP
    have hD := ya_Dc hD
    refine lv_iload hx hb d_L_law_640 (lv_at hl 1 rfl) ?_
    refine lv_icmp_eq (tgt := 647) hx hb d_L_law_642 (by decide) (fun _ => ?_) (fun c9 => absurd rfl c9)
    refine lv_iload hx hb d_L_law_647 (lv_at hl 1 rfl) ?_
    refine lv_if_ne (tgt := 664) hx hb d_L_law_649 (by decide) (fun _ => ?_) (fun c9 => absurd c9 (by decide))
    refine lv_goto (tgt := 792) hx hb d_L_law_664 (by decide) ?_
    have hP : va_P D vwCl (wL GT GM kT kM o ko (u) (f) (nTh v 1)) H := hP
    have hD : va_D (fun q : Nat => s.heap.size ≤ q) (wL GT GM kT kM o ko (u) (f) (nTh v 1)) := hD
    exact kk _ _ _ _ _ _ hR.th hP hD hS (lv_sub hl [2, 3, 4, 5, 6] rfl)
  · skip
    obtain ⟨hR1, hans, hth⟩ := (⟨hR.th, sim_store hR ha, rfl⟩ : REL u (nTh v 0) ∧ _ ∧ mTh (nTh v 0) = 0)
    refine lv_aload_n hx hb d_L_law_611 rfl (lv_at hl 3 rfl) ?_
    refine lv_aload_n hx hb d_L_law_612 rfl (lv_at hl 4 rfl) ?_
    refine lv_iload hx hb d_L_law_613 (lv_at hl 0 rfl) ?_
    refine lv_iconst (v := 1) hx hb d_L_law_615 (by decide) ?_
    refine xa_iadd hx hb (5 * j) 1 rfl rfl d_L_law_616 ?_
    refine xa_sld hx hb hX hbl hbA hS hL ((5 * j) + 1) rfl (by omega) d_L_law_617 ?_
    refine xa_top (nI a) h1 ?_
    refine lv_aload_n hx hb d_L_law_618 rfl (lv_at hl 1 rfl) ?_
    refine yc_calls (n := 3) (own := "TagMemoryLaw") (wf := wX GT kT o ko) (tys := tyX kT ko) (wr := wM GM kM v) (tr := tyMs kM) hx hb hml hown hts (c_L_store l D GT kT o ko _ u f a ha) (tb_SL wm_305 wm_306 wm_0 wm_307) rfl rfl rfl (by decide +kernel) ⟨by show (8 : Nat) + 1 ≤ 11; omega, by show 8 + (4 + 11) + (160 : Nat) ≤ 400; omega⟩ (fun _ _ _ _ h => h) (fun _ _ _ => trivial) hK hP hD hS hA rfl hl.1 rfl (Nat.le_of_ble_eq_true rfl) d_L_law_619 ⟨by show _ ≤ 1052; omega, by show _ ≤ 15695; omega⟩ (fun r z H locs hw hP hD hS => ?_)
    obtain ⟨e1, e2⟩ := hw
    subst e1
    rw [e2] at hP hD; clear e2 z
    refine lv_istore (lv' := [(5, .int _), (4, .int (nI (5 * j))), (3, .ref _), (2, .ref _), (1, .ref _), (0, .ref _)]) hx hb d_L_law_622 hl (by decide) rfl (fun ls hl => ?_)
    refine lv_aload_n hx hb d_L_law_624 rfl (lv_at hl 3 rfl) ?_
    refine lv_aload_n hx hb d_L_law_625 rfl (lv_at hl 5 rfl) ?_
    refine lv_iload hx hb d_L_law_626 (lv_at hl 1 rfl) ?_
    refine lv_iconst (v := 1) hx hb d_L_law_628 (by decide) ?_
    refine xa_iadd hx hb (5 * j) 1 rfl rfl d_L_law_629 ?_
    refine xa_sld hx hb hX hbl hbA hS hL ((5 * j) + 1) rfl (by omega) d_L_law_630 ?_
    refine xa_top (nI a) h1 ?_
    refine yb_calli (n := 1) (own := "TagMemoryLaw") (C := "TagMemoryModel") (wf := wM GM kM) (tys := tyMs kM) hx hb hml hown hts (c_M_store l D GM kM _ _ a ha) (tb_VL wm_443 wm_444 wm_445 wm_2 wm_446) rfl rfl rfl (by decide +kernel) ⟨by show (1 : Nat) + 1 ≤ 11; omega, by show 8 + (2 + 11) + (22 : Nat) ≤ 400; omega⟩ (ya_Kc hK) (ya_Pc hP) (ya_Dc hD) hS hA rfl rfl rfl rfl hl.1 rfl (Nat.le_of_ble_eq_true rfl) d_L_law_631 ⟨by show _ ≤ 1052; omega, by show _ ≤ 15695; omega⟩ (fun r v1 H locs hw hP hD hS => ?_)
    obtain ⟨e1, e2⟩ := hw
    subst e1
    rw [e2] at hP hD; clear e2 v1
    have hP := ya_Pc hP
    have hD := ya_Dc hD
    refine lv_istore (lv' := [(6, .int _), (5, .int _), (4, .int (nI (5 * j))), (3, .ref _), (2, .ref _), (1, .ref _), (0, .ref _)]) hx hb d_L_law_634 hl (by decide) rfl (fun ls hl => ?_)
    refine lv_aload_n hx hb d_L_law_636 rfl (lv_at hl 4 rfl) ?_
    refine yb_calli (n := 0) (own := "TagMemoryLaw") (C := "TagMemoryModel") (wf := wM GM kM) (tys := tyMs kM) hx hb hml hown hts (c_M_thrown l D GM kM _ _ ) (tb_VL wm_382 wm_383 wm_384 wm_2 wm_385) rfl rfl rfl (by decide +kernel) ⟨by show (0 : Nat) + 1 ≤ 11; omega, by show 8 + (1 + 11) + (0 : Nat) ≤ 400; omega⟩ (ya_Kc hK) (ya_Pc hP) (ya_Dc hD) hS hA rfl rfl rfl rfl hl.1 rfl (Nat.le_of_ble_eq_true rfl) d_L_law_637 ⟨by show _ ≤ 1052; omega, by show _ ≤ 15695; omega⟩ (fun r v1 H locs hw hP hD hS => ?_)
    obtain ⟨e1, e2⟩ := hw
    subst e1
    rw [e2] at hP hD; clear e2 v1
    have hP := ya_Pc hP
    have hD := ya_Dc hD
    refine lv_iload hx hb d_L_law_640 (lv_at hl 1 rfl) ?_
    refine lv_icmp_eq (tgt := 647) hx hb d_L_law_642 (by decide) (fun _ => ?_) (fun c9 => absurd hth c9)
    refine lv_iload hx hb d_L_law_647 (lv_at hl 1 rfl) ?_
    refine lv_if_ne (tgt := 664) hx hb d_L_law_649 (by decide) (fun c9 => absurd rfl c9) (fun _ => ?_)
    refine lv_aload_n hx hb d_L_law_652 rfl (lv_at hl 3 rfl) ?_
    refine lv_iconst (v := 0) hx hb d_L_law_653 (by decide) ?_
    refine xa_lald hx hb hK hP 9 8 rfl rfl (by decide) 0 rfl (by decide) d_L_law_654 ?_
    refine lv_iload hx hb d_L_law_655 (lv_at hl 0 rfl) ?_
    refine lv_i2l hx hb d_L_law_657 rfl ?_
    refine W.lcmp hx hb d_L_law_658 ?_
    refine lv_if_eq (tgt := 664) hx hb d_L_law_659 (by decide) (fun _ => ?_) (fun c9 => absurd (cmp_u (by rw [hans])) c9)
    refine lv_goto (tgt := 792) hx hb d_L_law_664 (by decide) ?_
    have hP : va_P D vwCl (wL GT GM kT kM o ko (u) (vp_updL f 0 (tSt u a).toInt64) (nTh v 0)) H := hP
    have hD : va_D (fun q : Nat => s.heap.size ≤ q) (wL GT GM kT kM o ko (u) (vp_updL f 0 (tSt u a).toInt64) (nTh v 0)) := hD
    refine W.widen (k := 20 + j + 1) (n := 7455 + 6 * j + 6) (by omega) (by omega) ?_
    exact kk _ _ _ _ _ _ hR1 hP hD hS (lv_sub hl [2, 3, 4, 5, 6] rfl)
set_option maxHeartbeats 4000000 in
set_option maxRecDepth 100000 in
theorem lc_kept {p : Program} {l : Launch} {e : Env} {s : State} {m : MethodId} {below : List Frame} {meth : Method} {c : Code} {Q : State → Prop} {D : va_G} {GT GM : Nat → Nat} {kT kM : Nat → ClassId} {o : Nat} {ko : ClassId} {b L : Nat} {xs : Nat → Int32} (hl9 : l.stackTraces = false) (hLX : LX s) (hL : L ≤ 2560) (C0 : lw_At p s m meth c b L xs) (hK : va_K D vwCl (tyL kT kM ko) s) (u : TC) (v : TM) (f : Nat → Int64) (hR : REL u v) (j : Nat) (hj : 5 * j + 5 ≤ L) {H : Heap} {locs : List Loc} {ls : Array Slot} (hP : va_P D vwCl (wL GT GM kT kM o ko u f v) H) (hD : va_D (fun q : Nat => s.heap.size ≤ q) (wL GT GM kT kM o ko u f v)) (hS : va_S (fun q : Nat => s.heap.size ≤ q) s.heap H locs) (hl : lv_has ls 7 [(4, .int (nI (5 * j))), (3, .ref o), (2, .ref (GM 0)), (1, .ref (GT 0)), (0, .ref b)]) (kk : ∀ (u : TC) (v : TM) (f : Nat → Int64) (H : Heap) (locs : List Loc) (ls : Array Slot), REL u v → va_P D vwCl (wL GT GM kT kM o ko u f v) H → va_D (fun q : Nat => s.heap.size ≤ q) (wL GT GM kT kM o ko u f v) → va_S (fun q : Nat => s.heap.size ≤ q) s.heap H locs → lv_has ls 7 [(4, .int (nI (5 * j))), (3, .ref o), (2, .ref (GM 0)), (1, .ref (GT 0)), (0, .ref b)] → W p l e room_1 s m #[Value.ref b] below meth c H locs (20 + j + 1) (7455 + 6 * j + 6) Q (F0 m 792 ls [])) : W p l e room_1 s m #[Value.ref b] below meth c H locs (20 + j) (7455 + 6 * j) Q (F0 m 667 ls []) := by
  obtain ⟨hx, hb, hr, hml, hown, hts, hX, hbl, hlocks, hgv⟩ := C0
  have hA : ∀ q : Nat, s.heap.size ≤ q → (fun q : Nat => s.heap.size ≤ q) q := fun _ h => h
  have hbA : ¬ (fun q : Nat => s.heap.size ≤ q) b := Nat.not_le.mpr hbl
  have hj5 : j < 512 := by omega
  rcases xbad_or (N := 20) (by decide) (xs (5 * j + 1)) with hbad | ⟨a, ha, h1⟩
  · skip
    refine lv_aload_n hx hb d_L_law_667 rfl (lv_at hl 3 rfl) ?_
    refine lv_aload_n hx hb d_L_law_668 rfl (lv_at hl 4 rfl) ?_
    refine lv_iload hx hb d_L_law_669 (lv_at hl 0 rfl) ?_
    refine lv_iconst (v := 1) hx hb d_L_law_671 (by decide) ?_
    refine xa_iadd hx hb (5 * j) 1 rfl rfl d_L_law_672 ?_
    refine xa_sld hx hb hX hbl hbA hS hL ((5 * j) + 1) rfl (by omega) d_L_law_673 ?_
    refine lv_aload_n hx hb d_L_law_674 rfl (lv_at hl 1 rfl) ?_
    refine yc_calls (n := 3) (own := "TagMemoryLaw") (wf := wX GT kT o ko) (tys := tyX kT ko) (wr := wM GM kM v) (tr := tyMs kM) hx hb hml hown hts (x_L_kept l hl9 D GT kT o ko _ u f (xs (5 * j + 1)) hbad) (tb_SL wm_313 wm_314 wm_0 wm_315) rfl rfl rfl (by decide +kernel) ⟨by show (8 : Nat) + 1 ≤ 11; omega, by show 8 + (4 + 11) + (160 : Nat) ≤ 400; omega⟩ pxe_blind (fun U hU hW => hLX.pI hLX.2.2.2.2.2.2.2.2.2.2.2.2.1 hS hU hW) hK hP hD hS hA rfl hl.1 rfl (Nat.le_of_ble_eq_true rfl) d_L_law_675 ⟨by show _ ≤ 1052; omega, by show _ ≤ 15695; omega⟩ (fun r z H locs hw hP hD hS => ?_)
    obtain ⟨e1, e2⟩ := hw
    subst e1
    rw [e2] at hP hD; clear e2 z
    refine lv_istore (lv' := [(5, .int _), (4, .int (nI (5 * j))), (3, .ref _), (2, .ref _), (1, .ref _), (0, .ref _)]) hx hb d_L_law_678 hl (by decide) rfl (fun ls hl => ?_)
    refine lv_aload_n hx hb d_L_law_680 rfl (lv_at hl 3 rfl) ?_
    refine lv_aload_n hx hb d_L_law_681 rfl (lv_at hl 5 rfl) ?_
    refine lv_iload hx hb d_L_law_682 (lv_at hl 1 rfl) ?_
    refine lv_iconst (v := 1) hx hb d_L_law_684 (by decide) ?_
    refine xa_iadd hx hb (5 * j) 1 rfl rfl d_L_law_685 ?_
    refine xa_sld hx hb hX hbl hbA hS hL ((5 * j) + 1) rfl (by omega) d_L_law_686 ?_
    refine yb_calli (n := 1) (own := "TagMemoryLaw") (C := "TagMemoryModel") (wf := wM GM kM) (tys := tyMs kM) hx hb hml hown hts (x_M_kept l D GM kM _ _ (xs (5 * j + 1)) hbad) (tb_VL wm_447 wm_448 wm_449 wm_2 wm_450) rfl rfl rfl (by decide +kernel) ⟨by show (1 : Nat) + 1 ≤ 11; omega, by show 8 + (2 + 11) + (22 : Nat) ≤ 400; omega⟩ (ya_Kc hK) (ya_Pc hP) (ya_Dc hD) hS hA rfl rfl rfl rfl hl.1 rfl (Nat.le_of_ble_eq_true rfl) d_L_law_687 ⟨by show _ ≤ 1052; omega, by show _ ≤ 15695; omega⟩ (fun r v1 H locs hw hP hD hS => ?_)
    obtain ⟨e1, e2⟩ := hw
    subst e1
    rw [e2] at hP hD; clear e2 v1
    have hP := ya_Pc hP
    have hD := ya_Dc hD
    refine lv_istore (lv' := [(6, .int _), (5, .int _), (4, .int (nI (5 * j))), (3, .ref _), (2, .ref _), (1, .ref _), (0, .ref _)]) hx hb d_L_law_690 hl (by decide) rfl (fun ls hl => ?_)
    refine lv_aload_n hx hb d_L_law_692 rfl (lv_at hl 4 rfl) ?_
    refine yb_calli (n := 0) (own := "TagMemoryLaw") (C := "TagMemoryModel") (wf := wM GM kM) (tys := tyMs kM) hx hb hml hown hts (c_M_thrown l D GM kM _ _ ) (tb_VL wm_382 wm_383 wm_384 wm_2 wm_385) rfl rfl rfl (by decide +kernel) ⟨by show (0 : Nat) + 1 ≤ 11; omega, by show 8 + (1 + 11) + (0 : Nat) ≤ 400; omega⟩ (ya_Kc hK) (ya_Pc hP) (ya_Dc hD) hS hA rfl rfl rfl rfl hl.1 rfl (Nat.le_of_ble_eq_true rfl) d_L_law_693 ⟨by show _ ≤ 1052; omega, by show _ ≤ 15695; omega⟩ (fun r v1 H locs hw hP hD hS => ?_)
    obtain ⟨e1, e2⟩ := hw
    subst e1
    rw [e2] at hP hD; clear e2 v1
    have hP := ya_Pc hP
    have hD := ya_Dc hD
    refine lv_iload hx hb d_L_law_696 (lv_at hl 1 rfl) ?_
    refine lv_icmp_eq (tgt := 703) hx hb d_L_law_698 (by decide) (fun _ => ?_) (fun c9 => absurd rfl c9)
    refine lv_iload hx hb d_L_law_703 (lv_at hl 1 rfl) ?_
    refine lv_if_ne (tgt := 720) hx hb d_L_law_705 (by decide) (fun _ => ?_) (fun c9 => absurd c9 (by decide))
    refine lv_goto (tgt := 792) hx hb d_L_law_720 (by decide) ?_
    have hP : va_P D vwCl (wL GT GM kT kM o ko (u) (f) (nTh v 1)) H := hP
    have hD : va_D (fun q : Nat => s.heap.size ≤ q) (wL GT GM kT kM o ko (u) (f) (nTh v 1)) := hD
    exact kk _ _ _ _ _ _ hR.th hP hD hS (lv_sub hl [2, 3, 4, 5, 6] rfl)
  · skip
    obtain ⟨hR1, hans, hth⟩ := (⟨hR.th, sim_kept hR ha, rfl⟩ : REL u (nTh v 0) ∧ _ ∧ mTh (nTh v 0) = 0)
    refine lv_aload_n hx hb d_L_law_667 rfl (lv_at hl 3 rfl) ?_
    refine lv_aload_n hx hb d_L_law_668 rfl (lv_at hl 4 rfl) ?_
    refine lv_iload hx hb d_L_law_669 (lv_at hl 0 rfl) ?_
    refine lv_iconst (v := 1) hx hb d_L_law_671 (by decide) ?_
    refine xa_iadd hx hb (5 * j) 1 rfl rfl d_L_law_672 ?_
    refine xa_sld hx hb hX hbl hbA hS hL ((5 * j) + 1) rfl (by omega) d_L_law_673 ?_
    refine xa_top (nI a) h1 ?_
    refine lv_aload_n hx hb d_L_law_674 rfl (lv_at hl 1 rfl) ?_
    refine yc_calls (n := 3) (own := "TagMemoryLaw") (wf := wX GT kT o ko) (tys := tyX kT ko) (wr := wM GM kM v) (tr := tyMs kM) hx hb hml hown hts (c_L_kept l D GT kT o ko _ u f a ha) (tb_SL wm_313 wm_314 wm_0 wm_315) rfl rfl rfl (by decide +kernel) ⟨by show (8 : Nat) + 1 ≤ 11; omega, by show 8 + (4 + 11) + (160 : Nat) ≤ 400; omega⟩ (fun _ _ _ _ h => h) (fun _ _ _ => trivial) hK hP hD hS hA rfl hl.1 rfl (Nat.le_of_ble_eq_true rfl) d_L_law_675 ⟨by show _ ≤ 1052; omega, by show _ ≤ 15695; omega⟩ (fun r z H locs hw hP hD hS => ?_)
    obtain ⟨e1, e2⟩ := hw
    subst e1
    rw [e2] at hP hD; clear e2 z
    refine lv_istore (lv' := [(5, .int _), (4, .int (nI (5 * j))), (3, .ref _), (2, .ref _), (1, .ref _), (0, .ref _)]) hx hb d_L_law_678 hl (by decide) rfl (fun ls hl => ?_)
    refine lv_aload_n hx hb d_L_law_680 rfl (lv_at hl 3 rfl) ?_
    refine lv_aload_n hx hb d_L_law_681 rfl (lv_at hl 5 rfl) ?_
    refine lv_iload hx hb d_L_law_682 (lv_at hl 1 rfl) ?_
    refine lv_iconst (v := 1) hx hb d_L_law_684 (by decide) ?_
    refine xa_iadd hx hb (5 * j) 1 rfl rfl d_L_law_685 ?_
    refine xa_sld hx hb hX hbl hbA hS hL ((5 * j) + 1) rfl (by omega) d_L_law_686 ?_
    refine xa_top (nI a) h1 ?_
    refine yb_calli (n := 1) (own := "TagMemoryLaw") (C := "TagMemoryModel") (wf := wM GM kM) (tys := tyMs kM) hx hb hml hown hts (c_M_kept l D GM kM _ _ a ha) (tb_VL wm_447 wm_448 wm_449 wm_2 wm_450) rfl rfl rfl (by decide +kernel) ⟨by show (1 : Nat) + 1 ≤ 11; omega, by show 8 + (2 + 11) + (22 : Nat) ≤ 400; omega⟩ (ya_Kc hK) (ya_Pc hP) (ya_Dc hD) hS hA rfl rfl rfl rfl hl.1 rfl (Nat.le_of_ble_eq_true rfl) d_L_law_687 ⟨by show _ ≤ 1052; omega, by show _ ≤ 15695; omega⟩ (fun r v1 H locs hw hP hD hS => ?_)
    obtain ⟨e1, e2⟩ := hw
    subst e1
    rw [e2] at hP hD; clear e2 v1
    have hP := ya_Pc hP
    have hD := ya_Dc hD
    refine lv_istore (lv' := [(6, .int _), (5, .int _), (4, .int (nI (5 * j))), (3, .ref _), (2, .ref _), (1, .ref _), (0, .ref _)]) hx hb d_L_law_690 hl (by decide) rfl (fun ls hl => ?_)
    refine lv_aload_n hx hb d_L_law_692 rfl (lv_at hl 4 rfl) ?_
    refine yb_calli (n := 0) (own := "TagMemoryLaw") (C := "TagMemoryModel") (wf := wM GM kM) (tys := tyMs kM) hx hb hml hown hts (c_M_thrown l D GM kM _ _ ) (tb_VL wm_382 wm_383 wm_384 wm_2 wm_385) rfl rfl rfl (by decide +kernel) ⟨by show (0 : Nat) + 1 ≤ 11; omega, by show 8 + (1 + 11) + (0 : Nat) ≤ 400; omega⟩ (ya_Kc hK) (ya_Pc hP) (ya_Dc hD) hS hA rfl rfl rfl rfl hl.1 rfl (Nat.le_of_ble_eq_true rfl) d_L_law_693 ⟨by show _ ≤ 1052; omega, by show _ ≤ 15695; omega⟩ (fun r v1 H locs hw hP hD hS => ?_)
    obtain ⟨e1, e2⟩ := hw
    subst e1
    rw [e2] at hP hD; clear e2 v1
    have hP := ya_Pc hP
    have hD := ya_Dc hD
    refine lv_iload hx hb d_L_law_696 (lv_at hl 1 rfl) ?_
    refine lv_icmp_eq (tgt := 703) hx hb d_L_law_698 (by decide) (fun _ => ?_) (fun c9 => absurd hth c9)
    refine lv_iload hx hb d_L_law_703 (lv_at hl 1 rfl) ?_
    refine lv_if_ne (tgt := 720) hx hb d_L_law_705 (by decide) (fun c9 => absurd rfl c9) (fun _ => ?_)
    refine lv_aload_n hx hb d_L_law_708 rfl (lv_at hl 3 rfl) ?_
    refine lv_iconst (v := 0) hx hb d_L_law_709 (by decide) ?_
    refine xa_lald hx hb hK hP 9 8 rfl rfl (by decide) 0 rfl (by decide) d_L_law_710 ?_
    refine lv_iload hx hb d_L_law_711 (lv_at hl 0 rfl) ?_
    refine lv_i2l hx hb d_L_law_713 rfl ?_
    refine W.lcmp hx hb d_L_law_714 ?_
    refine lv_if_eq (tgt := 720) hx hb d_L_law_715 (by decide) (fun _ => ?_) (fun c9 => absurd (cmp_u (by rw [hans])) c9)
    refine lv_goto (tgt := 792) hx hb d_L_law_720 (by decide) ?_
    have hP : va_P D vwCl (wL GT GM kT kM o ko (u) (vp_updL f 0 (if a < 16 then tLa u a else tRa u (a - 16)).toInt64) (nTh v 0)) H := hP
    have hD : va_D (fun q : Nat => s.heap.size ≤ q) (wL GT GM kT kM o ko (u) (vp_updL f 0 (if a < 16 then tLa u a else tRa u (a - 16)).toInt64) (nTh v 0)) := hD
    refine W.widen (k := 20 + j + 1) (n := 7455 + 6 * j + 6) (by omega) (by omega) ?_
    exact kk _ _ _ _ _ _ hR1 hP hD hS (lv_sub hl [2, 3, 4, 5, 6] rfl)
set_option maxHeartbeats 4000000 in
set_option maxRecDepth 100000 in
theorem lc_count {p : Program} {l : Launch} {e : Env} {s : State} {m : MethodId} {below : List Frame} {meth : Method} {c : Code} {Q : State → Prop} {D : va_G} {GT GM : Nat → Nat} {kT kM : Nat → ClassId} {o : Nat} {ko : ClassId} {b L : Nat} {xs : Nat → Int32} (hl9 : l.stackTraces = false) (hLX : LX s) (hL : L ≤ 2560) (C0 : lw_At p s m meth c b L xs) (hK : va_K D vwCl (tyL kT kM ko) s) (u : TC) (v : TM) (f : Nat → Int64) (hR : REL u v) (j : Nat) (hj : 5 * j + 5 ≤ L) {H : Heap} {locs : List Loc} {ls : Array Slot} (hP : va_P D vwCl (wL GT GM kT kM o ko u f v) H) (hD : va_D (fun q : Nat => s.heap.size ≤ q) (wL GT GM kT kM o ko u f v)) (hS : va_S (fun q : Nat => s.heap.size ≤ q) s.heap H locs) (hl : lv_has ls 7 [(4, .int (nI (5 * j))), (3, .ref o), (2, .ref (GM 0)), (1, .ref (GT 0)), (0, .ref b)]) (kk : ∀ (u : TC) (v : TM) (f : Nat → Int64) (H : Heap) (locs : List Loc) (ls : Array Slot), REL u v → va_P D vwCl (wL GT GM kT kM o ko u f v) H → va_D (fun q : Nat => s.heap.size ≤ q) (wL GT GM kT kM o ko u f v) → va_S (fun q : Nat => s.heap.size ≤ q) s.heap H locs → lv_has ls 7 [(4, .int (nI (5 * j))), (3, .ref o), (2, .ref (GM 0)), (1, .ref (GT 0)), (0, .ref b)] → W p l e room_1 s m #[Value.ref b] below meth c H locs (20 + j + 1) (7455 + 6 * j + 6) Q (F0 m 792 ls [])) : W p l e room_1 s m #[Value.ref b] below meth c H locs (20 + j) (7455 + 6 * j) Q (F0 m 723 ls []) := by
  obtain ⟨hx, hb, hr, hml, hown, hts, hX, hbl, hlocks, hgv⟩ := C0
  have hA : ∀ q : Nat, s.heap.size ≤ q → (fun q : Nat => s.heap.size ≤ q) q := fun _ h => h
  have hbA : ¬ (fun q : Nat => s.heap.size ≤ q) b := Nat.not_le.mpr hbl
  have hj5 : j < 512 := by omega
  rcases xbad_or (N := 9) (by decide) (xs (5 * j + 1)) with hbad | ⟨a, ha, h1⟩
  · skip
    refine lv_aload_n hx hb d_L_law_723 rfl (lv_at hl 3 rfl) ?_
    refine lv_aload_n hx hb d_L_law_724 rfl (lv_at hl 4 rfl) ?_
    refine lv_iload hx hb d_L_law_725 (lv_at hl 0 rfl) ?_
    refine lv_iconst (v := 1) hx hb d_L_law_727 (by decide) ?_
    refine xa_iadd hx hb (5 * j) 1 rfl rfl d_L_law_728 ?_
    refine xa_sld hx hb hX hbl hbA hS hL ((5 * j) + 1) rfl (by omega) d_L_law_729 ?_
    refine lv_aload_n hx hb d_L_law_730 rfl (lv_at hl 1 rfl) ?_
    refine yc_calls (n := 3) (own := "TagMemoryLaw") (wf := wX GT kT o ko) (tys := tyX kT ko) (wr := wM GM kM v) (tr := tyMs kM) hx hb hml hown hts (x_L_count l hl9 D GT kT o ko _ u f (xs (5 * j + 1)) hbad) (tb_SL wm_321 wm_322 wm_0 wm_323) rfl rfl rfl (by decide +kernel) ⟨by show (8 : Nat) + 1 ≤ 11; omega, by show 8 + (4 + 11) + (160 : Nat) ≤ 400; omega⟩ pxe_blind (fun U hU hW => hLX.pA hLX.2.2.2.2.2.2.2.2.2.2.2.2.2 hS hU hW) hK hP hD hS hA rfl hl.1 rfl (Nat.le_of_ble_eq_true rfl) d_L_law_731 ⟨by show _ ≤ 1052; omega, by show _ ≤ 15695; omega⟩ (fun r z H locs hw hP hD hS => ?_)
    obtain ⟨e1, e2⟩ := hw
    subst e1
    rw [e2] at hP hD; clear e2 z
    refine lv_istore (lv' := [(5, .int _), (4, .int (nI (5 * j))), (3, .ref _), (2, .ref _), (1, .ref _), (0, .ref _)]) hx hb d_L_law_734 hl (by decide) rfl (fun ls hl => ?_)
    refine lv_aload_n hx hb d_L_law_736 rfl (lv_at hl 3 rfl) ?_
    refine lv_aload_n hx hb d_L_law_737 rfl (lv_at hl 5 rfl) ?_
    refine lv_iload hx hb d_L_law_738 (lv_at hl 1 rfl) ?_
    refine lv_iconst (v := 1) hx hb d_L_law_740 (by decide) ?_
    refine xa_iadd hx hb (5 * j) 1 rfl rfl d_L_law_741 ?_
    refine xa_sld hx hb hX hbl hbA hS hL ((5 * j) + 1) rfl (by omega) d_L_law_742 ?_
    refine yb_calli (n := 1) (own := "TagMemoryLaw") (C := "TagMemoryModel") (wf := wM GM kM) (tys := tyMs kM) hx hb hml hown hts (x_M_count l D GM kM _ _ (xs (5 * j + 1)) hbad) (tb_VL wm_451 wm_452 wm_453 wm_2 wm_454) rfl rfl rfl (by decide +kernel) ⟨by show (1 : Nat) + 1 ≤ 11; omega, by show 8 + (4 + 11) + (22 : Nat) ≤ 400; omega⟩ (ya_Kc hK) (ya_Pc hP) (ya_Dc hD) hS hA rfl rfl rfl rfl hl.1 rfl (Nat.le_of_ble_eq_true rfl) d_L_law_743 ⟨by show _ ≤ 1052; omega, by show _ ≤ 15695; omega⟩ (fun r v1 H locs hw hP hD hS => ?_)
    obtain ⟨e1, e2⟩ := hw
    subst e1
    rw [e2] at hP hD; clear e2 v1
    have hP := ya_Pc hP
    have hD := ya_Dc hD
    refine lv_istore (lv' := [(6, .int _), (5, .int _), (4, .int (nI (5 * j))), (3, .ref _), (2, .ref _), (1, .ref _), (0, .ref _)]) hx hb d_L_law_746 hl (by decide) rfl (fun ls hl => ?_)
    refine lv_aload_n hx hb d_L_law_748 rfl (lv_at hl 4 rfl) ?_
    refine yb_calli (n := 0) (own := "TagMemoryLaw") (C := "TagMemoryModel") (wf := wM GM kM) (tys := tyMs kM) hx hb hml hown hts (c_M_thrown l D GM kM _ _ ) (tb_VL wm_382 wm_383 wm_384 wm_2 wm_385) rfl rfl rfl (by decide +kernel) ⟨by show (0 : Nat) + 1 ≤ 11; omega, by show 8 + (1 + 11) + (0 : Nat) ≤ 400; omega⟩ (ya_Kc hK) (ya_Pc hP) (ya_Dc hD) hS hA rfl rfl rfl rfl hl.1 rfl (Nat.le_of_ble_eq_true rfl) d_L_law_749 ⟨by show _ ≤ 1052; omega, by show _ ≤ 15695; omega⟩ (fun r v1 H locs hw hP hD hS => ?_)
    obtain ⟨e1, e2⟩ := hw
    subst e1
    rw [e2] at hP hD; clear e2 v1
    have hP := ya_Pc hP
    have hD := ya_Dc hD
    refine lv_iload hx hb d_L_law_752 (lv_at hl 1 rfl) ?_
    refine lv_icmp_eq (tgt := 759) hx hb d_L_law_754 (by decide) (fun _ => ?_) (fun c9 => absurd rfl c9)
    refine lv_iload hx hb d_L_law_759 (lv_at hl 1 rfl) ?_
    refine lv_if_ne (tgt := 776) hx hb d_L_law_761 (by decide) (fun _ => ?_) (fun c9 => absurd c9 (by decide))
    refine lv_goto (tgt := 792) hx hb d_L_law_776 (by decide) ?_
    have hP : va_P D vwCl (wL GT GM kT kM o ko (u) (f) (nTh v 1)) H := hP
    have hD : va_D (fun q : Nat => s.heap.size ≤ q) (wL GT GM kT kM o ko (u) (f) (nTh v 1)) := hD
    exact kk _ _ _ _ _ _ hR.th hP hD hS (lv_sub hl [2, 3, 4, 5, 6] rfl)
  · skip
    obtain ⟨hR1, hans, hth⟩ := (⟨hR.th, sim_count hR ha, rfl⟩ : REL u (nTh v 0) ∧ _ ∧ mTh (nTh v 0) = 0)
    refine lv_aload_n hx hb d_L_law_723 rfl (lv_at hl 3 rfl) ?_
    refine lv_aload_n hx hb d_L_law_724 rfl (lv_at hl 4 rfl) ?_
    refine lv_iload hx hb d_L_law_725 (lv_at hl 0 rfl) ?_
    refine lv_iconst (v := 1) hx hb d_L_law_727 (by decide) ?_
    refine xa_iadd hx hb (5 * j) 1 rfl rfl d_L_law_728 ?_
    refine xa_sld hx hb hX hbl hbA hS hL ((5 * j) + 1) rfl (by omega) d_L_law_729 ?_
    refine xa_top (nI a) h1 ?_
    refine lv_aload_n hx hb d_L_law_730 rfl (lv_at hl 1 rfl) ?_
    refine yc_calls (n := 3) (own := "TagMemoryLaw") (wf := wX GT kT o ko) (tys := tyX kT ko) (wr := wM GM kM v) (tr := tyMs kM) hx hb hml hown hts (c_L_count l D GT kT o ko _ u f a ha (by exact hR.tI)) (tb_SL wm_321 wm_322 wm_0 wm_323) rfl rfl rfl (by decide +kernel) ⟨by show (8 : Nat) + 1 ≤ 11; omega, by show 8 + (4 + 11) + (160 : Nat) ≤ 400; omega⟩ (fun _ _ _ _ h => h) (fun _ _ _ => trivial) hK hP hD hS hA rfl hl.1 rfl (Nat.le_of_ble_eq_true rfl) d_L_law_731 ⟨by show _ ≤ 1052; omega, by show _ ≤ 15695; omega⟩ (fun r z H locs hw hP hD hS => ?_)
    obtain ⟨e1, e2⟩ := hw
    subst e1
    rw [e2] at hP hD; clear e2 z
    refine lv_istore (lv' := [(5, .int _), (4, .int (nI (5 * j))), (3, .ref _), (2, .ref _), (1, .ref _), (0, .ref _)]) hx hb d_L_law_734 hl (by decide) rfl (fun ls hl => ?_)
    refine lv_aload_n hx hb d_L_law_736 rfl (lv_at hl 3 rfl) ?_
    refine lv_aload_n hx hb d_L_law_737 rfl (lv_at hl 5 rfl) ?_
    refine lv_iload hx hb d_L_law_738 (lv_at hl 1 rfl) ?_
    refine lv_iconst (v := 1) hx hb d_L_law_740 (by decide) ?_
    refine xa_iadd hx hb (5 * j) 1 rfl rfl d_L_law_741 ?_
    refine xa_sld hx hb hX hbl hbA hS hL ((5 * j) + 1) rfl (by omega) d_L_law_742 ?_
    refine xa_top (nI a) h1 ?_
    refine yb_calli (n := 1) (own := "TagMemoryLaw") (C := "TagMemoryModel") (wf := wM GM kM) (tys := tyMs kM) hx hb hml hown hts (c_M_count l D GM kM _ _ a ha (by exact hR.mI)) (tb_VL wm_451 wm_452 wm_453 wm_2 wm_454) rfl rfl rfl (by decide +kernel) ⟨by show (1 : Nat) + 1 ≤ 11; omega, by show 8 + (4 + 11) + (22 : Nat) ≤ 400; omega⟩ (ya_Kc hK) (ya_Pc hP) (ya_Dc hD) hS hA rfl rfl rfl rfl hl.1 rfl (Nat.le_of_ble_eq_true rfl) d_L_law_743 ⟨by show _ ≤ 1052; omega, by show _ ≤ 15695; omega⟩ (fun r v1 H locs hw hP hD hS => ?_)
    obtain ⟨e1, e2⟩ := hw
    subst e1
    rw [e2] at hP hD; clear e2 v1
    have hP := ya_Pc hP
    have hD := ya_Dc hD
    refine lv_istore (lv' := [(6, .int _), (5, .int _), (4, .int (nI (5 * j))), (3, .ref _), (2, .ref _), (1, .ref _), (0, .ref _)]) hx hb d_L_law_746 hl (by decide) rfl (fun ls hl => ?_)
    refine lv_aload_n hx hb d_L_law_748 rfl (lv_at hl 4 rfl) ?_
    refine yb_calli (n := 0) (own := "TagMemoryLaw") (C := "TagMemoryModel") (wf := wM GM kM) (tys := tyMs kM) hx hb hml hown hts (c_M_thrown l D GM kM _ _ ) (tb_VL wm_382 wm_383 wm_384 wm_2 wm_385) rfl rfl rfl (by decide +kernel) ⟨by show (0 : Nat) + 1 ≤ 11; omega, by show 8 + (1 + 11) + (0 : Nat) ≤ 400; omega⟩ (ya_Kc hK) (ya_Pc hP) (ya_Dc hD) hS hA rfl rfl rfl rfl hl.1 rfl (Nat.le_of_ble_eq_true rfl) d_L_law_749 ⟨by show _ ≤ 1052; omega, by show _ ≤ 15695; omega⟩ (fun r v1 H locs hw hP hD hS => ?_)
    obtain ⟨e1, e2⟩ := hw
    subst e1
    rw [e2] at hP hD; clear e2 v1
    have hP := ya_Pc hP
    have hD := ya_Dc hD
    refine lv_iload hx hb d_L_law_752 (lv_at hl 1 rfl) ?_
    refine lv_icmp_eq (tgt := 759) hx hb d_L_law_754 (by decide) (fun _ => ?_) (fun c9 => absurd hth c9)
    refine lv_iload hx hb d_L_law_759 (lv_at hl 1 rfl) ?_
    refine lv_if_ne (tgt := 776) hx hb d_L_law_761 (by decide) (fun c9 => absurd rfl c9) (fun _ => ?_)
    refine lv_aload_n hx hb d_L_law_764 rfl (lv_at hl 3 rfl) ?_
    refine lv_iconst (v := 0) hx hb d_L_law_765 (by decide) ?_
    refine xa_lald hx hb hK hP 9 8 rfl rfl (by decide) 0 rfl (by decide) d_L_law_766 ?_
    refine lv_iload hx hb d_L_law_767 (lv_at hl 0 rfl) ?_
    refine lv_i2l hx hb d_L_law_769 rfl ?_
    refine W.lcmp hx hb d_L_law_770 ?_
    refine lv_if_eq (tgt := 776) hx hb d_L_law_771 (by decide) (fun _ => ?_) (fun c9 => absurd (cmp_u (by rw [hans])) c9)
    refine lv_goto (tgt := 792) hx hb d_L_law_776 (by decide) ?_
    have hP : va_P D vwCl (wL GT GM kT kM o ko (u) (vp_updL f 0 (rCount u a).toInt64) (nTh v 0)) H := hP
    have hD : va_D (fun q : Nat => s.heap.size ≤ q) (wL GT GM kT kM o ko (u) (vp_updL f 0 (rCount u a).toInt64) (nTh v 0)) := hD
    refine W.widen (k := 20 + j + 1) (n := 7455 + 6 * j + 6) (by omega) (by omega) ?_
    exact kk _ _ _ _ _ _ hR1 hP hD hS (lv_sub hl [2, 3, 4, 5, 6] rfl)
theorem pbad_or (x y : Int32) : pbad x y ∨ ∃ k i : Nat, (k = 1 ∨ k = 2) ∧ i < 4 ∧ y = nI k ∧ x = nI i ∧ i % k = 0 := by
  by_cases h1 : y < 1
  · exact Or.inl (Or.inl h1)
  · by_cases h2 : 2 < y
    · exact Or.inl (Or.inr (Or.inl ⟨h1, h2⟩))
    · have hk : ∃ k : Nat, (k = 1 ∨ k = 2) ∧ y = nI k := by
        rw [Int32.lt_iff_toInt_lt, show (1 : Int32).toInt = 1 from by decide +kernel] at h1
        rw [Int32.lt_iff_toInt_lt, show (2 : Int32).toInt = 2 from by decide +kernel] at h2
        rcases (show y.toInt = 1 ∨ y.toInt = 2 by omega) with h | h
        · exact ⟨1, Or.inl rfl, Int32.toInt_inj.mp (by rw [h]; decide +kernel)⟩
        · exact ⟨2, Or.inr rfl, Int32.toInt_inj.mp (by rw [h]; decide +kernel)⟩
      obtain ⟨k, hk, e⟩ := hk
      by_cases h3 : x < 0
      · exact Or.inl (Or.inr (Or.inr ⟨k, hk, e, Or.inl h3⟩))
      · by_cases h4 : 3 < x
        · exact Or.inl (Or.inr (Or.inr ⟨k, hk, e, Or.inr (Or.inl ⟨h3, h4⟩)⟩))
        · obtain ⟨i, hi, ei⟩ := nI_of2 (M := 3) (n := 3) (by decide +kernel) h3 (Int32.not_lt.mp h4)
          by_cases h5 : i % k = 0
          · exact Or.inr ⟨k, i, hk, by omega, e, ei, h5⟩
          · exact Or.inl (Or.inr (Or.inr ⟨k, hk, e, Or.inr (Or.inr ⟨i, by omega, ei, h5⟩)⟩))
set_option maxHeartbeats 4000000 in
set_option maxRecDepth 100000 in
theorem lc_part {p : Program} {l : Launch} {e : Env} {s : State} {m : MethodId} {below : List Frame} {meth : Method} {c : Code} {Q : State → Prop} {D : va_G} {GT GM : Nat → Nat} {kT kM : Nat → ClassId} {o : Nat} {ko : ClassId} {b L : Nat} {xs : Nat → Int32} (hl9 : l.stackTraces = false) (hLX : LX s) (hL : L ≤ 2560) (C0 : lw_At p s m meth c b L xs) (hK : va_K D vwCl (tyL kT kM ko) s) (u : TC) (v : TM) (f : Nat → Int64) (hR : REL u v) (j : Nat) (hj : 5 * j + 5 ≤ L) {H : Heap} {locs : List Loc} {ls : Array Slot} (hP : va_P D vwCl (wL GT GM kT kM o ko u f v) H) (hD : va_D (fun q : Nat => s.heap.size ≤ q) (wL GT GM kT kM o ko u f v)) (hS : va_S (fun q : Nat => s.heap.size ≤ q) s.heap H locs) (hl : lv_has ls 7 [(4, .int (nI (5 * j))), (3, .ref o), (2, .ref (GM 0)), (1, .ref (GT 0)), (0, .ref b)]) (kk : ∀ (u : TC) (v : TM) (f : Nat → Int64) (H : Heap) (locs : List Loc) (ls : Array Slot), REL u v → va_P D vwCl (wL GT GM kT kM o ko u f v) H → va_D (fun q : Nat => s.heap.size ≤ q) (wL GT GM kT kM o ko u f v) → va_S (fun q : Nat => s.heap.size ≤ q) s.heap H locs → lv_has ls 7 [(4, .int (nI (5 * j))), (3, .ref o), (2, .ref (GM 0)), (1, .ref (GT 0)), (0, .ref b)] → W p l e room_1 s m #[Value.ref b] below meth c H locs (20 + j + 1) (7455 + 6 * j + 6) Q (F0 m 792 ls [])) : W p l e room_1 s m #[Value.ref b] below meth c H locs (20 + j) (7455 + 6 * j) Q (F0 m 287 ls []) := by
  obtain ⟨hx, hb, hr, hml, hown, hts, hX, hbl, hlocks, hgv⟩ := C0
  have hA : ∀ q : Nat, s.heap.size ≤ q → (fun q : Nat => s.heap.size ≤ q) q := fun _ h => h
  have hbA : ¬ (fun q : Nat => s.heap.size ≤ q) b := Nat.not_le.mpr hbl
  have hj5 : j < 512 := by omega
  rcases xbad_or (N := 2048) (by decide) (xs (5 * j + 1)) with hbad | ⟨a, ha, h1⟩
  · skip
    refine lv_aload_n hx hb d_L_law_287 rfl (lv_at hl 3 rfl) ?_
    refine lv_aload_n hx hb d_L_law_288 rfl (lv_at hl 4 rfl) ?_
    refine lv_iload hx hb d_L_law_289 (lv_at hl 0 rfl) ?_
    refine lv_iconst (v := 1) hx hb d_L_law_291 (by decide) ?_
    refine xa_iadd hx hb (5 * j) 1 rfl rfl d_L_law_292 ?_
    refine xa_sld hx hb hX hbl hbA hS hL ((5 * j) + 1) rfl (by omega) d_L_law_293 ?_
    refine lv_aload_n hx hb d_L_law_294 rfl (lv_at hl 4 rfl) ?_
    refine lv_iload hx hb d_L_law_295 (lv_at hl 0 rfl) ?_
    refine lv_iconst (v := 2) hx hb d_L_law_297 (by decide) ?_
    refine xa_iadd hx hb (5 * j) 2 rfl rfl d_L_law_298 ?_
    refine xa_sld hx hb hX hbl hbA hS hL ((5 * j) + 2) rfl (by omega) d_L_law_299 ?_
    refine lv_aload_n hx hb d_L_law_300 rfl (lv_at hl 4 rfl) ?_
    refine lv_iload hx hb d_L_law_301 (lv_at hl 0 rfl) ?_
    refine lv_iconst (v := 3) hx hb d_L_law_303 (by decide) ?_
    refine xa_iadd hx hb (5 * j) 3 rfl rfl d_L_law_304 ?_
    refine xa_sld hx hb hX hbl hbA hS hL ((5 * j) + 3) rfl (by omega) d_L_law_305 ?_
    refine lv_aload_n hx hb d_L_law_306 rfl (lv_at hl 4 rfl) ?_
    refine lv_iload hx hb d_L_law_307 (lv_at hl 0 rfl) ?_
    refine lv_iconst (v := 4) hx hb d_L_law_309 (by decide) ?_
    refine xa_iadd hx hb (5 * j) 4 rfl rfl d_L_law_310 ?_
    refine xa_sld hx hb hX hbl hbA hS hL ((5 * j) + 4) rfl (by omega) d_L_law_311 ?_
    refine lv_aload_n hx hb d_L_law_312 rfl (lv_at hl 1 rfl) ?_
    refine yc_calls (n := 6) (own := "TagMemoryLaw") (wf := wX GT kT o ko) (tys := tyX kT ko) (wr := wM GM kM v) (tr := tyMs kM) hx hb hml hown hts (x_L_part l hl9 D GT kT o ko _ u f (xs (5 * j + 1)) (xs (5 * j + 2)) (xs (5 * j + 3)) (xs (5 * j + 4)) hbad) (tb_SL wm_246 wm_247 wm_0 wm_248) rfl rfl rfl (by decide +kernel) ⟨by show (8 : Nat) + 1 ≤ 11; omega, by show 8 + (7 + 11) + (160 : Nat) ≤ 400; omega⟩ pxe_blind (fun U hU hW => hLX.pI hLX.2.2.2.2.2.2.1 hS hU hW) hK hP hD hS hA rfl hl.1 rfl (Nat.le_of_ble_eq_true rfl) d_L_law_313 ⟨by show _ ≤ 1052; omega, by show _ ≤ 15695; omega⟩ (fun r z H locs hw hP hD hS => ?_)
    obtain ⟨e1, e2⟩ := hw
    subst e1
    rw [e2] at hP hD; clear e2 z
    refine lv_istore (lv' := [(5, .int _), (4, .int (nI (5 * j))), (3, .ref _), (2, .ref _), (1, .ref _), (0, .ref _)]) hx hb d_L_law_316 hl (by decide) rfl (fun ls hl => ?_)
    refine lv_aload_n hx hb d_L_law_318 rfl (lv_at hl 3 rfl) ?_
    refine lv_aload_n hx hb d_L_law_319 rfl (lv_at hl 5 rfl) ?_
    refine lv_iload hx hb d_L_law_320 (lv_at hl 1 rfl) ?_
    refine lv_iconst (v := 1) hx hb d_L_law_322 (by decide) ?_
    refine xa_iadd hx hb (5 * j) 1 rfl rfl d_L_law_323 ?_
    refine xa_sld hx hb hX hbl hbA hS hL ((5 * j) + 1) rfl (by omega) d_L_law_324 ?_
    refine lv_aload_n hx hb d_L_law_325 rfl (lv_at hl 5 rfl) ?_
    refine lv_iload hx hb d_L_law_326 (lv_at hl 1 rfl) ?_
    refine lv_iconst (v := 2) hx hb d_L_law_328 (by decide) ?_
    refine xa_iadd hx hb (5 * j) 2 rfl rfl d_L_law_329 ?_
    refine xa_sld hx hb hX hbl hbA hS hL ((5 * j) + 2) rfl (by omega) d_L_law_330 ?_
    refine lv_aload_n hx hb d_L_law_331 rfl (lv_at hl 5 rfl) ?_
    refine lv_iload hx hb d_L_law_332 (lv_at hl 1 rfl) ?_
    refine lv_iconst (v := 3) hx hb d_L_law_334 (by decide) ?_
    refine xa_iadd hx hb (5 * j) 3 rfl rfl d_L_law_335 ?_
    refine xa_sld hx hb hX hbl hbA hS hL ((5 * j) + 3) rfl (by omega) d_L_law_336 ?_
    refine lv_aload_n hx hb d_L_law_337 rfl (lv_at hl 5 rfl) ?_
    refine lv_iload hx hb d_L_law_338 (lv_at hl 1 rfl) ?_
    refine lv_iconst (v := 4) hx hb d_L_law_340 (by decide) ?_
    refine xa_iadd hx hb (5 * j) 4 rfl rfl d_L_law_341 ?_
    refine xa_sld hx hb hX hbl hbA hS hL ((5 * j) + 4) rfl (by omega) d_L_law_342 ?_
    refine yb_calli (n := 4) (own := "TagMemoryLaw") (C := "TagMemoryModel") (wf := wM GM kM) (tys := tyMs kM) hx hb hml hown hts (x_M_part l D GM kM _ _ (xs (5 * j + 1)) (xs (5 * j + 2)) (xs (5 * j + 3)) (xs (5 * j + 4)) hbad) (tb_VL wm_422 wm_423 wm_424 wm_2 wm_425) rfl rfl rfl (by decide +kernel) ⟨by show (1 : Nat) + 1 ≤ 11; omega, by show 8 + (6 + 11) + (22 : Nat) ≤ 400; omega⟩ (ya_Kc hK) (ya_Pc hP) (ya_Dc hD) hS hA rfl rfl rfl rfl hl.1 rfl (Nat.le_of_ble_eq_true rfl) d_L_law_343 ⟨by show _ ≤ 1052; omega, by show _ ≤ 15695; omega⟩ (fun r v1 H locs hw hP hD hS => ?_)
    obtain ⟨e1, e2⟩ := hw
    subst e1
    rw [e2] at hP hD; clear e2 v1
    have hP := ya_Pc hP
    have hD := ya_Dc hD
    refine lv_istore (lv' := [(6, .int _), (5, .int _), (4, .int (nI (5 * j))), (3, .ref _), (2, .ref _), (1, .ref _), (0, .ref _)]) hx hb d_L_law_346 hl (by decide) rfl (fun ls hl => ?_)
    refine lv_aload_n hx hb d_L_law_348 rfl (lv_at hl 4 rfl) ?_
    refine yb_calli (n := 0) (own := "TagMemoryLaw") (C := "TagMemoryModel") (wf := wM GM kM) (tys := tyMs kM) hx hb hml hown hts (c_M_thrown l D GM kM _ _ ) (tb_VL wm_382 wm_383 wm_384 wm_2 wm_385) rfl rfl rfl (by decide +kernel) ⟨by show (0 : Nat) + 1 ≤ 11; omega, by show 8 + (1 + 11) + (0 : Nat) ≤ 400; omega⟩ (ya_Kc hK) (ya_Pc hP) (ya_Dc hD) hS hA rfl rfl rfl rfl hl.1 rfl (Nat.le_of_ble_eq_true rfl) d_L_law_349 ⟨by show _ ≤ 1052; omega, by show _ ≤ 15695; omega⟩ (fun r v1 H locs hw hP hD hS => ?_)
    obtain ⟨e1, e2⟩ := hw
    subst e1
    rw [e2] at hP hD; clear e2 v1
    have hP := ya_Pc hP
    have hD := ya_Dc hD
    refine lv_iload hx hb d_L_law_352 (lv_at hl 1 rfl) ?_
    refine lv_icmp_eq (tgt := 359) hx hb d_L_law_354 (by decide) (fun _ => ?_) (fun c9 => absurd rfl c9)
    refine lv_iload hx hb d_L_law_359 (lv_at hl 1 rfl) ?_
    refine lv_if_ne (tgt := 376) hx hb d_L_law_361 (by decide) (fun _ => ?_) (fun c9 => absurd c9 (by decide))
    refine lv_goto (tgt := 792) hx hb d_L_law_376 (by decide) ?_
    have hP : va_P D vwCl (wL GT GM kT kM o ko (u) (f) (nTh v 1)) H := hP
    have hD : va_D (fun q : Nat => s.heap.size ≤ q) (wL GT GM kT kM o ko (u) (f) (nTh v 1)) := hD
    exact kk _ _ _ _ _ _ hR.th hP hD hS (lv_sub hl [2, 3, 4, 5, 6] rfl)
  · rcases pbad_or (xs (5 * j + 2)) (xs (5 * j + 3)) with hbad | ⟨k, i, hk, hi, h3, h2, hd⟩
    · have hb0 : pbad (xs (5 * j + 2)) (xs (5 * j + 3)) := hbad
      rcases hbad with hbad | hbad | ⟨k, hk, h3, hbad⟩
      · skip
        refine lv_aload_n hx hb d_L_law_287 rfl (lv_at hl 3 rfl) ?_
        refine lv_aload_n hx hb d_L_law_288 rfl (lv_at hl 4 rfl) ?_
        refine lv_iload hx hb d_L_law_289 (lv_at hl 0 rfl) ?_
        refine lv_iconst (v := 1) hx hb d_L_law_291 (by decide) ?_
        refine xa_iadd hx hb (5 * j) 1 rfl rfl d_L_law_292 ?_
        refine xa_sld hx hb hX hbl hbA hS hL ((5 * j) + 1) rfl (by omega) d_L_law_293 ?_
        refine xa_top (nI a) h1 ?_
        refine lv_aload_n hx hb d_L_law_294 rfl (lv_at hl 4 rfl) ?_
        refine lv_iload hx hb d_L_law_295 (lv_at hl 0 rfl) ?_
        refine lv_iconst (v := 2) hx hb d_L_law_297 (by decide) ?_
        refine xa_iadd hx hb (5 * j) 2 rfl rfl d_L_law_298 ?_
        refine xa_sld hx hb hX hbl hbA hS hL ((5 * j) + 2) rfl (by omega) d_L_law_299 ?_
        refine lv_aload_n hx hb d_L_law_300 rfl (lv_at hl 4 rfl) ?_
        refine lv_iload hx hb d_L_law_301 (lv_at hl 0 rfl) ?_
        refine lv_iconst (v := 3) hx hb d_L_law_303 (by decide) ?_
        refine xa_iadd hx hb (5 * j) 3 rfl rfl d_L_law_304 ?_
        refine xa_sld hx hb hX hbl hbA hS hL ((5 * j) + 3) rfl (by omega) d_L_law_305 ?_
        refine lv_aload_n hx hb d_L_law_306 rfl (lv_at hl 4 rfl) ?_
        refine lv_iload hx hb d_L_law_307 (lv_at hl 0 rfl) ?_
        refine lv_iconst (v := 4) hx hb d_L_law_309 (by decide) ?_
        refine xa_iadd hx hb (5 * j) 4 rfl rfl d_L_law_310 ?_
        refine xa_sld hx hb hX hbl hbA hS hL ((5 * j) + 4) rfl (by omega) d_L_law_311 ?_
        refine lv_aload_n hx hb d_L_law_312 rfl (lv_at hl 1 rfl) ?_
        refine yc_calls (n := 6) (own := "TagMemoryLaw") (wf := wX GT kT o ko) (tys := tyX kT ko) (wr := wM GM kM v) (tr := tyMs kM) hx hb hml hown hts (x_L_part1 l hl9 D GT kT o ko _ u f a ha (xs (5 * j + 2)) (xs (5 * j + 3)) (xs (5 * j + 4)) (Or.inl hbad)) (tb_SL wm_246 wm_247 wm_0 wm_248) rfl rfl rfl (by decide +kernel) ⟨by show (8 : Nat) + 1 ≤ 11; omega, by show 8 + (7 + 11) + (160 : Nat) ≤ 400; omega⟩ pxn_blind (fun U hU hW => hLX.pN hLX.2.2.2.2.2.2.2.1 hS hU hW) hK hP hD hS hA rfl hl.1 rfl (Nat.le_of_ble_eq_true rfl) d_L_law_313 ⟨by show _ ≤ 1052; omega, by show _ ≤ 15695; omega⟩ (fun r z H locs hw hP hD hS => ?_)
        obtain ⟨e1, e2⟩ := hw
        subst e1
        rw [e2] at hP hD; clear e2 z
        refine lv_istore (lv' := [(5, .int _), (4, .int (nI (5 * j))), (3, .ref _), (2, .ref _), (1, .ref _), (0, .ref _)]) hx hb d_L_law_316 hl (by decide) rfl (fun ls hl => ?_)
        refine lv_aload_n hx hb d_L_law_318 rfl (lv_at hl 3 rfl) ?_
        refine lv_aload_n hx hb d_L_law_319 rfl (lv_at hl 5 rfl) ?_
        refine lv_iload hx hb d_L_law_320 (lv_at hl 1 rfl) ?_
        refine lv_iconst (v := 1) hx hb d_L_law_322 (by decide) ?_
        refine xa_iadd hx hb (5 * j) 1 rfl rfl d_L_law_323 ?_
        refine xa_sld hx hb hX hbl hbA hS hL ((5 * j) + 1) rfl (by omega) d_L_law_324 ?_
        refine xa_top (nI a) h1 ?_
        refine lv_aload_n hx hb d_L_law_325 rfl (lv_at hl 5 rfl) ?_
        refine lv_iload hx hb d_L_law_326 (lv_at hl 1 rfl) ?_
        refine lv_iconst (v := 2) hx hb d_L_law_328 (by decide) ?_
        refine xa_iadd hx hb (5 * j) 2 rfl rfl d_L_law_329 ?_
        refine xa_sld hx hb hX hbl hbA hS hL ((5 * j) + 2) rfl (by omega) d_L_law_330 ?_
        refine lv_aload_n hx hb d_L_law_331 rfl (lv_at hl 5 rfl) ?_
        refine lv_iload hx hb d_L_law_332 (lv_at hl 1 rfl) ?_
        refine lv_iconst (v := 3) hx hb d_L_law_334 (by decide) ?_
        refine xa_iadd hx hb (5 * j) 3 rfl rfl d_L_law_335 ?_
        refine xa_sld hx hb hX hbl hbA hS hL ((5 * j) + 3) rfl (by omega) d_L_law_336 ?_
        refine lv_aload_n hx hb d_L_law_337 rfl (lv_at hl 5 rfl) ?_
        refine lv_iload hx hb d_L_law_338 (lv_at hl 1 rfl) ?_
        refine lv_iconst (v := 4) hx hb d_L_law_340 (by decide) ?_
        refine xa_iadd hx hb (5 * j) 4 rfl rfl d_L_law_341 ?_
        refine xa_sld hx hb hX hbl hbA hS hL ((5 * j) + 4) rfl (by omega) d_L_law_342 ?_
        refine yb_calli (n := 4) (own := "TagMemoryLaw") (C := "TagMemoryModel") (wf := wM GM kM) (tys := tyMs kM) hx hb hml hown hts (x_M_part2 l D GM kM _ _ a ha (xs (5 * j + 2)) (xs (5 * j + 3)) (xs (5 * j + 4)) hb0) (tb_VL wm_422 wm_423 wm_424 wm_2 wm_425) rfl rfl rfl (by decide +kernel) ⟨by show (1 : Nat) + 1 ≤ 11; omega, by show 8 + (6 + 11) + (22 : Nat) ≤ 400; omega⟩ (ya_Kc hK) (ya_Pc hP) (ya_Dc hD) hS hA rfl rfl rfl rfl hl.1 rfl (Nat.le_of_ble_eq_true rfl) d_L_law_343 ⟨by show _ ≤ 1052; omega, by show _ ≤ 15695; omega⟩ (fun r v1 H locs hw hP hD hS => ?_)
        obtain ⟨e1, e2⟩ := hw
        subst e1
        rw [e2] at hP hD; clear e2 v1
        have hP := ya_Pc hP
        have hD := ya_Dc hD
        refine lv_istore (lv' := [(6, .int _), (5, .int _), (4, .int (nI (5 * j))), (3, .ref _), (2, .ref _), (1, .ref _), (0, .ref _)]) hx hb d_L_law_346 hl (by decide) rfl (fun ls hl => ?_)
        refine lv_aload_n hx hb d_L_law_348 rfl (lv_at hl 4 rfl) ?_
        refine yb_calli (n := 0) (own := "TagMemoryLaw") (C := "TagMemoryModel") (wf := wM GM kM) (tys := tyMs kM) hx hb hml hown hts (c_M_thrown l D GM kM _ _ ) (tb_VL wm_382 wm_383 wm_384 wm_2 wm_385) rfl rfl rfl (by decide +kernel) ⟨by show (0 : Nat) + 1 ≤ 11; omega, by show 8 + (1 + 11) + (0 : Nat) ≤ 400; omega⟩ (ya_Kc hK) (ya_Pc hP) (ya_Dc hD) hS hA rfl rfl rfl rfl hl.1 rfl (Nat.le_of_ble_eq_true rfl) d_L_law_349 ⟨by show _ ≤ 1052; omega, by show _ ≤ 15695; omega⟩ (fun r v1 H locs hw hP hD hS => ?_)
        obtain ⟨e1, e2⟩ := hw
        subst e1
        rw [e2] at hP hD; clear e2 v1
        have hP := ya_Pc hP
        have hD := ya_Dc hD
        refine lv_iload hx hb d_L_law_352 (lv_at hl 1 rfl) ?_
        refine lv_icmp_eq (tgt := 359) hx hb d_L_law_354 (by decide) (fun _ => ?_) (fun c9 => absurd rfl c9)
        refine lv_iload hx hb d_L_law_359 (lv_at hl 1 rfl) ?_
        refine lv_if_ne (tgt := 376) hx hb d_L_law_361 (by decide) (fun _ => ?_) (fun c9 => absurd c9 (by decide))
        refine lv_goto (tgt := 792) hx hb d_L_law_376 (by decide) ?_
        have hP : va_P D vwCl (wL GT GM kT kM o ko (u) (f) (nTh v 2)) H := hP
        have hD : va_D (fun q : Nat => s.heap.size ≤ q) (wL GT GM kT kM o ko (u) (f) (nTh v 2)) := hD
        exact kk _ _ _ _ _ _ hR.th hP hD hS (lv_sub hl [2, 3, 4, 5, 6] rfl)
      · skip
        refine lv_aload_n hx hb d_L_law_287 rfl (lv_at hl 3 rfl) ?_
        refine lv_aload_n hx hb d_L_law_288 rfl (lv_at hl 4 rfl) ?_
        refine lv_iload hx hb d_L_law_289 (lv_at hl 0 rfl) ?_
        refine lv_iconst (v := 1) hx hb d_L_law_291 (by decide) ?_
        refine xa_iadd hx hb (5 * j) 1 rfl rfl d_L_law_292 ?_
        refine xa_sld hx hb hX hbl hbA hS hL ((5 * j) + 1) rfl (by omega) d_L_law_293 ?_
        refine xa_top (nI a) h1 ?_
        refine lv_aload_n hx hb d_L_law_294 rfl (lv_at hl 4 rfl) ?_
        refine lv_iload hx hb d_L_law_295 (lv_at hl 0 rfl) ?_
        refine lv_iconst (v := 2) hx hb d_L_law_297 (by decide) ?_
        refine xa_iadd hx hb (5 * j) 2 rfl rfl d_L_law_298 ?_
        refine xa_sld hx hb hX hbl hbA hS hL ((5 * j) + 2) rfl (by omega) d_L_law_299 ?_
        refine lv_aload_n hx hb d_L_law_300 rfl (lv_at hl 4 rfl) ?_
        refine lv_iload hx hb d_L_law_301 (lv_at hl 0 rfl) ?_
        refine lv_iconst (v := 3) hx hb d_L_law_303 (by decide) ?_
        refine xa_iadd hx hb (5 * j) 3 rfl rfl d_L_law_304 ?_
        refine xa_sld hx hb hX hbl hbA hS hL ((5 * j) + 3) rfl (by omega) d_L_law_305 ?_
        refine lv_aload_n hx hb d_L_law_306 rfl (lv_at hl 4 rfl) ?_
        refine lv_iload hx hb d_L_law_307 (lv_at hl 0 rfl) ?_
        refine lv_iconst (v := 4) hx hb d_L_law_309 (by decide) ?_
        refine xa_iadd hx hb (5 * j) 4 rfl rfl d_L_law_310 ?_
        refine xa_sld hx hb hX hbl hbA hS hL ((5 * j) + 4) rfl (by omega) d_L_law_311 ?_
        refine lv_aload_n hx hb d_L_law_312 rfl (lv_at hl 1 rfl) ?_
        refine yc_calls (n := 6) (own := "TagMemoryLaw") (wf := wX GT kT o ko) (tys := tyX kT ko) (wr := wM GM kM v) (tr := tyMs kM) hx hb hml hown hts (x_L_part1 l hl9 D GT kT o ko _ u f a ha (xs (5 * j + 2)) (xs (5 * j + 3)) (xs (5 * j + 4)) (Or.inr hbad)) (tb_SL wm_246 wm_247 wm_0 wm_248) rfl rfl rfl (by decide +kernel) ⟨by show (8 : Nat) + 1 ≤ 11; omega, by show 8 + (7 + 11) + (160 : Nat) ≤ 400; omega⟩ pxn_blind (fun U hU hW => hLX.pN hLX.2.2.2.2.2.2.2.1 hS hU hW) hK hP hD hS hA rfl hl.1 rfl (Nat.le_of_ble_eq_true rfl) d_L_law_313 ⟨by show _ ≤ 1052; omega, by show _ ≤ 15695; omega⟩ (fun r z H locs hw hP hD hS => ?_)
        obtain ⟨e1, e2⟩ := hw
        subst e1
        rw [e2] at hP hD; clear e2 z
        refine lv_istore (lv' := [(5, .int _), (4, .int (nI (5 * j))), (3, .ref _), (2, .ref _), (1, .ref _), (0, .ref _)]) hx hb d_L_law_316 hl (by decide) rfl (fun ls hl => ?_)
        refine lv_aload_n hx hb d_L_law_318 rfl (lv_at hl 3 rfl) ?_
        refine lv_aload_n hx hb d_L_law_319 rfl (lv_at hl 5 rfl) ?_
        refine lv_iload hx hb d_L_law_320 (lv_at hl 1 rfl) ?_
        refine lv_iconst (v := 1) hx hb d_L_law_322 (by decide) ?_
        refine xa_iadd hx hb (5 * j) 1 rfl rfl d_L_law_323 ?_
        refine xa_sld hx hb hX hbl hbA hS hL ((5 * j) + 1) rfl (by omega) d_L_law_324 ?_
        refine xa_top (nI a) h1 ?_
        refine lv_aload_n hx hb d_L_law_325 rfl (lv_at hl 5 rfl) ?_
        refine lv_iload hx hb d_L_law_326 (lv_at hl 1 rfl) ?_
        refine lv_iconst (v := 2) hx hb d_L_law_328 (by decide) ?_
        refine xa_iadd hx hb (5 * j) 2 rfl rfl d_L_law_329 ?_
        refine xa_sld hx hb hX hbl hbA hS hL ((5 * j) + 2) rfl (by omega) d_L_law_330 ?_
        refine lv_aload_n hx hb d_L_law_331 rfl (lv_at hl 5 rfl) ?_
        refine lv_iload hx hb d_L_law_332 (lv_at hl 1 rfl) ?_
        refine lv_iconst (v := 3) hx hb d_L_law_334 (by decide) ?_
        refine xa_iadd hx hb (5 * j) 3 rfl rfl d_L_law_335 ?_
        refine xa_sld hx hb hX hbl hbA hS hL ((5 * j) + 3) rfl (by omega) d_L_law_336 ?_
        refine lv_aload_n hx hb d_L_law_337 rfl (lv_at hl 5 rfl) ?_
        refine lv_iload hx hb d_L_law_338 (lv_at hl 1 rfl) ?_
        refine lv_iconst (v := 4) hx hb d_L_law_340 (by decide) ?_
        refine xa_iadd hx hb (5 * j) 4 rfl rfl d_L_law_341 ?_
        refine xa_sld hx hb hX hbl hbA hS hL ((5 * j) + 4) rfl (by omega) d_L_law_342 ?_
        refine yb_calli (n := 4) (own := "TagMemoryLaw") (C := "TagMemoryModel") (wf := wM GM kM) (tys := tyMs kM) hx hb hml hown hts (x_M_part2 l D GM kM _ _ a ha (xs (5 * j + 2)) (xs (5 * j + 3)) (xs (5 * j + 4)) hb0) (tb_VL wm_422 wm_423 wm_424 wm_2 wm_425) rfl rfl rfl (by decide +kernel) ⟨by show (1 : Nat) + 1 ≤ 11; omega, by show 8 + (6 + 11) + (22 : Nat) ≤ 400; omega⟩ (ya_Kc hK) (ya_Pc hP) (ya_Dc hD) hS hA rfl rfl rfl rfl hl.1 rfl (Nat.le_of_ble_eq_true rfl) d_L_law_343 ⟨by show _ ≤ 1052; omega, by show _ ≤ 15695; omega⟩ (fun r v1 H locs hw hP hD hS => ?_)
        obtain ⟨e1, e2⟩ := hw
        subst e1
        rw [e2] at hP hD; clear e2 v1
        have hP := ya_Pc hP
        have hD := ya_Dc hD
        refine lv_istore (lv' := [(6, .int _), (5, .int _), (4, .int (nI (5 * j))), (3, .ref _), (2, .ref _), (1, .ref _), (0, .ref _)]) hx hb d_L_law_346 hl (by decide) rfl (fun ls hl => ?_)
        refine lv_aload_n hx hb d_L_law_348 rfl (lv_at hl 4 rfl) ?_
        refine yb_calli (n := 0) (own := "TagMemoryLaw") (C := "TagMemoryModel") (wf := wM GM kM) (tys := tyMs kM) hx hb hml hown hts (c_M_thrown l D GM kM _ _ ) (tb_VL wm_382 wm_383 wm_384 wm_2 wm_385) rfl rfl rfl (by decide +kernel) ⟨by show (0 : Nat) + 1 ≤ 11; omega, by show 8 + (1 + 11) + (0 : Nat) ≤ 400; omega⟩ (ya_Kc hK) (ya_Pc hP) (ya_Dc hD) hS hA rfl rfl rfl rfl hl.1 rfl (Nat.le_of_ble_eq_true rfl) d_L_law_349 ⟨by show _ ≤ 1052; omega, by show _ ≤ 15695; omega⟩ (fun r v1 H locs hw hP hD hS => ?_)
        obtain ⟨e1, e2⟩ := hw
        subst e1
        rw [e2] at hP hD; clear e2 v1
        have hP := ya_Pc hP
        have hD := ya_Dc hD
        refine lv_iload hx hb d_L_law_352 (lv_at hl 1 rfl) ?_
        refine lv_icmp_eq (tgt := 359) hx hb d_L_law_354 (by decide) (fun _ => ?_) (fun c9 => absurd rfl c9)
        refine lv_iload hx hb d_L_law_359 (lv_at hl 1 rfl) ?_
        refine lv_if_ne (tgt := 376) hx hb d_L_law_361 (by decide) (fun _ => ?_) (fun c9 => absurd c9 (by decide))
        refine lv_goto (tgt := 792) hx hb d_L_law_376 (by decide) ?_
        have hP : va_P D vwCl (wL GT GM kT kM o ko (u) (f) (nTh v 2)) H := hP
        have hD : va_D (fun q : Nat => s.heap.size ≤ q) (wL GT GM kT kM o ko (u) (f) (nTh v 2)) := hD
        exact kk _ _ _ _ _ _ hR.th hP hD hS (lv_sub hl [2, 3, 4, 5, 6] rfl)
      · rw [h3] at hb0
        refine lv_aload_n hx hb d_L_law_287 rfl (lv_at hl 3 rfl) ?_
        refine lv_aload_n hx hb d_L_law_288 rfl (lv_at hl 4 rfl) ?_
        refine lv_iload hx hb d_L_law_289 (lv_at hl 0 rfl) ?_
        refine lv_iconst (v := 1) hx hb d_L_law_291 (by decide) ?_
        refine xa_iadd hx hb (5 * j) 1 rfl rfl d_L_law_292 ?_
        refine xa_sld hx hb hX hbl hbA hS hL ((5 * j) + 1) rfl (by omega) d_L_law_293 ?_
        refine xa_top (nI a) h1 ?_
        refine lv_aload_n hx hb d_L_law_294 rfl (lv_at hl 4 rfl) ?_
        refine lv_iload hx hb d_L_law_295 (lv_at hl 0 rfl) ?_
        refine lv_iconst (v := 2) hx hb d_L_law_297 (by decide) ?_
        refine xa_iadd hx hb (5 * j) 2 rfl rfl d_L_law_298 ?_
        refine xa_sld hx hb hX hbl hbA hS hL ((5 * j) + 2) rfl (by omega) d_L_law_299 ?_
        refine lv_aload_n hx hb d_L_law_300 rfl (lv_at hl 4 rfl) ?_
        refine lv_iload hx hb d_L_law_301 (lv_at hl 0 rfl) ?_
        refine lv_iconst (v := 3) hx hb d_L_law_303 (by decide) ?_
        refine xa_iadd hx hb (5 * j) 3 rfl rfl d_L_law_304 ?_
        refine xa_sld hx hb hX hbl hbA hS hL ((5 * j) + 3) rfl (by omega) d_L_law_305 ?_
        refine xa_top (nI k) h3 ?_
        refine lv_aload_n hx hb d_L_law_306 rfl (lv_at hl 4 rfl) ?_
        refine lv_iload hx hb d_L_law_307 (lv_at hl 0 rfl) ?_
        refine lv_iconst (v := 4) hx hb d_L_law_309 (by decide) ?_
        refine xa_iadd hx hb (5 * j) 4 rfl rfl d_L_law_310 ?_
        refine xa_sld hx hb hX hbl hbA hS hL ((5 * j) + 4) rfl (by omega) d_L_law_311 ?_
        refine lv_aload_n hx hb d_L_law_312 rfl (lv_at hl 1 rfl) ?_
        refine yc_calls (n := 6) (own := "TagMemoryLaw") (wf := wX GT kT o ko) (tys := tyX kT ko) (wr := wM GM kM v) (tr := tyMs kM) hx hb hml hown hts (x_L_part2 l hl9 D GT kT o ko _ u f a ha (xs (5 * j + 2)) (xs (5 * j + 4)) k hk hbad) (tb_SL wm_246 wm_247 wm_0 wm_248) rfl rfl rfl (by decide +kernel) ⟨by show (8 : Nat) + 1 ≤ 11; omega, by show 8 + (7 + 11) + (160 : Nat) ≤ 400; omega⟩ pxn_blind (fun U hU hW => hLX.pN hLX.2.2.2.2.2.2.2.2.1 hS hU hW) hK hP hD hS hA rfl hl.1 rfl (Nat.le_of_ble_eq_true rfl) d_L_law_313 ⟨by show _ ≤ 1052; omega, by show _ ≤ 15695; omega⟩ (fun r z H locs hw hP hD hS => ?_)
        obtain ⟨e1, e2⟩ := hw
        subst e1
        rw [e2] at hP hD; clear e2 z
        refine lv_istore (lv' := [(5, .int _), (4, .int (nI (5 * j))), (3, .ref _), (2, .ref _), (1, .ref _), (0, .ref _)]) hx hb d_L_law_316 hl (by decide) rfl (fun ls hl => ?_)
        refine lv_aload_n hx hb d_L_law_318 rfl (lv_at hl 3 rfl) ?_
        refine lv_aload_n hx hb d_L_law_319 rfl (lv_at hl 5 rfl) ?_
        refine lv_iload hx hb d_L_law_320 (lv_at hl 1 rfl) ?_
        refine lv_iconst (v := 1) hx hb d_L_law_322 (by decide) ?_
        refine xa_iadd hx hb (5 * j) 1 rfl rfl d_L_law_323 ?_
        refine xa_sld hx hb hX hbl hbA hS hL ((5 * j) + 1) rfl (by omega) d_L_law_324 ?_
        refine xa_top (nI a) h1 ?_
        refine lv_aload_n hx hb d_L_law_325 rfl (lv_at hl 5 rfl) ?_
        refine lv_iload hx hb d_L_law_326 (lv_at hl 1 rfl) ?_
        refine lv_iconst (v := 2) hx hb d_L_law_328 (by decide) ?_
        refine xa_iadd hx hb (5 * j) 2 rfl rfl d_L_law_329 ?_
        refine xa_sld hx hb hX hbl hbA hS hL ((5 * j) + 2) rfl (by omega) d_L_law_330 ?_
        refine lv_aload_n hx hb d_L_law_331 rfl (lv_at hl 5 rfl) ?_
        refine lv_iload hx hb d_L_law_332 (lv_at hl 1 rfl) ?_
        refine lv_iconst (v := 3) hx hb d_L_law_334 (by decide) ?_
        refine xa_iadd hx hb (5 * j) 3 rfl rfl d_L_law_335 ?_
        refine xa_sld hx hb hX hbl hbA hS hL ((5 * j) + 3) rfl (by omega) d_L_law_336 ?_
        refine xa_top (nI k) h3 ?_
        refine lv_aload_n hx hb d_L_law_337 rfl (lv_at hl 5 rfl) ?_
        refine lv_iload hx hb d_L_law_338 (lv_at hl 1 rfl) ?_
        refine lv_iconst (v := 4) hx hb d_L_law_340 (by decide) ?_
        refine xa_iadd hx hb (5 * j) 4 rfl rfl d_L_law_341 ?_
        refine xa_sld hx hb hX hbl hbA hS hL ((5 * j) + 4) rfl (by omega) d_L_law_342 ?_
        refine yb_calli (n := 4) (own := "TagMemoryLaw") (C := "TagMemoryModel") (wf := wM GM kM) (tys := tyMs kM) hx hb hml hown hts (x_M_part2 l D GM kM _ _ a ha (xs (5 * j + 2)) (nI k) (xs (5 * j + 4)) hb0) (tb_VL wm_422 wm_423 wm_424 wm_2 wm_425) rfl rfl rfl (by decide +kernel) ⟨by show (1 : Nat) + 1 ≤ 11; omega, by show 8 + (6 + 11) + (22 : Nat) ≤ 400; omega⟩ (ya_Kc hK) (ya_Pc hP) (ya_Dc hD) hS hA rfl rfl rfl rfl hl.1 rfl (Nat.le_of_ble_eq_true rfl) d_L_law_343 ⟨by show _ ≤ 1052; omega, by show _ ≤ 15695; omega⟩ (fun r v1 H locs hw hP hD hS => ?_)
        obtain ⟨e1, e2⟩ := hw
        subst e1
        rw [e2] at hP hD; clear e2 v1
        have hP := ya_Pc hP
        have hD := ya_Dc hD
        refine lv_istore (lv' := [(6, .int _), (5, .int _), (4, .int (nI (5 * j))), (3, .ref _), (2, .ref _), (1, .ref _), (0, .ref _)]) hx hb d_L_law_346 hl (by decide) rfl (fun ls hl => ?_)
        refine lv_aload_n hx hb d_L_law_348 rfl (lv_at hl 4 rfl) ?_
        refine yb_calli (n := 0) (own := "TagMemoryLaw") (C := "TagMemoryModel") (wf := wM GM kM) (tys := tyMs kM) hx hb hml hown hts (c_M_thrown l D GM kM _ _ ) (tb_VL wm_382 wm_383 wm_384 wm_2 wm_385) rfl rfl rfl (by decide +kernel) ⟨by show (0 : Nat) + 1 ≤ 11; omega, by show 8 + (1 + 11) + (0 : Nat) ≤ 400; omega⟩ (ya_Kc hK) (ya_Pc hP) (ya_Dc hD) hS hA rfl rfl rfl rfl hl.1 rfl (Nat.le_of_ble_eq_true rfl) d_L_law_349 ⟨by show _ ≤ 1052; omega, by show _ ≤ 15695; omega⟩ (fun r v1 H locs hw hP hD hS => ?_)
        obtain ⟨e1, e2⟩ := hw
        subst e1
        rw [e2] at hP hD; clear e2 v1
        have hP := ya_Pc hP
        have hD := ya_Dc hD
        refine lv_iload hx hb d_L_law_352 (lv_at hl 1 rfl) ?_
        refine lv_icmp_eq (tgt := 359) hx hb d_L_law_354 (by decide) (fun _ => ?_) (fun c9 => absurd rfl c9)
        refine lv_iload hx hb d_L_law_359 (lv_at hl 1 rfl) ?_
        refine lv_if_ne (tgt := 376) hx hb d_L_law_361 (by decide) (fun _ => ?_) (fun c9 => absurd c9 (by decide))
        refine lv_goto (tgt := 792) hx hb d_L_law_376 (by decide) ?_
        have hP : va_P D vwCl (wL GT GM kT kM o ko (u) (f) (nTh v 2)) H := hP
        have hD : va_D (fun q : Nat => s.heap.size ≤ q) (wL GT GM kT kM o ko (u) (f) (nTh v 2)) := hD
        exact kk _ _ _ _ _ _ hR.th hP hD hS (lv_sub hl [2, 3, 4, 5, 6] rfl)
    · skip
      obtain ⟨hR1, hans, hth⟩ := sim_part (w := xs (5 * j + 4)) hR ha hi hk hd
      refine lv_aload_n hx hb d_L_law_287 rfl (lv_at hl 3 rfl) ?_
      refine lv_aload_n hx hb d_L_law_288 rfl (lv_at hl 4 rfl) ?_
      refine lv_iload hx hb d_L_law_289 (lv_at hl 0 rfl) ?_
      refine lv_iconst (v := 1) hx hb d_L_law_291 (by decide) ?_
      refine xa_iadd hx hb (5 * j) 1 rfl rfl d_L_law_292 ?_
      refine xa_sld hx hb hX hbl hbA hS hL ((5 * j) + 1) rfl (by omega) d_L_law_293 ?_
      refine xa_top (nI a) h1 ?_
      refine lv_aload_n hx hb d_L_law_294 rfl (lv_at hl 4 rfl) ?_
      refine lv_iload hx hb d_L_law_295 (lv_at hl 0 rfl) ?_
      refine lv_iconst (v := 2) hx hb d_L_law_297 (by decide) ?_
      refine xa_iadd hx hb (5 * j) 2 rfl rfl d_L_law_298 ?_
      refine xa_sld hx hb hX hbl hbA hS hL ((5 * j) + 2) rfl (by omega) d_L_law_299 ?_
      refine xa_top (nI i) h2 ?_
      refine lv_aload_n hx hb d_L_law_300 rfl (lv_at hl 4 rfl) ?_
      refine lv_iload hx hb d_L_law_301 (lv_at hl 0 rfl) ?_
      refine lv_iconst (v := 3) hx hb d_L_law_303 (by decide) ?_
      refine xa_iadd hx hb (5 * j) 3 rfl rfl d_L_law_304 ?_
      refine xa_sld hx hb hX hbl hbA hS hL ((5 * j) + 3) rfl (by omega) d_L_law_305 ?_
      refine xa_top (nI k) h3 ?_
      refine lv_aload_n hx hb d_L_law_306 rfl (lv_at hl 4 rfl) ?_
      refine lv_iload hx hb d_L_law_307 (lv_at hl 0 rfl) ?_
      refine lv_iconst (v := 4) hx hb d_L_law_309 (by decide) ?_
      refine xa_iadd hx hb (5 * j) 4 rfl rfl d_L_law_310 ?_
      refine xa_sld hx hb hX hbl hbA hS hL ((5 * j) + 4) rfl (by omega) d_L_law_311 ?_
      refine lv_aload_n hx hb d_L_law_312 rfl (lv_at hl 1 rfl) ?_
      refine yc_calls (n := 6) (own := "TagMemoryLaw") (wf := wX GT kT o ko) (tys := tyX kT ko) (wr := wM GM kM v) (tr := tyMs kM) hx hb hml hown hts (c_L_part l D GT kT o ko _ u f a i k ha hi hk hd (xs (5 * j + 4)) (by exact hR.tI)) (tb_SL wm_246 wm_247 wm_0 wm_248) rfl rfl rfl (by decide +kernel) ⟨by show (8 : Nat) + 1 ≤ 11; omega, by show 8 + (7 + 11) + (160 : Nat) ≤ 400; omega⟩ (fun _ _ _ _ h => h) (fun _ _ _ => trivial) hK hP hD hS hA rfl hl.1 rfl (Nat.le_of_ble_eq_true rfl) d_L_law_313 ⟨by show _ ≤ 1052; omega, by show _ ≤ 15695; omega⟩ (fun r z H locs hw hP hD hS => ?_)
      obtain ⟨e1, e2⟩ := hw
      subst e1
      rw [e2] at hP hD; clear e2 z
      refine lv_istore (lv' := [(5, .int _), (4, .int (nI (5 * j))), (3, .ref _), (2, .ref _), (1, .ref _), (0, .ref _)]) hx hb d_L_law_316 hl (by decide) rfl (fun ls hl => ?_)
      refine lv_aload_n hx hb d_L_law_318 rfl (lv_at hl 3 rfl) ?_
      refine lv_aload_n hx hb d_L_law_319 rfl (lv_at hl 5 rfl) ?_
      refine lv_iload hx hb d_L_law_320 (lv_at hl 1 rfl) ?_
      refine lv_iconst (v := 1) hx hb d_L_law_322 (by decide) ?_
      refine xa_iadd hx hb (5 * j) 1 rfl rfl d_L_law_323 ?_
      refine xa_sld hx hb hX hbl hbA hS hL ((5 * j) + 1) rfl (by omega) d_L_law_324 ?_
      refine xa_top (nI a) h1 ?_
      refine lv_aload_n hx hb d_L_law_325 rfl (lv_at hl 5 rfl) ?_
      refine lv_iload hx hb d_L_law_326 (lv_at hl 1 rfl) ?_
      refine lv_iconst (v := 2) hx hb d_L_law_328 (by decide) ?_
      refine xa_iadd hx hb (5 * j) 2 rfl rfl d_L_law_329 ?_
      refine xa_sld hx hb hX hbl hbA hS hL ((5 * j) + 2) rfl (by omega) d_L_law_330 ?_
      refine xa_top (nI i) h2 ?_
      refine lv_aload_n hx hb d_L_law_331 rfl (lv_at hl 5 rfl) ?_
      refine lv_iload hx hb d_L_law_332 (lv_at hl 1 rfl) ?_
      refine lv_iconst (v := 3) hx hb d_L_law_334 (by decide) ?_
      refine xa_iadd hx hb (5 * j) 3 rfl rfl d_L_law_335 ?_
      refine xa_sld hx hb hX hbl hbA hS hL ((5 * j) + 3) rfl (by omega) d_L_law_336 ?_
      refine xa_top (nI k) h3 ?_
      refine lv_aload_n hx hb d_L_law_337 rfl (lv_at hl 5 rfl) ?_
      refine lv_iload hx hb d_L_law_338 (lv_at hl 1 rfl) ?_
      refine lv_iconst (v := 4) hx hb d_L_law_340 (by decide) ?_
      refine xa_iadd hx hb (5 * j) 4 rfl rfl d_L_law_341 ?_
      refine xa_sld hx hb hX hbl hbA hS hL ((5 * j) + 4) rfl (by omega) d_L_law_342 ?_
      refine yb_calli (n := 4) (own := "TagMemoryLaw") (C := "TagMemoryModel") (wf := wM GM kM) (tys := tyMs kM) hx hb hml hown hts (c_M_part l D GM kM _ _ a i k ha hi hk hd (xs (5 * j + 4)) (by exact hR.mI)) (tb_VL wm_422 wm_423 wm_424 wm_2 wm_425) rfl rfl rfl (by decide +kernel) ⟨by show (5 : Nat) + 1 ≤ 11; omega, by show 8 + (6 + 11) + (112 : Nat) ≤ 400; omega⟩ (ya_Kc hK) (ya_Pc hP) (ya_Dc hD) hS hA rfl rfl rfl rfl hl.1 rfl (Nat.le_of_ble_eq_true rfl) d_L_law_343 ⟨by show _ ≤ 1052; omega, by show _ ≤ 15695; omega⟩ (fun r v1 H locs hw hP hD hS => ?_)
      obtain ⟨e1, e2⟩ := hw
      subst e1
      rw [e2] at hP hD; clear e2 v1
      have hP := ya_Pc hP
      have hD := ya_Dc hD
      refine lv_istore (lv' := [(6, .int _), (5, .int _), (4, .int (nI (5 * j))), (3, .ref _), (2, .ref _), (1, .ref _), (0, .ref _)]) hx hb d_L_law_346 hl (by decide) rfl (fun ls hl => ?_)
      refine lv_aload_n hx hb d_L_law_348 rfl (lv_at hl 4 rfl) ?_
      refine yb_calli (n := 0) (own := "TagMemoryLaw") (C := "TagMemoryModel") (wf := wM GM kM) (tys := tyMs kM) hx hb hml hown hts (c_M_thrown l D GM kM _ _ ) (tb_VL wm_382 wm_383 wm_384 wm_2 wm_385) rfl rfl rfl (by decide +kernel) ⟨by show (0 : Nat) + 1 ≤ 11; omega, by show 8 + (1 + 11) + (0 : Nat) ≤ 400; omega⟩ (ya_Kc hK) (ya_Pc hP) (ya_Dc hD) hS hA rfl rfl rfl rfl hl.1 rfl (Nat.le_of_ble_eq_true rfl) d_L_law_349 ⟨by show _ ≤ 1052; omega, by show _ ≤ 15695; omega⟩ (fun r v1 H locs hw hP hD hS => ?_)
      obtain ⟨e1, e2⟩ := hw
      subst e1
      rw [e2] at hP hD; clear e2 v1
      have hP := ya_Pc hP
      have hD := ya_Dc hD
      refine lv_iload hx hb d_L_law_352 (lv_at hl 1 rfl) ?_
      refine lv_icmp_eq (tgt := 359) hx hb d_L_law_354 (by decide) (fun _ => ?_) (fun c9 => absurd hth c9)
      refine lv_iload hx hb d_L_law_359 (lv_at hl 1 rfl) ?_
      refine lv_if_ne (tgt := 376) hx hb d_L_law_361 (by decide) (fun c9 => absurd rfl c9) (fun _ => ?_)
      refine lv_aload_n hx hb d_L_law_364 rfl (lv_at hl 3 rfl) ?_
      refine lv_iconst (v := 0) hx hb d_L_law_365 (by decide) ?_
      refine xa_lald hx hb hK hP 9 8 rfl rfl (by decide) 0 rfl (by decide) d_L_law_366 ?_
      refine lv_iload hx hb d_L_law_367 (lv_at hl 0 rfl) ?_
      refine lv_i2l hx hb d_L_law_369 rfl ?_
      refine W.lcmp hx hb d_L_law_370 ?_
      refine lv_if_eq (tgt := 376) hx hb d_L_law_371 (by decide) (fun _ => ?_) (fun c9 => absurd (cmp_u (by rw [hans])) c9)
      refine lv_goto (tgt := 792) hx hb d_L_law_376 (by decide) ?_
      have hP : va_P D vwCl (wL GT GM kT kM o ko (fChWord (fWant u (a / 4)) a (fPart (tLw (fWant u (a / 4)) (a % 64)) i k (xs (5 * j + 4)))) (vp_updL f 0 (fPart (tLw (fWant u (a / 4)) (a % 64)) i k (xs (5 * j + 4))).toInt64) (gCh (nTh v 0) a (gPart (mWd v a) i k (xs (5 * j + 4))) 0)) H := hP
      have hD : va_D (fun q : Nat => s.heap.size ≤ q) (wL GT GM kT kM o ko (fChWord (fWant u (a / 4)) a (fPart (tLw (fWant u (a / 4)) (a % 64)) i k (xs (5 * j + 4)))) (vp_updL f 0 (fPart (tLw (fWant u (a / 4)) (a % 64)) i k (xs (5 * j + 4))).toInt64) (gCh (nTh v 0) a (gPart (mWd v a) i k (xs (5 * j + 4))) 0)) := hD
      refine W.widen (k := 20 + j + 1) (n := 7455 + 6 * j + 6) (by omega) (by omega) ?_
      exact kk _ _ _ _ _ _ hR1 hP hD hS (lv_sub hl [2, 3, 4, 5, 6] rfl)
set_option maxHeartbeats 4000000 in
set_option maxRecDepth 100000 in
theorem lc_copy {p : Program} {l : Launch} {e : Env} {s : State} {m : MethodId} {below : List Frame} {meth : Method} {c : Code} {Q : State → Prop} {D : va_G} {GT GM : Nat → Nat} {kT kM : Nat → ClassId} {o : Nat} {ko : ClassId} {b L : Nat} {xs : Nat → Int32} (hl9 : l.stackTraces = false) (hLX : LX s) (hL : L ≤ 2560) (C0 : lw_At p s m meth c b L xs) (hK : va_K D vwCl (tyL kT kM ko) s) (u : TC) (v : TM) (f : Nat → Int64) (hR : REL u v) (j : Nat) (hj : 5 * j + 5 ≤ L) {H : Heap} {locs : List Loc} {ls : Array Slot} (hP : va_P D vwCl (wL GT GM kT kM o ko u f v) H) (hD : va_D (fun q : Nat => s.heap.size ≤ q) (wL GT GM kT kM o ko u f v)) (hS : va_S (fun q : Nat => s.heap.size ≤ q) s.heap H locs) (hl : lv_has ls 7 [(4, .int (nI (5 * j))), (3, .ref o), (2, .ref (GM 0)), (1, .ref (GT 0)), (0, .ref b)]) (kk : ∀ (u : TC) (v : TM) (f : Nat → Int64) (H : Heap) (locs : List Loc) (ls : Array Slot), REL u v → va_P D vwCl (wL GT GM kT kM o ko u f v) H → va_D (fun q : Nat => s.heap.size ≤ q) (wL GT GM kT kM o ko u f v) → va_S (fun q : Nat => s.heap.size ≤ q) s.heap H locs → lv_has ls 7 [(4, .int (nI (5 * j))), (3, .ref o), (2, .ref (GM 0)), (1, .ref (GT 0)), (0, .ref b)] → W p l e room_1 s m #[Value.ref b] below meth c H locs (20 + j + 1) (7455 + 6 * j + 6) Q (F0 m 792 ls [])) : W p l e room_1 s m #[Value.ref b] below meth c H locs (20 + j) (7455 + 6 * j) Q (F0 m 467 ls []) := by
  obtain ⟨hx, hb, hr, hml, hown, hts, hX, hbl, hlocks, hgv⟩ := C0
  have hA : ∀ q : Nat, s.heap.size ≤ q → (fun q : Nat => s.heap.size ≤ q) q := fun _ h => h
  have hbA : ¬ (fun q : Nat => s.heap.size ≤ q) b := Nat.not_le.mpr hbl
  have hj5 : j < 512 := by omega
  rcases xbad_or (N := 1024) (by decide) (xs (5 * j + 2)) with hbad | ⟨g, hg, h2⟩
  · skip
    refine lv_aload_n hx hb d_L_law_467 rfl (lv_at hl 3 rfl) ?_
    refine lv_aload_n hx hb d_L_law_468 rfl (lv_at hl 4 rfl) ?_
    refine lv_iload hx hb d_L_law_469 (lv_at hl 0 rfl) ?_
    refine lv_iconst (v := 1) hx hb d_L_law_471 (by decide) ?_
    refine xa_iadd hx hb (5 * j) 1 rfl rfl d_L_law_472 ?_
    refine xa_sld hx hb hX hbl hbA hS hL ((5 * j) + 1) rfl (by omega) d_L_law_473 ?_
    refine lv_aload_n hx hb d_L_law_474 rfl (lv_at hl 4 rfl) ?_
    refine lv_iload hx hb d_L_law_475 (lv_at hl 0 rfl) ?_
    refine lv_iconst (v := 2) hx hb d_L_law_477 (by decide) ?_
    refine xa_iadd hx hb (5 * j) 2 rfl rfl d_L_law_478 ?_
    refine xa_sld hx hb hX hbl hbA hS hL ((5 * j) + 2) rfl (by omega) d_L_law_479 ?_
    refine lv_aload_n hx hb d_L_law_480 rfl (lv_at hl 1 rfl) ?_
    refine yc_calls (n := 4) (own := "TagMemoryLaw") (wf := wX GT kT o ko) (tys := tyX kT ko) (wr := wM GM kM v) (tr := tyMs kM) hx hb hml hown hts (x_L_copy1 l hl9 D GT kT o ko _ u f (xs (5 * j + 1)) (xs (5 * j + 2)) hbad) (tb_SL wm_290 wm_291 wm_0 wm_292) rfl rfl rfl (by decide +kernel) ⟨by show (8 : Nat) + 1 ≤ 11; omega, by show 8 + (5 + 11) + (160 : Nat) ≤ 400; omega⟩ pxe_blind (fun U hU hW => hLX.pI hLX.2.2.2.2.2.2.2.2.2.1 hS hU hW) hK hP hD hS hA rfl hl.1 rfl (Nat.le_of_ble_eq_true rfl) d_L_law_481 ⟨by show _ ≤ 1052; omega, by show _ ≤ 15695; omega⟩ (fun r z H locs hw hP hD hS => ?_)
    obtain ⟨e1, e2⟩ := hw
    subst e1
    rw [e2] at hP hD; clear e2 z
    refine lv_istore (lv' := [(5, .int _), (4, .int (nI (5 * j))), (3, .ref _), (2, .ref _), (1, .ref _), (0, .ref _)]) hx hb d_L_law_484 hl (by decide) rfl (fun ls hl => ?_)
    refine lv_aload_n hx hb d_L_law_486 rfl (lv_at hl 3 rfl) ?_
    refine lv_aload_n hx hb d_L_law_487 rfl (lv_at hl 5 rfl) ?_
    refine lv_iload hx hb d_L_law_488 (lv_at hl 1 rfl) ?_
    refine lv_iconst (v := 1) hx hb d_L_law_490 (by decide) ?_
    refine xa_iadd hx hb (5 * j) 1 rfl rfl d_L_law_491 ?_
    refine xa_sld hx hb hX hbl hbA hS hL ((5 * j) + 1) rfl (by omega) d_L_law_492 ?_
    refine lv_aload_n hx hb d_L_law_493 rfl (lv_at hl 5 rfl) ?_
    refine lv_iload hx hb d_L_law_494 (lv_at hl 1 rfl) ?_
    refine lv_iconst (v := 2) hx hb d_L_law_496 (by decide) ?_
    refine xa_iadd hx hb (5 * j) 2 rfl rfl d_L_law_497 ?_
    refine xa_sld hx hb hX hbl hbA hS hL ((5 * j) + 2) rfl (by omega) d_L_law_498 ?_
    refine yb_calli (n := 2) (own := "TagMemoryLaw") (C := "TagMemoryModel") (wf := wM GM kM) (tys := tyMs kM) hx hb hml hown hts (x_M_copy l D GM kM _ _ (xs (5 * j + 1)) (xs (5 * j + 2)) (Or.inl hbad)) (tb_VL wm_431 wm_432 wm_433 wm_2 wm_434) rfl rfl rfl (by decide +kernel) ⟨by show (1 : Nat) + 1 ≤ 11; omega, by show 8 + (4 + 11) + (22 : Nat) ≤ 400; omega⟩ (ya_Kc hK) (ya_Pc hP) (ya_Dc hD) hS hA rfl rfl rfl rfl hl.1 rfl (Nat.le_of_ble_eq_true rfl) d_L_law_499 ⟨by show _ ≤ 1052; omega, by show _ ≤ 15695; omega⟩ (fun r v1 H locs hw hP hD hS => ?_)
    obtain ⟨e1, e2⟩ := hw
    subst e1
    rw [e2] at hP hD; clear e2 v1
    have hP := ya_Pc hP
    have hD := ya_Dc hD
    refine lv_istore (lv' := [(6, .int _), (5, .int _), (4, .int (nI (5 * j))), (3, .ref _), (2, .ref _), (1, .ref _), (0, .ref _)]) hx hb d_L_law_502 hl (by decide) rfl (fun ls hl => ?_)
    refine lv_aload_n hx hb d_L_law_504 rfl (lv_at hl 4 rfl) ?_
    refine yb_calli (n := 0) (own := "TagMemoryLaw") (C := "TagMemoryModel") (wf := wM GM kM) (tys := tyMs kM) hx hb hml hown hts (c_M_thrown l D GM kM _ _ ) (tb_VL wm_382 wm_383 wm_384 wm_2 wm_385) rfl rfl rfl (by decide +kernel) ⟨by show (0 : Nat) + 1 ≤ 11; omega, by show 8 + (1 + 11) + (0 : Nat) ≤ 400; omega⟩ (ya_Kc hK) (ya_Pc hP) (ya_Dc hD) hS hA rfl rfl rfl rfl hl.1 rfl (Nat.le_of_ble_eq_true rfl) d_L_law_505 ⟨by show _ ≤ 1052; omega, by show _ ≤ 15695; omega⟩ (fun r v1 H locs hw hP hD hS => ?_)
    obtain ⟨e1, e2⟩ := hw
    subst e1
    rw [e2] at hP hD; clear e2 v1
    have hP := ya_Pc hP
    have hD := ya_Dc hD
    refine lv_iload hx hb d_L_law_508 (lv_at hl 1 rfl) ?_
    refine lv_icmp_eq (tgt := 515) hx hb d_L_law_510 (by decide) (fun _ => ?_) (fun c9 => absurd rfl c9)
    refine lv_iload hx hb d_L_law_515 (lv_at hl 1 rfl) ?_
    refine lv_if_ne (tgt := 539) hx hb d_L_law_517 (by decide) (fun _ => ?_) (fun c9 => absurd c9 (by decide))
    refine lv_goto (tgt := 792) hx hb d_L_law_539 (by decide) ?_
    have hP : va_P D vwCl (wL GT GM kT kM o ko (u) (f) (nTh v 1)) H := hP
    have hD : va_D (fun q : Nat => s.heap.size ≤ q) (wL GT GM kT kM o ko (u) (f) (nTh v 1)) := hD
    exact kk _ _ _ _ _ _ hR.th hP hD hS (lv_sub hl [2, 3, 4, 5, 6] rfl)
  · rcases xbad_or (N := 1024) (by decide) (xs (5 * j + 1)) with hbad | ⟨a, ha, h1⟩
    · skip
      refine lv_aload_n hx hb d_L_law_467 rfl (lv_at hl 3 rfl) ?_
      refine lv_aload_n hx hb d_L_law_468 rfl (lv_at hl 4 rfl) ?_
      refine lv_iload hx hb d_L_law_469 (lv_at hl 0 rfl) ?_
      refine lv_iconst (v := 1) hx hb d_L_law_471 (by decide) ?_
      refine xa_iadd hx hb (5 * j) 1 rfl rfl d_L_law_472 ?_
      refine xa_sld hx hb hX hbl hbA hS hL ((5 * j) + 1) rfl (by omega) d_L_law_473 ?_
      refine lv_aload_n hx hb d_L_law_474 rfl (lv_at hl 4 rfl) ?_
      refine lv_iload hx hb d_L_law_475 (lv_at hl 0 rfl) ?_
      refine lv_iconst (v := 2) hx hb d_L_law_477 (by decide) ?_
      refine xa_iadd hx hb (5 * j) 2 rfl rfl d_L_law_478 ?_
      refine xa_sld hx hb hX hbl hbA hS hL ((5 * j) + 2) rfl (by omega) d_L_law_479 ?_
      refine xa_top (nI g) h2 ?_
      refine lv_aload_n hx hb d_L_law_480 rfl (lv_at hl 1 rfl) ?_
      refine yc_calls (n := 4) (own := "TagMemoryLaw") (wf := wX GT kT o ko) (tys := tyX kT ko) (wr := wM GM kM v) (tr := tyMs kM) hx hb hml hown hts (x_L_copy2 l hl9 D GT kT o ko _ u f (xs (5 * j + 1)) g hg hbad) (tb_SL wm_290 wm_291 wm_0 wm_292) rfl rfl rfl (by decide +kernel) ⟨by show (8 : Nat) + 1 ≤ 11; omega, by show 8 + (5 + 11) + (160 : Nat) ≤ 400; omega⟩ pxe_blind (fun U hU hW => hLX.pI hLX.2.2.2.2.2.2.2.2.2.1 hS hU hW) hK hP hD hS hA rfl hl.1 rfl (Nat.le_of_ble_eq_true rfl) d_L_law_481 ⟨by show _ ≤ 1052; omega, by show _ ≤ 15695; omega⟩ (fun r z H locs hw hP hD hS => ?_)
      obtain ⟨e1, e2⟩ := hw
      subst e1
      rw [e2] at hP hD; clear e2 z
      refine lv_istore (lv' := [(5, .int _), (4, .int (nI (5 * j))), (3, .ref _), (2, .ref _), (1, .ref _), (0, .ref _)]) hx hb d_L_law_484 hl (by decide) rfl (fun ls hl => ?_)
      refine lv_aload_n hx hb d_L_law_486 rfl (lv_at hl 3 rfl) ?_
      refine lv_aload_n hx hb d_L_law_487 rfl (lv_at hl 5 rfl) ?_
      refine lv_iload hx hb d_L_law_488 (lv_at hl 1 rfl) ?_
      refine lv_iconst (v := 1) hx hb d_L_law_490 (by decide) ?_
      refine xa_iadd hx hb (5 * j) 1 rfl rfl d_L_law_491 ?_
      refine xa_sld hx hb hX hbl hbA hS hL ((5 * j) + 1) rfl (by omega) d_L_law_492 ?_
      refine lv_aload_n hx hb d_L_law_493 rfl (lv_at hl 5 rfl) ?_
      refine lv_iload hx hb d_L_law_494 (lv_at hl 1 rfl) ?_
      refine lv_iconst (v := 2) hx hb d_L_law_496 (by decide) ?_
      refine xa_iadd hx hb (5 * j) 2 rfl rfl d_L_law_497 ?_
      refine xa_sld hx hb hX hbl hbA hS hL ((5 * j) + 2) rfl (by omega) d_L_law_498 ?_
      refine xa_top (nI g) h2 ?_
      refine yb_calli (n := 2) (own := "TagMemoryLaw") (C := "TagMemoryModel") (wf := wM GM kM) (tys := tyMs kM) hx hb hml hown hts (x_M_copy l D GM kM _ _ (xs (5 * j + 1)) (nI g) (Or.inr ⟨g, hg, rfl, hbad⟩)) (tb_VL wm_431 wm_432 wm_433 wm_2 wm_434) rfl rfl rfl (by decide +kernel) ⟨by show (1 : Nat) + 1 ≤ 11; omega, by show 8 + (4 + 11) + (22 : Nat) ≤ 400; omega⟩ (ya_Kc hK) (ya_Pc hP) (ya_Dc hD) hS hA rfl rfl rfl rfl hl.1 rfl (Nat.le_of_ble_eq_true rfl) d_L_law_499 ⟨by show _ ≤ 1052; omega, by show _ ≤ 15695; omega⟩ (fun r v1 H locs hw hP hD hS => ?_)
      obtain ⟨e1, e2⟩ := hw
      subst e1
      rw [e2] at hP hD; clear e2 v1
      have hP := ya_Pc hP
      have hD := ya_Dc hD
      refine lv_istore (lv' := [(6, .int _), (5, .int _), (4, .int (nI (5 * j))), (3, .ref _), (2, .ref _), (1, .ref _), (0, .ref _)]) hx hb d_L_law_502 hl (by decide) rfl (fun ls hl => ?_)
      refine lv_aload_n hx hb d_L_law_504 rfl (lv_at hl 4 rfl) ?_
      refine yb_calli (n := 0) (own := "TagMemoryLaw") (C := "TagMemoryModel") (wf := wM GM kM) (tys := tyMs kM) hx hb hml hown hts (c_M_thrown l D GM kM _ _ ) (tb_VL wm_382 wm_383 wm_384 wm_2 wm_385) rfl rfl rfl (by decide +kernel) ⟨by show (0 : Nat) + 1 ≤ 11; omega, by show 8 + (1 + 11) + (0 : Nat) ≤ 400; omega⟩ (ya_Kc hK) (ya_Pc hP) (ya_Dc hD) hS hA rfl rfl rfl rfl hl.1 rfl (Nat.le_of_ble_eq_true rfl) d_L_law_505 ⟨by show _ ≤ 1052; omega, by show _ ≤ 15695; omega⟩ (fun r v1 H locs hw hP hD hS => ?_)
      obtain ⟨e1, e2⟩ := hw
      subst e1
      rw [e2] at hP hD; clear e2 v1
      have hP := ya_Pc hP
      have hD := ya_Dc hD
      refine lv_iload hx hb d_L_law_508 (lv_at hl 1 rfl) ?_
      refine lv_icmp_eq (tgt := 515) hx hb d_L_law_510 (by decide) (fun _ => ?_) (fun c9 => absurd rfl c9)
      refine lv_iload hx hb d_L_law_515 (lv_at hl 1 rfl) ?_
      refine lv_if_ne (tgt := 539) hx hb d_L_law_517 (by decide) (fun _ => ?_) (fun c9 => absurd c9 (by decide))
      refine lv_goto (tgt := 792) hx hb d_L_law_539 (by decide) ?_
      have hP : va_P D vwCl (wL GT GM kT kM o ko (u) (f) (nTh v 1)) H := hP
      have hD : va_D (fun q : Nat => s.heap.size ≤ q) (wL GT GM kT kM o ko (u) (f) (nTh v 1)) := hD
      exact kk _ _ _ _ _ _ hR.th hP hD hS (lv_sub hl [2, 3, 4, 5, 6] rfl)
    · skip
      obtain ⟨hR1, hans, hth⟩ := sim_copy hR ha hg
      by_cases hb0 : mTg (gWant (nTh v 0) (g / 2)) g = 0
      · skip
        refine lv_aload_n hx hb d_L_law_467 rfl (lv_at hl 3 rfl) ?_
        refine lv_aload_n hx hb d_L_law_468 rfl (lv_at hl 4 rfl) ?_
        refine lv_iload hx hb d_L_law_469 (lv_at hl 0 rfl) ?_
        refine lv_iconst (v := 1) hx hb d_L_law_471 (by decide) ?_
        refine xa_iadd hx hb (5 * j) 1 rfl rfl d_L_law_472 ?_
        refine xa_sld hx hb hX hbl hbA hS hL ((5 * j) + 1) rfl (by omega) d_L_law_473 ?_
        refine xa_top (nI a) h1 ?_
        refine lv_aload_n hx hb d_L_law_474 rfl (lv_at hl 4 rfl) ?_
        refine lv_iload hx hb d_L_law_475 (lv_at hl 0 rfl) ?_
        refine lv_iconst (v := 2) hx hb d_L_law_477 (by decide) ?_
        refine xa_iadd hx hb (5 * j) 2 rfl rfl d_L_law_478 ?_
        refine xa_sld hx hb hX hbl hbA hS hL ((5 * j) + 2) rfl (by omega) d_L_law_479 ?_
        refine xa_top (nI g) h2 ?_
        refine lv_aload_n hx hb d_L_law_480 rfl (lv_at hl 1 rfl) ?_
        refine yc_calls (n := 4) (own := "TagMemoryLaw") (wf := wX GT kT o ko) (tys := tyX kT ko) (wr := wM GM kM v) (tr := tyMs kM) hx hb hml hown hts (c_L_copy l D GT kT o ko _ u f a g ha hg (by exact hR.tI)) (tb_SL wm_290 wm_291 wm_0 wm_292) rfl rfl rfl (by decide +kernel) ⟨by show (8 : Nat) + 1 ≤ 11; omega, by show 8 + (5 + 11) + (160 : Nat) ≤ 400; omega⟩ (fun _ _ _ _ h => h) (fun _ _ _ => trivial) hK hP hD hS hA rfl hl.1 rfl (Nat.le_of_ble_eq_true rfl) d_L_law_481 ⟨by show _ ≤ 1052; omega, by show _ ≤ 15695; omega⟩ (fun r z H locs hw hP hD hS => ?_)
        obtain ⟨e1, e2⟩ := hw
        subst e1
        rw [e2] at hP hD; clear e2 z
        refine lv_istore (lv' := [(5, .int _), (4, .int (nI (5 * j))), (3, .ref _), (2, .ref _), (1, .ref _), (0, .ref _)]) hx hb d_L_law_484 hl (by decide) rfl (fun ls hl => ?_)
        refine lv_aload_n hx hb d_L_law_486 rfl (lv_at hl 3 rfl) ?_
        refine lv_aload_n hx hb d_L_law_487 rfl (lv_at hl 5 rfl) ?_
        refine lv_iload hx hb d_L_law_488 (lv_at hl 1 rfl) ?_
        refine lv_iconst (v := 1) hx hb d_L_law_490 (by decide) ?_
        refine xa_iadd hx hb (5 * j) 1 rfl rfl d_L_law_491 ?_
        refine xa_sld hx hb hX hbl hbA hS hL ((5 * j) + 1) rfl (by omega) d_L_law_492 ?_
        refine xa_top (nI a) h1 ?_
        refine lv_aload_n hx hb d_L_law_493 rfl (lv_at hl 5 rfl) ?_
        refine lv_iload hx hb d_L_law_494 (lv_at hl 1 rfl) ?_
        refine lv_iconst (v := 2) hx hb d_L_law_496 (by decide) ?_
        refine xa_iadd hx hb (5 * j) 2 rfl rfl d_L_law_497 ?_
        refine xa_sld hx hb hX hbl hbA hS hL ((5 * j) + 2) rfl (by omega) d_L_law_498 ?_
        refine xa_top (nI g) h2 ?_
        refine yb_calli (n := 2) (own := "TagMemoryLaw") (C := "TagMemoryModel") (wf := wM GM kM) (tys := tyMs kM) hx hb hml hown hts (c_M_copy l D GM kM _ _ a g ha hg (by exact hR.mI)) (tb_VL wm_431 wm_432 wm_433 wm_2 wm_434) rfl rfl rfl (by decide +kernel) ⟨by show (5 : Nat) + 1 ≤ 11; omega, by show 8 + (4 + 11) + (112 : Nat) ≤ 400; omega⟩ (ya_Kc hK) (ya_Pc hP) (ya_Dc hD) hS hA rfl rfl rfl rfl hl.1 rfl (Nat.le_of_ble_eq_true rfl) d_L_law_499 ⟨by show _ ≤ 1052; omega, by show _ ≤ 15695; omega⟩ (fun r v1 H locs hw hP hD hS => ?_)
        obtain ⟨e1, e2⟩ := hw
        subst e1
        rw [e2] at hP hD; clear e2 v1
        have hP := ya_Pc hP
        have hD := ya_Dc hD
        refine lv_istore (lv' := [(6, .int _), (5, .int _), (4, .int (nI (5 * j))), (3, .ref _), (2, .ref _), (1, .ref _), (0, .ref _)]) hx hb d_L_law_502 hl (by decide) rfl (fun ls hl => ?_)
        refine lv_aload_n hx hb d_L_law_504 rfl (lv_at hl 4 rfl) ?_
        refine yb_calli (n := 0) (own := "TagMemoryLaw") (C := "TagMemoryModel") (wf := wM GM kM) (tys := tyMs kM) hx hb hml hown hts (c_M_thrown l D GM kM _ _ ) (tb_VL wm_382 wm_383 wm_384 wm_2 wm_385) rfl rfl rfl (by decide +kernel) ⟨by show (0 : Nat) + 1 ≤ 11; omega, by show 8 + (1 + 11) + (0 : Nat) ≤ 400; omega⟩ (ya_Kc hK) (ya_Pc hP) (ya_Dc hD) hS hA rfl rfl rfl rfl hl.1 rfl (Nat.le_of_ble_eq_true rfl) d_L_law_505 ⟨by show _ ≤ 1052; omega, by show _ ≤ 15695; omega⟩ (fun r v1 H locs hw hP hD hS => ?_)
        obtain ⟨e1, e2⟩ := hw
        subst e1
        rw [e2] at hP hD; clear e2 v1
        have hP := ya_Pc hP
        have hD := ya_Dc hD
        refine lv_iload hx hb d_L_law_508 (lv_at hl 1 rfl) ?_
        refine lv_icmp_eq (tgt := 515) hx hb d_L_law_510 (by decide) (fun _ => ?_) (fun c9 => absurd hth c9)
        refine lv_iload hx hb d_L_law_515 (lv_at hl 1 rfl) ?_
        refine lv_if_ne (tgt := 539) hx hb d_L_law_517 (by decide) (fun c9 => absurd rfl c9) (fun _ => ?_)
        refine lv_aload_n hx hb d_L_law_520 rfl (lv_at hl 3 rfl) ?_
        refine lv_iconst (v := 0) hx hb d_L_law_521 (by decide) ?_
        refine xa_lald hx hb hK hP 9 8 rfl rfl (by decide) 0 rfl (by decide) d_L_law_522 ?_
        refine lv_iload hx hb d_L_law_523 (lv_at hl 0 rfl) ?_
        refine lv_if_eq (tgt := 532) hx hb d_L_law_525 (by decide) (fun _ => ?_) (fun c9 => absurd hb0 c9)
        refine lv_lconst (v := 0) hx hb d_L_law_532 (by decide) ?_
        refine W.lcmp hx hb d_L_law_533 ?_
        refine lv_if_eq (tgt := 539) hx hb d_L_law_534 (by decide) (fun _ => ?_) (fun c9 => absurd (cmp_u (by rw [hans]; unfold outB; rw [if_pos hb0])) c9)
        refine lv_goto (tgt := 792) hx hb d_L_law_539 (by decide) ?_
        have hP : va_P D vwCl (wL GT GM kT kM o ko (fCopy2 (fWant u (g / 2)) a g) (vp_updL f 0 (outB (rTag (fWant u (g / 2)) g))) (gCopy (gWant (nTh v 0) (g / 2)) a g)) H := hP
        have hD : va_D (fun q : Nat => s.heap.size ≤ q) (wL GT GM kT kM o ko (fCopy2 (fWant u (g / 2)) a g) (vp_updL f 0 (outB (rTag (fWant u (g / 2)) g))) (gCopy (gWant (nTh v 0) (g / 2)) a g)) := hD
        refine W.widen (k := 20 + j + 1) (n := 7455 + 6 * j + 6) (by omega) (by omega) ?_
        exact kk _ _ _ _ _ _ hR1 hP hD hS (lv_sub hl [2, 3, 4, 5, 6] rfl)
      · skip
        refine lv_aload_n hx hb d_L_law_467 rfl (lv_at hl 3 rfl) ?_
        refine lv_aload_n hx hb d_L_law_468 rfl (lv_at hl 4 rfl) ?_
        refine lv_iload hx hb d_L_law_469 (lv_at hl 0 rfl) ?_
        refine lv_iconst (v := 1) hx hb d_L_law_471 (by decide) ?_
        refine xa_iadd hx hb (5 * j) 1 rfl rfl d_L_law_472 ?_
        refine xa_sld hx hb hX hbl hbA hS hL ((5 * j) + 1) rfl (by omega) d_L_law_473 ?_
        refine xa_top (nI a) h1 ?_
        refine lv_aload_n hx hb d_L_law_474 rfl (lv_at hl 4 rfl) ?_
        refine lv_iload hx hb d_L_law_475 (lv_at hl 0 rfl) ?_
        refine lv_iconst (v := 2) hx hb d_L_law_477 (by decide) ?_
        refine xa_iadd hx hb (5 * j) 2 rfl rfl d_L_law_478 ?_
        refine xa_sld hx hb hX hbl hbA hS hL ((5 * j) + 2) rfl (by omega) d_L_law_479 ?_
        refine xa_top (nI g) h2 ?_
        refine lv_aload_n hx hb d_L_law_480 rfl (lv_at hl 1 rfl) ?_
        refine yc_calls (n := 4) (own := "TagMemoryLaw") (wf := wX GT kT o ko) (tys := tyX kT ko) (wr := wM GM kM v) (tr := tyMs kM) hx hb hml hown hts (c_L_copy l D GT kT o ko _ u f a g ha hg (by exact hR.tI)) (tb_SL wm_290 wm_291 wm_0 wm_292) rfl rfl rfl (by decide +kernel) ⟨by show (8 : Nat) + 1 ≤ 11; omega, by show 8 + (5 + 11) + (160 : Nat) ≤ 400; omega⟩ (fun _ _ _ _ h => h) (fun _ _ _ => trivial) hK hP hD hS hA rfl hl.1 rfl (Nat.le_of_ble_eq_true rfl) d_L_law_481 ⟨by show _ ≤ 1052; omega, by show _ ≤ 15695; omega⟩ (fun r z H locs hw hP hD hS => ?_)
        obtain ⟨e1, e2⟩ := hw
        subst e1
        rw [e2] at hP hD; clear e2 z
        refine lv_istore (lv' := [(5, .int _), (4, .int (nI (5 * j))), (3, .ref _), (2, .ref _), (1, .ref _), (0, .ref _)]) hx hb d_L_law_484 hl (by decide) rfl (fun ls hl => ?_)
        refine lv_aload_n hx hb d_L_law_486 rfl (lv_at hl 3 rfl) ?_
        refine lv_aload_n hx hb d_L_law_487 rfl (lv_at hl 5 rfl) ?_
        refine lv_iload hx hb d_L_law_488 (lv_at hl 1 rfl) ?_
        refine lv_iconst (v := 1) hx hb d_L_law_490 (by decide) ?_
        refine xa_iadd hx hb (5 * j) 1 rfl rfl d_L_law_491 ?_
        refine xa_sld hx hb hX hbl hbA hS hL ((5 * j) + 1) rfl (by omega) d_L_law_492 ?_
        refine xa_top (nI a) h1 ?_
        refine lv_aload_n hx hb d_L_law_493 rfl (lv_at hl 5 rfl) ?_
        refine lv_iload hx hb d_L_law_494 (lv_at hl 1 rfl) ?_
        refine lv_iconst (v := 2) hx hb d_L_law_496 (by decide) ?_
        refine xa_iadd hx hb (5 * j) 2 rfl rfl d_L_law_497 ?_
        refine xa_sld hx hb hX hbl hbA hS hL ((5 * j) + 2) rfl (by omega) d_L_law_498 ?_
        refine xa_top (nI g) h2 ?_
        refine yb_calli (n := 2) (own := "TagMemoryLaw") (C := "TagMemoryModel") (wf := wM GM kM) (tys := tyMs kM) hx hb hml hown hts (c_M_copy l D GM kM _ _ a g ha hg (by exact hR.mI)) (tb_VL wm_431 wm_432 wm_433 wm_2 wm_434) rfl rfl rfl (by decide +kernel) ⟨by show (5 : Nat) + 1 ≤ 11; omega, by show 8 + (4 + 11) + (112 : Nat) ≤ 400; omega⟩ (ya_Kc hK) (ya_Pc hP) (ya_Dc hD) hS hA rfl rfl rfl rfl hl.1 rfl (Nat.le_of_ble_eq_true rfl) d_L_law_499 ⟨by show _ ≤ 1052; omega, by show _ ≤ 15695; omega⟩ (fun r v1 H locs hw hP hD hS => ?_)
        obtain ⟨e1, e2⟩ := hw
        subst e1
        rw [e2] at hP hD; clear e2 v1
        have hP := ya_Pc hP
        have hD := ya_Dc hD
        refine lv_istore (lv' := [(6, .int _), (5, .int _), (4, .int (nI (5 * j))), (3, .ref _), (2, .ref _), (1, .ref _), (0, .ref _)]) hx hb d_L_law_502 hl (by decide) rfl (fun ls hl => ?_)
        refine lv_aload_n hx hb d_L_law_504 rfl (lv_at hl 4 rfl) ?_
        refine yb_calli (n := 0) (own := "TagMemoryLaw") (C := "TagMemoryModel") (wf := wM GM kM) (tys := tyMs kM) hx hb hml hown hts (c_M_thrown l D GM kM _ _ ) (tb_VL wm_382 wm_383 wm_384 wm_2 wm_385) rfl rfl rfl (by decide +kernel) ⟨by show (0 : Nat) + 1 ≤ 11; omega, by show 8 + (1 + 11) + (0 : Nat) ≤ 400; omega⟩ (ya_Kc hK) (ya_Pc hP) (ya_Dc hD) hS hA rfl rfl rfl rfl hl.1 rfl (Nat.le_of_ble_eq_true rfl) d_L_law_505 ⟨by show _ ≤ 1052; omega, by show _ ≤ 15695; omega⟩ (fun r v1 H locs hw hP hD hS => ?_)
        obtain ⟨e1, e2⟩ := hw
        subst e1
        rw [e2] at hP hD; clear e2 v1
        have hP := ya_Pc hP
        have hD := ya_Dc hD
        refine lv_iload hx hb d_L_law_508 (lv_at hl 1 rfl) ?_
        refine lv_icmp_eq (tgt := 515) hx hb d_L_law_510 (by decide) (fun _ => ?_) (fun c9 => absurd hth c9)
        refine lv_iload hx hb d_L_law_515 (lv_at hl 1 rfl) ?_
        refine lv_if_ne (tgt := 539) hx hb d_L_law_517 (by decide) (fun c9 => absurd rfl c9) (fun _ => ?_)
        refine lv_aload_n hx hb d_L_law_520 rfl (lv_at hl 3 rfl) ?_
        refine lv_iconst (v := 0) hx hb d_L_law_521 (by decide) ?_
        refine xa_lald hx hb hK hP 9 8 rfl rfl (by decide) 0 rfl (by decide) d_L_law_522 ?_
        refine lv_iload hx hb d_L_law_523 (lv_at hl 0 rfl) ?_
        refine lv_if_eq (tgt := 532) hx hb d_L_law_525 (by decide) (fun c9 => absurd c9 hb0) (fun _ => ?_)
        refine lv_lconst (v := 1) hx hb d_L_law_528 (by decide) ?_
        refine lv_goto (tgt := 533) hx hb d_L_law_529 (by decide) ?_
        refine W.lcmp hx hb d_L_law_533 ?_
        refine lv_if_eq (tgt := 539) hx hb d_L_law_534 (by decide) (fun _ => ?_) (fun c9 => absurd (cmp_u (by rw [hans]; unfold outB; rw [if_neg hb0])) c9)
        refine lv_goto (tgt := 792) hx hb d_L_law_539 (by decide) ?_
        have hP : va_P D vwCl (wL GT GM kT kM o ko (fCopy2 (fWant u (g / 2)) a g) (vp_updL f 0 (outB (rTag (fWant u (g / 2)) g))) (gCopy (gWant (nTh v 0) (g / 2)) a g)) H := hP
        have hD : va_D (fun q : Nat => s.heap.size ≤ q) (wL GT GM kT kM o ko (fCopy2 (fWant u (g / 2)) a g) (vp_updL f 0 (outB (rTag (fWant u (g / 2)) g))) (gCopy (gWant (nTh v 0) (g / 2)) a g)) := hD
        refine W.widen (k := 20 + j + 1) (n := 7455 + 6 * j + 6) (by omega) (by omega) ?_
        exact kk _ _ _ _ _ _ hR1 hP hD hS (lv_sub hl [2, 3, 4, 5, 6] rfl)
set_option maxHeartbeats 4000000 in
set_option maxRecDepth 100000 in
theorem lc_put {p : Program} {l : Launch} {e : Env} {s : State} {m : MethodId} {below : List Frame} {meth : Method} {c : Code} {Q : State → Prop} {D : va_G} {GT GM : Nat → Nat} {kT kM : Nat → ClassId} {o : Nat} {ko : ClassId} {b L : Nat} {xs : Nat → Int32} (hl9 : l.stackTraces = false) (hLX : LX s) (hL : L ≤ 2560) (C0 : lw_At p s m meth c b L xs) (hK : va_K D vwCl (tyL kT kM ko) s) (u : TC) (v : TM) (f : Nat → Int64) (hR : REL u v) (j : Nat) (hj : 5 * j + 5 ≤ L) {H : Heap} {locs : List Loc} {ls : Array Slot} (hP : va_P D vwCl (wL GT GM kT kM o ko u f v) H) (hD : va_D (fun q : Nat => s.heap.size ≤ q) (wL GT GM kT kM o ko u f v)) (hS : va_S (fun q : Nat => s.heap.size ≤ q) s.heap H locs) (hl : lv_has ls 7 [(4, .int (nI (5 * j))), (3, .ref o), (2, .ref (GM 0)), (1, .ref (GT 0)), (0, .ref b)]) (kk : ∀ (u : TC) (v : TM) (f : Nat → Int64) (H : Heap) (locs : List Loc) (ls : Array Slot), REL u v → va_P D vwCl (wL GT GM kT kM o ko u f v) H → va_D (fun q : Nat => s.heap.size ≤ q) (wL GT GM kT kM o ko u f v) → va_S (fun q : Nat => s.heap.size ≤ q) s.heap H locs → lv_has ls 7 [(4, .int (nI (5 * j))), (3, .ref o), (2, .ref (GM 0)), (1, .ref (GT 0)), (0, .ref b)] → W p l e room_1 s m #[Value.ref b] below meth c H locs (20 + j + 1) (7455 + 6 * j + 6) Q (F0 m 792 ls [])) : W p l e room_1 s m #[Value.ref b] below meth c H locs (20 + j) (7455 + 6 * j) Q (F0 m 379 ls []) := by
  obtain ⟨hx, hb, hr, hml, hown, hts, hX, hbl, hlocks, hgv⟩ := C0
  have hA : ∀ q : Nat, s.heap.size ≤ q → (fun q : Nat => s.heap.size ≤ q) q := fun _ h => h
  have hbA : ¬ (fun q : Nat => s.heap.size ≤ q) b := Nat.not_le.mpr hbl
  have hj5 : j < 512 := by omega
  rcases xbad_or (N := 1024) (by decide) (xs (5 * j + 1)) with hbad | ⟨a, ha, h1⟩
  · by_cases h4 : xs (5 * j + 4) = 0
    · skip
      refine lv_aload_n hx hb d_L_law_379 rfl (lv_at hl 3 rfl) ?_
      refine lv_aload_n hx hb d_L_law_380 rfl (lv_at hl 4 rfl) ?_
      refine lv_iload hx hb d_L_law_381 (lv_at hl 0 rfl) ?_
      refine lv_iconst (v := 1) hx hb d_L_law_383 (by decide) ?_
      refine xa_iadd hx hb (5 * j) 1 rfl rfl d_L_law_384 ?_
      refine xa_sld hx hb hX hbl hbA hS hL ((5 * j) + 1) rfl (by omega) d_L_law_385 ?_
      refine lv_aload_n hx hb d_L_law_386 rfl (lv_at hl 4 rfl) ?_
      refine lv_iload hx hb d_L_law_387 (lv_at hl 0 rfl) ?_
      refine lv_iconst (v := 2) hx hb d_L_law_389 (by decide) ?_
      refine xa_iadd hx hb (5 * j) 2 rfl rfl d_L_law_390 ?_
      refine xa_sld hx hb hX hbl hbA hS hL ((5 * j) + 2) rfl (by omega) d_L_law_391 ?_
      refine lv_aload_n hx hb d_L_law_392 rfl (lv_at hl 4 rfl) ?_
      refine lv_iload hx hb d_L_law_393 (lv_at hl 0 rfl) ?_
      refine lv_iconst (v := 3) hx hb d_L_law_395 (by decide) ?_
      refine xa_iadd hx hb (5 * j) 3 rfl rfl d_L_law_396 ?_
      refine xa_sld hx hb hX hbl hbA hS hL ((5 * j) + 3) rfl (by omega) d_L_law_397 ?_
      refine lv_aload_n hx hb d_L_law_398 rfl (lv_at hl 4 rfl) ?_
      refine lv_iload hx hb d_L_law_399 (lv_at hl 0 rfl) ?_
      refine lv_iconst (v := 4) hx hb d_L_law_401 (by decide) ?_
      refine xa_iadd hx hb (5 * j) 4 rfl rfl d_L_law_402 ?_
      refine xa_sld hx hb hX hbl hbA hS hL ((5 * j) + 4) rfl (by omega) d_L_law_403 ?_
      refine lv_if_eq (tgt := 411) hx hb d_L_law_404 (by decide) (fun _ => ?_) (fun c9 => absurd h4 c9)
      refine lv_iconst (v := 0) hx hb d_L_law_411 (by decide) ?_
      have hP0 := wl_unP hP
      have hD0 := wl_unD hD
      have hK0 := wl_unK hK
      refine yc_calls (n := 5) (own := "TagMemoryLaw") (wf := wT GT kT) (tys := tyTs kT) (wr := [(o, .inl (ko, 1, .inr (.inl f)))] ++ wM GM kM v) (tr := [(ko, .long)] ++ tyMs kM) hx hb hml hown hts (x_L_put l hl9 D GT kT _ u (xs (5 * j + 1)) (xs (5 * j + 2)) (xs (5 * j + 3)) (nI 0) hbad) (tb_SL wm_275 wm_276 wm_0 wm_277) rfl rfl rfl (by decide +kernel) ⟨by show (8 : Nat) + 1 ≤ 11; omega, by show 8 + (6 + 11) + (160 : Nat) ≤ 400; omega⟩ pxe_blind (fun U hU hW => hLX.pI hLX.2.2.2.2.2.2.2.2.2.1 hS hU hW) hK0 hP0 hD0 hS hA rfl hl.1 rfl (Nat.le_of_ble_eq_true rfl) d_L_law_412 ⟨by show _ ≤ 1052; omega, by show _ ≤ 15695; omega⟩ (fun r z H locs hw hP hD hS => ?_)
      obtain ⟨e1, e2⟩ := hw
      subst e1
      rw [e2] at hP hD; clear e2 z
      have hP := wl_foldP hP
      have hD := wl_foldD hD
      refine lv_istore (lv' := [(5, .int _), (4, .int (nI (5 * j))), (3, .ref _), (2, .ref _), (1, .ref _), (0, .ref _)]) hx hb d_L_law_415 hl (by decide) rfl (fun ls hl => ?_)
      refine lv_aload_n hx hb d_L_law_417 rfl (lv_at hl 3 rfl) ?_
      refine lv_aload_n hx hb d_L_law_418 rfl (lv_at hl 5 rfl) ?_
      refine lv_iload hx hb d_L_law_419 (lv_at hl 1 rfl) ?_
      refine lv_iconst (v := 1) hx hb d_L_law_421 (by decide) ?_
      refine xa_iadd hx hb (5 * j) 1 rfl rfl d_L_law_422 ?_
      refine xa_sld hx hb hX hbl hbA hS hL ((5 * j) + 1) rfl (by omega) d_L_law_423 ?_
      refine lv_aload_n hx hb d_L_law_424 rfl (lv_at hl 5 rfl) ?_
      refine lv_iload hx hb d_L_law_425 (lv_at hl 1 rfl) ?_
      refine lv_iconst (v := 2) hx hb d_L_law_427 (by decide) ?_
      refine xa_iadd hx hb (5 * j) 2 rfl rfl d_L_law_428 ?_
      refine xa_sld hx hb hX hbl hbA hS hL ((5 * j) + 2) rfl (by omega) d_L_law_429 ?_
      refine lv_aload_n hx hb d_L_law_430 rfl (lv_at hl 5 rfl) ?_
      refine lv_iload hx hb d_L_law_431 (lv_at hl 1 rfl) ?_
      refine lv_iconst (v := 3) hx hb d_L_law_433 (by decide) ?_
      refine xa_iadd hx hb (5 * j) 3 rfl rfl d_L_law_434 ?_
      refine xa_sld hx hb hX hbl hbA hS hL ((5 * j) + 3) rfl (by omega) d_L_law_435 ?_
      refine lv_aload_n hx hb d_L_law_436 rfl (lv_at hl 5 rfl) ?_
      refine lv_iload hx hb d_L_law_437 (lv_at hl 1 rfl) ?_
      refine lv_iconst (v := 4) hx hb d_L_law_439 (by decide) ?_
      refine xa_iadd hx hb (5 * j) 4 rfl rfl d_L_law_440 ?_
      refine xa_sld hx hb hX hbl hbA hS hL ((5 * j) + 4) rfl (by omega) d_L_law_441 ?_
      refine lv_if_eq (tgt := 449) hx hb d_L_law_442 (by decide) (fun _ => ?_) (fun c9 => absurd h4 c9)
      refine lv_iconst (v := 0) hx hb d_L_law_449 (by decide) ?_
      refine yb_callv (n := 4) (own := "TagMemoryLaw") (C := "TagMemoryModel") (wf := wM GM kM) (tys := tyMs kM) hx hb hml hown hts (x_M_put l D GM kM _ _ (xs (5 * j + 1)) (xs (5 * j + 2)) (xs (5 * j + 3)) (nI 0) hbad) (tb_VL wm_427 wm_428 wm_429 wm_2 wm_430) rfl rfl rfl (by decide +kernel) ⟨by show (1 : Nat) + 1 ≤ 11; omega, by show 8 + (5 + 11) + (22 : Nat) ≤ 400; omega⟩ (ya_Kc hK) (ya_Pc hP) (ya_Dc hD) hS hA rfl rfl rfl rfl hl.1 rfl (Nat.le_of_ble_eq_true rfl) d_L_law_450 ⟨by show _ ≤ 1052; omega, by show _ ≤ 15695; omega⟩ (fun v1 H locs hw hP hD hS => ?_)
      rw [hw] at hP hD; clear hw v1
      have hP := ya_Pc hP
      have hD := ya_Dc hD
      refine lv_aload_n hx hb d_L_law_453 rfl (lv_at hl 3 rfl) ?_
      refine yb_calli (n := 0) (own := "TagMemoryLaw") (C := "TagMemoryModel") (wf := wM GM kM) (tys := tyMs kM) hx hb hml hown hts (c_M_thrown l D GM kM _ _ ) (tb_VL wm_382 wm_383 wm_384 wm_2 wm_385) rfl rfl rfl (by decide +kernel) ⟨by show (0 : Nat) + 1 ≤ 11; omega, by show 8 + (1 + 11) + (0 : Nat) ≤ 400; omega⟩ (ya_Kc hK) (ya_Pc hP) (ya_Dc hD) hS hA rfl rfl rfl rfl hl.1 rfl (Nat.le_of_ble_eq_true rfl) d_L_law_454 ⟨by show _ ≤ 1052; omega, by show _ ≤ 15695; omega⟩ (fun r v1 H locs hw hP hD hS => ?_)
      obtain ⟨e1, e2⟩ := hw
      subst e1
      rw [e2] at hP hD; clear e2 v1
      have hP := ya_Pc hP
      have hD := ya_Dc hD
      refine lv_iload hx hb d_L_law_457 (lv_at hl 0 rfl) ?_
      refine lv_icmp_eq (tgt := 464) hx hb d_L_law_459 (by decide) (fun _ => ?_) (fun c9 => absurd rfl c9)
      refine lv_goto (tgt := 792) hx hb d_L_law_464 (by decide) ?_
      have hP : va_P D vwCl (wL GT GM kT kM o ko (u) (f) (nTh v 1)) H := hP
      have hD : va_D (fun q : Nat => s.heap.size ≤ q) (wL GT GM kT kM o ko (u) (f) (nTh v 1)) := hD
      exact kk _ _ _ _ _ _ hR.th hP hD hS (lv_sub hl [1, 2, 3, 4, 5] rfl)
    · skip
      refine lv_aload_n hx hb d_L_law_379 rfl (lv_at hl 3 rfl) ?_
      refine lv_aload_n hx hb d_L_law_380 rfl (lv_at hl 4 rfl) ?_
      refine lv_iload hx hb d_L_law_381 (lv_at hl 0 rfl) ?_
      refine lv_iconst (v := 1) hx hb d_L_law_383 (by decide) ?_
      refine xa_iadd hx hb (5 * j) 1 rfl rfl d_L_law_384 ?_
      refine xa_sld hx hb hX hbl hbA hS hL ((5 * j) + 1) rfl (by omega) d_L_law_385 ?_
      refine lv_aload_n hx hb d_L_law_386 rfl (lv_at hl 4 rfl) ?_
      refine lv_iload hx hb d_L_law_387 (lv_at hl 0 rfl) ?_
      refine lv_iconst (v := 2) hx hb d_L_law_389 (by decide) ?_
      refine xa_iadd hx hb (5 * j) 2 rfl rfl d_L_law_390 ?_
      refine xa_sld hx hb hX hbl hbA hS hL ((5 * j) + 2) rfl (by omega) d_L_law_391 ?_
      refine lv_aload_n hx hb d_L_law_392 rfl (lv_at hl 4 rfl) ?_
      refine lv_iload hx hb d_L_law_393 (lv_at hl 0 rfl) ?_
      refine lv_iconst (v := 3) hx hb d_L_law_395 (by decide) ?_
      refine xa_iadd hx hb (5 * j) 3 rfl rfl d_L_law_396 ?_
      refine xa_sld hx hb hX hbl hbA hS hL ((5 * j) + 3) rfl (by omega) d_L_law_397 ?_
      refine lv_aload_n hx hb d_L_law_398 rfl (lv_at hl 4 rfl) ?_
      refine lv_iload hx hb d_L_law_399 (lv_at hl 0 rfl) ?_
      refine lv_iconst (v := 4) hx hb d_L_law_401 (by decide) ?_
      refine xa_iadd hx hb (5 * j) 4 rfl rfl d_L_law_402 ?_
      refine xa_sld hx hb hX hbl hbA hS hL ((5 * j) + 4) rfl (by omega) d_L_law_403 ?_
      refine lv_if_eq (tgt := 411) hx hb d_L_law_404 (by decide) (fun c9 => absurd c9 h4) (fun _ => ?_)
      refine lv_iconst (v := 1) hx hb d_L_law_407 (by decide) ?_
      refine lv_goto (tgt := 412) hx hb d_L_law_408 (by decide) ?_
      have hP0 := wl_unP hP
      have hD0 := wl_unD hD
      have hK0 := wl_unK hK
      refine yc_calls (n := 5) (own := "TagMemoryLaw") (wf := wT GT kT) (tys := tyTs kT) (wr := [(o, .inl (ko, 1, .inr (.inl f)))] ++ wM GM kM v) (tr := [(ko, .long)] ++ tyMs kM) hx hb hml hown hts (x_L_put l hl9 D GT kT _ u (xs (5 * j + 1)) (xs (5 * j + 2)) (xs (5 * j + 3)) (nI 1) hbad) (tb_SL wm_275 wm_276 wm_0 wm_277) rfl rfl rfl (by decide +kernel) ⟨by show (8 : Nat) + 1 ≤ 11; omega, by show 8 + (6 + 11) + (160 : Nat) ≤ 400; omega⟩ pxe_blind (fun U hU hW => hLX.pI hLX.2.2.2.2.2.2.2.2.2.1 hS hU hW) hK0 hP0 hD0 hS hA rfl hl.1 rfl (Nat.le_of_ble_eq_true rfl) d_L_law_412 ⟨by show _ ≤ 1052; omega, by show _ ≤ 15695; omega⟩ (fun r z H locs hw hP hD hS => ?_)
      obtain ⟨e1, e2⟩ := hw
      subst e1
      rw [e2] at hP hD; clear e2 z
      have hP := wl_foldP hP
      have hD := wl_foldD hD
      refine lv_istore (lv' := [(5, .int _), (4, .int (nI (5 * j))), (3, .ref _), (2, .ref _), (1, .ref _), (0, .ref _)]) hx hb d_L_law_415 hl (by decide) rfl (fun ls hl => ?_)
      refine lv_aload_n hx hb d_L_law_417 rfl (lv_at hl 3 rfl) ?_
      refine lv_aload_n hx hb d_L_law_418 rfl (lv_at hl 5 rfl) ?_
      refine lv_iload hx hb d_L_law_419 (lv_at hl 1 rfl) ?_
      refine lv_iconst (v := 1) hx hb d_L_law_421 (by decide) ?_
      refine xa_iadd hx hb (5 * j) 1 rfl rfl d_L_law_422 ?_
      refine xa_sld hx hb hX hbl hbA hS hL ((5 * j) + 1) rfl (by omega) d_L_law_423 ?_
      refine lv_aload_n hx hb d_L_law_424 rfl (lv_at hl 5 rfl) ?_
      refine lv_iload hx hb d_L_law_425 (lv_at hl 1 rfl) ?_
      refine lv_iconst (v := 2) hx hb d_L_law_427 (by decide) ?_
      refine xa_iadd hx hb (5 * j) 2 rfl rfl d_L_law_428 ?_
      refine xa_sld hx hb hX hbl hbA hS hL ((5 * j) + 2) rfl (by omega) d_L_law_429 ?_
      refine lv_aload_n hx hb d_L_law_430 rfl (lv_at hl 5 rfl) ?_
      refine lv_iload hx hb d_L_law_431 (lv_at hl 1 rfl) ?_
      refine lv_iconst (v := 3) hx hb d_L_law_433 (by decide) ?_
      refine xa_iadd hx hb (5 * j) 3 rfl rfl d_L_law_434 ?_
      refine xa_sld hx hb hX hbl hbA hS hL ((5 * j) + 3) rfl (by omega) d_L_law_435 ?_
      refine lv_aload_n hx hb d_L_law_436 rfl (lv_at hl 5 rfl) ?_
      refine lv_iload hx hb d_L_law_437 (lv_at hl 1 rfl) ?_
      refine lv_iconst (v := 4) hx hb d_L_law_439 (by decide) ?_
      refine xa_iadd hx hb (5 * j) 4 rfl rfl d_L_law_440 ?_
      refine xa_sld hx hb hX hbl hbA hS hL ((5 * j) + 4) rfl (by omega) d_L_law_441 ?_
      refine lv_if_eq (tgt := 449) hx hb d_L_law_442 (by decide) (fun c9 => absurd c9 h4) (fun _ => ?_)
      refine lv_iconst (v := 1) hx hb d_L_law_445 (by decide) ?_
      refine lv_goto (tgt := 450) hx hb d_L_law_446 (by decide) ?_
      refine yb_callv (n := 4) (own := "TagMemoryLaw") (C := "TagMemoryModel") (wf := wM GM kM) (tys := tyMs kM) hx hb hml hown hts (x_M_put l D GM kM _ _ (xs (5 * j + 1)) (xs (5 * j + 2)) (xs (5 * j + 3)) (nI 1) hbad) (tb_VL wm_427 wm_428 wm_429 wm_2 wm_430) rfl rfl rfl (by decide +kernel) ⟨by show (1 : Nat) + 1 ≤ 11; omega, by show 8 + (5 + 11) + (22 : Nat) ≤ 400; omega⟩ (ya_Kc hK) (ya_Pc hP) (ya_Dc hD) hS hA rfl rfl rfl rfl hl.1 rfl (Nat.le_of_ble_eq_true rfl) d_L_law_450 ⟨by show _ ≤ 1052; omega, by show _ ≤ 15695; omega⟩ (fun v1 H locs hw hP hD hS => ?_)
      rw [hw] at hP hD; clear hw v1
      have hP := ya_Pc hP
      have hD := ya_Dc hD
      refine lv_aload_n hx hb d_L_law_453 rfl (lv_at hl 3 rfl) ?_
      refine yb_calli (n := 0) (own := "TagMemoryLaw") (C := "TagMemoryModel") (wf := wM GM kM) (tys := tyMs kM) hx hb hml hown hts (c_M_thrown l D GM kM _ _ ) (tb_VL wm_382 wm_383 wm_384 wm_2 wm_385) rfl rfl rfl (by decide +kernel) ⟨by show (0 : Nat) + 1 ≤ 11; omega, by show 8 + (1 + 11) + (0 : Nat) ≤ 400; omega⟩ (ya_Kc hK) (ya_Pc hP) (ya_Dc hD) hS hA rfl rfl rfl rfl hl.1 rfl (Nat.le_of_ble_eq_true rfl) d_L_law_454 ⟨by show _ ≤ 1052; omega, by show _ ≤ 15695; omega⟩ (fun r v1 H locs hw hP hD hS => ?_)
      obtain ⟨e1, e2⟩ := hw
      subst e1
      rw [e2] at hP hD; clear e2 v1
      have hP := ya_Pc hP
      have hD := ya_Dc hD
      refine lv_iload hx hb d_L_law_457 (lv_at hl 0 rfl) ?_
      refine lv_icmp_eq (tgt := 464) hx hb d_L_law_459 (by decide) (fun _ => ?_) (fun c9 => absurd rfl c9)
      refine lv_goto (tgt := 792) hx hb d_L_law_464 (by decide) ?_
      have hP : va_P D vwCl (wL GT GM kT kM o ko (u) (f) (nTh v 1)) H := hP
      have hD : va_D (fun q : Nat => s.heap.size ≤ q) (wL GT GM kT kM o ko (u) (f) (nTh v 1)) := hD
      exact kk _ _ _ _ _ _ hR.th hP hD hS (lv_sub hl [1, 2, 3, 4, 5] rfl)
  · by_cases h4 : xs (5 * j + 4) = 0
    · skip
      obtain ⟨hR1, hth⟩ := sim_put (lo := xs (5 * j + 2)) (hi := xs (5 * j + 3)) (t := nI 0) hR ha (Or.inl rfl)
      refine lv_aload_n hx hb d_L_law_379 rfl (lv_at hl 3 rfl) ?_
      refine lv_aload_n hx hb d_L_law_380 rfl (lv_at hl 4 rfl) ?_
      refine lv_iload hx hb d_L_law_381 (lv_at hl 0 rfl) ?_
      refine lv_iconst (v := 1) hx hb d_L_law_383 (by decide) ?_
      refine xa_iadd hx hb (5 * j) 1 rfl rfl d_L_law_384 ?_
      refine xa_sld hx hb hX hbl hbA hS hL ((5 * j) + 1) rfl (by omega) d_L_law_385 ?_
      refine xa_top (nI a) h1 ?_
      refine lv_aload_n hx hb d_L_law_386 rfl (lv_at hl 4 rfl) ?_
      refine lv_iload hx hb d_L_law_387 (lv_at hl 0 rfl) ?_
      refine lv_iconst (v := 2) hx hb d_L_law_389 (by decide) ?_
      refine xa_iadd hx hb (5 * j) 2 rfl rfl d_L_law_390 ?_
      refine xa_sld hx hb hX hbl hbA hS hL ((5 * j) + 2) rfl (by omega) d_L_law_391 ?_
      refine lv_aload_n hx hb d_L_law_392 rfl (lv_at hl 4 rfl) ?_
      refine lv_iload hx hb d_L_law_393 (lv_at hl 0 rfl) ?_
      refine lv_iconst (v := 3) hx hb d_L_law_395 (by decide) ?_
      refine xa_iadd hx hb (5 * j) 3 rfl rfl d_L_law_396 ?_
      refine xa_sld hx hb hX hbl hbA hS hL ((5 * j) + 3) rfl (by omega) d_L_law_397 ?_
      refine lv_aload_n hx hb d_L_law_398 rfl (lv_at hl 4 rfl) ?_
      refine lv_iload hx hb d_L_law_399 (lv_at hl 0 rfl) ?_
      refine lv_iconst (v := 4) hx hb d_L_law_401 (by decide) ?_
      refine xa_iadd hx hb (5 * j) 4 rfl rfl d_L_law_402 ?_
      refine xa_sld hx hb hX hbl hbA hS hL ((5 * j) + 4) rfl (by omega) d_L_law_403 ?_
      refine lv_if_eq (tgt := 411) hx hb d_L_law_404 (by decide) (fun _ => ?_) (fun c9 => absurd h4 c9)
      refine lv_iconst (v := 0) hx hb d_L_law_411 (by decide) ?_
      have hP0 := wl_unP hP
      have hD0 := wl_unD hD
      have hK0 := wl_unK hK
      refine yc_calls (n := 5) (own := "TagMemoryLaw") (wf := wT GT kT) (tys := tyTs kT) (wr := [(o, .inl (ko, 1, .inr (.inl f)))] ++ wM GM kM v) (tr := [(ko, .long)] ++ tyMs kM) hx hb hml hown hts (c_L_put l D GT kT _ u a ha (xs (5 * j + 2)) (xs (5 * j + 3)) (nI 0) (by exact hR.tI)) (tb_SL wm_275 wm_276 wm_0 wm_277) rfl rfl rfl (by decide +kernel) ⟨by show (8 : Nat) + 1 ≤ 11; omega, by show 8 + (6 + 11) + (160 : Nat) ≤ 400; omega⟩ (fun _ _ _ _ h => h) (fun _ _ _ => trivial) hK0 hP0 hD0 hS hA rfl hl.1 rfl (Nat.le_of_ble_eq_true rfl) d_L_law_412 ⟨by show _ ≤ 1052; omega, by show _ ≤ 15695; omega⟩ (fun r z H locs hw hP hD hS => ?_)
      obtain ⟨e1, e2⟩ := hw
      subst e1
      rw [e2] at hP hD; clear e2 z
      have hP := wl_foldP hP
      have hD := wl_foldD hD
      refine lv_istore (lv' := [(5, .int _), (4, .int (nI (5 * j))), (3, .ref _), (2, .ref _), (1, .ref _), (0, .ref _)]) hx hb d_L_law_415 hl (by decide) rfl (fun ls hl => ?_)
      refine lv_aload_n hx hb d_L_law_417 rfl (lv_at hl 3 rfl) ?_
      refine lv_aload_n hx hb d_L_law_418 rfl (lv_at hl 5 rfl) ?_
      refine lv_iload hx hb d_L_law_419 (lv_at hl 1 rfl) ?_
      refine lv_iconst (v := 1) hx hb d_L_law_421 (by decide) ?_
      refine xa_iadd hx hb (5 * j) 1 rfl rfl d_L_law_422 ?_
      refine xa_sld hx hb hX hbl hbA hS hL ((5 * j) + 1) rfl (by omega) d_L_law_423 ?_
      refine xa_top (nI a) h1 ?_
      refine lv_aload_n hx hb d_L_law_424 rfl (lv_at hl 5 rfl) ?_
      refine lv_iload hx hb d_L_law_425 (lv_at hl 1 rfl) ?_
      refine lv_iconst (v := 2) hx hb d_L_law_427 (by decide) ?_
      refine xa_iadd hx hb (5 * j) 2 rfl rfl d_L_law_428 ?_
      refine xa_sld hx hb hX hbl hbA hS hL ((5 * j) + 2) rfl (by omega) d_L_law_429 ?_
      refine lv_aload_n hx hb d_L_law_430 rfl (lv_at hl 5 rfl) ?_
      refine lv_iload hx hb d_L_law_431 (lv_at hl 1 rfl) ?_
      refine lv_iconst (v := 3) hx hb d_L_law_433 (by decide) ?_
      refine xa_iadd hx hb (5 * j) 3 rfl rfl d_L_law_434 ?_
      refine xa_sld hx hb hX hbl hbA hS hL ((5 * j) + 3) rfl (by omega) d_L_law_435 ?_
      refine lv_aload_n hx hb d_L_law_436 rfl (lv_at hl 5 rfl) ?_
      refine lv_iload hx hb d_L_law_437 (lv_at hl 1 rfl) ?_
      refine lv_iconst (v := 4) hx hb d_L_law_439 (by decide) ?_
      refine xa_iadd hx hb (5 * j) 4 rfl rfl d_L_law_440 ?_
      refine xa_sld hx hb hX hbl hbA hS hL ((5 * j) + 4) rfl (by omega) d_L_law_441 ?_
      refine lv_if_eq (tgt := 449) hx hb d_L_law_442 (by decide) (fun _ => ?_) (fun c9 => absurd h4 c9)
      refine lv_iconst (v := 0) hx hb d_L_law_449 (by decide) ?_
      refine yb_callv (n := 4) (own := "TagMemoryLaw") (C := "TagMemoryModel") (wf := wM GM kM) (tys := tyMs kM) hx hb hml hown hts (c_M_put l D GM kM _ _ a ha (xs (5 * j + 2)) (xs (5 * j + 3)) (nI 0) (Or.inl rfl) (by exact hR.mI)) (tb_VL wm_427 wm_428 wm_429 wm_2 wm_430) rfl rfl rfl (by decide +kernel) ⟨by show (5 : Nat) + 1 ≤ 11; omega, by show 8 + (5 + 11) + (112 : Nat) ≤ 400; omega⟩ (ya_Kc hK) (ya_Pc hP) (ya_Dc hD) hS hA rfl rfl rfl rfl hl.1 rfl (Nat.le_of_ble_eq_true rfl) d_L_law_450 ⟨by show _ ≤ 1052; omega, by show _ ≤ 15695; omega⟩ (fun v1 H locs hw hP hD hS => ?_)
      rw [hw] at hP hD; clear hw v1
      have hP := ya_Pc hP
      have hD := ya_Dc hD
      refine lv_aload_n hx hb d_L_law_453 rfl (lv_at hl 3 rfl) ?_
      refine yb_calli (n := 0) (own := "TagMemoryLaw") (C := "TagMemoryModel") (wf := wM GM kM) (tys := tyMs kM) hx hb hml hown hts (c_M_thrown l D GM kM _ _ ) (tb_VL wm_382 wm_383 wm_384 wm_2 wm_385) rfl rfl rfl (by decide +kernel) ⟨by show (0 : Nat) + 1 ≤ 11; omega, by show 8 + (1 + 11) + (0 : Nat) ≤ 400; omega⟩ (ya_Kc hK) (ya_Pc hP) (ya_Dc hD) hS hA rfl rfl rfl rfl hl.1 rfl (Nat.le_of_ble_eq_true rfl) d_L_law_454 ⟨by show _ ≤ 1052; omega, by show _ ≤ 15695; omega⟩ (fun r v1 H locs hw hP hD hS => ?_)
      obtain ⟨e1, e2⟩ := hw
      subst e1
      rw [e2] at hP hD; clear e2 v1
      have hP := ya_Pc hP
      have hD := ya_Dc hD
      refine lv_iload hx hb d_L_law_457 (lv_at hl 0 rfl) ?_
      refine lv_icmp_eq (tgt := 464) hx hb d_L_law_459 (by decide) (fun _ => ?_) (fun c9 => absurd hth c9)
      refine lv_goto (tgt := 792) hx hb d_L_law_464 (by decide) ?_
      have hP : va_P D vwCl (wL GT GM kT kM o ko (fChGran (fWant u (a / 2)) a (xs (5 * j + 2)) (xs (5 * j + 3)) (nI 0)) (f) (gPut (nTh v 0) a (xs (5 * j + 2)) (xs (5 * j + 3)) (nI 0))) H := hP
      have hD : va_D (fun q : Nat => s.heap.size ≤ q) (wL GT GM kT kM o ko (fChGran (fWant u (a / 2)) a (xs (5 * j + 2)) (xs (5 * j + 3)) (nI 0)) (f) (gPut (nTh v 0) a (xs (5 * j + 2)) (xs (5 * j + 3)) (nI 0))) := hD
      refine W.widen (k := 20 + j + 1) (n := 7455 + 6 * j + 6) (by omega) (by omega) ?_
      exact kk _ _ _ _ _ _ hR1 hP hD hS (lv_sub hl [1, 2, 3, 4, 5] rfl)
    · skip
      obtain ⟨hR1, hth⟩ := sim_put (lo := xs (5 * j + 2)) (hi := xs (5 * j + 3)) (t := nI 1) hR ha (Or.inr rfl)
      refine lv_aload_n hx hb d_L_law_379 rfl (lv_at hl 3 rfl) ?_
      refine lv_aload_n hx hb d_L_law_380 rfl (lv_at hl 4 rfl) ?_
      refine lv_iload hx hb d_L_law_381 (lv_at hl 0 rfl) ?_
      refine lv_iconst (v := 1) hx hb d_L_law_383 (by decide) ?_
      refine xa_iadd hx hb (5 * j) 1 rfl rfl d_L_law_384 ?_
      refine xa_sld hx hb hX hbl hbA hS hL ((5 * j) + 1) rfl (by omega) d_L_law_385 ?_
      refine xa_top (nI a) h1 ?_
      refine lv_aload_n hx hb d_L_law_386 rfl (lv_at hl 4 rfl) ?_
      refine lv_iload hx hb d_L_law_387 (lv_at hl 0 rfl) ?_
      refine lv_iconst (v := 2) hx hb d_L_law_389 (by decide) ?_
      refine xa_iadd hx hb (5 * j) 2 rfl rfl d_L_law_390 ?_
      refine xa_sld hx hb hX hbl hbA hS hL ((5 * j) + 2) rfl (by omega) d_L_law_391 ?_
      refine lv_aload_n hx hb d_L_law_392 rfl (lv_at hl 4 rfl) ?_
      refine lv_iload hx hb d_L_law_393 (lv_at hl 0 rfl) ?_
      refine lv_iconst (v := 3) hx hb d_L_law_395 (by decide) ?_
      refine xa_iadd hx hb (5 * j) 3 rfl rfl d_L_law_396 ?_
      refine xa_sld hx hb hX hbl hbA hS hL ((5 * j) + 3) rfl (by omega) d_L_law_397 ?_
      refine lv_aload_n hx hb d_L_law_398 rfl (lv_at hl 4 rfl) ?_
      refine lv_iload hx hb d_L_law_399 (lv_at hl 0 rfl) ?_
      refine lv_iconst (v := 4) hx hb d_L_law_401 (by decide) ?_
      refine xa_iadd hx hb (5 * j) 4 rfl rfl d_L_law_402 ?_
      refine xa_sld hx hb hX hbl hbA hS hL ((5 * j) + 4) rfl (by omega) d_L_law_403 ?_
      refine lv_if_eq (tgt := 411) hx hb d_L_law_404 (by decide) (fun c9 => absurd c9 h4) (fun _ => ?_)
      refine lv_iconst (v := 1) hx hb d_L_law_407 (by decide) ?_
      refine lv_goto (tgt := 412) hx hb d_L_law_408 (by decide) ?_
      have hP0 := wl_unP hP
      have hD0 := wl_unD hD
      have hK0 := wl_unK hK
      refine yc_calls (n := 5) (own := "TagMemoryLaw") (wf := wT GT kT) (tys := tyTs kT) (wr := [(o, .inl (ko, 1, .inr (.inl f)))] ++ wM GM kM v) (tr := [(ko, .long)] ++ tyMs kM) hx hb hml hown hts (c_L_put l D GT kT _ u a ha (xs (5 * j + 2)) (xs (5 * j + 3)) (nI 1) (by exact hR.tI)) (tb_SL wm_275 wm_276 wm_0 wm_277) rfl rfl rfl (by decide +kernel) ⟨by show (8 : Nat) + 1 ≤ 11; omega, by show 8 + (6 + 11) + (160 : Nat) ≤ 400; omega⟩ (fun _ _ _ _ h => h) (fun _ _ _ => trivial) hK0 hP0 hD0 hS hA rfl hl.1 rfl (Nat.le_of_ble_eq_true rfl) d_L_law_412 ⟨by show _ ≤ 1052; omega, by show _ ≤ 15695; omega⟩ (fun r z H locs hw hP hD hS => ?_)
      obtain ⟨e1, e2⟩ := hw
      subst e1
      rw [e2] at hP hD; clear e2 z
      have hP := wl_foldP hP
      have hD := wl_foldD hD
      refine lv_istore (lv' := [(5, .int _), (4, .int (nI (5 * j))), (3, .ref _), (2, .ref _), (1, .ref _), (0, .ref _)]) hx hb d_L_law_415 hl (by decide) rfl (fun ls hl => ?_)
      refine lv_aload_n hx hb d_L_law_417 rfl (lv_at hl 3 rfl) ?_
      refine lv_aload_n hx hb d_L_law_418 rfl (lv_at hl 5 rfl) ?_
      refine lv_iload hx hb d_L_law_419 (lv_at hl 1 rfl) ?_
      refine lv_iconst (v := 1) hx hb d_L_law_421 (by decide) ?_
      refine xa_iadd hx hb (5 * j) 1 rfl rfl d_L_law_422 ?_
      refine xa_sld hx hb hX hbl hbA hS hL ((5 * j) + 1) rfl (by omega) d_L_law_423 ?_
      refine xa_top (nI a) h1 ?_
      refine lv_aload_n hx hb d_L_law_424 rfl (lv_at hl 5 rfl) ?_
      refine lv_iload hx hb d_L_law_425 (lv_at hl 1 rfl) ?_
      refine lv_iconst (v := 2) hx hb d_L_law_427 (by decide) ?_
      refine xa_iadd hx hb (5 * j) 2 rfl rfl d_L_law_428 ?_
      refine xa_sld hx hb hX hbl hbA hS hL ((5 * j) + 2) rfl (by omega) d_L_law_429 ?_
      refine lv_aload_n hx hb d_L_law_430 rfl (lv_at hl 5 rfl) ?_
      refine lv_iload hx hb d_L_law_431 (lv_at hl 1 rfl) ?_
      refine lv_iconst (v := 3) hx hb d_L_law_433 (by decide) ?_
      refine xa_iadd hx hb (5 * j) 3 rfl rfl d_L_law_434 ?_
      refine xa_sld hx hb hX hbl hbA hS hL ((5 * j) + 3) rfl (by omega) d_L_law_435 ?_
      refine lv_aload_n hx hb d_L_law_436 rfl (lv_at hl 5 rfl) ?_
      refine lv_iload hx hb d_L_law_437 (lv_at hl 1 rfl) ?_
      refine lv_iconst (v := 4) hx hb d_L_law_439 (by decide) ?_
      refine xa_iadd hx hb (5 * j) 4 rfl rfl d_L_law_440 ?_
      refine xa_sld hx hb hX hbl hbA hS hL ((5 * j) + 4) rfl (by omega) d_L_law_441 ?_
      refine lv_if_eq (tgt := 449) hx hb d_L_law_442 (by decide) (fun c9 => absurd c9 h4) (fun _ => ?_)
      refine lv_iconst (v := 1) hx hb d_L_law_445 (by decide) ?_
      refine lv_goto (tgt := 450) hx hb d_L_law_446 (by decide) ?_
      refine yb_callv (n := 4) (own := "TagMemoryLaw") (C := "TagMemoryModel") (wf := wM GM kM) (tys := tyMs kM) hx hb hml hown hts (c_M_put l D GM kM _ _ a ha (xs (5 * j + 2)) (xs (5 * j + 3)) (nI 1) (Or.inr rfl) (by exact hR.mI)) (tb_VL wm_427 wm_428 wm_429 wm_2 wm_430) rfl rfl rfl (by decide +kernel) ⟨by show (5 : Nat) + 1 ≤ 11; omega, by show 8 + (5 + 11) + (112 : Nat) ≤ 400; omega⟩ (ya_Kc hK) (ya_Pc hP) (ya_Dc hD) hS hA rfl rfl rfl rfl hl.1 rfl (Nat.le_of_ble_eq_true rfl) d_L_law_450 ⟨by show _ ≤ 1052; omega, by show _ ≤ 15695; omega⟩ (fun v1 H locs hw hP hD hS => ?_)
      rw [hw] at hP hD; clear hw v1
      have hP := ya_Pc hP
      have hD := ya_Dc hD
      refine lv_aload_n hx hb d_L_law_453 rfl (lv_at hl 3 rfl) ?_
      refine yb_calli (n := 0) (own := "TagMemoryLaw") (C := "TagMemoryModel") (wf := wM GM kM) (tys := tyMs kM) hx hb hml hown hts (c_M_thrown l D GM kM _ _ ) (tb_VL wm_382 wm_383 wm_384 wm_2 wm_385) rfl rfl rfl (by decide +kernel) ⟨by show (0 : Nat) + 1 ≤ 11; omega, by show 8 + (1 + 11) + (0 : Nat) ≤ 400; omega⟩ (ya_Kc hK) (ya_Pc hP) (ya_Dc hD) hS hA rfl rfl rfl rfl hl.1 rfl (Nat.le_of_ble_eq_true rfl) d_L_law_454 ⟨by show _ ≤ 1052; omega, by show _ ≤ 15695; omega⟩ (fun r v1 H locs hw hP hD hS => ?_)
      obtain ⟨e1, e2⟩ := hw
      subst e1
      rw [e2] at hP hD; clear e2 v1
      have hP := ya_Pc hP
      have hD := ya_Dc hD
      refine lv_iload hx hb d_L_law_457 (lv_at hl 0 rfl) ?_
      refine lv_icmp_eq (tgt := 464) hx hb d_L_law_459 (by decide) (fun _ => ?_) (fun c9 => absurd hth c9)
      refine lv_goto (tgt := 792) hx hb d_L_law_464 (by decide) ?_
      have hP : va_P D vwCl (wL GT GM kT kM o ko (fChGran (fWant u (a / 2)) a (xs (5 * j + 2)) (xs (5 * j + 3)) (nI 1)) (f) (gPut (nTh v 0) a (xs (5 * j + 2)) (xs (5 * j + 3)) (nI 1))) H := hP
      have hD : va_D (fun q : Nat => s.heap.size ≤ q) (wL GT GM kT kM o ko (fChGran (fWant u (a / 2)) a (xs (5 * j + 2)) (xs (5 * j + 3)) (nI 1)) (f) (gPut (nTh v 0) a (xs (5 * j + 2)) (xs (5 * j + 3)) (nI 1))) := hD
      refine W.widen (k := 20 + j + 1) (n := 7455 + 6 * j + 6) (by omega) (by omega) ?_
      exact kk _ _ _ _ _ _ hR1 hP hD hS (lv_sub hl [1, 2, 3, 4, 5] rfl)
set_option maxHeartbeats 4000000 in
set_option maxRecDepth 100000 in
theorem lc_flush {p : Program} {l : Launch} {e : Env} {s : State} {m : MethodId} {below : List Frame} {meth : Method} {c : Code} {Q : State → Prop} {D : va_G} {GT GM : Nat → Nat} {kT kM : Nat → ClassId} {o : Nat} {ko : ClassId} {b L : Nat} {xs : Nat → Int32} (hl9 : l.stackTraces = false) (hLX : LX s) (hL : L ≤ 2560) (C0 : lw_At p s m meth c b L xs) (hK : va_K D vwCl (tyL kT kM ko) s) (u : TC) (v : TM) (f : Nat → Int64) (hR : REL u v) (j : Nat) (hj : 5 * j + 5 ≤ L) {H : Heap} {locs : List Loc} {ls : Array Slot} (hP : va_P D vwCl (wL GT GM kT kM o ko u f v) H) (hD : va_D (fun q : Nat => s.heap.size ≤ q) (wL GT GM kT kM o ko u f v)) (hS : va_S (fun q : Nat => s.heap.size ≤ q) s.heap H locs) (hl : lv_has ls 7 [(4, .int (nI (5 * j))), (3, .ref o), (2, .ref (GM 0)), (1, .ref (GT 0)), (0, .ref b)]) (kk : ∀ (u : TC) (v : TM) (f : Nat → Int64) (H : Heap) (locs : List Loc) (ls : Array Slot), REL u v → va_P D vwCl (wL GT GM kT kM o ko u f v) H → va_D (fun q : Nat => s.heap.size ≤ q) (wL GT GM kT kM o ko u f v) → va_S (fun q : Nat => s.heap.size ≤ q) s.heap H locs → lv_has ls 7 [(4, .int (nI (5 * j))), (3, .ref o), (2, .ref (GM 0)), (1, .ref (GT 0)), (0, .ref b)] → W p l e room_1 s m #[Value.ref b] below meth c H locs (20 + j + 1) (7455 + 6 * j + 6) Q (F0 m 792 ls [])) : W p l e room_1 s m #[Value.ref b] below meth c H locs (20 + j) (7455 + 6 * j) Q (F0 m 598 ls []) := by
  obtain ⟨hx, hb, hr, hml, hown, hts, hX, hbl, hlocks, hgv⟩ := C0
  have hA : ∀ q : Nat, s.heap.size ≤ q → (fun q : Nat => s.heap.size ≤ q) q := fun _ h => h
  have hbA : ¬ (fun q : Nat => s.heap.size ≤ q) b := Nat.not_le.mpr hbl
  have hj5 : j < 512 := by omega
  obtain ⟨hR1, hans⟩ := sim_flush hR
  refine lv_aload_n hx hb d_L_law_598 rfl (lv_at hl 3 rfl) ?_
  have hP0 := wl_unP hP
  have hD0 := wl_unD hD
  have hK0 := wl_unK hK
  refine yb_calli (n := 0) (own := "TagMemoryLaw") (C := "TagMemory") (wf := wT GT kT) (tys := tyTs kT) (wr := [(o, .inl (ko, 1, .inr (.inl f)))] ++ wM GM kM v) (tr := [(ko, .long)] ++ tyMs kM) hx hb hml hown hts (c_T_flush l D GT kT _ _ (by exact hR.tI)) (tb_VL wm_57 wm_58 wm_59 wm_1 wm_60) rfl rfl rfl (by decide +kernel) ⟨by show (4 : Nat) + 1 ≤ 11; omega, by show 8 + (3 + 11) + (89 : Nat) ≤ 400; omega⟩ hK0 hP0 hD0 hS hA rfl rfl rfl rfl hl.1 rfl (Nat.le_of_ble_eq_true rfl) d_L_law_599 ⟨by show _ ≤ 1052; omega, by show _ ≤ 15695; omega⟩ (fun r u1 H locs hw hP hD hS => ?_)
  obtain ⟨e1, e2⟩ := hw
  subst e1
  rw [e2] at hP hD; clear e2 u1
  have hP := wl_foldP hP
  have hD := wl_foldD hD
  refine lv_aload_n hx hb d_L_law_602 rfl (lv_at hl 2 rfl) ?_
  refine yb_calli (n := 0) (own := "TagMemoryLaw") (C := "TagMemoryModel") (wf := wM GM kM) (tys := tyMs kM) hx hb hml hown hts (c_M_flush l D GM kM _ _ (by exact hR.mI)) (tb_VL wm_439 wm_440 wm_441 wm_2 wm_442) rfl rfl rfl (by decide +kernel) ⟨by show (3 : Nat) + 1 ≤ 11; omega, by show 8 + (3 + 11) + (67 : Nat) ≤ 400; omega⟩ (ya_Kc hK) (ya_Pc hP) (ya_Dc hD) hS hA rfl rfl rfl rfl hl.1 rfl (Nat.le_of_ble_eq_true rfl) d_L_law_603 ⟨by show _ ≤ 1052; omega, by show _ ≤ 15695; omega⟩ (fun r v1 H locs hw hP hD hS => ?_)
  obtain ⟨e1, e2⟩ := hw
  subst e1
  rw [e2] at hP hD; clear e2 v1
  have hP := ya_Pc hP
  have hD := ya_Dc hD
  refine lv_icmp_eq (tgt := 792) hx hb d_L_law_606 (by decide) (fun _ => ?_) (fun c9 => absurd hans c9)
  have hP : va_P D vwCl (wL GT GM kT kM o ko (fFlush u) (f) (gFlush v)) H := hP
  have hD : va_D (fun q : Nat => s.heap.size ≤ q) (wL GT GM kT kM o ko (fFlush u) (f) (gFlush v)) := hD
  refine W.widen (k := 20 + j + 1) (n := 7455 + 6 * j + 6) (by omega) (by omega) ?_
  exact kk _ _ _ _ _ _ hR1 hP hD hS (lv_sub hl [0, 1, 2, 3, 4] rfl)
set_option maxHeartbeats 4000000 in
set_option maxRecDepth 100000 in
theorem lc_check {p : Program} {l : Launch} {e : Env} {s : State} {m : MethodId} {below : List Frame} {meth : Method} {c : Code} {Q : State → Prop} {D : va_G} {GT GM : Nat → Nat} {kT kM : Nat → ClassId} {o : Nat} {ko : ClassId} {b L : Nat} {xs : Nat → Int32} (hl9 : l.stackTraces = false) (hLX : LX s) (hL : L ≤ 2560) (C0 : lw_At p s m meth c b L xs) (hK : va_K D vwCl (tyL kT kM ko) s) (u : TC) (v : TM) (f : Nat → Int64) (hR : REL u v) (j : Nat) (hj : 5 * j + 5 ≤ L) {H : Heap} {locs : List Loc} {ls : Array Slot} (hP : va_P D vwCl (wL GT GM kT kM o ko u f v) H) (hD : va_D (fun q : Nat => s.heap.size ≤ q) (wL GT GM kT kM o ko u f v)) (hS : va_S (fun q : Nat => s.heap.size ≤ q) s.heap H locs) (hl : lv_has ls 7 [(4, .int (nI (5 * j))), (3, .ref o), (2, .ref (GM 0)), (1, .ref (GT 0)), (0, .ref b)]) (kk : ∀ (u : TC) (v : TM) (f : Nat → Int64) (H : Heap) (locs : List Loc) (ls : Array Slot), REL u v → va_P D vwCl (wL GT GM kT kM o ko u f v) H → va_D (fun q : Nat => s.heap.size ≤ q) (wL GT GM kT kM o ko u f v) → va_S (fun q : Nat => s.heap.size ≤ q) s.heap H locs → lv_has ls 7 [(4, .int (nI (5 * j))), (3, .ref o), (2, .ref (GM 0)), (1, .ref (GT 0)), (0, .ref b)] → W p l e room_1 s m #[Value.ref b] below meth c H locs (20 + j + 1) (7455 + 6 * j + 6) Q (F0 m 792 ls [])) : W p l e room_1 s m #[Value.ref b] below meth c H locs (20 + j) (7455 + 6 * j) Q (F0 m 779 ls []) := by
  obtain ⟨hx, hb, hr, hml, hown, hts, hX, hbl, hlocks, hgv⟩ := C0
  have hA : ∀ q : Nat, s.heap.size ≤ q → (fun q : Nat => s.heap.size ≤ q) q := fun _ h => h
  have hbA : ¬ (fun q : Nat => s.heap.size ≤ q) b := Nat.not_le.mpr hbl
  have hj5 : j < 512 := by omega
  refine lv_aload_n hx hb d_L_law_779 rfl (lv_at hl 3 rfl) ?_
  have hP0 := wl_unP hP
  have hD0 := wl_unD hD
  have hK0 := wl_unK hK
  refine yb_calli (n := 0) (own := "TagMemoryLaw") (C := "TagMemory") (wf := wT GT kT) (tys := tyTs kT) (wr := [(o, .inl (ko, 1, .inr (.inl f)))] ++ wM GM kM v) (tr := [(ko, .long)] ++ tyMs kM) hx hb hml hown hts (c_T_check l D GT kT _ _ (by exact hR.tI) (by exact sim_check hR)) (tb_VL wm_89 wm_90 wm_91 wm_1 wm_92) rfl rfl rfl (by decide +kernel) ⟨by show (4 : Nat) + 1 ≤ 11; omega, by show 8 + (3 + 11) + (86 : Nat) ≤ 400; omega⟩ hK0 hP0 hD0 hS hA rfl rfl rfl rfl hl.1 rfl (Nat.le_of_ble_eq_true rfl) d_L_law_780 ⟨by show _ ≤ 1052; omega, by show _ ≤ 15695; omega⟩ (fun r u1 H locs hw hP hD hS => ?_)
  obtain ⟨e1, e2⟩ := hw
  subst e1
  rw [e2] at hP hD; clear e2 u1
  have hP := wl_foldP hP
  have hD := wl_foldD hD
  refine lv_aload_n hx hb d_L_law_783 rfl (lv_at hl 2 rfl) ?_
  refine yb_calli (n := 0) (own := "TagMemoryLaw") (C := "TagMemoryModel") (wf := wM GM kM) (tys := tyMs kM) hx hb hml hown hts (c_M_check l D GM kM _ _ ) (tb_VL wm_455 wm_456 wm_457 wm_2 wm_458) rfl rfl rfl (by decide +kernel) ⟨by show (0 : Nat) + 1 ≤ 11; omega, by show 8 + (1 + 11) + (0 : Nat) ≤ 400; omega⟩ (ya_Kc hK) (ya_Pc hP) (ya_Dc hD) hS hA rfl rfl rfl rfl hl.1 rfl (Nat.le_of_ble_eq_true rfl) d_L_law_784 ⟨by show _ ≤ 1052; omega, by show _ ≤ 15695; omega⟩ (fun r v1 H locs hw hP hD hS => ?_)
  obtain ⟨e1, e2⟩ := hw
  subst e1
  rw [e2] at hP hD; clear e2 v1
  have hP := ya_Pc hP
  have hD := ya_Dc hD
  refine lv_icmp_eq (tgt := 792) hx hb d_L_law_787 (by decide) (fun _ => ?_) (fun c9 => absurd rfl c9)
  have hP : va_P D vwCl (wL GT GM kT kM o ko (u) (f) (nTh v 0)) H := hP
  have hD : va_D (fun q : Nat => s.heap.size ≤ q) (wL GT GM kT kM o ko (u) (f) (nTh v 0)) := hD
  refine W.widen (k := 20 + j + 1) (n := 7455 + 6 * j + 6) (by omega) (by omega) ?_
  exact kk _ _ _ _ _ _ hR.th hP hD hS (lv_sub hl [0, 1, 2, 3, 4] rfl)
