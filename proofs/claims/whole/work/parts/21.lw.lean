abbrev wX (G : Nat → Nat) (kc : Nat → ClassId) (o : Nat) (ko : ClassId) (z : TC × (Nat → Int64)) : va_W := wT G kc z.1 ++ [(o, .inl (ko, 1, .inr (.inl z.2)))]
abbrev tyX (kc : Nat → ClassId) (ko : ClassId) : List (ClassId × FieldType) := tyTs kc ++ [(ko, .long)]
def outB (r : Int32) : Int64 := if r = 0 then 0 else 1
abbrev PXE (E : String) (kx : Nat) (tx : String) : State → Prop := fun U => THR E U ∧ STR kx tx U
abbrev PXN (E : String) (kx : Nat) (tx : String) (N : String) : State → Prop := fun U => THR E U ∧ STR kx tx U ∧ va_Nc E N U
set_option maxHeartbeats 4000000 in
set_option maxRecDepth 100000 in
theorem c_L_read (l : Launch) (D : va_G) (G : Nat → Nat) (kc : Nat → ClassId) (o : Nat) (ko : ClassId) (sz : Nat) (u : TC) (f : Nat → Int64) (i : Nat) (hi : i < 2048) (hI : tI u) : XW l y_L_read k_L_read { frames := 8, cells := 0, slots := 0, locals := 160 } D vwCl (wX G kc o ko) (tyX kc ko) (u, f) sz [.ref (G 0), .int (nI i), .ref o] (fun _ => True) 0 0 (fun r z => r = 0 ∧ z = (fWant u (i / 4), vp_updL f 0 (tLw (fWant u (i / 4)) (i % 64)).toInt64)) := by
  refine xw_of (cc := b_L_read) (maxL := 4) (ret := some .int) (hh := [(0, 9, 12, 13)]) (by decide) rfl (Nat.le_of_ble_eq_true rfl) ?_
  intro p e s m below meth c A ls hx hb hml hr hlocks hexc hts hown hPX hP hK hD hA hl
  have hl : lv_has ls 4 [(0, .ref (G 0)), (1, .int (nI i)), (2, .ref o)] := hl
  have hS : va_S A s.heap s.heap [] := va_S.rf
  refine lv_aload_n hx hb d_L_read_0 rfl (lv_at hl 2 rfl) ?_
  refine lv_iconst (v := 0) hx hb d_L_read_1 (by decide) ?_
  refine lv_aload_n hx hb d_L_read_2 rfl (lv_at hl 0 rfl) ?_
  refine lv_iload_n hx hb d_L_read_3 rfl (lv_at hl 1 rfl) ?_
  refine yb_calli (n := 1) (own := "TagMemoryLaw") (C := "TagMemory") (wf := wT G kc) (tys := tyTs kc) hx hb hml hown hts (c_T_read l D G kc _ _ i hi (by exact hI)) (tb_V wm_123 wm_124 wm_125 wm_1 wm_126) rfl rfl rfl (by decide +kernel) ⟨Nat.le_of_ble_eq_true rfl, Nat.le_of_ble_eq_true rfl⟩ hK hP hD hS hA rfl rfl rfl rfl hl.1 rfl (Nat.le_of_ble_eq_true rfl) d_L_read_4 ⟨Nat.zero_le _, Nat.zero_le _⟩ (fun r u1 H locs hw hP hD hS => ?_)
  obtain ⟨e1, e2⟩ := hw
  subst e1
  rw [e2] at hP hD; clear e2 u1
  refine lv_i2l hx hb d_L_read_7 rfl ?_
  refine xa_last hx hb hK hP hD hS 9 8 rfl rfl (by decide) 0 rfl (by decide) d_L_read_8 (fun H locs hP hD hS => ?_)
  have hP : va_P D vwCl (wX G kc o ko (fWant u (i / 4), vp_updL f 0 (tLw (fWant u (i / 4)) (i % 64)).toInt64)) H := hP
  have hD : va_D A (wX G kc o ko (fWant u (i / 4), vp_updL f 0 (tLw (fWant u (i / 4)) (i % 64)).toInt64)) := hD
  refine lv_goto (tgt := 15) hx hb d_L_read_9 (by decide) ?_
  refine lv_iconst (v := 0) hx hb d_L_read_15 (by decide) ?_
  exact xc_iret hx hb hr hlocks hP hK hD hS ⟨rfl, rfl⟩ d_L_read_16
set_option maxHeartbeats 4000000 in
set_option maxRecDepth 100000 in
theorem c_L_tag (l : Launch) (D : va_G) (G : Nat → Nat) (kc : Nat → ClassId) (o : Nat) (ko : ClassId) (sz : Nat) (u : TC) (f : Nat → Int64) (i : Nat) (hi : i < 2048) (hI : tI u) : XW l y_L_tag k_L_tag { frames := 8, cells := 0, slots := 0, locals := 160 } D vwCl (wX G kc o ko) (tyX kc ko) (u, f) sz [.ref (G 0), .int (nI i), .ref o] (fun _ => True) 0 0 (fun r z => r = 0 ∧ z = (fWant u (i / 2 / 2), vp_updL f 0 (outB (rTag (fWant u (i / 2 / 2)) (i / 2))))) := by
  by_cases h1 : rTag (fWant u (i / 2 / 2)) (i / 2) = 0
  · have hO : outB (rTag (fWant u (i / 2 / 2)) (i / 2)) = 0 := by unfold outB; rw [if_pos h1]
    rw [hO]
    refine xw_of (cc := b_L_tag) (maxL := 4) (ret := some .int) (hh := [(0, 16, 19, 13)]) (by decide) rfl (Nat.le_of_ble_eq_true rfl) ?_
    intro p e s m below meth c A ls hx hb hml hr hlocks hexc hts hown hPX hP hK hD hA hl
    have hl : lv_has ls 4 [(0, .ref (G 0)), (1, .int (nI i)), (2, .ref o)] := hl
    have hS : va_S A s.heap s.heap [] := va_S.rf
    refine lv_aload_n hx hb d_L_tag_0 rfl (lv_at hl 2 rfl) ?_
    refine lv_iconst (v := 0) hx hb d_L_tag_1 (by decide) ?_
    refine lv_aload_n hx hb d_L_tag_2 rfl (lv_at hl 0 rfl) ?_
    refine lv_iload_n hx hb d_L_tag_3 rfl (lv_at hl 1 rfl) ?_
    refine yb_calli (n := 1) (own := "TagMemoryLaw") (C := "TagMemory") (wf := wT G kc) (tys := tyTs kc) hx hb hml hown hts (c_T_tag l D G kc _ _ i hi (by exact hI)) (tb_V wm_214 wm_215 wm_216 wm_1 wm_217) rfl rfl rfl (by decide +kernel) ⟨Nat.le_of_ble_eq_true rfl, Nat.le_of_ble_eq_true rfl⟩ hK hP hD hS hA rfl rfl rfl rfl hl.1 rfl (Nat.le_of_ble_eq_true rfl) d_L_tag_4 ⟨Nat.zero_le _, Nat.zero_le _⟩ (fun r u1 H locs hw hP hD hS => ?_)
    obtain ⟨e1, e2⟩ := hw
    subst e1
    rw [e2] at hP hD; clear e2 u1
    refine lv_if_eq (tgt := 14) hx hb d_L_tag_7 (by decide) (fun _ => ?_) (fun c9 => absurd h1 c9)
    refine lv_lconst (v := 0) hx hb d_L_tag_14 (by decide) ?_
    refine xa_last hx hb hK hP hD hS 9 8 rfl rfl (by decide) 0 rfl (by decide) d_L_tag_15 (fun H locs hP hD hS => ?_)
    have hP : va_P D vwCl (wX G kc o ko (fWant u (i / 2 / 2), vp_updL f 0 0)) H := hP
    have hD : va_D A (wX G kc o ko (fWant u (i / 2 / 2), vp_updL f 0 0)) := hD
    refine lv_goto (tgt := 22) hx hb d_L_tag_16 (by decide) ?_
    refine lv_iconst (v := 0) hx hb d_L_tag_22 (by decide) ?_
    exact xc_iret hx hb hr hlocks hP hK hD hS ⟨rfl, rfl⟩ d_L_tag_23
  · have hO : outB (rTag (fWant u (i / 2 / 2)) (i / 2)) = 1 := by unfold outB; rw [if_neg h1]
    rw [hO]
    refine xw_of (cc := b_L_tag) (maxL := 4) (ret := some .int) (hh := [(0, 16, 19, 13)]) (by decide) rfl (Nat.le_of_ble_eq_true rfl) ?_
    intro p e s m below meth c A ls hx hb hml hr hlocks hexc hts hown hPX hP hK hD hA hl
    have hl : lv_has ls 4 [(0, .ref (G 0)), (1, .int (nI i)), (2, .ref o)] := hl
    have hS : va_S A s.heap s.heap [] := va_S.rf
    refine lv_aload_n hx hb d_L_tag_0 rfl (lv_at hl 2 rfl) ?_
    refine lv_iconst (v := 0) hx hb d_L_tag_1 (by decide) ?_
    refine lv_aload_n hx hb d_L_tag_2 rfl (lv_at hl 0 rfl) ?_
    refine lv_iload_n hx hb d_L_tag_3 rfl (lv_at hl 1 rfl) ?_
    refine yb_calli (n := 1) (own := "TagMemoryLaw") (C := "TagMemory") (wf := wT G kc) (tys := tyTs kc) hx hb hml hown hts (c_T_tag l D G kc _ _ i hi (by exact hI)) (tb_V wm_214 wm_215 wm_216 wm_1 wm_217) rfl rfl rfl (by decide +kernel) ⟨Nat.le_of_ble_eq_true rfl, Nat.le_of_ble_eq_true rfl⟩ hK hP hD hS hA rfl rfl rfl rfl hl.1 rfl (Nat.le_of_ble_eq_true rfl) d_L_tag_4 ⟨Nat.zero_le _, Nat.zero_le _⟩ (fun r u1 H locs hw hP hD hS => ?_)
    obtain ⟨e1, e2⟩ := hw
    subst e1
    rw [e2] at hP hD; clear e2 u1
    refine lv_if_eq (tgt := 14) hx hb d_L_tag_7 (by decide) (fun c9 => absurd c9 h1) (fun _ => ?_)
    refine lv_lconst (v := 1) hx hb d_L_tag_10 (by decide) ?_
    refine lv_goto (tgt := 15) hx hb d_L_tag_11 (by decide) ?_
    refine xa_last hx hb hK hP hD hS 9 8 rfl rfl (by decide) 0 rfl (by decide) d_L_tag_15 (fun H locs hP hD hS => ?_)
    have hP : va_P D vwCl (wX G kc o ko (fWant u (i / 2 / 2), vp_updL f 0 1)) H := hP
    have hD : va_D A (wX G kc o ko (fWant u (i / 2 / 2), vp_updL f 0 1)) := hD
    refine lv_goto (tgt := 22) hx hb d_L_tag_16 (by decide) ?_
    refine lv_iconst (v := 0) hx hb d_L_tag_22 (by decide) ?_
    exact xc_iret hx hb hr hlocks hP hK hD hS ⟨rfl, rfl⟩ d_L_tag_23
set_option maxHeartbeats 4000000 in
set_option maxRecDepth 100000 in
theorem c_L_write (l : Launch) (D : va_G) (G : Nat → Nat) (kc : Nat → ClassId) (o : Nat) (ko : ClassId) (sz : Nat) (u : TC) (f : Nat → Int64) (i : Nat) (hi : i < 2048) (w : Int32) (hI : tI u) : XW l y_L_write k_L_write { frames := 8, cells := 0, slots := 0, locals := 160 } D vwCl (wX G kc o ko) (tyX kc ko) (u, f) sz [.ref (G 0), .int (nI i), .int w, .ref o] (fun _ => True) 0 0 (fun r z => r = 0 ∧ z = (fChWord (fWant u (i / 4)) i w, vp_updL f 0 (tLw (fWant u (i / 4)) (i % 64)).toInt64)) := by
  refine xw_of (cc := b_L_write) (maxL := 5) (ret := some .int) (hh := [(0, 10, 13, 13)]) (by decide) rfl (Nat.le_of_ble_eq_true rfl) ?_
  intro p e s m below meth c A ls hx hb hml hr hlocks hexc hts hown hPX hP hK hD hA hl
  have hl : lv_has ls 5 [(0, .ref (G 0)), (1, .int (nI i)), (2, .int w), (3, .ref o)] := hl
  have hS : va_S A s.heap s.heap [] := va_S.rf
  refine lv_aload_n hx hb d_L_write_0 rfl (lv_at hl 3 rfl) ?_
  refine lv_iconst (v := 0) hx hb d_L_write_1 (by decide) ?_
  refine lv_aload_n hx hb d_L_write_2 rfl (lv_at hl 0 rfl) ?_
  refine lv_iload_n hx hb d_L_write_3 rfl (lv_at hl 1 rfl) ?_
  refine lv_iload_n hx hb d_L_write_4 rfl (lv_at hl 2 rfl) ?_
  refine yb_calli (n := 2) (own := "TagMemoryLaw") (C := "TagMemory") (wf := wT G kc) (tys := tyTs kc) hx hb hml hown hts (c_T_write l D G kc _ _ i hi w (by exact hI)) (tb_V wm_234 wm_235 wm_236 wm_1 wm_237) rfl rfl rfl (by decide +kernel) ⟨Nat.le_of_ble_eq_true rfl, Nat.le_of_ble_eq_true rfl⟩ hK hP hD hS hA rfl rfl rfl rfl hl.1 rfl (Nat.le_of_ble_eq_true rfl) d_L_write_5 ⟨Nat.zero_le _, Nat.zero_le _⟩ (fun r u1 H locs hw hP hD hS => ?_)
  obtain ⟨e1, e2⟩ := hw
  subst e1
  rw [e2] at hP hD; clear e2 u1
  refine lv_i2l hx hb d_L_write_8 rfl ?_
  refine xa_last hx hb hK hP hD hS 9 8 rfl rfl (by decide) 0 rfl (by decide) d_L_write_9 (fun H locs hP hD hS => ?_)
  have hP : va_P D vwCl (wX G kc o ko (fChWord (fWant u (i / 4)) i w, vp_updL f 0 (tLw (fWant u (i / 4)) (i % 64)).toInt64)) H := hP
  have hD : va_D A (wX G kc o ko (fChWord (fWant u (i / 4)) i w, vp_updL f 0 (tLw (fWant u (i / 4)) (i % 64)).toInt64)) := hD
  refine lv_goto (tgt := 17) hx hb d_L_write_10 (by decide) ?_
  refine lv_iconst (v := 0) hx hb d_L_write_17 (by decide) ?_
  exact xc_iret hx hb hr hlocks hP hK hD hS ⟨rfl, rfl⟩ d_L_write_18
set_option maxHeartbeats 4000000 in
set_option maxRecDepth 100000 in
theorem c_L_part (l : Launch) (D : va_G) (G : Nat → Nat) (kc : Nat → ClassId) (o : Nat) (ko : ClassId) (sz : Nat) (u : TC) (f : Nat → Int64) (i j n : Nat) (hi : i < 2048) (hj : j < 4) (hn : n = 1 ∨ n = 2) (hd : j % n = 0) (v : Int32) (hI : tI u) : XW l y_L_part k_L_part { frames := 8, cells := 0, slots := 0, locals := 160 } D vwCl (wX G kc o ko) (tyX kc ko) (u, f) sz [.ref (G 0), .int (nI i), .int (nI j), .int (nI n), .int v, .ref o] (fun _ => True) 0 0 (fun r z => r = 0 ∧ z = (fChWord (fWant u (i / 4)) i (fPart (tLw (fWant u (i / 4)) (i % 64)) j n v), vp_updL f 0 (fPart (tLw (fWant u (i / 4)) (i % 64)) j n v).toInt64)) := by
  refine xw_of (cc := b_L_part) (maxL := 7) (ret := some .int) (hh := [(0, 14, 17, 13), (0, 14, 21, 27)]) (by decide) rfl (Nat.le_of_ble_eq_true rfl) ?_
  intro p e s m below meth c A ls hx hb hml hr hlocks hexc hts hown hPX hP hK hD hA hl
  have hl : lv_has ls 7 [(0, .ref (G 0)), (1, .int (nI i)), (2, .int (nI j)), (3, .int (nI n)), (4, .int v), (5, .ref o)] := hl
  have hS : va_S A s.heap s.heap [] := va_S.rf
  refine lv_aload hx hb d_L_part_0 (lv_at hl 5 rfl) ?_
  refine lv_iconst (v := 0) hx hb d_L_part_2 (by decide) ?_
  refine lv_aload_n hx hb d_L_part_3 rfl (lv_at hl 0 rfl) ?_
  refine lv_iload_n hx hb d_L_part_4 rfl (lv_at hl 1 rfl) ?_
  refine lv_iload_n hx hb d_L_part_5 rfl (lv_at hl 2 rfl) ?_
  refine lv_iload_n hx hb d_L_part_6 rfl (lv_at hl 3 rfl) ?_
  refine lv_iload hx hb d_L_part_7 (lv_at hl 4 rfl) ?_
  refine yb_calli (n := 4) (own := "TagMemoryLaw") (C := "TagMemory") (wf := wT G kc) (tys := tyTs kc) hx hb hml hown hts (c_T_part l D G kc _ _ i j n hi hj hn hd v (by exact hI)) (tb_V wm_250 wm_251 wm_252 wm_1 wm_253) rfl rfl rfl (by decide +kernel) ⟨Nat.le_of_ble_eq_true rfl, Nat.le_of_ble_eq_true rfl⟩ hK hP hD hS hA rfl rfl rfl rfl hl.1 rfl (Nat.le_of_ble_eq_true rfl) d_L_part_9 ⟨Nat.zero_le _, Nat.zero_le _⟩ (fun r u1 H locs hw hP hD hS => ?_)
  obtain ⟨e1, e2⟩ := hw
  subst e1
  rw [e2] at hP hD; clear e2 u1
  refine lv_i2l hx hb d_L_part_12 rfl ?_
  refine xa_last hx hb hK hP hD hS 9 8 rfl rfl (by decide) 0 rfl (by decide) d_L_part_13 (fun H locs hP hD hS => ?_)
  have hP : va_P D vwCl (wX G kc o ko (fChWord (fWant u (i / 4)) i (fPart (tLw (fWant u (i / 4)) (i % 64)) j n v), vp_updL f 0 (fPart (tLw (fWant u (i / 4)) (i % 64)) j n v).toInt64)) H := hP
  have hD : va_D A (wX G kc o ko (fChWord (fWant u (i / 4)) i (fPart (tLw (fWant u (i / 4)) (i % 64)) j n v), vp_updL f 0 (fPart (tLw (fWant u (i / 4)) (i % 64)) j n v).toInt64)) := hD
  refine lv_goto (tgt := 25) hx hb d_L_part_14 (by decide) ?_
  refine lv_iconst (v := 0) hx hb d_L_part_25 (by decide) ?_
  exact xc_iret hx hb hr hlocks hP hK hD hS ⟨rfl, rfl⟩ d_L_part_26
set_option maxHeartbeats 4000000 in
set_option maxRecDepth 100000 in
theorem c_L_put (l : Launch) (D : va_G) (G : Nat → Nat) (kc : Nat → ClassId) (sz : Nat) (u : TC) (g : Nat) (hg : g < 1024) (lo hi t : Int32) (hI : tI u) : XW l y_L_put k_L_put { frames := 8, cells := 0, slots := 0, locals := 160 } D vwCl (wT G kc) (tyTs kc) u sz [.ref (G 0), .int (nI g), .int lo, .int hi, .int t] (fun _ => True) 0 0 (fun r z => r = 0 ∧ z = fChGran (fWant u (g / 2)) g lo hi t) := by
  refine xw_of (cc := b_L_put) (maxL := 6) (ret := some .int) (hh := [(0, 9, 12, 13)]) (by decide) rfl (Nat.le_of_ble_eq_true rfl) ?_
  intro p e s m below meth c A ls hx hb hml hr hlocks hexc hts hown hPX hP hK hD hA hl
  have hl : lv_has ls 6 [(0, .ref (G 0)), (1, .int (nI g)), (2, .int lo), (3, .int hi), (4, .int t)] := hl
  have hS : va_S A s.heap s.heap [] := va_S.rf
  refine lv_aload_n hx hb d_L_put_0 rfl (lv_at hl 0 rfl) ?_
  refine lv_iload_n hx hb d_L_put_1 rfl (lv_at hl 1 rfl) ?_
  refine lv_iload_n hx hb d_L_put_2 rfl (lv_at hl 2 rfl) ?_
  refine lv_iload_n hx hb d_L_put_3 rfl (lv_at hl 3 rfl) ?_
  refine lv_iload hx hb d_L_put_4 (lv_at hl 4 rfl) ?_
  have hP : va_P D vwCl (wT G kc u ++ []) s.heap := by rw [List.append_nil]; exact hP
  have hD : va_D A (wT G kc u ++ []) := by rw [List.append_nil]; exact hD
  have hK0 : va_K D vwCl (tyTs kc ++ []) s := by rw [List.append_nil]; exact hK
  refine yb_callv (n := 4) (own := "TagMemoryLaw") (C := "TagMemory") (wf := wT G kc) (tys := tyTs kc) hx hb hml hown hts (c_T_put l D G kc _ _ g hg lo hi t (by exact hI)) (tb_V wm_278 wm_279 wm_280 wm_1 wm_281) rfl rfl rfl (by decide +kernel) ⟨Nat.le_of_ble_eq_true rfl, Nat.le_of_ble_eq_true rfl⟩ hK0 hP hD hS hA rfl rfl rfl rfl hl.1 rfl (Nat.le_of_ble_eq_true rfl) d_L_put_6 ⟨Nat.zero_le _, Nat.zero_le _⟩ (fun u1 H locs hw hP hD hS => ?_)
  rw [List.append_nil] at hP hD
  rw [hw] at hP hD; clear hw u1
  refine lv_goto (tgt := 16) hx hb d_L_put_9 (by decide) ?_
  refine lv_iconst (v := 0) hx hb d_L_put_16 (by decide) ?_
  exact xc_iret hx hb hr hlocks hP hK hD hS ⟨rfl, rfl⟩ d_L_put_17
set_option maxHeartbeats 4000000 in
set_option maxRecDepth 100000 in
theorem c_L_copy (l : Launch) (D : va_G) (G : Nat → Nat) (kc : Nat → ClassId) (o : Nat) (ko : ClassId) (sz : Nat) (u : TC) (f : Nat → Int64) (g h : Nat) (hg : g < 1024) (hh : h < 1024) (hI : tI u) : XW l y_L_copy k_L_copy { frames := 8, cells := 0, slots := 0, locals := 160 } D vwCl (wX G kc o ko) (tyX kc ko) (u, f) sz [.ref (G 0), .int (nI g), .int (nI h), .ref o] (fun _ => True) 0 0 (fun r z => r = 0 ∧ z = (fCopy2 (fWant u (h / 2)) g h, vp_updL f 0 (outB (rTag (fWant u (h / 2)) h)))) := by
  by_cases h1 : rTag (fWant u (h / 2)) h = 0
  · have hO : outB (rTag (fWant u (h / 2)) h) = 0 := by unfold outB; rw [if_pos h1]
    rw [hO]
    refine xw_of (cc := b_L_copy) (maxL := 5) (ret := some .int) (hh := [(0, 17, 20, 13)]) (by decide) rfl (Nat.le_of_ble_eq_true rfl) ?_
    intro p e s m below meth c A ls hx hb hml hr hlocks hexc hts hown hPX hP hK hD hA hl
    have hl : lv_has ls 5 [(0, .ref (G 0)), (1, .int (nI g)), (2, .int (nI h)), (3, .ref o)] := hl
    have hS : va_S A s.heap s.heap [] := va_S.rf
    refine lv_aload_n hx hb d_L_copy_0 rfl (lv_at hl 3 rfl) ?_
    refine lv_iconst (v := 0) hx hb d_L_copy_1 (by decide) ?_
    refine lv_aload_n hx hb d_L_copy_2 rfl (lv_at hl 0 rfl) ?_
    refine lv_iload_n hx hb d_L_copy_3 rfl (lv_at hl 1 rfl) ?_
    refine lv_iload_n hx hb d_L_copy_4 rfl (lv_at hl 2 rfl) ?_
    refine yb_calli (n := 2) (own := "TagMemoryLaw") (C := "TagMemory") (wf := wT G kc) (tys := tyTs kc) hx hb hml hown hts (c_T_copy l D G kc _ _ g h hg hh (by exact hI)) (tb_V wm_293 wm_294 wm_295 wm_1 wm_296) rfl rfl rfl (by decide +kernel) ⟨Nat.le_of_ble_eq_true rfl, Nat.le_of_ble_eq_true rfl⟩ hK hP hD hS hA rfl rfl rfl rfl hl.1 rfl (Nat.le_of_ble_eq_true rfl) d_L_copy_5 ⟨Nat.zero_le _, Nat.zero_le _⟩ (fun r u1 H locs hw hP hD hS => ?_)
    obtain ⟨e1, e2⟩ := hw
    subst e1
    rw [e2] at hP hD; clear e2 u1
    refine lv_if_eq (tgt := 15) hx hb d_L_copy_8 (by decide) (fun _ => ?_) (fun c9 => absurd h1 c9)
    refine lv_lconst (v := 0) hx hb d_L_copy_15 (by decide) ?_
    refine xa_last hx hb hK hP hD hS 9 8 rfl rfl (by decide) 0 rfl (by decide) d_L_copy_16 (fun H locs hP hD hS => ?_)
    have hP : va_P D vwCl (wX G kc o ko (fCopy2 (fWant u (h / 2)) g h, vp_updL f 0 0)) H := hP
    have hD : va_D A (wX G kc o ko (fCopy2 (fWant u (h / 2)) g h, vp_updL f 0 0)) := hD
    refine lv_goto (tgt := 24) hx hb d_L_copy_17 (by decide) ?_
    refine lv_iconst (v := 0) hx hb d_L_copy_24 (by decide) ?_
    exact xc_iret hx hb hr hlocks hP hK hD hS ⟨rfl, rfl⟩ d_L_copy_25
  · have hO : outB (rTag (fWant u (h / 2)) h) = 1 := by unfold outB; rw [if_neg h1]
    rw [hO]
    refine xw_of (cc := b_L_copy) (maxL := 5) (ret := some .int) (hh := [(0, 17, 20, 13)]) (by decide) rfl (Nat.le_of_ble_eq_true rfl) ?_
    intro p e s m below meth c A ls hx hb hml hr hlocks hexc hts hown hPX hP hK hD hA hl
    have hl : lv_has ls 5 [(0, .ref (G 0)), (1, .int (nI g)), (2, .int (nI h)), (3, .ref o)] := hl
    have hS : va_S A s.heap s.heap [] := va_S.rf
    refine lv_aload_n hx hb d_L_copy_0 rfl (lv_at hl 3 rfl) ?_
    refine lv_iconst (v := 0) hx hb d_L_copy_1 (by decide) ?_
    refine lv_aload_n hx hb d_L_copy_2 rfl (lv_at hl 0 rfl) ?_
    refine lv_iload_n hx hb d_L_copy_3 rfl (lv_at hl 1 rfl) ?_
    refine lv_iload_n hx hb d_L_copy_4 rfl (lv_at hl 2 rfl) ?_
    refine yb_calli (n := 2) (own := "TagMemoryLaw") (C := "TagMemory") (wf := wT G kc) (tys := tyTs kc) hx hb hml hown hts (c_T_copy l D G kc _ _ g h hg hh (by exact hI)) (tb_V wm_293 wm_294 wm_295 wm_1 wm_296) rfl rfl rfl (by decide +kernel) ⟨Nat.le_of_ble_eq_true rfl, Nat.le_of_ble_eq_true rfl⟩ hK hP hD hS hA rfl rfl rfl rfl hl.1 rfl (Nat.le_of_ble_eq_true rfl) d_L_copy_5 ⟨Nat.zero_le _, Nat.zero_le _⟩ (fun r u1 H locs hw hP hD hS => ?_)
    obtain ⟨e1, e2⟩ := hw
    subst e1
    rw [e2] at hP hD; clear e2 u1
    refine lv_if_eq (tgt := 15) hx hb d_L_copy_8 (by decide) (fun c9 => absurd c9 h1) (fun _ => ?_)
    refine lv_lconst (v := 1) hx hb d_L_copy_11 (by decide) ?_
    refine lv_goto (tgt := 16) hx hb d_L_copy_12 (by decide) ?_
    refine xa_last hx hb hK hP hD hS 9 8 rfl rfl (by decide) 0 rfl (by decide) d_L_copy_16 (fun H locs hP hD hS => ?_)
    have hP : va_P D vwCl (wX G kc o ko (fCopy2 (fWant u (h / 2)) g h, vp_updL f 0 1)) H := hP
    have hD : va_D A (wX G kc o ko (fCopy2 (fWant u (h / 2)) g h, vp_updL f 0 1)) := hD
    refine lv_goto (tgt := 24) hx hb d_L_copy_17 (by decide) ?_
    refine lv_iconst (v := 0) hx hb d_L_copy_24 (by decide) ?_
    exact xc_iret hx hb hr hlocks hP hK hD hS ⟨rfl, rfl⟩ d_L_copy_25
set_option maxHeartbeats 4000000 in
set_option maxRecDepth 100000 in
theorem c_L_drop (l : Launch) (D : va_G) (G : Nat → Nat) (kc : Nat → ClassId) (o : Nat) (ko : ClassId) (sz : Nat) (u : TC) (f : Nat → Int64) (q : Nat) (hq : q < 16) (hI : tI u) : XW l y_L_drop k_L_drop { frames := 8, cells := 0, slots := 0, locals := 160 } D vwCl (wX G kc o ko) (tyX kc ko) (u, f) sz [.ref (G 0), .int (nI q), .ref o] (fun _ => True) 0 0 (fun r z => r = 0 ∧ z = (if tLa u q = -1 then u else fLineGo u q, vp_updL f 0 (if tLa u q = -1 then (-1 : Int32) else rLineGo u q).toInt64)) := by
  refine xw_of (cc := b_L_drop) (maxL := 4) (ret := some .int) (hh := [(0, 9, 12, 13)]) (by decide) rfl (Nat.le_of_ble_eq_true rfl) ?_
  intro p e s m below meth c A ls hx hb hml hr hlocks hexc hts hown hPX hP hK hD hA hl
  have hl : lv_has ls 4 [(0, .ref (G 0)), (1, .int (nI q)), (2, .ref o)] := hl
  have hS : va_S A s.heap s.heap [] := va_S.rf
  refine lv_aload_n hx hb d_L_drop_0 rfl (lv_at hl 2 rfl) ?_
  refine lv_iconst (v := 0) hx hb d_L_drop_1 (by decide) ?_
  refine lv_aload_n hx hb d_L_drop_2 rfl (lv_at hl 0 rfl) ?_
  refine lv_iload_n hx hb d_L_drop_3 rfl (lv_at hl 1 rfl) ?_
  refine yb_calli (n := 1) (own := "TagMemoryLaw") (C := "TagMemory") (wf := wT G kc) (tys := tyTs kc) hx hb hml hown hts (c_T_drop l D G kc _ _ q hq (by exact hI)) (tb_V wm_300 wm_301 wm_302 wm_1 wm_303) rfl rfl rfl (by decide +kernel) ⟨Nat.le_of_ble_eq_true rfl, Nat.le_of_ble_eq_true rfl⟩ hK hP hD hS hA rfl rfl rfl rfl hl.1 rfl (Nat.le_of_ble_eq_true rfl) d_L_drop_4 ⟨Nat.zero_le _, Nat.zero_le _⟩ (fun r u1 H locs hw hP hD hS => ?_)
  obtain ⟨e1, e2⟩ := hw
  subst e1
  rw [e2] at hP hD; clear e2 u1
  refine lv_i2l hx hb d_L_drop_7 rfl ?_
  refine xa_last hx hb hK hP hD hS 9 8 rfl rfl (by decide) 0 rfl (by decide) d_L_drop_8 (fun H locs hP hD hS => ?_)
  have hP : va_P D vwCl (wX G kc o ko (if tLa u q = -1 then u else fLineGo u q, vp_updL f 0 (if tLa u q = -1 then (-1 : Int32) else rLineGo u q).toInt64)) H := hP
  have hD : va_D A (wX G kc o ko (if tLa u q = -1 then u else fLineGo u q, vp_updL f 0 (if tLa u q = -1 then (-1 : Int32) else rLineGo u q).toInt64)) := hD
  refine lv_goto (tgt := 15) hx hb d_L_drop_9 (by decide) ?_
  refine lv_iconst (v := 0) hx hb d_L_drop_15 (by decide) ?_
  exact xc_iret hx hb hr hlocks hP hK hD hS ⟨rfl, rfl⟩ d_L_drop_16
set_option maxHeartbeats 4000000 in
set_option maxRecDepth 100000 in
theorem c_L_store (l : Launch) (D : va_G) (G : Nat → Nat) (kc : Nat → ClassId) (o : Nat) (ko : ClassId) (sz : Nat) (u : TC) (f : Nat → Int64) (i : Nat) (hi : i < 2080) : XW l y_L_store k_L_store { frames := 8, cells := 0, slots := 0, locals := 160 } D vwCl (wX G kc o ko) (tyX kc ko) (u, f) sz [.ref (G 0), .int (nI i), .ref o] (fun _ => True) 0 0 (fun r z => r = 0 ∧ z = (u, vp_updL f 0 (tSt u i).toInt64)) := by
  refine xw_of (cc := b_L_store) (maxL := 4) (ret := some .int) (hh := [(0, 9, 12, 13)]) (by decide) rfl (Nat.le_of_ble_eq_true rfl) ?_
  intro p e s m below meth c A ls hx hb hml hr hlocks hexc hts hown hPX hP hK hD hA hl
  have hl : lv_has ls 4 [(0, .ref (G 0)), (1, .int (nI i)), (2, .ref o)] := hl
  have hS : va_S A s.heap s.heap [] := va_S.rf
  refine lv_aload_n hx hb d_L_store_0 rfl (lv_at hl 2 rfl) ?_
  refine lv_iconst (v := 0) hx hb d_L_store_1 (by decide) ?_
  refine lv_aload_n hx hb d_L_store_2 rfl (lv_at hl 0 rfl) ?_
  refine lv_iload_n hx hb d_L_store_3 rfl (lv_at hl 1 rfl) ?_
  refine yb_calli (n := 1) (own := "TagMemoryLaw") (C := "TagMemory") (wf := wT G kc) (tys := tyTs kc) hx hb hml hown hts (c_T_store l D G kc _ _ i hi) (tb_V wm_308 wm_309 wm_310 wm_1 wm_311) rfl rfl rfl (by decide +kernel) ⟨Nat.le_of_ble_eq_true rfl, Nat.le_of_ble_eq_true rfl⟩ hK hP hD hS hA rfl rfl rfl rfl hl.1 rfl (Nat.le_of_ble_eq_true rfl) d_L_store_4 ⟨Nat.zero_le _, Nat.zero_le _⟩ (fun r u1 H locs hw hP hD hS => ?_)
  obtain ⟨e1, e2⟩ := hw
  subst e1
  rw [e2] at hP hD; clear e2 u1
  refine lv_i2l hx hb d_L_store_7 rfl ?_
  refine xa_last hx hb hK hP hD hS 9 8 rfl rfl (by decide) 0 rfl (by decide) d_L_store_8 (fun H locs hP hD hS => ?_)
  have hP : va_P D vwCl (wX G kc o ko (u, vp_updL f 0 (tSt u i).toInt64)) H := hP
  have hD : va_D A (wX G kc o ko (u, vp_updL f 0 (tSt u i).toInt64)) := hD
  refine lv_goto (tgt := 15) hx hb d_L_store_9 (by decide) ?_
  refine lv_iconst (v := 0) hx hb d_L_store_15 (by decide) ?_
  exact xc_iret hx hb hr hlocks hP hK hD hS ⟨rfl, rfl⟩ d_L_store_16
set_option maxHeartbeats 4000000 in
set_option maxRecDepth 100000 in
theorem c_L_kept (l : Launch) (D : va_G) (G : Nat → Nat) (kc : Nat → ClassId) (o : Nat) (ko : ClassId) (sz : Nat) (u : TC) (f : Nat → Int64) (q : Nat) (hq : q < 20) : XW l y_L_kept k_L_kept { frames := 8, cells := 0, slots := 0, locals := 160 } D vwCl (wX G kc o ko) (tyX kc ko) (u, f) sz [.ref (G 0), .int (nI q), .ref o] (fun _ => True) 0 0 (fun r z => r = 0 ∧ z = (u, vp_updL f 0 (if q < 16 then tLa u q else tRa u (q - 16)).toInt64)) := by
  refine xw_of (cc := b_L_kept) (maxL := 4) (ret := some .int) (hh := [(0, 9, 12, 13)]) (by decide) rfl (Nat.le_of_ble_eq_true rfl) ?_
  intro p e s m below meth c A ls hx hb hml hr hlocks hexc hts hown hPX hP hK hD hA hl
  have hl : lv_has ls 4 [(0, .ref (G 0)), (1, .int (nI q)), (2, .ref o)] := hl
  have hS : va_S A s.heap s.heap [] := va_S.rf
  refine lv_aload_n hx hb d_L_kept_0 rfl (lv_at hl 2 rfl) ?_
  refine lv_iconst (v := 0) hx hb d_L_kept_1 (by decide) ?_
  refine lv_aload_n hx hb d_L_kept_2 rfl (lv_at hl 0 rfl) ?_
  refine lv_iload_n hx hb d_L_kept_3 rfl (lv_at hl 1 rfl) ?_
  refine yb_calli (n := 1) (own := "TagMemoryLaw") (C := "TagMemory") (wf := wT G kc) (tys := tyTs kc) hx hb hml hown hts (c_T_kept l D G kc _ _ q hq) (tb_V wm_316 wm_317 wm_318 wm_1 wm_319) rfl rfl rfl (by decide +kernel) ⟨Nat.le_of_ble_eq_true rfl, Nat.le_of_ble_eq_true rfl⟩ hK hP hD hS hA rfl rfl rfl rfl hl.1 rfl (Nat.le_of_ble_eq_true rfl) d_L_kept_4 ⟨Nat.zero_le _, Nat.zero_le _⟩ (fun r u1 H locs hw hP hD hS => ?_)
  obtain ⟨e1, e2⟩ := hw
  subst e1
  rw [e2] at hP hD; clear e2 u1
  refine lv_i2l hx hb d_L_kept_7 rfl ?_
  refine xa_last hx hb hK hP hD hS 9 8 rfl rfl (by decide) 0 rfl (by decide) d_L_kept_8 (fun H locs hP hD hS => ?_)
  have hP : va_P D vwCl (wX G kc o ko (u, vp_updL f 0 (if q < 16 then tLa u q else tRa u (q - 16)).toInt64)) H := hP
  have hD : va_D A (wX G kc o ko (u, vp_updL f 0 (if q < 16 then tLa u q else tRa u (q - 16)).toInt64)) := hD
  refine lv_goto (tgt := 15) hx hb d_L_kept_9 (by decide) ?_
  refine lv_iconst (v := 0) hx hb d_L_kept_15 (by decide) ?_
  exact xc_iret hx hb hr hlocks hP hK hD hS ⟨rfl, rfl⟩ d_L_kept_16
set_option maxHeartbeats 4000000 in
set_option maxRecDepth 100000 in
theorem c_L_count (l : Launch) (D : va_G) (G : Nat → Nat) (kc : Nat → ClassId) (o : Nat) (ko : ClassId) (sz : Nat) (u : TC) (f : Nat → Int64) (w : Nat) (hw : w < 9) (hI : tI u) : XW l y_L_count k_L_count { frames := 8, cells := 0, slots := 0, locals := 160 } D vwCl (wX G kc o ko) (tyX kc ko) (u, f) sz [.ref (G 0), .int (nI w), .ref o] (fun _ => True) 0 0 (fun r z => r = 0 ∧ z = (u, vp_updL f 0 (rCount u w).toInt64)) := by
  refine xw_of (cc := b_L_count) (maxL := 4) (ret := some .int) (hh := [(0, 9, 12, 27)]) (by decide) rfl (Nat.le_of_ble_eq_true rfl) ?_
  intro p e s m below meth c A ls hx hb hml hr hlocks hexc hts hown hPX hP hK hD hA hl
  have hl : lv_has ls 4 [(0, .ref (G 0)), (1, .int (nI w)), (2, .ref o)] := hl
  have hS : va_S A s.heap s.heap [] := va_S.rf
  refine lv_aload_n hx hb d_L_count_0 rfl (lv_at hl 2 rfl) ?_
  refine lv_iconst (v := 0) hx hb d_L_count_1 (by decide) ?_
  refine lv_aload_n hx hb d_L_count_2 rfl (lv_at hl 0 rfl) ?_
  refine lv_iload_n hx hb d_L_count_3 rfl (lv_at hl 1 rfl) ?_
  refine yb_calli (n := 1) (own := "TagMemoryLaw") (C := "TagMemory") (wf := wT G kc) (tys := tyTs kc) hx hb hml hown hts (c_T_count l D G kc _ _ w hw (by exact hI)) (tb_V wm_324 wm_325 wm_326 wm_1 wm_327) rfl rfl rfl (by decide +kernel) ⟨Nat.le_of_ble_eq_true rfl, Nat.le_of_ble_eq_true rfl⟩ hK hP hD hS hA rfl rfl rfl rfl hl.1 rfl (Nat.le_of_ble_eq_true rfl) d_L_count_4 ⟨Nat.zero_le _, Nat.zero_le _⟩ (fun r u1 H locs hw hP hD hS => ?_)
  obtain ⟨e1, e2⟩ := hw
  subst e1
  rw [e2] at hP hD; clear e2 u1
  refine lv_i2l hx hb d_L_count_7 rfl ?_
  refine xa_last hx hb hK hP hD hS 9 8 rfl rfl (by decide) 0 rfl (by decide) d_L_count_8 (fun H locs hP hD hS => ?_)
  have hP : va_P D vwCl (wX G kc o ko (u, vp_updL f 0 (rCount u w).toInt64)) H := hP
  have hD : va_D A (wX G kc o ko (u, vp_updL f 0 (rCount u w).toInt64)) := hD
  refine lv_goto (tgt := 15) hx hb d_L_count_9 (by decide) ?_
  refine lv_iconst (v := 0) hx hb d_L_count_15 (by decide) ?_
  exact xc_iret hx hb hr hlocks hP hK hD hS ⟨rfl, rfl⟩ d_L_count_16
set_option maxHeartbeats 4000000 in
set_option maxRecDepth 100000 in
theorem x_L_read (l : Launch) (hl9 : l.stackTraces = false) (D : va_G) (G : Nat → Nat) (kc : Nat → ClassId) (o : Nat) (ko : ClassId) (sz : Nat) (u : TC) (f : Nat → Int64) (x : Int32) (hbad : xbad 2048 x) : XW l y_L_read k_L_read { frames := 8, cells := 1, slots := 6, locals := 160 } D vwCl (wX G kc o ko) (tyX kc ko) (u, f) sz [.ref (G 0), .int x, .ref o] (PXE "java/lang/IndexOutOfBoundsException" 127 "no such word") 1 6 (fun r z => r = 1 ∧ z = (u, f)) := by
  refine xw_of (cc := b_L_read) (maxL := 4) (ret := some .int) (hh := [(0, 9, 12, 13)]) (by decide) rfl (Nat.le_of_ble_eq_true rfl) ?_
  intro p e s m below meth c A ls hx hb hml hr hlocks hexc hts hown hPX hP hK hD hA hl
  have hl : lv_has ls 4 [(0, .ref (G 0)), (1, .int x), (2, .ref o)] := hl
  have hS : va_S A s.heap s.heap [] := va_S.rf
  refine lv_aload_n hx hb d_L_read_0 rfl (lv_at hl 2 rfl) ?_
  refine lv_iconst (v := 0) hx hb d_L_read_1 (by decide) ?_
  refine lv_aload_n hx hb d_L_read_2 rfl (lv_at hl 0 rfl) ?_
  refine lv_iload_n hx hb d_L_read_3 rfl (lv_at hl 1 rfl) ?_
  obtain ⟨hT, hZ⟩ := hPX
  refine yc_throwi (n := 1) (own := "TagMemoryLaw") (C := "TagMemory") (wf := wX G kc o ko) (A := A) hx hb hml hown hts hT hZ (x_T_read l hl9 (G 0) x hbad) (tb_V wm_123 wm_124 wm_125 wm_1 wm_126) rfl rfl rfl (by decide +kernel) ⟨Nat.le_of_ble_eq_true rfl, Nat.le_of_ble_eq_true rfl⟩ (va_recv hK hP (ci := 0) (q0 := 0) rfl rfl) hP rfl hl.1 rfl (Nat.le_of_ble_eq_true rfl) d_L_read_4 ⟨Nat.le_of_ble_eq_true rfl, Nat.le_of_ble_eq_true rfl⟩ (fun ce q9 H locs hP hS hce hcv hcl => ?_)
  refine vx_catch (E := "java/lang/IndexOutOfBoundsException") (name := "java/lang/IndexOutOfBoundsException") hown [] ⟨0, 9, 12, 13⟩ [] hexc (fun z hz => nomatch hz) (by decide) (by decide) (hts (Cond.classLink "TagMemoryLaw" 13 "java/lang/IndexOutOfBoundsException") (List.mem_cons_of_mem _ wm_122)) (hT.2.2.1.word _) hce hcv hcl ?_
  refine lv_astore_n (lv' := [(3, .ref _), (0, .ref _), (1, .int _), (2, .ref _)]) hx hb d_L_read_12 rfl hl (by decide) rfl (fun ls hl => ?_)
  refine lv_iconst (v := 1) hx hb d_L_read_13 (by decide) ?_
  exact xc_iret hx hb hr hlocks hP hK hD hS ⟨rfl, rfl⟩ d_L_read_14
set_option maxHeartbeats 4000000 in
set_option maxRecDepth 100000 in
theorem x_L_tag (l : Launch) (hl9 : l.stackTraces = false) (D : va_G) (G : Nat → Nat) (kc : Nat → ClassId) (o : Nat) (ko : ClassId) (sz : Nat) (u : TC) (f : Nat → Int64) (x : Int32) (hbad : xbad 2048 x) : XW l y_L_tag k_L_tag { frames := 8, cells := 1, slots := 6, locals := 160 } D vwCl (wX G kc o ko) (tyX kc ko) (u, f) sz [.ref (G 0), .int x, .ref o] (PXE "java/lang/IndexOutOfBoundsException" 127 "no such word") 1 6 (fun r z => r = 1 ∧ z = (u, f)) := by
  refine xw_of (cc := b_L_tag) (maxL := 4) (ret := some .int) (hh := [(0, 16, 19, 13)]) (by decide) rfl (Nat.le_of_ble_eq_true rfl) ?_
  intro p e s m below meth c A ls hx hb hml hr hlocks hexc hts hown hPX hP hK hD hA hl
  have hl : lv_has ls 4 [(0, .ref (G 0)), (1, .int x), (2, .ref o)] := hl
  have hS : va_S A s.heap s.heap [] := va_S.rf
  refine lv_aload_n hx hb d_L_tag_0 rfl (lv_at hl 2 rfl) ?_
  refine lv_iconst (v := 0) hx hb d_L_tag_1 (by decide) ?_
  refine lv_aload_n hx hb d_L_tag_2 rfl (lv_at hl 0 rfl) ?_
  refine lv_iload_n hx hb d_L_tag_3 rfl (lv_at hl 1 rfl) ?_
  obtain ⟨hT, hZ⟩ := hPX
  refine yc_throwi (n := 1) (own := "TagMemoryLaw") (C := "TagMemory") (wf := wX G kc o ko) (A := A) hx hb hml hown hts hT hZ (x_T_tag l hl9 (G 0) x hbad) (tb_V wm_214 wm_215 wm_216 wm_1 wm_217) rfl rfl rfl (by decide +kernel) ⟨Nat.le_of_ble_eq_true rfl, Nat.le_of_ble_eq_true rfl⟩ (va_recv hK hP (ci := 0) (q0 := 0) rfl rfl) hP rfl hl.1 rfl (Nat.le_of_ble_eq_true rfl) d_L_tag_4 ⟨Nat.le_of_ble_eq_true rfl, Nat.le_of_ble_eq_true rfl⟩ (fun ce q9 H locs hP hS hce hcv hcl => ?_)
  refine vx_catch (E := "java/lang/IndexOutOfBoundsException") (name := "java/lang/IndexOutOfBoundsException") hown [] ⟨0, 16, 19, 13⟩ [] hexc (fun z hz => nomatch hz) (by decide) (by decide) (hts (Cond.classLink "TagMemoryLaw" 13 "java/lang/IndexOutOfBoundsException") (List.mem_cons_of_mem _ wm_122)) (hT.2.2.1.word _) hce hcv hcl ?_
  refine lv_astore_n (lv' := [(3, .ref _), (0, .ref _), (1, .int _), (2, .ref _)]) hx hb d_L_tag_19 rfl hl (by decide) rfl (fun ls hl => ?_)
  refine lv_iconst (v := 1) hx hb d_L_tag_20 (by decide) ?_
  exact xc_iret hx hb hr hlocks hP hK hD hS ⟨rfl, rfl⟩ d_L_tag_21
set_option maxHeartbeats 4000000 in
set_option maxRecDepth 100000 in
theorem x_L_write (l : Launch) (hl9 : l.stackTraces = false) (D : va_G) (G : Nat → Nat) (kc : Nat → ClassId) (o : Nat) (ko : ClassId) (sz : Nat) (u : TC) (f : Nat → Int64) (x w : Int32) (hbad : xbad 2048 x) : XW l y_L_write k_L_write { frames := 8, cells := 1, slots := 6, locals := 160 } D vwCl (wX G kc o ko) (tyX kc ko) (u, f) sz [.ref (G 0), .int x, .int w, .ref o] (PXE "java/lang/IndexOutOfBoundsException" 127 "no such word") 1 6 (fun r z => r = 1 ∧ z = (u, f)) := by
  refine xw_of (cc := b_L_write) (maxL := 5) (ret := some .int) (hh := [(0, 10, 13, 13)]) (by decide) rfl (Nat.le_of_ble_eq_true rfl) ?_
  intro p e s m below meth c A ls hx hb hml hr hlocks hexc hts hown hPX hP hK hD hA hl
  have hl : lv_has ls 5 [(0, .ref (G 0)), (1, .int x), (2, .int w), (3, .ref o)] := hl
  have hS : va_S A s.heap s.heap [] := va_S.rf
  refine lv_aload_n hx hb d_L_write_0 rfl (lv_at hl 3 rfl) ?_
  refine lv_iconst (v := 0) hx hb d_L_write_1 (by decide) ?_
  refine lv_aload_n hx hb d_L_write_2 rfl (lv_at hl 0 rfl) ?_
  refine lv_iload_n hx hb d_L_write_3 rfl (lv_at hl 1 rfl) ?_
  refine lv_iload_n hx hb d_L_write_4 rfl (lv_at hl 2 rfl) ?_
  obtain ⟨hT, hZ⟩ := hPX
  refine yc_throwi (n := 2) (own := "TagMemoryLaw") (C := "TagMemory") (wf := wX G kc o ko) (A := A) hx hb hml hown hts hT hZ (x_T_write l hl9 (G 0) x w hbad) (tb_V wm_234 wm_235 wm_236 wm_1 wm_237) rfl rfl rfl (by decide +kernel) ⟨Nat.le_of_ble_eq_true rfl, Nat.le_of_ble_eq_true rfl⟩ (va_recv hK hP (ci := 0) (q0 := 0) rfl rfl) hP rfl hl.1 rfl (Nat.le_of_ble_eq_true rfl) d_L_write_5 ⟨Nat.le_of_ble_eq_true rfl, Nat.le_of_ble_eq_true rfl⟩ (fun ce q9 H locs hP hS hce hcv hcl => ?_)
  refine vx_catch (E := "java/lang/IndexOutOfBoundsException") (name := "java/lang/IndexOutOfBoundsException") hown [] ⟨0, 10, 13, 13⟩ [] hexc (fun z hz => nomatch hz) (by decide) (by decide) (hts (Cond.classLink "TagMemoryLaw" 13 "java/lang/IndexOutOfBoundsException") (List.mem_cons_of_mem _ wm_122)) (hT.2.2.1.word _) hce hcv hcl ?_
  refine lv_astore (lv' := [(4, .ref _), (0, .ref _), (1, .int _), (2, .int _), (3, .ref _)]) hx hb d_L_write_13 hl (by decide) rfl (fun ls hl => ?_)
  refine lv_iconst (v := 1) hx hb d_L_write_15 (by decide) ?_
  exact xc_iret hx hb hr hlocks hP hK hD hS ⟨rfl, rfl⟩ d_L_write_16
set_option maxHeartbeats 4000000 in
set_option maxRecDepth 100000 in
theorem x_L_part (l : Launch) (hl9 : l.stackTraces = false) (D : va_G) (G : Nat → Nat) (kc : Nat → ClassId) (o : Nat) (ko : ClassId) (sz : Nat) (u : TC) (f : Nat → Int64) (x a n v : Int32) (hbad : xbad 2048 x) : XW l y_L_part k_L_part { frames := 8, cells := 1, slots := 6, locals := 160 } D vwCl (wX G kc o ko) (tyX kc ko) (u, f) sz [.ref (G 0), .int x, .int a, .int n, .int v, .ref o] (PXE "java/lang/IndexOutOfBoundsException" 127 "no such word") 1 6 (fun r z => r = 1 ∧ z = (u, f)) := by
  refine xw_of (cc := b_L_part) (maxL := 7) (ret := some .int) (hh := [(0, 14, 17, 13), (0, 14, 21, 27)]) (by decide) rfl (Nat.le_of_ble_eq_true rfl) ?_
  intro p e s m below meth c A ls hx hb hml hr hlocks hexc hts hown hPX hP hK hD hA hl
  have hl : lv_has ls 7 [(0, .ref (G 0)), (1, .int x), (2, .int a), (3, .int n), (4, .int v), (5, .ref o)] := hl
  have hS : va_S A s.heap s.heap [] := va_S.rf
  refine lv_aload hx hb d_L_part_0 (lv_at hl 5 rfl) ?_
  refine lv_iconst (v := 0) hx hb d_L_part_2 (by decide) ?_
  refine lv_aload_n hx hb d_L_part_3 rfl (lv_at hl 0 rfl) ?_
  refine lv_iload_n hx hb d_L_part_4 rfl (lv_at hl 1 rfl) ?_
  refine lv_iload_n hx hb d_L_part_5 rfl (lv_at hl 2 rfl) ?_
  refine lv_iload_n hx hb d_L_part_6 rfl (lv_at hl 3 rfl) ?_
  refine lv_iload hx hb d_L_part_7 (lv_at hl 4 rfl) ?_
  obtain ⟨hT, hZ⟩ := hPX
  refine yc_throwi (n := 4) (own := "TagMemoryLaw") (C := "TagMemory") (wf := wX G kc o ko) (A := A) hx hb hml hown hts hT hZ (x_T_part l hl9 (G 0) x a n v hbad) (tb_V wm_250 wm_251 wm_252 wm_1 wm_253) rfl rfl rfl (by decide +kernel) ⟨Nat.le_of_ble_eq_true rfl, Nat.le_of_ble_eq_true rfl⟩ (va_recv hK hP (ci := 0) (q0 := 0) rfl rfl) hP rfl hl.1 rfl (Nat.le_of_ble_eq_true rfl) d_L_part_9 ⟨Nat.le_of_ble_eq_true rfl, Nat.le_of_ble_eq_true rfl⟩ (fun ce q9 H locs hP hS hce hcv hcl => ?_)
  refine vx_catch (E := "java/lang/IndexOutOfBoundsException") (name := "java/lang/IndexOutOfBoundsException") hown [] ⟨0, 14, 17, 13⟩ [⟨0, 14, 21, 27⟩] hexc (fun z hz => nomatch hz) (by decide) (by decide) (hts (Cond.classLink "TagMemoryLaw" 13 "java/lang/IndexOutOfBoundsException") (List.mem_cons_of_mem _ wm_122)) (hT.2.2.1.word _) hce hcv hcl ?_
  refine lv_astore (lv' := [(6, .ref _), (0, .ref _), (1, .int _), (2, .int _), (3, .int _), (4, .int _), (5, .ref _)]) hx hb d_L_part_17 hl (by decide) rfl (fun ls hl => ?_)
  refine lv_iconst (v := 1) hx hb d_L_part_19 (by decide) ?_
  exact xc_iret hx hb hr hlocks hP hK hD hS ⟨rfl, rfl⟩ d_L_part_20
set_option maxHeartbeats 4000000 in
set_option maxRecDepth 100000 in
theorem x_L_part1 (l : Launch) (hl9 : l.stackTraces = false) (D : va_G) (G : Nat → Nat) (kc : Nat → ClassId) (o : Nat) (ko : ClassId) (sz : Nat) (u : TC) (f : Nat → Int64) (i : Nat) (hi : i < 2048) (a n v : Int32) (hbad : n < 1 ∨ (¬ n < 1 ∧ 2 < n)) : XW l y_L_part k_L_part { frames := 8, cells := 1, slots := 6, locals := 160 } D vwCl (wX G kc o ko) (tyX kc ko) (u, f) sz [.ref (G 0), .int (nI i), .int a, .int n, .int v, .ref o] (PXN "java/lang/IllegalArgumentException" 131 "a part has one byte or two" "java/lang/IndexOutOfBoundsException") 1 6 (fun r z => r = 2 ∧ z = (u, f)) := by
  refine xw_of (cc := b_L_part) (maxL := 7) (ret := some .int) (hh := [(0, 14, 17, 13), (0, 14, 21, 27)]) (by decide) rfl (Nat.le_of_ble_eq_true rfl) ?_
  intro p e s m below meth c A ls hx hb hml hr hlocks hexc hts hown hPX hP hK hD hA hl
  have hl : lv_has ls 7 [(0, .ref (G 0)), (1, .int (nI i)), (2, .int a), (3, .int n), (4, .int v), (5, .ref o)] := hl
  have hS : va_S A s.heap s.heap [] := va_S.rf
  refine lv_aload hx hb d_L_part_0 (lv_at hl 5 rfl) ?_
  refine lv_iconst (v := 0) hx hb d_L_part_2 (by decide) ?_
  refine lv_aload_n hx hb d_L_part_3 rfl (lv_at hl 0 rfl) ?_
  refine lv_iload_n hx hb d_L_part_4 rfl (lv_at hl 1 rfl) ?_
  refine lv_iload_n hx hb d_L_part_5 rfl (lv_at hl 2 rfl) ?_
  refine lv_iload_n hx hb d_L_part_6 rfl (lv_at hl 3 rfl) ?_
  refine lv_iload hx hb d_L_part_7 (lv_at hl 4 rfl) ?_
  obtain ⟨hT, hZ, hNc⟩ := hPX
  refine yc_throwi (n := 4) (own := "TagMemoryLaw") (C := "TagMemory") (wf := wX G kc o ko) (A := A) hx hb hml hown hts hT hZ (x_T_part1 l hl9 (G 0) i hi a n v hbad) (tb_V wm_250 wm_251 wm_252 wm_1 wm_253) rfl rfl rfl (by decide +kernel) ⟨Nat.le_of_ble_eq_true rfl, Nat.le_of_ble_eq_true rfl⟩ (va_recv hK hP (ci := 0) (q0 := 0) rfl rfl) hP rfl hl.1 rfl (Nat.le_of_ble_eq_true rfl) d_L_part_9 ⟨Nat.le_of_ble_eq_true rfl, Nat.le_of_ble_eq_true rfl⟩ (fun ce q9 H locs hP hS hce hcv hcl => ?_)
  refine vx_catch (E := "java/lang/IllegalArgumentException") (name := "java/lang/IllegalArgumentException") hown [⟨0, 14, 17, 13⟩] ⟨0, 14, 21, 27⟩ [] hexc (fun z hz => by rw [List.mem_singleton] at hz; subst hz; exact Or.inr ⟨by decide, "java/lang/IndexOutOfBoundsException", hts (Cond.classLink "TagMemoryLaw" 13 "java/lang/IndexOutOfBoundsException") (List.mem_cons_of_mem _ wm_122), hNc⟩) (by decide) (by decide) (hts (Cond.classLink "TagMemoryLaw" 27 "java/lang/IllegalArgumentException") (List.mem_cons_of_mem _ wm_249)) (hT.2.2.1.word _) hce hcv hcl ?_
  refine lv_astore (lv' := [(6, .ref _), (0, .ref _), (1, .int (nI i)), (2, .int _), (3, .int _), (4, .int _), (5, .ref _)]) hx hb d_L_part_21 hl (by decide) rfl (fun ls hl => ?_)
  refine lv_iconst (v := 2) hx hb d_L_part_23 (by decide) ?_
  exact xc_iret hx hb hr hlocks hP hK hD hS ⟨rfl, rfl⟩ d_L_part_24
set_option maxHeartbeats 4000000 in
set_option maxRecDepth 100000 in
theorem x_L_part2 (l : Launch) (hl9 : l.stackTraces = false) (D : va_G) (G : Nat → Nat) (kc : Nat → ClassId) (o : Nat) (ko : ClassId) (sz : Nat) (u : TC) (f : Nat → Int64) (i : Nat) (hi : i < 2048) (a v : Int32) (k : Nat) (hk : k = 1 ∨ k = 2) (hbad : a < 0 ∨ (¬ a < 0 ∧ 3 < a) ∨ ∃ j : Nat, j < 4 ∧ a = nI j ∧ j % k ≠ 0) : XW l y_L_part k_L_part { frames := 8, cells := 1, slots := 6, locals := 160 } D vwCl (wX G kc o ko) (tyX kc ko) (u, f) sz [.ref (G 0), .int (nI i), .int a, .int (nI k), .int v, .ref o] (PXN "java/lang/IllegalArgumentException" 133 "no part begins there" "java/lang/IndexOutOfBoundsException") 1 6 (fun r z => r = 2 ∧ z = (u, f)) := by
  refine xw_of (cc := b_L_part) (maxL := 7) (ret := some .int) (hh := [(0, 14, 17, 13), (0, 14, 21, 27)]) (by decide) rfl (Nat.le_of_ble_eq_true rfl) ?_
  intro p e s m below meth c A ls hx hb hml hr hlocks hexc hts hown hPX hP hK hD hA hl
  have hl : lv_has ls 7 [(0, .ref (G 0)), (1, .int (nI i)), (2, .int a), (3, .int (nI k)), (4, .int v), (5, .ref o)] := hl
  have hS : va_S A s.heap s.heap [] := va_S.rf
  refine lv_aload hx hb d_L_part_0 (lv_at hl 5 rfl) ?_
  refine lv_iconst (v := 0) hx hb d_L_part_2 (by decide) ?_
  refine lv_aload_n hx hb d_L_part_3 rfl (lv_at hl 0 rfl) ?_
  refine lv_iload_n hx hb d_L_part_4 rfl (lv_at hl 1 rfl) ?_
  refine lv_iload_n hx hb d_L_part_5 rfl (lv_at hl 2 rfl) ?_
  refine lv_iload_n hx hb d_L_part_6 rfl (lv_at hl 3 rfl) ?_
  refine lv_iload hx hb d_L_part_7 (lv_at hl 4 rfl) ?_
  obtain ⟨hT, hZ, hNc⟩ := hPX
  refine yc_throwi (n := 4) (own := "TagMemoryLaw") (C := "TagMemory") (wf := wX G kc o ko) (A := A) hx hb hml hown hts hT hZ (x_T_part2 l hl9 (G 0) i hi a v k hk hbad) (tb_V wm_250 wm_251 wm_252 wm_1 wm_253) rfl rfl rfl (by decide +kernel) ⟨Nat.le_of_ble_eq_true rfl, Nat.le_of_ble_eq_true rfl⟩ (va_recv hK hP (ci := 0) (q0 := 0) rfl rfl) hP rfl hl.1 rfl (Nat.le_of_ble_eq_true rfl) d_L_part_9 ⟨Nat.le_of_ble_eq_true rfl, Nat.le_of_ble_eq_true rfl⟩ (fun ce q9 H locs hP hS hce hcv hcl => ?_)
  refine vx_catch (E := "java/lang/IllegalArgumentException") (name := "java/lang/IllegalArgumentException") hown [⟨0, 14, 17, 13⟩] ⟨0, 14, 21, 27⟩ [] hexc (fun z hz => by rw [List.mem_singleton] at hz; subst hz; exact Or.inr ⟨by decide, "java/lang/IndexOutOfBoundsException", hts (Cond.classLink "TagMemoryLaw" 13 "java/lang/IndexOutOfBoundsException") (List.mem_cons_of_mem _ wm_122), hNc⟩) (by decide) (by decide) (hts (Cond.classLink "TagMemoryLaw" 27 "java/lang/IllegalArgumentException") (List.mem_cons_of_mem _ wm_249)) (hT.2.2.1.word _) hce hcv hcl ?_
  refine lv_astore (lv' := [(6, .ref _), (0, .ref _), (1, .int (nI i)), (2, .int _), (3, .int (nI k)), (4, .int _), (5, .ref _)]) hx hb d_L_part_21 hl (by decide) rfl (fun ls hl => ?_)
  refine lv_iconst (v := 2) hx hb d_L_part_23 (by decide) ?_
  exact xc_iret hx hb hr hlocks hP hK hD hS ⟨rfl, rfl⟩ d_L_part_24
set_option maxHeartbeats 4000000 in
set_option maxRecDepth 100000 in
theorem x_L_put (l : Launch) (hl9 : l.stackTraces = false) (D : va_G) (G : Nat → Nat) (kc : Nat → ClassId) (sz : Nat) (u : TC) (x lo hi t : Int32) (hbad : xbad 1024 x) : XW l y_L_put k_L_put { frames := 8, cells := 1, slots := 6, locals := 160 } D vwCl (wT G kc) (tyTs kc) u sz [.ref (G 0), .int x, .int lo, .int hi, .int t] (PXE "java/lang/IndexOutOfBoundsException" 129 "no such granule") 1 6 (fun r z => r = 1 ∧ z = u) := by
  refine xw_of (cc := b_L_put) (maxL := 6) (ret := some .int) (hh := [(0, 9, 12, 13)]) (by decide) rfl (Nat.le_of_ble_eq_true rfl) ?_
  intro p e s m below meth c A ls hx hb hml hr hlocks hexc hts hown hPX hP hK hD hA hl
  have hl : lv_has ls 6 [(0, .ref (G 0)), (1, .int x), (2, .int lo), (3, .int hi), (4, .int t)] := hl
  have hS : va_S A s.heap s.heap [] := va_S.rf
  refine lv_aload_n hx hb d_L_put_0 rfl (lv_at hl 0 rfl) ?_
  refine lv_iload_n hx hb d_L_put_1 rfl (lv_at hl 1 rfl) ?_
  refine lv_iload_n hx hb d_L_put_2 rfl (lv_at hl 2 rfl) ?_
  refine lv_iload_n hx hb d_L_put_3 rfl (lv_at hl 3 rfl) ?_
  refine lv_iload hx hb d_L_put_4 (lv_at hl 4 rfl) ?_
  obtain ⟨hT, hZ⟩ := hPX
  refine yc_throwv (n := 4) (own := "TagMemoryLaw") (C := "TagMemory") (wf := wT G kc) (A := A) hx hb hml hown hts hT hZ (x_T_put l hl9 (G 0) x lo hi t hbad) (tb_V wm_278 wm_279 wm_280 wm_1 wm_281) rfl rfl rfl (by decide +kernel) ⟨Nat.le_of_ble_eq_true rfl, Nat.le_of_ble_eq_true rfl⟩ (va_recv hK hP (ci := 0) (q0 := 0) rfl rfl) hP rfl hl.1 rfl (Nat.le_of_ble_eq_true rfl) d_L_put_6 ⟨Nat.le_of_ble_eq_true rfl, Nat.le_of_ble_eq_true rfl⟩ (fun ce q9 H locs hP hS hce hcv hcl => ?_)
  refine vx_catch (E := "java/lang/IndexOutOfBoundsException") (name := "java/lang/IndexOutOfBoundsException") hown [] ⟨0, 9, 12, 13⟩ [] hexc (fun z hz => nomatch hz) (by decide) (by decide) (hts (Cond.classLink "TagMemoryLaw" 13 "java/lang/IndexOutOfBoundsException") (List.mem_cons_of_mem _ wm_122)) (hT.2.2.1.word _) hce hcv hcl ?_
  refine lv_astore (lv' := [(5, .ref _), (0, .ref _), (1, .int _), (2, .int _), (3, .int _), (4, .int _)]) hx hb d_L_put_12 hl (by decide) rfl (fun ls hl => ?_)
  refine lv_iconst (v := 1) hx hb d_L_put_14 (by decide) ?_
  exact xc_iret hx hb hr hlocks hP hK hD hS ⟨rfl, rfl⟩ d_L_put_15
set_option maxHeartbeats 4000000 in
set_option maxRecDepth 100000 in
theorem x_L_copy1 (l : Launch) (hl9 : l.stackTraces = false) (D : va_G) (G : Nat → Nat) (kc : Nat → ClassId) (o : Nat) (ko : ClassId) (sz : Nat) (u : TC) (f : Nat → Int64) (y x : Int32) (hbad : xbad 1024 x) : XW l y_L_copy k_L_copy { frames := 8, cells := 1, slots := 6, locals := 160 } D vwCl (wX G kc o ko) (tyX kc ko) (u, f) sz [.ref (G 0), .int y, .int x, .ref o] (PXE "java/lang/IndexOutOfBoundsException" 129 "no such granule") 1 6 (fun r z => r = 1 ∧ z = (u, f)) := by
  refine xw_of (cc := b_L_copy) (maxL := 5) (ret := some .int) (hh := [(0, 17, 20, 13)]) (by decide) rfl (Nat.le_of_ble_eq_true rfl) ?_
  intro p e s m below meth c A ls hx hb hml hr hlocks hexc hts hown hPX hP hK hD hA hl
  have hl : lv_has ls 5 [(0, .ref (G 0)), (1, .int y), (2, .int x), (3, .ref o)] := hl
  have hS : va_S A s.heap s.heap [] := va_S.rf
  refine lv_aload_n hx hb d_L_copy_0 rfl (lv_at hl 3 rfl) ?_
  refine lv_iconst (v := 0) hx hb d_L_copy_1 (by decide) ?_
  refine lv_aload_n hx hb d_L_copy_2 rfl (lv_at hl 0 rfl) ?_
  refine lv_iload_n hx hb d_L_copy_3 rfl (lv_at hl 1 rfl) ?_
  refine lv_iload_n hx hb d_L_copy_4 rfl (lv_at hl 2 rfl) ?_
  obtain ⟨hT, hZ⟩ := hPX
  refine yc_throwi (n := 2) (own := "TagMemoryLaw") (C := "TagMemory") (wf := wX G kc o ko) (A := A) hx hb hml hown hts hT hZ (x_T_copy1 l hl9 (G 0) y x hbad) (tb_V wm_293 wm_294 wm_295 wm_1 wm_296) rfl rfl rfl (by decide +kernel) ⟨Nat.le_of_ble_eq_true rfl, Nat.le_of_ble_eq_true rfl⟩ (va_recv hK hP (ci := 0) (q0 := 0) rfl rfl) hP rfl hl.1 rfl (Nat.le_of_ble_eq_true rfl) d_L_copy_5 ⟨Nat.le_of_ble_eq_true rfl, Nat.le_of_ble_eq_true rfl⟩ (fun ce q9 H locs hP hS hce hcv hcl => ?_)
  refine vx_catch (E := "java/lang/IndexOutOfBoundsException") (name := "java/lang/IndexOutOfBoundsException") hown [] ⟨0, 17, 20, 13⟩ [] hexc (fun z hz => nomatch hz) (by decide) (by decide) (hts (Cond.classLink "TagMemoryLaw" 13 "java/lang/IndexOutOfBoundsException") (List.mem_cons_of_mem _ wm_122)) (hT.2.2.1.word _) hce hcv hcl ?_
  refine lv_astore (lv' := [(4, .ref _), (0, .ref _), (1, .int _), (2, .int _), (3, .ref _)]) hx hb d_L_copy_20 hl (by decide) rfl (fun ls hl => ?_)
  refine lv_iconst (v := 1) hx hb d_L_copy_22 (by decide) ?_
  exact xc_iret hx hb hr hlocks hP hK hD hS ⟨rfl, rfl⟩ d_L_copy_23
set_option maxHeartbeats 4000000 in
set_option maxRecDepth 100000 in
theorem x_L_copy2 (l : Launch) (hl9 : l.stackTraces = false) (D : va_G) (G : Nat → Nat) (kc : Nat → ClassId) (o : Nat) (ko : ClassId) (sz : Nat) (u : TC) (f : Nat → Int64) (x : Int32) (h : Nat) (hh : h < 1024) (hbad : xbad 1024 x) : XW l y_L_copy k_L_copy { frames := 8, cells := 1, slots := 6, locals := 160 } D vwCl (wX G kc o ko) (tyX kc ko) (u, f) sz [.ref (G 0), .int x, .int (nI h), .ref o] (PXE "java/lang/IndexOutOfBoundsException" 129 "no such granule") 1 6 (fun r z => r = 1 ∧ z = (u, f)) := by
  refine xw_of (cc := b_L_copy) (maxL := 5) (ret := some .int) (hh := [(0, 17, 20, 13)]) (by decide) rfl (Nat.le_of_ble_eq_true rfl) ?_
  intro p e s m below meth c A ls hx hb hml hr hlocks hexc hts hown hPX hP hK hD hA hl
  have hl : lv_has ls 5 [(0, .ref (G 0)), (1, .int x), (2, .int (nI h)), (3, .ref o)] := hl
  have hS : va_S A s.heap s.heap [] := va_S.rf
  refine lv_aload_n hx hb d_L_copy_0 rfl (lv_at hl 3 rfl) ?_
  refine lv_iconst (v := 0) hx hb d_L_copy_1 (by decide) ?_
  refine lv_aload_n hx hb d_L_copy_2 rfl (lv_at hl 0 rfl) ?_
  refine lv_iload_n hx hb d_L_copy_3 rfl (lv_at hl 1 rfl) ?_
  refine lv_iload_n hx hb d_L_copy_4 rfl (lv_at hl 2 rfl) ?_
  obtain ⟨hT, hZ⟩ := hPX
  refine yc_throwi (n := 2) (own := "TagMemoryLaw") (C := "TagMemory") (wf := wX G kc o ko) (A := A) hx hb hml hown hts hT hZ (x_T_copy2 l hl9 (G 0) x h hh hbad) (tb_V wm_293 wm_294 wm_295 wm_1 wm_296) rfl rfl rfl (by decide +kernel) ⟨Nat.le_of_ble_eq_true rfl, Nat.le_of_ble_eq_true rfl⟩ (va_recv hK hP (ci := 0) (q0 := 0) rfl rfl) hP rfl hl.1 rfl (Nat.le_of_ble_eq_true rfl) d_L_copy_5 ⟨Nat.le_of_ble_eq_true rfl, Nat.le_of_ble_eq_true rfl⟩ (fun ce q9 H locs hP hS hce hcv hcl => ?_)
  refine vx_catch (E := "java/lang/IndexOutOfBoundsException") (name := "java/lang/IndexOutOfBoundsException") hown [] ⟨0, 17, 20, 13⟩ [] hexc (fun z hz => nomatch hz) (by decide) (by decide) (hts (Cond.classLink "TagMemoryLaw" 13 "java/lang/IndexOutOfBoundsException") (List.mem_cons_of_mem _ wm_122)) (hT.2.2.1.word _) hce hcv hcl ?_
  refine lv_astore (lv' := [(4, .ref _), (0, .ref _), (1, .int _), (2, .int (nI h)), (3, .ref _)]) hx hb d_L_copy_20 hl (by decide) rfl (fun ls hl => ?_)
  refine lv_iconst (v := 1) hx hb d_L_copy_22 (by decide) ?_
  exact xc_iret hx hb hr hlocks hP hK hD hS ⟨rfl, rfl⟩ d_L_copy_23
set_option maxHeartbeats 4000000 in
set_option maxRecDepth 100000 in
theorem x_L_drop (l : Launch) (hl9 : l.stackTraces = false) (D : va_G) (G : Nat → Nat) (kc : Nat → ClassId) (o : Nat) (ko : ClassId) (sz : Nat) (u : TC) (f : Nat → Int64) (x : Int32) (hbad : xbad 16 x) : XW l y_L_drop k_L_drop { frames := 8, cells := 1, slots := 6, locals := 160 } D vwCl (wX G kc o ko) (tyX kc ko) (u, f) sz [.ref (G 0), .int x, .ref o] (PXE "java/lang/IndexOutOfBoundsException" 76 "no such place for a line") 1 6 (fun r z => r = 1 ∧ z = (u, f)) := by
  refine xw_of (cc := b_L_drop) (maxL := 4) (ret := some .int) (hh := [(0, 9, 12, 13)]) (by decide) rfl (Nat.le_of_ble_eq_true rfl) ?_
  intro p e s m below meth c A ls hx hb hml hr hlocks hexc hts hown hPX hP hK hD hA hl
  have hl : lv_has ls 4 [(0, .ref (G 0)), (1, .int x), (2, .ref o)] := hl
  have hS : va_S A s.heap s.heap [] := va_S.rf
  refine lv_aload_n hx hb d_L_drop_0 rfl (lv_at hl 2 rfl) ?_
  refine lv_iconst (v := 0) hx hb d_L_drop_1 (by decide) ?_
  refine lv_aload_n hx hb d_L_drop_2 rfl (lv_at hl 0 rfl) ?_
  refine lv_iload_n hx hb d_L_drop_3 rfl (lv_at hl 1 rfl) ?_
  obtain ⟨hT, hZ⟩ := hPX
  refine yc_throwi (n := 1) (own := "TagMemoryLaw") (C := "TagMemory") (wf := wX G kc o ko) (A := A) hx hb hml hown hts hT hZ (x_T_drop l hl9 (G 0) x hbad) (tb_V wm_300 wm_301 wm_302 wm_1 wm_303) rfl rfl rfl (by decide +kernel) ⟨Nat.le_of_ble_eq_true rfl, Nat.le_of_ble_eq_true rfl⟩ (va_recv hK hP (ci := 0) (q0 := 0) rfl rfl) hP rfl hl.1 rfl (Nat.le_of_ble_eq_true rfl) d_L_drop_4 ⟨Nat.le_of_ble_eq_true rfl, Nat.le_of_ble_eq_true rfl⟩ (fun ce q9 H locs hP hS hce hcv hcl => ?_)
  refine vx_catch (E := "java/lang/IndexOutOfBoundsException") (name := "java/lang/IndexOutOfBoundsException") hown [] ⟨0, 9, 12, 13⟩ [] hexc (fun z hz => nomatch hz) (by decide) (by decide) (hts (Cond.classLink "TagMemoryLaw" 13 "java/lang/IndexOutOfBoundsException") (List.mem_cons_of_mem _ wm_122)) (hT.2.2.1.word _) hce hcv hcl ?_
  refine lv_astore_n (lv' := [(3, .ref _), (0, .ref _), (1, .int _), (2, .ref _)]) hx hb d_L_drop_12 rfl hl (by decide) rfl (fun ls hl => ?_)
  refine lv_iconst (v := 1) hx hb d_L_drop_13 (by decide) ?_
  exact xc_iret hx hb hr hlocks hP hK hD hS ⟨rfl, rfl⟩ d_L_drop_14
set_option maxHeartbeats 4000000 in
set_option maxRecDepth 100000 in
theorem x_L_store (l : Launch) (hl9 : l.stackTraces = false) (D : va_G) (G : Nat → Nat) (kc : Nat → ClassId) (o : Nat) (ko : ClassId) (sz : Nat) (u : TC) (f : Nat → Int64) (x : Int32) (hbad : xbad 2080 x) : XW l y_L_store k_L_store { frames := 8, cells := 1, slots := 6, locals := 160 } D vwCl (wX G kc o ko) (tyX kc ko) (u, f) sz [.ref (G 0), .int x, .ref o] (PXE "java/lang/IndexOutOfBoundsException" 87 "no such word or row of the store") 1 6 (fun r z => r = 1 ∧ z = (u, f)) := by
  refine xw_of (cc := b_L_store) (maxL := 4) (ret := some .int) (hh := [(0, 9, 12, 13)]) (by decide) rfl (Nat.le_of_ble_eq_true rfl) ?_
  intro p e s m below meth c A ls hx hb hml hr hlocks hexc hts hown hPX hP hK hD hA hl
  have hl : lv_has ls 4 [(0, .ref (G 0)), (1, .int x), (2, .ref o)] := hl
  have hS : va_S A s.heap s.heap [] := va_S.rf
  refine lv_aload_n hx hb d_L_store_0 rfl (lv_at hl 2 rfl) ?_
  refine lv_iconst (v := 0) hx hb d_L_store_1 (by decide) ?_
  refine lv_aload_n hx hb d_L_store_2 rfl (lv_at hl 0 rfl) ?_
  refine lv_iload_n hx hb d_L_store_3 rfl (lv_at hl 1 rfl) ?_
  obtain ⟨hT, hZ⟩ := hPX
  refine yc_throwi (n := 1) (own := "TagMemoryLaw") (C := "TagMemory") (wf := wX G kc o ko) (A := A) hx hb hml hown hts hT hZ (x_T_store l hl9 (G 0) x hbad) (tb_V wm_308 wm_309 wm_310 wm_1 wm_311) rfl rfl rfl (by decide +kernel) ⟨Nat.le_of_ble_eq_true rfl, Nat.le_of_ble_eq_true rfl⟩ (va_recv hK hP (ci := 0) (q0 := 0) rfl rfl) hP rfl hl.1 rfl (Nat.le_of_ble_eq_true rfl) d_L_store_4 ⟨Nat.le_of_ble_eq_true rfl, Nat.le_of_ble_eq_true rfl⟩ (fun ce q9 H locs hP hS hce hcv hcl => ?_)
  refine vx_catch (E := "java/lang/IndexOutOfBoundsException") (name := "java/lang/IndexOutOfBoundsException") hown [] ⟨0, 9, 12, 13⟩ [] hexc (fun z hz => nomatch hz) (by decide) (by decide) (hts (Cond.classLink "TagMemoryLaw" 13 "java/lang/IndexOutOfBoundsException") (List.mem_cons_of_mem _ wm_122)) (hT.2.2.1.word _) hce hcv hcl ?_
  refine lv_astore_n (lv' := [(3, .ref _), (0, .ref _), (1, .int _), (2, .ref _)]) hx hb d_L_store_12 rfl hl (by decide) rfl (fun ls hl => ?_)
  refine lv_iconst (v := 1) hx hb d_L_store_13 (by decide) ?_
  exact xc_iret hx hb hr hlocks hP hK hD hS ⟨rfl, rfl⟩ d_L_store_14
set_option maxHeartbeats 4000000 in
set_option maxRecDepth 100000 in
theorem x_L_kept (l : Launch) (hl9 : l.stackTraces = false) (D : va_G) (G : Nat → Nat) (kc : Nat → ClassId) (o : Nat) (ko : ClassId) (sz : Nat) (u : TC) (f : Nat → Int64) (x : Int32) (hbad : xbad 20 x) : XW l y_L_kept k_L_kept { frames := 8, cells := 1, slots := 6, locals := 160 } D vwCl (wX G kc o ko) (tyX kc ko) (u, f) sz [.ref (G 0), .int x, .ref o] (PXE "java/lang/IndexOutOfBoundsException" 89 "no such place") 1 6 (fun r z => r = 1 ∧ z = (u, f)) := by
  refine xw_of (cc := b_L_kept) (maxL := 4) (ret := some .int) (hh := [(0, 9, 12, 13)]) (by decide) rfl (Nat.le_of_ble_eq_true rfl) ?_
  intro p e s m below meth c A ls hx hb hml hr hlocks hexc hts hown hPX hP hK hD hA hl
  have hl : lv_has ls 4 [(0, .ref (G 0)), (1, .int x), (2, .ref o)] := hl
  have hS : va_S A s.heap s.heap [] := va_S.rf
  refine lv_aload_n hx hb d_L_kept_0 rfl (lv_at hl 2 rfl) ?_
  refine lv_iconst (v := 0) hx hb d_L_kept_1 (by decide) ?_
  refine lv_aload_n hx hb d_L_kept_2 rfl (lv_at hl 0 rfl) ?_
  refine lv_iload_n hx hb d_L_kept_3 rfl (lv_at hl 1 rfl) ?_
  obtain ⟨hT, hZ⟩ := hPX
  refine yc_throwi (n := 1) (own := "TagMemoryLaw") (C := "TagMemory") (wf := wX G kc o ko) (A := A) hx hb hml hown hts hT hZ (x_T_kept l hl9 (G 0) x hbad) (tb_V wm_316 wm_317 wm_318 wm_1 wm_319) rfl rfl rfl (by decide +kernel) ⟨Nat.le_of_ble_eq_true rfl, Nat.le_of_ble_eq_true rfl⟩ (va_recv hK hP (ci := 0) (q0 := 0) rfl rfl) hP rfl hl.1 rfl (Nat.le_of_ble_eq_true rfl) d_L_kept_4 ⟨Nat.le_of_ble_eq_true rfl, Nat.le_of_ble_eq_true rfl⟩ (fun ce q9 H locs hP hS hce hcv hcl => ?_)
  refine vx_catch (E := "java/lang/IndexOutOfBoundsException") (name := "java/lang/IndexOutOfBoundsException") hown [] ⟨0, 9, 12, 13⟩ [] hexc (fun z hz => nomatch hz) (by decide) (by decide) (hts (Cond.classLink "TagMemoryLaw" 13 "java/lang/IndexOutOfBoundsException") (List.mem_cons_of_mem _ wm_122)) (hT.2.2.1.word _) hce hcv hcl ?_
  refine lv_astore_n (lv' := [(3, .ref _), (0, .ref _), (1, .int _), (2, .ref _)]) hx hb d_L_kept_12 rfl hl (by decide) rfl (fun ls hl => ?_)
  refine lv_iconst (v := 1) hx hb d_L_kept_13 (by decide) ?_
  exact xc_iret hx hb hr hlocks hP hK hD hS ⟨rfl, rfl⟩ d_L_kept_14
set_option maxHeartbeats 4000000 in
set_option maxRecDepth 100000 in
theorem x_L_count (l : Launch) (hl9 : l.stackTraces = false) (D : va_G) (G : Nat → Nat) (kc : Nat → ClassId) (o : Nat) (ko : ClassId) (sz : Nat) (u : TC) (f : Nat → Int64) (x : Int32) (hbad : xbad 9 x) : XW l y_L_count k_L_count { frames := 8, cells := 1, slots := 6, locals := 160 } D vwCl (wX G kc o ko) (tyX kc ko) (u, f) sz [.ref (G 0), .int x, .ref o] (PXE "java/lang/IllegalArgumentException" 118 "no such count") 1 6 (fun r z => r = 1 ∧ z = (u, f)) := by
  refine xw_of (cc := b_L_count) (maxL := 4) (ret := some .int) (hh := [(0, 9, 12, 27)]) (by decide) rfl (Nat.le_of_ble_eq_true rfl) ?_
  intro p e s m below meth c A ls hx hb hml hr hlocks hexc hts hown hPX hP hK hD hA hl
  have hl : lv_has ls 4 [(0, .ref (G 0)), (1, .int x), (2, .ref o)] := hl
  have hS : va_S A s.heap s.heap [] := va_S.rf
  refine lv_aload_n hx hb d_L_count_0 rfl (lv_at hl 2 rfl) ?_
  refine lv_iconst (v := 0) hx hb d_L_count_1 (by decide) ?_
  refine lv_aload_n hx hb d_L_count_2 rfl (lv_at hl 0 rfl) ?_
  refine lv_iload_n hx hb d_L_count_3 rfl (lv_at hl 1 rfl) ?_
  obtain ⟨hT, hZ⟩ := hPX
  refine yc_throwi (n := 1) (own := "TagMemoryLaw") (C := "TagMemory") (wf := wX G kc o ko) (A := A) hx hb hml hown hts hT hZ (x_T_count l hl9 (G 0) x hbad) (tb_V wm_324 wm_325 wm_326 wm_1 wm_327) rfl rfl rfl (by decide +kernel) ⟨Nat.le_of_ble_eq_true rfl, Nat.le_of_ble_eq_true rfl⟩ (va_recv hK hP (ci := 0) (q0 := 0) rfl rfl) hP rfl hl.1 rfl (Nat.le_of_ble_eq_true rfl) d_L_count_4 ⟨Nat.le_of_ble_eq_true rfl, Nat.le_of_ble_eq_true rfl⟩ (fun ce q9 H locs hP hS hce hcv hcl => ?_)
  refine vx_catch (E := "java/lang/IllegalArgumentException") (name := "java/lang/IllegalArgumentException") hown [] ⟨0, 9, 12, 27⟩ [] hexc (fun z hz => nomatch hz) (by decide) (by decide) (hts (Cond.classLink "TagMemoryLaw" 27 "java/lang/IllegalArgumentException") (List.mem_cons_of_mem _ wm_249)) (hT.2.2.1.word _) hce hcv hcl ?_
  refine lv_astore_n (lv' := [(3, .ref _), (0, .ref _), (1, .int _), (2, .ref _)]) hx hb d_L_count_12 rfl hl (by decide) rfl (fun ls hl => ?_)
  refine lv_iconst (v := 1) hx hb d_L_count_13 (by decide) ?_
  exact xc_iret hx hb hr hlocks hP hK hD hS ⟨rfl, rfl⟩ d_L_count_14
