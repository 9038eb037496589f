set_option maxHeartbeats 4000000 in
set_option maxRecDepth 100000 in
theorem x_T_refuseNoWord (l : Launch) (hl9 : l.stackTraces = false) (x : Int32) (hbad : xbad 2048 x) : XT l y_T_refuseNoWord k_T_refuseNoWord { frames := 6, cells := 1, slots := 6, locals := 82 } [.int x] "java/lang/IndexOutOfBoundsException" 127 "no such word" QF := by
  rcases hbad with h1 | ⟨h1, h2⟩
  · skip
    refine xq_of (cc := b_T_refuseNoWord) (maxL := 1) (ret := none) (by decide) rfl (Nat.le_of_ble_eq_true rfl) ?_
    intro p e s m below meth c ls hx hb hml hlocks hexc hts hown hT hZ hl
    have hl : lv_has ls 1 [(0, .int x)] := hl
    refine lv_iload_n hx hb d_T_refuseNoWord_0 rfl (lv_at hl 0 rfl) ?_
    refine lv_if_lt (tgt := 11) hx hb d_T_refuseNoWord_1 (by decide) (fun _ => ?_) (fun c9 => absurd h1 c9)
    obtain ⟨sa, hstr⟩ := hZ
    exact vx_throwS (cls := "java/lang/IndexOutOfBoundsException") (text := "no such word") (names := ["java/lang/RuntimeException", "java/lang/Exception"]) (A := fun _ => False) hx hb hl9 hown (by decide) (by decide) (hts (Cond.classLink "TagMemory" 74 "java/lang/IndexOutOfBoundsException") (List.mem_cons_of_mem _ wm_130)) (hts (Cond.initialized "java/lang/IndexOutOfBoundsException") (List.mem_cons_of_mem _ wm_6)) hstr (vx_hat (B := [Cond.castable "java/lang/IndexOutOfBoundsException" "java/lang/IndexOutOfBoundsException", Cond.declares yRte, Cond.declares yExc, Cond.declares yThr]) (fun w hw => hts w (List.mem_cons_of_mem _ (at_I w hw))) at_Ib (vx_c (hT.2.2.1.word _) (vx_c (hT.2.2.2.1.use rfl) (vx_c (hT.2.2.2.2.1.use rfl) (vx_c (hT.2.2.2.2.2.use rfl) vx_n))))) at_Ig hT.1 hT.2.1 va_S.rf (hl.1.trans hml.symm) d_T_refuseNoWord_11 d_T_refuseNoWord_14 d_T_refuseNoWord_15 d_T_refuseNoWord_17 d_T_refuseNoWord_20 (fun x hx => (hexc x hx).elim) (Nat.le_of_ble_eq_true rfl) (Nat.le_of_ble_eq_true rfl) (Nat.le_of_ble_eq_true rfl) (Nat.le_of_ble_eq_true rfl) hlocks (fun t _ h1 h2 => ⟨(), trivial, rfl, h1, fun q hq _ => h2 q hq⟩) (fun z hz => nomatch hz) (Nat.le_refl _) (Nat.le_refl _)
  · skip
    refine xq_of (cc := b_T_refuseNoWord) (maxL := 1) (ret := none) (by decide) rfl (Nat.le_of_ble_eq_true rfl) ?_
    intro p e s m below meth c ls hx hb hml hlocks hexc hts hown hT hZ hl
    have hl : lv_has ls 1 [(0, .int x)] := hl
    refine lv_iload_n hx hb d_T_refuseNoWord_0 rfl (lv_at hl 0 rfl) ?_
    refine lv_if_lt (tgt := 11) hx hb d_T_refuseNoWord_1 (by decide) (fun c9 => absurd c9 h1) (fun _ => ?_)
    refine lv_iload_n hx hb d_T_refuseNoWord_4 rfl (lv_at hl 0 rfl) ?_
    refine lv_sipush (v := 2048) hx hb d_T_refuseNoWord_5 (by decide) ?_
    refine lv_icmp_lt (tgt := 21) hx hb d_T_refuseNoWord_8 (by decide) (fun c9 => absurd (show x < nI 2048 from c9) (xbad_lt h2)) (fun _ => ?_)
    obtain ⟨sa, hstr⟩ := hZ
    exact vx_throwS (cls := "java/lang/IndexOutOfBoundsException") (text := "no such word") (names := ["java/lang/RuntimeException", "java/lang/Exception"]) (A := fun _ => False) hx hb hl9 hown (by decide) (by decide) (hts (Cond.classLink "TagMemory" 74 "java/lang/IndexOutOfBoundsException") (List.mem_cons_of_mem _ wm_130)) (hts (Cond.initialized "java/lang/IndexOutOfBoundsException") (List.mem_cons_of_mem _ wm_6)) hstr (vx_hat (B := [Cond.castable "java/lang/IndexOutOfBoundsException" "java/lang/IndexOutOfBoundsException", Cond.declares yRte, Cond.declares yExc, Cond.declares yThr]) (fun w hw => hts w (List.mem_cons_of_mem _ (at_I w hw))) at_Ib (vx_c (hT.2.2.1.word _) (vx_c (hT.2.2.2.1.use rfl) (vx_c (hT.2.2.2.2.1.use rfl) (vx_c (hT.2.2.2.2.2.use rfl) vx_n))))) at_Ig hT.1 hT.2.1 va_S.rf (hl.1.trans hml.symm) d_T_refuseNoWord_11 d_T_refuseNoWord_14 d_T_refuseNoWord_15 d_T_refuseNoWord_17 d_T_refuseNoWord_20 (fun x hx => (hexc x hx).elim) (Nat.le_of_ble_eq_true rfl) (Nat.le_of_ble_eq_true rfl) (Nat.le_of_ble_eq_true rfl) (Nat.le_of_ble_eq_true rfl) hlocks (fun t _ h1 h2 => ⟨(), trivial, rfl, h1, fun q hq _ => h2 q hq⟩) (fun z hz => nomatch hz) (Nat.le_refl _) (Nat.le_refl _)
set_option maxHeartbeats 4000000 in
set_option maxRecDepth 100000 in
theorem x_T_refuseNoGranule (l : Launch) (hl9 : l.stackTraces = false) (x : Int32) (hbad : xbad 1024 x) : XT l y_T_refuseNoGranule k_T_refuseNoGranule { frames := 6, cells := 1, slots := 6, locals := 82 } [.int x] "java/lang/IndexOutOfBoundsException" 129 "no such granule" QF := by
  rcases hbad with h1 | ⟨h1, h2⟩
  · skip
    refine xq_of (cc := b_T_refuseNoGranule) (maxL := 1) (ret := none) (by decide) rfl (Nat.le_of_ble_eq_true rfl) ?_
    intro p e s m below meth c ls hx hb hml hlocks hexc hts hown hT hZ hl
    have hl : lv_has ls 1 [(0, .int x)] := hl
    refine lv_iload_n hx hb d_T_refuseNoGranule_0 rfl (lv_at hl 0 rfl) ?_
    refine lv_if_lt (tgt := 11) hx hb d_T_refuseNoGranule_1 (by decide) (fun _ => ?_) (fun c9 => absurd h1 c9)
    obtain ⟨sa, hstr⟩ := hZ
    exact vx_throwS (cls := "java/lang/IndexOutOfBoundsException") (text := "no such granule") (names := ["java/lang/RuntimeException", "java/lang/Exception"]) (A := fun _ => False) hx hb hl9 hown (by decide) (by decide) (hts (Cond.classLink "TagMemory" 74 "java/lang/IndexOutOfBoundsException") (List.mem_cons_of_mem _ wm_130)) (hts (Cond.initialized "java/lang/IndexOutOfBoundsException") (List.mem_cons_of_mem _ wm_6)) hstr (vx_hat (B := [Cond.castable "java/lang/IndexOutOfBoundsException" "java/lang/IndexOutOfBoundsException", Cond.declares yRte, Cond.declares yExc, Cond.declares yThr]) (fun w hw => hts w (List.mem_cons_of_mem _ (at_I w hw))) at_Ib (vx_c (hT.2.2.1.word _) (vx_c (hT.2.2.2.1.use rfl) (vx_c (hT.2.2.2.2.1.use rfl) (vx_c (hT.2.2.2.2.2.use rfl) vx_n))))) at_Ig hT.1 hT.2.1 va_S.rf (hl.1.trans hml.symm) d_T_refuseNoGranule_11 d_T_refuseNoGranule_14 d_T_refuseNoGranule_15 d_T_refuseNoGranule_17 d_T_refuseNoGranule_20 (fun x hx => (hexc x hx).elim) (Nat.le_of_ble_eq_true rfl) (Nat.le_of_ble_eq_true rfl) (Nat.le_of_ble_eq_true rfl) (Nat.le_of_ble_eq_true rfl) hlocks (fun t _ h1 h2 => ⟨(), trivial, rfl, h1, fun q hq _ => h2 q hq⟩) (fun z hz => nomatch hz) (Nat.le_refl _) (Nat.le_refl _)
  · skip
    refine xq_of (cc := b_T_refuseNoGranule) (maxL := 1) (ret := none) (by decide) rfl (Nat.le_of_ble_eq_true rfl) ?_
    intro p e s m below meth c ls hx hb hml hlocks hexc hts hown hT hZ hl
    have hl : lv_has ls 1 [(0, .int x)] := hl
    refine lv_iload_n hx hb d_T_refuseNoGranule_0 rfl (lv_at hl 0 rfl) ?_
    refine lv_if_lt (tgt := 11) hx hb d_T_refuseNoGranule_1 (by decide) (fun c9 => absurd c9 h1) (fun _ => ?_)
    refine lv_iload_n hx hb d_T_refuseNoGranule_4 rfl (lv_at hl 0 rfl) ?_
    refine lv_sipush (v := 1024) hx hb d_T_refuseNoGranule_5 (by decide) ?_
    refine lv_icmp_lt (tgt := 21) hx hb d_T_refuseNoGranule_8 (by decide) (fun c9 => absurd (show x < nI 1024 from c9) (xbad_lt h2)) (fun _ => ?_)
    obtain ⟨sa, hstr⟩ := hZ
    exact vx_throwS (cls := "java/lang/IndexOutOfBoundsException") (text := "no such granule") (names := ["java/lang/RuntimeException", "java/lang/Exception"]) (A := fun _ => False) hx hb hl9 hown (by decide) (by decide) (hts (Cond.classLink "TagMemory" 74 "java/lang/IndexOutOfBoundsException") (List.mem_cons_of_mem _ wm_130)) (hts (Cond.initialized "java/lang/IndexOutOfBoundsException") (List.mem_cons_of_mem _ wm_6)) hstr (vx_hat (B := [Cond.castable "java/lang/IndexOutOfBoundsException" "java/lang/IndexOutOfBoundsException", Cond.declares yRte, Cond.declares yExc, Cond.declares yThr]) (fun w hw => hts w (List.mem_cons_of_mem _ (at_I w hw))) at_Ib (vx_c (hT.2.2.1.word _) (vx_c (hT.2.2.2.1.use rfl) (vx_c (hT.2.2.2.2.1.use rfl) (vx_c (hT.2.2.2.2.2.use rfl) vx_n))))) at_Ig hT.1 hT.2.1 va_S.rf (hl.1.trans hml.symm) d_T_refuseNoGranule_11 d_T_refuseNoGranule_14 d_T_refuseNoGranule_15 d_T_refuseNoGranule_17 d_T_refuseNoGranule_20 (fun x hx => (hexc x hx).elim) (Nat.le_of_ble_eq_true rfl) (Nat.le_of_ble_eq_true rfl) (Nat.le_of_ble_eq_true rfl) (Nat.le_of_ble_eq_true rfl) hlocks (fun t _ h1 h2 => ⟨(), trivial, rfl, h1, fun q hq _ => h2 q hq⟩) (fun z hz => nomatch hz) (Nat.le_refl _) (Nat.le_refl _)
set_option maxHeartbeats 4000000 in
set_option maxRecDepth 100000 in
theorem x_T_drop (l : Launch) (hl9 : l.stackTraces = false) (b : Nat) (x : Int32) (hbad : xbad 16 x) : XT l y_T_drop k_T_drop { frames := 6, cells := 1, slots := 6, locals := 82 } [.ref b, .int x] "java/lang/IndexOutOfBoundsException" 76 "no such place for a line" QFi := by
  rcases hbad with h1 | ⟨h1, h2⟩
  · skip
    refine xq_of (cc := b_T_drop) (maxL := 2) (ret := some .int) (by decide) rfl (Nat.le_of_ble_eq_true rfl) ?_
    intro p e s m below meth c ls hx hb hml hlocks hexc hts hown hT hZ hl
    have hl : lv_has ls 2 [(0, .ref b), (1, .int x)] := hl
    refine lv_iload_n hx hb d_T_drop_0 rfl (lv_at hl 1 rfl) ?_
    refine lv_if_lt (tgt := 10) hx hb d_T_drop_1 (by decide) (fun _ => ?_) (fun c9 => absurd h1 c9)
    obtain ⟨sa, hstr⟩ := hZ
    exact vx_throwS (cls := "java/lang/IndexOutOfBoundsException") (text := "no such place for a line") (names := ["java/lang/RuntimeException", "java/lang/Exception"]) (A := fun _ => False) hx hb hl9 hown (by decide) (by decide) (hts (Cond.classLink "TagMemory" 74 "java/lang/IndexOutOfBoundsException") (List.mem_cons_of_mem _ wm_130)) (hts (Cond.initialized "java/lang/IndexOutOfBoundsException") (List.mem_cons_of_mem _ wm_6)) hstr (vx_hat (B := [Cond.castable "java/lang/IndexOutOfBoundsException" "java/lang/IndexOutOfBoundsException", Cond.declares yRte, Cond.declares yExc, Cond.declares yThr]) (fun w hw => hts w (List.mem_cons_of_mem _ (at_I w hw))) at_Ib (vx_c (hT.2.2.1.word _) (vx_c (hT.2.2.2.1.use rfl) (vx_c (hT.2.2.2.2.1.use rfl) (vx_c (hT.2.2.2.2.2.use rfl) vx_n))))) at_Ig hT.1 hT.2.1 va_S.rf (hl.1.trans hml.symm) d_T_drop_10 d_T_drop_13 d_T_drop_14 d_T_drop_16 d_T_drop_19 (fun x hx => (hexc x hx).elim) (Nat.le_of_ble_eq_true rfl) (Nat.le_of_ble_eq_true rfl) (Nat.le_of_ble_eq_true rfl) (Nat.le_of_ble_eq_true rfl) hlocks (fun t _ h1 h2 => ⟨(), trivial, rfl, h1, fun q hq _ => h2 q hq⟩) (fun z hz => nomatch hz) (Nat.le_refl _) (Nat.le_refl _)
  · skip
    refine xq_of (cc := b_T_drop) (maxL := 2) (ret := some .int) (by decide) rfl (Nat.le_of_ble_eq_true rfl) ?_
    intro p e s m below meth c ls hx hb hml hlocks hexc hts hown hT hZ hl
    have hl : lv_has ls 2 [(0, .ref b), (1, .int x)] := hl
    refine lv_iload_n hx hb d_T_drop_0 rfl (lv_at hl 1 rfl) ?_
    refine lv_if_lt (tgt := 10) hx hb d_T_drop_1 (by decide) (fun c9 => absurd c9 h1) (fun _ => ?_)
    refine lv_iload_n hx hb d_T_drop_4 rfl (lv_at hl 1 rfl) ?_
    refine lv_bipush (v := 16) hx hb d_T_drop_5 (by decide) ?_
    refine lv_icmp_lt (tgt := 20) hx hb d_T_drop_7 (by decide) (fun c9 => absurd (show x < nI 16 from c9) (xbad_lt h2)) (fun _ => ?_)
    obtain ⟨sa, hstr⟩ := hZ
    exact vx_throwS (cls := "java/lang/IndexOutOfBoundsException") (text := "no such place for a line") (names := ["java/lang/RuntimeException", "java/lang/Exception"]) (A := fun _ => False) hx hb hl9 hown (by decide) (by decide) (hts (Cond.classLink "TagMemory" 74 "java/lang/IndexOutOfBoundsException") (List.mem_cons_of_mem _ wm_130)) (hts (Cond.initialized "java/lang/IndexOutOfBoundsException") (List.mem_cons_of_mem _ wm_6)) hstr (vx_hat (B := [Cond.castable "java/lang/IndexOutOfBoundsException" "java/lang/IndexOutOfBoundsException", Cond.declares yRte, Cond.declares yExc, Cond.declares yThr]) (fun w hw => hts w (List.mem_cons_of_mem _ (at_I w hw))) at_Ib (vx_c (hT.2.2.1.word _) (vx_c (hT.2.2.2.1.use rfl) (vx_c (hT.2.2.2.2.1.use rfl) (vx_c (hT.2.2.2.2.2.use rfl) vx_n))))) at_Ig hT.1 hT.2.1 va_S.rf (hl.1.trans hml.symm) d_T_drop_10 d_T_drop_13 d_T_drop_14 d_T_drop_16 d_T_drop_19 (fun x hx => (hexc x hx).elim) (Nat.le_of_ble_eq_true rfl) (Nat.le_of_ble_eq_true rfl) (Nat.le_of_ble_eq_true rfl) (Nat.le_of_ble_eq_true rfl) hlocks (fun t _ h1 h2 => ⟨(), trivial, rfl, h1, fun q hq _ => h2 q hq⟩) (fun z hz => nomatch hz) (Nat.le_refl _) (Nat.le_refl _)
set_option maxHeartbeats 4000000 in
set_option maxRecDepth 100000 in
theorem x_T_store (l : Launch) (hl9 : l.stackTraces = false) (b : Nat) (x : Int32) (hbad : xbad 2080 x) : XT l y_T_store k_T_store { frames := 6, cells := 1, slots := 6, locals := 82 } [.ref b, .int x] "java/lang/IndexOutOfBoundsException" 87 "no such word or row of the store" QFi := by
  rcases hbad with h1 | ⟨h1, h2⟩
  · skip
    refine xq_of (cc := b_T_store) (maxL := 2) (ret := some .int) (by decide) rfl (Nat.le_of_ble_eq_true rfl) ?_
    intro p e s m below meth c ls hx hb hml hlocks hexc hts hown hT hZ hl
    have hl : lv_has ls 2 [(0, .ref b), (1, .int x)] := hl
    refine lv_iload_n hx hb d_T_store_0 rfl (lv_at hl 1 rfl) ?_
    refine lv_if_lt (tgt := 11) hx hb d_T_store_1 (by decide) (fun _ => ?_) (fun c9 => absurd h1 c9)
    obtain ⟨sa, hstr⟩ := hZ
    exact vx_throwS (cls := "java/lang/IndexOutOfBoundsException") (text := "no such word or row of the store") (names := ["java/lang/RuntimeException", "java/lang/Exception"]) (A := fun _ => False) hx hb hl9 hown (by decide) (by decide) (hts (Cond.classLink "TagMemory" 74 "java/lang/IndexOutOfBoundsException") (List.mem_cons_of_mem _ wm_130)) (hts (Cond.initialized "java/lang/IndexOutOfBoundsException") (List.mem_cons_of_mem _ wm_6)) hstr (vx_hat (B := [Cond.castable "java/lang/IndexOutOfBoundsException" "java/lang/IndexOutOfBoundsException", Cond.declares yRte, Cond.declares yExc, Cond.declares yThr]) (fun w hw => hts w (List.mem_cons_of_mem _ (at_I w hw))) at_Ib (vx_c (hT.2.2.1.word _) (vx_c (hT.2.2.2.1.use rfl) (vx_c (hT.2.2.2.2.1.use rfl) (vx_c (hT.2.2.2.2.2.use rfl) vx_n))))) at_Ig hT.1 hT.2.1 va_S.rf (hl.1.trans hml.symm) d_T_store_11 d_T_store_14 d_T_store_15 d_T_store_17 d_T_store_20 (fun x hx => (hexc x hx).elim) (Nat.le_of_ble_eq_true rfl) (Nat.le_of_ble_eq_true rfl) (Nat.le_of_ble_eq_true rfl) (Nat.le_of_ble_eq_true rfl) hlocks (fun t _ h1 h2 => ⟨(), trivial, rfl, h1, fun q hq _ => h2 q hq⟩) (fun z hz => nomatch hz) (Nat.le_refl _) (Nat.le_refl _)
  · skip
    refine xq_of (cc := b_T_store) (maxL := 2) (ret := some .int) (by decide) rfl (Nat.le_of_ble_eq_true rfl) ?_
    intro p e s m below meth c ls hx hb hml hlocks hexc hts hown hT hZ hl
    have hl : lv_has ls 2 [(0, .ref b), (1, .int x)] := hl
    refine lv_iload_n hx hb d_T_store_0 rfl (lv_at hl 1 rfl) ?_
    refine lv_if_lt (tgt := 11) hx hb d_T_store_1 (by decide) (fun c9 => absurd c9 h1) (fun _ => ?_)
    refine lv_iload_n hx hb d_T_store_4 rfl (lv_at hl 1 rfl) ?_
    refine lv_sipush (v := 2080) hx hb d_T_store_5 (by decide) ?_
    refine lv_icmp_lt (tgt := 21) hx hb d_T_store_8 (by decide) (fun c9 => absurd (show x < nI 2080 from c9) (xbad_lt h2)) (fun _ => ?_)
    obtain ⟨sa, hstr⟩ := hZ
    exact vx_throwS (cls := "java/lang/IndexOutOfBoundsException") (text := "no such word or row of the store") (names := ["java/lang/RuntimeException", "java/lang/Exception"]) (A := fun _ => False) hx hb hl9 hown (by decide) (by decide) (hts (Cond.classLink "TagMemory" 74 "java/lang/IndexOutOfBoundsException") (List.mem_cons_of_mem _ wm_130)) (hts (Cond.initialized "java/lang/IndexOutOfBoundsException") (List.mem_cons_of_mem _ wm_6)) hstr (vx_hat (B := [Cond.castable "java/lang/IndexOutOfBoundsException" "java/lang/IndexOutOfBoundsException", Cond.declares yRte, Cond.declares yExc, Cond.declares yThr]) (fun w hw => hts w (List.mem_cons_of_mem _ (at_I w hw))) at_Ib (vx_c (hT.2.2.1.word _) (vx_c (hT.2.2.2.1.use rfl) (vx_c (hT.2.2.2.2.1.use rfl) (vx_c (hT.2.2.2.2.2.use rfl) vx_n))))) at_Ig hT.1 hT.2.1 va_S.rf (hl.1.trans hml.symm) d_T_store_11 d_T_store_14 d_T_store_15 d_T_store_17 d_T_store_20 (fun x hx => (hexc x hx).elim) (Nat.le_of_ble_eq_true rfl) (Nat.le_of_ble_eq_true rfl) (Nat.le_of_ble_eq_true rfl) (Nat.le_of_ble_eq_true rfl) hlocks (fun t _ h1 h2 => ⟨(), trivial, rfl, h1, fun q hq _ => h2 q hq⟩) (fun z hz => nomatch hz) (Nat.le_refl _) (Nat.le_refl _)
set_option maxHeartbeats 4000000 in
set_option maxRecDepth 100000 in
theorem x_T_kept (l : Launch) (hl9 : l.stackTraces = false) (b : Nat) (x : Int32) (hbad : xbad 20 x) : XT l y_T_kept k_T_kept { frames := 6, cells := 1, slots := 6, locals := 82 } [.ref b, .int x] "java/lang/IndexOutOfBoundsException" 89 "no such place" QFi := by
  rcases hbad with h1 | ⟨h1, h2⟩
  · skip
    refine xq_of (cc := b_T_kept) (maxL := 2) (ret := some .int) (by decide) rfl (Nat.le_of_ble_eq_true rfl) ?_
    intro p e s m below meth c ls hx hb hml hlocks hexc hts hown hT hZ hl
    have hl : lv_has ls 2 [(0, .ref b), (1, .int x)] := hl
    refine lv_iload_n hx hb d_T_kept_0 rfl (lv_at hl 1 rfl) ?_
    refine lv_if_lt (tgt := 10) hx hb d_T_kept_1 (by decide) (fun _ => ?_) (fun c9 => absurd h1 c9)
    obtain ⟨sa, hstr⟩ := hZ
    exact vx_throwS (cls := "java/lang/IndexOutOfBoundsException") (text := "no such place") (names := ["java/lang/RuntimeException", "java/lang/Exception"]) (A := fun _ => False) hx hb hl9 hown (by decide) (by decide) (hts (Cond.classLink "TagMemory" 74 "java/lang/IndexOutOfBoundsException") (List.mem_cons_of_mem _ wm_130)) (hts (Cond.initialized "java/lang/IndexOutOfBoundsException") (List.mem_cons_of_mem _ wm_6)) hstr (vx_hat (B := [Cond.castable "java/lang/IndexOutOfBoundsException" "java/lang/IndexOutOfBoundsException", Cond.declares yRte, Cond.declares yExc, Cond.declares yThr]) (fun w hw => hts w (List.mem_cons_of_mem _ (at_I w hw))) at_Ib (vx_c (hT.2.2.1.word _) (vx_c (hT.2.2.2.1.use rfl) (vx_c (hT.2.2.2.2.1.use rfl) (vx_c (hT.2.2.2.2.2.use rfl) vx_n))))) at_Ig hT.1 hT.2.1 va_S.rf (hl.1.trans hml.symm) d_T_kept_10 d_T_kept_13 d_T_kept_14 d_T_kept_16 d_T_kept_19 (fun x hx => (hexc x hx).elim) (Nat.le_of_ble_eq_true rfl) (Nat.le_of_ble_eq_true rfl) (Nat.le_of_ble_eq_true rfl) (Nat.le_of_ble_eq_true rfl) hlocks (fun t _ h1 h2 => ⟨(), trivial, rfl, h1, fun q hq _ => h2 q hq⟩) (fun z hz => nomatch hz) (Nat.le_refl _) (Nat.le_refl _)
  · skip
    refine xq_of (cc := b_T_kept) (maxL := 2) (ret := some .int) (by decide) rfl (Nat.le_of_ble_eq_true rfl) ?_
    intro p e s m below meth c ls hx hb hml hlocks hexc hts hown hT hZ hl
    have hl : lv_has ls 2 [(0, .ref b), (1, .int x)] := hl
    refine lv_iload_n hx hb d_T_kept_0 rfl (lv_at hl 1 rfl) ?_
    refine lv_if_lt (tgt := 10) hx hb d_T_kept_1 (by decide) (fun c9 => absurd c9 h1) (fun _ => ?_)
    refine lv_iload_n hx hb d_T_kept_4 rfl (lv_at hl 1 rfl) ?_
    refine lv_bipush (v := 20) hx hb d_T_kept_5 (by decide) ?_
    refine lv_icmp_lt (tgt := 20) hx hb d_T_kept_7 (by decide) (fun c9 => absurd (show x < nI 20 from c9) (xbad_lt h2)) (fun _ => ?_)
    obtain ⟨sa, hstr⟩ := hZ
    exact vx_throwS (cls := "java/lang/IndexOutOfBoundsException") (text := "no such place") (names := ["java/lang/RuntimeException", "java/lang/Exception"]) (A := fun _ => False) hx hb hl9 hown (by decide) (by decide) (hts (Cond.classLink "TagMemory" 74 "java/lang/IndexOutOfBoundsException") (List.mem_cons_of_mem _ wm_130)) (hts (Cond.initialized "java/lang/IndexOutOfBoundsException") (List.mem_cons_of_mem _ wm_6)) hstr (vx_hat (B := [Cond.castable "java/lang/IndexOutOfBoundsException" "java/lang/IndexOutOfBoundsException", Cond.declares yRte, Cond.declares yExc, Cond.declares yThr]) (fun w hw => hts w (List.mem_cons_of_mem _ (at_I w hw))) at_Ib (vx_c (hT.2.2.1.word _) (vx_c (hT.2.2.2.1.use rfl) (vx_c (hT.2.2.2.2.1.use rfl) (vx_c (hT.2.2.2.2.2.use rfl) vx_n))))) at_Ig hT.1 hT.2.1 va_S.rf (hl.1.trans hml.symm) d_T_kept_10 d_T_kept_13 d_T_kept_14 d_T_kept_16 d_T_kept_19 (fun x hx => (hexc x hx).elim) (Nat.le_of_ble_eq_true rfl) (Nat.le_of_ble_eq_true rfl) (Nat.le_of_ble_eq_true rfl) (Nat.le_of_ble_eq_true rfl) hlocks (fun t _ h1 h2 => ⟨(), trivial, rfl, h1, fun q hq _ => h2 q hq⟩) (fun z hz => nomatch hz) (Nat.le_refl _) (Nat.le_refl _)
set_option maxHeartbeats 4000000 in
set_option maxRecDepth 100000 in
theorem x_T_count (l : Launch) (hl9 : l.stackTraces = false) (b : Nat) (x : Int32) (hbad : xbad 9 x) : XT l y_T_count k_T_count { frames := 6, cells := 1, slots := 6, locals := 82 } [.ref b, .int x] "java/lang/IllegalArgumentException" 118 "no such count" QFi := by
  refine xq_of (cc := b_T_count) (maxL := 2) (ret := some .int) (by decide) rfl (Nat.le_of_ble_eq_true rfl) ?_
  intro p e s m below meth c ls hx hb hml hlocks hexc hts hown hT hZ hl
  have hl : lv_has ls 2 [(0, .ref b), (1, .int x)] := hl
  refine lv_iload_n hx hb d_T_count_0 rfl (lv_at hl 1 rfl) ?_
  refine lv_tableOut (tgt := 109) hx hb d_T_count_1 (by rcases hbad with h1 | ⟨h1, h2⟩; exact Or.inl (by rw [Int32.lt_iff_toInt_lt, Int32.toInt_zero] at h1; omega); exact Or.inr (by rw [Int32.le_iff_toInt_le, nI_toInt (by decide)] at h2; omega)) (by decide) ?_
  obtain ⟨sa, hstr⟩ := hZ
  exact vx_throwS (cls := "java/lang/IllegalArgumentException") (text := "no such count") (names := ["java/lang/RuntimeException", "java/lang/Exception"]) (A := fun _ => False) hx hb hl9 hown (by decide) (by decide) (hts (Cond.classLink "TagMemory" 116 "java/lang/IllegalArgumentException") (List.mem_cons_of_mem _ wm_257)) (hts (Cond.initialized "java/lang/IllegalArgumentException") (List.mem_cons_of_mem _ wm_8)) hstr (vx_hat (B := [Cond.castable "java/lang/IllegalArgumentException" "java/lang/IllegalArgumentException", Cond.declares yRte, Cond.declares yExc, Cond.declares yThr]) (fun w hw => hts w (List.mem_cons_of_mem _ (at_A w hw))) at_Ab (vx_c (hT.2.2.1.word _) (vx_c (hT.2.2.2.1.use rfl) (vx_c (hT.2.2.2.2.1.use rfl) (vx_c (hT.2.2.2.2.2.use rfl) vx_n))))) at_Ag hT.1 hT.2.1 va_S.rf (hl.1.trans hml.symm) d_T_count_109 d_T_count_112 d_T_count_113 d_T_count_115 d_T_count_118 (fun x hx => (hexc x hx).elim) (Nat.le_of_ble_eq_true rfl) (Nat.le_of_ble_eq_true rfl) (Nat.le_of_ble_eq_true rfl) (Nat.le_of_ble_eq_true rfl) hlocks (fun t _ h1 h2 => ⟨(), trivial, rfl, h1, fun q hq _ => h2 q hq⟩) (fun z hz => nomatch hz) (Nat.le_refl _) (Nat.le_refl _)
set_option maxHeartbeats 4000000 in
set_option maxRecDepth 100000 in
theorem x_T_refuseNoPart1 (l : Launch) (hl9 : l.stackTraces = false) (a n : Int32) (hbad : n < 1 ∨ (¬ n < 1 ∧ 2 < n)) : XT l y_T_refuseNoPart k_T_refuseNoPart { frames := 6, cells := 1, slots := 6, locals := 82 } [.int a, .int n] "java/lang/IllegalArgumentException" 131 "a part has one byte or two" QF := by
  rcases hbad with h1 | ⟨h1, h2⟩
  · skip
    refine xq_of (cc := b_T_refuseNoPart) (maxL := 2) (ret := none) (by decide) rfl (Nat.le_of_ble_eq_true rfl) ?_
    intro p e s m below meth c ls hx hb hml hlocks hexc hts hown hT hZ hl
    have hl : lv_has ls 2 [(0, .int a), (1, .int n)] := hl
    refine lv_iload_n hx hb d_T_refuseNoPart_0 rfl (lv_at hl 1 rfl) ?_
    refine lv_iconst (v := 1) hx hb d_T_refuseNoPart_1 (by decide) ?_
    refine lv_icmp_eq (tgt := 20) hx hb d_T_refuseNoPart_2 (by decide) (fun c9 => absurd c9 (fun z => by rw [z] at h1; exact absurd h1 (by decide))) (fun _ => ?_)
    refine lv_iload_n hx hb d_T_refuseNoPart_5 rfl (lv_at hl 1 rfl) ?_
    refine lv_iconst (v := 2) hx hb d_T_refuseNoPart_6 (by decide) ?_
    refine lv_icmp_eq (tgt := 20) hx hb d_T_refuseNoPart_7 (by decide) (fun c9 => absurd c9 (fun z => by rw [z] at h1; exact absurd h1 (by decide))) (fun _ => ?_)
    obtain ⟨sa, hstr⟩ := hZ
    exact vx_throwS (cls := "java/lang/IllegalArgumentException") (text := "a part has one byte or two") (names := ["java/lang/RuntimeException", "java/lang/Exception"]) (A := fun _ => False) hx hb hl9 hown (by decide) (by decide) (hts (Cond.classLink "TagMemory" 116 "java/lang/IllegalArgumentException") (List.mem_cons_of_mem _ wm_257)) (hts (Cond.initialized "java/lang/IllegalArgumentException") (List.mem_cons_of_mem _ wm_8)) hstr (vx_hat (B := [Cond.castable "java/lang/IllegalArgumentException" "java/lang/IllegalArgumentException", Cond.declares yRte, Cond.declares yExc, Cond.declares yThr]) (fun w hw => hts w (List.mem_cons_of_mem _ (at_A w hw))) at_Ab (vx_c (hT.2.2.1.word _) (vx_c (hT.2.2.2.1.use rfl) (vx_c (hT.2.2.2.2.1.use rfl) (vx_c (hT.2.2.2.2.2.use rfl) vx_n))))) at_Ag hT.1 hT.2.1 va_S.rf (hl.1.trans hml.symm) d_T_refuseNoPart_10 d_T_refuseNoPart_13 d_T_refuseNoPart_14 d_T_refuseNoPart_16 d_T_refuseNoPart_19 (fun x hx => (hexc x hx).elim) (Nat.le_of_ble_eq_true rfl) (Nat.le_of_ble_eq_true rfl) (Nat.le_of_ble_eq_true rfl) (Nat.le_of_ble_eq_true rfl) hlocks (fun t _ h1 h2 => ⟨(), trivial, rfl, h1, fun q hq _ => h2 q hq⟩) (fun z hz => nomatch hz) (Nat.le_refl _) (Nat.le_refl _)
  · skip
    refine xq_of (cc := b_T_refuseNoPart) (maxL := 2) (ret := none) (by decide) rfl (Nat.le_of_ble_eq_true rfl) ?_
    intro p e s m below meth c ls hx hb hml hlocks hexc hts hown hT hZ hl
    have hl : lv_has ls 2 [(0, .int a), (1, .int n)] := hl
    refine lv_iload_n hx hb d_T_refuseNoPart_0 rfl (lv_at hl 1 rfl) ?_
    refine lv_iconst (v := 1) hx hb d_T_refuseNoPart_1 (by decide) ?_
    refine lv_icmp_eq (tgt := 20) hx hb d_T_refuseNoPart_2 (by decide) (fun c9 => absurd c9 (fun z => by rw [z] at h2; exact absurd h2 (by decide))) (fun _ => ?_)
    refine lv_iload_n hx hb d_T_refuseNoPart_5 rfl (lv_at hl 1 rfl) ?_
    refine lv_iconst (v := 2) hx hb d_T_refuseNoPart_6 (by decide) ?_
    refine lv_icmp_eq (tgt := 20) hx hb d_T_refuseNoPart_7 (by decide) (fun c9 => absurd c9 (fun z => by rw [z] at h2; exact absurd h2 (by decide))) (fun _ => ?_)
    obtain ⟨sa, hstr⟩ := hZ
    exact vx_throwS (cls := "java/lang/IllegalArgumentException") (text := "a part has one byte or two") (names := ["java/lang/RuntimeException", "java/lang/Exception"]) (A := fun _ => False) hx hb hl9 hown (by decide) (by decide) (hts (Cond.classLink "TagMemory" 116 "java/lang/IllegalArgumentException") (List.mem_cons_of_mem _ wm_257)) (hts (Cond.initialized "java/lang/IllegalArgumentException") (List.mem_cons_of_mem _ wm_8)) hstr (vx_hat (B := [Cond.castable "java/lang/IllegalArgumentException" "java/lang/IllegalArgumentException", Cond.declares yRte, Cond.declares yExc, Cond.declares yThr]) (fun w hw => hts w (List.mem_cons_of_mem _ (at_A w hw))) at_Ab (vx_c (hT.2.2.1.word _) (vx_c (hT.2.2.2.1.use rfl) (vx_c (hT.2.2.2.2.1.use rfl) (vx_c (hT.2.2.2.2.2.use rfl) vx_n))))) at_Ag hT.1 hT.2.1 va_S.rf (hl.1.trans hml.symm) d_T_refuseNoPart_10 d_T_refuseNoPart_13 d_T_refuseNoPart_14 d_T_refuseNoPart_16 d_T_refuseNoPart_19 (fun x hx => (hexc x hx).elim) (Nat.le_of_ble_eq_true rfl) (Nat.le_of_ble_eq_true rfl) (Nat.le_of_ble_eq_true rfl) (Nat.le_of_ble_eq_true rfl) hlocks (fun t _ h1 h2 => ⟨(), trivial, rfl, h1, fun q hq _ => h2 q hq⟩) (fun z hz => nomatch hz) (Nat.le_refl _) (Nat.le_refl _)
set_option maxHeartbeats 4000000 in
set_option maxRecDepth 100000 in
theorem x_T_refuseNoPart2 (l : Launch) (hl9 : l.stackTraces = false) (a : Int32) (k : Nat) (hk : k = 1 ∨ k = 2) (hbad : a < 0 ∨ (¬ a < 0 ∧ 3 < a) ∨ ∃ j : Nat, j < 4 ∧ a = nI j ∧ j % k ≠ 0) : XT l y_T_refuseNoPart k_T_refuseNoPart { frames := 6, cells := 1, slots := 6, locals := 82 } [.int a, .int (nI k)] "java/lang/IllegalArgumentException" 133 "no part begins there" QF := by
  rcases hk with rfl | rfl
  · rcases hbad with h1 | ⟨h1, h2⟩ | ⟨j, hj, rfl, hjk⟩
    · skip
      refine xq_of (cc := b_T_refuseNoPart) (maxL := 2) (ret := none) (by decide) rfl (Nat.le_of_ble_eq_true rfl) ?_
      intro p e s m below meth c ls hx hb hml hlocks hexc hts hown hT hZ hl
      have hl : lv_has ls 2 [(0, .int a), (1, .int (nI 1))] := hl
      refine lv_iload_n hx hb d_T_refuseNoPart_0 rfl (lv_at hl 1 rfl) ?_
      refine lv_iconst (v := 1) hx hb d_T_refuseNoPart_1 (by decide) ?_
      refine lv_icmp_eq (tgt := 20) hx hb d_T_refuseNoPart_2 (by decide) (fun _ => ?_) (fun c9 => absurd rfl c9)
      refine lv_iload_n hx hb d_T_refuseNoPart_20 rfl (lv_at hl 0 rfl) ?_
      refine lv_if_lt (tgt := 35) hx hb d_T_refuseNoPart_21 (by decide) (fun _ => ?_) (fun c9 => absurd h1 c9)
      obtain ⟨sa, hstr⟩ := hZ
      exact vx_throwS (cls := "java/lang/IllegalArgumentException") (text := "no part begins there") (names := ["java/lang/RuntimeException", "java/lang/Exception"]) (A := fun _ => False) hx hb hl9 hown (by decide) (by decide) (hts (Cond.classLink "TagMemory" 116 "java/lang/IllegalArgumentException") (List.mem_cons_of_mem _ wm_257)) (hts (Cond.initialized "java/lang/IllegalArgumentException") (List.mem_cons_of_mem _ wm_8)) hstr (vx_hat (B := [Cond.castable "java/lang/IllegalArgumentException" "java/lang/IllegalArgumentException", Cond.declares yRte, Cond.declares yExc, Cond.declares yThr]) (fun w hw => hts w (List.mem_cons_of_mem _ (at_A w hw))) at_Ab (vx_c (hT.2.2.1.word _) (vx_c (hT.2.2.2.1.use rfl) (vx_c (hT.2.2.2.2.1.use rfl) (vx_c (hT.2.2.2.2.2.use rfl) vx_n))))) at_Ag hT.1 hT.2.1 va_S.rf (hl.1.trans hml.symm) d_T_refuseNoPart_35 d_T_refuseNoPart_38 d_T_refuseNoPart_39 d_T_refuseNoPart_41 d_T_refuseNoPart_44 (fun x hx => (hexc x hx).elim) (Nat.le_of_ble_eq_true rfl) (Nat.le_of_ble_eq_true rfl) (Nat.le_of_ble_eq_true rfl) (Nat.le_of_ble_eq_true rfl) hlocks (fun t _ h1 h2 => ⟨(), trivial, rfl, h1, fun q hq _ => h2 q hq⟩) (fun z hz => nomatch hz) (Nat.le_refl _) (Nat.le_refl _)
    · skip
      refine xq_of (cc := b_T_refuseNoPart) (maxL := 2) (ret := none) (by decide) rfl (Nat.le_of_ble_eq_true rfl) ?_
      intro p e s m below meth c ls hx hb hml hlocks hexc hts hown hT hZ hl
      have hl : lv_has ls 2 [(0, .int a), (1, .int (nI 1))] := hl
      refine lv_iload_n hx hb d_T_refuseNoPart_0 rfl (lv_at hl 1 rfl) ?_
      refine lv_iconst (v := 1) hx hb d_T_refuseNoPart_1 (by decide) ?_
      refine lv_icmp_eq (tgt := 20) hx hb d_T_refuseNoPart_2 (by decide) (fun _ => ?_) (fun c9 => absurd rfl c9)
      refine lv_iload_n hx hb d_T_refuseNoPart_20 rfl (lv_at hl 0 rfl) ?_
      refine lv_if_lt (tgt := 35) hx hb d_T_refuseNoPart_21 (by decide) (fun c9 => absurd c9 h1) (fun _ => ?_)
      refine lv_iload_n hx hb d_T_refuseNoPart_24 rfl (lv_at hl 0 rfl) ?_
      refine lv_iconst (v := 3) hx hb d_T_refuseNoPart_25 (by decide) ?_
      refine lv_icmp_gt (tgt := 35) hx hb d_T_refuseNoPart_26 (by decide) (fun _ => ?_) (fun c9 => absurd h2 c9)
      obtain ⟨sa, hstr⟩ := hZ
      exact vx_throwS (cls := "java/lang/IllegalArgumentException") (text := "no part begins there") (names := ["java/lang/RuntimeException", "java/lang/Exception"]) (A := fun _ => False) hx hb hl9 hown (by decide) (by decide) (hts (Cond.classLink "TagMemory" 116 "java/lang/IllegalArgumentException") (List.mem_cons_of_mem _ wm_257)) (hts (Cond.initialized "java/lang/IllegalArgumentException") (List.mem_cons_of_mem _ wm_8)) hstr (vx_hat (B := [Cond.castable "java/lang/IllegalArgumentException" "java/lang/IllegalArgumentException", Cond.declares yRte, Cond.declares yExc, Cond.declares yThr]) (fun w hw => hts w (List.mem_cons_of_mem _ (at_A w hw))) at_Ab (vx_c (hT.2.2.1.word _) (vx_c (hT.2.2.2.1.use rfl) (vx_c (hT.2.2.2.2.1.use rfl) (vx_c (hT.2.2.2.2.2.use rfl) vx_n))))) at_Ag hT.1 hT.2.1 va_S.rf (hl.1.trans hml.symm) d_T_refuseNoPart_35 d_T_refuseNoPart_38 d_T_refuseNoPart_39 d_T_refuseNoPart_41 d_T_refuseNoPart_44 (fun x hx => (hexc x hx).elim) (Nat.le_of_ble_eq_true rfl) (Nat.le_of_ble_eq_true rfl) (Nat.le_of_ble_eq_true rfl) (Nat.le_of_ble_eq_true rfl) hlocks (fun t _ h1 h2 => ⟨(), trivial, rfl, h1, fun q hq _ => h2 q hq⟩) (fun z hz => nomatch hz) (Nat.le_refl _) (Nat.le_refl _)
    · skip
      refine xq_of (cc := b_T_refuseNoPart) (maxL := 2) (ret := none) (by decide) rfl (Nat.le_of_ble_eq_true rfl) ?_
      intro p e s m below meth c ls hx hb hml hlocks hexc hts hown hT hZ hl
      have hl : lv_has ls 2 [(0, .int (nI j)), (1, .int (nI 1))] := hl
      refine lv_iload_n hx hb d_T_refuseNoPart_0 rfl (lv_at hl 1 rfl) ?_
      refine lv_iconst (v := 1) hx hb d_T_refuseNoPart_1 (by decide) ?_
      refine lv_icmp_eq (tgt := 20) hx hb d_T_refuseNoPart_2 (by decide) (fun _ => ?_) (fun c9 => absurd rfl c9)
      refine lv_iload_n hx hb d_T_refuseNoPart_20 rfl (lv_at hl 0 rfl) ?_
      refine lv_if_lt (tgt := 35) hx hb d_T_refuseNoPart_21 (by decide) (fun c9 => absurd c9 (nI_pos (by omega))) (fun _ => ?_)
      refine lv_iload_n hx hb d_T_refuseNoPart_24 rfl (lv_at hl 0 rfl) ?_
      refine lv_iconst (v := 3) hx hb d_T_refuseNoPart_25 (by decide) ?_
      refine lv_icmp_gt (tgt := 35) hx hb d_T_refuseNoPart_26 (by decide) (fun c9 => absurd c9 (nI_nlt (a := 3) (b := j) (by omega) (by decide))) (fun _ => ?_)
      refine lv_iload_n hx hb d_T_refuseNoPart_29 rfl (lv_at hl 0 rfl) ?_
      refine lv_iload_n hx hb d_T_refuseNoPart_30 rfl (lv_at hl 1 rfl) ?_
      refine xa_irem hx hb j 1 rfl rfl (by omega) (by omega) (by omega) d_T_refuseNoPart_31 ?_
      refine lv_if_eq (tgt := 45) hx hb d_T_refuseNoPart_32 (by decide) (fun c9 => absurd c9 (nI_ne0 (by omega) (by omega))) (fun _ => ?_)
      obtain ⟨sa, hstr⟩ := hZ
      exact vx_throwS (cls := "java/lang/IllegalArgumentException") (text := "no part begins there") (names := ["java/lang/RuntimeException", "java/lang/Exception"]) (A := fun _ => False) hx hb hl9 hown (by decide) (by decide) (hts (Cond.classLink "TagMemory" 116 "java/lang/IllegalArgumentException") (List.mem_cons_of_mem _ wm_257)) (hts (Cond.initialized "java/lang/IllegalArgumentException") (List.mem_cons_of_mem _ wm_8)) hstr (vx_hat (B := [Cond.castable "java/lang/IllegalArgumentException" "java/lang/IllegalArgumentException", Cond.declares yRte, Cond.declares yExc, Cond.declares yThr]) (fun w hw => hts w (List.mem_cons_of_mem _ (at_A w hw))) at_Ab (vx_c (hT.2.2.1.word _) (vx_c (hT.2.2.2.1.use rfl) (vx_c (hT.2.2.2.2.1.use rfl) (vx_c (hT.2.2.2.2.2.use rfl) vx_n))))) at_Ag hT.1 hT.2.1 va_S.rf (hl.1.trans hml.symm) d_T_refuseNoPart_35 d_T_refuseNoPart_38 d_T_refuseNoPart_39 d_T_refuseNoPart_41 d_T_refuseNoPart_44 (fun x hx => (hexc x hx).elim) (Nat.le_of_ble_eq_true rfl) (Nat.le_of_ble_eq_true rfl) (Nat.le_of_ble_eq_true rfl) (Nat.le_of_ble_eq_true rfl) hlocks (fun t _ h1 h2 => ⟨(), trivial, rfl, h1, fun q hq _ => h2 q hq⟩) (fun z hz => nomatch hz) (Nat.le_refl _) (Nat.le_refl _)
  · rcases hbad with h1 | ⟨h1, h2⟩ | ⟨j, hj, rfl, hjk⟩
    · skip
      refine xq_of (cc := b_T_refuseNoPart) (maxL := 2) (ret := none) (by decide) rfl (Nat.le_of_ble_eq_true rfl) ?_
      intro p e s m below meth c ls hx hb hml hlocks hexc hts hown hT hZ hl
      have hl : lv_has ls 2 [(0, .int a), (1, .int (nI 2))] := hl
      refine lv_iload_n hx hb d_T_refuseNoPart_0 rfl (lv_at hl 1 rfl) ?_
      refine lv_iconst (v := 1) hx hb d_T_refuseNoPart_1 (by decide) ?_
      refine lv_icmp_eq (tgt := 20) hx hb d_T_refuseNoPart_2 (by decide) (fun c9 => absurd c9 (by decide)) (fun _ => ?_)
      refine lv_iload_n hx hb d_T_refuseNoPart_5 rfl (lv_at hl 1 rfl) ?_
      refine lv_iconst (v := 2) hx hb d_T_refuseNoPart_6 (by decide) ?_
      refine lv_icmp_eq (tgt := 20) hx hb d_T_refuseNoPart_7 (by decide) (fun _ => ?_) (fun c9 => absurd rfl c9)
      refine lv_iload_n hx hb d_T_refuseNoPart_20 rfl (lv_at hl 0 rfl) ?_
      refine lv_if_lt (tgt := 35) hx hb d_T_refuseNoPart_21 (by decide) (fun _ => ?_) (fun c9 => absurd h1 c9)
      obtain ⟨sa, hstr⟩ := hZ
      exact vx_throwS (cls := "java/lang/IllegalArgumentException") (text := "no part begins there") (names := ["java/lang/RuntimeException", "java/lang/Exception"]) (A := fun _ => False) hx hb hl9 hown (by decide) (by decide) (hts (Cond.classLink "TagMemory" 116 "java/lang/IllegalArgumentException") (List.mem_cons_of_mem _ wm_257)) (hts (Cond.initialized "java/lang/IllegalArgumentException") (List.mem_cons_of_mem _ wm_8)) hstr (vx_hat (B := [Cond.castable "java/lang/IllegalArgumentException" "java/lang/IllegalArgumentException", Cond.declares yRte, Cond.declares yExc, Cond.declares yThr]) (fun w hw => hts w (List.mem_cons_of_mem _ (at_A w hw))) at_Ab (vx_c (hT.2.2.1.word _) (vx_c (hT.2.2.2.1.use rfl) (vx_c (hT.2.2.2.2.1.use rfl) (vx_c (hT.2.2.2.2.2.use rfl) vx_n))))) at_Ag hT.1 hT.2.1 va_S.rf (hl.1.trans hml.symm) d_T_refuseNoPart_35 d_T_refuseNoPart_38 d_T_refuseNoPart_39 d_T_refuseNoPart_41 d_T_refuseNoPart_44 (fun x hx => (hexc x hx).elim) (Nat.le_of_ble_eq_true rfl) (Nat.le_of_ble_eq_true rfl) (Nat.le_of_ble_eq_true rfl) (Nat.le_of_ble_eq_true rfl) hlocks (fun t _ h1 h2 => ⟨(), trivial, rfl, h1, fun q hq _ => h2 q hq⟩) (fun z hz => nomatch hz) (Nat.le_refl _) (Nat.le_refl _)
    · skip
      refine xq_of (cc := b_T_refuseNoPart) (maxL := 2) (ret := none) (by decide) rfl (Nat.le_of_ble_eq_true rfl) ?_
      intro p e s m below meth c ls hx hb hml hlocks hexc hts hown hT hZ hl
      have hl : lv_has ls 2 [(0, .int a), (1, .int (nI 2))] := hl
      refine lv_iload_n hx hb d_T_refuseNoPart_0 rfl (lv_at hl 1 rfl) ?_
      refine lv_iconst (v := 1) hx hb d_T_refuseNoPart_1 (by decide) ?_
      refine lv_icmp_eq (tgt := 20) hx hb d_T_refuseNoPart_2 (by decide) (fun c9 => absurd c9 (by decide)) (fun _ => ?_)
      refine lv_iload_n hx hb d_T_refuseNoPart_5 rfl (lv_at hl 1 rfl) ?_
      refine lv_iconst (v := 2) hx hb d_T_refuseNoPart_6 (by decide) ?_
      refine lv_icmp_eq (tgt := 20) hx hb d_T_refuseNoPart_7 (by decide) (fun _ => ?_) (fun c9 => absurd rfl c9)
      refine lv_iload_n hx hb d_T_refuseNoPart_20 rfl (lv_at hl 0 rfl) ?_
      refine lv_if_lt (tgt := 35) hx hb d_T_refuseNoPart_21 (by decide) (fun c9 => absurd c9 h1) (fun _ => ?_)
      refine lv_iload_n hx hb d_T_refuseNoPart_24 rfl (lv_at hl 0 rfl) ?_
      refine lv_iconst (v := 3) hx hb d_T_refuseNoPart_25 (by decide) ?_
      refine lv_icmp_gt (tgt := 35) hx hb d_T_refuseNoPart_26 (by decide) (fun _ => ?_) (fun c9 => absurd h2 c9)
      obtain ⟨sa, hstr⟩ := hZ
      exact vx_throwS (cls := "java/lang/IllegalArgumentException") (text := "no part begins there") (names := ["java/lang/RuntimeException", "java/lang/Exception"]) (A := fun _ => False) hx hb hl9 hown (by decide) (by decide) (hts (Cond.classLink "TagMemory" 116 "java/lang/IllegalArgumentException") (List.mem_cons_of_mem _ wm_257)) (hts (Cond.initialized "java/lang/IllegalArgumentException") (List.mem_cons_of_mem _ wm_8)) hstr (vx_hat (B := [Cond.castable "java/lang/IllegalArgumentException" "java/lang/IllegalArgumentException", Cond.declares yRte, Cond.declares yExc, Cond.declares yThr]) (fun w hw => hts w (List.mem_cons_of_mem _ (at_A w hw))) at_Ab (vx_c (hT.2.2.1.word _) (vx_c (hT.2.2.2.1.use rfl) (vx_c (hT.2.2.2.2.1.use rfl) (vx_c (hT.2.2.2.2.2.use rfl) vx_n))))) at_Ag hT.1 hT.2.1 va_S.rf (hl.1.trans hml.symm) d_T_refuseNoPart_35 d_T_refuseNoPart_38 d_T_refuseNoPart_39 d_T_refuseNoPart_41 d_T_refuseNoPart_44 (fun x hx => (hexc x hx).elim) (Nat.le_of_ble_eq_true rfl) (Nat.le_of_ble_eq_true rfl) (Nat.le_of_ble_eq_true rfl) (Nat.le_of_ble_eq_true rfl) hlocks (fun t _ h1 h2 => ⟨(), trivial, rfl, h1, fun q hq _ => h2 q hq⟩) (fun z hz => nomatch hz) (Nat.le_refl _) (Nat.le_refl _)
    · skip
      refine xq_of (cc := b_T_refuseNoPart) (maxL := 2) (ret := none) (by decide) rfl (Nat.le_of_ble_eq_true rfl) ?_
      intro p e s m below meth c ls hx hb hml hlocks hexc hts hown hT hZ hl
      have hl : lv_has ls 2 [(0, .int (nI j)), (1, .int (nI 2))] := hl
      refine lv_iload_n hx hb d_T_refuseNoPart_0 rfl (lv_at hl 1 rfl) ?_
      refine lv_iconst (v := 1) hx hb d_T_refuseNoPart_1 (by decide) ?_
      refine lv_icmp_eq (tgt := 20) hx hb d_T_refuseNoPart_2 (by decide) (fun c9 => absurd c9 (by decide)) (fun _ => ?_)
      refine lv_iload_n hx hb d_T_refuseNoPart_5 rfl (lv_at hl 1 rfl) ?_
      refine lv_iconst (v := 2) hx hb d_T_refuseNoPart_6 (by decide) ?_
      refine lv_icmp_eq (tgt := 20) hx hb d_T_refuseNoPart_7 (by decide) (fun _ => ?_) (fun c9 => absurd rfl c9)
      refine lv_iload_n hx hb d_T_refuseNoPart_20 rfl (lv_at hl 0 rfl) ?_
      refine lv_if_lt (tgt := 35) hx hb d_T_refuseNoPart_21 (by decide) (fun c9 => absurd c9 (nI_pos (by omega))) (fun _ => ?_)
      refine lv_iload_n hx hb d_T_refuseNoPart_24 rfl (lv_at hl 0 rfl) ?_
      refine lv_iconst (v := 3) hx hb d_T_refuseNoPart_25 (by decide) ?_
      refine lv_icmp_gt (tgt := 35) hx hb d_T_refuseNoPart_26 (by decide) (fun c9 => absurd c9 (nI_nlt (a := 3) (b := j) (by omega) (by decide))) (fun _ => ?_)
      refine lv_iload_n hx hb d_T_refuseNoPart_29 rfl (lv_at hl 0 rfl) ?_
      refine lv_iload_n hx hb d_T_refuseNoPart_30 rfl (lv_at hl 1 rfl) ?_
      refine xa_irem hx hb j 2 rfl rfl (by omega) (by omega) (by omega) d_T_refuseNoPart_31 ?_
      refine lv_if_eq (tgt := 45) hx hb d_T_refuseNoPart_32 (by decide) (fun c9 => absurd c9 (nI_ne0 (by omega) (by omega))) (fun _ => ?_)
      obtain ⟨sa, hstr⟩ := hZ
      exact vx_throwS (cls := "java/lang/IllegalArgumentException") (text := "no part begins there") (names := ["java/lang/RuntimeException", "java/lang/Exception"]) (A := fun _ => False) hx hb hl9 hown (by decide) (by decide) (hts (Cond.classLink "TagMemory" 116 "java/lang/IllegalArgumentException") (List.mem_cons_of_mem _ wm_257)) (hts (Cond.initialized "java/lang/IllegalArgumentException") (List.mem_cons_of_mem _ wm_8)) hstr (vx_hat (B := [Cond.castable "java/lang/IllegalArgumentException" "java/lang/IllegalArgumentException", Cond.declares yRte, Cond.declares yExc, Cond.declares yThr]) (fun w hw => hts w (List.mem_cons_of_mem _ (at_A w hw))) at_Ab (vx_c (hT.2.2.1.word _) (vx_c (hT.2.2.2.1.use rfl) (vx_c (hT.2.2.2.2.1.use rfl) (vx_c (hT.2.2.2.2.2.use rfl) vx_n))))) at_Ag hT.1 hT.2.1 va_S.rf (hl.1.trans hml.symm) d_T_refuseNoPart_35 d_T_refuseNoPart_38 d_T_refuseNoPart_39 d_T_refuseNoPart_41 d_T_refuseNoPart_44 (fun x hx => (hexc x hx).elim) (Nat.le_of_ble_eq_true rfl) (Nat.le_of_ble_eq_true rfl) (Nat.le_of_ble_eq_true rfl) (Nat.le_of_ble_eq_true rfl) hlocks (fun t _ h1 h2 => ⟨(), trivial, rfl, h1, fun q hq _ => h2 q hq⟩) (fun z hz => nomatch hz) (Nat.le_refl _) (Nat.le_refl _)
set_option maxHeartbeats 4000000 in
set_option maxRecDepth 100000 in
theorem x_T_read (l : Launch) (hl9 : l.stackTraces = false) (b : Nat) (x : Int32) (hbad : xbad 2048 x) : XT l y_T_read k_T_read { frames := 7, cells := 1, slots := 6, locals := 103 } [.ref b, .int x] "java/lang/IndexOutOfBoundsException" 127 "no such word" QFi := by
  refine xq_of (cc := b_T_read) (maxL := 2) (ret := some .int) (by decide) rfl (Nat.le_of_ble_eq_true rfl) ?_
  intro p e s m below meth c ls hx hb hml hlocks hexc hts hown hT hZ hl
  have hl : lv_has ls 2 [(0, .ref b), (1, .int x)] := hl
  refine lv_iload_n hx hb d_T_read_0 rfl (lv_at hl 1 rfl) ?_
  exact xq_passS (n := 1) (C := "TagMemory") hx hb hml hlocks hexc hown hts hT hZ (x_T_refuseNoWord l hl9 x hbad) (tb_S wm_127 wm_128 wm_1 wm_129) rfl rfl rfl (by decide +kernel) ⟨Nat.le_of_ble_eq_true rfl, Nat.le_of_ble_eq_true rfl⟩ rfl hl.1 rfl (Nat.le_of_ble_eq_true rfl) d_T_read_1 ⟨Nat.le_of_ble_eq_true rfl, Nat.le_of_ble_eq_true rfl⟩
set_option maxHeartbeats 4000000 in
set_option maxRecDepth 100000 in
theorem x_T_tag (l : Launch) (hl9 : l.stackTraces = false) (b : Nat) (x : Int32) (hbad : xbad 2048 x) : XT l y_T_tag k_T_tag { frames := 7, cells := 1, slots := 6, locals := 103 } [.ref b, .int x] "java/lang/IndexOutOfBoundsException" 127 "no such word" QFi := by
  refine xq_of (cc := b_T_tag) (maxL := 3) (ret := some .boolean) (by decide) rfl (Nat.le_of_ble_eq_true rfl) ?_
  intro p e s m below meth c ls hx hb hml hlocks hexc hts hown hT hZ hl
  have hl : lv_has ls 3 [(0, .ref b), (1, .int x)] := hl
  refine lv_iload_n hx hb d_T_tag_0 rfl (lv_at hl 1 rfl) ?_
  exact xq_passS (n := 1) (C := "TagMemory") hx hb hml hlocks hexc hown hts hT hZ (x_T_refuseNoWord l hl9 x hbad) (tb_S wm_127 wm_128 wm_1 wm_129) rfl rfl rfl (by decide +kernel) ⟨Nat.le_of_ble_eq_true rfl, Nat.le_of_ble_eq_true rfl⟩ rfl hl.1 rfl (Nat.le_of_ble_eq_true rfl) d_T_tag_1 ⟨Nat.le_of_ble_eq_true rfl, Nat.le_of_ble_eq_true rfl⟩
set_option maxHeartbeats 4000000 in
set_option maxRecDepth 100000 in
theorem x_T_write (l : Launch) (hl9 : l.stackTraces = false) (b : Nat) (x w : Int32) (hbad : xbad 2048 x) : XT l y_T_write k_T_write { frames := 7, cells := 1, slots := 6, locals := 103 } [.ref b, .int x, .int w] "java/lang/IndexOutOfBoundsException" 127 "no such word" QFi := by
  refine xq_of (cc := b_T_write) (maxL := 4) (ret := some .int) (by decide) rfl (Nat.le_of_ble_eq_true rfl) ?_
  intro p e s m below meth c ls hx hb hml hlocks hexc hts hown hT hZ hl
  have hl : lv_has ls 4 [(0, .ref b), (1, .int x), (2, .int w)] := hl
  refine lv_iload_n hx hb d_T_write_0 rfl (lv_at hl 1 rfl) ?_
  exact xq_passS (n := 1) (C := "TagMemory") hx hb hml hlocks hexc hown hts hT hZ (x_T_refuseNoWord l hl9 x hbad) (tb_S wm_127 wm_128 wm_1 wm_129) rfl rfl rfl (by decide +kernel) ⟨Nat.le_of_ble_eq_true rfl, Nat.le_of_ble_eq_true rfl⟩ rfl hl.1 rfl (Nat.le_of_ble_eq_true rfl) d_T_write_1 ⟨Nat.le_of_ble_eq_true rfl, Nat.le_of_ble_eq_true rfl⟩
set_option maxHeartbeats 4000000 in
set_option maxRecDepth 100000 in
theorem x_T_part (l : Launch) (hl9 : l.stackTraces = false) (b : Nat) (x a n v : Int32) (hbad : xbad 2048 x) : XT l y_T_part k_T_part { frames := 7, cells := 1, slots := 6, locals := 103 } [.ref b, .int x, .int a, .int n, .int v] "java/lang/IndexOutOfBoundsException" 127 "no such word" QFi := by
  refine xq_of (cc := b_T_part) (maxL := 9) (ret := some .int) (by decide) rfl (Nat.le_of_ble_eq_true rfl) ?_
  intro p e s m below meth c ls hx hb hml hlocks hexc hts hown hT hZ hl
  have hl : lv_has ls 9 [(0, .ref b), (1, .int x), (2, .int a), (3, .int n), (4, .int v)] := hl
  refine lv_iload_n hx hb d_T_part_0 rfl (lv_at hl 1 rfl) ?_
  exact xq_passS (n := 1) (C := "TagMemory") hx hb hml hlocks hexc hown hts hT hZ (x_T_refuseNoWord l hl9 x hbad) (tb_S wm_127 wm_128 wm_1 wm_129) rfl rfl rfl (by decide +kernel) ⟨Nat.le_of_ble_eq_true rfl, Nat.le_of_ble_eq_true rfl⟩ rfl hl.1 rfl (Nat.le_of_ble_eq_true rfl) d_T_part_1 ⟨Nat.le_of_ble_eq_true rfl, Nat.le_of_ble_eq_true rfl⟩
set_option maxHeartbeats 4000000 in
set_option maxRecDepth 100000 in
theorem x_T_put (l : Launch) (hl9 : l.stackTraces = false) (b : Nat) (x lo hi t : Int32) (hbad : xbad 1024 x) : XT l y_T_put k_T_put { frames := 7, cells := 1, slots := 6, locals := 103 } [.ref b, .int x, .int lo, .int hi, .int t] "java/lang/IndexOutOfBoundsException" 129 "no such granule" QF := by
  refine xq_of (cc := b_T_put) (maxL := 5) (ret := none) (by decide) rfl (Nat.le_of_ble_eq_true rfl) ?_
  intro p e s m below meth c ls hx hb hml hlocks hexc hts hown hT hZ hl
  have hl : lv_has ls 5 [(0, .ref b), (1, .int x), (2, .int lo), (3, .int hi), (4, .int t)] := hl
  refine lv_iload_n hx hb d_T_put_0 rfl (lv_at hl 1 rfl) ?_
  exact xq_passS (n := 1) (C := "TagMemory") hx hb hml hlocks hexc hown hts hT hZ (x_T_refuseNoGranule l hl9 x hbad) (tb_S wm_282 wm_283 wm_1 wm_284) rfl rfl rfl (by decide +kernel) ⟨Nat.le_of_ble_eq_true rfl, Nat.le_of_ble_eq_true rfl⟩ rfl hl.1 rfl (Nat.le_of_ble_eq_true rfl) d_T_put_1 ⟨Nat.le_of_ble_eq_true rfl, Nat.le_of_ble_eq_true rfl⟩
set_option maxHeartbeats 4000000 in
set_option maxRecDepth 100000 in
theorem x_T_copy1 (l : Launch) (hl9 : l.stackTraces = false) (b : Nat) (y x : Int32) (hbad : xbad 1024 x) : XT l y_T_copy k_T_copy { frames := 7, cells := 1, slots := 6, locals := 103 } [.ref b, .int y, .int x] "java/lang/IndexOutOfBoundsException" 129 "no such granule" QFi := by
  refine xq_of (cc := b_T_copy) (maxL := 6) (ret := some .boolean) (by decide) rfl (Nat.le_of_ble_eq_true rfl) ?_
  intro p e s m below meth c ls hx hb hml hlocks hexc hts hown hT hZ hl
  have hl : lv_has ls 6 [(0, .ref b), (1, .int y), (2, .int x)] := hl
  refine lv_iload_n hx hb d_T_copy_0 rfl (lv_at hl 2 rfl) ?_
  exact xq_passS (n := 1) (C := "TagMemory") hx hb hml hlocks hexc hown hts hT hZ (x_T_refuseNoGranule l hl9 x hbad) (tb_S wm_282 wm_283 wm_1 wm_284) rfl rfl rfl (by decide +kernel) ⟨Nat.le_of_ble_eq_true rfl, Nat.le_of_ble_eq_true rfl⟩ rfl hl.1 rfl (Nat.le_of_ble_eq_true rfl) d_T_copy_1 ⟨Nat.le_of_ble_eq_true rfl, Nat.le_of_ble_eq_true rfl⟩
set_option maxHeartbeats 4000000 in
set_option maxRecDepth 100000 in
theorem x_T_copy2 (l : Launch) (hl9 : l.stackTraces = false) (b : Nat) (x : Int32) (f : Nat) (hf : f < 1024) (hbad : xbad 1024 x) : XT l y_T_copy k_T_copy { frames := 7, cells := 1, slots := 6, locals := 103 } [.ref b, .int x, .int (nI f)] "java/lang/IndexOutOfBoundsException" 129 "no such granule" QFi := by
  refine xq_of (cc := b_T_copy) (maxL := 6) (ret := some .boolean) (by decide) rfl (Nat.le_of_ble_eq_true rfl) ?_
  intro p e s m below meth c ls hx hb hml hlocks hexc hts hown hT hZ hl
  have hl : lv_has ls 6 [(0, .ref b), (1, .int x), (2, .int (nI f))] := hl
  refine lv_iload_n hx hb d_T_copy_0 rfl (lv_at hl 2 rfl) ?_
  refine xc_callz (n := 1) (C := "TagMemory") hx hb hml hown hts (c_T_refuseNoGranule l f (by omega)) (tb_S wm_282 wm_283 wm_1 wm_284) rfl rfl rfl (by decide +kernel) ⟨Nat.le_of_ble_eq_true rfl, Nat.le_of_ble_eq_true rfl⟩ rfl hl.1 rfl (Nat.le_of_ble_eq_true rfl) d_T_copy_1 ⟨Nat.zero_le _, Nat.zero_le _⟩ ?_
  refine lv_iload_n hx hb d_T_copy_4 rfl (lv_at hl 1 rfl) ?_
  exact xq_passS (n := 1) (C := "TagMemory") hx hb hml hlocks hexc hown hts hT hZ (x_T_refuseNoGranule l hl9 x hbad) (tb_S wm_282 wm_283 wm_1 wm_284) rfl rfl rfl (by decide +kernel) ⟨Nat.le_of_ble_eq_true rfl, Nat.le_of_ble_eq_true rfl⟩ rfl hl.1 rfl (Nat.le_of_ble_eq_true rfl) d_T_copy_5 ⟨Nat.le_of_ble_eq_true rfl, Nat.le_of_ble_eq_true rfl⟩
set_option maxHeartbeats 4000000 in
set_option maxRecDepth 100000 in
theorem x_T_part1 (l : Launch) (hl9 : l.stackTraces = false) (b i : Nat) (hi : i < 2048) (a n v : Int32) (hbad : n < 1 ∨ (¬ n < 1 ∧ 2 < n)) : XT l y_T_part k_T_part { frames := 7, cells := 1, slots := 6, locals := 103 } [.ref b, .int (nI i), .int a, .int n, .int v] "java/lang/IllegalArgumentException" 131 "a part has one byte or two" QFi := by
  refine xq_of (cc := b_T_part) (maxL := 9) (ret := some .int) (by decide) rfl (Nat.le_of_ble_eq_true rfl) ?_
  intro p e s m below meth c ls hx hb hml hlocks hexc hts hown hT hZ hl
  have hl : lv_has ls 9 [(0, .ref b), (1, .int (nI i)), (2, .int a), (3, .int n), (4, .int v)] := hl
  refine lv_iload_n hx hb d_T_part_0 rfl (lv_at hl 1 rfl) ?_
  refine xc_callz (n := 1) (C := "TagMemory") hx hb hml hown hts (c_T_refuseNoWord l i (by omega)) (tb_S wm_127 wm_128 wm_1 wm_129) rfl rfl rfl (by decide +kernel) ⟨Nat.le_of_ble_eq_true rfl, Nat.le_of_ble_eq_true rfl⟩ rfl hl.1 rfl (Nat.le_of_ble_eq_true rfl) d_T_part_1 ⟨Nat.zero_le _, Nat.zero_le _⟩ ?_
  refine lv_iload_n hx hb d_T_part_4 rfl (lv_at hl 2 rfl) ?_
  refine lv_iload_n hx hb d_T_part_5 rfl (lv_at hl 3 rfl) ?_
  exact xq_passS (n := 2) (C := "TagMemory") hx hb hml hlocks hexc hown hts hT hZ (x_T_refuseNoPart1 l hl9 a n hbad) (tb_S wm_254 wm_255 wm_1 wm_256) rfl rfl rfl (by decide +kernel) ⟨Nat.le_of_ble_eq_true rfl, Nat.le_of_ble_eq_true rfl⟩ rfl hl.1 rfl (Nat.le_of_ble_eq_true rfl) d_T_part_6 ⟨Nat.le_of_ble_eq_true rfl, Nat.le_of_ble_eq_true rfl⟩
set_option maxHeartbeats 4000000 in
set_option maxRecDepth 100000 in
theorem x_T_part2 (l : Launch) (hl9 : l.stackTraces = false) (b i : Nat) (hi : i < 2048) (a v : Int32) (k : Nat) (hk : k = 1 ∨ k = 2) (hbad : a < 0 ∨ (¬ a < 0 ∧ 3 < a) ∨ ∃ j : Nat, j < 4 ∧ a = nI j ∧ j % k ≠ 0) : XT l y_T_part k_T_part { frames := 7, cells := 1, slots := 6, locals := 103 } [.ref b, .int (nI i), .int a, .int (nI k), .int v] "java/lang/IllegalArgumentException" 133 "no part begins there" QFi := by
  refine xq_of (cc := b_T_part) (maxL := 9) (ret := some .int) (by decide) rfl (Nat.le_of_ble_eq_true rfl) ?_
  intro p e s m below meth c ls hx hb hml hlocks hexc hts hown hT hZ hl
  have hl : lv_has ls 9 [(0, .ref b), (1, .int (nI i)), (2, .int a), (3, .int (nI k)), (4, .int v)] := hl
  refine lv_iload_n hx hb d_T_part_0 rfl (lv_at hl 1 rfl) ?_
  refine xc_callz (n := 1) (C := "TagMemory") hx hb hml hown hts (c_T_refuseNoWord l i (by omega)) (tb_S wm_127 wm_128 wm_1 wm_129) rfl rfl rfl (by decide +kernel) ⟨Nat.le_of_ble_eq_true rfl, Nat.le_of_ble_eq_true rfl⟩ rfl hl.1 rfl (Nat.le_of_ble_eq_true rfl) d_T_part_1 ⟨Nat.zero_le _, Nat.zero_le _⟩ ?_
  refine lv_iload_n hx hb d_T_part_4 rfl (lv_at hl 2 rfl) ?_
  refine lv_iload_n hx hb d_T_part_5 rfl (lv_at hl 3 rfl) ?_
  exact xq_passS (n := 2) (C := "TagMemory") hx hb hml hlocks hexc hown hts hT hZ (x_T_refuseNoPart2 l hl9 a k hk hbad) (tb_S wm_254 wm_255 wm_1 wm_256) rfl rfl rfl (by decide +kernel) ⟨Nat.le_of_ble_eq_true rfl, Nat.le_of_ble_eq_true rfl⟩ rfl hl.1 rfl (Nat.le_of_ble_eq_true rfl) d_T_part_6 ⟨Nat.le_of_ble_eq_true rfl, Nat.le_of_ble_eq_true rfl⟩
