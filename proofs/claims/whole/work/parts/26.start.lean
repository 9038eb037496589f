set_option maxHeartbeats 4000000 in
set_option maxRecDepth 100000 in
theorem law_loop {p : Program} {l : Launch} {e : Env} {s : State} {m : MethodId} {below : List Frame} {meth : Method} {c : Code} {D : va_G} {GT GM : Nat → Nat} {kT kM : Nat → ClassId} {o : Nat} {ko : ClassId} {b L : Nat} {xs : Nat → Int32} (hl9 : l.stackTraces = false) (hLX : LX s) (hL : L ≤ 2560) (C0 : lw_At p s m meth c b L xs) (hK : va_K D vwCl (tyL kT kM ko) s) : ∀ (n j : Nat), j + n = 513 → j ≤ 512 → ∀ (u : TC) (v : TM) (f : Nat → Int64) (H : Heap) (locs : List Loc) (ls : Array Slot), REL u v → va_P D vwCl (wL GT GM kT kM o ko u f v) H → va_D (fun q : Nat => s.heap.size ≤ q) (wL GT GM kT kM o ko u f v) → va_S (fun q : Nat => s.heap.size ≤ q) s.heap H locs → lv_has ls 7 [(4, .int (nI (5 * j))), (3, .ref o), (2, .ref (GM 0)), (1, .ref (GT 0)), (0, .ref b)] → W p l e room_1 s m #[Value.ref b] below meth c H locs (20 + j) (7455 + 6 * j) (lw_Z below #[Value.ref b] s) (F0 m 23 ls []) := by
  obtain ⟨hx, hb, hr, hml, hown, hts, hX, hbl, hlocks, hgv⟩ := id C0
  have hA : ∀ q : Nat, s.heap.size ≤ q → (fun q : Nat => s.heap.size ≤ q) q := fun _ h => h
  have hbA : ¬ (fun q : Nat => s.heap.size ≤ q) b := Nat.not_le.mpr hbl
  intro n
  induction n with
  | zero =>
    intro j h1 h2
    exact absurd h1 (by omega)
  | succ n ih =>
    intro j hjn hj5 u v f H locs ls hR hP hD hS hl
    refine lv_iload hx hb d_L_law_23 (lv_at hl 0 rfl) ?_
    refine lv_aload_n hx hb d_L_law_25 rfl (lv_at hl 4 rfl) ?_
    refine va_slen hx hb hX hbl hbA hS d_L_law_26 ?_
    refine lv_iconst (v := 5) hx hb d_L_law_27 (by decide) ?_
    refine lv_isub hx hb d_L_law_28 ?_
    have hsub : (nI L - nI 5).toInt = (L : Int) - (5 : Nat) := pk_sub_toInt (by omega) (by omega)
    refine lv_icmp_gt (tgt := 798) hx hb d_L_law_29 (by decide) (fun c9 => ?_) (fun c9 => ?_)
    · refine lv_iconst (v := 1) hx hb d_L_law_798 (by decide) ?_
      refine va_forget (fun q hq => hS.2.2 q hq) ?_
      refine W.widen (k := 1052) (n := 15695) (by omega) (by omega) ?_
      exact lw_ret hx hb hr hlocks d_L_law_799
    · have hj : 5 * j + 5 ≤ L := by
        have c8 : ¬ (nI L - nI 5 < nI (5 * j)) := c9
        rw [Int32.lt_iff_toInt_lt, hsub, nI_toInt (by omega)] at c8
        omega
      refine lv_aload_n hx hb d_L_law_32 rfl (lv_at hl 4 rfl) ?_
      refine lv_iload hx hb d_L_law_33 (lv_at hl 0 rfl) ?_
      refine xa_sld hx hb hX hbl hbA hS hL (5 * j) rfl (by omega) d_L_law_35 ?_
      refine lv_bipush (v := 15) hx hb d_L_law_36 (by decide) ?_
      refine lv_iand hx hb d_L_law_38 ?_
      obtain ⟨k, hk, hke⟩ := pk_andE (xs (5 * j)) (m := 15) 4 (by decide +kernel)
      refine xa_top (nI k) hke ?_
      have tail : ∀ (u : TC) (v : TM) (f : Nat → Int64) (H : Heap) (locs : List Loc) (ls : Array Slot), REL u v → va_P D vwCl (wL GT GM kT kM o ko u f v) H → va_D (fun q : Nat => s.heap.size ≤ q) (wL GT GM kT kM o ko u f v) → va_S (fun q : Nat => s.heap.size ≤ q) s.heap H locs → lv_has ls 7 [(4, .int (nI (5 * j))), (3, .ref o), (2, .ref (GM 0)), (1, .ref (GT 0)), (0, .ref b)] → W p l e room_1 s m #[Value.ref b] below meth c H locs (20 + j + 1) (7455 + 6 * j + 6) (lw_Z below #[Value.ref b] s) (F0 m 792 ls []) := by
        intro u v f H locs ls hR hP hD hS hl
        refine lv_iinc (v := nI ((5 * j) + 5)) (lv' := [(4, .int (nI ((5 * j) + 5))), (3, .ref _), (2, .ref _), (1, .ref _), (0, .ref _)]) hx hb d_L_law_792 hl (k := 0) rfl (nI_add _ _) (by decide) rfl (fun ls hl => ?_)
        refine lv_goto (tgt := 23) hx hb d_L_law_795 (by decide) ?_
        refine W.widen (k := 20 + (j + 1)) (n := 7455 + 6 * (j + 1)) (by omega) (by omega) ?_
        have hl : lv_has ls 7 [(4, .int (nI (5 * (j + 1)))), (3, .ref o), (2, .ref (GM 0)), (1, .ref (GT 0)), (0, .ref b)] := lv_sub hl [0, 1, 2, 3, 4] rfl
        exact ih (j + 1) (by omega) (by omega) u v f H locs ls hR hP hD hS hl
      clear ih
      obtain rfl | rfl | rfl | rfl | rfl | rfl | rfl | rfl | rfl | rfl | rfl | rfl | hk12 : k = 0 ∨ k = 1 ∨ k = 2 ∨ k = 3 ∨ k = 4 ∨ k = 5 ∨ k = 6 ∨ k = 7 ∨ k = 8 ∨ k = 9 ∨ k = 10 ∨ k = 11 ∨ 12 ≤ k := by omega
      · refine lv_tableIn (tgt := 100) (off := 61) hx hb d_L_law_39 (by decide +kernel) (by decide +kernel) (by decide +kernel) (by decide) ?_
        exact lc_read hl9 hLX hL C0 hK u v f hR j hj hP hD hS hl tail
      · refine lv_tableIn (tgt := 156) (off := 117) hx hb d_L_law_39 (by decide +kernel) (by decide +kernel) (by decide +kernel) (by decide) ?_
        exact lc_tag hl9 hLX hL C0 hK u v f hR j hj hP hD hS hl tail
      · refine lv_tableIn (tgt := 219) (off := 180) hx hb d_L_law_39 (by decide +kernel) (by decide +kernel) (by decide +kernel) (by decide) ?_
        exact lc_write hl9 hLX hL C0 hK u v f hR j hj hP hD hS hl tail
      · refine lv_tableIn (tgt := 287) (off := 248) hx hb d_L_law_39 (by decide +kernel) (by decide +kernel) (by decide +kernel) (by decide) ?_
        exact lc_part hl9 hLX hL C0 hK u v f hR j hj hP hD hS hl tail
      · refine lv_tableIn (tgt := 379) (off := 340) hx hb d_L_law_39 (by decide +kernel) (by decide +kernel) (by decide +kernel) (by decide) ?_
        exact lc_put hl9 hLX hL C0 hK u v f hR j hj hP hD hS hl tail
      · refine lv_tableIn (tgt := 467) (off := 428) hx hb d_L_law_39 (by decide +kernel) (by decide +kernel) (by decide +kernel) (by decide) ?_
        exact lc_copy hl9 hLX hL C0 hK u v f hR j hj hP hD hS hl tail
      · refine lv_tableIn (tgt := 542) (off := 503) hx hb d_L_law_39 (by decide +kernel) (by decide +kernel) (by decide +kernel) (by decide) ?_
        exact lc_drop hl9 hLX hL C0 hK u v f hR j hj hP hD hS hl tail
      · refine lv_tableIn (tgt := 598) (off := 559) hx hb d_L_law_39 (by decide +kernel) (by decide +kernel) (by decide +kernel) (by decide) ?_
        exact lc_flush hl9 hLX hL C0 hK u v f hR j hj hP hD hS hl tail
      · refine lv_tableIn (tgt := 611) (off := 572) hx hb d_L_law_39 (by decide +kernel) (by decide +kernel) (by decide +kernel) (by decide) ?_
        exact lc_store hl9 hLX hL C0 hK u v f hR j hj hP hD hS hl tail
      · refine lv_tableIn (tgt := 667) (off := 628) hx hb d_L_law_39 (by decide +kernel) (by decide +kernel) (by decide +kernel) (by decide) ?_
        exact lc_kept hl9 hLX hL C0 hK u v f hR j hj hP hD hS hl tail
      · refine lv_tableIn (tgt := 723) (off := 684) hx hb d_L_law_39 (by decide +kernel) (by decide +kernel) (by decide +kernel) (by decide) ?_
        exact lc_count hl9 hLX hL C0 hK u v f hR j hj hP hD hS hl tail
      · refine lv_tableIn (tgt := 779) (off := 740) hx hb d_L_law_39 (by decide +kernel) (by decide +kernel) (by decide +kernel) (by decide) ?_
        exact lc_check hl9 hLX hL C0 hK u v f hR j hj hP hD hS hl tail
      · refine lv_tableOut (tgt := 792) hx hb d_L_law_39 (Or.inr (by rw [nI_toInt (by omega)]; omega)) (by decide) ?_
        refine W.widen (k := 20 + j + 1) (n := 7455 + 6 * j + 6) (by omega) (by omega) ?_
        exact tail u v f H locs ls hR hP hD hS hl
set_option maxHeartbeats 4000000 in
set_option maxRecDepth 100000 in
theorem lx_of {p : Program} {s : State} {m : MethodId} {meth : Method} {c : Code} {b L : Nat} {xs : Nat → Int32} (C0 : lw_At p s m meth c b L xs) : LX s := by
  obtain ⟨hx, hb, hr, hml, hown, hts, hX, hbl, hlocks, hgv⟩ := C0
  have hs := flat_of_before _ hgv
  have hz : ∀ a : Nat, a < s.heap.size → ¬ (fun q : Nat => s.heap.size ≤ q) a := fun a h => Nat.not_le.mpr h
  have hini : (Cond.initialized Bundle.tN).before #[Value.ref b] s = true := hts _ (tb_in wm_3)
  have st : ∀ (k : Nat) (tx : String), Cond.stringRef "TagMemory" k tx ∈ lw_tbl → (Cond.exactly (.string "TagMemory" k) "java/lang/String").before #[Value.ref b] s = true → STR k tx s := fun k tx h1 h2 => by
    obtain ⟨a, c, cA, kA, q1, -⟩ := Cond.exactly_spec (args := #[Value.ref b]) (first := s) (o := none) (s := s) (idx := []) (t := .string "TagMemory" k) (cls := "java/lang/String") h2
    exact ⟨a, vk_R.of (hts _ h1) q1⟩
  refine ⟨vx_Zqof (hts _ (List.mem_append_right _ (List.mem_append_left _ (List.mem_of_getElem? (i := 157) (by decide +kernel))))) hini (hs _ (by decide +kernel)) hz, vx_Zqof (hts _ (List.mem_append_right _ (List.mem_append_left _ (List.mem_of_getElem? (i := 159) (by decide +kernel))))) hini (hs _ (by decide +kernel)) hz, CAS.of (hts _ (List.mem_append_right _ (List.mem_append_left _ (List.mem_of_getElem? (i := 132) (by decide +kernel))))), CAS.of (hts _ (List.mem_append_right _ (List.mem_append_right _ (List.mem_of_getElem? (i := 19) (by decide +kernel))))), ⟨va_Nw.of rfl (hts _ (List.mem_append_right _ (List.mem_append_left _ (List.mem_of_getElem? (i := 134) (by decide +kernel))))), va_Nw.of rfl (hts _ (List.mem_append_right _ (List.mem_append_left _ (List.mem_of_getElem? (i := 136) (by decide +kernel))))), va_Nw.of rfl (hts _ (List.mem_append_right _ (List.mem_append_left _ (List.mem_of_getElem? (i := 138) (by decide +kernel)))))⟩, va_Nc.of (hs _ (by decide +kernel)), st 127 "no such word" (List.mem_append_right _ (List.mem_append_left _ (List.mem_of_getElem? (i := 170) (by decide +kernel)))) (hs _ (by decide +kernel)), st 131 "a part has one byte or two" (List.mem_append_right _ (List.mem_append_right _ (List.mem_of_getElem? (i := 26) (by decide +kernel)))) (hs _ (by decide +kernel)), st 133 "no part begins there" (List.mem_append_right _ (List.mem_append_right _ (List.mem_of_getElem? (i := 33) (by decide +kernel)))) (hs _ (by decide +kernel)), st 129 "no such granule" (List.mem_append_right _ (List.mem_append_right _ (List.mem_of_getElem? (i := 45) (by decide +kernel)))) (hs _ (by decide +kernel)), st 76 "no such place for a line" (List.mem_append_right _ (List.mem_append_right _ (List.mem_of_getElem? (i := 64) (by decide +kernel)))) (hs _ (by decide +kernel)), st 87 "no such word or row of the store" (List.mem_append_right _ (List.mem_append_right _ (List.mem_of_getElem? (i := 72) (by decide +kernel)))) (hs _ (by decide +kernel)), st 89 "no such place" (List.mem_append_right _ (List.mem_append_right _ (List.mem_of_getElem? (i := 80) (by decide +kernel)))) (hs _ (by decide +kernel)), st 118 "no such count" (List.mem_append_right _ (List.mem_append_right _ (List.mem_of_getElem? (i := 104) (by decide +kernel)))) (hs _ (by decide +kernel))⟩
set_option maxHeartbeats 4000000 in
set_option maxRecDepth 100000 in
theorem whole_start {p : Program} {e : Env} {s : State} {m : MethodId} {below : List Frame} {meth : Method} {c : Code} (l : Launch) (hl9 : l.stackTraces = false) {b L : Nat} {xs : Nat → Int32} (hL : L ≤ 2560) (C0 : lw_At p s m meth c b L xs) : W p l e room_1 s m #[Value.ref b] below meth c s.heap [] 0 0 (lw_Z below #[Value.ref b] s) (entryFrame m ([Value.ref b] : List Value).toArray 7) := by
  have hLX := lx_of C0
  obtain ⟨hx, hb, hr, hml, hown, hts, hX, hbl, hlocks, hgv⟩ := id C0
  have hA : ∀ q : Nat, s.heap.size ≤ q → (fun q : Nat => s.heap.size ≤ q) q := fun _ h => h
  have inTl : ∀ w ∈ u_ws RT FT 12, w ∈ lw_tbl := fun w h => tb_in (inT w h)
  have inMl : ∀ w ∈ u_ws RM FM 10, w ∈ lw_tbl := fun w h => tb_in (inM w h)
  obtain ⟨c0, iS0, hKn0⟩ := u_known (C := RT) (T := FT) (N := 12) (n := 12) hts inTl (hts (Cond.instantiable "TagMemory" 12) (tb_in wm_11))
  obtain ⟨c1, iS1, hKn1⟩ := u_known (C := RM) (T := FM) (N := 10) (n := 10) hts inMl (hts (Cond.instantiable "TagMemoryModel" 10) (tb_in wm_346))
  obtain ⟨dC, dI, hKc⟩ : ∃ (dC : Nat → ClassId) (dI : Nat → Nat → Nat), ∀ (k : Nat) (q : vw_C), vwCl[k]? = some q → u_Kn s q.1 q.2.1 q.2.2 (dC k) (dI k) := by
    refine ⟨fun k => if k = 0 then c0 else c1, fun k => if k = 0 then iS0 else iS1, ?_⟩
    intro k q hq
    match k, hq with
    | 0, hq => cases hq; exact hKn0
    | 1, hq => cases hq; exact hKn1
    | k + 2, hq => simp [vwCl] at hq
  generalize hDe : ((dC, dI) : va_G) = D
  have hKc : ∀ (k : Nat) (q : vw_C), vwCl[k]? = some q → u_Kn s q.1 q.2.1 q.2.2 (D.1 k) (D.2 k) := by rw [← hDe]; exact hKc
  clear hDe
  have hS : va_S (fun q : Nat => s.heap.size ≤ q) s.heap s.heap [] := va_S.rf
  have hK : va_K D vwCl [] s := ⟨hKc, fun k q h => by simp at h⟩
  have hP : va_P D vwCl [] s.heap := fun k q h => by simp at h
  have hD : va_D (fun q : Nat => s.heap.size ≤ q) [] := ⟨fun i j p q h => by simp at h, fun k q h => by simp at h⟩
  have hl := lv_entry ([.ref b]) (n := 7) (Nat.le_of_ble_eq_true rfl)
  rw [lg_entry_eq]
  generalize (lg_sl ([.ref b]) ++ List.replicate (7 - (lg_sl ([.ref b])).length) Slot.unset).toArray = ls at hl ⊢
  have hl : lv_has ls 7 [(0, .ref b)] := hl
  refine va_new (ci := 0) (fs := [.null, .null, .null, .null, .null, .null, .null, .null, .int 0, .int 0, .int 0, .int 0]) (C := RT) (T := FT) (N := 12) hx hb hts inTl tyT tyT_ok hown (hts (Cond.classLink "TagMemoryLaw" 8 "TagMemory") (tb_in wm_10)) (hts (Cond.instantiable "TagMemory" 12) (tb_in wm_11)) (hts (Cond.initialized "TagMemory") (tb_in wm_1)) hK hP hD hS hA rfl (fun j hj => by rcases (show j = 0 ∨ j = 1 ∨ j = 2 ∨ j = 3 ∨ j = 4 ∨ j = 5 ∨ j = 6 ∨ j = 7 ∨ j = 8 ∨ j = 9 ∨ j = 10 ∨ j = 11 by omega) with rfl | rfl | rfl | rfl | rfl | rfl | rfl | rfl | rfl | rfl | rfl | rfl <;> rfl) (by show _ ≤ 1052; omega) (by show _ ≤ 15695; omega) d_L_law_0 (fun qT H hP hD hS => ?_)
  have hP : va_P D vwCl [(qT, .inr (0, [.null, .null, .null, .null, .null, .null, .null, .null, .int 0, .int 0, .int 0, .int 0]))] H := hP
  have hD : va_D (fun q : Nat => s.heap.size ≤ q) [(qT, .inr (0, [.null, .null, .null, .null, .null, .null, .null, .null, .int 0, .int 0, .int 0, .int 0]))] := hD
  refine lv_dup hx hb d_L_law_3 rfl ?_
  have hFc := va_free (wc := [(qT, .inr (0, [.null, .null, .null, .null, .null, .null, .null, .null, .int 0, .int 0, .int 0, .int 0]))]) hD hS hA [0] rfl
  refine va_callv (va_runI (As := []) (rest := [.ref qT]) ⟨hx, hb, hml, hown, hts⟩ (c_T_init l D qT H.size) (cwI 0 hts (tb_GoodL wm_14) rfl rfl rfl (hts (Cond.initialized "TagMemory") (tb_in wm_1)) (hts (Cond.methodLink "TagMemoryLaw" 49 ⟨"TagMemory", "<init>", "()V"⟩) (tb_in wm_12)) (hts (Cond.instanceMethod ⟨"TagMemory", "<init>", "()V"⟩) (tb_in wm_13)) rfl (by decide +kernel) ⟨by show (1 : Nat) + 1 ≤ 11; omega, by show 8 + (2 + 11) + (12 : Nat) ≤ 400; omega⟩) ⟨fun a U g mk q => by obtain ⟨q0, q1, qP, qK, qD⟩ := q; exact ⟨q0, q1, qP, va_K.moved (u := U) (U := U.calling g mk a) (Vm.Alike.refl U.vm) qK, qD⟩, fun U hU hW => ⟨rfl, by rw [hU], by rw [hU]; exact hP, va_K.moved hW.alike hK, hD.weaken (fun _ _ _ _ => trivial)⟩⟩ rfl rfl hl.1 rfl (lv_room (Nat.le_of_ble_eq_true rfl)) d_L_law_4 ⟨by show _ ≤ 1052; omega, by show _ ≤ 15695; omega⟩) hS (fun q _ h => hFc q h) hFc (fun gT t H1 locs ht hvm hw hB hz1 hk1 hS => ?_)
  obtain ⟨GT, kT⟩ := gT
  have hgT : GT 0 = qT := hw
  obtain ⟨hP1, hK1, hD1⟩ := hB
  rw [ht] at hP1
  have hKT : va_K D vwCl (tyTs kT) s := va_K.moved hvm.symm hK1
  have hPT : va_P D vwCl (wT GT kT startT) H1 := hP1
  have hDT : va_D (fun q : Nat => s.heap.size ≤ q) (wT GT kT startT) := hD1.weaken (fun _ q _ h => hFc q.1 h)
  clear hP1 hK1 hD1 hFc hP hD hk1 hz1
  generalize H1 = H at hPT hS ⊢
  refine W.widen (k := 9) (n := 2216) (by omega) (by omega) ?_
  refine lv_astore_n (lv' := [(1, .ref qT), (0, .ref b)]) hx hb d_L_law_7 rfl hl (by decide) rfl (fun ls hl => ?_)
  refine va_new (ci := 1) (fs := [.null, .null, .null, .null, .null, .null, .null, .null, .null, .int 0]) (C := RM) (T := FM) (N := 10) hx hb hts inMl tyM tyM_ok hown (hts (Cond.classLink "TagMemoryLaw" 50 "TagMemoryModel") (tb_in wm_345)) (hts (Cond.instantiable "TagMemoryModel" 10) (tb_in wm_346)) (hts (Cond.initialized "TagMemoryModel") (tb_in wm_2)) hKT hPT hDT hS hA rfl (fun j hj => by rcases (show j = 0 ∨ j = 1 ∨ j = 2 ∨ j = 3 ∨ j = 4 ∨ j = 5 ∨ j = 6 ∨ j = 7 ∨ j = 8 ∨ j = 9 by omega) with rfl | rfl | rfl | rfl | rfl | rfl | rfl | rfl | rfl | rfl <;> rfl) (by show _ ≤ 1052; omega) (by show _ ≤ 15695; omega) d_L_law_8 (fun qM H hP hD hS => ?_)
  have hP := ya_Pc hP
  have hD := ya_Dc hD
  refine lv_dup hx hb d_L_law_11 rfl ?_
  have hFc := ya_free hD hS hA
  refine va_callv (va_runI (As := []) (rest := [.ref qM]) ⟨hx, hb, hml, hown, hts⟩ (c_M_init l D qM H.size) (cwI 0 hts (tb_GoodL wm_349) rfl rfl rfl (hts (Cond.initialized "TagMemoryModel") (tb_in wm_2)) (hts (Cond.methodLink "TagMemoryLaw" 52 ⟨"TagMemoryModel", "<init>", "()V"⟩) (tb_in wm_347)) (hts (Cond.instanceMethod ⟨"TagMemoryModel", "<init>", "()V"⟩) (tb_in wm_348)) rfl (by decide +kernel) ⟨by show (1 : Nat) + 1 ≤ 11; omega, by show 8 + (2 + 11) + (12 : Nat) ≤ 400; omega⟩) ⟨fun a U g mk q => by obtain ⟨q0, q1, qP, qK, qD⟩ := q; exact ⟨q0, q1, qP, va_K.moved (u := U) (U := U.calling g mk a) (Vm.Alike.refl U.vm) qK, qD⟩, fun U hU hW => ⟨rfl, by rw [hU], by rw [hU]; exact ya_Pl hP, va_K.moved hW.alike hK, (ya_Dl hD).weaken (fun _ _ _ _ => trivial)⟩⟩ rfl rfl hl.1 rfl (lv_room (Nat.le_of_ble_eq_true rfl)) d_L_law_12 ⟨by show _ ≤ 1052; omega, by show _ ≤ 15695; omega⟩) hS (fun q _ h => hFc q h) hFc (fun gM t H1 locs ht hvm hw hB hz1 hk1 hS => ?_)
  obtain ⟨GM, kM⟩ := gM
  have hgM : GM 0 = qM := hw
  obtain ⟨hP1, hK1, hD1⟩ := hB
  rw [ht] at hP1
  have hKM : va_K D vwCl (tyMs kM) s := va_K.moved hvm.symm hK1
  obtain ⟨hP, hD⟩ := ya_join hP hD hk1 hFc hP1 hD1
  have hP : va_P D vwCl (wM GM kM startM ++ wT GT kT startT) H1 := hP
  have hD : va_D (fun q : Nat => s.heap.size ≤ q) (wM GM kM startM ++ wT GT kT startT) := hD
  clear hP1 hK1 hD1 hFc hk1 hz1
  generalize H1 = H at hP hS ⊢
  refine W.widen (k := 19) (n := 7454) (by omega) (by omega) ?_
  refine lv_astore_n (lv' := [(2, .ref qM), (1, .ref qT), (0, .ref b)]) hx hb d_L_law_15 rfl hl (by decide) rfl (fun ls hl => ?_)
  have hKMT : va_K D vwCl (tyMs kM ++ tyTs kT) s := hKM.app hKT
  refine lv_iconst (v := 1) hx hb d_L_law_16 (by decide) ?_
  refine va_newa (atype := .long) (ty := .long) (N' := 1) (a0 := (1, .inr (.inl (fun _ => 0)))) hx hb (hts (Cond.arrayClass .long) (tb_in wm_459)) rfl hKMT hP hD hS hA (ini_J 1) (by decide) (nI_clamp (n := 1) (by decide)) (by show 1 * 8 ≤ 536870912; omega) (by show _ ≤ 1052; omega) (by show _ ≤ 15695; omega) d_L_law_17 (fun o ko H hK hP hD hS => ?_)
  have hP : va_P D vwCl (wM GM kM startM ++ (wT GT kT startT ++ [(o, .inl (ko, 1, .inr (.inl (fun _ => 0))))])) H := hP
  have hD : va_D (fun q : Nat => s.heap.size ≤ q) (wM GM kM startM ++ (wT GT kT startT ++ [(o, .inl (ko, 1, .inr (.inl (fun _ => 0))))])) := hD
  have hK : va_K D vwCl (tyMs kM ++ (tyTs kT ++ [(ko, .long)])) s := hK
  have hP := ya_Pc hP
  have hD := ya_Dc hD
  have hK := ya_Kc hK
  refine lv_astore_n (lv' := [(3, .ref o), (2, .ref qM), (1, .ref qT), (0, .ref b)]) hx hb d_L_law_19 rfl hl (by decide) rfl (fun ls hl => ?_)
  refine lv_iconst (v := 0) hx hb d_L_law_20 (by decide) ?_
  refine lv_istore (lv' := [(4, .int (nI (5 * 0))), (3, .ref o), (2, .ref qM), (1, .ref qT), (0, .ref b)]) hx hb d_L_law_21 hl (by decide) rfl (fun ls hl => ?_)
  rw [← hgT, ← hgM] at hl
  refine W.widen (k := 20 + 0) (n := 7455 + 6 * 0) (by omega) (by omega) ?_
  exact law_loop hl9 hLX hL C0 hK 513 0 rfl (by omega) startT startM (fun _ => 0) _ _ _ sim_start hP hD hS hl
