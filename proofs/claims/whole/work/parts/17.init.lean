theorem ini_I (N : Nat) : ∀ cA : ClassId, vp_cell cA (N, .inl (fun _ => 0)) = arrV cA N (fun _ => defaultValue .int) := fun _ => rfl
theorem ini_Z (N : Nat) : ∀ cA : ClassId, vp_cell cA (N, .inl (fun _ => 0)) = arrV cA N (fun _ => defaultValue .boolean) := fun _ => rfl
theorem ini_J (N : Nat) : ∀ cA : ClassId, vp_cell cA (N, .inr (.inl (fun _ => 0))) = arrV cA N (fun _ => defaultValue .long) := fun _ => rfl
def zT : TC := (fun _ => 0, fun _ => 0, fun _ => 0, fun _ => 0, fun _ => 0, fun _ => 0, fun _ => 0, fun _ => 0, 0, 0, 0, 0)
def iTL : Nat → Nat → TC → TC
  | 0, _, u => u
  | d + 1, i, u => iTL d (i + 1) (sLa u (upd (tLa u) i (-1)))
def iTR : Nat → Nat → TC → TC
  | 0, _, u => u
  | d + 1, i, u => iTR d (i + 1) (sRa u (upd (tRa u) i (-1)))
def startT : TC := iTR 4 0 (iTL 16 0 zT)
set_option maxHeartbeats 4000000 in
set_option maxRecDepth 100000 in
theorem lp_T_initL {p : Program} {l : Launch} {e : Env} {s : State} {m : MethodId} {args : Array Value} {below : List Frame} {meth : Method} {c : Code} {Q : State → Prop} {D : va_G} {A : Nat → Prop} {G : Nat → Nat} {kc : Nat → ClassId} {c1 : Cond} (hx : p.tables.exec = Jvm.exec) (hb : c.code = b_T_init) (hml : c.maxLocals = 2) (hown : s.vm.findClass "TagMemory" = some m.cls) (hts : ∀ w ∈ c1 :: TB, w.before args s = true) (hK : va_K D vwCl (tyTs kc) s) (hA : ∀ q, s.heap.size ≤ q → A q) (u : TC) (kk : ∀ (u1 : TC) (H : Heap) (locs : List Loc) (ls : Array Slot), u1 = iTL 16 0 u → va_P D vwCl (wT G kc u1) H → va_D A (wT G kc u1) → va_S A s.heap H locs → lv_has ls 2 [(1, .int (nI 16)), (0, .ref (G 0))] → W p l e ({ frames := 1, cells := 8, slots := 2204, locals := 12 }) s m args below meth c H locs 8 2204 Q (F0 m 87 ls [])) : ∀ (d i : Nat), i + d = 16 → ∀ (u1 : TC) (H : Heap) (locs : List Loc) (ls : Array Slot), iTL d i u1 = iTL 16 0 u → va_P D vwCl (wT G kc u1) H → va_D A (wT G kc u1) → va_S A s.heap H locs → lv_has ls 2 [(1, .int (nI i)), (0, .ref (G 0))] → W p l e ({ frames := 1, cells := 8, slots := 2204, locals := 12 }) s m args below meth c H locs 8 2204 Q (F0 m 68 ls []) := by
  intro d
  induction d with
  | zero =>
    intro i hi u1 H locs ls hu hP hD hS hl
    obtain rfl : i = 16 := by omega
    refine lv_iload_n hx hb d_T_init_68 rfl (lv_at hl 0 rfl) ?_
    refine lv_bipush (v := 16) hx hb d_T_init_69 (by decide) ?_
    refine lv_icmp_ge (tgt := 87) hx hb d_T_init_71 (by decide) (fun _ => ?_) (fun c9 => absurd (nI_le (a := 16) (b := 16) (by omega) (by omega)) c9)
    exact kk u1 H locs ls hu hP hD hS hl
  | succ d ih =>
    intro i hi u1 H locs ls hu hP hD hS hl
    have hin : i < 16 := by omega
    refine lv_iload_n hx hb d_T_init_68 rfl (lv_at hl 0 rfl) ?_
    refine lv_bipush (v := 16) hx hb d_T_init_69 (by decide) ?_
    refine lv_icmp_ge (tgt := 87) hx hb d_T_init_71 (by decide) (fun c9 => absurd c9 (nI_ge (a := i) (b := 16) (by omega) (by omega))) (fun _ => ?_)
    refine lv_aload_n hx hb d_T_init_74 rfl (lv_at hl 1 rfl) ?_
    refine xt_g1 hx hb hts hown hK hP d_T_init_75 ?_
    refine lv_iload_n hx hb d_T_init_78 rfl (lv_at hl 0 rfl) ?_
    refine lv_iconst (v := (-1)) hx hb d_T_init_79 (by decide) ?_
    refine xt_s1 hx hb hK hP hD hS i rfl (by omega) d_T_init_80 (fun H locs hP hD hS => ?_)
    refine lv_iinc (v := nI (i + 1)) (lv' := [(1, .int (nI (i + 1))), (0, .ref _)]) hx hb d_T_init_81 hl (k := 0) rfl (nI_add _ _) (by decide) rfl (fun ls hl => ?_)
    refine lv_goto (tgt := 68) hx hb d_T_init_84 (by decide) ?_
    exact ih (i + 1) (by omega) _ _ _ _ hu hP hD hS (lv_sub hl [0, 1] rfl)
set_option maxHeartbeats 4000000 in
set_option maxRecDepth 100000 in
theorem lp_T_initR {p : Program} {l : Launch} {e : Env} {s : State} {m : MethodId} {args : Array Value} {below : List Frame} {meth : Method} {c : Code} {Q : State → Prop} {D : va_G} {A : Nat → Prop} {G : Nat → Nat} {kc : Nat → ClassId} {c1 : Cond} (hx : p.tables.exec = Jvm.exec) (hb : c.code = b_T_init) (hml : c.maxLocals = 2) (hown : s.vm.findClass "TagMemory" = some m.cls) (hts : ∀ w ∈ c1 :: TB, w.before args s = true) (hK : va_K D vwCl (tyTs kc) s) (hA : ∀ q, s.heap.size ≤ q → A q) (u : TC) (kk : ∀ (u1 : TC) (H : Heap) (locs : List Loc) (ls : Array Slot), u1 = iTR 4 0 u → va_P D vwCl (wT G kc u1) H → va_D A (wT G kc u1) → va_S A s.heap H locs → lv_has ls 2 [(1, .int (nI 4)), (0, .ref (G 0))] → W p l e ({ frames := 1, cells := 8, slots := 2204, locals := 12 }) s m args below meth c H locs 8 2204 Q (F0 m 107 ls [])) : ∀ (d i : Nat), i + d = 4 → ∀ (u1 : TC) (H : Heap) (locs : List Loc) (ls : Array Slot), iTR d i u1 = iTR 4 0 u → va_P D vwCl (wT G kc u1) H → va_D A (wT G kc u1) → va_S A s.heap H locs → lv_has ls 2 [(1, .int (nI i)), (0, .ref (G 0))] → W p l e ({ frames := 1, cells := 8, slots := 2204, locals := 12 }) s m args below meth c H locs 8 2204 Q (F0 m 89 ls []) := by
  intro d
  induction d with
  | zero =>
    intro i hi u1 H locs ls hu hP hD hS hl
    obtain rfl : i = 4 := by omega
    refine lv_iload_n hx hb d_T_init_89 rfl (lv_at hl 0 rfl) ?_
    refine lv_iconst (v := 4) hx hb d_T_init_90 (by decide) ?_
    refine lv_icmp_ge (tgt := 107) hx hb d_T_init_91 (by decide) (fun _ => ?_) (fun c9 => absurd (nI_le (a := 4) (b := 4) (by omega) (by omega)) c9)
    exact kk u1 H locs ls hu hP hD hS hl
  | succ d ih =>
    intro i hi u1 H locs ls hu hP hD hS hl
    have hin : i < 4 := by omega
    refine lv_iload_n hx hb d_T_init_89 rfl (lv_at hl 0 rfl) ?_
    refine lv_iconst (v := 4) hx hb d_T_init_90 (by decide) ?_
    refine lv_icmp_ge (tgt := 107) hx hb d_T_init_91 (by decide) (fun c9 => absurd c9 (nI_ge (a := i) (b := 4) (by omega) (by omega))) (fun _ => ?_)
    refine lv_aload_n hx hb d_T_init_94 rfl (lv_at hl 1 rfl) ?_
    refine xt_g5 hx hb hts hown hK hP d_T_init_95 ?_
    refine lv_iload_n hx hb d_T_init_98 rfl (lv_at hl 0 rfl) ?_
    refine lv_iconst (v := (-1)) hx hb d_T_init_99 (by decide) ?_
    refine xt_s5 hx hb hK hP hD hS i rfl (by omega) d_T_init_100 (fun H locs hP hD hS => ?_)
    refine lv_iinc (v := nI (i + 1)) (lv' := [(1, .int (nI (i + 1))), (0, .ref _)]) hx hb d_T_init_101 hl (k := 0) rfl (nI_add _ _) (by decide) rfl (fun ls hl => ?_)
    refine lv_goto (tgt := 89) hx hb d_T_init_104 (by decide) ?_
    exact ih (i + 1) (by omega) _ _ _ _ hu hP hD hS (lv_sub hl [0, 1] rfl)
set_option maxHeartbeats 4000000 in
set_option maxRecDepth 100000 in
theorem c_T_init (l : Launch) (D : va_G) (h0 sz : Nat) : Met l y_T_init (k_T_init :: TB) { frames := 1, cells := 8, slots := 2204, locals := 12 } (va_Pc [.ref h0] (fun U => U.heap.size = sz ∧ va_P D vwCl [(h0, .inr (0, [.null, .null, .null, .null, .null, .null, .null, .null, .int 0, .int 0, .int 0, .int 0]))] U.heap ∧ va_K D vwCl [] U ∧ va_D (fun _ => True) [(h0, .inr (0, [.null, .null, .null, .null, .null, .null, .null, .null, .int 0, .int 0, .int 0, .int 0]))])) (va_Qv (fun g : (Nat → Nat) × (Nat → ClassId) => g.1 0 = h0) (fun g t => va_P D vwCl (wT g.1 g.2 startT) t.heap ∧ va_K D vwCl (tyTs g.2) t ∧ va_D (va_A [(h0, .inr (0, [.null, .null, .null, .null, .null, .null, .null, .null, .int 0, .int 0, .int 0, .int 0]))] sz) (wT g.1 g.2 startT)) (va_A [(h0, .inr (0, [.null, .null, .null, .null, .null, .null, .null, .null, .int 0, .int 0, .int 0, .int 0]))] sz)) 8 2204 (va_A [(h0, .inr (0, [.null, .null, .null, .null, .null, .null, .null, .null, .int 0, .int 0, .int 0, .int 0]))] sz) := by
  refine Met.ofW (cc := b_T_init) (maxL := 2) (ret := none) (by decide) rfl ?_
  intro p e s m args below meth c s₁ B hml hv
  obtain ⟨rfl, hsz, hP, hK, hD0⟩ := hv
  have hx := B.exec
  have hb := B.bytes
  have hr := B.returns
  have hts := atoms_spec (ws := k_T_init :: TB) B.pre
  have hown : s.vm.findClass "TagMemory" = some m.cls := findClass_of_methodNamed B.named
  have hlocks := B.notSynchronized
  have hin : meth.name = "<init>" := (name_of_methodNamed B.named B.method).1
  subst hsz
  have hD := hD0.self (sz := s.heap.size)
  generalize hAe : va_A [(h0, .inr (0, [.null, .null, .null, .null, .null, .null, .null, .null, .int 0, .int 0, .int 0, .int 0]))] s.heap.size = A at hD ⊢
  have hA : ∀ q : Nat, s.heap.size ≤ q → A q := fun q h => by rw [← hAe]; exact Or.inr h
  have hS : va_S A s.heap s.heap [] := va_S.rf
  have hl := lv_entry ([.ref h0]) (n := 2) (Nat.le_of_ble_eq_true rfl)
  rw [lg_entry_eq]
  generalize (lg_sl ([.ref h0]) ++ List.replicate (2 - (lg_sl ([.ref h0])).length) Slot.unset).toArray = ls at hl ⊢
  have hl : lv_has ls 2 [(0, .ref h0)] := hl
  refine lv_aload_n hx hb d_T_init_0 rfl (lv_at hl 0 rfl) ?_
  refine W.objInit hx hb hown (hts (Cond.methodLink "TagMemory" 3 ⟨"java/lang/Object", "<init>", "()V"⟩) (List.mem_cons_of_mem _ wm_15)) (hts (Cond.instanceMethod ⟨"java/lang/Object", "<init>", "()V"⟩) (List.mem_cons_of_mem _ wm_16)) (hts (Cond.code ⟨"java/lang/Object", "<init>", "()V"⟩ object_method_1_code 1 none) (List.mem_cons_of_mem _ wm_17)) rfl (by rw [hml]; exact hl.1) rfl d_T_init_1 (Nat.le_of_ble_eq_true rfl) (Nat.le_of_ble_eq_true rfl) ?_
  refine W.eq (g2 := F0 m 4 ls []) rfl ?_
  refine lv_aload_n hx hb d_T_init_4 rfl (lv_at hl 0 rfl) ?_
  refine lv_sipush (v := 2080) hx hb d_T_init_5 (by decide) ?_
  refine va_newa (atype := .int) (ty := .int) (N' := 2080) (a0 := (2080, .inl (fun _ => 0))) hx hb (hts (Cond.arrayClass .int) (List.mem_cons_of_mem _ wm_55)) rfl hK hP hD hS hA (ini_I 2080) (by decide) (nI_clamp (n := 2080) (by decide)) (by show 2080 * 4 ≤ 536870912; omega) (by show _ ≤ 8; omega) (by show _ ≤ 2204; omega) d_T_init_8 (fun q1 k1 H hK hP hD hS => ?_)
  have hP : va_P D vwCl [(h0, .inr (0, [.null, .null, .null, .null, .null, .null, .null, .null, .int 0, .int 0, .int 0, .int 0])), (q1, .inl (k1, 2080, .inl (fun _ => 0)))] H := hP
  have hD : va_D A [(h0, .inr (0, [.null, .null, .null, .null, .null, .null, .null, .null, .int 0, .int 0, .int 0, .int 0])), (q1, .inl (k1, 2080, .inl (fun _ => 0)))] := hD
  have hK : va_K D vwCl [(k1, .int)] s := hK
  refine va_putF (D := D) (ci := 0) (v := .ref q1) (ty := .array .int) (C := RT) (T := FT) (N := 12) hx hb hts insT tyT tyT_ok nmT hown hK hP hD hS 0 rfl rfl 0 (by decide) (hts (Cond.fieldLink "TagMemory" 9 "TagMemory" "stored" "[I") (List.mem_cons_of_mem _ wm_18)) (fun _ h9 => h9) rfl hin rfl (by decide +kernel) rfl rfl (Nat.le_of_ble_eq_true rfl) d_T_init_10 (fun H locs hP hD hS => ?_)
  have hP : va_P D vwCl [(h0, .inr (0, [.ref q1, .null, .null, .null, .null, .null, .null, .null, .int 0, .int 0, .int 0, .int 0])), (q1, .inl (k1, 2080, .inl (fun _ => 0)))] H := hP
  have hD : va_D A [(h0, .inr (0, [.ref q1, .null, .null, .null, .null, .null, .null, .null, .int 0, .int 0, .int 0, .int 0])), (q1, .inl (k1, 2080, .inl (fun _ => 0)))] := hD
  have hK : va_K D vwCl [(k1, .int)] s := hK
  refine lv_aload_n hx hb d_T_init_13 rfl (lv_at hl 0 rfl) ?_
  refine lv_bipush (v := 16) hx hb d_T_init_14 (by decide) ?_
  refine va_newa (atype := .int) (ty := .int) (N' := 16) (a0 := (16, .inl (fun _ => 0))) hx hb (hts (Cond.arrayClass .int) (List.mem_cons_of_mem _ wm_55)) rfl hK hP hD hS hA (ini_I 16) (by decide) (nI_clamp (n := 16) (by decide)) (by show 16 * 4 ≤ 536870912; omega) (by show _ ≤ 8; omega) (by show _ ≤ 2204; omega) d_T_init_16 (fun q2 k2 H hK hP hD hS => ?_)
  have hP : va_P D vwCl [(h0, .inr (0, [.ref q1, .null, .null, .null, .null, .null, .null, .null, .int 0, .int 0, .int 0, .int 0])), (q1, .inl (k1, 2080, .inl (fun _ => 0))), (q2, .inl (k2, 16, .inl (fun _ => 0)))] H := hP
  have hD : va_D A [(h0, .inr (0, [.ref q1, .null, .null, .null, .null, .null, .null, .null, .int 0, .int 0, .int 0, .int 0])), (q1, .inl (k1, 2080, .inl (fun _ => 0))), (q2, .inl (k2, 16, .inl (fun _ => 0)))] := hD
  have hK : va_K D vwCl [(k1, .int), (k2, .int)] s := hK
  refine va_putF (D := D) (ci := 0) (v := .ref q2) (ty := .array .int) (C := RT) (T := FT) (N := 12) hx hb hts insT tyT tyT_ok nmT hown hK hP hD hS 0 rfl rfl 1 (by decide) (hts (Cond.fieldLink "TagMemory" 13 "TagMemory" "lineAt" "[I") (List.mem_cons_of_mem _ wm_19)) (fun _ h9 => h9) rfl hin rfl (by decide +kernel) rfl rfl (Nat.le_of_ble_eq_true rfl) d_T_init_18 (fun H locs hP hD hS => ?_)
  have hP : va_P D vwCl [(h0, .inr (0, [.ref q1, .ref q2, .null, .null, .null, .null, .null, .null, .int 0, .int 0, .int 0, .int 0])), (q1, .inl (k1, 2080, .inl (fun _ => 0))), (q2, .inl (k2, 16, .inl (fun _ => 0)))] H := hP
  have hD : va_D A [(h0, .inr (0, [.ref q1, .ref q2, .null, .null, .null, .null, .null, .null, .int 0, .int 0, .int 0, .int 0])), (q1, .inl (k1, 2080, .inl (fun _ => 0))), (q2, .inl (k2, 16, .inl (fun _ => 0)))] := hD
  have hK : va_K D vwCl [(k1, .int), (k2, .int)] s := hK
  refine lv_aload_n hx hb d_T_init_21 rfl (lv_at hl 0 rfl) ?_
  refine lv_bipush (v := 64) hx hb d_T_init_22 (by decide) ?_
  refine va_newa (atype := .int) (ty := .int) (N' := 64) (a0 := (64, .inl (fun _ => 0))) hx hb (hts (Cond.arrayClass .int) (List.mem_cons_of_mem _ wm_55)) rfl hK hP hD hS hA (ini_I 64) (by decide) (nI_clamp (n := 64) (by decide)) (by show 64 * 4 ≤ 536870912; omega) (by show _ ≤ 8; omega) (by show _ ≤ 2204; omega) d_T_init_24 (fun q3 k3 H hK hP hD hS => ?_)
  have hP : va_P D vwCl [(h0, .inr (0, [.ref q1, .ref q2, .null, .null, .null, .null, .null, .null, .int 0, .int 0, .int 0, .int 0])), (q1, .inl (k1, 2080, .inl (fun _ => 0))), (q2, .inl (k2, 16, .inl (fun _ => 0))), (q3, .inl (k3, 64, .inl (fun _ => 0)))] H := hP
  have hD : va_D A [(h0, .inr (0, [.ref q1, .ref q2, .null, .null, .null, .null, .null, .null, .int 0, .int 0, .int 0, .int 0])), (q1, .inl (k1, 2080, .inl (fun _ => 0))), (q2, .inl (k2, 16, .inl (fun _ => 0))), (q3, .inl (k3, 64, .inl (fun _ => 0)))] := hD
  have hK : va_K D vwCl [(k1, .int), (k2, .int), (k3, .int)] s := hK
  refine va_putF (D := D) (ci := 0) (v := .ref q3) (ty := .array .int) (C := RT) (T := FT) (N := 12) hx hb hts insT tyT tyT_ok nmT hown hK hP hD hS 0 rfl rfl 2 (by decide) (hts (Cond.fieldLink "TagMemory" 16 "TagMemory" "lineWords" "[I") (List.mem_cons_of_mem _ wm_20)) (fun _ h9 => h9) rfl hin rfl (by decide +kernel) rfl rfl (Nat.le_of_ble_eq_true rfl) d_T_init_26 (fun H locs hP hD hS => ?_)
  have hP : va_P D vwCl [(h0, .inr (0, [.ref q1, .ref q2, .ref q3, .null, .null, .null, .null, .null, .int 0, .int 0, .int 0, .int 0])), (q1, .inl (k1, 2080, .inl (fun _ => 0))), (q2, .inl (k2, 16, .inl (fun _ => 0))), (q3, .inl (k3, 64, .inl (fun _ => 0)))] H := hP
  have hD : va_D A [(h0, .inr (0, [.ref q1, .ref q2, .ref q3, .null, .null, .null, .null, .null, .int 0, .int 0, .int 0, .int 0])), (q1, .inl (k1, 2080, .inl (fun _ => 0))), (q2, .inl (k2, 16, .inl (fun _ => 0))), (q3, .inl (k3, 64, .inl (fun _ => 0)))] := hD
  have hK : va_K D vwCl [(k1, .int), (k2, .int), (k3, .int)] s := hK
  refine lv_aload_n hx hb d_T_init_29 rfl (lv_at hl 0 rfl) ?_
  refine lv_bipush (v := 16) hx hb d_T_init_30 (by decide) ?_
  refine va_newa (atype := .int) (ty := .int) (N' := 16) (a0 := (16, .inl (fun _ => 0))) hx hb (hts (Cond.arrayClass .int) (List.mem_cons_of_mem _ wm_55)) rfl hK hP hD hS hA (ini_I 16) (by decide) (nI_clamp (n := 16) (by decide)) (by show 16 * 4 ≤ 536870912; omega) (by show _ ≤ 8; omega) (by show _ ≤ 2204; omega) d_T_init_32 (fun q4 k4 H hK hP hD hS => ?_)
  have hP : va_P D vwCl [(h0, .inr (0, [.ref q1, .ref q2, .ref q3, .null, .null, .null, .null, .null, .int 0, .int 0, .int 0, .int 0])), (q1, .inl (k1, 2080, .inl (fun _ => 0))), (q2, .inl (k2, 16, .inl (fun _ => 0))), (q3, .inl (k3, 64, .inl (fun _ => 0))), (q4, .inl (k4, 16, .inl (fun _ => 0)))] H := hP
  have hD : va_D A [(h0, .inr (0, [.ref q1, .ref q2, .ref q3, .null, .null, .null, .null, .null, .int 0, .int 0, .int 0, .int 0])), (q1, .inl (k1, 2080, .inl (fun _ => 0))), (q2, .inl (k2, 16, .inl (fun _ => 0))), (q3, .inl (k3, 64, .inl (fun _ => 0))), (q4, .inl (k4, 16, .inl (fun _ => 0)))] := hD
  have hK : va_K D vwCl [(k1, .int), (k2, .int), (k3, .int), (k4, .int)] s := hK
  refine va_putF (D := D) (ci := 0) (v := .ref q4) (ty := .array .int) (C := RT) (T := FT) (N := 12) hx hb hts insT tyT tyT_ok nmT hown hK hP hD hS 0 rfl rfl 3 (by decide) (hts (Cond.fieldLink "TagMemory" 19 "TagMemory" "lineTags" "[I") (List.mem_cons_of_mem _ wm_21)) (fun _ h9 => h9) rfl hin rfl (by decide +kernel) rfl rfl (Nat.le_of_ble_eq_true rfl) d_T_init_34 (fun H locs hP hD hS => ?_)
  have hP : va_P D vwCl [(h0, .inr (0, [.ref q1, .ref q2, .ref q3, .ref q4, .null, .null, .null, .null, .int 0, .int 0, .int 0, .int 0])), (q1, .inl (k1, 2080, .inl (fun _ => 0))), (q2, .inl (k2, 16, .inl (fun _ => 0))), (q3, .inl (k3, 64, .inl (fun _ => 0))), (q4, .inl (k4, 16, .inl (fun _ => 0)))] H := hP
  have hD : va_D A [(h0, .inr (0, [.ref q1, .ref q2, .ref q3, .ref q4, .null, .null, .null, .null, .int 0, .int 0, .int 0, .int 0])), (q1, .inl (k1, 2080, .inl (fun _ => 0))), (q2, .inl (k2, 16, .inl (fun _ => 0))), (q3, .inl (k3, 64, .inl (fun _ => 0))), (q4, .inl (k4, 16, .inl (fun _ => 0)))] := hD
  have hK : va_K D vwCl [(k1, .int), (k2, .int), (k3, .int), (k4, .int)] s := hK
  refine lv_aload_n hx hb d_T_init_37 rfl (lv_at hl 0 rfl) ?_
  refine lv_bipush (v := 16) hx hb d_T_init_38 (by decide) ?_
  refine va_newa (atype := .boolean) (ty := .boolean) (N' := 16) (a0 := (16, .inl (fun _ => 0))) hx hb (hts (Cond.arrayClass .boolean) (List.mem_cons_of_mem _ wm_56)) rfl hK hP hD hS hA (ini_Z 16) (by decide) (nI_clamp (n := 16) (by decide)) (by show 16 * 1 ≤ 536870912; omega) (by show _ ≤ 8; omega) (by show _ ≤ 2204; omega) d_T_init_40 (fun q5 k5 H hK hP hD hS => ?_)
  have hP : va_P D vwCl [(h0, .inr (0, [.ref q1, .ref q2, .ref q3, .ref q4, .null, .null, .null, .null, .int 0, .int 0, .int 0, .int 0])), (q1, .inl (k1, 2080, .inl (fun _ => 0))), (q2, .inl (k2, 16, .inl (fun _ => 0))), (q3, .inl (k3, 64, .inl (fun _ => 0))), (q4, .inl (k4, 16, .inl (fun _ => 0))), (q5, .inl (k5, 16, .inl (fun _ => 0)))] H := hP
  have hD : va_D A [(h0, .inr (0, [.ref q1, .ref q2, .ref q3, .ref q4, .null, .null, .null, .null, .int 0, .int 0, .int 0, .int 0])), (q1, .inl (k1, 2080, .inl (fun _ => 0))), (q2, .inl (k2, 16, .inl (fun _ => 0))), (q3, .inl (k3, 64, .inl (fun _ => 0))), (q4, .inl (k4, 16, .inl (fun _ => 0))), (q5, .inl (k5, 16, .inl (fun _ => 0)))] := hD
  have hK : va_K D vwCl [(k1, .int), (k2, .int), (k3, .int), (k4, .int), (k5, .boolean)] s := hK
  refine va_putF (D := D) (ci := 0) (v := .ref q5) (ty := .array .boolean) (C := RT) (T := FT) (N := 12) hx hb hts insT tyT tyT_ok nmT hown hK hP hD hS 0 rfl rfl 4 (by decide) (hts (Cond.fieldLink "TagMemory" 22 "TagMemory" "lineChanged" "[Z") (List.mem_cons_of_mem _ wm_22)) (fun _ h9 => h9) rfl hin rfl (by decide +kernel) rfl rfl (Nat.le_of_ble_eq_true rfl) d_T_init_42 (fun H locs hP hD hS => ?_)
  have hP : va_P D vwCl [(h0, .inr (0, [.ref q1, .ref q2, .ref q3, .ref q4, .ref q5, .null, .null, .null, .int 0, .int 0, .int 0, .int 0])), (q1, .inl (k1, 2080, .inl (fun _ => 0))), (q2, .inl (k2, 16, .inl (fun _ => 0))), (q3, .inl (k3, 64, .inl (fun _ => 0))), (q4, .inl (k4, 16, .inl (fun _ => 0))), (q5, .inl (k5, 16, .inl (fun _ => 0)))] H := hP
  have hD : va_D A [(h0, .inr (0, [.ref q1, .ref q2, .ref q3, .ref q4, .ref q5, .null, .null, .null, .int 0, .int 0, .int 0, .int 0])), (q1, .inl (k1, 2080, .inl (fun _ => 0))), (q2, .inl (k2, 16, .inl (fun _ => 0))), (q3, .inl (k3, 64, .inl (fun _ => 0))), (q4, .inl (k4, 16, .inl (fun _ => 0))), (q5, .inl (k5, 16, .inl (fun _ => 0)))] := hD
  have hK : va_K D vwCl [(k1, .int), (k2, .int), (k3, .int), (k4, .int), (k5, .boolean)] s := hK
  refine lv_aload_n hx hb d_T_init_45 rfl (lv_at hl 0 rfl) ?_
  refine lv_iconst (v := 4) hx hb d_T_init_46 (by decide) ?_
  refine va_newa (atype := .int) (ty := .int) (N' := 4) (a0 := (4, .inl (fun _ => 0))) hx hb (hts (Cond.arrayClass .int) (List.mem_cons_of_mem _ wm_55)) rfl hK hP hD hS hA (ini_I 4) (by decide) (nI_clamp (n := 4) (by decide)) (by show 4 * 4 ≤ 536870912; omega) (by show _ ≤ 8; omega) (by show _ ≤ 2204; omega) d_T_init_47 (fun q6 k6 H hK hP hD hS => ?_)
  have hP : va_P D vwCl [(h0, .inr (0, [.ref q1, .ref q2, .ref q3, .ref q4, .ref q5, .null, .null, .null, .int 0, .int 0, .int 0, .int 0])), (q1, .inl (k1, 2080, .inl (fun _ => 0))), (q2, .inl (k2, 16, .inl (fun _ => 0))), (q3, .inl (k3, 64, .inl (fun _ => 0))), (q4, .inl (k4, 16, .inl (fun _ => 0))), (q5, .inl (k5, 16, .inl (fun _ => 0))), (q6, .inl (k6, 4, .inl (fun _ => 0)))] H := hP
  have hD : va_D A [(h0, .inr (0, [.ref q1, .ref q2, .ref q3, .ref q4, .ref q5, .null, .null, .null, .int 0, .int 0, .int 0, .int 0])), (q1, .inl (k1, 2080, .inl (fun _ => 0))), (q2, .inl (k2, 16, .inl (fun _ => 0))), (q3, .inl (k3, 64, .inl (fun _ => 0))), (q4, .inl (k4, 16, .inl (fun _ => 0))), (q5, .inl (k5, 16, .inl (fun _ => 0))), (q6, .inl (k6, 4, .inl (fun _ => 0)))] := hD
  have hK : va_K D vwCl [(k1, .int), (k2, .int), (k3, .int), (k4, .int), (k5, .boolean), (k6, .int)] s := hK
  refine va_putF (D := D) (ci := 0) (v := .ref q6) (ty := .array .int) (C := RT) (T := FT) (N := 12) hx hb hts insT tyT tyT_ok nmT hown hK hP hD hS 0 rfl rfl 5 (by decide) (hts (Cond.fieldLink "TagMemory" 26 "TagMemory" "rowAt" "[I") (List.mem_cons_of_mem _ wm_23)) (fun _ h9 => h9) rfl hin rfl (by decide +kernel) rfl rfl (Nat.le_of_ble_eq_true rfl) d_T_init_49 (fun H locs hP hD hS => ?_)
  have hP : va_P D vwCl [(h0, .inr (0, [.ref q1, .ref q2, .ref q3, .ref q4, .ref q5, .ref q6, .null, .null, .int 0, .int 0, .int 0, .int 0])), (q1, .inl (k1, 2080, .inl (fun _ => 0))), (q2, .inl (k2, 16, .inl (fun _ => 0))), (q3, .inl (k3, 64, .inl (fun _ => 0))), (q4, .inl (k4, 16, .inl (fun _ => 0))), (q5, .inl (k5, 16, .inl (fun _ => 0))), (q6, .inl (k6, 4, .inl (fun _ => 0)))] H := hP
  have hD : va_D A [(h0, .inr (0, [.ref q1, .ref q2, .ref q3, .ref q4, .ref q5, .ref q6, .null, .null, .int 0, .int 0, .int 0, .int 0])), (q1, .inl (k1, 2080, .inl (fun _ => 0))), (q2, .inl (k2, 16, .inl (fun _ => 0))), (q3, .inl (k3, 64, .inl (fun _ => 0))), (q4, .inl (k4, 16, .inl (fun _ => 0))), (q5, .inl (k5, 16, .inl (fun _ => 0))), (q6, .inl (k6, 4, .inl (fun _ => 0)))] := hD
  have hK : va_K D vwCl [(k1, .int), (k2, .int), (k3, .int), (k4, .int), (k5, .boolean), (k6, .int)] s := hK
  refine lv_aload_n hx hb d_T_init_52 rfl (lv_at hl 0 rfl) ?_
  refine lv_iconst (v := 4) hx hb d_T_init_53 (by decide) ?_
  refine va_newa (atype := .int) (ty := .int) (N' := 4) (a0 := (4, .inl (fun _ => 0))) hx hb (hts (Cond.arrayClass .int) (List.mem_cons_of_mem _ wm_55)) rfl hK hP hD hS hA (ini_I 4) (by decide) (nI_clamp (n := 4) (by decide)) (by show 4 * 4 ≤ 536870912; omega) (by show _ ≤ 8; omega) (by show _ ≤ 2204; omega) d_T_init_54 (fun q7 k7 H hK hP hD hS => ?_)
  have hP : va_P D vwCl [(h0, .inr (0, [.ref q1, .ref q2, .ref q3, .ref q4, .ref q5, .ref q6, .null, .null, .int 0, .int 0, .int 0, .int 0])), (q1, .inl (k1, 2080, .inl (fun _ => 0))), (q2, .inl (k2, 16, .inl (fun _ => 0))), (q3, .inl (k3, 64, .inl (fun _ => 0))), (q4, .inl (k4, 16, .inl (fun _ => 0))), (q5, .inl (k5, 16, .inl (fun _ => 0))), (q6, .inl (k6, 4, .inl (fun _ => 0))), (q7, .inl (k7, 4, .inl (fun _ => 0)))] H := hP
  have hD : va_D A [(h0, .inr (0, [.ref q1, .ref q2, .ref q3, .ref q4, .ref q5, .ref q6, .null, .null, .int 0, .int 0, .int 0, .int 0])), (q1, .inl (k1, 2080, .inl (fun _ => 0))), (q2, .inl (k2, 16, .inl (fun _ => 0))), (q3, .inl (k3, 64, .inl (fun _ => 0))), (q4, .inl (k4, 16, .inl (fun _ => 0))), (q5, .inl (k5, 16, .inl (fun _ => 0))), (q6, .inl (k6, 4, .inl (fun _ => 0))), (q7, .inl (k7, 4, .inl (fun _ => 0)))] := hD
  have hK : va_K D vwCl [(k1, .int), (k2, .int), (k3, .int), (k4, .int), (k5, .boolean), (k6, .int), (k7, .int)] s := hK
  refine va_putF (D := D) (ci := 0) (v := .ref q7) (ty := .array .int) (C := RT) (T := FT) (N := 12) hx hb hts insT tyT tyT_ok nmT hown hK hP hD hS 0 rfl rfl 6 (by decide) (hts (Cond.fieldLink "TagMemory" 29 "TagMemory" "rowTags" "[I") (List.mem_cons_of_mem _ wm_24)) (fun _ h9 => h9) rfl hin rfl (by decide +kernel) rfl rfl (Nat.le_of_ble_eq_true rfl) d_T_init_56 (fun H locs hP hD hS => ?_)
  have hP : va_P D vwCl [(h0, .inr (0, [.ref q1, .ref q2, .ref q3, .ref q4, .ref q5, .ref q6, .ref q7, .null, .int 0, .int 0, .int 0, .int 0])), (q1, .inl (k1, 2080, .inl (fun _ => 0))), (q2, .inl (k2, 16, .inl (fun _ => 0))), (q3, .inl (k3, 64, .inl (fun _ => 0))), (q4, .inl (k4, 16, .inl (fun _ => 0))), (q5, .inl (k5, 16, .inl (fun _ => 0))), (q6, .inl (k6, 4, .inl (fun _ => 0))), (q7, .inl (k7, 4, .inl (fun _ => 0)))] H := hP
  have hD : va_D A [(h0, .inr (0, [.ref q1, .ref q2, .ref q3, .ref q4, .ref q5, .ref q6, .ref q7, .null, .int 0, .int 0, .int 0, .int 0])), (q1, .inl (k1, 2080, .inl (fun _ => 0))), (q2, .inl (k2, 16, .inl (fun _ => 0))), (q3, .inl (k3, 64, .inl (fun _ => 0))), (q4, .inl (k4, 16, .inl (fun _ => 0))), (q5, .inl (k5, 16, .inl (fun _ => 0))), (q6, .inl (k6, 4, .inl (fun _ => 0))), (q7, .inl (k7, 4, .inl (fun _ => 0)))] := hD
  have hK : va_K D vwCl [(k1, .int), (k2, .int), (k3, .int), (k4, .int), (k5, .boolean), (k6, .int), (k7, .int)] s := hK
  refine lv_aload_n hx hb d_T_init_59 rfl (lv_at hl 0 rfl) ?_
  refine lv_iconst (v := 4) hx hb d_T_init_60 (by decide) ?_
  refine va_newa (atype := .boolean) (ty := .boolean) (N' := 4) (a0 := (4, .inl (fun _ => 0))) hx hb (hts (Cond.arrayClass .boolean) (List.mem_cons_of_mem _ wm_56)) rfl hK hP hD hS hA (ini_Z 4) (by decide) (nI_clamp (n := 4) (by decide)) (by show 4 * 1 ≤ 536870912; omega) (by show _ ≤ 8; omega) (by show _ ≤ 2204; omega) d_T_init_61 (fun q8 k8 H hK hP hD hS => ?_)
  have hP : va_P D vwCl [(h0, .inr (0, [.ref q1, .ref q2, .ref q3, .ref q4, .ref q5, .ref q6, .ref q7, .null, .int 0, .int 0, .int 0, .int 0])), (q1, .inl (k1, 2080, .inl (fun _ => 0))), (q2, .inl (k2, 16, .inl (fun _ => 0))), (q3, .inl (k3, 64, .inl (fun _ => 0))), (q4, .inl (k4, 16, .inl (fun _ => 0))), (q5, .inl (k5, 16, .inl (fun _ => 0))), (q6, .inl (k6, 4, .inl (fun _ => 0))), (q7, .inl (k7, 4, .inl (fun _ => 0))), (q8, .inl (k8, 4, .inl (fun _ => 0)))] H := hP
  have hD : va_D A [(h0, .inr (0, [.ref q1, .ref q2, .ref q3, .ref q4, .ref q5, .ref q6, .ref q7, .null, .int 0, .int 0, .int 0, .int 0])), (q1, .inl (k1, 2080, .inl (fun _ => 0))), (q2, .inl (k2, 16, .inl (fun _ => 0))), (q3, .inl (k3, 64, .inl (fun _ => 0))), (q4, .inl (k4, 16, .inl (fun _ => 0))), (q5, .inl (k5, 16, .inl (fun _ => 0))), (q6, .inl (k6, 4, .inl (fun _ => 0))), (q7, .inl (k7, 4, .inl (fun _ => 0))), (q8, .inl (k8, 4, .inl (fun _ => 0)))] := hD
  have hK : va_K D vwCl [(k1, .int), (k2, .int), (k3, .int), (k4, .int), (k5, .boolean), (k6, .int), (k7, .int), (k8, .boolean)] s := hK
  refine va_putF (D := D) (ci := 0) (v := .ref q8) (ty := .array .boolean) (C := RT) (T := FT) (N := 12) hx hb hts insT tyT tyT_ok nmT hown hK hP hD hS 0 rfl rfl 7 (by decide) (hts (Cond.fieldLink "TagMemory" 32 "TagMemory" "rowChanged" "[Z") (List.mem_cons_of_mem _ wm_25)) (fun _ h9 => h9) rfl hin rfl (by decide +kernel) rfl rfl (Nat.le_of_ble_eq_true rfl) d_T_init_63 (fun H locs hP hD hS => ?_)
  have hP : va_P D vwCl [(h0, .inr (0, [.ref q1, .ref q2, .ref q3, .ref q4, .ref q5, .ref q6, .ref q7, .ref q8, .int 0, .int 0, .int 0, .int 0])), (q1, .inl (k1, 2080, .inl (fun _ => 0))), (q2, .inl (k2, 16, .inl (fun _ => 0))), (q3, .inl (k3, 64, .inl (fun _ => 0))), (q4, .inl (k4, 16, .inl (fun _ => 0))), (q5, .inl (k5, 16, .inl (fun _ => 0))), (q6, .inl (k6, 4, .inl (fun _ => 0))), (q7, .inl (k7, 4, .inl (fun _ => 0))), (q8, .inl (k8, 4, .inl (fun _ => 0)))] H := hP
  have hD : va_D A [(h0, .inr (0, [.ref q1, .ref q2, .ref q3, .ref q4, .ref q5, .ref q6, .ref q7, .ref q8, .int 0, .int 0, .int 0, .int 0])), (q1, .inl (k1, 2080, .inl (fun _ => 0))), (q2, .inl (k2, 16, .inl (fun _ => 0))), (q3, .inl (k3, 64, .inl (fun _ => 0))), (q4, .inl (k4, 16, .inl (fun _ => 0))), (q5, .inl (k5, 16, .inl (fun _ => 0))), (q6, .inl (k6, 4, .inl (fun _ => 0))), (q7, .inl (k7, 4, .inl (fun _ => 0))), (q8, .inl (k8, 4, .inl (fun _ => 0)))] := hD
  have hK : va_K D vwCl [(k1, .int), (k2, .int), (k3, .int), (k4, .int), (k5, .boolean), (k6, .int), (k7, .int), (k8, .boolean)] s := hK
  refine lv_iconst (v := 0) hx hb d_T_init_66 (by decide) ?_
  refine lv_istore_n (lv' := [(1, .int (nI 0)), (0, .ref _)]) hx hb d_T_init_67 rfl hl (by decide) rfl (fun ls hl => ?_)
  have hP : va_P D vwCl (wT (fun i => ([h0, q1, q2, q3, q4, q5, q6, q7, q8] : List Nat).getD i 0) (fun i => ([k1, k1, k2, k3, k4, k5, k6, k7, k8] : List ClassId).getD i k1) zT) H := hP
  have hD : va_D A (wT (fun i => ([h0, q1, q2, q3, q4, q5, q6, q7, q8] : List Nat).getD i 0) (fun i => ([k1, k1, k2, k3, k4, k5, k6, k7, k8] : List ClassId).getD i k1) zT) := hD
  have hK : va_K D vwCl (tyTs (fun i => ([k1, k1, k2, k3, k4, k5, k6, k7, k8] : List ClassId).getD i k1)) s := hK
  have hl : lv_has ls 2 [(0, .ref ((fun i => ([h0, q1, q2, q3, q4, q5, q6, q7, q8] : List Nat).getD i 0) 0)), (1, .int (nI 0))] := lv_sub hl [1, 0] rfl
  have hg0 : (fun i => ([h0, q1, q2, q3, q4, q5, q6, q7, q8] : List Nat).getD i 0) 0 = h0 := rfl
  generalize (fun i => ([h0, q1, q2, q3, q4, q5, q6, q7, q8] : List Nat).getD i 0) = G at hP hD hl hg0
  generalize (fun i => ([k1, k1, k2, k3, k4, k5, k6, k7, k8] : List ClassId).getD i k1) = kc at hP hD hK
  refine W.widen (k := 8) (n := 2204) (by omega) (by omega) ?_
  refine lp_T_initL hx hb hml hown hts hK hA zT ?_ 16 0 rfl _ _ _ _ rfl hP hD hS (lv_sub hl [1, 0] rfl)
  intro u1 H locs ls he hP hD hS hl
  refine lv_iconst (v := 0) hx hb d_T_init_87 (by decide) ?_
  refine lv_istore_n (lv' := [(1, .int (nI 0)), (0, .ref _)]) hx hb d_T_init_88 rfl hl (by decide) rfl (fun ls hl => ?_)
  refine lp_T_initR hx hb hml hown hts hK hA u1 ?_ 4 0 rfl _ _ _ _ rfl hP hD hS (lv_sub hl [0, 1] rfl)
  intro u2 H locs ls he2 hP hD hS hl
  have hu : u2 = startT := by rw [he2, he]; unfold startT; rfl
  clear he he2
  rw [hu] at hP hD
  exact W.vret hx hb hr (fun t ht hW => ⟨⟨(G, kc), rfl, hg0, by rw [ht]; exact hP, va_K.moved hW.alike hK, hD⟩, hS.F ht⟩) hS.2.2 d_T_init_107
def zM : TM := (fun _ => 0, fun _ => 0, fun _ => 0, fun _ => 0, fun _ => 0, fun _ => 0, fun _ => 0, fun _ => 0, fun _ => 0, 0)
def iML : Nat → Nat → TM → TM
  | 0, _, u => u
  | d + 1, i, u => iML d (i + 1) (nLn u (upd (mLn u) i (-1)))
def iMR : Nat → Nat → TM → TM
  | 0, _, u => u
  | d + 1, i, u => iMR d (i + 1) (nKr u (upd (mKr u) i (-1)))
def startM : TM := iMR 4 0 (iML 16 0 zM)
set_option maxHeartbeats 4000000 in
set_option maxRecDepth 100000 in
theorem lp_M_initL {p : Program} {l : Launch} {e : Env} {s : State} {m : MethodId} {args : Array Value} {below : List Frame} {meth : Method} {c : Code} {Q : State → Prop} {D : va_G} {A : Nat → Prop} {G : Nat → Nat} {kc : Nat → ClassId} {c1 : Cond} (hx : p.tables.exec = Jvm.exec) (hb : c.code = b_M_init) (hml : c.maxLocals = 2) (hown : s.vm.findClass "TagMemoryModel" = some m.cls) (hts : ∀ w ∈ c1 :: TB, w.before args s = true) (hK : va_K D vwCl (tyMs kc) s) (hA : ∀ q, s.heap.size ≤ q → A q) (u : TM) (kk : ∀ (u1 : TM) (H : Heap) (locs : List Loc) (ls : Array Slot), u1 = iML 16 0 u → va_P D vwCl (wM G kc u1) H → va_D A (wM G kc u1) → va_S A s.heap H locs → lv_has ls 2 [(1, .int (nI 16)), (0, .ref (G 0))] → W p l e ({ frames := 1, cells := 9, slots := 5228, locals := 12 }) s m args below meth c H locs 9 5228 Q (F0 m 97 ls [])) : ∀ (d i : Nat), i + d = 16 → ∀ (u1 : TM) (H : Heap) (locs : List Loc) (ls : Array Slot), iML d i u1 = iML 16 0 u → va_P D vwCl (wM G kc u1) H → va_D A (wM G kc u1) → va_S A s.heap H locs → lv_has ls 2 [(1, .int (nI i)), (0, .ref (G 0))] → W p l e ({ frames := 1, cells := 9, slots := 5228, locals := 12 }) s m args below meth c H locs 9 5228 Q (F0 m 78 ls []) := by
  intro d
  induction d with
  | zero =>
    intro i hi u1 H locs ls hu hP hD hS hl
    obtain rfl : i = 16 := by omega
    refine lv_iload_n hx hb d_M_init_78 rfl (lv_at hl 0 rfl) ?_
    refine lv_bipush (v := 16) hx hb d_M_init_79 (by decide) ?_
    refine lv_icmp_ge (tgt := 97) hx hb d_M_init_81 (by decide) (fun _ => ?_) (fun c9 => absurd (nI_le (a := 16) (b := 16) (by omega) (by omega)) c9)
    exact kk u1 H locs ls hu hP hD hS hl
  | succ d ih =>
    intro i hi u1 H locs ls hu hP hD hS hl
    have hin : i < 16 := by omega
    refine lv_iload_n hx hb d_M_init_78 rfl (lv_at hl 0 rfl) ?_
    refine lv_bipush (v := 16) hx hb d_M_init_79 (by decide) ?_
    refine lv_icmp_ge (tgt := 97) hx hb d_M_init_81 (by decide) (fun c9 => absurd c9 (nI_ge (a := i) (b := 16) (by omega) (by omega))) (fun _ => ?_)
    refine lv_aload_n hx hb d_M_init_84 rfl (lv_at hl 1 rfl) ?_
    refine xm_g4 hx hb hts hown hK hP d_M_init_85 ?_
    refine lv_iload_n hx hb d_M_init_88 rfl (lv_at hl 0 rfl) ?_
    refine lv_iconst (v := (-1)) hx hb d_M_init_89 (by decide) ?_
    refine xm_s4 hx hb hK hP hD hS i rfl (by omega) d_M_init_90 (fun H locs hP hD hS => ?_)
    refine lv_iinc (v := nI (i + 1)) (lv' := [(1, .int (nI (i + 1))), (0, .ref _)]) hx hb d_M_init_91 hl (k := 0) rfl (nI_add _ _) (by decide) rfl (fun ls hl => ?_)
    refine lv_goto (tgt := 78) hx hb d_M_init_94 (by decide) ?_
    exact ih (i + 1) (by omega) _ _ _ _ hu hP hD hS (lv_sub hl [0, 1] rfl)
set_option maxHeartbeats 4000000 in
set_option maxRecDepth 100000 in
theorem lp_M_initR {p : Program} {l : Launch} {e : Env} {s : State} {m : MethodId} {args : Array Value} {below : List Frame} {meth : Method} {c : Code} {Q : State → Prop} {D : va_G} {A : Nat → Prop} {G : Nat → Nat} {kc : Nat → ClassId} {c1 : Cond} (hx : p.tables.exec = Jvm.exec) (hb : c.code = b_M_init) (hml : c.maxLocals = 2) (hown : s.vm.findClass "TagMemoryModel" = some m.cls) (hts : ∀ w ∈ c1 :: TB, w.before args s = true) (hK : va_K D vwCl (tyMs kc) s) (hA : ∀ q, s.heap.size ≤ q → A q) (u : TM) (kk : ∀ (u1 : TM) (H : Heap) (locs : List Loc) (ls : Array Slot), u1 = iMR 4 0 u → va_P D vwCl (wM G kc u1) H → va_D A (wM G kc u1) → va_S A s.heap H locs → lv_has ls 2 [(1, .int (nI 4)), (0, .ref (G 0))] → W p l e ({ frames := 1, cells := 9, slots := 5228, locals := 12 }) s m args below meth c H locs 9 5228 Q (F0 m 117 ls [])) : ∀ (d i : Nat), i + d = 4 → ∀ (u1 : TM) (H : Heap) (locs : List Loc) (ls : Array Slot), iMR d i u1 = iMR 4 0 u → va_P D vwCl (wM G kc u1) H → va_D A (wM G kc u1) → va_S A s.heap H locs → lv_has ls 2 [(1, .int (nI i)), (0, .ref (G 0))] → W p l e ({ frames := 1, cells := 9, slots := 5228, locals := 12 }) s m args below meth c H locs 9 5228 Q (F0 m 99 ls []) := by
  intro d
  induction d with
  | zero =>
    intro i hi u1 H locs ls hu hP hD hS hl
    obtain rfl : i = 4 := by omega
    refine lv_iload_n hx hb d_M_init_99 rfl (lv_at hl 0 rfl) ?_
    refine lv_iconst (v := 4) hx hb d_M_init_100 (by decide) ?_
    refine lv_icmp_ge (tgt := 117) hx hb d_M_init_101 (by decide) (fun _ => ?_) (fun c9 => absurd (nI_le (a := 4) (b := 4) (by omega) (by omega)) c9)
    exact kk u1 H locs ls hu hP hD hS hl
  | succ d ih =>
    intro i hi u1 H locs ls hu hP hD hS hl
    have hin : i < 4 := by omega
    refine lv_iload_n hx hb d_M_init_99 rfl (lv_at hl 0 rfl) ?_
    refine lv_iconst (v := 4) hx hb d_M_init_100 (by decide) ?_
    refine lv_icmp_ge (tgt := 117) hx hb d_M_init_101 (by decide) (fun c9 => absurd c9 (nI_ge (a := i) (b := 4) (by omega) (by omega))) (fun _ => ?_)
    refine lv_aload_n hx hb d_M_init_104 rfl (lv_at hl 1 rfl) ?_
    refine xm_g6 hx hb hts hown hK hP d_M_init_105 ?_
    refine lv_iload_n hx hb d_M_init_108 rfl (lv_at hl 0 rfl) ?_
    refine lv_iconst (v := (-1)) hx hb d_M_init_109 (by decide) ?_
    refine xm_s6 hx hb hK hP hD hS i rfl (by omega) d_M_init_110 (fun H locs hP hD hS => ?_)
    refine lv_iinc (v := nI (i + 1)) (lv' := [(1, .int (nI (i + 1))), (0, .ref _)]) hx hb d_M_init_111 hl (k := 0) rfl (nI_add _ _) (by decide) rfl (fun ls hl => ?_)
    refine lv_goto (tgt := 99) hx hb d_M_init_114 (by decide) ?_
    exact ih (i + 1) (by omega) _ _ _ _ hu hP hD hS (lv_sub hl [0, 1] rfl)
set_option maxHeartbeats 4000000 in
set_option maxRecDepth 100000 in
theorem c_M_init (l : Launch) (D : va_G) (h0 sz : Nat) : Met l y_M_init (k_M_init :: TB) { frames := 1, cells := 9, slots := 5228, locals := 12 } (va_Pc [.ref h0] (fun U => U.heap.size = sz ∧ va_P D vwCl [(h0, .inr (1, [.null, .null, .null, .null, .null, .null, .null, .null, .null, .int 0]))] U.heap ∧ va_K D vwCl [] U ∧ va_D (fun _ => True) [(h0, .inr (1, [.null, .null, .null, .null, .null, .null, .null, .null, .null, .int 0]))])) (va_Qv (fun g : (Nat → Nat) × (Nat → ClassId) => g.1 0 = h0) (fun g t => va_P D vwCl (wM g.1 g.2 startM) t.heap ∧ va_K D vwCl (tyMs g.2) t ∧ va_D (va_A [(h0, .inr (1, [.null, .null, .null, .null, .null, .null, .null, .null, .null, .int 0]))] sz) (wM g.1 g.2 startM)) (va_A [(h0, .inr (1, [.null, .null, .null, .null, .null, .null, .null, .null, .null, .int 0]))] sz)) 9 5228 (va_A [(h0, .inr (1, [.null, .null, .null, .null, .null, .null, .null, .null, .null, .int 0]))] sz) := by
  refine Met.ofW (cc := b_M_init) (maxL := 2) (ret := none) (by decide) rfl ?_
  intro p e s m args below meth c s₁ B hml hv
  obtain ⟨rfl, hsz, hP, hK, hD0⟩ := hv
  have hx := B.exec
  have hb := B.bytes
  have hr := B.returns
  have hts := atoms_spec (ws := k_M_init :: TB) B.pre
  have hown : s.vm.findClass "TagMemoryModel" = some m.cls := findClass_of_methodNamed B.named
  have hlocks := B.notSynchronized
  have hin : meth.name = "<init>" := (name_of_methodNamed B.named B.method).1
  subst hsz
  have hD := hD0.self (sz := s.heap.size)
  generalize hAe : va_A [(h0, .inr (1, [.null, .null, .null, .null, .null, .null, .null, .null, .null, .int 0]))] s.heap.size = A at hD ⊢
  have hA : ∀ q : Nat, s.heap.size ≤ q → A q := fun q h => by rw [← hAe]; exact Or.inr h
  have hS : va_S A s.heap s.heap [] := va_S.rf
  have hl := lv_entry ([.ref h0]) (n := 2) (Nat.le_of_ble_eq_true rfl)
  rw [lg_entry_eq]
  generalize (lg_sl ([.ref h0]) ++ List.replicate (2 - (lg_sl ([.ref h0])).length) Slot.unset).toArray = ls at hl ⊢
  have hl : lv_has ls 2 [(0, .ref h0)] := hl
  refine lv_aload_n hx hb d_M_init_0 rfl (lv_at hl 0 rfl) ?_
  refine W.objInit hx hb hown (hts (Cond.methodLink "TagMemoryModel" 1 ⟨"java/lang/Object", "<init>", "()V"⟩) (List.mem_cons_of_mem _ wm_350)) (hts (Cond.instanceMethod ⟨"java/lang/Object", "<init>", "()V"⟩) (List.mem_cons_of_mem _ wm_16)) (hts (Cond.code ⟨"java/lang/Object", "<init>", "()V"⟩ object_method_1_code 1 none) (List.mem_cons_of_mem _ wm_17)) rfl (by rw [hml]; exact hl.1) rfl d_M_init_1 (Nat.le_of_ble_eq_true rfl) (Nat.le_of_ble_eq_true rfl) ?_
  refine W.eq (g2 := F0 m 4 ls []) rfl ?_
  refine lv_aload_n hx hb d_M_init_4 rfl (lv_at hl 0 rfl) ?_
  refine lv_sipush (v := 2048) hx hb d_M_init_5 (by decide) ?_
  refine va_newa (atype := .int) (ty := .int) (N' := 2048) (a0 := (2048, .inl (fun _ => 0))) hx hb (hts (Cond.arrayClass .int) (List.mem_cons_of_mem _ wm_55)) rfl hK hP hD hS hA (ini_I 2048) (by decide) (nI_clamp (n := 2048) (by decide)) (by show 2048 * 4 ≤ 536870912; omega) (by show _ ≤ 9; omega) (by show _ ≤ 5228; omega) d_M_init_8 (fun q1 k1 H hK hP hD hS => ?_)
  have hP : va_P D vwCl [(h0, .inr (1, [.null, .null, .null, .null, .null, .null, .null, .null, .null, .int 0])), (q1, .inl (k1, 2048, .inl (fun _ => 0)))] H := hP
  have hD : va_D A [(h0, .inr (1, [.null, .null, .null, .null, .null, .null, .null, .null, .null, .int 0])), (q1, .inl (k1, 2048, .inl (fun _ => 0)))] := hD
  have hK : va_K D vwCl [(k1, .int)] s := hK
  refine va_putF (D := D) (ci := 1) (v := .ref q1) (ty := .array .int) (C := RM) (T := FM) (N := 10) hx hb hts insM tyM tyM_ok nmM hown hK hP hD hS 0 rfl rfl 0 (by decide) (hts (Cond.fieldLink "TagMemoryModel" 7 "TagMemoryModel" "word" "[I") (List.mem_cons_of_mem _ wm_351)) (fun _ h9 => h9) rfl hin rfl (by decide +kernel) rfl rfl (Nat.le_of_ble_eq_true rfl) d_M_init_10 (fun H locs hP hD hS => ?_)
  have hP : va_P D vwCl [(h0, .inr (1, [.ref q1, .null, .null, .null, .null, .null, .null, .null, .null, .int 0])), (q1, .inl (k1, 2048, .inl (fun _ => 0)))] H := hP
  have hD : va_D A [(h0, .inr (1, [.ref q1, .null, .null, .null, .null, .null, .null, .null, .null, .int 0])), (q1, .inl (k1, 2048, .inl (fun _ => 0)))] := hD
  have hK : va_K D vwCl [(k1, .int)] s := hK
  refine lv_aload_n hx hb d_M_init_13 rfl (lv_at hl 0 rfl) ?_
  refine lv_sipush (v := 1024) hx hb d_M_init_14 (by decide) ?_
  refine va_newa (atype := .boolean) (ty := .boolean) (N' := 1024) (a0 := (1024, .inl (fun _ => 0))) hx hb (hts (Cond.arrayClass .boolean) (List.mem_cons_of_mem _ wm_56)) rfl hK hP hD hS hA (ini_Z 1024) (by decide) (nI_clamp (n := 1024) (by decide)) (by show 1024 * 1 ≤ 536870912; omega) (by show _ ≤ 9; omega) (by show _ ≤ 5228; omega) d_M_init_17 (fun q2 k2 H hK hP hD hS => ?_)
  have hP : va_P D vwCl [(h0, .inr (1, [.ref q1, .null, .null, .null, .null, .null, .null, .null, .null, .int 0])), (q1, .inl (k1, 2048, .inl (fun _ => 0))), (q2, .inl (k2, 1024, .inl (fun _ => 0)))] H := hP
  have hD : va_D A [(h0, .inr (1, [.ref q1, .null, .null, .null, .null, .null, .null, .null, .null, .int 0])), (q1, .inl (k1, 2048, .inl (fun _ => 0))), (q2, .inl (k2, 1024, .inl (fun _ => 0)))] := hD
  have hK : va_K D vwCl [(k1, .int), (k2, .boolean)] s := hK
  refine va_putF (D := D) (ci := 1) (v := .ref q2) (ty := .array .boolean) (C := RM) (T := FM) (N := 10) hx hb hts insM tyM tyM_ok nmM hown hK hP hD hS 0 rfl rfl 1 (by decide) (hts (Cond.fieldLink "TagMemoryModel" 13 "TagMemoryModel" "tagged" "[Z") (List.mem_cons_of_mem _ wm_352)) (fun _ h9 => h9) rfl hin rfl (by decide +kernel) rfl rfl (Nat.le_of_ble_eq_true rfl) d_M_init_19 (fun H locs hP hD hS => ?_)
  have hP : va_P D vwCl [(h0, .inr (1, [.ref q1, .ref q2, .null, .null, .null, .null, .null, .null, .null, .int 0])), (q1, .inl (k1, 2048, .inl (fun _ => 0))), (q2, .inl (k2, 1024, .inl (fun _ => 0)))] H := hP
  have hD : va_D A [(h0, .inr (1, [.ref q1, .ref q2, .null, .null, .null, .null, .null, .null, .null, .int 0])), (q1, .inl (k1, 2048, .inl (fun _ => 0))), (q2, .inl (k2, 1024, .inl (fun _ => 0)))] := hD
  have hK : va_K D vwCl [(k1, .int), (k2, .boolean)] s := hK
  refine lv_aload_n hx hb d_M_init_22 rfl (lv_at hl 0 rfl) ?_
  refine lv_sipush (v := 2080) hx hb d_M_init_23 (by decide) ?_
  refine va_newa (atype := .int) (ty := .int) (N' := 2080) (a0 := (2080, .inl (fun _ => 0))) hx hb (hts (Cond.arrayClass .int) (List.mem_cons_of_mem _ wm_55)) rfl hK hP hD hS hA (ini_I 2080) (by decide) (nI_clamp (n := 2080) (by decide)) (by show 2080 * 4 ≤ 536870912; omega) (by show _ ≤ 9; omega) (by show _ ≤ 5228; omega) d_M_init_26 (fun q3 k3 H hK hP hD hS => ?_)
  have hP : va_P D vwCl [(h0, .inr (1, [.ref q1, .ref q2, .null, .null, .null, .null, .null, .null, .null, .int 0])), (q1, .inl (k1, 2048, .inl (fun _ => 0))), (q2, .inl (k2, 1024, .inl (fun _ => 0))), (q3, .inl (k3, 2080, .inl (fun _ => 0)))] H := hP
  have hD : va_D A [(h0, .inr (1, [.ref q1, .ref q2, .null, .null, .null, .null, .null, .null, .null, .int 0])), (q1, .inl (k1, 2048, .inl (fun _ => 0))), (q2, .inl (k2, 1024, .inl (fun _ => 0))), (q3, .inl (k3, 2080, .inl (fun _ => 0)))] := hD
  have hK : va_K D vwCl [(k1, .int), (k2, .boolean), (k3, .int)] s := hK
  refine va_putF (D := D) (ci := 1) (v := .ref q3) (ty := .array .int) (C := RM) (T := FM) (N := 10) hx hb hts insM tyM tyM_ok nmM hown hK hP hD hS 0 rfl rfl 2 (by decide) (hts (Cond.fieldLink "TagMemoryModel" 17 "TagMemoryModel" "store" "[I") (List.mem_cons_of_mem _ wm_353)) (fun _ h9 => h9) rfl hin rfl (by decide +kernel) rfl rfl (Nat.le_of_ble_eq_true rfl) d_M_init_28 (fun H locs hP hD hS => ?_)
  have hP : va_P D vwCl [(h0, .inr (1, [.ref q1, .ref q2, .ref q3, .null, .null, .null, .null, .null, .null, .int 0])), (q1, .inl (k1, 2048, .inl (fun _ => 0))), (q2, .inl (k2, 1024, .inl (fun _ => 0))), (q3, .inl (k3, 2080, .inl (fun _ => 0)))] H := hP
  have hD : va_D A [(h0, .inr (1, [.ref q1, .ref q2, .ref q3, .null, .null, .null, .null, .null, .null, .int 0])), (q1, .inl (k1, 2048, .inl (fun _ => 0))), (q2, .inl (k2, 1024, .inl (fun _ => 0))), (q3, .inl (k3, 2080, .inl (fun _ => 0)))] := hD
  have hK : va_K D vwCl [(k1, .int), (k2, .boolean), (k3, .int)] s := hK
  refine lv_aload_n hx hb d_M_init_31 rfl (lv_at hl 0 rfl) ?_
  refine lv_bipush (v := 32) hx hb d_M_init_32 (by decide) ?_
  refine va_newa (atype := .int) (ty := .int) (N' := 32) (a0 := (32, .inl (fun _ => 0))) hx hb (hts (Cond.arrayClass .int) (List.mem_cons_of_mem _ wm_55)) rfl hK hP hD hS hA (ini_I 32) (by decide) (nI_clamp (n := 32) (by decide)) (by show 32 * 4 ≤ 536870912; omega) (by show _ ≤ 9; omega) (by show _ ≤ 5228; omega) d_M_init_34 (fun q4 k4 H hK hP hD hS => ?_)
  have hP : va_P D vwCl [(h0, .inr (1, [.ref q1, .ref q2, .ref q3, .null, .null, .null, .null, .null, .null, .int 0])), (q1, .inl (k1, 2048, .inl (fun _ => 0))), (q2, .inl (k2, 1024, .inl (fun _ => 0))), (q3, .inl (k3, 2080, .inl (fun _ => 0))), (q4, .inl (k4, 32, .inl (fun _ => 0)))] H := hP
  have hD : va_D A [(h0, .inr (1, [.ref q1, .ref q2, .ref q3, .null, .null, .null, .null, .null, .null, .int 0])), (q1, .inl (k1, 2048, .inl (fun _ => 0))), (q2, .inl (k2, 1024, .inl (fun _ => 0))), (q3, .inl (k3, 2080, .inl (fun _ => 0))), (q4, .inl (k4, 32, .inl (fun _ => 0)))] := hD
  have hK : va_K D vwCl [(k1, .int), (k2, .boolean), (k3, .int), (k4, .int)] s := hK
  refine va_putF (D := D) (ci := 1) (v := .ref q4) (ty := .array .int) (C := RM) (T := FM) (N := 10) hx hb hts insM tyM tyM_ok nmM hown hK hP hD hS 0 rfl rfl 3 (by decide) (hts (Cond.fieldLink "TagMemoryModel" 20 "TagMemoryModel" "row" "[I") (List.mem_cons_of_mem _ wm_354)) (fun _ h9 => h9) rfl hin rfl (by decide +kernel) rfl rfl (Nat.le_of_ble_eq_true rfl) d_M_init_36 (fun H locs hP hD hS => ?_)
  have hP : va_P D vwCl [(h0, .inr (1, [.ref q1, .ref q2, .ref q3, .ref q4, .null, .null, .null, .null, .null, .int 0])), (q1, .inl (k1, 2048, .inl (fun _ => 0))), (q2, .inl (k2, 1024, .inl (fun _ => 0))), (q3, .inl (k3, 2080, .inl (fun _ => 0))), (q4, .inl (k4, 32, .inl (fun _ => 0)))] H := hP
  have hD : va_D A [(h0, .inr (1, [.ref q1, .ref q2, .ref q3, .ref q4, .null, .null, .null, .null, .null, .int 0])), (q1, .inl (k1, 2048, .inl (fun _ => 0))), (q2, .inl (k2, 1024, .inl (fun _ => 0))), (q3, .inl (k3, 2080, .inl (fun _ => 0))), (q4, .inl (k4, 32, .inl (fun _ => 0)))] := hD
  have hK : va_K D vwCl [(k1, .int), (k2, .boolean), (k3, .int), (k4, .int)] s := hK
  refine lv_aload_n hx hb d_M_init_39 rfl (lv_at hl 0 rfl) ?_
  refine lv_bipush (v := 16) hx hb d_M_init_40 (by decide) ?_
  refine va_newa (atype := .int) (ty := .int) (N' := 16) (a0 := (16, .inl (fun _ => 0))) hx hb (hts (Cond.arrayClass .int) (List.mem_cons_of_mem _ wm_55)) rfl hK hP hD hS hA (ini_I 16) (by decide) (nI_clamp (n := 16) (by decide)) (by show 16 * 4 ≤ 536870912; omega) (by show _ ≤ 9; omega) (by show _ ≤ 5228; omega) d_M_init_42 (fun q5 k5 H hK hP hD hS => ?_)
  have hP : va_P D vwCl [(h0, .inr (1, [.ref q1, .ref q2, .ref q3, .ref q4, .null, .null, .null, .null, .null, .int 0])), (q1, .inl (k1, 2048, .inl (fun _ => 0))), (q2, .inl (k2, 1024, .inl (fun _ => 0))), (q3, .inl (k3, 2080, .inl (fun _ => 0))), (q4, .inl (k4, 32, .inl (fun _ => 0))), (q5, .inl (k5, 16, .inl (fun _ => 0)))] H := hP
  have hD : va_D A [(h0, .inr (1, [.ref q1, .ref q2, .ref q3, .ref q4, .null, .null, .null, .null, .null, .int 0])), (q1, .inl (k1, 2048, .inl (fun _ => 0))), (q2, .inl (k2, 1024, .inl (fun _ => 0))), (q3, .inl (k3, 2080, .inl (fun _ => 0))), (q4, .inl (k4, 32, .inl (fun _ => 0))), (q5, .inl (k5, 16, .inl (fun _ => 0)))] := hD
  have hK : va_K D vwCl [(k1, .int), (k2, .boolean), (k3, .int), (k4, .int), (k5, .int)] s := hK
  refine va_putF (D := D) (ci := 1) (v := .ref q5) (ty := .array .int) (C := RM) (T := FM) (N := 10) hx hb hts insM tyM tyM_ok nmM hown hK hP hD hS 0 rfl rfl 4 (by decide) (hts (Cond.fieldLink "TagMemoryModel" 23 "TagMemoryModel" "line" "[I") (List.mem_cons_of_mem _ wm_355)) (fun _ h9 => h9) rfl hin rfl (by decide +kernel) rfl rfl (Nat.le_of_ble_eq_true rfl) d_M_init_44 (fun H locs hP hD hS => ?_)
  have hP : va_P D vwCl [(h0, .inr (1, [.ref q1, .ref q2, .ref q3, .ref q4, .ref q5, .null, .null, .null, .null, .int 0])), (q1, .inl (k1, 2048, .inl (fun _ => 0))), (q2, .inl (k2, 1024, .inl (fun _ => 0))), (q3, .inl (k3, 2080, .inl (fun _ => 0))), (q4, .inl (k4, 32, .inl (fun _ => 0))), (q5, .inl (k5, 16, .inl (fun _ => 0)))] H := hP
  have hD : va_D A [(h0, .inr (1, [.ref q1, .ref q2, .ref q3, .ref q4, .ref q5, .null, .null, .null, .null, .int 0])), (q1, .inl (k1, 2048, .inl (fun _ => 0))), (q2, .inl (k2, 1024, .inl (fun _ => 0))), (q3, .inl (k3, 2080, .inl (fun _ => 0))), (q4, .inl (k4, 32, .inl (fun _ => 0))), (q5, .inl (k5, 16, .inl (fun _ => 0)))] := hD
  have hK : va_K D vwCl [(k1, .int), (k2, .boolean), (k3, .int), (k4, .int), (k5, .int)] s := hK
  refine lv_aload_n hx hb d_M_init_47 rfl (lv_at hl 0 rfl) ?_
  refine lv_bipush (v := 16) hx hb d_M_init_48 (by decide) ?_
  refine va_newa (atype := .boolean) (ty := .boolean) (N' := 16) (a0 := (16, .inl (fun _ => 0))) hx hb (hts (Cond.arrayClass .boolean) (List.mem_cons_of_mem _ wm_56)) rfl hK hP hD hS hA (ini_Z 16) (by decide) (nI_clamp (n := 16) (by decide)) (by show 16 * 1 ≤ 536870912; omega) (by show _ ≤ 9; omega) (by show _ ≤ 5228; omega) d_M_init_50 (fun q6 k6 H hK hP hD hS => ?_)
  have hP : va_P D vwCl [(h0, .inr (1, [.ref q1, .ref q2, .ref q3, .ref q4, .ref q5, .null, .null, .null, .null, .int 0])), (q1, .inl (k1, 2048, .inl (fun _ => 0))), (q2, .inl (k2, 1024, .inl (fun _ => 0))), (q3, .inl (k3, 2080, .inl (fun _ => 0))), (q4, .inl (k4, 32, .inl (fun _ => 0))), (q5, .inl (k5, 16, .inl (fun _ => 0))), (q6, .inl (k6, 16, .inl (fun _ => 0)))] H := hP
  have hD : va_D A [(h0, .inr (1, [.ref q1, .ref q2, .ref q3, .ref q4, .ref q5, .null, .null, .null, .null, .int 0])), (q1, .inl (k1, 2048, .inl (fun _ => 0))), (q2, .inl (k2, 1024, .inl (fun _ => 0))), (q3, .inl (k3, 2080, .inl (fun _ => 0))), (q4, .inl (k4, 32, .inl (fun _ => 0))), (q5, .inl (k5, 16, .inl (fun _ => 0))), (q6, .inl (k6, 16, .inl (fun _ => 0)))] := hD
  have hK : va_K D vwCl [(k1, .int), (k2, .boolean), (k3, .int), (k4, .int), (k5, .int), (k6, .boolean)] s := hK
  refine va_putF (D := D) (ci := 1) (v := .ref q6) (ty := .array .boolean) (C := RM) (T := FM) (N := 10) hx hb hts insM tyM tyM_ok nmM hown hK hP hD hS 0 rfl rfl 5 (by decide) (hts (Cond.fieldLink "TagMemoryModel" 26 "TagMemoryModel" "lineChanged" "[Z") (List.mem_cons_of_mem _ wm_356)) (fun _ h9 => h9) rfl hin rfl (by decide +kernel) rfl rfl (Nat.le_of_ble_eq_true rfl) d_M_init_52 (fun H locs hP hD hS => ?_)
  have hP : va_P D vwCl [(h0, .inr (1, [.ref q1, .ref q2, .ref q3, .ref q4, .ref q5, .ref q6, .null, .null, .null, .int 0])), (q1, .inl (k1, 2048, .inl (fun _ => 0))), (q2, .inl (k2, 1024, .inl (fun _ => 0))), (q3, .inl (k3, 2080, .inl (fun _ => 0))), (q4, .inl (k4, 32, .inl (fun _ => 0))), (q5, .inl (k5, 16, .inl (fun _ => 0))), (q6, .inl (k6, 16, .inl (fun _ => 0)))] H := hP
  have hD : va_D A [(h0, .inr (1, [.ref q1, .ref q2, .ref q3, .ref q4, .ref q5, .ref q6, .null, .null, .null, .int 0])), (q1, .inl (k1, 2048, .inl (fun _ => 0))), (q2, .inl (k2, 1024, .inl (fun _ => 0))), (q3, .inl (k3, 2080, .inl (fun _ => 0))), (q4, .inl (k4, 32, .inl (fun _ => 0))), (q5, .inl (k5, 16, .inl (fun _ => 0))), (q6, .inl (k6, 16, .inl (fun _ => 0)))] := hD
  have hK : va_K D vwCl [(k1, .int), (k2, .boolean), (k3, .int), (k4, .int), (k5, .int), (k6, .boolean)] s := hK
  refine lv_aload_n hx hb d_M_init_55 rfl (lv_at hl 0 rfl) ?_
  refine lv_iconst (v := 4) hx hb d_M_init_56 (by decide) ?_
  refine va_newa (atype := .int) (ty := .int) (N' := 4) (a0 := (4, .inl (fun _ => 0))) hx hb (hts (Cond.arrayClass .int) (List.mem_cons_of_mem _ wm_55)) rfl hK hP hD hS hA (ini_I 4) (by decide) (nI_clamp (n := 4) (by decide)) (by show 4 * 4 ≤ 536870912; omega) (by show _ ≤ 9; omega) (by show _ ≤ 5228; omega) d_M_init_57 (fun q7 k7 H hK hP hD hS => ?_)
  have hP : va_P D vwCl [(h0, .inr (1, [.ref q1, .ref q2, .ref q3, .ref q4, .ref q5, .ref q6, .null, .null, .null, .int 0])), (q1, .inl (k1, 2048, .inl (fun _ => 0))), (q2, .inl (k2, 1024, .inl (fun _ => 0))), (q3, .inl (k3, 2080, .inl (fun _ => 0))), (q4, .inl (k4, 32, .inl (fun _ => 0))), (q5, .inl (k5, 16, .inl (fun _ => 0))), (q6, .inl (k6, 16, .inl (fun _ => 0))), (q7, .inl (k7, 4, .inl (fun _ => 0)))] H := hP
  have hD : va_D A [(h0, .inr (1, [.ref q1, .ref q2, .ref q3, .ref q4, .ref q5, .ref q6, .null, .null, .null, .int 0])), (q1, .inl (k1, 2048, .inl (fun _ => 0))), (q2, .inl (k2, 1024, .inl (fun _ => 0))), (q3, .inl (k3, 2080, .inl (fun _ => 0))), (q4, .inl (k4, 32, .inl (fun _ => 0))), (q5, .inl (k5, 16, .inl (fun _ => 0))), (q6, .inl (k6, 16, .inl (fun _ => 0))), (q7, .inl (k7, 4, .inl (fun _ => 0)))] := hD
  have hK : va_K D vwCl [(k1, .int), (k2, .boolean), (k3, .int), (k4, .int), (k5, .int), (k6, .boolean), (k7, .int)] s := hK
  refine va_putF (D := D) (ci := 1) (v := .ref q7) (ty := .array .int) (C := RM) (T := FM) (N := 10) hx hb hts insM tyM tyM_ok nmM hown hK hP hD hS 0 rfl rfl 6 (by decide) (hts (Cond.fieldLink "TagMemoryModel" 29 "TagMemoryModel" "keptRow" "[I") (List.mem_cons_of_mem _ wm_357)) (fun _ h9 => h9) rfl hin rfl (by decide +kernel) rfl rfl (Nat.le_of_ble_eq_true rfl) d_M_init_59 (fun H locs hP hD hS => ?_)
  have hP : va_P D vwCl [(h0, .inr (1, [.ref q1, .ref q2, .ref q3, .ref q4, .ref q5, .ref q6, .ref q7, .null, .null, .int 0])), (q1, .inl (k1, 2048, .inl (fun _ => 0))), (q2, .inl (k2, 1024, .inl (fun _ => 0))), (q3, .inl (k3, 2080, .inl (fun _ => 0))), (q4, .inl (k4, 32, .inl (fun _ => 0))), (q5, .inl (k5, 16, .inl (fun _ => 0))), (q6, .inl (k6, 16, .inl (fun _ => 0))), (q7, .inl (k7, 4, .inl (fun _ => 0)))] H := hP
  have hD : va_D A [(h0, .inr (1, [.ref q1, .ref q2, .ref q3, .ref q4, .ref q5, .ref q6, .ref q7, .null, .null, .int 0])), (q1, .inl (k1, 2048, .inl (fun _ => 0))), (q2, .inl (k2, 1024, .inl (fun _ => 0))), (q3, .inl (k3, 2080, .inl (fun _ => 0))), (q4, .inl (k4, 32, .inl (fun _ => 0))), (q5, .inl (k5, 16, .inl (fun _ => 0))), (q6, .inl (k6, 16, .inl (fun _ => 0))), (q7, .inl (k7, 4, .inl (fun _ => 0)))] := hD
  have hK : va_K D vwCl [(k1, .int), (k2, .boolean), (k3, .int), (k4, .int), (k5, .int), (k6, .boolean), (k7, .int)] s := hK
  refine lv_aload_n hx hb d_M_init_62 rfl (lv_at hl 0 rfl) ?_
  refine lv_iconst (v := 4) hx hb d_M_init_63 (by decide) ?_
  refine va_newa (atype := .boolean) (ty := .boolean) (N' := 4) (a0 := (4, .inl (fun _ => 0))) hx hb (hts (Cond.arrayClass .boolean) (List.mem_cons_of_mem _ wm_56)) rfl hK hP hD hS hA (ini_Z 4) (by decide) (nI_clamp (n := 4) (by decide)) (by show 4 * 1 ≤ 536870912; omega) (by show _ ≤ 9; omega) (by show _ ≤ 5228; omega) d_M_init_64 (fun q8 k8 H hK hP hD hS => ?_)
  have hP : va_P D vwCl [(h0, .inr (1, [.ref q1, .ref q2, .ref q3, .ref q4, .ref q5, .ref q6, .ref q7, .null, .null, .int 0])), (q1, .inl (k1, 2048, .inl (fun _ => 0))), (q2, .inl (k2, 1024, .inl (fun _ => 0))), (q3, .inl (k3, 2080, .inl (fun _ => 0))), (q4, .inl (k4, 32, .inl (fun _ => 0))), (q5, .inl (k5, 16, .inl (fun _ => 0))), (q6, .inl (k6, 16, .inl (fun _ => 0))), (q7, .inl (k7, 4, .inl (fun _ => 0))), (q8, .inl (k8, 4, .inl (fun _ => 0)))] H := hP
  have hD : va_D A [(h0, .inr (1, [.ref q1, .ref q2, .ref q3, .ref q4, .ref q5, .ref q6, .ref q7, .null, .null, .int 0])), (q1, .inl (k1, 2048, .inl (fun _ => 0))), (q2, .inl (k2, 1024, .inl (fun _ => 0))), (q3, .inl (k3, 2080, .inl (fun _ => 0))), (q4, .inl (k4, 32, .inl (fun _ => 0))), (q5, .inl (k5, 16, .inl (fun _ => 0))), (q6, .inl (k6, 16, .inl (fun _ => 0))), (q7, .inl (k7, 4, .inl (fun _ => 0))), (q8, .inl (k8, 4, .inl (fun _ => 0)))] := hD
  have hK : va_K D vwCl [(k1, .int), (k2, .boolean), (k3, .int), (k4, .int), (k5, .int), (k6, .boolean), (k7, .int), (k8, .boolean)] s := hK
  refine va_putF (D := D) (ci := 1) (v := .ref q8) (ty := .array .boolean) (C := RM) (T := FM) (N := 10) hx hb hts insM tyM tyM_ok nmM hown hK hP hD hS 0 rfl rfl 7 (by decide) (hts (Cond.fieldLink "TagMemoryModel" 32 "TagMemoryModel" "rowChanged" "[Z") (List.mem_cons_of_mem _ wm_358)) (fun _ h9 => h9) rfl hin rfl (by decide +kernel) rfl rfl (Nat.le_of_ble_eq_true rfl) d_M_init_66 (fun H locs hP hD hS => ?_)
  have hP : va_P D vwCl [(h0, .inr (1, [.ref q1, .ref q2, .ref q3, .ref q4, .ref q5, .ref q6, .ref q7, .ref q8, .null, .int 0])), (q1, .inl (k1, 2048, .inl (fun _ => 0))), (q2, .inl (k2, 1024, .inl (fun _ => 0))), (q3, .inl (k3, 2080, .inl (fun _ => 0))), (q4, .inl (k4, 32, .inl (fun _ => 0))), (q5, .inl (k5, 16, .inl (fun _ => 0))), (q6, .inl (k6, 16, .inl (fun _ => 0))), (q7, .inl (k7, 4, .inl (fun _ => 0))), (q8, .inl (k8, 4, .inl (fun _ => 0)))] H := hP
  have hD : va_D A [(h0, .inr (1, [.ref q1, .ref q2, .ref q3, .ref q4, .ref q5, .ref q6, .ref q7, .ref q8, .null, .int 0])), (q1, .inl (k1, 2048, .inl (fun _ => 0))), (q2, .inl (k2, 1024, .inl (fun _ => 0))), (q3, .inl (k3, 2080, .inl (fun _ => 0))), (q4, .inl (k4, 32, .inl (fun _ => 0))), (q5, .inl (k5, 16, .inl (fun _ => 0))), (q6, .inl (k6, 16, .inl (fun _ => 0))), (q7, .inl (k7, 4, .inl (fun _ => 0))), (q8, .inl (k8, 4, .inl (fun _ => 0)))] := hD
  have hK : va_K D vwCl [(k1, .int), (k2, .boolean), (k3, .int), (k4, .int), (k5, .int), (k6, .boolean), (k7, .int), (k8, .boolean)] s := hK
  refine lv_aload_n hx hb d_M_init_69 rfl (lv_at hl 0 rfl) ?_
  refine lv_iconst (v := 4) hx hb d_M_init_70 (by decide) ?_
  refine va_newa (atype := .int) (ty := .int) (N' := 4) (a0 := (4, .inl (fun _ => 0))) hx hb (hts (Cond.arrayClass .int) (List.mem_cons_of_mem _ wm_55)) rfl hK hP hD hS hA (ini_I 4) (by decide) (nI_clamp (n := 4) (by decide)) (by show 4 * 4 ≤ 536870912; omega) (by show _ ≤ 9; omega) (by show _ ≤ 5228; omega) d_M_init_71 (fun q9 k9 H hK hP hD hS => ?_)
  have hP : va_P D vwCl [(h0, .inr (1, [.ref q1, .ref q2, .ref q3, .ref q4, .ref q5, .ref q6, .ref q7, .ref q8, .null, .int 0])), (q1, .inl (k1, 2048, .inl (fun _ => 0))), (q2, .inl (k2, 1024, .inl (fun _ => 0))), (q3, .inl (k3, 2080, .inl (fun _ => 0))), (q4, .inl (k4, 32, .inl (fun _ => 0))), (q5, .inl (k5, 16, .inl (fun _ => 0))), (q6, .inl (k6, 16, .inl (fun _ => 0))), (q7, .inl (k7, 4, .inl (fun _ => 0))), (q8, .inl (k8, 4, .inl (fun _ => 0))), (q9, .inl (k9, 4, .inl (fun _ => 0)))] H := hP
  have hD : va_D A [(h0, .inr (1, [.ref q1, .ref q2, .ref q3, .ref q4, .ref q5, .ref q6, .ref q7, .ref q8, .null, .int 0])), (q1, .inl (k1, 2048, .inl (fun _ => 0))), (q2, .inl (k2, 1024, .inl (fun _ => 0))), (q3, .inl (k3, 2080, .inl (fun _ => 0))), (q4, .inl (k4, 32, .inl (fun _ => 0))), (q5, .inl (k5, 16, .inl (fun _ => 0))), (q6, .inl (k6, 16, .inl (fun _ => 0))), (q7, .inl (k7, 4, .inl (fun _ => 0))), (q8, .inl (k8, 4, .inl (fun _ => 0))), (q9, .inl (k9, 4, .inl (fun _ => 0)))] := hD
  have hK : va_K D vwCl [(k1, .int), (k2, .boolean), (k3, .int), (k4, .int), (k5, .int), (k6, .boolean), (k7, .int), (k8, .boolean), (k9, .int)] s := hK
  refine va_putF (D := D) (ci := 1) (v := .ref q9) (ty := .array .int) (C := RM) (T := FM) (N := 10) hx hb hts insM tyM tyM_ok nmM hown hK hP hD hS 0 rfl rfl 8 (by decide) (hts (Cond.fieldLink "TagMemoryModel" 35 "TagMemoryModel" "counts" "[I") (List.mem_cons_of_mem _ wm_359)) (fun _ h9 => h9) rfl hin rfl (by decide +kernel) rfl rfl (Nat.le_of_ble_eq_true rfl) d_M_init_73 (fun H locs hP hD hS => ?_)
  have hP : va_P D vwCl [(h0, .inr (1, [.ref q1, .ref q2, .ref q3, .ref q4, .ref q5, .ref q6, .ref q7, .ref q8, .ref q9, .int 0])), (q1, .inl (k1, 2048, .inl (fun _ => 0))), (q2, .inl (k2, 1024, .inl (fun _ => 0))), (q3, .inl (k3, 2080, .inl (fun _ => 0))), (q4, .inl (k4, 32, .inl (fun _ => 0))), (q5, .inl (k5, 16, .inl (fun _ => 0))), (q6, .inl (k6, 16, .inl (fun _ => 0))), (q7, .inl (k7, 4, .inl (fun _ => 0))), (q8, .inl (k8, 4, .inl (fun _ => 0))), (q9, .inl (k9, 4, .inl (fun _ => 0)))] H := hP
  have hD : va_D A [(h0, .inr (1, [.ref q1, .ref q2, .ref q3, .ref q4, .ref q5, .ref q6, .ref q7, .ref q8, .ref q9, .int 0])), (q1, .inl (k1, 2048, .inl (fun _ => 0))), (q2, .inl (k2, 1024, .inl (fun _ => 0))), (q3, .inl (k3, 2080, .inl (fun _ => 0))), (q4, .inl (k4, 32, .inl (fun _ => 0))), (q5, .inl (k5, 16, .inl (fun _ => 0))), (q6, .inl (k6, 16, .inl (fun _ => 0))), (q7, .inl (k7, 4, .inl (fun _ => 0))), (q8, .inl (k8, 4, .inl (fun _ => 0))), (q9, .inl (k9, 4, .inl (fun _ => 0)))] := hD
  have hK : va_K D vwCl [(k1, .int), (k2, .boolean), (k3, .int), (k4, .int), (k5, .int), (k6, .boolean), (k7, .int), (k8, .boolean), (k9, .int)] s := hK
  refine lv_iconst (v := 0) hx hb d_M_init_76 (by decide) ?_
  refine lv_istore_n (lv' := [(1, .int (nI 0)), (0, .ref _)]) hx hb d_M_init_77 rfl hl (by decide) rfl (fun ls hl => ?_)
  have hP : va_P D vwCl (wM (fun i => ([h0, q1, q2, q3, q4, q5, q6, q7, q8, q9] : List Nat).getD i 0) (fun i => ([k1, k1, k2, k3, k4, k5, k6, k7, k8, k9] : List ClassId).getD i k1) zM) H := hP
  have hD : va_D A (wM (fun i => ([h0, q1, q2, q3, q4, q5, q6, q7, q8, q9] : List Nat).getD i 0) (fun i => ([k1, k1, k2, k3, k4, k5, k6, k7, k8, k9] : List ClassId).getD i k1) zM) := hD
  have hK : va_K D vwCl (tyMs (fun i => ([k1, k1, k2, k3, k4, k5, k6, k7, k8, k9] : List ClassId).getD i k1)) s := hK
  have hl : lv_has ls 2 [(0, .ref ((fun i => ([h0, q1, q2, q3, q4, q5, q6, q7, q8, q9] : List Nat).getD i 0) 0)), (1, .int (nI 0))] := lv_sub hl [1, 0] rfl
  have hg0 : (fun i => ([h0, q1, q2, q3, q4, q5, q6, q7, q8, q9] : List Nat).getD i 0) 0 = h0 := rfl
  generalize (fun i => ([h0, q1, q2, q3, q4, q5, q6, q7, q8, q9] : List Nat).getD i 0) = G at hP hD hl hg0
  generalize (fun i => ([k1, k1, k2, k3, k4, k5, k6, k7, k8, k9] : List ClassId).getD i k1) = kc at hP hD hK
  refine W.widen (k := 9) (n := 5228) (by omega) (by omega) ?_
  refine lp_M_initL hx hb hml hown hts hK hA zM ?_ 16 0 rfl _ _ _ _ rfl hP hD hS (lv_sub hl [1, 0] rfl)
  intro u1 H locs ls he hP hD hS hl
  refine lv_iconst (v := 0) hx hb d_M_init_97 (by decide) ?_
  refine lv_istore_n (lv' := [(1, .int (nI 0)), (0, .ref _)]) hx hb d_M_init_98 rfl hl (by decide) rfl (fun ls hl => ?_)
  refine lp_M_initR hx hb hml hown hts hK hA u1 ?_ 4 0 rfl _ _ _ _ rfl hP hD hS (lv_sub hl [0, 1] rfl)
  intro u2 H locs ls he2 hP hD hS hl
  have hu : u2 = startM := by rw [he2, he]; unfold startM; rfl
  clear he he2
  rw [hu] at hP hD
  exact W.vret hx hb hr (fun t ht hW => ⟨⟨(G, kc), rfl, hg0, by rw [ht]; exact hP, va_K.moved hW.alike hK, hD⟩, hS.F ht⟩) hS.2.2 d_M_init_117
