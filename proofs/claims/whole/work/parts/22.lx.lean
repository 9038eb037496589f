/-! What the law's start gives for throws; rows for the law. -/
abbrev sI : String := "java/lang/IndexOutOfBoundsException"
abbrev sA : String := "java/lang/IllegalArgumentException"
def LX (s : State) : Prop := vx_Zq Bundle.tN "UNASSIGNED_STACK" Bundle.steD (fun q : Nat => s.heap.size ≤ q) s s.heap ∧ vx_Zq Bundle.tN "SUPPRESSED_SENTINEL" Bundle.listD (fun q : Nat => s.heap.size ≤ q) s s.heap ∧ CAS sI sI s ∧ CAS sA sA s ∧ DCL s ∧ va_Nc sA sI s ∧
  (STR 127 "no such word" s ∧ STR 131 "a part has one byte or two" s ∧ STR 133 "no part begins there" s ∧ STR 129 "no such granule" s ∧ STR 76 "no such place for a line" s ∧ STR 87 "no such word or row of the store" s ∧ STR 89 "no such place" s ∧ STR 118 "no such count" s)
theorem DCL.warm {s U : State} (h : DCL s) (hW : s.WarmedH U.vm) : DCL U := ⟨h.1.warmD hW, h.2.1.warmD hW, h.2.2.warmD hW⟩
theorem STR.warm {s U : State} {k : Nat} {tx : String} (h : STR k tx s) (hW : s.WarmedH U.vm) : STR k tx U := by obtain ⟨z, hz⟩ := h; exact ⟨z, vk_R.warm hW hz⟩
theorem LX.thr {s U : State} {H : Heap} {locs : List Loc} {E : String} (h : LX s) (hE : CAS E E s) (hS : va_S (fun q : Nat => s.heap.size ≤ q) s.heap H locs) (hU : U.heap = H) (hW : s.WarmedH U.vm) : THR E U := by
  obtain ⟨h1, h2, -, -, h5, -⟩ := h
  exact ⟨by rw [hU]; exact ((h1.kept hS.2.1).narrow (fun _ z => z.elim)).moved hW.alike, by rw [hU]; exact ((h2.kept hS.2.1).narrow (fun _ z => z.elim)).moved hW.alike, hE.moved hW.alike, h5.warm hW⟩
theorem LX.pI {s U : State} {H : Heap} {locs : List Loc} {k : Nat} {tx : String} (h : LX s) (hk : STR k tx s) (hS : va_S (fun q : Nat => s.heap.size ≤ q) s.heap H locs) (hU : U.heap = H) (hW : s.WarmedH U.vm) : PXE sI k tx U := ⟨h.thr h.2.2.1 hS hU hW, hk.warm hW⟩
theorem LX.pA {s U : State} {H : Heap} {locs : List Loc} {k : Nat} {tx : String} (h : LX s) (hk : STR k tx s) (hS : va_S (fun q : Nat => s.heap.size ≤ q) s.heap H locs) (hU : U.heap = H) (hW : s.WarmedH U.vm) : PXE sA k tx U := ⟨h.thr h.2.2.2.1 hS hU hW, hk.warm hW⟩
theorem LX.pN {s U : State} {H : Heap} {locs : List Loc} {k : Nat} {tx : String} (h : LX s) (hk : STR k tx s) (hS : va_S (fun q : Nat => s.heap.size ≤ q) s.heap H locs) (hU : U.heap = H) (hW : s.WarmedH U.vm) : PXN sA k tx sI U := ⟨h.thr h.2.2.2.1 hS hU hW, hk.warm hW, h.2.2.2.2.2.1.moved hW.alike⟩
theorem pxe_blind {E : String} {k : Nat} {tx : String} (a : Array Value) (U : State) (g : JFrame) (mk : MethodId) (h : PXE E k tx U) : PXE E k tx (U.calling g mk a) := ⟨h.1.moved (U := U.calling g mk a) rfl (State.WarmedH.refl U), by obtain ⟨z, hz⟩ := h.2; exact ⟨z, vk_R.same (U := U.calling g mk a) rfl hz⟩⟩
theorem pxn_blind {E N : String} {k : Nat} {tx : String} (a : Array Value) (U : State) (g : JFrame) (mk : MethodId) (h : PXN E k tx N U) : PXN E k tx N (U.calling g mk a) := ⟨h.1.moved (U := U.calling g mk a) rfl (State.WarmedH.refl U), by obtain ⟨z, hz⟩ := h.2.1; exact ⟨z, vk_R.same (U := U.calling g mk a) rfl hz⟩, va_Nc.moved (U := U.calling g mk a) (Vm.Alike.refl U.vm) h.2.2⟩
theorem tb_SL {own : String} {idx : Nat} {y : MethodName} {c1 : Cond} (h1 : .methodLink own idx y ∈ TB) (h2 : .static y ∈ TB) (h4 : .initialized y.cls ∈ TB) (h5 : c1 ∈ TB) : GoodIn lw_tbl (va_wsS own idx y (c1 :: TB)) := tb_c (tb_in h1) (tb_good h1) (tb_c (tb_in h2) (tb_good h2) (tb_c (tb_in h4) (tb_good h4) (tb_GoodL h5)))
theorem xa_sld {p : Program} {l : Launch} {e : Env} {R : Room} {s : State} {m : MethodId} {args : Array Value} {below : List Frame} {meth : Method} {c : Code} {H : Heap} {locs : List Loc} {cells slots : Nat} {Q : State → Prop} {cc : ByteArray} {pc : Nat} {ls : Array Slot} {rest : List Value} {A : Nat → Prop} {H0 : Heap} (hx : p.tables.exec = Jvm.exec) (hb : c.code = cc) {b L : Nat} {xs : Nat → Int32} (hX : va_X b L xs s H0) (hbl : b < H0.size) (hbA : ¬ A b) (hS : va_S A H0 H locs) (hL : L ≤ 2560) {i : Int32} (j : Nat) (hi : i = nI j) (hj : j < L) (hdg : decode cc pc = .ok (.iaload, 1))
    (kk : W p l e R s m args below meth c H locs cells slots Q (F0 m (pc + 1) ls (.int (xs j) :: rest))) : W p l e R s m args below meth c H locs cells slots Q (F0 m pc ls (.int i :: .ref b :: rest)) := by
  subst hi
  refine va_sld hx hb hX hbl hbA hS (vp_in_nI hj (by omega)) hdg ?_
  rw [nI_clamp (by omega)]
  exact kk
abbrev tyL (kT kM : Nat → ClassId) (ko : ClassId) : List (ClassId × FieldType) := tyX kT ko ++ tyMs kM
abbrev wL (GT GM : Nat → Nat) (kT kM : Nat → ClassId) (o : Nat) (ko : ClassId) (u : TC) (f : Nat → Int64) (v : TM) : va_W := wX GT kT o ko (u, f) ++ wM GM kM v
theorem cmp_eq {x y : Int64} (h : x = y) : lg_cmp x y = 0 := by subst h; unfold lg_cmp; simp
theorem upd0 {f : Nat → Int64} {x : Int64} : vp_updL f 0 x 0 = x := by unfold vp_updL; rw [if_pos rfl]
