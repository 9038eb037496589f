/-! Calls over a part of the world (the part first), and methods with an exception table. -/
section YA
variable {D : va_G} {cl : List vw_C} {a b : va_W} {H : Heap} {A : Nat → Prop} {ta tb : List (ClassId × FieldType)} {U : State}
theorem ya_Pl (h : va_P D cl (a ++ b) H) : va_P D cl a H := fun k q hk => h k q (by rw [List.getElem?_append_left (List.getElem?_eq_some_iff.mp hk).1]; exact hk)
theorem ya_Pr (h : va_P D cl (a ++ b) H) : va_P D cl b H := fun k q hk => h (a.length + k) q (by rw [List.getElem?_append_right (by omega), Nat.add_sub_cancel_left]; exact hk)
theorem ya_Kl (h : va_K D cl (ta ++ tb) U) : va_K D cl ta U := ⟨h.1, fun k q hk => h.2 k q (by rw [List.getElem?_append_left (List.getElem?_eq_some_iff.mp hk).1]; exact hk)⟩
theorem ya_Kr (h : va_K D cl (ta ++ tb) U) : va_K D cl tb U := ⟨h.1, fun k q hk => h.2 (ta.length + k) q (by rw [List.getElem?_append_right (by omega), Nat.add_sub_cancel_left]; exact hk)⟩
theorem ya_Kc (h : va_K D cl (ta ++ tb) U) : va_K D cl (tb ++ ta) U := (ya_Kr h).app (ya_Kl h)
theorem ya_Dl (h : va_D A (a ++ b)) : va_D A a := ⟨fun i j p q hi hj hpq => h.1 i j p q (by rw [List.getElem?_append_left (List.getElem?_eq_some_iff.mp hi).1]; exact hi) (by rw [List.getElem?_append_left (List.getElem?_eq_some_iff.mp hj).1]; exact hj) hpq, fun k q hk => h.2 k q (by rw [List.getElem?_append_left (List.getElem?_eq_some_iff.mp hk).1]; exact hk)⟩
theorem ya_Dr (h : va_D A (a ++ b)) : va_D A b := ⟨fun i j p q hi hj hpq => by
  have := h.1 (a.length + i) (a.length + j) p q (by rw [List.getElem?_append_right (by omega), Nat.add_sub_cancel_left]; exact hi) (by rw [List.getElem?_append_right (by omega), Nat.add_sub_cancel_left]; exact hj) hpq
  omega, fun k q hk => h.2 (a.length + k) q (by rw [List.getElem?_append_right (by omega), Nat.add_sub_cancel_left]; exact hk)⟩
theorem ya_Dx (h : va_D A (a ++ b)) : ∀ (i j : Nat) (p q : Nat × va_E), a[i]? = some p → b[j]? = some q → p.1 ≠ q.1 := fun i j p q hi hj hpq => by
  have hl := (List.getElem?_eq_some_iff.mp hi).1
  have := h.1 i (a.length + j) p q (by rw [List.getElem?_append_left hl]; exact hi) (by rw [List.getElem?_append_right (by omega), Nat.add_sub_cancel_left]; exact hj) hpq
  omega
theorem ya_Pc (h : va_P D cl (a ++ b) H) : va_P D cl (b ++ a) H := (ya_Pr h).app (ya_Pl h)
theorem ya_Dc (h : va_D A (a ++ b)) : va_D A (b ++ a) := (ya_Dr h).app (ya_Dl h) (fun i j p q hi hj hpq => ya_Dx h j i q p hj hi hpq.symm)
/-- behind a call that had the first part -/
theorem ya_join {H1 : Heap} {a1 : va_W} (hP : va_P D cl (a ++ b) H) (hD : va_D A (a ++ b)) (hk : ∀ q : Nat, q < H.size → ¬ va_A a H.size q → H1[q]? = H[q]?) (hF : ∀ q, va_A a H.size q → A q) (hP1 : va_P D cl a1 H1) (hD1 : va_D (va_A a H.size) a1) : va_P D cl (a1 ++ b) H1 ∧ va_D A (a1 ++ b) := by
  have hn : ∀ (k : Nat) (q : Nat × va_E), b[k]? = some q → q.1 < H.size ∧ ¬ va_A a H.size q.1 := fun k q hq => by
    have hl := (ya_Pr hP k q hq).lt
    refine ⟨hl, fun h => ?_⟩
    rcases h with ⟨i, e, h⟩ | h
    · exact ya_Dx hD i k (q.1, e) q h hq rfl
    · omega
  refine ⟨hP1.app (fun k q hq => (ya_Pr hP k q hq).kept (hk q.1 (hn k q hq).1 (hn k q hq).2)), (hD1.weaken (fun _ q _ h => hF q.1 h)).app (ya_Dr hD) (fun i j p q hi hj hpq => ?_)⟩
  exact (hn j q hj).2 (by rw [← hpq]; exact hD1.2 i p hi)
theorem ya_free {H0 : Heap} {locs : List Loc} (hD : va_D A (a ++ b)) (hS : va_S A H0 H locs) (hA : ∀ q, H0.size ≤ q → A q) : ∀ q, va_A a H.size q → A q := fun q h => by
  rcases h with ⟨i, e, h⟩ | h
  · exact (ya_Dl hD).2 i _ h
  · exact hA q (Nat.le_trans hS.1 h)
end YA
section YB
variable {S : Type} {p : Program} {l : Launch} {e : Env} {R : Room} {s : State} {m : MethodId} {args : Array Value} {below : List Frame} {meth : Method} {c : Code} {H : Heap} {locs : List Loc} {cells slots : Nat} {Q : State → Prop}
variable {cc : ByteArray} {pc : Nat} {ls : Array Slot} {rest : List Value} {D : va_G} {cl : List vw_C} {A : Nat → Prop} {tys tr : List (ClassId × FieldType)} {H0 : Heap} {wf : S → va_W} {u : S} {wr : va_W} {Ts : List Cond}
variable {y : MethodName} {k : Cond} {rm : Room} {As : List Value} {b idx n maxL : Nat} {bytes : ByteArray} {ret : Option FieldType} {nL : Nat} {st0 : List Value}
theorem yb_calli {post : Int32 → S → Prop} {own C : String} {ci : Nat} {q : vw_C} {fs : List Value} (hx : p.tables.exec = Jvm.exec) (hb : c.code = cc) (hml : c.maxLocals = nL) (hown : s.vm.findClass own = some m.cls) (hts : ∀ w ∈ Ts, w.before args s = true)
    (hM : XMi l y k rm D cl wf tys u H.size (.ref b :: As) post) (hG : GoodIn Ts (wsV own idx C y (k :: TB))) (hk : k = Cond.code y bytes maxL ret) (hrc : rm.cells = 0) (hrs : rm.slots = 0)
    (hd : y.cls = C ∧ y.cls ≠ "java/lang/invoke/MethodHandle" ∧ y.cls ≠ "java/lang/invoke/VarHandle" ∧ (parseMethodDescriptor y.desc).map (fun d => d.parameters.length) = some n) (hR : rm.frames + 1 ≤ R.frames ∧ 8 + (maxL + 11) + rm.locals ≤ R.locals)
    (hK : va_K D cl (tys ++ tr) s) (hP : va_P D cl (wf u ++ wr) H) (hD : va_D A (wf u ++ wr)) (hS : va_S A H0 H locs) (hA : ∀ q, H0.size ≤ q → A q) (hc : cl[ci]? = some q) (hq : q.1 = C) (he : (wf u)[0]? = some (b, .inr (ci, fs)))
    (hn : As.length = n) (hsize : ls.size = nL) (hst : st0 = As.reverse ++ .ref b :: rest) (hW : (rest.map fun v => v.category).sum ≤ 8) (hdg : decode cc pc = .ok (.invokevirtual idx, 3)) (hf : cells ≤ R.cells ∧ slots ≤ R.slots)
    (kk : ∀ (r : Int32) (u' : S) (H1 : Heap) (locs1 : List Loc), post r u' → va_P D cl (wf u' ++ wr) H1 → va_D A (wf u' ++ wr) → va_S A H0 H1 locs1 → W p l e R s m args below meth c H1 locs1 cells slots Q (F0 m (pc + 3) ls (.int r :: rest))) : W p l e R s m args below meth c H locs cells slots Q (F0 m pc ls st0) := by
  have hFc := ya_free hD hS hA
  have hrecv := va_recv (ya_Kl hK) (ya_Pl hP) hc he
  rw [hq] at hrecv
  refine va_calli (va_runV (As := As) (rest := rest) (b := b) ⟨hx, hb, hml, hown, hts⟩ hM (cwV n hts hG (by rw [hk]) hrc hrs hd hR) ⟨fun a U g mk q => by obtain ⟨q0, q1, qP, qK, qD⟩ := q; exact ⟨q0, q1, qP, va_K.moved (u := U) (U := U.calling g mk a) (Vm.Alike.refl U.vm) qK, qD⟩, hrecv, fun U hU hW => ⟨rfl, by rw [hU], by rw [hU]; exact ya_Pl hP, va_K.moved hW.alike (ya_Kl hK), (ya_Dl hD).weaken (fun _ _ _ _ => trivial)⟩⟩ rfl hn hsize hst (lv_room hW) hdg hf) hS (fun q _ h => hFc q h) hFc (fun r u t H1 locs ht hvm hw hB hz1 hk1 hS => ?_)
  obtain ⟨hP1, hK1, hD1⟩ := hB
  rw [ht] at hP1
  obtain ⟨g1, g2⟩ := ya_join hP hD hk1 hFc hP1 hD1
  exact kk r u H1 locs hw g1 g2 hS
theorem yb_callv {post : S → Prop} {own C : String} {ci : Nat} {q : vw_C} {fs : List Value} (hx : p.tables.exec = Jvm.exec) (hb : c.code = cc) (hml : c.maxLocals = nL) (hown : s.vm.findClass own = some m.cls) (hts : ∀ w ∈ Ts, w.before args s = true)
    (hM : XMv l y k rm D cl wf tys u H.size (.ref b :: As) post) (hG : GoodIn Ts (wsV own idx C y (k :: TB))) (hk : k = Cond.code y bytes maxL ret) (hrc : rm.cells = 0) (hrs : rm.slots = 0)
    (hd : y.cls = C ∧ y.cls ≠ "java/lang/invoke/MethodHandle" ∧ y.cls ≠ "java/lang/invoke/VarHandle" ∧ (parseMethodDescriptor y.desc).map (fun d => d.parameters.length) = some n) (hR : rm.frames + 1 ≤ R.frames ∧ 8 + (maxL + 11) + rm.locals ≤ R.locals)
    (hK : va_K D cl (tys ++ tr) s) (hP : va_P D cl (wf u ++ wr) H) (hD : va_D A (wf u ++ wr)) (hS : va_S A H0 H locs) (hA : ∀ q, H0.size ≤ q → A q) (hc : cl[ci]? = some q) (hq : q.1 = C) (he : (wf u)[0]? = some (b, .inr (ci, fs)))
    (hn : As.length = n) (hsize : ls.size = nL) (hst : st0 = As.reverse ++ .ref b :: rest) (hW : (rest.map fun v => v.category).sum ≤ 8) (hdg : decode cc pc = .ok (.invokevirtual idx, 3)) (hf : cells ≤ R.cells ∧ slots ≤ R.slots)
    (kk : ∀ (u' : S) (H1 : Heap) (locs1 : List Loc), post u' → va_P D cl (wf u' ++ wr) H1 → va_D A (wf u' ++ wr) → va_S A H0 H1 locs1 → W p l e R s m args below meth c H1 locs1 cells slots Q (F0 m (pc + 3) ls rest)) : W p l e R s m args below meth c H locs cells slots Q (F0 m pc ls st0) := by
  have hFc := ya_free hD hS hA
  have hrecv := va_recv (ya_Kl hK) (ya_Pl hP) hc he
  rw [hq] at hrecv
  refine va_callv (va_runV (As := As) (rest := rest) (b := b) ⟨hx, hb, hml, hown, hts⟩ hM (cwV n hts hG (by rw [hk]) hrc hrs hd hR) ⟨fun a U g mk q => by obtain ⟨q0, q1, qP, qK, qD⟩ := q; exact ⟨q0, q1, qP, va_K.moved (u := U) (U := U.calling g mk a) (Vm.Alike.refl U.vm) qK, qD⟩, hrecv, fun U hU hW => ⟨rfl, by rw [hU], by rw [hU]; exact ya_Pl hP, va_K.moved hW.alike (ya_Kl hK), (ya_Dl hD).weaken (fun _ _ _ _ => trivial)⟩⟩ rfl hn hsize hst (lv_room hW) hdg hf) hS (fun q _ h => hFc q h) hFc (fun u t H1 locs ht hvm hw hB hz1 hk1 hS => ?_)
  obtain ⟨hP1, hK1, hD1⟩ := hB
  rw [ht] at hP1
  obtain ⟨g1, g2⟩ := ya_join hP hD hk1 hFc hP1 hD1
  exact kk u H1 locs hw g1 g2 hS
end YB
/-- a method with an exception table over a world; PX: what else it needs of the start -/
def XW {S : Type} (l : Launch) (y : MethodName) (k : Cond) (rm : Room) (D : va_G) (cl : List vw_C) (wf : S → va_W) (tys : List (ClassId × FieldType)) (u : S) (sz : Nat) (av : List Value) (PX : State → Prop) (mc ms : Nat) (post : Int32 → S → Prop) : Prop :=
  Met l y (k :: TB) rm (va_Pc av (fun U => XPre D cl wf tys u sz U ∧ PX U)) (va_Qi post (XAt D cl wf tys (va_A (wf u) sz)) (va_A (wf u) sz)) mc ms (va_A (wf u) sz)
theorem xw_of {S : Type} {l : Launch} {y : MethodName} {k : Cond} {rm : Room} {D : va_G} {cl : List vw_C} {wf : S → va_W} {tys : List (ClassId × FieldType)} {u : S} {sz : Nat} {av : List Value} {PX : State → Prop} {mc ms : Nat} {cc : ByteArray} {maxL : Nat} {ret : Option FieldType} {hh : List (Nat × Nat × Nat × Nat)} {post : Int32 → S → Prop} (hy : plainName y.cls = true) (hk : k = Cond.codeWith y cc maxL ret hh) (hlen : (lg_sl av).length ≤ maxL)
    (body : ∀ (p : Program) (e : Env) (s : State) (m : MethodId) (below : List Frame) (meth : Method) (c : Code) (A : Nat → Prop) (ls : Array Slot), p.tables.exec = Jvm.exec → c.code = cc → c.maxLocals = maxL → meth.sig.returnType = ret → meth.locks = false → c.exceptionTable.toList = tableOf hh → (∀ w ∈ k :: TB, w.before av.toArray s = true) → s.vm.findClass y.cls = some m.cls → PX s → va_P D cl (wf u) s.heap → va_K D cl tys s → va_D A (wf u) → (∀ q, s.heap.size ≤ q → A q) → lv_has ls maxL (lv_args 0 av) →
      W p l e rm s m av.toArray below meth c s.heap [] 0 0 (MQ below (va_Qi post (XAt D cl wf tys A) A) av.toArray s mc ms A) (F0 m 0 ls [])) : XW l y k rm D cl wf tys u sz av PX mc ms post := by
  refine va_MetW (cc := cc) (maxL := maxL) (ret := ret) (hh := hh) hy (by rw [hk]) ?_
  intro p e s m args below meth c s₁ B hml hv
  obtain ⟨rfl, ⟨hsz, hP, hK, hD0⟩, hX⟩ := hv
  subst hsz
  have hl := lv_entry av (n := maxL) hlen
  have hts := atoms_spec (ws := k :: TB) B.pre
  have hexc := vx_table (x := y) B (by have := hts _ List.mem_cons_self; rw [hk] at this; exact this)
  rw [lg_entry_eq]
  generalize (lg_sl av ++ List.replicate (maxL - (lg_sl av).length) Slot.unset).toArray = ls at hl ⊢
  exact body p e s m below meth c _ ls B.exec B.bytes hml B.returns B.notSynchronized hexc hts (findClass_of_methodNamed B.named) hX hP hK hD0.self (fun q h => Or.inr h) hl
section YC
variable {S : Type} {p : Program} {l : Launch} {e : Env} {R : Room} {s : State} {m : MethodId} {args : Array Value} {below : List Frame} {meth : Method} {c : Code} {H : Heap} {locs : List Loc} {cells slots : Nat} {Q : State → Prop}
variable {cc : ByteArray} {pc : Nat} {ls : Array Slot} {rest : List Value} {D : va_G} {cl : List vw_C} {A : Nat → Prop} {tys tr : List (ClassId × FieldType)} {H0 : Heap} {wf : S → va_W} {u : S} {wr : va_W} {Ts : List Cond}
variable {y : MethodName} {k : Cond} {rm : Room} {As : List Value} {b idx n maxL : Nat} {bytes : ByteArray} {ret : Option FieldType} {nL : Nat} {st0 : List Value} {E : String} {kx : Nat} {tx : String}
/-- an object's method throws, in a frame that catches it -/
theorem yc_throwi {own C : String} (hx : p.tables.exec = Jvm.exec) (hb : c.code = cc) (hml : c.maxLocals = nL) (hown : s.vm.findClass own = some m.cls) (hts : ∀ w ∈ Ts, w.before args s = true) (hT : THR E s) (hZ : STR kx tx s)
    (hM : XT l y k rm (.ref b :: As) E kx tx QFi) (hG : GoodIn Ts (wsV own idx C y (k :: TB))) (hk : k = Cond.code y bytes maxL ret) (hrc : rm.cells = 1) (hrs : rm.slots = 6)
    (hd : y.cls = C ∧ y.cls ≠ "java/lang/invoke/MethodHandle" ∧ y.cls ≠ "java/lang/invoke/VarHandle" ∧ (parseMethodDescriptor y.desc).map (fun d => d.parameters.length) = some n) (hR : rm.frames + 1 ≤ R.frames ∧ 8 + (maxL + 11) + rm.locals ≤ R.locals)
    (hrecv : ∃ cell : Cell, s.heap[b]? = some cell ∧ cell.vm.isStatics = false ∧ s.vm.findClass C = some cell.cls) (hP : va_P D cl (wf u) s.heap)
    (hn : As.length = n) (hsize : ls.size = nL) (hst : st0 = As.reverse ++ .ref b :: rest) (hW : (rest.map fun v => v.category).sum ≤ 8) (hdg : decode cc pc = .ok (.invokevirtual idx, 3)) (hf : 0 + 1 ≤ R.cells ∧ 0 + 6 ≤ R.slots)
    (kk : ∀ (ce : Cell) (q9 : Addr) (H1 : Heap) (locs1 : List Loc), va_P D cl (wf u) H1 → va_S A s.heap H1 locs1 → H1[q9]? = some ce → ce.vm = .none → s.vm.findClass E = some ce.cls → vx_W p l e R s m args below meth c H1 locs1 1 6 Q (F0 m pc ls rest) q9) : W p l e R s m args below meth c s.heap [] 0 0 Q (F0 m pc ls st0) := by
  refine vx_calli (vx_runV (As := As) (rest := rest) (b := b) ⟨hx, hb, hml, hown, hts⟩ hM (cwV n hts hG (by rw [hk]) hrc hrs hd hR) ⟨xq_blind, hrecv, fun U hU hW => ⟨rfl, hT.moved hU hW, by obtain ⟨z, hz⟩ := hZ; exact ⟨z, vk_R.warm hW hz⟩⟩⟩ rfl hn hsize hst (lv_room hW) hdg hf) (A0 := fun _ => False) va_S.rf (fun q _ h => h) (fun q h => h) (fun q _ h => h) (fun E2 ce q9 u t H1 locs1 ht hvm _ hE hz hk1 hS hce hcv hcl => ?_) (fun r u t H1 locs1 ht hvm hw => hw.elim)
  have hE : E2 = E := hE
  subst hE
  exact kk ce q9 H1 locs1 (fun i q hq => (hP i q hq).kept (hk1 q.1 (hP i q hq).lt (fun z => z))) ⟨hS.1, fun q h1 _ => hS.2.1 q h1 (fun z => z), fun z hz => (hS.2.2 z hz).elim⟩ hce hcv hcl
theorem yc_throwv {own C : String} (hx : p.tables.exec = Jvm.exec) (hb : c.code = cc) (hml : c.maxLocals = nL) (hown : s.vm.findClass own = some m.cls) (hts : ∀ w ∈ Ts, w.before args s = true) (hT : THR E s) (hZ : STR kx tx s)
    (hM : XT l y k rm (.ref b :: As) E kx tx QF) (hG : GoodIn Ts (wsV own idx C y (k :: TB))) (hk : k = Cond.code y bytes maxL ret) (hrc : rm.cells = 1) (hrs : rm.slots = 6)
    (hd : y.cls = C ∧ y.cls ≠ "java/lang/invoke/MethodHandle" ∧ y.cls ≠ "java/lang/invoke/VarHandle" ∧ (parseMethodDescriptor y.desc).map (fun d => d.parameters.length) = some n) (hR : rm.frames + 1 ≤ R.frames ∧ 8 + (maxL + 11) + rm.locals ≤ R.locals)
    (hrecv : ∃ cell : Cell, s.heap[b]? = some cell ∧ cell.vm.isStatics = false ∧ s.vm.findClass C = some cell.cls) (hP : va_P D cl (wf u) s.heap)
    (hn : As.length = n) (hsize : ls.size = nL) (hst : st0 = As.reverse ++ .ref b :: rest) (hW : (rest.map fun v => v.category).sum ≤ 8) (hdg : decode cc pc = .ok (.invokevirtual idx, 3)) (hf : 0 + 1 ≤ R.cells ∧ 0 + 6 ≤ R.slots)
    (kk : ∀ (ce : Cell) (q9 : Addr) (H1 : Heap) (locs1 : List Loc), va_P D cl (wf u) H1 → va_S A s.heap H1 locs1 → H1[q9]? = some ce → ce.vm = .none → s.vm.findClass E = some ce.cls → vx_W p l e R s m args below meth c H1 locs1 1 6 Q (F0 m pc ls rest) q9) : W p l e R s m args below meth c s.heap [] 0 0 Q (F0 m pc ls st0) := by
  refine vx_callv (vx_runV (As := As) (rest := rest) (b := b) ⟨hx, hb, hml, hown, hts⟩ hM (cwV n hts hG (by rw [hk]) hrc hrs hd hR) ⟨xq_blind, hrecv, fun U hU hW => ⟨rfl, hT.moved hU hW, by obtain ⟨z, hz⟩ := hZ; exact ⟨z, vk_R.warm hW hz⟩⟩⟩ rfl hn hsize hst (lv_room hW) hdg hf) (A0 := fun _ => False) va_S.rf (fun q _ h => h) (fun q h => h) (fun q _ h => h) (fun E2 ce q9 u t H1 locs1 ht hvm _ hE hz hk1 hS hce hcv hcl => ?_) (fun u t H1 locs1 ht hvm hw => hw.elim)
  have hE : E2 = E := hE
  subst hE
  exact kk ce q9 H1 locs1 (fun i q hq => (hP i q hq).kept (hk1 q.1 (hP i q hq).lt (fun z => z))) ⟨hS.1, fun q h1 _ => hS.2.1 q h1 (fun z => z), fun z hz => (hS.2.2 z hz).elim⟩ hce hcv hcl
/-- the law's call of one of its own methods -/
theorem yc_calls {post : Int32 → S → Prop} {own : String} {PX : State → Prop} {mc ms : Nat} {hh : List (Nat × Nat × Nat × Nat)} (hx : p.tables.exec = Jvm.exec) (hb : c.code = cc) (hml : c.maxLocals = nL) (hown : s.vm.findClass own = some m.cls) (hts : ∀ w ∈ Ts, w.before args s = true)
    (hM : XW l y k rm D cl wf tys u H.size As PX mc ms post) (hG : GoodIn Ts (va_wsS own idx y (k :: TB))) (hk : k = Cond.codeWith y bytes maxL ret hh) (hrc : rm.cells = mc) (hrs : rm.slots = ms)
    (hd : y.cls ≠ "java/lang/invoke/MethodHandle" ∧ y.cls ≠ "java/lang/invoke/VarHandle" ∧ (parseMethodDescriptor y.desc).map (fun d => d.parameters.length) = some n) (hR : rm.frames + 1 ≤ R.frames ∧ 8 + (maxL + 11) + rm.locals ≤ R.locals)
    (hbl : ∀ (a : Array Value) (U : State) (g : JFrame) (mk : MethodId), PX U → PX (U.calling g mk a)) (hPX : ∀ U : State, U.heap = H → s.WarmedH U.vm → PX U)
    (hK : va_K D cl (tys ++ tr) s) (hP : va_P D cl (wf u ++ wr) H) (hD : va_D A (wf u ++ wr)) (hS : va_S A H0 H locs) (hA : ∀ q, H0.size ≤ q → A q)
    (hn : As.length = n) (hsize : ls.size = nL) (hst : st0 = As.reverse ++ rest) (hW : (rest.map fun v => v.category).sum ≤ 8) (hdg : decode cc pc = .ok (.invokestatic idx, 3)) (hf : cells + mc ≤ R.cells ∧ slots + ms ≤ R.slots)
    (kk : ∀ (r : Int32) (u' : S) (H1 : Heap) (locs1 : List Loc), post r u' → va_P D cl (wf u' ++ wr) H1 → va_D A (wf u' ++ wr) → va_S A H0 H1 locs1 → W p l e R s m args below meth c H1 locs1 (cells + mc) (slots + ms) Q (F0 m (pc + 3) ls (.int r :: rest))) : W p l e R s m args below meth c H locs cells slots Q (F0 m pc ls st0) := by
  have hFc := ya_free hD hS hA
  refine va_calli (vx_runSW (hh := hh) (As := As) (rest := rest) ⟨hx, hb, hml, hown, hts⟩ hM (vx_cwSW n hts hG (by rw [hk]) hrc hrs hd hR) ⟨fun a U g mk q => by obtain ⟨q0, ⟨q1, qP, qK, qD⟩, qX⟩ := q; exact ⟨q0, ⟨q1, qP, va_K.moved (u := U) (U := U.calling g mk a) (Vm.Alike.refl U.vm) qK, qD⟩, hbl a U g mk qX⟩, fun U hU hW => ⟨rfl, ⟨by rw [hU], by rw [hU]; exact ya_Pl hP, va_K.moved hW.alike (ya_Kl hK), (ya_Dl hD).weaken (fun _ _ _ _ => trivial)⟩, hPX U hU hW⟩⟩ rfl hn hsize hst (lv_room hW) hdg hf) hS (fun q _ h => hFc q h) hFc (fun r u t H1 locs ht hvm hw hB hz1 hk1 hS => ?_)
  obtain ⟨hP1, hK1, hD1⟩ := hB
  rw [ht] at hP1
  obtain ⟨g1, g2⟩ := ya_join hP hD hk1 hFc hP1 hD1
  exact kk r u H1 locs hw g1 g2 hS
end YC
