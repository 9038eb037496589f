/-! Methods that throw at once: what they need of the start, their contract, passing a callee's throw on. -/
def CAS (E N : String) (U : State) : Prop := ∃ a b : ClassId, U.vm.findClass E = some a ∧ U.vm.findClass N = some b ∧ U.vm.assignable a b = true
theorem CAS.moved {E N : String} {u U : State} (h : u.vm.Alike U.vm) (z : CAS E N u) : CAS E N U := by
  obtain ⟨a, b, h1, h2, h3⟩ := z
  exact ⟨a, b, by rw [h.findClass]; exact h1, by rw [h.findClass]; exact h2, by rw [h.assignable]; exact h3⟩
theorem CAS.word {E N : String} {U : State} (args : Array Value) (z : CAS E N U) : (Cond.castable E N).before args U = true := by
  obtain ⟨a, b, h1, h2, h3⟩ := z
  simp [Cond.before, Cond.holds, Cond.value, h1, h2, h3]
theorem CAS.of {E N : String} {U : State} {args : Array Value} (h : (Cond.castable E N).before args U = true) : CAS E N U := by
  obtain ⟨c3, c4, h1, h2, h3⟩ := Cond.castable_spec h
  exact ⟨c3, c4, h1, h2, h3⟩
abbrev yRte : MethodName := ⟨"java/lang/RuntimeException", "<init>", "(Ljava/lang/String;)V"⟩
abbrev yExc : MethodName := ⟨"java/lang/Exception", "<init>", "(Ljava/lang/String;)V"⟩
abbrev yThr : MethodName := ⟨"java/lang/Throwable", "<init>", "(Ljava/lang/String;)V"⟩
def DCL (U : State) : Prop := va_Nw (.declares yRte) U ∧ va_Nw (.declares yExc) U ∧ va_Nw (.declares yThr) U
def THR (E : String) (U : State) : Prop := vx_Zq Bundle.tN "UNASSIGNED_STACK" Bundle.steD (fun _ => False) U U.heap ∧ vx_Zq Bundle.tN "SUPPRESSED_SENTINEL" Bundle.listD (fun _ => False) U U.heap ∧ CAS E E U ∧ DCL U
theorem THR.moved {E : String} {u U : State} (hh : U.heap = u.heap) (h : u.WarmedH U.vm) (z : THR E u) : THR E U := by
  obtain ⟨h1, h2, h3, h4, h5, h6⟩ := z
  exact ⟨by rw [hh]; exact h1.moved h.alike, by rw [hh]; exact h2.moved h.alike, h3.moved h.alike, h4.warmD h, h5.warmD h, h6.warmD h⟩
def STR (k : Nat) (tx : String) (U : State) : Prop := ∃ a, vk_R "TagMemory" k tx a U
abbrev XCE (E : String) : String → State → State → Prop := vx_X (fun _ : Unit => True) (fun E' _ _ => E' = E) (fun _ => False)
/-- the method throws an E at once; nothing that was there changes; one cell of six slots comes -/
def XT (l : Launch) (y : MethodName) (k : Cond) (rm : Room) (av : List Value) (E : String) (kx : Nat) (tx : String) (Qc : Array Value → State → Outcome → State → Prop) : Prop :=
  vx_Met l y (k :: TB) rm (va_Pc av (fun U => THR E U ∧ STR kx tx U)) Qc (XCE E) 1 6 (fun _ => False)
abbrev QF : Array Value → State → Outcome → State → Prop := va_Qv (fun _ : Unit => False) (fun _ _ => True) (fun _ => False)
abbrev QFi : Array Value → State → Outcome → State → Prop := va_Qi (fun (_ : Int32) (_ : Unit) => False) (fun _ _ => True) (fun _ => False)
theorem xq_blind {av : List Value} {E : String} {kx : Nat} {tx : String} : FrameBlind (va_Pc av (fun U => THR E U ∧ STR kx tx U)) := fun a U g mk q => by
  obtain ⟨q0, q1, ⟨z, q2⟩⟩ := q
  exact ⟨q0, q1.moved (U := U.calling g mk a) rfl (State.WarmedH.refl U), z, vk_R.same (U := U.calling g mk a) rfl q2⟩
theorem xq_of {l : Launch} {y : MethodName} {k : Cond} {rm : Room} {av : List Value} {E : String} {kx : Nat} {tx : String} {Qc : Array Value → State → Outcome → State → Prop} {cc : ByteArray} {maxL : Nat} {ret : Option FieldType} (hy : plainName y.cls = true) (hk : k = Cond.code y cc maxL ret) (hlen : (lg_sl av).length ≤ maxL)
    (body : ∀ (p : Program) (e : Env) (s : State) (m : MethodId) (below : List Frame) (meth : Method) (c : Code) (ls : Array Slot), p.tables.exec = Jvm.exec → c.code = cc → c.maxLocals = maxL → meth.locks = false → (∀ x ∈ c.exceptionTable.toList, False) → (∀ w ∈ k :: TB, w.before av.toArray s = true) → s.vm.findClass y.cls = some m.cls → THR E s → STR kx tx s → lv_has ls maxL (lv_args 0 av) →
      W p l e rm s m av.toArray below meth c s.heap [] 0 0 (vx_MQ below Qc (XCE E) av.toArray s 1 6 (fun _ => False)) (F0 m 0 ls [])) : XT l y k rm av E kx tx Qc := by
  refine vx_ofW (cc := cc) (maxL := maxL) (ret := ret) hy (by rw [hk]) ?_
  intro p e s m args below meth c s₁ B hml hexc hv
  obtain ⟨rfl, hT, hZ⟩ := hv
  have hl := lv_entry av (n := maxL) hlen
  rw [lg_entry_eq]
  generalize (lg_sl av ++ List.replicate (maxL - (lg_sl av).length) Slot.unset).toArray = ls at hl ⊢
  exact body p e s m below meth c ls B.exec B.bytes hml B.notSynchronized hexc (atoms_spec (ws := k :: TB) B.pre) (findClass_of_methodNamed B.named) hT hZ hl
section XQ
variable {p : Program} {l : Launch} {e : Env} {R : Room} {s : State} {m : MethodId} {args : Array Value} {below : List Frame} {meth : Method} {c : Code} {Qc : Array Value → State → Outcome → State → Prop}
variable {cc : ByteArray} {pc : Nat} {ls : Array Slot} {rest : List Value} {y : MethodName} {k c1 : Cond} {rm : Room} {As : List Value} {b idx n maxL : Nat} {bytes : ByteArray} {ret : Option FieldType} {nL : Nat} {st0 : List Value} {E : String} {kx : Nat} {tx : String}
/-- a static callee throws: so does this method -/
theorem xq_passS {C : String} (hx : p.tables.exec = Jvm.exec) (hb : c.code = cc) (hml : c.maxLocals = nL) (hlocks : meth.locks = false) (hexc : ∀ x ∈ c.exceptionTable.toList, False) (hown : s.vm.findClass C = some m.cls) (hts : ∀ w ∈ c1 :: TB, w.before args s = true) (hT : THR E s) (hZ : STR kx tx s)
    (hM : XT l y k rm As E kx tx QF) (hG : GoodIn (c1 :: TB) (wsS C idx y (k :: TB))) (hk : k = Cond.code y bytes maxL ret) (hrc : rm.cells = 1) (hrs : rm.slots = 6)
    (hd : y.cls = C ∧ y.cls ≠ "java/lang/invoke/MethodHandle" ∧ y.cls ≠ "java/lang/invoke/VarHandle" ∧ (parseMethodDescriptor y.desc).map (fun d => d.parameters.length) = some n) (hR : rm.frames + 1 ≤ R.frames ∧ 8 + (maxL + 11) + rm.locals ≤ R.locals)
    (hn : As.length = n) (hsize : ls.size = nL) (hst : st0 = As.reverse ++ rest) (hW : (rest.map fun v => v.category).sum ≤ 8) (hdg : decode cc pc = .ok (.invokestatic idx, 3)) (hf : 0 + 1 ≤ R.cells ∧ 0 + 6 ≤ R.slots) :
    W p l e R s m args below meth c s.heap [] 0 0 (vx_MQ below Qc (XCE E) args s 1 6 (fun _ => False)) (F0 m pc ls st0) := by
  refine vx_callv (vx_runS (As := As) (rest := rest) ⟨hx, hb, hml, hown, hts⟩ hM (cwS n hts hG (by rw [hk]) hrc hrs hd hR) ⟨xq_blind, fun U hU hW => ⟨rfl, hT.moved hU hW, by obtain ⟨z, hz⟩ := hZ; exact ⟨z, vk_R.warm hW hz⟩⟩⟩ rfl hn hsize hst (lv_room hW) hdg hf) (A0 := fun _ => False) va_S.rf (fun q _ h => h) (fun q h => h) (fun q _ h => h) (fun E2 ce q9 u t H1 locs1 ht hvm _ hE hz hk1 hS hce hcv hcl => ?_) (fun u t H1 locs1 ht hvm hw => hw.elim)
  have hE : E2 = E := hE
  subst hE
  exact vx_out (fun x hx => (hexc x hx).elim) hlocks hce hcv hcl (fun t2 ht2 _ => ⟨(), trivial, rfl, by rw [ht2]; exact hS.1, fun q h1 h2 => by rw [ht2]; exact hS.2.1 q h1 h2⟩) hS.2.2 (Nat.le_refl _) (Nat.le_refl _)
end XQ
theorem at_I0 : ∀ w ∈ (vx_atS "TagMemory" 78 "java/lang/IndexOutOfBoundsException" ["java/lang/RuntimeException", "java/lang/Exception"]).filter goodWord, w ∈ lw_tbl := by decide +kernel
theorem at_A0 : ∀ w ∈ (vx_atS "TagMemory" 120 "java/lang/IllegalArgumentException" ["java/lang/RuntimeException", "java/lang/Exception"]).filter goodWord, w ∈ lw_tbl := by decide +kernel
theorem at_I : ∀ w ∈ (vx_atS "TagMemory" 78 "java/lang/IndexOutOfBoundsException" ["java/lang/RuntimeException", "java/lang/Exception"]).filter goodWord, w ∈ TB := fun w h => List.mem_filter.mpr ⟨at_I0 w h, (List.mem_filter.mp h).2⟩
theorem at_A : ∀ w ∈ (vx_atS "TagMemory" 120 "java/lang/IllegalArgumentException" ["java/lang/RuntimeException", "java/lang/Exception"]).filter goodWord, w ∈ TB := fun w h => List.mem_filter.mpr ⟨at_A0 w h, (List.mem_filter.mp h).2⟩
theorem at_Ib : ∀ w ∈ (vx_atS "TagMemory" 78 "java/lang/IndexOutOfBoundsException" ["java/lang/RuntimeException", "java/lang/Exception"]).filter (fun w => !goodWord w), w ∈ [Cond.castable "java/lang/IndexOutOfBoundsException" "java/lang/IndexOutOfBoundsException", Cond.declares yRte, Cond.declares yExc, Cond.declares yThr] := by decide +kernel
theorem at_Ab : ∀ w ∈ (vx_atS "TagMemory" 120 "java/lang/IllegalArgumentException" ["java/lang/RuntimeException", "java/lang/Exception"]).filter (fun w => !goodWord w), w ∈ [Cond.castable "java/lang/IllegalArgumentException" "java/lang/IllegalArgumentException", Cond.declares yRte, Cond.declares yExc, Cond.declares yThr] := by decide +kernel
theorem at_Ig : ∀ w ∈ Cond.classLink "TagMemory" 74 "java/lang/IndexOutOfBoundsException" :: Cond.initialized "java/lang/IndexOutOfBoundsException" :: vx_atS "TagMemory" 78 "java/lang/IndexOutOfBoundsException" ["java/lang/RuntimeException", "java/lang/Exception"], vx_ot w = true := by decide +kernel
theorem at_Ag : ∀ w ∈ Cond.classLink "TagMemory" 116 "java/lang/IllegalArgumentException" :: Cond.initialized "java/lang/IllegalArgumentException" :: vx_atS "TagMemory" 120 "java/lang/IllegalArgumentException" ["java/lang/RuntimeException", "java/lang/Exception"], vx_ot w = true := by decide +kernel
