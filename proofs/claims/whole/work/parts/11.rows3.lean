/-! static methods that read an array; sums -/
def XMa (l : Launch) (y : MethodName) (k : Cond) (rm : Room) (D : va_G) (cl : List vw_C) (a : Nat) (cA : ClassId) (n : Nat) (f : Nat → Int32) (ty : FieldType) (post : Int32 → Prop) : Prop :=
  Met l y (k :: TB) rm (va_Pc [.ref a] (fun U => va_P D cl [(a, .inl (cA, n, .inl f))] U.heap ∧ va_K D cl [(cA, ty)] U)) (vp_Si post) 0 0 (fun _ => False)
theorem xb_ofa {l : Launch} {y : MethodName} {k : Cond} {rm : Room} {D : va_G} {cl : List vw_C} {a : Nat} {cA : ClassId} {n : Nat} {f : Nat → Int32} {ty : FieldType} {post : Int32 → Prop} {cc : ByteArray} {maxL : Nat} {ret : Option FieldType} (hy : plainName y.cls = true) (hk : k = Cond.code y cc maxL ret) (hlen : (lg_sl [.ref a]).length ≤ maxL)
    (body : ∀ (p : Program) (e : Env) (s : State) (m : MethodId) (below : List Frame) (meth : Method) (c : Code) (ls : Array Slot), p.tables.exec = Jvm.exec → c.code = cc → c.maxLocals = maxL → meth.sig.returnType = ret → meth.locks = false → (∀ w ∈ k :: TB, w.before #[.ref a] s = true) → s.vm.findClass y.cls = some m.cls → va_P D cl [(a, .inl (cA, n, .inl f))] s.heap → va_K D cl [(cA, ty)] s → lv_has ls maxL (lv_args 0 [.ref a]) →
      W p l e rm s m #[.ref a] below meth c s.heap [] 0 0 (MQ below (vp_Si post) #[.ref a] s 0 0 (fun _ => False)) (F0 m 0 ls [])) : XMa l y k rm D cl a cA n f ty post := by
  refine Met.ofW (cc := cc) (maxL := maxL) (ret := ret) hy (by rw [hk]) ?_
  intro p e s m args below meth c s₁ B hml hv
  obtain ⟨rfl, hP, hK⟩ := hv
  have hl := lv_entry [.ref a] (n := maxL) hlen
  rw [lg_entry_eq]
  generalize (lg_sl [.ref a] ++ List.replicate (maxL - (lg_sl [.ref a]).length) Slot.unset).toArray = ls at hl ⊢
  exact body p e s m below meth c ls B.exec B.bytes hml B.returns B.notSynchronized (atoms_spec (ws := k :: TB) B.pre) (findClass_of_methodNamed B.named) hP hK hl
section XF
variable {p : Program} {l : Launch} {e : Env} {R : Room} {s : State} {m : MethodId} {args : Array Value} {below : List Frame} {meth : Method} {c : Code} {H : Heap} {locs : List Loc} {cells slots : Nat} {Q : State → Prop}
variable {cc : ByteArray} {pc : Nat} {ls : Array Slot} {rest : List Value} {y : MethodName} {k c1 : Cond} {rm : Room} {b idx maxL : Nat} {bytes : ByteArray} {ret : Option FieldType} {nL : Nat} {D : va_G} {cl : List vw_C} {a : Nat} {cA : ClassId} {n : Nat} {f : Nat → Int32} {ty : FieldType}
theorem xc_calla {post : Int32 → Prop} {C : String} (hx : p.tables.exec = Jvm.exec) (hb : c.code = cc) (hml : c.maxLocals = nL) (hown : s.vm.findClass C = some m.cls) (hts : ∀ w ∈ c1 :: TB, w.before args s = true)
    (hM : XMa l y k rm D cl a cA n f ty post) (hG : GoodIn (c1 :: TB) (wsS C idx y (k :: TB))) (hk : k = Cond.code y bytes maxL ret) (hrc : rm.cells = 0) (hrs : rm.slots = 0)
    (hd : y.cls = C ∧ y.cls ≠ "java/lang/invoke/MethodHandle" ∧ y.cls ≠ "java/lang/invoke/VarHandle" ∧ (parseMethodDescriptor y.desc).map (fun d => d.parameters.length) = some 1) (hR : rm.frames + 1 ≤ R.frames ∧ 8 + (maxL + 11) + rm.locals ≤ R.locals)
    (hP : va_P D cl [(a, .inl (cA, n, .inl f))] H) (hK : va_K D cl [(cA, ty)] s)
    (hsize : ls.size = nL) (hW : (rest.map fun v => v.category).sum ≤ 8) (hdg : decode cc pc = .ok (.invokestatic idx, 3)) (hf : cells ≤ R.cells ∧ slots ≤ R.slots)
    (kk : ∀ r : Int32, post r → W p l e R s m args below meth c H locs cells slots Q (F0 m (pc + 3) ls (.int r :: rest))) : W p l e R s m args below meth c H locs cells slots Q (F0 m pc ls (.ref a :: rest)) :=
  vp_callSi (W.runS (As := [.ref a]) (rest := rest) ⟨hx, hb, hml, hown, hts⟩ hM (cwS 1 hts hG (by rw [hk]) hrc hrs hd hR) ⟨fun a U g mk q => ⟨q.1, q.2.1, va_K.moved (u := U) (U := U.calling g mk a) (Vm.Alike.refl U.vm) q.2.2⟩, fun U hU hW => ⟨rfl, by rw [hU]; exact hP, va_K.moved hW.alike hK⟩⟩ rfl rfl hsize rfl (lv_room hW) hdg hf) kk
end XF
def fUsh (x : Int32) (k : Int32) : Int32 := (x.toUInt32 >>> (k.toUInt32 &&& Int32.toUInt32 31)).toInt32
def fBc1 (x : Int32) : Int32 := x - (fUsh x 1 &&& 1431655765)
def fBc2 (x : Int32) : Int32 := (x &&& 858993459) + (fUsh x 2 &&& 858993459)
def fBc3 (x : Int32) : Int32 := (x + fUsh x 4) &&& 252645135
def fBc4 (x : Int32) : Int32 := x + fUsh x 8
def fBc5 (x : Int32) : Int32 := x + fUsh x 16
def fBc (x : Int32) : Int32 := fBc5 (fBc4 (fBc3 (fBc2 (fBc1 x)))) &&& 63
def fSumR (u : TC) : Nat → Nat → Int32 → Int32
  | 0, _, a => a
  | d + 1, i, a => fSumR u d (i + 1) (a + fBc (fPeek u i))
def fBehind (u : TC) (n : Nat) : Int32 := ftol n (fPeek u (n / 16))
def fSumL (u : TC) : Nat → Nat → Int32 → Int32
  | 0, _, a => a
  | d + 1, i, a => fSumL u d (i + 1) (if tLa u i = -1 then a else a + (fBc (tLt u i) - fBc (fBehind u (tLa u i).toNatClampNeg)))
def fAll (u : TC) : Int32 := fSumL u 16 0 (fSumR u 32 0 0)
def rCount (u : TC) (w : Nat) : Int32 := if w = 0 then tN0 u else if w = 1 then tN1 u else if w = 2 then tN2 u else if w = 3 then tN3 u else if w = 4 then fAll u else if w = 5 then fCntNe (-1) (tLa u) 16 0 0 else if w = 6 then fCntNe 0 (tLc u) 16 0 0 else if w = 7 then fCntNe (-1) (tRa u) 4 0 0 else fCntNe 0 (tRc u) 4 0 0
/-- what check looks for isn't there -/
def tG (u : TC) : Prop := (∀ q n, q < 16 → n < 512 → tLa u q = nI n → tLc u q = 0 → (∀ w, w < 4 → tLw u (q * 4 + w) = tSt u (n * 4 + w)) ∧ tLt u q = fBehind u n) ∧ (∀ q k, q < 4 → k < 32 → tRa u q = nI k → tRc u q = 0 → tRt u q = tSt u (2048 + k))
