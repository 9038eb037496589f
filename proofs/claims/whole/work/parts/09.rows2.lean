/-! static methods that answer nothing; more rows -/
def XMz (l : Launch) (y : MethodName) (k : Cond) (rm : Room) (av : List Value) : Prop :=
  Met l y (k :: TB) rm (va_Pc av (fun _ => True)) (fun _ st o t => o = .returned none ∧ t.heap = st.heap) 0 0 (fun _ => False)
theorem xb_ofz {l : Launch} {y : MethodName} {k : Cond} {rm : Room} {av : List Value} {cc : ByteArray} {maxL : Nat} {ret : Option FieldType} (hy : plainName y.cls = true) (hk : k = Cond.code y cc maxL ret) (hlen : (lg_sl av).length ≤ maxL)
    (body : ∀ (p : Program) (e : Env) (s : State) (m : MethodId) (below : List Frame) (meth : Method) (c : Code) (ls : Array Slot), p.tables.exec = Jvm.exec → c.code = cc → c.maxLocals = maxL → meth.sig.returnType = ret → meth.locks = false → (∀ w ∈ k :: TB, w.before av.toArray s = true) → s.vm.findClass y.cls = some m.cls → lv_has ls maxL (lv_args 0 av) →
      W p l e rm s m av.toArray below meth c s.heap [] 0 0 (MQ below (fun _ st o t => o = .returned none ∧ t.heap = st.heap) av.toArray s 0 0 (fun _ => False)) (F0 m 0 ls [])) : XMz l y k rm av := by
  refine Met.ofW (cc := cc) (maxL := maxL) (ret := ret) hy (by rw [hk]) ?_
  intro p e s m args below meth c s₁ B hml hv
  obtain ⟨rfl, -⟩ := hv
  have hl := lv_entry av (n := maxL) hlen
  rw [lg_entry_eq]
  generalize (lg_sl av ++ List.replicate (maxL - (lg_sl av).length) Slot.unset).toArray = ls at hl ⊢
  exact body p e s m below meth c ls B.exec B.bytes hml B.returns B.notSynchronized (atoms_spec (ws := k :: TB) B.pre) (findClass_of_methodNamed B.named) hl
section XE
variable {p : Program} {l : Launch} {e : Env} {R : Room} {s : State} {m : MethodId} {args : Array Value} {below : List Frame} {meth : Method} {c : Code} {H : Heap} {locs : List Loc} {cells slots : Nat} {Q : State → Prop}
variable {cc : ByteArray} {pc : Nat} {ls : Array Slot} {rest : List Value} {y : MethodName} {k c1 : Cond} {rm : Room} {As : List Value} {b idx n maxL : Nat} {bytes : ByteArray} {ret : Option FieldType} {nL : Nat} {st0 : List Value}
theorem xc_zsret (hx : p.tables.exec = Jvm.exec) (hb : c.code = cc) (hr : meth.sig.returnType = none) (hlocks : meth.locks = false) (hdg : decode cc pc = .ok (.return_, 1)) :
    W p l e R s m args below meth c s.heap [] cells slots (MQ below (fun _ st o t => o = .returned none ∧ t.heap = st.heap) args s cells slots (fun _ => False)) (F0 m pc ls []) :=
  W.vret hx hb hr (fun t ht _ => ⟨rfl, ht⟩) (fun q h => by cases h) hdg hlocks
theorem xc_callz {C : String} (hx : p.tables.exec = Jvm.exec) (hb : c.code = cc) (hml : c.maxLocals = nL) (hown : s.vm.findClass C = some m.cls) (hts : ∀ w ∈ c1 :: TB, w.before args s = true)
    (hM : XMz l y k rm As) (hG : GoodIn (c1 :: TB) (wsS C idx y (k :: TB))) (hk : k = Cond.code y bytes maxL ret) (hrc : rm.cells = 0) (hrs : rm.slots = 0)
    (hd : y.cls = C ∧ y.cls ≠ "java/lang/invoke/MethodHandle" ∧ y.cls ≠ "java/lang/invoke/VarHandle" ∧ (parseMethodDescriptor y.desc).map (fun d => d.parameters.length) = some n) (hR : rm.frames + 1 ≤ R.frames ∧ 8 + (maxL + 11) + rm.locals ≤ R.locals)
    (hn : As.length = n) (hsize : ls.size = nL) (hst : st0 = As.reverse ++ rest) (hW : (rest.map fun v => v.category).sum ≤ 8) (hdg : decode cc pc = .ok (.invokestatic idx, 3)) (hf : cells ≤ R.cells ∧ slots ≤ R.slots)
    (kk : W p l e R s m args below meth c H locs cells slots Q (F0 m (pc + 3) ls rest)) : W p l e R s m args below meth c H locs cells slots Q (F0 m pc ls st0) := by
  have hr := W.runS (p := p) (e := e) (m := m) (below := below) (meth := meth) (H := H) (locs := locs) (cells := cells) (slots := slots) (g := F0 m pc ls st0) (As := As) (rest := rest) ⟨hx, hb, hml, hown, hts⟩ hM (cwS n hts hG (by rw [hk]) hrc hrs hd hR) ⟨fun a U g mk q => ⟨q.1, trivial⟩, fun U hU hW => ⟨rfl, trivial⟩⟩ rfl hn hsize hst (lv_room hW) hdg hf
  intro T hT X
  obtain ⟨v, st₀, t, T', L, h0, X', hL, e1, ⟨hv, hh⟩, st⟩ := hr T hT X
  cases hv
  obtain ⟨t2, a1, b1⟩ := kk T' (by rw [e1, hh, h0]) (Stand.forget X' (fun q h => (hL q h).elim))
  exact ⟨t2, st t2 a1, b1⟩
/-- a static method of another class of numbers (Integer.bitCount) -/
theorem xc_callJ {post : Int32 → Prop} {C : String} (hx : p.tables.exec = Jvm.exec) (hb : c.code = cc) (hml : c.maxLocals = nL) (hown : s.vm.findClass C = some m.cls) (hts : ∀ w ∈ c1 :: TB, w.before args s = true)
    (hM : XMs l y k rm As post) (hl : .methodLink C idx y ∈ TB) (hst2 : .static y ∈ TB) (hini : .initialized y.cls ∈ TB) (hc : k ∈ TB) (hk : k = Cond.code y bytes maxL ret) (hrc : rm.cells = 0) (hrs : rm.slots = 0)
    (hd : y.cls ≠ "java/lang/invoke/MethodHandle" ∧ y.cls ≠ "java/lang/invoke/VarHandle" ∧ (parseMethodDescriptor y.desc).map (fun d => d.parameters.length) = some n) (hR : rm.frames + 1 ≤ R.frames ∧ 8 + (maxL + 11) + rm.locals ≤ R.locals)
    (hn : As.length = n) (hsize : ls.size = nL) (hst : st0 = As.reverse ++ rest) (hW : (rest.map fun v => v.category).sum ≤ 8) (hdg : decode cc pc = .ok (.invokestatic idx, 3)) (hf : cells ≤ R.cells ∧ slots ≤ R.slots)
    (kk : ∀ r : Int32, post r → W p l e R s m args below meth c H locs cells slots Q (F0 m (pc + 3) ls (.int r :: rest))) : W p l e R s m args below meth c H locs cells slots Q (F0 m pc ls st0) := by
  have hh : ∀ w ∈ TB, w.before args s = true := fun w h => hts w (List.mem_cons_of_mem _ h)
  exact vp_callSi (W.runS (As := As) (rest := rest) ⟨hx, hb, hml, hown, hts⟩ hM ⟨callB_of n hts (tb_Good hc) (by rw [hk]) hrc hrs (hh _ hini) (hh _ hl) hd hR, hh _ hst2⟩ ⟨fun a U g mk q => ⟨q.1, trivial⟩, fun U hU hW => ⟨rfl, trivial⟩⟩ rfl hn hsize hst (lv_room hW) hdg hf) kk
end XE
def fMask (n : Nat) : Int32 := if n = 1 then 255 else 65535
def fPart (x : Int32) (i n : Nat) (v : Int32) : Int32 := (x &&& ((fMask n <<< (nI (8 * i) &&& 31)) ^^^ (-1))) ||| ((v &&& fMask n) <<< (nI (8 * i) &&& 31))
def fCopy2 (u : TC) (g f : Nat) : TC := fChGran (fWant u (g / 2)) g (tLw u (2 * f % 64)) (tLw u ((2 * f + 1) % 64)) (rTag u f)
theorem tI_chTag {u : TC} {g : Nat} {t : Int32} (h : tI u) : tI (fChTag u g t) := h
theorem tI_chWord {u : TC} {i : Nat} {w : Int32} (h : tI u) : tI (fChWord u i w) := h
theorem tI_chGran {u : TC} {g : Nat} {lo hi t : Int32} (h : tI u) : tI (fChGran u g lo hi t) := h
theorem rTag_01 (u : TC) (g : Nat) : rTag u g = 0 ∨ rTag u g = 1 := by
  unfold rTag
  by_cases h : tLt u (g / 2 % 16) &&& ftb g = 0
  · rw [if_pos h]; exact Or.inl rfl
  · rw [if_neg h]; exact Or.inr rfl
theorem rLineGo_01 (u : TC) (p : Nat) : rLineGo u p = 0 ∨ rLineGo u p = 1 := by
  unfold rLineGo
  by_cases h : tLa u p = -1 ∨ tLc u p = 0
  · rw [if_pos h]; exact Or.inl rfl
  · rw [if_neg h]; exact Or.inr rfl
/-- flush's first loop: d PLACES from i on -/
def fFlL : Nat → Nat → TC → Int32 → TC × Int32
  | 0, _, u, a => (u, a)
  | d + 1, i, u, a => fFlL d (i + 1) (fLineGo u i) (a + rLineGo u i)
/-- .. and its second -/
def fFlR : Nat → Nat → TC → TC
  | 0, _, u => u
  | d + 1, i, u => fFlR d (i + 1) (fRowGo u i)
def fFlush (u : TC) : TC := fFlR 4 0 (fFlL 16 0 u 0).1
def rFlush (u : TC) : Int32 := (fFlL 16 0 u 0).2
theorem tI_flL : ∀ (d i : Nat) (u : TC) (a : Int32), i + d ≤ 16 → tI u → tI (fFlL d i u a).1
  | 0, _, _, _, _, h => h
  | d + 1, i, u, a, hi, h => tI_flL d (i + 1) (fLineGo u i) (a + rLineGo u i) (by omega) (tI_lineGo h (by omega))
theorem tI_flR : ∀ (d i : Nat) (u : TC), tI u → tI (fFlR d i u)
  | 0, _, _, h => h
  | d + 1, i, u, h => tI_flR d (i + 1) (fRowGo u i) (tI_rowGo h)
/-- how many of the first d places from i on hold another number than x -/
def fCntNe (x : Int32) (f : Nat → Int32) : Nat → Nat → Int32 → Int32
  | 0, _, a => a
  | d + 1, i, a => fCntNe x f d (i + 1) (if f i = x then a else a + 1)
