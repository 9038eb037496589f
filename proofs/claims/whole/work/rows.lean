section
/-! A thrown object caught in the frame that called: the search through the rows of the table, each either passed or the one that takes it. (After the library's laws of one row: ThrowLaws, Cold.) -/
section CQ
theorem cq_one {e : Env} {d : Bool} {acts : List Action} {Q : Handler → Pre} {E : CtlPost} {S : State} {f : JFrame} {a : Addr} {x : ExceptionTableEntry} {t : List ExceptionTableEntry} {k : ClassId} {cell : Cell} (hx : covers x f.pc = true) (h0 : x.catchType ≠ 0)
    (hl : S.vm.ClassLinks e.platform f.method.cls x.catchType k) (hcell : S.heap[a]? = some cell) (hobj : ∀ j, cell.vm ≠ .statics j) (hk : ∃ z, S.vm.classes[cell.cls]? = some z) (hc : ∃ z, S.vm.classes[k]? = some z) :
    wp (findHandler.go f a (x :: t)) Q E e d acts S ↔ if S.vm.assignable cell.cls k = true then Q (.found x.handlerPc) d acts (S.setVm (S.vm.noted f.method.cls x.catchType (.cls k))) else wp (findHandler.go f a t) Q E e d acts (S.setVm (S.vm.noted f.method.cls x.catchType (.cls k))) := by
  simp only [covers] at hx
  obtain ⟨ha, ht⟩ := (resolveClass_links e.toSetting hl).op (op := VmOp.resolveClass f.method.cls x.catchType) rfl
  have hal : S.vm.Alike (S.vm.noted f.method.cls x.catchType (.cls k)) := (Vm.Alike.refl S.vm).noted _ _ _
  obtain ⟨z1, g1⟩ := hk
  obtain ⟨z2, g2⟩ := hc
  obtain ⟨z3, g3, -⟩ := hal.2.2 _ _ g1
  obtain ⟨z4, g4, -⟩ := hal.2.2 _ _ g2
  have hq : (S.vm.noted f.method.cls x.catchType (.cls k)).assignable cell.cls k = S.vm.assignable cell.cls k := by rw [hal.assignable]
  by_cases hfit : S.vm.assignable cell.cls k = true
  · rw [if_pos hfit]
    rw [hfit] at hq
    simp [findHandler.go, hx, h0, ha, ht, hcell, hobj, g3, g4, hq, VmOp.dirties, VmOp.acts]
  · rw [if_neg hfit]
    rw [Bool.eq_false_iff.mpr hfit] at hq
    simp [findHandler.go, hx, h0, ha, ht, hcell, hobj, g3, g4, hq, VmOp.dirties, VmOp.acts]
theorem cq_rows {e : Env} {s₀ : State} {f : JFrame} {a : Addr} {cell : Cell} (hobj : ∀ j, cell.vm ≠ .statics j) (hk0 : ∃ z, s₀.vm.classes[cell.cls]? = some z)
    (x : ExceptionTableEntry) (rest : List ExceptionTableEntry) (hx : covers x f.pc = true) (h0 : x.catchType ≠ 0) {k : ClassId} (hl : s₀.vm.ClassLinks e.platform f.method.cls x.catchType k) (hfit : s₀.vm.assignable cell.cls k = true) :
    ∀ (pre : List ExceptionTableEntry) (S : State), s₀.WarmedH S.vm → S.heap[a]? = some cell → (∀ y ∈ pre, covers y f.pc = false ∨ (y.catchType ≠ 0 ∧ ∃ j, s₀.vm.ClassLinks e.platform f.method.cls y.catchType j ∧ s₀.vm.assignable cell.cls j = false)) →
      ∃ vm', s₀.WarmedH vm' ∧ ∀ (Q : Handler → Pre) (E : CtlPost) (d : Bool) (acts : List Action), wp (findHandler.go f a (pre ++ x :: rest)) Q E e d acts S ↔ Q (.found x.handlerPc) d acts (S.setVm vm') := by
  obtain ⟨z0, hz0⟩ := hk0
  intro pre
  induction pre with
  | nil =>
    intro S hW hcell _
    obtain ⟨z1, g1, -⟩ := hW.alike.2.2 _ _ hz0
    obtain ⟨dk, _, _, kt, hd, _, _, _, _, hkt, _, hop⟩ := hl.here
    obtain ⟨z2, g2, -⟩ := hW.alike.2.2 _ _ hkt
    refine ⟨_, hW.noted hd hop (State.rightAt_cls hl), fun Q E d acts => ?_⟩
    rw [List.nil_append, cq_one hx h0 (hW.classLinks hl) hcell hobj ⟨z1, g1⟩ ⟨z2, g2⟩, if_pos (by rw [hW.alike.assignable]; exact hfit)]
  | cons y ys ih =>
    intro S hW hcell hp
    obtain ⟨z1, g1, -⟩ := hW.alike.2.2 _ _ hz0
    have hr : ∀ z ∈ ys, covers z f.pc = false ∨ (z.catchType ≠ 0 ∧ ∃ j, s₀.vm.ClassLinks e.platform f.method.cls z.catchType j ∧ s₀.vm.assignable cell.cls j = false) := fun z hz => hp z (List.mem_cons_of_mem _ hz)
    by_cases hcov : covers y f.pc = true
    · rcases hp y List.mem_cons_self with h | ⟨hy0, j, hj, hno⟩
      · rw [h] at hcov; cases hcov
      · obtain ⟨dk, _, _, kt, hd, _, _, _, _, hkt, _, hop⟩ := hj.here
        obtain ⟨z2, g2, -⟩ := hW.alike.2.2 _ _ hkt
        obtain ⟨vm', hW', hq⟩ := ih (S.setVm (S.vm.noted f.method.cls y.catchType (.cls j))) (hW.noted hd hop (State.rightAt_cls hj)) hcell hr
        refine ⟨vm', hW', fun Q E d acts => ?_⟩
        rw [List.cons_append, cq_one hcov hy0 (hW.classLinks hj) hcell hobj ⟨z1, g1⟩ ⟨z2, g2⟩, if_neg (by rw [hW.alike.assignable, hno]; decide)]
        exact hq Q E d acts
    · obtain ⟨vm', hW', hq⟩ := ih S hW hcell hr
      refine ⟨vm', hW', fun Q E d acts => ?_⟩
      rw [List.cons_append, W.findHandler_go_skip (by simpa using hcov)]
      exact hq Q E d acts
theorem cq_caught {p : Program} {l : Launch} {e : Env} {R : Room} {s : State} {m : MethodId} {args : Array Value} {below : List Frame} {meth : Method} {c : Code} {T : State} {locs : List Loc} {cells slots : Nat}
    (X : Stand p l e R s m args below meth c T locs cells slots) (a : Addr) {g : JFrame} (hg : g.method = m) {cell : Cell} (hcell : T.heap[a]? = some cell) (hobj : cell.vm.isStatics = false) (hk0 : ∃ z, s.vm.classes[cell.cls]? = some z)
    (pre : List ExceptionTableEntry) (x : ExceptionTableEntry) (rest : List ExceptionTableEntry) (hsplit : c.exceptionTable.toList = pre ++ x :: rest)
    (hp : ∀ y ∈ pre, covers y g.pc = false ∨ (y.catchType ≠ 0 ∧ ∃ j, s.vm.ClassLinks e.platform m.cls y.catchType j ∧ s.vm.assignable cell.cls j = false)) (hx : covers x g.pc = true) (h0 : x.catchType ≠ 0) {k : ClassId} (hl : s.vm.ClassLinks e.platform m.cls x.catchType k) (hfit : s.vm.assignable cell.cls k = true) :
    ∃ vm', Stand p l e R s m args below meth c (T.setVm vm') locs cells slots ∧ Steps p.tables e below ((T.setTop g).pushFrame (.throwing a)) ((T.setVm vm').setTop { g with pc := x.handlerPc, stack := [.ref a] }) := by
  subst hg
  have hm : ((T.setTop g).pushFrame (.throwing a)).vm.method? g.method = some meth := X.method'
  obtain ⟨vm', hW', hq⟩ := cq_rows (e := e) (s₀ := s) (f := g) (a := a) (VmData.ne_statics_of hobj) hk0 x rest hx h0 hl hfit pre ((T.setTop g).pushFrame (.throwing a)) X.warmed hcell hp
  refine ⟨vm', X.noted hW', ?_⟩
  obtain ⟨hgo, hw⟩ := X.here.throwing a (g := g)
  refine Steps.head hgo hw ?_
  have hstep : (stepThrowing e ((T.setTop g).pushFrame (.throwing a)) a (.java g :: T.frames.tail)).Is ((((T.setTop g).pushFrame (.throwing a)).setVm vm').setFrames (.java { g with pc := x.handlerPc, stack := [.ref a] } :: T.frames.tail)) [] := by
    simp only [stepThrowing, searchFrame, vmDo]
    generalize hr : Sem.go _ e false [] ((T.setTop g).pushFrame (.throwing a)) = res
    obtain ⟨as, rfl, ha⟩ := Sem.eq_ok_of hr (a := Handler.found x.handlerPc) (s' := ((T.setTop g).pushFrame (.throwing a)).setVm vm') (acts' := []) (by
      have hfe : ∀ (Q : Handler → Pre) (E : CtlPost) (d : Bool) (acts : List Action), wp (findHandler g a) Q E e d acts ((T.setTop g).pushFrame (.throwing a)) ↔ Q (.found x.handlerPc) d acts (((T.setTop g).pushFrame (.throwing a)).setVm vm') := fun Q E d acts => by
        rw [W.findHandler_eq hm X.code, hsplit]; exact hq Q E d acts
      simp [hfe _ _ _ _])
    exact ⟨rfl, ha⟩
  rw [stepThread_throwing (frames_entered X.here.top _), hstep.1]
  obtain ⟨g₀, hg0⟩ := Option.isSome_iff_exists.mp X.here.top
  obtain ⟨r, hr⟩ := State.topJava?_eq_some.mp hg0
  have hr2 : (T.setVm vm').frames = .java g₀ :: r := hr
  have hsv : ∀ (u : State) (F G : List Frame), ((u.setFrames F).setVm vm').setFrames G = (u.setVm vm').setFrames G := fun u F G => by
    rw [show (u.setFrames F).setVm vm' = (u.setVm vm').setFrames F from rfl, State.setFrames_setFrames]
  rw [State.setTop_of_frames _ hr2, hr, List.tail_cons, State.pushFrame, hsv, State.setTop_of_frames _ hr, hsv]
  exact Steps.refl _
end CQ
end
section
/-! ===== BEGIN words of one list among another's, by their places ===== -/
theorem goodIn_r {big : List Cond} (ws : List Cond) (ps : List Nat) (hp : ws = ps.filterMap (fun i => big[i]?)) (h : ws.all goodWord = true) : GoodIn big ws := by
  intro w hw
  have h1 := List.all_eq_true.mp h w hw
  rw [hp] at hw
  obtain ⟨i, -, hi⟩ := List.mem_filterMap.mp hw
  have hm : w ∈ big := by first | exact List.mem_of_getElem? hi | exact List.getElem?_mem hi
  exact ⟨hm, good_of_word h1⟩
theorem goodIn_app {big a b : List Cond} (ha : GoodIn big a) (hb : GoodIn big b) : GoodIn big (a ++ b) := fun w h => (List.mem_append.mp h).elim (ha w) (hb w)
theorem goodIn_ca {big a b : List Cond} {c : Cond} (ha : GoodIn big (c :: a)) (hb : GoodIn big b) : GoodIn big (c :: (a ++ b)) := fun w h => (List.mem_cons.mp h).elim (fun e => ha w (List.mem_cons.mpr (Or.inl e))) (fun h => (List.mem_append.mp h).elim (fun h => ha w (List.mem_cons.mpr (Or.inr h))) (hb w))
theorem goodIn_sub {big ws : List Cond} (hm : ∀ w ∈ ws, w ∈ big) (h : ws.all goodWord = true) : GoodIn big ws := fun w hw => ⟨hm w hw, good_of_word (List.all_eq_true.mp h w hw)⟩
/-! ===== END ===== -/

/-! ===== BEGIN exceptions that leave a method, and their catching by the caller (launches without stack traces) ===== -/
section VXA
/-! The laws vx_back, vx_callV, vx_callS, vx_callSW, vx_throw0, vx_throwS follow proofs of the library, with one case more: JvmDerived/Free/Laws.lean (Back.of_free), Shelf42/LK1.lean (callV, callS), Shelf/KitTraced.lean (throwNew0V, throwNewS). -/
/-- where a method has thrown q: the class by its name, the cell, what was written, the world -/
def vx_T (XC : String → State → State → Prop) (st : State) (q : Addr) (t : State) (mc ms : Nat) (free : Addr → Prop) : Prop :=
  ∃ (E : String) (ce : Cell) (L : List Loc), XC E st t ∧ t.heap[q]? = some ce ∧ ce.vm = .none ∧ st.vm.findClass E = some ce.cls ∧ st.WarmedH t.vm ∧ st.sameButNew ({ t with vm := st.vm } : State) L mc ms ∧ ∀ z ∈ L, free z.base
def vx_Q (Qc : Array Value → State → Outcome → State → Prop) (XC : String → State → State → Prop) (mc ms : Nat) (free : Addr → Prop) : Array Value → State → Outcome → State → Prop := fun a st o t =>
  (Qc a st o t ∧ ∃ L, FrameEnd st o t L mc ms ∧ ∀ q ∈ L, free q.base) ∨ ∃ q, o = .threw q ∧ vx_T XC st q t mc ms free
/-- a callee that returns or throws -/
def vx_Met (l : Launch) (y : MethodName) (ws : List Cond) (rm : Room) (Pc : Array Value → State → Prop) (Qc : Array Value → State → Outcome → State → Prop) (XC : String → State → State → Prop) (mc ms : Nat) (free : Addr → Prop) : Prop :=
  MetFree l y (headSpec ws rm) Pc (fun _ _ _ _ _ => True) (vx_Q Qc XC mc ms free)
def vx_Post (XC : String → State → State → Prop) (mc ms : Nat) (free : Addr → Prop) : Pt → Array Value → Addr → Pt → Prop := fun A a q B =>
  ∃ (g : JFrame) (mk : MethodId) (t : State) (L : List Loc) (E : String) (ce : Cell), B.U.heap = t.heap ∧ B.U.vm = t.vm ∧ XC E (A.U.calling g mk a) t ∧ t.heap[q]? = some ce ∧ ce.vm = .none ∧ A.U.vm.findClass E = some ce.cls ∧ B.locs = A.locs ++ L ∧ (∀ z ∈ L, free z.base) ∧ B.cells = A.cells + mc ∧ B.slots = A.slots + ms
def vx_Back (l : Launch) (R : Room) (p : Program) (e : Env) (below : List Frame) (s : State) (sargs : Array Value) (y : MethodName) (len W9 : Nat)
    (Pre : Pt → Array Value → Prop) (Post : Pt → Array Value → Option Value → Pt → Prop) (PostX : Pt → Array Value → Addr → Pt → Prop) : Prop :=
  ∀ (m : MethodId) (meth : Method) (c : Code) (A : Pt) (g : JFrame) (ig : Instr) (mk : MethodId) (a : Array Value),
    Stand p l e R s m sargs below meth c A.U A.locs A.cells A.slots → g.method = m → g.locals.size = c.maxLocals → decode c.code g.pc = .ok (ig, len) →
    2 * g.monitorRoom + (g.stack.map fun v => v.category).sum ≤ W9 → A.U.methodNamed? y = some mk → Pre A a →
    (∃ (v : Option Value) (B : Pt), Stand p l e R s m sargs below meth c B.U B.locs B.cells B.slots ∧ Post A a v B ∧
      Steps p.tables e below (doInvoke e (A.U.setTop g) [] mk a).1 (B.U.setTop { g with pc := g.pc + len, stack := v.toList ++ g.stack })) ∨
    (∃ (q : Addr) (B : Pt), Stand p l e R s m sargs below meth c B.U B.locs B.cells B.slots ∧ PostX A a q B ∧
      Steps p.tables e below (doInvoke e (A.U.setTop g) [] mk a).1 ((B.U.setTop g).pushFrame (.throwing q)))
section Payer
variable {l : Launch} {R : Room} {p : Program} {e : Env} {below : List Frame} {s : State} {sargs : Array Value} {y : MethodName} {len W9 : Nat}
theorem vx_back {ws : List Cond} {rm : Room} {Pc : Array Value → State → Prop} {Qc : Array Value → State → Outcome → State → Prop} {XC : String → State → State → Prop} {mc ms : Nat} {free : Addr → Prop} {bytes : ByteArray} {maxL : Nat} {ret : Option FieldType}
    (hM : vx_Met l y ws rm Pc Qc XC mc ms free) (hblind : FrameBlind Pc) (hrc : rm.cells = mc) (hrs : rm.slots = ms)
    (hframes : rm.frames + 1 ≤ R.frames) (hlocals : W9 + (maxL + 11) + rm.locals ≤ R.locals)
    (hws : ∀ w ∈ ws, ∀ a' U, s.WarmedH U.vm → w.before a' U = true) (hcode : Cond.code y bytes maxL ret ∈ ws) (hinit : ∀ a' U, s.WarmedH U.vm → (Cond.initialized y.cls).before a' U = true) :
    vx_Back l R p e below s sargs y len W9 (PreOf R mc ms Pc) (PostOf Qc mc ms free) (vx_Post XC mc ms free) := by
  intro m meth c A g ig mk a X hg hsize hdg hW hn hp
  have h1 : (headSpec ws rm).pre.before a A.U = true := atoms_intro fun w hw => hws w hw _ _ X.warmed
  have h2 : (Cond.code y bytes maxL ret).before a A.U = true := hws _ hcode _ _ X.warmed
  have h3 : (Cond.initialized y.cls).before a A.U = true := hinit _ _ X.warmed
  have h4 : A.cells + (headSpec ws rm).room.cells ≤ R.cells := by rw [show (headSpec ws rm).room.cells = mc from hrc]; exact hp.1
  have h5 : A.slots + (headSpec ws rm).room.slots ≤ R.slots := by rw [show (headSpec ws rm).room.slots = ms from hrs]; exact hp.2.1
  have hPc : Pc a (A.U.calling g mk a) := hblind _ _ _ _ hp.2.2
  obtain ⟨U, Ls, c0, s0⟩ := A
  dsimp only [Pt.U, Pt.locs, Pt.cells, Pt.slots] at h1 h2 h3 h4 h5 X hn hPc ⊢
  obtain ⟨methY, cY, hmY, hcY, -, hlY, -, -, -, -⟩ := Cond.code_spec hn h2
  obtain ⟨kY, hkY, -⟩ := className_of_methodNamed hn
  have hinitY : kY.init = .initialized := Cond.initialized_spec (findClass_of_methodNamed hn) hkY h3
  have h : At U g.method c below := by rw [hg]; exact X.here
  have hlocals9 : W9 + (maxL + 11) + (headSpec ws rm).room.locals ≤ R.locals := hlocals
  have happ : (headSpec ws rm).appliesLoose y e.platform (U.calling g mk a) = true :=
    Spec.appliesLoose_calling (g := g) h hdg hn hkY hinitY
      (X.room_calling (g := g) (R' := (headSpec ws rm).room) hsize hmY hcY hframes (by rw [hlY]; omega) h4 h5) h1
  obtain ⟨mid, hmid⟩ := h.above
  have hfr : (U.setTop g).frames = (.java g :: mid) ++ below := by rw [State.frames_setTop' g h.top, hmid]; rfl
  obtain ⟨o, s₂, hsteps, -, hend, hq⟩ := Steps.callFree hM p X.admits X.cas X.clock (acts := []) hfr happ hPc trivial
  have hq' : vx_Q Qc XC mc ms free a (U.calling g mk a) o s₂ := hq
  rw [State.frames_setTop' g h.top] at hend
  obtain ⟨g₀, hg0⟩ := Option.isSome_iff_exists.mp h.top
  obtain ⟨r, hr⟩ := State.topJava?_eq_some.mp hg0
  have hr' : (({ U with heap := s₂.heap, slotsUsed := s₂.slotsUsed } : State).setVm s₂.vm).frames = .java g₀ :: r := hr
  rcases hq' with ⟨hqc, L, hfe, hL⟩ | ⟨q, rfl, E, ce, L, hx, hce, hcv, hcl, hW₂, hsm, hL⟩
  · obtain ⟨⟨v, rfl⟩, hW₂, e2, q2, q3, q4, q5, q6⟩ := id hfe
    have e3 : s₂ = ({ (U.calling g mk a).setFrames s₂.frames with heap := s₂.heap, slotsUsed := s₂.slotsUsed } : State).setVm s₂.vm := by
      have : s₂ = ({ s₂ with vm := (U.calling g mk a).vm } : State).setVm s₂.vm := rfl
      rw [e2] at this
      exact this
    obtain ⟨c₂, i₂, len₂, hc₂, hd₂, hf₂⟩ := hend
    have hW' : U.WarmedH s₂.vm := hW₂
    have hcc : c₂ = c := by
      have h1 : s₂.code? g.method = U.code? g.method := by
        rw [State.code?_eq, State.code?_eq, hW'.alike.method?]
      exact Option.some.inj (hc₂.symm.trans (h1.trans h.code))
    subst hcc
    have hlen : len₂ = len := by rw [hdg] at hd₂; cases hd₂; rfl
    subst hlen
    have hs₂ : s₂ = (({ U with heap := s₂.heap, slotsUsed := s₂.slotsUsed } : State).setVm s₂.vm).setTop { g with pc := g.pc + len₂, stack := v.toList ++ g.stack } := by
      refine e3.trans ?_
      rw [hf₂, State.calling_eq h.top, State.setFrames_setFrames, State.setTop_of_frames _ hr', hr]
      rfl
    have hsame : U.sameButNew ({ U with heap := s₂.heap, slotsUsed := s₂.slotsUsed } : State) L mc ms := by
      refine ⟨?_, q2, q3, q4, q5, q6⟩
      obtain ⟨t, ht, -⟩ := State.frames_cons hr
      show ({ U with heap := s₂.heap, slotsUsed := s₂.slotsUsed } : State) = { U.setFrames U.frames with heap := s₂.heap, slotsUsed := s₂.slotsUsed }
      rw [State.setFrames_self ht]
    subst hg
    refine Or.inl ⟨v, ⟨(({ U with heap := s₂.heap, slotsUsed := s₂.slotsUsed } : State).setVm s₂.vm), Ls ++ L, c0 + mc, s0 + ms⟩,
      ⟨X.admits, X.cas, X.clock, X.frames, X.room, X.hears, X.method, X.code, (X.here.setHeapUsed s₂.heap s₂.slotsUsed).setVm hW'.alike, X.tail, State.WarmedH.trans X.warmed hW', X.limits, X.bytes, X.same.trans (hsame.setVm s.vm)⟩,
      ⟨g, mk, s₂, L, rfl, rfl, hqc, rfl, hL, rfl, rfl⟩, ?_⟩
    show Steps p.tables e below _ ((({ U with heap := s₂.heap, slotsUsed := s₂.slotsUsed } : State).setVm s₂.vm).setTop { g with pc := g.pc + len₂, stack := v.toList ++ g.stack })
    rw [← hs₂]
    exact hsteps
  · obtain ⟨e2, q2, q3, q4, q5, q6⟩ := id hsm
    have e3 : s₂ = ({ (U.calling g mk a).setFrames s₂.frames with heap := s₂.heap, slotsUsed := s₂.slotsUsed } : State).setVm s₂.vm := by
      have : s₂ = ({ s₂ with vm := (U.calling g mk a).vm } : State).setVm s₂.vm := rfl
      rw [e2] at this
      exact this
    have hf₂ : s₂.frames = .throwing q :: .java g :: U.frames.tail := hend
    have hW' : U.WarmedH s₂.vm := hW₂
    have hs₂ : s₂ = ((({ U with heap := s₂.heap, slotsUsed := s₂.slotsUsed } : State).setVm s₂.vm).setTop g).pushFrame (.throwing q) := by
      refine e3.trans ?_
      rw [hf₂, State.calling_eq h.top, State.setFrames_setFrames, State.pushFrame, State.frames_setTop _ hr', State.setTop_of_frames _ hr', State.setFrames_setFrames, hr]
      rfl
    have hsame : U.sameButNew ({ U with heap := s₂.heap, slotsUsed := s₂.slotsUsed } : State) L mc ms := by
      refine ⟨?_, q2, q3, q4, q5, q6⟩
      obtain ⟨t, ht, -⟩ := State.frames_cons hr
      show ({ U with heap := s₂.heap, slotsUsed := s₂.slotsUsed } : State) = { U.setFrames U.frames with heap := s₂.heap, slotsUsed := s₂.slotsUsed }
      rw [State.setFrames_self ht]
    subst hg
    refine Or.inr ⟨q, ⟨(({ U with heap := s₂.heap, slotsUsed := s₂.slotsUsed } : State).setVm s₂.vm), Ls ++ L, c0 + mc, s0 + ms⟩,
      ⟨X.admits, X.cas, X.clock, X.frames, X.room, X.hears, X.method, X.code, (X.here.setHeapUsed s₂.heap s₂.slotsUsed).setVm hW'.alike, X.tail, State.WarmedH.trans X.warmed hW', X.limits, X.bytes, X.same.trans (hsame.setVm s.vm)⟩,
      ⟨g, mk, s₂, L, E, ce, rfl, rfl, hx, hce, hcv, hcl, rfl, hL, rfl, rfl⟩, ?_⟩
    show Steps p.tables e below _ (((({ U with heap := s₂.heap, slotsUsed := s₂.slotsUsed } : State).setVm s₂.vm).setTop g).pushFrame (.throwing q))
    rw [← hs₂]
    exact hsteps
end Payer
section Calls
variable {p : Program} {l : Launch} {e : Env} {R : Room} {s : State} {m : MethodId} {args : Array Value} {below : List Frame} {meth : Method} {c : Code} {T : State} {locs : List Loc} {cells slots : Nat}
theorem vx_callV (X : Stand p l e R s m args below meth c T locs cells slots) (hexec : p.tables.exec = Jvm.exec) {own C : String} {index : Nat} {y : MethodName} {bytes : ByteArray} {maxL : Nat} {ret : Option FieldType}
    (hown : s.vm.findClass own = some m.cls) (hlink : (Cond.methodLink own index y).before args s = true) (hinst : (Cond.instanceMethod y).before args s = true) (hsel : (Cond.selects C y y).before args s = true)
    (hcode : (Cond.code y bytes maxL ret).before args s = true) (hy : y.cls ≠ "java/lang/invoke/MethodHandle" ∧ y.cls ≠ "java/lang/invoke/VarHandle")
    {W9 : Nat} {Pre : Pt → Array Value → Prop} {Post : Pt → Array Value → Option Value → Pt → Prop} {PostX : Pt → Array Value → Addr → Pt → Prop} (hK : vx_Back l R p e below s args y 3 W9 Pre Post PostX)
    {b : Addr} {cellB : Cell} (hcell : T.heap[b]? = some cellB) (hobj : cellB.vm.isStatics = false) (hcls : s.vm.findClass C = some cellB.cls)
    {g : JFrame} (hg : g.method = m) (hsize : g.locals.size = c.maxLocals) {argsL rest : List Value} (hlen : ∀ sig, parseMethodDescriptor y.desc = some sig → argsL.length = sig.parameters.length)
    (hstack : g.stack = argsL.reverse ++ .ref b :: rest) (hW : 2 * g.monitorRoom + (rest.map fun v => v.category).sum ≤ W9) (hdg : decode c.code g.pc = .ok (.invokevirtual index, 3))
    (hpre : ∀ vm₁, s.WarmedH vm₁ → Pre ⟨T.setVm vm₁, locs, cells, slots⟩ (Value.ref b :: argsL).toArray) :
    (∃ (v : Option Value) (vm₁ : Vm) (B : Pt), s.WarmedH vm₁ ∧ Stand p l e R s m args below meth c B.U B.locs B.cells B.slots ∧ Post ⟨T.setVm vm₁, locs, cells, slots⟩ (Value.ref b :: argsL).toArray v B ∧
      ∀ target, Steps p.tables e below (B.U.setTop { g with pc := g.pc + 3, stack := v.toList ++ rest }) target → Steps p.tables e below (T.setTop g) target) ∨
    (∃ (q : Addr) (vm₁ : Vm) (B : Pt), s.WarmedH vm₁ ∧ Stand p l e R s m args below meth c B.U B.locs B.cells B.slots ∧ PostX ⟨T.setVm vm₁, locs, cells, slots⟩ (Value.ref b :: argsL).toArray q B ∧
      Steps p.tables e below (T.setTop g) ((B.U.setTop { g with stack := rest }).pushFrame (.throwing q))) := by
  obtain ⟨mk, methM, hnamed, hmethM, hstM, habM⟩ := Cond.instanceMethod_spec hinst
  obtain ⟨methM', cM, hmethM', -, -, -, -, -, -, hsigM⟩ := Cond.code_spec hnamed hcode
  cases hmethM.symm.trans hmethM'
  obtain ⟨c2, r2, m2, q1, q2, q3, q4, kP, hkP, hkPi⟩ := Cond.selects_spec hsel
  cases hcls.symm.trans q1
  cases (State.methodFound?_of_named hnamed hy).symm.trans q2
  cases hnamed.symm.trans q3
  have hselP : selectMethod e.platform s.vm cellB.cls mk = .method mk := by rw [Launch.admits_selectMethod X.admits]; exact q4
  obtain ⟨vm₁, X₁, hstep₁⟩ := X.invokevirtual hexec hown hlink hnamed hmethM hstM hkP hkPi hy (a := b) (cell := cellB) hcell
    (fun z h => by rw [h] at hobj; cases hobj) hselP hmethM habM hkP hkPi (g := g) hg (argsL := argsL) (rest := rest) (hlen _ hsigM) hstack hdg
  rcases hK m meth c ⟨T.setVm vm₁, locs, cells, slots⟩ { g with stack := rest } (.invokevirtual index) mk (Value.ref b :: argsL).toArray X₁ hg hsize hdg hW (X₁.named hnamed) (hpre vm₁ X₁.warmed) with ⟨v, B, X', hpost, hsteps⟩ | ⟨q, B, X', hpost, hsteps⟩
  · exact Or.inl ⟨v, vm₁, B, X₁.warmed, X', hpost, fun target h => hstep₁ _ fun acts => by rw [doInvoke_state]; exact hsteps.trans h⟩
  · exact Or.inr ⟨q, vm₁, B, X₁.warmed, X', hpost, hstep₁ _ fun acts => by rw [doInvoke_state]; exact hsteps⟩
theorem vx_callS (X : Stand p l e R s m args below meth c T locs cells slots) (hexec : p.tables.exec = Jvm.exec) {own : String} {index : Nat} {y : MethodName} {bytes : ByteArray} {maxL : Nat} {ret : Option FieldType}
    (hown : s.vm.findClass own = some m.cls) (hlink : (Cond.methodLink own index y).before args s = true) (hstat : (Cond.static y).before args s = true) (hinit : (Cond.initialized y.cls).before args s = true)
    (hcode : (Cond.code y bytes maxL ret).before args s = true) (hy : y.cls ≠ "java/lang/invoke/MethodHandle" ∧ y.cls ≠ "java/lang/invoke/VarHandle")
    {W9 : Nat} {Pre : Pt → Array Value → Prop} {Post : Pt → Array Value → Option Value → Pt → Prop} {PostX : Pt → Array Value → Addr → Pt → Prop} (hK : vx_Back l R p e below s args y 3 W9 Pre Post PostX)
    {g : JFrame} (hg : g.method = m) (hsize : g.locals.size = c.maxLocals) {argsL rest : List Value} (hlen : ∀ sig, parseMethodDescriptor y.desc = some sig → argsL.length = sig.parameters.length)
    (hstack : g.stack = argsL.reverse ++ rest) (hW : 2 * g.monitorRoom + (rest.map fun v => v.category).sum ≤ W9) (hdg : decode c.code g.pc = .ok (.invokestatic index, 3))
    (hpre : ∀ vm₁, s.WarmedH vm₁ → Pre ⟨T.setVm vm₁, locs, cells, slots⟩ argsL.toArray) :
    (∃ (v : Option Value) (vm₁ : Vm) (B : Pt), s.WarmedH vm₁ ∧ Stand p l e R s m args below meth c B.U B.locs B.cells B.slots ∧ Post ⟨T.setVm vm₁, locs, cells, slots⟩ argsL.toArray v B ∧
      ∀ target, Steps p.tables e below (B.U.setTop { g with pc := g.pc + 3, stack := v.toList ++ rest }) target → Steps p.tables e below (T.setTop g) target) ∨
    (∃ (q : Addr) (vm₁ : Vm) (B : Pt), s.WarmedH vm₁ ∧ Stand p l e R s m args below meth c B.U B.locs B.cells B.slots ∧ PostX ⟨T.setVm vm₁, locs, cells, slots⟩ argsL.toArray q B ∧
      Steps p.tables e below (T.setTop g) ((B.U.setTop { g with stack := rest }).pushFrame (.throwing q))) := by
  obtain ⟨mk, hnamed⟩ := Cond.code_named hcode
  obtain ⟨methM, cM, hmethM, -, -, -, -, -, -, hsigM⟩ := Cond.code_spec hnamed hcode
  have hstatic : methM.isStatic = true := Cond.static_spec hnamed hmethM hstat
  obtain ⟨kP, hkP, -⟩ := className_of_methodNamed hnamed
  have hinitP : kP.init = .initialized := Cond.initialized_spec (findClass_of_methodNamed hnamed) hkP hinit
  obtain ⟨vm₁, X₁, hstep₁⟩ := X.invokestatic hexec hown hlink hnamed hmethM hstatic hkP hinitP hy (g := g) hg (argsL := argsL) (rest := rest) (hlen _ hsigM) hstack hdg
  rcases hK m meth c ⟨T.setVm vm₁, locs, cells, slots⟩ { g with stack := rest } (.invokestatic index) mk argsL.toArray X₁ hg hsize hdg hW (X₁.named hnamed) (hpre vm₁ X₁.warmed) with ⟨v, B, X', hpost, hsteps⟩ | ⟨q, B, X', hpost, hsteps⟩
  · exact Or.inl ⟨v, vm₁, B, X₁.warmed, X', hpost, fun target h => hstep₁ _ fun acts => by rw [doInvoke_state]; exact hsteps.trans h⟩
  · exact Or.inr ⟨q, vm₁, B, X₁.warmed, X', hpost, hstep₁ _ fun acts => by rw [doInvoke_state]; exact hsteps⟩
end Calls
theorem vx_cls {s : State} {T : State} {vm₁ : Vm} {E : String} {k : ClassId} (hW : s.WarmedH vm₁) (h : (T.setVm vm₁).vm.findClass E = some k) : s.vm.findClass E = some k := by
  have h1 : vm₁.findClass E = some k := h
  rw [hW.alike.findClass] at h1
  exact h1
/-- the method's frame g, with q thrown over it -/
def vx_W (p : Program) (l : Launch) (e : Env) (R : Room) (s : State) (m : MethodId) (args : Array Value) (below : List Frame) (meth : Method) (c : Code) (H : Heap) (locs : List Loc) (cells slots : Nat) (Q : State → Prop) (g : JFrame) (q : Addr) : Prop :=
  ∀ T : State, T.heap = H → Stand p l e R s m args below meth c T locs cells slots → ∃ t, Steps p.tables e below ((T.setTop g).pushFrame (.throwing q)) t ∧ Q t
def vx_Run (p : Program) (l : Launch) (e : Env) (R : Room) (s : State) (m : MethodId) (args : Array Value) (below : List Frame) (meth : Method) (c : Code) (H : Heap) (locs : List Loc) (cells slots mc ms : Nat) (g : JFrame) (rest : List Value) (Qa : State → Outcome → State → Prop) (XC : String → State → State → Prop) (free : Addr → Prop) : Prop :=
  ∀ T : State, T.heap = H → Stand p l e R s m args below meth c T locs cells slots →
    (∃ (v : Option Value) (st₀ t T' : State) (L : List Loc), st₀.heap = H ∧ Stand p l e R s m args below meth c T' (locs ++ L) (cells + mc) (slots + ms) ∧ (∀ q ∈ L, free q.base) ∧ T'.heap = t.heap ∧ T'.vm = t.vm ∧ Qa st₀ (.returned v) t ∧
      Goes p e below T g T' { g with pc := g.pc + 3, stack := v.toList ++ rest }) ∨
    (∃ (q : Addr) (st₀ t T' : State) (L : List Loc) (E : String) (ce : Cell), st₀.heap = H ∧ Stand p l e R s m args below meth c T' (locs ++ L) (cells + mc) (slots + ms) ∧ (∀ z ∈ L, free z.base) ∧ T'.heap = t.heap ∧ T'.vm = t.vm ∧ XC E st₀ t ∧ t.heap[q]? = some ce ∧ ce.vm = .none ∧ s.vm.findClass E = some ce.cls ∧
      Steps p.tables e below (T.setTop g) ((T'.setTop { g with stack := rest }).pushFrame (.throwing q)))
def vx_X {S : Type} (px : S → Prop) (B : String → S → State → Prop) (A : Nat → Prop) : String → State → State → Prop := fun E st t => ∃ u : S, px u ∧ B E u t ∧ va_F A st t
section Runs
variable {p : Program} {l : Launch} {e : Env} {R : Room} {s : State} {m : MethodId} {args : Array Value} {below : List Frame} {meth : Method} {c : Code} {H : Heap} {locs : List Loc} {cells slots : Nat}
variable {y : MethodName} {bytes cc : ByteArray} {maxL nL mc ms n index : Nat} {ret : Option FieldType} {ws : List Cond} {rm : Room} {Pc : Array Value → State → Prop} {Qc : Array Value → State → Outcome → State → Prop} {XC : String → State → State → Prop} {free : Addr → Prop} {Ts : List Cond} {own C : String} {b : Addr} {As rest : List Value} {g : JFrame}
theorem vx_callBack (cb : CallB R s args own index y bytes maxL ret ws rm mc ms n) (hM : vx_Met l y ws rm Pc Qc XC mc ms free) (hbl : FrameBlind Pc) : vx_Back l R p e below s args y 3 8 (PreOf R mc ms Pc) (PostOf Qc mc ms free) (vx_Post XC mc ms free) := by
  obtain ⟨hrc, hrs, hfr, hlo, hws, hcw, -, hini, -⟩ := cb
  exact vx_back (bytes := bytes) (maxL := maxL) (ret := ret) hM hbl hrc hrs hfr hlo hws hcw (fun a' U hW => word_at hW (Or.inl (by first | rfl | simp [Cond.onTables, Cond.keeps, Cond.steady])) hini)
theorem vx_runV (S : CallFix p m c cc nL s args Ts own) (hM : vx_Met l y ws rm Pc Qc XC mc ms free) (cw : CallW R s args own C index y bytes maxL ret ws rm mc ms n) (hp : PreV s H C b Pc As)
    (hg : g.method = m) (hn : As.length = n) (hsize : g.locals.size = nL) (hstack : g.stack = As.reverse ++ .ref b :: rest) (hW : 2 * g.monitorRoom + (rest.map fun v => v.category).sum ≤ 8) (hdg : decode cc g.pc = .ok (.invokevirtual index, 3)) (hf : cells + mc ≤ R.cells ∧ slots + ms ≤ R.slots) :
    vx_Run p l e R s m args below meth c H locs cells slots mc ms g rest (Qc (Value.ref b :: As).toArray) XC free := by
  have hK : vx_Back l R p e below s args y 3 8 (PreOf R mc ms Pc) (PostOf Qc mc ms free) (vx_Post XC mc ms free) := vx_callBack cw.1 hM hp.1
  obtain ⟨⟨-, -, -, -, -, -, hcode, -, hy, hlen, hl⟩, hin, hse⟩ := cw
  obtain ⟨hx, hb, hml, ho, -⟩ := S
  obtain ⟨-, ⟨cellB, hcB, hoB, hclB⟩, hPc⟩ := hp
  intro T hT X
  rcases vx_callV X hx (C := C) (bytes := bytes) (maxL := maxL) (ret := ret) ho hl hin hse hcode hy hK (by rw [hT]; exact hcB) hoB hclB hg (hsize.trans hml.symm) (argsL := As) (rest := rest) (fun sig h => hn.trans (hlen sig h)) hstack hW (by rw [hb]; exact hdg)
    (fun vm₁ hW₁ => ⟨hf.1, hf.2, hPc (T.setVm vm₁) hT hW₁⟩) with ⟨v, vm₁, ⟨U', l2, c2, s2⟩, hW₁, X', ⟨g', mk, t, L, e1, e2, hq, h1, hL, h2, h3⟩, st⟩ | ⟨q, vm₁, ⟨U', l2, c2, s2⟩, hW₁, X', ⟨g', mk, t, L, E, ce, e1, e2, hq, hce, hcv, hcl, h1, hL, h2, h3⟩, st⟩
  · dsimp only [Pt.U, Pt.locs, Pt.cells, Pt.slots] at X' e1 e2 h1 h2 h3 st
    subst h1; subst h2; subst h3
    exact Or.inl ⟨v, (T.setVm vm₁).calling g' mk (Value.ref b :: As).toArray, t, U', L, hT, X', hL, e1, e2, hq, st⟩
  · dsimp only [Pt.U, Pt.locs, Pt.cells, Pt.slots] at X' e1 e2 h1 h2 h3 st hcl
    subst h1; subst h2; subst h3
    exact Or.inr ⟨q, (T.setVm vm₁).calling g' mk (Value.ref b :: As).toArray, t, U', L, E, ce, hT, X', hL, e1, e2, hq, hce, hcv, vx_cls hW₁ hcl, st⟩
theorem vx_runS (S : CallFix p m c cc nL s args Ts own) (hM : vx_Met l y ws rm Pc Qc XC mc ms free) (cw : CallB R s args own index y bytes maxL ret ws rm mc ms n ∧ (Cond.static y).before args s = true) (hp : PreS s H Pc As)
    (hg : g.method = m) (hn : As.length = n) (hsize : g.locals.size = nL) (hstack : g.stack = As.reverse ++ rest) (hW : 2 * g.monitorRoom + (rest.map fun v => v.category).sum ≤ 8) (hdg : decode cc g.pc = .ok (.invokestatic index, 3)) (hf : cells + mc ≤ R.cells ∧ slots + ms ≤ R.slots) :
    vx_Run p l e R s m args below meth c H locs cells slots mc ms g rest (Qc As.toArray) XC free := by
  have hK : vx_Back l R p e below s args y 3 8 (PreOf R mc ms Pc) (PostOf Qc mc ms free) (vx_Post XC mc ms free) := vx_callBack cw.1 hM hp.1
  obtain ⟨⟨-, -, -, -, -, -, hcode, hini, hy, hlen, hl⟩, hstt⟩ := cw
  obtain ⟨hx, hb, hml, ho, -⟩ := S
  intro T hT X
  rcases vx_callS X hx (bytes := bytes) (maxL := maxL) (ret := ret) ho hl hstt hini hcode hy hK hg (hsize.trans hml.symm) (argsL := As) (rest := rest) (fun sig h => hn.trans (hlen sig h)) hstack hW (by rw [hb]; exact hdg)
    (fun vm₁ hW₁ => ⟨hf.1, hf.2, hp.2 (T.setVm vm₁) hT hW₁⟩) with ⟨v, vm₁, ⟨U', l2, c2, s2⟩, hW₁, X', ⟨g', mk, t, L, e1, e2, hq, h1, hL, h2, h3⟩, st⟩ | ⟨q, vm₁, ⟨U', l2, c2, s2⟩, hW₁, X', ⟨g', mk, t, L, E, ce, e1, e2, hq, hce, hcv, hcl, h1, hL, h2, h3⟩, st⟩
  · dsimp only [Pt.U, Pt.locs, Pt.cells, Pt.slots] at X' e1 e2 h1 h2 h3 st
    subst h1; subst h2; subst h3
    exact Or.inl ⟨v, (T.setVm vm₁).calling g' mk As.toArray, t, U', L, hT, X', hL, e1, e2, hq, st⟩
  · dsimp only [Pt.U, Pt.locs, Pt.cells, Pt.slots] at X' e1 e2 h1 h2 h3 st hcl
    subst h1; subst h2; subst h3
    exact Or.inr ⟨q, (T.setVm vm₁).calling g' mk As.toArray, t, U', L, E, ce, hT, X', hL, e1, e2, hq, hce, hcv, vx_cls hW₁ hcl, st⟩
end Runs
section Rows
variable {p : Program} {l : Launch} {e : Env} {R : Room} {s : State} {m : MethodId} {args : Array Value} {below : List Frame} {meth : Method} {c : Code} {H : Heap} {locs : List Loc} {cells slots : Nat} {Q : State → Prop}
variable {mc ms : Nat} {free : Addr → Prop} {A0 A1 : Nat → Prop} {H0 : Heap} {a : Array Value} {pc : Nat} {ls : Array Slot} {st0 rest : List Value}
theorem vx_keep {st₀ t T' : State} {L : List Loc} (h0 : st₀.heap = H) (e1 : T'.heap = t.heap) (hS : va_S A0 H0 H locs) (hA : ∀ q, q < H.size → A1 q → A0 q) (hf : ∀ q, free q → A0 q) (hL : ∀ q ∈ L, free q.base) (hF : va_F A1 st₀ t) :
    H.size ≤ T'.heap.size ∧ (∀ q : Nat, q < H.size → ¬ A1 q → T'.heap[q]? = H[q]?) ∧ va_S A0 H0 T'.heap (locs ++ L) := by
  obtain ⟨hz, hk⟩ := hF
  rw [h0] at hz hk
  exact ⟨by rw [e1]; exact hz, fun q h1 h2 => by rw [e1]; exact hk q h1 h2,
    ⟨Nat.le_trans hS.1 (by rw [e1]; exact hz), fun q h1 h2 => by rw [e1, hk q (Nat.lt_of_lt_of_le h1 hS.1) (fun z => h2 (hA q (Nat.lt_of_lt_of_le h1 hS.1) z))]; exact hS.2.1 q h1 h2, fun q hq => by
      rcases List.mem_append.mp hq with h | h
      · exact hS.2.2 q h
      · exact hf _ (hL q h)⟩⟩
theorem vx_calli {S SX : Type} {post : Int32 → S → Prop} {px : SX → Prop} {B : S → State → Prop} {BX : String → SX → State → Prop} {AX : Nat → Prop} (hr : vx_Run p l e R s m args below meth c H locs cells slots mc ms (F0 m pc ls st0) rest (va_Qi post B A1 a) (vx_X px BX AX) free) (hS : va_S A0 H0 H locs) (hA : ∀ q, q < H.size → A1 q → A0 q) (hf : ∀ q, free q → A0 q) (hAX : ∀ q, q < H.size → AX q → A0 q)
    (kx : ∀ (E : String) (ce : Cell) (q9 : Addr) (u : SX) (t : State) (H1 : Heap) (locs1 : List Loc), t.heap = H1 → s.vm.Alike t.vm → px u → BX E u t → H.size ≤ H1.size → (∀ q : Nat, q < H.size → ¬ AX q → H1[q]? = H[q]?) → va_S A0 H0 H1 locs1 → H1[q9]? = some ce → ce.vm = .none → s.vm.findClass E = some ce.cls → vx_W p l e R s m args below meth c H1 locs1 (cells + mc) (slots + ms) Q (F0 m pc ls rest) q9)
    (kk : ∀ (r : Int32) (u : S) (t : State) (H1 : Heap) (locs1 : List Loc), t.heap = H1 → s.vm.Alike t.vm → post r u → B u t → H.size ≤ H1.size → (∀ q : Nat, q < H.size → ¬ A1 q → H1[q]? = H[q]?) → va_S A0 H0 H1 locs1 → W p l e R s m args below meth c H1 locs1 (cells + mc) (slots + ms) Q (F0 m (pc + 3) ls (.int r :: rest))) : W p l e R s m args below meth c H locs cells slots Q (F0 m pc ls st0) := by
  intro T hT X
  rcases hr T hT X with ⟨v, st₀, t, T', L, h0, X', hL, e1, e2, ⟨⟨r, u, hv, hp, hb⟩, hF⟩, st⟩ | ⟨q, st₀, t, T', L, E, ce, h0, X', hL, e1, e2, ⟨u, hp, hb, hF⟩, hce, hcv, hcl, st⟩
  · cases hv
    obtain ⟨k1, k2, k3⟩ := vx_keep h0 e1 hS hA hf hL hF
    obtain ⟨t2, a1, b1⟩ := kk r u t T'.heap (locs ++ L) e1.symm (by rw [← e2]; exact X'.warmed.alike) hp hb k1 k2 k3 T' rfl X'
    exact ⟨t2, st t2 a1, b1⟩
  · obtain ⟨k1, k2, k3⟩ := vx_keep h0 e1 hS hAX hf hL hF
    obtain ⟨t2, a1, b1⟩ := kx E ce q u t T'.heap (locs ++ L) e1.symm (by rw [← e2]; exact X'.warmed.alike) hp hb k1 k2 k3 (by rw [e1]; exact hce) hcv hcl T' rfl X'
    exact ⟨t2, st.trans a1, b1⟩
theorem vx_calll {S SX : Type} {post : Int64 → S → Prop} {px : SX → Prop} {B : S → State → Prop} {BX : String → SX → State → Prop} {AX : Nat → Prop} (hr : vx_Run p l e R s m args below meth c H locs cells slots mc ms (F0 m pc ls st0) rest (va_Ql post B A1 a) (vx_X px BX AX) free) (hS : va_S A0 H0 H locs) (hA : ∀ q, q < H.size → A1 q → A0 q) (hf : ∀ q, free q → A0 q) (hAX : ∀ q, q < H.size → AX q → A0 q)
    (kx : ∀ (E : String) (ce : Cell) (q9 : Addr) (u : SX) (t : State) (H1 : Heap) (locs1 : List Loc), t.heap = H1 → s.vm.Alike t.vm → px u → BX E u t → H.size ≤ H1.size → (∀ q : Nat, q < H.size → ¬ AX q → H1[q]? = H[q]?) → va_S A0 H0 H1 locs1 → H1[q9]? = some ce → ce.vm = .none → s.vm.findClass E = some ce.cls → vx_W p l e R s m args below meth c H1 locs1 (cells + mc) (slots + ms) Q (F0 m pc ls rest) q9)
    (kk : ∀ (r : Int64) (u : S) (t : State) (H1 : Heap) (locs1 : List Loc), t.heap = H1 → s.vm.Alike t.vm → post r u → B u t → H.size ≤ H1.size → (∀ q : Nat, q < H.size → ¬ A1 q → H1[q]? = H[q]?) → va_S A0 H0 H1 locs1 → W p l e R s m args below meth c H1 locs1 (cells + mc) (slots + ms) Q (F0 m (pc + 3) ls (.long r :: rest))) : W p l e R s m args below meth c H locs cells slots Q (F0 m pc ls st0) := by
  intro T hT X
  rcases hr T hT X with ⟨v, st₀, t, T', L, h0, X', hL, e1, e2, ⟨⟨r, u, hv, hp, hb⟩, hF⟩, st⟩ | ⟨q, st₀, t, T', L, E, ce, h0, X', hL, e1, e2, ⟨u, hp, hb, hF⟩, hce, hcv, hcl, st⟩
  · cases hv
    obtain ⟨k1, k2, k3⟩ := vx_keep h0 e1 hS hA hf hL hF
    obtain ⟨t2, a1, b1⟩ := kk r u t T'.heap (locs ++ L) e1.symm (by rw [← e2]; exact X'.warmed.alike) hp hb k1 k2 k3 T' rfl X'
    exact ⟨t2, st t2 a1, b1⟩
  · obtain ⟨k1, k2, k3⟩ := vx_keep h0 e1 hS hAX hf hL hF
    obtain ⟨t2, a1, b1⟩ := kx E ce q u t T'.heap (locs ++ L) e1.symm (by rw [← e2]; exact X'.warmed.alike) hp hb k1 k2 k3 (by rw [e1]; exact hce) hcv hcl T' rfl X'
    exact ⟨t2, st.trans a1, b1⟩
theorem vx_callf {S SX : Type} {post : UInt32 → S → Prop} {px : SX → Prop} {B : S → State → Prop} {BX : String → SX → State → Prop} {AX : Nat → Prop} (hr : vx_Run p l e R s m args below meth c H locs cells slots mc ms (F0 m pc ls st0) rest (va_Qf post B A1 a) (vx_X px BX AX) free) (hS : va_S A0 H0 H locs) (hA : ∀ q, q < H.size → A1 q → A0 q) (hf : ∀ q, free q → A0 q) (hAX : ∀ q, q < H.size → AX q → A0 q)
    (kx : ∀ (E : String) (ce : Cell) (q9 : Addr) (u : SX) (t : State) (H1 : Heap) (locs1 : List Loc), t.heap = H1 → s.vm.Alike t.vm → px u → BX E u t → H.size ≤ H1.size → (∀ q : Nat, q < H.size → ¬ AX q → H1[q]? = H[q]?) → va_S A0 H0 H1 locs1 → H1[q9]? = some ce → ce.vm = .none → s.vm.findClass E = some ce.cls → vx_W p l e R s m args below meth c H1 locs1 (cells + mc) (slots + ms) Q (F0 m pc ls rest) q9)
    (kk : ∀ (r : UInt32) (u : S) (t : State) (H1 : Heap) (locs1 : List Loc), t.heap = H1 → s.vm.Alike t.vm → post r u → B u t → H.size ≤ H1.size → (∀ q : Nat, q < H.size → ¬ A1 q → H1[q]? = H[q]?) → va_S A0 H0 H1 locs1 → W p l e R s m args below meth c H1 locs1 (cells + mc) (slots + ms) Q (F0 m (pc + 3) ls (.float r :: rest))) : W p l e R s m args below meth c H locs cells slots Q (F0 m pc ls st0) := by
  intro T hT X
  rcases hr T hT X with ⟨v, st₀, t, T', L, h0, X', hL, e1, e2, ⟨⟨r, u, hv, hp, hb⟩, hF⟩, st⟩ | ⟨q, st₀, t, T', L, E, ce, h0, X', hL, e1, e2, ⟨u, hp, hb, hF⟩, hce, hcv, hcl, st⟩
  · cases hv
    obtain ⟨k1, k2, k3⟩ := vx_keep h0 e1 hS hA hf hL hF
    obtain ⟨t2, a1, b1⟩ := kk r u t T'.heap (locs ++ L) e1.symm (by rw [← e2]; exact X'.warmed.alike) hp hb k1 k2 k3 T' rfl X'
    exact ⟨t2, st t2 a1, b1⟩
  · obtain ⟨k1, k2, k3⟩ := vx_keep h0 e1 hS hAX hf hL hF
    obtain ⟨t2, a1, b1⟩ := kx E ce q u t T'.heap (locs ++ L) e1.symm (by rw [← e2]; exact X'.warmed.alike) hp hb k1 k2 k3 (by rw [e1]; exact hce) hcv hcl T' rfl X'
    exact ⟨t2, st.trans a1, b1⟩
theorem vx_calld {S SX : Type} {post : UInt64 → S → Prop} {px : SX → Prop} {B : S → State → Prop} {BX : String → SX → State → Prop} {AX : Nat → Prop} (hr : vx_Run p l e R s m args below meth c H locs cells slots mc ms (F0 m pc ls st0) rest (va_Qd post B A1 a) (vx_X px BX AX) free) (hS : va_S A0 H0 H locs) (hA : ∀ q, q < H.size → A1 q → A0 q) (hf : ∀ q, free q → A0 q) (hAX : ∀ q, q < H.size → AX q → A0 q)
    (kx : ∀ (E : String) (ce : Cell) (q9 : Addr) (u : SX) (t : State) (H1 : Heap) (locs1 : List Loc), t.heap = H1 → s.vm.Alike t.vm → px u → BX E u t → H.size ≤ H1.size → (∀ q : Nat, q < H.size → ¬ AX q → H1[q]? = H[q]?) → va_S A0 H0 H1 locs1 → H1[q9]? = some ce → ce.vm = .none → s.vm.findClass E = some ce.cls → vx_W p l e R s m args below meth c H1 locs1 (cells + mc) (slots + ms) Q (F0 m pc ls rest) q9)
    (kk : ∀ (r : UInt64) (u : S) (t : State) (H1 : Heap) (locs1 : List Loc), t.heap = H1 → s.vm.Alike t.vm → post r u → B u t → H.size ≤ H1.size → (∀ q : Nat, q < H.size → ¬ A1 q → H1[q]? = H[q]?) → va_S A0 H0 H1 locs1 → W p l e R s m args below meth c H1 locs1 (cells + mc) (slots + ms) Q (F0 m (pc + 3) ls (.double r :: rest))) : W p l e R s m args below meth c H locs cells slots Q (F0 m pc ls st0) := by
  intro T hT X
  rcases hr T hT X with ⟨v, st₀, t, T', L, h0, X', hL, e1, e2, ⟨⟨r, u, hv, hp, hb⟩, hF⟩, st⟩ | ⟨q, st₀, t, T', L, E, ce, h0, X', hL, e1, e2, ⟨u, hp, hb, hF⟩, hce, hcv, hcl, st⟩
  · cases hv
    obtain ⟨k1, k2, k3⟩ := vx_keep h0 e1 hS hA hf hL hF
    obtain ⟨t2, a1, b1⟩ := kk r u t T'.heap (locs ++ L) e1.symm (by rw [← e2]; exact X'.warmed.alike) hp hb k1 k2 k3 T' rfl X'
    exact ⟨t2, st t2 a1, b1⟩
  · obtain ⟨k1, k2, k3⟩ := vx_keep h0 e1 hS hAX hf hL hF
    obtain ⟨t2, a1, b1⟩ := kx E ce q u t T'.heap (locs ++ L) e1.symm (by rw [← e2]; exact X'.warmed.alike) hp hb k1 k2 k3 (by rw [e1]; exact hce) hcv hcl T' rfl X'
    exact ⟨t2, st.trans a1, b1⟩
theorem vx_callv {S SX : Type} {post : S → Prop} {px : SX → Prop} {B : S → State → Prop} {BX : String → SX → State → Prop} {AX : Nat → Prop} (hr : vx_Run p l e R s m args below meth c H locs cells slots mc ms (F0 m pc ls st0) rest (va_Qv post B A1 a) (vx_X px BX AX) free) (hS : va_S A0 H0 H locs) (hA : ∀ q, q < H.size → A1 q → A0 q) (hf : ∀ q, free q → A0 q) (hAX : ∀ q, q < H.size → AX q → A0 q)
    (kx : ∀ (E : String) (ce : Cell) (q9 : Addr) (u : SX) (t : State) (H1 : Heap) (locs1 : List Loc), t.heap = H1 → s.vm.Alike t.vm → px u → BX E u t → H.size ≤ H1.size → (∀ q : Nat, q < H.size → ¬ AX q → H1[q]? = H[q]?) → va_S A0 H0 H1 locs1 → H1[q9]? = some ce → ce.vm = .none → s.vm.findClass E = some ce.cls → vx_W p l e R s m args below meth c H1 locs1 (cells + mc) (slots + ms) Q (F0 m pc ls rest) q9)
    (kk : ∀ (u : S) (t : State) (H1 : Heap) (locs1 : List Loc), t.heap = H1 → s.vm.Alike t.vm → post u → B u t → H.size ≤ H1.size → (∀ q : Nat, q < H.size → ¬ A1 q → H1[q]? = H[q]?) → va_S A0 H0 H1 locs1 → W p l e R s m args below meth c H1 locs1 (cells + mc) (slots + ms) Q (F0 m (pc + 3) ls (rest))) : W p l e R s m args below meth c H locs cells slots Q (F0 m pc ls st0) := by
  intro T hT X
  rcases hr T hT X with ⟨v, st₀, t, T', L, h0, X', hL, e1, e2, ⟨⟨u, hv, hp, hb⟩, hF⟩, st⟩ | ⟨q, st₀, t, T', L, E, ce, h0, X', hL, e1, e2, ⟨u, hp, hb, hF⟩, hce, hcv, hcl, st⟩
  · cases hv
    obtain ⟨k1, k2, k3⟩ := vx_keep h0 e1 hS hA hf hL hF
    obtain ⟨t2, a1, b1⟩ := kk u t T'.heap (locs ++ L) e1.symm (by rw [← e2]; exact X'.warmed.alike) hp hb k1 k2 k3 T' rfl X'
    exact ⟨t2, st t2 a1, b1⟩
  · obtain ⟨k1, k2, k3⟩ := vx_keep h0 e1 hS hAX hf hL hF
    obtain ⟨t2, a1, b1⟩ := kx E ce q u t T'.heap (locs ++ L) e1.symm (by rw [← e2]; exact X'.warmed.alike) hp hb k1 k2 k3 (by rw [e1]; exact hce) hcv hcl T' rfl X'
    exact ⟨t2, st.trans a1, b1⟩
/-- caught by the row x of this method's table; the rows ahead don't take it -/
theorem vx_catch {own name : String} {E : String} {ce : Cell} {q : Addr} (hown : s.vm.findClass own = some m.cls) (pre : List ExceptionTableEntry) (x : ExceptionTableEntry) (suf : List ExceptionTableEntry) (hsplit : c.exceptionTable.toList = pre ++ x :: suf)
    (hpass : ∀ z ∈ pre, covers z pc = false ∨ (z.catchType ≠ 0 ∧ ∃ nm : String, (Cond.classLink own z.catchType nm).before args s = true ∧ va_Nc E nm s)) (hx : covers x pc = true) (h0 : x.catchType ≠ 0)
    (hlink : (Cond.classLink own x.catchType name).before args s = true) (hcast : (Cond.castable E name).before args s = true) (hcell : H[q]? = some ce) (hv : ce.vm = .none) (hcl : s.vm.findClass E = some ce.cls)
    (kk : W p l e R s m args below meth c H locs cells slots Q (F0 m x.handlerPc ls [.ref q])) : vx_W p l e R s m args below meth c H locs cells slots Q (F0 m pc ls rest) q := by
  intro T hT X
  have hpl : e.platform.magicAccessors = ({} : Platform).magicAccessors := by rw [X.admits.platform]
  obtain ⟨c3, c4, hc3, hc4, hasg⟩ := Cond.castable_spec hcast
  cases Option.some.inj (hc3.symm.trans hcl)
  obtain ⟨c5, hc5, hcl5⟩ := Cond.classLink_spec hown hlink e.platform hpl
  cases Option.some.inj (hc4.symm.trans hc5)
  obtain ⟨vm', X', st⟩ := cq_caught X q (g := F0 m pc ls rest) rfl (by rw [hT]; exact hcell) (by rw [hv]; rfl) (by obtain ⟨k9, h9, -⟩ := Vm.findClass_spec hcl; exact ⟨k9, h9⟩) pre x suf hsplit
    (fun z hz => by
      rcases hpass z hz with h | ⟨hz0, nm, hl1, hn1⟩
      · exact Or.inl h
      · obtain ⟨c6, hc6, hcl6⟩ := Cond.classLink_spec hown hl1 e.platform hpl
        obtain ⟨a8, b8, h1, h2, h3⟩ := hn1
        cases Option.some.inj (h1.symm.trans hcl)
        cases Option.some.inj (h2.symm.trans hc6)
        exact Or.inr ⟨hz0, _, hcl6, h3⟩) hx h0 hcl5 hasg
  obtain ⟨t, a1, b1⟩ := kk (T.setVm vm') hT X'
  exact ⟨t, st.trans a1, b1⟩
end Rows
section Ends
variable {p : Program} {l : Launch} {e : Env} {R : Room} {s : State} {m : MethodId} {args : Array Value} {below : List Frame} {meth : Method} {c : Code} {H : Heap} {locs : List Loc} {cells slots : Nat} {Q : State → Prop}
variable {mc ms : Nat} {free : Addr → Prop} {A0 A1 : Nat → Prop} {H0 : Heap} {a : Array Value} {ls : Array Slot} {st0 rest : List Value}
variable {Qc : Array Value → State → Outcome → State → Prop} {XC : String → State → State → Prop}
/-- what a body that may throw owes at its end -/
def vx_MQ (below : List Frame) (Qc : Array Value → State → Outcome → State → Prop) (XC : String → State → State → Prop) (a : Array Value) (s : State) (mc ms : Nat) (free : Addr → Prop) : State → Prop := fun t =>
  ∃ o, t.status = .running ∧ Ended t below o ∧ vx_Q Qc XC mc ms free a s o t
theorem vx_ret {g : JFrame} {mc ms : Nat} (k : W p l e R s m args below meth c H locs cells slots (MQ below Qc args s mc ms free) g) : W p l e R s m args below meth c H locs cells slots (vx_MQ below Qc XC args s mc ms free) g := by
  intro T hT X
  obtain ⟨t, a1, o, b1, b2, b3, b4⟩ := k T hT X
  exact ⟨t, a1, o, b1, b2, Or.inl ⟨b3, b4⟩⟩
/-- not caught here: it goes on to the caller -/
theorem vx_widen {g : JFrame} {q : Addr} {k n : Nat} (h1 : cells ≤ k) (h2 : slots ≤ n) (kk : vx_W p l e R s m args below meth c H locs k n Q g q) : vx_W p l e R s m args below meth c H locs cells slots Q g q := fun T hT X => kk T hT (stand_widen X h1 h2)
theorem vx_out {pc : Nat} {E : String} {ce : Cell} {q : Addr} {mc ms : Nat} (hout : ∀ x ∈ c.exceptionTable.toList, covers x pc = false) (hlocks : meth.locks = false) (hcell : H[q]? = some ce) (hv : ce.vm = .none) (hcl : s.vm.findClass E = some ce.cls)
    (hx : ∀ t : State, t.heap = H → s.vm.Alike t.vm → XC E s t) (hf : ∀ z ∈ locs, free z.base) (hc : cells ≤ mc) (hs : slots ≤ ms) :
    vx_W p l e R s m args below meth c H locs cells slots (vx_MQ below Qc XC args s mc ms free) (F0 m pc ls rest) q := by
  intro T hT X
  obtain ⟨st1, hrun, hend, hW, hsm⟩ := X.leaveThrown q (g := F0 m pc ls rest) rfl rfl rfl hout hlocks
  have hcell9 : (T.setFrames (.throwing q :: below)).heap[q]? = some ce := by
    show T.heap[q]? = some ce
    rw [hT]; exact hcell
  exact ⟨_, st1, .threw q, hrun, hend, Or.inr ⟨q, rfl, E, ce, locs, hx _ hT hW.alike, hcell9, hv, hcl, hW, hsm.mono hc hs, hf⟩⟩
theorem vx_frame {U : State} {k n : Nat} (h : s.sameButNew ({ U with vm := s.vm } : State) locs k n) : s.heap.size ≤ U.heap.size ∧ ∀ q : Nat, q < s.heap.size → (∀ z ∈ locs, z.base ≠ q) → U.heap[q]? = s.heap[q]? := by
  obtain ⟨-, h2, -, -, -, h6⟩ := h
  refine ⟨h2, fun q hq hz => ?_⟩
  obtain ⟨c9, e1, e2, e3, e4⟩ := h6 q _ (Array.getElem?_eq_getElem hq)
  have hs : c9.slots = (s.heap[q]).slots := Array.ext_getElem? fun i => e4 i fun hm => hz _ hm rfl
  have h9 : c9 = s.heap[q] := by
    rw [hs] at e2
    exact e2
  have e5 : U.heap[q]? = some c9 := e1
  rw [e5, h9, Array.getElem?_eq_getElem hq]
/-- the words of a throw but the four that speak of the heap -/
def vx_no (w : Cond) : Bool := decide (w ≠ .isRef (.static Bundle.tN "UNASSIGNED_STACK" Bundle.steD)) && decide (w ≠ .isRef (.static Bundle.tN "SUPPRESSED_SENTINEL" Bundle.listD)) && decide (w ≠ .laysStatic Bundle.tN "UNASSIGNED_STACK" Bundle.steD) && decide (w ≠ .laysStatic Bundle.tN "SUPPRESSED_SENTINEL" Bundle.listD)
def vx_at0 (own : String) (ic : Nat) (X : String) (names : List String) : List Cond := (Bundle.ownAtoms0 own ic X names).filter vx_no
def vx_atS (own : String) (ic : Nat) (X : String) (names : List String) : List Cond := (Bundle.ownAtoms own ic X names).filter vx_no
/-- a word that the tables alone decide, or a good one -/
def vx_ot (w : Cond) : Bool := w.onTables || goodWord w
theorem vx_ot_at {args a' : Array Value} {s U : State} {w : Cond} (hW : s.WarmedH U.vm) (hvm : s.vm = U.vm) (hg : vx_ot w = true) (h : w.before args s = true) : w.before a' U = true := by
  simp only [vx_ot, Bool.or_eq_true] at hg
  rcases hg with hg | hg
  · exact va_tabs hg hvm h
  · exact word_at hW (good_of_word hg) h
/-- a list's words: the good ones out of the method's own list, the others by premises of their own -/
theorem vx_hat {args : Array Value} {s : State} {L B : List Cond} (h1 : ∀ w ∈ L.filter goodWord, w.before args s = true) (h2 : ∀ w ∈ L.filter (fun w => !goodWord w), w ∈ B) (h3 : ∀ w ∈ B, w.before args s = true) : ∀ w ∈ L, w.before args s = true := by
  intro w hw
  by_cases g : goodWord w = true
  · exact h1 w (List.mem_filter.mpr ⟨hw, g⟩)
  · refine h3 w (h2 w (List.mem_filter.mpr ⟨hw, ?_⟩))
    show (!goodWord w) = true
    cases hgw : goodWord w
    · rfl
    · exact absurd hgw g
theorem vx_c {args : Array Value} {s : State} {w : Cond} {B : List Cond} (h : w.before args s = true) (t : ∀ w ∈ B, w.before args s = true) : ∀ w' ∈ w :: B, w'.before args s = true := fun w' h' => (List.mem_cons.mp h').elim (fun e => by rw [e]; exact h) (t w')
theorem vx_n {args : Array Value} {s : State} : ∀ w ∈ ([] : List Cond), w.before args s = true := fun _ h => nomatch h
theorem vx_own {args : Array Value} {s : State} {L : List Cond} (h1 : ∀ w ∈ L.filter vx_no, w.before args s = true)
    (hU : (Cond.isRef (.static Bundle.tN "UNASSIGNED_STACK" Bundle.steD)).before args s = true) (hN : (Cond.isRef (.static Bundle.tN "SUPPRESSED_SENTINEL" Bundle.listD)).before args s = true)
    (lU : (Cond.laysStatic Bundle.tN "UNASSIGNED_STACK" Bundle.steD).before args s = true) (lN : (Cond.laysStatic Bundle.tN "SUPPRESSED_SENTINEL" Bundle.listD).before args s = true) : ∀ w ∈ L, w.before args s = true := by
  intro w hw
  by_cases e1 : w = .isRef (.static Bundle.tN "UNASSIGNED_STACK" Bundle.steD)
  · rw [e1]; exact hU
  · by_cases e2 : w = .isRef (.static Bundle.tN "SUPPRESSED_SENTINEL" Bundle.listD)
    · rw [e2]; exact hN
    · by_cases e3 : w = .laysStatic Bundle.tN "UNASSIGNED_STACK" Bundle.steD
      · rw [e3]; exact lU
      · by_cases e4 : w = .laysStatic Bundle.tN "SUPPRESSED_SENTINEL" Bundle.listD
        · rw [e4]; exact lN
        · exact h1 w (List.mem_filter.mpr ⟨hw, by unfold vx_no; rw [decide_eq_true e1, decide_eq_true e2, decide_eq_true e3, decide_eq_true e4]; rfl⟩)
/-- where a static field lies, its class's statics cell in H -/
def vx_L (C n d : String) (A : Nat → Prop) (U : State) (H : Heap) : Prop := ∃ (c : ClassId) (k : Class) (i : Nat) (f : Field) (a : Nat) (cell : Cell), U.vm.findClass C = some c ∧ U.fieldFound? C n d = some (c, k, i, f) ∧ f.isStatic = true ∧ k.statics = some a ∧ H[a]? = some cell ∧ cell.vm.isStatics = true ∧ cell.cls = c ∧ f.slot < cell.slots.size ∧ k.staticTypes[f.slot]? = some f.type ∧ ¬ A a
theorem vx_L.moved {C n d : String} {A : Nat → Prop} {u U : State} {H : Heap} (hvm : u.vm.Alike U.vm) (h : vx_L C n d A u H) : vx_L C n d A U H := by
  obtain ⟨c, k, i, f, a, cell, h1, h2, h3, h4, h5, h6, h7, h8, h9, h10⟩ := h
  obtain ⟨k', hi', he⟩ := State.fieldFound?_setVm hvm h2
  exact ⟨c, k', i, f, a, cell, by rw [hvm.findClass]; exact h1, hi', h3, by rw [he]; exact h4, h5, h6, h7, h8, by rw [he]; exact h9, h10⟩
theorem vx_L.kept {C n d : String} {A : Nat → Prop} {U : State} {H H1 : Heap} (h : vx_L C n d A U H) (hq : ∀ a : Nat, a < H.size → ¬ A a → H1[a]? = H[a]?) : vx_L C n d A U H1 := by
  obtain ⟨c, k, i, f, a, cell, h1, h2, h3, h4, h5, h6, h7, h8, h9, h10⟩ := h
  exact ⟨c, k, i, f, a, cell, h1, h2, h3, h4, by rw [hq a (Array.getElem?_eq_some_iff.mp h5).1 h10]; exact h5, h6, h7, h8, h9, h10⟩
theorem vx_L.narrow {C n d : String} {A B : Nat → Prop} {U : State} {H : Heap} (h : vx_L C n d A U H) (hAB : ∀ q, B q → A q) : vx_L C n d B U H := by
  obtain ⟨c, k, i, f, a, cell, h1, h2, h3, h4, h5, h6, h7, h8, h9, h10⟩ := h
  exact ⟨c, k, i, f, a, cell, h1, h2, h3, h4, h5, h6, h7, h8, h9, fun z => h10 (hAB _ z)⟩
theorem vx_L.word {C n d : String} {A : Nat → Prop} {s : State} {args : Array Value} (h : vx_L C n d A s s.heap) : (Cond.laysStatic C n d).before args s = true := by
  obtain ⟨c, k, i, f, a, cell, h1, h2, h3, h4, h5, h6, h7, h8, h9, -⟩ := h
  show (Cond.laysStatic C n d).holds args s none s [] = true
  exact Cond.laysStatic_of h1 h2 h3 h4 h5 h6 h7 h8 h9
/-- .. and what it holds: null or some reference -/
def vx_Zq (C n d : String) (A : Nat → Prop) (U : State) (H : Heap) : Prop := va_Zq C n d A U H ∧ vx_L C n d A U H
theorem vx_Zq.moved {C n d : String} {A : Nat → Prop} {u U : State} {H : Heap} (hvm : u.vm.Alike U.vm) (h : vx_Zq C n d A u H) : vx_Zq C n d A U H := ⟨va_Zq.moved hvm h.1, vx_L.moved hvm h.2⟩
theorem vx_Zq.kept {C n d : String} {A : Nat → Prop} {U : State} {H H1 : Heap} (h : vx_Zq C n d A U H) (hq : ∀ a : Nat, a < H.size → ¬ A a → H1[a]? = H[a]?) : vx_Zq C n d A U H1 := ⟨va_Zq.kept h.1 hq, vx_L.kept h.2 hq⟩
theorem vx_Zq.narrow {C n d : String} {A B : Nat → Prop} {U : State} {H : Heap} (h : vx_Zq C n d A U H) (hAB : ∀ q, B q → A q) : vx_Zq C n d B U H := ⟨va_Zq.narrow h.1 hAB, vx_L.narrow h.2 hAB⟩
theorem vx_Zqof {args : Array Value} {s : State} {C n d : String} {A : Nat → Prop} (hl : (Cond.laysStatic C n d).before args s = true) (hini : (Cond.initialized C).before args s = true) (h : (Cond.isRef (.static C n d)).before args s = true) (hA : ∀ a : Nat, a < s.heap.size → ¬ A a) : vx_Zq C n d A s s.heap := by
  refine ⟨va_Zqof hl hini h hA, ?_⟩
  obtain ⟨c, k, i, f, a, cell, h1, h2, h3, h4, h5, h6, h7, h8, h9⟩ := Cond.laysStatic_spec hl
  exact ⟨c, k, i, f, a, cell, h1, h2, h3, h4, h5, h6, h7, h8, h9, hA a (Array.getElem?_eq_some_iff.mp h5).1⟩
theorem vx_isRef {C n d : String} {v : Value} {A : Nat → Prop} {s : State} {args : Array Value} (h : va_Z C n d v A s s.heap) (hv : v.isRef = true) : (Cond.isRef (.static C n d)).before args s = true := by
  obtain ⟨cf, kf, fi, f, a, cell, h1, h2, h3, h4, h5, h6, h7, -⟩ := h
  have he : (Term.static C n d).eval args s none [] s = some v := by
    simp [Term.eval, State.fieldNamed?, h1, h2, h4, h5, h6, h7]
  simp only [Cond.before, Cond.holds, Cond.value, he]
  cases v <;> simp_all [Value.isRef]
theorem vx_isRefq {C n d : String} {A : Nat → Prop} {s : State} {args : Array Value} (h : va_Zq C n d A s s.heap) : (Cond.isRef (.static C n d)).before args s = true := by
  rcases h with h | ⟨t, h⟩
  · exact vx_isRef h rfl
  · exact vx_isRef h rfl
/-- the same frame, seen from here: as if the method were called anew in this heap -/
theorem vx_rebase {T : State} (X : Stand p l e R s m args below meth c T locs cells slots) {R' : Room} (hf : R'.frames ≤ R.frames) (hl : R'.locals ≤ R.locals) (hc : cells + R'.cells ≤ R.cells) (hs : slots + R'.slots ≤ R.slots) :
    Stand p l e R' ((T.setVm s.vm).setFrames (.invoking m args :: below)) m args below meth c T [] 0 0 := by
  have htop : (T.setVm s.vm).topJava?.isSome := X.here.top
  have hF : ((T.setVm s.vm).setFrames (.invoking m args :: below)).frames = .invoking m args :: below := State.frames_setFrames _ (State.cur_lt_of_top htop)
  obtain ⟨g₀, hg0⟩ := Option.isSome_iff_exists.mp htop
  obtain ⟨r, hr⟩ := State.topJava?_eq_some.mp hg0
  have hl9 : e.platform.stackLimits (T.setVm s.vm).me = e.platform.stackLimits s.me := X.limits
  have hb9 : (T.setVm s.vm).me.stackBytes = s.me.stackBytes := X.bytes
  refine ⟨X.admits, X.cas, X.clock, hF, ?_, X.hears, X.method, X.code, X.here, X.tail, X.warmed, ?_, ?_, ?_⟩
  · have h := X.room
    have hU : ((T.setVm s.vm).setFrames (.invoking m args :: below)).localsInUse = s.localsInUse := by
      rw [State.localsInUse_invoking hF (meth := meth) (c := c) X.method X.code, State.localsInUse_invoking X.frames X.method X.code]
    simp only [State.hasRoom, Bool.and_eq_true, decide_eq_true_eq] at h ⊢
    obtain ⟨⟨⟨⟨h1, h2, h3, h4, h5, h6⟩, h7⟩, h8⟩, h9⟩ := h
    rw [X.frames, List.length_cons] at h2 h3
    have q1 := X.heapSize
    have q2 := X.used
    simp only [hF, hU, List.length_cons, State.stackLimits_setFrames, State.stackBytes_setFrames, hl9, hb9]
    refine ⟨⟨⟨⟨by omega, by omega, by omega, by omega, by omega, h6⟩, ?_⟩, ?_⟩, X.book⟩
    · show T.heap.size + R'.cells ≤ e.platform.maxCells
      omega
    · show T.slotsUsed + R'.slots ≤ e.platform.maxSlots
      omega
  · rw [State.stackLimits_setFrames]; rfl
  · rw [State.stackBytes_setFrames]; rfl
  · refine ⟨?_, Nat.le_refl _, Nat.le_refl _, ?_, ?_, fun a c9 h9 => ⟨c9, h9, rfl, rfl, fun _ _ => rfl⟩⟩
    · obtain ⟨t, ht, -⟩ := State.frames_cons hr
      show T.setVm s.vm = { ((T.setVm s.vm).setFrames (.invoking m args :: below)).setFrames (T.setVm s.vm).frames with heap := T.heap, slotsUsed := T.slotsUsed }
      rw [State.setFrames_setFrames, State.setFrames_self ht]
      rfl
    · show T.slotsUsed = T.slotsUsed + ((T.heap.toList.drop T.heap.size).map (·.slots.size)).sum
      rw [List.drop_eq_nil_of_le (Nat.le_of_eq Array.length_toList)]
      rfl
    · show ((T.heap.toList.drop T.heap.size).map (·.slots.size)).sum ≤ 0
      rw [List.drop_eq_nil_of_le (Nat.le_of_eq Array.length_toList)]
      exact Nat.le_refl _
/-- 'throw new E()': new; dup; invokespecial; athrow -/
theorem vx_throw0 {cc : ByteArray} {pc : Nat} (hexec : p.tables.exec = Jvm.exec) (hb : c.code = cc) (hl : l.stackTraces = false) {own cls : String} {names : List String} {ik ic mc ms : Nat} {A : Nat → Prop}
    (hown : s.vm.findClass own = some m.cls) (hcls : Bundle.fit cls = true) (hnames : ∀ n ∈ names, Bundle.fit n = true)
    (hk : (Cond.classLink own ik cls).before args s = true) (hini : (Cond.initialized cls).before args s = true) (hat : ∀ w ∈ vx_at0 own ic cls names, w.before args s = true)
    (hgood : ∀ w ∈ Cond.classLink own ik cls :: Cond.initialized cls :: vx_at0 own ic cls names, vx_ot w = true)
    (hU : vx_Zq Bundle.tN "UNASSIGNED_STACK" Bundle.steD A s s.heap) (hN : vx_Zq Bundle.tN "SUPPRESSED_SENTINEL" Bundle.listD A s s.heap) (hS : va_S A s.heap H locs) (hsize : ls.size = c.maxLocals)
    (d0 : decode cc pc = .ok (.new ik, 3)) (d3 : decode cc (pc + 3) = .ok (.dup, 1)) (d4 : decode cc (pc + 4) = .ok (.invokespecial ic, 3)) (d7 : decode cc (pc + 7) = .ok (.athrow, 1))
    (hout : ∀ x ∈ c.exceptionTable.toList, covers x (pc + 7) = false)
    (hRframes : names.length + 3 < R.frames) (hRlocals : (rest.map fun v => v.category).sum + (13 * (names.length + 1) + 42) ≤ R.locals) (hRcells : cells + 1 ≤ R.cells) (hRslots : slots + 6 ≤ R.slots) (hlocks : meth.locks = false)
    (hx : ∀ t : State, s.vm.Alike t.vm → H.size ≤ t.heap.size → (∀ q : Nat, q < H.size → t.heap[q]? = H[q]?) → XC cls s t)
    (hf : ∀ z ∈ locs, free z.base) (hc : cells + 1 ≤ mc) (hs : slots + 6 ≤ ms) :
    W p l e R s m args below meth c H locs cells slots (vx_MQ below Qc XC args s mc ms free) (F0 m pc ls rest) := by
  intro T hT X
  have htr : e.platform.stackTraces = false := (show e.platform.stackTraces = l.stackTraces by rw [X.admits.platform]).trans hl
  have Y := vx_rebase X (R' := { frames := R.frames, locals := R.locals, cells := 1, slots := 6 }) (Nat.le_refl _) (Nat.le_refl _) hRcells hRslots
  obtain ⟨s', hA⟩ : ∃ z, z = (T.setVm s.vm).setFrames (.invoking m args :: below) := ⟨_, rfl⟩
  rw [← hA] at Y
  have hvm : s'.vm = s.vm := by rw [hA]; rfl
  have hhp : s'.heap = H := by rw [hA]; exact hT
  have hW0 : s.WarmedH s'.vm := by rw [hvm]; exact State.WarmedH.refl s
  have hat' : ∀ w ∈ vx_at0 own ic cls names, w.before args s' = true := fun w hw => vx_ot_at hW0 hvm.symm (hgood w (List.mem_cons_of_mem _ (List.mem_cons_of_mem _ hw))) (hat w hw)
  have hk' : (Cond.classLink own ik cls).before args s' = true := vx_ot_at hW0 hvm.symm (hgood _ List.mem_cons_self) hk
  have hini' : (Cond.initialized cls).before args s' = true := vx_ot_at hW0 hvm.symm (hgood _ (List.mem_cons_of_mem _ List.mem_cons_self)) hini
  have hU' : vx_Zq Bundle.tN "UNASSIGNED_STACK" Bundle.steD A s' s'.heap := by rw [hhp]; exact vx_Zq.moved hW0.alike (hU.kept hS.2.1)
  have hN' : vx_Zq Bundle.tN "SUPPRESSED_SENTINEL" Bundle.listD A s' s'.heap := by rw [hhp]; exact vx_Zq.moved hW0.alike (hN.kept hS.2.1)
  have h : ∀ w ∈ Bundle.ownAtoms0 own ic cls names, w.before args s' = true := vx_own hat' (vx_isRefq hU'.1) (vx_isRefq hN'.1) hU'.2.word hN'.2.word
  have hown' : s'.vm.findClass own = some m.cls := by rw [hvm]; exact hown
  have hins : (Cond.instantiable cls 6).before args s' = true := h _ (by simp [Bundle.ownAtoms0])
  obtain ⟨vm₁, cX, kX, hfX, hkX, -, -, X₁, st1⟩ := Y.newCold hexec (own := own) (C := cls) (index := ik) (n := 6) hown' hk' hins hini'
    (g := F0 m pc ls rest) rfl (by rw [hb]; exact d0) (Nat.le_refl _) (Nat.le_refl _)
  generalize hT1 : (T.setVm vm₁).pushCell { cls := cX, slots := kX.instanceTypes.map defaultValue, vm := .none } = T1 at X₁ st1
  have hcat : (Value.ref T.heap.size).category = 1 := rfl
  have hcellA : T1.heap[T.heap.size]? = some (freshCell cX kX) := by rw [← hT1]; exact State.heap_pushCell_size _ _
  have d3' : decode c.code (pc + 3) = .ok (.dup, 1) := by rw [hb]; exact d3
  obtain ⟨U, hsteps, hrun, hend, hW, hsame, ce, hce, hO⟩ := X₁.ctorThrow0 hexec htr (own := own) (cls := cls) (names := names) (ic := ic) hown' hcls hnames h (fun x hx => nomatch hx) hfX hkX hcellA (by rw [hhp, hT]; exact Nat.le_refl _)
    (g := { method := m, pc := pc + 4, locals := ls, stack := .ref T.heap.size :: .ref T.heap.size :: rest, locked := none }) rfl hsize rfl rfl (rest := rest) rfl
    (by rw [hb]; exact d4) (by rw [hb]; exact d7) hout hRframes (by simp only [List.map_cons, List.sum_cons, hcat]; omega) hlocks
  obtain ⟨f1, f2⟩ := vx_frame hsame
  rw [hhp] at f1 f2
  have hWs : s.WarmedH U.vm := State.WarmedH.trans hW0 hW
  have hcl : s.vm.findClass cls = some ce.cls := by
    have h9 := hO.cls
    rw [hvm] at h9
    exact h9
  have hall : s.sameButNew ({ U with vm := s.vm } : State) locs mc ms := by
    subst hA
    obtain ⟨e1, e2⟩ := hsame
    rw [State.setFrames_setFrames] at e1
    have h2 : (T.setVm s.vm).sameButNew ({ U with vm := s.vm } : State) [] (0 + 1) (0 + 6) := ⟨e1, e2⟩
    have h3 := X.same.trans h2
    rw [List.append_nil] at h3
    exact h3.mono hc hs
  refine ⟨U, ?_, .threw T.heap.size, hrun, hend, Or.inr ⟨T.heap.size, rfl, cls, ce, locs, hx U hWs.alike f1 (fun q hq => f2 q hq (fun z hz => nomatch hz)), hce, hO.vm, hcl, hWs, hall, hf⟩⟩
  refine st1 _ ?_
  show Steps p.tables e below (T1.setTop { method := m, pc := pc + 3, locals := ls, stack := .ref T.heap.size :: rest, locked := none }) _
  jvm_step X₁.here [X₁.here.top, hexec, d3', Value.category]
  exact hsteps
/-- 'throw new E("text")': new; dup; ldc; invokespecial; athrow -/
theorem vx_throwS {cc : ByteArray} {pc : Nat} (hexec : p.tables.exec = Jvm.exec) (hb : c.code = cc) (hl : l.stackTraces = false) {own cls text : String} {names : List String} {ik is ic mc ms sa : Nat} {A : Nat → Prop}
    (hown : s.vm.findClass own = some m.cls) (hcls : Bundle.fit cls = true) (hnames : ∀ n ∈ names, Bundle.fit n = true)
    (hk : (Cond.classLink own ik cls).before args s = true) (hini : (Cond.initialized cls).before args s = true) (hstr : vk_R own is text sa s) (hat : ∀ w ∈ vx_atS own ic cls names, w.before args s = true)
    (hgood : ∀ w ∈ Cond.classLink own ik cls :: Cond.initialized cls :: vx_atS own ic cls names, vx_ot w = true)
    (hU : vx_Zq Bundle.tN "UNASSIGNED_STACK" Bundle.steD A s s.heap) (hN : vx_Zq Bundle.tN "SUPPRESSED_SENTINEL" Bundle.listD A s s.heap) (hS : va_S A s.heap H locs) (hsize : ls.size = c.maxLocals)
    (d0 : decode cc pc = .ok (.new ik, 3)) (d3 : decode cc (pc + 3) = .ok (.dup, 1)) (d4 : decode cc (pc + 4) = .ok (.ldc is, 2)) (d6 : decode cc (pc + 6) = .ok (.invokespecial ic, 3)) (d9 : decode cc (pc + 9) = .ok (.athrow, 1))
    (hout : ∀ x ∈ c.exceptionTable.toList, covers x (pc + 9) = false)
    (hRframes : names.length + 3 < R.frames) (hRlocals : (rest.map fun v => v.category).sum + (13 * (names.length + 1) + 43) ≤ R.locals) (hRcells : cells + 1 ≤ R.cells) (hRslots : slots + 6 ≤ R.slots) (hlocks : meth.locks = false)
    (hx : ∀ t : State, s.vm.Alike t.vm → H.size ≤ t.heap.size → (∀ q : Nat, q < H.size → t.heap[q]? = H[q]?) → XC cls s t)
    (hf : ∀ z ∈ locs, free z.base) (hc : cells + 1 ≤ mc) (hs : slots + 6 ≤ ms) :
    W p l e R s m args below meth c H locs cells slots (vx_MQ below Qc XC args s mc ms free) (F0 m pc ls rest) := by
  intro T hT X
  have htr : e.platform.stackTraces = false := (show e.platform.stackTraces = l.stackTraces by rw [X.admits.platform]).trans hl
  have Y := vx_rebase X (R' := { frames := R.frames, locals := R.locals, cells := 1, slots := 6 }) (Nat.le_refl _) (Nat.le_refl _) hRcells hRslots
  obtain ⟨s', hA⟩ : ∃ z, z = (T.setVm s.vm).setFrames (.invoking m args :: below) := ⟨_, rfl⟩
  rw [← hA] at Y
  have hvm : s'.vm = s.vm := by rw [hA]; rfl
  have hhp : s'.heap = H := by rw [hA]; exact hT
  have hW0 : s.WarmedH s'.vm := by rw [hvm]; exact State.WarmedH.refl s
  have hat' : ∀ w ∈ vx_atS own ic cls names, w.before args s' = true := fun w hw => vx_ot_at hW0 hvm.symm (hgood w (List.mem_cons_of_mem _ (List.mem_cons_of_mem _ hw))) (hat w hw)
  have hk' : (Cond.classLink own ik cls).before args s' = true := vx_ot_at hW0 hvm.symm (hgood _ List.mem_cons_self) hk
  have hini' : (Cond.initialized cls).before args s' = true := vx_ot_at hW0 hvm.symm (hgood _ (List.mem_cons_of_mem _ List.mem_cons_self)) hini
  have hU' : vx_Zq Bundle.tN "UNASSIGNED_STACK" Bundle.steD A s' s'.heap := by rw [hhp]; exact vx_Zq.moved hW0.alike (hU.kept hS.2.1)
  have hN' : vx_Zq Bundle.tN "SUPPRESSED_SENTINEL" Bundle.listD A s' s'.heap := by rw [hhp]; exact vx_Zq.moved hW0.alike (hN.kept hS.2.1)
  have h : ∀ w ∈ Bundle.ownAtoms own ic cls names, w.before args s' = true := vx_own hat' (vx_isRefq hU'.1) (vx_isRefq hN'.1) hU'.2.word hN'.2.word
  have hown' : s'.vm.findClass own = some m.cls := by rw [hvm]; exact hown
  have hins : (Cond.instantiable cls 6).before args s' = true := h _ (by simp [Bundle.ownAtoms])
  obtain ⟨vm₁, cX, kX, hfX, hkX, -, -, X₁, st1⟩ := Y.newCold hexec (own := own) (C := cls) (index := ik) (n := 6) hown' hk' hins hini'
    (g := F0 m pc ls rest) rfl (by rw [hb]; exact d0) (Nat.le_refl _) (Nat.le_refl _)
  generalize hT1 : (T.setVm vm₁).pushCell { cls := cX, slots := kX.instanceTypes.map defaultValue, vm := .none } = T1 at X₁ st1
  have hcat : (Value.ref T.heap.size).category = 1 := rfl
  have hcellA : T1.heap[T.heap.size]? = some (freshCell cX kX) := by rw [← hT1]; exact State.heap_pushCell_size _ _
  have d3' : decode c.code (pc + 3) = .ok (.dup, 1) := by rw [hb]; exact d3
  have d4' : decode c.code (pc + 4) = .ok (.ldc is, 2) := by rw [hb]; exact d4
  have hstr' : vk_R own is text sa s' := vk_R.warm hW0 hstr
  obtain ⟨U, hsteps, hrun, hend, hW, hsame, ce, hce, hO⟩ := X₁.ctorThrowS hexec htr (own := own) (cls := cls) (names := names) (ic := ic) hown' hcls hnames h (fun x hx => nomatch hx) hfX hkX hcellA (by rw [hhp, hT]; exact Nat.le_refl _) (msg := .ref sa) rfl
    (g := { method := m, pc := pc + 6, locals := ls, stack := .ref sa :: .ref T.heap.size :: .ref T.heap.size :: rest, locked := none }) rfl hsize rfl rfl (rest := rest) rfl
    (by rw [hb]; exact d6) (by rw [hb]; exact d9) hout hRframes (by simp only [List.map_cons, List.sum_cons, hcat]; omega) hlocks
  obtain ⟨f1, f2⟩ := vx_frame hsame
  rw [hhp] at f1 f2
  have hWs : s.WarmedH U.vm := State.WarmedH.trans hW0 hW
  have hcl : s.vm.findClass cls = some ce.cls := by
    have h9 := hO.cls
    rw [hvm] at h9
    exact h9
  have hall : s.sameButNew ({ U with vm := s.vm } : State) locs mc ms := by
    subst hA
    obtain ⟨e1, e2⟩ := hsame
    rw [State.setFrames_setFrames] at e1
    have h2 : (T.setVm s.vm).sameButNew ({ U with vm := s.vm } : State) [] (0 + 1) (0 + 6) := ⟨e1, e2⟩
    have h3 := X.same.trans h2
    rw [List.append_nil] at h3
    exact h3.mono hc hs
  refine ⟨U, ?_, .threw T.heap.size, hrun, hend, Or.inr ⟨T.heap.size, rfl, cls, ce, locs, hx U hWs.alike f1 (fun q hq => f2 q hq (fun z hz => nomatch hz)), hce, hO.vm, hcl, hWs, hall, hf⟩⟩
  refine st1 _ ?_
  show Steps p.tables e below (T1.setTop { method := m, pc := pc + 3, locals := ls, stack := .ref T.heap.size :: rest, locked := none }) _
  jvm_step X₁.here [X₁.here.top, hexec, d3', Value.category]
  exact X₁.ldcString hexec (own := own) (text := text) (index := is) (a := sa) hown' hstr'.1 hstr'.2
    (g := { method := m, pc := pc + 4, locals := ls, stack := .ref T.heap.size :: .ref T.heap.size :: rest, locked := none }) rfl d4' _ hsteps
/-- 'throw new E("text")', the text by a wide index -/
theorem vx_throwSW {cc : ByteArray} {pc : Nat} (hexec : p.tables.exec = Jvm.exec) (hb : c.code = cc) (hl : l.stackTraces = false) {own cls text : String} {names : List String} {ik is ic mc ms sa : Nat} {A : Nat → Prop}
    (hown : s.vm.findClass own = some m.cls) (hcls : Bundle.fit cls = true) (hnames : ∀ n ∈ names, Bundle.fit n = true)
    (hk : (Cond.classLink own ik cls).before args s = true) (hini : (Cond.initialized cls).before args s = true) (hstr : vk_R own is text sa s) (hat : ∀ w ∈ vx_atS own ic cls names, w.before args s = true)
    (hgood : ∀ w ∈ Cond.classLink own ik cls :: Cond.initialized cls :: vx_atS own ic cls names, vx_ot w = true)
    (hU : vx_Zq Bundle.tN "UNASSIGNED_STACK" Bundle.steD A s s.heap) (hN : vx_Zq Bundle.tN "SUPPRESSED_SENTINEL" Bundle.listD A s s.heap) (hS : va_S A s.heap H locs) (hsize : ls.size = c.maxLocals)
    (d0 : decode cc pc = .ok (.new ik, 3)) (d3 : decode cc (pc + 3) = .ok (.dup, 1)) (d4 : decode cc (pc + 4) = .ok (.ldc_w is, 3)) (d7 : decode cc (pc + 7) = .ok (.invokespecial ic, 3)) (d10 : decode cc (pc + 10) = .ok (.athrow, 1))
    (hout : ∀ x ∈ c.exceptionTable.toList, covers x (pc + 10) = false)
    (hRframes : names.length + 3 < R.frames) (hRlocals : (rest.map fun v => v.category).sum + (13 * (names.length + 1) + 43) ≤ R.locals) (hRcells : cells + 1 ≤ R.cells) (hRslots : slots + 6 ≤ R.slots) (hlocks : meth.locks = false)
    (hx : ∀ t : State, s.vm.Alike t.vm → H.size ≤ t.heap.size → (∀ q : Nat, q < H.size → t.heap[q]? = H[q]?) → XC cls s t)
    (hf : ∀ z ∈ locs, free z.base) (hc : cells + 1 ≤ mc) (hs : slots + 6 ≤ ms) :
    W p l e R s m args below meth c H locs cells slots (vx_MQ below Qc XC args s mc ms free) (F0 m pc ls rest) := by
  intro T hT X
  have htr : e.platform.stackTraces = false := (show e.platform.stackTraces = l.stackTraces by rw [X.admits.platform]).trans hl
  have Y := vx_rebase X (R' := { frames := R.frames, locals := R.locals, cells := 1, slots := 6 }) (Nat.le_refl _) (Nat.le_refl _) hRcells hRslots
  obtain ⟨s', hA⟩ : ∃ z, z = (T.setVm s.vm).setFrames (.invoking m args :: below) := ⟨_, rfl⟩
  rw [← hA] at Y
  have hvm : s'.vm = s.vm := by rw [hA]; rfl
  have hhp : s'.heap = H := by rw [hA]; exact hT
  have hW0 : s.WarmedH s'.vm := by rw [hvm]; exact State.WarmedH.refl s
  have hat' : ∀ w ∈ vx_atS own ic cls names, w.before args s' = true := fun w hw => vx_ot_at hW0 hvm.symm (hgood w (List.mem_cons_of_mem _ (List.mem_cons_of_mem _ hw))) (hat w hw)
  have hk' : (Cond.classLink own ik cls).before args s' = true := vx_ot_at hW0 hvm.symm (hgood _ List.mem_cons_self) hk
  have hini' : (Cond.initialized cls).before args s' = true := vx_ot_at hW0 hvm.symm (hgood _ (List.mem_cons_of_mem _ List.mem_cons_self)) hini
  have hU' : vx_Zq Bundle.tN "UNASSIGNED_STACK" Bundle.steD A s' s'.heap := by rw [hhp]; exact vx_Zq.moved hW0.alike (hU.kept hS.2.1)
  have hN' : vx_Zq Bundle.tN "SUPPRESSED_SENTINEL" Bundle.listD A s' s'.heap := by rw [hhp]; exact vx_Zq.moved hW0.alike (hN.kept hS.2.1)
  have h : ∀ w ∈ Bundle.ownAtoms own ic cls names, w.before args s' = true := vx_own hat' (vx_isRefq hU'.1) (vx_isRefq hN'.1) hU'.2.word hN'.2.word
  have hown' : s'.vm.findClass own = some m.cls := by rw [hvm]; exact hown
  have hins : (Cond.instantiable cls 6).before args s' = true := h _ (by simp [Bundle.ownAtoms])
  obtain ⟨vm₁, cX, kX, hfX, hkX, -, -, X₁, st1⟩ := Y.newCold hexec (own := own) (C := cls) (index := ik) (n := 6) hown' hk' hins hini'
    (g := F0 m pc ls rest) rfl (by rw [hb]; exact d0) (Nat.le_refl _) (Nat.le_refl _)
  generalize hT1 : (T.setVm vm₁).pushCell { cls := cX, slots := kX.instanceTypes.map defaultValue, vm := .none } = T1 at X₁ st1
  have hcat : (Value.ref T.heap.size).category = 1 := rfl
  have hcellA : T1.heap[T.heap.size]? = some (freshCell cX kX) := by rw [← hT1]; exact State.heap_pushCell_size _ _
  have d3' : decode c.code (pc + 3) = .ok (.dup, 1) := by rw [hb]; exact d3
  have d4' : decode c.code (pc + 4) = .ok (.ldc_w is, 3) := by rw [hb]; exact d4
  have hstr' : vk_R own is text sa s' := vk_R.warm hW0 hstr
  obtain ⟨U, hsteps, hrun, hend, hW, hsame, ce, hce, hO⟩ := X₁.ctorThrowS hexec htr (own := own) (cls := cls) (names := names) (ic := ic) hown' hcls hnames h (fun x hx => nomatch hx) hfX hkX hcellA (by rw [hhp, hT]; exact Nat.le_refl _) (msg := .ref sa) rfl
    (g := { method := m, pc := pc + 7, locals := ls, stack := .ref sa :: .ref T.heap.size :: .ref T.heap.size :: rest, locked := none }) rfl hsize rfl rfl (rest := rest) rfl
    (by rw [hb]; exact d7) (by rw [hb]; exact d10) hout hRframes (by simp only [List.map_cons, List.sum_cons, hcat]; omega) hlocks
  obtain ⟨f1, f2⟩ := vx_frame hsame
  rw [hhp] at f1 f2
  have hWs : s.WarmedH U.vm := State.WarmedH.trans hW0 hW
  have hcl : s.vm.findClass cls = some ce.cls := by
    have h9 := hO.cls
    rw [hvm] at h9
    exact h9
  have hall : s.sameButNew ({ U with vm := s.vm } : State) locs mc ms := by
    subst hA
    obtain ⟨e1, e2⟩ := hsame
    rw [State.setFrames_setFrames] at e1
    have h2 : (T.setVm s.vm).sameButNew ({ U with vm := s.vm } : State) [] (0 + 1) (0 + 6) := ⟨e1, e2⟩
    have h3 := X.same.trans h2
    rw [List.append_nil] at h3
    exact h3.mono hc hs
  refine ⟨U, ?_, .threw T.heap.size, hrun, hend, Or.inr ⟨T.heap.size, rfl, cls, ce, locs, hx U hWs.alike f1 (fun q hq => f2 q hq (fun z hz => nomatch hz)), hce, hO.vm, hcl, hWs, hall, hf⟩⟩
  refine st1 _ ?_
  show Steps p.tables e below (T1.setTop { method := m, pc := pc + 3, locals := ls, stack := .ref T.heap.size :: rest, locked := none }) _
  jvm_step X₁.here [X₁.here.top, hexec, d3', Value.category]
  exact X₁.ldcStringW hexec (own := own) (text := text) (index := is) (a := sa) hown' hstr'.1 hstr'.2
    (g := { method := m, pc := pc + 4, locals := ls, stack := .ref T.heap.size :: .ref T.heap.size :: rest, locked := none }) rfl d4' _ hsteps
end Ends
section Bodies
variable {l : Launch}
theorem vx_ofW {y : MethodName} {ws ws' : List Cond} {rm : Room} {Pc : Array Value → State → Prop} {Qc : Array Value → State → Outcome → State → Prop} {XC : String → State → State → Prop} {mc ms : Nat} {free : Addr → Prop} {cc : ByteArray} {maxL : Nat} {ret : Option FieldType}
    (hy : plainName y.cls = true) (hw : ws = Cond.code y cc maxL ret :: ws')
    (body : ∀ p e s m args below meth c s₁, BodyLoose p l y (headSpec ws rm) cc maxL ret e s m args below meth c s₁ → c.maxLocals = maxL → (∀ x ∈ c.exceptionTable.toList, False) → Pc args s →
      W p l e (headSpec ws rm).room s m args below meth c s.heap [] 0 0 (vx_MQ below Qc XC args s mc ms free) (entryFrame m args maxL)) : vx_Met l y ws rm Pc Qc XC mc ms free := by
  refine MetFree.of_bodyS (code := cc) (maxLocals := maxL) (ret := ret) hy ?_ ?_
  · intro args s m h hn
    obtain ⟨meth, c, h1, h2, h3, h4, h5, h6, -, -⟩ := Cond.code_spec hn (atoms_spec (ws := ws) h _ (by rw [hw]; exact List.mem_cons_self))
    exact ⟨meth, c, h1, h2, h3, h4, h5, h6⟩
  · intro p e s m args below meth c s₁ B hml hP _
    have hh0 : s₁.heap = s.heap := by rw [B.state]; rfl
    have ht : ∀ x ∈ c.exceptionTable.toList, False := by
      obtain ⟨meth9, c9, h1, h2, -, -, -, -, h7, -⟩ := Cond.code_spec B.named (atoms_spec (ws := ws) B.pre _ (by rw [hw]; exact List.mem_cons_self))
      cases Option.some.inj (h1.symm.trans B.method)
      cases Option.some.inj (h2.symm.trans (Stand.of_body B).code)
      intro x hx
      rw [Array.isEmpty_iff.mp h7] at hx
      cases hx
    obtain ⟨t, a1, o, b1, b2, b3⟩ := body p e s m args below meth c s₁ B hml ht hP s₁ hh0 (Stand.of_body B)
    exact ⟨t, o, a1, b1, b2, b3⟩
/-- the table of a body with handlers -/
theorem vx_table {p : Program} {x y : MethodName} {S : Spec} {cc bytes : ByteArray} {maxL maxL' : Nat} {ret ret' : Option FieldType} {e : Env} {s s₁ : State} {m : MethodId} {args : Array Value} {below : List Frame} {meth : Method} {c : Code} {hh : List (Nat × Nat × Nat × Nat)}
    (B : BodyLoose p l y S cc maxL ret e s m args below meth c s₁) (h : (Cond.codeWith y bytes maxL' ret' hh).before args s = true) : c.exceptionTable.toList = tableOf hh := by
  obtain ⟨m9, meth9, c9, hn9, h1, h2, -, -, h6, -⟩ := Cond.codeWith_spec h
  cases Option.some.inj (hn9.symm.trans B.named)
  cases Option.some.inj (h1.symm.trans B.method)
  cases Option.some.inj (h2.symm.trans (Stand.of_body B).code)
  rw [← h6, table_eq]
end Bodies
end VXA
/-! ===== END ===== -/
/-! ===== BEGIN a static call of a method with an exception table ===== -/
section VXS
variable {p : Program} {l : Launch} {e : Env} {R : Room} {s : State} {m : MethodId} {args : Array Value} {below : List Frame} {meth : Method} {c : Code} {T : State} {H : Heap} {locs : List Loc} {cells slots : Nat}
abbrev vx_CSW (R : Room) (s : State) (args : Array Value) (own : String) (index : Nat) (y : MethodName) (bytes : ByteArray) (maxL : Nat) (ret : Option FieldType) (hh : List (Nat × Nat × Nat × Nat)) (ws : List Cond) (rm : Room) (mc ms n : Nat) : Prop :=
  (rm.cells = mc ∧ rm.slots = ms ∧ rm.frames + 1 ≤ R.frames ∧ 8 + (maxL + 11) + rm.locals ≤ R.locals ∧ (∀ w ∈ ws, ∀ (a' : Array Value) (U : State), s.WarmedH U.vm → w.before a' U = true) ∧ Cond.codeWith y bytes maxL ret hh ∈ ws) ∧
  (Cond.codeWith y bytes maxL ret hh).before args s = true ∧ (Cond.initialized y.cls).before args s = true ∧ (y.cls ≠ "java/lang/invoke/MethodHandle" ∧ y.cls ≠ "java/lang/invoke/VarHandle") ∧
  (∀ sig, parseMethodDescriptor y.desc = some sig → n = sig.parameters.length) ∧ (Cond.methodLink own index y).before args s = true ∧ (Cond.static y).before args s = true
theorem vx_cwSW {own : String} {index maxL mc ms : Nat} {y : MethodName} {bytes : ByteArray} {ret : Option FieldType} {hh : List (Nat × Nat × Nat × Nat)} {Ts ws ws' : List Cond} {rm : Room} (n : Nat) (ht : ∀ w ∈ Ts, w.before args s = true) (hT : GoodIn Ts (va_wsS own index y ws)) (hw : ws = Cond.codeWith y bytes maxL ret hh :: ws') (hrc : rm.cells = mc) (hrs : rm.slots = ms)
    (hd : y.cls ≠ "java/lang/invoke/MethodHandle" ∧ y.cls ≠ "java/lang/invoke/VarHandle" ∧ (parseMethodDescriptor y.desc).map (fun d => d.parameters.length) = some n) (hR : rm.frames + 1 ≤ R.frames ∧ 8 + (maxL + 11) + rm.locals ≤ R.locals) :
    vx_CSW R s args own index y bytes maxL ret hh ws rm mc ms n := by
  have ok : ∀ w ∈ va_wsS own index y ws, w.before args s = true := fun w h => ht w (hT w h).1
  have hG : GoodIn Ts ws := fun w h => hT w (by unfold va_wsS; exact List.mem_append_right _ h)
  have hc : Cond.codeWith y bytes maxL ret hh ∈ ws := by rw [hw]; exact List.mem_cons_self
  refine ⟨⟨hrc, hrs, hR.1, hR.2, pay_in ht hG, hc⟩, ht _ (hG _ hc).1, ok _ (by simp [va_wsS]), ⟨hd.1, hd.2.1⟩, fun sig h => ?_, ok _ (by simp [va_wsS]), ok _ (by simp [va_wsS])⟩
  have h2 := hd.2.2
  rw [h] at h2
  exact (Option.some.inj h2).symm
theorem vx_callSW (X : Stand p l e R s m args below meth c T locs cells slots) (hexec : p.tables.exec = Jvm.exec) {own : String} {index : Nat} {y : MethodName} {bytes : ByteArray} {maxL : Nat} {ret : Option FieldType} {hh : List (Nat × Nat × Nat × Nat)}
    (hown : s.vm.findClass own = some m.cls) (hlink : (Cond.methodLink own index y).before args s = true) (hstat : (Cond.static y).before args s = true) (hinit : (Cond.initialized y.cls).before args s = true)
    (hcode : (Cond.codeWith y bytes maxL ret hh).before args s = true) (hy : y.cls ≠ "java/lang/invoke/MethodHandle" ∧ y.cls ≠ "java/lang/invoke/VarHandle")
    {W9 : Nat} {Pre : Pt → Array Value → Prop} {Post : Pt → Array Value → Option Value → Pt → Prop} (hK : Back l R p e below s args y 3 W9 Pre Post)
    {g : JFrame} (hg : g.method = m) (hsize : g.locals.size = c.maxLocals) {argsL rest : List Value} (hlen : ∀ sig, parseMethodDescriptor y.desc = some sig → argsL.length = sig.parameters.length)
    (hstack : g.stack = argsL.reverse ++ rest) (hW : 2 * g.monitorRoom + (rest.map fun v => v.category).sum ≤ W9) (hdg : decode c.code g.pc = .ok (.invokestatic index, 3))
    (hpre : ∀ vm₁, s.WarmedH vm₁ → Pre ⟨T.setVm vm₁, locs, cells, slots⟩ argsL.toArray) :
    ∃ (v : Option Value) (vm₁ : Vm) (B : Pt), s.WarmedH vm₁ ∧ Stand p l e R s m args below meth c B.U B.locs B.cells B.slots ∧ Post ⟨T.setVm vm₁, locs, cells, slots⟩ argsL.toArray v B ∧
      ∀ target, Steps p.tables e below (B.U.setTop { g with pc := g.pc + 3, stack := v.toList ++ rest }) target → Steps p.tables e below (T.setTop g) target := by
  obtain ⟨mk, methM, cM, hnamed, hmethM, -, -, -, -, -, -, hsigM⟩ := Cond.codeWith_spec hcode
  have hstatic : methM.isStatic = true := Cond.static_spec hnamed hmethM hstat
  obtain ⟨kP, hkP, -⟩ := className_of_methodNamed hnamed
  have hinitP : kP.init = .initialized := Cond.initialized_spec (findClass_of_methodNamed hnamed) hkP hinit
  obtain ⟨vm₁, X₁, hstep₁⟩ := X.invokestatic hexec hown hlink hnamed hmethM hstatic hkP hinitP hy (g := g) hg (argsL := argsL) (rest := rest) (hlen _ hsigM) hstack hdg
  obtain ⟨v, B, X', hpost, hsteps⟩ := hK m meth c ⟨T.setVm vm₁, locs, cells, slots⟩ { g with stack := rest } (.invokestatic index) mk argsL.toArray X₁ hg hsize hdg hW (X₁.named hnamed) (hpre vm₁ X₁.warmed)
  exact ⟨v, vm₁, B, X₁.warmed, X', hpost, fun target h => hstep₁ _ fun acts => by rw [doInvoke_state]; exact hsteps.trans h⟩
theorem vx_runSW {y : MethodName} {bytes cc : ByteArray} {maxL nL mc ms n index : Nat} {ret : Option FieldType} {hh : List (Nat × Nat × Nat × Nat)} {ws : List Cond} {rm : Room} {Pc : Array Value → State → Prop} {Qc : Array Value → State → Outcome → State → Prop} {free : Addr → Prop} {Ts : List Cond} {own : String} {As rest : List Value} {g : JFrame}
    (S : CallFix p m c cc nL s args Ts own) (hM : Met l y ws rm Pc Qc mc ms free) (cw : vx_CSW R s args own index y bytes maxL ret hh ws rm mc ms n) (hp : PreS s H Pc As)
    (hg : g.method = m) (hn : As.length = n) (hsize : g.locals.size = nL) (hstack : g.stack = As.reverse ++ rest) (hW : 2 * g.monitorRoom + (rest.map fun v => v.category).sum ≤ 8) (hdg : decode cc g.pc = .ok (.invokestatic index, 3)) (hf : cells + mc ≤ R.cells ∧ slots + ms ≤ R.slots) :
    va_Run p l e R s m args below meth c H locs cells slots mc ms g rest (Qc As.toArray) (free) := by
  obtain ⟨⟨hrc, hrs, hfr, hlo, hws, hcw⟩, hcode, hini, hy, hlen, hl, hstt⟩ := cw
  have hK : Back l R p e below s args y 3 8 (PreOf R mc ms Pc) (PostOf Qc mc ms free) := va_backW (hh := hh) (bytes := bytes) (maxL := maxL) (ret := ret) hM hp.1 hrc hrs hfr hlo hws hcw (fun a' U hW => word_at hW (Or.inl (by first | rfl | simp [Cond.onTables, Cond.keeps, Cond.steady])) hini)
  obtain ⟨hx, hb, hml, ho, -⟩ := S
  intro T hT X
  obtain ⟨v, vm₁, ⟨U', l2, c2, s2⟩, hW₁, X', ⟨g', mk, t, L, e1, e2, hq, h1, hL, h2, h3⟩, st⟩ := vx_callSW X hx (hh := hh) (bytes := bytes) (maxL := maxL) (ret := ret) ho hl hstt hini hcode hy hK hg (hsize.trans hml.symm) (argsL := As) (rest := rest) (fun sig h => hn.trans (hlen sig h)) hstack hW (by rw [hb]; exact hdg)
    (fun vm₁ hW₁ => ⟨hf.1, hf.2, hp.2 (T.setVm vm₁) hT hW₁⟩)
  dsimp only [Pt.U, Pt.locs, Pt.cells, Pt.slots] at X' e1 e2 h1 h2 h3 st
  subst h1; subst h2; subst h3
  exact ⟨v, (T.setVm vm₁).calling g' mk As.toArray, t, U', L, hT, X', hL, e1, e2, hq, st⟩
/-- a thing of a world lies in the heap -/
theorem vx_lt {D : va_G} {cl : List vw_C} {ws : va_W} {H1 : Heap} (h : va_P D cl ws H1) {k : Nat} {q : Nat × va_E} (hk : ws[k]? = some q) : q.1 < H1.size := (h k q hk).lt
end VXS
/-! ===== END ===== -/
/-! ===== BEGIN methods with a table of their own: called by a name, returning or throwing ===== -/
section VXH
/-! vx_backW, vx_callVX, vx_callSX, vx_callVW, vx_runVW, vx_runVX, vx_runSX, vx_ofWH follow the same proofs as their sisters above (Free/Laws.lean, Shelf42/LK1.lean); vx_outP calls Shelf42/NT130.lean (outThrough). -/
section
variable {l : Launch} {R : Room} {p : Program} {e : Env} {below : List Frame} {s : State} {sargs : Array Value} {y : MethodName} {len W9 : Nat}
theorem vx_backW {ws : List Cond} {rm : Room} {Pc : Array Value → State → Prop} {Qc : Array Value → State → Outcome → State → Prop} {XC : String → State → State → Prop} {mc ms : Nat} {free : Addr → Prop} {bytes : ByteArray} {maxL : Nat} {ret : Option FieldType} {hh : List (Nat × Nat × Nat × Nat)}
    (hM : vx_Met l y ws rm Pc Qc XC mc ms free) (hblind : FrameBlind Pc) (hrc : rm.cells = mc) (hrs : rm.slots = ms)
    (hframes : rm.frames + 1 ≤ R.frames) (hlocals : W9 + (maxL + 11) + rm.locals ≤ R.locals)
    (hws : ∀ w ∈ ws, ∀ a' U, s.WarmedH U.vm → w.before a' U = true) (hcode : Cond.codeWith y bytes maxL ret hh ∈ ws) (hinit : ∀ a' U, s.WarmedH U.vm → (Cond.initialized y.cls).before a' U = true) :
    vx_Back l R p e below s sargs y len W9 (PreOf R mc ms Pc) (PostOf Qc mc ms free) (vx_Post XC mc ms free) := by
  intro m meth c A g ig mk a X hg hsize hdg hW hn hp
  have h1 : (headSpec ws rm).pre.before a A.U = true := atoms_intro fun w hw => hws w hw _ _ X.warmed
  have h2 : (Cond.codeWith y bytes maxL ret hh).before a A.U = true := hws _ hcode _ _ X.warmed
  have h3 : (Cond.initialized y.cls).before a A.U = true := hinit _ _ X.warmed
  have h4 : A.cells + (headSpec ws rm).room.cells ≤ R.cells := by rw [show (headSpec ws rm).room.cells = mc from hrc]; exact hp.1
  have h5 : A.slots + (headSpec ws rm).room.slots ≤ R.slots := by rw [show (headSpec ws rm).room.slots = ms from hrs]; exact hp.2.1
  have hPc : Pc a (A.U.calling g mk a) := hblind _ _ _ _ hp.2.2
  obtain ⟨U, Ls, c0, s0⟩ := A
  dsimp only [Pt.U, Pt.locs, Pt.cells, Pt.slots] at h1 h2 h3 h4 h5 X hn hPc ⊢
  obtain ⟨m9, methY, cY, hn9, hmY, hcY, -, hlY, -⟩ := Cond.codeWith_spec h2
  cases Option.some.inj (hn9.symm.trans hn)
  obtain ⟨kY, hkY, -⟩ := className_of_methodNamed hn
  have hinitY : kY.init = .initialized := Cond.initialized_spec (findClass_of_methodNamed hn) hkY h3
  have h : At U g.method c below := by rw [hg]; exact X.here
  have hlocals9 : W9 + (maxL + 11) + (headSpec ws rm).room.locals ≤ R.locals := hlocals
  have happ : (headSpec ws rm).appliesLoose y e.platform (U.calling g mk a) = true :=
    Spec.appliesLoose_calling (g := g) h hdg hn hkY hinitY
      (X.room_calling (g := g) (R' := (headSpec ws rm).room) hsize hmY hcY hframes (by rw [hlY]; omega) h4 h5) h1
  obtain ⟨mid, hmid⟩ := h.above
  have hfr : (U.setTop g).frames = (.java g :: mid) ++ below := by rw [State.frames_setTop' g h.top, hmid]; rfl
  obtain ⟨o, s₂, hsteps, -, hend, hq⟩ := Steps.callFree hM p X.admits X.cas X.clock (acts := []) hfr happ hPc trivial
  have hq' : vx_Q Qc XC mc ms free a (U.calling g mk a) o s₂ := hq
  rw [State.frames_setTop' g h.top] at hend
  obtain ⟨g₀, hg0⟩ := Option.isSome_iff_exists.mp h.top
  obtain ⟨r, hr⟩ := State.topJava?_eq_some.mp hg0
  have hr' : (({ U with heap := s₂.heap, slotsUsed := s₂.slotsUsed } : State).setVm s₂.vm).frames = .java g₀ :: r := hr
  rcases hq' with ⟨hqc, L, hfe, hL⟩ | ⟨q, rfl, E, ce, L, hx, hce, hcv, hcl, hW₂, hsm, hL⟩
  · obtain ⟨⟨v, rfl⟩, hW₂, e2, q2, q3, q4, q5, q6⟩ := id hfe
    have e3 : s₂ = ({ (U.calling g mk a).setFrames s₂.frames with heap := s₂.heap, slotsUsed := s₂.slotsUsed } : State).setVm s₂.vm := by
      have : s₂ = ({ s₂ with vm := (U.calling g mk a).vm } : State).setVm s₂.vm := rfl
      rw [e2] at this
      exact this
    obtain ⟨c₂, i₂, len₂, hc₂, hd₂, hf₂⟩ := hend
    have hW' : U.WarmedH s₂.vm := hW₂
    have hcc : c₂ = c := by
      have h1 : s₂.code? g.method = U.code? g.method := by
        rw [State.code?_eq, State.code?_eq, hW'.alike.method?]
      exact Option.some.inj (hc₂.symm.trans (h1.trans h.code))
    subst hcc
    have hlen : len₂ = len := by rw [hdg] at hd₂; cases hd₂; rfl
    subst hlen
    have hs₂ : s₂ = (({ U with heap := s₂.heap, slotsUsed := s₂.slotsUsed } : State).setVm s₂.vm).setTop { g with pc := g.pc + len₂, stack := v.toList ++ g.stack } := by
      refine e3.trans ?_
      rw [hf₂, State.calling_eq h.top, State.setFrames_setFrames, State.setTop_of_frames _ hr', hr]
      rfl
    have hsame : U.sameButNew ({ U with heap := s₂.heap, slotsUsed := s₂.slotsUsed } : State) L mc ms := by
      refine ⟨?_, q2, q3, q4, q5, q6⟩
      obtain ⟨t, ht, -⟩ := State.frames_cons hr
      show ({ U with heap := s₂.heap, slotsUsed := s₂.slotsUsed } : State) = { U.setFrames U.frames with heap := s₂.heap, slotsUsed := s₂.slotsUsed }
      rw [State.setFrames_self ht]
    subst hg
    refine Or.inl ⟨v, ⟨(({ U with heap := s₂.heap, slotsUsed := s₂.slotsUsed } : State).setVm s₂.vm), Ls ++ L, c0 + mc, s0 + ms⟩,
      ⟨X.admits, X.cas, X.clock, X.frames, X.room, X.hears, X.method, X.code, (X.here.setHeapUsed s₂.heap s₂.slotsUsed).setVm hW'.alike, X.tail, State.WarmedH.trans X.warmed hW', X.limits, X.bytes, X.same.trans (hsame.setVm s.vm)⟩,
      ⟨g, mk, s₂, L, rfl, rfl, hqc, rfl, hL, rfl, rfl⟩, ?_⟩
    show Steps p.tables e below _ ((({ U with heap := s₂.heap, slotsUsed := s₂.slotsUsed } : State).setVm s₂.vm).setTop { g with pc := g.pc + len₂, stack := v.toList ++ g.stack })
    rw [← hs₂]
    exact hsteps
  · obtain ⟨e2, q2, q3, q4, q5, q6⟩ := id hsm
    have e3 : s₂ = ({ (U.calling g mk a).setFrames s₂.frames with heap := s₂.heap, slotsUsed := s₂.slotsUsed } : State).setVm s₂.vm := by
      have : s₂ = ({ s₂ with vm := (U.calling g mk a).vm } : State).setVm s₂.vm := rfl
      rw [e2] at this
      exact this
    have hf₂ : s₂.frames = .throwing q :: .java g :: U.frames.tail := hend
    have hW' : U.WarmedH s₂.vm := hW₂
    have hs₂ : s₂ = ((({ U with heap := s₂.heap, slotsUsed := s₂.slotsUsed } : State).setVm s₂.vm).setTop g).pushFrame (.throwing q) := by
      refine e3.trans ?_
      rw [hf₂, State.calling_eq h.top, State.setFrames_setFrames, State.pushFrame, State.frames_setTop _ hr', State.setTop_of_frames _ hr', State.setFrames_setFrames, hr]
      rfl
    have hsame : U.sameButNew ({ U with heap := s₂.heap, slotsUsed := s₂.slotsUsed } : State) L mc ms := by
      refine ⟨?_, q2, q3, q4, q5, q6⟩
      obtain ⟨t, ht, -⟩ := State.frames_cons hr
      show ({ U with heap := s₂.heap, slotsUsed := s₂.slotsUsed } : State) = { U.setFrames U.frames with heap := s₂.heap, slotsUsed := s₂.slotsUsed }
      rw [State.setFrames_self ht]
    subst hg
    refine Or.inr ⟨q, ⟨(({ U with heap := s₂.heap, slotsUsed := s₂.slotsUsed } : State).setVm s₂.vm), Ls ++ L, c0 + mc, s0 + ms⟩,
      ⟨X.admits, X.cas, X.clock, X.frames, X.room, X.hears, X.method, X.code, (X.here.setHeapUsed s₂.heap s₂.slotsUsed).setVm hW'.alike, X.tail, State.WarmedH.trans X.warmed hW', X.limits, X.bytes, X.same.trans (hsame.setVm s.vm)⟩,
      ⟨g, mk, s₂, L, E, ce, rfl, rfl, hx, hce, hcv, hcl, rfl, hL, rfl, rfl⟩, ?_⟩
    show Steps p.tables e below _ (((({ U with heap := s₂.heap, slotsUsed := s₂.slotsUsed } : State).setVm s₂.vm).setTop g).pushFrame (.throwing q))
    rw [← hs₂]
    exact hsteps
end
variable {p : Program} {l : Launch} {e : Env} {R : Room} {s : State} {m : MethodId} {args : Array Value} {below : List Frame} {meth : Method} {c : Code} {T : State} {H : Heap} {locs : List Loc} {cells slots : Nat}
theorem vx_callVX (X : Stand p l e R s m args below meth c T locs cells slots) (hexec : p.tables.exec = Jvm.exec) {own C : String} {index : Nat} {y : MethodName} {bytes : ByteArray} {maxL : Nat} {ret : Option FieldType} {hh : List (Nat × Nat × Nat × Nat)}
    (hown : s.vm.findClass own = some m.cls) (hlink : (Cond.methodLink own index y).before args s = true) (hinst : (Cond.instanceMethod y).before args s = true) (hsel : (Cond.selects C y y).before args s = true)
    (hcode : (Cond.codeWith y bytes maxL ret hh).before args s = true) (hy : y.cls ≠ "java/lang/invoke/MethodHandle" ∧ y.cls ≠ "java/lang/invoke/VarHandle")
    {W9 : Nat} {Pre : Pt → Array Value → Prop} {Post : Pt → Array Value → Option Value → Pt → Prop} {PostX : Pt → Array Value → Addr → Pt → Prop} (hK : vx_Back l R p e below s args y 3 W9 Pre Post PostX)
    {b : Addr} {cellB : Cell} (hcell : T.heap[b]? = some cellB) (hobj : cellB.vm.isStatics = false) (hcls : s.vm.findClass C = some cellB.cls)
    {g : JFrame} (hg : g.method = m) (hsize : g.locals.size = c.maxLocals) {argsL rest : List Value} (hlen : ∀ sig, parseMethodDescriptor y.desc = some sig → argsL.length = sig.parameters.length)
    (hstack : g.stack = argsL.reverse ++ .ref b :: rest) (hW : 2 * g.monitorRoom + (rest.map fun v => v.category).sum ≤ W9) (hdg : decode c.code g.pc = .ok (.invokevirtual index, 3))
    (hpre : ∀ vm₁, s.WarmedH vm₁ → Pre ⟨T.setVm vm₁, locs, cells, slots⟩ (Value.ref b :: argsL).toArray) :
    (∃ (v : Option Value) (vm₁ : Vm) (B : Pt), s.WarmedH vm₁ ∧ Stand p l e R s m args below meth c B.U B.locs B.cells B.slots ∧ Post ⟨T.setVm vm₁, locs, cells, slots⟩ (Value.ref b :: argsL).toArray v B ∧
      ∀ target, Steps p.tables e below (B.U.setTop { g with pc := g.pc + 3, stack := v.toList ++ rest }) target → Steps p.tables e below (T.setTop g) target) ∨
    (∃ (q : Addr) (vm₁ : Vm) (B : Pt), s.WarmedH vm₁ ∧ Stand p l e R s m args below meth c B.U B.locs B.cells B.slots ∧ PostX ⟨T.setVm vm₁, locs, cells, slots⟩ (Value.ref b :: argsL).toArray q B ∧
      Steps p.tables e below (T.setTop g) ((B.U.setTop { g with stack := rest }).pushFrame (.throwing q))) := by
  obtain ⟨mk, methM, hnamed, hmethM, hstM, habM⟩ := Cond.instanceMethod_spec hinst
  obtain ⟨m8, methM', cM, hn8, hmethM', -, -, -, -, -, -, hsigM⟩ := Cond.codeWith_spec hcode
  cases Option.some.inj (hn8.symm.trans hnamed)
  cases hmethM.symm.trans hmethM'
  obtain ⟨c2, r2, m2, q1, q2, q3, q4, kP, hkP, hkPi⟩ := Cond.selects_spec hsel
  cases hcls.symm.trans q1
  cases (State.methodFound?_of_named hnamed hy).symm.trans q2
  cases hnamed.symm.trans q3
  have hselP : selectMethod e.platform s.vm cellB.cls mk = .method mk := by rw [Launch.admits_selectMethod X.admits]; exact q4
  obtain ⟨vm₁, X₁, hstep₁⟩ := X.invokevirtual hexec hown hlink hnamed hmethM hstM hkP hkPi hy (a := b) (cell := cellB) hcell
    (fun z h => by rw [h] at hobj; cases hobj) hselP hmethM habM hkP hkPi (g := g) hg (argsL := argsL) (rest := rest) (hlen _ hsigM) hstack hdg
  rcases hK m meth c ⟨T.setVm vm₁, locs, cells, slots⟩ { g with stack := rest } (.invokevirtual index) mk (Value.ref b :: argsL).toArray X₁ hg hsize hdg hW (X₁.named hnamed) (hpre vm₁ X₁.warmed) with ⟨v, B, X', hpost, hsteps⟩ | ⟨q, B, X', hpost, hsteps⟩
  · exact Or.inl ⟨v, vm₁, B, X₁.warmed, X', hpost, fun target h => hstep₁ _ fun acts => by rw [doInvoke_state]; exact hsteps.trans h⟩
  · exact Or.inr ⟨q, vm₁, B, X₁.warmed, X', hpost, hstep₁ _ fun acts => by rw [doInvoke_state]; exact hsteps⟩
theorem vx_callSX (X : Stand p l e R s m args below meth c T locs cells slots) (hexec : p.tables.exec = Jvm.exec) {own : String} {index : Nat} {y : MethodName} {bytes : ByteArray} {maxL : Nat} {ret : Option FieldType} {hh : List (Nat × Nat × Nat × Nat)}
    (hown : s.vm.findClass own = some m.cls) (hlink : (Cond.methodLink own index y).before args s = true) (hstat : (Cond.static y).before args s = true) (hinit : (Cond.initialized y.cls).before args s = true)
    (hcode : (Cond.codeWith y bytes maxL ret hh).before args s = true) (hy : y.cls ≠ "java/lang/invoke/MethodHandle" ∧ y.cls ≠ "java/lang/invoke/VarHandle")
    {W9 : Nat} {Pre : Pt → Array Value → Prop} {Post : Pt → Array Value → Option Value → Pt → Prop} {PostX : Pt → Array Value → Addr → Pt → Prop} (hK : vx_Back l R p e below s args y 3 W9 Pre Post PostX)
    {g : JFrame} (hg : g.method = m) (hsize : g.locals.size = c.maxLocals) {argsL rest : List Value} (hlen : ∀ sig, parseMethodDescriptor y.desc = some sig → argsL.length = sig.parameters.length)
    (hstack : g.stack = argsL.reverse ++ rest) (hW : 2 * g.monitorRoom + (rest.map fun v => v.category).sum ≤ W9) (hdg : decode c.code g.pc = .ok (.invokestatic index, 3))
    (hpre : ∀ vm₁, s.WarmedH vm₁ → Pre ⟨T.setVm vm₁, locs, cells, slots⟩ argsL.toArray) :
    (∃ (v : Option Value) (vm₁ : Vm) (B : Pt), s.WarmedH vm₁ ∧ Stand p l e R s m args below meth c B.U B.locs B.cells B.slots ∧ Post ⟨T.setVm vm₁, locs, cells, slots⟩ argsL.toArray v B ∧
      ∀ target, Steps p.tables e below (B.U.setTop { g with pc := g.pc + 3, stack := v.toList ++ rest }) target → Steps p.tables e below (T.setTop g) target) ∨
    (∃ (q : Addr) (vm₁ : Vm) (B : Pt), s.WarmedH vm₁ ∧ Stand p l e R s m args below meth c B.U B.locs B.cells B.slots ∧ PostX ⟨T.setVm vm₁, locs, cells, slots⟩ argsL.toArray q B ∧
      Steps p.tables e below (T.setTop g) ((B.U.setTop { g with stack := rest }).pushFrame (.throwing q))) := by
  obtain ⟨mk, methM, cM, hnamed, hmethM, -, -, -, -, -, -, hsigM⟩ := Cond.codeWith_spec hcode
  have hstatic : methM.isStatic = true := Cond.static_spec hnamed hmethM hstat
  obtain ⟨kP, hkP, -⟩ := className_of_methodNamed hnamed
  have hinitP : kP.init = .initialized := Cond.initialized_spec (findClass_of_methodNamed hnamed) hkP hinit
  obtain ⟨vm₁, X₁, hstep₁⟩ := X.invokestatic hexec hown hlink hnamed hmethM hstatic hkP hinitP hy (g := g) hg (argsL := argsL) (rest := rest) (hlen _ hsigM) hstack hdg
  rcases hK m meth c ⟨T.setVm vm₁, locs, cells, slots⟩ { g with stack := rest } (.invokestatic index) mk argsL.toArray X₁ hg hsize hdg hW (X₁.named hnamed) (hpre vm₁ X₁.warmed) with ⟨v, B, X', hpost, hsteps⟩ | ⟨q, B, X', hpost, hsteps⟩
  · exact Or.inl ⟨v, vm₁, B, X₁.warmed, X', hpost, fun target h => hstep₁ _ fun acts => by rw [doInvoke_state]; exact hsteps.trans h⟩
  · exact Or.inr ⟨q, vm₁, B, X₁.warmed, X', hpost, hstep₁ _ fun acts => by rw [doInvoke_state]; exact hsteps⟩
theorem vx_callVW (X : Stand p l e R s m args below meth c T locs cells slots) (hexec : p.tables.exec = Jvm.exec) {own C : String} {index : Nat} {y : MethodName} {bytes : ByteArray} {maxL : Nat} {ret : Option FieldType} {hh : List (Nat × Nat × Nat × Nat)}
    (hown : s.vm.findClass own = some m.cls) (hlink : (Cond.methodLink own index y).before args s = true) (hinst : (Cond.instanceMethod y).before args s = true) (hsel : (Cond.selects C y y).before args s = true)
    (hcode : (Cond.codeWith y bytes maxL ret hh).before args s = true) (hy : y.cls ≠ "java/lang/invoke/MethodHandle" ∧ y.cls ≠ "java/lang/invoke/VarHandle")
    {W9 : Nat} {Pre : Pt → Array Value → Prop} {Post : Pt → Array Value → Option Value → Pt → Prop} (hK : Back l R p e below s args y 3 W9 Pre Post)
    {b : Addr} {cellB : Cell} (hcell : T.heap[b]? = some cellB) (hobj : cellB.vm.isStatics = false) (hcls : s.vm.findClass C = some cellB.cls)
    {g : JFrame} (hg : g.method = m) (hsize : g.locals.size = c.maxLocals) {argsL rest : List Value} (hlen : ∀ sig, parseMethodDescriptor y.desc = some sig → argsL.length = sig.parameters.length)
    (hstack : g.stack = argsL.reverse ++ .ref b :: rest) (hW : 2 * g.monitorRoom + (rest.map fun v => v.category).sum ≤ W9) (hdg : decode c.code g.pc = .ok (.invokevirtual index, 3))
    (hpre : ∀ vm₁, s.WarmedH vm₁ → Pre ⟨T.setVm vm₁, locs, cells, slots⟩ (Value.ref b :: argsL).toArray) :
    ∃ (v : Option Value) (vm₁ : Vm) (B : Pt), s.WarmedH vm₁ ∧ Stand p l e R s m args below meth c B.U B.locs B.cells B.slots ∧ Post ⟨T.setVm vm₁, locs, cells, slots⟩ (Value.ref b :: argsL).toArray v B ∧
      ∀ target, Steps p.tables e below (B.U.setTop { g with pc := g.pc + 3, stack := v.toList ++ rest }) target → Steps p.tables e below (T.setTop g) target := by
  obtain ⟨mk, methM, hnamed, hmethM, hstM, habM⟩ := Cond.instanceMethod_spec hinst
  obtain ⟨m8, methM', cM, hn8, hmethM', -, -, -, -, -, -, hsigM⟩ := Cond.codeWith_spec hcode
  cases Option.some.inj (hn8.symm.trans hnamed)
  cases hmethM.symm.trans hmethM'
  obtain ⟨c2, r2, m2, q1, q2, q3, q4, kP, hkP, hkPi⟩ := Cond.selects_spec hsel
  cases hcls.symm.trans q1
  cases (State.methodFound?_of_named hnamed hy).symm.trans q2
  cases hnamed.symm.trans q3
  have hselP : selectMethod e.platform s.vm cellB.cls mk = .method mk := by rw [Launch.admits_selectMethod X.admits]; exact q4
  obtain ⟨vm₁, X₁, hstep₁⟩ := X.invokevirtual hexec hown hlink hnamed hmethM hstM hkP hkPi hy (a := b) (cell := cellB) hcell
    (fun z h => by rw [h] at hobj; cases hobj) hselP hmethM habM hkP hkPi (g := g) hg (argsL := argsL) (rest := rest) (hlen _ hsigM) hstack hdg
  obtain ⟨v, B, X', hpost, hsteps⟩ := hK m meth c ⟨T.setVm vm₁, locs, cells, slots⟩ { g with stack := rest } (.invokevirtual index) mk (Value.ref b :: argsL).toArray X₁ hg hsize hdg hW (X₁.named hnamed) (hpre vm₁ X₁.warmed)
  exact ⟨v, vm₁, B, X₁.warmed, X', hpost, fun target h => hstep₁ _ fun acts => by rw [doInvoke_state]; exact hsteps.trans h⟩
abbrev vx_CVW (R : Room) (s : State) (args : Array Value) (own C : String) (index : Nat) (y : MethodName) (bytes : ByteArray) (maxL : Nat) (ret : Option FieldType) (hh : List (Nat × Nat × Nat × Nat)) (ws : List Cond) (rm : Room) (mc ms n : Nat) : Prop :=
  (rm.cells = mc ∧ rm.slots = ms ∧ rm.frames + 1 ≤ R.frames ∧ 8 + (maxL + 11) + rm.locals ≤ R.locals ∧ (∀ w ∈ ws, ∀ (a' : Array Value) (U : State), s.WarmedH U.vm → w.before a' U = true) ∧ Cond.codeWith y bytes maxL ret hh ∈ ws) ∧
  (Cond.codeWith y bytes maxL ret hh).before args s = true ∧ (Cond.initialized y.cls).before args s = true ∧ (y.cls ≠ "java/lang/invoke/MethodHandle" ∧ y.cls ≠ "java/lang/invoke/VarHandle") ∧
  (∀ sig, parseMethodDescriptor y.desc = some sig → n = sig.parameters.length) ∧ (Cond.methodLink own index y).before args s = true ∧ (Cond.instanceMethod y).before args s = true ∧ (Cond.selects C y y).before args s = true
theorem vx_cwVW {own C : String} {index maxL mc ms : Nat} {y : MethodName} {bytes : ByteArray} {ret : Option FieldType} {hh : List (Nat × Nat × Nat × Nat)} {Ts ws ws' : List Cond} {rm : Room} (n : Nat) (ht : ∀ w ∈ Ts, w.before args s = true) (hT : GoodIn Ts (wsV own index C y ws)) (hw : ws = Cond.codeWith y bytes maxL ret hh :: ws') (hrc : rm.cells = mc) (hrs : rm.slots = ms)
    (hd : y.cls = C ∧ y.cls ≠ "java/lang/invoke/MethodHandle" ∧ y.cls ≠ "java/lang/invoke/VarHandle" ∧ (parseMethodDescriptor y.desc).map (fun d => d.parameters.length) = some n) (hR : rm.frames + 1 ≤ R.frames ∧ 8 + (maxL + 11) + rm.locals ≤ R.locals) :
    vx_CVW R s args own C index y bytes maxL ret hh ws rm mc ms n := by
  obtain ⟨hC, hd⟩ := hd
  subst hC
  have ok : ∀ w ∈ wsV own index y.cls y ws, w.before args s = true := fun w h => ht w (hT w h).1
  have hG : GoodIn Ts ws := fun w h => hT w (by unfold wsV; exact List.mem_append_right _ h)
  have hc : Cond.codeWith y bytes maxL ret hh ∈ ws := by rw [hw]; exact List.mem_cons_self
  refine ⟨⟨hrc, hrs, hR.1, hR.2, pay_in ht hG, hc⟩, ht _ (hG _ hc).1, ok _ (by simp [wsV]), ⟨hd.1, hd.2.1⟩, fun sig h => ?_, ok _ (by simp [wsV]), ok _ (by simp [wsV]), ok _ (by simp [wsV])⟩
  have h2 := hd.2.2
  rw [h] at h2
  exact (Option.some.inj h2).symm
theorem vx_runVW {y : MethodName} {bytes cc : ByteArray} {maxL nL mc ms n index : Nat} {ret : Option FieldType} {hh : List (Nat × Nat × Nat × Nat)} {ws : List Cond} {rm : Room} {Pc : Array Value → State → Prop} {Qc : Array Value → State → Outcome → State → Prop} {free : Addr → Prop} {Ts : List Cond} {own C : String} {b : Addr} {As rest : List Value} {g : JFrame}
    (S : CallFix p m c cc nL s args Ts own) (hM : Met l y ws rm Pc Qc mc ms free) (cw : vx_CVW R s args own C index y bytes maxL ret hh ws rm mc ms n) (hp : PreV s H C b Pc As)
    (hg : g.method = m) (hn : As.length = n) (hsize : g.locals.size = nL) (hstack : g.stack = As.reverse ++ .ref b :: rest) (hW : 2 * g.monitorRoom + (rest.map fun v => v.category).sum ≤ 8) (hdg : decode cc g.pc = .ok (.invokevirtual index, 3)) (hf : cells + mc ≤ R.cells ∧ slots + ms ≤ R.slots) :
    va_Run p l e R s m args below meth c H locs cells slots mc ms g rest (Qc (Value.ref b :: As).toArray) free := by
  obtain ⟨⟨hrc, hrs, hfr, hlo, hws, hcw⟩, hcode, hini, hy, hlen, hl, hin, hse⟩ := cw
  have hK : Back l R p e below s args y 3 8 (PreOf R mc ms Pc) (PostOf Qc mc ms free) := va_backW (hh := hh) (bytes := bytes) (maxL := maxL) (ret := ret) hM hp.1 hrc hrs hfr hlo hws hcw (fun a' U hW => word_at hW (Or.inl (by first | rfl | simp [Cond.onTables, Cond.keeps, Cond.steady])) hini)
  obtain ⟨hx, hb, hml, ho, -⟩ := S
  obtain ⟨-, ⟨cellB, hcB, hoB, hclB⟩, hPc⟩ := hp
  intro T hT X
  obtain ⟨v, vm₁, ⟨U', l2, c2, s2⟩, hW₁, X', ⟨g', mk, t, L, e1, e2, hq, h1, hL, h2, h3⟩, st⟩ := vx_callVW X hx (C := C) (hh := hh) (bytes := bytes) (maxL := maxL) (ret := ret) ho hl hin hse hcode hy hK (by rw [hT]; exact hcB) hoB hclB hg (hsize.trans hml.symm) (argsL := As) (rest := rest) (fun sig h => hn.trans (hlen sig h)) hstack hW (by rw [hb]; exact hdg)
    (fun vm₁ hW₁ => ⟨hf.1, hf.2, hPc (T.setVm vm₁) hT hW₁⟩)
  dsimp only [Pt.U, Pt.locs, Pt.cells, Pt.slots] at X' e1 e2 h1 h2 h3 st
  subst h1; subst h2; subst h3
  exact ⟨v, (T.setVm vm₁).calling g' mk (Value.ref b :: As).toArray, t, U', L, hT, X', hL, e1, e2, hq, st⟩
section
variable {y : MethodName} {bytes cc : ByteArray} {maxL nL mc ms n index : Nat} {ret : Option FieldType} {ws : List Cond} {rm : Room} {Pc : Array Value → State → Prop} {Qc : Array Value → State → Outcome → State → Prop} {XC : String → State → State → Prop} {free : Addr → Prop} {Ts : List Cond} {own C : String} {b : Addr} {As rest : List Value} {g : JFrame}
theorem vx_runVX {hh : List (Nat × Nat × Nat × Nat)} (S : CallFix p m c cc nL s args Ts own) (hM : vx_Met l y ws rm Pc Qc XC mc ms free) (cw : vx_CVW R s args own C index y bytes maxL ret hh ws rm mc ms n) (hp : PreV s H C b Pc As)
    (hg : g.method = m) (hn : As.length = n) (hsize : g.locals.size = nL) (hstack : g.stack = As.reverse ++ .ref b :: rest) (hW : 2 * g.monitorRoom + (rest.map fun v => v.category).sum ≤ 8) (hdg : decode cc g.pc = .ok (.invokevirtual index, 3)) (hf : cells + mc ≤ R.cells ∧ slots + ms ≤ R.slots) :
    vx_Run p l e R s m args below meth c H locs cells slots mc ms g rest (Qc (Value.ref b :: As).toArray) XC free := by
  obtain ⟨⟨hrc, hrs, hfr, hlo, hws, hcw⟩, hcode, hini, hy, hlen, hl, hin, hse⟩ := cw
  have hK : vx_Back l R p e below s args y 3 8 (PreOf R mc ms Pc) (PostOf Qc mc ms free) (vx_Post XC mc ms free) := vx_backW (hh := hh) (bytes := bytes) (maxL := maxL) (ret := ret) hM hp.1 hrc hrs hfr hlo hws hcw (fun a' U hW => word_at hW (Or.inl (by first | rfl | simp [Cond.onTables, Cond.keeps, Cond.steady])) hini)
  obtain ⟨hx, hb, hml, ho, -⟩ := S
  obtain ⟨-, ⟨cellB, hcB, hoB, hclB⟩, hPc⟩ := hp
  intro T hT X
  rcases vx_callVX X hx (C := C) (hh := hh) (bytes := bytes) (maxL := maxL) (ret := ret) ho hl hin hse hcode hy hK (by rw [hT]; exact hcB) hoB hclB hg (hsize.trans hml.symm) (argsL := As) (rest := rest) (fun sig h => hn.trans (hlen sig h)) hstack hW (by rw [hb]; exact hdg)
    (fun vm₁ hW₁ => ⟨hf.1, hf.2, hPc (T.setVm vm₁) hT hW₁⟩) with ⟨v, vm₁, ⟨U', l2, c2, s2⟩, hW₁, X', ⟨g', mk, t, L, e1, e2, hq, h1, hL, h2, h3⟩, st⟩ | ⟨q, vm₁, ⟨U', l2, c2, s2⟩, hW₁, X', ⟨g', mk, t, L, E, ce, e1, e2, hq, hce, hcv, hcl, h1, hL, h2, h3⟩, st⟩
  · dsimp only [Pt.U, Pt.locs, Pt.cells, Pt.slots] at X' e1 e2 h1 h2 h3 st
    subst h1; subst h2; subst h3
    exact Or.inl ⟨v, (T.setVm vm₁).calling g' mk (Value.ref b :: As).toArray, t, U', L, hT, X', hL, e1, e2, hq, st⟩
  · dsimp only [Pt.U, Pt.locs, Pt.cells, Pt.slots] at X' e1 e2 h1 h2 h3 st hcl
    subst h1; subst h2; subst h3
    exact Or.inr ⟨q, (T.setVm vm₁).calling g' mk (Value.ref b :: As).toArray, t, U', L, E, ce, hT, X', hL, e1, e2, hq, hce, hcv, vx_cls hW₁ hcl, st⟩
theorem vx_runSX {hh : List (Nat × Nat × Nat × Nat)} (S : CallFix p m c cc nL s args Ts own) (hM : vx_Met l y ws rm Pc Qc XC mc ms free) (cw : vx_CSW R s args own index y bytes maxL ret hh ws rm mc ms n) (hp : PreS s H Pc As)
    (hg : g.method = m) (hn : As.length = n) (hsize : g.locals.size = nL) (hstack : g.stack = As.reverse ++ rest) (hW : 2 * g.monitorRoom + (rest.map fun v => v.category).sum ≤ 8) (hdg : decode cc g.pc = .ok (.invokestatic index, 3)) (hf : cells + mc ≤ R.cells ∧ slots + ms ≤ R.slots) :
    vx_Run p l e R s m args below meth c H locs cells slots mc ms g rest (Qc As.toArray) XC free := by
  obtain ⟨⟨hrc, hrs, hfr, hlo, hws, hcw⟩, hcode, hini, hy, hlen, hl, hstt⟩ := cw
  have hK : vx_Back l R p e below s args y 3 8 (PreOf R mc ms Pc) (PostOf Qc mc ms free) (vx_Post XC mc ms free) := vx_backW (hh := hh) (bytes := bytes) (maxL := maxL) (ret := ret) hM hp.1 hrc hrs hfr hlo hws hcw (fun a' U hW => word_at hW (Or.inl (by first | rfl | simp [Cond.onTables, Cond.keeps, Cond.steady])) hini)
  obtain ⟨hx, hb, hml, ho, -⟩ := S
  intro T hT X
  rcases vx_callSX X hx (hh := hh) (bytes := bytes) (maxL := maxL) (ret := ret) ho hl hstt hini hcode hy hK hg (hsize.trans hml.symm) (argsL := As) (rest := rest) (fun sig h => hn.trans (hlen sig h)) hstack hW (by rw [hb]; exact hdg)
    (fun vm₁ hW₁ => ⟨hf.1, hf.2, hp.2 (T.setVm vm₁) hT hW₁⟩) with ⟨v, vm₁, ⟨U', l2, c2, s2⟩, hW₁, X', ⟨g', mk, t, L, e1, e2, hq, h1, hL, h2, h3⟩, st⟩ | ⟨q, vm₁, ⟨U', l2, c2, s2⟩, hW₁, X', ⟨g', mk, t, L, E, ce, e1, e2, hq, hce, hcv, hcl, h1, hL, h2, h3⟩, st⟩
  · dsimp only [Pt.U, Pt.locs, Pt.cells, Pt.slots] at X' e1 e2 h1 h2 h3 st
    subst h1; subst h2; subst h3
    exact Or.inl ⟨v, (T.setVm vm₁).calling g' mk As.toArray, t, U', L, hT, X', hL, e1, e2, hq, st⟩
  · dsimp only [Pt.U, Pt.locs, Pt.cells, Pt.slots] at X' e1 e2 h1 h2 h3 st hcl
    subst h1; subst h2; subst h3
    exact Or.inr ⟨q, (T.setVm vm₁).calling g' mk As.toArray, t, U', L, E, ce, hT, X', hL, e1, e2, hq, hce, hcv, vx_cls hW₁ hcl, st⟩
end
end VXH
theorem vx_ofWH {l : Launch} {y : MethodName} {ws ws' : List Cond} {rm : Room} {Pc : Array Value → State → Prop} {Qc : Array Value → State → Outcome → State → Prop} {XC : String → State → State → Prop} {mc ms : Nat} {free : Addr → Prop} {cc : ByteArray} {maxL : Nat} {ret : Option FieldType} {hh : List (Nat × Nat × Nat × Nat)}
    (hy : plainName y.cls = true) (hw : ws = Cond.codeWith y cc maxL ret hh :: ws')
    (body : ∀ p e s m args below meth c s₁, BodyLoose p l y (headSpec ws rm) cc maxL ret e s m args below meth c s₁ → c.maxLocals = maxL → Pc args s →
      W p l e (headSpec ws rm).room s m args below meth c s.heap [] 0 0 (vx_MQ below Qc XC args s mc ms free) (entryFrame m args maxL)) : vx_Met l y ws rm Pc Qc XC mc ms free := by
  refine MetFree.of_bodyS (code := cc) (maxLocals := maxL) (ret := ret) hy ?_ ?_
  · intro args s m h hn
    obtain ⟨m9, meth, c, hn9, h1, h2, h3, h4, -, h5, h6, -⟩ := Cond.codeWith_spec (atoms_spec (ws := ws) h _ (by rw [hw]; exact List.mem_cons_self))
    cases hn.symm.trans hn9
    exact ⟨meth, c, h1, h2, h3, h4, h5, h6⟩
  · intro p e s m args below meth c s₁ B hml hP _
    have hh0 : s₁.heap = s.heap := by rw [B.state]; rfl
    obtain ⟨t, a1, o, b1, b2, b3⟩ := body p e s m args below meth c s₁ B hml hP s₁ hh0 (Stand.of_body B)
    exact ⟨t, o, a1, b1, b2, b3⟩
/-! ===== END ===== -/
end
section
-- ===== PART A: goes FIRST, ahead of the names: the tables' words, and 'selects' of the private methods out of them =====
/-- a private method of a class that the tables say can be made, by its rows of tables_1 -/
def lw_okq (q : MethodName × Nat) : Prop := (q.1.cls ≠ "java/lang/invoke/MethodHandle" ∧ q.1.cls ≠ "java/lang/invoke/VarHandle") ∧ Cond.instantiable q.1.cls q.2 ∈ tables_1 ∧ Cond.privateMethod q.1 ∈ tables_1 ∧ Cond.instanceMethod q.1 ∈ tables_1
theorem lw_p0 : lw_okq (⟨"TagMemory", "letLineGo", "(I)Z"⟩, 12) := ⟨⟨by decide +kernel, by decide +kernel⟩, List.mem_of_getElem? (i := 11) (by decide +kernel), List.mem_of_getElem? (i := 62) (by decide +kernel), List.mem_of_getElem? (i := 63) (by decide +kernel)⟩
theorem lw_p1 : lw_okq (⟨"TagMemory", "writeLineBack", "(II)V"⟩, 12) := ⟨⟨by decide +kernel, by decide +kernel⟩, List.mem_of_getElem? (i := 11) (by decide +kernel), List.mem_of_getElem? (i := 66) (by decide +kernel), List.mem_of_getElem? (i := 67) (by decide +kernel)⟩
theorem lw_p2 : lw_okq (⟨"TagMemory", "wantRow", "(I)I"⟩, 12) := ⟨⟨by decide +kernel, by decide +kernel⟩, List.mem_of_getElem? (i := 11) (by decide +kernel), List.mem_of_getElem? (i := 76) (by decide +kernel), List.mem_of_getElem? (i := 77) (by decide +kernel)⟩
theorem lw_p3 : lw_okq (⟨"TagMemory", "letRowGo", "(I)V"⟩, 12) := ⟨⟨by decide +kernel, by decide +kernel⟩, List.mem_of_getElem? (i := 11) (by decide +kernel), List.mem_of_getElem? (i := 83) (by decide +kernel), List.mem_of_getElem? (i := 84) (by decide +kernel)⟩
theorem lw_p4 : lw_okq (⟨"TagMemory", "isLineWrong", "(I)Z"⟩, 12) := ⟨⟨by decide +kernel, by decide +kernel⟩, List.mem_of_getElem? (i := 11) (by decide +kernel), List.mem_of_getElem? (i := 94) (by decide +kernel), List.mem_of_getElem? (i := 95) (by decide +kernel)⟩
theorem lw_p5 : lw_okq (⟨"TagMemory", "areWordsAsStored", "(II)Z"⟩, 12) := ⟨⟨by decide +kernel, by decide +kernel⟩, List.mem_of_getElem? (i := 11) (by decide +kernel), List.mem_of_getElem? (i := 101) (by decide +kernel), List.mem_of_getElem? (i := 102) (by decide +kernel)⟩
theorem lw_p6 : lw_okq (⟨"TagMemory", "tagsBehindLine", "(I)I"⟩, 12) := ⟨⟨by decide +kernel, by decide +kernel⟩, List.mem_of_getElem? (i := 11) (by decide +kernel), List.mem_of_getElem? (i := 105) (by decide +kernel), List.mem_of_getElem? (i := 106) (by decide +kernel)⟩
theorem lw_p7 : lw_okq (⟨"TagMemory", "peekRow", "(I)I"⟩, 12) := ⟨⟨by decide +kernel, by decide +kernel⟩, List.mem_of_getElem? (i := 11) (by decide +kernel), List.mem_of_getElem? (i := 109) (by decide +kernel), List.mem_of_getElem? (i := 110) (by decide +kernel)⟩
theorem lw_p8 : lw_okq (⟨"TagMemory", "isRowWrong", "(I)Z"⟩, 12) := ⟨⟨by decide +kernel, by decide +kernel⟩, List.mem_of_getElem? (i := 11) (by decide +kernel), List.mem_of_getElem? (i := 116) (by decide +kernel), List.mem_of_getElem? (i := 117) (by decide +kernel)⟩
theorem lw_p9 : lw_okq (⟨"java/lang/Throwable", "fillInStackTrace", "(I)Ljava/lang/Throwable;"⟩, 6) := ⟨⟨by decide +kernel, by decide +kernel⟩, List.mem_of_getElem? (i := 168) (by decide +kernel), List.mem_of_getElem? (i := 166) (by decide +kernel), List.mem_of_getElem? (i := 167) (by decide +kernel)⟩
theorem lw_p10 : lw_okq (⟨"TagMemory", "wantLine", "(I)V"⟩, 12) := ⟨⟨by decide +kernel, by decide +kernel⟩, List.mem_of_getElem? (i := 11) (by decide +kernel), List.mem_of_getElem? (i := 201) (by decide +kernel), List.mem_of_getElem? (i := 202) (by decide +kernel)⟩
theorem lw_p11 : lw_okq (⟨"TagMemory", "bringLine", "(II)V"⟩, 12) := ⟨⟨by decide +kernel, by decide +kernel⟩, List.mem_of_getElem? (i := 11) (by decide +kernel), List.mem_of_getElem? (i := 205) (by decide +kernel), List.mem_of_getElem? (i := 206) (by decide +kernel)⟩
theorem lw_p12 : lw_okq (⟨"TagMemory", "keptTag", "(I)Z"⟩, 12) := ⟨⟨by decide +kernel, by decide +kernel⟩, List.mem_of_getElem? (i := 11) (by decide +kernel), List.mem_of_getElem? (i := 225) (by decide +kernel), List.mem_of_getElem? (i := 226) (by decide +kernel)⟩
theorem lw_p13 : lw_okq (⟨"TagMemory", "changeWord", "(II)V"⟩, 12) := ⟨⟨by decide +kernel, by decide +kernel⟩, List.mem_of_getElem? (i := 11) (by decide +kernel), List.mem_of_getElem? (i := 239) (by decide +kernel), List.mem_of_getElem? (i := 240) (by decide +kernel)⟩
theorem lw_p14 : lw_okq (⟨"TagMemory", "changeTag", "(IZ)V"⟩, 12) := ⟨⟨by decide +kernel, by decide +kernel⟩, List.mem_of_getElem? (i := 11) (by decide +kernel), List.mem_of_getElem? (i := 243) (by decide +kernel), List.mem_of_getElem? (i := 244) (by decide +kernel)⟩
theorem lw_p15 : lw_okq (⟨"TagMemory", "changeGranule", "(IIIZ)V"⟩, 12) := ⟨⟨by decide +kernel, by decide +kernel⟩, List.mem_of_getElem? (i := 11) (by decide +kernel), List.mem_of_getElem? (i := 287) (by decide +kernel), List.mem_of_getElem? (i := 288) (by decide +kernel)⟩
def lw_privs_1 : List (MethodName × Nat) := [(⟨"TagMemory", "letLineGo", "(I)Z"⟩, 12), (⟨"TagMemory", "writeLineBack", "(II)V"⟩, 12), (⟨"TagMemory", "wantRow", "(I)I"⟩, 12), (⟨"TagMemory", "letRowGo", "(I)V"⟩, 12), (⟨"TagMemory", "isLineWrong", "(I)Z"⟩, 12), (⟨"TagMemory", "areWordsAsStored", "(II)Z"⟩, 12), (⟨"TagMemory", "tagsBehindLine", "(I)I"⟩, 12), (⟨"TagMemory", "peekRow", "(I)I"⟩, 12), (⟨"TagMemory", "isRowWrong", "(I)Z"⟩, 12), (⟨"java/lang/Throwable", "fillInStackTrace", "(I)Ljava/lang/Throwable;"⟩, 6), (⟨"TagMemory", "wantLine", "(I)V"⟩, 12), (⟨"TagMemory", "bringLine", "(II)V"⟩, 12), (⟨"TagMemory", "keptTag", "(I)Z"⟩, 12), (⟨"TagMemory", "changeWord", "(II)V"⟩, 12), (⟨"TagMemory", "changeTag", "(IZ)V"⟩, 12), (⟨"TagMemory", "changeGranule", "(IIIZ)V"⟩, 12)]
theorem lw_r1 : ∀ q ∈ lw_privs_1, lw_okq q := List.forall_mem_cons.mpr ⟨lw_p0, List.forall_mem_cons.mpr ⟨lw_p1, List.forall_mem_cons.mpr ⟨lw_p2, List.forall_mem_cons.mpr ⟨lw_p3, List.forall_mem_cons.mpr ⟨lw_p4, List.forall_mem_cons.mpr ⟨lw_p5, List.forall_mem_cons.mpr ⟨lw_p6, List.forall_mem_cons.mpr ⟨lw_p7, List.forall_mem_cons.mpr ⟨lw_p8, List.forall_mem_cons.mpr ⟨lw_p9, List.forall_mem_cons.mpr ⟨lw_p10, List.forall_mem_cons.mpr ⟨lw_p11, List.forall_mem_cons.mpr ⟨lw_p12, List.forall_mem_cons.mpr ⟨lw_p13, List.forall_mem_cons.mpr ⟨lw_p14, List.forall_mem_cons.mpr ⟨lw_p15, fun _ h => absurd h List.not_mem_nil⟩⟩⟩⟩⟩⟩⟩⟩⟩⟩⟩⟩⟩⟩⟩⟩
theorem lw_p16 : lw_okq (⟨"TagMemory", "allTags", "()I"⟩, 12) := ⟨⟨by decide +kernel, by decide +kernel⟩, List.mem_of_getElem? (i := 11) (by decide +kernel), List.mem_of_getElem? (i := 329) (by decide +kernel), List.mem_of_getElem? (i := 330) (by decide +kernel)⟩
theorem lw_p17 : lw_okq (⟨"TagMemoryModel", "bad", "(ZI)Z"⟩, 10) := ⟨⟨by decide +kernel, by decide +kernel⟩, List.mem_of_getElem? (i := 346) (by decide +kernel), List.mem_of_getElem? (i := 391) (by decide +kernel), List.mem_of_getElem? (i := 392) (by decide +kernel)⟩
theorem lw_p18 : lw_okq (⟨"TagMemoryModel", "want", "(I)V"⟩, 10) := ⟨⟨by decide +kernel, by decide +kernel⟩, List.mem_of_getElem? (i := 346) (by decide +kernel), List.mem_of_getElem? (i := 395) (by decide +kernel), List.mem_of_getElem? (i := 396) (by decide +kernel)⟩
theorem lw_p19 : lw_okq (⟨"TagMemoryModel", "lineGoes", "(I)Z"⟩, 10) := ⟨⟨by decide +kernel, by decide +kernel⟩, List.mem_of_getElem? (i := 346) (by decide +kernel), List.mem_of_getElem? (i := 399) (by decide +kernel), List.mem_of_getElem? (i := 400) (by decide +kernel)⟩
theorem lw_p20 : lw_okq (⟨"TagMemoryModel", "wantRow", "(I)V"⟩, 10) := ⟨⟨by decide +kernel, by decide +kernel⟩, List.mem_of_getElem? (i := 346) (by decide +kernel), List.mem_of_getElem? (i := 403) (by decide +kernel), List.mem_of_getElem? (i := 404) (by decide +kernel)⟩
theorem lw_p21 : lw_okq (⟨"TagMemoryModel", "rowGoes", "(I)V"⟩, 10) := ⟨⟨by decide +kernel, by decide +kernel⟩, List.mem_of_getElem? (i := 346) (by decide +kernel), List.mem_of_getElem? (i := 407) (by decide +kernel), List.mem_of_getElem? (i := 408) (by decide +kernel)⟩
theorem lw_p22 : lw_okq (⟨"TagMemoryModel", "changes", "(IIZ)V"⟩, 10) := ⟨⟨by decide +kernel, by decide +kernel⟩, List.mem_of_getElem? (i := 346) (by decide +kernel), List.mem_of_getElem? (i := 419) (by decide +kernel), List.mem_of_getElem? (i := 420) (by decide +kernel)⟩
def lw_privs_2 : List (MethodName × Nat) := [(⟨"TagMemory", "allTags", "()I"⟩, 12), (⟨"TagMemoryModel", "bad", "(ZI)Z"⟩, 10), (⟨"TagMemoryModel", "want", "(I)V"⟩, 10), (⟨"TagMemoryModel", "lineGoes", "(I)Z"⟩, 10), (⟨"TagMemoryModel", "wantRow", "(I)V"⟩, 10), (⟨"TagMemoryModel", "rowGoes", "(I)V"⟩, 10), (⟨"TagMemoryModel", "changes", "(IIZ)V"⟩, 10)]
theorem lw_r2 : ∀ q ∈ lw_privs_2, lw_okq q := List.forall_mem_cons.mpr ⟨lw_p16, List.forall_mem_cons.mpr ⟨lw_p17, List.forall_mem_cons.mpr ⟨lw_p18, List.forall_mem_cons.mpr ⟨lw_p19, List.forall_mem_cons.mpr ⟨lw_p20, List.forall_mem_cons.mpr ⟨lw_p21, List.forall_mem_cons.mpr ⟨lw_p22, fun _ h => absurd h List.not_mem_nil⟩⟩⟩⟩⟩⟩⟩
def lw_privs : List (MethodName × Nat) := lw_privs_1 ++ (lw_privs_2)
def lw_tbl : List Cond := k2_sels lw_privs ++ tables_1
theorem lw_privs_ok : ∀ q ∈ lw_privs, lw_okq q := by
  show ∀ q ∈ lw_privs_1 ++ (lw_privs_2), lw_okq q
  exact List.forall_mem_append.mpr ⟨lw_r1, lw_r2⟩
/-! the words of the tables that every method takes along -/
def TB : List Cond := lw_tbl.filter goodWord
theorem tb_good {w : Cond} (h : w ∈ TB) : goodWord w = true := (List.mem_filter.mp h).2
theorem tb_in {w : Cond} (h : w ∈ TB) : w ∈ lw_tbl := (List.mem_filter.mp h).1
theorem tb_w1 {w : Cond} (i : Nat) (h : tables_1_1[i]? = some w) (g : goodWord w = true) : w ∈ TB := List.mem_filter.mpr ⟨List.mem_append_right _ (List.mem_append_left _ (List.mem_of_getElem? h)), g⟩
theorem tb_w2 {w : Cond} (i : Nat) (h : tables_1_2[i]? = some w) (g : goodWord w = true) : w ∈ TB := List.mem_filter.mpr ⟨List.mem_append_right _ (List.mem_append_right _ (List.mem_of_getElem? h)), g⟩
theorem tb_ws {w : Cond} (i : Nat) (h : (k2_sels lw_privs)[i]? = some w) (g : goodWord w = true) : w ∈ TB := List.mem_filter.mpr ⟨List.mem_append_left _ (List.mem_of_getElem? h), g⟩
theorem tb_GoodTB {c : Cond} : GoodIn (c :: TB) TB := fun w h => ⟨List.mem_cons_of_mem _ h, good_of_word (tb_good h)⟩
theorem tb_Good {c c1 : Cond} (h : c1 ∈ TB) : GoodIn (c :: TB) (c1 :: TB) := fun w hw => (List.mem_cons.mp hw).elim (fun e => by rw [e]; exact ⟨List.mem_cons_of_mem _ h, good_of_word (tb_good h)⟩) (fun h => ⟨List.mem_cons_of_mem _ h, good_of_word (tb_good h)⟩)
theorem tb_GoodL {c1 : Cond} (h : c1 ∈ TB) : GoodIn lw_tbl (c1 :: TB) := fun w hw => (List.mem_cons.mp hw).elim (fun e => by rw [e]; exact ⟨tb_in h, good_of_word (tb_good h)⟩) (fun h => ⟨tb_in h, good_of_word (tb_good h)⟩)
theorem tb_c {big : List Cond} {w : Cond} {l : List Cond} (h : w ∈ big) (g : goodWord w = true) (k : GoodIn big l) : GoodIn big (w :: l) := fun w2 hw => (List.mem_cons.mp hw).elim (fun e => by rw [e]; exact ⟨h, good_of_word g⟩) (fun h => k w2 h)
theorem tb_V {c : Cond} {own C : String} {idx : Nat} {y : MethodName} {c1 : Cond} (h1 : .methodLink own idx y ∈ TB) (h2 : .instanceMethod y ∈ TB) (h3 : .selects C y y ∈ TB) (h4 : .initialized C ∈ TB) (h5 : c1 ∈ TB) : GoodIn (c :: TB) (wsV own idx C y (c1 :: TB)) := tb_c (List.mem_cons_of_mem _ h1) (tb_good h1) (tb_c (List.mem_cons_of_mem _ h2) (tb_good h2) (tb_c (List.mem_cons_of_mem _ h3) (tb_good h3) (tb_c (List.mem_cons_of_mem _ h4) (tb_good h4) (tb_Good h5))))
theorem tb_S {c : Cond} {own : String} {idx : Nat} {y : MethodName} {c1 : Cond} (h1 : .methodLink own idx y ∈ TB) (h2 : .static y ∈ TB) (h4 : .initialized own ∈ TB) (h5 : c1 ∈ TB) : GoodIn (c :: TB) (wsS own idx y (c1 :: TB)) := tb_c (List.mem_cons_of_mem _ h1) (tb_good h1) (tb_c (List.mem_cons_of_mem _ h2) (tb_good h2) (tb_c (List.mem_cons_of_mem _ h4) (tb_good h4) (tb_Good h5)))
theorem tb_VL {own C : String} {idx : Nat} {y : MethodName} {c1 : Cond} (h1 : .methodLink own idx y ∈ TB) (h2 : .instanceMethod y ∈ TB) (h3 : .selects C y y ∈ TB) (h4 : .initialized C ∈ TB) (h5 : c1 ∈ TB) : GoodIn lw_tbl (wsV own idx C y (c1 :: TB)) := tb_c (tb_in h1) (tb_good h1) (tb_c (tb_in h2) (tb_good h2) (tb_c (tb_in h3) (tb_good h3) (tb_c (tb_in h4) (tb_good h4) (tb_GoodL h5))))
/-! classes -/
def RT : String := "TagMemory"
def FT : u_T := fun k => match k with
  | 0 => ("TagMemory", "stored", "[I", true)
  | 1 => ("TagMemory", "lineAt", "[I", true)
  | 2 => ("TagMemory", "lineWords", "[I", true)
  | 3 => ("TagMemory", "lineTags", "[I", true)
  | 4 => ("TagMemory", "lineChanged", "[Z", true)
  | 5 => ("TagMemory", "rowAt", "[I", true)
  | 6 => ("TagMemory", "rowTags", "[I", true)
  | 7 => ("TagMemory", "rowChanged", "[Z", true)
  | 8 => ("TagMemory", "linesCame", "I", false)
  | 9 => ("TagMemory", "linesWrittenBack", "I", false)
  | 10 => ("TagMemory", "rowsCame", "I", false)
  | _ => ("TagMemory", "rowsWrittenBack", "I", false)
def tyT : Nat → FieldType := fun k => match k with
  | 0 => .array .int
  | 1 => .array .int
  | 2 => .array .int
  | 3 => .array .int
  | 4 => .array .boolean
  | 5 => .array .int
  | 6 => .array .int
  | 7 => .array .boolean
  | 8 => .int
  | 9 => .int
  | 10 => .int
  | _ => .int
theorem nmT : ∀ a, a < 12 → ∀ b, b < 12 → a ≠ b → (FT a).2.1 ≠ (FT b).2.1 := by decide +kernel
theorem tyT_ok : ∀ k, k < 12 → parseFieldDescriptor (FT k).2.2.1 = some (tyT k) := by decide +kernel
def RM : String := "TagMemoryModel"
def FM : u_T := fun k => match k with
  | 0 => ("TagMemoryModel", "word", "[I", true)
  | 1 => ("TagMemoryModel", "tagged", "[Z", true)
  | 2 => ("TagMemoryModel", "store", "[I", true)
  | 3 => ("TagMemoryModel", "row", "[I", true)
  | 4 => ("TagMemoryModel", "line", "[I", true)
  | 5 => ("TagMemoryModel", "lineChanged", "[Z", true)
  | 6 => ("TagMemoryModel", "keptRow", "[I", true)
  | 7 => ("TagMemoryModel", "rowChanged", "[Z", true)
  | 8 => ("TagMemoryModel", "counts", "[I", true)
  | _ => ("TagMemoryModel", "thrown", "I", false)
def tyM : Nat → FieldType := fun k => match k with
  | 0 => .array .int
  | 1 => .array .boolean
  | 2 => .array .int
  | 3 => .array .int
  | 4 => .array .int
  | 5 => .array .boolean
  | 6 => .array .int
  | 7 => .array .boolean
  | 8 => .array .int
  | _ => .int
theorem nmM : ∀ a, a < 10 → ∀ b, b < 10 → a ≠ b → (FM a).2.1 ≠ (FM b).2.1 := by decide +kernel
theorem tyM_ok : ∀ k, k < 10 → parseFieldDescriptor (FM k).2.2.1 = some (tyM k) := by decide +kernel
def RL : String := "TagMemoryLaw"
def RJ : String := "java/lang/Integer"
abbrev vwCl : List vw_C := [(RT, FT, 12), (RM, FM, 10)]
/-! words -/
theorem wm_0 : (Cond.initialized "TagMemoryLaw") ∈ TB := tb_w1 0 (by decide +kernel) (by decide +kernel)
theorem wm_1 : (Cond.initialized "TagMemory") ∈ TB := tb_w1 1 (by decide +kernel) (by decide +kernel)
theorem wm_2 : (Cond.initialized "TagMemoryModel") ∈ TB := tb_w1 2 (by decide +kernel) (by decide +kernel)
theorem wm_3 : (Cond.initialized "java/lang/Throwable") ∈ TB := tb_w1 3 (by decide +kernel) (by decide +kernel)
theorem wm_4 : (Cond.initialized "java/lang/Exception") ∈ TB := tb_w1 4 (by decide +kernel) (by decide +kernel)
theorem wm_5 : (Cond.initialized "java/lang/RuntimeException") ∈ TB := tb_w1 5 (by decide +kernel) (by decide +kernel)
theorem wm_6 : (Cond.initialized "java/lang/IndexOutOfBoundsException") ∈ TB := tb_w1 6 (by decide +kernel) (by decide +kernel)
theorem wm_7 : (Cond.initialized "java/lang/System") ∈ TB := tb_w1 7 (by decide +kernel) (by decide +kernel)
theorem wm_8 : (Cond.initialized "java/lang/IllegalArgumentException") ∈ TB := tb_w1 8 (by decide +kernel) (by decide +kernel)
theorem wm_9 : (Cond.initialized "java/lang/Integer") ∈ TB := tb_w1 9 (by decide +kernel) (by decide +kernel)
theorem wm_10 : (Cond.classLink "TagMemoryLaw" 8 "TagMemory") ∈ TB := tb_w1 10 (by decide +kernel) (by decide +kernel)
theorem wm_11 : (Cond.instantiable "TagMemory" 12) ∈ TB := tb_w1 11 (by decide +kernel) (by decide +kernel)
theorem wm_12 : (Cond.methodLink "TagMemoryLaw" 49 ⟨"TagMemory", "<init>", "()V"⟩) ∈ TB := tb_w1 12 (by decide +kernel) (by decide +kernel)
theorem wm_13 : (Cond.instanceMethod ⟨"TagMemory", "<init>", "()V"⟩) ∈ TB := tb_w1 13 (by decide +kernel) (by decide +kernel)
theorem wm_14 : (Cond.code ⟨"TagMemory", "<init>", "()V"⟩ prog_1_method_1_code 2 none) ∈ TB := tb_w1 14 (by decide +kernel) (by decide +kernel)
theorem wm_15 : (Cond.methodLink "TagMemory" 3 ⟨"java/lang/Object", "<init>", "()V"⟩) ∈ TB := tb_w1 15 (by decide +kernel) (by decide +kernel)
theorem wm_16 : (Cond.instanceMethod ⟨"java/lang/Object", "<init>", "()V"⟩) ∈ TB := tb_w1 16 (by decide +kernel) (by decide +kernel)
theorem wm_17 : (Cond.code ⟨"java/lang/Object", "<init>", "()V"⟩ object_method_1_code 1 none) ∈ TB := tb_w1 17 (by decide +kernel) (by decide +kernel)
theorem wm_18 : (Cond.fieldLink "TagMemory" 9 "TagMemory" "stored" "[I") ∈ TB := tb_w1 18 (by decide +kernel) (by decide +kernel)
theorem wm_19 : (Cond.fieldLink "TagMemory" 13 "TagMemory" "lineAt" "[I") ∈ TB := tb_w1 19 (by decide +kernel) (by decide +kernel)
theorem wm_20 : (Cond.fieldLink "TagMemory" 16 "TagMemory" "lineWords" "[I") ∈ TB := tb_w1 20 (by decide +kernel) (by decide +kernel)
theorem wm_21 : (Cond.fieldLink "TagMemory" 19 "TagMemory" "lineTags" "[I") ∈ TB := tb_w1 21 (by decide +kernel) (by decide +kernel)
theorem wm_22 : (Cond.fieldLink "TagMemory" 22 "TagMemory" "lineChanged" "[Z") ∈ TB := tb_w1 22 (by decide +kernel) (by decide +kernel)
theorem wm_23 : (Cond.fieldLink "TagMemory" 26 "TagMemory" "rowAt" "[I") ∈ TB := tb_w1 23 (by decide +kernel) (by decide +kernel)
theorem wm_24 : (Cond.fieldLink "TagMemory" 29 "TagMemory" "rowTags" "[I") ∈ TB := tb_w1 24 (by decide +kernel) (by decide +kernel)
theorem wm_25 : (Cond.fieldLink "TagMemory" 32 "TagMemory" "rowChanged" "[Z") ∈ TB := tb_w1 25 (by decide +kernel) (by decide +kernel)
theorem wm_26 : (Cond.fieldLink "TagMemory" 91 "TagMemory" "linesCame" "I") ∈ TB := tb_w1 26 (by decide +kernel) (by decide +kernel)
theorem wm_27 : (Cond.fieldLink "TagMemory" 95 "TagMemory" "linesWrittenBack" "I") ∈ TB := tb_w1 27 (by decide +kernel) (by decide +kernel)
theorem wm_28 : (Cond.fieldLink "TagMemory" 98 "TagMemory" "rowsCame" "I") ∈ TB := tb_w1 28 (by decide +kernel) (by decide +kernel)
theorem wm_29 : (Cond.fieldLink "TagMemory" 101 "TagMemory" "rowsWrittenBack" "I") ∈ TB := tb_w1 29 (by decide +kernel) (by decide +kernel)
theorem wm_30 : (Cond.laysFinal "TagMemory" "TagMemory" "stored" "[I") ∈ TB := tb_w1 30 (by decide +kernel) (by decide +kernel)
theorem wm_32 : (Cond.laysFinal "TagMemory" "TagMemory" "lineAt" "[I") ∈ TB := tb_w1 32 (by decide +kernel) (by decide +kernel)
theorem wm_34 : (Cond.laysFinal "TagMemory" "TagMemory" "lineWords" "[I") ∈ TB := tb_w1 34 (by decide +kernel) (by decide +kernel)
theorem wm_36 : (Cond.laysFinal "TagMemory" "TagMemory" "lineTags" "[I") ∈ TB := tb_w1 36 (by decide +kernel) (by decide +kernel)
theorem wm_38 : (Cond.laysFinal "TagMemory" "TagMemory" "lineChanged" "[Z") ∈ TB := tb_w1 38 (by decide +kernel) (by decide +kernel)
theorem wm_40 : (Cond.laysFinal "TagMemory" "TagMemory" "rowAt" "[I") ∈ TB := tb_w1 40 (by decide +kernel) (by decide +kernel)
theorem wm_42 : (Cond.laysFinal "TagMemory" "TagMemory" "rowTags" "[I") ∈ TB := tb_w1 42 (by decide +kernel) (by decide +kernel)
theorem wm_44 : (Cond.laysFinal "TagMemory" "TagMemory" "rowChanged" "[Z") ∈ TB := tb_w1 44 (by decide +kernel) (by decide +kernel)
theorem wm_46 : (Cond.lays "TagMemory" "TagMemory" "linesCame" "I") ∈ TB := tb_w1 46 (by decide +kernel) (by decide +kernel)
theorem wm_48 : (Cond.lays "TagMemory" "TagMemory" "linesWrittenBack" "I") ∈ TB := tb_w1 48 (by decide +kernel) (by decide +kernel)
theorem wm_50 : (Cond.lays "TagMemory" "TagMemory" "rowsCame" "I") ∈ TB := tb_w1 50 (by decide +kernel) (by decide +kernel)
theorem wm_52 : (Cond.lays "TagMemory" "TagMemory" "rowsWrittenBack" "I") ∈ TB := tb_w1 52 (by decide +kernel) (by decide +kernel)
theorem wm_55 : (Cond.arrayClass .int) ∈ TB := tb_w1 55 (by decide +kernel) (by decide +kernel)
theorem wm_56 : (Cond.arrayClass .boolean) ∈ TB := tb_w1 56 (by decide +kernel) (by decide +kernel)
theorem wm_57 : (Cond.methodLink "TagMemoryLaw" 84 ⟨"TagMemory", "flush", "()I"⟩) ∈ TB := tb_w1 57 (by decide +kernel) (by decide +kernel)
theorem wm_58 : (Cond.instanceMethod ⟨"TagMemory", "flush", "()I"⟩) ∈ TB := tb_w1 58 (by decide +kernel) (by decide +kernel)
theorem wm_59 : (Cond.selects "TagMemory" ⟨"TagMemory", "flush", "()I"⟩ ⟨"TagMemory", "flush", "()I"⟩) ∈ TB := tb_w1 59 (by decide +kernel) (by decide +kernel)
theorem wm_60 : (Cond.code ⟨"TagMemory", "flush", "()I"⟩ prog_1_method_9_code 3 (some .int)) ∈ TB := tb_w1 60 (by decide +kernel) (by decide +kernel)
theorem wm_61 : (Cond.methodLink "TagMemory" 81 ⟨"TagMemory", "letLineGo", "(I)Z"⟩) ∈ TB := tb_w1 61 (by decide +kernel) (by decide +kernel)
theorem wm_63 : (Cond.instanceMethod ⟨"TagMemory", "letLineGo", "(I)Z"⟩) ∈ TB := tb_w1 63 (by decide +kernel) (by decide +kernel)
theorem wm_64 : (Cond.code ⟨"TagMemory", "letLineGo", "(I)Z"⟩ prog_1_method_33_code 3 (some .boolean)) ∈ TB := tb_w1 64 (by decide +kernel) (by decide +kernel)
theorem wm_65 : (Cond.methodLink "TagMemory" 167 ⟨"TagMemory", "writeLineBack", "(II)V"⟩) ∈ TB := tb_w1 65 (by decide +kernel) (by decide +kernel)
theorem wm_67 : (Cond.instanceMethod ⟨"TagMemory", "writeLineBack", "(II)V"⟩) ∈ TB := tb_w1 67 (by decide +kernel) (by decide +kernel)
theorem wm_68 : (Cond.code ⟨"TagMemory", "writeLineBack", "(II)V"⟩ prog_1_method_34_code 5 none) ∈ TB := tb_w1 68 (by decide +kernel) (by decide +kernel)
theorem wm_69 : (Cond.methodLink "TagMemory" 151 ⟨"java/lang/System", "arraycopy", "(Ljava/lang/Object;ILjava/lang/Object;II)V"⟩) ∈ TB := tb_w1 69 (by decide +kernel) (by decide +kernel)
theorem wm_70 : (Cond.static ⟨"java/lang/System", "arraycopy", "(Ljava/lang/Object;ILjava/lang/Object;II)V"⟩) ∈ TB := tb_w1 70 (by decide +kernel) (by decide +kernel)
theorem wm_71 : (Cond.native ⟨"java/lang/System", "arraycopy", "(Ljava/lang/Object;ILjava/lang/Object;II)V"⟩) ∈ TB := tb_w1 71 (by decide +kernel) (by decide +kernel)
theorem wm_72 : (Cond.methodLink "TagMemory" 157 ⟨"TagMemory", "rowOfLine", "(I)I"⟩) ∈ TB := tb_w1 72 (by decide +kernel) (by decide +kernel)
theorem wm_73 : (Cond.static ⟨"TagMemory", "rowOfLine", "(I)I"⟩) ∈ TB := tb_w1 73 (by decide +kernel) (by decide +kernel)
theorem wm_74 : (Cond.code ⟨"TagMemory", "rowOfLine", "(I)I"⟩ prog_1_method_20_code 1 (some .int)) ∈ TB := tb_w1 74 (by decide +kernel) (by decide +kernel)
theorem wm_75 : (Cond.methodLink "TagMemory" 160 ⟨"TagMemory", "wantRow", "(I)I"⟩) ∈ TB := tb_w1 75 (by decide +kernel) (by decide +kernel)
theorem wm_77 : (Cond.instanceMethod ⟨"TagMemory", "wantRow", "(I)I"⟩) ∈ TB := tb_w1 77 (by decide +kernel) (by decide +kernel)
theorem wm_78 : (Cond.code ⟨"TagMemory", "wantRow", "(I)I"⟩ prog_1_method_35_code 3 (some .int)) ∈ TB := tb_w1 78 (by decide +kernel) (by decide +kernel)
theorem wm_79 : (Cond.methodLink "TagMemory" 170 ⟨"TagMemory", "placeOfRow", "(I)I"⟩) ∈ TB := tb_w1 79 (by decide +kernel) (by decide +kernel)
theorem wm_80 : (Cond.static ⟨"TagMemory", "placeOfRow", "(I)I"⟩) ∈ TB := tb_w1 80 (by decide +kernel) (by decide +kernel)
theorem wm_81 : (Cond.code ⟨"TagMemory", "placeOfRow", "(I)I"⟩ prog_1_method_22_code 1 (some .int)) ∈ TB := tb_w1 81 (by decide +kernel) (by decide +kernel)
theorem wm_82 : (Cond.methodLink "TagMemory" 84 ⟨"TagMemory", "letRowGo", "(I)V"⟩) ∈ TB := tb_w1 82 (by decide +kernel) (by decide +kernel)
theorem wm_84 : (Cond.instanceMethod ⟨"TagMemory", "letRowGo", "(I)V"⟩) ∈ TB := tb_w1 84 (by decide +kernel) (by decide +kernel)
theorem wm_85 : (Cond.code ⟨"TagMemory", "letRowGo", "(I)V"⟩ prog_1_method_36_code 2 none) ∈ TB := tb_w1 85 (by decide +kernel) (by decide +kernel)
theorem wm_86 : (Cond.methodLink "TagMemory" 135 ⟨"TagMemory", "firstTagBit", "(I)I"⟩) ∈ TB := tb_w1 86 (by decide +kernel) (by decide +kernel)
theorem wm_87 : (Cond.static ⟨"TagMemory", "firstTagBit", "(I)I"⟩) ∈ TB := tb_w1 87 (by decide +kernel) (by decide +kernel)
theorem wm_88 : (Cond.code ⟨"TagMemory", "firstTagBit", "(I)I"⟩ prog_1_method_24_code 1 (some .int)) ∈ TB := tb_w1 88 (by decide +kernel) (by decide +kernel)
theorem wm_89 : (Cond.methodLink "TagMemoryLaw" 97 ⟨"TagMemory", "check", "()I"⟩) ∈ TB := tb_w1 89 (by decide +kernel) (by decide +kernel)
theorem wm_90 : (Cond.instanceMethod ⟨"TagMemory", "check", "()I"⟩) ∈ TB := tb_w1 90 (by decide +kernel) (by decide +kernel)
theorem wm_91 : (Cond.selects "TagMemory" ⟨"TagMemory", "check", "()I"⟩ ⟨"TagMemory", "check", "()I"⟩) ∈ TB := tb_w1 91 (by decide +kernel) (by decide +kernel)
theorem wm_92 : (Cond.code ⟨"TagMemory", "check", "()I"⟩ prog_1_method_13_code 3 (some .int)) ∈ TB := tb_w1 92 (by decide +kernel) (by decide +kernel)
theorem wm_93 : (Cond.methodLink "TagMemory" 121 ⟨"TagMemory", "isLineWrong", "(I)Z"⟩) ∈ TB := tb_w1 93 (by decide +kernel) (by decide +kernel)
theorem wm_95 : (Cond.instanceMethod ⟨"TagMemory", "isLineWrong", "(I)Z"⟩) ∈ TB := tb_w1 95 (by decide +kernel) (by decide +kernel)
theorem wm_96 : (Cond.code ⟨"TagMemory", "isLineWrong", "(I)Z"⟩ prog_1_method_42_code 3 (some .boolean)) ∈ TB := tb_w1 96 (by decide +kernel) (by decide +kernel)
theorem wm_97 : (Cond.methodLink "TagMemory" 138 ⟨"TagMemory", "placeOfLine", "(I)I"⟩) ∈ TB := tb_w1 97 (by decide +kernel) (by decide +kernel)
theorem wm_98 : (Cond.static ⟨"TagMemory", "placeOfLine", "(I)I"⟩) ∈ TB := tb_w1 98 (by decide +kernel) (by decide +kernel)
theorem wm_99 : (Cond.code ⟨"TagMemory", "placeOfLine", "(I)I"⟩ prog_1_method_21_code 1 (some .int)) ∈ TB := tb_w1 99 (by decide +kernel) (by decide +kernel)
theorem wm_100 : (Cond.methodLink "TagMemory" 184 ⟨"TagMemory", "areWordsAsStored", "(II)Z"⟩) ∈ TB := tb_w1 100 (by decide +kernel) (by decide +kernel)
theorem wm_102 : (Cond.instanceMethod ⟨"TagMemory", "areWordsAsStored", "(II)Z"⟩) ∈ TB := tb_w1 102 (by decide +kernel) (by decide +kernel)
theorem wm_103 : (Cond.code ⟨"TagMemory", "areWordsAsStored", "(II)Z"⟩ prog_1_method_43_code 4 (some .boolean)) ∈ TB := tb_w1 103 (by decide +kernel) (by decide +kernel)
theorem wm_104 : (Cond.methodLink "TagMemory" 181 ⟨"TagMemory", "tagsBehindLine", "(I)I"⟩) ∈ TB := tb_w1 104 (by decide +kernel) (by decide +kernel)
theorem wm_106 : (Cond.instanceMethod ⟨"TagMemory", "tagsBehindLine", "(I)I"⟩) ∈ TB := tb_w1 106 (by decide +kernel) (by decide +kernel)
theorem wm_107 : (Cond.code ⟨"TagMemory", "tagsBehindLine", "(I)I"⟩ prog_1_method_39_code 2 (some .int)) ∈ TB := tb_w1 107 (by decide +kernel) (by decide +kernel)
theorem wm_108 : (Cond.methodLink "TagMemory" 173 ⟨"TagMemory", "peekRow", "(I)I"⟩) ∈ TB := tb_w1 108 (by decide +kernel) (by decide +kernel)
theorem wm_110 : (Cond.instanceMethod ⟨"TagMemory", "peekRow", "(I)I"⟩) ∈ TB := tb_w1 110 (by decide +kernel) (by decide +kernel)
theorem wm_111 : (Cond.code ⟨"TagMemory", "peekRow", "(I)I"⟩ prog_1_method_37_code 3 (some .int)) ∈ TB := tb_w1 111 (by decide +kernel) (by decide +kernel)
theorem wm_112 : (Cond.methodLink "TagMemory" 163 ⟨"TagMemory", "tagsOfLine", "(II)I"⟩) ∈ TB := tb_w1 112 (by decide +kernel) (by decide +kernel)
theorem wm_113 : (Cond.static ⟨"TagMemory", "tagsOfLine", "(II)I"⟩) ∈ TB := tb_w1 113 (by decide +kernel) (by decide +kernel)
theorem wm_114 : (Cond.code ⟨"TagMemory", "tagsOfLine", "(II)I"⟩ prog_1_method_25_code 2 (some .int)) ∈ TB := tb_w1 114 (by decide +kernel) (by decide +kernel)
theorem wm_115 : (Cond.methodLink "TagMemory" 124 ⟨"TagMemory", "isRowWrong", "(I)Z"⟩) ∈ TB := tb_w1 115 (by decide +kernel) (by decide +kernel)
theorem wm_117 : (Cond.instanceMethod ⟨"TagMemory", "isRowWrong", "(I)Z"⟩) ∈ TB := tb_w1 117 (by decide +kernel) (by decide +kernel)
theorem wm_118 : (Cond.code ⟨"TagMemory", "isRowWrong", "(I)Z"⟩ prog_1_method_44_code 3 (some .boolean)) ∈ TB := tb_w1 118 (by decide +kernel) (by decide +kernel)
theorem wm_119 : (Cond.methodLink "TagMemoryLaw" 53 ⟨"TagMemoryLaw", "read", "(LTagMemory;I[J)I"⟩) ∈ TB := tb_w1 119 (by decide +kernel) (by decide +kernel)
theorem wm_120 : (Cond.static ⟨"TagMemoryLaw", "read", "(LTagMemory;I[J)I"⟩) ∈ TB := tb_w1 120 (by decide +kernel) (by decide +kernel)
theorem wm_121 : (Cond.codeWith ⟨"TagMemoryLaw", "read", "(LTagMemory;I[J)I"⟩ method_3_code 4 (some .int) [(0, 9, 12, 13)]) ∈ TB := tb_w1 121 (by decide +kernel) (by decide +kernel)
theorem wm_122 : (Cond.classLink "TagMemoryLaw" 13 "java/lang/IndexOutOfBoundsException") ∈ TB := tb_w1 122 (by decide +kernel) (by decide +kernel)
theorem wm_123 : (Cond.methodLink "TagMemoryLaw" 7 ⟨"TagMemory", "read", "(I)I"⟩) ∈ TB := tb_w1 123 (by decide +kernel) (by decide +kernel)
theorem wm_124 : (Cond.instanceMethod ⟨"TagMemory", "read", "(I)I"⟩) ∈ TB := tb_w1 124 (by decide +kernel) (by decide +kernel)
theorem wm_125 : (Cond.selects "TagMemory" ⟨"TagMemory", "read", "(I)I"⟩ ⟨"TagMemory", "read", "(I)I"⟩) ∈ TB := tb_w1 125 (by decide +kernel) (by decide +kernel)
theorem wm_126 : (Cond.code ⟨"TagMemory", "read", "(I)I"⟩ prog_1_method_2_code 2 (some .int)) ∈ TB := tb_w1 126 (by decide +kernel) (by decide +kernel)
theorem wm_127 : (Cond.methodLink "TagMemory" 35 ⟨"TagMemory", "refuseNoWord", "(I)V"⟩) ∈ TB := tb_w1 127 (by decide +kernel) (by decide +kernel)
theorem wm_128 : (Cond.static ⟨"TagMemory", "refuseNoWord", "(I)V"⟩) ∈ TB := tb_w1 128 (by decide +kernel) (by decide +kernel)
theorem wm_129 : (Cond.code ⟨"TagMemory", "refuseNoWord", "(I)V"⟩ prog_1_method_14_code 1 none) ∈ TB := tb_w1 129 (by decide +kernel) (by decide +kernel)
theorem wm_130 : (Cond.classLink "TagMemory" 74 "java/lang/IndexOutOfBoundsException") ∈ TB := tb_w1 130 (by decide +kernel) (by decide +kernel)
theorem wm_131 : (Cond.instantiable "java/lang/IndexOutOfBoundsException" 6) ∈ TB := tb_w1 131 (by decide +kernel) (by decide +kernel)
theorem wm_139 : (Cond.selects "java/lang/IndexOutOfBoundsException" ⟨"java/lang/Throwable", "fillInStackTrace", "(I)Ljava/lang/Throwable;"⟩ ⟨"java/lang/Throwable", "fillInStackTrace", "(I)Ljava/lang/Throwable;"⟩) ∈ TB := tb_w1 139 (by decide +kernel) (by decide +kernel)
theorem wm_140 : (Cond.selects "java/lang/IndexOutOfBoundsException" ⟨"java/lang/Throwable", "fillInStackTrace", "()Ljava/lang/Throwable;"⟩ ⟨"java/lang/Throwable", "fillInStackTrace", "()Ljava/lang/Throwable;"⟩) ∈ TB := tb_w1 140 (by decide +kernel) (by decide +kernel)
theorem wm_141 : (Cond.lays "java/lang/IndexOutOfBoundsException" "java/lang/Throwable" "cause" "Ljava/lang/Throwable;") ∈ TB := tb_w1 141 (by decide +kernel) (by decide +kernel)
theorem wm_142 : (Cond.lays "java/lang/Throwable" "java/lang/Throwable" "cause" "Ljava/lang/Throwable;") ∈ TB := tb_w1 142 (by decide +kernel) (by decide +kernel)
theorem wm_143 : (Cond.lays "java/lang/IndexOutOfBoundsException" "java/lang/Throwable" "stackTrace" "[Ljava/lang/StackTraceElement;") ∈ TB := tb_w1 143 (by decide +kernel) (by decide +kernel)
theorem wm_144 : (Cond.lays "java/lang/Throwable" "java/lang/Throwable" "stackTrace" "[Ljava/lang/StackTraceElement;") ∈ TB := tb_w1 144 (by decide +kernel) (by decide +kernel)
theorem wm_145 : (Cond.lays "java/lang/IndexOutOfBoundsException" "java/lang/Throwable" "suppressedExceptions" "Ljava/util/List;") ∈ TB := tb_w1 145 (by decide +kernel) (by decide +kernel)
theorem wm_146 : (Cond.lays "java/lang/Throwable" "java/lang/Throwable" "suppressedExceptions" "Ljava/util/List;") ∈ TB := tb_w1 146 (by decide +kernel) (by decide +kernel)
theorem wm_147 : (Cond.lays "java/lang/IndexOutOfBoundsException" "java/lang/Throwable" "detailMessage" "Ljava/lang/String;") ∈ TB := tb_w1 147 (by decide +kernel) (by decide +kernel)
theorem wm_148 : (Cond.lays "java/lang/Throwable" "java/lang/Throwable" "detailMessage" "Ljava/lang/String;") ∈ TB := tb_w1 148 (by decide +kernel) (by decide +kernel)
theorem wm_149 : (Cond.lays "java/lang/IndexOutOfBoundsException" "java/lang/Throwable" "backtrace" "Ljava/lang/Object;") ∈ TB := tb_w1 149 (by decide +kernel) (by decide +kernel)
theorem wm_150 : (Cond.lays "java/lang/Throwable" "java/lang/Throwable" "backtrace" "Ljava/lang/Object;") ∈ TB := tb_w1 150 (by decide +kernel) (by decide +kernel)
theorem wm_151 : (Cond.fieldLink "java/lang/Throwable" 198 "java/lang/Throwable" "backtrace" "Ljava/lang/Object;") ∈ TB := tb_w1 151 (by decide +kernel) (by decide +kernel)
theorem wm_153 : (Cond.instanceMethod ⟨"java/lang/Throwable", "<init>", "()V"⟩) ∈ TB := tb_w1 153 (by decide +kernel) (by decide +kernel)
theorem wm_154 : (Cond.code ⟨"java/lang/Throwable", "<init>", "()V"⟩ prog_11_method_1_code 1 none) ∈ TB := tb_w1 154 (by decide +kernel) (by decide +kernel)
theorem wm_155 : (Cond.methodLink "java/lang/Throwable" 1 ⟨"java/lang/Object", "<init>", "()V"⟩) ∈ TB := tb_w1 155 (by decide +kernel) (by decide +kernel)
theorem wm_156 : (Cond.fieldLink "java/lang/Throwable" 13 "java/lang/Throwable" "UNASSIGNED_STACK" "[Ljava/lang/StackTraceElement;") ∈ TB := tb_w1 156 (by decide +kernel) (by decide +kernel)
theorem wm_158 : (Cond.fieldLink "java/lang/Throwable" 20 "java/lang/Throwable" "SUPPRESSED_SENTINEL" "Ljava/util/List;") ∈ TB := tb_w1 158 (by decide +kernel) (by decide +kernel)
theorem wm_160 : (Cond.methodLink "java/lang/Throwable" 27 ⟨"java/lang/Throwable", "fillInStackTrace", "()Ljava/lang/Throwable;"⟩) ∈ TB := tb_w1 160 (by decide +kernel) (by decide +kernel)
theorem wm_161 : (Cond.instanceMethod ⟨"java/lang/Throwable", "fillInStackTrace", "()Ljava/lang/Throwable;"⟩) ∈ TB := tb_w1 161 (by decide +kernel) (by decide +kernel)
theorem wm_163 : (Cond.selects "java/lang/IllegalArgumentException" ⟨"java/lang/Throwable", "fillInStackTrace", "()Ljava/lang/Throwable;"⟩ ⟨"java/lang/Throwable", "fillInStackTrace", "()Ljava/lang/Throwable;"⟩) ∈ TB := tb_w1 163 (by decide +kernel) (by decide +kernel)
theorem wm_165 : (Cond.methodLink "java/lang/Throwable" 202 ⟨"java/lang/Throwable", "fillInStackTrace", "(I)Ljava/lang/Throwable;"⟩) ∈ TB := tb_w1 165 (by decide +kernel) (by decide +kernel)
theorem wm_167 : (Cond.instanceMethod ⟨"java/lang/Throwable", "fillInStackTrace", "(I)Ljava/lang/Throwable;"⟩) ∈ TB := tb_w1 167 (by decide +kernel) (by decide +kernel)
theorem wm_168 : (Cond.instantiable "java/lang/Throwable" 6) ∈ TB := tb_w1 168 (by decide +kernel) (by decide +kernel)
theorem wm_169 : (Cond.native ⟨"java/lang/Throwable", "fillInStackTrace", "(I)Ljava/lang/Throwable;"⟩) ∈ TB := tb_w1 169 (by decide +kernel) (by decide +kernel)
theorem wm_171 : (Cond.methodLink "TagMemory" 78 ⟨"java/lang/IndexOutOfBoundsException", "<init>", "(Ljava/lang/String;)V"⟩) ∈ TB := tb_w1 171 (by decide +kernel) (by decide +kernel)
theorem wm_172 : (Cond.instanceMethod ⟨"java/lang/IndexOutOfBoundsException", "<init>", "(Ljava/lang/String;)V"⟩) ∈ TB := tb_w1 172 (by decide +kernel) (by decide +kernel)
theorem wm_173 : (Cond.code ⟨"java/lang/IndexOutOfBoundsException", "<init>", "(Ljava/lang/String;)V"⟩ prog_6_method_2_code 2 none) ∈ TB := tb_w1 173 (by decide +kernel) (by decide +kernel)
theorem wm_174 : (Cond.methodLink "java/lang/IndexOutOfBoundsException" 7 ⟨"java/lang/RuntimeException", "<init>", "(Ljava/lang/String;)V"⟩) ∈ TB := tb_w1 174 (by decide +kernel) (by decide +kernel)
theorem wm_175 : (Cond.instanceMethod ⟨"java/lang/RuntimeException", "<init>", "(Ljava/lang/String;)V"⟩) ∈ TB := tb_w1 175 (by decide +kernel) (by decide +kernel)
theorem wm_176 : (Cond.code ⟨"java/lang/RuntimeException", "<init>", "(Ljava/lang/String;)V"⟩ prog_8_method_2_code 2 none) ∈ TB := tb_w1 176 (by decide +kernel) (by decide +kernel)
theorem wm_177 : (Cond.methodLink "java/lang/RuntimeException" 7 ⟨"java/lang/Exception", "<init>", "(Ljava/lang/String;)V"⟩) ∈ TB := tb_w1 177 (by decide +kernel) (by decide +kernel)
theorem wm_178 : (Cond.instanceMethod ⟨"java/lang/Exception", "<init>", "(Ljava/lang/String;)V"⟩) ∈ TB := tb_w1 178 (by decide +kernel) (by decide +kernel)
theorem wm_179 : (Cond.code ⟨"java/lang/Exception", "<init>", "(Ljava/lang/String;)V"⟩ prog_4_method_2_code 2 none) ∈ TB := tb_w1 179 (by decide +kernel) (by decide +kernel)
theorem wm_180 : (Cond.methodLink "java/lang/Exception" 7 ⟨"java/lang/Throwable", "<init>", "(Ljava/lang/String;)V"⟩) ∈ TB := tb_w1 180 (by decide +kernel) (by decide +kernel)
theorem wm_181 : (Cond.instanceMethod ⟨"java/lang/Throwable", "<init>", "(Ljava/lang/String;)V"⟩) ∈ TB := tb_w1 181 (by decide +kernel) (by decide +kernel)
theorem wm_182 : (Cond.code ⟨"java/lang/Throwable", "<init>", "(Ljava/lang/String;)V"⟩ prog_11_method_2_code 2 none) ∈ TB := tb_w1 182 (by decide +kernel) (by decide +kernel)
theorem wm_184 : (Cond.fieldLink "java/lang/Throwable" 31 "java/lang/Throwable" "detailMessage" "Ljava/lang/String;") ∈ TB := tb_w1 184 (by decide +kernel) (by decide +kernel)
theorem wm_185 : (Cond.fieldLink "java/lang/Throwable" 7 "java/lang/Throwable" "cause" "Ljava/lang/Throwable;") ∈ TB := tb_w1 185 (by decide +kernel) (by decide +kernel)
theorem wm_186 : (Cond.fieldLink "java/lang/Throwable" 17 "java/lang/Throwable" "stackTrace" "[Ljava/lang/StackTraceElement;") ∈ TB := tb_w1 186 (by decide +kernel) (by decide +kernel)
theorem wm_187 : (Cond.fieldLink "java/lang/Throwable" 24 "java/lang/Throwable" "suppressedExceptions" "Ljava/util/List;") ∈ TB := tb_w1 187 (by decide +kernel) (by decide +kernel)
theorem wm_192 : (Cond.lays "java/lang/IndexOutOfBoundsException" "java/lang/Throwable" "depth" "I") ∈ TB := tb_w1 192 (by decide +kernel) (by decide +kernel)
theorem wm_196 : (Cond.arrayClass .byte) ∈ TB := tb_w1 196 (by decide +kernel) (by decide +kernel)
theorem wm_197 : (Cond.methodLink "TagMemory" 39 ⟨"TagMemory", "lineOfWord", "(I)I"⟩) ∈ TB := tb_w1 197 (by decide +kernel) (by decide +kernel)
theorem wm_198 : (Cond.static ⟨"TagMemory", "lineOfWord", "(I)I"⟩) ∈ TB := tb_w1 198 (by decide +kernel) (by decide +kernel)
theorem wm_199 : (Cond.code ⟨"TagMemory", "lineOfWord", "(I)I"⟩ prog_1_method_18_code 1 (some .int)) ∈ TB := tb_w1 199 (by decide +kernel) (by decide +kernel)
theorem wm_200 : (Cond.methodLink "TagMemory" 43 ⟨"TagMemory", "wantLine", "(I)V"⟩) ∈ TB := tb_w1 200 (by decide +kernel) (by decide +kernel)
theorem wm_202 : (Cond.instanceMethod ⟨"TagMemory", "wantLine", "(I)V"⟩) ∈ TB := tb_w1 202 (by decide +kernel) (by decide +kernel)
theorem wm_203 : (Cond.code ⟨"TagMemory", "wantLine", "(I)V"⟩ prog_1_method_31_code 3 none) ∈ TB := tb_w1 203 (by decide +kernel) (by decide +kernel)
theorem wm_204 : (Cond.methodLink "TagMemory" 148 ⟨"TagMemory", "bringLine", "(II)V"⟩) ∈ TB := tb_w1 204 (by decide +kernel) (by decide +kernel)
theorem wm_206 : (Cond.instanceMethod ⟨"TagMemory", "bringLine", "(II)V"⟩) ∈ TB := tb_w1 206 (by decide +kernel) (by decide +kernel)
theorem wm_207 : (Cond.code ⟨"TagMemory", "bringLine", "(II)V"⟩ prog_1_method_32_code 4 none) ∈ TB := tb_w1 207 (by decide +kernel) (by decide +kernel)
theorem wm_208 : (Cond.methodLink "TagMemory" 46 ⟨"TagMemory", "slotOfWord", "(I)I"⟩) ∈ TB := tb_w1 208 (by decide +kernel) (by decide +kernel)
theorem wm_209 : (Cond.static ⟨"TagMemory", "slotOfWord", "(I)I"⟩) ∈ TB := tb_w1 209 (by decide +kernel) (by decide +kernel)
theorem wm_210 : (Cond.code ⟨"TagMemory", "slotOfWord", "(I)I"⟩ prog_1_method_23_code 1 (some .int)) ∈ TB := tb_w1 210 (by decide +kernel) (by decide +kernel)
theorem wm_211 : (Cond.methodLink "TagMemoryLaw" 63 ⟨"TagMemoryLaw", "tag", "(LTagMemory;I[J)I"⟩) ∈ TB := tb_w1 211 (by decide +kernel) (by decide +kernel)
theorem wm_212 : (Cond.static ⟨"TagMemoryLaw", "tag", "(LTagMemory;I[J)I"⟩) ∈ TB := tb_w1 212 (by decide +kernel) (by decide +kernel)
theorem wm_213 : (Cond.codeWith ⟨"TagMemoryLaw", "tag", "(LTagMemory;I[J)I"⟩ method_4_code 4 (some .int) [(0, 16, 19, 13)]) ∈ TB := tb_w1 213 (by decide +kernel) (by decide +kernel)
theorem wm_214 : (Cond.methodLink "TagMemoryLaw" 15 ⟨"TagMemory", "tag", "(I)Z"⟩) ∈ TB := tb_w1 214 (by decide +kernel) (by decide +kernel)
theorem wm_215 : (Cond.instanceMethod ⟨"TagMemory", "tag", "(I)Z"⟩) ∈ TB := tb_w1 215 (by decide +kernel) (by decide +kernel)
theorem wm_216 : (Cond.selects "TagMemory" ⟨"TagMemory", "tag", "(I)Z"⟩ ⟨"TagMemory", "tag", "(I)Z"⟩) ∈ TB := tb_w1 216 (by decide +kernel) (by decide +kernel)
theorem wm_217 : (Cond.code ⟨"TagMemory", "tag", "(I)Z"⟩ prog_1_method_3_code 3 (some .boolean)) ∈ TB := tb_w1 217 (by decide +kernel) (by decide +kernel)
theorem wm_218 : (Cond.methodLink "TagMemory" 49 ⟨"TagMemory", "granuleOfWord", "(I)I"⟩) ∈ TB := tb_w1 218 (by decide +kernel) (by decide +kernel)
theorem wm_219 : (Cond.static ⟨"TagMemory", "granuleOfWord", "(I)I"⟩) ∈ TB := tb_w1 219 (by decide +kernel) (by decide +kernel)
theorem wm_220 : (Cond.code ⟨"TagMemory", "granuleOfWord", "(I)I"⟩ prog_1_method_17_code 1 (some .int)) ∈ TB := tb_w1 220 (by decide +kernel) (by decide +kernel)
theorem wm_221 : (Cond.methodLink "TagMemory" 52 ⟨"TagMemory", "lineOfGranule", "(I)I"⟩) ∈ TB := tb_w1 221 (by decide +kernel) (by decide +kernel)
theorem wm_222 : (Cond.static ⟨"TagMemory", "lineOfGranule", "(I)I"⟩) ∈ TB := tb_w1 222 (by decide +kernel) (by decide +kernel)
theorem wm_223 : (Cond.code ⟨"TagMemory", "lineOfGranule", "(I)I"⟩ prog_1_method_19_code 1 (some .int)) ∈ TB := tb_w1 223 (by decide +kernel) (by decide +kernel)
theorem wm_224 : (Cond.methodLink "TagMemory" 55 ⟨"TagMemory", "keptTag", "(I)Z"⟩) ∈ TB := tb_w1 224 (by decide +kernel) (by decide +kernel)
theorem wm_226 : (Cond.instanceMethod ⟨"TagMemory", "keptTag", "(I)Z"⟩) ∈ TB := tb_w1 226 (by decide +kernel) (by decide +kernel)
theorem wm_227 : (Cond.code ⟨"TagMemory", "keptTag", "(I)Z"⟩ prog_1_method_27_code 2 (some .boolean)) ∈ TB := tb_w1 227 (by decide +kernel) (by decide +kernel)
theorem wm_228 : (Cond.methodLink "TagMemory" 141 ⟨"TagMemory", "tagBit", "(I)I"⟩) ∈ TB := tb_w1 228 (by decide +kernel) (by decide +kernel)
theorem wm_229 : (Cond.static ⟨"TagMemory", "tagBit", "(I)I"⟩) ∈ TB := tb_w1 229 (by decide +kernel) (by decide +kernel)
theorem wm_230 : (Cond.code ⟨"TagMemory", "tagBit", "(I)I"⟩ prog_1_method_26_code 1 (some .int)) ∈ TB := tb_w1 230 (by decide +kernel) (by decide +kernel)
theorem wm_231 : (Cond.methodLink "TagMemoryLaw" 66 ⟨"TagMemoryLaw", "write", "(LTagMemory;II[J)I"⟩) ∈ TB := tb_w1 231 (by decide +kernel) (by decide +kernel)
theorem wm_232 : (Cond.static ⟨"TagMemoryLaw", "write", "(LTagMemory;II[J)I"⟩) ∈ TB := tb_w1 232 (by decide +kernel) (by decide +kernel)
theorem wm_233 : (Cond.codeWith ⟨"TagMemoryLaw", "write", "(LTagMemory;II[J)I"⟩ method_5_code 5 (some .int) [(0, 10, 13, 13)]) ∈ TB := tb_w1 233 (by decide +kernel) (by decide +kernel)
theorem wm_234 : (Cond.methodLink "TagMemoryLaw" 19 ⟨"TagMemory", "write", "(II)I"⟩) ∈ TB := tb_w1 234 (by decide +kernel) (by decide +kernel)
theorem wm_235 : (Cond.instanceMethod ⟨"TagMemory", "write", "(II)I"⟩) ∈ TB := tb_w1 235 (by decide +kernel) (by decide +kernel)
theorem wm_236 : (Cond.selects "TagMemory" ⟨"TagMemory", "write", "(II)I"⟩ ⟨"TagMemory", "write", "(II)I"⟩) ∈ TB := tb_w1 236 (by decide +kernel) (by decide +kernel)
theorem wm_237 : (Cond.code ⟨"TagMemory", "write", "(II)I"⟩ prog_1_method_4_code 4 (some .int)) ∈ TB := tb_w1 237 (by decide +kernel) (by decide +kernel)
theorem wm_238 : (Cond.methodLink "TagMemory" 59 ⟨"TagMemory", "changeWord", "(II)V"⟩) ∈ TB := tb_w1 238 (by decide +kernel) (by decide +kernel)
theorem wm_240 : (Cond.instanceMethod ⟨"TagMemory", "changeWord", "(II)V"⟩) ∈ TB := tb_w2 0 (by decide +kernel) (by decide +kernel)
theorem wm_241 : (Cond.code ⟨"TagMemory", "changeWord", "(II)V"⟩ prog_1_method_28_code 3 none) ∈ TB := tb_w2 1 (by decide +kernel) (by decide +kernel)
theorem wm_242 : (Cond.methodLink "TagMemory" 144 ⟨"TagMemory", "changeTag", "(IZ)V"⟩) ∈ TB := tb_w2 2 (by decide +kernel) (by decide +kernel)
theorem wm_244 : (Cond.instanceMethod ⟨"TagMemory", "changeTag", "(IZ)V"⟩) ∈ TB := tb_w2 4 (by decide +kernel) (by decide +kernel)
theorem wm_245 : (Cond.code ⟨"TagMemory", "changeTag", "(IZ)V"⟩ prog_1_method_30_code 5 none) ∈ TB := tb_w2 5 (by decide +kernel) (by decide +kernel)
theorem wm_246 : (Cond.methodLink "TagMemoryLaw" 70 ⟨"TagMemoryLaw", "part", "(LTagMemory;IIII[J)I"⟩) ∈ TB := tb_w2 6 (by decide +kernel) (by decide +kernel)
theorem wm_247 : (Cond.static ⟨"TagMemoryLaw", "part", "(LTagMemory;IIII[J)I"⟩) ∈ TB := tb_w2 7 (by decide +kernel) (by decide +kernel)
theorem wm_248 : (Cond.codeWith ⟨"TagMemoryLaw", "part", "(LTagMemory;IIII[J)I"⟩ method_6_code 7 (some .int) [(0, 14, 17, 13), (0, 14, 21, 27)]) ∈ TB := tb_w2 8 (by decide +kernel) (by decide +kernel)
theorem wm_249 : (Cond.classLink "TagMemoryLaw" 27 "java/lang/IllegalArgumentException") ∈ TB := tb_w2 9 (by decide +kernel) (by decide +kernel)
theorem wm_250 : (Cond.methodLink "TagMemoryLaw" 23 ⟨"TagMemory", "part", "(IIII)I"⟩) ∈ TB := tb_w2 10 (by decide +kernel) (by decide +kernel)
theorem wm_251 : (Cond.instanceMethod ⟨"TagMemory", "part", "(IIII)I"⟩) ∈ TB := tb_w2 11 (by decide +kernel) (by decide +kernel)
theorem wm_252 : (Cond.selects "TagMemory" ⟨"TagMemory", "part", "(IIII)I"⟩ ⟨"TagMemory", "part", "(IIII)I"⟩) ∈ TB := tb_w2 12 (by decide +kernel) (by decide +kernel)
theorem wm_253 : (Cond.code ⟨"TagMemory", "part", "(IIII)I"⟩ prog_1_method_5_code 9 (some .int)) ∈ TB := tb_w2 13 (by decide +kernel) (by decide +kernel)
theorem wm_254 : (Cond.methodLink "TagMemory" 63 ⟨"TagMemory", "refuseNoPart", "(II)V"⟩) ∈ TB := tb_w2 14 (by decide +kernel) (by decide +kernel)
theorem wm_255 : (Cond.static ⟨"TagMemory", "refuseNoPart", "(II)V"⟩) ∈ TB := tb_w2 15 (by decide +kernel) (by decide +kernel)
theorem wm_256 : (Cond.code ⟨"TagMemory", "refuseNoPart", "(II)V"⟩ prog_1_method_16_code 2 none) ∈ TB := tb_w2 16 (by decide +kernel) (by decide +kernel)
theorem wm_257 : (Cond.classLink "TagMemory" 116 "java/lang/IllegalArgumentException") ∈ TB := tb_w2 17 (by decide +kernel) (by decide +kernel)
theorem wm_258 : (Cond.instantiable "java/lang/IllegalArgumentException" 6) ∈ TB := tb_w2 18 (by decide +kernel) (by decide +kernel)
theorem wm_260 : (Cond.selects "java/lang/IllegalArgumentException" ⟨"java/lang/Throwable", "fillInStackTrace", "(I)Ljava/lang/Throwable;"⟩ ⟨"java/lang/Throwable", "fillInStackTrace", "(I)Ljava/lang/Throwable;"⟩) ∈ TB := tb_w2 20 (by decide +kernel) (by decide +kernel)
theorem wm_261 : (Cond.lays "java/lang/IllegalArgumentException" "java/lang/Throwable" "cause" "Ljava/lang/Throwable;") ∈ TB := tb_w2 21 (by decide +kernel) (by decide +kernel)
theorem wm_262 : (Cond.lays "java/lang/IllegalArgumentException" "java/lang/Throwable" "stackTrace" "[Ljava/lang/StackTraceElement;") ∈ TB := tb_w2 22 (by decide +kernel) (by decide +kernel)
theorem wm_263 : (Cond.lays "java/lang/IllegalArgumentException" "java/lang/Throwable" "suppressedExceptions" "Ljava/util/List;") ∈ TB := tb_w2 23 (by decide +kernel) (by decide +kernel)
theorem wm_264 : (Cond.lays "java/lang/IllegalArgumentException" "java/lang/Throwable" "detailMessage" "Ljava/lang/String;") ∈ TB := tb_w2 24 (by decide +kernel) (by decide +kernel)
theorem wm_265 : (Cond.lays "java/lang/IllegalArgumentException" "java/lang/Throwable" "backtrace" "Ljava/lang/Object;") ∈ TB := tb_w2 25 (by decide +kernel) (by decide +kernel)
theorem wm_267 : (Cond.methodLink "TagMemory" 120 ⟨"java/lang/IllegalArgumentException", "<init>", "(Ljava/lang/String;)V"⟩) ∈ TB := tb_w2 27 (by decide +kernel) (by decide +kernel)
theorem wm_268 : (Cond.instanceMethod ⟨"java/lang/IllegalArgumentException", "<init>", "(Ljava/lang/String;)V"⟩) ∈ TB := tb_w2 28 (by decide +kernel) (by decide +kernel)
theorem wm_269 : (Cond.code ⟨"java/lang/IllegalArgumentException", "<init>", "(Ljava/lang/String;)V"⟩ prog_5_method_2_code 2 none) ∈ TB := tb_w2 29 (by decide +kernel) (by decide +kernel)
theorem wm_270 : (Cond.methodLink "java/lang/IllegalArgumentException" 7 ⟨"java/lang/RuntimeException", "<init>", "(Ljava/lang/String;)V"⟩) ∈ TB := tb_w2 30 (by decide +kernel) (by decide +kernel)
theorem wm_271 : (Cond.lays "java/lang/IllegalArgumentException" "java/lang/Throwable" "depth" "I") ∈ TB := tb_w2 31 (by decide +kernel) (by decide +kernel)
theorem wm_274 : (Cond.constant "TagMemory" 66 (65535 : Int32)) ∈ TB := tb_w2 34 (by decide +kernel) (by decide +kernel)
theorem wm_275 : (Cond.methodLink "TagMemoryLaw" 74 ⟨"TagMemoryLaw", "put", "(LTagMemory;IIIZ)I"⟩) ∈ TB := tb_w2 35 (by decide +kernel) (by decide +kernel)
theorem wm_276 : (Cond.static ⟨"TagMemoryLaw", "put", "(LTagMemory;IIIZ)I"⟩) ∈ TB := tb_w2 36 (by decide +kernel) (by decide +kernel)
theorem wm_277 : (Cond.codeWith ⟨"TagMemoryLaw", "put", "(LTagMemory;IIIZ)I"⟩ method_7_code 6 (some .int) [(0, 9, 12, 13)]) ∈ TB := tb_w2 37 (by decide +kernel) (by decide +kernel)
theorem wm_278 : (Cond.methodLink "TagMemoryLaw" 29 ⟨"TagMemory", "put", "(IIIZ)V"⟩) ∈ TB := tb_w2 38 (by decide +kernel) (by decide +kernel)
theorem wm_279 : (Cond.instanceMethod ⟨"TagMemory", "put", "(IIIZ)V"⟩) ∈ TB := tb_w2 39 (by decide +kernel) (by decide +kernel)
theorem wm_280 : (Cond.selects "TagMemory" ⟨"TagMemory", "put", "(IIIZ)V"⟩ ⟨"TagMemory", "put", "(IIIZ)V"⟩) ∈ TB := tb_w2 40 (by decide +kernel) (by decide +kernel)
theorem wm_281 : (Cond.code ⟨"TagMemory", "put", "(IIIZ)V"⟩ prog_1_method_6_code 5 none) ∈ TB := tb_w2 41 (by decide +kernel) (by decide +kernel)
theorem wm_282 : (Cond.methodLink "TagMemory" 67 ⟨"TagMemory", "refuseNoGranule", "(I)V"⟩) ∈ TB := tb_w2 42 (by decide +kernel) (by decide +kernel)
theorem wm_283 : (Cond.static ⟨"TagMemory", "refuseNoGranule", "(I)V"⟩) ∈ TB := tb_w2 43 (by decide +kernel) (by decide +kernel)
theorem wm_284 : (Cond.code ⟨"TagMemory", "refuseNoGranule", "(I)V"⟩ prog_1_method_15_code 1 none) ∈ TB := tb_w2 44 (by decide +kernel) (by decide +kernel)
theorem wm_286 : (Cond.methodLink "TagMemory" 70 ⟨"TagMemory", "changeGranule", "(IIIZ)V"⟩) ∈ TB := tb_w2 46 (by decide +kernel) (by decide +kernel)
theorem wm_288 : (Cond.instanceMethod ⟨"TagMemory", "changeGranule", "(IIIZ)V"⟩) ∈ TB := tb_w2 48 (by decide +kernel) (by decide +kernel)
theorem wm_289 : (Cond.code ⟨"TagMemory", "changeGranule", "(IIIZ)V"⟩ prog_1_method_29_code 5 none) ∈ TB := tb_w2 49 (by decide +kernel) (by decide +kernel)
theorem wm_290 : (Cond.methodLink "TagMemoryLaw" 78 ⟨"TagMemoryLaw", "copy", "(LTagMemory;II[J)I"⟩) ∈ TB := tb_w2 50 (by decide +kernel) (by decide +kernel)
theorem wm_291 : (Cond.static ⟨"TagMemoryLaw", "copy", "(LTagMemory;II[J)I"⟩) ∈ TB := tb_w2 51 (by decide +kernel) (by decide +kernel)
theorem wm_292 : (Cond.codeWith ⟨"TagMemoryLaw", "copy", "(LTagMemory;II[J)I"⟩ method_8_code 5 (some .int) [(0, 17, 20, 13)]) ∈ TB := tb_w2 52 (by decide +kernel) (by decide +kernel)
theorem wm_293 : (Cond.methodLink "TagMemoryLaw" 33 ⟨"TagMemory", "copy", "(II)Z"⟩) ∈ TB := tb_w2 53 (by decide +kernel) (by decide +kernel)
theorem wm_294 : (Cond.instanceMethod ⟨"TagMemory", "copy", "(II)Z"⟩) ∈ TB := tb_w2 54 (by decide +kernel) (by decide +kernel)
theorem wm_295 : (Cond.selects "TagMemory" ⟨"TagMemory", "copy", "(II)Z"⟩ ⟨"TagMemory", "copy", "(II)Z"⟩) ∈ TB := tb_w2 55 (by decide +kernel) (by decide +kernel)
theorem wm_296 : (Cond.code ⟨"TagMemory", "copy", "(II)Z"⟩ prog_1_method_7_code 6 (some .boolean)) ∈ TB := tb_w2 56 (by decide +kernel) (by decide +kernel)
theorem wm_297 : (Cond.methodLink "TagMemoryLaw" 81 ⟨"TagMemoryLaw", "drop", "(LTagMemory;I[J)I"⟩) ∈ TB := tb_w2 57 (by decide +kernel) (by decide +kernel)
theorem wm_298 : (Cond.static ⟨"TagMemoryLaw", "drop", "(LTagMemory;I[J)I"⟩) ∈ TB := tb_w2 58 (by decide +kernel) (by decide +kernel)
theorem wm_299 : (Cond.codeWith ⟨"TagMemoryLaw", "drop", "(LTagMemory;I[J)I"⟩ method_9_code 4 (some .int) [(0, 9, 12, 13)]) ∈ TB := tb_w2 59 (by decide +kernel) (by decide +kernel)
theorem wm_300 : (Cond.methodLink "TagMemoryLaw" 37 ⟨"TagMemory", "drop", "(I)I"⟩) ∈ TB := tb_w2 60 (by decide +kernel) (by decide +kernel)
theorem wm_301 : (Cond.instanceMethod ⟨"TagMemory", "drop", "(I)I"⟩) ∈ TB := tb_w2 61 (by decide +kernel) (by decide +kernel)
theorem wm_302 : (Cond.selects "TagMemory" ⟨"TagMemory", "drop", "(I)I"⟩ ⟨"TagMemory", "drop", "(I)I"⟩) ∈ TB := tb_w2 62 (by decide +kernel) (by decide +kernel)
theorem wm_303 : (Cond.code ⟨"TagMemory", "drop", "(I)I"⟩ prog_1_method_8_code 2 (some .int)) ∈ TB := tb_w2 63 (by decide +kernel) (by decide +kernel)
theorem wm_305 : (Cond.methodLink "TagMemoryLaw" 88 ⟨"TagMemoryLaw", "store", "(LTagMemory;I[J)I"⟩) ∈ TB := tb_w2 65 (by decide +kernel) (by decide +kernel)
theorem wm_306 : (Cond.static ⟨"TagMemoryLaw", "store", "(LTagMemory;I[J)I"⟩) ∈ TB := tb_w2 66 (by decide +kernel) (by decide +kernel)
theorem wm_307 : (Cond.codeWith ⟨"TagMemoryLaw", "store", "(LTagMemory;I[J)I"⟩ method_10_code 4 (some .int) [(0, 9, 12, 13)]) ∈ TB := tb_w2 67 (by decide +kernel) (by decide +kernel)
theorem wm_308 : (Cond.methodLink "TagMemoryLaw" 40 ⟨"TagMemory", "store", "(I)I"⟩) ∈ TB := tb_w2 68 (by decide +kernel) (by decide +kernel)
theorem wm_309 : (Cond.instanceMethod ⟨"TagMemory", "store", "(I)I"⟩) ∈ TB := tb_w2 69 (by decide +kernel) (by decide +kernel)
theorem wm_310 : (Cond.selects "TagMemory" ⟨"TagMemory", "store", "(I)I"⟩ ⟨"TagMemory", "store", "(I)I"⟩) ∈ TB := tb_w2 70 (by decide +kernel) (by decide +kernel)
theorem wm_311 : (Cond.code ⟨"TagMemory", "store", "(I)I"⟩ prog_1_method_10_code 2 (some .int)) ∈ TB := tb_w2 71 (by decide +kernel) (by decide +kernel)
theorem wm_313 : (Cond.methodLink "TagMemoryLaw" 91 ⟨"TagMemoryLaw", "kept", "(LTagMemory;I[J)I"⟩) ∈ TB := tb_w2 73 (by decide +kernel) (by decide +kernel)
theorem wm_314 : (Cond.static ⟨"TagMemoryLaw", "kept", "(LTagMemory;I[J)I"⟩) ∈ TB := tb_w2 74 (by decide +kernel) (by decide +kernel)
theorem wm_315 : (Cond.codeWith ⟨"TagMemoryLaw", "kept", "(LTagMemory;I[J)I"⟩ method_11_code 4 (some .int) [(0, 9, 12, 13)]) ∈ TB := tb_w2 75 (by decide +kernel) (by decide +kernel)
theorem wm_316 : (Cond.methodLink "TagMemoryLaw" 43 ⟨"TagMemory", "kept", "(I)I"⟩) ∈ TB := tb_w2 76 (by decide +kernel) (by decide +kernel)
theorem wm_317 : (Cond.instanceMethod ⟨"TagMemory", "kept", "(I)I"⟩) ∈ TB := tb_w2 77 (by decide +kernel) (by decide +kernel)
theorem wm_318 : (Cond.selects "TagMemory" ⟨"TagMemory", "kept", "(I)I"⟩ ⟨"TagMemory", "kept", "(I)I"⟩) ∈ TB := tb_w2 78 (by decide +kernel) (by decide +kernel)
theorem wm_319 : (Cond.code ⟨"TagMemory", "kept", "(I)I"⟩ prog_1_method_11_code 2 (some .int)) ∈ TB := tb_w2 79 (by decide +kernel) (by decide +kernel)
theorem wm_321 : (Cond.methodLink "TagMemoryLaw" 94 ⟨"TagMemoryLaw", "count", "(LTagMemory;I[J)I"⟩) ∈ TB := tb_w2 81 (by decide +kernel) (by decide +kernel)
theorem wm_322 : (Cond.static ⟨"TagMemoryLaw", "count", "(LTagMemory;I[J)I"⟩) ∈ TB := tb_w2 82 (by decide +kernel) (by decide +kernel)
theorem wm_323 : (Cond.codeWith ⟨"TagMemoryLaw", "count", "(LTagMemory;I[J)I"⟩ method_12_code 4 (some .int) [(0, 9, 12, 27)]) ∈ TB := tb_w2 83 (by decide +kernel) (by decide +kernel)
theorem wm_324 : (Cond.methodLink "TagMemoryLaw" 46 ⟨"TagMemory", "count", "(I)I"⟩) ∈ TB := tb_w2 84 (by decide +kernel) (by decide +kernel)
theorem wm_325 : (Cond.instanceMethod ⟨"TagMemory", "count", "(I)I"⟩) ∈ TB := tb_w2 85 (by decide +kernel) (by decide +kernel)
theorem wm_326 : (Cond.selects "TagMemory" ⟨"TagMemory", "count", "(I)I"⟩ ⟨"TagMemory", "count", "(I)I"⟩) ∈ TB := tb_w2 86 (by decide +kernel) (by decide +kernel)
theorem wm_327 : (Cond.code ⟨"TagMemory", "count", "(I)I"⟩ prog_1_method_12_code 2 (some .int)) ∈ TB := tb_w2 87 (by decide +kernel) (by decide +kernel)
theorem wm_328 : (Cond.methodLink "TagMemory" 104 ⟨"TagMemory", "allTags", "()I"⟩) ∈ TB := tb_w2 88 (by decide +kernel) (by decide +kernel)
theorem wm_330 : (Cond.instanceMethod ⟨"TagMemory", "allTags", "()I"⟩) ∈ TB := tb_w2 90 (by decide +kernel) (by decide +kernel)
theorem wm_331 : (Cond.code ⟨"TagMemory", "allTags", "()I"⟩ prog_1_method_38_code 3 (some .int)) ∈ TB := tb_w2 91 (by decide +kernel) (by decide +kernel)
theorem wm_332 : (Cond.methodLink "TagMemory" 176 ⟨"java/lang/Integer", "bitCount", "(I)I"⟩) ∈ TB := tb_w2 92 (by decide +kernel) (by decide +kernel)
theorem wm_333 : (Cond.static ⟨"java/lang/Integer", "bitCount", "(I)I"⟩) ∈ TB := tb_w2 93 (by decide +kernel) (by decide +kernel)
theorem wm_334 : (Cond.code ⟨"java/lang/Integer", "bitCount", "(I)I"⟩ prog_7_method_49_code 1 (some .int)) ∈ TB := tb_w2 94 (by decide +kernel) (by decide +kernel)
theorem wm_335 : (Cond.constant "java/lang/Integer" 265 (1431655765 : Int32)) ∈ TB := tb_w2 95 (by decide +kernel) (by decide +kernel)
theorem wm_336 : (Cond.constant "java/lang/Integer" 266 (858993459 : Int32)) ∈ TB := tb_w2 96 (by decide +kernel) (by decide +kernel)
theorem wm_337 : (Cond.constant "java/lang/Integer" 267 (252645135 : Int32)) ∈ TB := tb_w2 97 (by decide +kernel) (by decide +kernel)
theorem wm_338 : (Cond.methodLink "TagMemory" 108 ⟨"TagMemory", "howManyKept", "([I)I"⟩) ∈ TB := tb_w2 98 (by decide +kernel) (by decide +kernel)
theorem wm_339 : (Cond.static ⟨"TagMemory", "howManyKept", "([I)I"⟩) ∈ TB := tb_w2 99 (by decide +kernel) (by decide +kernel)
theorem wm_340 : (Cond.code ⟨"TagMemory", "howManyKept", "([I)I"⟩ prog_1_method_40_code 6 (some .int)) ∈ TB := tb_w2 100 (by decide +kernel) (by decide +kernel)
theorem wm_341 : (Cond.methodLink "TagMemory" 112 ⟨"TagMemory", "howManyChanged", "([Z)I"⟩) ∈ TB := tb_w2 101 (by decide +kernel) (by decide +kernel)
theorem wm_342 : (Cond.static ⟨"TagMemory", "howManyChanged", "([Z)I"⟩) ∈ TB := tb_w2 102 (by decide +kernel) (by decide +kernel)
theorem wm_343 : (Cond.code ⟨"TagMemory", "howManyChanged", "([Z)I"⟩ prog_1_method_41_code 6 (some .int)) ∈ TB := tb_w2 103 (by decide +kernel) (by decide +kernel)
theorem wm_345 : (Cond.classLink "TagMemoryLaw" 50 "TagMemoryModel") ∈ TB := tb_w2 105 (by decide +kernel) (by decide +kernel)
theorem wm_346 : (Cond.instantiable "TagMemoryModel" 10) ∈ TB := tb_w2 106 (by decide +kernel) (by decide +kernel)
theorem wm_347 : (Cond.methodLink "TagMemoryLaw" 52 ⟨"TagMemoryModel", "<init>", "()V"⟩) ∈ TB := tb_w2 107 (by decide +kernel) (by decide +kernel)
theorem wm_348 : (Cond.instanceMethod ⟨"TagMemoryModel", "<init>", "()V"⟩) ∈ TB := tb_w2 108 (by decide +kernel) (by decide +kernel)
theorem wm_349 : (Cond.code ⟨"TagMemoryModel", "<init>", "()V"⟩ prog_3_method_1_code 2 none) ∈ TB := tb_w2 109 (by decide +kernel) (by decide +kernel)
theorem wm_350 : (Cond.methodLink "TagMemoryModel" 1 ⟨"java/lang/Object", "<init>", "()V"⟩) ∈ TB := tb_w2 110 (by decide +kernel) (by decide +kernel)
theorem wm_351 : (Cond.fieldLink "TagMemoryModel" 7 "TagMemoryModel" "word" "[I") ∈ TB := tb_w2 111 (by decide +kernel) (by decide +kernel)
theorem wm_352 : (Cond.fieldLink "TagMemoryModel" 13 "TagMemoryModel" "tagged" "[Z") ∈ TB := tb_w2 112 (by decide +kernel) (by decide +kernel)
theorem wm_353 : (Cond.fieldLink "TagMemoryModel" 17 "TagMemoryModel" "store" "[I") ∈ TB := tb_w2 113 (by decide +kernel) (by decide +kernel)
theorem wm_354 : (Cond.fieldLink "TagMemoryModel" 20 "TagMemoryModel" "row" "[I") ∈ TB := tb_w2 114 (by decide +kernel) (by decide +kernel)
theorem wm_355 : (Cond.fieldLink "TagMemoryModel" 23 "TagMemoryModel" "line" "[I") ∈ TB := tb_w2 115 (by decide +kernel) (by decide +kernel)
theorem wm_356 : (Cond.fieldLink "TagMemoryModel" 26 "TagMemoryModel" "lineChanged" "[Z") ∈ TB := tb_w2 116 (by decide +kernel) (by decide +kernel)
theorem wm_357 : (Cond.fieldLink "TagMemoryModel" 29 "TagMemoryModel" "keptRow" "[I") ∈ TB := tb_w2 117 (by decide +kernel) (by decide +kernel)
theorem wm_358 : (Cond.fieldLink "TagMemoryModel" 32 "TagMemoryModel" "rowChanged" "[Z") ∈ TB := tb_w2 118 (by decide +kernel) (by decide +kernel)
theorem wm_359 : (Cond.fieldLink "TagMemoryModel" 35 "TagMemoryModel" "counts" "[I") ∈ TB := tb_w2 119 (by decide +kernel) (by decide +kernel)
theorem wm_360 : (Cond.fieldLink "TagMemoryModel" 38 "TagMemoryModel" "thrown" "I") ∈ TB := tb_w2 120 (by decide +kernel) (by decide +kernel)
theorem wm_361 : (Cond.laysFinal "TagMemoryModel" "TagMemoryModel" "word" "[I") ∈ TB := tb_w2 121 (by decide +kernel) (by decide +kernel)
theorem wm_363 : (Cond.laysFinal "TagMemoryModel" "TagMemoryModel" "tagged" "[Z") ∈ TB := tb_w2 123 (by decide +kernel) (by decide +kernel)
theorem wm_365 : (Cond.laysFinal "TagMemoryModel" "TagMemoryModel" "store" "[I") ∈ TB := tb_w2 125 (by decide +kernel) (by decide +kernel)
theorem wm_367 : (Cond.laysFinal "TagMemoryModel" "TagMemoryModel" "row" "[I") ∈ TB := tb_w2 127 (by decide +kernel) (by decide +kernel)
theorem wm_369 : (Cond.laysFinal "TagMemoryModel" "TagMemoryModel" "line" "[I") ∈ TB := tb_w2 129 (by decide +kernel) (by decide +kernel)
theorem wm_371 : (Cond.laysFinal "TagMemoryModel" "TagMemoryModel" "lineChanged" "[Z") ∈ TB := tb_w2 131 (by decide +kernel) (by decide +kernel)
theorem wm_373 : (Cond.laysFinal "TagMemoryModel" "TagMemoryModel" "keptRow" "[I") ∈ TB := tb_w2 133 (by decide +kernel) (by decide +kernel)
theorem wm_375 : (Cond.laysFinal "TagMemoryModel" "TagMemoryModel" "rowChanged" "[Z") ∈ TB := tb_w2 135 (by decide +kernel) (by decide +kernel)
theorem wm_377 : (Cond.laysFinal "TagMemoryModel" "TagMemoryModel" "counts" "[I") ∈ TB := tb_w2 137 (by decide +kernel) (by decide +kernel)
theorem wm_379 : (Cond.lays "TagMemoryModel" "TagMemoryModel" "thrown" "I") ∈ TB := tb_w2 139 (by decide +kernel) (by decide +kernel)
theorem wm_382 : (Cond.methodLink "TagMemoryLaw" 59 ⟨"TagMemoryModel", "thrown", "()I"⟩) ∈ TB := tb_w2 142 (by decide +kernel) (by decide +kernel)
theorem wm_383 : (Cond.instanceMethod ⟨"TagMemoryModel", "thrown", "()I"⟩) ∈ TB := tb_w2 143 (by decide +kernel) (by decide +kernel)
theorem wm_384 : (Cond.selects "TagMemoryModel" ⟨"TagMemoryModel", "thrown", "()I"⟩ ⟨"TagMemoryModel", "thrown", "()I"⟩) ∈ TB := tb_w2 144 (by decide +kernel) (by decide +kernel)
theorem wm_385 : (Cond.code ⟨"TagMemoryModel", "thrown", "()I"⟩ prog_3_method_2_code 1 (some .int)) ∈ TB := tb_w2 145 (by decide +kernel) (by decide +kernel)
theorem wm_386 : (Cond.methodLink "TagMemoryLaw" 58 ⟨"TagMemoryModel", "read", "(I)I"⟩) ∈ TB := tb_w2 146 (by decide +kernel) (by decide +kernel)
theorem wm_387 : (Cond.instanceMethod ⟨"TagMemoryModel", "read", "(I)I"⟩) ∈ TB := tb_w2 147 (by decide +kernel) (by decide +kernel)
theorem wm_388 : (Cond.selects "TagMemoryModel" ⟨"TagMemoryModel", "read", "(I)I"⟩ ⟨"TagMemoryModel", "read", "(I)I"⟩) ∈ TB := tb_w2 148 (by decide +kernel) (by decide +kernel)
theorem wm_389 : (Cond.code ⟨"TagMemoryModel", "read", "(I)I"⟩ prog_3_method_9_code 2 (some .int)) ∈ TB := tb_w2 149 (by decide +kernel) (by decide +kernel)
theorem wm_390 : (Cond.methodLink "TagMemoryModel" 56 ⟨"TagMemoryModel", "bad", "(ZI)Z"⟩) ∈ TB := tb_w2 150 (by decide +kernel) (by decide +kernel)
theorem wm_392 : (Cond.instanceMethod ⟨"TagMemoryModel", "bad", "(ZI)Z"⟩) ∈ TB := tb_w2 152 (by decide +kernel) (by decide +kernel)
theorem wm_393 : (Cond.code ⟨"TagMemoryModel", "bad", "(ZI)Z"⟩ prog_3_method_3_code 3 (some .boolean)) ∈ TB := tb_w2 153 (by decide +kernel) (by decide +kernel)
theorem wm_394 : (Cond.methodLink "TagMemoryModel" 53 ⟨"TagMemoryModel", "want", "(I)V"⟩) ∈ TB := tb_w2 154 (by decide +kernel) (by decide +kernel)
theorem wm_396 : (Cond.instanceMethod ⟨"TagMemoryModel", "want", "(I)V"⟩) ∈ TB := tb_w2 156 (by decide +kernel) (by decide +kernel)
theorem wm_397 : (Cond.code ⟨"TagMemoryModel", "want", "(I)V"⟩ prog_3_method_7_code 3 none) ∈ TB := tb_w2 157 (by decide +kernel) (by decide +kernel)
theorem wm_398 : (Cond.methodLink "TagMemoryModel" 49 ⟨"TagMemoryModel", "lineGoes", "(I)Z"⟩) ∈ TB := tb_w2 158 (by decide +kernel) (by decide +kernel)
theorem wm_400 : (Cond.instanceMethod ⟨"TagMemoryModel", "lineGoes", "(I)Z"⟩) ∈ TB := tb_w2 160 (by decide +kernel) (by decide +kernel)
theorem wm_401 : (Cond.code ⟨"TagMemoryModel", "lineGoes", "(I)Z"⟩ prog_3_method_6_code 6 (some .boolean)) ∈ TB := tb_w2 161 (by decide +kernel) (by decide +kernel)
theorem wm_402 : (Cond.methodLink "TagMemoryModel" 46 ⟨"TagMemoryModel", "wantRow", "(I)V"⟩) ∈ TB := tb_w2 162 (by decide +kernel) (by decide +kernel)
theorem wm_404 : (Cond.instanceMethod ⟨"TagMemoryModel", "wantRow", "(I)V"⟩) ∈ TB := tb_w2 164 (by decide +kernel) (by decide +kernel)
theorem wm_405 : (Cond.code ⟨"TagMemoryModel", "wantRow", "(I)V"⟩ prog_3_method_5_code 2 none) ∈ TB := tb_w2 165 (by decide +kernel) (by decide +kernel)
theorem wm_406 : (Cond.methodLink "TagMemoryModel" 42 ⟨"TagMemoryModel", "rowGoes", "(I)V"⟩) ∈ TB := tb_w2 166 (by decide +kernel) (by decide +kernel)
theorem wm_408 : (Cond.instanceMethod ⟨"TagMemoryModel", "rowGoes", "(I)V"⟩) ∈ TB := tb_w2 168 (by decide +kernel) (by decide +kernel)
theorem wm_409 : (Cond.code ⟨"TagMemoryModel", "rowGoes", "(I)V"⟩ prog_3_method_4_code 2 none) ∈ TB := tb_w2 169 (by decide +kernel) (by decide +kernel)
theorem wm_410 : (Cond.methodLink "TagMemoryLaw" 65 ⟨"TagMemoryModel", "tag", "(I)Z"⟩) ∈ TB := tb_w2 170 (by decide +kernel) (by decide +kernel)
theorem wm_411 : (Cond.instanceMethod ⟨"TagMemoryModel", "tag", "(I)Z"⟩) ∈ TB := tb_w2 171 (by decide +kernel) (by decide +kernel)
theorem wm_412 : (Cond.selects "TagMemoryModel" ⟨"TagMemoryModel", "tag", "(I)Z"⟩ ⟨"TagMemoryModel", "tag", "(I)Z"⟩) ∈ TB := tb_w2 172 (by decide +kernel) (by decide +kernel)
theorem wm_413 : (Cond.code ⟨"TagMemoryModel", "tag", "(I)Z"⟩ prog_3_method_10_code 2 (some .boolean)) ∈ TB := tb_w2 173 (by decide +kernel) (by decide +kernel)
theorem wm_414 : (Cond.methodLink "TagMemoryLaw" 69 ⟨"TagMemoryModel", "write", "(II)I"⟩) ∈ TB := tb_w2 174 (by decide +kernel) (by decide +kernel)
theorem wm_415 : (Cond.instanceMethod ⟨"TagMemoryModel", "write", "(II)I"⟩) ∈ TB := tb_w2 175 (by decide +kernel) (by decide +kernel)
theorem wm_416 : (Cond.selects "TagMemoryModel" ⟨"TagMemoryModel", "write", "(II)I"⟩ ⟨"TagMemoryModel", "write", "(II)I"⟩) ∈ TB := tb_w2 176 (by decide +kernel) (by decide +kernel)
theorem wm_417 : (Cond.code ⟨"TagMemoryModel", "write", "(II)I"⟩ prog_3_method_11_code 4 (some .int)) ∈ TB := tb_w2 177 (by decide +kernel) (by decide +kernel)
theorem wm_418 : (Cond.methodLink "TagMemoryModel" 60 ⟨"TagMemoryModel", "changes", "(IIZ)V"⟩) ∈ TB := tb_w2 178 (by decide +kernel) (by decide +kernel)
theorem wm_420 : (Cond.instanceMethod ⟨"TagMemoryModel", "changes", "(IIZ)V"⟩) ∈ TB := tb_w2 180 (by decide +kernel) (by decide +kernel)
theorem wm_421 : (Cond.code ⟨"TagMemoryModel", "changes", "(IIZ)V"⟩ prog_3_method_8_code 4 none) ∈ TB := tb_w2 181 (by decide +kernel) (by decide +kernel)
theorem wm_422 : (Cond.methodLink "TagMemoryLaw" 73 ⟨"TagMemoryModel", "part", "(IIII)I"⟩) ∈ TB := tb_w2 182 (by decide +kernel) (by decide +kernel)
theorem wm_423 : (Cond.instanceMethod ⟨"TagMemoryModel", "part", "(IIII)I"⟩) ∈ TB := tb_w2 183 (by decide +kernel) (by decide +kernel)
theorem wm_424 : (Cond.selects "TagMemoryModel" ⟨"TagMemoryModel", "part", "(IIII)I"⟩ ⟨"TagMemoryModel", "part", "(IIII)I"⟩) ∈ TB := tb_w2 184 (by decide +kernel) (by decide +kernel)
theorem wm_425 : (Cond.code ⟨"TagMemoryModel", "part", "(IIII)I"⟩ prog_3_method_12_code 6 (some .int)) ∈ TB := tb_w2 185 (by decide +kernel) (by decide +kernel)
theorem wm_426 : (Cond.constant "TagMemoryModel" 64 (65535 : Int32)) ∈ TB := tb_w2 186 (by decide +kernel) (by decide +kernel)
theorem wm_427 : (Cond.methodLink "TagMemoryLaw" 77 ⟨"TagMemoryModel", "put", "(IIIZ)V"⟩) ∈ TB := tb_w2 187 (by decide +kernel) (by decide +kernel)
theorem wm_428 : (Cond.instanceMethod ⟨"TagMemoryModel", "put", "(IIIZ)V"⟩) ∈ TB := tb_w2 188 (by decide +kernel) (by decide +kernel)
theorem wm_429 : (Cond.selects "TagMemoryModel" ⟨"TagMemoryModel", "put", "(IIIZ)V"⟩ ⟨"TagMemoryModel", "put", "(IIIZ)V"⟩) ∈ TB := tb_w2 189 (by decide +kernel) (by decide +kernel)
theorem wm_430 : (Cond.code ⟨"TagMemoryModel", "put", "(IIIZ)V"⟩ prog_3_method_13_code 5 none) ∈ TB := tb_w2 190 (by decide +kernel) (by decide +kernel)
theorem wm_431 : (Cond.methodLink "TagMemoryLaw" 80 ⟨"TagMemoryModel", "copy", "(II)Z"⟩) ∈ TB := tb_w2 191 (by decide +kernel) (by decide +kernel)
theorem wm_432 : (Cond.instanceMethod ⟨"TagMemoryModel", "copy", "(II)Z"⟩) ∈ TB := tb_w2 192 (by decide +kernel) (by decide +kernel)
theorem wm_433 : (Cond.selects "TagMemoryModel" ⟨"TagMemoryModel", "copy", "(II)Z"⟩ ⟨"TagMemoryModel", "copy", "(II)Z"⟩) ∈ TB := tb_w2 193 (by decide +kernel) (by decide +kernel)
theorem wm_434 : (Cond.code ⟨"TagMemoryModel", "copy", "(II)Z"⟩ prog_3_method_14_code 4 (some .boolean)) ∈ TB := tb_w2 194 (by decide +kernel) (by decide +kernel)
theorem wm_435 : (Cond.methodLink "TagMemoryLaw" 83 ⟨"TagMemoryModel", "drop", "(I)I"⟩) ∈ TB := tb_w2 195 (by decide +kernel) (by decide +kernel)
theorem wm_436 : (Cond.instanceMethod ⟨"TagMemoryModel", "drop", "(I)I"⟩) ∈ TB := tb_w2 196 (by decide +kernel) (by decide +kernel)
theorem wm_437 : (Cond.selects "TagMemoryModel" ⟨"TagMemoryModel", "drop", "(I)I"⟩ ⟨"TagMemoryModel", "drop", "(I)I"⟩) ∈ TB := tb_w2 197 (by decide +kernel) (by decide +kernel)
theorem wm_438 : (Cond.code ⟨"TagMemoryModel", "drop", "(I)I"⟩ prog_3_method_15_code 2 (some .int)) ∈ TB := tb_w2 198 (by decide +kernel) (by decide +kernel)
theorem wm_439 : (Cond.methodLink "TagMemoryLaw" 87 ⟨"TagMemoryModel", "flush", "()I"⟩) ∈ TB := tb_w2 199 (by decide +kernel) (by decide +kernel)
theorem wm_440 : (Cond.instanceMethod ⟨"TagMemoryModel", "flush", "()I"⟩) ∈ TB := tb_w2 200 (by decide +kernel) (by decide +kernel)
theorem wm_441 : (Cond.selects "TagMemoryModel" ⟨"TagMemoryModel", "flush", "()I"⟩ ⟨"TagMemoryModel", "flush", "()I"⟩) ∈ TB := tb_w2 201 (by decide +kernel) (by decide +kernel)
theorem wm_442 : (Cond.code ⟨"TagMemoryModel", "flush", "()I"⟩ prog_3_method_16_code 3 (some .int)) ∈ TB := tb_w2 202 (by decide +kernel) (by decide +kernel)
theorem wm_443 : (Cond.methodLink "TagMemoryLaw" 90 ⟨"TagMemoryModel", "store", "(I)I"⟩) ∈ TB := tb_w2 203 (by decide +kernel) (by decide +kernel)
theorem wm_444 : (Cond.instanceMethod ⟨"TagMemoryModel", "store", "(I)I"⟩) ∈ TB := tb_w2 204 (by decide +kernel) (by decide +kernel)
theorem wm_445 : (Cond.selects "TagMemoryModel" ⟨"TagMemoryModel", "store", "(I)I"⟩ ⟨"TagMemoryModel", "store", "(I)I"⟩) ∈ TB := tb_w2 205 (by decide +kernel) (by decide +kernel)
theorem wm_446 : (Cond.code ⟨"TagMemoryModel", "store", "(I)I"⟩ prog_3_method_17_code 2 (some .int)) ∈ TB := tb_w2 206 (by decide +kernel) (by decide +kernel)
theorem wm_447 : (Cond.methodLink "TagMemoryLaw" 93 ⟨"TagMemoryModel", "kept", "(I)I"⟩) ∈ TB := tb_w2 207 (by decide +kernel) (by decide +kernel)
theorem wm_448 : (Cond.instanceMethod ⟨"TagMemoryModel", "kept", "(I)I"⟩) ∈ TB := tb_w2 208 (by decide +kernel) (by decide +kernel)
theorem wm_449 : (Cond.selects "TagMemoryModel" ⟨"TagMemoryModel", "kept", "(I)I"⟩ ⟨"TagMemoryModel", "kept", "(I)I"⟩) ∈ TB := tb_w2 209 (by decide +kernel) (by decide +kernel)
theorem wm_450 : (Cond.code ⟨"TagMemoryModel", "kept", "(I)I"⟩ prog_3_method_18_code 2 (some .int)) ∈ TB := tb_w2 210 (by decide +kernel) (by decide +kernel)
theorem wm_451 : (Cond.methodLink "TagMemoryLaw" 96 ⟨"TagMemoryModel", "count", "(I)I"⟩) ∈ TB := tb_w2 211 (by decide +kernel) (by decide +kernel)
theorem wm_452 : (Cond.instanceMethod ⟨"TagMemoryModel", "count", "(I)I"⟩) ∈ TB := tb_w2 212 (by decide +kernel) (by decide +kernel)
theorem wm_453 : (Cond.selects "TagMemoryModel" ⟨"TagMemoryModel", "count", "(I)I"⟩ ⟨"TagMemoryModel", "count", "(I)I"⟩) ∈ TB := tb_w2 213 (by decide +kernel) (by decide +kernel)
theorem wm_454 : (Cond.code ⟨"TagMemoryModel", "count", "(I)I"⟩ prog_3_method_19_code 4 (some .int)) ∈ TB := tb_w2 214 (by decide +kernel) (by decide +kernel)
theorem wm_455 : (Cond.methodLink "TagMemoryLaw" 100 ⟨"TagMemoryModel", "check", "()I"⟩) ∈ TB := tb_w2 215 (by decide +kernel) (by decide +kernel)
theorem wm_456 : (Cond.instanceMethod ⟨"TagMemoryModel", "check", "()I"⟩) ∈ TB := tb_w2 216 (by decide +kernel) (by decide +kernel)
theorem wm_457 : (Cond.selects "TagMemoryModel" ⟨"TagMemoryModel", "check", "()I"⟩ ⟨"TagMemoryModel", "check", "()I"⟩) ∈ TB := tb_w2 217 (by decide +kernel) (by decide +kernel)
theorem wm_458 : (Cond.code ⟨"TagMemoryModel", "check", "()I"⟩ prog_3_method_20_code 1 (some .int)) ∈ TB := tb_w2 218 (by decide +kernel) (by decide +kernel)
theorem wm_459 : (Cond.arrayClass .long) ∈ TB := tb_w2 219 (by decide +kernel) (by decide +kernel)
theorem ws_0 : (Cond.selects "TagMemory" ⟨"TagMemory", "letLineGo", "(I)Z"⟩ ⟨"TagMemory", "letLineGo", "(I)Z"⟩) ∈ TB := tb_ws 0 (by decide +kernel) (by decide +kernel)
theorem ws_1 : (Cond.selects "TagMemory" ⟨"TagMemory", "writeLineBack", "(II)V"⟩ ⟨"TagMemory", "writeLineBack", "(II)V"⟩) ∈ TB := tb_ws 1 (by decide +kernel) (by decide +kernel)
theorem ws_2 : (Cond.selects "TagMemory" ⟨"TagMemory", "wantRow", "(I)I"⟩ ⟨"TagMemory", "wantRow", "(I)I"⟩) ∈ TB := tb_ws 2 (by decide +kernel) (by decide +kernel)
theorem ws_3 : (Cond.selects "TagMemory" ⟨"TagMemory", "letRowGo", "(I)V"⟩ ⟨"TagMemory", "letRowGo", "(I)V"⟩) ∈ TB := tb_ws 3 (by decide +kernel) (by decide +kernel)
theorem ws_4 : (Cond.selects "TagMemory" ⟨"TagMemory", "isLineWrong", "(I)Z"⟩ ⟨"TagMemory", "isLineWrong", "(I)Z"⟩) ∈ TB := tb_ws 4 (by decide +kernel) (by decide +kernel)
theorem ws_5 : (Cond.selects "TagMemory" ⟨"TagMemory", "areWordsAsStored", "(II)Z"⟩ ⟨"TagMemory", "areWordsAsStored", "(II)Z"⟩) ∈ TB := tb_ws 5 (by decide +kernel) (by decide +kernel)
theorem ws_6 : (Cond.selects "TagMemory" ⟨"TagMemory", "tagsBehindLine", "(I)I"⟩ ⟨"TagMemory", "tagsBehindLine", "(I)I"⟩) ∈ TB := tb_ws 6 (by decide +kernel) (by decide +kernel)
theorem ws_7 : (Cond.selects "TagMemory" ⟨"TagMemory", "peekRow", "(I)I"⟩ ⟨"TagMemory", "peekRow", "(I)I"⟩) ∈ TB := tb_ws 7 (by decide +kernel) (by decide +kernel)
theorem ws_8 : (Cond.selects "TagMemory" ⟨"TagMemory", "isRowWrong", "(I)Z"⟩ ⟨"TagMemory", "isRowWrong", "(I)Z"⟩) ∈ TB := tb_ws 8 (by decide +kernel) (by decide +kernel)
theorem ws_9 : (Cond.selects "java/lang/Throwable" ⟨"java/lang/Throwable", "fillInStackTrace", "(I)Ljava/lang/Throwable;"⟩ ⟨"java/lang/Throwable", "fillInStackTrace", "(I)Ljava/lang/Throwable;"⟩) ∈ TB := tb_ws 9 (by decide +kernel) (by decide +kernel)
theorem ws_10 : (Cond.selects "TagMemory" ⟨"TagMemory", "wantLine", "(I)V"⟩ ⟨"TagMemory", "wantLine", "(I)V"⟩) ∈ TB := tb_ws 10 (by decide +kernel) (by decide +kernel)
theorem ws_11 : (Cond.selects "TagMemory" ⟨"TagMemory", "bringLine", "(II)V"⟩ ⟨"TagMemory", "bringLine", "(II)V"⟩) ∈ TB := tb_ws 11 (by decide +kernel) (by decide +kernel)
theorem ws_12 : (Cond.selects "TagMemory" ⟨"TagMemory", "keptTag", "(I)Z"⟩ ⟨"TagMemory", "keptTag", "(I)Z"⟩) ∈ TB := tb_ws 12 (by decide +kernel) (by decide +kernel)
theorem ws_13 : (Cond.selects "TagMemory" ⟨"TagMemory", "changeWord", "(II)V"⟩ ⟨"TagMemory", "changeWord", "(II)V"⟩) ∈ TB := tb_ws 13 (by decide +kernel) (by decide +kernel)
theorem ws_14 : (Cond.selects "TagMemory" ⟨"TagMemory", "changeTag", "(IZ)V"⟩ ⟨"TagMemory", "changeTag", "(IZ)V"⟩) ∈ TB := tb_ws 14 (by decide +kernel) (by decide +kernel)
theorem ws_15 : (Cond.selects "TagMemory" ⟨"TagMemory", "changeGranule", "(IIIZ)V"⟩ ⟨"TagMemory", "changeGranule", "(IIIZ)V"⟩) ∈ TB := tb_ws 15 (by decide +kernel) (by decide +kernel)
theorem ws_16 : (Cond.selects "TagMemory" ⟨"TagMemory", "allTags", "()I"⟩ ⟨"TagMemory", "allTags", "()I"⟩) ∈ TB := tb_ws 16 (by decide +kernel) (by decide +kernel)
theorem ws_17 : (Cond.selects "TagMemoryModel" ⟨"TagMemoryModel", "bad", "(ZI)Z"⟩ ⟨"TagMemoryModel", "bad", "(ZI)Z"⟩) ∈ TB := tb_ws 17 (by decide +kernel) (by decide +kernel)
theorem ws_18 : (Cond.selects "TagMemoryModel" ⟨"TagMemoryModel", "want", "(I)V"⟩ ⟨"TagMemoryModel", "want", "(I)V"⟩) ∈ TB := tb_ws 18 (by decide +kernel) (by decide +kernel)
theorem ws_19 : (Cond.selects "TagMemoryModel" ⟨"TagMemoryModel", "lineGoes", "(I)Z"⟩ ⟨"TagMemoryModel", "lineGoes", "(I)Z"⟩) ∈ TB := tb_ws 19 (by decide +kernel) (by decide +kernel)
theorem ws_20 : (Cond.selects "TagMemoryModel" ⟨"TagMemoryModel", "wantRow", "(I)V"⟩ ⟨"TagMemoryModel", "wantRow", "(I)V"⟩) ∈ TB := tb_ws 20 (by decide +kernel) (by decide +kernel)
theorem ws_21 : (Cond.selects "TagMemoryModel" ⟨"TagMemoryModel", "rowGoes", "(I)V"⟩ ⟨"TagMemoryModel", "rowGoes", "(I)V"⟩) ∈ TB := tb_ws 21 (by decide +kernel) (by decide +kernel)
theorem ws_22 : (Cond.selects "TagMemoryModel" ⟨"TagMemoryModel", "changes", "(IIZ)V"⟩ ⟨"TagMemoryModel", "changes", "(IIZ)V"⟩) ∈ TB := tb_ws 22 (by decide +kernel) (by decide +kernel)
theorem inT : ∀ w ∈ u_ws RT FT 12, w ∈ TB := by
  intro w hw
  obtain ⟨k, hk, rfl⟩ := List.mem_map.mp hw
  have hk := List.mem_range.mp hk
  match k, hk with
  | 0, _ => exact wm_30
  | 1, _ => exact wm_32
  | 2, _ => exact wm_34
  | 3, _ => exact wm_36
  | 4, _ => exact wm_38
  | 5, _ => exact wm_40
  | 6, _ => exact wm_42
  | 7, _ => exact wm_44
  | 8, _ => exact wm_46
  | 9, _ => exact wm_48
  | 10, _ => exact wm_50
  | 11, _ => exact wm_52
  | k + 12, h => exact absurd h (by omega)
theorem insT {c : Cond} : ∀ w ∈ u_ws RT FT 12, w ∈ c :: TB := fun w h => List.mem_cons_of_mem _ (inT w h)
theorem inM : ∀ w ∈ u_ws RM FM 10, w ∈ TB := by
  intro w hw
  obtain ⟨k, hk, rfl⟩ := List.mem_map.mp hw
  have hk := List.mem_range.mp hk
  match k, hk with
  | 0, _ => exact wm_361
  | 1, _ => exact wm_363
  | 2, _ => exact wm_365
  | 3, _ => exact wm_367
  | 4, _ => exact wm_369
  | 5, _ => exact wm_371
  | 6, _ => exact wm_373
  | 7, _ => exact wm_375
  | 8, _ => exact wm_377
  | 9, _ => exact wm_379
  | k + 10, h => exact absurd h (by omega)
theorem insM {c : Cond} : ∀ w ∈ u_ws RM FM 10, w ∈ c :: TB := fun w h => List.mem_cons_of_mem _ (inM w h)
/-! methods -/
abbrev b_T_init : ByteArray := prog_1_method_1_code
def y_T_init : MethodName := ⟨"TagMemory", "<init>", "()V"⟩
abbrev k_T_init : Cond := .code y_T_init b_T_init 2 none
abbrev b_T_flush : ByteArray := prog_1_method_9_code
def y_T_flush : MethodName := ⟨"TagMemory", "flush", "()I"⟩
abbrev k_T_flush : Cond := .code y_T_flush b_T_flush 3 (some .int)
abbrev b_T_letLineGo : ByteArray := prog_1_method_33_code
def y_T_letLineGo : MethodName := ⟨"TagMemory", "letLineGo", "(I)Z"⟩
abbrev k_T_letLineGo : Cond := .code y_T_letLineGo b_T_letLineGo 3 (some .boolean)
abbrev b_T_writeLineBack : ByteArray := prog_1_method_34_code
def y_T_writeLineBack : MethodName := ⟨"TagMemory", "writeLineBack", "(II)V"⟩
abbrev k_T_writeLineBack : Cond := .code y_T_writeLineBack b_T_writeLineBack 5 none
abbrev b_T_rowOfLine : ByteArray := prog_1_method_20_code
def y_T_rowOfLine : MethodName := ⟨"TagMemory", "rowOfLine", "(I)I"⟩
abbrev k_T_rowOfLine : Cond := .code y_T_rowOfLine b_T_rowOfLine 1 (some .int)
abbrev b_T_wantRow : ByteArray := prog_1_method_35_code
def y_T_wantRow : MethodName := ⟨"TagMemory", "wantRow", "(I)I"⟩
abbrev k_T_wantRow : Cond := .code y_T_wantRow b_T_wantRow 3 (some .int)
abbrev b_T_placeOfRow : ByteArray := prog_1_method_22_code
def y_T_placeOfRow : MethodName := ⟨"TagMemory", "placeOfRow", "(I)I"⟩
abbrev k_T_placeOfRow : Cond := .code y_T_placeOfRow b_T_placeOfRow 1 (some .int)
abbrev b_T_letRowGo : ByteArray := prog_1_method_36_code
def y_T_letRowGo : MethodName := ⟨"TagMemory", "letRowGo", "(I)V"⟩
abbrev k_T_letRowGo : Cond := .code y_T_letRowGo b_T_letRowGo 2 none
abbrev b_T_firstTagBit : ByteArray := prog_1_method_24_code
def y_T_firstTagBit : MethodName := ⟨"TagMemory", "firstTagBit", "(I)I"⟩
abbrev k_T_firstTagBit : Cond := .code y_T_firstTagBit b_T_firstTagBit 1 (some .int)
abbrev b_T_check : ByteArray := prog_1_method_13_code
def y_T_check : MethodName := ⟨"TagMemory", "check", "()I"⟩
abbrev k_T_check : Cond := .code y_T_check b_T_check 3 (some .int)
abbrev b_T_isLineWrong : ByteArray := prog_1_method_42_code
def y_T_isLineWrong : MethodName := ⟨"TagMemory", "isLineWrong", "(I)Z"⟩
abbrev k_T_isLineWrong : Cond := .code y_T_isLineWrong b_T_isLineWrong 3 (some .boolean)
abbrev b_T_placeOfLine : ByteArray := prog_1_method_21_code
def y_T_placeOfLine : MethodName := ⟨"TagMemory", "placeOfLine", "(I)I"⟩
abbrev k_T_placeOfLine : Cond := .code y_T_placeOfLine b_T_placeOfLine 1 (some .int)
abbrev b_T_areWordsAsStored : ByteArray := prog_1_method_43_code
def y_T_areWordsAsStored : MethodName := ⟨"TagMemory", "areWordsAsStored", "(II)Z"⟩
abbrev k_T_areWordsAsStored : Cond := .code y_T_areWordsAsStored b_T_areWordsAsStored 4 (some .boolean)
abbrev b_T_tagsBehindLine : ByteArray := prog_1_method_39_code
def y_T_tagsBehindLine : MethodName := ⟨"TagMemory", "tagsBehindLine", "(I)I"⟩
abbrev k_T_tagsBehindLine : Cond := .code y_T_tagsBehindLine b_T_tagsBehindLine 2 (some .int)
abbrev b_T_peekRow : ByteArray := prog_1_method_37_code
def y_T_peekRow : MethodName := ⟨"TagMemory", "peekRow", "(I)I"⟩
abbrev k_T_peekRow : Cond := .code y_T_peekRow b_T_peekRow 3 (some .int)
abbrev b_T_tagsOfLine : ByteArray := prog_1_method_25_code
def y_T_tagsOfLine : MethodName := ⟨"TagMemory", "tagsOfLine", "(II)I"⟩
abbrev k_T_tagsOfLine : Cond := .code y_T_tagsOfLine b_T_tagsOfLine 2 (some .int)
abbrev b_T_isRowWrong : ByteArray := prog_1_method_44_code
def y_T_isRowWrong : MethodName := ⟨"TagMemory", "isRowWrong", "(I)Z"⟩
abbrev k_T_isRowWrong : Cond := .code y_T_isRowWrong b_T_isRowWrong 3 (some .boolean)
abbrev b_L_read : ByteArray := method_3_code
def y_L_read : MethodName := ⟨"TagMemoryLaw", "read", "(LTagMemory;I[J)I"⟩
abbrev k_L_read : Cond := .codeWith y_L_read b_L_read 4 (some .int) [(0, 9, 12, 13)]
abbrev b_T_read : ByteArray := prog_1_method_2_code
def y_T_read : MethodName := ⟨"TagMemory", "read", "(I)I"⟩
abbrev k_T_read : Cond := .code y_T_read b_T_read 2 (some .int)
abbrev b_T_refuseNoWord : ByteArray := prog_1_method_14_code
def y_T_refuseNoWord : MethodName := ⟨"TagMemory", "refuseNoWord", "(I)V"⟩
abbrev k_T_refuseNoWord : Cond := .code y_T_refuseNoWord b_T_refuseNoWord 1 none
abbrev b_T_lineOfWord : ByteArray := prog_1_method_18_code
def y_T_lineOfWord : MethodName := ⟨"TagMemory", "lineOfWord", "(I)I"⟩
abbrev k_T_lineOfWord : Cond := .code y_T_lineOfWord b_T_lineOfWord 1 (some .int)
abbrev b_T_wantLine : ByteArray := prog_1_method_31_code
def y_T_wantLine : MethodName := ⟨"TagMemory", "wantLine", "(I)V"⟩
abbrev k_T_wantLine : Cond := .code y_T_wantLine b_T_wantLine 3 none
abbrev b_T_bringLine : ByteArray := prog_1_method_32_code
def y_T_bringLine : MethodName := ⟨"TagMemory", "bringLine", "(II)V"⟩
abbrev k_T_bringLine : Cond := .code y_T_bringLine b_T_bringLine 4 none
abbrev b_T_slotOfWord : ByteArray := prog_1_method_23_code
def y_T_slotOfWord : MethodName := ⟨"TagMemory", "slotOfWord", "(I)I"⟩
abbrev k_T_slotOfWord : Cond := .code y_T_slotOfWord b_T_slotOfWord 1 (some .int)
abbrev b_L_tag : ByteArray := method_4_code
def y_L_tag : MethodName := ⟨"TagMemoryLaw", "tag", "(LTagMemory;I[J)I"⟩
abbrev k_L_tag : Cond := .codeWith y_L_tag b_L_tag 4 (some .int) [(0, 16, 19, 13)]
abbrev b_T_tag : ByteArray := prog_1_method_3_code
def y_T_tag : MethodName := ⟨"TagMemory", "tag", "(I)Z"⟩
abbrev k_T_tag : Cond := .code y_T_tag b_T_tag 3 (some .boolean)
abbrev b_T_granuleOfWord : ByteArray := prog_1_method_17_code
def y_T_granuleOfWord : MethodName := ⟨"TagMemory", "granuleOfWord", "(I)I"⟩
abbrev k_T_granuleOfWord : Cond := .code y_T_granuleOfWord b_T_granuleOfWord 1 (some .int)
abbrev b_T_lineOfGranule : ByteArray := prog_1_method_19_code
def y_T_lineOfGranule : MethodName := ⟨"TagMemory", "lineOfGranule", "(I)I"⟩
abbrev k_T_lineOfGranule : Cond := .code y_T_lineOfGranule b_T_lineOfGranule 1 (some .int)
abbrev b_T_keptTag : ByteArray := prog_1_method_27_code
def y_T_keptTag : MethodName := ⟨"TagMemory", "keptTag", "(I)Z"⟩
abbrev k_T_keptTag : Cond := .code y_T_keptTag b_T_keptTag 2 (some .boolean)
abbrev b_T_tagBit : ByteArray := prog_1_method_26_code
def y_T_tagBit : MethodName := ⟨"TagMemory", "tagBit", "(I)I"⟩
abbrev k_T_tagBit : Cond := .code y_T_tagBit b_T_tagBit 1 (some .int)
abbrev b_L_write : ByteArray := method_5_code
def y_L_write : MethodName := ⟨"TagMemoryLaw", "write", "(LTagMemory;II[J)I"⟩
abbrev k_L_write : Cond := .codeWith y_L_write b_L_write 5 (some .int) [(0, 10, 13, 13)]
abbrev b_T_write : ByteArray := prog_1_method_4_code
def y_T_write : MethodName := ⟨"TagMemory", "write", "(II)I"⟩
abbrev k_T_write : Cond := .code y_T_write b_T_write 4 (some .int)
abbrev b_T_changeWord : ByteArray := prog_1_method_28_code
def y_T_changeWord : MethodName := ⟨"TagMemory", "changeWord", "(II)V"⟩
abbrev k_T_changeWord : Cond := .code y_T_changeWord b_T_changeWord 3 none
abbrev b_T_changeTag : ByteArray := prog_1_method_30_code
def y_T_changeTag : MethodName := ⟨"TagMemory", "changeTag", "(IZ)V"⟩
abbrev k_T_changeTag : Cond := .code y_T_changeTag b_T_changeTag 5 none
abbrev b_L_part : ByteArray := method_6_code
def y_L_part : MethodName := ⟨"TagMemoryLaw", "part", "(LTagMemory;IIII[J)I"⟩
abbrev k_L_part : Cond := .codeWith y_L_part b_L_part 7 (some .int) [(0, 14, 17, 13), (0, 14, 21, 27)]
abbrev b_T_part : ByteArray := prog_1_method_5_code
def y_T_part : MethodName := ⟨"TagMemory", "part", "(IIII)I"⟩
abbrev k_T_part : Cond := .code y_T_part b_T_part 9 (some .int)
abbrev b_T_refuseNoPart : ByteArray := prog_1_method_16_code
def y_T_refuseNoPart : MethodName := ⟨"TagMemory", "refuseNoPart", "(II)V"⟩
abbrev k_T_refuseNoPart : Cond := .code y_T_refuseNoPart b_T_refuseNoPart 2 none
abbrev b_L_put : ByteArray := method_7_code
def y_L_put : MethodName := ⟨"TagMemoryLaw", "put", "(LTagMemory;IIIZ)I"⟩
abbrev k_L_put : Cond := .codeWith y_L_put b_L_put 6 (some .int) [(0, 9, 12, 13)]
abbrev b_T_put : ByteArray := prog_1_method_6_code
def y_T_put : MethodName := ⟨"TagMemory", "put", "(IIIZ)V"⟩
abbrev k_T_put : Cond := .code y_T_put b_T_put 5 none
abbrev b_T_refuseNoGranule : ByteArray := prog_1_method_15_code
def y_T_refuseNoGranule : MethodName := ⟨"TagMemory", "refuseNoGranule", "(I)V"⟩
abbrev k_T_refuseNoGranule : Cond := .code y_T_refuseNoGranule b_T_refuseNoGranule 1 none
abbrev b_T_changeGranule : ByteArray := prog_1_method_29_code
def y_T_changeGranule : MethodName := ⟨"TagMemory", "changeGranule", "(IIIZ)V"⟩
abbrev k_T_changeGranule : Cond := .code y_T_changeGranule b_T_changeGranule 5 none
abbrev b_L_copy : ByteArray := method_8_code
def y_L_copy : MethodName := ⟨"TagMemoryLaw", "copy", "(LTagMemory;II[J)I"⟩
abbrev k_L_copy : Cond := .codeWith y_L_copy b_L_copy 5 (some .int) [(0, 17, 20, 13)]
abbrev b_T_copy : ByteArray := prog_1_method_7_code
def y_T_copy : MethodName := ⟨"TagMemory", "copy", "(II)Z"⟩
abbrev k_T_copy : Cond := .code y_T_copy b_T_copy 6 (some .boolean)
abbrev b_L_drop : ByteArray := method_9_code
def y_L_drop : MethodName := ⟨"TagMemoryLaw", "drop", "(LTagMemory;I[J)I"⟩
abbrev k_L_drop : Cond := .codeWith y_L_drop b_L_drop 4 (some .int) [(0, 9, 12, 13)]
abbrev b_T_drop : ByteArray := prog_1_method_8_code
def y_T_drop : MethodName := ⟨"TagMemory", "drop", "(I)I"⟩
abbrev k_T_drop : Cond := .code y_T_drop b_T_drop 2 (some .int)
abbrev b_L_store : ByteArray := method_10_code
def y_L_store : MethodName := ⟨"TagMemoryLaw", "store", "(LTagMemory;I[J)I"⟩
abbrev k_L_store : Cond := .codeWith y_L_store b_L_store 4 (some .int) [(0, 9, 12, 13)]
abbrev b_T_store : ByteArray := prog_1_method_10_code
def y_T_store : MethodName := ⟨"TagMemory", "store", "(I)I"⟩
abbrev k_T_store : Cond := .code y_T_store b_T_store 2 (some .int)
abbrev b_L_kept : ByteArray := method_11_code
def y_L_kept : MethodName := ⟨"TagMemoryLaw", "kept", "(LTagMemory;I[J)I"⟩
abbrev k_L_kept : Cond := .codeWith y_L_kept b_L_kept 4 (some .int) [(0, 9, 12, 13)]
abbrev b_T_kept : ByteArray := prog_1_method_11_code
def y_T_kept : MethodName := ⟨"TagMemory", "kept", "(I)I"⟩
abbrev k_T_kept : Cond := .code y_T_kept b_T_kept 2 (some .int)
abbrev b_L_count : ByteArray := method_12_code
def y_L_count : MethodName := ⟨"TagMemoryLaw", "count", "(LTagMemory;I[J)I"⟩
abbrev k_L_count : Cond := .codeWith y_L_count b_L_count 4 (some .int) [(0, 9, 12, 27)]
abbrev b_T_count : ByteArray := prog_1_method_12_code
def y_T_count : MethodName := ⟨"TagMemory", "count", "(I)I"⟩
abbrev k_T_count : Cond := .code y_T_count b_T_count 2 (some .int)
abbrev b_T_allTags : ByteArray := prog_1_method_38_code
def y_T_allTags : MethodName := ⟨"TagMemory", "allTags", "()I"⟩
abbrev k_T_allTags : Cond := .code y_T_allTags b_T_allTags 3 (some .int)
abbrev b_J_bitCount : ByteArray := prog_7_method_49_code
def y_J_bitCount : MethodName := ⟨"java/lang/Integer", "bitCount", "(I)I"⟩
abbrev k_J_bitCount : Cond := .code y_J_bitCount b_J_bitCount 1 (some .int)
abbrev b_T_howManyKept : ByteArray := prog_1_method_40_code
def y_T_howManyKept : MethodName := ⟨"TagMemory", "howManyKept", "([I)I"⟩
abbrev k_T_howManyKept : Cond := .code y_T_howManyKept b_T_howManyKept 6 (some .int)
abbrev b_T_howManyChanged : ByteArray := prog_1_method_41_code
def y_T_howManyChanged : MethodName := ⟨"TagMemory", "howManyChanged", "([Z)I"⟩
abbrev k_T_howManyChanged : Cond := .code y_T_howManyChanged b_T_howManyChanged 6 (some .int)
abbrev b_M_init : ByteArray := prog_3_method_1_code
def y_M_init : MethodName := ⟨"TagMemoryModel", "<init>", "()V"⟩
abbrev k_M_init : Cond := .code y_M_init b_M_init 2 none
abbrev b_M_thrown : ByteArray := prog_3_method_2_code
def y_M_thrown : MethodName := ⟨"TagMemoryModel", "thrown", "()I"⟩
abbrev k_M_thrown : Cond := .code y_M_thrown b_M_thrown 1 (some .int)
abbrev b_M_read : ByteArray := prog_3_method_9_code
def y_M_read : MethodName := ⟨"TagMemoryModel", "read", "(I)I"⟩
abbrev k_M_read : Cond := .code y_M_read b_M_read 2 (some .int)
abbrev b_M_bad : ByteArray := prog_3_method_3_code
def y_M_bad : MethodName := ⟨"TagMemoryModel", "bad", "(ZI)Z"⟩
abbrev k_M_bad : Cond := .code y_M_bad b_M_bad 3 (some .boolean)
abbrev b_M_want : ByteArray := prog_3_method_7_code
def y_M_want : MethodName := ⟨"TagMemoryModel", "want", "(I)V"⟩
abbrev k_M_want : Cond := .code y_M_want b_M_want 3 none
abbrev b_M_lineGoes : ByteArray := prog_3_method_6_code
def y_M_lineGoes : MethodName := ⟨"TagMemoryModel", "lineGoes", "(I)Z"⟩
abbrev k_M_lineGoes : Cond := .code y_M_lineGoes b_M_lineGoes 6 (some .boolean)
abbrev b_M_wantRow : ByteArray := prog_3_method_5_code
def y_M_wantRow : MethodName := ⟨"TagMemoryModel", "wantRow", "(I)V"⟩
abbrev k_M_wantRow : Cond := .code y_M_wantRow b_M_wantRow 2 none
abbrev b_M_rowGoes : ByteArray := prog_3_method_4_code
def y_M_rowGoes : MethodName := ⟨"TagMemoryModel", "rowGoes", "(I)V"⟩
abbrev k_M_rowGoes : Cond := .code y_M_rowGoes b_M_rowGoes 2 none
abbrev b_M_tag : ByteArray := prog_3_method_10_code
def y_M_tag : MethodName := ⟨"TagMemoryModel", "tag", "(I)Z"⟩
abbrev k_M_tag : Cond := .code y_M_tag b_M_tag 2 (some .boolean)
abbrev b_M_write : ByteArray := prog_3_method_11_code
def y_M_write : MethodName := ⟨"TagMemoryModel", "write", "(II)I"⟩
abbrev k_M_write : Cond := .code y_M_write b_M_write 4 (some .int)
abbrev b_M_changes : ByteArray := prog_3_method_8_code
def y_M_changes : MethodName := ⟨"TagMemoryModel", "changes", "(IIZ)V"⟩
abbrev k_M_changes : Cond := .code y_M_changes b_M_changes 4 none
abbrev b_M_part : ByteArray := prog_3_method_12_code
def y_M_part : MethodName := ⟨"TagMemoryModel", "part", "(IIII)I"⟩
abbrev k_M_part : Cond := .code y_M_part b_M_part 6 (some .int)
abbrev b_M_put : ByteArray := prog_3_method_13_code
def y_M_put : MethodName := ⟨"TagMemoryModel", "put", "(IIIZ)V"⟩
abbrev k_M_put : Cond := .code y_M_put b_M_put 5 none
abbrev b_M_copy : ByteArray := prog_3_method_14_code
def y_M_copy : MethodName := ⟨"TagMemoryModel", "copy", "(II)Z"⟩
abbrev k_M_copy : Cond := .code y_M_copy b_M_copy 4 (some .boolean)
abbrev b_M_drop : ByteArray := prog_3_method_15_code
def y_M_drop : MethodName := ⟨"TagMemoryModel", "drop", "(I)I"⟩
abbrev k_M_drop : Cond := .code y_M_drop b_M_drop 2 (some .int)
abbrev b_M_flush : ByteArray := prog_3_method_16_code
def y_M_flush : MethodName := ⟨"TagMemoryModel", "flush", "()I"⟩
abbrev k_M_flush : Cond := .code y_M_flush b_M_flush 3 (some .int)
abbrev b_M_store : ByteArray := prog_3_method_17_code
def y_M_store : MethodName := ⟨"TagMemoryModel", "store", "(I)I"⟩
abbrev k_M_store : Cond := .code y_M_store b_M_store 2 (some .int)
abbrev b_M_kept : ByteArray := prog_3_method_18_code
def y_M_kept : MethodName := ⟨"TagMemoryModel", "kept", "(I)I"⟩
abbrev k_M_kept : Cond := .code y_M_kept b_M_kept 2 (some .int)
abbrev b_M_count : ByteArray := prog_3_method_19_code
def y_M_count : MethodName := ⟨"TagMemoryModel", "count", "(I)I"⟩
abbrev k_M_count : Cond := .code y_M_count b_M_count 4 (some .int)
abbrev b_M_check : ByteArray := prog_3_method_20_code
def y_M_check : MethodName := ⟨"TagMemoryModel", "check", "()I"⟩
abbrev k_M_check : Cond := .code y_M_check b_M_check 1 (some .int)
abbrev b_L_law : ByteArray := code
def y_L_law : MethodName := ⟨"TagMemoryLaw", "law", "([I)Z"⟩
abbrev k_L_law : Cond := .code y_L_law b_L_law 7 (some .boolean)
end
section
theorem d_T_init_0 : decode b_T_init 0 = .ok (.aload_n 0, 1) := by decide +kernel
theorem d_T_init_1 : decode b_T_init 1 = .ok (.invokespecial 3, 3) := by decide +kernel
theorem d_T_init_4 : decode b_T_init 4 = .ok (.aload_n 0, 1) := by decide +kernel
theorem d_T_init_5 : decode b_T_init 5 = .ok (.sipush 2080, 3) := by decide +kernel
theorem d_T_init_8 : decode b_T_init 8 = .ok (.newarray .int, 2) := by decide +kernel
theorem d_T_init_10 : decode b_T_init 10 = .ok (.putfield 9, 3) := by decide +kernel
theorem d_T_init_13 : decode b_T_init 13 = .ok (.aload_n 0, 1) := by decide +kernel
theorem d_T_init_14 : decode b_T_init 14 = .ok (.bipush 16, 2) := by decide +kernel
theorem d_T_init_16 : decode b_T_init 16 = .ok (.newarray .int, 2) := by decide +kernel
theorem d_T_init_18 : decode b_T_init 18 = .ok (.putfield 13, 3) := by decide +kernel
theorem d_T_init_21 : decode b_T_init 21 = .ok (.aload_n 0, 1) := by decide +kernel
theorem d_T_init_22 : decode b_T_init 22 = .ok (.bipush 64, 2) := by decide +kernel
theorem d_T_init_24 : decode b_T_init 24 = .ok (.newarray .int, 2) := by decide +kernel
theorem d_T_init_26 : decode b_T_init 26 = .ok (.putfield 16, 3) := by decide +kernel
theorem d_T_init_29 : decode b_T_init 29 = .ok (.aload_n 0, 1) := by decide +kernel
theorem d_T_init_30 : decode b_T_init 30 = .ok (.bipush 16, 2) := by decide +kernel
theorem d_T_init_32 : decode b_T_init 32 = .ok (.newarray .int, 2) := by decide +kernel
theorem d_T_init_34 : decode b_T_init 34 = .ok (.putfield 19, 3) := by decide +kernel
theorem d_T_init_37 : decode b_T_init 37 = .ok (.aload_n 0, 1) := by decide +kernel
theorem d_T_init_38 : decode b_T_init 38 = .ok (.bipush 16, 2) := by decide +kernel
theorem d_T_init_40 : decode b_T_init 40 = .ok (.newarray .boolean, 2) := by decide +kernel
theorem d_T_init_42 : decode b_T_init 42 = .ok (.putfield 22, 3) := by decide +kernel
theorem d_T_init_45 : decode b_T_init 45 = .ok (.aload_n 0, 1) := by decide +kernel
theorem d_T_init_46 : decode b_T_init 46 = .ok (.iconst 4, 1) := by decide +kernel
theorem d_T_init_47 : decode b_T_init 47 = .ok (.newarray .int, 2) := by decide +kernel
theorem d_T_init_49 : decode b_T_init 49 = .ok (.putfield 26, 3) := by decide +kernel
theorem d_T_init_52 : decode b_T_init 52 = .ok (.aload_n 0, 1) := by decide +kernel
theorem d_T_init_53 : decode b_T_init 53 = .ok (.iconst 4, 1) := by decide +kernel
theorem d_T_init_54 : decode b_T_init 54 = .ok (.newarray .int, 2) := by decide +kernel
theorem d_T_init_56 : decode b_T_init 56 = .ok (.putfield 29, 3) := by decide +kernel
theorem d_T_init_59 : decode b_T_init 59 = .ok (.aload_n 0, 1) := by decide +kernel
theorem d_T_init_60 : decode b_T_init 60 = .ok (.iconst 4, 1) := by decide +kernel
theorem d_T_init_61 : decode b_T_init 61 = .ok (.newarray .boolean, 2) := by decide +kernel
theorem d_T_init_63 : decode b_T_init 63 = .ok (.putfield 32, 3) := by decide +kernel
theorem d_T_init_66 : decode b_T_init 66 = .ok (.iconst 0, 1) := by decide +kernel
theorem d_T_init_67 : decode b_T_init 67 = .ok (.istore_n 1, 1) := by decide +kernel
theorem d_T_init_68 : decode b_T_init 68 = .ok (.iload_n 1, 1) := by decide +kernel
theorem d_T_init_69 : decode b_T_init 69 = .ok (.bipush 16, 2) := by decide +kernel
theorem d_T_init_71 : decode b_T_init 71 = .ok (.if_icmp .ge 16, 3) := by decide +kernel
theorem d_T_init_74 : decode b_T_init 74 = .ok (.aload_n 0, 1) := by decide +kernel
theorem d_T_init_75 : decode b_T_init 75 = .ok (.getfield 13, 3) := by decide +kernel
theorem d_T_init_78 : decode b_T_init 78 = .ok (.iload_n 1, 1) := by decide +kernel
theorem d_T_init_79 : decode b_T_init 79 = .ok (.iconst (-1), 1) := by decide +kernel
theorem d_T_init_80 : decode b_T_init 80 = .ok (.iastore, 1) := by decide +kernel
theorem d_T_init_81 : decode b_T_init 81 = .ok (.iinc 1 1, 3) := by decide +kernel
theorem d_T_init_84 : decode b_T_init 84 = .ok (.goto (-16), 3) := by decide +kernel
theorem d_T_init_87 : decode b_T_init 87 = .ok (.iconst 0, 1) := by decide +kernel
theorem d_T_init_88 : decode b_T_init 88 = .ok (.istore_n 1, 1) := by decide +kernel
theorem d_T_init_89 : decode b_T_init 89 = .ok (.iload_n 1, 1) := by decide +kernel
theorem d_T_init_90 : decode b_T_init 90 = .ok (.iconst 4, 1) := by decide +kernel
theorem d_T_init_91 : decode b_T_init 91 = .ok (.if_icmp .ge 16, 3) := by decide +kernel
theorem d_T_init_94 : decode b_T_init 94 = .ok (.aload_n 0, 1) := by decide +kernel
theorem d_T_init_95 : decode b_T_init 95 = .ok (.getfield 26, 3) := by decide +kernel
theorem d_T_init_98 : decode b_T_init 98 = .ok (.iload_n 1, 1) := by decide +kernel
theorem d_T_init_99 : decode b_T_init 99 = .ok (.iconst (-1), 1) := by decide +kernel
theorem d_T_init_100 : decode b_T_init 100 = .ok (.iastore, 1) := by decide +kernel
theorem d_T_init_101 : decode b_T_init 101 = .ok (.iinc 1 1, 3) := by decide +kernel
theorem d_T_init_104 : decode b_T_init 104 = .ok (.goto (-15), 3) := by decide +kernel
theorem d_T_init_107 : decode b_T_init 107 = .ok (.return_, 1) := by decide +kernel
theorem d_T_read_0 : decode b_T_read 0 = .ok (.iload_n 1, 1) := by decide +kernel
theorem d_T_read_1 : decode b_T_read 1 = .ok (.invokestatic 35, 3) := by decide +kernel
theorem d_T_read_4 : decode b_T_read 4 = .ok (.aload_n 0, 1) := by decide +kernel
theorem d_T_read_5 : decode b_T_read 5 = .ok (.iload_n 1, 1) := by decide +kernel
theorem d_T_read_6 : decode b_T_read 6 = .ok (.invokestatic 39, 3) := by decide +kernel
theorem d_T_read_9 : decode b_T_read 9 = .ok (.invokevirtual 43, 3) := by decide +kernel
theorem d_T_read_12 : decode b_T_read 12 = .ok (.aload_n 0, 1) := by decide +kernel
theorem d_T_read_13 : decode b_T_read 13 = .ok (.getfield 16, 3) := by decide +kernel
theorem d_T_read_16 : decode b_T_read 16 = .ok (.iload_n 1, 1) := by decide +kernel
theorem d_T_read_17 : decode b_T_read 17 = .ok (.invokestatic 46, 3) := by decide +kernel
theorem d_T_read_20 : decode b_T_read 20 = .ok (.iaload, 1) := by decide +kernel
theorem d_T_read_21 : decode b_T_read 21 = .ok (.ireturn, 1) := by decide +kernel
theorem d_T_tag_0 : decode b_T_tag 0 = .ok (.iload_n 1, 1) := by decide +kernel
theorem d_T_tag_1 : decode b_T_tag 1 = .ok (.invokestatic 35, 3) := by decide +kernel
theorem d_T_tag_4 : decode b_T_tag 4 = .ok (.iload_n 1, 1) := by decide +kernel
theorem d_T_tag_5 : decode b_T_tag 5 = .ok (.invokestatic 49, 3) := by decide +kernel
theorem d_T_tag_8 : decode b_T_tag 8 = .ok (.istore_n 2, 1) := by decide +kernel
theorem d_T_tag_9 : decode b_T_tag 9 = .ok (.aload_n 0, 1) := by decide +kernel
theorem d_T_tag_10 : decode b_T_tag 10 = .ok (.iload_n 2, 1) := by decide +kernel
theorem d_T_tag_11 : decode b_T_tag 11 = .ok (.invokestatic 52, 3) := by decide +kernel
theorem d_T_tag_14 : decode b_T_tag 14 = .ok (.invokevirtual 43, 3) := by decide +kernel
theorem d_T_tag_17 : decode b_T_tag 17 = .ok (.aload_n 0, 1) := by decide +kernel
theorem d_T_tag_18 : decode b_T_tag 18 = .ok (.iload_n 2, 1) := by decide +kernel
theorem d_T_tag_19 : decode b_T_tag 19 = .ok (.invokevirtual 55, 3) := by decide +kernel
theorem d_T_tag_22 : decode b_T_tag 22 = .ok (.ireturn, 1) := by decide +kernel
theorem d_T_write_0 : decode b_T_write 0 = .ok (.iload_n 1, 1) := by decide +kernel
theorem d_T_write_1 : decode b_T_write 1 = .ok (.invokestatic 35, 3) := by decide +kernel
theorem d_T_write_4 : decode b_T_write 4 = .ok (.aload_n 0, 1) := by decide +kernel
theorem d_T_write_5 : decode b_T_write 5 = .ok (.iload_n 1, 1) := by decide +kernel
theorem d_T_write_6 : decode b_T_write 6 = .ok (.invokestatic 39, 3) := by decide +kernel
theorem d_T_write_9 : decode b_T_write 9 = .ok (.invokevirtual 43, 3) := by decide +kernel
theorem d_T_write_12 : decode b_T_write 12 = .ok (.aload_n 0, 1) := by decide +kernel
theorem d_T_write_13 : decode b_T_write 13 = .ok (.getfield 16, 3) := by decide +kernel
theorem d_T_write_16 : decode b_T_write 16 = .ok (.iload_n 1, 1) := by decide +kernel
theorem d_T_write_17 : decode b_T_write 17 = .ok (.invokestatic 46, 3) := by decide +kernel
theorem d_T_write_20 : decode b_T_write 20 = .ok (.iaload, 1) := by decide +kernel
theorem d_T_write_21 : decode b_T_write 21 = .ok (.istore_n 3, 1) := by decide +kernel
theorem d_T_write_22 : decode b_T_write 22 = .ok (.aload_n 0, 1) := by decide +kernel
theorem d_T_write_23 : decode b_T_write 23 = .ok (.iload_n 1, 1) := by decide +kernel
theorem d_T_write_24 : decode b_T_write 24 = .ok (.iload_n 2, 1) := by decide +kernel
theorem d_T_write_25 : decode b_T_write 25 = .ok (.invokevirtual 59, 3) := by decide +kernel
theorem d_T_write_28 : decode b_T_write 28 = .ok (.iload_n 3, 1) := by decide +kernel
theorem d_T_write_29 : decode b_T_write 29 = .ok (.ireturn, 1) := by decide +kernel
theorem d_T_part_0 : decode b_T_part 0 = .ok (.iload_n 1, 1) := by decide +kernel
theorem d_T_part_1 : decode b_T_part 1 = .ok (.invokestatic 35, 3) := by decide +kernel
theorem d_T_part_4 : decode b_T_part 4 = .ok (.iload_n 2, 1) := by decide +kernel
theorem d_T_part_5 : decode b_T_part 5 = .ok (.iload_n 3, 1) := by decide +kernel
theorem d_T_part_6 : decode b_T_part 6 = .ok (.invokestatic 63, 3) := by decide +kernel
theorem d_T_part_9 : decode b_T_part 9 = .ok (.aload_n 0, 1) := by decide +kernel
theorem d_T_part_10 : decode b_T_part 10 = .ok (.iload_n 1, 1) := by decide +kernel
theorem d_T_part_11 : decode b_T_part 11 = .ok (.invokestatic 39, 3) := by decide +kernel
theorem d_T_part_14 : decode b_T_part 14 = .ok (.invokevirtual 43, 3) := by decide +kernel
theorem d_T_part_17 : decode b_T_part 17 = .ok (.bipush 8, 2) := by decide +kernel
theorem d_T_part_19 : decode b_T_part 19 = .ok (.iload_n 2, 1) := by decide +kernel
theorem d_T_part_20 : decode b_T_part 20 = .ok (.imul, 1) := by decide +kernel
theorem d_T_part_21 : decode b_T_part 21 = .ok (.istore 5, 2) := by decide +kernel
theorem d_T_part_23 : decode b_T_part 23 = .ok (.iload_n 3, 1) := by decide +kernel
theorem d_T_part_24 : decode b_T_part 24 = .ok (.iconst 1, 1) := by decide +kernel
theorem d_T_part_25 : decode b_T_part 25 = .ok (.if_icmp .ne 9, 3) := by decide +kernel
theorem d_T_part_28 : decode b_T_part 28 = .ok (.sipush 255, 3) := by decide +kernel
theorem d_T_part_31 : decode b_T_part 31 = .ok (.goto 5, 3) := by decide +kernel
theorem d_T_part_34 : decode b_T_part 34 = .ok (.ldc 66, 2) := by decide +kernel
theorem d_T_part_36 : decode b_T_part 36 = .ok (.istore 6, 2) := by decide +kernel
theorem d_T_part_38 : decode b_T_part 38 = .ok (.aload_n 0, 1) := by decide +kernel
theorem d_T_part_39 : decode b_T_part 39 = .ok (.getfield 16, 3) := by decide +kernel
theorem d_T_part_42 : decode b_T_part 42 = .ok (.iload_n 1, 1) := by decide +kernel
theorem d_T_part_43 : decode b_T_part 43 = .ok (.invokestatic 46, 3) := by decide +kernel
theorem d_T_part_46 : decode b_T_part 46 = .ok (.iaload, 1) := by decide +kernel
theorem d_T_part_47 : decode b_T_part 47 = .ok (.iload 6, 2) := by decide +kernel
theorem d_T_part_49 : decode b_T_part 49 = .ok (.iload 5, 2) := by decide +kernel
theorem d_T_part_51 : decode b_T_part 51 = .ok (.ishl, 1) := by decide +kernel
theorem d_T_part_52 : decode b_T_part 52 = .ok (.iconst (-1), 1) := by decide +kernel
theorem d_T_part_53 : decode b_T_part 53 = .ok (.ixor, 1) := by decide +kernel
theorem d_T_part_54 : decode b_T_part 54 = .ok (.iand, 1) := by decide +kernel
theorem d_T_part_55 : decode b_T_part 55 = .ok (.istore 7, 2) := by decide +kernel
theorem d_T_part_57 : decode b_T_part 57 = .ok (.iload 7, 2) := by decide +kernel
theorem d_T_part_59 : decode b_T_part 59 = .ok (.iload 4, 2) := by decide +kernel
theorem d_T_part_61 : decode b_T_part 61 = .ok (.iload 6, 2) := by decide +kernel
theorem d_T_part_63 : decode b_T_part 63 = .ok (.iand, 1) := by decide +kernel
theorem d_T_part_64 : decode b_T_part 64 = .ok (.iload 5, 2) := by decide +kernel
theorem d_T_part_66 : decode b_T_part 66 = .ok (.ishl, 1) := by decide +kernel
theorem d_T_part_67 : decode b_T_part 67 = .ok (.ior, 1) := by decide +kernel
theorem d_T_part_68 : decode b_T_part 68 = .ok (.istore 8, 2) := by decide +kernel
theorem d_T_part_70 : decode b_T_part 70 = .ok (.aload_n 0, 1) := by decide +kernel
theorem d_T_part_71 : decode b_T_part 71 = .ok (.iload_n 1, 1) := by decide +kernel
theorem d_T_part_72 : decode b_T_part 72 = .ok (.iload 8, 2) := by decide +kernel
theorem d_T_part_74 : decode b_T_part 74 = .ok (.invokevirtual 59, 3) := by decide +kernel
theorem d_T_part_77 : decode b_T_part 77 = .ok (.iload 8, 2) := by decide +kernel
theorem d_T_part_79 : decode b_T_part 79 = .ok (.ireturn, 1) := by decide +kernel
theorem d_T_put_0 : decode b_T_put 0 = .ok (.iload_n 1, 1) := by decide +kernel
theorem d_T_put_1 : decode b_T_put 1 = .ok (.invokestatic 67, 3) := by decide +kernel
theorem d_T_put_4 : decode b_T_put 4 = .ok (.aload_n 0, 1) := by decide +kernel
theorem d_T_put_5 : decode b_T_put 5 = .ok (.iload_n 1, 1) := by decide +kernel
theorem d_T_put_6 : decode b_T_put 6 = .ok (.invokestatic 52, 3) := by decide +kernel
theorem d_T_put_9 : decode b_T_put 9 = .ok (.invokevirtual 43, 3) := by decide +kernel
theorem d_T_put_12 : decode b_T_put 12 = .ok (.aload_n 0, 1) := by decide +kernel
theorem d_T_put_13 : decode b_T_put 13 = .ok (.iload_n 1, 1) := by decide +kernel
theorem d_T_put_14 : decode b_T_put 14 = .ok (.iload_n 2, 1) := by decide +kernel
theorem d_T_put_15 : decode b_T_put 15 = .ok (.iload_n 3, 1) := by decide +kernel
theorem d_T_put_16 : decode b_T_put 16 = .ok (.iload 4, 2) := by decide +kernel
theorem d_T_put_18 : decode b_T_put 18 = .ok (.invokevirtual 70, 3) := by decide +kernel
theorem d_T_put_21 : decode b_T_put 21 = .ok (.return_, 1) := by decide +kernel
theorem d_T_copy_0 : decode b_T_copy 0 = .ok (.iload_n 2, 1) := by decide +kernel
theorem d_T_copy_1 : decode b_T_copy 1 = .ok (.invokestatic 67, 3) := by decide +kernel
theorem d_T_copy_4 : decode b_T_copy 4 = .ok (.iload_n 1, 1) := by decide +kernel
theorem d_T_copy_5 : decode b_T_copy 5 = .ok (.invokestatic 67, 3) := by decide +kernel
theorem d_T_copy_8 : decode b_T_copy 8 = .ok (.aload_n 0, 1) := by decide +kernel
theorem d_T_copy_9 : decode b_T_copy 9 = .ok (.iload_n 2, 1) := by decide +kernel
theorem d_T_copy_10 : decode b_T_copy 10 = .ok (.invokestatic 52, 3) := by decide +kernel
theorem d_T_copy_13 : decode b_T_copy 13 = .ok (.invokevirtual 43, 3) := by decide +kernel
theorem d_T_copy_16 : decode b_T_copy 16 = .ok (.aload_n 0, 1) := by decide +kernel
theorem d_T_copy_17 : decode b_T_copy 17 = .ok (.getfield 16, 3) := by decide +kernel
theorem d_T_copy_20 : decode b_T_copy 20 = .ok (.iconst 2, 1) := by decide +kernel
theorem d_T_copy_21 : decode b_T_copy 21 = .ok (.iload_n 2, 1) := by decide +kernel
theorem d_T_copy_22 : decode b_T_copy 22 = .ok (.imul, 1) := by decide +kernel
theorem d_T_copy_23 : decode b_T_copy 23 = .ok (.invokestatic 46, 3) := by decide +kernel
theorem d_T_copy_26 : decode b_T_copy 26 = .ok (.iaload, 1) := by decide +kernel
theorem d_T_copy_27 : decode b_T_copy 27 = .ok (.istore_n 3, 1) := by decide +kernel
theorem d_T_copy_28 : decode b_T_copy 28 = .ok (.aload_n 0, 1) := by decide +kernel
theorem d_T_copy_29 : decode b_T_copy 29 = .ok (.getfield 16, 3) := by decide +kernel
theorem d_T_copy_32 : decode b_T_copy 32 = .ok (.iconst 2, 1) := by decide +kernel
theorem d_T_copy_33 : decode b_T_copy 33 = .ok (.iload_n 2, 1) := by decide +kernel
theorem d_T_copy_34 : decode b_T_copy 34 = .ok (.imul, 1) := by decide +kernel
theorem d_T_copy_35 : decode b_T_copy 35 = .ok (.iconst 1, 1) := by decide +kernel
theorem d_T_copy_36 : decode b_T_copy 36 = .ok (.iadd, 1) := by decide +kernel
theorem d_T_copy_37 : decode b_T_copy 37 = .ok (.invokestatic 46, 3) := by decide +kernel
theorem d_T_copy_40 : decode b_T_copy 40 = .ok (.iaload, 1) := by decide +kernel
theorem d_T_copy_41 : decode b_T_copy 41 = .ok (.istore 4, 2) := by decide +kernel
theorem d_T_copy_43 : decode b_T_copy 43 = .ok (.aload_n 0, 1) := by decide +kernel
theorem d_T_copy_44 : decode b_T_copy 44 = .ok (.iload_n 2, 1) := by decide +kernel
theorem d_T_copy_45 : decode b_T_copy 45 = .ok (.invokevirtual 55, 3) := by decide +kernel
theorem d_T_copy_48 : decode b_T_copy 48 = .ok (.istore 5, 2) := by decide +kernel
theorem d_T_copy_50 : decode b_T_copy 50 = .ok (.aload_n 0, 1) := by decide +kernel
theorem d_T_copy_51 : decode b_T_copy 51 = .ok (.iload_n 1, 1) := by decide +kernel
theorem d_T_copy_52 : decode b_T_copy 52 = .ok (.invokestatic 52, 3) := by decide +kernel
theorem d_T_copy_55 : decode b_T_copy 55 = .ok (.invokevirtual 43, 3) := by decide +kernel
theorem d_T_copy_58 : decode b_T_copy 58 = .ok (.aload_n 0, 1) := by decide +kernel
theorem d_T_copy_59 : decode b_T_copy 59 = .ok (.iload_n 1, 1) := by decide +kernel
theorem d_T_copy_60 : decode b_T_copy 60 = .ok (.iload_n 3, 1) := by decide +kernel
theorem d_T_copy_61 : decode b_T_copy 61 = .ok (.iload 4, 2) := by decide +kernel
theorem d_T_copy_63 : decode b_T_copy 63 = .ok (.iload 5, 2) := by decide +kernel
theorem d_T_copy_65 : decode b_T_copy 65 = .ok (.invokevirtual 70, 3) := by decide +kernel
theorem d_T_copy_68 : decode b_T_copy 68 = .ok (.iload 5, 2) := by decide +kernel
theorem d_T_copy_70 : decode b_T_copy 70 = .ok (.ireturn, 1) := by decide +kernel
theorem d_T_drop_0 : decode b_T_drop 0 = .ok (.iload_n 1, 1) := by decide +kernel
theorem d_T_drop_1 : decode b_T_drop 1 = .ok (.ifCond .lt 9, 3) := by decide +kernel
theorem d_T_drop_4 : decode b_T_drop 4 = .ok (.iload_n 1, 1) := by decide +kernel
theorem d_T_drop_5 : decode b_T_drop 5 = .ok (.bipush 16, 2) := by decide +kernel
theorem d_T_drop_7 : decode b_T_drop 7 = .ok (.if_icmp .lt 13, 3) := by decide +kernel
theorem d_T_drop_10 : decode b_T_drop 10 = .ok (.new 74, 3) := by decide +kernel
theorem d_T_drop_13 : decode b_T_drop 13 = .ok (.dup, 1) := by decide +kernel
theorem d_T_drop_14 : decode b_T_drop 14 = .ok (.ldc 76, 2) := by decide +kernel
theorem d_T_drop_16 : decode b_T_drop 16 = .ok (.invokespecial 78, 3) := by decide +kernel
theorem d_T_drop_19 : decode b_T_drop 19 = .ok (.athrow, 1) := by decide +kernel
theorem d_T_drop_20 : decode b_T_drop 20 = .ok (.aload_n 0, 1) := by decide +kernel
theorem d_T_drop_21 : decode b_T_drop 21 = .ok (.getfield 13, 3) := by decide +kernel
theorem d_T_drop_24 : decode b_T_drop 24 = .ok (.iload_n 1, 1) := by decide +kernel
theorem d_T_drop_25 : decode b_T_drop 25 = .ok (.iaload, 1) := by decide +kernel
theorem d_T_drop_26 : decode b_T_drop 26 = .ok (.iconst (-1), 1) := by decide +kernel
theorem d_T_drop_27 : decode b_T_drop 27 = .ok (.if_icmp .ne 5, 3) := by decide +kernel
theorem d_T_drop_30 : decode b_T_drop 30 = .ok (.iconst (-1), 1) := by decide +kernel
theorem d_T_drop_31 : decode b_T_drop 31 = .ok (.ireturn, 1) := by decide +kernel
theorem d_T_drop_32 : decode b_T_drop 32 = .ok (.aload_n 0, 1) := by decide +kernel
theorem d_T_drop_33 : decode b_T_drop 33 = .ok (.iload_n 1, 1) := by decide +kernel
theorem d_T_drop_34 : decode b_T_drop 34 = .ok (.invokevirtual 81, 3) := by decide +kernel
theorem d_T_drop_37 : decode b_T_drop 37 = .ok (.ifCond .eq 7, 3) := by decide +kernel
theorem d_T_drop_40 : decode b_T_drop 40 = .ok (.iconst 1, 1) := by decide +kernel
theorem d_T_drop_41 : decode b_T_drop 41 = .ok (.goto 4, 3) := by decide +kernel
theorem d_T_drop_44 : decode b_T_drop 44 = .ok (.iconst 0, 1) := by decide +kernel
theorem d_T_drop_45 : decode b_T_drop 45 = .ok (.ireturn, 1) := by decide +kernel
theorem d_T_flush_0 : decode b_T_flush 0 = .ok (.iconst 0, 1) := by decide +kernel
theorem d_T_flush_1 : decode b_T_flush 1 = .ok (.istore_n 1, 1) := by decide +kernel
theorem d_T_flush_2 : decode b_T_flush 2 = .ok (.iconst 0, 1) := by decide +kernel
theorem d_T_flush_3 : decode b_T_flush 3 = .ok (.istore_n 2, 1) := by decide +kernel
theorem d_T_flush_4 : decode b_T_flush 4 = .ok (.iload_n 2, 1) := by decide +kernel
theorem d_T_flush_5 : decode b_T_flush 5 = .ok (.bipush 16, 2) := by decide +kernel
theorem d_T_flush_7 : decode b_T_flush 7 = .ok (.if_icmp .ge 20, 3) := by decide +kernel
theorem d_T_flush_10 : decode b_T_flush 10 = .ok (.aload_n 0, 1) := by decide +kernel
theorem d_T_flush_11 : decode b_T_flush 11 = .ok (.iload_n 2, 1) := by decide +kernel
theorem d_T_flush_12 : decode b_T_flush 12 = .ok (.invokevirtual 81, 3) := by decide +kernel
theorem d_T_flush_15 : decode b_T_flush 15 = .ok (.ifCond .eq 6, 3) := by decide +kernel
theorem d_T_flush_18 : decode b_T_flush 18 = .ok (.iinc 1 1, 3) := by decide +kernel
theorem d_T_flush_21 : decode b_T_flush 21 = .ok (.iinc 2 1, 3) := by decide +kernel
theorem d_T_flush_24 : decode b_T_flush 24 = .ok (.goto (-20), 3) := by decide +kernel
theorem d_T_flush_27 : decode b_T_flush 27 = .ok (.iconst 0, 1) := by decide +kernel
theorem d_T_flush_28 : decode b_T_flush 28 = .ok (.istore_n 2, 1) := by decide +kernel
theorem d_T_flush_29 : decode b_T_flush 29 = .ok (.iload_n 2, 1) := by decide +kernel
theorem d_T_flush_30 : decode b_T_flush 30 = .ok (.iconst 4, 1) := by decide +kernel
theorem d_T_flush_31 : decode b_T_flush 31 = .ok (.if_icmp .ge 14, 3) := by decide +kernel
theorem d_T_flush_34 : decode b_T_flush 34 = .ok (.aload_n 0, 1) := by decide +kernel
theorem d_T_flush_35 : decode b_T_flush 35 = .ok (.iload_n 2, 1) := by decide +kernel
theorem d_T_flush_36 : decode b_T_flush 36 = .ok (.invokevirtual 84, 3) := by decide +kernel
theorem d_T_flush_39 : decode b_T_flush 39 = .ok (.iinc 2 1, 3) := by decide +kernel
theorem d_T_flush_42 : decode b_T_flush 42 = .ok (.goto (-13), 3) := by decide +kernel
theorem d_T_flush_45 : decode b_T_flush 45 = .ok (.iload_n 1, 1) := by decide +kernel
theorem d_T_flush_46 : decode b_T_flush 46 = .ok (.ireturn, 1) := by decide +kernel
theorem d_T_store_0 : decode b_T_store 0 = .ok (.iload_n 1, 1) := by decide +kernel
theorem d_T_store_1 : decode b_T_store 1 = .ok (.ifCond .lt 10, 3) := by decide +kernel
theorem d_T_store_4 : decode b_T_store 4 = .ok (.iload_n 1, 1) := by decide +kernel
theorem d_T_store_5 : decode b_T_store 5 = .ok (.sipush 2080, 3) := by decide +kernel
theorem d_T_store_8 : decode b_T_store 8 = .ok (.if_icmp .lt 13, 3) := by decide +kernel
theorem d_T_store_11 : decode b_T_store 11 = .ok (.new 74, 3) := by decide +kernel
theorem d_T_store_14 : decode b_T_store 14 = .ok (.dup, 1) := by decide +kernel
theorem d_T_store_15 : decode b_T_store 15 = .ok (.ldc 87, 2) := by decide +kernel
theorem d_T_store_17 : decode b_T_store 17 = .ok (.invokespecial 78, 3) := by decide +kernel
theorem d_T_store_20 : decode b_T_store 20 = .ok (.athrow, 1) := by decide +kernel
theorem d_T_store_21 : decode b_T_store 21 = .ok (.aload_n 0, 1) := by decide +kernel
theorem d_T_store_22 : decode b_T_store 22 = .ok (.getfield 9, 3) := by decide +kernel
theorem d_T_store_25 : decode b_T_store 25 = .ok (.iload_n 1, 1) := by decide +kernel
theorem d_T_store_26 : decode b_T_store 26 = .ok (.iaload, 1) := by decide +kernel
theorem d_T_store_27 : decode b_T_store 27 = .ok (.ireturn, 1) := by decide +kernel
theorem d_T_kept_0 : decode b_T_kept 0 = .ok (.iload_n 1, 1) := by decide +kernel
theorem d_T_kept_1 : decode b_T_kept 1 = .ok (.ifCond .lt 9, 3) := by decide +kernel
theorem d_T_kept_4 : decode b_T_kept 4 = .ok (.iload_n 1, 1) := by decide +kernel
theorem d_T_kept_5 : decode b_T_kept 5 = .ok (.bipush 20, 2) := by decide +kernel
theorem d_T_kept_7 : decode b_T_kept 7 = .ok (.if_icmp .lt 13, 3) := by decide +kernel
theorem d_T_kept_10 : decode b_T_kept 10 = .ok (.new 74, 3) := by decide +kernel
theorem d_T_kept_13 : decode b_T_kept 13 = .ok (.dup, 1) := by decide +kernel
theorem d_T_kept_14 : decode b_T_kept 14 = .ok (.ldc 89, 2) := by decide +kernel
theorem d_T_kept_16 : decode b_T_kept 16 = .ok (.invokespecial 78, 3) := by decide +kernel
theorem d_T_kept_19 : decode b_T_kept 19 = .ok (.athrow, 1) := by decide +kernel
theorem d_T_kept_20 : decode b_T_kept 20 = .ok (.iload_n 1, 1) := by decide +kernel
theorem d_T_kept_21 : decode b_T_kept 21 = .ok (.bipush 16, 2) := by decide +kernel
theorem d_T_kept_23 : decode b_T_kept 23 = .ok (.if_icmp .ge 12, 3) := by decide +kernel
theorem d_T_kept_26 : decode b_T_kept 26 = .ok (.aload_n 0, 1) := by decide +kernel
theorem d_T_kept_27 : decode b_T_kept 27 = .ok (.getfield 13, 3) := by decide +kernel
theorem d_T_kept_30 : decode b_T_kept 30 = .ok (.iload_n 1, 1) := by decide +kernel
theorem d_T_kept_31 : decode b_T_kept 31 = .ok (.iaload, 1) := by decide +kernel
theorem d_T_kept_32 : decode b_T_kept 32 = .ok (.goto 12, 3) := by decide +kernel
theorem d_T_kept_35 : decode b_T_kept 35 = .ok (.aload_n 0, 1) := by decide +kernel
theorem d_T_kept_36 : decode b_T_kept 36 = .ok (.getfield 26, 3) := by decide +kernel
theorem d_T_kept_39 : decode b_T_kept 39 = .ok (.iload_n 1, 1) := by decide +kernel
theorem d_T_kept_40 : decode b_T_kept 40 = .ok (.bipush 16, 2) := by decide +kernel
theorem d_T_kept_42 : decode b_T_kept 42 = .ok (.isub, 1) := by decide +kernel
theorem d_T_kept_43 : decode b_T_kept 43 = .ok (.iaload, 1) := by decide +kernel
theorem d_T_kept_44 : decode b_T_kept 44 = .ok (.ireturn, 1) := by decide +kernel
theorem d_T_count_0 : decode b_T_count 0 = .ok (.iload_n 1, 1) := by decide +kernel
theorem d_T_count_1 : decode b_T_count 1 = .ok (.tableswitch 108 0 8 #[51, 56, 61, 66, 71, 76, 84, 92, 100], 51) := by decide +kernel
theorem d_T_count_52 : decode b_T_count 52 = .ok (.aload_n 0, 1) := by decide +kernel
theorem d_T_count_53 : decode b_T_count 53 = .ok (.getfield 91, 3) := by decide +kernel
theorem d_T_count_56 : decode b_T_count 56 = .ok (.ireturn, 1) := by decide +kernel
theorem d_T_count_57 : decode b_T_count 57 = .ok (.aload_n 0, 1) := by decide +kernel
theorem d_T_count_58 : decode b_T_count 58 = .ok (.getfield 95, 3) := by decide +kernel
theorem d_T_count_61 : decode b_T_count 61 = .ok (.ireturn, 1) := by decide +kernel
theorem d_T_count_62 : decode b_T_count 62 = .ok (.aload_n 0, 1) := by decide +kernel
theorem d_T_count_63 : decode b_T_count 63 = .ok (.getfield 98, 3) := by decide +kernel
theorem d_T_count_66 : decode b_T_count 66 = .ok (.ireturn, 1) := by decide +kernel
theorem d_T_count_67 : decode b_T_count 67 = .ok (.aload_n 0, 1) := by decide +kernel
theorem d_T_count_68 : decode b_T_count 68 = .ok (.getfield 101, 3) := by decide +kernel
theorem d_T_count_71 : decode b_T_count 71 = .ok (.ireturn, 1) := by decide +kernel
theorem d_T_count_72 : decode b_T_count 72 = .ok (.aload_n 0, 1) := by decide +kernel
theorem d_T_count_73 : decode b_T_count 73 = .ok (.invokevirtual 104, 3) := by decide +kernel
theorem d_T_count_76 : decode b_T_count 76 = .ok (.ireturn, 1) := by decide +kernel
theorem d_T_count_77 : decode b_T_count 77 = .ok (.aload_n 0, 1) := by decide +kernel
theorem d_T_count_78 : decode b_T_count 78 = .ok (.getfield 13, 3) := by decide +kernel
theorem d_T_count_81 : decode b_T_count 81 = .ok (.invokestatic 108, 3) := by decide +kernel
theorem d_T_count_84 : decode b_T_count 84 = .ok (.ireturn, 1) := by decide +kernel
theorem d_T_count_85 : decode b_T_count 85 = .ok (.aload_n 0, 1) := by decide +kernel
theorem d_T_count_86 : decode b_T_count 86 = .ok (.getfield 22, 3) := by decide +kernel
theorem d_T_count_89 : decode b_T_count 89 = .ok (.invokestatic 112, 3) := by decide +kernel
theorem d_T_count_92 : decode b_T_count 92 = .ok (.ireturn, 1) := by decide +kernel
theorem d_T_count_93 : decode b_T_count 93 = .ok (.aload_n 0, 1) := by decide +kernel
theorem d_T_count_94 : decode b_T_count 94 = .ok (.getfield 26, 3) := by decide +kernel
theorem d_T_count_97 : decode b_T_count 97 = .ok (.invokestatic 108, 3) := by decide +kernel
theorem d_T_count_100 : decode b_T_count 100 = .ok (.ireturn, 1) := by decide +kernel
theorem d_T_count_101 : decode b_T_count 101 = .ok (.aload_n 0, 1) := by decide +kernel
theorem d_T_count_102 : decode b_T_count 102 = .ok (.getfield 32, 3) := by decide +kernel
theorem d_T_count_105 : decode b_T_count 105 = .ok (.invokestatic 112, 3) := by decide +kernel
theorem d_T_count_108 : decode b_T_count 108 = .ok (.ireturn, 1) := by decide +kernel
theorem d_T_count_109 : decode b_T_count 109 = .ok (.new 116, 3) := by decide +kernel
theorem d_T_count_112 : decode b_T_count 112 = .ok (.dup, 1) := by decide +kernel
theorem d_T_count_113 : decode b_T_count 113 = .ok (.ldc 118, 2) := by decide +kernel
theorem d_T_count_115 : decode b_T_count 115 = .ok (.invokespecial 120, 3) := by decide +kernel
theorem d_T_count_118 : decode b_T_count 118 = .ok (.athrow, 1) := by decide +kernel
theorem d_T_check_0 : decode b_T_check 0 = .ok (.iconst 0, 1) := by decide +kernel
theorem d_T_check_1 : decode b_T_check 1 = .ok (.istore_n 1, 1) := by decide +kernel
theorem d_T_check_2 : decode b_T_check 2 = .ok (.iconst 0, 1) := by decide +kernel
theorem d_T_check_3 : decode b_T_check 3 = .ok (.istore_n 2, 1) := by decide +kernel
theorem d_T_check_4 : decode b_T_check 4 = .ok (.iload_n 2, 1) := by decide +kernel
theorem d_T_check_5 : decode b_T_check 5 = .ok (.bipush 16, 2) := by decide +kernel
theorem d_T_check_7 : decode b_T_check 7 = .ok (.if_icmp .ge 30, 3) := by decide +kernel
theorem d_T_check_10 : decode b_T_check 10 = .ok (.aload_n 0, 1) := by decide +kernel
theorem d_T_check_11 : decode b_T_check 11 = .ok (.getfield 13, 3) := by decide +kernel
theorem d_T_check_14 : decode b_T_check 14 = .ok (.iload_n 2, 1) := by decide +kernel
theorem d_T_check_15 : decode b_T_check 15 = .ok (.iaload, 1) := by decide +kernel
theorem d_T_check_16 : decode b_T_check 16 = .ok (.iconst (-1), 1) := by decide +kernel
theorem d_T_check_17 : decode b_T_check 17 = .ok (.if_icmp .eq 14, 3) := by decide +kernel
theorem d_T_check_20 : decode b_T_check 20 = .ok (.aload_n 0, 1) := by decide +kernel
theorem d_T_check_21 : decode b_T_check 21 = .ok (.iload_n 2, 1) := by decide +kernel
theorem d_T_check_22 : decode b_T_check 22 = .ok (.invokevirtual 121, 3) := by decide +kernel
theorem d_T_check_25 : decode b_T_check 25 = .ok (.ifCond .eq 6, 3) := by decide +kernel
theorem d_T_check_28 : decode b_T_check 28 = .ok (.iinc 1 1, 3) := by decide +kernel
theorem d_T_check_31 : decode b_T_check 31 = .ok (.iinc 2 1, 3) := by decide +kernel
theorem d_T_check_34 : decode b_T_check 34 = .ok (.goto (-30), 3) := by decide +kernel
theorem d_T_check_37 : decode b_T_check 37 = .ok (.iconst 0, 1) := by decide +kernel
theorem d_T_check_38 : decode b_T_check 38 = .ok (.istore_n 2, 1) := by decide +kernel
theorem d_T_check_39 : decode b_T_check 39 = .ok (.iload_n 2, 1) := by decide +kernel
theorem d_T_check_40 : decode b_T_check 40 = .ok (.iconst 4, 1) := by decide +kernel
theorem d_T_check_41 : decode b_T_check 41 = .ok (.if_icmp .ge 30, 3) := by decide +kernel
theorem d_T_check_44 : decode b_T_check 44 = .ok (.aload_n 0, 1) := by decide +kernel
theorem d_T_check_45 : decode b_T_check 45 = .ok (.getfield 26, 3) := by decide +kernel
theorem d_T_check_48 : decode b_T_check 48 = .ok (.iload_n 2, 1) := by decide +kernel
theorem d_T_check_49 : decode b_T_check 49 = .ok (.iaload, 1) := by decide +kernel
theorem d_T_check_50 : decode b_T_check 50 = .ok (.iconst (-1), 1) := by decide +kernel
theorem d_T_check_51 : decode b_T_check 51 = .ok (.if_icmp .eq 14, 3) := by decide +kernel
theorem d_T_check_54 : decode b_T_check 54 = .ok (.aload_n 0, 1) := by decide +kernel
theorem d_T_check_55 : decode b_T_check 55 = .ok (.iload_n 2, 1) := by decide +kernel
theorem d_T_check_56 : decode b_T_check 56 = .ok (.invokevirtual 124, 3) := by decide +kernel
theorem d_T_check_59 : decode b_T_check 59 = .ok (.ifCond .eq 6, 3) := by decide +kernel
theorem d_T_check_62 : decode b_T_check 62 = .ok (.iinc 1 1, 3) := by decide +kernel
theorem d_T_check_65 : decode b_T_check 65 = .ok (.iinc 2 1, 3) := by decide +kernel
theorem d_T_check_68 : decode b_T_check 68 = .ok (.goto (-29), 3) := by decide +kernel
theorem d_T_check_71 : decode b_T_check 71 = .ok (.iload_n 1, 1) := by decide +kernel
theorem d_T_check_72 : decode b_T_check 72 = .ok (.ireturn, 1) := by decide +kernel
theorem d_T_refuseNoWord_0 : decode b_T_refuseNoWord 0 = .ok (.iload_n 0, 1) := by decide +kernel
theorem d_T_refuseNoWord_1 : decode b_T_refuseNoWord 1 = .ok (.ifCond .lt 10, 3) := by decide +kernel
theorem d_T_refuseNoWord_4 : decode b_T_refuseNoWord 4 = .ok (.iload_n 0, 1) := by decide +kernel
theorem d_T_refuseNoWord_5 : decode b_T_refuseNoWord 5 = .ok (.sipush 2048, 3) := by decide +kernel
theorem d_T_refuseNoWord_8 : decode b_T_refuseNoWord 8 = .ok (.if_icmp .lt 13, 3) := by decide +kernel
theorem d_T_refuseNoWord_11 : decode b_T_refuseNoWord 11 = .ok (.new 74, 3) := by decide +kernel
theorem d_T_refuseNoWord_14 : decode b_T_refuseNoWord 14 = .ok (.dup, 1) := by decide +kernel
theorem d_T_refuseNoWord_15 : decode b_T_refuseNoWord 15 = .ok (.ldc 127, 2) := by decide +kernel
theorem d_T_refuseNoWord_17 : decode b_T_refuseNoWord 17 = .ok (.invokespecial 78, 3) := by decide +kernel
theorem d_T_refuseNoWord_20 : decode b_T_refuseNoWord 20 = .ok (.athrow, 1) := by decide +kernel
theorem d_T_refuseNoWord_21 : decode b_T_refuseNoWord 21 = .ok (.return_, 1) := by decide +kernel
theorem d_T_refuseNoGranule_0 : decode b_T_refuseNoGranule 0 = .ok (.iload_n 0, 1) := by decide +kernel
theorem d_T_refuseNoGranule_1 : decode b_T_refuseNoGranule 1 = .ok (.ifCond .lt 10, 3) := by decide +kernel
theorem d_T_refuseNoGranule_4 : decode b_T_refuseNoGranule 4 = .ok (.iload_n 0, 1) := by decide +kernel
theorem d_T_refuseNoGranule_5 : decode b_T_refuseNoGranule 5 = .ok (.sipush 1024, 3) := by decide +kernel
theorem d_T_refuseNoGranule_8 : decode b_T_refuseNoGranule 8 = .ok (.if_icmp .lt 13, 3) := by decide +kernel
theorem d_T_refuseNoGranule_11 : decode b_T_refuseNoGranule 11 = .ok (.new 74, 3) := by decide +kernel
theorem d_T_refuseNoGranule_14 : decode b_T_refuseNoGranule 14 = .ok (.dup, 1) := by decide +kernel
theorem d_T_refuseNoGranule_15 : decode b_T_refuseNoGranule 15 = .ok (.ldc 129, 2) := by decide +kernel
theorem d_T_refuseNoGranule_17 : decode b_T_refuseNoGranule 17 = .ok (.invokespecial 78, 3) := by decide +kernel
theorem d_T_refuseNoGranule_20 : decode b_T_refuseNoGranule 20 = .ok (.athrow, 1) := by decide +kernel
theorem d_T_refuseNoGranule_21 : decode b_T_refuseNoGranule 21 = .ok (.return_, 1) := by decide +kernel
theorem d_T_refuseNoPart_0 : decode b_T_refuseNoPart 0 = .ok (.iload_n 1, 1) := by decide +kernel
theorem d_T_refuseNoPart_1 : decode b_T_refuseNoPart 1 = .ok (.iconst 1, 1) := by decide +kernel
theorem d_T_refuseNoPart_2 : decode b_T_refuseNoPart 2 = .ok (.if_icmp .eq 18, 3) := by decide +kernel
theorem d_T_refuseNoPart_5 : decode b_T_refuseNoPart 5 = .ok (.iload_n 1, 1) := by decide +kernel
theorem d_T_refuseNoPart_6 : decode b_T_refuseNoPart 6 = .ok (.iconst 2, 1) := by decide +kernel
theorem d_T_refuseNoPart_7 : decode b_T_refuseNoPart 7 = .ok (.if_icmp .eq 13, 3) := by decide +kernel
theorem d_T_refuseNoPart_10 : decode b_T_refuseNoPart 10 = .ok (.new 116, 3) := by decide +kernel
theorem d_T_refuseNoPart_13 : decode b_T_refuseNoPart 13 = .ok (.dup, 1) := by decide +kernel
theorem d_T_refuseNoPart_14 : decode b_T_refuseNoPart 14 = .ok (.ldc 131, 2) := by decide +kernel
theorem d_T_refuseNoPart_16 : decode b_T_refuseNoPart 16 = .ok (.invokespecial 120, 3) := by decide +kernel
theorem d_T_refuseNoPart_19 : decode b_T_refuseNoPart 19 = .ok (.athrow, 1) := by decide +kernel
theorem d_T_refuseNoPart_20 : decode b_T_refuseNoPart 20 = .ok (.iload_n 0, 1) := by decide +kernel
theorem d_T_refuseNoPart_21 : decode b_T_refuseNoPart 21 = .ok (.ifCond .lt 14, 3) := by decide +kernel
theorem d_T_refuseNoPart_24 : decode b_T_refuseNoPart 24 = .ok (.iload_n 0, 1) := by decide +kernel
theorem d_T_refuseNoPart_25 : decode b_T_refuseNoPart 25 = .ok (.iconst 3, 1) := by decide +kernel
theorem d_T_refuseNoPart_26 : decode b_T_refuseNoPart 26 = .ok (.if_icmp .gt 9, 3) := by decide +kernel
theorem d_T_refuseNoPart_29 : decode b_T_refuseNoPart 29 = .ok (.iload_n 0, 1) := by decide +kernel
theorem d_T_refuseNoPart_30 : decode b_T_refuseNoPart 30 = .ok (.iload_n 1, 1) := by decide +kernel
theorem d_T_refuseNoPart_31 : decode b_T_refuseNoPart 31 = .ok (.irem, 1) := by decide +kernel
theorem d_T_refuseNoPart_32 : decode b_T_refuseNoPart 32 = .ok (.ifCond .eq 13, 3) := by decide +kernel
theorem d_T_refuseNoPart_35 : decode b_T_refuseNoPart 35 = .ok (.new 116, 3) := by decide +kernel
theorem d_T_refuseNoPart_38 : decode b_T_refuseNoPart 38 = .ok (.dup, 1) := by decide +kernel
theorem d_T_refuseNoPart_39 : decode b_T_refuseNoPart 39 = .ok (.ldc 133, 2) := by decide +kernel
theorem d_T_refuseNoPart_41 : decode b_T_refuseNoPart 41 = .ok (.invokespecial 120, 3) := by decide +kernel
theorem d_T_refuseNoPart_44 : decode b_T_refuseNoPart 44 = .ok (.athrow, 1) := by decide +kernel
theorem d_T_refuseNoPart_45 : decode b_T_refuseNoPart 45 = .ok (.return_, 1) := by decide +kernel
theorem d_T_granuleOfWord_0 : decode b_T_granuleOfWord 0 = .ok (.iload_n 0, 1) := by decide +kernel
theorem d_T_granuleOfWord_1 : decode b_T_granuleOfWord 1 = .ok (.iconst 2, 1) := by decide +kernel
theorem d_T_granuleOfWord_2 : decode b_T_granuleOfWord 2 = .ok (.idiv, 1) := by decide +kernel
theorem d_T_granuleOfWord_3 : decode b_T_granuleOfWord 3 = .ok (.ireturn, 1) := by decide +kernel
theorem d_T_lineOfWord_0 : decode b_T_lineOfWord 0 = .ok (.iload_n 0, 1) := by decide +kernel
theorem d_T_lineOfWord_1 : decode b_T_lineOfWord 1 = .ok (.iconst 4, 1) := by decide +kernel
theorem d_T_lineOfWord_2 : decode b_T_lineOfWord 2 = .ok (.idiv, 1) := by decide +kernel
theorem d_T_lineOfWord_3 : decode b_T_lineOfWord 3 = .ok (.ireturn, 1) := by decide +kernel
theorem d_T_lineOfGranule_0 : decode b_T_lineOfGranule 0 = .ok (.iload_n 0, 1) := by decide +kernel
theorem d_T_lineOfGranule_1 : decode b_T_lineOfGranule 1 = .ok (.iconst 2, 1) := by decide +kernel
theorem d_T_lineOfGranule_2 : decode b_T_lineOfGranule 2 = .ok (.idiv, 1) := by decide +kernel
theorem d_T_lineOfGranule_3 : decode b_T_lineOfGranule 3 = .ok (.ireturn, 1) := by decide +kernel
theorem d_T_rowOfLine_0 : decode b_T_rowOfLine 0 = .ok (.iload_n 0, 1) := by decide +kernel
theorem d_T_rowOfLine_1 : decode b_T_rowOfLine 1 = .ok (.bipush 16, 2) := by decide +kernel
theorem d_T_rowOfLine_3 : decode b_T_rowOfLine 3 = .ok (.idiv, 1) := by decide +kernel
theorem d_T_rowOfLine_4 : decode b_T_rowOfLine 4 = .ok (.ireturn, 1) := by decide +kernel
theorem d_T_placeOfLine_0 : decode b_T_placeOfLine 0 = .ok (.iload_n 0, 1) := by decide +kernel
theorem d_T_placeOfLine_1 : decode b_T_placeOfLine 1 = .ok (.bipush 16, 2) := by decide +kernel
theorem d_T_placeOfLine_3 : decode b_T_placeOfLine 3 = .ok (.irem, 1) := by decide +kernel
theorem d_T_placeOfLine_4 : decode b_T_placeOfLine 4 = .ok (.ireturn, 1) := by decide +kernel
theorem d_T_placeOfRow_0 : decode b_T_placeOfRow 0 = .ok (.iload_n 0, 1) := by decide +kernel
theorem d_T_placeOfRow_1 : decode b_T_placeOfRow 1 = .ok (.iconst 4, 1) := by decide +kernel
theorem d_T_placeOfRow_2 : decode b_T_placeOfRow 2 = .ok (.irem, 1) := by decide +kernel
theorem d_T_placeOfRow_3 : decode b_T_placeOfRow 3 = .ok (.ireturn, 1) := by decide +kernel
theorem d_T_slotOfWord_0 : decode b_T_slotOfWord 0 = .ok (.iload_n 0, 1) := by decide +kernel
theorem d_T_slotOfWord_1 : decode b_T_slotOfWord 1 = .ok (.bipush 64, 2) := by decide +kernel
theorem d_T_slotOfWord_3 : decode b_T_slotOfWord 3 = .ok (.irem, 1) := by decide +kernel
theorem d_T_slotOfWord_4 : decode b_T_slotOfWord 4 = .ok (.ireturn, 1) := by decide +kernel
theorem d_T_firstTagBit_0 : decode b_T_firstTagBit 0 = .ok (.iload_n 0, 1) := by decide +kernel
theorem d_T_firstTagBit_1 : decode b_T_firstTagBit 1 = .ok (.bipush 16, 2) := by decide +kernel
theorem d_T_firstTagBit_3 : decode b_T_firstTagBit 3 = .ok (.irem, 1) := by decide +kernel
theorem d_T_firstTagBit_4 : decode b_T_firstTagBit 4 = .ok (.iconst 2, 1) := by decide +kernel
theorem d_T_firstTagBit_5 : decode b_T_firstTagBit 5 = .ok (.imul, 1) := by decide +kernel
theorem d_T_firstTagBit_6 : decode b_T_firstTagBit 6 = .ok (.ireturn, 1) := by decide +kernel
theorem d_T_tagsOfLine_0 : decode b_T_tagsOfLine 0 = .ok (.iload_n 1, 1) := by decide +kernel
theorem d_T_tagsOfLine_1 : decode b_T_tagsOfLine 1 = .ok (.iload_n 0, 1) := by decide +kernel
theorem d_T_tagsOfLine_2 : decode b_T_tagsOfLine 2 = .ok (.invokestatic 135, 3) := by decide +kernel
theorem d_T_tagsOfLine_5 : decode b_T_tagsOfLine 5 = .ok (.iushr, 1) := by decide +kernel
theorem d_T_tagsOfLine_6 : decode b_T_tagsOfLine 6 = .ok (.iconst 3, 1) := by decide +kernel
theorem d_T_tagsOfLine_7 : decode b_T_tagsOfLine 7 = .ok (.iand, 1) := by decide +kernel
theorem d_T_tagsOfLine_8 : decode b_T_tagsOfLine 8 = .ok (.ireturn, 1) := by decide +kernel
theorem d_T_tagBit_0 : decode b_T_tagBit 0 = .ok (.iconst 1, 1) := by decide +kernel
theorem d_T_tagBit_1 : decode b_T_tagBit 1 = .ok (.iload_n 0, 1) := by decide +kernel
theorem d_T_tagBit_2 : decode b_T_tagBit 2 = .ok (.iconst 2, 1) := by decide +kernel
theorem d_T_tagBit_3 : decode b_T_tagBit 3 = .ok (.irem, 1) := by decide +kernel
theorem d_T_tagBit_4 : decode b_T_tagBit 4 = .ok (.ishl, 1) := by decide +kernel
theorem d_T_tagBit_5 : decode b_T_tagBit 5 = .ok (.ireturn, 1) := by decide +kernel
theorem d_T_keptTag_0 : decode b_T_keptTag 0 = .ok (.aload_n 0, 1) := by decide +kernel
theorem d_T_keptTag_1 : decode b_T_keptTag 1 = .ok (.getfield 19, 3) := by decide +kernel
theorem d_T_keptTag_4 : decode b_T_keptTag 4 = .ok (.iload_n 1, 1) := by decide +kernel
theorem d_T_keptTag_5 : decode b_T_keptTag 5 = .ok (.invokestatic 52, 3) := by decide +kernel
theorem d_T_keptTag_8 : decode b_T_keptTag 8 = .ok (.invokestatic 138, 3) := by decide +kernel
theorem d_T_keptTag_11 : decode b_T_keptTag 11 = .ok (.iaload, 1) := by decide +kernel
theorem d_T_keptTag_12 : decode b_T_keptTag 12 = .ok (.iload_n 1, 1) := by decide +kernel
theorem d_T_keptTag_13 : decode b_T_keptTag 13 = .ok (.invokestatic 141, 3) := by decide +kernel
theorem d_T_keptTag_16 : decode b_T_keptTag 16 = .ok (.iand, 1) := by decide +kernel
theorem d_T_keptTag_17 : decode b_T_keptTag 17 = .ok (.ifCond .eq 7, 3) := by decide +kernel
theorem d_T_keptTag_20 : decode b_T_keptTag 20 = .ok (.iconst 1, 1) := by decide +kernel
theorem d_T_keptTag_21 : decode b_T_keptTag 21 = .ok (.goto 4, 3) := by decide +kernel
theorem d_T_keptTag_24 : decode b_T_keptTag 24 = .ok (.iconst 0, 1) := by decide +kernel
theorem d_T_keptTag_25 : decode b_T_keptTag 25 = .ok (.ireturn, 1) := by decide +kernel
theorem d_T_changeWord_0 : decode b_T_changeWord 0 = .ok (.aload_n 0, 1) := by decide +kernel
theorem d_T_changeWord_1 : decode b_T_changeWord 1 = .ok (.getfield 16, 3) := by decide +kernel
theorem d_T_changeWord_4 : decode b_T_changeWord 4 = .ok (.iload_n 1, 1) := by decide +kernel
theorem d_T_changeWord_5 : decode b_T_changeWord 5 = .ok (.invokestatic 46, 3) := by decide +kernel
theorem d_T_changeWord_8 : decode b_T_changeWord 8 = .ok (.iload_n 2, 1) := by decide +kernel
theorem d_T_changeWord_9 : decode b_T_changeWord 9 = .ok (.iastore, 1) := by decide +kernel
theorem d_T_changeWord_10 : decode b_T_changeWord 10 = .ok (.aload_n 0, 1) := by decide +kernel
theorem d_T_changeWord_11 : decode b_T_changeWord 11 = .ok (.iload_n 1, 1) := by decide +kernel
theorem d_T_changeWord_12 : decode b_T_changeWord 12 = .ok (.invokestatic 49, 3) := by decide +kernel
theorem d_T_changeWord_15 : decode b_T_changeWord 15 = .ok (.iconst 0, 1) := by decide +kernel
theorem d_T_changeWord_16 : decode b_T_changeWord 16 = .ok (.invokevirtual 144, 3) := by decide +kernel
theorem d_T_changeWord_19 : decode b_T_changeWord 19 = .ok (.return_, 1) := by decide +kernel
theorem d_T_changeGranule_0 : decode b_T_changeGranule 0 = .ok (.aload_n 0, 1) := by decide +kernel
theorem d_T_changeGranule_1 : decode b_T_changeGranule 1 = .ok (.getfield 16, 3) := by decide +kernel
theorem d_T_changeGranule_4 : decode b_T_changeGranule 4 = .ok (.iconst 2, 1) := by decide +kernel
theorem d_T_changeGranule_5 : decode b_T_changeGranule 5 = .ok (.iload_n 1, 1) := by decide +kernel
theorem d_T_changeGranule_6 : decode b_T_changeGranule 6 = .ok (.imul, 1) := by decide +kernel
theorem d_T_changeGranule_7 : decode b_T_changeGranule 7 = .ok (.invokestatic 46, 3) := by decide +kernel
theorem d_T_changeGranule_10 : decode b_T_changeGranule 10 = .ok (.iload_n 2, 1) := by decide +kernel
theorem d_T_changeGranule_11 : decode b_T_changeGranule 11 = .ok (.iastore, 1) := by decide +kernel
theorem d_T_changeGranule_12 : decode b_T_changeGranule 12 = .ok (.aload_n 0, 1) := by decide +kernel
theorem d_T_changeGranule_13 : decode b_T_changeGranule 13 = .ok (.getfield 16, 3) := by decide +kernel
theorem d_T_changeGranule_16 : decode b_T_changeGranule 16 = .ok (.iconst 2, 1) := by decide +kernel
theorem d_T_changeGranule_17 : decode b_T_changeGranule 17 = .ok (.iload_n 1, 1) := by decide +kernel
theorem d_T_changeGranule_18 : decode b_T_changeGranule 18 = .ok (.imul, 1) := by decide +kernel
theorem d_T_changeGranule_19 : decode b_T_changeGranule 19 = .ok (.iconst 1, 1) := by decide +kernel
theorem d_T_changeGranule_20 : decode b_T_changeGranule 20 = .ok (.iadd, 1) := by decide +kernel
theorem d_T_changeGranule_21 : decode b_T_changeGranule 21 = .ok (.invokestatic 46, 3) := by decide +kernel
theorem d_T_changeGranule_24 : decode b_T_changeGranule 24 = .ok (.iload_n 3, 1) := by decide +kernel
theorem d_T_changeGranule_25 : decode b_T_changeGranule 25 = .ok (.iastore, 1) := by decide +kernel
theorem d_T_changeGranule_26 : decode b_T_changeGranule 26 = .ok (.aload_n 0, 1) := by decide +kernel
theorem d_T_changeGranule_27 : decode b_T_changeGranule 27 = .ok (.iload_n 1, 1) := by decide +kernel
theorem d_T_changeGranule_28 : decode b_T_changeGranule 28 = .ok (.iload 4, 2) := by decide +kernel
theorem d_T_changeGranule_30 : decode b_T_changeGranule 30 = .ok (.invokevirtual 144, 3) := by decide +kernel
theorem d_T_changeGranule_33 : decode b_T_changeGranule 33 = .ok (.return_, 1) := by decide +kernel
theorem d_T_changeTag_0 : decode b_T_changeTag 0 = .ok (.iload_n 1, 1) := by decide +kernel
theorem d_T_changeTag_1 : decode b_T_changeTag 1 = .ok (.invokestatic 52, 3) := by decide +kernel
theorem d_T_changeTag_4 : decode b_T_changeTag 4 = .ok (.invokestatic 138, 3) := by decide +kernel
theorem d_T_changeTag_7 : decode b_T_changeTag 7 = .ok (.istore_n 3, 1) := by decide +kernel
theorem d_T_changeTag_8 : decode b_T_changeTag 8 = .ok (.aload_n 0, 1) := by decide +kernel
theorem d_T_changeTag_9 : decode b_T_changeTag 9 = .ok (.getfield 19, 3) := by decide +kernel
theorem d_T_changeTag_12 : decode b_T_changeTag 12 = .ok (.iload_n 3, 1) := by decide +kernel
theorem d_T_changeTag_13 : decode b_T_changeTag 13 = .ok (.iaload, 1) := by decide +kernel
theorem d_T_changeTag_14 : decode b_T_changeTag 14 = .ok (.iload_n 1, 1) := by decide +kernel
theorem d_T_changeTag_15 : decode b_T_changeTag 15 = .ok (.invokestatic 141, 3) := by decide +kernel
theorem d_T_changeTag_18 : decode b_T_changeTag 18 = .ok (.iconst (-1), 1) := by decide +kernel
theorem d_T_changeTag_19 : decode b_T_changeTag 19 = .ok (.ixor, 1) := by decide +kernel
theorem d_T_changeTag_20 : decode b_T_changeTag 20 = .ok (.iand, 1) := by decide +kernel
theorem d_T_changeTag_21 : decode b_T_changeTag 21 = .ok (.istore 4, 2) := by decide +kernel
theorem d_T_changeTag_23 : decode b_T_changeTag 23 = .ok (.aload_n 0, 1) := by decide +kernel
theorem d_T_changeTag_24 : decode b_T_changeTag 24 = .ok (.getfield 19, 3) := by decide +kernel
theorem d_T_changeTag_27 : decode b_T_changeTag 27 = .ok (.iload_n 3, 1) := by decide +kernel
theorem d_T_changeTag_28 : decode b_T_changeTag 28 = .ok (.iload_n 2, 1) := by decide +kernel
theorem d_T_changeTag_29 : decode b_T_changeTag 29 = .ok (.ifCond .eq 13, 3) := by decide +kernel
theorem d_T_changeTag_32 : decode b_T_changeTag 32 = .ok (.iload 4, 2) := by decide +kernel
theorem d_T_changeTag_34 : decode b_T_changeTag 34 = .ok (.iload_n 1, 1) := by decide +kernel
theorem d_T_changeTag_35 : decode b_T_changeTag 35 = .ok (.invokestatic 141, 3) := by decide +kernel
theorem d_T_changeTag_38 : decode b_T_changeTag 38 = .ok (.ior, 1) := by decide +kernel
theorem d_T_changeTag_39 : decode b_T_changeTag 39 = .ok (.goto 5, 3) := by decide +kernel
theorem d_T_changeTag_42 : decode b_T_changeTag 42 = .ok (.iload 4, 2) := by decide +kernel
theorem d_T_changeTag_44 : decode b_T_changeTag 44 = .ok (.iastore, 1) := by decide +kernel
theorem d_T_changeTag_45 : decode b_T_changeTag 45 = .ok (.aload_n 0, 1) := by decide +kernel
theorem d_T_changeTag_46 : decode b_T_changeTag 46 = .ok (.getfield 22, 3) := by decide +kernel
theorem d_T_changeTag_49 : decode b_T_changeTag 49 = .ok (.iload_n 3, 1) := by decide +kernel
theorem d_T_changeTag_50 : decode b_T_changeTag 50 = .ok (.iconst 1, 1) := by decide +kernel
theorem d_T_changeTag_51 : decode b_T_changeTag 51 = .ok (.bastore, 1) := by decide +kernel
theorem d_T_changeTag_52 : decode b_T_changeTag 52 = .ok (.return_, 1) := by decide +kernel
theorem d_T_wantLine_0 : decode b_T_wantLine 0 = .ok (.iload_n 1, 1) := by decide +kernel
theorem d_T_wantLine_1 : decode b_T_wantLine 1 = .ok (.invokestatic 138, 3) := by decide +kernel
theorem d_T_wantLine_4 : decode b_T_wantLine 4 = .ok (.istore_n 2, 1) := by decide +kernel
theorem d_T_wantLine_5 : decode b_T_wantLine 5 = .ok (.aload_n 0, 1) := by decide +kernel
theorem d_T_wantLine_6 : decode b_T_wantLine 6 = .ok (.getfield 13, 3) := by decide +kernel
theorem d_T_wantLine_9 : decode b_T_wantLine 9 = .ok (.iload_n 2, 1) := by decide +kernel
theorem d_T_wantLine_10 : decode b_T_wantLine 10 = .ok (.iaload, 1) := by decide +kernel
theorem d_T_wantLine_11 : decode b_T_wantLine 11 = .ok (.iload_n 1, 1) := by decide +kernel
theorem d_T_wantLine_12 : decode b_T_wantLine 12 = .ok (.if_icmp .eq 15, 3) := by decide +kernel
theorem d_T_wantLine_15 : decode b_T_wantLine 15 = .ok (.aload_n 0, 1) := by decide +kernel
theorem d_T_wantLine_16 : decode b_T_wantLine 16 = .ok (.iload_n 2, 1) := by decide +kernel
theorem d_T_wantLine_17 : decode b_T_wantLine 17 = .ok (.invokevirtual 81, 3) := by decide +kernel
theorem d_T_wantLine_20 : decode b_T_wantLine 20 = .ok (.pop, 1) := by decide +kernel
theorem d_T_wantLine_21 : decode b_T_wantLine 21 = .ok (.aload_n 0, 1) := by decide +kernel
theorem d_T_wantLine_22 : decode b_T_wantLine 22 = .ok (.iload_n 1, 1) := by decide +kernel
theorem d_T_wantLine_23 : decode b_T_wantLine 23 = .ok (.iload_n 2, 1) := by decide +kernel
theorem d_T_wantLine_24 : decode b_T_wantLine 24 = .ok (.invokevirtual 148, 3) := by decide +kernel
theorem d_T_wantLine_27 : decode b_T_wantLine 27 = .ok (.return_, 1) := by decide +kernel
theorem d_T_bringLine_0 : decode b_T_bringLine 0 = .ok (.aload_n 0, 1) := by decide +kernel
theorem d_T_bringLine_1 : decode b_T_bringLine 1 = .ok (.getfield 9, 3) := by decide +kernel
theorem d_T_bringLine_4 : decode b_T_bringLine 4 = .ok (.iload_n 1, 1) := by decide +kernel
theorem d_T_bringLine_5 : decode b_T_bringLine 5 = .ok (.iconst 4, 1) := by decide +kernel
theorem d_T_bringLine_6 : decode b_T_bringLine 6 = .ok (.imul, 1) := by decide +kernel
theorem d_T_bringLine_7 : decode b_T_bringLine 7 = .ok (.aload_n 0, 1) := by decide +kernel
theorem d_T_bringLine_8 : decode b_T_bringLine 8 = .ok (.getfield 16, 3) := by decide +kernel
theorem d_T_bringLine_11 : decode b_T_bringLine 11 = .ok (.iload_n 2, 1) := by decide +kernel
theorem d_T_bringLine_12 : decode b_T_bringLine 12 = .ok (.iconst 4, 1) := by decide +kernel
theorem d_T_bringLine_13 : decode b_T_bringLine 13 = .ok (.imul, 1) := by decide +kernel
theorem d_T_bringLine_14 : decode b_T_bringLine 14 = .ok (.iconst 4, 1) := by decide +kernel
theorem d_T_bringLine_15 : decode b_T_bringLine 15 = .ok (.invokestatic 151, 3) := by decide +kernel
theorem d_T_bringLine_18 : decode b_T_bringLine 18 = .ok (.aload_n 0, 1) := by decide +kernel
theorem d_T_bringLine_19 : decode b_T_bringLine 19 = .ok (.iload_n 1, 1) := by decide +kernel
theorem d_T_bringLine_20 : decode b_T_bringLine 20 = .ok (.invokestatic 157, 3) := by decide +kernel
theorem d_T_bringLine_23 : decode b_T_bringLine 23 = .ok (.invokevirtual 160, 3) := by decide +kernel
theorem d_T_bringLine_26 : decode b_T_bringLine 26 = .ok (.istore_n 3, 1) := by decide +kernel
theorem d_T_bringLine_27 : decode b_T_bringLine 27 = .ok (.aload_n 0, 1) := by decide +kernel
theorem d_T_bringLine_28 : decode b_T_bringLine 28 = .ok (.getfield 19, 3) := by decide +kernel
theorem d_T_bringLine_31 : decode b_T_bringLine 31 = .ok (.iload_n 2, 1) := by decide +kernel
theorem d_T_bringLine_32 : decode b_T_bringLine 32 = .ok (.iload_n 1, 1) := by decide +kernel
theorem d_T_bringLine_33 : decode b_T_bringLine 33 = .ok (.aload_n 0, 1) := by decide +kernel
theorem d_T_bringLine_34 : decode b_T_bringLine 34 = .ok (.getfield 29, 3) := by decide +kernel
theorem d_T_bringLine_37 : decode b_T_bringLine 37 = .ok (.iload_n 3, 1) := by decide +kernel
theorem d_T_bringLine_38 : decode b_T_bringLine 38 = .ok (.iaload, 1) := by decide +kernel
theorem d_T_bringLine_39 : decode b_T_bringLine 39 = .ok (.invokestatic 163, 3) := by decide +kernel
theorem d_T_bringLine_42 : decode b_T_bringLine 42 = .ok (.iastore, 1) := by decide +kernel
theorem d_T_bringLine_43 : decode b_T_bringLine 43 = .ok (.aload_n 0, 1) := by decide +kernel
theorem d_T_bringLine_44 : decode b_T_bringLine 44 = .ok (.getfield 13, 3) := by decide +kernel
theorem d_T_bringLine_47 : decode b_T_bringLine 47 = .ok (.iload_n 2, 1) := by decide +kernel
theorem d_T_bringLine_48 : decode b_T_bringLine 48 = .ok (.iload_n 1, 1) := by decide +kernel
theorem d_T_bringLine_49 : decode b_T_bringLine 49 = .ok (.iastore, 1) := by decide +kernel
theorem d_T_bringLine_50 : decode b_T_bringLine 50 = .ok (.aload_n 0, 1) := by decide +kernel
theorem d_T_bringLine_51 : decode b_T_bringLine 51 = .ok (.getfield 22, 3) := by decide +kernel
theorem d_T_bringLine_54 : decode b_T_bringLine 54 = .ok (.iload_n 2, 1) := by decide +kernel
theorem d_T_bringLine_55 : decode b_T_bringLine 55 = .ok (.iconst 0, 1) := by decide +kernel
theorem d_T_bringLine_56 : decode b_T_bringLine 56 = .ok (.bastore, 1) := by decide +kernel
theorem d_T_bringLine_57 : decode b_T_bringLine 57 = .ok (.aload_n 0, 1) := by decide +kernel
theorem d_T_bringLine_58 : decode b_T_bringLine 58 = .ok (.dup, 1) := by decide +kernel
theorem d_T_bringLine_59 : decode b_T_bringLine 59 = .ok (.getfield 91, 3) := by decide +kernel
theorem d_T_bringLine_62 : decode b_T_bringLine 62 = .ok (.iconst 1, 1) := by decide +kernel
theorem d_T_bringLine_63 : decode b_T_bringLine 63 = .ok (.iadd, 1) := by decide +kernel
theorem d_T_bringLine_64 : decode b_T_bringLine 64 = .ok (.putfield 91, 3) := by decide +kernel
theorem d_T_bringLine_67 : decode b_T_bringLine 67 = .ok (.return_, 1) := by decide +kernel
theorem d_T_letLineGo_0 : decode b_T_letLineGo 0 = .ok (.aload_n 0, 1) := by decide +kernel
theorem d_T_letLineGo_1 : decode b_T_letLineGo 1 = .ok (.getfield 13, 3) := by decide +kernel
theorem d_T_letLineGo_4 : decode b_T_letLineGo 4 = .ok (.iload_n 1, 1) := by decide +kernel
theorem d_T_letLineGo_5 : decode b_T_letLineGo 5 = .ok (.iaload, 1) := by decide +kernel
theorem d_T_letLineGo_6 : decode b_T_letLineGo 6 = .ok (.iconst (-1), 1) := by decide +kernel
theorem d_T_letLineGo_7 : decode b_T_letLineGo 7 = .ok (.if_icmp .eq 16, 3) := by decide +kernel
theorem d_T_letLineGo_10 : decode b_T_letLineGo 10 = .ok (.aload_n 0, 1) := by decide +kernel
theorem d_T_letLineGo_11 : decode b_T_letLineGo 11 = .ok (.getfield 22, 3) := by decide +kernel
theorem d_T_letLineGo_14 : decode b_T_letLineGo 14 = .ok (.iload_n 1, 1) := by decide +kernel
theorem d_T_letLineGo_15 : decode b_T_letLineGo 15 = .ok (.baload, 1) := by decide +kernel
theorem d_T_letLineGo_16 : decode b_T_letLineGo 16 = .ok (.ifCond .eq 7, 3) := by decide +kernel
theorem d_T_letLineGo_19 : decode b_T_letLineGo 19 = .ok (.iconst 1, 1) := by decide +kernel
theorem d_T_letLineGo_20 : decode b_T_letLineGo 20 = .ok (.goto 4, 3) := by decide +kernel
theorem d_T_letLineGo_23 : decode b_T_letLineGo 23 = .ok (.iconst 0, 1) := by decide +kernel
theorem d_T_letLineGo_24 : decode b_T_letLineGo 24 = .ok (.istore_n 2, 1) := by decide +kernel
theorem d_T_letLineGo_25 : decode b_T_letLineGo 25 = .ok (.iload_n 2, 1) := by decide +kernel
theorem d_T_letLineGo_26 : decode b_T_letLineGo 26 = .ok (.ifCond .eq 14, 3) := by decide +kernel
theorem d_T_letLineGo_29 : decode b_T_letLineGo 29 = .ok (.aload_n 0, 1) := by decide +kernel
theorem d_T_letLineGo_30 : decode b_T_letLineGo 30 = .ok (.aload_n 0, 1) := by decide +kernel
theorem d_T_letLineGo_31 : decode b_T_letLineGo 31 = .ok (.getfield 13, 3) := by decide +kernel
theorem d_T_letLineGo_34 : decode b_T_letLineGo 34 = .ok (.iload_n 1, 1) := by decide +kernel
theorem d_T_letLineGo_35 : decode b_T_letLineGo 35 = .ok (.iaload, 1) := by decide +kernel
theorem d_T_letLineGo_36 : decode b_T_letLineGo 36 = .ok (.iload_n 1, 1) := by decide +kernel
theorem d_T_letLineGo_37 : decode b_T_letLineGo 37 = .ok (.invokevirtual 167, 3) := by decide +kernel
theorem d_T_letLineGo_40 : decode b_T_letLineGo 40 = .ok (.aload_n 0, 1) := by decide +kernel
theorem d_T_letLineGo_41 : decode b_T_letLineGo 41 = .ok (.getfield 13, 3) := by decide +kernel
theorem d_T_letLineGo_44 : decode b_T_letLineGo 44 = .ok (.iload_n 1, 1) := by decide +kernel
theorem d_T_letLineGo_45 : decode b_T_letLineGo 45 = .ok (.iconst (-1), 1) := by decide +kernel
theorem d_T_letLineGo_46 : decode b_T_letLineGo 46 = .ok (.iastore, 1) := by decide +kernel
theorem d_T_letLineGo_47 : decode b_T_letLineGo 47 = .ok (.aload_n 0, 1) := by decide +kernel
theorem d_T_letLineGo_48 : decode b_T_letLineGo 48 = .ok (.getfield 22, 3) := by decide +kernel
theorem d_T_letLineGo_51 : decode b_T_letLineGo 51 = .ok (.iload_n 1, 1) := by decide +kernel
theorem d_T_letLineGo_52 : decode b_T_letLineGo 52 = .ok (.iconst 0, 1) := by decide +kernel
theorem d_T_letLineGo_53 : decode b_T_letLineGo 53 = .ok (.bastore, 1) := by decide +kernel
theorem d_T_letLineGo_54 : decode b_T_letLineGo 54 = .ok (.iload_n 2, 1) := by decide +kernel
theorem d_T_letLineGo_55 : decode b_T_letLineGo 55 = .ok (.ireturn, 1) := by decide +kernel
theorem d_T_writeLineBack_0 : decode b_T_writeLineBack 0 = .ok (.aload_n 0, 1) := by decide +kernel
theorem d_T_writeLineBack_1 : decode b_T_writeLineBack 1 = .ok (.getfield 16, 3) := by decide +kernel
theorem d_T_writeLineBack_4 : decode b_T_writeLineBack 4 = .ok (.iload_n 2, 1) := by decide +kernel
theorem d_T_writeLineBack_5 : decode b_T_writeLineBack 5 = .ok (.iconst 4, 1) := by decide +kernel
theorem d_T_writeLineBack_6 : decode b_T_writeLineBack 6 = .ok (.imul, 1) := by decide +kernel
theorem d_T_writeLineBack_7 : decode b_T_writeLineBack 7 = .ok (.aload_n 0, 1) := by decide +kernel
theorem d_T_writeLineBack_8 : decode b_T_writeLineBack 8 = .ok (.getfield 9, 3) := by decide +kernel
theorem d_T_writeLineBack_11 : decode b_T_writeLineBack 11 = .ok (.iload_n 1, 1) := by decide +kernel
theorem d_T_writeLineBack_12 : decode b_T_writeLineBack 12 = .ok (.iconst 4, 1) := by decide +kernel
theorem d_T_writeLineBack_13 : decode b_T_writeLineBack 13 = .ok (.imul, 1) := by decide +kernel
theorem d_T_writeLineBack_14 : decode b_T_writeLineBack 14 = .ok (.iconst 4, 1) := by decide +kernel
theorem d_T_writeLineBack_15 : decode b_T_writeLineBack 15 = .ok (.invokestatic 151, 3) := by decide +kernel
theorem d_T_writeLineBack_18 : decode b_T_writeLineBack 18 = .ok (.aload_n 0, 1) := by decide +kernel
theorem d_T_writeLineBack_19 : decode b_T_writeLineBack 19 = .ok (.iload_n 1, 1) := by decide +kernel
theorem d_T_writeLineBack_20 : decode b_T_writeLineBack 20 = .ok (.invokestatic 157, 3) := by decide +kernel
theorem d_T_writeLineBack_23 : decode b_T_writeLineBack 23 = .ok (.invokevirtual 160, 3) := by decide +kernel
theorem d_T_writeLineBack_26 : decode b_T_writeLineBack 26 = .ok (.istore_n 3, 1) := by decide +kernel
theorem d_T_writeLineBack_27 : decode b_T_writeLineBack 27 = .ok (.aload_n 0, 1) := by decide +kernel
theorem d_T_writeLineBack_28 : decode b_T_writeLineBack 28 = .ok (.getfield 29, 3) := by decide +kernel
theorem d_T_writeLineBack_31 : decode b_T_writeLineBack 31 = .ok (.iload_n 3, 1) := by decide +kernel
theorem d_T_writeLineBack_32 : decode b_T_writeLineBack 32 = .ok (.iaload, 1) := by decide +kernel
theorem d_T_writeLineBack_33 : decode b_T_writeLineBack 33 = .ok (.iconst 3, 1) := by decide +kernel
theorem d_T_writeLineBack_34 : decode b_T_writeLineBack 34 = .ok (.iload_n 1, 1) := by decide +kernel
theorem d_T_writeLineBack_35 : decode b_T_writeLineBack 35 = .ok (.invokestatic 135, 3) := by decide +kernel
theorem d_T_writeLineBack_38 : decode b_T_writeLineBack 38 = .ok (.ishl, 1) := by decide +kernel
theorem d_T_writeLineBack_39 : decode b_T_writeLineBack 39 = .ok (.iconst (-1), 1) := by decide +kernel
theorem d_T_writeLineBack_40 : decode b_T_writeLineBack 40 = .ok (.ixor, 1) := by decide +kernel
theorem d_T_writeLineBack_41 : decode b_T_writeLineBack 41 = .ok (.iand, 1) := by decide +kernel
theorem d_T_writeLineBack_42 : decode b_T_writeLineBack 42 = .ok (.istore 4, 2) := by decide +kernel
theorem d_T_writeLineBack_44 : decode b_T_writeLineBack 44 = .ok (.aload_n 0, 1) := by decide +kernel
theorem d_T_writeLineBack_45 : decode b_T_writeLineBack 45 = .ok (.getfield 29, 3) := by decide +kernel
theorem d_T_writeLineBack_48 : decode b_T_writeLineBack 48 = .ok (.iload_n 3, 1) := by decide +kernel
theorem d_T_writeLineBack_49 : decode b_T_writeLineBack 49 = .ok (.iload 4, 2) := by decide +kernel
theorem d_T_writeLineBack_51 : decode b_T_writeLineBack 51 = .ok (.aload_n 0, 1) := by decide +kernel
theorem d_T_writeLineBack_52 : decode b_T_writeLineBack 52 = .ok (.getfield 19, 3) := by decide +kernel
theorem d_T_writeLineBack_55 : decode b_T_writeLineBack 55 = .ok (.iload_n 2, 1) := by decide +kernel
theorem d_T_writeLineBack_56 : decode b_T_writeLineBack 56 = .ok (.iaload, 1) := by decide +kernel
theorem d_T_writeLineBack_57 : decode b_T_writeLineBack 57 = .ok (.iload_n 1, 1) := by decide +kernel
theorem d_T_writeLineBack_58 : decode b_T_writeLineBack 58 = .ok (.invokestatic 135, 3) := by decide +kernel
theorem d_T_writeLineBack_61 : decode b_T_writeLineBack 61 = .ok (.ishl, 1) := by decide +kernel
theorem d_T_writeLineBack_62 : decode b_T_writeLineBack 62 = .ok (.ior, 1) := by decide +kernel
theorem d_T_writeLineBack_63 : decode b_T_writeLineBack 63 = .ok (.iastore, 1) := by decide +kernel
theorem d_T_writeLineBack_64 : decode b_T_writeLineBack 64 = .ok (.aload_n 0, 1) := by decide +kernel
theorem d_T_writeLineBack_65 : decode b_T_writeLineBack 65 = .ok (.getfield 32, 3) := by decide +kernel
theorem d_T_writeLineBack_68 : decode b_T_writeLineBack 68 = .ok (.iload_n 3, 1) := by decide +kernel
theorem d_T_writeLineBack_69 : decode b_T_writeLineBack 69 = .ok (.iconst 1, 1) := by decide +kernel
theorem d_T_writeLineBack_70 : decode b_T_writeLineBack 70 = .ok (.bastore, 1) := by decide +kernel
theorem d_T_writeLineBack_71 : decode b_T_writeLineBack 71 = .ok (.aload_n 0, 1) := by decide +kernel
theorem d_T_writeLineBack_72 : decode b_T_writeLineBack 72 = .ok (.dup, 1) := by decide +kernel
theorem d_T_writeLineBack_73 : decode b_T_writeLineBack 73 = .ok (.getfield 95, 3) := by decide +kernel
theorem d_T_writeLineBack_76 : decode b_T_writeLineBack 76 = .ok (.iconst 1, 1) := by decide +kernel
theorem d_T_writeLineBack_77 : decode b_T_writeLineBack 77 = .ok (.iadd, 1) := by decide +kernel
theorem d_T_writeLineBack_78 : decode b_T_writeLineBack 78 = .ok (.putfield 95, 3) := by decide +kernel
theorem d_T_writeLineBack_81 : decode b_T_writeLineBack 81 = .ok (.return_, 1) := by decide +kernel
theorem d_T_wantRow_0 : decode b_T_wantRow 0 = .ok (.iload_n 1, 1) := by decide +kernel
theorem d_T_wantRow_1 : decode b_T_wantRow 1 = .ok (.invokestatic 170, 3) := by decide +kernel
theorem d_T_wantRow_4 : decode b_T_wantRow 4 = .ok (.istore_n 2, 1) := by decide +kernel
theorem d_T_wantRow_5 : decode b_T_wantRow 5 = .ok (.aload_n 0, 1) := by decide +kernel
theorem d_T_wantRow_6 : decode b_T_wantRow 6 = .ok (.getfield 26, 3) := by decide +kernel
theorem d_T_wantRow_9 : decode b_T_wantRow 9 = .ok (.iload_n 2, 1) := by decide +kernel
theorem d_T_wantRow_10 : decode b_T_wantRow 10 = .ok (.iaload, 1) := by decide +kernel
theorem d_T_wantRow_11 : decode b_T_wantRow 11 = .ok (.iload_n 1, 1) := by decide +kernel
theorem d_T_wantRow_12 : decode b_T_wantRow 12 = .ok (.if_icmp .eq 41, 3) := by decide +kernel
theorem d_T_wantRow_15 : decode b_T_wantRow 15 = .ok (.aload_n 0, 1) := by decide +kernel
theorem d_T_wantRow_16 : decode b_T_wantRow 16 = .ok (.iload_n 2, 1) := by decide +kernel
theorem d_T_wantRow_17 : decode b_T_wantRow 17 = .ok (.invokevirtual 84, 3) := by decide +kernel
theorem d_T_wantRow_20 : decode b_T_wantRow 20 = .ok (.aload_n 0, 1) := by decide +kernel
theorem d_T_wantRow_21 : decode b_T_wantRow 21 = .ok (.getfield 29, 3) := by decide +kernel
theorem d_T_wantRow_24 : decode b_T_wantRow 24 = .ok (.iload_n 2, 1) := by decide +kernel
theorem d_T_wantRow_25 : decode b_T_wantRow 25 = .ok (.aload_n 0, 1) := by decide +kernel
theorem d_T_wantRow_26 : decode b_T_wantRow 26 = .ok (.getfield 9, 3) := by decide +kernel
theorem d_T_wantRow_29 : decode b_T_wantRow 29 = .ok (.sipush 2048, 3) := by decide +kernel
theorem d_T_wantRow_32 : decode b_T_wantRow 32 = .ok (.iload_n 1, 1) := by decide +kernel
theorem d_T_wantRow_33 : decode b_T_wantRow 33 = .ok (.iadd, 1) := by decide +kernel
theorem d_T_wantRow_34 : decode b_T_wantRow 34 = .ok (.iaload, 1) := by decide +kernel
theorem d_T_wantRow_35 : decode b_T_wantRow 35 = .ok (.iastore, 1) := by decide +kernel
theorem d_T_wantRow_36 : decode b_T_wantRow 36 = .ok (.aload_n 0, 1) := by decide +kernel
theorem d_T_wantRow_37 : decode b_T_wantRow 37 = .ok (.getfield 26, 3) := by decide +kernel
theorem d_T_wantRow_40 : decode b_T_wantRow 40 = .ok (.iload_n 2, 1) := by decide +kernel
theorem d_T_wantRow_41 : decode b_T_wantRow 41 = .ok (.iload_n 1, 1) := by decide +kernel
theorem d_T_wantRow_42 : decode b_T_wantRow 42 = .ok (.iastore, 1) := by decide +kernel
theorem d_T_wantRow_43 : decode b_T_wantRow 43 = .ok (.aload_n 0, 1) := by decide +kernel
theorem d_T_wantRow_44 : decode b_T_wantRow 44 = .ok (.dup, 1) := by decide +kernel
theorem d_T_wantRow_45 : decode b_T_wantRow 45 = .ok (.getfield 98, 3) := by decide +kernel
theorem d_T_wantRow_48 : decode b_T_wantRow 48 = .ok (.iconst 1, 1) := by decide +kernel
theorem d_T_wantRow_49 : decode b_T_wantRow 49 = .ok (.iadd, 1) := by decide +kernel
theorem d_T_wantRow_50 : decode b_T_wantRow 50 = .ok (.putfield 98, 3) := by decide +kernel
theorem d_T_wantRow_53 : decode b_T_wantRow 53 = .ok (.iload_n 2, 1) := by decide +kernel
theorem d_T_wantRow_54 : decode b_T_wantRow 54 = .ok (.ireturn, 1) := by decide +kernel
theorem d_T_letRowGo_0 : decode b_T_letRowGo 0 = .ok (.aload_n 0, 1) := by decide +kernel
theorem d_T_letRowGo_1 : decode b_T_letRowGo 1 = .ok (.getfield 26, 3) := by decide +kernel
theorem d_T_letRowGo_4 : decode b_T_letRowGo 4 = .ok (.iload_n 1, 1) := by decide +kernel
theorem d_T_letRowGo_5 : decode b_T_letRowGo 5 = .ok (.iaload, 1) := by decide +kernel
theorem d_T_letRowGo_6 : decode b_T_letRowGo 6 = .ok (.iconst (-1), 1) := by decide +kernel
theorem d_T_letRowGo_7 : decode b_T_letRowGo 7 = .ok (.if_icmp .eq 43, 3) := by decide +kernel
theorem d_T_letRowGo_10 : decode b_T_letRowGo 10 = .ok (.aload_n 0, 1) := by decide +kernel
theorem d_T_letRowGo_11 : decode b_T_letRowGo 11 = .ok (.getfield 32, 3) := by decide +kernel
theorem d_T_letRowGo_14 : decode b_T_letRowGo 14 = .ok (.iload_n 1, 1) := by decide +kernel
theorem d_T_letRowGo_15 : decode b_T_letRowGo 15 = .ok (.baload, 1) := by decide +kernel
theorem d_T_letRowGo_16 : decode b_T_letRowGo 16 = .ok (.ifCond .eq 34, 3) := by decide +kernel
theorem d_T_letRowGo_19 : decode b_T_letRowGo 19 = .ok (.aload_n 0, 1) := by decide +kernel
theorem d_T_letRowGo_20 : decode b_T_letRowGo 20 = .ok (.getfield 9, 3) := by decide +kernel
theorem d_T_letRowGo_23 : decode b_T_letRowGo 23 = .ok (.sipush 2048, 3) := by decide +kernel
theorem d_T_letRowGo_26 : decode b_T_letRowGo 26 = .ok (.aload_n 0, 1) := by decide +kernel
theorem d_T_letRowGo_27 : decode b_T_letRowGo 27 = .ok (.getfield 26, 3) := by decide +kernel
theorem d_T_letRowGo_30 : decode b_T_letRowGo 30 = .ok (.iload_n 1, 1) := by decide +kernel
theorem d_T_letRowGo_31 : decode b_T_letRowGo 31 = .ok (.iaload, 1) := by decide +kernel
theorem d_T_letRowGo_32 : decode b_T_letRowGo 32 = .ok (.iadd, 1) := by decide +kernel
theorem d_T_letRowGo_33 : decode b_T_letRowGo 33 = .ok (.aload_n 0, 1) := by decide +kernel
theorem d_T_letRowGo_34 : decode b_T_letRowGo 34 = .ok (.getfield 29, 3) := by decide +kernel
theorem d_T_letRowGo_37 : decode b_T_letRowGo 37 = .ok (.iload_n 1, 1) := by decide +kernel
theorem d_T_letRowGo_38 : decode b_T_letRowGo 38 = .ok (.iaload, 1) := by decide +kernel
theorem d_T_letRowGo_39 : decode b_T_letRowGo 39 = .ok (.iastore, 1) := by decide +kernel
theorem d_T_letRowGo_40 : decode b_T_letRowGo 40 = .ok (.aload_n 0, 1) := by decide +kernel
theorem d_T_letRowGo_41 : decode b_T_letRowGo 41 = .ok (.dup, 1) := by decide +kernel
theorem d_T_letRowGo_42 : decode b_T_letRowGo 42 = .ok (.getfield 101, 3) := by decide +kernel
theorem d_T_letRowGo_45 : decode b_T_letRowGo 45 = .ok (.iconst 1, 1) := by decide +kernel
theorem d_T_letRowGo_46 : decode b_T_letRowGo 46 = .ok (.iadd, 1) := by decide +kernel
theorem d_T_letRowGo_47 : decode b_T_letRowGo 47 = .ok (.putfield 101, 3) := by decide +kernel
theorem d_T_letRowGo_50 : decode b_T_letRowGo 50 = .ok (.aload_n 0, 1) := by decide +kernel
theorem d_T_letRowGo_51 : decode b_T_letRowGo 51 = .ok (.getfield 26, 3) := by decide +kernel
theorem d_T_letRowGo_54 : decode b_T_letRowGo 54 = .ok (.iload_n 1, 1) := by decide +kernel
theorem d_T_letRowGo_55 : decode b_T_letRowGo 55 = .ok (.iconst (-1), 1) := by decide +kernel
theorem d_T_letRowGo_56 : decode b_T_letRowGo 56 = .ok (.iastore, 1) := by decide +kernel
theorem d_T_letRowGo_57 : decode b_T_letRowGo 57 = .ok (.aload_n 0, 1) := by decide +kernel
theorem d_T_letRowGo_58 : decode b_T_letRowGo 58 = .ok (.getfield 32, 3) := by decide +kernel
theorem d_T_letRowGo_61 : decode b_T_letRowGo 61 = .ok (.iload_n 1, 1) := by decide +kernel
theorem d_T_letRowGo_62 : decode b_T_letRowGo 62 = .ok (.iconst 0, 1) := by decide +kernel
theorem d_T_letRowGo_63 : decode b_T_letRowGo 63 = .ok (.bastore, 1) := by decide +kernel
theorem d_T_letRowGo_64 : decode b_T_letRowGo 64 = .ok (.return_, 1) := by decide +kernel
theorem d_T_peekRow_0 : decode b_T_peekRow 0 = .ok (.iload_n 1, 1) := by decide +kernel
theorem d_T_peekRow_1 : decode b_T_peekRow 1 = .ok (.invokestatic 170, 3) := by decide +kernel
theorem d_T_peekRow_4 : decode b_T_peekRow 4 = .ok (.istore_n 2, 1) := by decide +kernel
theorem d_T_peekRow_5 : decode b_T_peekRow 5 = .ok (.aload_n 0, 1) := by decide +kernel
theorem d_T_peekRow_6 : decode b_T_peekRow 6 = .ok (.getfield 26, 3) := by decide +kernel
theorem d_T_peekRow_9 : decode b_T_peekRow 9 = .ok (.iload_n 2, 1) := by decide +kernel
theorem d_T_peekRow_10 : decode b_T_peekRow 10 = .ok (.iaload, 1) := by decide +kernel
theorem d_T_peekRow_11 : decode b_T_peekRow 11 = .ok (.iload_n 1, 1) := by decide +kernel
theorem d_T_peekRow_12 : decode b_T_peekRow 12 = .ok (.if_icmp .ne 12, 3) := by decide +kernel
theorem d_T_peekRow_15 : decode b_T_peekRow 15 = .ok (.aload_n 0, 1) := by decide +kernel
theorem d_T_peekRow_16 : decode b_T_peekRow 16 = .ok (.getfield 29, 3) := by decide +kernel
theorem d_T_peekRow_19 : decode b_T_peekRow 19 = .ok (.iload_n 2, 1) := by decide +kernel
theorem d_T_peekRow_20 : decode b_T_peekRow 20 = .ok (.iaload, 1) := by decide +kernel
theorem d_T_peekRow_21 : decode b_T_peekRow 21 = .ok (.goto 13, 3) := by decide +kernel
theorem d_T_peekRow_24 : decode b_T_peekRow 24 = .ok (.aload_n 0, 1) := by decide +kernel
theorem d_T_peekRow_25 : decode b_T_peekRow 25 = .ok (.getfield 9, 3) := by decide +kernel
theorem d_T_peekRow_28 : decode b_T_peekRow 28 = .ok (.sipush 2048, 3) := by decide +kernel
theorem d_T_peekRow_31 : decode b_T_peekRow 31 = .ok (.iload_n 1, 1) := by decide +kernel
theorem d_T_peekRow_32 : decode b_T_peekRow 32 = .ok (.iadd, 1) := by decide +kernel
theorem d_T_peekRow_33 : decode b_T_peekRow 33 = .ok (.iaload, 1) := by decide +kernel
theorem d_T_peekRow_34 : decode b_T_peekRow 34 = .ok (.ireturn, 1) := by decide +kernel
theorem d_T_allTags_0 : decode b_T_allTags 0 = .ok (.iconst 0, 1) := by decide +kernel
theorem d_T_allTags_1 : decode b_T_allTags 1 = .ok (.istore_n 1, 1) := by decide +kernel
end
section
theorem d_T_allTags_2 : decode b_T_allTags 2 = .ok (.iconst 0, 1) := by decide +kernel
theorem d_T_allTags_3 : decode b_T_allTags 3 = .ok (.istore_n 2, 1) := by decide +kernel
theorem d_T_allTags_4 : decode b_T_allTags 4 = .ok (.iload_n 2, 1) := by decide +kernel
theorem d_T_allTags_5 : decode b_T_allTags 5 = .ok (.bipush 32, 2) := by decide +kernel
theorem d_T_allTags_7 : decode b_T_allTags 7 = .ok (.if_icmp .ge 20, 3) := by decide +kernel
theorem d_T_allTags_10 : decode b_T_allTags 10 = .ok (.iload_n 1, 1) := by decide +kernel
theorem d_T_allTags_11 : decode b_T_allTags 11 = .ok (.aload_n 0, 1) := by decide +kernel
theorem d_T_allTags_12 : decode b_T_allTags 12 = .ok (.iload_n 2, 1) := by decide +kernel
theorem d_T_allTags_13 : decode b_T_allTags 13 = .ok (.invokevirtual 173, 3) := by decide +kernel
theorem d_T_allTags_16 : decode b_T_allTags 16 = .ok (.invokestatic 176, 3) := by decide +kernel
theorem d_T_allTags_19 : decode b_T_allTags 19 = .ok (.iadd, 1) := by decide +kernel
theorem d_T_allTags_20 : decode b_T_allTags 20 = .ok (.istore_n 1, 1) := by decide +kernel
theorem d_T_allTags_21 : decode b_T_allTags 21 = .ok (.iinc 2 1, 3) := by decide +kernel
theorem d_T_allTags_24 : decode b_T_allTags 24 = .ok (.goto (-20), 3) := by decide +kernel
theorem d_T_allTags_27 : decode b_T_allTags 27 = .ok (.iconst 0, 1) := by decide +kernel
theorem d_T_allTags_28 : decode b_T_allTags 28 = .ok (.istore_n 2, 1) := by decide +kernel
theorem d_T_allTags_29 : decode b_T_allTags 29 = .ok (.iload_n 2, 1) := by decide +kernel
theorem d_T_allTags_30 : decode b_T_allTags 30 = .ok (.bipush 16, 2) := by decide +kernel
theorem d_T_allTags_32 : decode b_T_allTags 32 = .ok (.if_icmp .ge 45, 3) := by decide +kernel
theorem d_T_allTags_35 : decode b_T_allTags 35 = .ok (.aload_n 0, 1) := by decide +kernel
theorem d_T_allTags_36 : decode b_T_allTags 36 = .ok (.getfield 13, 3) := by decide +kernel
theorem d_T_allTags_39 : decode b_T_allTags 39 = .ok (.iload_n 2, 1) := by decide +kernel
theorem d_T_allTags_40 : decode b_T_allTags 40 = .ok (.iaload, 1) := by decide +kernel
theorem d_T_allTags_41 : decode b_T_allTags 41 = .ok (.iconst (-1), 1) := by decide +kernel
theorem d_T_allTags_42 : decode b_T_allTags 42 = .ok (.if_icmp .eq 29, 3) := by decide +kernel
theorem d_T_allTags_45 : decode b_T_allTags 45 = .ok (.iload_n 1, 1) := by decide +kernel
theorem d_T_allTags_46 : decode b_T_allTags 46 = .ok (.aload_n 0, 1) := by decide +kernel
theorem d_T_allTags_47 : decode b_T_allTags 47 = .ok (.getfield 19, 3) := by decide +kernel
theorem d_T_allTags_50 : decode b_T_allTags 50 = .ok (.iload_n 2, 1) := by decide +kernel
theorem d_T_allTags_51 : decode b_T_allTags 51 = .ok (.iaload, 1) := by decide +kernel
theorem d_T_allTags_52 : decode b_T_allTags 52 = .ok (.invokestatic 176, 3) := by decide +kernel
theorem d_T_allTags_55 : decode b_T_allTags 55 = .ok (.aload_n 0, 1) := by decide +kernel
theorem d_T_allTags_56 : decode b_T_allTags 56 = .ok (.aload_n 0, 1) := by decide +kernel
theorem d_T_allTags_57 : decode b_T_allTags 57 = .ok (.getfield 13, 3) := by decide +kernel
theorem d_T_allTags_60 : decode b_T_allTags 60 = .ok (.iload_n 2, 1) := by decide +kernel
theorem d_T_allTags_61 : decode b_T_allTags 61 = .ok (.iaload, 1) := by decide +kernel
theorem d_T_allTags_62 : decode b_T_allTags 62 = .ok (.invokevirtual 181, 3) := by decide +kernel
theorem d_T_allTags_65 : decode b_T_allTags 65 = .ok (.invokestatic 176, 3) := by decide +kernel
theorem d_T_allTags_68 : decode b_T_allTags 68 = .ok (.isub, 1) := by decide +kernel
theorem d_T_allTags_69 : decode b_T_allTags 69 = .ok (.iadd, 1) := by decide +kernel
theorem d_T_allTags_70 : decode b_T_allTags 70 = .ok (.istore_n 1, 1) := by decide +kernel
theorem d_T_allTags_71 : decode b_T_allTags 71 = .ok (.iinc 2 1, 3) := by decide +kernel
theorem d_T_allTags_74 : decode b_T_allTags 74 = .ok (.goto (-45), 3) := by decide +kernel
theorem d_T_allTags_77 : decode b_T_allTags 77 = .ok (.iload_n 1, 1) := by decide +kernel
theorem d_T_allTags_78 : decode b_T_allTags 78 = .ok (.ireturn, 1) := by decide +kernel
theorem d_T_tagsBehindLine_0 : decode b_T_tagsBehindLine 0 = .ok (.iload_n 1, 1) := by decide +kernel
theorem d_T_tagsBehindLine_1 : decode b_T_tagsBehindLine 1 = .ok (.aload_n 0, 1) := by decide +kernel
theorem d_T_tagsBehindLine_2 : decode b_T_tagsBehindLine 2 = .ok (.iload_n 1, 1) := by decide +kernel
theorem d_T_tagsBehindLine_3 : decode b_T_tagsBehindLine 3 = .ok (.invokestatic 157, 3) := by decide +kernel
theorem d_T_tagsBehindLine_6 : decode b_T_tagsBehindLine 6 = .ok (.invokevirtual 173, 3) := by decide +kernel
theorem d_T_tagsBehindLine_9 : decode b_T_tagsBehindLine 9 = .ok (.invokestatic 163, 3) := by decide +kernel
theorem d_T_tagsBehindLine_12 : decode b_T_tagsBehindLine 12 = .ok (.ireturn, 1) := by decide +kernel
theorem d_T_howManyKept_0 : decode b_T_howManyKept 0 = .ok (.iconst 0, 1) := by decide +kernel
theorem d_T_howManyKept_1 : decode b_T_howManyKept 1 = .ok (.istore_n 1, 1) := by decide +kernel
theorem d_T_howManyKept_2 : decode b_T_howManyKept 2 = .ok (.aload_n 0, 1) := by decide +kernel
theorem d_T_howManyKept_3 : decode b_T_howManyKept 3 = .ok (.astore_n 2, 1) := by decide +kernel
theorem d_T_howManyKept_4 : decode b_T_howManyKept 4 = .ok (.aload_n 2, 1) := by decide +kernel
theorem d_T_howManyKept_5 : decode b_T_howManyKept 5 = .ok (.arraylength, 1) := by decide +kernel
theorem d_T_howManyKept_6 : decode b_T_howManyKept 6 = .ok (.istore_n 3, 1) := by decide +kernel
theorem d_T_howManyKept_7 : decode b_T_howManyKept 7 = .ok (.iconst 0, 1) := by decide +kernel
theorem d_T_howManyKept_8 : decode b_T_howManyKept 8 = .ok (.istore 4, 2) := by decide +kernel
theorem d_T_howManyKept_10 : decode b_T_howManyKept 10 = .ok (.iload 4, 2) := by decide +kernel
theorem d_T_howManyKept_12 : decode b_T_howManyKept 12 = .ok (.iload_n 3, 1) := by decide +kernel
theorem d_T_howManyKept_13 : decode b_T_howManyKept 13 = .ok (.if_icmp .ge 24, 3) := by decide +kernel
theorem d_T_howManyKept_16 : decode b_T_howManyKept 16 = .ok (.aload_n 2, 1) := by decide +kernel
theorem d_T_howManyKept_17 : decode b_T_howManyKept 17 = .ok (.iload 4, 2) := by decide +kernel
theorem d_T_howManyKept_19 : decode b_T_howManyKept 19 = .ok (.iaload, 1) := by decide +kernel
theorem d_T_howManyKept_20 : decode b_T_howManyKept 20 = .ok (.istore 5, 2) := by decide +kernel
theorem d_T_howManyKept_22 : decode b_T_howManyKept 22 = .ok (.iload 5, 2) := by decide +kernel
theorem d_T_howManyKept_24 : decode b_T_howManyKept 24 = .ok (.iconst (-1), 1) := by decide +kernel
theorem d_T_howManyKept_25 : decode b_T_howManyKept 25 = .ok (.if_icmp .eq 6, 3) := by decide +kernel
theorem d_T_howManyKept_28 : decode b_T_howManyKept 28 = .ok (.iinc 1 1, 3) := by decide +kernel
theorem d_T_howManyKept_31 : decode b_T_howManyKept 31 = .ok (.iinc 4 1, 3) := by decide +kernel
theorem d_T_howManyKept_34 : decode b_T_howManyKept 34 = .ok (.goto (-24), 3) := by decide +kernel
theorem d_T_howManyKept_37 : decode b_T_howManyKept 37 = .ok (.iload_n 1, 1) := by decide +kernel
theorem d_T_howManyKept_38 : decode b_T_howManyKept 38 = .ok (.ireturn, 1) := by decide +kernel
theorem d_T_howManyChanged_0 : decode b_T_howManyChanged 0 = .ok (.iconst 0, 1) := by decide +kernel
theorem d_T_howManyChanged_1 : decode b_T_howManyChanged 1 = .ok (.istore_n 1, 1) := by decide +kernel
theorem d_T_howManyChanged_2 : decode b_T_howManyChanged 2 = .ok (.aload_n 0, 1) := by decide +kernel
theorem d_T_howManyChanged_3 : decode b_T_howManyChanged 3 = .ok (.astore_n 2, 1) := by decide +kernel
theorem d_T_howManyChanged_4 : decode b_T_howManyChanged 4 = .ok (.aload_n 2, 1) := by decide +kernel
theorem d_T_howManyChanged_5 : decode b_T_howManyChanged 5 = .ok (.arraylength, 1) := by decide +kernel
theorem d_T_howManyChanged_6 : decode b_T_howManyChanged 6 = .ok (.istore_n 3, 1) := by decide +kernel
theorem d_T_howManyChanged_7 : decode b_T_howManyChanged 7 = .ok (.iconst 0, 1) := by decide +kernel
theorem d_T_howManyChanged_8 : decode b_T_howManyChanged 8 = .ok (.istore 4, 2) := by decide +kernel
theorem d_T_howManyChanged_10 : decode b_T_howManyChanged 10 = .ok (.iload 4, 2) := by decide +kernel
theorem d_T_howManyChanged_12 : decode b_T_howManyChanged 12 = .ok (.iload_n 3, 1) := by decide +kernel
theorem d_T_howManyChanged_13 : decode b_T_howManyChanged 13 = .ok (.if_icmp .ge 23, 3) := by decide +kernel
theorem d_T_howManyChanged_16 : decode b_T_howManyChanged 16 = .ok (.aload_n 2, 1) := by decide +kernel
theorem d_T_howManyChanged_17 : decode b_T_howManyChanged 17 = .ok (.iload 4, 2) := by decide +kernel
theorem d_T_howManyChanged_19 : decode b_T_howManyChanged 19 = .ok (.baload, 1) := by decide +kernel
theorem d_T_howManyChanged_20 : decode b_T_howManyChanged 20 = .ok (.istore 5, 2) := by decide +kernel
theorem d_T_howManyChanged_22 : decode b_T_howManyChanged 22 = .ok (.iload 5, 2) := by decide +kernel
theorem d_T_howManyChanged_24 : decode b_T_howManyChanged 24 = .ok (.ifCond .eq 6, 3) := by decide +kernel
theorem d_T_howManyChanged_27 : decode b_T_howManyChanged 27 = .ok (.iinc 1 1, 3) := by decide +kernel
theorem d_T_howManyChanged_30 : decode b_T_howManyChanged 30 = .ok (.iinc 4 1, 3) := by decide +kernel
theorem d_T_howManyChanged_33 : decode b_T_howManyChanged 33 = .ok (.goto (-23), 3) := by decide +kernel
theorem d_T_howManyChanged_36 : decode b_T_howManyChanged 36 = .ok (.iload_n 1, 1) := by decide +kernel
theorem d_T_howManyChanged_37 : decode b_T_howManyChanged 37 = .ok (.ireturn, 1) := by decide +kernel
theorem d_T_isLineWrong_0 : decode b_T_isLineWrong 0 = .ok (.aload_n 0, 1) := by decide +kernel
theorem d_T_isLineWrong_1 : decode b_T_isLineWrong 1 = .ok (.getfield 13, 3) := by decide +kernel
theorem d_T_isLineWrong_4 : decode b_T_isLineWrong 4 = .ok (.iload_n 1, 1) := by decide +kernel
theorem d_T_isLineWrong_5 : decode b_T_isLineWrong 5 = .ok (.iaload, 1) := by decide +kernel
theorem d_T_isLineWrong_6 : decode b_T_isLineWrong 6 = .ok (.istore_n 2, 1) := by decide +kernel
theorem d_T_isLineWrong_7 : decode b_T_isLineWrong 7 = .ok (.iload_n 2, 1) := by decide +kernel
theorem d_T_isLineWrong_8 : decode b_T_isLineWrong 8 = .ok (.invokestatic 138, 3) := by decide +kernel
theorem d_T_isLineWrong_11 : decode b_T_isLineWrong 11 = .ok (.iload_n 1, 1) := by decide +kernel
theorem d_T_isLineWrong_12 : decode b_T_isLineWrong 12 = .ok (.if_icmp .eq 5, 3) := by decide +kernel
theorem d_T_isLineWrong_15 : decode b_T_isLineWrong 15 = .ok (.iconst 1, 1) := by decide +kernel
theorem d_T_isLineWrong_16 : decode b_T_isLineWrong 16 = .ok (.ireturn, 1) := by decide +kernel
theorem d_T_isLineWrong_17 : decode b_T_isLineWrong 17 = .ok (.aload_n 0, 1) := by decide +kernel
theorem d_T_isLineWrong_18 : decode b_T_isLineWrong 18 = .ok (.getfield 22, 3) := by decide +kernel
theorem d_T_isLineWrong_21 : decode b_T_isLineWrong 21 = .ok (.iload_n 1, 1) := by decide +kernel
theorem d_T_isLineWrong_22 : decode b_T_isLineWrong 22 = .ok (.baload, 1) := by decide +kernel
theorem d_T_isLineWrong_23 : decode b_T_isLineWrong 23 = .ok (.ifCond .ne 30, 3) := by decide +kernel
theorem d_T_isLineWrong_26 : decode b_T_isLineWrong 26 = .ok (.aload_n 0, 1) := by decide +kernel
theorem d_T_isLineWrong_27 : decode b_T_isLineWrong 27 = .ok (.iload_n 2, 1) := by decide +kernel
theorem d_T_isLineWrong_28 : decode b_T_isLineWrong 28 = .ok (.iload_n 1, 1) := by decide +kernel
theorem d_T_isLineWrong_29 : decode b_T_isLineWrong 29 = .ok (.invokevirtual 184, 3) := by decide +kernel
theorem d_T_isLineWrong_32 : decode b_T_isLineWrong 32 = .ok (.ifCond .eq 17, 3) := by decide +kernel
theorem d_T_isLineWrong_35 : decode b_T_isLineWrong 35 = .ok (.aload_n 0, 1) := by decide +kernel
theorem d_T_isLineWrong_36 : decode b_T_isLineWrong 36 = .ok (.getfield 19, 3) := by decide +kernel
theorem d_T_isLineWrong_39 : decode b_T_isLineWrong 39 = .ok (.iload_n 1, 1) := by decide +kernel
theorem d_T_isLineWrong_40 : decode b_T_isLineWrong 40 = .ok (.iaload, 1) := by decide +kernel
theorem d_T_isLineWrong_41 : decode b_T_isLineWrong 41 = .ok (.aload_n 0, 1) := by decide +kernel
theorem d_T_isLineWrong_42 : decode b_T_isLineWrong 42 = .ok (.iload_n 2, 1) := by decide +kernel
theorem d_T_isLineWrong_43 : decode b_T_isLineWrong 43 = .ok (.invokevirtual 181, 3) := by decide +kernel
theorem d_T_isLineWrong_46 : decode b_T_isLineWrong 46 = .ok (.if_icmp .eq 7, 3) := by decide +kernel
theorem d_T_isLineWrong_49 : decode b_T_isLineWrong 49 = .ok (.iconst 1, 1) := by decide +kernel
theorem d_T_isLineWrong_50 : decode b_T_isLineWrong 50 = .ok (.goto 4, 3) := by decide +kernel
theorem d_T_isLineWrong_53 : decode b_T_isLineWrong 53 = .ok (.iconst 0, 1) := by decide +kernel
theorem d_T_isLineWrong_54 : decode b_T_isLineWrong 54 = .ok (.ireturn, 1) := by decide +kernel
theorem d_T_areWordsAsStored_0 : decode b_T_areWordsAsStored 0 = .ok (.iconst 0, 1) := by decide +kernel
theorem d_T_areWordsAsStored_1 : decode b_T_areWordsAsStored 1 = .ok (.istore_n 3, 1) := by decide +kernel
theorem d_T_areWordsAsStored_2 : decode b_T_areWordsAsStored 2 = .ok (.iload_n 3, 1) := by decide +kernel
theorem d_T_areWordsAsStored_3 : decode b_T_areWordsAsStored 3 = .ok (.iconst 4, 1) := by decide +kernel
theorem d_T_areWordsAsStored_4 : decode b_T_areWordsAsStored 4 = .ok (.if_icmp .ge 34, 3) := by decide +kernel
theorem d_T_areWordsAsStored_7 : decode b_T_areWordsAsStored 7 = .ok (.aload_n 0, 1) := by decide +kernel
theorem d_T_areWordsAsStored_8 : decode b_T_areWordsAsStored 8 = .ok (.getfield 16, 3) := by decide +kernel
theorem d_T_areWordsAsStored_11 : decode b_T_areWordsAsStored 11 = .ok (.iload_n 2, 1) := by decide +kernel
theorem d_T_areWordsAsStored_12 : decode b_T_areWordsAsStored 12 = .ok (.iconst 4, 1) := by decide +kernel
theorem d_T_areWordsAsStored_13 : decode b_T_areWordsAsStored 13 = .ok (.imul, 1) := by decide +kernel
theorem d_T_areWordsAsStored_14 : decode b_T_areWordsAsStored 14 = .ok (.iload_n 3, 1) := by decide +kernel
theorem d_T_areWordsAsStored_15 : decode b_T_areWordsAsStored 15 = .ok (.iadd, 1) := by decide +kernel
theorem d_T_areWordsAsStored_16 : decode b_T_areWordsAsStored 16 = .ok (.iaload, 1) := by decide +kernel
theorem d_T_areWordsAsStored_17 : decode b_T_areWordsAsStored 17 = .ok (.aload_n 0, 1) := by decide +kernel
theorem d_T_areWordsAsStored_18 : decode b_T_areWordsAsStored 18 = .ok (.getfield 9, 3) := by decide +kernel
theorem d_T_areWordsAsStored_21 : decode b_T_areWordsAsStored 21 = .ok (.iload_n 1, 1) := by decide +kernel
theorem d_T_areWordsAsStored_22 : decode b_T_areWordsAsStored 22 = .ok (.iconst 4, 1) := by decide +kernel
theorem d_T_areWordsAsStored_23 : decode b_T_areWordsAsStored 23 = .ok (.imul, 1) := by decide +kernel
theorem d_T_areWordsAsStored_24 : decode b_T_areWordsAsStored 24 = .ok (.iload_n 3, 1) := by decide +kernel
theorem d_T_areWordsAsStored_25 : decode b_T_areWordsAsStored 25 = .ok (.iadd, 1) := by decide +kernel
theorem d_T_areWordsAsStored_26 : decode b_T_areWordsAsStored 26 = .ok (.iaload, 1) := by decide +kernel
theorem d_T_areWordsAsStored_27 : decode b_T_areWordsAsStored 27 = .ok (.if_icmp .eq 5, 3) := by decide +kernel
theorem d_T_areWordsAsStored_30 : decode b_T_areWordsAsStored 30 = .ok (.iconst 0, 1) := by decide +kernel
theorem d_T_areWordsAsStored_31 : decode b_T_areWordsAsStored 31 = .ok (.ireturn, 1) := by decide +kernel
theorem d_T_areWordsAsStored_32 : decode b_T_areWordsAsStored 32 = .ok (.iinc 3 1, 3) := by decide +kernel
theorem d_T_areWordsAsStored_35 : decode b_T_areWordsAsStored 35 = .ok (.goto (-33), 3) := by decide +kernel
theorem d_T_areWordsAsStored_38 : decode b_T_areWordsAsStored 38 = .ok (.iconst 1, 1) := by decide +kernel
theorem d_T_areWordsAsStored_39 : decode b_T_areWordsAsStored 39 = .ok (.ireturn, 1) := by decide +kernel
theorem d_T_isRowWrong_0 : decode b_T_isRowWrong 0 = .ok (.aload_n 0, 1) := by decide +kernel
theorem d_T_isRowWrong_1 : decode b_T_isRowWrong 1 = .ok (.getfield 26, 3) := by decide +kernel
theorem d_T_isRowWrong_4 : decode b_T_isRowWrong 4 = .ok (.iload_n 1, 1) := by decide +kernel
theorem d_T_isRowWrong_5 : decode b_T_isRowWrong 5 = .ok (.iaload, 1) := by decide +kernel
theorem d_T_isRowWrong_6 : decode b_T_isRowWrong 6 = .ok (.istore_n 2, 1) := by decide +kernel
theorem d_T_isRowWrong_7 : decode b_T_isRowWrong 7 = .ok (.iload_n 2, 1) := by decide +kernel
theorem d_T_isRowWrong_8 : decode b_T_isRowWrong 8 = .ok (.invokestatic 170, 3) := by decide +kernel
theorem d_T_isRowWrong_11 : decode b_T_isRowWrong 11 = .ok (.iload_n 1, 1) := by decide +kernel
theorem d_T_isRowWrong_12 : decode b_T_isRowWrong 12 = .ok (.if_icmp .eq 5, 3) := by decide +kernel
theorem d_T_isRowWrong_15 : decode b_T_isRowWrong 15 = .ok (.iconst 1, 1) := by decide +kernel
theorem d_T_isRowWrong_16 : decode b_T_isRowWrong 16 = .ok (.ireturn, 1) := by decide +kernel
theorem d_T_isRowWrong_17 : decode b_T_isRowWrong 17 = .ok (.aload_n 0, 1) := by decide +kernel
theorem d_T_isRowWrong_18 : decode b_T_isRowWrong 18 = .ok (.getfield 32, 3) := by decide +kernel
theorem d_T_isRowWrong_21 : decode b_T_isRowWrong 21 = .ok (.iload_n 1, 1) := by decide +kernel
theorem d_T_isRowWrong_22 : decode b_T_isRowWrong 22 = .ok (.baload, 1) := by decide +kernel
theorem d_T_isRowWrong_23 : decode b_T_isRowWrong 23 = .ok (.ifCond .ne 26, 3) := by decide +kernel
theorem d_T_isRowWrong_26 : decode b_T_isRowWrong 26 = .ok (.aload_n 0, 1) := by decide +kernel
theorem d_T_isRowWrong_27 : decode b_T_isRowWrong 27 = .ok (.getfield 29, 3) := by decide +kernel
theorem d_T_isRowWrong_30 : decode b_T_isRowWrong 30 = .ok (.iload_n 1, 1) := by decide +kernel
theorem d_T_isRowWrong_31 : decode b_T_isRowWrong 31 = .ok (.iaload, 1) := by decide +kernel
theorem d_T_isRowWrong_32 : decode b_T_isRowWrong 32 = .ok (.aload_n 0, 1) := by decide +kernel
theorem d_T_isRowWrong_33 : decode b_T_isRowWrong 33 = .ok (.getfield 9, 3) := by decide +kernel
theorem d_T_isRowWrong_36 : decode b_T_isRowWrong 36 = .ok (.sipush 2048, 3) := by decide +kernel
theorem d_T_isRowWrong_39 : decode b_T_isRowWrong 39 = .ok (.iload_n 2, 1) := by decide +kernel
theorem d_T_isRowWrong_40 : decode b_T_isRowWrong 40 = .ok (.iadd, 1) := by decide +kernel
theorem d_T_isRowWrong_41 : decode b_T_isRowWrong 41 = .ok (.iaload, 1) := by decide +kernel
theorem d_T_isRowWrong_42 : decode b_T_isRowWrong 42 = .ok (.if_icmp .eq 7, 3) := by decide +kernel
theorem d_T_isRowWrong_45 : decode b_T_isRowWrong 45 = .ok (.iconst 1, 1) := by decide +kernel
theorem d_T_isRowWrong_46 : decode b_T_isRowWrong 46 = .ok (.goto 4, 3) := by decide +kernel
theorem d_T_isRowWrong_49 : decode b_T_isRowWrong 49 = .ok (.iconst 0, 1) := by decide +kernel
theorem d_T_isRowWrong_50 : decode b_T_isRowWrong 50 = .ok (.ireturn, 1) := by decide +kernel
theorem d_M_init_0 : decode b_M_init 0 = .ok (.aload_n 0, 1) := by decide +kernel
theorem d_M_init_1 : decode b_M_init 1 = .ok (.invokespecial 1, 3) := by decide +kernel
theorem d_M_init_4 : decode b_M_init 4 = .ok (.aload_n 0, 1) := by decide +kernel
theorem d_M_init_5 : decode b_M_init 5 = .ok (.sipush 2048, 3) := by decide +kernel
theorem d_M_init_8 : decode b_M_init 8 = .ok (.newarray .int, 2) := by decide +kernel
theorem d_M_init_10 : decode b_M_init 10 = .ok (.putfield 7, 3) := by decide +kernel
theorem d_M_init_13 : decode b_M_init 13 = .ok (.aload_n 0, 1) := by decide +kernel
theorem d_M_init_14 : decode b_M_init 14 = .ok (.sipush 1024, 3) := by decide +kernel
theorem d_M_init_17 : decode b_M_init 17 = .ok (.newarray .boolean, 2) := by decide +kernel
theorem d_M_init_19 : decode b_M_init 19 = .ok (.putfield 13, 3) := by decide +kernel
theorem d_M_init_22 : decode b_M_init 22 = .ok (.aload_n 0, 1) := by decide +kernel
theorem d_M_init_23 : decode b_M_init 23 = .ok (.sipush 2080, 3) := by decide +kernel
theorem d_M_init_26 : decode b_M_init 26 = .ok (.newarray .int, 2) := by decide +kernel
theorem d_M_init_28 : decode b_M_init 28 = .ok (.putfield 17, 3) := by decide +kernel
theorem d_M_init_31 : decode b_M_init 31 = .ok (.aload_n 0, 1) := by decide +kernel
theorem d_M_init_32 : decode b_M_init 32 = .ok (.bipush 32, 2) := by decide +kernel
theorem d_M_init_34 : decode b_M_init 34 = .ok (.newarray .int, 2) := by decide +kernel
theorem d_M_init_36 : decode b_M_init 36 = .ok (.putfield 20, 3) := by decide +kernel
theorem d_M_init_39 : decode b_M_init 39 = .ok (.aload_n 0, 1) := by decide +kernel
theorem d_M_init_40 : decode b_M_init 40 = .ok (.bipush 16, 2) := by decide +kernel
theorem d_M_init_42 : decode b_M_init 42 = .ok (.newarray .int, 2) := by decide +kernel
theorem d_M_init_44 : decode b_M_init 44 = .ok (.putfield 23, 3) := by decide +kernel
theorem d_M_init_47 : decode b_M_init 47 = .ok (.aload_n 0, 1) := by decide +kernel
theorem d_M_init_48 : decode b_M_init 48 = .ok (.bipush 16, 2) := by decide +kernel
theorem d_M_init_50 : decode b_M_init 50 = .ok (.newarray .boolean, 2) := by decide +kernel
theorem d_M_init_52 : decode b_M_init 52 = .ok (.putfield 26, 3) := by decide +kernel
theorem d_M_init_55 : decode b_M_init 55 = .ok (.aload_n 0, 1) := by decide +kernel
theorem d_M_init_56 : decode b_M_init 56 = .ok (.iconst 4, 1) := by decide +kernel
theorem d_M_init_57 : decode b_M_init 57 = .ok (.newarray .int, 2) := by decide +kernel
theorem d_M_init_59 : decode b_M_init 59 = .ok (.putfield 29, 3) := by decide +kernel
theorem d_M_init_62 : decode b_M_init 62 = .ok (.aload_n 0, 1) := by decide +kernel
theorem d_M_init_63 : decode b_M_init 63 = .ok (.iconst 4, 1) := by decide +kernel
theorem d_M_init_64 : decode b_M_init 64 = .ok (.newarray .boolean, 2) := by decide +kernel
theorem d_M_init_66 : decode b_M_init 66 = .ok (.putfield 32, 3) := by decide +kernel
theorem d_M_init_69 : decode b_M_init 69 = .ok (.aload_n 0, 1) := by decide +kernel
theorem d_M_init_70 : decode b_M_init 70 = .ok (.iconst 4, 1) := by decide +kernel
theorem d_M_init_71 : decode b_M_init 71 = .ok (.newarray .int, 2) := by decide +kernel
theorem d_M_init_73 : decode b_M_init 73 = .ok (.putfield 35, 3) := by decide +kernel
theorem d_M_init_76 : decode b_M_init 76 = .ok (.iconst 0, 1) := by decide +kernel
theorem d_M_init_77 : decode b_M_init 77 = .ok (.istore_n 1, 1) := by decide +kernel
theorem d_M_init_78 : decode b_M_init 78 = .ok (.iload_n 1, 1) := by decide +kernel
theorem d_M_init_79 : decode b_M_init 79 = .ok (.bipush 16, 2) := by decide +kernel
theorem d_M_init_81 : decode b_M_init 81 = .ok (.if_icmp .ge 16, 3) := by decide +kernel
theorem d_M_init_84 : decode b_M_init 84 = .ok (.aload_n 0, 1) := by decide +kernel
theorem d_M_init_85 : decode b_M_init 85 = .ok (.getfield 23, 3) := by decide +kernel
theorem d_M_init_88 : decode b_M_init 88 = .ok (.iload_n 1, 1) := by decide +kernel
theorem d_M_init_89 : decode b_M_init 89 = .ok (.iconst (-1), 1) := by decide +kernel
theorem d_M_init_90 : decode b_M_init 90 = .ok (.iastore, 1) := by decide +kernel
theorem d_M_init_91 : decode b_M_init 91 = .ok (.iinc 1 1, 3) := by decide +kernel
theorem d_M_init_94 : decode b_M_init 94 = .ok (.goto (-16), 3) := by decide +kernel
theorem d_M_init_97 : decode b_M_init 97 = .ok (.iconst 0, 1) := by decide +kernel
theorem d_M_init_98 : decode b_M_init 98 = .ok (.istore_n 1, 1) := by decide +kernel
theorem d_M_init_99 : decode b_M_init 99 = .ok (.iload_n 1, 1) := by decide +kernel
theorem d_M_init_100 : decode b_M_init 100 = .ok (.iconst 4, 1) := by decide +kernel
theorem d_M_init_101 : decode b_M_init 101 = .ok (.if_icmp .ge 16, 3) := by decide +kernel
theorem d_M_init_104 : decode b_M_init 104 = .ok (.aload_n 0, 1) := by decide +kernel
theorem d_M_init_105 : decode b_M_init 105 = .ok (.getfield 29, 3) := by decide +kernel
theorem d_M_init_108 : decode b_M_init 108 = .ok (.iload_n 1, 1) := by decide +kernel
theorem d_M_init_109 : decode b_M_init 109 = .ok (.iconst (-1), 1) := by decide +kernel
theorem d_M_init_110 : decode b_M_init 110 = .ok (.iastore, 1) := by decide +kernel
theorem d_M_init_111 : decode b_M_init 111 = .ok (.iinc 1 1, 3) := by decide +kernel
theorem d_M_init_114 : decode b_M_init 114 = .ok (.goto (-15), 3) := by decide +kernel
theorem d_M_init_117 : decode b_M_init 117 = .ok (.return_, 1) := by decide +kernel
theorem d_M_thrown_0 : decode b_M_thrown 0 = .ok (.aload_n 0, 1) := by decide +kernel
theorem d_M_thrown_1 : decode b_M_thrown 1 = .ok (.getfield 38, 3) := by decide +kernel
theorem d_M_thrown_4 : decode b_M_thrown 4 = .ok (.ireturn, 1) := by decide +kernel
theorem d_M_bad_0 : decode b_M_bad 0 = .ok (.aload_n 0, 1) := by decide +kernel
theorem d_M_bad_1 : decode b_M_bad 1 = .ok (.iload_n 1, 1) := by decide +kernel
theorem d_M_bad_2 : decode b_M_bad 2 = .ok (.ifCond .eq 7, 3) := by decide +kernel
theorem d_M_bad_5 : decode b_M_bad 5 = .ok (.iload_n 2, 1) := by decide +kernel
theorem d_M_bad_6 : decode b_M_bad 6 = .ok (.goto 4, 3) := by decide +kernel
theorem d_M_bad_9 : decode b_M_bad 9 = .ok (.iconst 0, 1) := by decide +kernel
theorem d_M_bad_10 : decode b_M_bad 10 = .ok (.putfield 38, 3) := by decide +kernel
theorem d_M_bad_13 : decode b_M_bad 13 = .ok (.iload_n 1, 1) := by decide +kernel
theorem d_M_bad_14 : decode b_M_bad 14 = .ok (.ireturn, 1) := by decide +kernel
theorem d_M_rowGoes_0 : decode b_M_rowGoes 0 = .ok (.aload_n 0, 1) := by decide +kernel
theorem d_M_rowGoes_1 : decode b_M_rowGoes 1 = .ok (.getfield 29, 3) := by decide +kernel
theorem d_M_rowGoes_4 : decode b_M_rowGoes 4 = .ok (.iload_n 1, 1) := by decide +kernel
theorem d_M_rowGoes_5 : decode b_M_rowGoes 5 = .ok (.iaload, 1) := by decide +kernel
theorem d_M_rowGoes_6 : decode b_M_rowGoes 6 = .ok (.ifCond .lt 48, 3) := by decide +kernel
theorem d_M_rowGoes_9 : decode b_M_rowGoes 9 = .ok (.aload_n 0, 1) := by decide +kernel
theorem d_M_rowGoes_10 : decode b_M_rowGoes 10 = .ok (.getfield 32, 3) := by decide +kernel
theorem d_M_rowGoes_13 : decode b_M_rowGoes 13 = .ok (.iload_n 1, 1) := by decide +kernel
theorem d_M_rowGoes_14 : decode b_M_rowGoes 14 = .ok (.baload, 1) := by decide +kernel
theorem d_M_rowGoes_15 : decode b_M_rowGoes 15 = .ok (.ifCond .eq 39, 3) := by decide +kernel
theorem d_M_rowGoes_18 : decode b_M_rowGoes 18 = .ok (.aload_n 0, 1) := by decide +kernel
theorem d_M_rowGoes_19 : decode b_M_rowGoes 19 = .ok (.getfield 17, 3) := by decide +kernel
theorem d_M_rowGoes_22 : decode b_M_rowGoes 22 = .ok (.sipush 2048, 3) := by decide +kernel
theorem d_M_rowGoes_25 : decode b_M_rowGoes 25 = .ok (.aload_n 0, 1) := by decide +kernel
theorem d_M_rowGoes_26 : decode b_M_rowGoes 26 = .ok (.getfield 29, 3) := by decide +kernel
theorem d_M_rowGoes_29 : decode b_M_rowGoes 29 = .ok (.iload_n 1, 1) := by decide +kernel
theorem d_M_rowGoes_30 : decode b_M_rowGoes 30 = .ok (.iaload, 1) := by decide +kernel
theorem d_M_rowGoes_31 : decode b_M_rowGoes 31 = .ok (.iadd, 1) := by decide +kernel
theorem d_M_rowGoes_32 : decode b_M_rowGoes 32 = .ok (.aload_n 0, 1) := by decide +kernel
theorem d_M_rowGoes_33 : decode b_M_rowGoes 33 = .ok (.getfield 20, 3) := by decide +kernel
theorem d_M_rowGoes_36 : decode b_M_rowGoes 36 = .ok (.aload_n 0, 1) := by decide +kernel
theorem d_M_rowGoes_37 : decode b_M_rowGoes 37 = .ok (.getfield 29, 3) := by decide +kernel
theorem d_M_rowGoes_40 : decode b_M_rowGoes 40 = .ok (.iload_n 1, 1) := by decide +kernel
theorem d_M_rowGoes_41 : decode b_M_rowGoes 41 = .ok (.iaload, 1) := by decide +kernel
theorem d_M_rowGoes_42 : decode b_M_rowGoes 42 = .ok (.iaload, 1) := by decide +kernel
theorem d_M_rowGoes_43 : decode b_M_rowGoes 43 = .ok (.iastore, 1) := by decide +kernel
theorem d_M_rowGoes_44 : decode b_M_rowGoes 44 = .ok (.aload_n 0, 1) := by decide +kernel
theorem d_M_rowGoes_45 : decode b_M_rowGoes 45 = .ok (.getfield 35, 3) := by decide +kernel
theorem d_M_rowGoes_48 : decode b_M_rowGoes 48 = .ok (.iconst 3, 1) := by decide +kernel
theorem d_M_rowGoes_49 : decode b_M_rowGoes 49 = .ok (.dup2, 1) := by decide +kernel
theorem d_M_rowGoes_50 : decode b_M_rowGoes 50 = .ok (.iaload, 1) := by decide +kernel
theorem d_M_rowGoes_51 : decode b_M_rowGoes 51 = .ok (.iconst 1, 1) := by decide +kernel
theorem d_M_rowGoes_52 : decode b_M_rowGoes 52 = .ok (.iadd, 1) := by decide +kernel
theorem d_M_rowGoes_53 : decode b_M_rowGoes 53 = .ok (.iastore, 1) := by decide +kernel
theorem d_M_rowGoes_54 : decode b_M_rowGoes 54 = .ok (.aload_n 0, 1) := by decide +kernel
theorem d_M_rowGoes_55 : decode b_M_rowGoes 55 = .ok (.getfield 29, 3) := by decide +kernel
theorem d_M_rowGoes_58 : decode b_M_rowGoes 58 = .ok (.iload_n 1, 1) := by decide +kernel
theorem d_M_rowGoes_59 : decode b_M_rowGoes 59 = .ok (.iconst (-1), 1) := by decide +kernel
theorem d_M_rowGoes_60 : decode b_M_rowGoes 60 = .ok (.iastore, 1) := by decide +kernel
theorem d_M_rowGoes_61 : decode b_M_rowGoes 61 = .ok (.aload_n 0, 1) := by decide +kernel
theorem d_M_rowGoes_62 : decode b_M_rowGoes 62 = .ok (.getfield 32, 3) := by decide +kernel
theorem d_M_rowGoes_65 : decode b_M_rowGoes 65 = .ok (.iload_n 1, 1) := by decide +kernel
theorem d_M_rowGoes_66 : decode b_M_rowGoes 66 = .ok (.iconst 0, 1) := by decide +kernel
theorem d_M_rowGoes_67 : decode b_M_rowGoes 67 = .ok (.bastore, 1) := by decide +kernel
theorem d_M_rowGoes_68 : decode b_M_rowGoes 68 = .ok (.return_, 1) := by decide +kernel
theorem d_M_wantRow_0 : decode b_M_wantRow 0 = .ok (.aload_n 0, 1) := by decide +kernel
theorem d_M_wantRow_1 : decode b_M_wantRow 1 = .ok (.getfield 29, 3) := by decide +kernel
theorem d_M_wantRow_4 : decode b_M_wantRow 4 = .ok (.iload_n 1, 1) := by decide +kernel
theorem d_M_wantRow_5 : decode b_M_wantRow 5 = .ok (.iconst 4, 1) := by decide +kernel
theorem d_M_wantRow_6 : decode b_M_wantRow 6 = .ok (.irem, 1) := by decide +kernel
theorem d_M_wantRow_7 : decode b_M_wantRow 7 = .ok (.iaload, 1) := by decide +kernel
theorem d_M_wantRow_8 : decode b_M_wantRow 8 = .ok (.iload_n 1, 1) := by decide +kernel
theorem d_M_wantRow_9 : decode b_M_wantRow 9 = .ok (.if_icmp .ne 4, 3) := by decide +kernel
theorem d_M_wantRow_12 : decode b_M_wantRow 12 = .ok (.return_, 1) := by decide +kernel
theorem d_M_wantRow_13 : decode b_M_wantRow 13 = .ok (.aload_n 0, 1) := by decide +kernel
theorem d_M_wantRow_14 : decode b_M_wantRow 14 = .ok (.iload_n 1, 1) := by decide +kernel
theorem d_M_wantRow_15 : decode b_M_wantRow 15 = .ok (.iconst 4, 1) := by decide +kernel
theorem d_M_wantRow_16 : decode b_M_wantRow 16 = .ok (.irem, 1) := by decide +kernel
theorem d_M_wantRow_17 : decode b_M_wantRow 17 = .ok (.invokevirtual 42, 3) := by decide +kernel
theorem d_M_wantRow_20 : decode b_M_wantRow 20 = .ok (.aload_n 0, 1) := by decide +kernel
theorem d_M_wantRow_21 : decode b_M_wantRow 21 = .ok (.getfield 29, 3) := by decide +kernel
theorem d_M_wantRow_24 : decode b_M_wantRow 24 = .ok (.iload_n 1, 1) := by decide +kernel
theorem d_M_wantRow_25 : decode b_M_wantRow 25 = .ok (.iconst 4, 1) := by decide +kernel
theorem d_M_wantRow_26 : decode b_M_wantRow 26 = .ok (.irem, 1) := by decide +kernel
theorem d_M_wantRow_27 : decode b_M_wantRow 27 = .ok (.iload_n 1, 1) := by decide +kernel
theorem d_M_wantRow_28 : decode b_M_wantRow 28 = .ok (.iastore, 1) := by decide +kernel
theorem d_M_wantRow_29 : decode b_M_wantRow 29 = .ok (.aload_n 0, 1) := by decide +kernel
theorem d_M_wantRow_30 : decode b_M_wantRow 30 = .ok (.getfield 20, 3) := by decide +kernel
theorem d_M_wantRow_33 : decode b_M_wantRow 33 = .ok (.iload_n 1, 1) := by decide +kernel
theorem d_M_wantRow_34 : decode b_M_wantRow 34 = .ok (.aload_n 0, 1) := by decide +kernel
theorem d_M_wantRow_35 : decode b_M_wantRow 35 = .ok (.getfield 17, 3) := by decide +kernel
theorem d_M_wantRow_38 : decode b_M_wantRow 38 = .ok (.sipush 2048, 3) := by decide +kernel
theorem d_M_wantRow_41 : decode b_M_wantRow 41 = .ok (.iload_n 1, 1) := by decide +kernel
theorem d_M_wantRow_42 : decode b_M_wantRow 42 = .ok (.iadd, 1) := by decide +kernel
theorem d_M_wantRow_43 : decode b_M_wantRow 43 = .ok (.iaload, 1) := by decide +kernel
theorem d_M_wantRow_44 : decode b_M_wantRow 44 = .ok (.iastore, 1) := by decide +kernel
theorem d_M_wantRow_45 : decode b_M_wantRow 45 = .ok (.aload_n 0, 1) := by decide +kernel
theorem d_M_wantRow_46 : decode b_M_wantRow 46 = .ok (.getfield 35, 3) := by decide +kernel
theorem d_M_wantRow_49 : decode b_M_wantRow 49 = .ok (.iconst 2, 1) := by decide +kernel
theorem d_M_wantRow_50 : decode b_M_wantRow 50 = .ok (.dup2, 1) := by decide +kernel
theorem d_M_wantRow_51 : decode b_M_wantRow 51 = .ok (.iaload, 1) := by decide +kernel
theorem d_M_wantRow_52 : decode b_M_wantRow 52 = .ok (.iconst 1, 1) := by decide +kernel
theorem d_M_wantRow_53 : decode b_M_wantRow 53 = .ok (.iadd, 1) := by decide +kernel
theorem d_M_wantRow_54 : decode b_M_wantRow 54 = .ok (.iastore, 1) := by decide +kernel
theorem d_M_wantRow_55 : decode b_M_wantRow 55 = .ok (.return_, 1) := by decide +kernel
theorem d_M_lineGoes_0 : decode b_M_lineGoes 0 = .ok (.aload_n 0, 1) := by decide +kernel
theorem d_M_lineGoes_1 : decode b_M_lineGoes 1 = .ok (.getfield 23, 3) := by decide +kernel
theorem d_M_lineGoes_4 : decode b_M_lineGoes 4 = .ok (.iload_n 1, 1) := by decide +kernel
theorem d_M_lineGoes_5 : decode b_M_lineGoes 5 = .ok (.iaload, 1) := by decide +kernel
theorem d_M_lineGoes_6 : decode b_M_lineGoes 6 = .ok (.istore_n 2, 1) := by decide +kernel
theorem d_M_lineGoes_7 : decode b_M_lineGoes 7 = .ok (.iload_n 2, 1) := by decide +kernel
theorem d_M_lineGoes_8 : decode b_M_lineGoes 8 = .ok (.ifCond .lt 16, 3) := by decide +kernel
theorem d_M_lineGoes_11 : decode b_M_lineGoes 11 = .ok (.aload_n 0, 1) := by decide +kernel
theorem d_M_lineGoes_12 : decode b_M_lineGoes 12 = .ok (.getfield 26, 3) := by decide +kernel
theorem d_M_lineGoes_15 : decode b_M_lineGoes 15 = .ok (.iload_n 1, 1) := by decide +kernel
theorem d_M_lineGoes_16 : decode b_M_lineGoes 16 = .ok (.baload, 1) := by decide +kernel
theorem d_M_lineGoes_17 : decode b_M_lineGoes 17 = .ok (.ifCond .eq 7, 3) := by decide +kernel
theorem d_M_lineGoes_20 : decode b_M_lineGoes 20 = .ok (.iconst 1, 1) := by decide +kernel
theorem d_M_lineGoes_21 : decode b_M_lineGoes 21 = .ok (.goto 4, 3) := by decide +kernel
theorem d_M_lineGoes_24 : decode b_M_lineGoes 24 = .ok (.iconst 0, 1) := by decide +kernel
theorem d_M_lineGoes_25 : decode b_M_lineGoes 25 = .ok (.istore_n 3, 1) := by decide +kernel
theorem d_M_lineGoes_26 : decode b_M_lineGoes 26 = .ok (.iload_n 3, 1) := by decide +kernel
theorem d_M_lineGoes_27 : decode b_M_lineGoes 27 = .ok (.ifCond .eq 137, 3) := by decide +kernel
theorem d_M_lineGoes_30 : decode b_M_lineGoes 30 = .ok (.iconst 4, 1) := by decide +kernel
theorem d_M_lineGoes_31 : decode b_M_lineGoes 31 = .ok (.iload_n 2, 1) := by decide +kernel
theorem d_M_lineGoes_32 : decode b_M_lineGoes 32 = .ok (.imul, 1) := by decide +kernel
theorem d_M_lineGoes_33 : decode b_M_lineGoes 33 = .ok (.istore 4, 2) := by decide +kernel
theorem d_M_lineGoes_35 : decode b_M_lineGoes 35 = .ok (.iload 4, 2) := by decide +kernel
theorem d_M_lineGoes_37 : decode b_M_lineGoes 37 = .ok (.iconst 4, 1) := by decide +kernel
theorem d_M_lineGoes_38 : decode b_M_lineGoes 38 = .ok (.iload_n 2, 1) := by decide +kernel
theorem d_M_lineGoes_39 : decode b_M_lineGoes 39 = .ok (.imul, 1) := by decide +kernel
theorem d_M_lineGoes_40 : decode b_M_lineGoes 40 = .ok (.iconst 4, 1) := by decide +kernel
theorem d_M_lineGoes_41 : decode b_M_lineGoes 41 = .ok (.iadd, 1) := by decide +kernel
theorem d_M_lineGoes_42 : decode b_M_lineGoes 42 = .ok (.if_icmp .ge 23, 3) := by decide +kernel
theorem d_M_lineGoes_45 : decode b_M_lineGoes 45 = .ok (.aload_n 0, 1) := by decide +kernel
theorem d_M_lineGoes_46 : decode b_M_lineGoes 46 = .ok (.getfield 17, 3) := by decide +kernel
theorem d_M_lineGoes_49 : decode b_M_lineGoes 49 = .ok (.iload 4, 2) := by decide +kernel
theorem d_M_lineGoes_51 : decode b_M_lineGoes 51 = .ok (.aload_n 0, 1) := by decide +kernel
theorem d_M_lineGoes_52 : decode b_M_lineGoes 52 = .ok (.getfield 7, 3) := by decide +kernel
theorem d_M_lineGoes_55 : decode b_M_lineGoes 55 = .ok (.iload 4, 2) := by decide +kernel
theorem d_M_lineGoes_57 : decode b_M_lineGoes 57 = .ok (.iaload, 1) := by decide +kernel
theorem d_M_lineGoes_58 : decode b_M_lineGoes 58 = .ok (.iastore, 1) := by decide +kernel
theorem d_M_lineGoes_59 : decode b_M_lineGoes 59 = .ok (.iinc 4 1, 3) := by decide +kernel
theorem d_M_lineGoes_62 : decode b_M_lineGoes 62 = .ok (.goto (-27), 3) := by decide +kernel
theorem d_M_lineGoes_65 : decode b_M_lineGoes 65 = .ok (.iload_n 2, 1) := by decide +kernel
theorem d_M_lineGoes_66 : decode b_M_lineGoes 66 = .ok (.bipush 16, 2) := by decide +kernel
theorem d_M_lineGoes_68 : decode b_M_lineGoes 68 = .ok (.idiv, 1) := by decide +kernel
theorem d_M_lineGoes_69 : decode b_M_lineGoes 69 = .ok (.istore 4, 2) := by decide +kernel
theorem d_M_lineGoes_71 : decode b_M_lineGoes 71 = .ok (.aload_n 0, 1) := by decide +kernel
theorem d_M_lineGoes_72 : decode b_M_lineGoes 72 = .ok (.iload 4, 2) := by decide +kernel
theorem d_M_lineGoes_74 : decode b_M_lineGoes 74 = .ok (.invokevirtual 46, 3) := by decide +kernel
theorem d_M_lineGoes_77 : decode b_M_lineGoes 77 = .ok (.iconst 2, 1) := by decide +kernel
theorem d_M_lineGoes_78 : decode b_M_lineGoes 78 = .ok (.iload_n 2, 1) := by decide +kernel
theorem d_M_lineGoes_79 : decode b_M_lineGoes 79 = .ok (.imul, 1) := by decide +kernel
theorem d_M_lineGoes_80 : decode b_M_lineGoes 80 = .ok (.istore 5, 2) := by decide +kernel
theorem d_M_lineGoes_82 : decode b_M_lineGoes 82 = .ok (.iload 5, 2) := by decide +kernel
theorem d_M_lineGoes_84 : decode b_M_lineGoes 84 = .ok (.iconst 2, 1) := by decide +kernel
theorem d_M_lineGoes_85 : decode b_M_lineGoes 85 = .ok (.iload_n 2, 1) := by decide +kernel
theorem d_M_lineGoes_86 : decode b_M_lineGoes 86 = .ok (.imul, 1) := by decide +kernel
theorem d_M_lineGoes_87 : decode b_M_lineGoes 87 = .ok (.iconst 2, 1) := by decide +kernel
theorem d_M_lineGoes_88 : decode b_M_lineGoes 88 = .ok (.iadd, 1) := by decide +kernel
theorem d_M_lineGoes_89 : decode b_M_lineGoes 89 = .ok (.if_icmp .ge 55, 3) := by decide +kernel
theorem d_M_lineGoes_92 : decode b_M_lineGoes 92 = .ok (.aload_n 0, 1) := by decide +kernel
theorem d_M_lineGoes_93 : decode b_M_lineGoes 93 = .ok (.getfield 20, 3) := by decide +kernel
theorem d_M_lineGoes_96 : decode b_M_lineGoes 96 = .ok (.iload 4, 2) := by decide +kernel
theorem d_M_lineGoes_98 : decode b_M_lineGoes 98 = .ok (.aload_n 0, 1) := by decide +kernel
theorem d_M_lineGoes_99 : decode b_M_lineGoes 99 = .ok (.getfield 20, 3) := by decide +kernel
theorem d_M_lineGoes_102 : decode b_M_lineGoes 102 = .ok (.iload 4, 2) := by decide +kernel
theorem d_M_lineGoes_104 : decode b_M_lineGoes 104 = .ok (.iaload, 1) := by decide +kernel
theorem d_M_lineGoes_105 : decode b_M_lineGoes 105 = .ok (.iconst 1, 1) := by decide +kernel
theorem d_M_lineGoes_106 : decode b_M_lineGoes 106 = .ok (.iload 5, 2) := by decide +kernel
theorem d_M_lineGoes_108 : decode b_M_lineGoes 108 = .ok (.bipush 32, 2) := by decide +kernel
theorem d_M_lineGoes_110 : decode b_M_lineGoes 110 = .ok (.irem, 1) := by decide +kernel
theorem d_M_lineGoes_111 : decode b_M_lineGoes 111 = .ok (.ishl, 1) := by decide +kernel
theorem d_M_lineGoes_112 : decode b_M_lineGoes 112 = .ok (.iconst (-1), 1) := by decide +kernel
theorem d_M_lineGoes_113 : decode b_M_lineGoes 113 = .ok (.ixor, 1) := by decide +kernel
theorem d_M_lineGoes_114 : decode b_M_lineGoes 114 = .ok (.iand, 1) := by decide +kernel
theorem d_M_lineGoes_115 : decode b_M_lineGoes 115 = .ok (.aload_n 0, 1) := by decide +kernel
theorem d_M_lineGoes_116 : decode b_M_lineGoes 116 = .ok (.getfield 13, 3) := by decide +kernel
theorem d_M_lineGoes_119 : decode b_M_lineGoes 119 = .ok (.iload 5, 2) := by decide +kernel
theorem d_M_lineGoes_121 : decode b_M_lineGoes 121 = .ok (.baload, 1) := by decide +kernel
theorem d_M_lineGoes_122 : decode b_M_lineGoes 122 = .ok (.ifCond .eq 13, 3) := by decide +kernel
theorem d_M_lineGoes_125 : decode b_M_lineGoes 125 = .ok (.iconst 1, 1) := by decide +kernel
theorem d_M_lineGoes_126 : decode b_M_lineGoes 126 = .ok (.iload 5, 2) := by decide +kernel
theorem d_M_lineGoes_128 : decode b_M_lineGoes 128 = .ok (.bipush 32, 2) := by decide +kernel
theorem d_M_lineGoes_130 : decode b_M_lineGoes 130 = .ok (.irem, 1) := by decide +kernel
theorem d_M_lineGoes_131 : decode b_M_lineGoes 131 = .ok (.ishl, 1) := by decide +kernel
theorem d_M_lineGoes_132 : decode b_M_lineGoes 132 = .ok (.goto 4, 3) := by decide +kernel
theorem d_M_lineGoes_135 : decode b_M_lineGoes 135 = .ok (.iconst 0, 1) := by decide +kernel
theorem d_M_lineGoes_136 : decode b_M_lineGoes 136 = .ok (.ior, 1) := by decide +kernel
theorem d_M_lineGoes_137 : decode b_M_lineGoes 137 = .ok (.iastore, 1) := by decide +kernel
theorem d_M_lineGoes_138 : decode b_M_lineGoes 138 = .ok (.iinc 5 1, 3) := by decide +kernel
theorem d_M_lineGoes_141 : decode b_M_lineGoes 141 = .ok (.goto (-59), 3) := by decide +kernel
theorem d_M_lineGoes_144 : decode b_M_lineGoes 144 = .ok (.aload_n 0, 1) := by decide +kernel
theorem d_M_lineGoes_145 : decode b_M_lineGoes 145 = .ok (.getfield 32, 3) := by decide +kernel
theorem d_M_lineGoes_148 : decode b_M_lineGoes 148 = .ok (.iload 4, 2) := by decide +kernel
theorem d_M_lineGoes_150 : decode b_M_lineGoes 150 = .ok (.iconst 4, 1) := by decide +kernel
theorem d_M_lineGoes_151 : decode b_M_lineGoes 151 = .ok (.irem, 1) := by decide +kernel
theorem d_M_lineGoes_152 : decode b_M_lineGoes 152 = .ok (.iconst 1, 1) := by decide +kernel
theorem d_M_lineGoes_153 : decode b_M_lineGoes 153 = .ok (.bastore, 1) := by decide +kernel
theorem d_M_lineGoes_154 : decode b_M_lineGoes 154 = .ok (.aload_n 0, 1) := by decide +kernel
theorem d_M_lineGoes_155 : decode b_M_lineGoes 155 = .ok (.getfield 35, 3) := by decide +kernel
theorem d_M_lineGoes_158 : decode b_M_lineGoes 158 = .ok (.iconst 1, 1) := by decide +kernel
theorem d_M_lineGoes_159 : decode b_M_lineGoes 159 = .ok (.dup2, 1) := by decide +kernel
theorem d_M_lineGoes_160 : decode b_M_lineGoes 160 = .ok (.iaload, 1) := by decide +kernel
theorem d_M_lineGoes_161 : decode b_M_lineGoes 161 = .ok (.iconst 1, 1) := by decide +kernel
theorem d_M_lineGoes_162 : decode b_M_lineGoes 162 = .ok (.iadd, 1) := by decide +kernel
theorem d_M_lineGoes_163 : decode b_M_lineGoes 163 = .ok (.iastore, 1) := by decide +kernel
theorem d_M_lineGoes_164 : decode b_M_lineGoes 164 = .ok (.aload_n 0, 1) := by decide +kernel
theorem d_M_lineGoes_165 : decode b_M_lineGoes 165 = .ok (.getfield 23, 3) := by decide +kernel
theorem d_M_lineGoes_168 : decode b_M_lineGoes 168 = .ok (.iload_n 1, 1) := by decide +kernel
theorem d_M_lineGoes_169 : decode b_M_lineGoes 169 = .ok (.iconst (-1), 1) := by decide +kernel
theorem d_M_lineGoes_170 : decode b_M_lineGoes 170 = .ok (.iastore, 1) := by decide +kernel
theorem d_M_lineGoes_171 : decode b_M_lineGoes 171 = .ok (.aload_n 0, 1) := by decide +kernel
theorem d_M_lineGoes_172 : decode b_M_lineGoes 172 = .ok (.getfield 26, 3) := by decide +kernel
theorem d_M_lineGoes_175 : decode b_M_lineGoes 175 = .ok (.iload_n 1, 1) := by decide +kernel
theorem d_M_lineGoes_176 : decode b_M_lineGoes 176 = .ok (.iconst 0, 1) := by decide +kernel
theorem d_M_lineGoes_177 : decode b_M_lineGoes 177 = .ok (.bastore, 1) := by decide +kernel
theorem d_M_lineGoes_178 : decode b_M_lineGoes 178 = .ok (.iload_n 3, 1) := by decide +kernel
theorem d_M_lineGoes_179 : decode b_M_lineGoes 179 = .ok (.ireturn, 1) := by decide +kernel
theorem d_M_want_0 : decode b_M_want 0 = .ok (.iload_n 1, 1) := by decide +kernel
theorem d_M_want_1 : decode b_M_want 1 = .ok (.bipush 16, 2) := by decide +kernel
theorem d_M_want_3 : decode b_M_want 3 = .ok (.irem, 1) := by decide +kernel
theorem d_M_want_4 : decode b_M_want 4 = .ok (.istore_n 2, 1) := by decide +kernel
theorem d_M_want_5 : decode b_M_want 5 = .ok (.aload_n 0, 1) := by decide +kernel
theorem d_M_want_6 : decode b_M_want 6 = .ok (.getfield 23, 3) := by decide +kernel
theorem d_M_want_9 : decode b_M_want 9 = .ok (.iload_n 2, 1) := by decide +kernel
theorem d_M_want_10 : decode b_M_want 10 = .ok (.iaload, 1) := by decide +kernel
theorem d_M_want_11 : decode b_M_want 11 = .ok (.iload_n 1, 1) := by decide +kernel
theorem d_M_want_12 : decode b_M_want 12 = .ok (.if_icmp .ne 4, 3) := by decide +kernel
theorem d_M_want_15 : decode b_M_want 15 = .ok (.return_, 1) := by decide +kernel
theorem d_M_want_16 : decode b_M_want 16 = .ok (.aload_n 0, 1) := by decide +kernel
theorem d_M_want_17 : decode b_M_want 17 = .ok (.iload_n 2, 1) := by decide +kernel
theorem d_M_want_18 : decode b_M_want 18 = .ok (.invokevirtual 49, 3) := by decide +kernel
theorem d_M_want_21 : decode b_M_want 21 = .ok (.pop, 1) := by decide +kernel
theorem d_M_want_22 : decode b_M_want 22 = .ok (.aload_n 0, 1) := by decide +kernel
theorem d_M_want_23 : decode b_M_want 23 = .ok (.iload_n 1, 1) := by decide +kernel
theorem d_M_want_24 : decode b_M_want 24 = .ok (.bipush 16, 2) := by decide +kernel
theorem d_M_want_26 : decode b_M_want 26 = .ok (.idiv, 1) := by decide +kernel
theorem d_M_want_27 : decode b_M_want 27 = .ok (.invokevirtual 46, 3) := by decide +kernel
theorem d_M_want_30 : decode b_M_want 30 = .ok (.aload_n 0, 1) := by decide +kernel
theorem d_M_want_31 : decode b_M_want 31 = .ok (.getfield 23, 3) := by decide +kernel
theorem d_M_want_34 : decode b_M_want 34 = .ok (.iload_n 2, 1) := by decide +kernel
theorem d_M_want_35 : decode b_M_want 35 = .ok (.iload_n 1, 1) := by decide +kernel
theorem d_M_want_36 : decode b_M_want 36 = .ok (.iastore, 1) := by decide +kernel
theorem d_M_want_37 : decode b_M_want 37 = .ok (.aload_n 0, 1) := by decide +kernel
theorem d_M_want_38 : decode b_M_want 38 = .ok (.getfield 35, 3) := by decide +kernel
theorem d_M_want_41 : decode b_M_want 41 = .ok (.iconst 0, 1) := by decide +kernel
theorem d_M_want_42 : decode b_M_want 42 = .ok (.dup2, 1) := by decide +kernel
theorem d_M_want_43 : decode b_M_want 43 = .ok (.iaload, 1) := by decide +kernel
theorem d_M_want_44 : decode b_M_want 44 = .ok (.iconst 1, 1) := by decide +kernel
theorem d_M_want_45 : decode b_M_want 45 = .ok (.iadd, 1) := by decide +kernel
theorem d_M_want_46 : decode b_M_want 46 = .ok (.iastore, 1) := by decide +kernel
theorem d_M_want_47 : decode b_M_want 47 = .ok (.return_, 1) := by decide +kernel
theorem d_M_changes_0 : decode b_M_changes 0 = .ok (.aload_n 0, 1) := by decide +kernel
theorem d_M_changes_1 : decode b_M_changes 1 = .ok (.iload_n 1, 1) := by decide +kernel
theorem d_M_changes_2 : decode b_M_changes 2 = .ok (.iconst 4, 1) := by decide +kernel
theorem d_M_changes_3 : decode b_M_changes 3 = .ok (.idiv, 1) := by decide +kernel
theorem d_M_changes_4 : decode b_M_changes 4 = .ok (.invokevirtual 53, 3) := by decide +kernel
theorem d_M_changes_7 : decode b_M_changes 7 = .ok (.aload_n 0, 1) := by decide +kernel
theorem d_M_changes_8 : decode b_M_changes 8 = .ok (.getfield 7, 3) := by decide +kernel
theorem d_M_changes_11 : decode b_M_changes 11 = .ok (.iload_n 1, 1) := by decide +kernel
theorem d_M_changes_12 : decode b_M_changes 12 = .ok (.iload_n 2, 1) := by decide +kernel
theorem d_M_changes_13 : decode b_M_changes 13 = .ok (.iastore, 1) := by decide +kernel
theorem d_M_changes_14 : decode b_M_changes 14 = .ok (.aload_n 0, 1) := by decide +kernel
theorem d_M_changes_15 : decode b_M_changes 15 = .ok (.getfield 13, 3) := by decide +kernel
theorem d_M_changes_18 : decode b_M_changes 18 = .ok (.iload_n 1, 1) := by decide +kernel
theorem d_M_changes_19 : decode b_M_changes 19 = .ok (.iconst 2, 1) := by decide +kernel
theorem d_M_changes_20 : decode b_M_changes 20 = .ok (.idiv, 1) := by decide +kernel
theorem d_M_changes_21 : decode b_M_changes 21 = .ok (.iload_n 3, 1) := by decide +kernel
theorem d_M_changes_22 : decode b_M_changes 22 = .ok (.bastore, 1) := by decide +kernel
theorem d_M_changes_23 : decode b_M_changes 23 = .ok (.aload_n 0, 1) := by decide +kernel
theorem d_M_changes_24 : decode b_M_changes 24 = .ok (.getfield 26, 3) := by decide +kernel
theorem d_M_changes_27 : decode b_M_changes 27 = .ok (.iload_n 1, 1) := by decide +kernel
theorem d_M_changes_28 : decode b_M_changes 28 = .ok (.iconst 4, 1) := by decide +kernel
theorem d_M_changes_29 : decode b_M_changes 29 = .ok (.idiv, 1) := by decide +kernel
theorem d_M_changes_30 : decode b_M_changes 30 = .ok (.bipush 16, 2) := by decide +kernel
theorem d_M_changes_32 : decode b_M_changes 32 = .ok (.irem, 1) := by decide +kernel
theorem d_M_changes_33 : decode b_M_changes 33 = .ok (.iconst 1, 1) := by decide +kernel
theorem d_M_changes_34 : decode b_M_changes 34 = .ok (.bastore, 1) := by decide +kernel
theorem d_M_changes_35 : decode b_M_changes 35 = .ok (.return_, 1) := by decide +kernel
theorem d_M_read_0 : decode b_M_read 0 = .ok (.aload_n 0, 1) := by decide +kernel
theorem d_M_read_1 : decode b_M_read 1 = .ok (.iload_n 1, 1) := by decide +kernel
theorem d_M_read_2 : decode b_M_read 2 = .ok (.ifCond .lt 10, 3) := by decide +kernel
theorem d_M_read_5 : decode b_M_read 5 = .ok (.iload_n 1, 1) := by decide +kernel
theorem d_M_read_6 : decode b_M_read 6 = .ok (.sipush 2047, 3) := by decide +kernel
theorem d_M_read_9 : decode b_M_read 9 = .ok (.if_icmp .le 7, 3) := by decide +kernel
theorem d_M_read_12 : decode b_M_read 12 = .ok (.iconst 1, 1) := by decide +kernel
theorem d_M_read_13 : decode b_M_read 13 = .ok (.goto 4, 3) := by decide +kernel
theorem d_M_read_16 : decode b_M_read 16 = .ok (.iconst 0, 1) := by decide +kernel
theorem d_M_read_17 : decode b_M_read 17 = .ok (.iconst 1, 1) := by decide +kernel
theorem d_M_read_18 : decode b_M_read 18 = .ok (.invokevirtual 56, 3) := by decide +kernel
theorem d_M_read_21 : decode b_M_read 21 = .ok (.ifCond .eq 5, 3) := by decide +kernel
theorem d_M_read_24 : decode b_M_read 24 = .ok (.iconst 0, 1) := by decide +kernel
theorem d_M_read_25 : decode b_M_read 25 = .ok (.ireturn, 1) := by decide +kernel
theorem d_M_read_26 : decode b_M_read 26 = .ok (.aload_n 0, 1) := by decide +kernel
theorem d_M_read_27 : decode b_M_read 27 = .ok (.iload_n 1, 1) := by decide +kernel
theorem d_M_read_28 : decode b_M_read 28 = .ok (.iconst 4, 1) := by decide +kernel
theorem d_M_read_29 : decode b_M_read 29 = .ok (.idiv, 1) := by decide +kernel
theorem d_M_read_30 : decode b_M_read 30 = .ok (.invokevirtual 53, 3) := by decide +kernel
theorem d_M_read_33 : decode b_M_read 33 = .ok (.aload_n 0, 1) := by decide +kernel
theorem d_M_read_34 : decode b_M_read 34 = .ok (.getfield 7, 3) := by decide +kernel
theorem d_M_read_37 : decode b_M_read 37 = .ok (.iload_n 1, 1) := by decide +kernel
theorem d_M_read_38 : decode b_M_read 38 = .ok (.iaload, 1) := by decide +kernel
theorem d_M_read_39 : decode b_M_read 39 = .ok (.ireturn, 1) := by decide +kernel
theorem d_M_tag_0 : decode b_M_tag 0 = .ok (.aload_n 0, 1) := by decide +kernel
theorem d_M_tag_1 : decode b_M_tag 1 = .ok (.iload_n 1, 1) := by decide +kernel
theorem d_M_tag_2 : decode b_M_tag 2 = .ok (.ifCond .lt 10, 3) := by decide +kernel
theorem d_M_tag_5 : decode b_M_tag 5 = .ok (.iload_n 1, 1) := by decide +kernel
theorem d_M_tag_6 : decode b_M_tag 6 = .ok (.sipush 2047, 3) := by decide +kernel
theorem d_M_tag_9 : decode b_M_tag 9 = .ok (.if_icmp .le 7, 3) := by decide +kernel
theorem d_M_tag_12 : decode b_M_tag 12 = .ok (.iconst 1, 1) := by decide +kernel
theorem d_M_tag_13 : decode b_M_tag 13 = .ok (.goto 4, 3) := by decide +kernel
theorem d_M_tag_16 : decode b_M_tag 16 = .ok (.iconst 0, 1) := by decide +kernel
theorem d_M_tag_17 : decode b_M_tag 17 = .ok (.iconst 1, 1) := by decide +kernel
theorem d_M_tag_18 : decode b_M_tag 18 = .ok (.invokevirtual 56, 3) := by decide +kernel
theorem d_M_tag_21 : decode b_M_tag 21 = .ok (.ifCond .eq 5, 3) := by decide +kernel
theorem d_M_tag_24 : decode b_M_tag 24 = .ok (.iconst 0, 1) := by decide +kernel
theorem d_M_tag_25 : decode b_M_tag 25 = .ok (.ireturn, 1) := by decide +kernel
theorem d_M_tag_26 : decode b_M_tag 26 = .ok (.aload_n 0, 1) := by decide +kernel
theorem d_M_tag_27 : decode b_M_tag 27 = .ok (.iload_n 1, 1) := by decide +kernel
theorem d_M_tag_28 : decode b_M_tag 28 = .ok (.iconst 4, 1) := by decide +kernel
theorem d_M_tag_29 : decode b_M_tag 29 = .ok (.idiv, 1) := by decide +kernel
theorem d_M_tag_30 : decode b_M_tag 30 = .ok (.invokevirtual 53, 3) := by decide +kernel
theorem d_M_tag_33 : decode b_M_tag 33 = .ok (.aload_n 0, 1) := by decide +kernel
theorem d_M_tag_34 : decode b_M_tag 34 = .ok (.getfield 13, 3) := by decide +kernel
theorem d_M_tag_37 : decode b_M_tag 37 = .ok (.iload_n 1, 1) := by decide +kernel
theorem d_M_tag_38 : decode b_M_tag 38 = .ok (.iconst 2, 1) := by decide +kernel
theorem d_M_tag_39 : decode b_M_tag 39 = .ok (.idiv, 1) := by decide +kernel
theorem d_M_tag_40 : decode b_M_tag 40 = .ok (.baload, 1) := by decide +kernel
theorem d_M_tag_41 : decode b_M_tag 41 = .ok (.ireturn, 1) := by decide +kernel
theorem d_M_write_0 : decode b_M_write 0 = .ok (.aload_n 0, 1) := by decide +kernel
theorem d_M_write_1 : decode b_M_write 1 = .ok (.iload_n 1, 1) := by decide +kernel
theorem d_M_write_2 : decode b_M_write 2 = .ok (.ifCond .lt 10, 3) := by decide +kernel
theorem d_M_write_5 : decode b_M_write 5 = .ok (.iload_n 1, 1) := by decide +kernel
theorem d_M_write_6 : decode b_M_write 6 = .ok (.sipush 2047, 3) := by decide +kernel
theorem d_M_write_9 : decode b_M_write 9 = .ok (.if_icmp .le 7, 3) := by decide +kernel
theorem d_M_write_12 : decode b_M_write 12 = .ok (.iconst 1, 1) := by decide +kernel
theorem d_M_write_13 : decode b_M_write 13 = .ok (.goto 4, 3) := by decide +kernel
theorem d_M_write_16 : decode b_M_write 16 = .ok (.iconst 0, 1) := by decide +kernel
theorem d_M_write_17 : decode b_M_write 17 = .ok (.iconst 1, 1) := by decide +kernel
theorem d_M_write_18 : decode b_M_write 18 = .ok (.invokevirtual 56, 3) := by decide +kernel
theorem d_M_write_21 : decode b_M_write 21 = .ok (.ifCond .eq 5, 3) := by decide +kernel
theorem d_M_write_24 : decode b_M_write 24 = .ok (.iconst 0, 1) := by decide +kernel
theorem d_M_write_25 : decode b_M_write 25 = .ok (.ireturn, 1) := by decide +kernel
theorem d_M_write_26 : decode b_M_write 26 = .ok (.aload_n 0, 1) := by decide +kernel
theorem d_M_write_27 : decode b_M_write 27 = .ok (.getfield 7, 3) := by decide +kernel
theorem d_M_write_30 : decode b_M_write 30 = .ok (.iload_n 1, 1) := by decide +kernel
theorem d_M_write_31 : decode b_M_write 31 = .ok (.iaload, 1) := by decide +kernel
theorem d_M_write_32 : decode b_M_write 32 = .ok (.istore_n 3, 1) := by decide +kernel
theorem d_M_write_33 : decode b_M_write 33 = .ok (.aload_n 0, 1) := by decide +kernel
theorem d_M_write_34 : decode b_M_write 34 = .ok (.iload_n 1, 1) := by decide +kernel
theorem d_M_write_35 : decode b_M_write 35 = .ok (.iload_n 2, 1) := by decide +kernel
theorem d_M_write_36 : decode b_M_write 36 = .ok (.iconst 0, 1) := by decide +kernel
theorem d_M_write_37 : decode b_M_write 37 = .ok (.invokevirtual 60, 3) := by decide +kernel
theorem d_M_write_40 : decode b_M_write 40 = .ok (.iload_n 3, 1) := by decide +kernel
theorem d_M_write_41 : decode b_M_write 41 = .ok (.ireturn, 1) := by decide +kernel
theorem d_M_part_0 : decode b_M_part 0 = .ok (.aload_n 0, 1) := by decide +kernel
theorem d_M_part_1 : decode b_M_part 1 = .ok (.iload_n 1, 1) := by decide +kernel
theorem d_M_part_2 : decode b_M_part 2 = .ok (.ifCond .lt 10, 3) := by decide +kernel
theorem d_M_part_5 : decode b_M_part 5 = .ok (.iload_n 1, 1) := by decide +kernel
theorem d_M_part_6 : decode b_M_part 6 = .ok (.sipush 2047, 3) := by decide +kernel
theorem d_M_part_9 : decode b_M_part 9 = .ok (.if_icmp .le 7, 3) := by decide +kernel
theorem d_M_part_12 : decode b_M_part 12 = .ok (.iconst 1, 1) := by decide +kernel
theorem d_M_part_13 : decode b_M_part 13 = .ok (.goto 4, 3) := by decide +kernel
theorem d_M_part_16 : decode b_M_part 16 = .ok (.iconst 0, 1) := by decide +kernel
theorem d_M_part_17 : decode b_M_part 17 = .ok (.iconst 1, 1) := by decide +kernel
theorem d_M_part_18 : decode b_M_part 18 = .ok (.invokevirtual 56, 3) := by decide +kernel
theorem d_M_part_21 : decode b_M_part 21 = .ok (.ifCond .ne 41, 3) := by decide +kernel
theorem d_M_part_24 : decode b_M_part 24 = .ok (.aload_n 0, 1) := by decide +kernel
theorem d_M_part_25 : decode b_M_part 25 = .ok (.iload_n 3, 1) := by decide +kernel
theorem d_M_part_26 : decode b_M_part 26 = .ok (.iconst 1, 1) := by decide +kernel
theorem d_M_part_27 : decode b_M_part 27 = .ok (.if_icmp .lt 23, 3) := by decide +kernel
theorem d_M_part_30 : decode b_M_part 30 = .ok (.iload_n 3, 1) := by decide +kernel
theorem d_M_part_31 : decode b_M_part 31 = .ok (.iconst 2, 1) := by decide +kernel
theorem d_M_part_32 : decode b_M_part 32 = .ok (.if_icmp .gt 18, 3) := by decide +kernel
theorem d_M_part_35 : decode b_M_part 35 = .ok (.iload_n 2, 1) := by decide +kernel
theorem d_M_part_36 : decode b_M_part 36 = .ok (.ifCond .lt 14, 3) := by decide +kernel
theorem d_M_part_39 : decode b_M_part 39 = .ok (.iload_n 2, 1) := by decide +kernel
theorem d_M_part_40 : decode b_M_part 40 = .ok (.iconst 3, 1) := by decide +kernel
theorem d_M_part_41 : decode b_M_part 41 = .ok (.if_icmp .gt 9, 3) := by decide +kernel
theorem d_M_part_44 : decode b_M_part 44 = .ok (.iload_n 2, 1) := by decide +kernel
theorem d_M_part_45 : decode b_M_part 45 = .ok (.iload_n 3, 1) := by decide +kernel
theorem d_M_part_46 : decode b_M_part 46 = .ok (.irem, 1) := by decide +kernel
theorem d_M_part_47 : decode b_M_part 47 = .ok (.ifCond .eq 7, 3) := by decide +kernel
theorem d_M_part_50 : decode b_M_part 50 = .ok (.iconst 1, 1) := by decide +kernel
theorem d_M_part_51 : decode b_M_part 51 = .ok (.goto 4, 3) := by decide +kernel
theorem d_M_part_54 : decode b_M_part 54 = .ok (.iconst 0, 1) := by decide +kernel
theorem d_M_part_55 : decode b_M_part 55 = .ok (.iconst 2, 1) := by decide +kernel
theorem d_M_part_56 : decode b_M_part 56 = .ok (.invokevirtual 56, 3) := by decide +kernel
theorem d_M_part_59 : decode b_M_part 59 = .ok (.ifCond .eq 5, 3) := by decide +kernel
theorem d_M_part_62 : decode b_M_part 62 = .ok (.iconst 0, 1) := by decide +kernel
theorem d_M_part_63 : decode b_M_part 63 = .ok (.ireturn, 1) := by decide +kernel
theorem d_M_part_64 : decode b_M_part 64 = .ok (.iload_n 3, 1) := by decide +kernel
theorem d_M_part_65 : decode b_M_part 65 = .ok (.iconst 1, 1) := by decide +kernel
theorem d_M_part_66 : decode b_M_part 66 = .ok (.if_icmp .ne 9, 3) := by decide +kernel
theorem d_M_part_69 : decode b_M_part 69 = .ok (.sipush 255, 3) := by decide +kernel
theorem d_M_part_72 : decode b_M_part 72 = .ok (.goto 5, 3) := by decide +kernel
theorem d_M_part_75 : decode b_M_part 75 = .ok (.ldc 64, 2) := by decide +kernel
theorem d_M_part_77 : decode b_M_part 77 = .ok (.bipush 8, 2) := by decide +kernel
theorem d_M_part_79 : decode b_M_part 79 = .ok (.iload_n 2, 1) := by decide +kernel
theorem d_M_part_80 : decode b_M_part 80 = .ok (.imul, 1) := by decide +kernel
theorem d_M_part_81 : decode b_M_part 81 = .ok (.ishl, 1) := by decide +kernel
theorem d_M_part_82 : decode b_M_part 82 = .ok (.istore 5, 2) := by decide +kernel
theorem d_M_part_84 : decode b_M_part 84 = .ok (.aload_n 0, 1) := by decide +kernel
theorem d_M_part_85 : decode b_M_part 85 = .ok (.iload_n 1, 1) := by decide +kernel
theorem d_M_part_86 : decode b_M_part 86 = .ok (.aload_n 0, 1) := by decide +kernel
theorem d_M_part_87 : decode b_M_part 87 = .ok (.getfield 7, 3) := by decide +kernel
theorem d_M_part_90 : decode b_M_part 90 = .ok (.iload_n 1, 1) := by decide +kernel
theorem d_M_part_91 : decode b_M_part 91 = .ok (.iaload, 1) := by decide +kernel
theorem d_M_part_92 : decode b_M_part 92 = .ok (.iload 5, 2) := by decide +kernel
theorem d_M_part_94 : decode b_M_part 94 = .ok (.iconst (-1), 1) := by decide +kernel
theorem d_M_part_95 : decode b_M_part 95 = .ok (.ixor, 1) := by decide +kernel
theorem d_M_part_96 : decode b_M_part 96 = .ok (.iand, 1) := by decide +kernel
theorem d_M_part_97 : decode b_M_part 97 = .ok (.iload 4, 2) := by decide +kernel
theorem d_M_part_99 : decode b_M_part 99 = .ok (.bipush 8, 2) := by decide +kernel
theorem d_M_part_101 : decode b_M_part 101 = .ok (.iload_n 2, 1) := by decide +kernel
theorem d_M_part_102 : decode b_M_part 102 = .ok (.imul, 1) := by decide +kernel
theorem d_M_part_103 : decode b_M_part 103 = .ok (.ishl, 1) := by decide +kernel
theorem d_M_part_104 : decode b_M_part 104 = .ok (.iload 5, 2) := by decide +kernel
theorem d_M_part_106 : decode b_M_part 106 = .ok (.iand, 1) := by decide +kernel
theorem d_M_part_107 : decode b_M_part 107 = .ok (.ior, 1) := by decide +kernel
theorem d_M_part_108 : decode b_M_part 108 = .ok (.iconst 0, 1) := by decide +kernel
theorem d_M_part_109 : decode b_M_part 109 = .ok (.invokevirtual 60, 3) := by decide +kernel
theorem d_M_part_112 : decode b_M_part 112 = .ok (.aload_n 0, 1) := by decide +kernel
theorem d_M_part_113 : decode b_M_part 113 = .ok (.getfield 7, 3) := by decide +kernel
theorem d_M_part_116 : decode b_M_part 116 = .ok (.iload_n 1, 1) := by decide +kernel
theorem d_M_part_117 : decode b_M_part 117 = .ok (.iaload, 1) := by decide +kernel
theorem d_M_part_118 : decode b_M_part 118 = .ok (.ireturn, 1) := by decide +kernel
theorem d_M_put_0 : decode b_M_put 0 = .ok (.aload_n 0, 1) := by decide +kernel
theorem d_M_put_1 : decode b_M_put 1 = .ok (.iload_n 1, 1) := by decide +kernel
theorem d_M_put_2 : decode b_M_put 2 = .ok (.ifCond .lt 10, 3) := by decide +kernel
theorem d_M_put_5 : decode b_M_put 5 = .ok (.iload_n 1, 1) := by decide +kernel
theorem d_M_put_6 : decode b_M_put 6 = .ok (.sipush 1023, 3) := by decide +kernel
theorem d_M_put_9 : decode b_M_put 9 = .ok (.if_icmp .le 7, 3) := by decide +kernel
theorem d_M_put_12 : decode b_M_put 12 = .ok (.iconst 1, 1) := by decide +kernel
theorem d_M_put_13 : decode b_M_put 13 = .ok (.goto 4, 3) := by decide +kernel
theorem d_M_put_16 : decode b_M_put 16 = .ok (.iconst 0, 1) := by decide +kernel
theorem d_M_put_17 : decode b_M_put 17 = .ok (.iconst 1, 1) := by decide +kernel
theorem d_M_put_18 : decode b_M_put 18 = .ok (.invokevirtual 56, 3) := by decide +kernel
theorem d_M_put_21 : decode b_M_put 21 = .ok (.ifCond .eq 4, 3) := by decide +kernel
theorem d_M_put_24 : decode b_M_put 24 = .ok (.return_, 1) := by decide +kernel
theorem d_M_put_25 : decode b_M_put 25 = .ok (.aload_n 0, 1) := by decide +kernel
theorem d_M_put_26 : decode b_M_put 26 = .ok (.iconst 2, 1) := by decide +kernel
theorem d_M_put_27 : decode b_M_put 27 = .ok (.iload_n 1, 1) := by decide +kernel
theorem d_M_put_28 : decode b_M_put 28 = .ok (.imul, 1) := by decide +kernel
theorem d_M_put_29 : decode b_M_put 29 = .ok (.iload_n 2, 1) := by decide +kernel
theorem d_M_put_30 : decode b_M_put 30 = .ok (.iload 4, 2) := by decide +kernel
theorem d_M_put_32 : decode b_M_put 32 = .ok (.invokevirtual 60, 3) := by decide +kernel
theorem d_M_put_35 : decode b_M_put 35 = .ok (.aload_n 0, 1) := by decide +kernel
theorem d_M_put_36 : decode b_M_put 36 = .ok (.iconst 2, 1) := by decide +kernel
theorem d_M_put_37 : decode b_M_put 37 = .ok (.iload_n 1, 1) := by decide +kernel
theorem d_M_put_38 : decode b_M_put 38 = .ok (.imul, 1) := by decide +kernel
theorem d_M_put_39 : decode b_M_put 39 = .ok (.iconst 1, 1) := by decide +kernel
theorem d_M_put_40 : decode b_M_put 40 = .ok (.iadd, 1) := by decide +kernel
theorem d_M_put_41 : decode b_M_put 41 = .ok (.iload_n 3, 1) := by decide +kernel
theorem d_M_put_42 : decode b_M_put 42 = .ok (.iload 4, 2) := by decide +kernel
theorem d_M_put_44 : decode b_M_put 44 = .ok (.invokevirtual 60, 3) := by decide +kernel
theorem d_M_put_47 : decode b_M_put 47 = .ok (.return_, 1) := by decide +kernel
theorem d_M_copy_0 : decode b_M_copy 0 = .ok (.aload_n 0, 1) := by decide +kernel
theorem d_M_copy_1 : decode b_M_copy 1 = .ok (.iload_n 2, 1) := by decide +kernel
theorem d_M_copy_2 : decode b_M_copy 2 = .ok (.ifCond .lt 21, 3) := by decide +kernel
theorem d_M_copy_5 : decode b_M_copy 5 = .ok (.iload_n 2, 1) := by decide +kernel
theorem d_M_copy_6 : decode b_M_copy 6 = .ok (.sipush 1023, 3) := by decide +kernel
theorem d_M_copy_9 : decode b_M_copy 9 = .ok (.if_icmp .gt 14, 3) := by decide +kernel
theorem d_M_copy_12 : decode b_M_copy 12 = .ok (.iload_n 1, 1) := by decide +kernel
theorem d_M_copy_13 : decode b_M_copy 13 = .ok (.ifCond .lt 10, 3) := by decide +kernel
theorem d_M_copy_16 : decode b_M_copy 16 = .ok (.iload_n 1, 1) := by decide +kernel
theorem d_M_copy_17 : decode b_M_copy 17 = .ok (.sipush 1023, 3) := by decide +kernel
theorem d_M_copy_20 : decode b_M_copy 20 = .ok (.if_icmp .le 7, 3) := by decide +kernel
theorem d_M_copy_23 : decode b_M_copy 23 = .ok (.iconst 1, 1) := by decide +kernel
theorem d_M_copy_24 : decode b_M_copy 24 = .ok (.goto 4, 3) := by decide +kernel
theorem d_M_copy_27 : decode b_M_copy 27 = .ok (.iconst 0, 1) := by decide +kernel
theorem d_M_copy_28 : decode b_M_copy 28 = .ok (.iconst 1, 1) := by decide +kernel
theorem d_M_copy_29 : decode b_M_copy 29 = .ok (.invokevirtual 56, 3) := by decide +kernel
theorem d_M_copy_32 : decode b_M_copy 32 = .ok (.ifCond .eq 5, 3) := by decide +kernel
theorem d_M_copy_35 : decode b_M_copy 35 = .ok (.iconst 0, 1) := by decide +kernel
theorem d_M_copy_36 : decode b_M_copy 36 = .ok (.ireturn, 1) := by decide +kernel
theorem d_M_copy_37 : decode b_M_copy 37 = .ok (.aload_n 0, 1) := by decide +kernel
theorem d_M_copy_38 : decode b_M_copy 38 = .ok (.iload_n 2, 1) := by decide +kernel
theorem d_M_copy_39 : decode b_M_copy 39 = .ok (.iconst 2, 1) := by decide +kernel
theorem d_M_copy_40 : decode b_M_copy 40 = .ok (.idiv, 1) := by decide +kernel
theorem d_M_copy_41 : decode b_M_copy 41 = .ok (.invokevirtual 53, 3) := by decide +kernel
theorem d_M_copy_44 : decode b_M_copy 44 = .ok (.aload_n 0, 1) := by decide +kernel
theorem d_M_copy_45 : decode b_M_copy 45 = .ok (.getfield 13, 3) := by decide +kernel
theorem d_M_copy_48 : decode b_M_copy 48 = .ok (.iload_n 2, 1) := by decide +kernel
theorem d_M_copy_49 : decode b_M_copy 49 = .ok (.baload, 1) := by decide +kernel
theorem d_M_copy_50 : decode b_M_copy 50 = .ok (.istore_n 3, 1) := by decide +kernel
theorem d_M_copy_51 : decode b_M_copy 51 = .ok (.aload_n 0, 1) := by decide +kernel
theorem d_M_copy_52 : decode b_M_copy 52 = .ok (.iconst 2, 1) := by decide +kernel
theorem d_M_copy_53 : decode b_M_copy 53 = .ok (.iload_n 1, 1) := by decide +kernel
theorem d_M_copy_54 : decode b_M_copy 54 = .ok (.imul, 1) := by decide +kernel
theorem d_M_copy_55 : decode b_M_copy 55 = .ok (.aload_n 0, 1) := by decide +kernel
theorem d_M_copy_56 : decode b_M_copy 56 = .ok (.getfield 7, 3) := by decide +kernel
theorem d_M_copy_59 : decode b_M_copy 59 = .ok (.iconst 2, 1) := by decide +kernel
theorem d_M_copy_60 : decode b_M_copy 60 = .ok (.iload_n 2, 1) := by decide +kernel
theorem d_M_copy_61 : decode b_M_copy 61 = .ok (.imul, 1) := by decide +kernel
theorem d_M_copy_62 : decode b_M_copy 62 = .ok (.iaload, 1) := by decide +kernel
theorem d_M_copy_63 : decode b_M_copy 63 = .ok (.iload_n 3, 1) := by decide +kernel
theorem d_M_copy_64 : decode b_M_copy 64 = .ok (.invokevirtual 60, 3) := by decide +kernel
theorem d_M_copy_67 : decode b_M_copy 67 = .ok (.aload_n 0, 1) := by decide +kernel
theorem d_M_copy_68 : decode b_M_copy 68 = .ok (.iconst 2, 1) := by decide +kernel
theorem d_M_copy_69 : decode b_M_copy 69 = .ok (.iload_n 1, 1) := by decide +kernel
theorem d_M_copy_70 : decode b_M_copy 70 = .ok (.imul, 1) := by decide +kernel
theorem d_M_copy_71 : decode b_M_copy 71 = .ok (.iconst 1, 1) := by decide +kernel
theorem d_M_copy_72 : decode b_M_copy 72 = .ok (.iadd, 1) := by decide +kernel
theorem d_M_copy_73 : decode b_M_copy 73 = .ok (.aload_n 0, 1) := by decide +kernel
theorem d_M_copy_74 : decode b_M_copy 74 = .ok (.getfield 7, 3) := by decide +kernel
theorem d_M_copy_77 : decode b_M_copy 77 = .ok (.iconst 2, 1) := by decide +kernel
theorem d_M_copy_78 : decode b_M_copy 78 = .ok (.iload_n 2, 1) := by decide +kernel
theorem d_M_copy_79 : decode b_M_copy 79 = .ok (.imul, 1) := by decide +kernel
theorem d_M_copy_80 : decode b_M_copy 80 = .ok (.iconst 1, 1) := by decide +kernel
theorem d_M_copy_81 : decode b_M_copy 81 = .ok (.iadd, 1) := by decide +kernel
theorem d_M_copy_82 : decode b_M_copy 82 = .ok (.iaload, 1) := by decide +kernel
theorem d_M_copy_83 : decode b_M_copy 83 = .ok (.iload_n 3, 1) := by decide +kernel
theorem d_M_copy_84 : decode b_M_copy 84 = .ok (.invokevirtual 60, 3) := by decide +kernel
theorem d_M_copy_87 : decode b_M_copy 87 = .ok (.iload_n 3, 1) := by decide +kernel
theorem d_M_copy_88 : decode b_M_copy 88 = .ok (.ireturn, 1) := by decide +kernel
theorem d_M_drop_0 : decode b_M_drop 0 = .ok (.aload_n 0, 1) := by decide +kernel
theorem d_M_drop_1 : decode b_M_drop 1 = .ok (.iload_n 1, 1) := by decide +kernel
theorem d_M_drop_2 : decode b_M_drop 2 = .ok (.ifCond .lt 9, 3) := by decide +kernel
theorem d_M_drop_5 : decode b_M_drop 5 = .ok (.iload_n 1, 1) := by decide +kernel
theorem d_M_drop_6 : decode b_M_drop 6 = .ok (.bipush 15, 2) := by decide +kernel
theorem d_M_drop_8 : decode b_M_drop 8 = .ok (.if_icmp .le 7, 3) := by decide +kernel
theorem d_M_drop_11 : decode b_M_drop 11 = .ok (.iconst 1, 1) := by decide +kernel
theorem d_M_drop_12 : decode b_M_drop 12 = .ok (.goto 4, 3) := by decide +kernel
theorem d_M_drop_15 : decode b_M_drop 15 = .ok (.iconst 0, 1) := by decide +kernel
theorem d_M_drop_16 : decode b_M_drop 16 = .ok (.iconst 1, 1) := by decide +kernel
theorem d_M_drop_17 : decode b_M_drop 17 = .ok (.invokevirtual 56, 3) := by decide +kernel
theorem d_M_drop_20 : decode b_M_drop 20 = .ok (.ifCond .eq 5, 3) := by decide +kernel
theorem d_M_drop_23 : decode b_M_drop 23 = .ok (.iconst 0, 1) := by decide +kernel
theorem d_M_drop_24 : decode b_M_drop 24 = .ok (.ireturn, 1) := by decide +kernel
theorem d_M_drop_25 : decode b_M_drop 25 = .ok (.aload_n 0, 1) := by decide +kernel
theorem d_M_drop_26 : decode b_M_drop 26 = .ok (.getfield 23, 3) := by decide +kernel
theorem d_M_drop_29 : decode b_M_drop 29 = .ok (.iload_n 1, 1) := by decide +kernel
theorem d_M_drop_30 : decode b_M_drop 30 = .ok (.iaload, 1) := by decide +kernel
theorem d_M_drop_31 : decode b_M_drop 31 = .ok (.ifCond .ge 5, 3) := by decide +kernel
theorem d_M_drop_34 : decode b_M_drop 34 = .ok (.iconst (-1), 1) := by decide +kernel
theorem d_M_drop_35 : decode b_M_drop 35 = .ok (.ireturn, 1) := by decide +kernel
theorem d_M_drop_36 : decode b_M_drop 36 = .ok (.aload_n 0, 1) := by decide +kernel
theorem d_M_drop_37 : decode b_M_drop 37 = .ok (.iload_n 1, 1) := by decide +kernel
theorem d_M_drop_38 : decode b_M_drop 38 = .ok (.invokevirtual 49, 3) := by decide +kernel
theorem d_M_drop_41 : decode b_M_drop 41 = .ok (.ifCond .eq 7, 3) := by decide +kernel
theorem d_M_drop_44 : decode b_M_drop 44 = .ok (.iconst 1, 1) := by decide +kernel
theorem d_M_drop_45 : decode b_M_drop 45 = .ok (.goto 4, 3) := by decide +kernel
theorem d_M_drop_48 : decode b_M_drop 48 = .ok (.iconst 0, 1) := by decide +kernel
theorem d_M_drop_49 : decode b_M_drop 49 = .ok (.ireturn, 1) := by decide +kernel
theorem d_M_flush_0 : decode b_M_flush 0 = .ok (.aload_n 0, 1) := by decide +kernel
theorem d_M_flush_1 : decode b_M_flush 1 = .ok (.iconst 0, 1) := by decide +kernel
theorem d_M_flush_2 : decode b_M_flush 2 = .ok (.putfield 38, 3) := by decide +kernel
theorem d_M_flush_5 : decode b_M_flush 5 = .ok (.iconst 0, 1) := by decide +kernel
theorem d_M_flush_6 : decode b_M_flush 6 = .ok (.istore_n 1, 1) := by decide +kernel
theorem d_M_flush_7 : decode b_M_flush 7 = .ok (.iconst 0, 1) := by decide +kernel
theorem d_M_flush_8 : decode b_M_flush 8 = .ok (.istore_n 2, 1) := by decide +kernel
end
section
theorem d_M_flush_9 : decode b_M_flush 9 = .ok (.iload_n 2, 1) := by decide +kernel
theorem d_M_flush_10 : decode b_M_flush 10 = .ok (.bipush 16, 2) := by decide +kernel
theorem d_M_flush_12 : decode b_M_flush 12 = .ok (.if_icmp .ge 20, 3) := by decide +kernel
theorem d_M_flush_15 : decode b_M_flush 15 = .ok (.aload_n 0, 1) := by decide +kernel
theorem d_M_flush_16 : decode b_M_flush 16 = .ok (.iload_n 2, 1) := by decide +kernel
theorem d_M_flush_17 : decode b_M_flush 17 = .ok (.invokevirtual 49, 3) := by decide +kernel
theorem d_M_flush_20 : decode b_M_flush 20 = .ok (.ifCond .eq 6, 3) := by decide +kernel
theorem d_M_flush_23 : decode b_M_flush 23 = .ok (.iinc 1 1, 3) := by decide +kernel
theorem d_M_flush_26 : decode b_M_flush 26 = .ok (.iinc 2 1, 3) := by decide +kernel
theorem d_M_flush_29 : decode b_M_flush 29 = .ok (.goto (-20), 3) := by decide +kernel
theorem d_M_flush_32 : decode b_M_flush 32 = .ok (.iconst 0, 1) := by decide +kernel
theorem d_M_flush_33 : decode b_M_flush 33 = .ok (.istore_n 2, 1) := by decide +kernel
theorem d_M_flush_34 : decode b_M_flush 34 = .ok (.iload_n 2, 1) := by decide +kernel
theorem d_M_flush_35 : decode b_M_flush 35 = .ok (.iconst 4, 1) := by decide +kernel
theorem d_M_flush_36 : decode b_M_flush 36 = .ok (.if_icmp .ge 14, 3) := by decide +kernel
theorem d_M_flush_39 : decode b_M_flush 39 = .ok (.aload_n 0, 1) := by decide +kernel
theorem d_M_flush_40 : decode b_M_flush 40 = .ok (.iload_n 2, 1) := by decide +kernel
theorem d_M_flush_41 : decode b_M_flush 41 = .ok (.invokevirtual 42, 3) := by decide +kernel
theorem d_M_flush_44 : decode b_M_flush 44 = .ok (.iinc 2 1, 3) := by decide +kernel
theorem d_M_flush_47 : decode b_M_flush 47 = .ok (.goto (-13), 3) := by decide +kernel
theorem d_M_flush_50 : decode b_M_flush 50 = .ok (.iload_n 1, 1) := by decide +kernel
theorem d_M_flush_51 : decode b_M_flush 51 = .ok (.ireturn, 1) := by decide +kernel
theorem d_M_store_0 : decode b_M_store 0 = .ok (.aload_n 0, 1) := by decide +kernel
theorem d_M_store_1 : decode b_M_store 1 = .ok (.iload_n 1, 1) := by decide +kernel
theorem d_M_store_2 : decode b_M_store 2 = .ok (.ifCond .lt 10, 3) := by decide +kernel
theorem d_M_store_5 : decode b_M_store 5 = .ok (.iload_n 1, 1) := by decide +kernel
theorem d_M_store_6 : decode b_M_store 6 = .ok (.sipush 2079, 3) := by decide +kernel
theorem d_M_store_9 : decode b_M_store 9 = .ok (.if_icmp .le 7, 3) := by decide +kernel
theorem d_M_store_12 : decode b_M_store 12 = .ok (.iconst 1, 1) := by decide +kernel
theorem d_M_store_13 : decode b_M_store 13 = .ok (.goto 4, 3) := by decide +kernel
theorem d_M_store_16 : decode b_M_store 16 = .ok (.iconst 0, 1) := by decide +kernel
theorem d_M_store_17 : decode b_M_store 17 = .ok (.iconst 1, 1) := by decide +kernel
theorem d_M_store_18 : decode b_M_store 18 = .ok (.invokevirtual 56, 3) := by decide +kernel
theorem d_M_store_21 : decode b_M_store 21 = .ok (.ifCond .eq 7, 3) := by decide +kernel
theorem d_M_store_24 : decode b_M_store 24 = .ok (.iconst 0, 1) := by decide +kernel
theorem d_M_store_25 : decode b_M_store 25 = .ok (.goto 9, 3) := by decide +kernel
theorem d_M_store_28 : decode b_M_store 28 = .ok (.aload_n 0, 1) := by decide +kernel
theorem d_M_store_29 : decode b_M_store 29 = .ok (.getfield 17, 3) := by decide +kernel
theorem d_M_store_32 : decode b_M_store 32 = .ok (.iload_n 1, 1) := by decide +kernel
theorem d_M_store_33 : decode b_M_store 33 = .ok (.iaload, 1) := by decide +kernel
theorem d_M_store_34 : decode b_M_store 34 = .ok (.ireturn, 1) := by decide +kernel
theorem d_M_kept_0 : decode b_M_kept 0 = .ok (.aload_n 0, 1) := by decide +kernel
theorem d_M_kept_1 : decode b_M_kept 1 = .ok (.iload_n 1, 1) := by decide +kernel
theorem d_M_kept_2 : decode b_M_kept 2 = .ok (.ifCond .lt 9, 3) := by decide +kernel
theorem d_M_kept_5 : decode b_M_kept 5 = .ok (.iload_n 1, 1) := by decide +kernel
theorem d_M_kept_6 : decode b_M_kept 6 = .ok (.bipush 19, 2) := by decide +kernel
theorem d_M_kept_8 : decode b_M_kept 8 = .ok (.if_icmp .le 7, 3) := by decide +kernel
theorem d_M_kept_11 : decode b_M_kept 11 = .ok (.iconst 1, 1) := by decide +kernel
theorem d_M_kept_12 : decode b_M_kept 12 = .ok (.goto 4, 3) := by decide +kernel
theorem d_M_kept_15 : decode b_M_kept 15 = .ok (.iconst 0, 1) := by decide +kernel
theorem d_M_kept_16 : decode b_M_kept 16 = .ok (.iconst 1, 1) := by decide +kernel
theorem d_M_kept_17 : decode b_M_kept 17 = .ok (.invokevirtual 56, 3) := by decide +kernel
theorem d_M_kept_20 : decode b_M_kept 20 = .ok (.ifCond .eq 7, 3) := by decide +kernel
theorem d_M_kept_23 : decode b_M_kept 23 = .ok (.iconst 0, 1) := by decide +kernel
theorem d_M_kept_24 : decode b_M_kept 24 = .ok (.goto 27, 3) := by decide +kernel
theorem d_M_kept_27 : decode b_M_kept 27 = .ok (.iload_n 1, 1) := by decide +kernel
theorem d_M_kept_28 : decode b_M_kept 28 = .ok (.bipush 16, 2) := by decide +kernel
theorem d_M_kept_30 : decode b_M_kept 30 = .ok (.if_icmp .ge 12, 3) := by decide +kernel
theorem d_M_kept_33 : decode b_M_kept 33 = .ok (.aload_n 0, 1) := by decide +kernel
theorem d_M_kept_34 : decode b_M_kept 34 = .ok (.getfield 23, 3) := by decide +kernel
theorem d_M_kept_37 : decode b_M_kept 37 = .ok (.iload_n 1, 1) := by decide +kernel
theorem d_M_kept_38 : decode b_M_kept 38 = .ok (.iaload, 1) := by decide +kernel
theorem d_M_kept_39 : decode b_M_kept 39 = .ok (.goto 12, 3) := by decide +kernel
theorem d_M_kept_42 : decode b_M_kept 42 = .ok (.aload_n 0, 1) := by decide +kernel
theorem d_M_kept_43 : decode b_M_kept 43 = .ok (.getfield 29, 3) := by decide +kernel
theorem d_M_kept_46 : decode b_M_kept 46 = .ok (.iload_n 1, 1) := by decide +kernel
theorem d_M_kept_47 : decode b_M_kept 47 = .ok (.bipush 16, 2) := by decide +kernel
theorem d_M_kept_49 : decode b_M_kept 49 = .ok (.isub, 1) := by decide +kernel
theorem d_M_kept_50 : decode b_M_kept 50 = .ok (.iaload, 1) := by decide +kernel
theorem d_M_kept_51 : decode b_M_kept 51 = .ok (.ireturn, 1) := by decide +kernel
theorem d_M_count_0 : decode b_M_count 0 = .ok (.aload_n 0, 1) := by decide +kernel
theorem d_M_count_1 : decode b_M_count 1 = .ok (.iload_n 1, 1) := by decide +kernel
theorem d_M_count_2 : decode b_M_count 2 = .ok (.ifCond .lt 9, 3) := by decide +kernel
theorem d_M_count_5 : decode b_M_count 5 = .ok (.iload_n 1, 1) := by decide +kernel
theorem d_M_count_6 : decode b_M_count 6 = .ok (.bipush 8, 2) := by decide +kernel
theorem d_M_count_8 : decode b_M_count 8 = .ok (.if_icmp .le 7, 3) := by decide +kernel
theorem d_M_count_11 : decode b_M_count 11 = .ok (.iconst 1, 1) := by decide +kernel
theorem d_M_count_12 : decode b_M_count 12 = .ok (.goto 4, 3) := by decide +kernel
theorem d_M_count_15 : decode b_M_count 15 = .ok (.iconst 0, 1) := by decide +kernel
theorem d_M_count_16 : decode b_M_count 16 = .ok (.iconst 1, 1) := by decide +kernel
theorem d_M_count_17 : decode b_M_count 17 = .ok (.invokevirtual 56, 3) := by decide +kernel
theorem d_M_count_20 : decode b_M_count 20 = .ok (.ifCond .eq 5, 3) := by decide +kernel
theorem d_M_count_23 : decode b_M_count 23 = .ok (.iconst 0, 1) := by decide +kernel
theorem d_M_count_24 : decode b_M_count 24 = .ok (.ireturn, 1) := by decide +kernel
theorem d_M_count_25 : decode b_M_count 25 = .ok (.iload_n 1, 1) := by decide +kernel
theorem d_M_count_26 : decode b_M_count 26 = .ok (.iconst 4, 1) := by decide +kernel
theorem d_M_count_27 : decode b_M_count 27 = .ok (.if_icmp .ge 10, 3) := by decide +kernel
theorem d_M_count_30 : decode b_M_count 30 = .ok (.aload_n 0, 1) := by decide +kernel
theorem d_M_count_31 : decode b_M_count 31 = .ok (.getfield 35, 3) := by decide +kernel
theorem d_M_count_34 : decode b_M_count 34 = .ok (.iload_n 1, 1) := by decide +kernel
theorem d_M_count_35 : decode b_M_count 35 = .ok (.iaload, 1) := by decide +kernel
theorem d_M_count_36 : decode b_M_count 36 = .ok (.ireturn, 1) := by decide +kernel
theorem d_M_count_37 : decode b_M_count 37 = .ok (.iconst 0, 1) := by decide +kernel
theorem d_M_count_38 : decode b_M_count 38 = .ok (.istore_n 2, 1) := by decide +kernel
theorem d_M_count_39 : decode b_M_count 39 = .ok (.iload_n 1, 1) := by decide +kernel
theorem d_M_count_40 : decode b_M_count 40 = .ok (.iconst 4, 1) := by decide +kernel
theorem d_M_count_41 : decode b_M_count 41 = .ok (.if_icmp .ne 30, 3) := by decide +kernel
theorem d_M_count_44 : decode b_M_count 44 = .ok (.iconst 0, 1) := by decide +kernel
theorem d_M_count_45 : decode b_M_count 45 = .ok (.istore_n 3, 1) := by decide +kernel
theorem d_M_count_46 : decode b_M_count 46 = .ok (.iload_n 3, 1) := by decide +kernel
theorem d_M_count_47 : decode b_M_count 47 = .ok (.sipush 1024, 3) := by decide +kernel
theorem d_M_count_50 : decode b_M_count 50 = .ok (.if_icmp .ge 21, 3) := by decide +kernel
theorem d_M_count_53 : decode b_M_count 53 = .ok (.aload_n 0, 1) := by decide +kernel
theorem d_M_count_54 : decode b_M_count 54 = .ok (.getfield 13, 3) := by decide +kernel
theorem d_M_count_57 : decode b_M_count 57 = .ok (.iload_n 3, 1) := by decide +kernel
theorem d_M_count_58 : decode b_M_count 58 = .ok (.baload, 1) := by decide +kernel
theorem d_M_count_59 : decode b_M_count 59 = .ok (.ifCond .eq 6, 3) := by decide +kernel
theorem d_M_count_62 : decode b_M_count 62 = .ok (.iinc 2 1, 3) := by decide +kernel
theorem d_M_count_65 : decode b_M_count 65 = .ok (.iinc 3 1, 3) := by decide +kernel
theorem d_M_count_68 : decode b_M_count 68 = .ok (.goto (-22), 3) := by decide +kernel
theorem d_M_count_71 : decode b_M_count 71 = .ok (.iconst 0, 1) := by decide +kernel
theorem d_M_count_72 : decode b_M_count 72 = .ok (.istore_n 3, 1) := by decide +kernel
theorem d_M_count_73 : decode b_M_count 73 = .ok (.iload_n 1, 1) := by decide +kernel
theorem d_M_count_74 : decode b_M_count 74 = .ok (.iconst 5, 1) := by decide +kernel
theorem d_M_count_75 : decode b_M_count 75 = .ok (.if_icmp .ne 27, 3) := by decide +kernel
theorem d_M_count_78 : decode b_M_count 78 = .ok (.iload_n 3, 1) := by decide +kernel
theorem d_M_count_79 : decode b_M_count 79 = .ok (.bipush 16, 2) := by decide +kernel
theorem d_M_count_81 : decode b_M_count 81 = .ok (.if_icmp .ge 21, 3) := by decide +kernel
theorem d_M_count_84 : decode b_M_count 84 = .ok (.aload_n 0, 1) := by decide +kernel
theorem d_M_count_85 : decode b_M_count 85 = .ok (.getfield 23, 3) := by decide +kernel
theorem d_M_count_88 : decode b_M_count 88 = .ok (.iload_n 3, 1) := by decide +kernel
theorem d_M_count_89 : decode b_M_count 89 = .ok (.iaload, 1) := by decide +kernel
theorem d_M_count_90 : decode b_M_count 90 = .ok (.ifCond .lt 6, 3) := by decide +kernel
theorem d_M_count_93 : decode b_M_count 93 = .ok (.iinc 2 1, 3) := by decide +kernel
theorem d_M_count_96 : decode b_M_count 96 = .ok (.iinc 3 1, 3) := by decide +kernel
theorem d_M_count_99 : decode b_M_count 99 = .ok (.goto (-26), 3) := by decide +kernel
theorem d_M_count_102 : decode b_M_count 102 = .ok (.iconst 0, 1) := by decide +kernel
theorem d_M_count_103 : decode b_M_count 103 = .ok (.istore_n 3, 1) := by decide +kernel
theorem d_M_count_104 : decode b_M_count 104 = .ok (.iload_n 1, 1) := by decide +kernel
theorem d_M_count_105 : decode b_M_count 105 = .ok (.bipush 6, 2) := by decide +kernel
theorem d_M_count_107 : decode b_M_count 107 = .ok (.if_icmp .ne 27, 3) := by decide +kernel
theorem d_M_count_110 : decode b_M_count 110 = .ok (.iload_n 3, 1) := by decide +kernel
theorem d_M_count_111 : decode b_M_count 111 = .ok (.bipush 16, 2) := by decide +kernel
theorem d_M_count_113 : decode b_M_count 113 = .ok (.if_icmp .ge 21, 3) := by decide +kernel
theorem d_M_count_116 : decode b_M_count 116 = .ok (.aload_n 0, 1) := by decide +kernel
theorem d_M_count_117 : decode b_M_count 117 = .ok (.getfield 26, 3) := by decide +kernel
theorem d_M_count_120 : decode b_M_count 120 = .ok (.iload_n 3, 1) := by decide +kernel
theorem d_M_count_121 : decode b_M_count 121 = .ok (.baload, 1) := by decide +kernel
theorem d_M_count_122 : decode b_M_count 122 = .ok (.ifCond .eq 6, 3) := by decide +kernel
theorem d_M_count_125 : decode b_M_count 125 = .ok (.iinc 2 1, 3) := by decide +kernel
theorem d_M_count_128 : decode b_M_count 128 = .ok (.iinc 3 1, 3) := by decide +kernel
theorem d_M_count_131 : decode b_M_count 131 = .ok (.goto (-27), 3) := by decide +kernel
theorem d_M_count_134 : decode b_M_count 134 = .ok (.iconst 0, 1) := by decide +kernel
theorem d_M_count_135 : decode b_M_count 135 = .ok (.istore_n 3, 1) := by decide +kernel
theorem d_M_count_136 : decode b_M_count 136 = .ok (.iload_n 1, 1) := by decide +kernel
theorem d_M_count_137 : decode b_M_count 137 = .ok (.bipush 7, 2) := by decide +kernel
theorem d_M_count_139 : decode b_M_count 139 = .ok (.if_icmp .ne 26, 3) := by decide +kernel
theorem d_M_count_142 : decode b_M_count 142 = .ok (.iload_n 3, 1) := by decide +kernel
theorem d_M_count_143 : decode b_M_count 143 = .ok (.iconst 4, 1) := by decide +kernel
theorem d_M_count_144 : decode b_M_count 144 = .ok (.if_icmp .ge 21, 3) := by decide +kernel
theorem d_M_count_147 : decode b_M_count 147 = .ok (.aload_n 0, 1) := by decide +kernel
theorem d_M_count_148 : decode b_M_count 148 = .ok (.getfield 29, 3) := by decide +kernel
theorem d_M_count_151 : decode b_M_count 151 = .ok (.iload_n 3, 1) := by decide +kernel
theorem d_M_count_152 : decode b_M_count 152 = .ok (.iaload, 1) := by decide +kernel
theorem d_M_count_153 : decode b_M_count 153 = .ok (.ifCond .lt 6, 3) := by decide +kernel
theorem d_M_count_156 : decode b_M_count 156 = .ok (.iinc 2 1, 3) := by decide +kernel
theorem d_M_count_159 : decode b_M_count 159 = .ok (.iinc 3 1, 3) := by decide +kernel
theorem d_M_count_162 : decode b_M_count 162 = .ok (.goto (-26), 3) := by decide +kernel
theorem d_M_count_165 : decode b_M_count 165 = .ok (.iconst 0, 1) := by decide +kernel
theorem d_M_count_166 : decode b_M_count 166 = .ok (.istore_n 3, 1) := by decide +kernel
theorem d_M_count_167 : decode b_M_count 167 = .ok (.iload_n 1, 1) := by decide +kernel
theorem d_M_count_168 : decode b_M_count 168 = .ok (.bipush 8, 2) := by decide +kernel
theorem d_M_count_170 : decode b_M_count 170 = .ok (.if_icmp .ne 26, 3) := by decide +kernel
theorem d_M_count_173 : decode b_M_count 173 = .ok (.iload_n 3, 1) := by decide +kernel
theorem d_M_count_174 : decode b_M_count 174 = .ok (.iconst 4, 1) := by decide +kernel
theorem d_M_count_175 : decode b_M_count 175 = .ok (.if_icmp .ge 21, 3) := by decide +kernel
theorem d_M_count_178 : decode b_M_count 178 = .ok (.aload_n 0, 1) := by decide +kernel
theorem d_M_count_179 : decode b_M_count 179 = .ok (.getfield 32, 3) := by decide +kernel
theorem d_M_count_182 : decode b_M_count 182 = .ok (.iload_n 3, 1) := by decide +kernel
theorem d_M_count_183 : decode b_M_count 183 = .ok (.baload, 1) := by decide +kernel
theorem d_M_count_184 : decode b_M_count 184 = .ok (.ifCond .eq 6, 3) := by decide +kernel
theorem d_M_count_187 : decode b_M_count 187 = .ok (.iinc 2 1, 3) := by decide +kernel
theorem d_M_count_190 : decode b_M_count 190 = .ok (.iinc 3 1, 3) := by decide +kernel
theorem d_M_count_193 : decode b_M_count 193 = .ok (.goto (-26), 3) := by decide +kernel
theorem d_M_count_196 : decode b_M_count 196 = .ok (.iload_n 2, 1) := by decide +kernel
theorem d_M_count_197 : decode b_M_count 197 = .ok (.ireturn, 1) := by decide +kernel
theorem d_M_check_0 : decode b_M_check 0 = .ok (.aload_n 0, 1) := by decide +kernel
theorem d_M_check_1 : decode b_M_check 1 = .ok (.iconst 0, 1) := by decide +kernel
theorem d_M_check_2 : decode b_M_check 2 = .ok (.putfield 38, 3) := by decide +kernel
theorem d_M_check_5 : decode b_M_check 5 = .ok (.iconst 0, 1) := by decide +kernel
theorem d_M_check_6 : decode b_M_check 6 = .ok (.ireturn, 1) := by decide +kernel
theorem d_L_read_0 : decode b_L_read 0 = .ok (.aload_n 2, 1) := by decide +kernel
theorem d_L_read_1 : decode b_L_read 1 = .ok (.iconst 0, 1) := by decide +kernel
theorem d_L_read_2 : decode b_L_read 2 = .ok (.aload_n 0, 1) := by decide +kernel
theorem d_L_read_3 : decode b_L_read 3 = .ok (.iload_n 1, 1) := by decide +kernel
theorem d_L_read_4 : decode b_L_read 4 = .ok (.invokevirtual 7, 3) := by decide +kernel
theorem d_L_read_7 : decode b_L_read 7 = .ok (.i2l, 1) := by decide +kernel
theorem d_L_read_8 : decode b_L_read 8 = .ok (.lastore, 1) := by decide +kernel
theorem d_L_read_9 : decode b_L_read 9 = .ok (.goto 6, 3) := by decide +kernel
theorem d_L_read_12 : decode b_L_read 12 = .ok (.astore_n 3, 1) := by decide +kernel
theorem d_L_read_13 : decode b_L_read 13 = .ok (.iconst 1, 1) := by decide +kernel
theorem d_L_read_14 : decode b_L_read 14 = .ok (.ireturn, 1) := by decide +kernel
theorem d_L_read_15 : decode b_L_read 15 = .ok (.iconst 0, 1) := by decide +kernel
theorem d_L_read_16 : decode b_L_read 16 = .ok (.ireturn, 1) := by decide +kernel
theorem d_L_tag_0 : decode b_L_tag 0 = .ok (.aload_n 2, 1) := by decide +kernel
theorem d_L_tag_1 : decode b_L_tag 1 = .ok (.iconst 0, 1) := by decide +kernel
theorem d_L_tag_2 : decode b_L_tag 2 = .ok (.aload_n 0, 1) := by decide +kernel
theorem d_L_tag_3 : decode b_L_tag 3 = .ok (.iload_n 1, 1) := by decide +kernel
theorem d_L_tag_4 : decode b_L_tag 4 = .ok (.invokevirtual 15, 3) := by decide +kernel
theorem d_L_tag_7 : decode b_L_tag 7 = .ok (.ifCond .eq 7, 3) := by decide +kernel
theorem d_L_tag_10 : decode b_L_tag 10 = .ok (.lconst 1, 1) := by decide +kernel
theorem d_L_tag_11 : decode b_L_tag 11 = .ok (.goto 4, 3) := by decide +kernel
theorem d_L_tag_14 : decode b_L_tag 14 = .ok (.lconst 0, 1) := by decide +kernel
theorem d_L_tag_15 : decode b_L_tag 15 = .ok (.lastore, 1) := by decide +kernel
theorem d_L_tag_16 : decode b_L_tag 16 = .ok (.goto 6, 3) := by decide +kernel
theorem d_L_tag_19 : decode b_L_tag 19 = .ok (.astore_n 3, 1) := by decide +kernel
theorem d_L_tag_20 : decode b_L_tag 20 = .ok (.iconst 1, 1) := by decide +kernel
theorem d_L_tag_21 : decode b_L_tag 21 = .ok (.ireturn, 1) := by decide +kernel
theorem d_L_tag_22 : decode b_L_tag 22 = .ok (.iconst 0, 1) := by decide +kernel
theorem d_L_tag_23 : decode b_L_tag 23 = .ok (.ireturn, 1) := by decide +kernel
theorem d_L_write_0 : decode b_L_write 0 = .ok (.aload_n 3, 1) := by decide +kernel
theorem d_L_write_1 : decode b_L_write 1 = .ok (.iconst 0, 1) := by decide +kernel
theorem d_L_write_2 : decode b_L_write 2 = .ok (.aload_n 0, 1) := by decide +kernel
theorem d_L_write_3 : decode b_L_write 3 = .ok (.iload_n 1, 1) := by decide +kernel
theorem d_L_write_4 : decode b_L_write 4 = .ok (.iload_n 2, 1) := by decide +kernel
theorem d_L_write_5 : decode b_L_write 5 = .ok (.invokevirtual 19, 3) := by decide +kernel
theorem d_L_write_8 : decode b_L_write 8 = .ok (.i2l, 1) := by decide +kernel
theorem d_L_write_9 : decode b_L_write 9 = .ok (.lastore, 1) := by decide +kernel
theorem d_L_write_10 : decode b_L_write 10 = .ok (.goto 7, 3) := by decide +kernel
theorem d_L_write_13 : decode b_L_write 13 = .ok (.astore 4, 2) := by decide +kernel
theorem d_L_write_15 : decode b_L_write 15 = .ok (.iconst 1, 1) := by decide +kernel
theorem d_L_write_16 : decode b_L_write 16 = .ok (.ireturn, 1) := by decide +kernel
theorem d_L_write_17 : decode b_L_write 17 = .ok (.iconst 0, 1) := by decide +kernel
theorem d_L_write_18 : decode b_L_write 18 = .ok (.ireturn, 1) := by decide +kernel
theorem d_L_part_0 : decode b_L_part 0 = .ok (.aload 5, 2) := by decide +kernel
theorem d_L_part_2 : decode b_L_part 2 = .ok (.iconst 0, 1) := by decide +kernel
theorem d_L_part_3 : decode b_L_part 3 = .ok (.aload_n 0, 1) := by decide +kernel
theorem d_L_part_4 : decode b_L_part 4 = .ok (.iload_n 1, 1) := by decide +kernel
theorem d_L_part_5 : decode b_L_part 5 = .ok (.iload_n 2, 1) := by decide +kernel
theorem d_L_part_6 : decode b_L_part 6 = .ok (.iload_n 3, 1) := by decide +kernel
theorem d_L_part_7 : decode b_L_part 7 = .ok (.iload 4, 2) := by decide +kernel
theorem d_L_part_9 : decode b_L_part 9 = .ok (.invokevirtual 23, 3) := by decide +kernel
theorem d_L_part_12 : decode b_L_part 12 = .ok (.i2l, 1) := by decide +kernel
theorem d_L_part_13 : decode b_L_part 13 = .ok (.lastore, 1) := by decide +kernel
theorem d_L_part_14 : decode b_L_part 14 = .ok (.goto 11, 3) := by decide +kernel
theorem d_L_part_17 : decode b_L_part 17 = .ok (.astore 6, 2) := by decide +kernel
theorem d_L_part_19 : decode b_L_part 19 = .ok (.iconst 1, 1) := by decide +kernel
theorem d_L_part_20 : decode b_L_part 20 = .ok (.ireturn, 1) := by decide +kernel
theorem d_L_part_21 : decode b_L_part 21 = .ok (.astore 6, 2) := by decide +kernel
theorem d_L_part_23 : decode b_L_part 23 = .ok (.iconst 2, 1) := by decide +kernel
theorem d_L_part_24 : decode b_L_part 24 = .ok (.ireturn, 1) := by decide +kernel
theorem d_L_part_25 : decode b_L_part 25 = .ok (.iconst 0, 1) := by decide +kernel
theorem d_L_part_26 : decode b_L_part 26 = .ok (.ireturn, 1) := by decide +kernel
theorem d_L_put_0 : decode b_L_put 0 = .ok (.aload_n 0, 1) := by decide +kernel
theorem d_L_put_1 : decode b_L_put 1 = .ok (.iload_n 1, 1) := by decide +kernel
theorem d_L_put_2 : decode b_L_put 2 = .ok (.iload_n 2, 1) := by decide +kernel
theorem d_L_put_3 : decode b_L_put 3 = .ok (.iload_n 3, 1) := by decide +kernel
theorem d_L_put_4 : decode b_L_put 4 = .ok (.iload 4, 2) := by decide +kernel
theorem d_L_put_6 : decode b_L_put 6 = .ok (.invokevirtual 29, 3) := by decide +kernel
theorem d_L_put_9 : decode b_L_put 9 = .ok (.goto 7, 3) := by decide +kernel
theorem d_L_put_12 : decode b_L_put 12 = .ok (.astore 5, 2) := by decide +kernel
theorem d_L_put_14 : decode b_L_put 14 = .ok (.iconst 1, 1) := by decide +kernel
theorem d_L_put_15 : decode b_L_put 15 = .ok (.ireturn, 1) := by decide +kernel
theorem d_L_put_16 : decode b_L_put 16 = .ok (.iconst 0, 1) := by decide +kernel
theorem d_L_put_17 : decode b_L_put 17 = .ok (.ireturn, 1) := by decide +kernel
theorem d_L_copy_0 : decode b_L_copy 0 = .ok (.aload_n 3, 1) := by decide +kernel
theorem d_L_copy_1 : decode b_L_copy 1 = .ok (.iconst 0, 1) := by decide +kernel
theorem d_L_copy_2 : decode b_L_copy 2 = .ok (.aload_n 0, 1) := by decide +kernel
theorem d_L_copy_3 : decode b_L_copy 3 = .ok (.iload_n 1, 1) := by decide +kernel
theorem d_L_copy_4 : decode b_L_copy 4 = .ok (.iload_n 2, 1) := by decide +kernel
theorem d_L_copy_5 : decode b_L_copy 5 = .ok (.invokevirtual 33, 3) := by decide +kernel
theorem d_L_copy_8 : decode b_L_copy 8 = .ok (.ifCond .eq 7, 3) := by decide +kernel
theorem d_L_copy_11 : decode b_L_copy 11 = .ok (.lconst 1, 1) := by decide +kernel
theorem d_L_copy_12 : decode b_L_copy 12 = .ok (.goto 4, 3) := by decide +kernel
theorem d_L_copy_15 : decode b_L_copy 15 = .ok (.lconst 0, 1) := by decide +kernel
theorem d_L_copy_16 : decode b_L_copy 16 = .ok (.lastore, 1) := by decide +kernel
theorem d_L_copy_17 : decode b_L_copy 17 = .ok (.goto 7, 3) := by decide +kernel
theorem d_L_copy_20 : decode b_L_copy 20 = .ok (.astore 4, 2) := by decide +kernel
theorem d_L_copy_22 : decode b_L_copy 22 = .ok (.iconst 1, 1) := by decide +kernel
theorem d_L_copy_23 : decode b_L_copy 23 = .ok (.ireturn, 1) := by decide +kernel
theorem d_L_copy_24 : decode b_L_copy 24 = .ok (.iconst 0, 1) := by decide +kernel
theorem d_L_copy_25 : decode b_L_copy 25 = .ok (.ireturn, 1) := by decide +kernel
theorem d_L_drop_0 : decode b_L_drop 0 = .ok (.aload_n 2, 1) := by decide +kernel
theorem d_L_drop_1 : decode b_L_drop 1 = .ok (.iconst 0, 1) := by decide +kernel
theorem d_L_drop_2 : decode b_L_drop 2 = .ok (.aload_n 0, 1) := by decide +kernel
theorem d_L_drop_3 : decode b_L_drop 3 = .ok (.iload_n 1, 1) := by decide +kernel
theorem d_L_drop_4 : decode b_L_drop 4 = .ok (.invokevirtual 37, 3) := by decide +kernel
theorem d_L_drop_7 : decode b_L_drop 7 = .ok (.i2l, 1) := by decide +kernel
theorem d_L_drop_8 : decode b_L_drop 8 = .ok (.lastore, 1) := by decide +kernel
theorem d_L_drop_9 : decode b_L_drop 9 = .ok (.goto 6, 3) := by decide +kernel
theorem d_L_drop_12 : decode b_L_drop 12 = .ok (.astore_n 3, 1) := by decide +kernel
theorem d_L_drop_13 : decode b_L_drop 13 = .ok (.iconst 1, 1) := by decide +kernel
theorem d_L_drop_14 : decode b_L_drop 14 = .ok (.ireturn, 1) := by decide +kernel
theorem d_L_drop_15 : decode b_L_drop 15 = .ok (.iconst 0, 1) := by decide +kernel
theorem d_L_drop_16 : decode b_L_drop 16 = .ok (.ireturn, 1) := by decide +kernel
theorem d_L_store_0 : decode b_L_store 0 = .ok (.aload_n 2, 1) := by decide +kernel
theorem d_L_store_1 : decode b_L_store 1 = .ok (.iconst 0, 1) := by decide +kernel
theorem d_L_store_2 : decode b_L_store 2 = .ok (.aload_n 0, 1) := by decide +kernel
theorem d_L_store_3 : decode b_L_store 3 = .ok (.iload_n 1, 1) := by decide +kernel
theorem d_L_store_4 : decode b_L_store 4 = .ok (.invokevirtual 40, 3) := by decide +kernel
theorem d_L_store_7 : decode b_L_store 7 = .ok (.i2l, 1) := by decide +kernel
theorem d_L_store_8 : decode b_L_store 8 = .ok (.lastore, 1) := by decide +kernel
theorem d_L_store_9 : decode b_L_store 9 = .ok (.goto 6, 3) := by decide +kernel
theorem d_L_store_12 : decode b_L_store 12 = .ok (.astore_n 3, 1) := by decide +kernel
theorem d_L_store_13 : decode b_L_store 13 = .ok (.iconst 1, 1) := by decide +kernel
theorem d_L_store_14 : decode b_L_store 14 = .ok (.ireturn, 1) := by decide +kernel
theorem d_L_store_15 : decode b_L_store 15 = .ok (.iconst 0, 1) := by decide +kernel
theorem d_L_store_16 : decode b_L_store 16 = .ok (.ireturn, 1) := by decide +kernel
theorem d_L_kept_0 : decode b_L_kept 0 = .ok (.aload_n 2, 1) := by decide +kernel
theorem d_L_kept_1 : decode b_L_kept 1 = .ok (.iconst 0, 1) := by decide +kernel
theorem d_L_kept_2 : decode b_L_kept 2 = .ok (.aload_n 0, 1) := by decide +kernel
theorem d_L_kept_3 : decode b_L_kept 3 = .ok (.iload_n 1, 1) := by decide +kernel
theorem d_L_kept_4 : decode b_L_kept 4 = .ok (.invokevirtual 43, 3) := by decide +kernel
theorem d_L_kept_7 : decode b_L_kept 7 = .ok (.i2l, 1) := by decide +kernel
theorem d_L_kept_8 : decode b_L_kept 8 = .ok (.lastore, 1) := by decide +kernel
theorem d_L_kept_9 : decode b_L_kept 9 = .ok (.goto 6, 3) := by decide +kernel
theorem d_L_kept_12 : decode b_L_kept 12 = .ok (.astore_n 3, 1) := by decide +kernel
theorem d_L_kept_13 : decode b_L_kept 13 = .ok (.iconst 1, 1) := by decide +kernel
theorem d_L_kept_14 : decode b_L_kept 14 = .ok (.ireturn, 1) := by decide +kernel
theorem d_L_kept_15 : decode b_L_kept 15 = .ok (.iconst 0, 1) := by decide +kernel
theorem d_L_kept_16 : decode b_L_kept 16 = .ok (.ireturn, 1) := by decide +kernel
theorem d_L_count_0 : decode b_L_count 0 = .ok (.aload_n 2, 1) := by decide +kernel
theorem d_L_count_1 : decode b_L_count 1 = .ok (.iconst 0, 1) := by decide +kernel
theorem d_L_count_2 : decode b_L_count 2 = .ok (.aload_n 0, 1) := by decide +kernel
theorem d_L_count_3 : decode b_L_count 3 = .ok (.iload_n 1, 1) := by decide +kernel
theorem d_L_count_4 : decode b_L_count 4 = .ok (.invokevirtual 46, 3) := by decide +kernel
theorem d_L_count_7 : decode b_L_count 7 = .ok (.i2l, 1) := by decide +kernel
theorem d_L_count_8 : decode b_L_count 8 = .ok (.lastore, 1) := by decide +kernel
theorem d_L_count_9 : decode b_L_count 9 = .ok (.goto 6, 3) := by decide +kernel
theorem d_L_count_12 : decode b_L_count 12 = .ok (.astore_n 3, 1) := by decide +kernel
theorem d_L_count_13 : decode b_L_count 13 = .ok (.iconst 1, 1) := by decide +kernel
theorem d_L_count_14 : decode b_L_count 14 = .ok (.ireturn, 1) := by decide +kernel
theorem d_L_count_15 : decode b_L_count 15 = .ok (.iconst 0, 1) := by decide +kernel
theorem d_L_count_16 : decode b_L_count 16 = .ok (.ireturn, 1) := by decide +kernel
theorem d_L_law_0 : decode b_L_law 0 = .ok (.new 8, 3) := by decide +kernel
theorem d_L_law_3 : decode b_L_law 3 = .ok (.dup, 1) := by decide +kernel
theorem d_L_law_4 : decode b_L_law 4 = .ok (.invokespecial 49, 3) := by decide +kernel
theorem d_L_law_7 : decode b_L_law 7 = .ok (.astore_n 1, 1) := by decide +kernel
theorem d_L_law_8 : decode b_L_law 8 = .ok (.new 50, 3) := by decide +kernel
theorem d_L_law_11 : decode b_L_law 11 = .ok (.dup, 1) := by decide +kernel
theorem d_L_law_12 : decode b_L_law 12 = .ok (.invokespecial 52, 3) := by decide +kernel
theorem d_L_law_15 : decode b_L_law 15 = .ok (.astore_n 2, 1) := by decide +kernel
theorem d_L_law_16 : decode b_L_law 16 = .ok (.iconst 1, 1) := by decide +kernel
theorem d_L_law_17 : decode b_L_law 17 = .ok (.newarray .long, 2) := by decide +kernel
theorem d_L_law_19 : decode b_L_law 19 = .ok (.astore_n 3, 1) := by decide +kernel
theorem d_L_law_20 : decode b_L_law 20 = .ok (.iconst 0, 1) := by decide +kernel
theorem d_L_law_21 : decode b_L_law 21 = .ok (.istore 4, 2) := by decide +kernel
theorem d_L_law_23 : decode b_L_law 23 = .ok (.iload 4, 2) := by decide +kernel
theorem d_L_law_25 : decode b_L_law 25 = .ok (.aload_n 0, 1) := by decide +kernel
theorem d_L_law_26 : decode b_L_law 26 = .ok (.arraylength, 1) := by decide +kernel
theorem d_L_law_27 : decode b_L_law 27 = .ok (.iconst 5, 1) := by decide +kernel
theorem d_L_law_28 : decode b_L_law 28 = .ok (.isub, 1) := by decide +kernel
theorem d_L_law_29 : decode b_L_law 29 = .ok (.if_icmp .gt 769, 3) := by decide +kernel
theorem d_L_law_32 : decode b_L_law 32 = .ok (.aload_n 0, 1) := by decide +kernel
theorem d_L_law_33 : decode b_L_law 33 = .ok (.iload 4, 2) := by decide +kernel
theorem d_L_law_35 : decode b_L_law 35 = .ok (.iaload, 1) := by decide +kernel
theorem d_L_law_36 : decode b_L_law 36 = .ok (.bipush 15, 2) := by decide +kernel
theorem d_L_law_38 : decode b_L_law 38 = .ok (.iand, 1) := by decide +kernel
theorem d_L_law_39 : decode b_L_law 39 = .ok (.tableswitch 753 0 11 #[61, 117, 180, 248, 340, 428, 503, 559, 572, 628, 684, 740], 61) := by decide +kernel
theorem d_L_law_100 : decode b_L_law 100 = .ok (.aload_n 1, 1) := by decide +kernel
theorem d_L_law_101 : decode b_L_law 101 = .ok (.aload_n 0, 1) := by decide +kernel
theorem d_L_law_102 : decode b_L_law 102 = .ok (.iload 4, 2) := by decide +kernel
theorem d_L_law_104 : decode b_L_law 104 = .ok (.iconst 1, 1) := by decide +kernel
theorem d_L_law_105 : decode b_L_law 105 = .ok (.iadd, 1) := by decide +kernel
theorem d_L_law_106 : decode b_L_law 106 = .ok (.iaload, 1) := by decide +kernel
theorem d_L_law_107 : decode b_L_law 107 = .ok (.aload_n 3, 1) := by decide +kernel
theorem d_L_law_108 : decode b_L_law 108 = .ok (.invokestatic 53, 3) := by decide +kernel
theorem d_L_law_111 : decode b_L_law 111 = .ok (.istore 5, 2) := by decide +kernel
theorem d_L_law_113 : decode b_L_law 113 = .ok (.aload_n 2, 1) := by decide +kernel
theorem d_L_law_114 : decode b_L_law 114 = .ok (.aload_n 0, 1) := by decide +kernel
theorem d_L_law_115 : decode b_L_law 115 = .ok (.iload 4, 2) := by decide +kernel
theorem d_L_law_117 : decode b_L_law 117 = .ok (.iconst 1, 1) := by decide +kernel
theorem d_L_law_118 : decode b_L_law 118 = .ok (.iadd, 1) := by decide +kernel
theorem d_L_law_119 : decode b_L_law 119 = .ok (.iaload, 1) := by decide +kernel
theorem d_L_law_120 : decode b_L_law 120 = .ok (.invokevirtual 58, 3) := by decide +kernel
theorem d_L_law_123 : decode b_L_law 123 = .ok (.istore 6, 2) := by decide +kernel
theorem d_L_law_125 : decode b_L_law 125 = .ok (.aload_n 2, 1) := by decide +kernel
theorem d_L_law_126 : decode b_L_law 126 = .ok (.invokevirtual 59, 3) := by decide +kernel
theorem d_L_law_129 : decode b_L_law 129 = .ok (.iload 5, 2) := by decide +kernel
theorem d_L_law_131 : decode b_L_law 131 = .ok (.if_icmp .eq 5, 3) := by decide +kernel
theorem d_L_law_134 : decode b_L_law 134 = .ok (.iconst 0, 1) := by decide +kernel
theorem d_L_law_135 : decode b_L_law 135 = .ok (.ireturn, 1) := by decide +kernel
theorem d_L_law_136 : decode b_L_law 136 = .ok (.iload 5, 2) := by decide +kernel
theorem d_L_law_138 : decode b_L_law 138 = .ok (.ifCond .ne 15, 3) := by decide +kernel
theorem d_L_law_141 : decode b_L_law 141 = .ok (.aload_n 3, 1) := by decide +kernel
theorem d_L_law_142 : decode b_L_law 142 = .ok (.iconst 0, 1) := by decide +kernel
theorem d_L_law_143 : decode b_L_law 143 = .ok (.laload, 1) := by decide +kernel
theorem d_L_law_144 : decode b_L_law 144 = .ok (.iload 6, 2) := by decide +kernel
theorem d_L_law_146 : decode b_L_law 146 = .ok (.i2l, 1) := by decide +kernel
theorem d_L_law_147 : decode b_L_law 147 = .ok (.lcmp, 1) := by decide +kernel
theorem d_L_law_148 : decode b_L_law 148 = .ok (.ifCond .eq 5, 3) := by decide +kernel
theorem d_L_law_151 : decode b_L_law 151 = .ok (.iconst 0, 1) := by decide +kernel
theorem d_L_law_152 : decode b_L_law 152 = .ok (.ireturn, 1) := by decide +kernel
theorem d_L_law_153 : decode b_L_law 153 = .ok (.goto 639, 3) := by decide +kernel
theorem d_L_law_156 : decode b_L_law 156 = .ok (.aload_n 1, 1) := by decide +kernel
theorem d_L_law_157 : decode b_L_law 157 = .ok (.aload_n 0, 1) := by decide +kernel
theorem d_L_law_158 : decode b_L_law 158 = .ok (.iload 4, 2) := by decide +kernel
theorem d_L_law_160 : decode b_L_law 160 = .ok (.iconst 1, 1) := by decide +kernel
theorem d_L_law_161 : decode b_L_law 161 = .ok (.iadd, 1) := by decide +kernel
theorem d_L_law_162 : decode b_L_law 162 = .ok (.iaload, 1) := by decide +kernel
theorem d_L_law_163 : decode b_L_law 163 = .ok (.aload_n 3, 1) := by decide +kernel
theorem d_L_law_164 : decode b_L_law 164 = .ok (.invokestatic 63, 3) := by decide +kernel
theorem d_L_law_167 : decode b_L_law 167 = .ok (.istore 5, 2) := by decide +kernel
theorem d_L_law_169 : decode b_L_law 169 = .ok (.aload_n 2, 1) := by decide +kernel
theorem d_L_law_170 : decode b_L_law 170 = .ok (.aload_n 0, 1) := by decide +kernel
theorem d_L_law_171 : decode b_L_law 171 = .ok (.iload 4, 2) := by decide +kernel
theorem d_L_law_173 : decode b_L_law 173 = .ok (.iconst 1, 1) := by decide +kernel
theorem d_L_law_174 : decode b_L_law 174 = .ok (.iadd, 1) := by decide +kernel
theorem d_L_law_175 : decode b_L_law 175 = .ok (.iaload, 1) := by decide +kernel
theorem d_L_law_176 : decode b_L_law 176 = .ok (.invokevirtual 65, 3) := by decide +kernel
theorem d_L_law_179 : decode b_L_law 179 = .ok (.istore 6, 2) := by decide +kernel
theorem d_L_law_181 : decode b_L_law 181 = .ok (.aload_n 2, 1) := by decide +kernel
theorem d_L_law_182 : decode b_L_law 182 = .ok (.invokevirtual 59, 3) := by decide +kernel
theorem d_L_law_185 : decode b_L_law 185 = .ok (.iload 5, 2) := by decide +kernel
theorem d_L_law_187 : decode b_L_law 187 = .ok (.if_icmp .eq 5, 3) := by decide +kernel
theorem d_L_law_190 : decode b_L_law 190 = .ok (.iconst 0, 1) := by decide +kernel
theorem d_L_law_191 : decode b_L_law 191 = .ok (.ireturn, 1) := by decide +kernel
theorem d_L_law_192 : decode b_L_law 192 = .ok (.iload 5, 2) := by decide +kernel
theorem d_L_law_194 : decode b_L_law 194 = .ok (.ifCond .ne 22, 3) := by decide +kernel
theorem d_L_law_197 : decode b_L_law 197 = .ok (.aload_n 3, 1) := by decide +kernel
theorem d_L_law_198 : decode b_L_law 198 = .ok (.iconst 0, 1) := by decide +kernel
theorem d_L_law_199 : decode b_L_law 199 = .ok (.laload, 1) := by decide +kernel
theorem d_L_law_200 : decode b_L_law 200 = .ok (.iload 6, 2) := by decide +kernel
theorem d_L_law_202 : decode b_L_law 202 = .ok (.ifCond .eq 7, 3) := by decide +kernel
theorem d_L_law_205 : decode b_L_law 205 = .ok (.lconst 1, 1) := by decide +kernel
theorem d_L_law_206 : decode b_L_law 206 = .ok (.goto 4, 3) := by decide +kernel
theorem d_L_law_209 : decode b_L_law 209 = .ok (.lconst 0, 1) := by decide +kernel
theorem d_L_law_210 : decode b_L_law 210 = .ok (.lcmp, 1) := by decide +kernel
theorem d_L_law_211 : decode b_L_law 211 = .ok (.ifCond .eq 5, 3) := by decide +kernel
theorem d_L_law_214 : decode b_L_law 214 = .ok (.iconst 0, 1) := by decide +kernel
theorem d_L_law_215 : decode b_L_law 215 = .ok (.ireturn, 1) := by decide +kernel
theorem d_L_law_216 : decode b_L_law 216 = .ok (.goto 576, 3) := by decide +kernel
theorem d_L_law_219 : decode b_L_law 219 = .ok (.aload_n 1, 1) := by decide +kernel
theorem d_L_law_220 : decode b_L_law 220 = .ok (.aload_n 0, 1) := by decide +kernel
theorem d_L_law_221 : decode b_L_law 221 = .ok (.iload 4, 2) := by decide +kernel
theorem d_L_law_223 : decode b_L_law 223 = .ok (.iconst 1, 1) := by decide +kernel
theorem d_L_law_224 : decode b_L_law 224 = .ok (.iadd, 1) := by decide +kernel
theorem d_L_law_225 : decode b_L_law 225 = .ok (.iaload, 1) := by decide +kernel
theorem d_L_law_226 : decode b_L_law 226 = .ok (.aload_n 0, 1) := by decide +kernel
theorem d_L_law_227 : decode b_L_law 227 = .ok (.iload 4, 2) := by decide +kernel
theorem d_L_law_229 : decode b_L_law 229 = .ok (.iconst 2, 1) := by decide +kernel
theorem d_L_law_230 : decode b_L_law 230 = .ok (.iadd, 1) := by decide +kernel
theorem d_L_law_231 : decode b_L_law 231 = .ok (.iaload, 1) := by decide +kernel
theorem d_L_law_232 : decode b_L_law 232 = .ok (.aload_n 3, 1) := by decide +kernel
theorem d_L_law_233 : decode b_L_law 233 = .ok (.invokestatic 66, 3) := by decide +kernel
theorem d_L_law_236 : decode b_L_law 236 = .ok (.istore 5, 2) := by decide +kernel
theorem d_L_law_238 : decode b_L_law 238 = .ok (.aload_n 2, 1) := by decide +kernel
theorem d_L_law_239 : decode b_L_law 239 = .ok (.aload_n 0, 1) := by decide +kernel
theorem d_L_law_240 : decode b_L_law 240 = .ok (.iload 4, 2) := by decide +kernel
theorem d_L_law_242 : decode b_L_law 242 = .ok (.iconst 1, 1) := by decide +kernel
theorem d_L_law_243 : decode b_L_law 243 = .ok (.iadd, 1) := by decide +kernel
theorem d_L_law_244 : decode b_L_law 244 = .ok (.iaload, 1) := by decide +kernel
theorem d_L_law_245 : decode b_L_law 245 = .ok (.aload_n 0, 1) := by decide +kernel
theorem d_L_law_246 : decode b_L_law 246 = .ok (.iload 4, 2) := by decide +kernel
theorem d_L_law_248 : decode b_L_law 248 = .ok (.iconst 2, 1) := by decide +kernel
theorem d_L_law_249 : decode b_L_law 249 = .ok (.iadd, 1) := by decide +kernel
theorem d_L_law_250 : decode b_L_law 250 = .ok (.iaload, 1) := by decide +kernel
theorem d_L_law_251 : decode b_L_law 251 = .ok (.invokevirtual 69, 3) := by decide +kernel
theorem d_L_law_254 : decode b_L_law 254 = .ok (.istore 6, 2) := by decide +kernel
theorem d_L_law_256 : decode b_L_law 256 = .ok (.aload_n 2, 1) := by decide +kernel
theorem d_L_law_257 : decode b_L_law 257 = .ok (.invokevirtual 59, 3) := by decide +kernel
theorem d_L_law_260 : decode b_L_law 260 = .ok (.iload 5, 2) := by decide +kernel
theorem d_L_law_262 : decode b_L_law 262 = .ok (.if_icmp .eq 5, 3) := by decide +kernel
theorem d_L_law_265 : decode b_L_law 265 = .ok (.iconst 0, 1) := by decide +kernel
theorem d_L_law_266 : decode b_L_law 266 = .ok (.ireturn, 1) := by decide +kernel
theorem d_L_law_267 : decode b_L_law 267 = .ok (.iload 5, 2) := by decide +kernel
theorem d_L_law_269 : decode b_L_law 269 = .ok (.ifCond .ne 15, 3) := by decide +kernel
theorem d_L_law_272 : decode b_L_law 272 = .ok (.aload_n 3, 1) := by decide +kernel
theorem d_L_law_273 : decode b_L_law 273 = .ok (.iconst 0, 1) := by decide +kernel
theorem d_L_law_274 : decode b_L_law 274 = .ok (.laload, 1) := by decide +kernel
theorem d_L_law_275 : decode b_L_law 275 = .ok (.iload 6, 2) := by decide +kernel
theorem d_L_law_277 : decode b_L_law 277 = .ok (.i2l, 1) := by decide +kernel
theorem d_L_law_278 : decode b_L_law 278 = .ok (.lcmp, 1) := by decide +kernel
theorem d_L_law_279 : decode b_L_law 279 = .ok (.ifCond .eq 5, 3) := by decide +kernel
theorem d_L_law_282 : decode b_L_law 282 = .ok (.iconst 0, 1) := by decide +kernel
theorem d_L_law_283 : decode b_L_law 283 = .ok (.ireturn, 1) := by decide +kernel
theorem d_L_law_284 : decode b_L_law 284 = .ok (.goto 508, 3) := by decide +kernel
theorem d_L_law_287 : decode b_L_law 287 = .ok (.aload_n 1, 1) := by decide +kernel
theorem d_L_law_288 : decode b_L_law 288 = .ok (.aload_n 0, 1) := by decide +kernel
theorem d_L_law_289 : decode b_L_law 289 = .ok (.iload 4, 2) := by decide +kernel
theorem d_L_law_291 : decode b_L_law 291 = .ok (.iconst 1, 1) := by decide +kernel
theorem d_L_law_292 : decode b_L_law 292 = .ok (.iadd, 1) := by decide +kernel
theorem d_L_law_293 : decode b_L_law 293 = .ok (.iaload, 1) := by decide +kernel
theorem d_L_law_294 : decode b_L_law 294 = .ok (.aload_n 0, 1) := by decide +kernel
theorem d_L_law_295 : decode b_L_law 295 = .ok (.iload 4, 2) := by decide +kernel
theorem d_L_law_297 : decode b_L_law 297 = .ok (.iconst 2, 1) := by decide +kernel
theorem d_L_law_298 : decode b_L_law 298 = .ok (.iadd, 1) := by decide +kernel
theorem d_L_law_299 : decode b_L_law 299 = .ok (.iaload, 1) := by decide +kernel
theorem d_L_law_300 : decode b_L_law 300 = .ok (.aload_n 0, 1) := by decide +kernel
theorem d_L_law_301 : decode b_L_law 301 = .ok (.iload 4, 2) := by decide +kernel
theorem d_L_law_303 : decode b_L_law 303 = .ok (.iconst 3, 1) := by decide +kernel
theorem d_L_law_304 : decode b_L_law 304 = .ok (.iadd, 1) := by decide +kernel
theorem d_L_law_305 : decode b_L_law 305 = .ok (.iaload, 1) := by decide +kernel
theorem d_L_law_306 : decode b_L_law 306 = .ok (.aload_n 0, 1) := by decide +kernel
theorem d_L_law_307 : decode b_L_law 307 = .ok (.iload 4, 2) := by decide +kernel
theorem d_L_law_309 : decode b_L_law 309 = .ok (.iconst 4, 1) := by decide +kernel
theorem d_L_law_310 : decode b_L_law 310 = .ok (.iadd, 1) := by decide +kernel
theorem d_L_law_311 : decode b_L_law 311 = .ok (.iaload, 1) := by decide +kernel
theorem d_L_law_312 : decode b_L_law 312 = .ok (.aload_n 3, 1) := by decide +kernel
theorem d_L_law_313 : decode b_L_law 313 = .ok (.invokestatic 70, 3) := by decide +kernel
theorem d_L_law_316 : decode b_L_law 316 = .ok (.istore 5, 2) := by decide +kernel
theorem d_L_law_318 : decode b_L_law 318 = .ok (.aload_n 2, 1) := by decide +kernel
theorem d_L_law_319 : decode b_L_law 319 = .ok (.aload_n 0, 1) := by decide +kernel
theorem d_L_law_320 : decode b_L_law 320 = .ok (.iload 4, 2) := by decide +kernel
theorem d_L_law_322 : decode b_L_law 322 = .ok (.iconst 1, 1) := by decide +kernel
theorem d_L_law_323 : decode b_L_law 323 = .ok (.iadd, 1) := by decide +kernel
theorem d_L_law_324 : decode b_L_law 324 = .ok (.iaload, 1) := by decide +kernel
theorem d_L_law_325 : decode b_L_law 325 = .ok (.aload_n 0, 1) := by decide +kernel
theorem d_L_law_326 : decode b_L_law 326 = .ok (.iload 4, 2) := by decide +kernel
theorem d_L_law_328 : decode b_L_law 328 = .ok (.iconst 2, 1) := by decide +kernel
theorem d_L_law_329 : decode b_L_law 329 = .ok (.iadd, 1) := by decide +kernel
theorem d_L_law_330 : decode b_L_law 330 = .ok (.iaload, 1) := by decide +kernel
theorem d_L_law_331 : decode b_L_law 331 = .ok (.aload_n 0, 1) := by decide +kernel
theorem d_L_law_332 : decode b_L_law 332 = .ok (.iload 4, 2) := by decide +kernel
theorem d_L_law_334 : decode b_L_law 334 = .ok (.iconst 3, 1) := by decide +kernel
theorem d_L_law_335 : decode b_L_law 335 = .ok (.iadd, 1) := by decide +kernel
theorem d_L_law_336 : decode b_L_law 336 = .ok (.iaload, 1) := by decide +kernel
theorem d_L_law_337 : decode b_L_law 337 = .ok (.aload_n 0, 1) := by decide +kernel
theorem d_L_law_338 : decode b_L_law 338 = .ok (.iload 4, 2) := by decide +kernel
theorem d_L_law_340 : decode b_L_law 340 = .ok (.iconst 4, 1) := by decide +kernel
theorem d_L_law_341 : decode b_L_law 341 = .ok (.iadd, 1) := by decide +kernel
theorem d_L_law_342 : decode b_L_law 342 = .ok (.iaload, 1) := by decide +kernel
theorem d_L_law_343 : decode b_L_law 343 = .ok (.invokevirtual 73, 3) := by decide +kernel
theorem d_L_law_346 : decode b_L_law 346 = .ok (.istore 6, 2) := by decide +kernel
theorem d_L_law_348 : decode b_L_law 348 = .ok (.aload_n 2, 1) := by decide +kernel
theorem d_L_law_349 : decode b_L_law 349 = .ok (.invokevirtual 59, 3) := by decide +kernel
theorem d_L_law_352 : decode b_L_law 352 = .ok (.iload 5, 2) := by decide +kernel
theorem d_L_law_354 : decode b_L_law 354 = .ok (.if_icmp .eq 5, 3) := by decide +kernel
theorem d_L_law_357 : decode b_L_law 357 = .ok (.iconst 0, 1) := by decide +kernel
theorem d_L_law_358 : decode b_L_law 358 = .ok (.ireturn, 1) := by decide +kernel
theorem d_L_law_359 : decode b_L_law 359 = .ok (.iload 5, 2) := by decide +kernel
theorem d_L_law_361 : decode b_L_law 361 = .ok (.ifCond .ne 15, 3) := by decide +kernel
theorem d_L_law_364 : decode b_L_law 364 = .ok (.aload_n 3, 1) := by decide +kernel
theorem d_L_law_365 : decode b_L_law 365 = .ok (.iconst 0, 1) := by decide +kernel
theorem d_L_law_366 : decode b_L_law 366 = .ok (.laload, 1) := by decide +kernel
theorem d_L_law_367 : decode b_L_law 367 = .ok (.iload 6, 2) := by decide +kernel
theorem d_L_law_369 : decode b_L_law 369 = .ok (.i2l, 1) := by decide +kernel
theorem d_L_law_370 : decode b_L_law 370 = .ok (.lcmp, 1) := by decide +kernel
theorem d_L_law_371 : decode b_L_law 371 = .ok (.ifCond .eq 5, 3) := by decide +kernel
theorem d_L_law_374 : decode b_L_law 374 = .ok (.iconst 0, 1) := by decide +kernel
theorem d_L_law_375 : decode b_L_law 375 = .ok (.ireturn, 1) := by decide +kernel
theorem d_L_law_376 : decode b_L_law 376 = .ok (.goto 416, 3) := by decide +kernel
theorem d_L_law_379 : decode b_L_law 379 = .ok (.aload_n 1, 1) := by decide +kernel
theorem d_L_law_380 : decode b_L_law 380 = .ok (.aload_n 0, 1) := by decide +kernel
theorem d_L_law_381 : decode b_L_law 381 = .ok (.iload 4, 2) := by decide +kernel
theorem d_L_law_383 : decode b_L_law 383 = .ok (.iconst 1, 1) := by decide +kernel
theorem d_L_law_384 : decode b_L_law 384 = .ok (.iadd, 1) := by decide +kernel
theorem d_L_law_385 : decode b_L_law 385 = .ok (.iaload, 1) := by decide +kernel
theorem d_L_law_386 : decode b_L_law 386 = .ok (.aload_n 0, 1) := by decide +kernel
theorem d_L_law_387 : decode b_L_law 387 = .ok (.iload 4, 2) := by decide +kernel
theorem d_L_law_389 : decode b_L_law 389 = .ok (.iconst 2, 1) := by decide +kernel
theorem d_L_law_390 : decode b_L_law 390 = .ok (.iadd, 1) := by decide +kernel
theorem d_L_law_391 : decode b_L_law 391 = .ok (.iaload, 1) := by decide +kernel
theorem d_L_law_392 : decode b_L_law 392 = .ok (.aload_n 0, 1) := by decide +kernel
theorem d_L_law_393 : decode b_L_law 393 = .ok (.iload 4, 2) := by decide +kernel
theorem d_L_law_395 : decode b_L_law 395 = .ok (.iconst 3, 1) := by decide +kernel
theorem d_L_law_396 : decode b_L_law 396 = .ok (.iadd, 1) := by decide +kernel
theorem d_L_law_397 : decode b_L_law 397 = .ok (.iaload, 1) := by decide +kernel
theorem d_L_law_398 : decode b_L_law 398 = .ok (.aload_n 0, 1) := by decide +kernel
theorem d_L_law_399 : decode b_L_law 399 = .ok (.iload 4, 2) := by decide +kernel
theorem d_L_law_401 : decode b_L_law 401 = .ok (.iconst 4, 1) := by decide +kernel
theorem d_L_law_402 : decode b_L_law 402 = .ok (.iadd, 1) := by decide +kernel
theorem d_L_law_403 : decode b_L_law 403 = .ok (.iaload, 1) := by decide +kernel
theorem d_L_law_404 : decode b_L_law 404 = .ok (.ifCond .eq 7, 3) := by decide +kernel
theorem d_L_law_407 : decode b_L_law 407 = .ok (.iconst 1, 1) := by decide +kernel
theorem d_L_law_408 : decode b_L_law 408 = .ok (.goto 4, 3) := by decide +kernel
theorem d_L_law_411 : decode b_L_law 411 = .ok (.iconst 0, 1) := by decide +kernel
theorem d_L_law_412 : decode b_L_law 412 = .ok (.invokestatic 74, 3) := by decide +kernel
theorem d_L_law_415 : decode b_L_law 415 = .ok (.istore 5, 2) := by decide +kernel
theorem d_L_law_417 : decode b_L_law 417 = .ok (.aload_n 2, 1) := by decide +kernel
theorem d_L_law_418 : decode b_L_law 418 = .ok (.aload_n 0, 1) := by decide +kernel
theorem d_L_law_419 : decode b_L_law 419 = .ok (.iload 4, 2) := by decide +kernel
theorem d_L_law_421 : decode b_L_law 421 = .ok (.iconst 1, 1) := by decide +kernel
theorem d_L_law_422 : decode b_L_law 422 = .ok (.iadd, 1) := by decide +kernel
theorem d_L_law_423 : decode b_L_law 423 = .ok (.iaload, 1) := by decide +kernel
theorem d_L_law_424 : decode b_L_law 424 = .ok (.aload_n 0, 1) := by decide +kernel
theorem d_L_law_425 : decode b_L_law 425 = .ok (.iload 4, 2) := by decide +kernel
theorem d_L_law_427 : decode b_L_law 427 = .ok (.iconst 2, 1) := by decide +kernel
theorem d_L_law_428 : decode b_L_law 428 = .ok (.iadd, 1) := by decide +kernel
theorem d_L_law_429 : decode b_L_law 429 = .ok (.iaload, 1) := by decide +kernel
theorem d_L_law_430 : decode b_L_law 430 = .ok (.aload_n 0, 1) := by decide +kernel
theorem d_L_law_431 : decode b_L_law 431 = .ok (.iload 4, 2) := by decide +kernel
theorem d_L_law_433 : decode b_L_law 433 = .ok (.iconst 3, 1) := by decide +kernel
theorem d_L_law_434 : decode b_L_law 434 = .ok (.iadd, 1) := by decide +kernel
theorem d_L_law_435 : decode b_L_law 435 = .ok (.iaload, 1) := by decide +kernel
theorem d_L_law_436 : decode b_L_law 436 = .ok (.aload_n 0, 1) := by decide +kernel
theorem d_L_law_437 : decode b_L_law 437 = .ok (.iload 4, 2) := by decide +kernel
theorem d_L_law_439 : decode b_L_law 439 = .ok (.iconst 4, 1) := by decide +kernel
theorem d_L_law_440 : decode b_L_law 440 = .ok (.iadd, 1) := by decide +kernel
theorem d_L_law_441 : decode b_L_law 441 = .ok (.iaload, 1) := by decide +kernel
theorem d_L_law_442 : decode b_L_law 442 = .ok (.ifCond .eq 7, 3) := by decide +kernel
theorem d_L_law_445 : decode b_L_law 445 = .ok (.iconst 1, 1) := by decide +kernel
theorem d_L_law_446 : decode b_L_law 446 = .ok (.goto 4, 3) := by decide +kernel
theorem d_L_law_449 : decode b_L_law 449 = .ok (.iconst 0, 1) := by decide +kernel
theorem d_L_law_450 : decode b_L_law 450 = .ok (.invokevirtual 77, 3) := by decide +kernel
theorem d_L_law_453 : decode b_L_law 453 = .ok (.aload_n 2, 1) := by decide +kernel
theorem d_L_law_454 : decode b_L_law 454 = .ok (.invokevirtual 59, 3) := by decide +kernel
theorem d_L_law_457 : decode b_L_law 457 = .ok (.iload 5, 2) := by decide +kernel
theorem d_L_law_459 : decode b_L_law 459 = .ok (.if_icmp .eq 5, 3) := by decide +kernel
theorem d_L_law_462 : decode b_L_law 462 = .ok (.iconst 0, 1) := by decide +kernel
theorem d_L_law_463 : decode b_L_law 463 = .ok (.ireturn, 1) := by decide +kernel
theorem d_L_law_464 : decode b_L_law 464 = .ok (.goto 328, 3) := by decide +kernel
theorem d_L_law_467 : decode b_L_law 467 = .ok (.aload_n 1, 1) := by decide +kernel
theorem d_L_law_468 : decode b_L_law 468 = .ok (.aload_n 0, 1) := by decide +kernel
theorem d_L_law_469 : decode b_L_law 469 = .ok (.iload 4, 2) := by decide +kernel
theorem d_L_law_471 : decode b_L_law 471 = .ok (.iconst 1, 1) := by decide +kernel
theorem d_L_law_472 : decode b_L_law 472 = .ok (.iadd, 1) := by decide +kernel
theorem d_L_law_473 : decode b_L_law 473 = .ok (.iaload, 1) := by decide +kernel
theorem d_L_law_474 : decode b_L_law 474 = .ok (.aload_n 0, 1) := by decide +kernel
theorem d_L_law_475 : decode b_L_law 475 = .ok (.iload 4, 2) := by decide +kernel
theorem d_L_law_477 : decode b_L_law 477 = .ok (.iconst 2, 1) := by decide +kernel
theorem d_L_law_478 : decode b_L_law 478 = .ok (.iadd, 1) := by decide +kernel
theorem d_L_law_479 : decode b_L_law 479 = .ok (.iaload, 1) := by decide +kernel
theorem d_L_law_480 : decode b_L_law 480 = .ok (.aload_n 3, 1) := by decide +kernel
theorem d_L_law_481 : decode b_L_law 481 = .ok (.invokestatic 78, 3) := by decide +kernel
theorem d_L_law_484 : decode b_L_law 484 = .ok (.istore 5, 2) := by decide +kernel
theorem d_L_law_486 : decode b_L_law 486 = .ok (.aload_n 2, 1) := by decide +kernel
theorem d_L_law_487 : decode b_L_law 487 = .ok (.aload_n 0, 1) := by decide +kernel
theorem d_L_law_488 : decode b_L_law 488 = .ok (.iload 4, 2) := by decide +kernel
theorem d_L_law_490 : decode b_L_law 490 = .ok (.iconst 1, 1) := by decide +kernel
theorem d_L_law_491 : decode b_L_law 491 = .ok (.iadd, 1) := by decide +kernel
theorem d_L_law_492 : decode b_L_law 492 = .ok (.iaload, 1) := by decide +kernel
theorem d_L_law_493 : decode b_L_law 493 = .ok (.aload_n 0, 1) := by decide +kernel
theorem d_L_law_494 : decode b_L_law 494 = .ok (.iload 4, 2) := by decide +kernel
theorem d_L_law_496 : decode b_L_law 496 = .ok (.iconst 2, 1) := by decide +kernel
theorem d_L_law_497 : decode b_L_law 497 = .ok (.iadd, 1) := by decide +kernel
theorem d_L_law_498 : decode b_L_law 498 = .ok (.iaload, 1) := by decide +kernel
theorem d_L_law_499 : decode b_L_law 499 = .ok (.invokevirtual 80, 3) := by decide +kernel
theorem d_L_law_502 : decode b_L_law 502 = .ok (.istore 6, 2) := by decide +kernel
theorem d_L_law_504 : decode b_L_law 504 = .ok (.aload_n 2, 1) := by decide +kernel
theorem d_L_law_505 : decode b_L_law 505 = .ok (.invokevirtual 59, 3) := by decide +kernel
theorem d_L_law_508 : decode b_L_law 508 = .ok (.iload 5, 2) := by decide +kernel
theorem d_L_law_510 : decode b_L_law 510 = .ok (.if_icmp .eq 5, 3) := by decide +kernel
theorem d_L_law_513 : decode b_L_law 513 = .ok (.iconst 0, 1) := by decide +kernel
theorem d_L_law_514 : decode b_L_law 514 = .ok (.ireturn, 1) := by decide +kernel
theorem d_L_law_515 : decode b_L_law 515 = .ok (.iload 5, 2) := by decide +kernel
theorem d_L_law_517 : decode b_L_law 517 = .ok (.ifCond .ne 22, 3) := by decide +kernel
theorem d_L_law_520 : decode b_L_law 520 = .ok (.aload_n 3, 1) := by decide +kernel
theorem d_L_law_521 : decode b_L_law 521 = .ok (.iconst 0, 1) := by decide +kernel
theorem d_L_law_522 : decode b_L_law 522 = .ok (.laload, 1) := by decide +kernel
theorem d_L_law_523 : decode b_L_law 523 = .ok (.iload 6, 2) := by decide +kernel
theorem d_L_law_525 : decode b_L_law 525 = .ok (.ifCond .eq 7, 3) := by decide +kernel
theorem d_L_law_528 : decode b_L_law 528 = .ok (.lconst 1, 1) := by decide +kernel
theorem d_L_law_529 : decode b_L_law 529 = .ok (.goto 4, 3) := by decide +kernel
theorem d_L_law_532 : decode b_L_law 532 = .ok (.lconst 0, 1) := by decide +kernel
theorem d_L_law_533 : decode b_L_law 533 = .ok (.lcmp, 1) := by decide +kernel
theorem d_L_law_534 : decode b_L_law 534 = .ok (.ifCond .eq 5, 3) := by decide +kernel
theorem d_L_law_537 : decode b_L_law 537 = .ok (.iconst 0, 1) := by decide +kernel
theorem d_L_law_538 : decode b_L_law 538 = .ok (.ireturn, 1) := by decide +kernel
theorem d_L_law_539 : decode b_L_law 539 = .ok (.goto 253, 3) := by decide +kernel
theorem d_L_law_542 : decode b_L_law 542 = .ok (.aload_n 1, 1) := by decide +kernel
theorem d_L_law_543 : decode b_L_law 543 = .ok (.aload_n 0, 1) := by decide +kernel
theorem d_L_law_544 : decode b_L_law 544 = .ok (.iload 4, 2) := by decide +kernel
theorem d_L_law_546 : decode b_L_law 546 = .ok (.iconst 1, 1) := by decide +kernel
theorem d_L_law_547 : decode b_L_law 547 = .ok (.iadd, 1) := by decide +kernel
theorem d_L_law_548 : decode b_L_law 548 = .ok (.iaload, 1) := by decide +kernel
theorem d_L_law_549 : decode b_L_law 549 = .ok (.aload_n 3, 1) := by decide +kernel
theorem d_L_law_550 : decode b_L_law 550 = .ok (.invokestatic 81, 3) := by decide +kernel
theorem d_L_law_553 : decode b_L_law 553 = .ok (.istore 5, 2) := by decide +kernel
theorem d_L_law_555 : decode b_L_law 555 = .ok (.aload_n 2, 1) := by decide +kernel
theorem d_L_law_556 : decode b_L_law 556 = .ok (.aload_n 0, 1) := by decide +kernel
theorem d_L_law_557 : decode b_L_law 557 = .ok (.iload 4, 2) := by decide +kernel
theorem d_L_law_559 : decode b_L_law 559 = .ok (.iconst 1, 1) := by decide +kernel
theorem d_L_law_560 : decode b_L_law 560 = .ok (.iadd, 1) := by decide +kernel
theorem d_L_law_561 : decode b_L_law 561 = .ok (.iaload, 1) := by decide +kernel
theorem d_L_law_562 : decode b_L_law 562 = .ok (.invokevirtual 83, 3) := by decide +kernel
theorem d_L_law_565 : decode b_L_law 565 = .ok (.istore 6, 2) := by decide +kernel
theorem d_L_law_567 : decode b_L_law 567 = .ok (.aload_n 2, 1) := by decide +kernel
theorem d_L_law_568 : decode b_L_law 568 = .ok (.invokevirtual 59, 3) := by decide +kernel
theorem d_L_law_571 : decode b_L_law 571 = .ok (.iload 5, 2) := by decide +kernel
theorem d_L_law_573 : decode b_L_law 573 = .ok (.if_icmp .eq 5, 3) := by decide +kernel
theorem d_L_law_576 : decode b_L_law 576 = .ok (.iconst 0, 1) := by decide +kernel
theorem d_L_law_577 : decode b_L_law 577 = .ok (.ireturn, 1) := by decide +kernel
theorem d_L_law_578 : decode b_L_law 578 = .ok (.iload 5, 2) := by decide +kernel
theorem d_L_law_580 : decode b_L_law 580 = .ok (.ifCond .ne 15, 3) := by decide +kernel
theorem d_L_law_583 : decode b_L_law 583 = .ok (.aload_n 3, 1) := by decide +kernel
theorem d_L_law_584 : decode b_L_law 584 = .ok (.iconst 0, 1) := by decide +kernel
theorem d_L_law_585 : decode b_L_law 585 = .ok (.laload, 1) := by decide +kernel
theorem d_L_law_586 : decode b_L_law 586 = .ok (.iload 6, 2) := by decide +kernel
theorem d_L_law_588 : decode b_L_law 588 = .ok (.i2l, 1) := by decide +kernel
theorem d_L_law_589 : decode b_L_law 589 = .ok (.lcmp, 1) := by decide +kernel
theorem d_L_law_590 : decode b_L_law 590 = .ok (.ifCond .eq 5, 3) := by decide +kernel
theorem d_L_law_593 : decode b_L_law 593 = .ok (.iconst 0, 1) := by decide +kernel
theorem d_L_law_594 : decode b_L_law 594 = .ok (.ireturn, 1) := by decide +kernel
theorem d_L_law_595 : decode b_L_law 595 = .ok (.goto 197, 3) := by decide +kernel
theorem d_L_law_598 : decode b_L_law 598 = .ok (.aload_n 1, 1) := by decide +kernel
theorem d_L_law_599 : decode b_L_law 599 = .ok (.invokevirtual 84, 3) := by decide +kernel
theorem d_L_law_602 : decode b_L_law 602 = .ok (.aload_n 2, 1) := by decide +kernel
theorem d_L_law_603 : decode b_L_law 603 = .ok (.invokevirtual 87, 3) := by decide +kernel
theorem d_L_law_606 : decode b_L_law 606 = .ok (.if_icmp .eq 186, 3) := by decide +kernel
theorem d_L_law_609 : decode b_L_law 609 = .ok (.iconst 0, 1) := by decide +kernel
theorem d_L_law_610 : decode b_L_law 610 = .ok (.ireturn, 1) := by decide +kernel
theorem d_L_law_611 : decode b_L_law 611 = .ok (.aload_n 1, 1) := by decide +kernel
theorem d_L_law_612 : decode b_L_law 612 = .ok (.aload_n 0, 1) := by decide +kernel
theorem d_L_law_613 : decode b_L_law 613 = .ok (.iload 4, 2) := by decide +kernel
theorem d_L_law_615 : decode b_L_law 615 = .ok (.iconst 1, 1) := by decide +kernel
theorem d_L_law_616 : decode b_L_law 616 = .ok (.iadd, 1) := by decide +kernel
theorem d_L_law_617 : decode b_L_law 617 = .ok (.iaload, 1) := by decide +kernel
theorem d_L_law_618 : decode b_L_law 618 = .ok (.aload_n 3, 1) := by decide +kernel
theorem d_L_law_619 : decode b_L_law 619 = .ok (.invokestatic 88, 3) := by decide +kernel
theorem d_L_law_622 : decode b_L_law 622 = .ok (.istore 5, 2) := by decide +kernel
theorem d_L_law_624 : decode b_L_law 624 = .ok (.aload_n 2, 1) := by decide +kernel
theorem d_L_law_625 : decode b_L_law 625 = .ok (.aload_n 0, 1) := by decide +kernel
theorem d_L_law_626 : decode b_L_law 626 = .ok (.iload 4, 2) := by decide +kernel
theorem d_L_law_628 : decode b_L_law 628 = .ok (.iconst 1, 1) := by decide +kernel
theorem d_L_law_629 : decode b_L_law 629 = .ok (.iadd, 1) := by decide +kernel
theorem d_L_law_630 : decode b_L_law 630 = .ok (.iaload, 1) := by decide +kernel
theorem d_L_law_631 : decode b_L_law 631 = .ok (.invokevirtual 90, 3) := by decide +kernel
theorem d_L_law_634 : decode b_L_law 634 = .ok (.istore 6, 2) := by decide +kernel
theorem d_L_law_636 : decode b_L_law 636 = .ok (.aload_n 2, 1) := by decide +kernel
theorem d_L_law_637 : decode b_L_law 637 = .ok (.invokevirtual 59, 3) := by decide +kernel
theorem d_L_law_640 : decode b_L_law 640 = .ok (.iload 5, 2) := by decide +kernel
theorem d_L_law_642 : decode b_L_law 642 = .ok (.if_icmp .eq 5, 3) := by decide +kernel
theorem d_L_law_645 : decode b_L_law 645 = .ok (.iconst 0, 1) := by decide +kernel
theorem d_L_law_646 : decode b_L_law 646 = .ok (.ireturn, 1) := by decide +kernel
theorem d_L_law_647 : decode b_L_law 647 = .ok (.iload 5, 2) := by decide +kernel
theorem d_L_law_649 : decode b_L_law 649 = .ok (.ifCond .ne 15, 3) := by decide +kernel
theorem d_L_law_652 : decode b_L_law 652 = .ok (.aload_n 3, 1) := by decide +kernel
theorem d_L_law_653 : decode b_L_law 653 = .ok (.iconst 0, 1) := by decide +kernel
theorem d_L_law_654 : decode b_L_law 654 = .ok (.laload, 1) := by decide +kernel
theorem d_L_law_655 : decode b_L_law 655 = .ok (.iload 6, 2) := by decide +kernel
theorem d_L_law_657 : decode b_L_law 657 = .ok (.i2l, 1) := by decide +kernel
theorem d_L_law_658 : decode b_L_law 658 = .ok (.lcmp, 1) := by decide +kernel
theorem d_L_law_659 : decode b_L_law 659 = .ok (.ifCond .eq 5, 3) := by decide +kernel
theorem d_L_law_662 : decode b_L_law 662 = .ok (.iconst 0, 1) := by decide +kernel
theorem d_L_law_663 : decode b_L_law 663 = .ok (.ireturn, 1) := by decide +kernel
theorem d_L_law_664 : decode b_L_law 664 = .ok (.goto 128, 3) := by decide +kernel
theorem d_L_law_667 : decode b_L_law 667 = .ok (.aload_n 1, 1) := by decide +kernel
theorem d_L_law_668 : decode b_L_law 668 = .ok (.aload_n 0, 1) := by decide +kernel
theorem d_L_law_669 : decode b_L_law 669 = .ok (.iload 4, 2) := by decide +kernel
theorem d_L_law_671 : decode b_L_law 671 = .ok (.iconst 1, 1) := by decide +kernel
theorem d_L_law_672 : decode b_L_law 672 = .ok (.iadd, 1) := by decide +kernel
theorem d_L_law_673 : decode b_L_law 673 = .ok (.iaload, 1) := by decide +kernel
theorem d_L_law_674 : decode b_L_law 674 = .ok (.aload_n 3, 1) := by decide +kernel
theorem d_L_law_675 : decode b_L_law 675 = .ok (.invokestatic 91, 3) := by decide +kernel
theorem d_L_law_678 : decode b_L_law 678 = .ok (.istore 5, 2) := by decide +kernel
theorem d_L_law_680 : decode b_L_law 680 = .ok (.aload_n 2, 1) := by decide +kernel
theorem d_L_law_681 : decode b_L_law 681 = .ok (.aload_n 0, 1) := by decide +kernel
theorem d_L_law_682 : decode b_L_law 682 = .ok (.iload 4, 2) := by decide +kernel
theorem d_L_law_684 : decode b_L_law 684 = .ok (.iconst 1, 1) := by decide +kernel
theorem d_L_law_685 : decode b_L_law 685 = .ok (.iadd, 1) := by decide +kernel
theorem d_L_law_686 : decode b_L_law 686 = .ok (.iaload, 1) := by decide +kernel
theorem d_L_law_687 : decode b_L_law 687 = .ok (.invokevirtual 93, 3) := by decide +kernel
theorem d_L_law_690 : decode b_L_law 690 = .ok (.istore 6, 2) := by decide +kernel
theorem d_L_law_692 : decode b_L_law 692 = .ok (.aload_n 2, 1) := by decide +kernel
theorem d_L_law_693 : decode b_L_law 693 = .ok (.invokevirtual 59, 3) := by decide +kernel
theorem d_L_law_696 : decode b_L_law 696 = .ok (.iload 5, 2) := by decide +kernel
theorem d_L_law_698 : decode b_L_law 698 = .ok (.if_icmp .eq 5, 3) := by decide +kernel
theorem d_L_law_701 : decode b_L_law 701 = .ok (.iconst 0, 1) := by decide +kernel
theorem d_L_law_702 : decode b_L_law 702 = .ok (.ireturn, 1) := by decide +kernel
theorem d_L_law_703 : decode b_L_law 703 = .ok (.iload 5, 2) := by decide +kernel
theorem d_L_law_705 : decode b_L_law 705 = .ok (.ifCond .ne 15, 3) := by decide +kernel
theorem d_L_law_708 : decode b_L_law 708 = .ok (.aload_n 3, 1) := by decide +kernel
theorem d_L_law_709 : decode b_L_law 709 = .ok (.iconst 0, 1) := by decide +kernel
theorem d_L_law_710 : decode b_L_law 710 = .ok (.laload, 1) := by decide +kernel
theorem d_L_law_711 : decode b_L_law 711 = .ok (.iload 6, 2) := by decide +kernel
theorem d_L_law_713 : decode b_L_law 713 = .ok (.i2l, 1) := by decide +kernel
theorem d_L_law_714 : decode b_L_law 714 = .ok (.lcmp, 1) := by decide +kernel
theorem d_L_law_715 : decode b_L_law 715 = .ok (.ifCond .eq 5, 3) := by decide +kernel
theorem d_L_law_718 : decode b_L_law 718 = .ok (.iconst 0, 1) := by decide +kernel
theorem d_L_law_719 : decode b_L_law 719 = .ok (.ireturn, 1) := by decide +kernel
theorem d_L_law_720 : decode b_L_law 720 = .ok (.goto 72, 3) := by decide +kernel
theorem d_L_law_723 : decode b_L_law 723 = .ok (.aload_n 1, 1) := by decide +kernel
theorem d_L_law_724 : decode b_L_law 724 = .ok (.aload_n 0, 1) := by decide +kernel
theorem d_L_law_725 : decode b_L_law 725 = .ok (.iload 4, 2) := by decide +kernel
theorem d_L_law_727 : decode b_L_law 727 = .ok (.iconst 1, 1) := by decide +kernel
theorem d_L_law_728 : decode b_L_law 728 = .ok (.iadd, 1) := by decide +kernel
theorem d_L_law_729 : decode b_L_law 729 = .ok (.iaload, 1) := by decide +kernel
theorem d_L_law_730 : decode b_L_law 730 = .ok (.aload_n 3, 1) := by decide +kernel
theorem d_L_law_731 : decode b_L_law 731 = .ok (.invokestatic 94, 3) := by decide +kernel
theorem d_L_law_734 : decode b_L_law 734 = .ok (.istore 5, 2) := by decide +kernel
theorem d_L_law_736 : decode b_L_law 736 = .ok (.aload_n 2, 1) := by decide +kernel
theorem d_L_law_737 : decode b_L_law 737 = .ok (.aload_n 0, 1) := by decide +kernel
theorem d_L_law_738 : decode b_L_law 738 = .ok (.iload 4, 2) := by decide +kernel
theorem d_L_law_740 : decode b_L_law 740 = .ok (.iconst 1, 1) := by decide +kernel
theorem d_L_law_741 : decode b_L_law 741 = .ok (.iadd, 1) := by decide +kernel
theorem d_L_law_742 : decode b_L_law 742 = .ok (.iaload, 1) := by decide +kernel
theorem d_L_law_743 : decode b_L_law 743 = .ok (.invokevirtual 96, 3) := by decide +kernel
theorem d_L_law_746 : decode b_L_law 746 = .ok (.istore 6, 2) := by decide +kernel
theorem d_L_law_748 : decode b_L_law 748 = .ok (.aload_n 2, 1) := by decide +kernel
theorem d_L_law_749 : decode b_L_law 749 = .ok (.invokevirtual 59, 3) := by decide +kernel
theorem d_L_law_752 : decode b_L_law 752 = .ok (.iload 5, 2) := by decide +kernel
theorem d_L_law_754 : decode b_L_law 754 = .ok (.if_icmp .eq 5, 3) := by decide +kernel
theorem d_L_law_757 : decode b_L_law 757 = .ok (.iconst 0, 1) := by decide +kernel
theorem d_L_law_758 : decode b_L_law 758 = .ok (.ireturn, 1) := by decide +kernel
theorem d_L_law_759 : decode b_L_law 759 = .ok (.iload 5, 2) := by decide +kernel
theorem d_L_law_761 : decode b_L_law 761 = .ok (.ifCond .ne 15, 3) := by decide +kernel
theorem d_L_law_764 : decode b_L_law 764 = .ok (.aload_n 3, 1) := by decide +kernel
theorem d_L_law_765 : decode b_L_law 765 = .ok (.iconst 0, 1) := by decide +kernel
theorem d_L_law_766 : decode b_L_law 766 = .ok (.laload, 1) := by decide +kernel
theorem d_L_law_767 : decode b_L_law 767 = .ok (.iload 6, 2) := by decide +kernel
theorem d_L_law_769 : decode b_L_law 769 = .ok (.i2l, 1) := by decide +kernel
theorem d_L_law_770 : decode b_L_law 770 = .ok (.lcmp, 1) := by decide +kernel
theorem d_L_law_771 : decode b_L_law 771 = .ok (.ifCond .eq 5, 3) := by decide +kernel
theorem d_L_law_774 : decode b_L_law 774 = .ok (.iconst 0, 1) := by decide +kernel
theorem d_L_law_775 : decode b_L_law 775 = .ok (.ireturn, 1) := by decide +kernel
theorem d_L_law_776 : decode b_L_law 776 = .ok (.goto 16, 3) := by decide +kernel
theorem d_L_law_779 : decode b_L_law 779 = .ok (.aload_n 1, 1) := by decide +kernel
theorem d_L_law_780 : decode b_L_law 780 = .ok (.invokevirtual 97, 3) := by decide +kernel
theorem d_L_law_783 : decode b_L_law 783 = .ok (.aload_n 2, 1) := by decide +kernel
theorem d_L_law_784 : decode b_L_law 784 = .ok (.invokevirtual 100, 3) := by decide +kernel
theorem d_L_law_787 : decode b_L_law 787 = .ok (.if_icmp .eq 5, 3) := by decide +kernel
theorem d_L_law_790 : decode b_L_law 790 = .ok (.iconst 0, 1) := by decide +kernel
theorem d_L_law_791 : decode b_L_law 791 = .ok (.ireturn, 1) := by decide +kernel
theorem d_L_law_792 : decode b_L_law 792 = .ok (.iinc 4 5, 3) := by decide +kernel
theorem d_L_law_795 : decode b_L_law 795 = .ok (.goto (-772), 3) := by decide +kernel
theorem d_L_law_798 : decode b_L_law 798 = .ok (.iconst 1, 1) := by decide +kernel
theorem d_L_law_799 : decode b_L_law 799 = .ok (.ireturn, 1) := by decide +kernel
theorem d_J_bitCount_0 : decode b_J_bitCount 0 = .ok (.iload_n 0, 1) := by decide +kernel
theorem d_J_bitCount_1 : decode b_J_bitCount 1 = .ok (.iload_n 0, 1) := by decide +kernel
end
section
theorem d_J_bitCount_2 : decode b_J_bitCount 2 = .ok (.iconst 1, 1) := by decide +kernel
theorem d_J_bitCount_3 : decode b_J_bitCount 3 = .ok (.iushr, 1) := by decide +kernel
theorem d_J_bitCount_4 : decode b_J_bitCount 4 = .ok (.ldc_w 265, 3) := by decide +kernel
theorem d_J_bitCount_7 : decode b_J_bitCount 7 = .ok (.iand, 1) := by decide +kernel
theorem d_J_bitCount_8 : decode b_J_bitCount 8 = .ok (.isub, 1) := by decide +kernel
theorem d_J_bitCount_9 : decode b_J_bitCount 9 = .ok (.istore_n 0, 1) := by decide +kernel
theorem d_J_bitCount_10 : decode b_J_bitCount 10 = .ok (.iload_n 0, 1) := by decide +kernel
theorem d_J_bitCount_11 : decode b_J_bitCount 11 = .ok (.ldc_w 266, 3) := by decide +kernel
theorem d_J_bitCount_14 : decode b_J_bitCount 14 = .ok (.iand, 1) := by decide +kernel
theorem d_J_bitCount_15 : decode b_J_bitCount 15 = .ok (.iload_n 0, 1) := by decide +kernel
theorem d_J_bitCount_16 : decode b_J_bitCount 16 = .ok (.iconst 2, 1) := by decide +kernel
theorem d_J_bitCount_17 : decode b_J_bitCount 17 = .ok (.iushr, 1) := by decide +kernel
theorem d_J_bitCount_18 : decode b_J_bitCount 18 = .ok (.ldc_w 266, 3) := by decide +kernel
theorem d_J_bitCount_21 : decode b_J_bitCount 21 = .ok (.iand, 1) := by decide +kernel
theorem d_J_bitCount_22 : decode b_J_bitCount 22 = .ok (.iadd, 1) := by decide +kernel
theorem d_J_bitCount_23 : decode b_J_bitCount 23 = .ok (.istore_n 0, 1) := by decide +kernel
theorem d_J_bitCount_24 : decode b_J_bitCount 24 = .ok (.iload_n 0, 1) := by decide +kernel
theorem d_J_bitCount_25 : decode b_J_bitCount 25 = .ok (.iload_n 0, 1) := by decide +kernel
theorem d_J_bitCount_26 : decode b_J_bitCount 26 = .ok (.iconst 4, 1) := by decide +kernel
theorem d_J_bitCount_27 : decode b_J_bitCount 27 = .ok (.iushr, 1) := by decide +kernel
theorem d_J_bitCount_28 : decode b_J_bitCount 28 = .ok (.iadd, 1) := by decide +kernel
theorem d_J_bitCount_29 : decode b_J_bitCount 29 = .ok (.ldc_w 267, 3) := by decide +kernel
theorem d_J_bitCount_32 : decode b_J_bitCount 32 = .ok (.iand, 1) := by decide +kernel
theorem d_J_bitCount_33 : decode b_J_bitCount 33 = .ok (.istore_n 0, 1) := by decide +kernel
theorem d_J_bitCount_34 : decode b_J_bitCount 34 = .ok (.iload_n 0, 1) := by decide +kernel
theorem d_J_bitCount_35 : decode b_J_bitCount 35 = .ok (.iload_n 0, 1) := by decide +kernel
theorem d_J_bitCount_36 : decode b_J_bitCount 36 = .ok (.bipush 8, 2) := by decide +kernel
theorem d_J_bitCount_38 : decode b_J_bitCount 38 = .ok (.iushr, 1) := by decide +kernel
theorem d_J_bitCount_39 : decode b_J_bitCount 39 = .ok (.iadd, 1) := by decide +kernel
theorem d_J_bitCount_40 : decode b_J_bitCount 40 = .ok (.istore_n 0, 1) := by decide +kernel
theorem d_J_bitCount_41 : decode b_J_bitCount 41 = .ok (.iload_n 0, 1) := by decide +kernel
theorem d_J_bitCount_42 : decode b_J_bitCount 42 = .ok (.iload_n 0, 1) := by decide +kernel
theorem d_J_bitCount_43 : decode b_J_bitCount 43 = .ok (.bipush 16, 2) := by decide +kernel
theorem d_J_bitCount_45 : decode b_J_bitCount 45 = .ok (.iushr, 1) := by decide +kernel
theorem d_J_bitCount_46 : decode b_J_bitCount 46 = .ok (.iadd, 1) := by decide +kernel
theorem d_J_bitCount_47 : decode b_J_bitCount 47 = .ok (.istore_n 0, 1) := by decide +kernel
theorem d_J_bitCount_48 : decode b_J_bitCount 48 = .ok (.iload_n 0, 1) := by decide +kernel
theorem d_J_bitCount_49 : decode b_J_bitCount 49 = .ok (.bipush 63, 2) := by decide +kernel
theorem d_J_bitCount_51 : decode b_J_bitCount 51 = .ok (.iand, 1) := by decide +kernel
theorem d_J_bitCount_52 : decode b_J_bitCount 52 = .ok (.ireturn, 1) := by decide +kernel
end
section
/-! Rows of my own over the kit's: indices and sums as naturals, methods over one world, calls within one world. -/
section XA
variable {p : Program} {l : Launch} {e : Env} {R : Room} {s : State} {m : MethodId} {args : Array Value} {below : List Frame} {meth : Method} {c : Code} {H : Heap} {locs : List Loc} {cells slots : Nat} {Q : State → Prop}
variable {cc : ByteArray} {pc : Nat} {ls : Array Slot} {rest : List Value} {D : va_G} {cl : List vw_C} {A : Nat → Prop} {a : Nat} {tys : List (ClassId × FieldType)} {ws : va_W} {H0 : Heap}
theorem xa_iald (hx : p.tables.exec = Jvm.exec) (hb : c.code = cc) (hK : va_K D cl tys s) (hP : va_P D cl ws H) (q0 t0 : Nat) {cA : ClassId} {n : Nat} {f : Nat → Int32} (ha : ws[q0]? = some (a, .inl (cA, n, .inl f))) (ht : tys[t0]? = some (cA, .int)) (hn : n < 2 ^ 31) {i : Int32} (j : Nat) (hi : i = nI j) (hj : j < n) (hdg : decode cc pc = .ok (.iaload, 1))
    (kk : W p l e R s m args below meth c H locs cells slots Q (F0 m (pc + 1) ls (.int (f j) :: rest))) : W p l e R s m args below meth c H locs cells slots Q (F0 m pc ls (.int i :: .ref a :: rest)) := by
  subst hi
  refine va_iald hx hb hK hP q0 t0 ha ht (vp_in_nI hj hn) hdg ?_
  rw [nI_clamp (Nat.lt_trans hj hn)]
  exact kk
theorem xa_zald (hx : p.tables.exec = Jvm.exec) (hb : c.code = cc) (hK : va_K D cl tys s) (hP : va_P D cl ws H) (q0 t0 : Nat) {cA : ClassId} {n : Nat} {f : Nat → Int32} (ha : ws[q0]? = some (a, .inl (cA, n, .inl f))) (ht : tys[t0]? = some (cA, .boolean)) (hn : n < 2 ^ 31) {i : Int32} (j : Nat) (hi : i = nI j) (hj : j < n) (hdg : decode cc pc = .ok (.baload, 1))
    (kk : W p l e R s m args below meth c H locs cells slots Q (F0 m (pc + 1) ls (.int (f j) :: rest))) : W p l e R s m args below meth c H locs cells slots Q (F0 m pc ls (.int i :: .ref a :: rest)) := by
  subst hi
  refine va_zald hx hb hK hP q0 t0 ha ht (vp_in_nI hj hn) hdg ?_
  rw [nI_clamp (Nat.lt_trans hj hn)]
  exact kk
theorem xa_lald (hx : p.tables.exec = Jvm.exec) (hb : c.code = cc) (hK : va_K D cl tys s) (hP : va_P D cl ws H) (q0 t0 : Nat) {cA : ClassId} {n : Nat} {f : Nat → Int64} (ha : ws[q0]? = some (a, .inl (cA, n, .inr (.inl f)))) (ht : tys[t0]? = some (cA, .long)) (hn : n < 2 ^ 31) {i : Int32} (j : Nat) (hi : i = nI j) (hj : j < n) (hdg : decode cc pc = .ok (.laload, 1))
    (kk : W p l e R s m args below meth c H locs cells slots Q (F0 m (pc + 1) ls (.long (f j) :: rest))) : W p l e R s m args below meth c H locs cells slots Q (F0 m pc ls (.int i :: .ref a :: rest)) := by
  subst hi
  refine va_lald hx hb hK hP q0 t0 ha ht (vp_in_nI hj hn) hdg ?_
  rw [nI_clamp (Nat.lt_trans hj hn)]
  exact kk
theorem xa_iast (hx : p.tables.exec = Jvm.exec) (hb : c.code = cc) (hK : va_K D cl tys s) (hP : va_P D cl ws H) (hD : va_D A ws) (hS : va_S A H0 H locs) (q0 t0 : Nat) {cA : ClassId} {n : Nat} {f : Nat → Int32} (ha : ws[q0]? = some (a, .inl (cA, n, .inl f))) (ht : tys[t0]? = some (cA, .int)) (hn : n < 2 ^ 31) {i x : Int32} (j : Nat) (hi : i = nI j) (hj : j < n) (hdg : decode cc pc = .ok (.iastore, 1))
    (kk : ∀ (H1 : Heap) (locs1 : List Loc), va_P D cl (ws.set q0 (a, .inl (cA, n, .inl (upd f j x)))) H1 → va_D A (ws.set q0 (a, .inl (cA, n, .inl (upd f j x)))) → va_S A H0 H1 locs1 → W p l e R s m args below meth c H1 locs1 cells slots Q (F0 m (pc + 1) ls rest)) : W p l e R s m args below meth c H locs cells slots Q (F0 m pc ls (.int x :: .int i :: .ref a :: rest)) := by
  subst hi
  refine va_iast hx hb hK hP hD hS q0 t0 ha ht (vp_in_nI hj hn) hdg ?_
  rw [nI_clamp (Nat.lt_trans hj hn)]
  exact kk
theorem xa_zast (hx : p.tables.exec = Jvm.exec) (hb : c.code = cc) (hK : va_K D cl tys s) (hP : va_P D cl ws H) (hD : va_D A ws) (hS : va_S A H0 H locs) (q0 t0 : Nat) {cA : ClassId} {n : Nat} {f : Nat → Int32} (ha : ws[q0]? = some (a, .inl (cA, n, .inl f))) (ht : tys[t0]? = some (cA, .boolean)) (hn : n < 2 ^ 31) {i x : Int32} (hz : x = 0 ∨ x = 1) (j : Nat) (hi : i = nI j) (hj : j < n) (hdg : decode cc pc = .ok (.bastore, 1))
    (kk : ∀ (H1 : Heap) (locs1 : List Loc), va_P D cl (ws.set q0 (a, .inl (cA, n, .inl (upd f j x)))) H1 → va_D A (ws.set q0 (a, .inl (cA, n, .inl (upd f j x)))) → va_S A H0 H1 locs1 → W p l e R s m args below meth c H1 locs1 cells slots Q (F0 m (pc + 1) ls rest)) : W p l e R s m args below meth c H locs cells slots Q (F0 m pc ls (.int x :: .int i :: .ref a :: rest)) := by
  subst hi
  refine va_zast hx hb hK hP hD hS q0 t0 ha ht (vp_in_nI hj hn) hdg ?_
  have hv : vp_nar .boolean x = x := by rcases hz with h | h <;> subst h <;> decide +kernel
  rw [nI_clamp (Nat.lt_trans hj hn), hv]
  exact kk
theorem xa_last (hx : p.tables.exec = Jvm.exec) (hb : c.code = cc) (hK : va_K D cl tys s) (hP : va_P D cl ws H) (hD : va_D A ws) (hS : va_S A H0 H locs) (q0 t0 : Nat) {cA : ClassId} {n : Nat} {f : Nat → Int64} (ha : ws[q0]? = some (a, .inl (cA, n, .inr (.inl f)))) (ht : tys[t0]? = some (cA, .long)) (hn : n < 2 ^ 31) {i : Int32} {x : Int64} (j : Nat) (hi : i = nI j) (hj : j < n) (hdg : decode cc pc = .ok (.lastore, 1))
    (kk : ∀ (H1 : Heap) (locs1 : List Loc), va_P D cl (ws.set q0 (a, .inl (cA, n, .inr (.inl (vp_updL f j x))))) H1 → va_D A (ws.set q0 (a, .inl (cA, n, .inr (.inl (vp_updL f j x))))) → va_S A H0 H1 locs1 → W p l e R s m args below meth c H1 locs1 cells slots Q (F0 m (pc + 1) ls rest)) : W p l e R s m args below meth c H locs cells slots Q (F0 m pc ls (.long x :: .int i :: .ref a :: rest)) := by
  subst hi
  refine va_last hx hb hK hP hD hS q0 t0 ha ht (vp_in_nI hj hn) hdg ?_
  rw [nI_clamp (Nat.lt_trans hj hn)]
  exact kk
theorem xa_irem (hx : p.tables.exec = Jvm.exec) (hb : c.code = cc) {x y : Int32} (i d : Nat) (hi : x = nI i) (hd : y = nI d) (hl : i < 2 ^ 31) (h0 : 0 < d) (h1 : d < 2 ^ 31) (hdg : decode cc pc = .ok (.irem, 1))
    (kk : W p l e R s m args below meth c H locs cells slots Q (F0 m (pc + 1) ls (.int (nI (i % d)) :: rest))) : W p l e R s m args below meth c H locs cells slots Q (F0 m pc ls (.int y :: .int x :: rest)) := by
  subst hi; subst hd
  refine lv_irem hx hb hdg (nI_ne0 h0 h1) ?_
  rw [pk_rem hl h0 h1]
  exact kk
theorem xa_idiv (hx : p.tables.exec = Jvm.exec) (hb : c.code = cc) {x y : Int32} (i d : Nat) (hi : x = nI i) (hd : y = nI d) (hl : i < 2 ^ 31) (h0 : 0 < d) (h1 : d < 2 ^ 31) (hdg : decode cc pc = .ok (.idiv, 1))
    (kk : W p l e R s m args below meth c H locs cells slots Q (F0 m (pc + 1) ls (.int (nI (i / d)) :: rest))) : W p l e R s m args below meth c H locs cells slots Q (F0 m pc ls (.int y :: .int x :: rest)) := by
  subst hi; subst hd
  refine lv_idiv hx hb hdg (nI_ne0 h0 h1) ?_
  rw [pk_div hl h0 h1]
  exact kk
theorem xa_iadd (hx : p.tables.exec = Jvm.exec) (hb : c.code = cc) {x y : Int32} (i d : Nat) (hi : x = nI i) (hd : y = nI d) (hdg : decode cc pc = .ok (.iadd, 1))
    (kk : W p l e R s m args below meth c H locs cells slots Q (F0 m (pc + 1) ls (.int (nI (i + d)) :: rest))) : W p l e R s m args below meth c H locs cells slots Q (F0 m pc ls (.int y :: .int x :: rest)) := by
  subst hi; subst hd
  refine lv_iadd hx hb hdg ?_
  rw [nI_add]
  exact kk
theorem xa_isub (hx : p.tables.exec = Jvm.exec) (hb : c.code = cc) {x y : Int32} (i d : Nat) (hi : x = nI i) (hd : y = nI d) (hle : d ≤ i) (hdg : decode cc pc = .ok (.isub, 1))
    (kk : W p l e R s m args below meth c H locs cells slots Q (F0 m (pc + 1) ls (.int (nI (i - d)) :: rest))) : W p l e R s m args below meth c H locs cells slots Q (F0 m pc ls (.int y :: .int x :: rest)) := by
  subst hi; subst hd
  refine lv_isub hx hb hdg ?_
  rw [pk_sub hle]
  exact kk
theorem xa_imul (hx : p.tables.exec = Jvm.exec) (hb : c.code = cc) {x y : Int32} (i d : Nat) (hi : x = nI i) (hd : y = nI d) (hdg : decode cc pc = .ok (.imul, 1))
    (kk : W p l e R s m args below meth c H locs cells slots Q (F0 m (pc + 1) ls (.int (nI (i * d)) :: rest))) : W p l e R s m args below meth c H locs cells slots Q (F0 m pc ls (.int y :: .int x :: rest)) := by
  subst hi; subst hd
  refine lv_imul hx hb hdg ?_
  rw [pk_mul]
  exact kk
theorem xa_ishl (hx : p.tables.exec = Jvm.exec) (hb : c.code = cc) {x y v : Int32} (hv : x <<< (y &&& 31) = v) (hdg : decode cc pc = .ok (.ishl, 1))
    (kk : W p l e R s m args below meth c H locs cells slots Q (F0 m (pc + 1) ls (.int v :: rest))) : W p l e R s m args below meth c H locs cells slots Q (F0 m pc ls (.int y :: .int x :: rest)) := by
  subst hv
  exact lv_ishl hx hb hdg kk
/-- another name for the number on top -/
theorem xa_top {x : Int32} (y : Int32) (h : x = y) (kk : W p l e R s m args below meth c H locs cells slots Q (F0 m pc ls (.int y :: rest))) : W p l e R s m args below meth c H locs cells slots Q (F0 m pc ls (.int x :: rest)) := by subst h; exact kk
end XA
/-! ===== methods over a world 'wf u' of one object (and its arrays) ===== -/
abbrev XPre {S : Type} (D : va_G) (cl : List vw_C) (wf : S → va_W) (tys : List (ClassId × FieldType)) (u : S) (sz : Nat) : State → Prop := fun U => U.heap.size = sz ∧ va_P D cl (wf u) U.heap ∧ va_K D cl tys U ∧ va_D (fun _ => True) (wf u)
abbrev XAt {S : Type} (D : va_G) (cl : List vw_C) (wf : S → va_W) (tys : List (ClassId × FieldType)) (A : Nat → Prop) (u : S) (t : State) : Prop := va_P D cl (wf u) t.heap ∧ va_K D cl tys t ∧ va_D A (wf u)
def XMi {S : Type} (l : Launch) (y : MethodName) (k : Cond) (rm : Room) (D : va_G) (cl : List vw_C) (wf : S → va_W) (tys : List (ClassId × FieldType)) (u : S) (sz : Nat) (av : List Value) (post : Int32 → S → Prop) : Prop :=
  Met l y (k :: TB) rm (va_Pc av (XPre D cl wf tys u sz)) (va_Qi post (XAt D cl wf tys (va_A (wf u) sz)) (va_A (wf u) sz)) 0 0 (va_A (wf u) sz)
def XMv {S : Type} (l : Launch) (y : MethodName) (k : Cond) (rm : Room) (D : va_G) (cl : List vw_C) (wf : S → va_W) (tys : List (ClassId × FieldType)) (u : S) (sz : Nat) (av : List Value) (post : S → Prop) : Prop :=
  Met l y (k :: TB) rm (va_Pc av (XPre D cl wf tys u sz)) (va_Qv post (XAt D cl wf tys (va_A (wf u) sz)) (va_A (wf u) sz)) 0 0 (va_A (wf u) sz)
/-- a static method of numbers alone -/
def XMs (l : Launch) (y : MethodName) (k : Cond) (rm : Room) (av : List Value) (post : Int32 → Prop) : Prop :=
  Met l y (k :: TB) rm (va_Pc av (fun _ => True)) (vp_Si post) 0 0 (fun _ => False)
section XB
variable {S : Type} {l : Launch} {y : MethodName} {k : Cond} {rm : Room} {D : va_G} {cl : List vw_C} {wf : S → va_W} {tys : List (ClassId × FieldType)} {u : S} {sz : Nat} {av : List Value} {cc : ByteArray} {maxL : Nat} {ret : Option FieldType}
theorem xb_ofi {post : Int32 → S → Prop} (hy : plainName y.cls = true) (hk : k = Cond.code y cc maxL ret) (hlen : (lg_sl av).length ≤ maxL)
    (body : ∀ (p : Program) (e : Env) (s : State) (m : MethodId) (below : List Frame) (meth : Method) (c : Code) (A : Nat → Prop) (ls : Array Slot), s.heap.size = sz → p.tables.exec = Jvm.exec → c.code = cc → c.maxLocals = maxL → meth.sig.returnType = ret → meth.locks = false → (∀ w ∈ k :: TB, w.before av.toArray s = true) → s.vm.findClass y.cls = some m.cls → va_P D cl (wf u) s.heap → va_K D cl tys s → va_D A (wf u) → (∀ q, s.heap.size ≤ q → A q) → lv_has ls maxL (lv_args 0 av) →
      W p l e rm s m av.toArray below meth c s.heap [] 0 0 (MQ below (va_Qi post (XAt D cl wf tys A) A) av.toArray s 0 0 A) (F0 m 0 ls [])) : XMi l y k rm D cl wf tys u sz av post := by
  refine Met.ofW (cc := cc) (maxL := maxL) (ret := ret) hy (by rw [hk]) ?_
  intro p e s m args below meth c s₁ B hml hv
  obtain ⟨rfl, hsz, hP, hK, hD0⟩ := hv
  subst hsz
  have hl := lv_entry av (n := maxL) hlen
  rw [lg_entry_eq]
  generalize (lg_sl av ++ List.replicate (maxL - (lg_sl av).length) Slot.unset).toArray = ls at hl ⊢
  exact body p e s m below meth c _ ls rfl B.exec B.bytes hml B.returns B.notSynchronized (atoms_spec (ws := k :: TB) B.pre) (findClass_of_methodNamed B.named) hP hK hD0.self (fun q h => Or.inr h) hl
theorem xb_ofv {post : S → Prop} (hy : plainName y.cls = true) (hk : k = Cond.code y cc maxL ret) (hlen : (lg_sl av).length ≤ maxL)
    (body : ∀ (p : Program) (e : Env) (s : State) (m : MethodId) (below : List Frame) (meth : Method) (c : Code) (A : Nat → Prop) (ls : Array Slot), s.heap.size = sz → p.tables.exec = Jvm.exec → c.code = cc → c.maxLocals = maxL → meth.sig.returnType = ret → meth.locks = false → (∀ w ∈ k :: TB, w.before av.toArray s = true) → s.vm.findClass y.cls = some m.cls → va_P D cl (wf u) s.heap → va_K D cl tys s → va_D A (wf u) → (∀ q, s.heap.size ≤ q → A q) → lv_has ls maxL (lv_args 0 av) →
      W p l e rm s m av.toArray below meth c s.heap [] 0 0 (MQ below (va_Qv post (XAt D cl wf tys A) A) av.toArray s 0 0 A) (F0 m 0 ls [])) : XMv l y k rm D cl wf tys u sz av post := by
  refine Met.ofW (cc := cc) (maxL := maxL) (ret := ret) hy (by rw [hk]) ?_
  intro p e s m args below meth c s₁ B hml hv
  obtain ⟨rfl, hsz, hP, hK, hD0⟩ := hv
  subst hsz
  have hl := lv_entry av (n := maxL) hlen
  rw [lg_entry_eq]
  generalize (lg_sl av ++ List.replicate (maxL - (lg_sl av).length) Slot.unset).toArray = ls at hl ⊢
  exact body p e s m below meth c _ ls rfl B.exec B.bytes hml B.returns B.notSynchronized (atoms_spec (ws := k :: TB) B.pre) (findClass_of_methodNamed B.named) hP hK hD0.self (fun q h => Or.inr h) hl
theorem xb_ofs {post : Int32 → Prop} (hy : plainName y.cls = true) (hk : k = Cond.code y cc maxL ret) (hlen : (lg_sl av).length ≤ maxL)
    (body : ∀ (p : Program) (e : Env) (s : State) (m : MethodId) (below : List Frame) (meth : Method) (c : Code) (ls : Array Slot), p.tables.exec = Jvm.exec → c.code = cc → c.maxLocals = maxL → meth.sig.returnType = ret → meth.locks = false → (∀ w ∈ k :: TB, w.before av.toArray s = true) → s.vm.findClass y.cls = some m.cls → lv_has ls maxL (lv_args 0 av) →
      W p l e rm s m av.toArray below meth c s.heap [] 0 0 (MQ below (vp_Si post) av.toArray s 0 0 (fun _ => False)) (F0 m 0 ls [])) : XMs l y k rm av post := by
  refine Met.ofW (cc := cc) (maxL := maxL) (ret := ret) hy (by rw [hk]) ?_
  intro p e s m args below meth c s₁ B hml hv
  obtain ⟨rfl, -⟩ := hv
  have hl := lv_entry av (n := maxL) hlen
  rw [lg_entry_eq]
  generalize (lg_sl av ++ List.replicate (maxL - (lg_sl av).length) Slot.unset).toArray = ls at hl ⊢
  exact body p e s m below meth c ls B.exec B.bytes hml B.returns B.notSynchronized (atoms_spec (ws := k :: TB) B.pre) (findClass_of_methodNamed B.named) hl
end XB
section XC
variable {S : Type} {p : Program} {l : Launch} {e : Env} {R : Room} {s : State} {m : MethodId} {args : Array Value} {below : List Frame} {meth : Method} {c : Code} {H : Heap} {locs : List Loc} {cells slots : Nat} {Q : State → Prop}
variable {cc : ByteArray} {pc : Nat} {ls : Array Slot} {rest : List Value} {D : va_G} {cl : List vw_C} {A : Nat → Prop} {tys : List (ClassId × FieldType)} {H0 : Heap} {wf : S → va_W} {u : S}
theorem xc_iret {post : Int32 → S → Prop} {v : Int32} (hx : p.tables.exec = Jvm.exec) (hb : c.code = cc) (hr : meth.sig.returnType = some .int) (hlocks : meth.locks = false) (hP : va_P D cl (wf u) H) (hK : va_K D cl tys s) (hD : va_D A (wf u)) (hS : va_S A s.heap H locs) (hp : post v u) (hdg : decode cc pc = .ok (.ireturn, 1)) :
    W p l e R s m args below meth c H locs cells slots (MQ below (va_Qi post (XAt D cl wf tys A) A) args s cells slots A) (F0 m pc ls [.int v]) :=
  W.iret (v := v) hx hb hr (fun t ht hW => ⟨⟨v, u, rfl, hp, by rw [ht]; exact hP, va_K.moved hW.alike hK, hD⟩, hS.F ht⟩) hS.2.2 hdg hlocks
theorem xc_zret {post : Int32 → S → Prop} {v : Int32} (hx : p.tables.exec = Jvm.exec) (hb : c.code = cc) (hr : meth.sig.returnType = some .boolean) (hlocks : meth.locks = false) (hz : v = 0 ∨ v = 1) (hP : va_P D cl (wf u) H) (hK : va_K D cl tys s) (hD : va_D A (wf u)) (hS : va_S A s.heap H locs) (hp : post v u) (hdg : decode cc pc = .ok (.ireturn, 1)) :
    W p l e R s m args below meth c H locs cells slots (MQ below (va_Qi post (XAt D cl wf tys A) A) args s cells slots A) (F0 m pc ls [.int v]) :=
  W.zret (v := v) (ty := .boolean) hx hb hr (by rcases hz with h | h <;> subst h <;> decide +kernel) (fun t ht hW => ⟨⟨v, u, rfl, hp, by rw [ht]; exact hP, va_K.moved hW.alike hK, hD⟩, hS.F ht⟩) hS.2.2 hdg hlocks
theorem xc_vret {post : S → Prop} (hx : p.tables.exec = Jvm.exec) (hb : c.code = cc) (hr : meth.sig.returnType = none) (hlocks : meth.locks = false) (hP : va_P D cl (wf u) H) (hK : va_K D cl tys s) (hD : va_D A (wf u)) (hS : va_S A s.heap H locs) (hp : post u) (hdg : decode cc pc = .ok (.return_, 1)) :
    W p l e R s m args below meth c H locs cells slots (MQ below (va_Qv post (XAt D cl wf tys A) A) args s cells slots A) (F0 m pc ls []) :=
  W.vret hx hb hr (fun t ht hW => ⟨⟨u, rfl, hp, by rw [ht]; exact hP, va_K.moved hW.alike hK, hD⟩, hS.F ht⟩) hS.2.2 hdg hlocks
theorem xc_sret {post : Int32 → Prop} {v : Int32} (hx : p.tables.exec = Jvm.exec) (hb : c.code = cc) (hr : meth.sig.returnType = some .int) (hlocks : meth.locks = false) (hp : post v) (hdg : decode cc pc = .ok (.ireturn, 1)) :
    W p l e R s m args below meth c s.heap [] cells slots (MQ below (vp_Si post) args s cells slots (fun _ => False)) (F0 m pc ls [.int v]) :=
  W.iret (v := v) hx hb hr (fun t ht _ => ⟨v, rfl, hp, ht⟩) (fun q h => by cases h) hdg hlocks
variable {y : MethodName} {k c1 : Cond} {rm : Room} {As : List Value} {b idx n maxL : Nat} {bytes : ByteArray} {ret : Option FieldType} {nL : Nat} {st0 : List Value}
/-- a call of an object's own method, over the whole world -/
theorem xc_calli {post : Int32 → S → Prop} {C : String} {ci : Nat} {q : vw_C} {fs : List Value} (hx : p.tables.exec = Jvm.exec) (hb : c.code = cc) (hml : c.maxLocals = nL) (hown : s.vm.findClass C = some m.cls) (hts : ∀ w ∈ c1 :: TB, w.before args s = true)
    (hM : XMi l y k rm D cl wf tys u H.size (.ref b :: As) post) (hG : GoodIn (c1 :: TB) (wsV C idx C y (k :: TB))) (hk : k = Cond.code y bytes maxL ret) (hrc : rm.cells = 0) (hrs : rm.slots = 0)
    (hd : y.cls = C ∧ y.cls ≠ "java/lang/invoke/MethodHandle" ∧ y.cls ≠ "java/lang/invoke/VarHandle" ∧ (parseMethodDescriptor y.desc).map (fun d => d.parameters.length) = some n) (hR : rm.frames + 1 ≤ R.frames ∧ 8 + (maxL + 11) + rm.locals ≤ R.locals)
    (hK : va_K D cl tys s) (hP : va_P D cl (wf u) H) (hD : va_D A (wf u)) (hS : va_S A H0 H locs) (hA : ∀ q, H0.size ≤ q → A q) (hc : cl[ci]? = some q) (hq : q.1 = C) (he : (wf u)[0]? = some (b, .inr (ci, fs)))
    (hn : As.length = n) (hsize : ls.size = nL) (hst : st0 = As.reverse ++ .ref b :: rest) (hW : (rest.map fun v => v.category).sum ≤ 8) (hdg : decode cc pc = .ok (.invokevirtual idx, 3)) (hf : cells ≤ R.cells ∧ slots ≤ R.slots)
    (kk : ∀ (r : Int32) (u' : S) (H1 : Heap) (locs1 : List Loc), post r u' → va_P D cl (wf u') H1 → va_D A (wf u') → va_S A H0 H1 locs1 → W p l e R s m args below meth c H1 locs1 cells slots Q (F0 m (pc + 3) ls (.int r :: rest))) : W p l e R s m args below meth c H locs cells slots Q (F0 m pc ls st0) := by
  have hFc : ∀ q, va_A (wf u) H.size q → A q := fun q h => by
    rcases h with ⟨i, e, h⟩ | h
    · exact hD.2 i _ h
    · exact hA q (Nat.le_trans hS.1 h)
  have hrecv := va_recv hK hP hc he
  rw [hq] at hrecv
  refine va_calli (va_runV (As := As) (rest := rest) (b := b) ⟨hx, hb, hml, hown, hts⟩ hM (cwV n hts hG (by rw [hk]) hrc hrs hd hR) ⟨fun a U g mk q => by obtain ⟨q0, q1, qP, qK, qD⟩ := q; exact ⟨q0, q1, qP, va_K.moved (u := U) (U := U.calling g mk a) (Vm.Alike.refl U.vm) qK, qD⟩, hrecv, fun U hU hW => ⟨rfl, by rw [hU], by rw [hU]; exact hP, va_K.moved hW.alike hK, hD.weaken (fun _ _ _ _ => trivial)⟩⟩ rfl hn hsize hst (lv_room hW) hdg hf) hS (fun q _ h => hFc q h) hFc (fun r u t H1 locs ht hvm hw hB hz1 hk1 hS => ?_)
  obtain ⟨hP1, hK1, hD1⟩ := hB
  rw [ht] at hP1
  exact kk r u H1 locs hw hP1 (hD1.weaken (fun _ q _ h => hFc q.1 h)) hS
theorem xc_callv {post : S → Prop} {C : String} {ci : Nat} {q : vw_C} {fs : List Value} (hx : p.tables.exec = Jvm.exec) (hb : c.code = cc) (hml : c.maxLocals = nL) (hown : s.vm.findClass C = some m.cls) (hts : ∀ w ∈ c1 :: TB, w.before args s = true)
    (hM : XMv l y k rm D cl wf tys u H.size (.ref b :: As) post) (hG : GoodIn (c1 :: TB) (wsV C idx C y (k :: TB))) (hk : k = Cond.code y bytes maxL ret) (hrc : rm.cells = 0) (hrs : rm.slots = 0)
    (hd : y.cls = C ∧ y.cls ≠ "java/lang/invoke/MethodHandle" ∧ y.cls ≠ "java/lang/invoke/VarHandle" ∧ (parseMethodDescriptor y.desc).map (fun d => d.parameters.length) = some n) (hR : rm.frames + 1 ≤ R.frames ∧ 8 + (maxL + 11) + rm.locals ≤ R.locals)
    (hK : va_K D cl tys s) (hP : va_P D cl (wf u) H) (hD : va_D A (wf u)) (hS : va_S A H0 H locs) (hA : ∀ q, H0.size ≤ q → A q) (hc : cl[ci]? = some q) (hq : q.1 = C) (he : (wf u)[0]? = some (b, .inr (ci, fs)))
    (hn : As.length = n) (hsize : ls.size = nL) (hst : st0 = As.reverse ++ .ref b :: rest) (hW : (rest.map fun v => v.category).sum ≤ 8) (hdg : decode cc pc = .ok (.invokevirtual idx, 3)) (hf : cells ≤ R.cells ∧ slots ≤ R.slots)
    (kk : ∀ (u' : S) (H1 : Heap) (locs1 : List Loc), post u' → va_P D cl (wf u') H1 → va_D A (wf u') → va_S A H0 H1 locs1 → W p l e R s m args below meth c H1 locs1 cells slots Q (F0 m (pc + 3) ls rest)) : W p l e R s m args below meth c H locs cells slots Q (F0 m pc ls st0) := by
  have hFc : ∀ q, va_A (wf u) H.size q → A q := fun q h => by
    rcases h with ⟨i, e, h⟩ | h
    · exact hD.2 i _ h
    · exact hA q (Nat.le_trans hS.1 h)
  have hrecv := va_recv hK hP hc he
  rw [hq] at hrecv
  refine va_callv (va_runV (As := As) (rest := rest) (b := b) ⟨hx, hb, hml, hown, hts⟩ hM (cwV n hts hG (by rw [hk]) hrc hrs hd hR) ⟨fun a U g mk q => by obtain ⟨q0, q1, qP, qK, qD⟩ := q; exact ⟨q0, q1, qP, va_K.moved (u := U) (U := U.calling g mk a) (Vm.Alike.refl U.vm) qK, qD⟩, hrecv, fun U hU hW => ⟨rfl, by rw [hU], by rw [hU]; exact hP, va_K.moved hW.alike hK, hD.weaken (fun _ _ _ _ => trivial)⟩⟩ rfl hn hsize hst (lv_room hW) hdg hf) hS (fun q _ h => hFc q h) hFc (fun u t H1 locs ht hvm hw hB hz1 hk1 hS => ?_)
  obtain ⟨hP1, hK1, hD1⟩ := hB
  rw [ht] at hP1
  exact kk u H1 locs hw hP1 (hD1.weaken (fun _ q _ h => hFc q.1 h)) hS
/-- a call of a static method of numbers -/
theorem xc_calls {post : Int32 → Prop} {C : String} (hx : p.tables.exec = Jvm.exec) (hb : c.code = cc) (hml : c.maxLocals = nL) (hown : s.vm.findClass C = some m.cls) (hts : ∀ w ∈ c1 :: TB, w.before args s = true)
    (hM : XMs l y k rm As post) (hG : GoodIn (c1 :: TB) (wsS C idx y (k :: TB))) (hk : k = Cond.code y bytes maxL ret) (hrc : rm.cells = 0) (hrs : rm.slots = 0)
    (hd : y.cls = C ∧ y.cls ≠ "java/lang/invoke/MethodHandle" ∧ y.cls ≠ "java/lang/invoke/VarHandle" ∧ (parseMethodDescriptor y.desc).map (fun d => d.parameters.length) = some n) (hR : rm.frames + 1 ≤ R.frames ∧ 8 + (maxL + 11) + rm.locals ≤ R.locals)
    (hn : As.length = n) (hsize : ls.size = nL) (hst : st0 = As.reverse ++ rest) (hW : (rest.map fun v => v.category).sum ≤ 8) (hdg : decode cc pc = .ok (.invokestatic idx, 3)) (hf : cells ≤ R.cells ∧ slots ≤ R.slots)
    (kk : ∀ r : Int32, post r → W p l e R s m args below meth c H locs cells slots Q (F0 m (pc + 3) ls (.int r :: rest))) : W p l e R s m args below meth c H locs cells slots Q (F0 m pc ls st0) :=
  vp_callSi (W.runS (As := As) (rest := rest) ⟨hx, hb, hml, hown, hts⟩ hM (cwS n hts hG (by rw [hk]) hrc hrs hd hR) ⟨fun a U g mk q => ⟨q.1, trivial⟩, fun U hU hW => ⟨rfl, trivial⟩⟩ rfl hn hsize hst (lv_room hW) hdg hf) kk
end XC
end
section
abbrev TC : Type := (Nat → Int32) × (Nat → Int32) × (Nat → Int32) × (Nat → Int32) × (Nat → Int32) × (Nat → Int32) × (Nat → Int32) × (Nat → Int32) × Int32 × Int32 × Int32 × Int32
def tSt (u : TC) : (Nat → Int32) := u.1
def tLa (u : TC) : (Nat → Int32) := u.2.1
def tLw (u : TC) : (Nat → Int32) := u.2.2.1
def tLt (u : TC) : (Nat → Int32) := u.2.2.2.1
def tLc (u : TC) : (Nat → Int32) := u.2.2.2.2.1
def tRa (u : TC) : (Nat → Int32) := u.2.2.2.2.2.1
def tRt (u : TC) : (Nat → Int32) := u.2.2.2.2.2.2.1
def tRc (u : TC) : (Nat → Int32) := u.2.2.2.2.2.2.2.1
def tN0 (u : TC) : Int32 := u.2.2.2.2.2.2.2.2.1
def tN1 (u : TC) : Int32 := u.2.2.2.2.2.2.2.2.2.1
def tN2 (u : TC) : Int32 := u.2.2.2.2.2.2.2.2.2.2.1
def tN3 (u : TC) : Int32 := u.2.2.2.2.2.2.2.2.2.2.2
def sSt (u : TC) (z : (Nat → Int32)) : TC := (z, u.2.1, u.2.2.1, u.2.2.2.1, u.2.2.2.2.1, u.2.2.2.2.2.1, u.2.2.2.2.2.2.1, u.2.2.2.2.2.2.2.1, u.2.2.2.2.2.2.2.2.1, u.2.2.2.2.2.2.2.2.2.1, u.2.2.2.2.2.2.2.2.2.2.1, u.2.2.2.2.2.2.2.2.2.2.2)
def sLa (u : TC) (z : (Nat → Int32)) : TC := (u.1, z, u.2.2.1, u.2.2.2.1, u.2.2.2.2.1, u.2.2.2.2.2.1, u.2.2.2.2.2.2.1, u.2.2.2.2.2.2.2.1, u.2.2.2.2.2.2.2.2.1, u.2.2.2.2.2.2.2.2.2.1, u.2.2.2.2.2.2.2.2.2.2.1, u.2.2.2.2.2.2.2.2.2.2.2)
def sLw (u : TC) (z : (Nat → Int32)) : TC := (u.1, u.2.1, z, u.2.2.2.1, u.2.2.2.2.1, u.2.2.2.2.2.1, u.2.2.2.2.2.2.1, u.2.2.2.2.2.2.2.1, u.2.2.2.2.2.2.2.2.1, u.2.2.2.2.2.2.2.2.2.1, u.2.2.2.2.2.2.2.2.2.2.1, u.2.2.2.2.2.2.2.2.2.2.2)
def sLt (u : TC) (z : (Nat → Int32)) : TC := (u.1, u.2.1, u.2.2.1, z, u.2.2.2.2.1, u.2.2.2.2.2.1, u.2.2.2.2.2.2.1, u.2.2.2.2.2.2.2.1, u.2.2.2.2.2.2.2.2.1, u.2.2.2.2.2.2.2.2.2.1, u.2.2.2.2.2.2.2.2.2.2.1, u.2.2.2.2.2.2.2.2.2.2.2)
def sLc (u : TC) (z : (Nat → Int32)) : TC := (u.1, u.2.1, u.2.2.1, u.2.2.2.1, z, u.2.2.2.2.2.1, u.2.2.2.2.2.2.1, u.2.2.2.2.2.2.2.1, u.2.2.2.2.2.2.2.2.1, u.2.2.2.2.2.2.2.2.2.1, u.2.2.2.2.2.2.2.2.2.2.1, u.2.2.2.2.2.2.2.2.2.2.2)
def sRa (u : TC) (z : (Nat → Int32)) : TC := (u.1, u.2.1, u.2.2.1, u.2.2.2.1, u.2.2.2.2.1, z, u.2.2.2.2.2.2.1, u.2.2.2.2.2.2.2.1, u.2.2.2.2.2.2.2.2.1, u.2.2.2.2.2.2.2.2.2.1, u.2.2.2.2.2.2.2.2.2.2.1, u.2.2.2.2.2.2.2.2.2.2.2)
def sRt (u : TC) (z : (Nat → Int32)) : TC := (u.1, u.2.1, u.2.2.1, u.2.2.2.1, u.2.2.2.2.1, u.2.2.2.2.2.1, z, u.2.2.2.2.2.2.2.1, u.2.2.2.2.2.2.2.2.1, u.2.2.2.2.2.2.2.2.2.1, u.2.2.2.2.2.2.2.2.2.2.1, u.2.2.2.2.2.2.2.2.2.2.2)
def sRc (u : TC) (z : (Nat → Int32)) : TC := (u.1, u.2.1, u.2.2.1, u.2.2.2.1, u.2.2.2.2.1, u.2.2.2.2.2.1, u.2.2.2.2.2.2.1, z, u.2.2.2.2.2.2.2.2.1, u.2.2.2.2.2.2.2.2.2.1, u.2.2.2.2.2.2.2.2.2.2.1, u.2.2.2.2.2.2.2.2.2.2.2)
def sN0 (u : TC) (z : Int32) : TC := (u.1, u.2.1, u.2.2.1, u.2.2.2.1, u.2.2.2.2.1, u.2.2.2.2.2.1, u.2.2.2.2.2.2.1, u.2.2.2.2.2.2.2.1, z, u.2.2.2.2.2.2.2.2.2.1, u.2.2.2.2.2.2.2.2.2.2.1, u.2.2.2.2.2.2.2.2.2.2.2)
def sN1 (u : TC) (z : Int32) : TC := (u.1, u.2.1, u.2.2.1, u.2.2.2.1, u.2.2.2.2.1, u.2.2.2.2.2.1, u.2.2.2.2.2.2.1, u.2.2.2.2.2.2.2.1, u.2.2.2.2.2.2.2.2.1, z, u.2.2.2.2.2.2.2.2.2.2.1, u.2.2.2.2.2.2.2.2.2.2.2)
def sN2 (u : TC) (z : Int32) : TC := (u.1, u.2.1, u.2.2.1, u.2.2.2.1, u.2.2.2.2.1, u.2.2.2.2.2.1, u.2.2.2.2.2.2.1, u.2.2.2.2.2.2.2.1, u.2.2.2.2.2.2.2.2.1, u.2.2.2.2.2.2.2.2.2.1, z, u.2.2.2.2.2.2.2.2.2.2.2)
def sN3 (u : TC) (z : Int32) : TC := (u.1, u.2.1, u.2.2.1, u.2.2.2.1, u.2.2.2.2.1, u.2.2.2.2.2.1, u.2.2.2.2.2.2.1, u.2.2.2.2.2.2.2.1, u.2.2.2.2.2.2.2.2.1, u.2.2.2.2.2.2.2.2.2.1, u.2.2.2.2.2.2.2.2.2.2.1, z)
theorem TC_ext {u w : TC} (h0 : tSt u = tSt w) (h1 : tLa u = tLa w) (h2 : tLw u = tLw w) (h3 : tLt u = tLt w) (h4 : tLc u = tLc w) (h5 : tRa u = tRa w) (h6 : tRt u = tRt w) (h7 : tRc u = tRc w) (h8 : tN0 u = tN0 w) (h9 : tN1 u = tN1 w) (h10 : tN2 u = tN2 w) (h11 : tN3 u = tN3 w) : u = w := by
  obtain ⟨a0, a1, a2, a3, a4, a5, a6, a7, a8, a9, a10, a11⟩ := u
  obtain ⟨b0, b1, b2, b3, b4, b5, b6, b7, b8, b9, b10, b11⟩ := w
  simp only [tSt, tLa, tLw, tLt, tLc, tRa, tRt, tRc, tN0, tN1, tN2, tN3] at h0 h1 h2 h3 h4 h5 h6 h7 h8 h9 h10 h11
  subst h0 h1 h2 h3 h4 h5 h6 h7 h8 h9 h10 h11; rfl
abbrev wT (G : Nat → Nat) (kc : Nat → ClassId) (u : TC) : va_W := [(G 0, .inr (0, [.ref (G 1), .ref (G 2), .ref (G 3), .ref (G 4), .ref (G 5), .ref (G 6), .ref (G 7), .ref (G 8), .int (tN0 u), .int (tN1 u), .int (tN2 u), .int (tN3 u)])), (G 1, .inl (kc 1, 2080, .inl (tSt u))), (G 2, .inl (kc 2, 16, .inl (tLa u))), (G 3, .inl (kc 3, 64, .inl (tLw u))), (G 4, .inl (kc 4, 16, .inl (tLt u))), (G 5, .inl (kc 5, 16, .inl (tLc u))), (G 6, .inl (kc 6, 4, .inl (tRa u))), (G 7, .inl (kc 7, 4, .inl (tRt u))), (G 8, .inl (kc 8, 4, .inl (tRc u)))]
abbrev tyTs (kc : Nat → ClassId) : List (ClassId × FieldType) := [(kc 1, .int), (kc 2, .int), (kc 3, .int), (kc 4, .int), (kc 5, .boolean), (kc 6, .int), (kc 7, .int), (kc 8, .boolean)]
section XT
variable {p : Program} {l : Launch} {e : Env} {R : Room} {s : State} {m : MethodId} {args : Array Value} {below : List Frame} {meth : Method} {c : Code} {H : Heap} {locs : List Loc} {cells slots : Nat} {Q : State → Prop}
variable {cc : ByteArray} {pc : Nat} {ls : Array Slot} {rest : List Value} {D : va_G} {A : Nat → Prop} {H0 : Heap} {G : Nat → Nat} {kc : Nat → ClassId} {u : TC} {c1 : Cond}
theorem xt_g0 (hx : p.tables.exec = Jvm.exec) (hb : c.code = cc) (hts : ∀ w ∈ c1 :: TB, w.before args s = true) (hown : s.vm.findClass "TagMemory" = some m.cls) (hK : va_K D vwCl (tyTs kc) s) (hP : va_P D vwCl (wT G kc u) H) (hdg : decode cc pc = .ok (.getfield 9, 3)) (kk : W p l e R s m args below meth c H locs cells slots Q (F0 m (pc + 3) ls (.ref (G 1) :: rest))) : W p l e R s m args below meth c H locs cells slots Q (F0 m pc ls (.ref (G 0) :: rest)) :=
  va_get (ci := 0) (v := .ref (G 1)) (C := RT) (T := FT) (N := 12) hx hb hts insT hown hK hP 0 rfl rfl 0 (by decide) (hts (Cond.fieldLink "TagMemory" 9 "TagMemory" "stored" "[I") (List.mem_cons_of_mem _ wm_18)) (fun _ h9 => h9) rfl hdg kk
theorem xt_l0 (hx : p.tables.exec = Jvm.exec) (hb : c.code = cc) (hK : va_K D vwCl (tyTs kc) s) (hP : va_P D vwCl (wT G kc u) H) {i : Int32} (j : Nat) (hi : i = nI j) (hj : j < 2080) (hdg : decode cc pc = .ok (.iaload, 1)) (kk : W p l e R s m args below meth c H locs cells slots Q (F0 m (pc + 1) ls (.int (tSt u j) :: rest))) : W p l e R s m args below meth c H locs cells slots Q (F0 m pc ls (.int i :: .ref (G 1) :: rest)) :=
  xa_iald hx hb hK hP 1 0 rfl rfl (by decide) j hi hj hdg kk
theorem xt_s0 (hx : p.tables.exec = Jvm.exec) (hb : c.code = cc) (hK : va_K D vwCl (tyTs kc) s) (hP : va_P D vwCl (wT G kc u) H) (hD : va_D A (wT G kc u)) (hS : va_S A H0 H locs) {i x : Int32} (j : Nat) (hi : i = nI j) (hj : j < 2080) (hdg : decode cc pc = .ok (.iastore, 1)) (kk : ∀ (H1 : Heap) (locs1 : List Loc), va_P D vwCl (wT G kc (sSt u (upd (tSt u) j x))) H1 → va_D A (wT G kc (sSt u (upd (tSt u) j x))) → va_S A H0 H1 locs1 → W p l e R s m args below meth c H1 locs1 cells slots Q (F0 m (pc + 1) ls rest)) : W p l e R s m args below meth c H locs cells slots Q (F0 m pc ls (.int x :: .int i :: .ref (G 1) :: rest)) :=
  xa_iast hx hb hK hP hD hS 1 0 rfl rfl (by decide) j hi hj hdg kk
theorem xt_g1 (hx : p.tables.exec = Jvm.exec) (hb : c.code = cc) (hts : ∀ w ∈ c1 :: TB, w.before args s = true) (hown : s.vm.findClass "TagMemory" = some m.cls) (hK : va_K D vwCl (tyTs kc) s) (hP : va_P D vwCl (wT G kc u) H) (hdg : decode cc pc = .ok (.getfield 13, 3)) (kk : W p l e R s m args below meth c H locs cells slots Q (F0 m (pc + 3) ls (.ref (G 2) :: rest))) : W p l e R s m args below meth c H locs cells slots Q (F0 m pc ls (.ref (G 0) :: rest)) :=
  va_get (ci := 0) (v := .ref (G 2)) (C := RT) (T := FT) (N := 12) hx hb hts insT hown hK hP 0 rfl rfl 1 (by decide) (hts (Cond.fieldLink "TagMemory" 13 "TagMemory" "lineAt" "[I") (List.mem_cons_of_mem _ wm_19)) (fun _ h9 => h9) rfl hdg kk
theorem xt_l1 (hx : p.tables.exec = Jvm.exec) (hb : c.code = cc) (hK : va_K D vwCl (tyTs kc) s) (hP : va_P D vwCl (wT G kc u) H) {i : Int32} (j : Nat) (hi : i = nI j) (hj : j < 16) (hdg : decode cc pc = .ok (.iaload, 1)) (kk : W p l e R s m args below meth c H locs cells slots Q (F0 m (pc + 1) ls (.int (tLa u j) :: rest))) : W p l e R s m args below meth c H locs cells slots Q (F0 m pc ls (.int i :: .ref (G 2) :: rest)) :=
  xa_iald hx hb hK hP 2 1 rfl rfl (by decide) j hi hj hdg kk
theorem xt_s1 (hx : p.tables.exec = Jvm.exec) (hb : c.code = cc) (hK : va_K D vwCl (tyTs kc) s) (hP : va_P D vwCl (wT G kc u) H) (hD : va_D A (wT G kc u)) (hS : va_S A H0 H locs) {i x : Int32} (j : Nat) (hi : i = nI j) (hj : j < 16) (hdg : decode cc pc = .ok (.iastore, 1)) (kk : ∀ (H1 : Heap) (locs1 : List Loc), va_P D vwCl (wT G kc (sLa u (upd (tLa u) j x))) H1 → va_D A (wT G kc (sLa u (upd (tLa u) j x))) → va_S A H0 H1 locs1 → W p l e R s m args below meth c H1 locs1 cells slots Q (F0 m (pc + 1) ls rest)) : W p l e R s m args below meth c H locs cells slots Q (F0 m pc ls (.int x :: .int i :: .ref (G 2) :: rest)) :=
  xa_iast hx hb hK hP hD hS 2 1 rfl rfl (by decide) j hi hj hdg kk
theorem xt_g2 (hx : p.tables.exec = Jvm.exec) (hb : c.code = cc) (hts : ∀ w ∈ c1 :: TB, w.before args s = true) (hown : s.vm.findClass "TagMemory" = some m.cls) (hK : va_K D vwCl (tyTs kc) s) (hP : va_P D vwCl (wT G kc u) H) (hdg : decode cc pc = .ok (.getfield 16, 3)) (kk : W p l e R s m args below meth c H locs cells slots Q (F0 m (pc + 3) ls (.ref (G 3) :: rest))) : W p l e R s m args below meth c H locs cells slots Q (F0 m pc ls (.ref (G 0) :: rest)) :=
  va_get (ci := 0) (v := .ref (G 3)) (C := RT) (T := FT) (N := 12) hx hb hts insT hown hK hP 0 rfl rfl 2 (by decide) (hts (Cond.fieldLink "TagMemory" 16 "TagMemory" "lineWords" "[I") (List.mem_cons_of_mem _ wm_20)) (fun _ h9 => h9) rfl hdg kk
theorem xt_l2 (hx : p.tables.exec = Jvm.exec) (hb : c.code = cc) (hK : va_K D vwCl (tyTs kc) s) (hP : va_P D vwCl (wT G kc u) H) {i : Int32} (j : Nat) (hi : i = nI j) (hj : j < 64) (hdg : decode cc pc = .ok (.iaload, 1)) (kk : W p l e R s m args below meth c H locs cells slots Q (F0 m (pc + 1) ls (.int (tLw u j) :: rest))) : W p l e R s m args below meth c H locs cells slots Q (F0 m pc ls (.int i :: .ref (G 3) :: rest)) :=
  xa_iald hx hb hK hP 3 2 rfl rfl (by decide) j hi hj hdg kk
theorem xt_s2 (hx : p.tables.exec = Jvm.exec) (hb : c.code = cc) (hK : va_K D vwCl (tyTs kc) s) (hP : va_P D vwCl (wT G kc u) H) (hD : va_D A (wT G kc u)) (hS : va_S A H0 H locs) {i x : Int32} (j : Nat) (hi : i = nI j) (hj : j < 64) (hdg : decode cc pc = .ok (.iastore, 1)) (kk : ∀ (H1 : Heap) (locs1 : List Loc), va_P D vwCl (wT G kc (sLw u (upd (tLw u) j x))) H1 → va_D A (wT G kc (sLw u (upd (tLw u) j x))) → va_S A H0 H1 locs1 → W p l e R s m args below meth c H1 locs1 cells slots Q (F0 m (pc + 1) ls rest)) : W p l e R s m args below meth c H locs cells slots Q (F0 m pc ls (.int x :: .int i :: .ref (G 3) :: rest)) :=
  xa_iast hx hb hK hP hD hS 3 2 rfl rfl (by decide) j hi hj hdg kk
theorem xt_g3 (hx : p.tables.exec = Jvm.exec) (hb : c.code = cc) (hts : ∀ w ∈ c1 :: TB, w.before args s = true) (hown : s.vm.findClass "TagMemory" = some m.cls) (hK : va_K D vwCl (tyTs kc) s) (hP : va_P D vwCl (wT G kc u) H) (hdg : decode cc pc = .ok (.getfield 19, 3)) (kk : W p l e R s m args below meth c H locs cells slots Q (F0 m (pc + 3) ls (.ref (G 4) :: rest))) : W p l e R s m args below meth c H locs cells slots Q (F0 m pc ls (.ref (G 0) :: rest)) :=
  va_get (ci := 0) (v := .ref (G 4)) (C := RT) (T := FT) (N := 12) hx hb hts insT hown hK hP 0 rfl rfl 3 (by decide) (hts (Cond.fieldLink "TagMemory" 19 "TagMemory" "lineTags" "[I") (List.mem_cons_of_mem _ wm_21)) (fun _ h9 => h9) rfl hdg kk
theorem xt_l3 (hx : p.tables.exec = Jvm.exec) (hb : c.code = cc) (hK : va_K D vwCl (tyTs kc) s) (hP : va_P D vwCl (wT G kc u) H) {i : Int32} (j : Nat) (hi : i = nI j) (hj : j < 16) (hdg : decode cc pc = .ok (.iaload, 1)) (kk : W p l e R s m args below meth c H locs cells slots Q (F0 m (pc + 1) ls (.int (tLt u j) :: rest))) : W p l e R s m args below meth c H locs cells slots Q (F0 m pc ls (.int i :: .ref (G 4) :: rest)) :=
  xa_iald hx hb hK hP 4 3 rfl rfl (by decide) j hi hj hdg kk
theorem xt_s3 (hx : p.tables.exec = Jvm.exec) (hb : c.code = cc) (hK : va_K D vwCl (tyTs kc) s) (hP : va_P D vwCl (wT G kc u) H) (hD : va_D A (wT G kc u)) (hS : va_S A H0 H locs) {i x : Int32} (j : Nat) (hi : i = nI j) (hj : j < 16) (hdg : decode cc pc = .ok (.iastore, 1)) (kk : ∀ (H1 : Heap) (locs1 : List Loc), va_P D vwCl (wT G kc (sLt u (upd (tLt u) j x))) H1 → va_D A (wT G kc (sLt u (upd (tLt u) j x))) → va_S A H0 H1 locs1 → W p l e R s m args below meth c H1 locs1 cells slots Q (F0 m (pc + 1) ls rest)) : W p l e R s m args below meth c H locs cells slots Q (F0 m pc ls (.int x :: .int i :: .ref (G 4) :: rest)) :=
  xa_iast hx hb hK hP hD hS 4 3 rfl rfl (by decide) j hi hj hdg kk
theorem xt_g4 (hx : p.tables.exec = Jvm.exec) (hb : c.code = cc) (hts : ∀ w ∈ c1 :: TB, w.before args s = true) (hown : s.vm.findClass "TagMemory" = some m.cls) (hK : va_K D vwCl (tyTs kc) s) (hP : va_P D vwCl (wT G kc u) H) (hdg : decode cc pc = .ok (.getfield 22, 3)) (kk : W p l e R s m args below meth c H locs cells slots Q (F0 m (pc + 3) ls (.ref (G 5) :: rest))) : W p l e R s m args below meth c H locs cells slots Q (F0 m pc ls (.ref (G 0) :: rest)) :=
  va_get (ci := 0) (v := .ref (G 5)) (C := RT) (T := FT) (N := 12) hx hb hts insT hown hK hP 0 rfl rfl 4 (by decide) (hts (Cond.fieldLink "TagMemory" 22 "TagMemory" "lineChanged" "[Z") (List.mem_cons_of_mem _ wm_22)) (fun _ h9 => h9) rfl hdg kk
theorem xt_l4 (hx : p.tables.exec = Jvm.exec) (hb : c.code = cc) (hK : va_K D vwCl (tyTs kc) s) (hP : va_P D vwCl (wT G kc u) H) {i : Int32} (j : Nat) (hi : i = nI j) (hj : j < 16) (hdg : decode cc pc = .ok (.baload, 1)) (kk : W p l e R s m args below meth c H locs cells slots Q (F0 m (pc + 1) ls (.int (tLc u j) :: rest))) : W p l e R s m args below meth c H locs cells slots Q (F0 m pc ls (.int i :: .ref (G 5) :: rest)) :=
  xa_zald hx hb hK hP 5 4 rfl rfl (by decide) j hi hj hdg kk
theorem xt_s4 (hx : p.tables.exec = Jvm.exec) (hb : c.code = cc) (hK : va_K D vwCl (tyTs kc) s) (hP : va_P D vwCl (wT G kc u) H) (hD : va_D A (wT G kc u)) (hS : va_S A H0 H locs) {i x : Int32} (hz : x = 0 ∨ x = 1) (j : Nat) (hi : i = nI j) (hj : j < 16) (hdg : decode cc pc = .ok (.bastore, 1)) (kk : ∀ (H1 : Heap) (locs1 : List Loc), va_P D vwCl (wT G kc (sLc u (upd (tLc u) j x))) H1 → va_D A (wT G kc (sLc u (upd (tLc u) j x))) → va_S A H0 H1 locs1 → W p l e R s m args below meth c H1 locs1 cells slots Q (F0 m (pc + 1) ls rest)) : W p l e R s m args below meth c H locs cells slots Q (F0 m pc ls (.int x :: .int i :: .ref (G 5) :: rest)) :=
  xa_zast hx hb hK hP hD hS 5 4 rfl rfl (by decide) hz j hi hj hdg kk
theorem xt_g5 (hx : p.tables.exec = Jvm.exec) (hb : c.code = cc) (hts : ∀ w ∈ c1 :: TB, w.before args s = true) (hown : s.vm.findClass "TagMemory" = some m.cls) (hK : va_K D vwCl (tyTs kc) s) (hP : va_P D vwCl (wT G kc u) H) (hdg : decode cc pc = .ok (.getfield 26, 3)) (kk : W p l e R s m args below meth c H locs cells slots Q (F0 m (pc + 3) ls (.ref (G 6) :: rest))) : W p l e R s m args below meth c H locs cells slots Q (F0 m pc ls (.ref (G 0) :: rest)) :=
  va_get (ci := 0) (v := .ref (G 6)) (C := RT) (T := FT) (N := 12) hx hb hts insT hown hK hP 0 rfl rfl 5 (by decide) (hts (Cond.fieldLink "TagMemory" 26 "TagMemory" "rowAt" "[I") (List.mem_cons_of_mem _ wm_23)) (fun _ h9 => h9) rfl hdg kk
theorem xt_l5 (hx : p.tables.exec = Jvm.exec) (hb : c.code = cc) (hK : va_K D vwCl (tyTs kc) s) (hP : va_P D vwCl (wT G kc u) H) {i : Int32} (j : Nat) (hi : i = nI j) (hj : j < 4) (hdg : decode cc pc = .ok (.iaload, 1)) (kk : W p l e R s m args below meth c H locs cells slots Q (F0 m (pc + 1) ls (.int (tRa u j) :: rest))) : W p l e R s m args below meth c H locs cells slots Q (F0 m pc ls (.int i :: .ref (G 6) :: rest)) :=
  xa_iald hx hb hK hP 6 5 rfl rfl (by decide) j hi hj hdg kk
theorem xt_s5 (hx : p.tables.exec = Jvm.exec) (hb : c.code = cc) (hK : va_K D vwCl (tyTs kc) s) (hP : va_P D vwCl (wT G kc u) H) (hD : va_D A (wT G kc u)) (hS : va_S A H0 H locs) {i x : Int32} (j : Nat) (hi : i = nI j) (hj : j < 4) (hdg : decode cc pc = .ok (.iastore, 1)) (kk : ∀ (H1 : Heap) (locs1 : List Loc), va_P D vwCl (wT G kc (sRa u (upd (tRa u) j x))) H1 → va_D A (wT G kc (sRa u (upd (tRa u) j x))) → va_S A H0 H1 locs1 → W p l e R s m args below meth c H1 locs1 cells slots Q (F0 m (pc + 1) ls rest)) : W p l e R s m args below meth c H locs cells slots Q (F0 m pc ls (.int x :: .int i :: .ref (G 6) :: rest)) :=
  xa_iast hx hb hK hP hD hS 6 5 rfl rfl (by decide) j hi hj hdg kk
theorem xt_g6 (hx : p.tables.exec = Jvm.exec) (hb : c.code = cc) (hts : ∀ w ∈ c1 :: TB, w.before args s = true) (hown : s.vm.findClass "TagMemory" = some m.cls) (hK : va_K D vwCl (tyTs kc) s) (hP : va_P D vwCl (wT G kc u) H) (hdg : decode cc pc = .ok (.getfield 29, 3)) (kk : W p l e R s m args below meth c H locs cells slots Q (F0 m (pc + 3) ls (.ref (G 7) :: rest))) : W p l e R s m args below meth c H locs cells slots Q (F0 m pc ls (.ref (G 0) :: rest)) :=
  va_get (ci := 0) (v := .ref (G 7)) (C := RT) (T := FT) (N := 12) hx hb hts insT hown hK hP 0 rfl rfl 6 (by decide) (hts (Cond.fieldLink "TagMemory" 29 "TagMemory" "rowTags" "[I") (List.mem_cons_of_mem _ wm_24)) (fun _ h9 => h9) rfl hdg kk
theorem xt_l6 (hx : p.tables.exec = Jvm.exec) (hb : c.code = cc) (hK : va_K D vwCl (tyTs kc) s) (hP : va_P D vwCl (wT G kc u) H) {i : Int32} (j : Nat) (hi : i = nI j) (hj : j < 4) (hdg : decode cc pc = .ok (.iaload, 1)) (kk : W p l e R s m args below meth c H locs cells slots Q (F0 m (pc + 1) ls (.int (tRt u j) :: rest))) : W p l e R s m args below meth c H locs cells slots Q (F0 m pc ls (.int i :: .ref (G 7) :: rest)) :=
  xa_iald hx hb hK hP 7 6 rfl rfl (by decide) j hi hj hdg kk
theorem xt_s6 (hx : p.tables.exec = Jvm.exec) (hb : c.code = cc) (hK : va_K D vwCl (tyTs kc) s) (hP : va_P D vwCl (wT G kc u) H) (hD : va_D A (wT G kc u)) (hS : va_S A H0 H locs) {i x : Int32} (j : Nat) (hi : i = nI j) (hj : j < 4) (hdg : decode cc pc = .ok (.iastore, 1)) (kk : ∀ (H1 : Heap) (locs1 : List Loc), va_P D vwCl (wT G kc (sRt u (upd (tRt u) j x))) H1 → va_D A (wT G kc (sRt u (upd (tRt u) j x))) → va_S A H0 H1 locs1 → W p l e R s m args below meth c H1 locs1 cells slots Q (F0 m (pc + 1) ls rest)) : W p l e R s m args below meth c H locs cells slots Q (F0 m pc ls (.int x :: .int i :: .ref (G 7) :: rest)) :=
  xa_iast hx hb hK hP hD hS 7 6 rfl rfl (by decide) j hi hj hdg kk
theorem xt_g7 (hx : p.tables.exec = Jvm.exec) (hb : c.code = cc) (hts : ∀ w ∈ c1 :: TB, w.before args s = true) (hown : s.vm.findClass "TagMemory" = some m.cls) (hK : va_K D vwCl (tyTs kc) s) (hP : va_P D vwCl (wT G kc u) H) (hdg : decode cc pc = .ok (.getfield 32, 3)) (kk : W p l e R s m args below meth c H locs cells slots Q (F0 m (pc + 3) ls (.ref (G 8) :: rest))) : W p l e R s m args below meth c H locs cells slots Q (F0 m pc ls (.ref (G 0) :: rest)) :=
  va_get (ci := 0) (v := .ref (G 8)) (C := RT) (T := FT) (N := 12) hx hb hts insT hown hK hP 0 rfl rfl 7 (by decide) (hts (Cond.fieldLink "TagMemory" 32 "TagMemory" "rowChanged" "[Z") (List.mem_cons_of_mem _ wm_25)) (fun _ h9 => h9) rfl hdg kk
theorem xt_l7 (hx : p.tables.exec = Jvm.exec) (hb : c.code = cc) (hK : va_K D vwCl (tyTs kc) s) (hP : va_P D vwCl (wT G kc u) H) {i : Int32} (j : Nat) (hi : i = nI j) (hj : j < 4) (hdg : decode cc pc = .ok (.baload, 1)) (kk : W p l e R s m args below meth c H locs cells slots Q (F0 m (pc + 1) ls (.int (tRc u j) :: rest))) : W p l e R s m args below meth c H locs cells slots Q (F0 m pc ls (.int i :: .ref (G 8) :: rest)) :=
  xa_zald hx hb hK hP 8 7 rfl rfl (by decide) j hi hj hdg kk
theorem xt_s7 (hx : p.tables.exec = Jvm.exec) (hb : c.code = cc) (hK : va_K D vwCl (tyTs kc) s) (hP : va_P D vwCl (wT G kc u) H) (hD : va_D A (wT G kc u)) (hS : va_S A H0 H locs) {i x : Int32} (hz : x = 0 ∨ x = 1) (j : Nat) (hi : i = nI j) (hj : j < 4) (hdg : decode cc pc = .ok (.bastore, 1)) (kk : ∀ (H1 : Heap) (locs1 : List Loc), va_P D vwCl (wT G kc (sRc u (upd (tRc u) j x))) H1 → va_D A (wT G kc (sRc u (upd (tRc u) j x))) → va_S A H0 H1 locs1 → W p l e R s m args below meth c H1 locs1 cells slots Q (F0 m (pc + 1) ls rest)) : W p l e R s m args below meth c H locs cells slots Q (F0 m pc ls (.int x :: .int i :: .ref (G 8) :: rest)) :=
  xa_zast hx hb hK hP hD hS 8 7 rfl rfl (by decide) hz j hi hj hdg kk
theorem xt_g8 (hx : p.tables.exec = Jvm.exec) (hb : c.code = cc) (hts : ∀ w ∈ c1 :: TB, w.before args s = true) (hown : s.vm.findClass "TagMemory" = some m.cls) (hK : va_K D vwCl (tyTs kc) s) (hP : va_P D vwCl (wT G kc u) H) (hdg : decode cc pc = .ok (.getfield 91, 3)) (kk : W p l e R s m args below meth c H locs cells slots Q (F0 m (pc + 3) ls (.int (tN0 u) :: rest))) : W p l e R s m args below meth c H locs cells slots Q (F0 m pc ls (.ref (G 0) :: rest)) :=
  va_get (ci := 0) (v := .int (tN0 u)) (C := RT) (T := FT) (N := 12) hx hb hts insT hown hK hP 0 rfl rfl 8 (by decide) (hts (Cond.fieldLink "TagMemory" 91 "TagMemory" "linesCame" "I") (List.mem_cons_of_mem _ wm_26)) (fun _ h9 => h9) rfl hdg kk
theorem xt_p8 (hx : p.tables.exec = Jvm.exec) (hb : c.code = cc) (hts : ∀ w ∈ c1 :: TB, w.before args s = true) (hown : s.vm.findClass "TagMemory" = some m.cls) (hK : va_K D vwCl (tyTs kc) s) (hP : va_P D vwCl (wT G kc u) H) (hD : va_D A (wT G kc u)) (hS : va_S A H0 H locs) {x : Int32} (hdg : decode cc pc = .ok (.putfield 91, 3)) (kk : ∀ (H1 : Heap) (locs1 : List Loc), va_P D vwCl (wT G kc (sN0 u x)) H1 → va_D A (wT G kc (sN0 u x)) → va_S A H0 H1 locs1 → W p l e R s m args below meth c H1 locs1 cells slots Q (F0 m (pc + 3) ls rest)) : W p l e R s m args below meth c H locs cells slots Q (F0 m pc ls (.int x :: .ref (G 0) :: rest)) :=
  va_put (ci := 0) (v := .int x) (ty := .int) (C := RT) (T := FT) (N := 12) hx hb hts insT tyT tyT_ok nmT hown hK hP hD hS 0 rfl rfl 8 (by decide) (hts (Cond.fieldLink "TagMemory" 91 "TagMemory" "linesCame" "I") (List.mem_cons_of_mem _ wm_26)) (fun _ h9 => h9) rfl (by decide +kernel) rfl rfl (Nat.le_of_ble_eq_true rfl) hdg (fun H1 locs1 hP hD hS => kk H1 locs1 hP hD hS)
theorem xt_g9 (hx : p.tables.exec = Jvm.exec) (hb : c.code = cc) (hts : ∀ w ∈ c1 :: TB, w.before args s = true) (hown : s.vm.findClass "TagMemory" = some m.cls) (hK : va_K D vwCl (tyTs kc) s) (hP : va_P D vwCl (wT G kc u) H) (hdg : decode cc pc = .ok (.getfield 95, 3)) (kk : W p l e R s m args below meth c H locs cells slots Q (F0 m (pc + 3) ls (.int (tN1 u) :: rest))) : W p l e R s m args below meth c H locs cells slots Q (F0 m pc ls (.ref (G 0) :: rest)) :=
  va_get (ci := 0) (v := .int (tN1 u)) (C := RT) (T := FT) (N := 12) hx hb hts insT hown hK hP 0 rfl rfl 9 (by decide) (hts (Cond.fieldLink "TagMemory" 95 "TagMemory" "linesWrittenBack" "I") (List.mem_cons_of_mem _ wm_27)) (fun _ h9 => h9) rfl hdg kk
theorem xt_p9 (hx : p.tables.exec = Jvm.exec) (hb : c.code = cc) (hts : ∀ w ∈ c1 :: TB, w.before args s = true) (hown : s.vm.findClass "TagMemory" = some m.cls) (hK : va_K D vwCl (tyTs kc) s) (hP : va_P D vwCl (wT G kc u) H) (hD : va_D A (wT G kc u)) (hS : va_S A H0 H locs) {x : Int32} (hdg : decode cc pc = .ok (.putfield 95, 3)) (kk : ∀ (H1 : Heap) (locs1 : List Loc), va_P D vwCl (wT G kc (sN1 u x)) H1 → va_D A (wT G kc (sN1 u x)) → va_S A H0 H1 locs1 → W p l e R s m args below meth c H1 locs1 cells slots Q (F0 m (pc + 3) ls rest)) : W p l e R s m args below meth c H locs cells slots Q (F0 m pc ls (.int x :: .ref (G 0) :: rest)) :=
  va_put (ci := 0) (v := .int x) (ty := .int) (C := RT) (T := FT) (N := 12) hx hb hts insT tyT tyT_ok nmT hown hK hP hD hS 0 rfl rfl 9 (by decide) (hts (Cond.fieldLink "TagMemory" 95 "TagMemory" "linesWrittenBack" "I") (List.mem_cons_of_mem _ wm_27)) (fun _ h9 => h9) rfl (by decide +kernel) rfl rfl (Nat.le_of_ble_eq_true rfl) hdg (fun H1 locs1 hP hD hS => kk H1 locs1 hP hD hS)
theorem xt_g10 (hx : p.tables.exec = Jvm.exec) (hb : c.code = cc) (hts : ∀ w ∈ c1 :: TB, w.before args s = true) (hown : s.vm.findClass "TagMemory" = some m.cls) (hK : va_K D vwCl (tyTs kc) s) (hP : va_P D vwCl (wT G kc u) H) (hdg : decode cc pc = .ok (.getfield 98, 3)) (kk : W p l e R s m args below meth c H locs cells slots Q (F0 m (pc + 3) ls (.int (tN2 u) :: rest))) : W p l e R s m args below meth c H locs cells slots Q (F0 m pc ls (.ref (G 0) :: rest)) :=
  va_get (ci := 0) (v := .int (tN2 u)) (C := RT) (T := FT) (N := 12) hx hb hts insT hown hK hP 0 rfl rfl 10 (by decide) (hts (Cond.fieldLink "TagMemory" 98 "TagMemory" "rowsCame" "I") (List.mem_cons_of_mem _ wm_28)) (fun _ h9 => h9) rfl hdg kk
theorem xt_p10 (hx : p.tables.exec = Jvm.exec) (hb : c.code = cc) (hts : ∀ w ∈ c1 :: TB, w.before args s = true) (hown : s.vm.findClass "TagMemory" = some m.cls) (hK : va_K D vwCl (tyTs kc) s) (hP : va_P D vwCl (wT G kc u) H) (hD : va_D A (wT G kc u)) (hS : va_S A H0 H locs) {x : Int32} (hdg : decode cc pc = .ok (.putfield 98, 3)) (kk : ∀ (H1 : Heap) (locs1 : List Loc), va_P D vwCl (wT G kc (sN2 u x)) H1 → va_D A (wT G kc (sN2 u x)) → va_S A H0 H1 locs1 → W p l e R s m args below meth c H1 locs1 cells slots Q (F0 m (pc + 3) ls rest)) : W p l e R s m args below meth c H locs cells slots Q (F0 m pc ls (.int x :: .ref (G 0) :: rest)) :=
  va_put (ci := 0) (v := .int x) (ty := .int) (C := RT) (T := FT) (N := 12) hx hb hts insT tyT tyT_ok nmT hown hK hP hD hS 0 rfl rfl 10 (by decide) (hts (Cond.fieldLink "TagMemory" 98 "TagMemory" "rowsCame" "I") (List.mem_cons_of_mem _ wm_28)) (fun _ h9 => h9) rfl (by decide +kernel) rfl rfl (Nat.le_of_ble_eq_true rfl) hdg (fun H1 locs1 hP hD hS => kk H1 locs1 hP hD hS)
theorem xt_g11 (hx : p.tables.exec = Jvm.exec) (hb : c.code = cc) (hts : ∀ w ∈ c1 :: TB, w.before args s = true) (hown : s.vm.findClass "TagMemory" = some m.cls) (hK : va_K D vwCl (tyTs kc) s) (hP : va_P D vwCl (wT G kc u) H) (hdg : decode cc pc = .ok (.getfield 101, 3)) (kk : W p l e R s m args below meth c H locs cells slots Q (F0 m (pc + 3) ls (.int (tN3 u) :: rest))) : W p l e R s m args below meth c H locs cells slots Q (F0 m pc ls (.ref (G 0) :: rest)) :=
  va_get (ci := 0) (v := .int (tN3 u)) (C := RT) (T := FT) (N := 12) hx hb hts insT hown hK hP 0 rfl rfl 11 (by decide) (hts (Cond.fieldLink "TagMemory" 101 "TagMemory" "rowsWrittenBack" "I") (List.mem_cons_of_mem _ wm_29)) (fun _ h9 => h9) rfl hdg kk
theorem xt_p11 (hx : p.tables.exec = Jvm.exec) (hb : c.code = cc) (hts : ∀ w ∈ c1 :: TB, w.before args s = true) (hown : s.vm.findClass "TagMemory" = some m.cls) (hK : va_K D vwCl (tyTs kc) s) (hP : va_P D vwCl (wT G kc u) H) (hD : va_D A (wT G kc u)) (hS : va_S A H0 H locs) {x : Int32} (hdg : decode cc pc = .ok (.putfield 101, 3)) (kk : ∀ (H1 : Heap) (locs1 : List Loc), va_P D vwCl (wT G kc (sN3 u x)) H1 → va_D A (wT G kc (sN3 u x)) → va_S A H0 H1 locs1 → W p l e R s m args below meth c H1 locs1 cells slots Q (F0 m (pc + 3) ls rest)) : W p l e R s m args below meth c H locs cells slots Q (F0 m pc ls (.int x :: .ref (G 0) :: rest)) :=
  va_put (ci := 0) (v := .int x) (ty := .int) (C := RT) (T := FT) (N := 12) hx hb hts insT tyT tyT_ok nmT hown hK hP hD hS 0 rfl rfl 11 (by decide) (hts (Cond.fieldLink "TagMemory" 101 "TagMemory" "rowsWrittenBack" "I") (List.mem_cons_of_mem _ wm_29)) (fun _ h9 => h9) rfl (by decide +kernel) rfl rfl (Nat.le_of_ble_eq_true rfl) hdg (fun H1 locs1 hP hD hS => kk H1 locs1 hP hD hS)
end XT
abbrev TM : Type := (Nat → Int32) × (Nat → Int32) × (Nat → Int32) × (Nat → Int32) × (Nat → Int32) × (Nat → Int32) × (Nat → Int32) × (Nat → Int32) × (Nat → Int32) × Int32
def mWd (u : TM) : (Nat → Int32) := u.1
def mTg (u : TM) : (Nat → Int32) := u.2.1
def mSo (u : TM) : (Nat → Int32) := u.2.2.1
def mRw (u : TM) : (Nat → Int32) := u.2.2.2.1
def mLn (u : TM) : (Nat → Int32) := u.2.2.2.2.1
def mLc (u : TM) : (Nat → Int32) := u.2.2.2.2.2.1
def mKr (u : TM) : (Nat → Int32) := u.2.2.2.2.2.2.1
def mRc (u : TM) : (Nat → Int32) := u.2.2.2.2.2.2.2.1
def mCs (u : TM) : (Nat → Int32) := u.2.2.2.2.2.2.2.2.1
def mTh (u : TM) : Int32 := u.2.2.2.2.2.2.2.2.2
def nWd (u : TM) (z : (Nat → Int32)) : TM := (z, u.2.1, u.2.2.1, u.2.2.2.1, u.2.2.2.2.1, u.2.2.2.2.2.1, u.2.2.2.2.2.2.1, u.2.2.2.2.2.2.2.1, u.2.2.2.2.2.2.2.2.1, u.2.2.2.2.2.2.2.2.2)
def nTg (u : TM) (z : (Nat → Int32)) : TM := (u.1, z, u.2.2.1, u.2.2.2.1, u.2.2.2.2.1, u.2.2.2.2.2.1, u.2.2.2.2.2.2.1, u.2.2.2.2.2.2.2.1, u.2.2.2.2.2.2.2.2.1, u.2.2.2.2.2.2.2.2.2)
def nSo (u : TM) (z : (Nat → Int32)) : TM := (u.1, u.2.1, z, u.2.2.2.1, u.2.2.2.2.1, u.2.2.2.2.2.1, u.2.2.2.2.2.2.1, u.2.2.2.2.2.2.2.1, u.2.2.2.2.2.2.2.2.1, u.2.2.2.2.2.2.2.2.2)
def nRw (u : TM) (z : (Nat → Int32)) : TM := (u.1, u.2.1, u.2.2.1, z, u.2.2.2.2.1, u.2.2.2.2.2.1, u.2.2.2.2.2.2.1, u.2.2.2.2.2.2.2.1, u.2.2.2.2.2.2.2.2.1, u.2.2.2.2.2.2.2.2.2)
def nLn (u : TM) (z : (Nat → Int32)) : TM := (u.1, u.2.1, u.2.2.1, u.2.2.2.1, z, u.2.2.2.2.2.1, u.2.2.2.2.2.2.1, u.2.2.2.2.2.2.2.1, u.2.2.2.2.2.2.2.2.1, u.2.2.2.2.2.2.2.2.2)
def nLc (u : TM) (z : (Nat → Int32)) : TM := (u.1, u.2.1, u.2.2.1, u.2.2.2.1, u.2.2.2.2.1, z, u.2.2.2.2.2.2.1, u.2.2.2.2.2.2.2.1, u.2.2.2.2.2.2.2.2.1, u.2.2.2.2.2.2.2.2.2)
def nKr (u : TM) (z : (Nat → Int32)) : TM := (u.1, u.2.1, u.2.2.1, u.2.2.2.1, u.2.2.2.2.1, u.2.2.2.2.2.1, z, u.2.2.2.2.2.2.2.1, u.2.2.2.2.2.2.2.2.1, u.2.2.2.2.2.2.2.2.2)
def nRc (u : TM) (z : (Nat → Int32)) : TM := (u.1, u.2.1, u.2.2.1, u.2.2.2.1, u.2.2.2.2.1, u.2.2.2.2.2.1, u.2.2.2.2.2.2.1, z, u.2.2.2.2.2.2.2.2.1, u.2.2.2.2.2.2.2.2.2)
def nCs (u : TM) (z : (Nat → Int32)) : TM := (u.1, u.2.1, u.2.2.1, u.2.2.2.1, u.2.2.2.2.1, u.2.2.2.2.2.1, u.2.2.2.2.2.2.1, u.2.2.2.2.2.2.2.1, z, u.2.2.2.2.2.2.2.2.2)
def nTh (u : TM) (z : Int32) : TM := (u.1, u.2.1, u.2.2.1, u.2.2.2.1, u.2.2.2.2.1, u.2.2.2.2.2.1, u.2.2.2.2.2.2.1, u.2.2.2.2.2.2.2.1, u.2.2.2.2.2.2.2.2.1, z)
theorem TM_ext {u w : TM} (h0 : mWd u = mWd w) (h1 : mTg u = mTg w) (h2 : mSo u = mSo w) (h3 : mRw u = mRw w) (h4 : mLn u = mLn w) (h5 : mLc u = mLc w) (h6 : mKr u = mKr w) (h7 : mRc u = mRc w) (h8 : mCs u = mCs w) (h9 : mTh u = mTh w) : u = w := by
  obtain ⟨a0, a1, a2, a3, a4, a5, a6, a7, a8, a9⟩ := u
  obtain ⟨b0, b1, b2, b3, b4, b5, b6, b7, b8, b9⟩ := w
  simp only [mWd, mTg, mSo, mRw, mLn, mLc, mKr, mRc, mCs, mTh] at h0 h1 h2 h3 h4 h5 h6 h7 h8 h9
  subst h0 h1 h2 h3 h4 h5 h6 h7 h8 h9; rfl
abbrev wM (G : Nat → Nat) (kc : Nat → ClassId) (u : TM) : va_W := [(G 0, .inr (1, [.ref (G 1), .ref (G 2), .ref (G 3), .ref (G 4), .ref (G 5), .ref (G 6), .ref (G 7), .ref (G 8), .ref (G 9), .int (mTh u)])), (G 1, .inl (kc 1, 2048, .inl (mWd u))), (G 2, .inl (kc 2, 1024, .inl (mTg u))), (G 3, .inl (kc 3, 2080, .inl (mSo u))), (G 4, .inl (kc 4, 32, .inl (mRw u))), (G 5, .inl (kc 5, 16, .inl (mLn u))), (G 6, .inl (kc 6, 16, .inl (mLc u))), (G 7, .inl (kc 7, 4, .inl (mKr u))), (G 8, .inl (kc 8, 4, .inl (mRc u))), (G 9, .inl (kc 9, 4, .inl (mCs u)))]
abbrev tyMs (kc : Nat → ClassId) : List (ClassId × FieldType) := [(kc 1, .int), (kc 2, .boolean), (kc 3, .int), (kc 4, .int), (kc 5, .int), (kc 6, .boolean), (kc 7, .int), (kc 8, .boolean), (kc 9, .int)]
section XM
variable {p : Program} {l : Launch} {e : Env} {R : Room} {s : State} {m : MethodId} {args : Array Value} {below : List Frame} {meth : Method} {c : Code} {H : Heap} {locs : List Loc} {cells slots : Nat} {Q : State → Prop}
variable {cc : ByteArray} {pc : Nat} {ls : Array Slot} {rest : List Value} {D : va_G} {A : Nat → Prop} {H0 : Heap} {G : Nat → Nat} {kc : Nat → ClassId} {u : TM} {c1 : Cond}
theorem xm_g0 (hx : p.tables.exec = Jvm.exec) (hb : c.code = cc) (hts : ∀ w ∈ c1 :: TB, w.before args s = true) (hown : s.vm.findClass "TagMemoryModel" = some m.cls) (hK : va_K D vwCl (tyMs kc) s) (hP : va_P D vwCl (wM G kc u) H) (hdg : decode cc pc = .ok (.getfield 7, 3)) (kk : W p l e R s m args below meth c H locs cells slots Q (F0 m (pc + 3) ls (.ref (G 1) :: rest))) : W p l e R s m args below meth c H locs cells slots Q (F0 m pc ls (.ref (G 0) :: rest)) :=
  va_get (ci := 1) (v := .ref (G 1)) (C := RM) (T := FM) (N := 10) hx hb hts insM hown hK hP 0 rfl rfl 0 (by decide) (hts (Cond.fieldLink "TagMemoryModel" 7 "TagMemoryModel" "word" "[I") (List.mem_cons_of_mem _ wm_351)) (fun _ h9 => h9) rfl hdg kk
theorem xm_l0 (hx : p.tables.exec = Jvm.exec) (hb : c.code = cc) (hK : va_K D vwCl (tyMs kc) s) (hP : va_P D vwCl (wM G kc u) H) {i : Int32} (j : Nat) (hi : i = nI j) (hj : j < 2048) (hdg : decode cc pc = .ok (.iaload, 1)) (kk : W p l e R s m args below meth c H locs cells slots Q (F0 m (pc + 1) ls (.int (mWd u j) :: rest))) : W p l e R s m args below meth c H locs cells slots Q (F0 m pc ls (.int i :: .ref (G 1) :: rest)) :=
  xa_iald hx hb hK hP 1 0 rfl rfl (by decide) j hi hj hdg kk
theorem xm_s0 (hx : p.tables.exec = Jvm.exec) (hb : c.code = cc) (hK : va_K D vwCl (tyMs kc) s) (hP : va_P D vwCl (wM G kc u) H) (hD : va_D A (wM G kc u)) (hS : va_S A H0 H locs) {i x : Int32} (j : Nat) (hi : i = nI j) (hj : j < 2048) (hdg : decode cc pc = .ok (.iastore, 1)) (kk : ∀ (H1 : Heap) (locs1 : List Loc), va_P D vwCl (wM G kc (nWd u (upd (mWd u) j x))) H1 → va_D A (wM G kc (nWd u (upd (mWd u) j x))) → va_S A H0 H1 locs1 → W p l e R s m args below meth c H1 locs1 cells slots Q (F0 m (pc + 1) ls rest)) : W p l e R s m args below meth c H locs cells slots Q (F0 m pc ls (.int x :: .int i :: .ref (G 1) :: rest)) :=
  xa_iast hx hb hK hP hD hS 1 0 rfl rfl (by decide) j hi hj hdg kk
theorem xm_g1 (hx : p.tables.exec = Jvm.exec) (hb : c.code = cc) (hts : ∀ w ∈ c1 :: TB, w.before args s = true) (hown : s.vm.findClass "TagMemoryModel" = some m.cls) (hK : va_K D vwCl (tyMs kc) s) (hP : va_P D vwCl (wM G kc u) H) (hdg : decode cc pc = .ok (.getfield 13, 3)) (kk : W p l e R s m args below meth c H locs cells slots Q (F0 m (pc + 3) ls (.ref (G 2) :: rest))) : W p l e R s m args below meth c H locs cells slots Q (F0 m pc ls (.ref (G 0) :: rest)) :=
  va_get (ci := 1) (v := .ref (G 2)) (C := RM) (T := FM) (N := 10) hx hb hts insM hown hK hP 0 rfl rfl 1 (by decide) (hts (Cond.fieldLink "TagMemoryModel" 13 "TagMemoryModel" "tagged" "[Z") (List.mem_cons_of_mem _ wm_352)) (fun _ h9 => h9) rfl hdg kk
theorem xm_l1 (hx : p.tables.exec = Jvm.exec) (hb : c.code = cc) (hK : va_K D vwCl (tyMs kc) s) (hP : va_P D vwCl (wM G kc u) H) {i : Int32} (j : Nat) (hi : i = nI j) (hj : j < 1024) (hdg : decode cc pc = .ok (.baload, 1)) (kk : W p l e R s m args below meth c H locs cells slots Q (F0 m (pc + 1) ls (.int (mTg u j) :: rest))) : W p l e R s m args below meth c H locs cells slots Q (F0 m pc ls (.int i :: .ref (G 2) :: rest)) :=
  xa_zald hx hb hK hP 2 1 rfl rfl (by decide) j hi hj hdg kk
theorem xm_s1 (hx : p.tables.exec = Jvm.exec) (hb : c.code = cc) (hK : va_K D vwCl (tyMs kc) s) (hP : va_P D vwCl (wM G kc u) H) (hD : va_D A (wM G kc u)) (hS : va_S A H0 H locs) {i x : Int32} (hz : x = 0 ∨ x = 1) (j : Nat) (hi : i = nI j) (hj : j < 1024) (hdg : decode cc pc = .ok (.bastore, 1)) (kk : ∀ (H1 : Heap) (locs1 : List Loc), va_P D vwCl (wM G kc (nTg u (upd (mTg u) j x))) H1 → va_D A (wM G kc (nTg u (upd (mTg u) j x))) → va_S A H0 H1 locs1 → W p l e R s m args below meth c H1 locs1 cells slots Q (F0 m (pc + 1) ls rest)) : W p l e R s m args below meth c H locs cells slots Q (F0 m pc ls (.int x :: .int i :: .ref (G 2) :: rest)) :=
  xa_zast hx hb hK hP hD hS 2 1 rfl rfl (by decide) hz j hi hj hdg kk
theorem xm_g2 (hx : p.tables.exec = Jvm.exec) (hb : c.code = cc) (hts : ∀ w ∈ c1 :: TB, w.before args s = true) (hown : s.vm.findClass "TagMemoryModel" = some m.cls) (hK : va_K D vwCl (tyMs kc) s) (hP : va_P D vwCl (wM G kc u) H) (hdg : decode cc pc = .ok (.getfield 17, 3)) (kk : W p l e R s m args below meth c H locs cells slots Q (F0 m (pc + 3) ls (.ref (G 3) :: rest))) : W p l e R s m args below meth c H locs cells slots Q (F0 m pc ls (.ref (G 0) :: rest)) :=
  va_get (ci := 1) (v := .ref (G 3)) (C := RM) (T := FM) (N := 10) hx hb hts insM hown hK hP 0 rfl rfl 2 (by decide) (hts (Cond.fieldLink "TagMemoryModel" 17 "TagMemoryModel" "store" "[I") (List.mem_cons_of_mem _ wm_353)) (fun _ h9 => h9) rfl hdg kk
theorem xm_l2 (hx : p.tables.exec = Jvm.exec) (hb : c.code = cc) (hK : va_K D vwCl (tyMs kc) s) (hP : va_P D vwCl (wM G kc u) H) {i : Int32} (j : Nat) (hi : i = nI j) (hj : j < 2080) (hdg : decode cc pc = .ok (.iaload, 1)) (kk : W p l e R s m args below meth c H locs cells slots Q (F0 m (pc + 1) ls (.int (mSo u j) :: rest))) : W p l e R s m args below meth c H locs cells slots Q (F0 m pc ls (.int i :: .ref (G 3) :: rest)) :=
  xa_iald hx hb hK hP 3 2 rfl rfl (by decide) j hi hj hdg kk
theorem xm_s2 (hx : p.tables.exec = Jvm.exec) (hb : c.code = cc) (hK : va_K D vwCl (tyMs kc) s) (hP : va_P D vwCl (wM G kc u) H) (hD : va_D A (wM G kc u)) (hS : va_S A H0 H locs) {i x : Int32} (j : Nat) (hi : i = nI j) (hj : j < 2080) (hdg : decode cc pc = .ok (.iastore, 1)) (kk : ∀ (H1 : Heap) (locs1 : List Loc), va_P D vwCl (wM G kc (nSo u (upd (mSo u) j x))) H1 → va_D A (wM G kc (nSo u (upd (mSo u) j x))) → va_S A H0 H1 locs1 → W p l e R s m args below meth c H1 locs1 cells slots Q (F0 m (pc + 1) ls rest)) : W p l e R s m args below meth c H locs cells slots Q (F0 m pc ls (.int x :: .int i :: .ref (G 3) :: rest)) :=
  xa_iast hx hb hK hP hD hS 3 2 rfl rfl (by decide) j hi hj hdg kk
theorem xm_g3 (hx : p.tables.exec = Jvm.exec) (hb : c.code = cc) (hts : ∀ w ∈ c1 :: TB, w.before args s = true) (hown : s.vm.findClass "TagMemoryModel" = some m.cls) (hK : va_K D vwCl (tyMs kc) s) (hP : va_P D vwCl (wM G kc u) H) (hdg : decode cc pc = .ok (.getfield 20, 3)) (kk : W p l e R s m args below meth c H locs cells slots Q (F0 m (pc + 3) ls (.ref (G 4) :: rest))) : W p l e R s m args below meth c H locs cells slots Q (F0 m pc ls (.ref (G 0) :: rest)) :=
  va_get (ci := 1) (v := .ref (G 4)) (C := RM) (T := FM) (N := 10) hx hb hts insM hown hK hP 0 rfl rfl 3 (by decide) (hts (Cond.fieldLink "TagMemoryModel" 20 "TagMemoryModel" "row" "[I") (List.mem_cons_of_mem _ wm_354)) (fun _ h9 => h9) rfl hdg kk
theorem xm_l3 (hx : p.tables.exec = Jvm.exec) (hb : c.code = cc) (hK : va_K D vwCl (tyMs kc) s) (hP : va_P D vwCl (wM G kc u) H) {i : Int32} (j : Nat) (hi : i = nI j) (hj : j < 32) (hdg : decode cc pc = .ok (.iaload, 1)) (kk : W p l e R s m args below meth c H locs cells slots Q (F0 m (pc + 1) ls (.int (mRw u j) :: rest))) : W p l e R s m args below meth c H locs cells slots Q (F0 m pc ls (.int i :: .ref (G 4) :: rest)) :=
  xa_iald hx hb hK hP 4 3 rfl rfl (by decide) j hi hj hdg kk
theorem xm_s3 (hx : p.tables.exec = Jvm.exec) (hb : c.code = cc) (hK : va_K D vwCl (tyMs kc) s) (hP : va_P D vwCl (wM G kc u) H) (hD : va_D A (wM G kc u)) (hS : va_S A H0 H locs) {i x : Int32} (j : Nat) (hi : i = nI j) (hj : j < 32) (hdg : decode cc pc = .ok (.iastore, 1)) (kk : ∀ (H1 : Heap) (locs1 : List Loc), va_P D vwCl (wM G kc (nRw u (upd (mRw u) j x))) H1 → va_D A (wM G kc (nRw u (upd (mRw u) j x))) → va_S A H0 H1 locs1 → W p l e R s m args below meth c H1 locs1 cells slots Q (F0 m (pc + 1) ls rest)) : W p l e R s m args below meth c H locs cells slots Q (F0 m pc ls (.int x :: .int i :: .ref (G 4) :: rest)) :=
  xa_iast hx hb hK hP hD hS 4 3 rfl rfl (by decide) j hi hj hdg kk
theorem xm_g4 (hx : p.tables.exec = Jvm.exec) (hb : c.code = cc) (hts : ∀ w ∈ c1 :: TB, w.before args s = true) (hown : s.vm.findClass "TagMemoryModel" = some m.cls) (hK : va_K D vwCl (tyMs kc) s) (hP : va_P D vwCl (wM G kc u) H) (hdg : decode cc pc = .ok (.getfield 23, 3)) (kk : W p l e R s m args below meth c H locs cells slots Q (F0 m (pc + 3) ls (.ref (G 5) :: rest))) : W p l e R s m args below meth c H locs cells slots Q (F0 m pc ls (.ref (G 0) :: rest)) :=
  va_get (ci := 1) (v := .ref (G 5)) (C := RM) (T := FM) (N := 10) hx hb hts insM hown hK hP 0 rfl rfl 4 (by decide) (hts (Cond.fieldLink "TagMemoryModel" 23 "TagMemoryModel" "line" "[I") (List.mem_cons_of_mem _ wm_355)) (fun _ h9 => h9) rfl hdg kk
theorem xm_l4 (hx : p.tables.exec = Jvm.exec) (hb : c.code = cc) (hK : va_K D vwCl (tyMs kc) s) (hP : va_P D vwCl (wM G kc u) H) {i : Int32} (j : Nat) (hi : i = nI j) (hj : j < 16) (hdg : decode cc pc = .ok (.iaload, 1)) (kk : W p l e R s m args below meth c H locs cells slots Q (F0 m (pc + 1) ls (.int (mLn u j) :: rest))) : W p l e R s m args below meth c H locs cells slots Q (F0 m pc ls (.int i :: .ref (G 5) :: rest)) :=
  xa_iald hx hb hK hP 5 4 rfl rfl (by decide) j hi hj hdg kk
theorem xm_s4 (hx : p.tables.exec = Jvm.exec) (hb : c.code = cc) (hK : va_K D vwCl (tyMs kc) s) (hP : va_P D vwCl (wM G kc u) H) (hD : va_D A (wM G kc u)) (hS : va_S A H0 H locs) {i x : Int32} (j : Nat) (hi : i = nI j) (hj : j < 16) (hdg : decode cc pc = .ok (.iastore, 1)) (kk : ∀ (H1 : Heap) (locs1 : List Loc), va_P D vwCl (wM G kc (nLn u (upd (mLn u) j x))) H1 → va_D A (wM G kc (nLn u (upd (mLn u) j x))) → va_S A H0 H1 locs1 → W p l e R s m args below meth c H1 locs1 cells slots Q (F0 m (pc + 1) ls rest)) : W p l e R s m args below meth c H locs cells slots Q (F0 m pc ls (.int x :: .int i :: .ref (G 5) :: rest)) :=
  xa_iast hx hb hK hP hD hS 5 4 rfl rfl (by decide) j hi hj hdg kk
theorem xm_g5 (hx : p.tables.exec = Jvm.exec) (hb : c.code = cc) (hts : ∀ w ∈ c1 :: TB, w.before args s = true) (hown : s.vm.findClass "TagMemoryModel" = some m.cls) (hK : va_K D vwCl (tyMs kc) s) (hP : va_P D vwCl (wM G kc u) H) (hdg : decode cc pc = .ok (.getfield 26, 3)) (kk : W p l e R s m args below meth c H locs cells slots Q (F0 m (pc + 3) ls (.ref (G 6) :: rest))) : W p l e R s m args below meth c H locs cells slots Q (F0 m pc ls (.ref (G 0) :: rest)) :=
  va_get (ci := 1) (v := .ref (G 6)) (C := RM) (T := FM) (N := 10) hx hb hts insM hown hK hP 0 rfl rfl 5 (by decide) (hts (Cond.fieldLink "TagMemoryModel" 26 "TagMemoryModel" "lineChanged" "[Z") (List.mem_cons_of_mem _ wm_356)) (fun _ h9 => h9) rfl hdg kk
theorem xm_l5 (hx : p.tables.exec = Jvm.exec) (hb : c.code = cc) (hK : va_K D vwCl (tyMs kc) s) (hP : va_P D vwCl (wM G kc u) H) {i : Int32} (j : Nat) (hi : i = nI j) (hj : j < 16) (hdg : decode cc pc = .ok (.baload, 1)) (kk : W p l e R s m args below meth c H locs cells slots Q (F0 m (pc + 1) ls (.int (mLc u j) :: rest))) : W p l e R s m args below meth c H locs cells slots Q (F0 m pc ls (.int i :: .ref (G 6) :: rest)) :=
  xa_zald hx hb hK hP 6 5 rfl rfl (by decide) j hi hj hdg kk
theorem xm_s5 (hx : p.tables.exec = Jvm.exec) (hb : c.code = cc) (hK : va_K D vwCl (tyMs kc) s) (hP : va_P D vwCl (wM G kc u) H) (hD : va_D A (wM G kc u)) (hS : va_S A H0 H locs) {i x : Int32} (hz : x = 0 ∨ x = 1) (j : Nat) (hi : i = nI j) (hj : j < 16) (hdg : decode cc pc = .ok (.bastore, 1)) (kk : ∀ (H1 : Heap) (locs1 : List Loc), va_P D vwCl (wM G kc (nLc u (upd (mLc u) j x))) H1 → va_D A (wM G kc (nLc u (upd (mLc u) j x))) → va_S A H0 H1 locs1 → W p l e R s m args below meth c H1 locs1 cells slots Q (F0 m (pc + 1) ls rest)) : W p l e R s m args below meth c H locs cells slots Q (F0 m pc ls (.int x :: .int i :: .ref (G 6) :: rest)) :=
  xa_zast hx hb hK hP hD hS 6 5 rfl rfl (by decide) hz j hi hj hdg kk
theorem xm_g6 (hx : p.tables.exec = Jvm.exec) (hb : c.code = cc) (hts : ∀ w ∈ c1 :: TB, w.before args s = true) (hown : s.vm.findClass "TagMemoryModel" = some m.cls) (hK : va_K D vwCl (tyMs kc) s) (hP : va_P D vwCl (wM G kc u) H) (hdg : decode cc pc = .ok (.getfield 29, 3)) (kk : W p l e R s m args below meth c H locs cells slots Q (F0 m (pc + 3) ls (.ref (G 7) :: rest))) : W p l e R s m args below meth c H locs cells slots Q (F0 m pc ls (.ref (G 0) :: rest)) :=
  va_get (ci := 1) (v := .ref (G 7)) (C := RM) (T := FM) (N := 10) hx hb hts insM hown hK hP 0 rfl rfl 6 (by decide) (hts (Cond.fieldLink "TagMemoryModel" 29 "TagMemoryModel" "keptRow" "[I") (List.mem_cons_of_mem _ wm_357)) (fun _ h9 => h9) rfl hdg kk
theorem xm_l6 (hx : p.tables.exec = Jvm.exec) (hb : c.code = cc) (hK : va_K D vwCl (tyMs kc) s) (hP : va_P D vwCl (wM G kc u) H) {i : Int32} (j : Nat) (hi : i = nI j) (hj : j < 4) (hdg : decode cc pc = .ok (.iaload, 1)) (kk : W p l e R s m args below meth c H locs cells slots Q (F0 m (pc + 1) ls (.int (mKr u j) :: rest))) : W p l e R s m args below meth c H locs cells slots Q (F0 m pc ls (.int i :: .ref (G 7) :: rest)) :=
  xa_iald hx hb hK hP 7 6 rfl rfl (by decide) j hi hj hdg kk
theorem xm_s6 (hx : p.tables.exec = Jvm.exec) (hb : c.code = cc) (hK : va_K D vwCl (tyMs kc) s) (hP : va_P D vwCl (wM G kc u) H) (hD : va_D A (wM G kc u)) (hS : va_S A H0 H locs) {i x : Int32} (j : Nat) (hi : i = nI j) (hj : j < 4) (hdg : decode cc pc = .ok (.iastore, 1)) (kk : ∀ (H1 : Heap) (locs1 : List Loc), va_P D vwCl (wM G kc (nKr u (upd (mKr u) j x))) H1 → va_D A (wM G kc (nKr u (upd (mKr u) j x))) → va_S A H0 H1 locs1 → W p l e R s m args below meth c H1 locs1 cells slots Q (F0 m (pc + 1) ls rest)) : W p l e R s m args below meth c H locs cells slots Q (F0 m pc ls (.int x :: .int i :: .ref (G 7) :: rest)) :=
  xa_iast hx hb hK hP hD hS 7 6 rfl rfl (by decide) j hi hj hdg kk
theorem xm_g7 (hx : p.tables.exec = Jvm.exec) (hb : c.code = cc) (hts : ∀ w ∈ c1 :: TB, w.before args s = true) (hown : s.vm.findClass "TagMemoryModel" = some m.cls) (hK : va_K D vwCl (tyMs kc) s) (hP : va_P D vwCl (wM G kc u) H) (hdg : decode cc pc = .ok (.getfield 32, 3)) (kk : W p l e R s m args below meth c H locs cells slots Q (F0 m (pc + 3) ls (.ref (G 8) :: rest))) : W p l e R s m args below meth c H locs cells slots Q (F0 m pc ls (.ref (G 0) :: rest)) :=
  va_get (ci := 1) (v := .ref (G 8)) (C := RM) (T := FM) (N := 10) hx hb hts insM hown hK hP 0 rfl rfl 7 (by decide) (hts (Cond.fieldLink "TagMemoryModel" 32 "TagMemoryModel" "rowChanged" "[Z") (List.mem_cons_of_mem _ wm_358)) (fun _ h9 => h9) rfl hdg kk
theorem xm_l7 (hx : p.tables.exec = Jvm.exec) (hb : c.code = cc) (hK : va_K D vwCl (tyMs kc) s) (hP : va_P D vwCl (wM G kc u) H) {i : Int32} (j : Nat) (hi : i = nI j) (hj : j < 4) (hdg : decode cc pc = .ok (.baload, 1)) (kk : W p l e R s m args below meth c H locs cells slots Q (F0 m (pc + 1) ls (.int (mRc u j) :: rest))) : W p l e R s m args below meth c H locs cells slots Q (F0 m pc ls (.int i :: .ref (G 8) :: rest)) :=
  xa_zald hx hb hK hP 8 7 rfl rfl (by decide) j hi hj hdg kk
theorem xm_s7 (hx : p.tables.exec = Jvm.exec) (hb : c.code = cc) (hK : va_K D vwCl (tyMs kc) s) (hP : va_P D vwCl (wM G kc u) H) (hD : va_D A (wM G kc u)) (hS : va_S A H0 H locs) {i x : Int32} (hz : x = 0 ∨ x = 1) (j : Nat) (hi : i = nI j) (hj : j < 4) (hdg : decode cc pc = .ok (.bastore, 1)) (kk : ∀ (H1 : Heap) (locs1 : List Loc), va_P D vwCl (wM G kc (nRc u (upd (mRc u) j x))) H1 → va_D A (wM G kc (nRc u (upd (mRc u) j x))) → va_S A H0 H1 locs1 → W p l e R s m args below meth c H1 locs1 cells slots Q (F0 m (pc + 1) ls rest)) : W p l e R s m args below meth c H locs cells slots Q (F0 m pc ls (.int x :: .int i :: .ref (G 8) :: rest)) :=
  xa_zast hx hb hK hP hD hS 8 7 rfl rfl (by decide) hz j hi hj hdg kk
theorem xm_g8 (hx : p.tables.exec = Jvm.exec) (hb : c.code = cc) (hts : ∀ w ∈ c1 :: TB, w.before args s = true) (hown : s.vm.findClass "TagMemoryModel" = some m.cls) (hK : va_K D vwCl (tyMs kc) s) (hP : va_P D vwCl (wM G kc u) H) (hdg : decode cc pc = .ok (.getfield 35, 3)) (kk : W p l e R s m args below meth c H locs cells slots Q (F0 m (pc + 3) ls (.ref (G 9) :: rest))) : W p l e R s m args below meth c H locs cells slots Q (F0 m pc ls (.ref (G 0) :: rest)) :=
  va_get (ci := 1) (v := .ref (G 9)) (C := RM) (T := FM) (N := 10) hx hb hts insM hown hK hP 0 rfl rfl 8 (by decide) (hts (Cond.fieldLink "TagMemoryModel" 35 "TagMemoryModel" "counts" "[I") (List.mem_cons_of_mem _ wm_359)) (fun _ h9 => h9) rfl hdg kk
theorem xm_l8 (hx : p.tables.exec = Jvm.exec) (hb : c.code = cc) (hK : va_K D vwCl (tyMs kc) s) (hP : va_P D vwCl (wM G kc u) H) {i : Int32} (j : Nat) (hi : i = nI j) (hj : j < 4) (hdg : decode cc pc = .ok (.iaload, 1)) (kk : W p l e R s m args below meth c H locs cells slots Q (F0 m (pc + 1) ls (.int (mCs u j) :: rest))) : W p l e R s m args below meth c H locs cells slots Q (F0 m pc ls (.int i :: .ref (G 9) :: rest)) :=
  xa_iald hx hb hK hP 9 8 rfl rfl (by decide) j hi hj hdg kk
theorem xm_s8 (hx : p.tables.exec = Jvm.exec) (hb : c.code = cc) (hK : va_K D vwCl (tyMs kc) s) (hP : va_P D vwCl (wM G kc u) H) (hD : va_D A (wM G kc u)) (hS : va_S A H0 H locs) {i x : Int32} (j : Nat) (hi : i = nI j) (hj : j < 4) (hdg : decode cc pc = .ok (.iastore, 1)) (kk : ∀ (H1 : Heap) (locs1 : List Loc), va_P D vwCl (wM G kc (nCs u (upd (mCs u) j x))) H1 → va_D A (wM G kc (nCs u (upd (mCs u) j x))) → va_S A H0 H1 locs1 → W p l e R s m args below meth c H1 locs1 cells slots Q (F0 m (pc + 1) ls rest)) : W p l e R s m args below meth c H locs cells slots Q (F0 m pc ls (.int x :: .int i :: .ref (G 9) :: rest)) :=
  xa_iast hx hb hK hP hD hS 9 8 rfl rfl (by decide) j hi hj hdg kk
theorem xm_g9 (hx : p.tables.exec = Jvm.exec) (hb : c.code = cc) (hts : ∀ w ∈ c1 :: TB, w.before args s = true) (hown : s.vm.findClass "TagMemoryModel" = some m.cls) (hK : va_K D vwCl (tyMs kc) s) (hP : va_P D vwCl (wM G kc u) H) (hdg : decode cc pc = .ok (.getfield 38, 3)) (kk : W p l e R s m args below meth c H locs cells slots Q (F0 m (pc + 3) ls (.int (mTh u) :: rest))) : W p l e R s m args below meth c H locs cells slots Q (F0 m pc ls (.ref (G 0) :: rest)) :=
  va_get (ci := 1) (v := .int (mTh u)) (C := RM) (T := FM) (N := 10) hx hb hts insM hown hK hP 0 rfl rfl 9 (by decide) (hts (Cond.fieldLink "TagMemoryModel" 38 "TagMemoryModel" "thrown" "I") (List.mem_cons_of_mem _ wm_360)) (fun _ h9 => h9) rfl hdg kk
theorem xm_p9 (hx : p.tables.exec = Jvm.exec) (hb : c.code = cc) (hts : ∀ w ∈ c1 :: TB, w.before args s = true) (hown : s.vm.findClass "TagMemoryModel" = some m.cls) (hK : va_K D vwCl (tyMs kc) s) (hP : va_P D vwCl (wM G kc u) H) (hD : va_D A (wM G kc u)) (hS : va_S A H0 H locs) {x : Int32} (hdg : decode cc pc = .ok (.putfield 38, 3)) (kk : ∀ (H1 : Heap) (locs1 : List Loc), va_P D vwCl (wM G kc (nTh u x)) H1 → va_D A (wM G kc (nTh u x)) → va_S A H0 H1 locs1 → W p l e R s m args below meth c H1 locs1 cells slots Q (F0 m (pc + 3) ls rest)) : W p l e R s m args below meth c H locs cells slots Q (F0 m pc ls (.int x :: .ref (G 0) :: rest)) :=
  va_put (ci := 1) (v := .int x) (ty := .int) (C := RM) (T := FM) (N := 10) hx hb hts insM tyM tyM_ok nmM hown hK hP hD hS 0 rfl rfl 9 (by decide) (hts (Cond.fieldLink "TagMemoryModel" 38 "TagMemoryModel" "thrown" "I") (List.mem_cons_of_mem _ wm_360)) (fun _ h9 => h9) rfl (by decide +kernel) rfl rfl (Nat.le_of_ble_eq_true rfl) hdg (fun H1 locs1 hP hD hS => kk H1 locs1 hP hD hS)
end XM
end
section
/-! The class's steps as functions of its state; what it keeps of itself. -/
def okR (p : Nat) (x : Int32) : Prop := x = -1 ∨ ∃ k, k < 32 ∧ k % 4 = p ∧ x = nI k
def okL (p : Nat) (x : Int32) : Prop := x = -1 ∨ ∃ n, n < 512 ∧ n % 16 = p ∧ x = nI n
def tI (u : TC) : Prop := (∀ p, p < 4 → okR p (tRa u p)) ∧ (∀ p, p < 16 → okL p (tLa u p))
def fClrR (u : TC) (p : Nat) : TC := sRc (sRa u (upd (tRa u) p (-1))) (upd (tRc u) p 0)
def fWbR (u : TC) (p k : Nat) : TC := sN3 (sSt u (upd (tSt u) (2048 + k) (tRt u p))) (tN3 u + 1)
def fRowGo (u : TC) (p : Nat) : TC := if tRa u p = -1 ∨ tRc u p = 0 then fClrR u p else fClrR (fWbR u p (tRa u p).toNatClampNeg) p
def fRowIn (v : TC) (k : Nat) : TC := sN2 (sRa (sRt v (upd (tRt v) (k % 4) (tSt v (2048 + k)))) (upd (tRa v) (k % 4) (nI k))) (tN2 v + 1)
def fWantRow (u : TC) (k : Nat) : TC := if tRa u (k % 4) = nI k then u else fRowIn (fRowGo u (k % 4)) k
def ftol (n : Nat) (x : Int32) : Int32 := (x.toUInt32 >>> ((nI (n % 16 * 2)).toUInt32 &&& Int32.toUInt32 31)).toInt32 &&& 3
def fTagW (n : Nat) (x t : Int32) : Int32 := (x &&& ((3 <<< (nI (n % 16 * 2) &&& 31)) ^^^ (-1))) ||| (t <<< (nI (n % 16 * 2) &&& 31))
def fWbL2 (v : TC) (n p : Nat) : TC := sN1 (sRc (sRt v (upd (tRt v) (n / 16 % 4) (fTagW n (tRt v (n / 16 % 4)) (tLt v p)))) (upd (tRc v) (n / 16 % 4) 1)) (tN1 v + 1)
def fWbL1 (u : TC) (n p : Nat) : TC := sSt u (va_cpy (tLw u) (tSt u) (p * 4) (n * 4) 4)
def fWbL (u : TC) (n p : Nat) : TC := fWbL2 (fWantRow (fWbL1 u n p) (n / 16)) n p
def fClrL (u : TC) (p : Nat) : TC := sLc (sLa u (upd (tLa u) p (-1))) (upd (tLc u) p 0)
def fLineGo (u : TC) (p : Nat) : TC := if tLa u p = -1 ∨ tLc u p = 0 then fClrL u p else fClrL (fWbL u (tLa u p).toNatClampNeg p) p
def rLineGo (u : TC) (p : Nat) : Int32 := if tLa u p = -1 ∨ tLc u p = 0 then 0 else 1
def fBring2 (v : TC) (n p : Nat) : TC := sN0 (sLc (sLa (sLt v (upd (tLt v) p (ftol n (tRt v (n / 16 % 4))))) (upd (tLa v) p (nI n))) (upd (tLc v) p 0)) (tN0 v + 1)
def fBring1 (u : TC) (n p : Nat) : TC := sLw u (va_cpy (tSt u) (tLw u) (n * 4) (p * 4) 4)
def fBring (u : TC) (n p : Nat) : TC := fBring2 (fWantRow (fBring1 u n p) (n / 16)) n p
def fWant (u : TC) (n : Nat) : TC := if tLa u (n % 16) = nI n then u else fBring (fLineGo u (n % 16)) n (n % 16)
def ftb (g : Nat) : Int32 := 1 <<< (nI (g % 2) &&& 31)
def fChTag (u : TC) (g : Nat) (t : Int32) : TC := sLc (sLt u (upd (tLt u) (g / 2 % 16) (if t = 0 then tLt u (g / 2 % 16) &&& (ftb g ^^^ (-1)) else tLt u (g / 2 % 16) &&& (ftb g ^^^ (-1)) ||| ftb g))) (upd (tLc u) (g / 2 % 16) 1)
def fChWord (u : TC) (i : Nat) (w : Int32) : TC := fChTag (sLw u (upd (tLw u) (i % 64) w)) (i / 2) 0
def fChGran1 (u : TC) (g : Nat) (lo hi : Int32) : TC := sLw (sLw u (upd (tLw u) (2 * g % 64) lo)) (upd (upd (tLw u) (2 * g % 64) lo) ((2 * g + 1) % 64) hi)
def fChGran (u : TC) (g : Nat) (lo hi t : Int32) : TC := fChTag (fChGran1 u g lo hi) g t
def rTag (u : TC) (g : Nat) : Int32 := if tLt u (g / 2 % 16) &&& ftb g = 0 then 0 else 1
def fPeek (u : TC) (k : Nat) : Int32 := if tRa u (k % 4) = nI k then tRt u (k % 4) else tSt u (2048 + k)
theorem nI_neg1 {n : Nat} (h : n < 2 ^ 31) : nI n ≠ -1 := fun q => by
  have a := nI_toInt h
  rw [q, show (-1 : Int32).toInt = -1 from by decide +kernel] at a
  omega
theorem tI_clrR {u : TC} {p : Nat} (h : tI u) : tI (fClrR u p) := ⟨fun q hq => by
  show okR q (upd (tRa u) p (-1) q)
  unfold upd
  by_cases e : q = p
  · rw [if_pos e]; exact Or.inl rfl
  · rw [if_neg e]; exact h.1 q hq, h.2⟩
theorem tI_rowGo {u : TC} {p : Nat} (h : tI u) : tI (fRowGo u p) := by
  unfold fRowGo
  by_cases e : tRa u p = -1 ∨ tRc u p = 0
  · rw [if_pos e]; exact tI_clrR h
  · rw [if_neg e]; exact tI_clrR (u := fWbR u p _) h
theorem tI_rowIn {u : TC} {k : Nat} (h : tI u) (hk : k < 32) : tI (fRowIn u k) := ⟨fun q hq => by
  show okR q (upd (tRa u) (k % 4) (nI k) q)
  unfold upd
  by_cases e : q = k % 4
  · rw [if_pos e]; exact Or.inr ⟨k, hk, e.symm, rfl⟩
  · rw [if_neg e]; exact h.1 q hq, h.2⟩
theorem tI_wantRow {u : TC} {k : Nat} (h : tI u) (hk : k < 32) : tI (fWantRow u k) := by
  unfold fWantRow
  by_cases e : tRa u (k % 4) = nI k
  · rw [if_pos e]; exact h
  · rw [if_neg e]; exact tI_rowIn (tI_rowGo h) hk
theorem tI_wbL {u : TC} {n p : Nat} (h : tI u) (hn : n < 512) : tI (fWbL u n p) := tI_wantRow (u := fWbL1 u n p) (k := n / 16) h (by omega)
theorem tI_clrL {u : TC} {p : Nat} (h : tI u) : tI (fClrL u p) := ⟨h.1, fun q hq => by
  show okL q (upd (tLa u) p (-1) q)
  unfold upd
  by_cases e : q = p
  · rw [if_pos e]; exact Or.inl rfl
  · rw [if_neg e]; exact h.2 q hq⟩
theorem tI_lineGo {u : TC} {p : Nat} (h : tI u) (hp : p < 16) : tI (fLineGo u p) := by
  unfold fLineGo
  by_cases e : tLa u p = -1 ∨ tLc u p = 0
  · rw [if_pos e]; exact tI_clrL h
  · rw [if_neg e]
    rcases h.2 p hp with h1 | ⟨n, hn, -, h1⟩
    · exact absurd (Or.inl h1) e
    · rw [h1, nI_clamp (by omega)]; exact tI_clrL (tI_wbL h hn)
theorem tI_bring {u : TC} {n p : Nat} (h : tI u) (hn : n < 512) (hp : n % 16 = p) : tI (fBring u n p) := by
  have h1 := tI_wantRow (u := fBring1 u n p) (k := n / 16) h (by omega)
  refine ⟨h1.1, fun q hq => ?_⟩
  show okL q (upd (tLa (fWantRow (fBring1 u n p) (n / 16))) p (nI n) q)
  unfold upd
  by_cases e : q = p
  · rw [if_pos e]; exact Or.inr ⟨n, hn, by omega, rfl⟩
  · rw [if_neg e]; exact h1.2 q hq
theorem tI_want {u : TC} {n : Nat} (h : tI u) (hn : n < 512) : tI (fWant u n) := by
  unfold fWant
  by_cases e : tLa u (n % 16) = nI n
  · rw [if_pos e]; exact h
  · rw [if_neg e]; exact tI_bring (tI_lineGo h (by omega)) hn rfl
section XD
variable {p : Program} {l : Launch} {e : Env} {R : Room} {s : State} {m : MethodId} {args : Array Value} {below : List Frame} {meth : Method} {c : Code} {H : Heap} {locs : List Loc} {cells slots : Nat} {Q : State → Prop}
variable {cc : ByteArray} {pc : Nat} {ls : Array Slot} {rest : List Value} {D : va_G} {cl : List vw_C} {A : Nat → Prop} {a : Nat} {tys : List (ClassId × FieldType)} {ws : va_W} {H0 : Heap}
theorem xa_copy (hx : p.tables.exec = Jvm.exec) (hb : c.code = cc) (hml : c.maxLocals = ls.size) {own : String} {index : Nat} (hown : s.vm.findClass own = some m.cls) (hlink : (Cond.methodLink own index arraycopyName).before args s = true) (hnat : (Cond.native arraycopyName).before args s = true) (hstat : (Cond.static arraycopyName).before args s = true) (hini : (Cond.initialized "java/lang/System").before args s = true)
    (hK : va_K D cl tys s) (hP : va_P D cl ws H) (hD : va_D A ws) (hS : va_S A H0 H locs) (q0 q1 t0 t1 : Nat) {a0 : Nat} {c0 c1 : ClassId} {n0 n1 : Nat} {f g : Nat → Int32} (ha0 : ws[q0]? = some (a0, .inl (c0, n0, .inl f))) (ha1 : ws[q1]? = some (a, .inl (c1, n1, .inl g))) (ht0 : tys[t0]? = some (c0, .int)) (ht1 : tys[t1]? = some (c1, .int))
    {x y z : Int32} (sp dp n : Nat) (es : x = nI sp) (ed : y = nI dp) (en : z = nI n) (h4 : sp + n ≤ n0) (h5 : dp + n ≤ n1) (hn0 : n0 < 2 ^ 31) (hn1 : n1 < 2 ^ 31)
    (hframes : 1 ≤ R.frames) (hlocals : (rest.map fun v => v.category).sum + (nativeFrameWords "java/lang/System" "arraycopy" 5 + 11) ≤ R.locals) (hdg : decode cc pc = .ok (.invokestatic index, 3))
    (kk : ∀ (H1 : Heap) (locs1 : List Loc), va_P D cl (ws.set q1 (a, .inl (c1, n1, .inl (va_cpy f g sp dp n)))) H1 → va_D A (ws.set q1 (a, .inl (c1, n1, .inl (va_cpy f g sp dp n)))) → va_S A H0 H1 locs1 → W p l e R s m args below meth c H1 locs1 cells slots Q (F0 m (pc + 3) ls rest)) : W p l e R s m args below meth c H locs cells slots Q (F0 m pc ls (.int z :: .int y :: .ref a :: .int x :: .ref a0 :: rest)) := by
  subst es; subst ed; subst en
  have e1 : (nI sp).toNatClampNeg = sp := nI_clamp (by omega)
  have e2 : (nI dp).toNatClampNeg = dp := nI_clamp (by omega)
  have e3 : (nI n).toNatClampNeg = n := nI_clamp (by omega)
  refine va_copyi hx hb hml hown hlink hnat hstat hini hK hP hD hS q0 q1 t0 t1 ha0 ha1 ht0 ht1 rfl (nI_pos (by omega)) (nI_pos (by omega)) (nI_pos (by omega)) (by rw [e1, e3]; exact h4) (by rw [e2, e3]; exact h5) (fun i _ => rfl) hframes hlocals hdg ?_
  rw [e1, e2, e3]
  exact kk
end XD
end
section
set_option maxHeartbeats 4000000 in
set_option maxRecDepth 100000 in
theorem c_T_granuleOfWord (l : Launch) (i : Nat) (hi : i < 2 ^ 31) : XMs l y_T_granuleOfWord k_T_granuleOfWord { frames := 0, cells := 0, slots := 0, locals := 0 } [.int (nI i)] (fun r => r = nI (i / 2)) := by
  refine xb_ofs (cc := b_T_granuleOfWord) (maxL := 1) (ret := some .int) (by decide) rfl (Nat.le_of_ble_eq_true rfl) ?_
  intro p e s m below meth c ls hx hb hml hr hlocks hts hown hl
  have hl : lv_has ls 1 [(0, .int (nI i))] := hl
  refine lv_iload_n hx hb d_T_granuleOfWord_0 rfl (lv_at hl 0 rfl) ?_
  refine lv_iconst (v := 2) hx hb d_T_granuleOfWord_1 (by decide) ?_
  refine xa_idiv hx hb i 2 rfl rfl (by omega) (by decide) (by decide) d_T_granuleOfWord_2 ?_
  exact xc_sret hx hb hr hlocks rfl d_T_granuleOfWord_3
set_option maxHeartbeats 4000000 in
set_option maxRecDepth 100000 in
theorem c_T_lineOfWord (l : Launch) (i : Nat) (hi : i < 2 ^ 31) : XMs l y_T_lineOfWord k_T_lineOfWord { frames := 0, cells := 0, slots := 0, locals := 0 } [.int (nI i)] (fun r => r = nI (i / 4)) := by
  refine xb_ofs (cc := b_T_lineOfWord) (maxL := 1) (ret := some .int) (by decide) rfl (Nat.le_of_ble_eq_true rfl) ?_
  intro p e s m below meth c ls hx hb hml hr hlocks hts hown hl
  have hl : lv_has ls 1 [(0, .int (nI i))] := hl
  refine lv_iload_n hx hb d_T_lineOfWord_0 rfl (lv_at hl 0 rfl) ?_
  refine lv_iconst (v := 4) hx hb d_T_lineOfWord_1 (by decide) ?_
  refine xa_idiv hx hb i 4 rfl rfl (by omega) (by decide) (by decide) d_T_lineOfWord_2 ?_
  exact xc_sret hx hb hr hlocks rfl d_T_lineOfWord_3
set_option maxHeartbeats 4000000 in
set_option maxRecDepth 100000 in
theorem c_T_lineOfGranule (l : Launch) (i : Nat) (hi : i < 2 ^ 31) : XMs l y_T_lineOfGranule k_T_lineOfGranule { frames := 0, cells := 0, slots := 0, locals := 0 } [.int (nI i)] (fun r => r = nI (i / 2)) := by
  refine xb_ofs (cc := b_T_lineOfGranule) (maxL := 1) (ret := some .int) (by decide) rfl (Nat.le_of_ble_eq_true rfl) ?_
  intro p e s m below meth c ls hx hb hml hr hlocks hts hown hl
  have hl : lv_has ls 1 [(0, .int (nI i))] := hl
  refine lv_iload_n hx hb d_T_lineOfGranule_0 rfl (lv_at hl 0 rfl) ?_
  refine lv_iconst (v := 2) hx hb d_T_lineOfGranule_1 (by decide) ?_
  refine xa_idiv hx hb i 2 rfl rfl (by omega) (by decide) (by decide) d_T_lineOfGranule_2 ?_
  exact xc_sret hx hb hr hlocks rfl d_T_lineOfGranule_3
set_option maxHeartbeats 4000000 in
set_option maxRecDepth 100000 in
theorem c_T_rowOfLine (l : Launch) (i : Nat) (hi : i < 2 ^ 31) : XMs l y_T_rowOfLine k_T_rowOfLine { frames := 0, cells := 0, slots := 0, locals := 0 } [.int (nI i)] (fun r => r = nI (i / 16)) := by
  refine xb_ofs (cc := b_T_rowOfLine) (maxL := 1) (ret := some .int) (by decide) rfl (Nat.le_of_ble_eq_true rfl) ?_
  intro p e s m below meth c ls hx hb hml hr hlocks hts hown hl
  have hl : lv_has ls 1 [(0, .int (nI i))] := hl
  refine lv_iload_n hx hb d_T_rowOfLine_0 rfl (lv_at hl 0 rfl) ?_
  refine lv_bipush (v := 16) hx hb d_T_rowOfLine_1 (by decide) ?_
  refine xa_idiv hx hb i 16 rfl rfl (by omega) (by decide) (by decide) d_T_rowOfLine_3 ?_
  exact xc_sret hx hb hr hlocks rfl d_T_rowOfLine_4
set_option maxHeartbeats 4000000 in
set_option maxRecDepth 100000 in
theorem c_T_placeOfLine (l : Launch) (i : Nat) (hi : i < 2 ^ 31) : XMs l y_T_placeOfLine k_T_placeOfLine { frames := 0, cells := 0, slots := 0, locals := 0 } [.int (nI i)] (fun r => r = nI (i % 16)) := by
  refine xb_ofs (cc := b_T_placeOfLine) (maxL := 1) (ret := some .int) (by decide) rfl (Nat.le_of_ble_eq_true rfl) ?_
  intro p e s m below meth c ls hx hb hml hr hlocks hts hown hl
  have hl : lv_has ls 1 [(0, .int (nI i))] := hl
  refine lv_iload_n hx hb d_T_placeOfLine_0 rfl (lv_at hl 0 rfl) ?_
  refine lv_bipush (v := 16) hx hb d_T_placeOfLine_1 (by decide) ?_
  refine xa_irem hx hb i 16 rfl rfl (by omega) (by decide) (by decide) d_T_placeOfLine_3 ?_
  exact xc_sret hx hb hr hlocks rfl d_T_placeOfLine_4
set_option maxHeartbeats 4000000 in
set_option maxRecDepth 100000 in
theorem c_T_placeOfRow (l : Launch) (i : Nat) (hi : i < 2 ^ 31) : XMs l y_T_placeOfRow k_T_placeOfRow { frames := 0, cells := 0, slots := 0, locals := 0 } [.int (nI i)] (fun r => r = nI (i % 4)) := by
  refine xb_ofs (cc := b_T_placeOfRow) (maxL := 1) (ret := some .int) (by decide) rfl (Nat.le_of_ble_eq_true rfl) ?_
  intro p e s m below meth c ls hx hb hml hr hlocks hts hown hl
  have hl : lv_has ls 1 [(0, .int (nI i))] := hl
  refine lv_iload_n hx hb d_T_placeOfRow_0 rfl (lv_at hl 0 rfl) ?_
  refine lv_iconst (v := 4) hx hb d_T_placeOfRow_1 (by decide) ?_
  refine xa_irem hx hb i 4 rfl rfl (by omega) (by decide) (by decide) d_T_placeOfRow_2 ?_
  exact xc_sret hx hb hr hlocks rfl d_T_placeOfRow_3
set_option maxHeartbeats 4000000 in
set_option maxRecDepth 100000 in
theorem c_T_slotOfWord (l : Launch) (i : Nat) (hi : i < 2 ^ 31) : XMs l y_T_slotOfWord k_T_slotOfWord { frames := 0, cells := 0, slots := 0, locals := 0 } [.int (nI i)] (fun r => r = nI (i % 64)) := by
  refine xb_ofs (cc := b_T_slotOfWord) (maxL := 1) (ret := some .int) (by decide) rfl (Nat.le_of_ble_eq_true rfl) ?_
  intro p e s m below meth c ls hx hb hml hr hlocks hts hown hl
  have hl : lv_has ls 1 [(0, .int (nI i))] := hl
  refine lv_iload_n hx hb d_T_slotOfWord_0 rfl (lv_at hl 0 rfl) ?_
  refine lv_bipush (v := 64) hx hb d_T_slotOfWord_1 (by decide) ?_
  refine xa_irem hx hb i 64 rfl rfl (by omega) (by decide) (by decide) d_T_slotOfWord_3 ?_
  exact xc_sret hx hb hr hlocks rfl d_T_slotOfWord_4
set_option maxHeartbeats 4000000 in
set_option maxRecDepth 100000 in
theorem c_T_firstTagBit (l : Launch) (i : Nat) (hi : i < 2 ^ 31) : XMs l y_T_firstTagBit k_T_firstTagBit { frames := 0, cells := 0, slots := 0, locals := 0 } [.int (nI i)] (fun r => r = nI (i % 16 * 2)) := by
  refine xb_ofs (cc := b_T_firstTagBit) (maxL := 1) (ret := some .int) (by decide) rfl (Nat.le_of_ble_eq_true rfl) ?_
  intro p e s m below meth c ls hx hb hml hr hlocks hts hown hl
  have hl : lv_has ls 1 [(0, .int (nI i))] := hl
  refine lv_iload_n hx hb d_T_firstTagBit_0 rfl (lv_at hl 0 rfl) ?_
  refine lv_bipush (v := 16) hx hb d_T_firstTagBit_1 (by decide) ?_
  refine xa_irem hx hb i 16 rfl rfl (by omega) (by decide) (by decide) d_T_firstTagBit_3 ?_
  refine lv_iconst (v := 2) hx hb d_T_firstTagBit_4 (by decide) ?_
  refine xa_imul hx hb (i % 16) 2 rfl rfl d_T_firstTagBit_5 ?_
  exact xc_sret hx hb hr hlocks rfl d_T_firstTagBit_6
set_option maxHeartbeats 4000000 in
set_option maxRecDepth 100000 in
theorem c_T_tagBit (l : Launch) (i : Nat) (hi : i < 2 ^ 31) : XMs l y_T_tagBit k_T_tagBit { frames := 0, cells := 0, slots := 0, locals := 0 } [.int (nI i)] (fun r => r = ftb i) := by
  refine xb_ofs (cc := b_T_tagBit) (maxL := 1) (ret := some .int) (by decide) rfl (Nat.le_of_ble_eq_true rfl) ?_
  intro p e s m below meth c ls hx hb hml hr hlocks hts hown hl
  have hl : lv_has ls 1 [(0, .int (nI i))] := hl
  refine lv_iconst (v := 1) hx hb d_T_tagBit_0 (by decide) ?_
  refine lv_iload_n hx hb d_T_tagBit_1 rfl (lv_at hl 0 rfl) ?_
  refine lv_iconst (v := 2) hx hb d_T_tagBit_2 (by decide) ?_
  refine xa_irem hx hb i 2 rfl rfl (by omega) (by decide) (by decide) d_T_tagBit_3 ?_
  refine lv_ishl hx hb d_T_tagBit_4 ?_
  exact xc_sret hx hb hr hlocks rfl d_T_tagBit_5
set_option maxHeartbeats 4000000 in
set_option maxRecDepth 100000 in
theorem c_T_tagsOfLine (l : Launch) (i : Nat) (hi : i < 2 ^ 31) (x : Int32) : XMs l y_T_tagsOfLine k_T_tagsOfLine { frames := 1, cells := 0, slots := 0, locals := 20 } [.int (nI i), .int x] (fun r => r = ftol i x) := by
  refine xb_ofs (cc := b_T_tagsOfLine) (maxL := 2) (ret := some .int) (by decide) rfl (Nat.le_of_ble_eq_true rfl) ?_
  intro p e s m below meth c ls hx hb hml hr hlocks hts hown hl
  have hl : lv_has ls 2 [(0, .int (nI i)), (1, .int x)] := hl
  refine lv_iload_n hx hb d_T_tagsOfLine_0 rfl (lv_at hl 1 rfl) ?_
  refine lv_iload_n hx hb d_T_tagsOfLine_1 rfl (lv_at hl 0 rfl) ?_
  refine xc_calls (n := 1) (C := "TagMemory") hx hb hml hown hts (c_T_firstTagBit l i (by omega)) (tb_S wm_86 wm_87 wm_1 wm_88) rfl rfl rfl (by decide +kernel) ⟨Nat.le_of_ble_eq_true rfl, Nat.le_of_ble_eq_true rfl⟩ rfl hl.1 rfl (Nat.le_of_ble_eq_true rfl) d_T_tagsOfLine_2 ⟨Nat.zero_le _, Nat.zero_le _⟩ (fun r hw => ?_)
  subst hw
  refine lv_iushr hx hb d_T_tagsOfLine_5 rfl ?_
  refine lv_iconst (v := 3) hx hb d_T_tagsOfLine_6 (by decide) ?_
  refine lv_iand hx hb d_T_tagsOfLine_7 ?_
  exact xc_sret hx hb hr hlocks rfl d_T_tagsOfLine_8
set_option maxHeartbeats 4000000 in
set_option maxRecDepth 100000 in
theorem c_T_letRowGo (l : Launch) (D : va_G) (G : Nat → Nat) (kc : Nat → ClassId) (sz : Nat) (u : TC) (q : Nat) (hq : q < 4) (hI : tI u) : XMv l y_T_letRowGo k_T_letRowGo { frames := 0, cells := 0, slots := 0, locals := 0 } D vwCl (wT G kc) (tyTs kc) u sz [.ref (G 0), .int (nI q)] (fun u1 => u1 = fRowGo u q) := by
  refine xb_ofv (cc := b_T_letRowGo) (maxL := 2) (ret := none) (by decide) rfl (Nat.le_of_ble_eq_true rfl) ?_
  intro p e s m below meth c A ls hsz hx hb hml hr hlocks hts hown hP hK hD hA hl
  have hl : lv_has ls 2 [(0, .ref (G 0)), (1, .int (nI q))] := hl
  have hS : va_S A s.heap s.heap [] := va_S.rf
  by_cases h1 : tRa u q = -1
  · clear hI
    refine lv_aload_n hx hb d_T_letRowGo_0 rfl (lv_at hl 0 rfl) ?_
    refine xt_g5 hx hb hts hown hK hP d_T_letRowGo_1 ?_
    refine lv_iload_n hx hb d_T_letRowGo_4 rfl (lv_at hl 1 rfl) ?_
    refine xt_l5 hx hb hK hP q rfl (by omega) d_T_letRowGo_5 ?_
    refine lv_iconst (v := (-1)) hx hb d_T_letRowGo_6 (by decide) ?_
    refine lv_icmp_eq (tgt := 50) hx hb d_T_letRowGo_7 (by decide) (fun _ => ?_) (fun c9 => absurd h1 c9)
    refine lv_aload_n hx hb d_T_letRowGo_50 rfl (lv_at hl 0 rfl) ?_
    refine xt_g5 hx hb hts hown hK hP d_T_letRowGo_51 ?_
    refine lv_iload_n hx hb d_T_letRowGo_54 rfl (lv_at hl 1 rfl) ?_
    refine lv_iconst (v := (-1)) hx hb d_T_letRowGo_55 (by decide) ?_
    refine xt_s5 hx hb hK hP hD hS q rfl (by omega) d_T_letRowGo_56 (fun H locs hP hD hS => ?_)
    refine lv_aload_n hx hb d_T_letRowGo_57 rfl (lv_at hl 0 rfl) ?_
    refine xt_g7 hx hb hts hown hK hP d_T_letRowGo_58 ?_
    refine lv_iload_n hx hb d_T_letRowGo_61 rfl (lv_at hl 1 rfl) ?_
    refine lv_iconst (v := 0) hx hb d_T_letRowGo_62 (by decide) ?_
    refine xt_s7 hx hb hK hP hD hS (Or.inl rfl) q rfl (by omega) d_T_letRowGo_63 (fun H locs hP hD hS => ?_)
    exact xc_vret hx hb hr hlocks hP hK hD hS (by unfold fRowGo; rw [if_pos (Or.inl h1)]; rfl) d_T_letRowGo_64
  · by_cases h2 : tRc u q = 0
    · refine lv_aload_n hx hb d_T_letRowGo_0 rfl (lv_at hl 0 rfl) ?_
      refine xt_g5 hx hb hts hown hK hP d_T_letRowGo_1 ?_
      refine lv_iload_n hx hb d_T_letRowGo_4 rfl (lv_at hl 1 rfl) ?_
      refine xt_l5 hx hb hK hP q rfl (by omega) d_T_letRowGo_5 ?_
      refine lv_iconst (v := (-1)) hx hb d_T_letRowGo_6 (by decide) ?_
      refine lv_icmp_eq (tgt := 50) hx hb d_T_letRowGo_7 (by decide) (fun c9 => absurd c9 h1) (fun _ => ?_)
      refine lv_aload_n hx hb d_T_letRowGo_10 rfl (lv_at hl 0 rfl) ?_
      refine xt_g7 hx hb hts hown hK hP d_T_letRowGo_11 ?_
      refine lv_iload_n hx hb d_T_letRowGo_14 rfl (lv_at hl 1 rfl) ?_
      refine xt_l7 hx hb hK hP q rfl (by omega) d_T_letRowGo_15 ?_
      refine lv_if_eq (tgt := 50) hx hb d_T_letRowGo_16 (by decide) (fun _ => ?_) (fun c9 => absurd h2 c9)
      refine lv_aload_n hx hb d_T_letRowGo_50 rfl (lv_at hl 0 rfl) ?_
      refine xt_g5 hx hb hts hown hK hP d_T_letRowGo_51 ?_
      refine lv_iload_n hx hb d_T_letRowGo_54 rfl (lv_at hl 1 rfl) ?_
      refine lv_iconst (v := (-1)) hx hb d_T_letRowGo_55 (by decide) ?_
      refine xt_s5 hx hb hK hP hD hS q rfl (by omega) d_T_letRowGo_56 (fun H locs hP hD hS => ?_)
      refine lv_aload_n hx hb d_T_letRowGo_57 rfl (lv_at hl 0 rfl) ?_
      refine xt_g7 hx hb hts hown hK hP d_T_letRowGo_58 ?_
      refine lv_iload_n hx hb d_T_letRowGo_61 rfl (lv_at hl 1 rfl) ?_
      refine lv_iconst (v := 0) hx hb d_T_letRowGo_62 (by decide) ?_
      refine xt_s7 hx hb hK hP hD hS (Or.inl rfl) q rfl (by omega) d_T_letRowGo_63 (fun H locs hP hD hS => ?_)
      exact xc_vret hx hb hr hlocks hP hK hD hS (by unfold fRowGo; rw [if_pos (Or.inr h2)]; rfl) d_T_letRowGo_64
    · obtain ⟨k, hk, hkq, hk1⟩ : ∃ k, k < 32 ∧ k % 4 = q ∧ tRa u q = nI k := (hI.1 q hq).resolve_left h1
      refine lv_aload_n hx hb d_T_letRowGo_0 rfl (lv_at hl 0 rfl) ?_
      refine xt_g5 hx hb hts hown hK hP d_T_letRowGo_1 ?_
      refine lv_iload_n hx hb d_T_letRowGo_4 rfl (lv_at hl 1 rfl) ?_
      refine xt_l5 hx hb hK hP q rfl (by omega) d_T_letRowGo_5 ?_
      refine lv_iconst (v := (-1)) hx hb d_T_letRowGo_6 (by decide) ?_
      refine lv_icmp_eq (tgt := 50) hx hb d_T_letRowGo_7 (by decide) (fun c9 => absurd c9 h1) (fun _ => ?_)
      refine lv_aload_n hx hb d_T_letRowGo_10 rfl (lv_at hl 0 rfl) ?_
      refine xt_g7 hx hb hts hown hK hP d_T_letRowGo_11 ?_
      refine lv_iload_n hx hb d_T_letRowGo_14 rfl (lv_at hl 1 rfl) ?_
      refine xt_l7 hx hb hK hP q rfl (by omega) d_T_letRowGo_15 ?_
      refine lv_if_eq (tgt := 50) hx hb d_T_letRowGo_16 (by decide) (fun c9 => absurd c9 h2) (fun _ => ?_)
      refine lv_aload_n hx hb d_T_letRowGo_19 rfl (lv_at hl 0 rfl) ?_
      refine xt_g0 hx hb hts hown hK hP d_T_letRowGo_20 ?_
      refine lv_sipush (v := 2048) hx hb d_T_letRowGo_23 (by decide) ?_
      refine lv_aload_n hx hb d_T_letRowGo_26 rfl (lv_at hl 0 rfl) ?_
      refine xt_g5 hx hb hts hown hK hP d_T_letRowGo_27 ?_
      refine lv_iload_n hx hb d_T_letRowGo_30 rfl (lv_at hl 1 rfl) ?_
      refine xt_l5 hx hb hK hP q rfl (by omega) d_T_letRowGo_31 ?_
      refine xa_top (nI k) hk1 ?_
      refine xa_iadd hx hb 2048 k rfl rfl d_T_letRowGo_32 ?_
      refine lv_aload_n hx hb d_T_letRowGo_33 rfl (lv_at hl 0 rfl) ?_
      refine xt_g6 hx hb hts hown hK hP d_T_letRowGo_34 ?_
      refine lv_iload_n hx hb d_T_letRowGo_37 rfl (lv_at hl 1 rfl) ?_
      refine xt_l6 hx hb hK hP q rfl (by omega) d_T_letRowGo_38 ?_
      refine xt_s0 hx hb hK hP hD hS (2048 + k) rfl (by omega) d_T_letRowGo_39 (fun H locs hP hD hS => ?_)
      refine lv_aload_n hx hb d_T_letRowGo_40 rfl (lv_at hl 0 rfl) ?_
      refine lv_dup hx hb d_T_letRowGo_41 rfl ?_
      refine xt_g11 hx hb hts hown hK hP d_T_letRowGo_42 ?_
      refine lv_iconst (v := 1) hx hb d_T_letRowGo_45 (by decide) ?_
      refine lv_iadd hx hb d_T_letRowGo_46 ?_
      refine xt_p11 hx hb hts hown hK hP hD hS d_T_letRowGo_47 (fun H locs hP hD hS => ?_)
      refine lv_aload_n hx hb d_T_letRowGo_50 rfl (lv_at hl 0 rfl) ?_
      refine xt_g5 hx hb hts hown hK hP d_T_letRowGo_51 ?_
      refine lv_iload_n hx hb d_T_letRowGo_54 rfl (lv_at hl 1 rfl) ?_
      refine lv_iconst (v := (-1)) hx hb d_T_letRowGo_55 (by decide) ?_
      refine xt_s5 hx hb hK hP hD hS q rfl (by omega) d_T_letRowGo_56 (fun H locs hP hD hS => ?_)
      refine lv_aload_n hx hb d_T_letRowGo_57 rfl (lv_at hl 0 rfl) ?_
      refine xt_g7 hx hb hts hown hK hP d_T_letRowGo_58 ?_
      refine lv_iload_n hx hb d_T_letRowGo_61 rfl (lv_at hl 1 rfl) ?_
      refine lv_iconst (v := 0) hx hb d_T_letRowGo_62 (by decide) ?_
      refine xt_s7 hx hb hK hP hD hS (Or.inl rfl) q rfl (by omega) d_T_letRowGo_63 (fun H locs hP hD hS => ?_)
      exact xc_vret hx hb hr hlocks hP hK hD hS (by unfold fRowGo; rw [if_neg (fun z => z.elim h1 h2), hk1, nI_clamp (by omega)]; rfl) d_T_letRowGo_64
set_option maxHeartbeats 4000000 in
set_option maxRecDepth 100000 in
theorem c_T_wantRow (l : Launch) (D : va_G) (G : Nat → Nat) (kc : Nat → ClassId) (sz : Nat) (u : TC) (k : Nat) (hk : k < 32) (hI : tI u) : XMi l y_T_wantRow k_T_wantRow { frames := 1, cells := 0, slots := 0, locals := 21 } D vwCl (wT G kc) (tyTs kc) u sz [.ref (G 0), .int (nI k)] (fun r u1 => r = nI (k % 4) ∧ u1 = fWantRow u k) := by
  refine xb_ofi (cc := b_T_wantRow) (maxL := 3) (ret := some .int) (by decide) rfl (Nat.le_of_ble_eq_true rfl) ?_
  intro p e s m below meth c A ls hsz hx hb hml hr hlocks hts hown hP hK hD hA hl
  have hl : lv_has ls 3 [(0, .ref (G 0)), (1, .int (nI k))] := hl
  have hS : va_S A s.heap s.heap [] := va_S.rf
  by_cases h1 : tRa u (k % 4) = nI k
  · clear hI
    refine lv_iload_n hx hb d_T_wantRow_0 rfl (lv_at hl 1 rfl) ?_
    refine xc_calls (n := 1) (C := "TagMemory") hx hb hml hown hts (c_T_placeOfRow l k (by omega)) (tb_S wm_79 wm_80 wm_1 wm_81) rfl rfl rfl (by decide +kernel) ⟨Nat.le_of_ble_eq_true rfl, Nat.le_of_ble_eq_true rfl⟩ rfl hl.1 rfl (Nat.le_of_ble_eq_true rfl) d_T_wantRow_1 ⟨Nat.zero_le _, Nat.zero_le _⟩ (fun r hw => ?_)
    subst hw
    refine lv_istore_n (lv' := [(2, .int (nI (k % 4))), (0, .ref _), (1, .int (nI k))]) hx hb d_T_wantRow_4 rfl hl (by decide) rfl (fun ls hl => ?_)
    refine lv_aload_n hx hb d_T_wantRow_5 rfl (lv_at hl 1 rfl) ?_
    refine xt_g5 hx hb hts hown hK hP d_T_wantRow_6 ?_
    refine lv_iload_n hx hb d_T_wantRow_9 rfl (lv_at hl 0 rfl) ?_
    refine xt_l5 hx hb hK hP (k % 4) rfl (by omega) d_T_wantRow_10 ?_
    refine lv_iload_n hx hb d_T_wantRow_11 rfl (lv_at hl 2 rfl) ?_
    refine lv_icmp_eq (tgt := 53) hx hb d_T_wantRow_12 (by decide) (fun _ => ?_) (fun c9 => absurd h1 c9)
    refine lv_iload_n hx hb d_T_wantRow_53 rfl (lv_at hl 0 rfl) ?_
    exact xc_iret hx hb hr hlocks hP hK hD hS ⟨rfl, by unfold fWantRow; rw [if_pos h1]⟩ d_T_wantRow_54
  · have hk4 : k % 4 < 4 := by omega
    refine lv_iload_n hx hb d_T_wantRow_0 rfl (lv_at hl 1 rfl) ?_
    refine xc_calls (n := 1) (C := "TagMemory") hx hb hml hown hts (c_T_placeOfRow l k (by omega)) (tb_S wm_79 wm_80 wm_1 wm_81) rfl rfl rfl (by decide +kernel) ⟨Nat.le_of_ble_eq_true rfl, Nat.le_of_ble_eq_true rfl⟩ rfl hl.1 rfl (Nat.le_of_ble_eq_true rfl) d_T_wantRow_1 ⟨Nat.zero_le _, Nat.zero_le _⟩ (fun r hw => ?_)
    subst hw
    refine lv_istore_n (lv' := [(2, .int (nI (k % 4))), (0, .ref _), (1, .int (nI k))]) hx hb d_T_wantRow_4 rfl hl (by decide) rfl (fun ls hl => ?_)
    refine lv_aload_n hx hb d_T_wantRow_5 rfl (lv_at hl 1 rfl) ?_
    refine xt_g5 hx hb hts hown hK hP d_T_wantRow_6 ?_
    refine lv_iload_n hx hb d_T_wantRow_9 rfl (lv_at hl 0 rfl) ?_
    refine xt_l5 hx hb hK hP (k % 4) rfl (by omega) d_T_wantRow_10 ?_
    refine lv_iload_n hx hb d_T_wantRow_11 rfl (lv_at hl 2 rfl) ?_
    refine lv_icmp_eq (tgt := 53) hx hb d_T_wantRow_12 (by decide) (fun c9 => absurd c9 h1) (fun _ => ?_)
    refine lv_aload_n hx hb d_T_wantRow_15 rfl (lv_at hl 1 rfl) ?_
    refine lv_iload_n hx hb d_T_wantRow_16 rfl (lv_at hl 0 rfl) ?_
    refine xc_callv (n := 1) (C := "TagMemory") hx hb hml hown hts (c_T_letRowGo l D G kc _ _ (k % 4) (by omega) (by exact hI)) (tb_V wm_82 wm_84 ws_3 wm_1 wm_85) rfl rfl rfl (by decide +kernel) ⟨Nat.le_of_ble_eq_true rfl, Nat.le_of_ble_eq_true rfl⟩ hK hP hD hS hA rfl rfl rfl rfl hl.1 rfl (Nat.le_of_ble_eq_true rfl) d_T_wantRow_17 ⟨Nat.zero_le _, Nat.zero_le _⟩ (fun u1 H locs hw hP hD hS => ?_)
    rw [hw] at hP hD; clear hw u1
    refine lv_aload_n hx hb d_T_wantRow_20 rfl (lv_at hl 1 rfl) ?_
    refine xt_g6 hx hb hts hown hK hP d_T_wantRow_21 ?_
    refine lv_iload_n hx hb d_T_wantRow_24 rfl (lv_at hl 0 rfl) ?_
    refine lv_aload_n hx hb d_T_wantRow_25 rfl (lv_at hl 1 rfl) ?_
    refine xt_g0 hx hb hts hown hK hP d_T_wantRow_26 ?_
    refine lv_sipush (v := 2048) hx hb d_T_wantRow_29 (by decide) ?_
    refine lv_iload_n hx hb d_T_wantRow_32 rfl (lv_at hl 2 rfl) ?_
    refine xa_iadd hx hb 2048 k rfl rfl d_T_wantRow_33 ?_
    refine xt_l0 hx hb hK hP (2048 + k) rfl (by omega) d_T_wantRow_34 ?_
    refine xt_s6 hx hb hK hP hD hS (k % 4) rfl (by omega) d_T_wantRow_35 (fun H locs hP hD hS => ?_)
    refine lv_aload_n hx hb d_T_wantRow_36 rfl (lv_at hl 1 rfl) ?_
    refine xt_g5 hx hb hts hown hK hP d_T_wantRow_37 ?_
    refine lv_iload_n hx hb d_T_wantRow_40 rfl (lv_at hl 0 rfl) ?_
    refine lv_iload_n hx hb d_T_wantRow_41 rfl (lv_at hl 2 rfl) ?_
    refine xt_s5 hx hb hK hP hD hS (k % 4) rfl (by omega) d_T_wantRow_42 (fun H locs hP hD hS => ?_)
    refine lv_aload_n hx hb d_T_wantRow_43 rfl (lv_at hl 1 rfl) ?_
    refine lv_dup hx hb d_T_wantRow_44 rfl ?_
    refine xt_g10 hx hb hts hown hK hP d_T_wantRow_45 ?_
    refine lv_iconst (v := 1) hx hb d_T_wantRow_48 (by decide) ?_
    refine lv_iadd hx hb d_T_wantRow_49 ?_
    refine xt_p10 hx hb hts hown hK hP hD hS d_T_wantRow_50 (fun H locs hP hD hS => ?_)
    refine lv_iload_n hx hb d_T_wantRow_53 rfl (lv_at hl 0 rfl) ?_
    exact xc_iret hx hb hr hlocks hP hK hD hS ⟨rfl, by unfold fWantRow; rw [if_neg h1]; rfl⟩ d_T_wantRow_54
end
section
set_option maxHeartbeats 4000000 in
set_option maxRecDepth 100000 in
theorem c_T_writeLineBack (l : Launch) (D : va_G) (G : Nat → Nat) (kc : Nat → ClassId) (sz : Nat) (u : TC) (n q : Nat) (hn : n < 512) (hq : q < 16) (hI : tI u) : XMv l y_T_writeLineBack k_T_writeLineBack { frames := 2, cells := 0, slots := 0, locals := 43 } D vwCl (wT G kc) (tyTs kc) u sz [.ref (G 0), .int (nI n), .int (nI q)] (fun u1 => u1 = fWbL u n q) := by
  refine xb_ofv (cc := b_T_writeLineBack) (maxL := 5) (ret := none) (by decide) rfl (Nat.le_of_ble_eq_true rfl) ?_
  intro p e s m below meth c A ls hsz hx hb hml hr hlocks hts hown hP hK hD hA hl
  have hl : lv_has ls 5 [(0, .ref (G 0)), (1, .int (nI n)), (2, .int (nI q))] := hl
  have hS : va_S A s.heap s.heap [] := va_S.rf
  refine lv_aload_n hx hb d_T_writeLineBack_0 rfl (lv_at hl 0 rfl) ?_
  refine xt_g2 hx hb hts hown hK hP d_T_writeLineBack_1 ?_
  refine lv_iload_n hx hb d_T_writeLineBack_4 rfl (lv_at hl 2 rfl) ?_
  refine lv_iconst (v := 4) hx hb d_T_writeLineBack_5 (by decide) ?_
  refine xa_imul hx hb q 4 rfl rfl d_T_writeLineBack_6 ?_
  refine lv_aload_n hx hb d_T_writeLineBack_7 rfl (lv_at hl 0 rfl) ?_
  refine xt_g0 hx hb hts hown hK hP d_T_writeLineBack_8 ?_
  refine lv_iload_n hx hb d_T_writeLineBack_11 rfl (lv_at hl 1 rfl) ?_
  refine lv_iconst (v := 4) hx hb d_T_writeLineBack_12 (by decide) ?_
  refine xa_imul hx hb n 4 rfl rfl d_T_writeLineBack_13 ?_
  refine lv_iconst (v := 4) hx hb d_T_writeLineBack_14 (by decide) ?_
  refine xa_copy hx hb (hml.trans hl.1.symm) hown (hts (Cond.methodLink "TagMemory" 151 ⟨"java/lang/System", "arraycopy", "(Ljava/lang/Object;ILjava/lang/Object;II)V"⟩) (List.mem_cons_of_mem _ wm_69)) (hts (Cond.native ⟨"java/lang/System", "arraycopy", "(Ljava/lang/Object;ILjava/lang/Object;II)V"⟩) (List.mem_cons_of_mem _ wm_71)) (hts (Cond.static ⟨"java/lang/System", "arraycopy", "(Ljava/lang/Object;ILjava/lang/Object;II)V"⟩) (List.mem_cons_of_mem _ wm_70)) (hts (Cond.initialized "java/lang/System") (List.mem_cons_of_mem _ wm_7)) hK hP hD hS 3 1 2 0 rfl rfl rfl rfl (q * 4) (n * 4) 4 rfl rfl rfl (by omega) (by omega) (by decide) (by decide) (Nat.le_of_ble_eq_true rfl) (Nat.le_of_ble_eq_true rfl) d_T_writeLineBack_15 (fun H locs hP hD hS => ?_)
  have hP : va_P D vwCl (wT G kc (fWbL1 u n q)) H := hP
  have hD : va_D A (wT G kc (fWbL1 u n q)) := hD
  refine lv_aload_n hx hb d_T_writeLineBack_18 rfl (lv_at hl 0 rfl) ?_
  refine lv_iload_n hx hb d_T_writeLineBack_19 rfl (lv_at hl 1 rfl) ?_
  refine xc_calls (n := 1) (C := "TagMemory") hx hb hml hown hts (c_T_rowOfLine l n (by omega)) (tb_S wm_72 wm_73 wm_1 wm_74) rfl rfl rfl (by decide +kernel) ⟨Nat.le_of_ble_eq_true rfl, Nat.le_of_ble_eq_true rfl⟩ rfl hl.1 rfl (Nat.le_of_ble_eq_true rfl) d_T_writeLineBack_20 ⟨Nat.zero_le _, Nat.zero_le _⟩ (fun r hw => ?_)
  subst hw
  refine xc_calli (n := 1) (C := "TagMemory") hx hb hml hown hts (c_T_wantRow l D G kc _ _ (n / 16) (by omega) (by exact hI)) (tb_V wm_75 wm_77 ws_2 wm_1 wm_78) rfl rfl rfl (by decide +kernel) ⟨Nat.le_of_ble_eq_true rfl, Nat.le_of_ble_eq_true rfl⟩ hK hP hD hS hA rfl rfl rfl rfl hl.1 rfl (Nat.le_of_ble_eq_true rfl) d_T_writeLineBack_23 ⟨Nat.zero_le _, Nat.zero_le _⟩ (fun r u1 H locs hw hP hD hS => ?_)
  obtain ⟨e1, e2⟩ := hw
  subst e1
  rw [e2] at hP hD; clear e2 u1
  refine lv_istore_n (lv' := [(3, .int (nI ((n / 16) % 4))), (0, .ref _), (1, .int (nI n)), (2, .int (nI q))]) hx hb d_T_writeLineBack_26 rfl hl (by decide) rfl (fun ls hl => ?_)
  refine lv_aload_n hx hb d_T_writeLineBack_27 rfl (lv_at hl 1 rfl) ?_
  refine xt_g6 hx hb hts hown hK hP d_T_writeLineBack_28 ?_
  refine lv_iload_n hx hb d_T_writeLineBack_31 rfl (lv_at hl 0 rfl) ?_
  refine xt_l6 hx hb hK hP ((n / 16) % 4) rfl (by omega) d_T_writeLineBack_32 ?_
  refine lv_iconst (v := 3) hx hb d_T_writeLineBack_33 (by decide) ?_
  refine lv_iload_n hx hb d_T_writeLineBack_34 rfl (lv_at hl 2 rfl) ?_
  refine xc_calls (n := 1) (C := "TagMemory") hx hb hml hown hts (c_T_firstTagBit l n (by omega)) (tb_S wm_86 wm_87 wm_1 wm_88) rfl rfl rfl (by decide +kernel) ⟨Nat.le_of_ble_eq_true rfl, Nat.le_of_ble_eq_true rfl⟩ rfl hl.1 rfl (Nat.le_of_ble_eq_true rfl) d_T_writeLineBack_35 ⟨Nat.zero_le _, Nat.zero_le _⟩ (fun r hw => ?_)
  subst hw
  refine lv_ishl hx hb d_T_writeLineBack_38 ?_
  refine lv_iconst (v := (-1)) hx hb d_T_writeLineBack_39 (by decide) ?_
  refine lv_ixor hx hb d_T_writeLineBack_40 ?_
  refine lv_iand hx hb d_T_writeLineBack_41 ?_
  refine lv_istore (lv' := [(4, .int _), (3, .int (nI ((n / 16) % 4))), (0, .ref _), (1, .int (nI n)), (2, .int (nI q))]) hx hb d_T_writeLineBack_42 hl (by decide) rfl (fun ls hl => ?_)
  refine lv_aload_n hx hb d_T_writeLineBack_44 rfl (lv_at hl 2 rfl) ?_
  refine xt_g6 hx hb hts hown hK hP d_T_writeLineBack_45 ?_
  refine lv_iload_n hx hb d_T_writeLineBack_48 rfl (lv_at hl 1 rfl) ?_
  refine lv_iload hx hb d_T_writeLineBack_49 (lv_at hl 0 rfl) ?_
  refine lv_aload_n hx hb d_T_writeLineBack_51 rfl (lv_at hl 2 rfl) ?_
  refine xt_g3 hx hb hts hown hK hP d_T_writeLineBack_52 ?_
  refine lv_iload_n hx hb d_T_writeLineBack_55 rfl (lv_at hl 4 rfl) ?_
  refine xt_l3 hx hb hK hP q rfl (by omega) d_T_writeLineBack_56 ?_
  refine lv_iload_n hx hb d_T_writeLineBack_57 rfl (lv_at hl 3 rfl) ?_
  refine xc_calls (n := 1) (C := "TagMemory") hx hb hml hown hts (c_T_firstTagBit l n (by omega)) (tb_S wm_86 wm_87 wm_1 wm_88) rfl rfl rfl (by decide +kernel) ⟨Nat.le_of_ble_eq_true rfl, Nat.le_of_ble_eq_true rfl⟩ rfl hl.1 rfl (Nat.le_of_ble_eq_true rfl) d_T_writeLineBack_58 ⟨Nat.zero_le _, Nat.zero_le _⟩ (fun r hw => ?_)
  subst hw
  refine lv_ishl hx hb d_T_writeLineBack_61 ?_
  refine lv_ior hx hb d_T_writeLineBack_62 ?_
  refine xt_s6 hx hb hK hP hD hS ((n / 16) % 4) rfl (by omega) d_T_writeLineBack_63 (fun H locs hP hD hS => ?_)
  refine lv_aload_n hx hb d_T_writeLineBack_64 rfl (lv_at hl 2 rfl) ?_
  refine xt_g7 hx hb hts hown hK hP d_T_writeLineBack_65 ?_
  refine lv_iload_n hx hb d_T_writeLineBack_68 rfl (lv_at hl 1 rfl) ?_
  refine lv_iconst (v := 1) hx hb d_T_writeLineBack_69 (by decide) ?_
  refine xt_s7 hx hb hK hP hD hS (Or.inr rfl) ((n / 16) % 4) rfl (by omega) d_T_writeLineBack_70 (fun H locs hP hD hS => ?_)
  refine lv_aload_n hx hb d_T_writeLineBack_71 rfl (lv_at hl 2 rfl) ?_
  refine lv_dup hx hb d_T_writeLineBack_72 rfl ?_
  refine xt_g9 hx hb hts hown hK hP d_T_writeLineBack_73 ?_
  refine lv_iconst (v := 1) hx hb d_T_writeLineBack_76 (by decide) ?_
  refine lv_iadd hx hb d_T_writeLineBack_77 ?_
  refine xt_p9 hx hb hts hown hK hP hD hS d_T_writeLineBack_78 (fun H locs hP hD hS => ?_)
  exact xc_vret hx hb hr hlocks hP hK hD hS rfl d_T_writeLineBack_81
set_option maxHeartbeats 4000000 in
set_option maxRecDepth 100000 in
theorem c_T_letLineGo (l : Launch) (D : va_G) (G : Nat → Nat) (kc : Nat → ClassId) (sz : Nat) (u : TC) (q : Nat) (hq : q < 16) (hI : tI u) : XMi l y_T_letLineGo k_T_letLineGo { frames := 3, cells := 0, slots := 0, locals := 67 } D vwCl (wT G kc) (tyTs kc) u sz [.ref (G 0), .int (nI q)] (fun r u1 => r = rLineGo u q ∧ u1 = fLineGo u q) := by
  refine xb_ofi (cc := b_T_letLineGo) (maxL := 3) (ret := some .boolean) (by decide) rfl (Nat.le_of_ble_eq_true rfl) ?_
  intro p e s m below meth c A ls hsz hx hb hml hr hlocks hts hown hP hK hD hA hl
  have hl : lv_has ls 3 [(0, .ref (G 0)), (1, .int (nI q))] := hl
  have hS : va_S A s.heap s.heap [] := va_S.rf
  by_cases h1 : tLa u q = -1
  · clear hI
    refine lv_aload_n hx hb d_T_letLineGo_0 rfl (lv_at hl 0 rfl) ?_
    refine xt_g1 hx hb hts hown hK hP d_T_letLineGo_1 ?_
    refine lv_iload_n hx hb d_T_letLineGo_4 rfl (lv_at hl 1 rfl) ?_
    refine xt_l1 hx hb hK hP q rfl (by omega) d_T_letLineGo_5 ?_
    refine lv_iconst (v := (-1)) hx hb d_T_letLineGo_6 (by decide) ?_
    refine lv_icmp_eq (tgt := 23) hx hb d_T_letLineGo_7 (by decide) (fun _ => ?_) (fun c9 => absurd h1 c9)
    refine lv_iconst (v := 0) hx hb d_T_letLineGo_23 (by decide) ?_
    refine lv_istore_n (lv' := [(2, .int (nI 0)), (0, .ref _), (1, .int (nI q))]) hx hb d_T_letLineGo_24 rfl hl (by decide) rfl (fun ls hl => ?_)
    refine lv_iload_n hx hb d_T_letLineGo_25 rfl (lv_at hl 0 rfl) ?_
    refine lv_if_eq (tgt := 40) hx hb d_T_letLineGo_26 (by decide) (fun _ => ?_) (fun c9 => absurd nI_0 c9)
    refine lv_aload_n hx hb d_T_letLineGo_40 rfl (lv_at hl 1 rfl) ?_
    refine xt_g1 hx hb hts hown hK hP d_T_letLineGo_41 ?_
    refine lv_iload_n hx hb d_T_letLineGo_44 rfl (lv_at hl 2 rfl) ?_
    refine lv_iconst (v := (-1)) hx hb d_T_letLineGo_45 (by decide) ?_
    refine xt_s1 hx hb hK hP hD hS q rfl (by omega) d_T_letLineGo_46 (fun H locs hP hD hS => ?_)
    refine lv_aload_n hx hb d_T_letLineGo_47 rfl (lv_at hl 1 rfl) ?_
    refine xt_g4 hx hb hts hown hK hP d_T_letLineGo_48 ?_
    refine lv_iload_n hx hb d_T_letLineGo_51 rfl (lv_at hl 2 rfl) ?_
    refine lv_iconst (v := 0) hx hb d_T_letLineGo_52 (by decide) ?_
    refine xt_s4 hx hb hK hP hD hS (Or.inl rfl) q rfl (by omega) d_T_letLineGo_53 (fun H locs hP hD hS => ?_)
    refine lv_iload_n hx hb d_T_letLineGo_54 rfl (lv_at hl 0 rfl) ?_
    exact xc_zret hx hb hr hlocks (Or.inl rfl) hP hK hD hS ⟨by unfold rLineGo; rw [if_pos (Or.inl h1)]; rfl, by unfold fLineGo; rw [if_pos (Or.inl h1)]; rfl⟩ d_T_letLineGo_55
  · by_cases h2 : tLc u q = 0
    · clear hI
      refine lv_aload_n hx hb d_T_letLineGo_0 rfl (lv_at hl 0 rfl) ?_
      refine xt_g1 hx hb hts hown hK hP d_T_letLineGo_1 ?_
      refine lv_iload_n hx hb d_T_letLineGo_4 rfl (lv_at hl 1 rfl) ?_
      refine xt_l1 hx hb hK hP q rfl (by omega) d_T_letLineGo_5 ?_
      refine lv_iconst (v := (-1)) hx hb d_T_letLineGo_6 (by decide) ?_
      refine lv_icmp_eq (tgt := 23) hx hb d_T_letLineGo_7 (by decide) (fun c9 => absurd c9 h1) (fun _ => ?_)
      refine lv_aload_n hx hb d_T_letLineGo_10 rfl (lv_at hl 0 rfl) ?_
      refine xt_g4 hx hb hts hown hK hP d_T_letLineGo_11 ?_
      refine lv_iload_n hx hb d_T_letLineGo_14 rfl (lv_at hl 1 rfl) ?_
      refine xt_l4 hx hb hK hP q rfl (by omega) d_T_letLineGo_15 ?_
      refine lv_if_eq (tgt := 23) hx hb d_T_letLineGo_16 (by decide) (fun _ => ?_) (fun c9 => absurd h2 c9)
      refine lv_iconst (v := 0) hx hb d_T_letLineGo_23 (by decide) ?_
      refine lv_istore_n (lv' := [(2, .int (nI 0)), (0, .ref _), (1, .int (nI q))]) hx hb d_T_letLineGo_24 rfl hl (by decide) rfl (fun ls hl => ?_)
      refine lv_iload_n hx hb d_T_letLineGo_25 rfl (lv_at hl 0 rfl) ?_
      refine lv_if_eq (tgt := 40) hx hb d_T_letLineGo_26 (by decide) (fun _ => ?_) (fun c9 => absurd nI_0 c9)
      refine lv_aload_n hx hb d_T_letLineGo_40 rfl (lv_at hl 1 rfl) ?_
      refine xt_g1 hx hb hts hown hK hP d_T_letLineGo_41 ?_
      refine lv_iload_n hx hb d_T_letLineGo_44 rfl (lv_at hl 2 rfl) ?_
      refine lv_iconst (v := (-1)) hx hb d_T_letLineGo_45 (by decide) ?_
      refine xt_s1 hx hb hK hP hD hS q rfl (by omega) d_T_letLineGo_46 (fun H locs hP hD hS => ?_)
      refine lv_aload_n hx hb d_T_letLineGo_47 rfl (lv_at hl 1 rfl) ?_
      refine xt_g4 hx hb hts hown hK hP d_T_letLineGo_48 ?_
      refine lv_iload_n hx hb d_T_letLineGo_51 rfl (lv_at hl 2 rfl) ?_
      refine lv_iconst (v := 0) hx hb d_T_letLineGo_52 (by decide) ?_
      refine xt_s4 hx hb hK hP hD hS (Or.inl rfl) q rfl (by omega) d_T_letLineGo_53 (fun H locs hP hD hS => ?_)
      refine lv_iload_n hx hb d_T_letLineGo_54 rfl (lv_at hl 0 rfl) ?_
      exact xc_zret hx hb hr hlocks (Or.inl rfl) hP hK hD hS ⟨by unfold rLineGo; rw [if_pos (Or.inr h2)]; rfl, by unfold fLineGo; rw [if_pos (Or.inr h2)]; rfl⟩ d_T_letLineGo_55
    · obtain ⟨n, hn, hnq, hn1⟩ : ∃ n, n < 512 ∧ n % 16 = q ∧ tLa u q = nI n := (hI.2 q hq).resolve_left h1
      refine lv_aload_n hx hb d_T_letLineGo_0 rfl (lv_at hl 0 rfl) ?_
      refine xt_g1 hx hb hts hown hK hP d_T_letLineGo_1 ?_
      refine lv_iload_n hx hb d_T_letLineGo_4 rfl (lv_at hl 1 rfl) ?_
      refine xt_l1 hx hb hK hP q rfl (by omega) d_T_letLineGo_5 ?_
      refine lv_iconst (v := (-1)) hx hb d_T_letLineGo_6 (by decide) ?_
      refine lv_icmp_eq (tgt := 23) hx hb d_T_letLineGo_7 (by decide) (fun c9 => absurd c9 h1) (fun _ => ?_)
      refine lv_aload_n hx hb d_T_letLineGo_10 rfl (lv_at hl 0 rfl) ?_
      refine xt_g4 hx hb hts hown hK hP d_T_letLineGo_11 ?_
      refine lv_iload_n hx hb d_T_letLineGo_14 rfl (lv_at hl 1 rfl) ?_
      refine xt_l4 hx hb hK hP q rfl (by omega) d_T_letLineGo_15 ?_
      refine lv_if_eq (tgt := 23) hx hb d_T_letLineGo_16 (by decide) (fun c9 => absurd c9 h2) (fun _ => ?_)
      refine lv_iconst (v := 1) hx hb d_T_letLineGo_19 (by decide) ?_
      refine lv_goto (tgt := 24) hx hb d_T_letLineGo_20 (by decide) ?_
      refine lv_istore_n (lv' := [(2, .int (nI 1)), (0, .ref _), (1, .int (nI q))]) hx hb d_T_letLineGo_24 rfl hl (by decide) rfl (fun ls hl => ?_)
      refine lv_iload_n hx hb d_T_letLineGo_25 rfl (lv_at hl 0 rfl) ?_
      refine lv_if_eq (tgt := 40) hx hb d_T_letLineGo_26 (by decide) (fun c9 => absurd c9 (by decide)) (fun _ => ?_)
      refine lv_aload_n hx hb d_T_letLineGo_29 rfl (lv_at hl 1 rfl) ?_
      refine lv_aload_n hx hb d_T_letLineGo_30 rfl (lv_at hl 1 rfl) ?_
      refine xt_g1 hx hb hts hown hK hP d_T_letLineGo_31 ?_
      refine lv_iload_n hx hb d_T_letLineGo_34 rfl (lv_at hl 2 rfl) ?_
      refine xt_l1 hx hb hK hP q rfl (by omega) d_T_letLineGo_35 ?_
      refine xa_top (nI n) hn1 ?_
      refine lv_iload_n hx hb d_T_letLineGo_36 rfl (lv_at hl 2 rfl) ?_
      refine xc_callv (n := 2) (C := "TagMemory") hx hb hml hown hts (c_T_writeLineBack l D G kc _ _ n q (by omega) (by omega) (by exact hI)) (tb_V wm_65 wm_67 ws_1 wm_1 wm_68) rfl rfl rfl (by decide +kernel) ⟨Nat.le_of_ble_eq_true rfl, Nat.le_of_ble_eq_true rfl⟩ hK hP hD hS hA rfl rfl rfl rfl hl.1 rfl (Nat.le_of_ble_eq_true rfl) d_T_letLineGo_37 ⟨Nat.zero_le _, Nat.zero_le _⟩ (fun u1 H locs hw hP hD hS => ?_)
      rw [hw] at hP hD; clear hw u1
      refine lv_aload_n hx hb d_T_letLineGo_40 rfl (lv_at hl 1 rfl) ?_
      refine xt_g1 hx hb hts hown hK hP d_T_letLineGo_41 ?_
      refine lv_iload_n hx hb d_T_letLineGo_44 rfl (lv_at hl 2 rfl) ?_
      refine lv_iconst (v := (-1)) hx hb d_T_letLineGo_45 (by decide) ?_
      refine xt_s1 hx hb hK hP hD hS q rfl (by omega) d_T_letLineGo_46 (fun H locs hP hD hS => ?_)
      refine lv_aload_n hx hb d_T_letLineGo_47 rfl (lv_at hl 1 rfl) ?_
      refine xt_g4 hx hb hts hown hK hP d_T_letLineGo_48 ?_
      refine lv_iload_n hx hb d_T_letLineGo_51 rfl (lv_at hl 2 rfl) ?_
      refine lv_iconst (v := 0) hx hb d_T_letLineGo_52 (by decide) ?_
      refine xt_s4 hx hb hK hP hD hS (Or.inl rfl) q rfl (by omega) d_T_letLineGo_53 (fun H locs hP hD hS => ?_)
      refine lv_iload_n hx hb d_T_letLineGo_54 rfl (lv_at hl 0 rfl) ?_
      exact xc_zret hx hb hr hlocks (Or.inr rfl) hP hK hD hS ⟨by unfold rLineGo; rw [if_neg (fun z => z.elim h1 h2)]; rfl, by unfold fLineGo; rw [if_neg (fun z => z.elim h1 h2), hn1, nI_clamp (by omega)]; rfl⟩ d_T_letLineGo_55
set_option maxHeartbeats 4000000 in
set_option maxRecDepth 100000 in
theorem c_T_bringLine (l : Launch) (D : va_G) (G : Nat → Nat) (kc : Nat → ClassId) (sz : Nat) (u : TC) (n q : Nat) (hn : n < 512) (hq : q < 16) (hI : tI u) : XMv l y_T_bringLine k_T_bringLine { frames := 2, cells := 0, slots := 0, locals := 43 } D vwCl (wT G kc) (tyTs kc) u sz [.ref (G 0), .int (nI n), .int (nI q)] (fun u1 => u1 = fBring u n q) := by
  refine xb_ofv (cc := b_T_bringLine) (maxL := 4) (ret := none) (by decide) rfl (Nat.le_of_ble_eq_true rfl) ?_
  intro p e s m below meth c A ls hsz hx hb hml hr hlocks hts hown hP hK hD hA hl
  have hl : lv_has ls 4 [(0, .ref (G 0)), (1, .int (nI n)), (2, .int (nI q))] := hl
  have hS : va_S A s.heap s.heap [] := va_S.rf
  refine lv_aload_n hx hb d_T_bringLine_0 rfl (lv_at hl 0 rfl) ?_
  refine xt_g0 hx hb hts hown hK hP d_T_bringLine_1 ?_
  refine lv_iload_n hx hb d_T_bringLine_4 rfl (lv_at hl 1 rfl) ?_
  refine lv_iconst (v := 4) hx hb d_T_bringLine_5 (by decide) ?_
  refine xa_imul hx hb n 4 rfl rfl d_T_bringLine_6 ?_
  refine lv_aload_n hx hb d_T_bringLine_7 rfl (lv_at hl 0 rfl) ?_
  refine xt_g2 hx hb hts hown hK hP d_T_bringLine_8 ?_
  refine lv_iload_n hx hb d_T_bringLine_11 rfl (lv_at hl 2 rfl) ?_
  refine lv_iconst (v := 4) hx hb d_T_bringLine_12 (by decide) ?_
  refine xa_imul hx hb q 4 rfl rfl d_T_bringLine_13 ?_
  refine lv_iconst (v := 4) hx hb d_T_bringLine_14 (by decide) ?_
  refine xa_copy hx hb (hml.trans hl.1.symm) hown (hts (Cond.methodLink "TagMemory" 151 ⟨"java/lang/System", "arraycopy", "(Ljava/lang/Object;ILjava/lang/Object;II)V"⟩) (List.mem_cons_of_mem _ wm_69)) (hts (Cond.native ⟨"java/lang/System", "arraycopy", "(Ljava/lang/Object;ILjava/lang/Object;II)V"⟩) (List.mem_cons_of_mem _ wm_71)) (hts (Cond.static ⟨"java/lang/System", "arraycopy", "(Ljava/lang/Object;ILjava/lang/Object;II)V"⟩) (List.mem_cons_of_mem _ wm_70)) (hts (Cond.initialized "java/lang/System") (List.mem_cons_of_mem _ wm_7)) hK hP hD hS 1 3 0 2 rfl rfl rfl rfl (n * 4) (q * 4) 4 rfl rfl rfl (by omega) (by omega) (by decide) (by decide) (Nat.le_of_ble_eq_true rfl) (Nat.le_of_ble_eq_true rfl) d_T_bringLine_15 (fun H locs hP hD hS => ?_)
  have hP : va_P D vwCl (wT G kc (fBring1 u n q)) H := hP
  have hD : va_D A (wT G kc (fBring1 u n q)) := hD
  refine lv_aload_n hx hb d_T_bringLine_18 rfl (lv_at hl 0 rfl) ?_
  refine lv_iload_n hx hb d_T_bringLine_19 rfl (lv_at hl 1 rfl) ?_
  refine xc_calls (n := 1) (C := "TagMemory") hx hb hml hown hts (c_T_rowOfLine l n (by omega)) (tb_S wm_72 wm_73 wm_1 wm_74) rfl rfl rfl (by decide +kernel) ⟨Nat.le_of_ble_eq_true rfl, Nat.le_of_ble_eq_true rfl⟩ rfl hl.1 rfl (Nat.le_of_ble_eq_true rfl) d_T_bringLine_20 ⟨Nat.zero_le _, Nat.zero_le _⟩ (fun r hw => ?_)
  subst hw
  refine xc_calli (n := 1) (C := "TagMemory") hx hb hml hown hts (c_T_wantRow l D G kc _ _ (n / 16) (by omega) (by exact hI)) (tb_V wm_75 wm_77 ws_2 wm_1 wm_78) rfl rfl rfl (by decide +kernel) ⟨Nat.le_of_ble_eq_true rfl, Nat.le_of_ble_eq_true rfl⟩ hK hP hD hS hA rfl rfl rfl rfl hl.1 rfl (Nat.le_of_ble_eq_true rfl) d_T_bringLine_23 ⟨Nat.zero_le _, Nat.zero_le _⟩ (fun r u1 H locs hw hP hD hS => ?_)
  obtain ⟨e1, e2⟩ := hw
  subst e1
  rw [e2] at hP hD; clear e2 u1
  refine lv_istore_n (lv' := [(3, .int (nI ((n / 16) % 4))), (0, .ref _), (1, .int (nI n)), (2, .int (nI q))]) hx hb d_T_bringLine_26 rfl hl (by decide) rfl (fun ls hl => ?_)
  refine lv_aload_n hx hb d_T_bringLine_27 rfl (lv_at hl 1 rfl) ?_
  refine xt_g3 hx hb hts hown hK hP d_T_bringLine_28 ?_
  refine lv_iload_n hx hb d_T_bringLine_31 rfl (lv_at hl 3 rfl) ?_
  refine lv_iload_n hx hb d_T_bringLine_32 rfl (lv_at hl 2 rfl) ?_
  refine lv_aload_n hx hb d_T_bringLine_33 rfl (lv_at hl 1 rfl) ?_
  refine xt_g6 hx hb hts hown hK hP d_T_bringLine_34 ?_
  refine lv_iload_n hx hb d_T_bringLine_37 rfl (lv_at hl 0 rfl) ?_
  refine xt_l6 hx hb hK hP ((n / 16) % 4) rfl (by omega) d_T_bringLine_38 ?_
  refine xc_calls (n := 2) (C := "TagMemory") hx hb hml hown hts (c_T_tagsOfLine l n (by omega) _) (tb_S wm_112 wm_113 wm_1 wm_114) rfl rfl rfl (by decide +kernel) ⟨Nat.le_of_ble_eq_true rfl, Nat.le_of_ble_eq_true rfl⟩ rfl hl.1 rfl (Nat.le_of_ble_eq_true rfl) d_T_bringLine_39 ⟨Nat.zero_le _, Nat.zero_le _⟩ (fun r hw => ?_)
  subst hw
  refine xt_s3 hx hb hK hP hD hS q rfl (by omega) d_T_bringLine_42 (fun H locs hP hD hS => ?_)
  refine lv_aload_n hx hb d_T_bringLine_43 rfl (lv_at hl 1 rfl) ?_
  refine xt_g1 hx hb hts hown hK hP d_T_bringLine_44 ?_
  refine lv_iload_n hx hb d_T_bringLine_47 rfl (lv_at hl 3 rfl) ?_
  refine lv_iload_n hx hb d_T_bringLine_48 rfl (lv_at hl 2 rfl) ?_
  refine xt_s1 hx hb hK hP hD hS q rfl (by omega) d_T_bringLine_49 (fun H locs hP hD hS => ?_)
  refine lv_aload_n hx hb d_T_bringLine_50 rfl (lv_at hl 1 rfl) ?_
  refine xt_g4 hx hb hts hown hK hP d_T_bringLine_51 ?_
  refine lv_iload_n hx hb d_T_bringLine_54 rfl (lv_at hl 3 rfl) ?_
  refine lv_iconst (v := 0) hx hb d_T_bringLine_55 (by decide) ?_
  refine xt_s4 hx hb hK hP hD hS (Or.inl rfl) q rfl (by omega) d_T_bringLine_56 (fun H locs hP hD hS => ?_)
  refine lv_aload_n hx hb d_T_bringLine_57 rfl (lv_at hl 1 rfl) ?_
  refine lv_dup hx hb d_T_bringLine_58 rfl ?_
  refine xt_g8 hx hb hts hown hK hP d_T_bringLine_59 ?_
  refine lv_iconst (v := 1) hx hb d_T_bringLine_62 (by decide) ?_
  refine lv_iadd hx hb d_T_bringLine_63 ?_
  refine xt_p8 hx hb hts hown hK hP hD hS d_T_bringLine_64 (fun H locs hP hD hS => ?_)
  exact xc_vret hx hb hr hlocks hP hK hD hS rfl d_T_bringLine_67
set_option maxHeartbeats 4000000 in
set_option maxRecDepth 100000 in
theorem c_T_wantLine (l : Launch) (D : va_G) (G : Nat → Nat) (kc : Nat → ClassId) (sz : Nat) (u : TC) (n : Nat) (hn : n < 512) (hI : tI u) : XMv l y_T_wantLine k_T_wantLine { frames := 4, cells := 0, slots := 0, locals := 89 } D vwCl (wT G kc) (tyTs kc) u sz [.ref (G 0), .int (nI n)] (fun u1 => u1 = fWant u n) := by
  refine xb_ofv (cc := b_T_wantLine) (maxL := 3) (ret := none) (by decide) rfl (Nat.le_of_ble_eq_true rfl) ?_
  intro p e s m below meth c A ls hsz hx hb hml hr hlocks hts hown hP hK hD hA hl
  have hl : lv_has ls 3 [(0, .ref (G 0)), (1, .int (nI n))] := hl
  have hS : va_S A s.heap s.heap [] := va_S.rf
  by_cases h1 : tLa u (n % 16) = nI n
  · clear hI
    refine lv_iload_n hx hb d_T_wantLine_0 rfl (lv_at hl 1 rfl) ?_
    refine xc_calls (n := 1) (C := "TagMemory") hx hb hml hown hts (c_T_placeOfLine l n (by omega)) (tb_S wm_97 wm_98 wm_1 wm_99) rfl rfl rfl (by decide +kernel) ⟨Nat.le_of_ble_eq_true rfl, Nat.le_of_ble_eq_true rfl⟩ rfl hl.1 rfl (Nat.le_of_ble_eq_true rfl) d_T_wantLine_1 ⟨Nat.zero_le _, Nat.zero_le _⟩ (fun r hw => ?_)
    subst hw
    refine lv_istore_n (lv' := [(2, .int (nI (n % 16))), (0, .ref _), (1, .int (nI n))]) hx hb d_T_wantLine_4 rfl hl (by decide) rfl (fun ls hl => ?_)
    refine lv_aload_n hx hb d_T_wantLine_5 rfl (lv_at hl 1 rfl) ?_
    refine xt_g1 hx hb hts hown hK hP d_T_wantLine_6 ?_
    refine lv_iload_n hx hb d_T_wantLine_9 rfl (lv_at hl 0 rfl) ?_
    refine xt_l1 hx hb hK hP (n % 16) rfl (by omega) d_T_wantLine_10 ?_
    refine lv_iload_n hx hb d_T_wantLine_11 rfl (lv_at hl 2 rfl) ?_
    refine lv_icmp_eq (tgt := 27) hx hb d_T_wantLine_12 (by decide) (fun _ => ?_) (fun c9 => absurd h1 c9)
    exact xc_vret hx hb hr hlocks hP hK hD hS (by unfold fWant; rw [if_pos h1]) d_T_wantLine_27
  · have hI1 : tI (fLineGo u (n % 16)) := tI_lineGo hI (by omega)
    refine lv_iload_n hx hb d_T_wantLine_0 rfl (lv_at hl 1 rfl) ?_
    refine xc_calls (n := 1) (C := "TagMemory") hx hb hml hown hts (c_T_placeOfLine l n (by omega)) (tb_S wm_97 wm_98 wm_1 wm_99) rfl rfl rfl (by decide +kernel) ⟨Nat.le_of_ble_eq_true rfl, Nat.le_of_ble_eq_true rfl⟩ rfl hl.1 rfl (Nat.le_of_ble_eq_true rfl) d_T_wantLine_1 ⟨Nat.zero_le _, Nat.zero_le _⟩ (fun r hw => ?_)
    subst hw
    refine lv_istore_n (lv' := [(2, .int (nI (n % 16))), (0, .ref _), (1, .int (nI n))]) hx hb d_T_wantLine_4 rfl hl (by decide) rfl (fun ls hl => ?_)
    refine lv_aload_n hx hb d_T_wantLine_5 rfl (lv_at hl 1 rfl) ?_
    refine xt_g1 hx hb hts hown hK hP d_T_wantLine_6 ?_
    refine lv_iload_n hx hb d_T_wantLine_9 rfl (lv_at hl 0 rfl) ?_
    refine xt_l1 hx hb hK hP (n % 16) rfl (by omega) d_T_wantLine_10 ?_
    refine lv_iload_n hx hb d_T_wantLine_11 rfl (lv_at hl 2 rfl) ?_
    refine lv_icmp_eq (tgt := 27) hx hb d_T_wantLine_12 (by decide) (fun c9 => absurd c9 h1) (fun _ => ?_)
    refine lv_aload_n hx hb d_T_wantLine_15 rfl (lv_at hl 1 rfl) ?_
    refine lv_iload_n hx hb d_T_wantLine_16 rfl (lv_at hl 0 rfl) ?_
    refine xc_calli (n := 1) (C := "TagMemory") hx hb hml hown hts (c_T_letLineGo l D G kc _ _ (n % 16) (by omega) (by exact hI)) (tb_V wm_61 wm_63 ws_0 wm_1 wm_64) rfl rfl rfl (by decide +kernel) ⟨Nat.le_of_ble_eq_true rfl, Nat.le_of_ble_eq_true rfl⟩ hK hP hD hS hA rfl rfl rfl rfl hl.1 rfl (Nat.le_of_ble_eq_true rfl) d_T_wantLine_17 ⟨Nat.zero_le _, Nat.zero_le _⟩ (fun r u1 H locs hw hP hD hS => ?_)
    obtain ⟨e1, e2⟩ := hw
    subst e1
    rw [e2] at hP hD; clear e2 u1
    refine lv_pop hx hb d_T_wantLine_20 rfl ?_
    refine lv_aload_n hx hb d_T_wantLine_21 rfl (lv_at hl 1 rfl) ?_
    refine lv_iload_n hx hb d_T_wantLine_22 rfl (lv_at hl 2 rfl) ?_
    refine lv_iload_n hx hb d_T_wantLine_23 rfl (lv_at hl 0 rfl) ?_
    refine xc_callv (n := 2) (C := "TagMemory") hx hb hml hown hts (c_T_bringLine l D G kc _ _ n (n % 16) (by omega) (by omega) (by exact hI1)) (tb_V wm_204 wm_206 ws_11 wm_1 wm_207) rfl rfl rfl (by decide +kernel) ⟨Nat.le_of_ble_eq_true rfl, Nat.le_of_ble_eq_true rfl⟩ hK hP hD hS hA rfl rfl rfl rfl hl.1 rfl (Nat.le_of_ble_eq_true rfl) d_T_wantLine_24 ⟨Nat.zero_le _, Nat.zero_le _⟩ (fun u1 H locs hw hP hD hS => ?_)
    rw [hw] at hP hD; clear hw u1
    exact xc_vret hx hb hr hlocks hP hK hD hS (by unfold fWant; rw [if_neg h1]) d_T_wantLine_27
set_option maxHeartbeats 4000000 in
set_option maxRecDepth 100000 in
theorem c_T_keptTag (l : Launch) (D : va_G) (G : Nat → Nat) (kc : Nat → ClassId) (sz : Nat) (u : TC) (g : Nat) (hg : g < 1024) : XMi l y_T_keptTag k_T_keptTag { frames := 1, cells := 0, slots := 0, locals := 20 } D vwCl (wT G kc) (tyTs kc) u sz [.ref (G 0), .int (nI g)] (fun r u1 => r = rTag u g ∧ u1 = u) := by
  refine xb_ofi (cc := b_T_keptTag) (maxL := 2) (ret := some .boolean) (by decide) rfl (Nat.le_of_ble_eq_true rfl) ?_
  intro p e s m below meth c A ls hsz hx hb hml hr hlocks hts hown hP hK hD hA hl
  have hl : lv_has ls 2 [(0, .ref (G 0)), (1, .int (nI g))] := hl
  have hS : va_S A s.heap s.heap [] := va_S.rf
  by_cases h1 : tLt u (g / 2 % 16) &&& ftb g = 0
  · skip
    refine lv_aload_n hx hb d_T_keptTag_0 rfl (lv_at hl 0 rfl) ?_
    refine xt_g3 hx hb hts hown hK hP d_T_keptTag_1 ?_
    refine lv_iload_n hx hb d_T_keptTag_4 rfl (lv_at hl 1 rfl) ?_
    refine xc_calls (n := 1) (C := "TagMemory") hx hb hml hown hts (c_T_lineOfGranule l g (by omega)) (tb_S wm_221 wm_222 wm_1 wm_223) rfl rfl rfl (by decide +kernel) ⟨Nat.le_of_ble_eq_true rfl, Nat.le_of_ble_eq_true rfl⟩ rfl hl.1 rfl (Nat.le_of_ble_eq_true rfl) d_T_keptTag_5 ⟨Nat.zero_le _, Nat.zero_le _⟩ (fun r hw => ?_)
    subst hw
    refine xc_calls (n := 1) (C := "TagMemory") hx hb hml hown hts (c_T_placeOfLine l (g / 2) (by omega)) (tb_S wm_97 wm_98 wm_1 wm_99) rfl rfl rfl (by decide +kernel) ⟨Nat.le_of_ble_eq_true rfl, Nat.le_of_ble_eq_true rfl⟩ rfl hl.1 rfl (Nat.le_of_ble_eq_true rfl) d_T_keptTag_8 ⟨Nat.zero_le _, Nat.zero_le _⟩ (fun r hw => ?_)
    subst hw
    refine xt_l3 hx hb hK hP ((g / 2) % 16) rfl (by omega) d_T_keptTag_11 ?_
    refine lv_iload_n hx hb d_T_keptTag_12 rfl (lv_at hl 1 rfl) ?_
    refine xc_calls (n := 1) (C := "TagMemory") hx hb hml hown hts (c_T_tagBit l g (by omega)) (tb_S wm_228 wm_229 wm_1 wm_230) rfl rfl rfl (by decide +kernel) ⟨Nat.le_of_ble_eq_true rfl, Nat.le_of_ble_eq_true rfl⟩ rfl hl.1 rfl (Nat.le_of_ble_eq_true rfl) d_T_keptTag_13 ⟨Nat.zero_le _, Nat.zero_le _⟩ (fun r hw => ?_)
    subst hw
    refine lv_iand hx hb d_T_keptTag_16 ?_
    refine lv_if_eq (tgt := 24) hx hb d_T_keptTag_17 (by decide) (fun _ => ?_) (fun c9 => absurd h1 c9)
    refine lv_iconst (v := 0) hx hb d_T_keptTag_24 (by decide) ?_
    exact xc_zret hx hb hr hlocks (Or.inl rfl) hP hK hD hS ⟨by unfold rTag; rw [if_pos h1], rfl⟩ d_T_keptTag_25
  · skip
    refine lv_aload_n hx hb d_T_keptTag_0 rfl (lv_at hl 0 rfl) ?_
    refine xt_g3 hx hb hts hown hK hP d_T_keptTag_1 ?_
    refine lv_iload_n hx hb d_T_keptTag_4 rfl (lv_at hl 1 rfl) ?_
    refine xc_calls (n := 1) (C := "TagMemory") hx hb hml hown hts (c_T_lineOfGranule l g (by omega)) (tb_S wm_221 wm_222 wm_1 wm_223) rfl rfl rfl (by decide +kernel) ⟨Nat.le_of_ble_eq_true rfl, Nat.le_of_ble_eq_true rfl⟩ rfl hl.1 rfl (Nat.le_of_ble_eq_true rfl) d_T_keptTag_5 ⟨Nat.zero_le _, Nat.zero_le _⟩ (fun r hw => ?_)
    subst hw
    refine xc_calls (n := 1) (C := "TagMemory") hx hb hml hown hts (c_T_placeOfLine l (g / 2) (by omega)) (tb_S wm_97 wm_98 wm_1 wm_99) rfl rfl rfl (by decide +kernel) ⟨Nat.le_of_ble_eq_true rfl, Nat.le_of_ble_eq_true rfl⟩ rfl hl.1 rfl (Nat.le_of_ble_eq_true rfl) d_T_keptTag_8 ⟨Nat.zero_le _, Nat.zero_le _⟩ (fun r hw => ?_)
    subst hw
    refine xt_l3 hx hb hK hP ((g / 2) % 16) rfl (by omega) d_T_keptTag_11 ?_
    refine lv_iload_n hx hb d_T_keptTag_12 rfl (lv_at hl 1 rfl) ?_
    refine xc_calls (n := 1) (C := "TagMemory") hx hb hml hown hts (c_T_tagBit l g (by omega)) (tb_S wm_228 wm_229 wm_1 wm_230) rfl rfl rfl (by decide +kernel) ⟨Nat.le_of_ble_eq_true rfl, Nat.le_of_ble_eq_true rfl⟩ rfl hl.1 rfl (Nat.le_of_ble_eq_true rfl) d_T_keptTag_13 ⟨Nat.zero_le _, Nat.zero_le _⟩ (fun r hw => ?_)
    subst hw
    refine lv_iand hx hb d_T_keptTag_16 ?_
    refine lv_if_eq (tgt := 24) hx hb d_T_keptTag_17 (by decide) (fun c9 => absurd c9 h1) (fun _ => ?_)
    refine lv_iconst (v := 1) hx hb d_T_keptTag_20 (by decide) ?_
    refine lv_goto (tgt := 25) hx hb d_T_keptTag_21 (by decide) ?_
    exact xc_zret hx hb hr hlocks (Or.inr rfl) hP hK hD hS ⟨by unfold rTag; rw [if_neg h1], rfl⟩ d_T_keptTag_25
set_option maxHeartbeats 4000000 in
set_option maxRecDepth 100000 in
theorem c_T_changeTag (l : Launch) (D : va_G) (G : Nat → Nat) (kc : Nat → ClassId) (sz : Nat) (u : TC) (g : Nat) (hg : g < 1024) (t : Int32) : XMv l y_T_changeTag k_T_changeTag { frames := 1, cells := 0, slots := 0, locals := 20 } D vwCl (wT G kc) (tyTs kc) u sz [.ref (G 0), .int (nI g), .int t] (fun u1 => u1 = fChTag u g t) := by
  refine xb_ofv (cc := b_T_changeTag) (maxL := 5) (ret := none) (by decide) rfl (Nat.le_of_ble_eq_true rfl) ?_
  intro p e s m below meth c A ls hsz hx hb hml hr hlocks hts hown hP hK hD hA hl
  have hl : lv_has ls 5 [(0, .ref (G 0)), (1, .int (nI g)), (2, .int t)] := hl
  have hS : va_S A s.heap s.heap [] := va_S.rf
  by_cases h1 : t = 0
  · skip
    refine lv_iload_n hx hb d_T_changeTag_0 rfl (lv_at hl 1 rfl) ?_
    refine xc_calls (n := 1) (C := "TagMemory") hx hb hml hown hts (c_T_lineOfGranule l g (by omega)) (tb_S wm_221 wm_222 wm_1 wm_223) rfl rfl rfl (by decide +kernel) ⟨Nat.le_of_ble_eq_true rfl, Nat.le_of_ble_eq_true rfl⟩ rfl hl.1 rfl (Nat.le_of_ble_eq_true rfl) d_T_changeTag_1 ⟨Nat.zero_le _, Nat.zero_le _⟩ (fun r hw => ?_)
    subst hw
    refine xc_calls (n := 1) (C := "TagMemory") hx hb hml hown hts (c_T_placeOfLine l (g / 2) (by omega)) (tb_S wm_97 wm_98 wm_1 wm_99) rfl rfl rfl (by decide +kernel) ⟨Nat.le_of_ble_eq_true rfl, Nat.le_of_ble_eq_true rfl⟩ rfl hl.1 rfl (Nat.le_of_ble_eq_true rfl) d_T_changeTag_4 ⟨Nat.zero_le _, Nat.zero_le _⟩ (fun r hw => ?_)
    subst hw
    refine lv_istore_n (lv' := [(3, .int (nI ((g / 2) % 16))), (0, .ref _), (1, .int (nI g)), (2, .int _)]) hx hb d_T_changeTag_7 rfl hl (by decide) rfl (fun ls hl => ?_)
    refine lv_aload_n hx hb d_T_changeTag_8 rfl (lv_at hl 1 rfl) ?_
    refine xt_g3 hx hb hts hown hK hP d_T_changeTag_9 ?_
    refine lv_iload_n hx hb d_T_changeTag_12 rfl (lv_at hl 0 rfl) ?_
    refine xt_l3 hx hb hK hP ((g / 2) % 16) rfl (by omega) d_T_changeTag_13 ?_
    refine lv_iload_n hx hb d_T_changeTag_14 rfl (lv_at hl 2 rfl) ?_
    refine xc_calls (n := 1) (C := "TagMemory") hx hb hml hown hts (c_T_tagBit l g (by omega)) (tb_S wm_228 wm_229 wm_1 wm_230) rfl rfl rfl (by decide +kernel) ⟨Nat.le_of_ble_eq_true rfl, Nat.le_of_ble_eq_true rfl⟩ rfl hl.1 rfl (Nat.le_of_ble_eq_true rfl) d_T_changeTag_15 ⟨Nat.zero_le _, Nat.zero_le _⟩ (fun r hw => ?_)
    subst hw
    refine lv_iconst (v := (-1)) hx hb d_T_changeTag_18 (by decide) ?_
    refine lv_ixor hx hb d_T_changeTag_19 ?_
    refine lv_iand hx hb d_T_changeTag_20 ?_
    refine lv_istore (lv' := [(4, .int _), (3, .int (nI ((g / 2) % 16))), (0, .ref _), (1, .int (nI g)), (2, .int _)]) hx hb d_T_changeTag_21 hl (by decide) rfl (fun ls hl => ?_)
    refine lv_aload_n hx hb d_T_changeTag_23 rfl (lv_at hl 2 rfl) ?_
    refine xt_g3 hx hb hts hown hK hP d_T_changeTag_24 ?_
    refine lv_iload_n hx hb d_T_changeTag_27 rfl (lv_at hl 1 rfl) ?_
    refine lv_iload_n hx hb d_T_changeTag_28 rfl (lv_at hl 4 rfl) ?_
    refine lv_if_eq (tgt := 42) hx hb d_T_changeTag_29 (by decide) (fun _ => ?_) (fun c9 => absurd h1 c9)
    refine lv_iload hx hb d_T_changeTag_42 (lv_at hl 0 rfl) ?_
    refine xt_s3 hx hb hK hP hD hS ((g / 2) % 16) rfl (by omega) d_T_changeTag_44 (fun H locs hP hD hS => ?_)
    refine lv_aload_n hx hb d_T_changeTag_45 rfl (lv_at hl 2 rfl) ?_
    refine xt_g4 hx hb hts hown hK hP d_T_changeTag_46 ?_
    refine lv_iload_n hx hb d_T_changeTag_49 rfl (lv_at hl 1 rfl) ?_
    refine lv_iconst (v := 1) hx hb d_T_changeTag_50 (by decide) ?_
    refine xt_s4 hx hb hK hP hD hS (Or.inr rfl) ((g / 2) % 16) rfl (by omega) d_T_changeTag_51 (fun H locs hP hD hS => ?_)
    exact xc_vret hx hb hr hlocks hP hK hD hS (by unfold fChTag; rw [if_pos h1]; rfl) d_T_changeTag_52
  · skip
    refine lv_iload_n hx hb d_T_changeTag_0 rfl (lv_at hl 1 rfl) ?_
    refine xc_calls (n := 1) (C := "TagMemory") hx hb hml hown hts (c_T_lineOfGranule l g (by omega)) (tb_S wm_221 wm_222 wm_1 wm_223) rfl rfl rfl (by decide +kernel) ⟨Nat.le_of_ble_eq_true rfl, Nat.le_of_ble_eq_true rfl⟩ rfl hl.1 rfl (Nat.le_of_ble_eq_true rfl) d_T_changeTag_1 ⟨Nat.zero_le _, Nat.zero_le _⟩ (fun r hw => ?_)
    subst hw
    refine xc_calls (n := 1) (C := "TagMemory") hx hb hml hown hts (c_T_placeOfLine l (g / 2) (by omega)) (tb_S wm_97 wm_98 wm_1 wm_99) rfl rfl rfl (by decide +kernel) ⟨Nat.le_of_ble_eq_true rfl, Nat.le_of_ble_eq_true rfl⟩ rfl hl.1 rfl (Nat.le_of_ble_eq_true rfl) d_T_changeTag_4 ⟨Nat.zero_le _, Nat.zero_le _⟩ (fun r hw => ?_)
    subst hw
    refine lv_istore_n (lv' := [(3, .int (nI ((g / 2) % 16))), (0, .ref _), (1, .int (nI g)), (2, .int _)]) hx hb d_T_changeTag_7 rfl hl (by decide) rfl (fun ls hl => ?_)
    refine lv_aload_n hx hb d_T_changeTag_8 rfl (lv_at hl 1 rfl) ?_
    refine xt_g3 hx hb hts hown hK hP d_T_changeTag_9 ?_
    refine lv_iload_n hx hb d_T_changeTag_12 rfl (lv_at hl 0 rfl) ?_
    refine xt_l3 hx hb hK hP ((g / 2) % 16) rfl (by omega) d_T_changeTag_13 ?_
    refine lv_iload_n hx hb d_T_changeTag_14 rfl (lv_at hl 2 rfl) ?_
    refine xc_calls (n := 1) (C := "TagMemory") hx hb hml hown hts (c_T_tagBit l g (by omega)) (tb_S wm_228 wm_229 wm_1 wm_230) rfl rfl rfl (by decide +kernel) ⟨Nat.le_of_ble_eq_true rfl, Nat.le_of_ble_eq_true rfl⟩ rfl hl.1 rfl (Nat.le_of_ble_eq_true rfl) d_T_changeTag_15 ⟨Nat.zero_le _, Nat.zero_le _⟩ (fun r hw => ?_)
    subst hw
    refine lv_iconst (v := (-1)) hx hb d_T_changeTag_18 (by decide) ?_
    refine lv_ixor hx hb d_T_changeTag_19 ?_
    refine lv_iand hx hb d_T_changeTag_20 ?_
    refine lv_istore (lv' := [(4, .int _), (3, .int (nI ((g / 2) % 16))), (0, .ref _), (1, .int (nI g)), (2, .int _)]) hx hb d_T_changeTag_21 hl (by decide) rfl (fun ls hl => ?_)
    refine lv_aload_n hx hb d_T_changeTag_23 rfl (lv_at hl 2 rfl) ?_
    refine xt_g3 hx hb hts hown hK hP d_T_changeTag_24 ?_
    refine lv_iload_n hx hb d_T_changeTag_27 rfl (lv_at hl 1 rfl) ?_
    refine lv_iload_n hx hb d_T_changeTag_28 rfl (lv_at hl 4 rfl) ?_
    refine lv_if_eq (tgt := 42) hx hb d_T_changeTag_29 (by decide) (fun c9 => absurd c9 h1) (fun _ => ?_)
    refine lv_iload hx hb d_T_changeTag_32 (lv_at hl 0 rfl) ?_
    refine lv_iload_n hx hb d_T_changeTag_34 rfl (lv_at hl 3 rfl) ?_
    refine xc_calls (n := 1) (C := "TagMemory") hx hb hml hown hts (c_T_tagBit l g (by omega)) (tb_S wm_228 wm_229 wm_1 wm_230) rfl rfl rfl (by decide +kernel) ⟨Nat.le_of_ble_eq_true rfl, Nat.le_of_ble_eq_true rfl⟩ rfl hl.1 rfl (Nat.le_of_ble_eq_true rfl) d_T_changeTag_35 ⟨Nat.zero_le _, Nat.zero_le _⟩ (fun r hw => ?_)
    subst hw
    refine lv_ior hx hb d_T_changeTag_38 ?_
    refine lv_goto (tgt := 44) hx hb d_T_changeTag_39 (by decide) ?_
    refine xt_s3 hx hb hK hP hD hS ((g / 2) % 16) rfl (by omega) d_T_changeTag_44 (fun H locs hP hD hS => ?_)
    refine lv_aload_n hx hb d_T_changeTag_45 rfl (lv_at hl 2 rfl) ?_
    refine xt_g4 hx hb hts hown hK hP d_T_changeTag_46 ?_
    refine lv_iload_n hx hb d_T_changeTag_49 rfl (lv_at hl 1 rfl) ?_
    refine lv_iconst (v := 1) hx hb d_T_changeTag_50 (by decide) ?_
    refine xt_s4 hx hb hK hP hD hS (Or.inr rfl) ((g / 2) % 16) rfl (by omega) d_T_changeTag_51 (fun H locs hP hD hS => ?_)
    exact xc_vret hx hb hr hlocks hP hK hD hS (by unfold fChTag; rw [if_neg h1]; rfl) d_T_changeTag_52
set_option maxHeartbeats 4000000 in
set_option maxRecDepth 100000 in
theorem c_T_changeWord (l : Launch) (D : va_G) (G : Nat → Nat) (kc : Nat → ClassId) (sz : Nat) (u : TC) (i : Nat) (hi : i < 2048) (w : Int32) : XMv l y_T_changeWord k_T_changeWord { frames := 2, cells := 0, slots := 0, locals := 44 } D vwCl (wT G kc) (tyTs kc) u sz [.ref (G 0), .int (nI i), .int w] (fun u1 => u1 = fChWord u i w) := by
  refine xb_ofv (cc := b_T_changeWord) (maxL := 3) (ret := none) (by decide) rfl (Nat.le_of_ble_eq_true rfl) ?_
  intro p e s m below meth c A ls hsz hx hb hml hr hlocks hts hown hP hK hD hA hl
  have hl : lv_has ls 3 [(0, .ref (G 0)), (1, .int (nI i)), (2, .int w)] := hl
  have hS : va_S A s.heap s.heap [] := va_S.rf
  refine lv_aload_n hx hb d_T_changeWord_0 rfl (lv_at hl 0 rfl) ?_
  refine xt_g2 hx hb hts hown hK hP d_T_changeWord_1 ?_
  refine lv_iload_n hx hb d_T_changeWord_4 rfl (lv_at hl 1 rfl) ?_
  refine xc_calls (n := 1) (C := "TagMemory") hx hb hml hown hts (c_T_slotOfWord l i (by omega)) (tb_S wm_208 wm_209 wm_1 wm_210) rfl rfl rfl (by decide +kernel) ⟨Nat.le_of_ble_eq_true rfl, Nat.le_of_ble_eq_true rfl⟩ rfl hl.1 rfl (Nat.le_of_ble_eq_true rfl) d_T_changeWord_5 ⟨Nat.zero_le _, Nat.zero_le _⟩ (fun r hw => ?_)
  subst hw
  refine lv_iload_n hx hb d_T_changeWord_8 rfl (lv_at hl 2 rfl) ?_
  refine xt_s2 hx hb hK hP hD hS (i % 64) rfl (by omega) d_T_changeWord_9 (fun H locs hP hD hS => ?_)
  refine lv_aload_n hx hb d_T_changeWord_10 rfl (lv_at hl 0 rfl) ?_
  refine lv_iload_n hx hb d_T_changeWord_11 rfl (lv_at hl 1 rfl) ?_
  refine xc_calls (n := 1) (C := "TagMemory") hx hb hml hown hts (c_T_granuleOfWord l i (by omega)) (tb_S wm_218 wm_219 wm_1 wm_220) rfl rfl rfl (by decide +kernel) ⟨Nat.le_of_ble_eq_true rfl, Nat.le_of_ble_eq_true rfl⟩ rfl hl.1 rfl (Nat.le_of_ble_eq_true rfl) d_T_changeWord_12 ⟨Nat.zero_le _, Nat.zero_le _⟩ (fun r hw => ?_)
  subst hw
  refine lv_iconst (v := 0) hx hb d_T_changeWord_15 (by decide) ?_
  refine xc_callv (n := 2) (C := "TagMemory") hx hb hml hown hts (c_T_changeTag l D G kc _ _ (i / 2) (by omega) _) (tb_V wm_242 wm_244 ws_14 wm_1 wm_245) rfl rfl rfl (by decide +kernel) ⟨Nat.le_of_ble_eq_true rfl, Nat.le_of_ble_eq_true rfl⟩ hK hP hD hS hA rfl rfl rfl rfl hl.1 rfl (Nat.le_of_ble_eq_true rfl) d_T_changeWord_16 ⟨Nat.zero_le _, Nat.zero_le _⟩ (fun u1 H locs hw hP hD hS => ?_)
  rw [hw] at hP hD; clear hw u1
  exact xc_vret hx hb hr hlocks hP hK hD hS rfl d_T_changeWord_19
set_option maxHeartbeats 4000000 in
set_option maxRecDepth 100000 in
theorem c_T_changeGranule (l : Launch) (D : va_G) (G : Nat → Nat) (kc : Nat → ClassId) (sz : Nat) (u : TC) (g : Nat) (hg : g < 1024) (lo hi t : Int32) : XMv l y_T_changeGranule k_T_changeGranule { frames := 2, cells := 0, slots := 0, locals := 44 } D vwCl (wT G kc) (tyTs kc) u sz [.ref (G 0), .int (nI g), .int lo, .int hi, .int t] (fun u1 => u1 = fChGran u g lo hi t) := by
  refine xb_ofv (cc := b_T_changeGranule) (maxL := 5) (ret := none) (by decide) rfl (Nat.le_of_ble_eq_true rfl) ?_
  intro p e s m below meth c A ls hsz hx hb hml hr hlocks hts hown hP hK hD hA hl
  have hl : lv_has ls 5 [(0, .ref (G 0)), (1, .int (nI g)), (2, .int lo), (3, .int hi), (4, .int t)] := hl
  have hS : va_S A s.heap s.heap [] := va_S.rf
  refine lv_aload_n hx hb d_T_changeGranule_0 rfl (lv_at hl 0 rfl) ?_
  refine xt_g2 hx hb hts hown hK hP d_T_changeGranule_1 ?_
  refine lv_iconst (v := 2) hx hb d_T_changeGranule_4 (by decide) ?_
  refine lv_iload_n hx hb d_T_changeGranule_5 rfl (lv_at hl 1 rfl) ?_
  refine xa_imul hx hb 2 g rfl rfl d_T_changeGranule_6 ?_
  refine xc_calls (n := 1) (C := "TagMemory") hx hb hml hown hts (c_T_slotOfWord l (2 * g) (by omega)) (tb_S wm_208 wm_209 wm_1 wm_210) rfl rfl rfl (by decide +kernel) ⟨Nat.le_of_ble_eq_true rfl, Nat.le_of_ble_eq_true rfl⟩ rfl hl.1 rfl (Nat.le_of_ble_eq_true rfl) d_T_changeGranule_7 ⟨Nat.zero_le _, Nat.zero_le _⟩ (fun r hw => ?_)
  subst hw
  refine lv_iload_n hx hb d_T_changeGranule_10 rfl (lv_at hl 2 rfl) ?_
  refine xt_s2 hx hb hK hP hD hS ((2 * g) % 64) rfl (by omega) d_T_changeGranule_11 (fun H locs hP hD hS => ?_)
  refine lv_aload_n hx hb d_T_changeGranule_12 rfl (lv_at hl 0 rfl) ?_
  refine xt_g2 hx hb hts hown hK hP d_T_changeGranule_13 ?_
  refine lv_iconst (v := 2) hx hb d_T_changeGranule_16 (by decide) ?_
  refine lv_iload_n hx hb d_T_changeGranule_17 rfl (lv_at hl 1 rfl) ?_
  refine xa_imul hx hb 2 g rfl rfl d_T_changeGranule_18 ?_
  refine lv_iconst (v := 1) hx hb d_T_changeGranule_19 (by decide) ?_
  refine xa_iadd hx hb (2 * g) 1 rfl rfl d_T_changeGranule_20 ?_
  refine xc_calls (n := 1) (C := "TagMemory") hx hb hml hown hts (c_T_slotOfWord l ((2 * g) + 1) (by omega)) (tb_S wm_208 wm_209 wm_1 wm_210) rfl rfl rfl (by decide +kernel) ⟨Nat.le_of_ble_eq_true rfl, Nat.le_of_ble_eq_true rfl⟩ rfl hl.1 rfl (Nat.le_of_ble_eq_true rfl) d_T_changeGranule_21 ⟨Nat.zero_le _, Nat.zero_le _⟩ (fun r hw => ?_)
  subst hw
  refine lv_iload_n hx hb d_T_changeGranule_24 rfl (lv_at hl 3 rfl) ?_
  refine xt_s2 hx hb hK hP hD hS (((2 * g) + 1) % 64) rfl (by omega) d_T_changeGranule_25 (fun H locs hP hD hS => ?_)
  refine lv_aload_n hx hb d_T_changeGranule_26 rfl (lv_at hl 0 rfl) ?_
  refine lv_iload_n hx hb d_T_changeGranule_27 rfl (lv_at hl 1 rfl) ?_
  refine lv_iload hx hb d_T_changeGranule_28 (lv_at hl 4 rfl) ?_
  refine xc_callv (n := 2) (C := "TagMemory") hx hb hml hown hts (c_T_changeTag l D G kc _ _ g (by omega) _) (tb_V wm_242 wm_244 ws_14 wm_1 wm_245) rfl rfl rfl (by decide +kernel) ⟨Nat.le_of_ble_eq_true rfl, Nat.le_of_ble_eq_true rfl⟩ hK hP hD hS hA rfl rfl rfl rfl hl.1 rfl (Nat.le_of_ble_eq_true rfl) d_T_changeGranule_30 ⟨Nat.zero_le _, Nat.zero_le _⟩ (fun u1 H locs hw hP hD hS => ?_)
  rw [hw] at hP hD; clear hw u1
  exact xc_vret hx hb hr hlocks hP hK hD hS rfl d_T_changeGranule_33
set_option maxHeartbeats 4000000 in
set_option maxRecDepth 100000 in
theorem c_T_peekRow (l : Launch) (D : va_G) (G : Nat → Nat) (kc : Nat → ClassId) (sz : Nat) (u : TC) (k : Nat) (hk : k < 32) : XMi l y_T_peekRow k_T_peekRow { frames := 1, cells := 0, slots := 0, locals := 20 } D vwCl (wT G kc) (tyTs kc) u sz [.ref (G 0), .int (nI k)] (fun r u1 => r = fPeek u k ∧ u1 = u) := by
  refine xb_ofi (cc := b_T_peekRow) (maxL := 3) (ret := some .int) (by decide) rfl (Nat.le_of_ble_eq_true rfl) ?_
  intro p e s m below meth c A ls hsz hx hb hml hr hlocks hts hown hP hK hD hA hl
  have hl : lv_has ls 3 [(0, .ref (G 0)), (1, .int (nI k))] := hl
  have hS : va_S A s.heap s.heap [] := va_S.rf
  by_cases h1 : tRa u (k % 4) = nI k
  · skip
    refine lv_iload_n hx hb d_T_peekRow_0 rfl (lv_at hl 1 rfl) ?_
    refine xc_calls (n := 1) (C := "TagMemory") hx hb hml hown hts (c_T_placeOfRow l k (by omega)) (tb_S wm_79 wm_80 wm_1 wm_81) rfl rfl rfl (by decide +kernel) ⟨Nat.le_of_ble_eq_true rfl, Nat.le_of_ble_eq_true rfl⟩ rfl hl.1 rfl (Nat.le_of_ble_eq_true rfl) d_T_peekRow_1 ⟨Nat.zero_le _, Nat.zero_le _⟩ (fun r hw => ?_)
    subst hw
    refine lv_istore_n (lv' := [(2, .int (nI (k % 4))), (0, .ref _), (1, .int (nI k))]) hx hb d_T_peekRow_4 rfl hl (by decide) rfl (fun ls hl => ?_)
    refine lv_aload_n hx hb d_T_peekRow_5 rfl (lv_at hl 1 rfl) ?_
    refine xt_g5 hx hb hts hown hK hP d_T_peekRow_6 ?_
    refine lv_iload_n hx hb d_T_peekRow_9 rfl (lv_at hl 0 rfl) ?_
    refine xt_l5 hx hb hK hP (k % 4) rfl (by omega) d_T_peekRow_10 ?_
    refine lv_iload_n hx hb d_T_peekRow_11 rfl (lv_at hl 2 rfl) ?_
    refine lv_icmp_ne (tgt := 24) hx hb d_T_peekRow_12 (by decide) (fun c9 => absurd h1 c9) (fun _ => ?_)
    refine lv_aload_n hx hb d_T_peekRow_15 rfl (lv_at hl 1 rfl) ?_
    refine xt_g6 hx hb hts hown hK hP d_T_peekRow_16 ?_
    refine lv_iload_n hx hb d_T_peekRow_19 rfl (lv_at hl 0 rfl) ?_
    refine xt_l6 hx hb hK hP (k % 4) rfl (by omega) d_T_peekRow_20 ?_
    refine lv_goto (tgt := 34) hx hb d_T_peekRow_21 (by decide) ?_
    exact xc_iret hx hb hr hlocks hP hK hD hS ⟨by unfold fPeek; rw [if_pos h1], rfl⟩ d_T_peekRow_34
  · skip
    refine lv_iload_n hx hb d_T_peekRow_0 rfl (lv_at hl 1 rfl) ?_
    refine xc_calls (n := 1) (C := "TagMemory") hx hb hml hown hts (c_T_placeOfRow l k (by omega)) (tb_S wm_79 wm_80 wm_1 wm_81) rfl rfl rfl (by decide +kernel) ⟨Nat.le_of_ble_eq_true rfl, Nat.le_of_ble_eq_true rfl⟩ rfl hl.1 rfl (Nat.le_of_ble_eq_true rfl) d_T_peekRow_1 ⟨Nat.zero_le _, Nat.zero_le _⟩ (fun r hw => ?_)
    subst hw
    refine lv_istore_n (lv' := [(2, .int (nI (k % 4))), (0, .ref _), (1, .int (nI k))]) hx hb d_T_peekRow_4 rfl hl (by decide) rfl (fun ls hl => ?_)
    refine lv_aload_n hx hb d_T_peekRow_5 rfl (lv_at hl 1 rfl) ?_
    refine xt_g5 hx hb hts hown hK hP d_T_peekRow_6 ?_
    refine lv_iload_n hx hb d_T_peekRow_9 rfl (lv_at hl 0 rfl) ?_
    refine xt_l5 hx hb hK hP (k % 4) rfl (by omega) d_T_peekRow_10 ?_
    refine lv_iload_n hx hb d_T_peekRow_11 rfl (lv_at hl 2 rfl) ?_
    refine lv_icmp_ne (tgt := 24) hx hb d_T_peekRow_12 (by decide) (fun _ => ?_) (fun c9 => absurd c9 h1)
    refine lv_aload_n hx hb d_T_peekRow_24 rfl (lv_at hl 1 rfl) ?_
    refine xt_g0 hx hb hts hown hK hP d_T_peekRow_25 ?_
    refine lv_sipush (v := 2048) hx hb d_T_peekRow_28 (by decide) ?_
    refine lv_iload_n hx hb d_T_peekRow_31 rfl (lv_at hl 2 rfl) ?_
    refine xa_iadd hx hb 2048 k rfl rfl d_T_peekRow_32 ?_
    refine xt_l0 hx hb hK hP (2048 + k) rfl (by omega) d_T_peekRow_33 ?_
    exact xc_iret hx hb hr hlocks hP hK hD hS ⟨by unfold fPeek; rw [if_neg h1], rfl⟩ d_T_peekRow_34
set_option maxHeartbeats 4000000 in
set_option maxRecDepth 100000 in
theorem c_T_tagsBehindLine (l : Launch) (D : va_G) (G : Nat → Nat) (kc : Nat → ClassId) (sz : Nat) (u : TC) (n : Nat) (hn : n < 512) : XMi l y_T_tagsBehindLine k_T_tagsBehindLine { frames := 2, cells := 0, slots := 0, locals := 42 } D vwCl (wT G kc) (tyTs kc) u sz [.ref (G 0), .int (nI n)] (fun r u1 => r = ftol n (fPeek u (n / 16)) ∧ u1 = u) := by
  refine xb_ofi (cc := b_T_tagsBehindLine) (maxL := 2) (ret := some .int) (by decide) rfl (Nat.le_of_ble_eq_true rfl) ?_
  intro p e s m below meth c A ls hsz hx hb hml hr hlocks hts hown hP hK hD hA hl
  have hl : lv_has ls 2 [(0, .ref (G 0)), (1, .int (nI n))] := hl
  have hS : va_S A s.heap s.heap [] := va_S.rf
  refine lv_iload_n hx hb d_T_tagsBehindLine_0 rfl (lv_at hl 1 rfl) ?_
  refine lv_aload_n hx hb d_T_tagsBehindLine_1 rfl (lv_at hl 0 rfl) ?_
  refine lv_iload_n hx hb d_T_tagsBehindLine_2 rfl (lv_at hl 1 rfl) ?_
  refine xc_calls (n := 1) (C := "TagMemory") hx hb hml hown hts (c_T_rowOfLine l n (by omega)) (tb_S wm_72 wm_73 wm_1 wm_74) rfl rfl rfl (by decide +kernel) ⟨Nat.le_of_ble_eq_true rfl, Nat.le_of_ble_eq_true rfl⟩ rfl hl.1 rfl (Nat.le_of_ble_eq_true rfl) d_T_tagsBehindLine_3 ⟨Nat.zero_le _, Nat.zero_le _⟩ (fun r hw => ?_)
  subst hw
  refine xc_calli (n := 1) (C := "TagMemory") hx hb hml hown hts (c_T_peekRow l D G kc _ _ (n / 16) (by omega)) (tb_V wm_108 wm_110 ws_7 wm_1 wm_111) rfl rfl rfl (by decide +kernel) ⟨Nat.le_of_ble_eq_true rfl, Nat.le_of_ble_eq_true rfl⟩ hK hP hD hS hA rfl rfl rfl rfl hl.1 rfl (Nat.le_of_ble_eq_true rfl) d_T_tagsBehindLine_6 ⟨Nat.zero_le _, Nat.zero_le _⟩ (fun r u1 H locs hw hP hD hS => ?_)
  obtain ⟨e1, e2⟩ := hw
  subst e1
  rw [e2] at hP hD; clear e2 u1
  refine xc_calls (n := 2) (C := "TagMemory") hx hb hml hown hts (c_T_tagsOfLine l n (by omega) _) (tb_S wm_112 wm_113 wm_1 wm_114) rfl rfl rfl (by decide +kernel) ⟨Nat.le_of_ble_eq_true rfl, Nat.le_of_ble_eq_true rfl⟩ rfl hl.1 rfl (Nat.le_of_ble_eq_true rfl) d_T_tagsBehindLine_9 ⟨Nat.zero_le _, Nat.zero_le _⟩ (fun r hw => ?_)
  subst hw
  exact xc_iret hx hb hr hlocks hP hK hD hS ⟨rfl, rfl⟩ d_T_tagsBehindLine_12
set_option maxHeartbeats 4000000 in
set_option maxRecDepth 100000 in
theorem c_T_areWordsAsStored (l : Launch) (D : va_G) (G : Nat → Nat) (kc : Nat → ClassId) (sz : Nat) (u : TC) (n q : Nat) (hn : n < 512) (hq : q < 16) (hw : ∀ w, w < 4 → tLw u (q * 4 + w) = tSt u (n * 4 + w)) : XMi l y_T_areWordsAsStored k_T_areWordsAsStored { frames := 0, cells := 0, slots := 0, locals := 0 } D vwCl (wT G kc) (tyTs kc) u sz [.ref (G 0), .int (nI n), .int (nI q)] (fun r u1 => r = 1 ∧ u1 = u) := by
  refine xb_ofi (cc := b_T_areWordsAsStored) (maxL := 4) (ret := some .boolean) (by decide) rfl (Nat.le_of_ble_eq_true rfl) ?_
  intro p e s m below meth c A ls hsz hx hb hml hr hlocks hts hown hP hK hD hA hl
  have hl : lv_has ls 4 [(0, .ref (G 0)), (1, .int (nI n)), (2, .int (nI q))] := hl
  have hS : va_S A s.heap s.heap [] := va_S.rf
  refine lv_iconst (v := 0) hx hb d_T_areWordsAsStored_0 (by decide) ?_
  refine lv_istore_n (lv' := [(3, .int (nI 0)), (0, .ref _), (1, .int (nI n)), (2, .int (nI q))]) hx hb d_T_areWordsAsStored_1 rfl hl (by decide) rfl (fun ls hl => ?_)
  refine lv_iload_n hx hb d_T_areWordsAsStored_2 rfl (lv_at hl 0 rfl) ?_
  refine lv_iconst (v := 4) hx hb d_T_areWordsAsStored_3 (by decide) ?_
  refine lv_icmp_ge (tgt := 38) hx hb d_T_areWordsAsStored_4 (by decide) (fun c9 => absurd c9 (by decide)) (fun _ => ?_)
  refine lv_aload_n hx hb d_T_areWordsAsStored_7 rfl (lv_at hl 1 rfl) ?_
  refine xt_g2 hx hb hts hown hK hP d_T_areWordsAsStored_8 ?_
  refine lv_iload_n hx hb d_T_areWordsAsStored_11 rfl (lv_at hl 3 rfl) ?_
  refine lv_iconst (v := 4) hx hb d_T_areWordsAsStored_12 (by decide) ?_
  refine xa_imul hx hb q 4 rfl rfl d_T_areWordsAsStored_13 ?_
  refine lv_iload_n hx hb d_T_areWordsAsStored_14 rfl (lv_at hl 0 rfl) ?_
  refine xa_iadd hx hb (q * 4) 0 rfl rfl d_T_areWordsAsStored_15 ?_
  refine xt_l2 hx hb hK hP ((q * 4) + 0) rfl (by omega) d_T_areWordsAsStored_16 ?_
  refine lv_aload_n hx hb d_T_areWordsAsStored_17 rfl (lv_at hl 1 rfl) ?_
  refine xt_g0 hx hb hts hown hK hP d_T_areWordsAsStored_18 ?_
  refine lv_iload_n hx hb d_T_areWordsAsStored_21 rfl (lv_at hl 2 rfl) ?_
  refine lv_iconst (v := 4) hx hb d_T_areWordsAsStored_22 (by decide) ?_
  refine xa_imul hx hb n 4 rfl rfl d_T_areWordsAsStored_23 ?_
  refine lv_iload_n hx hb d_T_areWordsAsStored_24 rfl (lv_at hl 0 rfl) ?_
  refine xa_iadd hx hb (n * 4) 0 rfl rfl d_T_areWordsAsStored_25 ?_
  refine xt_l0 hx hb hK hP ((n * 4) + 0) rfl (by omega) d_T_areWordsAsStored_26 ?_
  refine lv_icmp_eq (tgt := 32) hx hb d_T_areWordsAsStored_27 (by decide) (fun _ => ?_) (fun c9 => absurd (hw _ (by omega)) c9)
  refine lv_iinc (v := nI (0 + 1)) (lv' := [(3, .int (nI (0 + 1))), (0, .ref _), (1, .int (nI n)), (2, .int (nI q))]) hx hb d_T_areWordsAsStored_32 hl (k := 0) rfl (nI_add _ _) (by decide) rfl (fun ls hl => ?_)
  refine lv_goto (tgt := 2) hx hb d_T_areWordsAsStored_35 (by decide) ?_
  refine lv_iload_n hx hb d_T_areWordsAsStored_2 rfl (lv_at hl 0 rfl) ?_
  refine lv_iconst (v := 4) hx hb d_T_areWordsAsStored_3 (by decide) ?_
  refine lv_icmp_ge (tgt := 38) hx hb d_T_areWordsAsStored_4 (by decide) (fun c9 => absurd c9 (by decide)) (fun _ => ?_)
  refine lv_aload_n hx hb d_T_areWordsAsStored_7 rfl (lv_at hl 1 rfl) ?_
  refine xt_g2 hx hb hts hown hK hP d_T_areWordsAsStored_8 ?_
  refine lv_iload_n hx hb d_T_areWordsAsStored_11 rfl (lv_at hl 3 rfl) ?_
  refine lv_iconst (v := 4) hx hb d_T_areWordsAsStored_12 (by decide) ?_
  refine xa_imul hx hb q 4 rfl rfl d_T_areWordsAsStored_13 ?_
  refine lv_iload_n hx hb d_T_areWordsAsStored_14 rfl (lv_at hl 0 rfl) ?_
  refine xa_iadd hx hb (q * 4) (0 + 1) rfl rfl d_T_areWordsAsStored_15 ?_
  refine xt_l2 hx hb hK hP ((q * 4) + (0 + 1)) rfl (by omega) d_T_areWordsAsStored_16 ?_
  refine lv_aload_n hx hb d_T_areWordsAsStored_17 rfl (lv_at hl 1 rfl) ?_
  refine xt_g0 hx hb hts hown hK hP d_T_areWordsAsStored_18 ?_
  refine lv_iload_n hx hb d_T_areWordsAsStored_21 rfl (lv_at hl 2 rfl) ?_
  refine lv_iconst (v := 4) hx hb d_T_areWordsAsStored_22 (by decide) ?_
  refine xa_imul hx hb n 4 rfl rfl d_T_areWordsAsStored_23 ?_
  refine lv_iload_n hx hb d_T_areWordsAsStored_24 rfl (lv_at hl 0 rfl) ?_
  refine xa_iadd hx hb (n * 4) (0 + 1) rfl rfl d_T_areWordsAsStored_25 ?_
  refine xt_l0 hx hb hK hP ((n * 4) + (0 + 1)) rfl (by omega) d_T_areWordsAsStored_26 ?_
  refine lv_icmp_eq (tgt := 32) hx hb d_T_areWordsAsStored_27 (by decide) (fun _ => ?_) (fun c9 => absurd (hw _ (by omega)) c9)
  refine lv_iinc (v := nI ((0 + 1) + 1)) (lv' := [(3, .int (nI ((0 + 1) + 1))), (0, .ref _), (1, .int (nI n)), (2, .int (nI q))]) hx hb d_T_areWordsAsStored_32 hl (k := 0) rfl (nI_add _ _) (by decide) rfl (fun ls hl => ?_)
  refine lv_goto (tgt := 2) hx hb d_T_areWordsAsStored_35 (by decide) ?_
  refine lv_iload_n hx hb d_T_areWordsAsStored_2 rfl (lv_at hl 0 rfl) ?_
  refine lv_iconst (v := 4) hx hb d_T_areWordsAsStored_3 (by decide) ?_
  refine lv_icmp_ge (tgt := 38) hx hb d_T_areWordsAsStored_4 (by decide) (fun c9 => absurd c9 (by decide)) (fun _ => ?_)
  refine lv_aload_n hx hb d_T_areWordsAsStored_7 rfl (lv_at hl 1 rfl) ?_
  refine xt_g2 hx hb hts hown hK hP d_T_areWordsAsStored_8 ?_
  refine lv_iload_n hx hb d_T_areWordsAsStored_11 rfl (lv_at hl 3 rfl) ?_
  refine lv_iconst (v := 4) hx hb d_T_areWordsAsStored_12 (by decide) ?_
  refine xa_imul hx hb q 4 rfl rfl d_T_areWordsAsStored_13 ?_
  refine lv_iload_n hx hb d_T_areWordsAsStored_14 rfl (lv_at hl 0 rfl) ?_
  refine xa_iadd hx hb (q * 4) ((0 + 1) + 1) rfl rfl d_T_areWordsAsStored_15 ?_
  refine xt_l2 hx hb hK hP ((q * 4) + ((0 + 1) + 1)) rfl (by omega) d_T_areWordsAsStored_16 ?_
  refine lv_aload_n hx hb d_T_areWordsAsStored_17 rfl (lv_at hl 1 rfl) ?_
  refine xt_g0 hx hb hts hown hK hP d_T_areWordsAsStored_18 ?_
  refine lv_iload_n hx hb d_T_areWordsAsStored_21 rfl (lv_at hl 2 rfl) ?_
  refine lv_iconst (v := 4) hx hb d_T_areWordsAsStored_22 (by decide) ?_
  refine xa_imul hx hb n 4 rfl rfl d_T_areWordsAsStored_23 ?_
  refine lv_iload_n hx hb d_T_areWordsAsStored_24 rfl (lv_at hl 0 rfl) ?_
  refine xa_iadd hx hb (n * 4) ((0 + 1) + 1) rfl rfl d_T_areWordsAsStored_25 ?_
  refine xt_l0 hx hb hK hP ((n * 4) + ((0 + 1) + 1)) rfl (by omega) d_T_areWordsAsStored_26 ?_
  refine lv_icmp_eq (tgt := 32) hx hb d_T_areWordsAsStored_27 (by decide) (fun _ => ?_) (fun c9 => absurd (hw _ (by omega)) c9)
  refine lv_iinc (v := nI (((0 + 1) + 1) + 1)) (lv' := [(3, .int (nI (((0 + 1) + 1) + 1))), (0, .ref _), (1, .int (nI n)), (2, .int (nI q))]) hx hb d_T_areWordsAsStored_32 hl (k := 0) rfl (nI_add _ _) (by decide) rfl (fun ls hl => ?_)
  refine lv_goto (tgt := 2) hx hb d_T_areWordsAsStored_35 (by decide) ?_
  refine lv_iload_n hx hb d_T_areWordsAsStored_2 rfl (lv_at hl 0 rfl) ?_
  refine lv_iconst (v := 4) hx hb d_T_areWordsAsStored_3 (by decide) ?_
  refine lv_icmp_ge (tgt := 38) hx hb d_T_areWordsAsStored_4 (by decide) (fun c9 => absurd c9 (by decide)) (fun _ => ?_)
  refine lv_aload_n hx hb d_T_areWordsAsStored_7 rfl (lv_at hl 1 rfl) ?_
  refine xt_g2 hx hb hts hown hK hP d_T_areWordsAsStored_8 ?_
  refine lv_iload_n hx hb d_T_areWordsAsStored_11 rfl (lv_at hl 3 rfl) ?_
  refine lv_iconst (v := 4) hx hb d_T_areWordsAsStored_12 (by decide) ?_
  refine xa_imul hx hb q 4 rfl rfl d_T_areWordsAsStored_13 ?_
  refine lv_iload_n hx hb d_T_areWordsAsStored_14 rfl (lv_at hl 0 rfl) ?_
  refine xa_iadd hx hb (q * 4) (((0 + 1) + 1) + 1) rfl rfl d_T_areWordsAsStored_15 ?_
  refine xt_l2 hx hb hK hP ((q * 4) + (((0 + 1) + 1) + 1)) rfl (by omega) d_T_areWordsAsStored_16 ?_
  refine lv_aload_n hx hb d_T_areWordsAsStored_17 rfl (lv_at hl 1 rfl) ?_
  refine xt_g0 hx hb hts hown hK hP d_T_areWordsAsStored_18 ?_
  refine lv_iload_n hx hb d_T_areWordsAsStored_21 rfl (lv_at hl 2 rfl) ?_
  refine lv_iconst (v := 4) hx hb d_T_areWordsAsStored_22 (by decide) ?_
  refine xa_imul hx hb n 4 rfl rfl d_T_areWordsAsStored_23 ?_
  refine lv_iload_n hx hb d_T_areWordsAsStored_24 rfl (lv_at hl 0 rfl) ?_
  refine xa_iadd hx hb (n * 4) (((0 + 1) + 1) + 1) rfl rfl d_T_areWordsAsStored_25 ?_
  refine xt_l0 hx hb hK hP ((n * 4) + (((0 + 1) + 1) + 1)) rfl (by omega) d_T_areWordsAsStored_26 ?_
  refine lv_icmp_eq (tgt := 32) hx hb d_T_areWordsAsStored_27 (by decide) (fun _ => ?_) (fun c9 => absurd (hw _ (by omega)) c9)
  refine lv_iinc (v := nI ((((0 + 1) + 1) + 1) + 1)) (lv' := [(3, .int (nI ((((0 + 1) + 1) + 1) + 1))), (0, .ref _), (1, .int (nI n)), (2, .int (nI q))]) hx hb d_T_areWordsAsStored_32 hl (k := 0) rfl (nI_add _ _) (by decide) rfl (fun ls hl => ?_)
  refine lv_goto (tgt := 2) hx hb d_T_areWordsAsStored_35 (by decide) ?_
  refine lv_iload_n hx hb d_T_areWordsAsStored_2 rfl (lv_at hl 0 rfl) ?_
  refine lv_iconst (v := 4) hx hb d_T_areWordsAsStored_3 (by decide) ?_
  refine lv_icmp_ge (tgt := 38) hx hb d_T_areWordsAsStored_4 (by decide) (fun _ => ?_) (fun c9 => absurd (by decide) c9)
  refine lv_iconst (v := 1) hx hb d_T_areWordsAsStored_38 (by decide) ?_
  exact xc_zret hx hb hr hlocks (Or.inr rfl) hP hK hD hS ⟨rfl, rfl⟩ d_T_areWordsAsStored_39
set_option maxHeartbeats 4000000 in
set_option maxRecDepth 100000 in
theorem c_T_isLineWrong (l : Launch) (D : va_G) (G : Nat → Nat) (kc : Nat → ClassId) (sz : Nat) (u : TC) (n q : Nat) (hn : n < 512) (hq : q < 16) (hnq : n % 16 = q) (hn1 : tLa u q = nI n) (hc : tLc u q = 0 → (∀ w, w < 4 → tLw u (q * 4 + w) = tSt u (n * 4 + w)) ∧ tLt u q = ftol n (fPeek u (n / 16))) : XMi l y_T_isLineWrong k_T_isLineWrong { frames := 3, cells := 0, slots := 0, locals := 64 } D vwCl (wT G kc) (tyTs kc) u sz [.ref (G 0), .int (nI q)] (fun r u1 => r = 0 ∧ u1 = u) := by
  refine xb_ofi (cc := b_T_isLineWrong) (maxL := 3) (ret := some .boolean) (by decide) rfl (Nat.le_of_ble_eq_true rfl) ?_
  intro p e s m below meth c A ls hsz hx hb hml hr hlocks hts hown hP hK hD hA hl
  have hl : lv_has ls 3 [(0, .ref (G 0)), (1, .int (nI q))] := hl
  have hS : va_S A s.heap s.heap [] := va_S.rf
  by_cases h1 : tLc u q = 0
  · obtain ⟨hw, ht⟩ := hc h1
    refine lv_aload_n hx hb d_T_isLineWrong_0 rfl (lv_at hl 0 rfl) ?_
    refine xt_g1 hx hb hts hown hK hP d_T_isLineWrong_1 ?_
    refine lv_iload_n hx hb d_T_isLineWrong_4 rfl (lv_at hl 1 rfl) ?_
    refine xt_l1 hx hb hK hP q rfl (by omega) d_T_isLineWrong_5 ?_
    refine xa_top (nI n) hn1 ?_
    refine lv_istore_n (lv' := [(2, .int (nI n)), (0, .ref _), (1, .int (nI q))]) hx hb d_T_isLineWrong_6 rfl hl (by decide) rfl (fun ls hl => ?_)
    refine lv_iload_n hx hb d_T_isLineWrong_7 rfl (lv_at hl 0 rfl) ?_
    refine xc_calls (n := 1) (C := "TagMemory") hx hb hml hown hts (c_T_placeOfLine l n (by omega)) (tb_S wm_97 wm_98 wm_1 wm_99) rfl rfl rfl (by decide +kernel) ⟨Nat.le_of_ble_eq_true rfl, Nat.le_of_ble_eq_true rfl⟩ rfl hl.1 rfl (Nat.le_of_ble_eq_true rfl) d_T_isLineWrong_8 ⟨Nat.zero_le _, Nat.zero_le _⟩ (fun r hw => ?_)
    subst hw
    refine lv_iload_n hx hb d_T_isLineWrong_11 rfl (lv_at hl 2 rfl) ?_
    refine lv_icmp_eq (tgt := 17) hx hb d_T_isLineWrong_12 (by decide) (fun _ => ?_) (fun c9 => absurd (by rw [hnq]) c9)
    refine lv_aload_n hx hb d_T_isLineWrong_17 rfl (lv_at hl 1 rfl) ?_
    refine xt_g4 hx hb hts hown hK hP d_T_isLineWrong_18 ?_
    refine lv_iload_n hx hb d_T_isLineWrong_21 rfl (lv_at hl 2 rfl) ?_
    refine xt_l4 hx hb hK hP q rfl (by omega) d_T_isLineWrong_22 ?_
    refine lv_if_ne (tgt := 53) hx hb d_T_isLineWrong_23 (by decide) (fun c9 => absurd h1 c9) (fun _ => ?_)
    refine lv_aload_n hx hb d_T_isLineWrong_26 rfl (lv_at hl 1 rfl) ?_
    refine lv_iload_n hx hb d_T_isLineWrong_27 rfl (lv_at hl 0 rfl) ?_
    refine lv_iload_n hx hb d_T_isLineWrong_28 rfl (lv_at hl 2 rfl) ?_
    refine xc_calli (n := 2) (C := "TagMemory") hx hb hml hown hts (c_T_areWordsAsStored l D G kc _ _ n q (by omega) (by omega) hw) (tb_V wm_100 wm_102 ws_5 wm_1 wm_103) rfl rfl rfl (by decide +kernel) ⟨Nat.le_of_ble_eq_true rfl, Nat.le_of_ble_eq_true rfl⟩ hK hP hD hS hA rfl rfl rfl rfl hl.1 rfl (Nat.le_of_ble_eq_true rfl) d_T_isLineWrong_29 ⟨Nat.zero_le _, Nat.zero_le _⟩ (fun r u1 H locs hw hP hD hS => ?_)
    obtain ⟨e1, e2⟩ := hw
    subst e1
    rw [e2] at hP hD; clear e2 u1
    refine lv_if_eq (tgt := 49) hx hb d_T_isLineWrong_32 (by decide) (fun c9 => absurd c9 (by decide)) (fun _ => ?_)
    refine lv_aload_n hx hb d_T_isLineWrong_35 rfl (lv_at hl 1 rfl) ?_
    refine xt_g3 hx hb hts hown hK hP d_T_isLineWrong_36 ?_
    refine lv_iload_n hx hb d_T_isLineWrong_39 rfl (lv_at hl 2 rfl) ?_
    refine xt_l3 hx hb hK hP q rfl (by omega) d_T_isLineWrong_40 ?_
    refine lv_aload_n hx hb d_T_isLineWrong_41 rfl (lv_at hl 1 rfl) ?_
    refine lv_iload_n hx hb d_T_isLineWrong_42 rfl (lv_at hl 0 rfl) ?_
    refine xc_calli (n := 1) (C := "TagMemory") hx hb hml hown hts (c_T_tagsBehindLine l D G kc _ _ n (by omega)) (tb_V wm_104 wm_106 ws_6 wm_1 wm_107) rfl rfl rfl (by decide +kernel) ⟨Nat.le_of_ble_eq_true rfl, Nat.le_of_ble_eq_true rfl⟩ hK hP hD hS hA rfl rfl rfl rfl hl.1 rfl (Nat.le_of_ble_eq_true rfl) d_T_isLineWrong_43 ⟨Nat.zero_le _, Nat.zero_le _⟩ (fun r u1 H locs hw hP hD hS => ?_)
    obtain ⟨e1, e2⟩ := hw
    subst e1
    rw [e2] at hP hD; clear e2 u1
    refine lv_icmp_eq (tgt := 53) hx hb d_T_isLineWrong_46 (by decide) (fun _ => ?_) (fun c9 => absurd ht c9)
    refine lv_iconst (v := 0) hx hb d_T_isLineWrong_53 (by decide) ?_
    exact xc_zret hx hb hr hlocks (Or.inl rfl) hP hK hD hS ⟨rfl, rfl⟩ d_T_isLineWrong_54
  · skip
    refine lv_aload_n hx hb d_T_isLineWrong_0 rfl (lv_at hl 0 rfl) ?_
    refine xt_g1 hx hb hts hown hK hP d_T_isLineWrong_1 ?_
    refine lv_iload_n hx hb d_T_isLineWrong_4 rfl (lv_at hl 1 rfl) ?_
    refine xt_l1 hx hb hK hP q rfl (by omega) d_T_isLineWrong_5 ?_
    refine xa_top (nI n) hn1 ?_
    refine lv_istore_n (lv' := [(2, .int (nI n)), (0, .ref _), (1, .int (nI q))]) hx hb d_T_isLineWrong_6 rfl hl (by decide) rfl (fun ls hl => ?_)
    refine lv_iload_n hx hb d_T_isLineWrong_7 rfl (lv_at hl 0 rfl) ?_
    refine xc_calls (n := 1) (C := "TagMemory") hx hb hml hown hts (c_T_placeOfLine l n (by omega)) (tb_S wm_97 wm_98 wm_1 wm_99) rfl rfl rfl (by decide +kernel) ⟨Nat.le_of_ble_eq_true rfl, Nat.le_of_ble_eq_true rfl⟩ rfl hl.1 rfl (Nat.le_of_ble_eq_true rfl) d_T_isLineWrong_8 ⟨Nat.zero_le _, Nat.zero_le _⟩ (fun r hw => ?_)
    subst hw
    refine lv_iload_n hx hb d_T_isLineWrong_11 rfl (lv_at hl 2 rfl) ?_
    refine lv_icmp_eq (tgt := 17) hx hb d_T_isLineWrong_12 (by decide) (fun _ => ?_) (fun c9 => absurd (by rw [hnq]) c9)
    refine lv_aload_n hx hb d_T_isLineWrong_17 rfl (lv_at hl 1 rfl) ?_
    refine xt_g4 hx hb hts hown hK hP d_T_isLineWrong_18 ?_
    refine lv_iload_n hx hb d_T_isLineWrong_21 rfl (lv_at hl 2 rfl) ?_
    refine xt_l4 hx hb hK hP q rfl (by omega) d_T_isLineWrong_22 ?_
    refine lv_if_ne (tgt := 53) hx hb d_T_isLineWrong_23 (by decide) (fun _ => ?_) (fun c9 => absurd c9 h1)
    refine lv_iconst (v := 0) hx hb d_T_isLineWrong_53 (by decide) ?_
    exact xc_zret hx hb hr hlocks (Or.inl rfl) hP hK hD hS ⟨rfl, rfl⟩ d_T_isLineWrong_54
set_option maxHeartbeats 4000000 in
set_option maxRecDepth 100000 in
theorem c_T_isRowWrong (l : Launch) (D : va_G) (G : Nat → Nat) (kc : Nat → ClassId) (sz : Nat) (u : TC) (k q : Nat) (hk : k < 32) (hq : q < 4) (hkq : k % 4 = q) (hk1 : tRa u q = nI k) (hc : tRc u q = 0 → tRt u q = tSt u (2048 + k)) : XMi l y_T_isRowWrong k_T_isRowWrong { frames := 1, cells := 0, slots := 0, locals := 20 } D vwCl (wT G kc) (tyTs kc) u sz [.ref (G 0), .int (nI q)] (fun r u1 => r = 0 ∧ u1 = u) := by
  refine xb_ofi (cc := b_T_isRowWrong) (maxL := 3) (ret := some .boolean) (by decide) rfl (Nat.le_of_ble_eq_true rfl) ?_
  intro p e s m below meth c A ls hsz hx hb hml hr hlocks hts hown hP hK hD hA hl
  have hl : lv_has ls 3 [(0, .ref (G 0)), (1, .int (nI q))] := hl
  have hS : va_S A s.heap s.heap [] := va_S.rf
  by_cases h1 : tRc u q = 0
  · have ht := hc h1
    refine lv_aload_n hx hb d_T_isRowWrong_0 rfl (lv_at hl 0 rfl) ?_
    refine xt_g5 hx hb hts hown hK hP d_T_isRowWrong_1 ?_
    refine lv_iload_n hx hb d_T_isRowWrong_4 rfl (lv_at hl 1 rfl) ?_
    refine xt_l5 hx hb hK hP q rfl (by omega) d_T_isRowWrong_5 ?_
    refine xa_top (nI k) hk1 ?_
    refine lv_istore_n (lv' := [(2, .int (nI k)), (0, .ref _), (1, .int (nI q))]) hx hb d_T_isRowWrong_6 rfl hl (by decide) rfl (fun ls hl => ?_)
    refine lv_iload_n hx hb d_T_isRowWrong_7 rfl (lv_at hl 0 rfl) ?_
    refine xc_calls (n := 1) (C := "TagMemory") hx hb hml hown hts (c_T_placeOfRow l k (by omega)) (tb_S wm_79 wm_80 wm_1 wm_81) rfl rfl rfl (by decide +kernel) ⟨Nat.le_of_ble_eq_true rfl, Nat.le_of_ble_eq_true rfl⟩ rfl hl.1 rfl (Nat.le_of_ble_eq_true rfl) d_T_isRowWrong_8 ⟨Nat.zero_le _, Nat.zero_le _⟩ (fun r hw => ?_)
    subst hw
    refine lv_iload_n hx hb d_T_isRowWrong_11 rfl (lv_at hl 2 rfl) ?_
    refine lv_icmp_eq (tgt := 17) hx hb d_T_isRowWrong_12 (by decide) (fun _ => ?_) (fun c9 => absurd (by rw [hkq]) c9)
    refine lv_aload_n hx hb d_T_isRowWrong_17 rfl (lv_at hl 1 rfl) ?_
    refine xt_g7 hx hb hts hown hK hP d_T_isRowWrong_18 ?_
    refine lv_iload_n hx hb d_T_isRowWrong_21 rfl (lv_at hl 2 rfl) ?_
    refine xt_l7 hx hb hK hP q rfl (by omega) d_T_isRowWrong_22 ?_
    refine lv_if_ne (tgt := 49) hx hb d_T_isRowWrong_23 (by decide) (fun c9 => absurd h1 c9) (fun _ => ?_)
    refine lv_aload_n hx hb d_T_isRowWrong_26 rfl (lv_at hl 1 rfl) ?_
    refine xt_g6 hx hb hts hown hK hP d_T_isRowWrong_27 ?_
    refine lv_iload_n hx hb d_T_isRowWrong_30 rfl (lv_at hl 2 rfl) ?_
    refine xt_l6 hx hb hK hP q rfl (by omega) d_T_isRowWrong_31 ?_
    refine lv_aload_n hx hb d_T_isRowWrong_32 rfl (lv_at hl 1 rfl) ?_
    refine xt_g0 hx hb hts hown hK hP d_T_isRowWrong_33 ?_
    refine lv_sipush (v := 2048) hx hb d_T_isRowWrong_36 (by decide) ?_
    refine lv_iload_n hx hb d_T_isRowWrong_39 rfl (lv_at hl 0 rfl) ?_
    refine xa_iadd hx hb 2048 k rfl rfl d_T_isRowWrong_40 ?_
    refine xt_l0 hx hb hK hP (2048 + k) rfl (by omega) d_T_isRowWrong_41 ?_
    refine lv_icmp_eq (tgt := 49) hx hb d_T_isRowWrong_42 (by decide) (fun _ => ?_) (fun c9 => absurd ht c9)
    refine lv_iconst (v := 0) hx hb d_T_isRowWrong_49 (by decide) ?_
    exact xc_zret hx hb hr hlocks (Or.inl rfl) hP hK hD hS ⟨rfl, rfl⟩ d_T_isRowWrong_50
  · skip
    refine lv_aload_n hx hb d_T_isRowWrong_0 rfl (lv_at hl 0 rfl) ?_
    refine xt_g5 hx hb hts hown hK hP d_T_isRowWrong_1 ?_
    refine lv_iload_n hx hb d_T_isRowWrong_4 rfl (lv_at hl 1 rfl) ?_
    refine xt_l5 hx hb hK hP q rfl (by omega) d_T_isRowWrong_5 ?_
    refine xa_top (nI k) hk1 ?_
    refine lv_istore_n (lv' := [(2, .int (nI k)), (0, .ref _), (1, .int (nI q))]) hx hb d_T_isRowWrong_6 rfl hl (by decide) rfl (fun ls hl => ?_)
    refine lv_iload_n hx hb d_T_isRowWrong_7 rfl (lv_at hl 0 rfl) ?_
    refine xc_calls (n := 1) (C := "TagMemory") hx hb hml hown hts (c_T_placeOfRow l k (by omega)) (tb_S wm_79 wm_80 wm_1 wm_81) rfl rfl rfl (by decide +kernel) ⟨Nat.le_of_ble_eq_true rfl, Nat.le_of_ble_eq_true rfl⟩ rfl hl.1 rfl (Nat.le_of_ble_eq_true rfl) d_T_isRowWrong_8 ⟨Nat.zero_le _, Nat.zero_le _⟩ (fun r hw => ?_)
    subst hw
    refine lv_iload_n hx hb d_T_isRowWrong_11 rfl (lv_at hl 2 rfl) ?_
    refine lv_icmp_eq (tgt := 17) hx hb d_T_isRowWrong_12 (by decide) (fun _ => ?_) (fun c9 => absurd (by rw [hkq]) c9)
    refine lv_aload_n hx hb d_T_isRowWrong_17 rfl (lv_at hl 1 rfl) ?_
    refine xt_g7 hx hb hts hown hK hP d_T_isRowWrong_18 ?_
    refine lv_iload_n hx hb d_T_isRowWrong_21 rfl (lv_at hl 2 rfl) ?_
    refine xt_l7 hx hb hK hP q rfl (by omega) d_T_isRowWrong_22 ?_
    refine lv_if_ne (tgt := 49) hx hb d_T_isRowWrong_23 (by decide) (fun _ => ?_) (fun c9 => absurd c9 h1)
    refine lv_iconst (v := 0) hx hb d_T_isRowWrong_49 (by decide) ?_
    exact xc_zret hx hb hr hlocks (Or.inl rfl) hP hK hD hS ⟨rfl, rfl⟩ d_T_isRowWrong_50
end
section
/-! static methods that answer nothing; more rows -/
def XMz (l : Launch) (y : MethodName) (k : Cond) (rm : Room) (av : List Value) : Prop :=
  Met l y (k :: TB) rm (va_Pc av (fun _ => True)) (fun _ st o t => o = .returned none ∧ t.heap = st.heap) 0 0 (fun _ => False)
theorem xb_ofz {l : Launch} {y : MethodName} {k : Cond} {rm : Room} {av : List Value} {cc : ByteArray} {maxL : Nat} {ret : Option FieldType} (hy : plainName y.cls = true) (hk : k = Cond.code y cc maxL ret) (hlen : (lg_sl av).length ≤ maxL)
    (body : ∀ (p : Program) (e : Env) (s : State) (m : MethodId) (below : List Frame) (meth : Method) (c : Code) (ls : Array Slot), p.tables.exec = Jvm.exec → c.code = cc → c.maxLocals = maxL → meth.sig.returnType = ret → meth.locks = false → (∀ w ∈ k :: TB, w.before av.toArray s = true) → s.vm.findClass y.cls = some m.cls → lv_has ls maxL (lv_args 0 av) →
      W p l e rm s m av.toArray below meth c s.heap [] 0 0 (MQ below (fun _ st o t => o = .returned none ∧ t.heap = st.heap) av.toArray s 0 0 (fun _ => False)) (F0 m 0 ls [])) : XMz l y k rm av := by
  refine Met.ofW (cc := cc) (maxL := maxL) (ret := ret) hy (by rw [hk]) ?_
  intro p e s m args below meth c s₁ B hml hv
  obtain ⟨rfl, -⟩ := hv
  have hl := lv_entry av (n := maxL) hlen
  rw [lg_entry_eq]
  generalize (lg_sl av ++ List.replicate (maxL - (lg_sl av).length) Slot.unset).toArray = ls at hl ⊢
  exact body p e s m below meth c ls B.exec B.bytes hml B.returns B.notSynchronized (atoms_spec (ws := k :: TB) B.pre) (findClass_of_methodNamed B.named) hl
section XE
variable {p : Program} {l : Launch} {e : Env} {R : Room} {s : State} {m : MethodId} {args : Array Value} {below : List Frame} {meth : Method} {c : Code} {H : Heap} {locs : List Loc} {cells slots : Nat} {Q : State → Prop}
variable {cc : ByteArray} {pc : Nat} {ls : Array Slot} {rest : List Value} {y : MethodName} {k c1 : Cond} {rm : Room} {As : List Value} {b idx n maxL : Nat} {bytes : ByteArray} {ret : Option FieldType} {nL : Nat} {st0 : List Value}
theorem xc_zsret (hx : p.tables.exec = Jvm.exec) (hb : c.code = cc) (hr : meth.sig.returnType = none) (hlocks : meth.locks = false) (hdg : decode cc pc = .ok (.return_, 1)) :
    W p l e R s m args below meth c s.heap [] cells slots (MQ below (fun _ st o t => o = .returned none ∧ t.heap = st.heap) args s cells slots (fun _ => False)) (F0 m pc ls []) :=
  W.vret hx hb hr (fun t ht _ => ⟨rfl, ht⟩) (fun q h => by cases h) hdg hlocks
theorem xc_callz {C : String} (hx : p.tables.exec = Jvm.exec) (hb : c.code = cc) (hml : c.maxLocals = nL) (hown : s.vm.findClass C = some m.cls) (hts : ∀ w ∈ c1 :: TB, w.before args s = true)
    (hM : XMz l y k rm As) (hG : GoodIn (c1 :: TB) (wsS C idx y (k :: TB))) (hk : k = Cond.code y bytes maxL ret) (hrc : rm.cells = 0) (hrs : rm.slots = 0)
    (hd : y.cls = C ∧ y.cls ≠ "java/lang/invoke/MethodHandle" ∧ y.cls ≠ "java/lang/invoke/VarHandle" ∧ (parseMethodDescriptor y.desc).map (fun d => d.parameters.length) = some n) (hR : rm.frames + 1 ≤ R.frames ∧ 8 + (maxL + 11) + rm.locals ≤ R.locals)
    (hn : As.length = n) (hsize : ls.size = nL) (hst : st0 = As.reverse ++ rest) (hW : (rest.map fun v => v.category).sum ≤ 8) (hdg : decode cc pc = .ok (.invokestatic idx, 3)) (hf : cells ≤ R.cells ∧ slots ≤ R.slots)
    (kk : W p l e R s m args below meth c H locs cells slots Q (F0 m (pc + 3) ls rest)) : W p l e R s m args below meth c H locs cells slots Q (F0 m pc ls st0) := by
  have hr := W.runS (p := p) (e := e) (m := m) (below := below) (meth := meth) (H := H) (locs := locs) (cells := cells) (slots := slots) (g := F0 m pc ls st0) (As := As) (rest := rest) ⟨hx, hb, hml, hown, hts⟩ hM (cwS n hts hG (by rw [hk]) hrc hrs hd hR) ⟨fun a U g mk q => ⟨q.1, trivial⟩, fun U hU hW => ⟨rfl, trivial⟩⟩ rfl hn hsize hst (lv_room hW) hdg hf
  intro T hT X
  obtain ⟨v, st₀, t, T', L, h0, X', hL, e1, ⟨hv, hh⟩, st⟩ := hr T hT X
  cases hv
  obtain ⟨t2, a1, b1⟩ := kk T' (by rw [e1, hh, h0]) (Stand.forget X' (fun q h => (hL q h).elim))
  exact ⟨t2, st t2 a1, b1⟩
/-- a static method of another class of numbers (Integer.bitCount) -/
theorem xc_callJ {post : Int32 → Prop} {C : String} (hx : p.tables.exec = Jvm.exec) (hb : c.code = cc) (hml : c.maxLocals = nL) (hown : s.vm.findClass C = some m.cls) (hts : ∀ w ∈ c1 :: TB, w.before args s = true)
    (hM : XMs l y k rm As post) (hl : .methodLink C idx y ∈ TB) (hst2 : .static y ∈ TB) (hini : .initialized y.cls ∈ TB) (hc : k ∈ TB) (hk : k = Cond.code y bytes maxL ret) (hrc : rm.cells = 0) (hrs : rm.slots = 0)
    (hd : y.cls ≠ "java/lang/invoke/MethodHandle" ∧ y.cls ≠ "java/lang/invoke/VarHandle" ∧ (parseMethodDescriptor y.desc).map (fun d => d.parameters.length) = some n) (hR : rm.frames + 1 ≤ R.frames ∧ 8 + (maxL + 11) + rm.locals ≤ R.locals)
    (hn : As.length = n) (hsize : ls.size = nL) (hst : st0 = As.reverse ++ rest) (hW : (rest.map fun v => v.category).sum ≤ 8) (hdg : decode cc pc = .ok (.invokestatic idx, 3)) (hf : cells ≤ R.cells ∧ slots ≤ R.slots)
    (kk : ∀ r : Int32, post r → W p l e R s m args below meth c H locs cells slots Q (F0 m (pc + 3) ls (.int r :: rest))) : W p l e R s m args below meth c H locs cells slots Q (F0 m pc ls st0) := by
  have hh : ∀ w ∈ TB, w.before args s = true := fun w h => hts w (List.mem_cons_of_mem _ h)
  exact vp_callSi (W.runS (As := As) (rest := rest) ⟨hx, hb, hml, hown, hts⟩ hM ⟨callB_of n hts (tb_Good hc) (by rw [hk]) hrc hrs (hh _ hini) (hh _ hl) hd hR, hh _ hst2⟩ ⟨fun a U g mk q => ⟨q.1, trivial⟩, fun U hU hW => ⟨rfl, trivial⟩⟩ rfl hn hsize hst (lv_room hW) hdg hf) kk
end XE
def fMask (n : Nat) : Int32 := if n = 1 then 255 else 65535
def fPart (x : Int32) (i n : Nat) (v : Int32) : Int32 := (x &&& ((fMask n <<< (nI (8 * i) &&& 31)) ^^^ (-1))) ||| ((v &&& fMask n) <<< (nI (8 * i) &&& 31))
def fCopy2 (u : TC) (g f : Nat) : TC := fChGran (fWant u (g / 2)) g (tLw u (2 * f % 64)) (tLw u ((2 * f + 1) % 64)) (rTag u f)
theorem tI_chTag {u : TC} {g : Nat} {t : Int32} (h : tI u) : tI (fChTag u g t) := h
theorem tI_chWord {u : TC} {i : Nat} {w : Int32} (h : tI u) : tI (fChWord u i w) := h
theorem tI_chGran {u : TC} {g : Nat} {lo hi t : Int32} (h : tI u) : tI (fChGran u g lo hi t) := h
theorem rTag_01 (u : TC) (g : Nat) : rTag u g = 0 ∨ rTag u g = 1 := by
  unfold rTag
  by_cases h : tLt u (g / 2 % 16) &&& ftb g = 0
  · rw [if_pos h]; exact Or.inl rfl
  · rw [if_neg h]; exact Or.inr rfl
theorem rLineGo_01 (u : TC) (p : Nat) : rLineGo u p = 0 ∨ rLineGo u p = 1 := by
  unfold rLineGo
  by_cases h : tLa u p = -1 ∨ tLc u p = 0
  · rw [if_pos h]; exact Or.inl rfl
  · rw [if_neg h]; exact Or.inr rfl
/-- flush's first loop: d PLACES from i on -/
def fFlL : Nat → Nat → TC → Int32 → TC × Int32
  | 0, _, u, a => (u, a)
  | d + 1, i, u, a => fFlL d (i + 1) (fLineGo u i) (a + rLineGo u i)
/-- .. and its second -/
def fFlR : Nat → Nat → TC → TC
  | 0, _, u => u
  | d + 1, i, u => fFlR d (i + 1) (fRowGo u i)
def fFlush (u : TC) : TC := fFlR 4 0 (fFlL 16 0 u 0).1
def rFlush (u : TC) : Int32 := (fFlL 16 0 u 0).2
theorem tI_flL : ∀ (d i : Nat) (u : TC) (a : Int32), i + d ≤ 16 → tI u → tI (fFlL d i u a).1
  | 0, _, _, _, _, h => h
  | d + 1, i, u, a, hi, h => tI_flL d (i + 1) (fLineGo u i) (a + rLineGo u i) (by omega) (tI_lineGo h (by omega))
theorem tI_flR : ∀ (d i : Nat) (u : TC), tI u → tI (fFlR d i u)
  | 0, _, _, h => h
  | d + 1, i, u, h => tI_flR d (i + 1) (fRowGo u i) (tI_rowGo h)
/-- how many of the first d places from i on hold another number than x -/
def fCntNe (x : Int32) (f : Nat → Int32) : Nat → Nat → Int32 → Int32
  | 0, _, a => a
  | d + 1, i, a => fCntNe x f d (i + 1) (if f i = x then a else a + 1)
end
section
set_option maxHeartbeats 4000000 in
set_option maxRecDepth 100000 in
theorem c_T_refuseNoWord (l : Launch) (i : Nat) (hi : i < 2048) : XMz l y_T_refuseNoWord k_T_refuseNoWord { frames := 0, cells := 0, slots := 0, locals := 0 } [.int (nI i)] := by
  refine xb_ofz (cc := b_T_refuseNoWord) (maxL := 1) (ret := none) (by decide) rfl (Nat.le_of_ble_eq_true rfl) ?_
  intro p e s m below meth c ls hx hb hml hr hlocks hts hown hl
  have hl : lv_has ls 1 [(0, .int (nI i))] := hl
  refine lv_iload_n hx hb d_T_refuseNoWord_0 rfl (lv_at hl 0 rfl) ?_
  refine lv_if_lt (tgt := 11) hx hb d_T_refuseNoWord_1 (by decide) (fun c9 => absurd c9 (nI_pos (by omega))) (fun _ => ?_)
  refine lv_iload_n hx hb d_T_refuseNoWord_4 rfl (lv_at hl 0 rfl) ?_
  refine lv_sipush (v := 2048) hx hb d_T_refuseNoWord_5 (by decide) ?_
  refine lv_icmp_lt (tgt := 21) hx hb d_T_refuseNoWord_8 (by decide) (fun _ => ?_) (fun c9 => absurd (nI_lt (a := i) (b := 2048) (by omega) (by decide)) c9)
  exact xc_zsret hx hb hr hlocks d_T_refuseNoWord_21
set_option maxHeartbeats 4000000 in
set_option maxRecDepth 100000 in
theorem c_T_refuseNoGranule (l : Launch) (i : Nat) (hi : i < 1024) : XMz l y_T_refuseNoGranule k_T_refuseNoGranule { frames := 0, cells := 0, slots := 0, locals := 0 } [.int (nI i)] := by
  refine xb_ofz (cc := b_T_refuseNoGranule) (maxL := 1) (ret := none) (by decide) rfl (Nat.le_of_ble_eq_true rfl) ?_
  intro p e s m below meth c ls hx hb hml hr hlocks hts hown hl
  have hl : lv_has ls 1 [(0, .int (nI i))] := hl
  refine lv_iload_n hx hb d_T_refuseNoGranule_0 rfl (lv_at hl 0 rfl) ?_
  refine lv_if_lt (tgt := 11) hx hb d_T_refuseNoGranule_1 (by decide) (fun c9 => absurd c9 (nI_pos (by omega))) (fun _ => ?_)
  refine lv_iload_n hx hb d_T_refuseNoGranule_4 rfl (lv_at hl 0 rfl) ?_
  refine lv_sipush (v := 1024) hx hb d_T_refuseNoGranule_5 (by decide) ?_
  refine lv_icmp_lt (tgt := 21) hx hb d_T_refuseNoGranule_8 (by decide) (fun _ => ?_) (fun c9 => absurd (nI_lt (a := i) (b := 1024) (by omega) (by decide)) c9)
  exact xc_zsret hx hb hr hlocks d_T_refuseNoGranule_21
set_option maxHeartbeats 4000000 in
set_option maxRecDepth 100000 in
theorem c_T_refuseNoPart (l : Launch) (i n : Nat) (hi : i < 4) (hn : n = 1 ∨ n = 2) (hd : i % n = 0) : XMz l y_T_refuseNoPart k_T_refuseNoPart { frames := 0, cells := 0, slots := 0, locals := 0 } [.int (nI i), .int (nI n)] := by
  rcases hn with rfl | rfl
  · skip
    refine xb_ofz (cc := b_T_refuseNoPart) (maxL := 2) (ret := none) (by decide) rfl (Nat.le_of_ble_eq_true rfl) ?_
    intro p e s m below meth c ls hx hb hml hr hlocks hts hown hl
    have hl : lv_has ls 2 [(0, .int (nI i)), (1, .int (nI 1))] := hl
    refine lv_iload_n hx hb d_T_refuseNoPart_0 rfl (lv_at hl 1 rfl) ?_
    refine lv_iconst (v := 1) hx hb d_T_refuseNoPart_1 (by decide) ?_
    refine lv_icmp_eq (tgt := 20) hx hb d_T_refuseNoPart_2 (by decide) (fun _ => ?_) (fun c9 => absurd rfl c9)
    refine lv_iload_n hx hb d_T_refuseNoPart_20 rfl (lv_at hl 0 rfl) ?_
    refine lv_if_lt (tgt := 35) hx hb d_T_refuseNoPart_21 (by decide) (fun c9 => absurd c9 (nI_pos (by omega))) (fun _ => ?_)
    refine lv_iload_n hx hb d_T_refuseNoPart_24 rfl (lv_at hl 0 rfl) ?_
    refine lv_iconst (v := 3) hx hb d_T_refuseNoPart_25 (by decide) ?_
    refine lv_icmp_gt (tgt := 35) hx hb d_T_refuseNoPart_26 (by decide) (fun c9 => absurd c9 (nI_nlt (a := 3) (b := i) (by omega) (by decide))) (fun _ => ?_)
    refine lv_iload_n hx hb d_T_refuseNoPart_29 rfl (lv_at hl 0 rfl) ?_
    refine lv_iload_n hx hb d_T_refuseNoPart_30 rfl (lv_at hl 1 rfl) ?_
    refine xa_irem hx hb i 1 rfl rfl (by omega) (by decide) (by decide) d_T_refuseNoPart_31 ?_
    refine lv_if_eq (tgt := 45) hx hb d_T_refuseNoPart_32 (by decide) (fun _ => ?_) (fun c9 => absurd (by rw [hd]; rfl) c9)
    exact xc_zsret hx hb hr hlocks d_T_refuseNoPart_45
  · skip
    refine xb_ofz (cc := b_T_refuseNoPart) (maxL := 2) (ret := none) (by decide) rfl (Nat.le_of_ble_eq_true rfl) ?_
    intro p e s m below meth c ls hx hb hml hr hlocks hts hown hl
    have hl : lv_has ls 2 [(0, .int (nI i)), (1, .int (nI 2))] := hl
    refine lv_iload_n hx hb d_T_refuseNoPart_0 rfl (lv_at hl 1 rfl) ?_
    refine lv_iconst (v := 1) hx hb d_T_refuseNoPart_1 (by decide) ?_
    refine lv_icmp_eq (tgt := 20) hx hb d_T_refuseNoPart_2 (by decide) (fun c9 => absurd c9 (by decide)) (fun _ => ?_)
    refine lv_iload_n hx hb d_T_refuseNoPart_5 rfl (lv_at hl 1 rfl) ?_
    refine lv_iconst (v := 2) hx hb d_T_refuseNoPart_6 (by decide) ?_
    refine lv_icmp_eq (tgt := 20) hx hb d_T_refuseNoPart_7 (by decide) (fun _ => ?_) (fun c9 => absurd rfl c9)
    refine lv_iload_n hx hb d_T_refuseNoPart_20 rfl (lv_at hl 0 rfl) ?_
    refine lv_if_lt (tgt := 35) hx hb d_T_refuseNoPart_21 (by decide) (fun c9 => absurd c9 (nI_pos (by omega))) (fun _ => ?_)
    refine lv_iload_n hx hb d_T_refuseNoPart_24 rfl (lv_at hl 0 rfl) ?_
    refine lv_iconst (v := 3) hx hb d_T_refuseNoPart_25 (by decide) ?_
    refine lv_icmp_gt (tgt := 35) hx hb d_T_refuseNoPart_26 (by decide) (fun c9 => absurd c9 (nI_nlt (a := 3) (b := i) (by omega) (by decide))) (fun _ => ?_)
    refine lv_iload_n hx hb d_T_refuseNoPart_29 rfl (lv_at hl 0 rfl) ?_
    refine lv_iload_n hx hb d_T_refuseNoPart_30 rfl (lv_at hl 1 rfl) ?_
    refine xa_irem hx hb i 2 rfl rfl (by omega) (by decide) (by decide) d_T_refuseNoPart_31 ?_
    refine lv_if_eq (tgt := 45) hx hb d_T_refuseNoPart_32 (by decide) (fun _ => ?_) (fun c9 => absurd (by rw [hd]; rfl) c9)
    exact xc_zsret hx hb hr hlocks d_T_refuseNoPart_45
set_option maxHeartbeats 4000000 in
set_option maxRecDepth 100000 in
theorem c_T_read (l : Launch) (D : va_G) (G : Nat → Nat) (kc : Nat → ClassId) (sz : Nat) (u : TC) (i : Nat) (hi : i < 2048) (hI : tI u) : XMi l y_T_read k_T_read { frames := 5, cells := 0, slots := 0, locals := 111 } D vwCl (wT G kc) (tyTs kc) u sz [.ref (G 0), .int (nI i)] (fun r u1 => r = tLw (fWant u (i / 4)) (i % 64) ∧ u1 = fWant u (i / 4)) := by
  refine xb_ofi (cc := b_T_read) (maxL := 2) (ret := some .int) (by decide) rfl (Nat.le_of_ble_eq_true rfl) ?_
  intro p e s m below meth c A ls hsz hx hb hml hr hlocks hts hown hP hK hD hA hl
  have hl : lv_has ls 2 [(0, .ref (G 0)), (1, .int (nI i))] := hl
  have hS : va_S A s.heap s.heap [] := va_S.rf
  refine lv_iload_n hx hb d_T_read_0 rfl (lv_at hl 1 rfl) ?_
  refine xc_callz (n := 1) (C := "TagMemory") hx hb hml hown hts (c_T_refuseNoWord l i (by omega)) (tb_S wm_127 wm_128 wm_1 wm_129) rfl rfl rfl (by decide +kernel) ⟨Nat.le_of_ble_eq_true rfl, Nat.le_of_ble_eq_true rfl⟩ rfl hl.1 rfl (Nat.le_of_ble_eq_true rfl) d_T_read_1 ⟨Nat.zero_le _, Nat.zero_le _⟩ ?_
  refine lv_aload_n hx hb d_T_read_4 rfl (lv_at hl 0 rfl) ?_
  refine lv_iload_n hx hb d_T_read_5 rfl (lv_at hl 1 rfl) ?_
  refine xc_calls (n := 1) (C := "TagMemory") hx hb hml hown hts (c_T_lineOfWord l i (by omega)) (tb_S wm_197 wm_198 wm_1 wm_199) rfl rfl rfl (by decide +kernel) ⟨Nat.le_of_ble_eq_true rfl, Nat.le_of_ble_eq_true rfl⟩ rfl hl.1 rfl (Nat.le_of_ble_eq_true rfl) d_T_read_6 ⟨Nat.zero_le _, Nat.zero_le _⟩ (fun r hw => ?_)
  subst hw
  refine xc_callv (n := 1) (C := "TagMemory") hx hb hml hown hts (c_T_wantLine l D G kc _ _ (i / 4) (by omega) (by exact hI)) (tb_V wm_200 wm_202 ws_10 wm_1 wm_203) rfl rfl rfl (by decide +kernel) ⟨Nat.le_of_ble_eq_true rfl, Nat.le_of_ble_eq_true rfl⟩ hK hP hD hS hA rfl rfl rfl rfl hl.1 rfl (Nat.le_of_ble_eq_true rfl) d_T_read_9 ⟨Nat.zero_le _, Nat.zero_le _⟩ (fun u1 H locs hw hP hD hS => ?_)
  rw [hw] at hP hD; clear hw u1
  refine lv_aload_n hx hb d_T_read_12 rfl (lv_at hl 0 rfl) ?_
  refine xt_g2 hx hb hts hown hK hP d_T_read_13 ?_
  refine lv_iload_n hx hb d_T_read_16 rfl (lv_at hl 1 rfl) ?_
  refine xc_calls (n := 1) (C := "TagMemory") hx hb hml hown hts (c_T_slotOfWord l i (by omega)) (tb_S wm_208 wm_209 wm_1 wm_210) rfl rfl rfl (by decide +kernel) ⟨Nat.le_of_ble_eq_true rfl, Nat.le_of_ble_eq_true rfl⟩ rfl hl.1 rfl (Nat.le_of_ble_eq_true rfl) d_T_read_17 ⟨Nat.zero_le _, Nat.zero_le _⟩ (fun r hw => ?_)
  subst hw
  refine xt_l2 hx hb hK hP (i % 64) rfl (by omega) d_T_read_20 ?_
  exact xc_iret hx hb hr hlocks hP hK hD hS ⟨rfl, rfl⟩ d_T_read_21
set_option maxHeartbeats 4000000 in
set_option maxRecDepth 100000 in
theorem c_T_tag (l : Launch) (D : va_G) (G : Nat → Nat) (kc : Nat → ClassId) (sz : Nat) (u : TC) (i : Nat) (hi : i < 2048) (hI : tI u) : XMi l y_T_tag k_T_tag { frames := 5, cells := 0, slots := 0, locals := 111 } D vwCl (wT G kc) (tyTs kc) u sz [.ref (G 0), .int (nI i)] (fun r u1 => r = rTag (fWant u (i / 2 / 2)) (i / 2) ∧ u1 = fWant u (i / 2 / 2)) := by
  refine xb_ofi (cc := b_T_tag) (maxL := 3) (ret := some .boolean) (by decide) rfl (Nat.le_of_ble_eq_true rfl) ?_
  intro p e s m below meth c A ls hsz hx hb hml hr hlocks hts hown hP hK hD hA hl
  have hl : lv_has ls 3 [(0, .ref (G 0)), (1, .int (nI i))] := hl
  have hS : va_S A s.heap s.heap [] := va_S.rf
  refine lv_iload_n hx hb d_T_tag_0 rfl (lv_at hl 1 rfl) ?_
  refine xc_callz (n := 1) (C := "TagMemory") hx hb hml hown hts (c_T_refuseNoWord l i (by omega)) (tb_S wm_127 wm_128 wm_1 wm_129) rfl rfl rfl (by decide +kernel) ⟨Nat.le_of_ble_eq_true rfl, Nat.le_of_ble_eq_true rfl⟩ rfl hl.1 rfl (Nat.le_of_ble_eq_true rfl) d_T_tag_1 ⟨Nat.zero_le _, Nat.zero_le _⟩ ?_
  refine lv_iload_n hx hb d_T_tag_4 rfl (lv_at hl 1 rfl) ?_
  refine xc_calls (n := 1) (C := "TagMemory") hx hb hml hown hts (c_T_granuleOfWord l i (by omega)) (tb_S wm_218 wm_219 wm_1 wm_220) rfl rfl rfl (by decide +kernel) ⟨Nat.le_of_ble_eq_true rfl, Nat.le_of_ble_eq_true rfl⟩ rfl hl.1 rfl (Nat.le_of_ble_eq_true rfl) d_T_tag_5 ⟨Nat.zero_le _, Nat.zero_le _⟩ (fun r hw => ?_)
  subst hw
  refine lv_istore_n (lv' := [(2, .int (nI (i / 2))), (0, .ref _), (1, .int (nI i))]) hx hb d_T_tag_8 rfl hl (by decide) rfl (fun ls hl => ?_)
  refine lv_aload_n hx hb d_T_tag_9 rfl (lv_at hl 1 rfl) ?_
  refine lv_iload_n hx hb d_T_tag_10 rfl (lv_at hl 0 rfl) ?_
  refine xc_calls (n := 1) (C := "TagMemory") hx hb hml hown hts (c_T_lineOfGranule l (i / 2) (by omega)) (tb_S wm_221 wm_222 wm_1 wm_223) rfl rfl rfl (by decide +kernel) ⟨Nat.le_of_ble_eq_true rfl, Nat.le_of_ble_eq_true rfl⟩ rfl hl.1 rfl (Nat.le_of_ble_eq_true rfl) d_T_tag_11 ⟨Nat.zero_le _, Nat.zero_le _⟩ (fun r hw => ?_)
  subst hw
  refine xc_callv (n := 1) (C := "TagMemory") hx hb hml hown hts (c_T_wantLine l D G kc _ _ ((i / 2) / 2) (by omega) (by exact hI)) (tb_V wm_200 wm_202 ws_10 wm_1 wm_203) rfl rfl rfl (by decide +kernel) ⟨Nat.le_of_ble_eq_true rfl, Nat.le_of_ble_eq_true rfl⟩ hK hP hD hS hA rfl rfl rfl rfl hl.1 rfl (Nat.le_of_ble_eq_true rfl) d_T_tag_14 ⟨Nat.zero_le _, Nat.zero_le _⟩ (fun u1 H locs hw hP hD hS => ?_)
  rw [hw] at hP hD; clear hw u1
  refine lv_aload_n hx hb d_T_tag_17 rfl (lv_at hl 1 rfl) ?_
  refine lv_iload_n hx hb d_T_tag_18 rfl (lv_at hl 0 rfl) ?_
  refine xc_calli (n := 1) (C := "TagMemory") hx hb hml hown hts (c_T_keptTag l D G kc _ _ (i / 2) (by omega)) (tb_V wm_224 wm_226 ws_12 wm_1 wm_227) rfl rfl rfl (by decide +kernel) ⟨Nat.le_of_ble_eq_true rfl, Nat.le_of_ble_eq_true rfl⟩ hK hP hD hS hA rfl rfl rfl rfl hl.1 rfl (Nat.le_of_ble_eq_true rfl) d_T_tag_19 ⟨Nat.zero_le _, Nat.zero_le _⟩ (fun r u1 H locs hw hP hD hS => ?_)
  obtain ⟨e1, e2⟩ := hw
  subst e1
  rw [e2] at hP hD; clear e2 u1
  exact xc_zret hx hb hr hlocks (rTag_01 _ _) hP hK hD hS ⟨rfl, rfl⟩ d_T_tag_22
set_option maxHeartbeats 4000000 in
set_option maxRecDepth 100000 in
theorem c_T_write (l : Launch) (D : va_G) (G : Nat → Nat) (kc : Nat → ClassId) (sz : Nat) (u : TC) (i : Nat) (hi : i < 2048) (w : Int32) (hI : tI u) : XMi l y_T_write k_T_write { frames := 5, cells := 0, slots := 0, locals := 111 } D vwCl (wT G kc) (tyTs kc) u sz [.ref (G 0), .int (nI i), .int w] (fun r u1 => r = tLw (fWant u (i / 4)) (i % 64) ∧ u1 = fChWord (fWant u (i / 4)) i w) := by
  refine xb_ofi (cc := b_T_write) (maxL := 4) (ret := some .int) (by decide) rfl (Nat.le_of_ble_eq_true rfl) ?_
  intro p e s m below meth c A ls hsz hx hb hml hr hlocks hts hown hP hK hD hA hl
  have hl : lv_has ls 4 [(0, .ref (G 0)), (1, .int (nI i)), (2, .int w)] := hl
  have hS : va_S A s.heap s.heap [] := va_S.rf
  refine lv_iload_n hx hb d_T_write_0 rfl (lv_at hl 1 rfl) ?_
  refine xc_callz (n := 1) (C := "TagMemory") hx hb hml hown hts (c_T_refuseNoWord l i (by omega)) (tb_S wm_127 wm_128 wm_1 wm_129) rfl rfl rfl (by decide +kernel) ⟨Nat.le_of_ble_eq_true rfl, Nat.le_of_ble_eq_true rfl⟩ rfl hl.1 rfl (Nat.le_of_ble_eq_true rfl) d_T_write_1 ⟨Nat.zero_le _, Nat.zero_le _⟩ ?_
  refine lv_aload_n hx hb d_T_write_4 rfl (lv_at hl 0 rfl) ?_
  refine lv_iload_n hx hb d_T_write_5 rfl (lv_at hl 1 rfl) ?_
  refine xc_calls (n := 1) (C := "TagMemory") hx hb hml hown hts (c_T_lineOfWord l i (by omega)) (tb_S wm_197 wm_198 wm_1 wm_199) rfl rfl rfl (by decide +kernel) ⟨Nat.le_of_ble_eq_true rfl, Nat.le_of_ble_eq_true rfl⟩ rfl hl.1 rfl (Nat.le_of_ble_eq_true rfl) d_T_write_6 ⟨Nat.zero_le _, Nat.zero_le _⟩ (fun r hw => ?_)
  subst hw
  refine xc_callv (n := 1) (C := "TagMemory") hx hb hml hown hts (c_T_wantLine l D G kc _ _ (i / 4) (by omega) (by exact hI)) (tb_V wm_200 wm_202 ws_10 wm_1 wm_203) rfl rfl rfl (by decide +kernel) ⟨Nat.le_of_ble_eq_true rfl, Nat.le_of_ble_eq_true rfl⟩ hK hP hD hS hA rfl rfl rfl rfl hl.1 rfl (Nat.le_of_ble_eq_true rfl) d_T_write_9 ⟨Nat.zero_le _, Nat.zero_le _⟩ (fun u1 H locs hw hP hD hS => ?_)
  rw [hw] at hP hD; clear hw u1
  refine lv_aload_n hx hb d_T_write_12 rfl (lv_at hl 0 rfl) ?_
  refine xt_g2 hx hb hts hown hK hP d_T_write_13 ?_
  refine lv_iload_n hx hb d_T_write_16 rfl (lv_at hl 1 rfl) ?_
  refine xc_calls (n := 1) (C := "TagMemory") hx hb hml hown hts (c_T_slotOfWord l i (by omega)) (tb_S wm_208 wm_209 wm_1 wm_210) rfl rfl rfl (by decide +kernel) ⟨Nat.le_of_ble_eq_true rfl, Nat.le_of_ble_eq_true rfl⟩ rfl hl.1 rfl (Nat.le_of_ble_eq_true rfl) d_T_write_17 ⟨Nat.zero_le _, Nat.zero_le _⟩ (fun r hw => ?_)
  subst hw
  refine xt_l2 hx hb hK hP (i % 64) rfl (by omega) d_T_write_20 ?_
  refine lv_istore_n (lv' := [(3, .int _), (0, .ref _), (1, .int (nI i)), (2, .int _)]) hx hb d_T_write_21 rfl hl (by decide) rfl (fun ls hl => ?_)
  refine lv_aload_n hx hb d_T_write_22 rfl (lv_at hl 1 rfl) ?_
  refine lv_iload_n hx hb d_T_write_23 rfl (lv_at hl 2 rfl) ?_
  refine lv_iload_n hx hb d_T_write_24 rfl (lv_at hl 3 rfl) ?_
  refine xc_callv (n := 2) (C := "TagMemory") hx hb hml hown hts (c_T_changeWord l D G kc _ _ i (by omega) _) (tb_V wm_238 wm_240 ws_13 wm_1 wm_241) rfl rfl rfl (by decide +kernel) ⟨Nat.le_of_ble_eq_true rfl, Nat.le_of_ble_eq_true rfl⟩ hK hP hD hS hA rfl rfl rfl rfl hl.1 rfl (Nat.le_of_ble_eq_true rfl) d_T_write_25 ⟨Nat.zero_le _, Nat.zero_le _⟩ (fun u1 H locs hw hP hD hS => ?_)
  rw [hw] at hP hD; clear hw u1
  refine lv_iload_n hx hb d_T_write_28 rfl (lv_at hl 0 rfl) ?_
  exact xc_iret hx hb hr hlocks hP hK hD hS ⟨rfl, rfl⟩ d_T_write_29
set_option maxHeartbeats 4000000 in
set_option maxRecDepth 100000 in
theorem c_T_part (l : Launch) (D : va_G) (G : Nat → Nat) (kc : Nat → ClassId) (sz : Nat) (u : TC) (i j n : Nat) (hi : i < 2048) (hj : j < 4) (hn : n = 1 ∨ n = 2) (hd : j % n = 0) (v : Int32) (hI : tI u) : XMi l y_T_part k_T_part { frames := 5, cells := 0, slots := 0, locals := 111 } D vwCl (wT G kc) (tyTs kc) u sz [.ref (G 0), .int (nI i), .int (nI j), .int (nI n), .int v] (fun r u1 => r = fPart (tLw (fWant u (i / 4)) (i % 64)) j n v ∧ u1 = fChWord (fWant u (i / 4)) i (fPart (tLw (fWant u (i / 4)) (i % 64)) j n v)) := by
  refine xb_ofi (cc := b_T_part) (maxL := 9) (ret := some .int) (by decide) rfl (Nat.le_of_ble_eq_true rfl) ?_
  intro p e s m below meth c A ls hsz hx hb hml hr hlocks hts hown hP hK hD hA hl
  have hl : lv_has ls 9 [(0, .ref (G 0)), (1, .int (nI i)), (2, .int (nI j)), (3, .int (nI n)), (4, .int v)] := hl
  have hS : va_S A s.heap s.heap [] := va_S.rf
  by_cases h1 : n = 1
  · have hm : fMask n = 255 := by unfold fMask; rw [if_pos h1]
    refine lv_iload_n hx hb d_T_part_0 rfl (lv_at hl 1 rfl) ?_
    refine xc_callz (n := 1) (C := "TagMemory") hx hb hml hown hts (c_T_refuseNoWord l i (by omega)) (tb_S wm_127 wm_128 wm_1 wm_129) rfl rfl rfl (by decide +kernel) ⟨Nat.le_of_ble_eq_true rfl, Nat.le_of_ble_eq_true rfl⟩ rfl hl.1 rfl (Nat.le_of_ble_eq_true rfl) d_T_part_1 ⟨Nat.zero_le _, Nat.zero_le _⟩ ?_
    refine lv_iload_n hx hb d_T_part_4 rfl (lv_at hl 2 rfl) ?_
    refine lv_iload_n hx hb d_T_part_5 rfl (lv_at hl 3 rfl) ?_
    refine xc_callz (n := 2) (C := "TagMemory") hx hb hml hown hts (c_T_refuseNoPart l j n (by omega) hn hd) (tb_S wm_254 wm_255 wm_1 wm_256) rfl rfl rfl (by decide +kernel) ⟨Nat.le_of_ble_eq_true rfl, Nat.le_of_ble_eq_true rfl⟩ rfl hl.1 rfl (Nat.le_of_ble_eq_true rfl) d_T_part_6 ⟨Nat.zero_le _, Nat.zero_le _⟩ ?_
    refine lv_aload_n hx hb d_T_part_9 rfl (lv_at hl 0 rfl) ?_
    refine lv_iload_n hx hb d_T_part_10 rfl (lv_at hl 1 rfl) ?_
    refine xc_calls (n := 1) (C := "TagMemory") hx hb hml hown hts (c_T_lineOfWord l i (by omega)) (tb_S wm_197 wm_198 wm_1 wm_199) rfl rfl rfl (by decide +kernel) ⟨Nat.le_of_ble_eq_true rfl, Nat.le_of_ble_eq_true rfl⟩ rfl hl.1 rfl (Nat.le_of_ble_eq_true rfl) d_T_part_11 ⟨Nat.zero_le _, Nat.zero_le _⟩ (fun r hw => ?_)
    subst hw
    refine xc_callv (n := 1) (C := "TagMemory") hx hb hml hown hts (c_T_wantLine l D G kc _ _ (i / 4) (by omega) (by exact hI)) (tb_V wm_200 wm_202 ws_10 wm_1 wm_203) rfl rfl rfl (by decide +kernel) ⟨Nat.le_of_ble_eq_true rfl, Nat.le_of_ble_eq_true rfl⟩ hK hP hD hS hA rfl rfl rfl rfl hl.1 rfl (Nat.le_of_ble_eq_true rfl) d_T_part_14 ⟨Nat.zero_le _, Nat.zero_le _⟩ (fun u1 H locs hw hP hD hS => ?_)
    rw [hw] at hP hD; clear hw u1
    refine lv_bipush (v := 8) hx hb d_T_part_17 (by decide) ?_
    refine lv_iload_n hx hb d_T_part_19 rfl (lv_at hl 2 rfl) ?_
    refine xa_imul hx hb 8 j rfl rfl d_T_part_20 ?_
    refine lv_istore (lv' := [(5, .int (nI (8 * j))), (0, .ref _), (1, .int (nI i)), (2, .int (nI j)), (3, .int (nI n)), (4, .int _)]) hx hb d_T_part_21 hl (by decide) rfl (fun ls hl => ?_)
    refine lv_iload_n hx hb d_T_part_23 rfl (lv_at hl 4 rfl) ?_
    refine lv_iconst (v := 1) hx hb d_T_part_24 (by decide) ?_
    refine lv_icmp_ne (tgt := 34) hx hb d_T_part_25 (by decide) (fun c9 => absurd (by rw [h1]; rfl) c9) (fun _ => ?_)
    refine lv_sipush (v := 255) hx hb d_T_part_28 (by decide) ?_
    refine lv_goto (tgt := 36) hx hb d_T_part_31 (by decide) ?_
    refine lv_istore (lv' := [(6, .int (nI 255)), (5, .int (nI (8 * j))), (0, .ref _), (1, .int (nI i)), (2, .int (nI j)), (3, .int (nI n)), (4, .int _)]) hx hb d_T_part_36 hl (by decide) rfl (fun ls hl => ?_)
    refine lv_aload_n hx hb d_T_part_38 rfl (lv_at hl 2 rfl) ?_
    refine xt_g2 hx hb hts hown hK hP d_T_part_39 ?_
    refine lv_iload_n hx hb d_T_part_42 rfl (lv_at hl 3 rfl) ?_
    refine xc_calls (n := 1) (C := "TagMemory") hx hb hml hown hts (c_T_slotOfWord l i (by omega)) (tb_S wm_208 wm_209 wm_1 wm_210) rfl rfl rfl (by decide +kernel) ⟨Nat.le_of_ble_eq_true rfl, Nat.le_of_ble_eq_true rfl⟩ rfl hl.1 rfl (Nat.le_of_ble_eq_true rfl) d_T_part_43 ⟨Nat.zero_le _, Nat.zero_le _⟩ (fun r hw => ?_)
    subst hw
    refine xt_l2 hx hb hK hP (i % 64) rfl (by omega) d_T_part_46 ?_
    refine lv_iload hx hb d_T_part_47 (lv_at hl 0 rfl) ?_
    refine lv_iload hx hb d_T_part_49 (lv_at hl 1 rfl) ?_
    refine lv_ishl hx hb d_T_part_51 ?_
    refine lv_iconst (v := (-1)) hx hb d_T_part_52 (by decide) ?_
    refine lv_ixor hx hb d_T_part_53 ?_
    refine lv_iand hx hb d_T_part_54 ?_
    refine lv_istore (lv' := [(7, .int _), (6, .int (nI 255)), (5, .int (nI (8 * j))), (0, .ref _), (1, .int (nI i)), (2, .int (nI j)), (3, .int (nI n)), (4, .int _)]) hx hb d_T_part_55 hl (by decide) rfl (fun ls hl => ?_)
    refine lv_iload hx hb d_T_part_57 (lv_at hl 0 rfl) ?_
    refine lv_iload hx hb d_T_part_59 (lv_at hl 7 rfl) ?_
    refine lv_iload hx hb d_T_part_61 (lv_at hl 1 rfl) ?_
    refine lv_iand hx hb d_T_part_63 ?_
    refine lv_iload hx hb d_T_part_64 (lv_at hl 2 rfl) ?_
    refine lv_ishl hx hb d_T_part_66 ?_
    refine lv_ior hx hb d_T_part_67 ?_
    refine lv_istore (lv' := [(8, .int _), (7, .int _), (6, .int (nI 255)), (5, .int (nI (8 * j))), (0, .ref _), (1, .int (nI i)), (2, .int (nI j)), (3, .int (nI n)), (4, .int _)]) hx hb d_T_part_68 hl (by decide) rfl (fun ls hl => ?_)
    refine lv_aload_n hx hb d_T_part_70 rfl (lv_at hl 4 rfl) ?_
    refine lv_iload_n hx hb d_T_part_71 rfl (lv_at hl 5 rfl) ?_
    refine lv_iload hx hb d_T_part_72 (lv_at hl 0 rfl) ?_
    refine xc_callv (n := 2) (C := "TagMemory") hx hb hml hown hts (c_T_changeWord l D G kc _ _ i (by omega) _) (tb_V wm_238 wm_240 ws_13 wm_1 wm_241) rfl rfl rfl (by decide +kernel) ⟨Nat.le_of_ble_eq_true rfl, Nat.le_of_ble_eq_true rfl⟩ hK hP hD hS hA rfl rfl rfl rfl hl.1 rfl (Nat.le_of_ble_eq_true rfl) d_T_part_74 ⟨Nat.zero_le _, Nat.zero_le _⟩ (fun u1 H locs hw hP hD hS => ?_)
    rw [hw] at hP hD; clear hw u1
    refine lv_iload hx hb d_T_part_77 (lv_at hl 0 rfl) ?_
    exact xc_iret hx hb hr hlocks hP hK hD hS (by unfold fPart; rw [hm]; exact ⟨rfl, rfl⟩) d_T_part_79
  · have hm : fMask n = 65535 := by unfold fMask; rw [if_neg h1]
    have h2 : n = 2 := by omega
    refine lv_iload_n hx hb d_T_part_0 rfl (lv_at hl 1 rfl) ?_
    refine xc_callz (n := 1) (C := "TagMemory") hx hb hml hown hts (c_T_refuseNoWord l i (by omega)) (tb_S wm_127 wm_128 wm_1 wm_129) rfl rfl rfl (by decide +kernel) ⟨Nat.le_of_ble_eq_true rfl, Nat.le_of_ble_eq_true rfl⟩ rfl hl.1 rfl (Nat.le_of_ble_eq_true rfl) d_T_part_1 ⟨Nat.zero_le _, Nat.zero_le _⟩ ?_
    refine lv_iload_n hx hb d_T_part_4 rfl (lv_at hl 2 rfl) ?_
    refine lv_iload_n hx hb d_T_part_5 rfl (lv_at hl 3 rfl) ?_
    refine xc_callz (n := 2) (C := "TagMemory") hx hb hml hown hts (c_T_refuseNoPart l j n (by omega) hn hd) (tb_S wm_254 wm_255 wm_1 wm_256) rfl rfl rfl (by decide +kernel) ⟨Nat.le_of_ble_eq_true rfl, Nat.le_of_ble_eq_true rfl⟩ rfl hl.1 rfl (Nat.le_of_ble_eq_true rfl) d_T_part_6 ⟨Nat.zero_le _, Nat.zero_le _⟩ ?_
    refine lv_aload_n hx hb d_T_part_9 rfl (lv_at hl 0 rfl) ?_
    refine lv_iload_n hx hb d_T_part_10 rfl (lv_at hl 1 rfl) ?_
    refine xc_calls (n := 1) (C := "TagMemory") hx hb hml hown hts (c_T_lineOfWord l i (by omega)) (tb_S wm_197 wm_198 wm_1 wm_199) rfl rfl rfl (by decide +kernel) ⟨Nat.le_of_ble_eq_true rfl, Nat.le_of_ble_eq_true rfl⟩ rfl hl.1 rfl (Nat.le_of_ble_eq_true rfl) d_T_part_11 ⟨Nat.zero_le _, Nat.zero_le _⟩ (fun r hw => ?_)
    subst hw
    refine xc_callv (n := 1) (C := "TagMemory") hx hb hml hown hts (c_T_wantLine l D G kc _ _ (i / 4) (by omega) (by exact hI)) (tb_V wm_200 wm_202 ws_10 wm_1 wm_203) rfl rfl rfl (by decide +kernel) ⟨Nat.le_of_ble_eq_true rfl, Nat.le_of_ble_eq_true rfl⟩ hK hP hD hS hA rfl rfl rfl rfl hl.1 rfl (Nat.le_of_ble_eq_true rfl) d_T_part_14 ⟨Nat.zero_le _, Nat.zero_le _⟩ (fun u1 H locs hw hP hD hS => ?_)
    rw [hw] at hP hD; clear hw u1
    refine lv_bipush (v := 8) hx hb d_T_part_17 (by decide) ?_
    refine lv_iload_n hx hb d_T_part_19 rfl (lv_at hl 2 rfl) ?_
    refine xa_imul hx hb 8 j rfl rfl d_T_part_20 ?_
    refine lv_istore (lv' := [(5, .int (nI (8 * j))), (0, .ref _), (1, .int (nI i)), (2, .int (nI j)), (3, .int (nI n)), (4, .int _)]) hx hb d_T_part_21 hl (by decide) rfl (fun ls hl => ?_)
    refine lv_iload_n hx hb d_T_part_23 rfl (lv_at hl 4 rfl) ?_
    refine lv_iconst (v := 1) hx hb d_T_part_24 (by decide) ?_
    refine lv_icmp_ne (tgt := 34) hx hb d_T_part_25 (by decide) (fun _ => ?_) (fun c9 => absurd (show nI n = nI 1 from c9) (by rw [h2]; decide))
    refine lv_ldc (v := 65535) hx hb hown (hts (Cond.constant "TagMemory" 66 (65535 : Int32)) (List.mem_cons_of_mem _ wm_274)) d_T_part_34 ?_
    refine lv_istore (lv' := [(6, .int (nI 65535)), (5, .int (nI (8 * j))), (0, .ref _), (1, .int (nI i)), (2, .int (nI j)), (3, .int (nI n)), (4, .int _)]) hx hb d_T_part_36 hl (by decide) rfl (fun ls hl => ?_)
    refine lv_aload_n hx hb d_T_part_38 rfl (lv_at hl 2 rfl) ?_
    refine xt_g2 hx hb hts hown hK hP d_T_part_39 ?_
    refine lv_iload_n hx hb d_T_part_42 rfl (lv_at hl 3 rfl) ?_
    refine xc_calls (n := 1) (C := "TagMemory") hx hb hml hown hts (c_T_slotOfWord l i (by omega)) (tb_S wm_208 wm_209 wm_1 wm_210) rfl rfl rfl (by decide +kernel) ⟨Nat.le_of_ble_eq_true rfl, Nat.le_of_ble_eq_true rfl⟩ rfl hl.1 rfl (Nat.le_of_ble_eq_true rfl) d_T_part_43 ⟨Nat.zero_le _, Nat.zero_le _⟩ (fun r hw => ?_)
    subst hw
    refine xt_l2 hx hb hK hP (i % 64) rfl (by omega) d_T_part_46 ?_
    refine lv_iload hx hb d_T_part_47 (lv_at hl 0 rfl) ?_
    refine lv_iload hx hb d_T_part_49 (lv_at hl 1 rfl) ?_
    refine lv_ishl hx hb d_T_part_51 ?_
    refine lv_iconst (v := (-1)) hx hb d_T_part_52 (by decide) ?_
    refine lv_ixor hx hb d_T_part_53 ?_
    refine lv_iand hx hb d_T_part_54 ?_
    refine lv_istore (lv' := [(7, .int _), (6, .int (nI 65535)), (5, .int (nI (8 * j))), (0, .ref _), (1, .int (nI i)), (2, .int (nI j)), (3, .int (nI n)), (4, .int _)]) hx hb d_T_part_55 hl (by decide) rfl (fun ls hl => ?_)
    refine lv_iload hx hb d_T_part_57 (lv_at hl 0 rfl) ?_
    refine lv_iload hx hb d_T_part_59 (lv_at hl 7 rfl) ?_
    refine lv_iload hx hb d_T_part_61 (lv_at hl 1 rfl) ?_
    refine lv_iand hx hb d_T_part_63 ?_
    refine lv_iload hx hb d_T_part_64 (lv_at hl 2 rfl) ?_
    refine lv_ishl hx hb d_T_part_66 ?_
    refine lv_ior hx hb d_T_part_67 ?_
    refine lv_istore (lv' := [(8, .int _), (7, .int _), (6, .int (nI 65535)), (5, .int (nI (8 * j))), (0, .ref _), (1, .int (nI i)), (2, .int (nI j)), (3, .int (nI n)), (4, .int _)]) hx hb d_T_part_68 hl (by decide) rfl (fun ls hl => ?_)
    refine lv_aload_n hx hb d_T_part_70 rfl (lv_at hl 4 rfl) ?_
    refine lv_iload_n hx hb d_T_part_71 rfl (lv_at hl 5 rfl) ?_
    refine lv_iload hx hb d_T_part_72 (lv_at hl 0 rfl) ?_
    refine xc_callv (n := 2) (C := "TagMemory") hx hb hml hown hts (c_T_changeWord l D G kc _ _ i (by omega) _) (tb_V wm_238 wm_240 ws_13 wm_1 wm_241) rfl rfl rfl (by decide +kernel) ⟨Nat.le_of_ble_eq_true rfl, Nat.le_of_ble_eq_true rfl⟩ hK hP hD hS hA rfl rfl rfl rfl hl.1 rfl (Nat.le_of_ble_eq_true rfl) d_T_part_74 ⟨Nat.zero_le _, Nat.zero_le _⟩ (fun u1 H locs hw hP hD hS => ?_)
    rw [hw] at hP hD; clear hw u1
    refine lv_iload hx hb d_T_part_77 (lv_at hl 0 rfl) ?_
    exact xc_iret hx hb hr hlocks hP hK hD hS (by unfold fPart; rw [hm]; exact ⟨rfl, rfl⟩) d_T_part_79
set_option maxHeartbeats 4000000 in
set_option maxRecDepth 100000 in
theorem c_T_put (l : Launch) (D : va_G) (G : Nat → Nat) (kc : Nat → ClassId) (sz : Nat) (u : TC) (g : Nat) (hg : g < 1024) (lo hi t : Int32) (hI : tI u) : XMv l y_T_put k_T_put { frames := 5, cells := 0, slots := 0, locals := 111 } D vwCl (wT G kc) (tyTs kc) u sz [.ref (G 0), .int (nI g), .int lo, .int hi, .int t] (fun u1 => u1 = fChGran (fWant u (g / 2)) g lo hi t) := by
  refine xb_ofv (cc := b_T_put) (maxL := 5) (ret := none) (by decide) rfl (Nat.le_of_ble_eq_true rfl) ?_
  intro p e s m below meth c A ls hsz hx hb hml hr hlocks hts hown hP hK hD hA hl
  have hl : lv_has ls 5 [(0, .ref (G 0)), (1, .int (nI g)), (2, .int lo), (3, .int hi), (4, .int t)] := hl
  have hS : va_S A s.heap s.heap [] := va_S.rf
  refine lv_iload_n hx hb d_T_put_0 rfl (lv_at hl 1 rfl) ?_
  refine xc_callz (n := 1) (C := "TagMemory") hx hb hml hown hts (c_T_refuseNoGranule l g (by omega)) (tb_S wm_282 wm_283 wm_1 wm_284) rfl rfl rfl (by decide +kernel) ⟨Nat.le_of_ble_eq_true rfl, Nat.le_of_ble_eq_true rfl⟩ rfl hl.1 rfl (Nat.le_of_ble_eq_true rfl) d_T_put_1 ⟨Nat.zero_le _, Nat.zero_le _⟩ ?_
  refine lv_aload_n hx hb d_T_put_4 rfl (lv_at hl 0 rfl) ?_
  refine lv_iload_n hx hb d_T_put_5 rfl (lv_at hl 1 rfl) ?_
  refine xc_calls (n := 1) (C := "TagMemory") hx hb hml hown hts (c_T_lineOfGranule l g (by omega)) (tb_S wm_221 wm_222 wm_1 wm_223) rfl rfl rfl (by decide +kernel) ⟨Nat.le_of_ble_eq_true rfl, Nat.le_of_ble_eq_true rfl⟩ rfl hl.1 rfl (Nat.le_of_ble_eq_true rfl) d_T_put_6 ⟨Nat.zero_le _, Nat.zero_le _⟩ (fun r hw => ?_)
  subst hw
  refine xc_callv (n := 1) (C := "TagMemory") hx hb hml hown hts (c_T_wantLine l D G kc _ _ (g / 2) (by omega) (by exact hI)) (tb_V wm_200 wm_202 ws_10 wm_1 wm_203) rfl rfl rfl (by decide +kernel) ⟨Nat.le_of_ble_eq_true rfl, Nat.le_of_ble_eq_true rfl⟩ hK hP hD hS hA rfl rfl rfl rfl hl.1 rfl (Nat.le_of_ble_eq_true rfl) d_T_put_9 ⟨Nat.zero_le _, Nat.zero_le _⟩ (fun u1 H locs hw hP hD hS => ?_)
  rw [hw] at hP hD; clear hw u1
  refine lv_aload_n hx hb d_T_put_12 rfl (lv_at hl 0 rfl) ?_
  refine lv_iload_n hx hb d_T_put_13 rfl (lv_at hl 1 rfl) ?_
  refine lv_iload_n hx hb d_T_put_14 rfl (lv_at hl 2 rfl) ?_
  refine lv_iload_n hx hb d_T_put_15 rfl (lv_at hl 3 rfl) ?_
  refine lv_iload hx hb d_T_put_16 (lv_at hl 4 rfl) ?_
  refine xc_callv (n := 4) (C := "TagMemory") hx hb hml hown hts (c_T_changeGranule l D G kc _ _ g (by omega) _ _ _) (tb_V wm_286 wm_288 ws_15 wm_1 wm_289) rfl rfl rfl (by decide +kernel) ⟨Nat.le_of_ble_eq_true rfl, Nat.le_of_ble_eq_true rfl⟩ hK hP hD hS hA rfl rfl rfl rfl hl.1 rfl (Nat.le_of_ble_eq_true rfl) d_T_put_18 ⟨Nat.zero_le _, Nat.zero_le _⟩ (fun u1 H locs hw hP hD hS => ?_)
  rw [hw] at hP hD; clear hw u1
  exact xc_vret hx hb hr hlocks hP hK hD hS rfl d_T_put_21
set_option maxHeartbeats 4000000 in
set_option maxRecDepth 100000 in
theorem c_T_copy (l : Launch) (D : va_G) (G : Nat → Nat) (kc : Nat → ClassId) (sz : Nat) (u : TC) (g f : Nat) (hg : g < 1024) (hf : f < 1024) (hI : tI u) : XMi l y_T_copy k_T_copy { frames := 5, cells := 0, slots := 0, locals := 111 } D vwCl (wT G kc) (tyTs kc) u sz [.ref (G 0), .int (nI g), .int (nI f)] (fun r u1 => r = rTag (fWant u (f / 2)) f ∧ u1 = fCopy2 (fWant u (f / 2)) g f) := by
  refine xb_ofi (cc := b_T_copy) (maxL := 6) (ret := some .boolean) (by decide) rfl (Nat.le_of_ble_eq_true rfl) ?_
  intro p e s m below meth c A ls hsz hx hb hml hr hlocks hts hown hP hK hD hA hl
  have hl : lv_has ls 6 [(0, .ref (G 0)), (1, .int (nI g)), (2, .int (nI f))] := hl
  have hS : va_S A s.heap s.heap [] := va_S.rf
  have hI1 : tI (fWant u (f / 2)) := tI_want hI (by omega)
  refine lv_iload_n hx hb d_T_copy_0 rfl (lv_at hl 2 rfl) ?_
  refine xc_callz (n := 1) (C := "TagMemory") hx hb hml hown hts (c_T_refuseNoGranule l f (by omega)) (tb_S wm_282 wm_283 wm_1 wm_284) rfl rfl rfl (by decide +kernel) ⟨Nat.le_of_ble_eq_true rfl, Nat.le_of_ble_eq_true rfl⟩ rfl hl.1 rfl (Nat.le_of_ble_eq_true rfl) d_T_copy_1 ⟨Nat.zero_le _, Nat.zero_le _⟩ ?_
  refine lv_iload_n hx hb d_T_copy_4 rfl (lv_at hl 1 rfl) ?_
  refine xc_callz (n := 1) (C := "TagMemory") hx hb hml hown hts (c_T_refuseNoGranule l g (by omega)) (tb_S wm_282 wm_283 wm_1 wm_284) rfl rfl rfl (by decide +kernel) ⟨Nat.le_of_ble_eq_true rfl, Nat.le_of_ble_eq_true rfl⟩ rfl hl.1 rfl (Nat.le_of_ble_eq_true rfl) d_T_copy_5 ⟨Nat.zero_le _, Nat.zero_le _⟩ ?_
  refine lv_aload_n hx hb d_T_copy_8 rfl (lv_at hl 0 rfl) ?_
  refine lv_iload_n hx hb d_T_copy_9 rfl (lv_at hl 2 rfl) ?_
  refine xc_calls (n := 1) (C := "TagMemory") hx hb hml hown hts (c_T_lineOfGranule l f (by omega)) (tb_S wm_221 wm_222 wm_1 wm_223) rfl rfl rfl (by decide +kernel) ⟨Nat.le_of_ble_eq_true rfl, Nat.le_of_ble_eq_true rfl⟩ rfl hl.1 rfl (Nat.le_of_ble_eq_true rfl) d_T_copy_10 ⟨Nat.zero_le _, Nat.zero_le _⟩ (fun r hw => ?_)
  subst hw
  refine xc_callv (n := 1) (C := "TagMemory") hx hb hml hown hts (c_T_wantLine l D G kc _ _ (f / 2) (by omega) (by exact hI)) (tb_V wm_200 wm_202 ws_10 wm_1 wm_203) rfl rfl rfl (by decide +kernel) ⟨Nat.le_of_ble_eq_true rfl, Nat.le_of_ble_eq_true rfl⟩ hK hP hD hS hA rfl rfl rfl rfl hl.1 rfl (Nat.le_of_ble_eq_true rfl) d_T_copy_13 ⟨Nat.zero_le _, Nat.zero_le _⟩ (fun u1 H locs hw hP hD hS => ?_)
  rw [hw] at hP hD; clear hw u1
  refine lv_aload_n hx hb d_T_copy_16 rfl (lv_at hl 0 rfl) ?_
  refine xt_g2 hx hb hts hown hK hP d_T_copy_17 ?_
  refine lv_iconst (v := 2) hx hb d_T_copy_20 (by decide) ?_
  refine lv_iload_n hx hb d_T_copy_21 rfl (lv_at hl 2 rfl) ?_
  refine xa_imul hx hb 2 f rfl rfl d_T_copy_22 ?_
  refine xc_calls (n := 1) (C := "TagMemory") hx hb hml hown hts (c_T_slotOfWord l (2 * f) (by omega)) (tb_S wm_208 wm_209 wm_1 wm_210) rfl rfl rfl (by decide +kernel) ⟨Nat.le_of_ble_eq_true rfl, Nat.le_of_ble_eq_true rfl⟩ rfl hl.1 rfl (Nat.le_of_ble_eq_true rfl) d_T_copy_23 ⟨Nat.zero_le _, Nat.zero_le _⟩ (fun r hw => ?_)
  subst hw
  refine xt_l2 hx hb hK hP ((2 * f) % 64) rfl (by omega) d_T_copy_26 ?_
  refine lv_istore_n (lv' := [(3, .int _), (0, .ref _), (1, .int (nI g)), (2, .int (nI f))]) hx hb d_T_copy_27 rfl hl (by decide) rfl (fun ls hl => ?_)
  refine lv_aload_n hx hb d_T_copy_28 rfl (lv_at hl 1 rfl) ?_
  refine xt_g2 hx hb hts hown hK hP d_T_copy_29 ?_
  refine lv_iconst (v := 2) hx hb d_T_copy_32 (by decide) ?_
  refine lv_iload_n hx hb d_T_copy_33 rfl (lv_at hl 3 rfl) ?_
  refine xa_imul hx hb 2 f rfl rfl d_T_copy_34 ?_
  refine lv_iconst (v := 1) hx hb d_T_copy_35 (by decide) ?_
  refine xa_iadd hx hb (2 * f) 1 rfl rfl d_T_copy_36 ?_
  refine xc_calls (n := 1) (C := "TagMemory") hx hb hml hown hts (c_T_slotOfWord l ((2 * f) + 1) (by omega)) (tb_S wm_208 wm_209 wm_1 wm_210) rfl rfl rfl (by decide +kernel) ⟨Nat.le_of_ble_eq_true rfl, Nat.le_of_ble_eq_true rfl⟩ rfl hl.1 rfl (Nat.le_of_ble_eq_true rfl) d_T_copy_37 ⟨Nat.zero_le _, Nat.zero_le _⟩ (fun r hw => ?_)
  subst hw
  refine xt_l2 hx hb hK hP (((2 * f) + 1) % 64) rfl (by omega) d_T_copy_40 ?_
  refine lv_istore (lv' := [(4, .int _), (3, .int _), (0, .ref _), (1, .int (nI g)), (2, .int (nI f))]) hx hb d_T_copy_41 hl (by decide) rfl (fun ls hl => ?_)
  refine lv_aload_n hx hb d_T_copy_43 rfl (lv_at hl 2 rfl) ?_
  refine lv_iload_n hx hb d_T_copy_44 rfl (lv_at hl 4 rfl) ?_
  refine xc_calli (n := 1) (C := "TagMemory") hx hb hml hown hts (c_T_keptTag l D G kc _ _ f (by omega)) (tb_V wm_224 wm_226 ws_12 wm_1 wm_227) rfl rfl rfl (by decide +kernel) ⟨Nat.le_of_ble_eq_true rfl, Nat.le_of_ble_eq_true rfl⟩ hK hP hD hS hA rfl rfl rfl rfl hl.1 rfl (Nat.le_of_ble_eq_true rfl) d_T_copy_45 ⟨Nat.zero_le _, Nat.zero_le _⟩ (fun r u1 H locs hw hP hD hS => ?_)
  obtain ⟨e1, e2⟩ := hw
  subst e1
  rw [e2] at hP hD; clear e2 u1
  refine lv_istore (lv' := [(5, .int _), (4, .int _), (3, .int _), (0, .ref _), (1, .int (nI g)), (2, .int (nI f))]) hx hb d_T_copy_48 hl (by decide) rfl (fun ls hl => ?_)
  refine lv_aload_n hx hb d_T_copy_50 rfl (lv_at hl 3 rfl) ?_
  refine lv_iload_n hx hb d_T_copy_51 rfl (lv_at hl 4 rfl) ?_
  refine xc_calls (n := 1) (C := "TagMemory") hx hb hml hown hts (c_T_lineOfGranule l g (by omega)) (tb_S wm_221 wm_222 wm_1 wm_223) rfl rfl rfl (by decide +kernel) ⟨Nat.le_of_ble_eq_true rfl, Nat.le_of_ble_eq_true rfl⟩ rfl hl.1 rfl (Nat.le_of_ble_eq_true rfl) d_T_copy_52 ⟨Nat.zero_le _, Nat.zero_le _⟩ (fun r hw => ?_)
  subst hw
  refine xc_callv (n := 1) (C := "TagMemory") hx hb hml hown hts (c_T_wantLine l D G kc _ _ (g / 2) (by omega) (by exact hI1)) (tb_V wm_200 wm_202 ws_10 wm_1 wm_203) rfl rfl rfl (by decide +kernel) ⟨Nat.le_of_ble_eq_true rfl, Nat.le_of_ble_eq_true rfl⟩ hK hP hD hS hA rfl rfl rfl rfl hl.1 rfl (Nat.le_of_ble_eq_true rfl) d_T_copy_55 ⟨Nat.zero_le _, Nat.zero_le _⟩ (fun u1 H locs hw hP hD hS => ?_)
  rw [hw] at hP hD; clear hw u1
  refine lv_aload_n hx hb d_T_copy_58 rfl (lv_at hl 3 rfl) ?_
  refine lv_iload_n hx hb d_T_copy_59 rfl (lv_at hl 4 rfl) ?_
  refine lv_iload_n hx hb d_T_copy_60 rfl (lv_at hl 2 rfl) ?_
  refine lv_iload hx hb d_T_copy_61 (lv_at hl 1 rfl) ?_
  refine lv_iload hx hb d_T_copy_63 (lv_at hl 0 rfl) ?_
  refine xc_callv (n := 4) (C := "TagMemory") hx hb hml hown hts (c_T_changeGranule l D G kc _ _ g (by omega) _ _ _) (tb_V wm_286 wm_288 ws_15 wm_1 wm_289) rfl rfl rfl (by decide +kernel) ⟨Nat.le_of_ble_eq_true rfl, Nat.le_of_ble_eq_true rfl⟩ hK hP hD hS hA rfl rfl rfl rfl hl.1 rfl (Nat.le_of_ble_eq_true rfl) d_T_copy_65 ⟨Nat.zero_le _, Nat.zero_le _⟩ (fun u1 H locs hw hP hD hS => ?_)
  rw [hw] at hP hD; clear hw u1
  refine lv_iload hx hb d_T_copy_68 (lv_at hl 0 rfl) ?_
  exact xc_zret hx hb hr hlocks (rTag_01 _ _) hP hK hD hS ⟨rfl, rfl⟩ d_T_copy_70
set_option maxHeartbeats 4000000 in
set_option maxRecDepth 100000 in
theorem c_T_drop (l : Launch) (D : va_G) (G : Nat → Nat) (kc : Nat → ClassId) (sz : Nat) (u : TC) (q : Nat) (hq : q < 16) (hI : tI u) : XMi l y_T_drop k_T_drop { frames := 4, cells := 0, slots := 0, locals := 89 } D vwCl (wT G kc) (tyTs kc) u sz [.ref (G 0), .int (nI q)] (fun r u1 => r = (if tLa u q = -1 then -1 else rLineGo u q) ∧ u1 = (if tLa u q = -1 then u else fLineGo u q)) := by
  refine xb_ofi (cc := b_T_drop) (maxL := 2) (ret := some .int) (by decide) rfl (Nat.le_of_ble_eq_true rfl) ?_
  intro p e s m below meth c A ls hsz hx hb hml hr hlocks hts hown hP hK hD hA hl
  have hl : lv_has ls 2 [(0, .ref (G 0)), (1, .int (nI q))] := hl
  have hS : va_S A s.heap s.heap [] := va_S.rf
  by_cases h1 : tLa u q = -1
  · skip
    refine lv_iload_n hx hb d_T_drop_0 rfl (lv_at hl 1 rfl) ?_
    refine lv_if_lt (tgt := 10) hx hb d_T_drop_1 (by decide) (fun c9 => absurd c9 (nI_pos (by omega))) (fun _ => ?_)
    refine lv_iload_n hx hb d_T_drop_4 rfl (lv_at hl 1 rfl) ?_
    refine lv_bipush (v := 16) hx hb d_T_drop_5 (by decide) ?_
    refine lv_icmp_lt (tgt := 20) hx hb d_T_drop_7 (by decide) (fun _ => ?_) (fun c9 => absurd (nI_lt (a := q) (b := 16) (by omega) (by decide)) c9)
    refine lv_aload_n hx hb d_T_drop_20 rfl (lv_at hl 0 rfl) ?_
    refine xt_g1 hx hb hts hown hK hP d_T_drop_21 ?_
    refine lv_iload_n hx hb d_T_drop_24 rfl (lv_at hl 1 rfl) ?_
    refine xt_l1 hx hb hK hP q rfl (by omega) d_T_drop_25 ?_
    refine lv_iconst (v := (-1)) hx hb d_T_drop_26 (by decide) ?_
    refine lv_icmp_ne (tgt := 32) hx hb d_T_drop_27 (by decide) (fun c9 => absurd h1 c9) (fun _ => ?_)
    refine lv_iconst (v := (-1)) hx hb d_T_drop_30 (by decide) ?_
    exact xc_iret hx hb hr hlocks hP hK hD hS ⟨by rw [if_pos h1], by rw [if_pos h1]⟩ d_T_drop_31
  · by_cases h2 : rLineGo u q = 0
    · skip
      refine lv_iload_n hx hb d_T_drop_0 rfl (lv_at hl 1 rfl) ?_
      refine lv_if_lt (tgt := 10) hx hb d_T_drop_1 (by decide) (fun c9 => absurd c9 (nI_pos (by omega))) (fun _ => ?_)
      refine lv_iload_n hx hb d_T_drop_4 rfl (lv_at hl 1 rfl) ?_
      refine lv_bipush (v := 16) hx hb d_T_drop_5 (by decide) ?_
      refine lv_icmp_lt (tgt := 20) hx hb d_T_drop_7 (by decide) (fun _ => ?_) (fun c9 => absurd (nI_lt (a := q) (b := 16) (by omega) (by decide)) c9)
      refine lv_aload_n hx hb d_T_drop_20 rfl (lv_at hl 0 rfl) ?_
      refine xt_g1 hx hb hts hown hK hP d_T_drop_21 ?_
      refine lv_iload_n hx hb d_T_drop_24 rfl (lv_at hl 1 rfl) ?_
      refine xt_l1 hx hb hK hP q rfl (by omega) d_T_drop_25 ?_
      refine lv_iconst (v := (-1)) hx hb d_T_drop_26 (by decide) ?_
      refine lv_icmp_ne (tgt := 32) hx hb d_T_drop_27 (by decide) (fun _ => ?_) (fun c9 => absurd c9 h1)
      refine lv_aload_n hx hb d_T_drop_32 rfl (lv_at hl 0 rfl) ?_
      refine lv_iload_n hx hb d_T_drop_33 rfl (lv_at hl 1 rfl) ?_
      refine xc_calli (n := 1) (C := "TagMemory") hx hb hml hown hts (c_T_letLineGo l D G kc _ _ q (by omega) (by exact hI)) (tb_V wm_61 wm_63 ws_0 wm_1 wm_64) rfl rfl rfl (by decide +kernel) ⟨Nat.le_of_ble_eq_true rfl, Nat.le_of_ble_eq_true rfl⟩ hK hP hD hS hA rfl rfl rfl rfl hl.1 rfl (Nat.le_of_ble_eq_true rfl) d_T_drop_34 ⟨Nat.zero_le _, Nat.zero_le _⟩ (fun r u1 H locs hw hP hD hS => ?_)
      obtain ⟨e1, e2⟩ := hw
      subst e1
      rw [e2] at hP hD; clear e2 u1
      refine lv_if_eq (tgt := 44) hx hb d_T_drop_37 (by decide) (fun _ => ?_) (fun c9 => absurd h2 c9)
      refine lv_iconst (v := 0) hx hb d_T_drop_44 (by decide) ?_
      exact xc_iret hx hb hr hlocks hP hK hD hS ⟨by rw [if_neg h1, h2], by rw [if_neg h1]⟩ d_T_drop_45
    · have h3 : rLineGo u q = 1 := (rLineGo_01 u q).resolve_left h2
      refine lv_iload_n hx hb d_T_drop_0 rfl (lv_at hl 1 rfl) ?_
      refine lv_if_lt (tgt := 10) hx hb d_T_drop_1 (by decide) (fun c9 => absurd c9 (nI_pos (by omega))) (fun _ => ?_)
      refine lv_iload_n hx hb d_T_drop_4 rfl (lv_at hl 1 rfl) ?_
      refine lv_bipush (v := 16) hx hb d_T_drop_5 (by decide) ?_
      refine lv_icmp_lt (tgt := 20) hx hb d_T_drop_7 (by decide) (fun _ => ?_) (fun c9 => absurd (nI_lt (a := q) (b := 16) (by omega) (by decide)) c9)
      refine lv_aload_n hx hb d_T_drop_20 rfl (lv_at hl 0 rfl) ?_
      refine xt_g1 hx hb hts hown hK hP d_T_drop_21 ?_
      refine lv_iload_n hx hb d_T_drop_24 rfl (lv_at hl 1 rfl) ?_
      refine xt_l1 hx hb hK hP q rfl (by omega) d_T_drop_25 ?_
      refine lv_iconst (v := (-1)) hx hb d_T_drop_26 (by decide) ?_
      refine lv_icmp_ne (tgt := 32) hx hb d_T_drop_27 (by decide) (fun _ => ?_) (fun c9 => absurd c9 h1)
      refine lv_aload_n hx hb d_T_drop_32 rfl (lv_at hl 0 rfl) ?_
      refine lv_iload_n hx hb d_T_drop_33 rfl (lv_at hl 1 rfl) ?_
      refine xc_calli (n := 1) (C := "TagMemory") hx hb hml hown hts (c_T_letLineGo l D G kc _ _ q (by omega) (by exact hI)) (tb_V wm_61 wm_63 ws_0 wm_1 wm_64) rfl rfl rfl (by decide +kernel) ⟨Nat.le_of_ble_eq_true rfl, Nat.le_of_ble_eq_true rfl⟩ hK hP hD hS hA rfl rfl rfl rfl hl.1 rfl (Nat.le_of_ble_eq_true rfl) d_T_drop_34 ⟨Nat.zero_le _, Nat.zero_le _⟩ (fun r u1 H locs hw hP hD hS => ?_)
      obtain ⟨e1, e2⟩ := hw
      subst e1
      rw [e2] at hP hD; clear e2 u1
      refine lv_if_eq (tgt := 44) hx hb d_T_drop_37 (by decide) (fun c9 => absurd c9 h2) (fun _ => ?_)
      refine lv_iconst (v := 1) hx hb d_T_drop_40 (by decide) ?_
      refine lv_goto (tgt := 45) hx hb d_T_drop_41 (by decide) ?_
      exact xc_iret hx hb hr hlocks hP hK hD hS ⟨by rw [if_neg h1, h3], by rw [if_neg h1]⟩ d_T_drop_45
set_option maxHeartbeats 4000000 in
set_option maxRecDepth 100000 in
theorem c_T_store (l : Launch) (D : va_G) (G : Nat → Nat) (kc : Nat → ClassId) (sz : Nat) (u : TC) (i : Nat) (hi : i < 2080) : XMi l y_T_store k_T_store { frames := 0, cells := 0, slots := 0, locals := 0 } D vwCl (wT G kc) (tyTs kc) u sz [.ref (G 0), .int (nI i)] (fun r u1 => r = tSt u i ∧ u1 = u) := by
  refine xb_ofi (cc := b_T_store) (maxL := 2) (ret := some .int) (by decide) rfl (Nat.le_of_ble_eq_true rfl) ?_
  intro p e s m below meth c A ls hsz hx hb hml hr hlocks hts hown hP hK hD hA hl
  have hl : lv_has ls 2 [(0, .ref (G 0)), (1, .int (nI i))] := hl
  have hS : va_S A s.heap s.heap [] := va_S.rf
  refine lv_iload_n hx hb d_T_store_0 rfl (lv_at hl 1 rfl) ?_
  refine lv_if_lt (tgt := 11) hx hb d_T_store_1 (by decide) (fun c9 => absurd c9 (nI_pos (by omega))) (fun _ => ?_)
  refine lv_iload_n hx hb d_T_store_4 rfl (lv_at hl 1 rfl) ?_
  refine lv_sipush (v := 2080) hx hb d_T_store_5 (by decide) ?_
  refine lv_icmp_lt (tgt := 21) hx hb d_T_store_8 (by decide) (fun _ => ?_) (fun c9 => absurd (nI_lt (a := i) (b := 2080) (by omega) (by decide)) c9)
  refine lv_aload_n hx hb d_T_store_21 rfl (lv_at hl 0 rfl) ?_
  refine xt_g0 hx hb hts hown hK hP d_T_store_22 ?_
  refine lv_iload_n hx hb d_T_store_25 rfl (lv_at hl 1 rfl) ?_
  refine xt_l0 hx hb hK hP i rfl (by omega) d_T_store_26 ?_
  exact xc_iret hx hb hr hlocks hP hK hD hS ⟨rfl, rfl⟩ d_T_store_27
set_option maxHeartbeats 4000000 in
set_option maxRecDepth 100000 in
theorem c_T_kept (l : Launch) (D : va_G) (G : Nat → Nat) (kc : Nat → ClassId) (sz : Nat) (u : TC) (q : Nat) (hq : q < 20) : XMi l y_T_kept k_T_kept { frames := 0, cells := 0, slots := 0, locals := 0 } D vwCl (wT G kc) (tyTs kc) u sz [.ref (G 0), .int (nI q)] (fun r u1 => r = (if q < 16 then tLa u q else tRa u (q - 16)) ∧ u1 = u) := by
  refine xb_ofi (cc := b_T_kept) (maxL := 2) (ret := some .int) (by decide) rfl (Nat.le_of_ble_eq_true rfl) ?_
  intro p e s m below meth c A ls hsz hx hb hml hr hlocks hts hown hP hK hD hA hl
  have hl : lv_has ls 2 [(0, .ref (G 0)), (1, .int (nI q))] := hl
  have hS : va_S A s.heap s.heap [] := va_S.rf
  by_cases h1 : q < 16
  · skip
    refine lv_iload_n hx hb d_T_kept_0 rfl (lv_at hl 1 rfl) ?_
    refine lv_if_lt (tgt := 10) hx hb d_T_kept_1 (by decide) (fun c9 => absurd c9 (nI_pos (by omega))) (fun _ => ?_)
    refine lv_iload_n hx hb d_T_kept_4 rfl (lv_at hl 1 rfl) ?_
    refine lv_bipush (v := 20) hx hb d_T_kept_5 (by decide) ?_
    refine lv_icmp_lt (tgt := 20) hx hb d_T_kept_7 (by decide) (fun _ => ?_) (fun c9 => absurd (nI_lt (a := q) (b := 20) (by omega) (by decide)) c9)
    refine lv_iload_n hx hb d_T_kept_20 rfl (lv_at hl 1 rfl) ?_
    refine lv_bipush (v := 16) hx hb d_T_kept_21 (by decide) ?_
    refine lv_icmp_ge (tgt := 35) hx hb d_T_kept_23 (by decide) (fun c9 => absurd c9 (nI_ge (a := q) (b := 16) (by omega) (by omega))) (fun _ => ?_)
    refine lv_aload_n hx hb d_T_kept_26 rfl (lv_at hl 0 rfl) ?_
    refine xt_g1 hx hb hts hown hK hP d_T_kept_27 ?_
    refine lv_iload_n hx hb d_T_kept_30 rfl (lv_at hl 1 rfl) ?_
    refine xt_l1 hx hb hK hP q rfl (by omega) d_T_kept_31 ?_
    refine lv_goto (tgt := 44) hx hb d_T_kept_32 (by decide) ?_
    exact xc_iret hx hb hr hlocks hP hK hD hS ⟨by rw [if_pos h1], rfl⟩ d_T_kept_44
  · skip
    refine lv_iload_n hx hb d_T_kept_0 rfl (lv_at hl 1 rfl) ?_
    refine lv_if_lt (tgt := 10) hx hb d_T_kept_1 (by decide) (fun c9 => absurd c9 (nI_pos (by omega))) (fun _ => ?_)
    refine lv_iload_n hx hb d_T_kept_4 rfl (lv_at hl 1 rfl) ?_
    refine lv_bipush (v := 20) hx hb d_T_kept_5 (by decide) ?_
    refine lv_icmp_lt (tgt := 20) hx hb d_T_kept_7 (by decide) (fun _ => ?_) (fun c9 => absurd (nI_lt (a := q) (b := 20) (by omega) (by decide)) c9)
    refine lv_iload_n hx hb d_T_kept_20 rfl (lv_at hl 1 rfl) ?_
    refine lv_bipush (v := 16) hx hb d_T_kept_21 (by decide) ?_
    refine lv_icmp_ge (tgt := 35) hx hb d_T_kept_23 (by decide) (fun _ => ?_) (fun c9 => absurd (nI_le (a := 16) (b := q) (by omega) (by omega)) c9)
    refine lv_aload_n hx hb d_T_kept_35 rfl (lv_at hl 0 rfl) ?_
    refine xt_g5 hx hb hts hown hK hP d_T_kept_36 ?_
    refine lv_iload_n hx hb d_T_kept_39 rfl (lv_at hl 1 rfl) ?_
    refine lv_bipush (v := 16) hx hb d_T_kept_40 (by decide) ?_
    refine xa_isub hx hb q 16 rfl rfl (by omega) d_T_kept_42 ?_
    refine xt_l5 hx hb hK hP (q - 16) rfl (by omega) d_T_kept_43 ?_
    exact xc_iret hx hb hr hlocks hP hK hD hS ⟨by rw [if_neg h1], rfl⟩ d_T_kept_44
set_option maxHeartbeats 4000000 in
set_option maxRecDepth 100000 in
theorem lp_T_flush1 {p : Program} {l : Launch} {e : Env} {s : State} {m : MethodId} {args : Array Value} {below : List Frame} {meth : Method} {c : Code} {Q : State → Prop} {D : va_G} {A : Nat → Prop} {G : Nat → Nat} {kc : Nat → ClassId} {c1 : Cond} (hx : p.tables.exec = Jvm.exec) (hb : c.code = b_T_flush) (hml : c.maxLocals = 3) (hown : s.vm.findClass "TagMemory" = some m.cls) (hts : ∀ w ∈ c1 :: TB, w.before args s = true) (hK : va_K D vwCl (tyTs kc) s) (hA : ∀ q, s.heap.size ≤ q → A q) (u : TC) (kk : ∀ (acc : Int32) (u1 : TC) (H : Heap) (locs : List Loc) (ls : Array Slot), (u1, acc) = fFlL 16 0 u 0 → va_P D vwCl (wT G kc u1) H → va_D A (wT G kc u1) → va_S A s.heap H locs → lv_has ls 3 [(2, .int (nI 16)), (1, .int acc), (0, .ref (G 0))] → W p l e ({ frames := 4, cells := 0, slots := 0, locals := 89 }) s m args below meth c H locs 0 0 Q (F0 m 27 ls [])) : ∀ (d i : Nat), i + d = 16 → ∀ (acc : Int32) (u1 : TC) (H : Heap) (locs : List Loc) (ls : Array Slot), fFlL d i u1 acc = fFlL 16 0 u 0 → tI u1 → va_P D vwCl (wT G kc u1) H → va_D A (wT G kc u1) → va_S A s.heap H locs → lv_has ls 3 [(2, .int (nI i)), (1, .int acc), (0, .ref (G 0))] → W p l e ({ frames := 4, cells := 0, slots := 0, locals := 89 }) s m args below meth c H locs 0 0 Q (F0 m 4 ls []) := by
  intro d
  induction d with
  | zero =>
    intro i hi acc u1 H locs ls hu hI hP hD hS hl
    obtain rfl : i = 16 := by omega
    refine lv_iload_n hx hb d_T_flush_4 rfl (lv_at hl 0 rfl) ?_
    refine lv_bipush (v := 16) hx hb d_T_flush_5 (by decide) ?_
    refine lv_icmp_ge (tgt := 27) hx hb d_T_flush_7 (by decide) (fun _ => ?_) (fun c9 => absurd (nI_le (a := 16) (b := 16) (by omega) (by omega)) c9)
    exact kk acc u1 H locs ls hu hP hD hS hl
  | succ d ih =>
    intro i hi acc u1 H locs ls hu hI hP hD hS hl
    have hi16 : i < 16 := by omega
    by_cases h2 : rLineGo u1 i = 0
    · skip
      refine lv_iload_n hx hb d_T_flush_4 rfl (lv_at hl 0 rfl) ?_
      refine lv_bipush (v := 16) hx hb d_T_flush_5 (by decide) ?_
      refine lv_icmp_ge (tgt := 27) hx hb d_T_flush_7 (by decide) (fun c9 => absurd c9 (nI_ge (a := i) (b := 16) (by omega) (by omega))) (fun _ => ?_)
      refine lv_aload_n hx hb d_T_flush_10 rfl (lv_at hl 2 rfl) ?_
      refine lv_iload_n hx hb d_T_flush_11 rfl (lv_at hl 0 rfl) ?_
      refine xc_calli (n := 1) (C := "TagMemory") hx hb hml hown hts (c_T_letLineGo l D G kc _ _ i (by omega) (by exact hI)) (tb_V wm_61 wm_63 ws_0 wm_1 wm_64) rfl rfl rfl (by decide +kernel) ⟨Nat.le_of_ble_eq_true rfl, Nat.le_of_ble_eq_true rfl⟩ hK hP hD hS hA rfl rfl rfl rfl hl.1 rfl (Nat.le_of_ble_eq_true rfl) d_T_flush_12 ⟨Nat.zero_le _, Nat.zero_le _⟩ (fun r u1 H locs hw hP hD hS => ?_)
      obtain ⟨e1, e2⟩ := hw
      subst e1
      rw [e2] at hP hD; clear e2 u1
      refine lv_if_eq (tgt := 21) hx hb d_T_flush_15 (by decide) (fun _ => ?_) (fun c9 => absurd h2 c9)
      refine lv_iinc (v := nI (i + 1)) (lv' := [(2, .int (nI (i + 1))), (1, .int _), (0, .ref _)]) hx hb d_T_flush_21 hl (k := 0) rfl (nI_add _ _) (by decide) rfl (fun ls hl => ?_)
      refine lv_goto (tgt := 4) hx hb d_T_flush_24 (by decide) ?_
      exact ih (i + 1) (by omega) _ _ _ _ _ (by rw [← hu]; show _ = fFlL d (i + 1) (fLineGo u1 i) (acc + rLineGo u1 i); rw [h2, Int32.add_zero]) (tI_lineGo hI hi16) hP hD hS (lv_sub hl [0, 1, 2] rfl)
    · have h3 : rLineGo u1 i = 1 := (rLineGo_01 u1 i).resolve_left h2
      refine lv_iload_n hx hb d_T_flush_4 rfl (lv_at hl 0 rfl) ?_
      refine lv_bipush (v := 16) hx hb d_T_flush_5 (by decide) ?_
      refine lv_icmp_ge (tgt := 27) hx hb d_T_flush_7 (by decide) (fun c9 => absurd c9 (nI_ge (a := i) (b := 16) (by omega) (by omega))) (fun _ => ?_)
      refine lv_aload_n hx hb d_T_flush_10 rfl (lv_at hl 2 rfl) ?_
      refine lv_iload_n hx hb d_T_flush_11 rfl (lv_at hl 0 rfl) ?_
      refine xc_calli (n := 1) (C := "TagMemory") hx hb hml hown hts (c_T_letLineGo l D G kc _ _ i (by omega) (by exact hI)) (tb_V wm_61 wm_63 ws_0 wm_1 wm_64) rfl rfl rfl (by decide +kernel) ⟨Nat.le_of_ble_eq_true rfl, Nat.le_of_ble_eq_true rfl⟩ hK hP hD hS hA rfl rfl rfl rfl hl.1 rfl (Nat.le_of_ble_eq_true rfl) d_T_flush_12 ⟨Nat.zero_le _, Nat.zero_le _⟩ (fun r u1 H locs hw hP hD hS => ?_)
      obtain ⟨e1, e2⟩ := hw
      subst e1
      rw [e2] at hP hD; clear e2 u1
      refine lv_if_eq (tgt := 21) hx hb d_T_flush_15 (by decide) (fun c9 => absurd c9 h2) (fun _ => ?_)
      refine lv_iinc (lv' := [(1, .int _), (2, .int (nI i)), (0, .ref _)]) hx hb d_T_flush_18 hl (k := 1) rfl rfl (by decide) rfl (fun ls hl => ?_)
      refine lv_iinc (v := nI (i + 1)) (lv' := [(2, .int (nI (i + 1))), (1, .int _), (0, .ref _)]) hx hb d_T_flush_21 hl (k := 1) rfl (nI_add _ _) (by decide) rfl (fun ls hl => ?_)
      refine lv_goto (tgt := 4) hx hb d_T_flush_24 (by decide) ?_
      exact ih (i + 1) (by omega) _ _ _ _ _ (by rw [← hu]; show _ = fFlL d (i + 1) (fLineGo u1 i) (acc + rLineGo u1 i); rw [h3]; rfl) (tI_lineGo hI hi16) hP hD hS (lv_sub hl [0, 1, 2] rfl)
set_option maxHeartbeats 4000000 in
set_option maxRecDepth 100000 in
theorem lp_T_flush2 {p : Program} {l : Launch} {e : Env} {s : State} {m : MethodId} {args : Array Value} {below : List Frame} {meth : Method} {c : Code} {Q : State → Prop} {D : va_G} {A : Nat → Prop} {G : Nat → Nat} {kc : Nat → ClassId} {c1 : Cond} (hx : p.tables.exec = Jvm.exec) (hb : c.code = b_T_flush) (hml : c.maxLocals = 3) (hown : s.vm.findClass "TagMemory" = some m.cls) (hts : ∀ w ∈ c1 :: TB, w.before args s = true) (hK : va_K D vwCl (tyTs kc) s) (hA : ∀ q, s.heap.size ≤ q → A q) (u : TC) (acc : Int32) (kk : ∀ (u1 : TC) (H : Heap) (locs : List Loc) (ls : Array Slot), u1 = fFlR 4 0 u → va_P D vwCl (wT G kc u1) H → va_D A (wT G kc u1) → va_S A s.heap H locs → lv_has ls 3 [(2, .int (nI 4)), (1, .int acc), (0, .ref (G 0))] → W p l e ({ frames := 4, cells := 0, slots := 0, locals := 89 }) s m args below meth c H locs 0 0 Q (F0 m 45 ls [])) : ∀ (d i : Nat), i + d = 4 → ∀ (u1 : TC) (H : Heap) (locs : List Loc) (ls : Array Slot), fFlR d i u1 = fFlR 4 0 u → tI u1 → va_P D vwCl (wT G kc u1) H → va_D A (wT G kc u1) → va_S A s.heap H locs → lv_has ls 3 [(2, .int (nI i)), (1, .int acc), (0, .ref (G 0))] → W p l e ({ frames := 4, cells := 0, slots := 0, locals := 89 }) s m args below meth c H locs 0 0 Q (F0 m 29 ls []) := by
  intro d
  induction d with
  | zero =>
    intro i hi u1 H locs ls hu hI hP hD hS hl
    obtain rfl : i = 4 := by omega
    refine lv_iload_n hx hb d_T_flush_29 rfl (lv_at hl 0 rfl) ?_
    refine lv_iconst (v := 4) hx hb d_T_flush_30 (by decide) ?_
    refine lv_icmp_ge (tgt := 45) hx hb d_T_flush_31 (by decide) (fun _ => ?_) (fun c9 => absurd (nI_le (a := 4) (b := 4) (by omega) (by omega)) c9)
    exact kk u1 H locs ls hu hP hD hS hl
  | succ d ih =>
    intro i hi u1 H locs ls hu hI hP hD hS hl
    have hi4 : i < 4 := by omega
    refine lv_iload_n hx hb d_T_flush_29 rfl (lv_at hl 0 rfl) ?_
    refine lv_iconst (v := 4) hx hb d_T_flush_30 (by decide) ?_
    refine lv_icmp_ge (tgt := 45) hx hb d_T_flush_31 (by decide) (fun c9 => absurd c9 (nI_ge (a := i) (b := 4) (by omega) (by omega))) (fun _ => ?_)
    refine lv_aload_n hx hb d_T_flush_34 rfl (lv_at hl 2 rfl) ?_
    refine lv_iload_n hx hb d_T_flush_35 rfl (lv_at hl 0 rfl) ?_
    refine xc_callv (n := 1) (C := "TagMemory") hx hb hml hown hts (c_T_letRowGo l D G kc _ _ i (by omega) (by exact hI)) (tb_V wm_82 wm_84 ws_3 wm_1 wm_85) rfl rfl rfl (by decide +kernel) ⟨Nat.le_of_ble_eq_true rfl, Nat.le_of_ble_eq_true rfl⟩ hK hP hD hS hA rfl rfl rfl rfl hl.1 rfl (Nat.le_of_ble_eq_true rfl) d_T_flush_36 ⟨Nat.zero_le _, Nat.zero_le _⟩ (fun u1 H locs hw hP hD hS => ?_)
    rw [hw] at hP hD; clear hw u1
    refine lv_iinc (v := nI (i + 1)) (lv' := [(2, .int (nI (i + 1))), (1, .int _), (0, .ref _)]) hx hb d_T_flush_39 hl (k := 0) rfl (nI_add _ _) (by decide) rfl (fun ls hl => ?_)
    refine lv_goto (tgt := 29) hx hb d_T_flush_42 (by decide) ?_
    exact ih (i + 1) (by omega) _ _ _ _ hu (tI_rowGo hI) hP hD hS (lv_sub hl [0, 1, 2] rfl)
set_option maxHeartbeats 4000000 in
set_option maxRecDepth 100000 in
theorem c_T_flush (l : Launch) (D : va_G) (G : Nat → Nat) (kc : Nat → ClassId) (sz : Nat) (u : TC) (hI : tI u) : XMi l y_T_flush k_T_flush { frames := 4, cells := 0, slots := 0, locals := 89 } D vwCl (wT G kc) (tyTs kc) u sz [.ref (G 0)] (fun r u1 => r = rFlush u ∧ u1 = fFlush u) := by
  refine xb_ofi (cc := b_T_flush) (maxL := 3) (ret := some .int) (by decide) rfl (Nat.le_of_ble_eq_true rfl) ?_
  intro p e s m below meth c A ls hsz hx hb hml hr hlocks hts hown hP hK hD hA hl
  have hl : lv_has ls 3 [(0, .ref (G 0))] := hl
  have hS : va_S A s.heap s.heap [] := va_S.rf
  refine lv_iconst (v := 0) hx hb d_T_flush_0 (by decide) ?_
  refine lv_istore_n (lv' := [(1, .int (nI 0)), (0, .ref _)]) hx hb d_T_flush_1 rfl hl (by decide) rfl (fun ls hl => ?_)
  refine lv_iconst (v := 0) hx hb d_T_flush_2 (by decide) ?_
  refine lv_istore_n (lv' := [(2, .int (nI 0)), (1, .int (nI 0)), (0, .ref _)]) hx hb d_T_flush_3 rfl hl (by decide) rfl (fun ls hl => ?_)
  refine lp_T_flush1 hx hb hml hown hts hK hA u ?_ 16 0 rfl _ _ _ _ _ rfl hI hP hD hS (lv_sub hl [0, 1, 2] rfl)
  intro acc u1 H locs ls he hP hD hS hl
  have hI1 : tI u1 := by have := tI_flL 16 0 u 0 (by omega) hI; rw [← he] at this; exact this
  refine lv_iconst (v := 0) hx hb d_T_flush_27 (by decide) ?_
  refine lv_istore_n (lv' := [(2, .int (nI 0)), (1, .int _), (0, .ref _)]) hx hb d_T_flush_28 rfl hl (by decide) rfl (fun ls hl => ?_)
  refine lp_T_flush2 hx hb hml hown hts hK hA u1 acc ?_ 4 0 rfl _ _ _ _ rfl hI1 hP hD hS (lv_sub hl [0, 1, 2] rfl)
  intro u2 H locs ls he2 hP hD hS hl
  refine lv_iload_n hx hb d_T_flush_45 rfl (lv_at hl 1 rfl) ?_
  exact xc_iret hx hb hr hlocks hP hK hD hS ⟨by show acc = (fFlL 16 0 u 0).2; rw [← he], by rw [he2]; show fFlR 4 0 u1 = fFlR 4 0 (fFlL 16 0 u 0).1; rw [← he]⟩ d_T_flush_46
end
section
/-! static methods that read an array; sums -/
def XMa (l : Launch) (y : MethodName) (k : Cond) (rm : Room) (D : va_G) (cl : List vw_C) (a : Nat) (cA : ClassId) (n : Nat) (f : Nat → Int32) (ty : FieldType) (post : Int32 → Prop) : Prop :=
  Met l y (k :: TB) rm (va_Pc [.ref a] (fun U => va_P D cl [(a, .inl (cA, n, .inl f))] U.heap ∧ va_K D cl [(cA, ty)] U)) (vp_Si post) 0 0 (fun _ => False)
theorem xb_ofa {l : Launch} {y : MethodName} {k : Cond} {rm : Room} {D : va_G} {cl : List vw_C} {a : Nat} {cA : ClassId} {n : Nat} {f : Nat → Int32} {ty : FieldType} {post : Int32 → Prop} {cc : ByteArray} {maxL : Nat} {ret : Option FieldType} (hy : plainName y.cls = true) (hk : k = Cond.code y cc maxL ret) (hlen : (lg_sl [.ref a]).length ≤ maxL)
    (body : ∀ (p : Program) (e : Env) (s : State) (m : MethodId) (below : List Frame) (meth : Method) (c : Code) (ls : Array Slot), p.tables.exec = Jvm.exec → c.code = cc → c.maxLocals = maxL → meth.sig.returnType = ret → meth.locks = false → (∀ w ∈ k :: TB, w.before #[.ref a] s = true) → s.vm.findClass y.cls = some m.cls → va_P D cl [(a, .inl (cA, n, .inl f))] s.heap → va_K D cl [(cA, ty)] s → lv_has ls maxL (lv_args 0 [.ref a]) →
      W p l e rm s m #[.ref a] below meth c s.heap [] 0 0 (MQ below (vp_Si post) #[.ref a] s 0 0 (fun _ => False)) (F0 m 0 ls [])) : XMa l y k rm D cl a cA n f ty post := by
  refine Met.ofW (cc := cc) (maxL := maxL) (ret := ret) hy (by rw [hk]) ?_
  intro p e s m args below meth c s₁ B hml hv
  obtain ⟨rfl, hP, hK⟩ := hv
  have hl := lv_entry [.ref a] (n := maxL) hlen
  rw [lg_entry_eq]
  generalize (lg_sl [.ref a] ++ List.replicate (maxL - (lg_sl [.ref a]).length) Slot.unset).toArray = ls at hl ⊢
  exact body p e s m below meth c ls B.exec B.bytes hml B.returns B.notSynchronized (atoms_spec (ws := k :: TB) B.pre) (findClass_of_methodNamed B.named) hP hK hl
section XF
variable {p : Program} {l : Launch} {e : Env} {R : Room} {s : State} {m : MethodId} {args : Array Value} {below : List Frame} {meth : Method} {c : Code} {H : Heap} {locs : List Loc} {cells slots : Nat} {Q : State → Prop}
variable {cc : ByteArray} {pc : Nat} {ls : Array Slot} {rest : List Value} {y : MethodName} {k c1 : Cond} {rm : Room} {b idx maxL : Nat} {bytes : ByteArray} {ret : Option FieldType} {nL : Nat} {D : va_G} {cl : List vw_C} {a : Nat} {cA : ClassId} {n : Nat} {f : Nat → Int32} {ty : FieldType}
theorem xc_calla {post : Int32 → Prop} {C : String} (hx : p.tables.exec = Jvm.exec) (hb : c.code = cc) (hml : c.maxLocals = nL) (hown : s.vm.findClass C = some m.cls) (hts : ∀ w ∈ c1 :: TB, w.before args s = true)
    (hM : XMa l y k rm D cl a cA n f ty post) (hG : GoodIn (c1 :: TB) (wsS C idx y (k :: TB))) (hk : k = Cond.code y bytes maxL ret) (hrc : rm.cells = 0) (hrs : rm.slots = 0)
    (hd : y.cls = C ∧ y.cls ≠ "java/lang/invoke/MethodHandle" ∧ y.cls ≠ "java/lang/invoke/VarHandle" ∧ (parseMethodDescriptor y.desc).map (fun d => d.parameters.length) = some 1) (hR : rm.frames + 1 ≤ R.frames ∧ 8 + (maxL + 11) + rm.locals ≤ R.locals)
    (hP : va_P D cl [(a, .inl (cA, n, .inl f))] H) (hK : va_K D cl [(cA, ty)] s)
    (hsize : ls.size = nL) (hW : (rest.map fun v => v.category).sum ≤ 8) (hdg : decode cc pc = .ok (.invokestatic idx, 3)) (hf : cells ≤ R.cells ∧ slots ≤ R.slots)
    (kk : ∀ r : Int32, post r → W p l e R s m args below meth c H locs cells slots Q (F0 m (pc + 3) ls (.int r :: rest))) : W p l e R s m args below meth c H locs cells slots Q (F0 m pc ls (.ref a :: rest)) :=
  vp_callSi (W.runS (As := [.ref a]) (rest := rest) ⟨hx, hb, hml, hown, hts⟩ hM (cwS 1 hts hG (by rw [hk]) hrc hrs hd hR) ⟨fun a U g mk q => ⟨q.1, q.2.1, va_K.moved (u := U) (U := U.calling g mk a) (Vm.Alike.refl U.vm) q.2.2⟩, fun U hU hW => ⟨rfl, by rw [hU]; exact hP, va_K.moved hW.alike hK⟩⟩ rfl rfl hsize rfl (lv_room hW) hdg hf) kk
end XF
def fUsh (x : Int32) (k : Int32) : Int32 := (x.toUInt32 >>> (k.toUInt32 &&& Int32.toUInt32 31)).toInt32
def fBc1 (x : Int32) : Int32 := x - (fUsh x 1 &&& 1431655765)
def fBc2 (x : Int32) : Int32 := (x &&& 858993459) + (fUsh x 2 &&& 858993459)
def fBc3 (x : Int32) : Int32 := (x + fUsh x 4) &&& 252645135
def fBc4 (x : Int32) : Int32 := x + fUsh x 8
def fBc5 (x : Int32) : Int32 := x + fUsh x 16
def fBc (x : Int32) : Int32 := fBc5 (fBc4 (fBc3 (fBc2 (fBc1 x)))) &&& 63
def fSumR (u : TC) : Nat → Nat → Int32 → Int32
  | 0, _, a => a
  | d + 1, i, a => fSumR u d (i + 1) (a + fBc (fPeek u i))
def fBehind (u : TC) (n : Nat) : Int32 := ftol n (fPeek u (n / 16))
def fSumL (u : TC) : Nat → Nat → Int32 → Int32
  | 0, _, a => a
  | d + 1, i, a => fSumL u d (i + 1) (if tLa u i = -1 then a else a + (fBc (tLt u i) - fBc (fBehind u (tLa u i).toNatClampNeg)))
def fAll (u : TC) : Int32 := fSumL u 16 0 (fSumR u 32 0 0)
def rCount (u : TC) (w : Nat) : Int32 := if w = 0 then tN0 u else if w = 1 then tN1 u else if w = 2 then tN2 u else if w = 3 then tN3 u else if w = 4 then fAll u else if w = 5 then fCntNe (-1) (tLa u) 16 0 0 else if w = 6 then fCntNe 0 (tLc u) 16 0 0 else if w = 7 then fCntNe (-1) (tRa u) 4 0 0 else fCntNe 0 (tRc u) 4 0 0
/-- what check looks for isn't there -/
def tG (u : TC) : Prop := (∀ q n, q < 16 → n < 512 → tLa u q = nI n → tLc u q = 0 → (∀ w, w < 4 → tLw u (q * 4 + w) = tSt u (n * 4 + w)) ∧ tLt u q = fBehind u n) ∧ (∀ q k, q < 4 → k < 32 → tRa u q = nI k → tRc u q = 0 → tRt u q = tSt u (2048 + k))
end
section
set_option maxHeartbeats 4000000 in
set_option maxRecDepth 100000 in
theorem c_J_bitCount (l : Launch) (x : Int32) : XMs l y_J_bitCount k_J_bitCount { frames := 0, cells := 0, slots := 0, locals := 0 } [.int x] (fun r => r = fBc x) := by
  refine xb_ofs (cc := b_J_bitCount) (maxL := 1) (ret := some .int) (by decide) rfl (Nat.le_of_ble_eq_true rfl) ?_
  intro p e s m below meth c ls hx hb hml hr hlocks hts hown hl
  have hl : lv_has ls 1 [(0, .int x)] := hl
  refine lv_iload_n hx hb d_J_bitCount_0 rfl (lv_at hl 0 rfl) ?_
  refine lv_iload_n hx hb d_J_bitCount_1 rfl (lv_at hl 0 rfl) ?_
  refine lv_iconst (v := 1) hx hb d_J_bitCount_2 (by decide) ?_
  refine lv_iushr hx hb d_J_bitCount_3 rfl ?_
  refine lv_ldcw (v := 1431655765) hx hb hown (hts (Cond.constant "java/lang/Integer" 265 (1431655765 : Int32)) (List.mem_cons_of_mem _ wm_335)) d_J_bitCount_4 ?_
  refine lv_iand hx hb d_J_bitCount_7 ?_
  refine lv_isub hx hb d_J_bitCount_8 ?_
  refine xa_top (fBc1 x) rfl ?_
  refine lv_istore_n (lv' := [(0, .int _)]) hx hb d_J_bitCount_9 rfl hl (by decide) rfl (fun ls hl => ?_)
  refine lv_iload_n hx hb d_J_bitCount_10 rfl (lv_at hl 0 rfl) ?_
  refine lv_ldcw (v := 858993459) hx hb hown (hts (Cond.constant "java/lang/Integer" 266 (858993459 : Int32)) (List.mem_cons_of_mem _ wm_336)) d_J_bitCount_11 ?_
  refine lv_iand hx hb d_J_bitCount_14 ?_
  refine lv_iload_n hx hb d_J_bitCount_15 rfl (lv_at hl 0 rfl) ?_
  refine lv_iconst (v := 2) hx hb d_J_bitCount_16 (by decide) ?_
  refine lv_iushr hx hb d_J_bitCount_17 rfl ?_
  refine lv_ldcw (v := 858993459) hx hb hown (hts (Cond.constant "java/lang/Integer" 266 (858993459 : Int32)) (List.mem_cons_of_mem _ wm_336)) d_J_bitCount_18 ?_
  refine lv_iand hx hb d_J_bitCount_21 ?_
  refine lv_iadd hx hb d_J_bitCount_22 ?_
  refine xa_top (fBc2 (fBc1 x)) rfl ?_
  refine lv_istore_n (lv' := [(0, .int _)]) hx hb d_J_bitCount_23 rfl hl (by decide) rfl (fun ls hl => ?_)
  refine lv_iload_n hx hb d_J_bitCount_24 rfl (lv_at hl 0 rfl) ?_
  refine lv_iload_n hx hb d_J_bitCount_25 rfl (lv_at hl 0 rfl) ?_
  refine lv_iconst (v := 4) hx hb d_J_bitCount_26 (by decide) ?_
  refine lv_iushr hx hb d_J_bitCount_27 rfl ?_
  refine lv_iadd hx hb d_J_bitCount_28 ?_
  refine lv_ldcw (v := 252645135) hx hb hown (hts (Cond.constant "java/lang/Integer" 267 (252645135 : Int32)) (List.mem_cons_of_mem _ wm_337)) d_J_bitCount_29 ?_
  refine lv_iand hx hb d_J_bitCount_32 ?_
  refine xa_top (fBc3 (fBc2 (fBc1 x))) rfl ?_
  refine lv_istore_n (lv' := [(0, .int _)]) hx hb d_J_bitCount_33 rfl hl (by decide) rfl (fun ls hl => ?_)
  refine lv_iload_n hx hb d_J_bitCount_34 rfl (lv_at hl 0 rfl) ?_
  refine lv_iload_n hx hb d_J_bitCount_35 rfl (lv_at hl 0 rfl) ?_
  refine lv_bipush (v := 8) hx hb d_J_bitCount_36 (by decide) ?_
  refine lv_iushr hx hb d_J_bitCount_38 rfl ?_
  refine lv_iadd hx hb d_J_bitCount_39 ?_
  refine xa_top (fBc4 (fBc3 (fBc2 (fBc1 x)))) rfl ?_
  refine lv_istore_n (lv' := [(0, .int _)]) hx hb d_J_bitCount_40 rfl hl (by decide) rfl (fun ls hl => ?_)
  refine lv_iload_n hx hb d_J_bitCount_41 rfl (lv_at hl 0 rfl) ?_
  refine lv_iload_n hx hb d_J_bitCount_42 rfl (lv_at hl 0 rfl) ?_
  refine lv_bipush (v := 16) hx hb d_J_bitCount_43 (by decide) ?_
  refine lv_iushr hx hb d_J_bitCount_45 rfl ?_
  refine lv_iadd hx hb d_J_bitCount_46 ?_
  refine xa_top (fBc5 (fBc4 (fBc3 (fBc2 (fBc1 x))))) rfl ?_
  refine lv_istore_n (lv' := [(0, .int _)]) hx hb d_J_bitCount_47 rfl hl (by decide) rfl (fun ls hl => ?_)
  refine lv_iload_n hx hb d_J_bitCount_48 rfl (lv_at hl 0 rfl) ?_
  refine lv_bipush (v := 63) hx hb d_J_bitCount_49 (by decide) ?_
  refine lv_iand hx hb d_J_bitCount_51 ?_
  exact xc_sret hx hb hr hlocks rfl d_J_bitCount_52
set_option maxHeartbeats 4000000 in
set_option maxRecDepth 100000 in
theorem lp_T_howManyKept {p : Program} {l : Launch} {e : Env} {s : State} {m : MethodId} {args : Array Value} {below : List Frame} {meth : Method} {c : Code} {Q : State → Prop} {D : va_G} {a : Nat} {cA : ClassId} {n : Nat} {f : Nat → Int32} (hn : n < 2 ^ 30) (hx : p.tables.exec = Jvm.exec) (hb : c.code = b_T_howManyKept) (hP : va_P D vwCl [(a, .inl (cA, n, .inl f))] s.heap) (hK : va_K D vwCl [(cA, .int)] s) (kk : ∀ (acc : Int32) (ls : Array Slot), acc = fCntNe (-1) f n 0 0 → lv_has ls 6 [(4, .int (nI n)), (1, .int acc), (3, .int (nI n)), (2, .ref a), (0, .ref a)] → W p l e ({ frames := 0, cells := 0, slots := 0, locals := 0 }) s m args below meth c s.heap [] 0 0 Q (F0 m 37 ls [])) : ∀ (d i : Nat), i + d = n → ∀ (acc : Int32) (ls : Array Slot), fCntNe (-1) f d i acc = fCntNe (-1) f n 0 0 → lv_has ls 6 [(4, .int (nI i)), (1, .int acc), (3, .int (nI n)), (2, .ref a), (0, .ref a)] → W p l e ({ frames := 0, cells := 0, slots := 0, locals := 0 }) s m args below meth c s.heap [] 0 0 Q (F0 m 10 ls []) := by
  intro d
  induction d with
  | zero =>
    intro i hi acc ls hu hl
    obtain rfl : i = n := by omega
    refine lv_iload hx hb d_T_howManyKept_10 (lv_at hl 0 rfl) ?_
    refine lv_iload_n hx hb d_T_howManyKept_12 rfl (lv_at hl 2 rfl) ?_
    refine lv_icmp_ge (tgt := 37) hx hb d_T_howManyKept_13 (by decide) (fun _ => ?_) (fun c9 => absurd (nI_le (a := i) (b := i) (by omega) (by omega)) c9)
    exact kk acc ls hu hl
  | succ d ih =>
    intro i hi acc ls hu hl
    have hin : i < n := by omega
    by_cases h2 : f i = (-1)
    · skip
      refine lv_iload hx hb d_T_howManyKept_10 (lv_at hl 0 rfl) ?_
      refine lv_iload_n hx hb d_T_howManyKept_12 rfl (lv_at hl 2 rfl) ?_
      refine lv_icmp_ge (tgt := 37) hx hb d_T_howManyKept_13 (by decide) (fun c9 => absurd c9 (nI_ge (a := i) (b := n) (by omega) (by omega))) (fun _ => ?_)
      refine lv_aload_n hx hb d_T_howManyKept_16 rfl (lv_at hl 3 rfl) ?_
      refine lv_iload hx hb d_T_howManyKept_17 (lv_at hl 0 rfl) ?_
      refine xa_iald hx hb hK hP 0 0 rfl rfl (by omega) i rfl hin d_T_howManyKept_19 ?_
      refine lv_istore (lv' := [(5, .int _), (4, .int (nI i)), (1, .int _), (3, .int (nI n)), (2, .ref _), (0, .ref _)]) hx hb d_T_howManyKept_20 hl (by decide) rfl (fun ls hl => ?_)
      refine lv_iload hx hb d_T_howManyKept_22 (lv_at hl 0 rfl) ?_
      refine lv_iconst (v := (-1)) hx hb d_T_howManyKept_24 (by decide) ?_
      refine lv_icmp_eq (tgt := 31) hx hb d_T_howManyKept_25 (by decide) (fun _ => ?_) (fun c9 => absurd h2 c9)
      refine lv_iinc (v := nI (i + 1)) (lv' := [(4, .int (nI (i + 1))), (5, .int _), (1, .int _), (3, .int (nI n)), (2, .ref _), (0, .ref _)]) hx hb d_T_howManyKept_31 hl (k := 1) rfl (nI_add _ _) (by decide) rfl (fun ls hl => ?_)
      refine lv_goto (tgt := 10) hx hb d_T_howManyKept_34 (by decide) ?_
      exact ih (i + 1) (by omega) _ _ (by rw [← hu]; show _ = fCntNe (-1) f d (i + 1) (if f i = (-1) then acc else acc + 1); rw [if_pos h2]) (lv_sub hl [0, 2, 3, 4, 5] rfl)
    · skip
      refine lv_iload hx hb d_T_howManyKept_10 (lv_at hl 0 rfl) ?_
      refine lv_iload_n hx hb d_T_howManyKept_12 rfl (lv_at hl 2 rfl) ?_
      refine lv_icmp_ge (tgt := 37) hx hb d_T_howManyKept_13 (by decide) (fun c9 => absurd c9 (nI_ge (a := i) (b := n) (by omega) (by omega))) (fun _ => ?_)
      refine lv_aload_n hx hb d_T_howManyKept_16 rfl (lv_at hl 3 rfl) ?_
      refine lv_iload hx hb d_T_howManyKept_17 (lv_at hl 0 rfl) ?_
      refine xa_iald hx hb hK hP 0 0 rfl rfl (by omega) i rfl hin d_T_howManyKept_19 ?_
      refine lv_istore (lv' := [(5, .int _), (4, .int (nI i)), (1, .int _), (3, .int (nI n)), (2, .ref _), (0, .ref _)]) hx hb d_T_howManyKept_20 hl (by decide) rfl (fun ls hl => ?_)
      refine lv_iload hx hb d_T_howManyKept_22 (lv_at hl 0 rfl) ?_
      refine lv_iconst (v := (-1)) hx hb d_T_howManyKept_24 (by decide) ?_
      refine lv_icmp_eq (tgt := 31) hx hb d_T_howManyKept_25 (by decide) (fun c9 => absurd c9 h2) (fun _ => ?_)
      refine lv_iinc (lv' := [(1, .int _), (5, .int _), (4, .int (nI i)), (3, .int (nI n)), (2, .ref _), (0, .ref _)]) hx hb d_T_howManyKept_28 hl (k := 2) rfl rfl (by decide) rfl (fun ls hl => ?_)
      refine lv_iinc (v := nI (i + 1)) (lv' := [(4, .int (nI (i + 1))), (1, .int _), (5, .int _), (3, .int (nI n)), (2, .ref _), (0, .ref _)]) hx hb d_T_howManyKept_31 hl (k := 2) rfl (nI_add _ _) (by decide) rfl (fun ls hl => ?_)
      refine lv_goto (tgt := 10) hx hb d_T_howManyKept_34 (by decide) ?_
      exact ih (i + 1) (by omega) _ _ (by rw [← hu]; show _ = fCntNe (-1) f d (i + 1) (if f i = (-1) then acc else acc + 1); rw [if_neg h2]; rfl) (lv_sub hl [0, 1, 3, 4, 5] rfl)
set_option maxHeartbeats 4000000 in
set_option maxRecDepth 100000 in
theorem c_T_howManyKept (l : Launch) (D : va_G) (a : Nat) (cA : ClassId) (n : Nat) (f : Nat → Int32) (hn : n < 2 ^ 30) : XMa l y_T_howManyKept k_T_howManyKept { frames := 0, cells := 0, slots := 0, locals := 0 } D vwCl a cA n f .int (fun r => r = fCntNe (-1) f n 0 0) := by
  refine xb_ofa (cc := b_T_howManyKept) (maxL := 6) (ret := some .int) (by decide) rfl (Nat.le_of_ble_eq_true rfl) ?_
  intro p e s m below meth c ls hx hb hml hr hlocks hts hown hP hK hl
  have hl : lv_has ls 6 [(0, .ref a)] := hl
  refine lv_iconst (v := 0) hx hb d_T_howManyKept_0 (by decide) ?_
  refine lv_istore_n (lv' := [(1, .int (nI 0)), (0, .ref _)]) hx hb d_T_howManyKept_1 rfl hl (by decide) rfl (fun ls hl => ?_)
  refine lv_aload_n hx hb d_T_howManyKept_2 rfl (lv_at hl 1 rfl) ?_
  refine lv_astore_n (lv' := [(2, .ref _), (1, .int (nI 0)), (0, .ref _)]) hx hb d_T_howManyKept_3 rfl hl (by decide) rfl (fun ls hl => ?_)
  refine lv_aload_n hx hb d_T_howManyKept_4 rfl (lv_at hl 0 rfl) ?_
  refine va_alen hx hb hK hP 0 0 rfl rfl (v := nI n) rfl d_T_howManyKept_5 ?_
  refine lv_istore_n (lv' := [(3, .int (nI n)), (2, .ref _), (1, .int (nI 0)), (0, .ref _)]) hx hb d_T_howManyKept_6 rfl hl (by decide) rfl (fun ls hl => ?_)
  refine lv_iconst (v := 0) hx hb d_T_howManyKept_7 (by decide) ?_
  refine lv_istore (lv' := [(4, .int (nI 0)), (3, .int (nI n)), (2, .ref _), (1, .int (nI 0)), (0, .ref _)]) hx hb d_T_howManyKept_8 hl (by decide) rfl (fun ls hl => ?_)
  refine lp_T_howManyKept hn hx hb hP hK ?_ n 0 (by omega) _ _ rfl (lv_sub hl [0, 3, 1, 2, 4] rfl)
  intro acc ls he hl
  refine lv_iload_n hx hb d_T_howManyKept_37 rfl (lv_at hl 1 rfl) ?_
  exact xc_sret hx hb hr hlocks he d_T_howManyKept_38
set_option maxHeartbeats 4000000 in
set_option maxRecDepth 100000 in
theorem lp_T_howManyChanged {p : Program} {l : Launch} {e : Env} {s : State} {m : MethodId} {args : Array Value} {below : List Frame} {meth : Method} {c : Code} {Q : State → Prop} {D : va_G} {a : Nat} {cA : ClassId} {n : Nat} {f : Nat → Int32} (hn : n < 2 ^ 30) (hx : p.tables.exec = Jvm.exec) (hb : c.code = b_T_howManyChanged) (hP : va_P D vwCl [(a, .inl (cA, n, .inl f))] s.heap) (hK : va_K D vwCl [(cA, .boolean)] s) (kk : ∀ (acc : Int32) (ls : Array Slot), acc = fCntNe 0 f n 0 0 → lv_has ls 6 [(4, .int (nI n)), (1, .int acc), (3, .int (nI n)), (2, .ref a), (0, .ref a)] → W p l e ({ frames := 0, cells := 0, slots := 0, locals := 0 }) s m args below meth c s.heap [] 0 0 Q (F0 m 36 ls [])) : ∀ (d i : Nat), i + d = n → ∀ (acc : Int32) (ls : Array Slot), fCntNe 0 f d i acc = fCntNe 0 f n 0 0 → lv_has ls 6 [(4, .int (nI i)), (1, .int acc), (3, .int (nI n)), (2, .ref a), (0, .ref a)] → W p l e ({ frames := 0, cells := 0, slots := 0, locals := 0 }) s m args below meth c s.heap [] 0 0 Q (F0 m 10 ls []) := by
  intro d
  induction d with
  | zero =>
    intro i hi acc ls hu hl
    obtain rfl : i = n := by omega
    refine lv_iload hx hb d_T_howManyChanged_10 (lv_at hl 0 rfl) ?_
    refine lv_iload_n hx hb d_T_howManyChanged_12 rfl (lv_at hl 2 rfl) ?_
    refine lv_icmp_ge (tgt := 36) hx hb d_T_howManyChanged_13 (by decide) (fun _ => ?_) (fun c9 => absurd (nI_le (a := i) (b := i) (by omega) (by omega)) c9)
    exact kk acc ls hu hl
  | succ d ih =>
    intro i hi acc ls hu hl
    have hin : i < n := by omega
    by_cases h2 : f i = 0
    · skip
      refine lv_iload hx hb d_T_howManyChanged_10 (lv_at hl 0 rfl) ?_
      refine lv_iload_n hx hb d_T_howManyChanged_12 rfl (lv_at hl 2 rfl) ?_
      refine lv_icmp_ge (tgt := 36) hx hb d_T_howManyChanged_13 (by decide) (fun c9 => absurd c9 (nI_ge (a := i) (b := n) (by omega) (by omega))) (fun _ => ?_)
      refine lv_aload_n hx hb d_T_howManyChanged_16 rfl (lv_at hl 3 rfl) ?_
      refine lv_iload hx hb d_T_howManyChanged_17 (lv_at hl 0 rfl) ?_
      refine xa_zald hx hb hK hP 0 0 rfl rfl (by omega) i rfl hin d_T_howManyChanged_19 ?_
      refine lv_istore (lv' := [(5, .int _), (4, .int (nI i)), (1, .int _), (3, .int (nI n)), (2, .ref _), (0, .ref _)]) hx hb d_T_howManyChanged_20 hl (by decide) rfl (fun ls hl => ?_)
      refine lv_iload hx hb d_T_howManyChanged_22 (lv_at hl 0 rfl) ?_
      refine lv_if_eq (tgt := 30) hx hb d_T_howManyChanged_24 (by decide) (fun _ => ?_) (fun c9 => absurd h2 c9)
      refine lv_iinc (v := nI (i + 1)) (lv' := [(4, .int (nI (i + 1))), (5, .int _), (1, .int _), (3, .int (nI n)), (2, .ref _), (0, .ref _)]) hx hb d_T_howManyChanged_30 hl (k := 1) rfl (nI_add _ _) (by decide) rfl (fun ls hl => ?_)
      refine lv_goto (tgt := 10) hx hb d_T_howManyChanged_33 (by decide) ?_
      exact ih (i + 1) (by omega) _ _ (by rw [← hu]; show _ = fCntNe 0 f d (i + 1) (if f i = 0 then acc else acc + 1); rw [if_pos h2]) (lv_sub hl [0, 2, 3, 4, 5] rfl)
    · skip
      refine lv_iload hx hb d_T_howManyChanged_10 (lv_at hl 0 rfl) ?_
      refine lv_iload_n hx hb d_T_howManyChanged_12 rfl (lv_at hl 2 rfl) ?_
      refine lv_icmp_ge (tgt := 36) hx hb d_T_howManyChanged_13 (by decide) (fun c9 => absurd c9 (nI_ge (a := i) (b := n) (by omega) (by omega))) (fun _ => ?_)
      refine lv_aload_n hx hb d_T_howManyChanged_16 rfl (lv_at hl 3 rfl) ?_
      refine lv_iload hx hb d_T_howManyChanged_17 (lv_at hl 0 rfl) ?_
      refine xa_zald hx hb hK hP 0 0 rfl rfl (by omega) i rfl hin d_T_howManyChanged_19 ?_
      refine lv_istore (lv' := [(5, .int _), (4, .int (nI i)), (1, .int _), (3, .int (nI n)), (2, .ref _), (0, .ref _)]) hx hb d_T_howManyChanged_20 hl (by decide) rfl (fun ls hl => ?_)
      refine lv_iload hx hb d_T_howManyChanged_22 (lv_at hl 0 rfl) ?_
      refine lv_if_eq (tgt := 30) hx hb d_T_howManyChanged_24 (by decide) (fun c9 => absurd c9 h2) (fun _ => ?_)
      refine lv_iinc (lv' := [(1, .int _), (5, .int _), (4, .int (nI i)), (3, .int (nI n)), (2, .ref _), (0, .ref _)]) hx hb d_T_howManyChanged_27 hl (k := 2) rfl rfl (by decide) rfl (fun ls hl => ?_)
      refine lv_iinc (v := nI (i + 1)) (lv' := [(4, .int (nI (i + 1))), (1, .int _), (5, .int _), (3, .int (nI n)), (2, .ref _), (0, .ref _)]) hx hb d_T_howManyChanged_30 hl (k := 2) rfl (nI_add _ _) (by decide) rfl (fun ls hl => ?_)
      refine lv_goto (tgt := 10) hx hb d_T_howManyChanged_33 (by decide) ?_
      exact ih (i + 1) (by omega) _ _ (by rw [← hu]; show _ = fCntNe 0 f d (i + 1) (if f i = 0 then acc else acc + 1); rw [if_neg h2]; rfl) (lv_sub hl [0, 1, 3, 4, 5] rfl)
set_option maxHeartbeats 4000000 in
set_option maxRecDepth 100000 in
theorem c_T_howManyChanged (l : Launch) (D : va_G) (a : Nat) (cA : ClassId) (n : Nat) (f : Nat → Int32) (hn : n < 2 ^ 30) : XMa l y_T_howManyChanged k_T_howManyChanged { frames := 0, cells := 0, slots := 0, locals := 0 } D vwCl a cA n f .boolean (fun r => r = fCntNe 0 f n 0 0) := by
  refine xb_ofa (cc := b_T_howManyChanged) (maxL := 6) (ret := some .int) (by decide) rfl (Nat.le_of_ble_eq_true rfl) ?_
  intro p e s m below meth c ls hx hb hml hr hlocks hts hown hP hK hl
  have hl : lv_has ls 6 [(0, .ref a)] := hl
  refine lv_iconst (v := 0) hx hb d_T_howManyChanged_0 (by decide) ?_
  refine lv_istore_n (lv' := [(1, .int (nI 0)), (0, .ref _)]) hx hb d_T_howManyChanged_1 rfl hl (by decide) rfl (fun ls hl => ?_)
  refine lv_aload_n hx hb d_T_howManyChanged_2 rfl (lv_at hl 1 rfl) ?_
  refine lv_astore_n (lv' := [(2, .ref _), (1, .int (nI 0)), (0, .ref _)]) hx hb d_T_howManyChanged_3 rfl hl (by decide) rfl (fun ls hl => ?_)
  refine lv_aload_n hx hb d_T_howManyChanged_4 rfl (lv_at hl 0 rfl) ?_
  refine va_alen hx hb hK hP 0 0 rfl rfl (v := nI n) rfl d_T_howManyChanged_5 ?_
  refine lv_istore_n (lv' := [(3, .int (nI n)), (2, .ref _), (1, .int (nI 0)), (0, .ref _)]) hx hb d_T_howManyChanged_6 rfl hl (by decide) rfl (fun ls hl => ?_)
  refine lv_iconst (v := 0) hx hb d_T_howManyChanged_7 (by decide) ?_
  refine lv_istore (lv' := [(4, .int (nI 0)), (3, .int (nI n)), (2, .ref _), (1, .int (nI 0)), (0, .ref _)]) hx hb d_T_howManyChanged_8 hl (by decide) rfl (fun ls hl => ?_)
  refine lp_T_howManyChanged hn hx hb hP hK ?_ n 0 (by omega) _ _ rfl (lv_sub hl [0, 3, 1, 2, 4] rfl)
  intro acc ls he hl
  refine lv_iload_n hx hb d_T_howManyChanged_36 rfl (lv_at hl 1 rfl) ?_
  exact xc_sret hx hb hr hlocks he d_T_howManyChanged_37
set_option maxHeartbeats 4000000 in
set_option maxRecDepth 100000 in
theorem lp_T_allTags1 {p : Program} {l : Launch} {e : Env} {s : State} {m : MethodId} {args : Array Value} {below : List Frame} {meth : Method} {c : Code} {Q : State → Prop} {D : va_G} {A : Nat → Prop} {G : Nat → Nat} {kc : Nat → ClassId} {c1 : Cond} (hx : p.tables.exec = Jvm.exec) (hb : c.code = b_T_allTags) (hml : c.maxLocals = 3) (hown : s.vm.findClass "TagMemory" = some m.cls) (hts : ∀ w ∈ c1 :: TB, w.before args s = true) (hK : va_K D vwCl (tyTs kc) s) (hA : ∀ q, s.heap.size ≤ q → A q) (u : TC) (kk : ∀ (acc : Int32) (H : Heap) (locs : List Loc) (ls : Array Slot), acc = fSumR u 32 0 0 → va_P D vwCl (wT G kc u) H → va_D A (wT G kc u) → va_S A s.heap H locs → lv_has ls 3 [(2, .int (nI 32)), (1, .int acc), (0, .ref (G 0))] → W p l e ({ frames := 3, cells := 0, slots := 0, locals := 63 }) s m args below meth c H locs 0 0 Q (F0 m 27 ls [])) : ∀ (d i : Nat), i + d = 32 → ∀ (acc : Int32) (H : Heap) (locs : List Loc) (ls : Array Slot), fSumR u d i acc = fSumR u 32 0 0 → va_P D vwCl (wT G kc u) H → va_D A (wT G kc u) → va_S A s.heap H locs → lv_has ls 3 [(2, .int (nI i)), (1, .int acc), (0, .ref (G 0))] → W p l e ({ frames := 3, cells := 0, slots := 0, locals := 63 }) s m args below meth c H locs 0 0 Q (F0 m 4 ls []) := by
  intro d
  induction d with
  | zero =>
    intro i hi acc H locs ls hu hP hD hS hl
    obtain rfl : i = 32 := by omega
    refine lv_iload_n hx hb d_T_allTags_4 rfl (lv_at hl 0 rfl) ?_
    refine lv_bipush (v := 32) hx hb d_T_allTags_5 (by decide) ?_
    refine lv_icmp_ge (tgt := 27) hx hb d_T_allTags_7 (by decide) (fun _ => ?_) (fun c9 => absurd (nI_le (a := 32) (b := 32) (by omega) (by omega)) c9)
    exact kk acc H locs ls hu hP hD hS hl
  | succ d ih =>
    intro i hi acc H locs ls hu hP hD hS hl
    have hiN : i < 32 := by omega
    refine lv_iload_n hx hb d_T_allTags_4 rfl (lv_at hl 0 rfl) ?_
    refine lv_bipush (v := 32) hx hb d_T_allTags_5 (by decide) ?_
    refine lv_icmp_ge (tgt := 27) hx hb d_T_allTags_7 (by decide) (fun c9 => absurd c9 (nI_ge (a := i) (b := 32) (by omega) (by omega))) (fun _ => ?_)
    refine lv_iload_n hx hb d_T_allTags_10 rfl (lv_at hl 1 rfl) ?_
    refine lv_aload_n hx hb d_T_allTags_11 rfl (lv_at hl 2 rfl) ?_
    refine lv_iload_n hx hb d_T_allTags_12 rfl (lv_at hl 0 rfl) ?_
    refine xc_calli (n := 1) (C := "TagMemory") hx hb hml hown hts (c_T_peekRow l D G kc _ _ i (by omega)) (tb_V wm_108 wm_110 ws_7 wm_1 wm_111) rfl rfl rfl (by decide +kernel) ⟨Nat.le_of_ble_eq_true rfl, Nat.le_of_ble_eq_true rfl⟩ hK hP hD hS hA rfl rfl rfl rfl hl.1 rfl (Nat.le_of_ble_eq_true rfl) d_T_allTags_13 ⟨Nat.zero_le _, Nat.zero_le _⟩ (fun r u1 H locs hw hP hD hS => ?_)
    obtain ⟨e1, e2⟩ := hw
    subst e1
    rw [e2] at hP hD; clear e2 u1
    refine xc_callJ (n := 1) (C := "TagMemory") hx hb hml hown hts (c_J_bitCount l _) wm_332 wm_333 wm_9 wm_334 rfl rfl rfl (by decide +kernel) ⟨Nat.le_of_ble_eq_true rfl, Nat.le_of_ble_eq_true rfl⟩ rfl hl.1 rfl (Nat.le_of_ble_eq_true rfl) d_T_allTags_16 ⟨Nat.zero_le _, Nat.zero_le _⟩ (fun r hw => ?_)
    subst hw
    refine lv_iadd hx hb d_T_allTags_19 ?_
    refine lv_istore_n (lv' := [(1, .int _), (2, .int (nI i)), (0, .ref _)]) hx hb d_T_allTags_20 rfl hl (by decide) rfl (fun ls hl => ?_)
    refine lv_iinc (v := nI (i + 1)) (lv' := [(2, .int (nI (i + 1))), (1, .int _), (0, .ref _)]) hx hb d_T_allTags_21 hl (k := 1) rfl (nI_add _ _) (by decide) rfl (fun ls hl => ?_)
    refine lv_goto (tgt := 4) hx hb d_T_allTags_24 (by decide) ?_
    exact ih (i + 1) (by omega) _ _ _ _ hu hP hD hS (lv_sub hl [0, 1, 2] rfl)
set_option maxHeartbeats 4000000 in
set_option maxRecDepth 100000 in
theorem lp_T_allTags2 {p : Program} {l : Launch} {e : Env} {s : State} {m : MethodId} {args : Array Value} {below : List Frame} {meth : Method} {c : Code} {Q : State → Prop} {D : va_G} {A : Nat → Prop} {G : Nat → Nat} {kc : Nat → ClassId} {c1 : Cond} (hx : p.tables.exec = Jvm.exec) (hb : c.code = b_T_allTags) (hml : c.maxLocals = 3) (hown : s.vm.findClass "TagMemory" = some m.cls) (hts : ∀ w ∈ c1 :: TB, w.before args s = true) (hK : va_K D vwCl (tyTs kc) s) (hA : ∀ q, s.heap.size ≤ q → A q) (u : TC) (a0 : Int32) (hI : tI u) (kk : ∀ (acc : Int32) (H : Heap) (locs : List Loc) (ls : Array Slot), acc = fSumL u 16 0 a0 → va_P D vwCl (wT G kc u) H → va_D A (wT G kc u) → va_S A s.heap H locs → lv_has ls 3 [(2, .int (nI 16)), (1, .int acc), (0, .ref (G 0))] → W p l e ({ frames := 3, cells := 0, slots := 0, locals := 63 }) s m args below meth c H locs 0 0 Q (F0 m 77 ls [])) : ∀ (d i : Nat), i + d = 16 → ∀ (acc : Int32) (H : Heap) (locs : List Loc) (ls : Array Slot), fSumL u d i acc = fSumL u 16 0 a0 → va_P D vwCl (wT G kc u) H → va_D A (wT G kc u) → va_S A s.heap H locs → lv_has ls 3 [(2, .int (nI i)), (1, .int acc), (0, .ref (G 0))] → W p l e ({ frames := 3, cells := 0, slots := 0, locals := 63 }) s m args below meth c H locs 0 0 Q (F0 m 29 ls []) := by
  intro d
  induction d with
  | zero =>
    intro i hi acc H locs ls hu hP hD hS hl
    obtain rfl : i = 16 := by omega
    refine lv_iload_n hx hb d_T_allTags_29 rfl (lv_at hl 0 rfl) ?_
    refine lv_bipush (v := 16) hx hb d_T_allTags_30 (by decide) ?_
    refine lv_icmp_ge (tgt := 77) hx hb d_T_allTags_32 (by decide) (fun _ => ?_) (fun c9 => absurd (nI_le (a := 16) (b := 16) (by omega) (by omega)) c9)
    exact kk acc H locs ls hu hP hD hS hl
  | succ d ih =>
    intro i hi acc H locs ls hu hP hD hS hl
    have hiN : i < 16 := by omega
    by_cases h1 : tLa u i = -1
    · skip
      refine lv_iload_n hx hb d_T_allTags_29 rfl (lv_at hl 0 rfl) ?_
      refine lv_bipush (v := 16) hx hb d_T_allTags_30 (by decide) ?_
      refine lv_icmp_ge (tgt := 77) hx hb d_T_allTags_32 (by decide) (fun c9 => absurd c9 (nI_ge (a := i) (b := 16) (by omega) (by omega))) (fun _ => ?_)
      refine lv_aload_n hx hb d_T_allTags_35 rfl (lv_at hl 2 rfl) ?_
      refine xt_g1 hx hb hts hown hK hP d_T_allTags_36 ?_
      refine lv_iload_n hx hb d_T_allTags_39 rfl (lv_at hl 0 rfl) ?_
      refine xt_l1 hx hb hK hP i rfl (by omega) d_T_allTags_40 ?_
      refine lv_iconst (v := (-1)) hx hb d_T_allTags_41 (by decide) ?_
      refine lv_icmp_eq (tgt := 71) hx hb d_T_allTags_42 (by decide) (fun _ => ?_) (fun c9 => absurd h1 c9)
      refine lv_iinc (v := nI (i + 1)) (lv' := [(2, .int (nI (i + 1))), (1, .int _), (0, .ref _)]) hx hb d_T_allTags_71 hl (k := 0) rfl (nI_add _ _) (by decide) rfl (fun ls hl => ?_)
      refine lv_goto (tgt := 29) hx hb d_T_allTags_74 (by decide) ?_
      exact ih (i + 1) (by omega) _ _ _ _ (by rw [← hu]; show _ = fSumL u d (i + 1) (if tLa u i = -1 then acc else _); rw [if_pos h1]) hP hD hS (lv_sub hl [0, 1, 2] rfl)
    · obtain ⟨n, hn, hnq, hn1⟩ : ∃ n, n < 512 ∧ n % 16 = i ∧ tLa u i = nI n := (hI.2 i hiN).resolve_left h1
      refine lv_iload_n hx hb d_T_allTags_29 rfl (lv_at hl 0 rfl) ?_
      refine lv_bipush (v := 16) hx hb d_T_allTags_30 (by decide) ?_
      refine lv_icmp_ge (tgt := 77) hx hb d_T_allTags_32 (by decide) (fun c9 => absurd c9 (nI_ge (a := i) (b := 16) (by omega) (by omega))) (fun _ => ?_)
      refine lv_aload_n hx hb d_T_allTags_35 rfl (lv_at hl 2 rfl) ?_
      refine xt_g1 hx hb hts hown hK hP d_T_allTags_36 ?_
      refine lv_iload_n hx hb d_T_allTags_39 rfl (lv_at hl 0 rfl) ?_
      refine xt_l1 hx hb hK hP i rfl (by omega) d_T_allTags_40 ?_
      refine lv_iconst (v := (-1)) hx hb d_T_allTags_41 (by decide) ?_
      refine lv_icmp_eq (tgt := 71) hx hb d_T_allTags_42 (by decide) (fun c9 => absurd c9 h1) (fun _ => ?_)
      refine lv_iload_n hx hb d_T_allTags_45 rfl (lv_at hl 1 rfl) ?_
      refine lv_aload_n hx hb d_T_allTags_46 rfl (lv_at hl 2 rfl) ?_
      refine xt_g3 hx hb hts hown hK hP d_T_allTags_47 ?_
      refine lv_iload_n hx hb d_T_allTags_50 rfl (lv_at hl 0 rfl) ?_
      refine xt_l3 hx hb hK hP i rfl (by omega) d_T_allTags_51 ?_
      refine xc_callJ (n := 1) (C := "TagMemory") hx hb hml hown hts (c_J_bitCount l _) wm_332 wm_333 wm_9 wm_334 rfl rfl rfl (by decide +kernel) ⟨Nat.le_of_ble_eq_true rfl, Nat.le_of_ble_eq_true rfl⟩ rfl hl.1 rfl (Nat.le_of_ble_eq_true rfl) d_T_allTags_52 ⟨Nat.zero_le _, Nat.zero_le _⟩ (fun r hw => ?_)
      subst hw
      refine lv_aload_n hx hb d_T_allTags_55 rfl (lv_at hl 2 rfl) ?_
      refine lv_aload_n hx hb d_T_allTags_56 rfl (lv_at hl 2 rfl) ?_
      refine xt_g1 hx hb hts hown hK hP d_T_allTags_57 ?_
      refine lv_iload_n hx hb d_T_allTags_60 rfl (lv_at hl 0 rfl) ?_
      refine xt_l1 hx hb hK hP i rfl (by omega) d_T_allTags_61 ?_
      refine xa_top (nI n) hn1 ?_
      refine xc_calli (n := 1) (C := "TagMemory") hx hb hml hown hts (c_T_tagsBehindLine l D G kc _ _ n (by omega)) (tb_V wm_104 wm_106 ws_6 wm_1 wm_107) rfl rfl rfl (by decide +kernel) ⟨Nat.le_of_ble_eq_true rfl, Nat.le_of_ble_eq_true rfl⟩ hK hP hD hS hA rfl rfl rfl rfl hl.1 rfl (Nat.le_of_ble_eq_true rfl) d_T_allTags_62 ⟨Nat.zero_le _, Nat.zero_le _⟩ (fun r u1 H locs hw hP hD hS => ?_)
      obtain ⟨e1, e2⟩ := hw
      subst e1
      rw [e2] at hP hD; clear e2 u1
      refine xc_callJ (n := 1) (C := "TagMemory") hx hb hml hown hts (c_J_bitCount l _) wm_332 wm_333 wm_9 wm_334 rfl rfl rfl (by decide +kernel) ⟨Nat.le_of_ble_eq_true rfl, Nat.le_of_ble_eq_true rfl⟩ rfl hl.1 rfl (Nat.le_of_ble_eq_true rfl) d_T_allTags_65 ⟨Nat.zero_le _, Nat.zero_le _⟩ (fun r hw => ?_)
      subst hw
      refine lv_isub hx hb d_T_allTags_68 ?_
      refine lv_iadd hx hb d_T_allTags_69 ?_
      refine lv_istore_n (lv' := [(1, .int _), (2, .int (nI i)), (0, .ref _)]) hx hb d_T_allTags_70 rfl hl (by decide) rfl (fun ls hl => ?_)
      refine lv_iinc (v := nI (i + 1)) (lv' := [(2, .int (nI (i + 1))), (1, .int _), (0, .ref _)]) hx hb d_T_allTags_71 hl (k := 1) rfl (nI_add _ _) (by decide) rfl (fun ls hl => ?_)
      refine lv_goto (tgt := 29) hx hb d_T_allTags_74 (by decide) ?_
      exact ih (i + 1) (by omega) _ _ _ _ (by rw [← hu]; show _ = fSumL u d (i + 1) (if tLa u i = -1 then acc else _); rw [if_neg h1, hn1, nI_clamp (by omega)]; rfl) hP hD hS (lv_sub hl [0, 1, 2] rfl)
set_option maxHeartbeats 4000000 in
set_option maxRecDepth 100000 in
theorem c_T_allTags (l : Launch) (D : va_G) (G : Nat → Nat) (kc : Nat → ClassId) (sz : Nat) (u : TC) (hI : tI u) : XMi l y_T_allTags k_T_allTags { frames := 3, cells := 0, slots := 0, locals := 63 } D vwCl (wT G kc) (tyTs kc) u sz [.ref (G 0)] (fun r u1 => r = fAll u ∧ u1 = u) := by
  refine xb_ofi (cc := b_T_allTags) (maxL := 3) (ret := some .int) (by decide) rfl (Nat.le_of_ble_eq_true rfl) ?_
  intro p e s m below meth c A ls hsz hx hb hml hr hlocks hts hown hP hK hD hA hl
  have hl : lv_has ls 3 [(0, .ref (G 0))] := hl
  have hS : va_S A s.heap s.heap [] := va_S.rf
  refine lv_iconst (v := 0) hx hb d_T_allTags_0 (by decide) ?_
  refine lv_istore_n (lv' := [(1, .int (nI 0)), (0, .ref _)]) hx hb d_T_allTags_1 rfl hl (by decide) rfl (fun ls hl => ?_)
  refine lv_iconst (v := 0) hx hb d_T_allTags_2 (by decide) ?_
  refine lv_istore_n (lv' := [(2, .int (nI 0)), (1, .int (nI 0)), (0, .ref _)]) hx hb d_T_allTags_3 rfl hl (by decide) rfl (fun ls hl => ?_)
  refine lp_T_allTags1 hx hb hml hown hts hK hA u ?_ 32 0 rfl _ _ _ _ rfl hP hD hS (lv_sub hl [0, 1, 2] rfl)
  intro acc H locs ls he hP hD hS hl
  refine lv_iconst (v := 0) hx hb d_T_allTags_27 (by decide) ?_
  refine lv_istore_n (lv' := [(2, .int (nI 0)), (1, .int _), (0, .ref _)]) hx hb d_T_allTags_28 rfl hl (by decide) rfl (fun ls hl => ?_)
  refine lp_T_allTags2 hx hb hml hown hts hK hA u acc hI ?_ 16 0 rfl _ _ _ _ rfl hP hD hS (lv_sub hl [0, 1, 2] rfl)
  intro acc2 H locs ls he2 hP hD hS hl
  refine lv_iload_n hx hb d_T_allTags_77 rfl (lv_at hl 1 rfl) ?_
  exact xc_iret hx hb hr hlocks hP hK hD hS ⟨by rw [he2, he]; rfl, rfl⟩ d_T_allTags_78
set_option maxHeartbeats 4000000 in
set_option maxRecDepth 100000 in
theorem c_T_count (l : Launch) (D : va_G) (G : Nat → Nat) (kc : Nat → ClassId) (sz : Nat) (u : TC) (w : Nat) (hw : w < 9) (hI : tI u) : XMi l y_T_count k_T_count { frames := 4, cells := 0, slots := 0, locals := 85 } D vwCl (wT G kc) (tyTs kc) u sz [.ref (G 0), .int (nI w)] (fun r u1 => r = rCount u w ∧ u1 = u) := by
  refine xb_ofi (cc := b_T_count) (maxL := 2) (ret := some .int) (by decide) rfl (Nat.le_of_ble_eq_true rfl) ?_
  intro p e s m below meth c A ls hsz hx hb hml hr hlocks hts hown hP hK hD hA hl
  have hl : lv_has ls 2 [(0, .ref (G 0)), (1, .int (nI w))] := hl
  have hS : va_S A s.heap s.heap [] := va_S.rf
  obtain rfl | rfl | rfl | rfl | rfl | rfl | rfl | rfl | rfl : w = 0 ∨ w = 1 ∨ w = 2 ∨ w = 3 ∨ w = 4 ∨ w = 5 ∨ w = 6 ∨ w = 7 ∨ w = 8 := by omega
  · skip
    refine lv_iload_n hx hb d_T_count_0 rfl (lv_at hl 1 rfl) ?_
    refine lv_tableIn (tgt := 52) (off := 51) hx hb d_T_count_1 (by decide +kernel) (by decide +kernel) (by decide +kernel) (by decide) ?_
    refine lv_aload_n hx hb d_T_count_52 rfl (lv_at hl 0 rfl) ?_
    refine xt_g8 hx hb hts hown hK hP d_T_count_53 ?_
    exact xc_iret hx hb hr hlocks hP hK hD hS ⟨rfl, rfl⟩ d_T_count_56
  · skip
    refine lv_iload_n hx hb d_T_count_0 rfl (lv_at hl 1 rfl) ?_
    refine lv_tableIn (tgt := 57) (off := 56) hx hb d_T_count_1 (by decide +kernel) (by decide +kernel) (by decide +kernel) (by decide) ?_
    refine lv_aload_n hx hb d_T_count_57 rfl (lv_at hl 0 rfl) ?_
    refine xt_g9 hx hb hts hown hK hP d_T_count_58 ?_
    exact xc_iret hx hb hr hlocks hP hK hD hS ⟨rfl, rfl⟩ d_T_count_61
  · skip
    refine lv_iload_n hx hb d_T_count_0 rfl (lv_at hl 1 rfl) ?_
    refine lv_tableIn (tgt := 62) (off := 61) hx hb d_T_count_1 (by decide +kernel) (by decide +kernel) (by decide +kernel) (by decide) ?_
    refine lv_aload_n hx hb d_T_count_62 rfl (lv_at hl 0 rfl) ?_
    refine xt_g10 hx hb hts hown hK hP d_T_count_63 ?_
    exact xc_iret hx hb hr hlocks hP hK hD hS ⟨rfl, rfl⟩ d_T_count_66
  · skip
    refine lv_iload_n hx hb d_T_count_0 rfl (lv_at hl 1 rfl) ?_
    refine lv_tableIn (tgt := 67) (off := 66) hx hb d_T_count_1 (by decide +kernel) (by decide +kernel) (by decide +kernel) (by decide) ?_
    refine lv_aload_n hx hb d_T_count_67 rfl (lv_at hl 0 rfl) ?_
    refine xt_g11 hx hb hts hown hK hP d_T_count_68 ?_
    exact xc_iret hx hb hr hlocks hP hK hD hS ⟨rfl, rfl⟩ d_T_count_71
  · skip
    refine lv_iload_n hx hb d_T_count_0 rfl (lv_at hl 1 rfl) ?_
    refine lv_tableIn (tgt := 72) (off := 71) hx hb d_T_count_1 (by decide +kernel) (by decide +kernel) (by decide +kernel) (by decide) ?_
    refine lv_aload_n hx hb d_T_count_72 rfl (lv_at hl 0 rfl) ?_
    refine xc_calli (n := 0) (C := "TagMemory") hx hb hml hown hts (c_T_allTags l D G kc _ _ (by exact hI)) (tb_V wm_328 wm_330 ws_16 wm_1 wm_331) rfl rfl rfl (by decide +kernel) ⟨Nat.le_of_ble_eq_true rfl, Nat.le_of_ble_eq_true rfl⟩ hK hP hD hS hA rfl rfl rfl rfl hl.1 rfl (Nat.le_of_ble_eq_true rfl) d_T_count_73 ⟨Nat.zero_le _, Nat.zero_le _⟩ (fun r u1 H locs hw hP hD hS => ?_)
    obtain ⟨e1, e2⟩ := hw
    subst e1
    rw [e2] at hP hD; clear e2 u1
    exact xc_iret hx hb hr hlocks hP hK hD hS ⟨rfl, rfl⟩ d_T_count_76
  · skip
    refine lv_iload_n hx hb d_T_count_0 rfl (lv_at hl 1 rfl) ?_
    refine lv_tableIn (tgt := 77) (off := 76) hx hb d_T_count_1 (by decide +kernel) (by decide +kernel) (by decide +kernel) (by decide) ?_
    refine lv_aload_n hx hb d_T_count_77 rfl (lv_at hl 0 rfl) ?_
    refine xt_g1 hx hb hts hown hK hP d_T_count_78 ?_
    refine xc_calla (C := "TagMemory") hx hb hml hown hts (c_T_howManyKept l D (G 2) (kc 2) 16 _ (by decide)) (tb_S wm_338 wm_339 wm_1 wm_340) rfl rfl rfl (by decide +kernel) ⟨Nat.le_of_ble_eq_true rfl, Nat.le_of_ble_eq_true rfl⟩ (hP.sub [2] rfl) (hK.sub [1] rfl) hl.1 (Nat.le_of_ble_eq_true rfl) d_T_count_81 ⟨Nat.zero_le _, Nat.zero_le _⟩ (fun r hw => ?_)
    subst hw
    exact xc_iret hx hb hr hlocks hP hK hD hS ⟨rfl, rfl⟩ d_T_count_84
  · skip
    refine lv_iload_n hx hb d_T_count_0 rfl (lv_at hl 1 rfl) ?_
    refine lv_tableIn (tgt := 85) (off := 84) hx hb d_T_count_1 (by decide +kernel) (by decide +kernel) (by decide +kernel) (by decide) ?_
    refine lv_aload_n hx hb d_T_count_85 rfl (lv_at hl 0 rfl) ?_
    refine xt_g4 hx hb hts hown hK hP d_T_count_86 ?_
    refine xc_calla (C := "TagMemory") hx hb hml hown hts (c_T_howManyChanged l D (G 5) (kc 5) 16 _ (by decide)) (tb_S wm_341 wm_342 wm_1 wm_343) rfl rfl rfl (by decide +kernel) ⟨Nat.le_of_ble_eq_true rfl, Nat.le_of_ble_eq_true rfl⟩ (hP.sub [5] rfl) (hK.sub [4] rfl) hl.1 (Nat.le_of_ble_eq_true rfl) d_T_count_89 ⟨Nat.zero_le _, Nat.zero_le _⟩ (fun r hw => ?_)
    subst hw
    exact xc_iret hx hb hr hlocks hP hK hD hS ⟨rfl, rfl⟩ d_T_count_92
  · skip
    refine lv_iload_n hx hb d_T_count_0 rfl (lv_at hl 1 rfl) ?_
    refine lv_tableIn (tgt := 93) (off := 92) hx hb d_T_count_1 (by decide +kernel) (by decide +kernel) (by decide +kernel) (by decide) ?_
    refine lv_aload_n hx hb d_T_count_93 rfl (lv_at hl 0 rfl) ?_
    refine xt_g5 hx hb hts hown hK hP d_T_count_94 ?_
    refine xc_calla (C := "TagMemory") hx hb hml hown hts (c_T_howManyKept l D (G 6) (kc 6) 4 _ (by decide)) (tb_S wm_338 wm_339 wm_1 wm_340) rfl rfl rfl (by decide +kernel) ⟨Nat.le_of_ble_eq_true rfl, Nat.le_of_ble_eq_true rfl⟩ (hP.sub [6] rfl) (hK.sub [5] rfl) hl.1 (Nat.le_of_ble_eq_true rfl) d_T_count_97 ⟨Nat.zero_le _, Nat.zero_le _⟩ (fun r hw => ?_)
    subst hw
    exact xc_iret hx hb hr hlocks hP hK hD hS ⟨rfl, rfl⟩ d_T_count_100
  · skip
    refine lv_iload_n hx hb d_T_count_0 rfl (lv_at hl 1 rfl) ?_
    refine lv_tableIn (tgt := 101) (off := 100) hx hb d_T_count_1 (by decide +kernel) (by decide +kernel) (by decide +kernel) (by decide) ?_
    refine lv_aload_n hx hb d_T_count_101 rfl (lv_at hl 0 rfl) ?_
    refine xt_g7 hx hb hts hown hK hP d_T_count_102 ?_
    refine xc_calla (C := "TagMemory") hx hb hml hown hts (c_T_howManyChanged l D (G 8) (kc 8) 4 _ (by decide)) (tb_S wm_341 wm_342 wm_1 wm_343) rfl rfl rfl (by decide +kernel) ⟨Nat.le_of_ble_eq_true rfl, Nat.le_of_ble_eq_true rfl⟩ (hP.sub [8] rfl) (hK.sub [7] rfl) hl.1 (Nat.le_of_ble_eq_true rfl) d_T_count_105 ⟨Nat.zero_le _, Nat.zero_le _⟩ (fun r hw => ?_)
    subst hw
    exact xc_iret hx hb hr hlocks hP hK hD hS ⟨rfl, rfl⟩ d_T_count_108
set_option maxHeartbeats 4000000 in
set_option maxRecDepth 100000 in
theorem lp_T_check1 {p : Program} {l : Launch} {e : Env} {s : State} {m : MethodId} {args : Array Value} {below : List Frame} {meth : Method} {c : Code} {Q : State → Prop} {D : va_G} {A : Nat → Prop} {G : Nat → Nat} {kc : Nat → ClassId} {c1 : Cond} (hx : p.tables.exec = Jvm.exec) (hb : c.code = b_T_check) (hml : c.maxLocals = 3) (hown : s.vm.findClass "TagMemory" = some m.cls) (hts : ∀ w ∈ c1 :: TB, w.before args s = true) (hK : va_K D vwCl (tyTs kc) s) (hA : ∀ q, s.heap.size ≤ q → A q) (u : TC) (hI : tI u) (hg : tG u) (kk : ∀ (H : Heap) (locs : List Loc) (ls : Array Slot), va_P D vwCl (wT G kc u) H → va_D A (wT G kc u) → va_S A s.heap H locs → lv_has ls 3 [(2, .int (nI 16)), (1, .int (nI 0)), (0, .ref (G 0))] → W p l e ({ frames := 4, cells := 0, slots := 0, locals := 86 }) s m args below meth c H locs 0 0 Q (F0 m 37 ls [])) : ∀ (d i : Nat), i + d = 16 → ∀ (H : Heap) (locs : List Loc) (ls : Array Slot), va_P D vwCl (wT G kc u) H → va_D A (wT G kc u) → va_S A s.heap H locs → lv_has ls 3 [(2, .int (nI i)), (1, .int (nI 0)), (0, .ref (G 0))] → W p l e ({ frames := 4, cells := 0, slots := 0, locals := 86 }) s m args below meth c H locs 0 0 Q (F0 m 4 ls []) := by
  intro d
  induction d with
  | zero =>
    intro i hi H locs ls hP hD hS hl
    obtain rfl : i = 16 := by omega
    refine lv_iload_n hx hb d_T_check_4 rfl (lv_at hl 0 rfl) ?_
    refine lv_bipush (v := 16) hx hb d_T_check_5 (by decide) ?_
    refine lv_icmp_ge (tgt := 37) hx hb d_T_check_7 (by decide) (fun _ => ?_) (fun c9 => absurd (nI_le (a := 16) (b := 16) (by omega) (by omega)) c9)
    exact kk H locs ls hP hD hS hl
  | succ d ih =>
    intro i hi H locs ls hP hD hS hl
    have hiN : i < 16 := by omega
    by_cases h1 : tLa u i = -1
    · skip
      refine lv_iload_n hx hb d_T_check_4 rfl (lv_at hl 0 rfl) ?_
      refine lv_bipush (v := 16) hx hb d_T_check_5 (by decide) ?_
      refine lv_icmp_ge (tgt := 37) hx hb d_T_check_7 (by decide) (fun c9 => absurd c9 (nI_ge (a := i) (b := 16) (by omega) (by omega))) (fun _ => ?_)
      refine lv_aload_n hx hb d_T_check_10 rfl (lv_at hl 2 rfl) ?_
      refine xt_g1 hx hb hts hown hK hP d_T_check_11 ?_
      refine lv_iload_n hx hb d_T_check_14 rfl (lv_at hl 0 rfl) ?_
      refine xt_l1 hx hb hK hP i rfl (by omega) d_T_check_15 ?_
      refine lv_iconst (v := (-1)) hx hb d_T_check_16 (by decide) ?_
      refine lv_icmp_eq (tgt := 31) hx hb d_T_check_17 (by decide) (fun _ => ?_) (fun c9 => absurd h1 c9)
      refine lv_iinc (v := nI (i + 1)) (lv' := [(2, .int (nI (i + 1))), (1, .int (nI 0)), (0, .ref _)]) hx hb d_T_check_31 hl (k := 0) rfl (nI_add _ _) (by decide) rfl (fun ls hl => ?_)
      refine lv_goto (tgt := 4) hx hb d_T_check_34 (by decide) ?_
      exact ih (i + 1) (by omega) _ _ _ hP hD hS (lv_sub hl [0, 1, 2] rfl)
    · obtain ⟨n, hn, hnq, hn1⟩ : ∃ n, n < 512 ∧ n % 16 = i ∧ tLa u i = nI n := (hI.2 i hiN).resolve_left h1
      refine lv_iload_n hx hb d_T_check_4 rfl (lv_at hl 0 rfl) ?_
      refine lv_bipush (v := 16) hx hb d_T_check_5 (by decide) ?_
      refine lv_icmp_ge (tgt := 37) hx hb d_T_check_7 (by decide) (fun c9 => absurd c9 (nI_ge (a := i) (b := 16) (by omega) (by omega))) (fun _ => ?_)
      refine lv_aload_n hx hb d_T_check_10 rfl (lv_at hl 2 rfl) ?_
      refine xt_g1 hx hb hts hown hK hP d_T_check_11 ?_
      refine lv_iload_n hx hb d_T_check_14 rfl (lv_at hl 0 rfl) ?_
      refine xt_l1 hx hb hK hP i rfl (by omega) d_T_check_15 ?_
      refine lv_iconst (v := (-1)) hx hb d_T_check_16 (by decide) ?_
      refine lv_icmp_eq (tgt := 31) hx hb d_T_check_17 (by decide) (fun c9 => absurd c9 h1) (fun _ => ?_)
      refine lv_aload_n hx hb d_T_check_20 rfl (lv_at hl 2 rfl) ?_
      refine lv_iload_n hx hb d_T_check_21 rfl (lv_at hl 0 rfl) ?_
      refine xc_calli (n := 1) (C := "TagMemory") hx hb hml hown hts (c_T_isLineWrong l D G kc _ _ n i (by omega) (by omega) hnq hn1 (fun z => hg.1 i n hiN hn hn1 z)) (tb_V wm_93 wm_95 ws_4 wm_1 wm_96) rfl rfl rfl (by decide +kernel) ⟨Nat.le_of_ble_eq_true rfl, Nat.le_of_ble_eq_true rfl⟩ hK hP hD hS hA rfl rfl rfl rfl hl.1 rfl (Nat.le_of_ble_eq_true rfl) d_T_check_22 ⟨Nat.zero_le _, Nat.zero_le _⟩ (fun r u1 H locs hw hP hD hS => ?_)
      obtain ⟨e1, e2⟩ := hw
      subst e1
      rw [e2] at hP hD; clear e2 u1
      refine lv_if_eq (tgt := 31) hx hb d_T_check_25 (by decide) (fun _ => ?_) (fun c9 => absurd rfl c9)
      refine lv_iinc (v := nI (i + 1)) (lv' := [(2, .int (nI (i + 1))), (1, .int (nI 0)), (0, .ref _)]) hx hb d_T_check_31 hl (k := 0) rfl (nI_add _ _) (by decide) rfl (fun ls hl => ?_)
      refine lv_goto (tgt := 4) hx hb d_T_check_34 (by decide) ?_
      exact ih (i + 1) (by omega) _ _ _ hP hD hS (lv_sub hl [0, 1, 2] rfl)
set_option maxHeartbeats 4000000 in
set_option maxRecDepth 100000 in
theorem lp_T_check2 {p : Program} {l : Launch} {e : Env} {s : State} {m : MethodId} {args : Array Value} {below : List Frame} {meth : Method} {c : Code} {Q : State → Prop} {D : va_G} {A : Nat → Prop} {G : Nat → Nat} {kc : Nat → ClassId} {c1 : Cond} (hx : p.tables.exec = Jvm.exec) (hb : c.code = b_T_check) (hml : c.maxLocals = 3) (hown : s.vm.findClass "TagMemory" = some m.cls) (hts : ∀ w ∈ c1 :: TB, w.before args s = true) (hK : va_K D vwCl (tyTs kc) s) (hA : ∀ q, s.heap.size ≤ q → A q) (u : TC) (hI : tI u) (hg : tG u) (kk : ∀ (H : Heap) (locs : List Loc) (ls : Array Slot), va_P D vwCl (wT G kc u) H → va_D A (wT G kc u) → va_S A s.heap H locs → lv_has ls 3 [(2, .int (nI 4)), (1, .int (nI 0)), (0, .ref (G 0))] → W p l e ({ frames := 4, cells := 0, slots := 0, locals := 86 }) s m args below meth c H locs 0 0 Q (F0 m 71 ls [])) : ∀ (d i : Nat), i + d = 4 → ∀ (H : Heap) (locs : List Loc) (ls : Array Slot), va_P D vwCl (wT G kc u) H → va_D A (wT G kc u) → va_S A s.heap H locs → lv_has ls 3 [(2, .int (nI i)), (1, .int (nI 0)), (0, .ref (G 0))] → W p l e ({ frames := 4, cells := 0, slots := 0, locals := 86 }) s m args below meth c H locs 0 0 Q (F0 m 39 ls []) := by
  intro d
  induction d with
  | zero =>
    intro i hi H locs ls hP hD hS hl
    obtain rfl : i = 4 := by omega
    refine lv_iload_n hx hb d_T_check_39 rfl (lv_at hl 0 rfl) ?_
    refine lv_iconst (v := 4) hx hb d_T_check_40 (by decide) ?_
    refine lv_icmp_ge (tgt := 71) hx hb d_T_check_41 (by decide) (fun _ => ?_) (fun c9 => absurd (nI_le (a := 4) (b := 4) (by omega) (by omega)) c9)
    exact kk H locs ls hP hD hS hl
  | succ d ih =>
    intro i hi H locs ls hP hD hS hl
    have hiN : i < 4 := by omega
    by_cases h1 : tRa u i = -1
    · skip
      refine lv_iload_n hx hb d_T_check_39 rfl (lv_at hl 0 rfl) ?_
      refine lv_iconst (v := 4) hx hb d_T_check_40 (by decide) ?_
      refine lv_icmp_ge (tgt := 71) hx hb d_T_check_41 (by decide) (fun c9 => absurd c9 (nI_ge (a := i) (b := 4) (by omega) (by omega))) (fun _ => ?_)
      refine lv_aload_n hx hb d_T_check_44 rfl (lv_at hl 2 rfl) ?_
      refine xt_g5 hx hb hts hown hK hP d_T_check_45 ?_
      refine lv_iload_n hx hb d_T_check_48 rfl (lv_at hl 0 rfl) ?_
      refine xt_l5 hx hb hK hP i rfl (by omega) d_T_check_49 ?_
      refine lv_iconst (v := (-1)) hx hb d_T_check_50 (by decide) ?_
      refine lv_icmp_eq (tgt := 65) hx hb d_T_check_51 (by decide) (fun _ => ?_) (fun c9 => absurd h1 c9)
      refine lv_iinc (v := nI (i + 1)) (lv' := [(2, .int (nI (i + 1))), (1, .int (nI 0)), (0, .ref _)]) hx hb d_T_check_65 hl (k := 0) rfl (nI_add _ _) (by decide) rfl (fun ls hl => ?_)
      refine lv_goto (tgt := 39) hx hb d_T_check_68 (by decide) ?_
      exact ih (i + 1) (by omega) _ _ _ hP hD hS (lv_sub hl [0, 1, 2] rfl)
    · obtain ⟨k, hk, hkq, hk1⟩ : ∃ k, k < 32 ∧ k % 4 = i ∧ tRa u i = nI k := (hI.1 i hiN).resolve_left h1
      refine lv_iload_n hx hb d_T_check_39 rfl (lv_at hl 0 rfl) ?_
      refine lv_iconst (v := 4) hx hb d_T_check_40 (by decide) ?_
      refine lv_icmp_ge (tgt := 71) hx hb d_T_check_41 (by decide) (fun c9 => absurd c9 (nI_ge (a := i) (b := 4) (by omega) (by omega))) (fun _ => ?_)
      refine lv_aload_n hx hb d_T_check_44 rfl (lv_at hl 2 rfl) ?_
      refine xt_g5 hx hb hts hown hK hP d_T_check_45 ?_
      refine lv_iload_n hx hb d_T_check_48 rfl (lv_at hl 0 rfl) ?_
      refine xt_l5 hx hb hK hP i rfl (by omega) d_T_check_49 ?_
      refine lv_iconst (v := (-1)) hx hb d_T_check_50 (by decide) ?_
      refine lv_icmp_eq (tgt := 65) hx hb d_T_check_51 (by decide) (fun c9 => absurd c9 h1) (fun _ => ?_)
      refine lv_aload_n hx hb d_T_check_54 rfl (lv_at hl 2 rfl) ?_
      refine lv_iload_n hx hb d_T_check_55 rfl (lv_at hl 0 rfl) ?_
      refine xc_calli (n := 1) (C := "TagMemory") hx hb hml hown hts (c_T_isRowWrong l D G kc _ _ k i (by omega) (by omega) hkq hk1 (fun z => hg.2 i k hiN hk hk1 z)) (tb_V wm_115 wm_117 ws_8 wm_1 wm_118) rfl rfl rfl (by decide +kernel) ⟨Nat.le_of_ble_eq_true rfl, Nat.le_of_ble_eq_true rfl⟩ hK hP hD hS hA rfl rfl rfl rfl hl.1 rfl (Nat.le_of_ble_eq_true rfl) d_T_check_56 ⟨Nat.zero_le _, Nat.zero_le _⟩ (fun r u1 H locs hw hP hD hS => ?_)
      obtain ⟨e1, e2⟩ := hw
      subst e1
      rw [e2] at hP hD; clear e2 u1
      refine lv_if_eq (tgt := 65) hx hb d_T_check_59 (by decide) (fun _ => ?_) (fun c9 => absurd rfl c9)
      refine lv_iinc (v := nI (i + 1)) (lv' := [(2, .int (nI (i + 1))), (1, .int (nI 0)), (0, .ref _)]) hx hb d_T_check_65 hl (k := 0) rfl (nI_add _ _) (by decide) rfl (fun ls hl => ?_)
      refine lv_goto (tgt := 39) hx hb d_T_check_68 (by decide) ?_
      exact ih (i + 1) (by omega) _ _ _ hP hD hS (lv_sub hl [0, 1, 2] rfl)
set_option maxHeartbeats 4000000 in
set_option maxRecDepth 100000 in
theorem c_T_check (l : Launch) (D : va_G) (G : Nat → Nat) (kc : Nat → ClassId) (sz : Nat) (u : TC) (hI : tI u) (hg : tG u) : XMi l y_T_check k_T_check { frames := 4, cells := 0, slots := 0, locals := 86 } D vwCl (wT G kc) (tyTs kc) u sz [.ref (G 0)] (fun r u1 => r = 0 ∧ u1 = u) := by
  refine xb_ofi (cc := b_T_check) (maxL := 3) (ret := some .int) (by decide) rfl (Nat.le_of_ble_eq_true rfl) ?_
  intro p e s m below meth c A ls hsz hx hb hml hr hlocks hts hown hP hK hD hA hl
  have hl : lv_has ls 3 [(0, .ref (G 0))] := hl
  have hS : va_S A s.heap s.heap [] := va_S.rf
  refine lv_iconst (v := 0) hx hb d_T_check_0 (by decide) ?_
  refine lv_istore_n (lv' := [(1, .int (nI 0)), (0, .ref _)]) hx hb d_T_check_1 rfl hl (by decide) rfl (fun ls hl => ?_)
  refine lv_iconst (v := 0) hx hb d_T_check_2 (by decide) ?_
  refine lv_istore_n (lv' := [(2, .int (nI 0)), (1, .int (nI 0)), (0, .ref _)]) hx hb d_T_check_3 rfl hl (by decide) rfl (fun ls hl => ?_)
  refine lp_T_check1 hx hb hml hown hts hK hA u hI hg ?_ 16 0 rfl _ _ _ hP hD hS (lv_sub hl [0, 1, 2] rfl)
  intro H locs ls hP hD hS hl
  refine lv_iconst (v := 0) hx hb d_T_check_37 (by decide) ?_
  refine lv_istore_n (lv' := [(2, .int (nI 0)), (1, .int (nI 0)), (0, .ref _)]) hx hb d_T_check_38 rfl hl (by decide) rfl (fun ls hl => ?_)
  refine lp_T_check2 hx hb hml hown hts hK hA u hI hg ?_ 4 0 rfl _ _ _ hP hD hS (lv_sub hl [0, 1, 2] rfl)
  intro H locs ls hP hD hS hl
  refine lv_iload_n hx hb d_T_check_71 rfl (lv_at hl 1 rfl) ?_
  exact xc_iret hx hb hr hlocks hP hK hD hS ⟨rfl, rfl⟩ d_T_check_72
end
section
/-! The reference's steps as functions of its state. -/
def mI (v : TM) : Prop := (∀ p, p < 4 → okR p (mKr v p)) ∧ (∀ p, p < 16 → okL p (mLn v p)) ∧ (∀ g, g < 1024 → mTg v g = 0 ∨ mTg v g = 1)
def gClrR (v : TM) (p : Nat) : TM := nRc (nKr v (upd (mKr v) p (-1))) (upd (mRc v) p 0)
def gWbR (v : TM) (k : Nat) : TM := nCs (nSo v (upd (mSo v) (2048 + k) (mRw v k))) (upd (mCs v) 3 (mCs v 3 + 1))
def gRowGo (v : TM) (p : Nat) : TM := if mKr v p = -1 ∨ mRc v p = 0 then gClrR v p else gClrR (gWbR v (mKr v p).toNatClampNeg) p
def gRowIn (v : TM) (k : Nat) : TM := nCs (nRw (nKr v (upd (mKr v) (k % 4) (nI k))) (upd (mRw v) k (mSo v (2048 + k)))) (upd (mCs v) 2 (mCs v 2 + 1))
def gWantRow (v : TM) (k : Nat) : TM := if mKr v (k % 4) = nI k then v else gRowIn (gRowGo v (k % 4)) k
def gSt1 (v : TM) (i : Nat) : TM := nSo v (upd (mSo v) i (mWd v i))
def gWbL1 (v : TM) (n : Nat) : TM := gSt1 (gSt1 (gSt1 (gSt1 v (4 * n)) (4 * n + 1)) (4 * n + 1 + 1)) (4 * n + 1 + 1 + 1)
def gTg1 (v : TM) (k g : Nat) : TM := nRw v (upd (mRw v) k ((mRw v k &&& (((1 : Int32) <<< (nI (g % 32) &&& 31)) ^^^ (-1))) ||| (if mTg v g = 0 then (0 : Int32) else (1 : Int32) <<< (nI (g % 32) &&& 31))))
def gWbL3 (v : TM) (n : Nat) : TM := nCs (nRc v (upd (mRc v) (n / 16 % 4) 1)) (upd (mCs v) 1 (mCs v 1 + 1))
def gWbL2 (v : TM) (n : Nat) : TM := gWbL3 (gTg1 (gTg1 v (n / 16) (2 * n)) (n / 16) (2 * n + 1)) n
def gWbL (v : TM) (n : Nat) : TM := gWbL2 (gWantRow (gWbL1 v n) (n / 16)) n
def gClrL (v : TM) (p : Nat) : TM := nLc (nLn v (upd (mLn v) p (-1))) (upd (mLc v) p 0)
def gLineGo (v : TM) (p : Nat) : TM := if mLn v p = -1 ∨ mLc v p = 0 then gClrL v p else gClrL (gWbL v (mLn v p).toNatClampNeg) p
def rmLineGo (v : TM) (p : Nat) : Int32 := if mLn v p = -1 ∨ mLc v p = 0 then 0 else 1
def gWant2 (v : TM) (n : Nat) : TM := nCs (nLn v (upd (mLn v) (n % 16) (nI n))) (upd (mCs v) 0 (mCs v 0 + 1))
def gWant (v : TM) (n : Nat) : TM := if mLn v (n % 16) = nI n then v else gWant2 (gWantRow (gLineGo v (n % 16)) (n / 16)) n
def gCh2 (v : TM) (i : Nat) (w t : Int32) : TM := nLc (nTg (nWd v (upd (mWd v) i w)) (upd (mTg v) (i / 2) t)) (upd (mLc v) (i / 4 % 16) 1)
def gCh (v : TM) (i : Nat) (w t : Int32) : TM := gCh2 (gWant v (i / 4)) i w t
theorem mI_clrR {v : TM} {p : Nat} (h : mI v) : mI (gClrR v p) := ⟨fun q hq => by
  show okR q (upd (mKr v) p (-1) q)
  unfold upd
  by_cases e : q = p
  · rw [if_pos e]; exact Or.inl rfl
  · rw [if_neg e]; exact h.1 q hq, h.2⟩
theorem mI_rowGo {v : TM} {p : Nat} (h : mI v) : mI (gRowGo v p) := by
  unfold gRowGo
  by_cases e : mKr v p = -1 ∨ mRc v p = 0
  · rw [if_pos e]; exact mI_clrR h
  · rw [if_neg e]; exact mI_clrR (v := gWbR v _) h
theorem mI_rowIn {v : TM} {k : Nat} (h : mI v) (hk : k < 32) : mI (gRowIn v k) := ⟨fun q hq => by
  show okR q (upd (mKr v) (k % 4) (nI k) q)
  unfold upd
  by_cases e : q = k % 4
  · rw [if_pos e]; exact Or.inr ⟨k, hk, e.symm, rfl⟩
  · rw [if_neg e]; exact h.1 q hq, h.2⟩
theorem mI_wantRow {v : TM} {k : Nat} (h : mI v) (hk : k < 32) : mI (gWantRow v k) := by
  unfold gWantRow
  by_cases e : mKr v (k % 4) = nI k
  · rw [if_pos e]; exact h
  · rw [if_neg e]; exact mI_rowIn (mI_rowGo h) hk
theorem mI_st1 {v : TM} {i : Nat} (h : mI v) : mI (gSt1 v i) := h
theorem mI_tg1 {v : TM} {k g : Nat} (h : mI v) : mI (gTg1 v k g) := h
theorem mI_wbL3 {v : TM} {n : Nat} (h : mI v) : mI (gWbL3 v n) := h
theorem mI_wbL1 {v : TM} {n : Nat} (h : mI v) : mI (gWbL1 v n) := mI_st1 (mI_st1 (mI_st1 (mI_st1 h)))
theorem mI_wbL {v : TM} {n : Nat} (h : mI v) (hn : n < 512) : mI (gWbL v n) := mI_wbL3 (mI_tg1 (mI_tg1 (mI_wantRow (k := n / 16) (mI_wbL1 h) (by omega))))
theorem mI_clrL {v : TM} {p : Nat} (h : mI v) : mI (gClrL v p) := ⟨h.1, fun q hq => by
  show okL q (upd (mLn v) p (-1) q)
  unfold upd
  by_cases e : q = p
  · rw [if_pos e]; exact Or.inl rfl
  · rw [if_neg e]; exact h.2.1 q hq, h.2.2⟩
theorem mI_lineGo {v : TM} {p : Nat} (h : mI v) (hp : p < 16) : mI (gLineGo v p) := by
  unfold gLineGo
  by_cases e : mLn v p = -1 ∨ mLc v p = 0
  · rw [if_pos e]; exact mI_clrL h
  · rw [if_neg e]
    rcases h.2.1 p hp with h1 | ⟨n, hn, -, h1⟩
    · exact absurd (Or.inl h1) e
    · rw [h1, nI_clamp (by omega)]; exact mI_clrL (mI_wbL h hn)
theorem mI_want {v : TM} {n : Nat} (h : mI v) (hn : n < 512) : mI (gWant v n) := by
  unfold gWant
  by_cases e : mLn v (n % 16) = nI n
  · rw [if_pos e]; exact h
  · rw [if_neg e]
    have h1 := mI_wantRow (mI_lineGo (p := n % 16) h (by omega)) (k := n / 16) (by omega)
    refine ⟨h1.1, fun q hq => ?_, h1.2.2⟩
    show okL q (upd (mLn (gWantRow (gLineGo v (n % 16)) (n / 16))) (n % 16) (nI n) q)
    unfold upd
    by_cases e : q = n % 16
    · rw [if_pos e]; exact Or.inr ⟨n, hn, e.symm, rfl⟩
    · rw [if_neg e]; exact h1.2.1 q hq
theorem mI_ch {v : TM} {i : Nat} {w t : Int32} (h : mI v) (hi : i < 2048) (ht : t = 0 ∨ t = 1) : mI (gCh v i w t) := by
  have h1 := mI_want (n := i / 4) h (by omega)
  refine ⟨h1.1, h1.2.1, fun g hg => ?_⟩
  show upd (mTg (gWant v (i / 4))) (i / 2) t g = 0 ∨ upd (mTg (gWant v (i / 4))) (i / 2) t g = 1
  unfold upd
  by_cases e : g = i / 2
  · rw [if_pos e]; exact ht
  · rw [if_neg e]; exact h1.2.2 g hg
theorem rmLineGo_01 (u : TM) (p : Nat) : rmLineGo u p = 0 ∨ rmLineGo u p = 1 := by
  unfold rmLineGo
  by_cases h : mLn u p = -1 ∨ mLc u p = 0
  · rw [if_pos h]; exact Or.inl rfl
  · rw [if_neg h]; exact Or.inr rfl
def gFlL : Nat → Nat → TM → Int32 → TM × Int32
  | 0, _, u, a => (u, a)
  | d + 1, i, u, a => gFlL d (i + 1) (gLineGo u i) (a + rmLineGo u i)
def gFlR : Nat → Nat → TM → TM
  | 0, _, u => u
  | d + 1, i, u => gFlR d (i + 1) (gRowGo u i)
def gFlush (u : TM) : TM := gFlR 4 0 (gFlL 16 0 (nTh u 0) 0).1
def rmFlush (u : TM) : Int32 := (gFlL 16 0 (nTh u 0) 0).2
theorem mI_flL : ∀ (d i : Nat) (u : TM) (a : Int32), i + d ≤ 16 → mI u → mI (gFlL d i u a).1
  | 0, _, _, _, _, h => h
  | d + 1, i, u, a, hi, h => mI_flL d (i + 1) (gLineGo u i) (a + rmLineGo u i) (by omega) (mI_lineGo h (by omega))
theorem mI_flR : ∀ (d i : Nat) (u : TM), mI u → mI (gFlR d i u)
  | 0, _, _, h => h
  | d + 1, i, u, h => mI_flR d (i + 1) (gRowGo u i) (mI_rowGo h)
def gPart (x : Int32) (i n : Nat) (v : Int32) : Int32 := (x &&& ((fMask n <<< (nI (8 * i) &&& 31)) ^^^ (-1))) ||| ((v <<< (nI (8 * i) &&& 31)) &&& (fMask n <<< (nI (8 * i) &&& 31)))
def gPut (v : TM) (g : Nat) (lo hi t : Int32) : TM := gCh (gCh v (2 * g) lo t) (2 * g + 1) hi t
def gCopy1 (v : TM) (g f : Nat) : TM := gCh v (2 * g) (mWd v (2 * f)) (mTg v f)
def gCopy2 (v : TM) (g f : Nat) (t : Int32) : TM := gCh v (2 * g + 1) (mWd v (2 * f + 1)) t
def gCopy (v : TM) (g f : Nat) : TM := gCopy2 (gCopy1 v g f) g f (mTg v f)
def rmCount (v : TM) (w : Nat) : Int32 := if w < 4 then mCs v w else if w = 4 then fCntNe 0 (mTg v) 1024 0 0 else if w = 5 then fCntNe (-1) (mLn v) 16 0 0 else if w = 6 then fCntNe 0 (mLc v) 16 0 0 else if w = 7 then fCntNe (-1) (mKr v) 4 0 0 else fCntNe 0 (mRc v) 4 0 0
/-- a number out of range, as the two sides' looks see it -/
def xbad (N : Nat) (x : Int32) : Prop := x < 0 ∨ (¬ x < 0 ∧ nI N ≤ x)
theorem xbad_lt {N : Nat} {x : Int32} (h : nI N ≤ x) : ¬ x < nI N := Int32.not_lt.mpr h
theorem xbad_le {N : Nat} {x : Int32} (hN : N + 1 < 2 ^ 31) (h : nI (N + 1) ≤ x) : ¬ x ≤ nI N := fun q => by
  rw [Int32.le_iff_toInt_le, nI_toInt (by omega)] at q
  rw [Int32.le_iff_toInt_le, nI_toInt (by omega)] at h
  omega
theorem xbad_or {N : Nat} (hN : N < 2 ^ 31) (x : Int32) : xbad N x ∨ ∃ j, j < N ∧ x = nI j := by
  rcases pk_ix x hN with h | h | h
  · exact Or.inl (Or.inl h)
  · by_cases h1 : x < 0
    · exact Or.inl (Or.inl h1)
    · exact Or.inl (Or.inr ⟨h1, h⟩)
  · exact Or.inr h
theorem gTg1_t {v : TM} {k g : Nat} (h : mTg v g = 0) : gTg1 v k g = nRw v (upd (mRw v) k ((mRw v k &&& (((1 : Int32) <<< (nI (g % 32) &&& 31)) ^^^ (-1))) ||| 0)) := by unfold gTg1; rw [if_pos h]
theorem gTg1_f {v : TM} {k g : Nat} (h : ¬ mTg v g = 0) : gTg1 v k g = nRw v (upd (mRw v) k ((mRw v k &&& (((1 : Int32) <<< (nI (g % 32) &&& 31)) ^^^ (-1))) ||| ((1 : Int32) <<< (nI (g % 32) &&& 31)))) := by unfold gTg1; rw [if_neg h]
end
section
set_option maxHeartbeats 4000000 in
set_option maxRecDepth 100000 in
theorem c_M_rowGoes (l : Launch) (D : va_G) (G : Nat → Nat) (kc : Nat → ClassId) (sz : Nat) (u : TM) (q : Nat) (hq : q < 4) (hI : mI u) : XMv l y_M_rowGoes k_M_rowGoes { frames := 0, cells := 0, slots := 0, locals := 0 } D vwCl (wM G kc) (tyMs kc) u sz [.ref (G 0), .int (nI q)] (fun u1 => u1 = gRowGo u q) := by
  refine xb_ofv (cc := b_M_rowGoes) (maxL := 2) (ret := none) (by decide) rfl (Nat.le_of_ble_eq_true rfl) ?_
  intro p e s m below meth c A ls hsz hx hb hml hr hlocks hts hown hP hK hD hA hl
  have hl : lv_has ls 2 [(0, .ref (G 0)), (1, .int (nI q))] := hl
  have hS : va_S A s.heap s.heap [] := va_S.rf
  by_cases h1 : mKr u q = -1
  · clear hI
    refine lv_aload_n hx hb d_M_rowGoes_0 rfl (lv_at hl 0 rfl) ?_
    refine xm_g6 hx hb hts hown hK hP d_M_rowGoes_1 ?_
    refine lv_iload_n hx hb d_M_rowGoes_4 rfl (lv_at hl 1 rfl) ?_
    refine xm_l6 hx hb hK hP q rfl (by omega) d_M_rowGoes_5 ?_
    refine lv_if_lt (tgt := 54) hx hb d_M_rowGoes_6 (by decide) (fun _ => ?_) (fun c9 => absurd (by rw [h1]; decide) c9)
    refine lv_aload_n hx hb d_M_rowGoes_54 rfl (lv_at hl 0 rfl) ?_
    refine xm_g6 hx hb hts hown hK hP d_M_rowGoes_55 ?_
    refine lv_iload_n hx hb d_M_rowGoes_58 rfl (lv_at hl 1 rfl) ?_
    refine lv_iconst (v := (-1)) hx hb d_M_rowGoes_59 (by decide) ?_
    refine xm_s6 hx hb hK hP hD hS q rfl (by omega) d_M_rowGoes_60 (fun H locs hP hD hS => ?_)
    refine lv_aload_n hx hb d_M_rowGoes_61 rfl (lv_at hl 0 rfl) ?_
    refine xm_g7 hx hb hts hown hK hP d_M_rowGoes_62 ?_
    refine lv_iload_n hx hb d_M_rowGoes_65 rfl (lv_at hl 1 rfl) ?_
    refine lv_iconst (v := 0) hx hb d_M_rowGoes_66 (by decide) ?_
    refine xm_s7 hx hb hK hP hD hS (Or.inl rfl) q rfl (by omega) d_M_rowGoes_67 (fun H locs hP hD hS => ?_)
    exact xc_vret hx hb hr hlocks hP hK hD hS (by unfold gRowGo; rw [if_pos (Or.inl h1)]; rfl) d_M_rowGoes_68
  · obtain ⟨k, hk, hkq, hk1⟩ : ∃ k, k < 32 ∧ k % 4 = q ∧ mKr u q = nI k := (hI.1 q hq).resolve_left h1
    by_cases h2 : mRc u q = 0
    · clear hI
      refine lv_aload_n hx hb d_M_rowGoes_0 rfl (lv_at hl 0 rfl) ?_
      refine xm_g6 hx hb hts hown hK hP d_M_rowGoes_1 ?_
      refine lv_iload_n hx hb d_M_rowGoes_4 rfl (lv_at hl 1 rfl) ?_
      refine xm_l6 hx hb hK hP q rfl (by omega) d_M_rowGoes_5 ?_
      refine lv_if_lt (tgt := 54) hx hb d_M_rowGoes_6 (by decide) (fun c9 => absurd c9 (by rw [hk1]; exact nI_pos (by omega))) (fun _ => ?_)
      refine lv_aload_n hx hb d_M_rowGoes_9 rfl (lv_at hl 0 rfl) ?_
      refine xm_g7 hx hb hts hown hK hP d_M_rowGoes_10 ?_
      refine lv_iload_n hx hb d_M_rowGoes_13 rfl (lv_at hl 1 rfl) ?_
      refine xm_l7 hx hb hK hP q rfl (by omega) d_M_rowGoes_14 ?_
      refine lv_if_eq (tgt := 54) hx hb d_M_rowGoes_15 (by decide) (fun _ => ?_) (fun c9 => absurd h2 c9)
      refine lv_aload_n hx hb d_M_rowGoes_54 rfl (lv_at hl 0 rfl) ?_
      refine xm_g6 hx hb hts hown hK hP d_M_rowGoes_55 ?_
      refine lv_iload_n hx hb d_M_rowGoes_58 rfl (lv_at hl 1 rfl) ?_
      refine lv_iconst (v := (-1)) hx hb d_M_rowGoes_59 (by decide) ?_
      refine xm_s6 hx hb hK hP hD hS q rfl (by omega) d_M_rowGoes_60 (fun H locs hP hD hS => ?_)
      refine lv_aload_n hx hb d_M_rowGoes_61 rfl (lv_at hl 0 rfl) ?_
      refine xm_g7 hx hb hts hown hK hP d_M_rowGoes_62 ?_
      refine lv_iload_n hx hb d_M_rowGoes_65 rfl (lv_at hl 1 rfl) ?_
      refine lv_iconst (v := 0) hx hb d_M_rowGoes_66 (by decide) ?_
      refine xm_s7 hx hb hK hP hD hS (Or.inl rfl) q rfl (by omega) d_M_rowGoes_67 (fun H locs hP hD hS => ?_)
      exact xc_vret hx hb hr hlocks hP hK hD hS (by unfold gRowGo; rw [if_pos (Or.inr h2)]; rfl) d_M_rowGoes_68
    · clear hI
      refine lv_aload_n hx hb d_M_rowGoes_0 rfl (lv_at hl 0 rfl) ?_
      refine xm_g6 hx hb hts hown hK hP d_M_rowGoes_1 ?_
      refine lv_iload_n hx hb d_M_rowGoes_4 rfl (lv_at hl 1 rfl) ?_
      refine xm_l6 hx hb hK hP q rfl (by omega) d_M_rowGoes_5 ?_
      refine lv_if_lt (tgt := 54) hx hb d_M_rowGoes_6 (by decide) (fun c9 => absurd c9 (by rw [hk1]; exact nI_pos (by omega))) (fun _ => ?_)
      refine lv_aload_n hx hb d_M_rowGoes_9 rfl (lv_at hl 0 rfl) ?_
      refine xm_g7 hx hb hts hown hK hP d_M_rowGoes_10 ?_
      refine lv_iload_n hx hb d_M_rowGoes_13 rfl (lv_at hl 1 rfl) ?_
      refine xm_l7 hx hb hK hP q rfl (by omega) d_M_rowGoes_14 ?_
      refine lv_if_eq (tgt := 54) hx hb d_M_rowGoes_15 (by decide) (fun c9 => absurd c9 h2) (fun _ => ?_)
      refine lv_aload_n hx hb d_M_rowGoes_18 rfl (lv_at hl 0 rfl) ?_
      refine xm_g2 hx hb hts hown hK hP d_M_rowGoes_19 ?_
      refine lv_sipush (v := 2048) hx hb d_M_rowGoes_22 (by decide) ?_
      refine lv_aload_n hx hb d_M_rowGoes_25 rfl (lv_at hl 0 rfl) ?_
      refine xm_g6 hx hb hts hown hK hP d_M_rowGoes_26 ?_
      refine lv_iload_n hx hb d_M_rowGoes_29 rfl (lv_at hl 1 rfl) ?_
      refine xm_l6 hx hb hK hP q rfl (by omega) d_M_rowGoes_30 ?_
      refine xa_top (nI k) hk1 ?_
      refine xa_iadd hx hb 2048 k rfl rfl d_M_rowGoes_31 ?_
      refine lv_aload_n hx hb d_M_rowGoes_32 rfl (lv_at hl 0 rfl) ?_
      refine xm_g3 hx hb hts hown hK hP d_M_rowGoes_33 ?_
      refine lv_aload_n hx hb d_M_rowGoes_36 rfl (lv_at hl 0 rfl) ?_
      refine xm_g6 hx hb hts hown hK hP d_M_rowGoes_37 ?_
      refine lv_iload_n hx hb d_M_rowGoes_40 rfl (lv_at hl 1 rfl) ?_
      refine xm_l6 hx hb hK hP q rfl (by omega) d_M_rowGoes_41 ?_
      refine xa_top (nI k) hk1 ?_
      refine xm_l3 hx hb hK hP k rfl (by omega) d_M_rowGoes_42 ?_
      refine xm_s2 hx hb hK hP hD hS (2048 + k) rfl (by omega) d_M_rowGoes_43 (fun H locs hP hD hS => ?_)
      refine lv_aload_n hx hb d_M_rowGoes_44 rfl (lv_at hl 0 rfl) ?_
      refine xm_g8 hx hb hts hown hK hP d_M_rowGoes_45 ?_
      refine lv_iconst (v := 3) hx hb d_M_rowGoes_48 (by decide) ?_
      refine lv_dup2_11 hx hb d_M_rowGoes_49 rfl rfl ?_
      refine xm_l8 hx hb hK hP 3 rfl (by omega) d_M_rowGoes_50 ?_
      refine lv_iconst (v := 1) hx hb d_M_rowGoes_51 (by decide) ?_
      refine lv_iadd hx hb d_M_rowGoes_52 ?_
      refine xm_s8 hx hb hK hP hD hS 3 rfl (by omega) d_M_rowGoes_53 (fun H locs hP hD hS => ?_)
      refine lv_aload_n hx hb d_M_rowGoes_54 rfl (lv_at hl 0 rfl) ?_
      refine xm_g6 hx hb hts hown hK hP d_M_rowGoes_55 ?_
      refine lv_iload_n hx hb d_M_rowGoes_58 rfl (lv_at hl 1 rfl) ?_
      refine lv_iconst (v := (-1)) hx hb d_M_rowGoes_59 (by decide) ?_
      refine xm_s6 hx hb hK hP hD hS q rfl (by omega) d_M_rowGoes_60 (fun H locs hP hD hS => ?_)
      refine lv_aload_n hx hb d_M_rowGoes_61 rfl (lv_at hl 0 rfl) ?_
      refine xm_g7 hx hb hts hown hK hP d_M_rowGoes_62 ?_
      refine lv_iload_n hx hb d_M_rowGoes_65 rfl (lv_at hl 1 rfl) ?_
      refine lv_iconst (v := 0) hx hb d_M_rowGoes_66 (by decide) ?_
      refine xm_s7 hx hb hK hP hD hS (Or.inl rfl) q rfl (by omega) d_M_rowGoes_67 (fun H locs hP hD hS => ?_)
      exact xc_vret hx hb hr hlocks hP hK hD hS (by unfold gRowGo; rw [if_neg (fun z => z.elim h1 h2), hk1, nI_clamp (by omega)]; rfl) d_M_rowGoes_68
set_option maxHeartbeats 4000000 in
set_option maxRecDepth 100000 in
theorem c_M_wantRow (l : Launch) (D : va_G) (G : Nat → Nat) (kc : Nat → ClassId) (sz : Nat) (u : TM) (k : Nat) (hk : k < 32) (hI : mI u) : XMv l y_M_wantRow k_M_wantRow { frames := 1, cells := 0, slots := 0, locals := 21 } D vwCl (wM G kc) (tyMs kc) u sz [.ref (G 0), .int (nI k)] (fun u1 => u1 = gWantRow u k) := by
  refine xb_ofv (cc := b_M_wantRow) (maxL := 2) (ret := none) (by decide) rfl (Nat.le_of_ble_eq_true rfl) ?_
  intro p e s m below meth c A ls hsz hx hb hml hr hlocks hts hown hP hK hD hA hl
  have hl : lv_has ls 2 [(0, .ref (G 0)), (1, .int (nI k))] := hl
  have hS : va_S A s.heap s.heap [] := va_S.rf
  by_cases h1 : mKr u (k % 4) = nI k
  · clear hI
    refine lv_aload_n hx hb d_M_wantRow_0 rfl (lv_at hl 0 rfl) ?_
    refine xm_g6 hx hb hts hown hK hP d_M_wantRow_1 ?_
    refine lv_iload_n hx hb d_M_wantRow_4 rfl (lv_at hl 1 rfl) ?_
    refine lv_iconst (v := 4) hx hb d_M_wantRow_5 (by decide) ?_
    refine xa_irem hx hb k 4 rfl rfl (by omega) (by decide) (by decide) d_M_wantRow_6 ?_
    refine xm_l6 hx hb hK hP (k % 4) rfl (by omega) d_M_wantRow_7 ?_
    refine lv_iload_n hx hb d_M_wantRow_8 rfl (lv_at hl 1 rfl) ?_
    refine lv_icmp_ne (tgt := 13) hx hb d_M_wantRow_9 (by decide) (fun c9 => absurd h1 c9) (fun _ => ?_)
    exact xc_vret hx hb hr hlocks hP hK hD hS (by unfold gWantRow; rw [if_pos h1]) d_M_wantRow_12
  · have hk4 : k % 4 < 4 := by omega
    refine lv_aload_n hx hb d_M_wantRow_0 rfl (lv_at hl 0 rfl) ?_
    refine xm_g6 hx hb hts hown hK hP d_M_wantRow_1 ?_
    refine lv_iload_n hx hb d_M_wantRow_4 rfl (lv_at hl 1 rfl) ?_
    refine lv_iconst (v := 4) hx hb d_M_wantRow_5 (by decide) ?_
    refine xa_irem hx hb k 4 rfl rfl (by omega) (by decide) (by decide) d_M_wantRow_6 ?_
    refine xm_l6 hx hb hK hP (k % 4) rfl (by omega) d_M_wantRow_7 ?_
    refine lv_iload_n hx hb d_M_wantRow_8 rfl (lv_at hl 1 rfl) ?_
    refine lv_icmp_ne (tgt := 13) hx hb d_M_wantRow_9 (by decide) (fun _ => ?_) (fun c9 => absurd c9 h1)
    refine lv_aload_n hx hb d_M_wantRow_13 rfl (lv_at hl 0 rfl) ?_
    refine lv_iload_n hx hb d_M_wantRow_14 rfl (lv_at hl 1 rfl) ?_
    refine lv_iconst (v := 4) hx hb d_M_wantRow_15 (by decide) ?_
    refine xa_irem hx hb k 4 rfl rfl (by omega) (by decide) (by decide) d_M_wantRow_16 ?_
    refine xc_callv (n := 1) (C := "TagMemoryModel") hx hb hml hown hts (c_M_rowGoes l D G kc _ _ (k % 4) (by omega) (by exact hI)) (tb_V wm_406 wm_408 ws_21 wm_2 wm_409) rfl rfl rfl (by decide +kernel) ⟨Nat.le_of_ble_eq_true rfl, Nat.le_of_ble_eq_true rfl⟩ hK hP hD hS hA rfl rfl rfl rfl hl.1 rfl (Nat.le_of_ble_eq_true rfl) d_M_wantRow_17 ⟨Nat.zero_le _, Nat.zero_le _⟩ (fun u1 H locs hw hP hD hS => ?_)
    rw [hw] at hP hD; clear hw u1
    refine lv_aload_n hx hb d_M_wantRow_20 rfl (lv_at hl 0 rfl) ?_
    refine xm_g6 hx hb hts hown hK hP d_M_wantRow_21 ?_
    refine lv_iload_n hx hb d_M_wantRow_24 rfl (lv_at hl 1 rfl) ?_
    refine lv_iconst (v := 4) hx hb d_M_wantRow_25 (by decide) ?_
    refine xa_irem hx hb k 4 rfl rfl (by omega) (by decide) (by decide) d_M_wantRow_26 ?_
    refine lv_iload_n hx hb d_M_wantRow_27 rfl (lv_at hl 1 rfl) ?_
    refine xm_s6 hx hb hK hP hD hS (k % 4) rfl (by omega) d_M_wantRow_28 (fun H locs hP hD hS => ?_)
    refine lv_aload_n hx hb d_M_wantRow_29 rfl (lv_at hl 0 rfl) ?_
    refine xm_g3 hx hb hts hown hK hP d_M_wantRow_30 ?_
    refine lv_iload_n hx hb d_M_wantRow_33 rfl (lv_at hl 1 rfl) ?_
    refine lv_aload_n hx hb d_M_wantRow_34 rfl (lv_at hl 0 rfl) ?_
    refine xm_g2 hx hb hts hown hK hP d_M_wantRow_35 ?_
    refine lv_sipush (v := 2048) hx hb d_M_wantRow_38 (by decide) ?_
    refine lv_iload_n hx hb d_M_wantRow_41 rfl (lv_at hl 1 rfl) ?_
    refine xa_iadd hx hb 2048 k rfl rfl d_M_wantRow_42 ?_
    refine xm_l2 hx hb hK hP (2048 + k) rfl (by omega) d_M_wantRow_43 ?_
    refine xm_s3 hx hb hK hP hD hS k rfl (by omega) d_M_wantRow_44 (fun H locs hP hD hS => ?_)
    refine lv_aload_n hx hb d_M_wantRow_45 rfl (lv_at hl 0 rfl) ?_
    refine xm_g8 hx hb hts hown hK hP d_M_wantRow_46 ?_
    refine lv_iconst (v := 2) hx hb d_M_wantRow_49 (by decide) ?_
    refine lv_dup2_11 hx hb d_M_wantRow_50 rfl rfl ?_
    refine xm_l8 hx hb hK hP 2 rfl (by omega) d_M_wantRow_51 ?_
    refine lv_iconst (v := 1) hx hb d_M_wantRow_52 (by decide) ?_
    refine lv_iadd hx hb d_M_wantRow_53 ?_
    refine xm_s8 hx hb hK hP hD hS 2 rfl (by omega) d_M_wantRow_54 (fun H locs hP hD hS => ?_)
    exact xc_vret hx hb hr hlocks hP hK hD hS (by unfold gWantRow; rw [if_neg h1]; rfl) d_M_wantRow_55
set_option maxHeartbeats 4000000 in
set_option maxRecDepth 100000 in
theorem c_M_lineGoes (l : Launch) (D : va_G) (G : Nat → Nat) (kc : Nat → ClassId) (sz : Nat) (u : TM) (q : Nat) (hq : q < 16) (hI : mI u) : XMi l y_M_lineGoes k_M_lineGoes { frames := 2, cells := 0, slots := 0, locals := 42 } D vwCl (wM G kc) (tyMs kc) u sz [.ref (G 0), .int (nI q)] (fun r u1 => r = rmLineGo u q ∧ u1 = gLineGo u q) := by
  refine xb_ofi (cc := b_M_lineGoes) (maxL := 6) (ret := some .boolean) (by decide) rfl (Nat.le_of_ble_eq_true rfl) ?_
  intro p e s m below meth c A ls hsz hx hb hml hr hlocks hts hown hP hK hD hA hl
  have hl : lv_has ls 6 [(0, .ref (G 0)), (1, .int (nI q))] := hl
  have hS : va_S A s.heap s.heap [] := va_S.rf
  by_cases h1 : mLn u q = -1
  · clear hI
    refine lv_aload_n hx hb d_M_lineGoes_0 rfl (lv_at hl 0 rfl) ?_
    refine xm_g4 hx hb hts hown hK hP d_M_lineGoes_1 ?_
    refine lv_iload_n hx hb d_M_lineGoes_4 rfl (lv_at hl 1 rfl) ?_
    refine xm_l4 hx hb hK hP q rfl (by omega) d_M_lineGoes_5 ?_
    refine lv_istore_n (lv' := [(2, .int _), (0, .ref _), (1, .int (nI q))]) hx hb d_M_lineGoes_6 rfl hl (by decide) rfl (fun ls hl => ?_)
    refine lv_iload_n hx hb d_M_lineGoes_7 rfl (lv_at hl 0 rfl) ?_
    refine lv_if_lt (tgt := 24) hx hb d_M_lineGoes_8 (by decide) (fun _ => ?_) (fun c9 => absurd (by rw [h1]; decide) c9)
    refine lv_iconst (v := 0) hx hb d_M_lineGoes_24 (by decide) ?_
    refine lv_istore_n (lv' := [(3, .int (nI 0)), (2, .int _), (0, .ref _), (1, .int (nI q))]) hx hb d_M_lineGoes_25 rfl hl (by decide) rfl (fun ls hl => ?_)
    refine lv_iload_n hx hb d_M_lineGoes_26 rfl (lv_at hl 0 rfl) ?_
    refine lv_if_eq (tgt := 164) hx hb d_M_lineGoes_27 (by decide) (fun _ => ?_) (fun c9 => absurd nI_0 c9)
    refine lv_aload_n hx hb d_M_lineGoes_164 rfl (lv_at hl 2 rfl) ?_
    refine xm_g4 hx hb hts hown hK hP d_M_lineGoes_165 ?_
    refine lv_iload_n hx hb d_M_lineGoes_168 rfl (lv_at hl 3 rfl) ?_
    refine lv_iconst (v := (-1)) hx hb d_M_lineGoes_169 (by decide) ?_
    refine xm_s4 hx hb hK hP hD hS q rfl (by omega) d_M_lineGoes_170 (fun H locs hP hD hS => ?_)
    refine lv_aload_n hx hb d_M_lineGoes_171 rfl (lv_at hl 2 rfl) ?_
    refine xm_g5 hx hb hts hown hK hP d_M_lineGoes_172 ?_
    refine lv_iload_n hx hb d_M_lineGoes_175 rfl (lv_at hl 3 rfl) ?_
    refine lv_iconst (v := 0) hx hb d_M_lineGoes_176 (by decide) ?_
    refine xm_s5 hx hb hK hP hD hS (Or.inl rfl) q rfl (by omega) d_M_lineGoes_177 (fun H locs hP hD hS => ?_)
    refine lv_iload_n hx hb d_M_lineGoes_178 rfl (lv_at hl 0 rfl) ?_
    exact xc_zret hx hb hr hlocks (Or.inl rfl) hP hK hD hS ⟨by unfold rmLineGo; rw [if_pos (Or.inl h1)]; rfl, by unfold gLineGo; rw [if_pos (Or.inl h1)]; rfl⟩ d_M_lineGoes_179
  · obtain ⟨n, hn, hnq, hn1⟩ : ∃ n, n < 512 ∧ n % 16 = q ∧ mLn u q = nI n := (hI.2.1 q hq).resolve_left h1
    by_cases h2 : mLc u q = 0
    · clear hI
      refine lv_aload_n hx hb d_M_lineGoes_0 rfl (lv_at hl 0 rfl) ?_
      refine xm_g4 hx hb hts hown hK hP d_M_lineGoes_1 ?_
      refine lv_iload_n hx hb d_M_lineGoes_4 rfl (lv_at hl 1 rfl) ?_
      refine xm_l4 hx hb hK hP q rfl (by omega) d_M_lineGoes_5 ?_
      refine xa_top (nI n) hn1 ?_
      refine lv_istore_n (lv' := [(2, .int (nI n)), (0, .ref _), (1, .int (nI q))]) hx hb d_M_lineGoes_6 rfl hl (by decide) rfl (fun ls hl => ?_)
      refine lv_iload_n hx hb d_M_lineGoes_7 rfl (lv_at hl 0 rfl) ?_
      refine lv_if_lt (tgt := 24) hx hb d_M_lineGoes_8 (by decide) (fun c9 => absurd c9 (nI_pos (by omega))) (fun _ => ?_)
      refine lv_aload_n hx hb d_M_lineGoes_11 rfl (lv_at hl 1 rfl) ?_
      refine xm_g5 hx hb hts hown hK hP d_M_lineGoes_12 ?_
      refine lv_iload_n hx hb d_M_lineGoes_15 rfl (lv_at hl 2 rfl) ?_
      refine xm_l5 hx hb hK hP q rfl (by omega) d_M_lineGoes_16 ?_
      refine lv_if_eq (tgt := 24) hx hb d_M_lineGoes_17 (by decide) (fun _ => ?_) (fun c9 => absurd h2 c9)
      refine lv_iconst (v := 0) hx hb d_M_lineGoes_24 (by decide) ?_
      refine lv_istore_n (lv' := [(3, .int (nI 0)), (2, .int (nI n)), (0, .ref _), (1, .int (nI q))]) hx hb d_M_lineGoes_25 rfl hl (by decide) rfl (fun ls hl => ?_)
      refine lv_iload_n hx hb d_M_lineGoes_26 rfl (lv_at hl 0 rfl) ?_
      refine lv_if_eq (tgt := 164) hx hb d_M_lineGoes_27 (by decide) (fun _ => ?_) (fun c9 => absurd nI_0 c9)
      refine lv_aload_n hx hb d_M_lineGoes_164 rfl (lv_at hl 2 rfl) ?_
      refine xm_g4 hx hb hts hown hK hP d_M_lineGoes_165 ?_
      refine lv_iload_n hx hb d_M_lineGoes_168 rfl (lv_at hl 3 rfl) ?_
      refine lv_iconst (v := (-1)) hx hb d_M_lineGoes_169 (by decide) ?_
      refine xm_s4 hx hb hK hP hD hS q rfl (by omega) d_M_lineGoes_170 (fun H locs hP hD hS => ?_)
      refine lv_aload_n hx hb d_M_lineGoes_171 rfl (lv_at hl 2 rfl) ?_
      refine xm_g5 hx hb hts hown hK hP d_M_lineGoes_172 ?_
      refine lv_iload_n hx hb d_M_lineGoes_175 rfl (lv_at hl 3 rfl) ?_
      refine lv_iconst (v := 0) hx hb d_M_lineGoes_176 (by decide) ?_
      refine xm_s5 hx hb hK hP hD hS (Or.inl rfl) q rfl (by omega) d_M_lineGoes_177 (fun H locs hP hD hS => ?_)
      refine lv_iload_n hx hb d_M_lineGoes_178 rfl (lv_at hl 0 rfl) ?_
      exact xc_zret hx hb hr hlocks (Or.inl rfl) hP hK hD hS ⟨by unfold rmLineGo; rw [if_pos (Or.inr h2)]; rfl, by unfold gLineGo; rw [if_pos (Or.inr h2)]; rfl⟩ d_M_lineGoes_179
    · by_cases h3 : mTg (gWantRow (gWbL1 u n) (n / 16)) (2 * n) = 0
      · by_cases h4 : mTg (gWantRow (gWbL1 u n) (n / 16)) (2 * n + 1) = 0
        · skip
          refine lv_aload_n hx hb d_M_lineGoes_0 rfl (lv_at hl 0 rfl) ?_
          refine xm_g4 hx hb hts hown hK hP d_M_lineGoes_1 ?_
          refine lv_iload_n hx hb d_M_lineGoes_4 rfl (lv_at hl 1 rfl) ?_
          refine xm_l4 hx hb hK hP q rfl (by omega) d_M_lineGoes_5 ?_
          refine xa_top (nI n) hn1 ?_
          refine lv_istore_n (lv' := [(2, .int (nI n)), (0, .ref _), (1, .int (nI q))]) hx hb d_M_lineGoes_6 rfl hl (by decide) rfl (fun ls hl => ?_)
          refine lv_iload_n hx hb d_M_lineGoes_7 rfl (lv_at hl 0 rfl) ?_
          refine lv_if_lt (tgt := 24) hx hb d_M_lineGoes_8 (by decide) (fun c9 => absurd c9 (nI_pos (by omega))) (fun _ => ?_)
          refine lv_aload_n hx hb d_M_lineGoes_11 rfl (lv_at hl 1 rfl) ?_
          refine xm_g5 hx hb hts hown hK hP d_M_lineGoes_12 ?_
          refine lv_iload_n hx hb d_M_lineGoes_15 rfl (lv_at hl 2 rfl) ?_
          refine xm_l5 hx hb hK hP q rfl (by omega) d_M_lineGoes_16 ?_
          refine lv_if_eq (tgt := 24) hx hb d_M_lineGoes_17 (by decide) (fun c9 => absurd c9 h2) (fun _ => ?_)
          refine lv_iconst (v := 1) hx hb d_M_lineGoes_20 (by decide) ?_
          refine lv_goto (tgt := 25) hx hb d_M_lineGoes_21 (by decide) ?_
          refine lv_istore_n (lv' := [(3, .int (nI 1)), (2, .int (nI n)), (0, .ref _), (1, .int (nI q))]) hx hb d_M_lineGoes_25 rfl hl (by decide) rfl (fun ls hl => ?_)
          refine lv_iload_n hx hb d_M_lineGoes_26 rfl (lv_at hl 0 rfl) ?_
          refine lv_if_eq (tgt := 164) hx hb d_M_lineGoes_27 (by decide) (fun c9 => absurd c9 (by decide)) (fun _ => ?_)
          refine lv_iconst (v := 4) hx hb d_M_lineGoes_30 (by decide) ?_
          refine lv_iload_n hx hb d_M_lineGoes_31 rfl (lv_at hl 1 rfl) ?_
          refine xa_imul hx hb 4 n rfl rfl d_M_lineGoes_32 ?_
          refine lv_istore (lv' := [(4, .int (nI (4 * n))), (3, .int (nI 1)), (2, .int (nI n)), (0, .ref _), (1, .int (nI q))]) hx hb d_M_lineGoes_33 hl (by decide) rfl (fun ls hl => ?_)
          refine lv_iload hx hb d_M_lineGoes_35 (lv_at hl 0 rfl) ?_
          refine lv_iconst (v := 4) hx hb d_M_lineGoes_37 (by decide) ?_
          refine lv_iload_n hx hb d_M_lineGoes_38 rfl (lv_at hl 2 rfl) ?_
          refine xa_imul hx hb 4 n rfl rfl d_M_lineGoes_39 ?_
          refine lv_iconst (v := 4) hx hb d_M_lineGoes_40 (by decide) ?_
          refine xa_iadd hx hb (4 * n) 4 rfl rfl d_M_lineGoes_41 ?_
          refine lv_icmp_ge (tgt := 65) hx hb d_M_lineGoes_42 (by decide) (fun c9 => absurd c9 (nI_ge (a := (4 * n)) (b := ((4 * n) + 4)) (by omega) (by omega))) (fun _ => ?_)
          refine lv_aload_n hx hb d_M_lineGoes_45 rfl (lv_at hl 3 rfl) ?_
          refine xm_g2 hx hb hts hown hK hP d_M_lineGoes_46 ?_
          refine lv_iload hx hb d_M_lineGoes_49 (lv_at hl 0 rfl) ?_
          refine lv_aload_n hx hb d_M_lineGoes_51 rfl (lv_at hl 3 rfl) ?_
          refine xm_g0 hx hb hts hown hK hP d_M_lineGoes_52 ?_
          refine lv_iload hx hb d_M_lineGoes_55 (lv_at hl 0 rfl) ?_
          refine xm_l0 hx hb hK hP (4 * n) rfl (by omega) d_M_lineGoes_57 ?_
          refine xm_s2 hx hb hK hP hD hS (4 * n) rfl (by omega) d_M_lineGoes_58 (fun H locs hP hD hS => ?_)
          refine lv_iinc (v := nI ((4 * n) + 1)) (lv' := [(4, .int (nI ((4 * n) + 1))), (3, .int (nI 1)), (2, .int (nI n)), (0, .ref _), (1, .int (nI q))]) hx hb d_M_lineGoes_59 hl (k := 0) rfl (nI_add _ _) (by decide) rfl (fun ls hl => ?_)
          refine lv_goto (tgt := 35) hx hb d_M_lineGoes_62 (by decide) ?_
          refine lv_iload hx hb d_M_lineGoes_35 (lv_at hl 0 rfl) ?_
          refine lv_iconst (v := 4) hx hb d_M_lineGoes_37 (by decide) ?_
          refine lv_iload_n hx hb d_M_lineGoes_38 rfl (lv_at hl 2 rfl) ?_
          refine xa_imul hx hb 4 n rfl rfl d_M_lineGoes_39 ?_
          refine lv_iconst (v := 4) hx hb d_M_lineGoes_40 (by decide) ?_
          refine xa_iadd hx hb (4 * n) 4 rfl rfl d_M_lineGoes_41 ?_
          refine lv_icmp_ge (tgt := 65) hx hb d_M_lineGoes_42 (by decide) (fun c9 => absurd c9 (nI_ge (a := ((4 * n) + 1)) (b := ((4 * n) + 4)) (by omega) (by omega))) (fun _ => ?_)
          refine lv_aload_n hx hb d_M_lineGoes_45 rfl (lv_at hl 3 rfl) ?_
          refine xm_g2 hx hb hts hown hK hP d_M_lineGoes_46 ?_
          refine lv_iload hx hb d_M_lineGoes_49 (lv_at hl 0 rfl) ?_
          refine lv_aload_n hx hb d_M_lineGoes_51 rfl (lv_at hl 3 rfl) ?_
          refine xm_g0 hx hb hts hown hK hP d_M_lineGoes_52 ?_
          refine lv_iload hx hb d_M_lineGoes_55 (lv_at hl 0 rfl) ?_
          refine xm_l0 hx hb hK hP ((4 * n) + 1) rfl (by omega) d_M_lineGoes_57 ?_
          refine xm_s2 hx hb hK hP hD hS ((4 * n) + 1) rfl (by omega) d_M_lineGoes_58 (fun H locs hP hD hS => ?_)
          refine lv_iinc (v := nI (((4 * n) + 1) + 1)) (lv' := [(4, .int (nI (((4 * n) + 1) + 1))), (3, .int (nI 1)), (2, .int (nI n)), (0, .ref _), (1, .int (nI q))]) hx hb d_M_lineGoes_59 hl (k := 0) rfl (nI_add _ _) (by decide) rfl (fun ls hl => ?_)
          refine lv_goto (tgt := 35) hx hb d_M_lineGoes_62 (by decide) ?_
          refine lv_iload hx hb d_M_lineGoes_35 (lv_at hl 0 rfl) ?_
          refine lv_iconst (v := 4) hx hb d_M_lineGoes_37 (by decide) ?_
          refine lv_iload_n hx hb d_M_lineGoes_38 rfl (lv_at hl 2 rfl) ?_
          refine xa_imul hx hb 4 n rfl rfl d_M_lineGoes_39 ?_
          refine lv_iconst (v := 4) hx hb d_M_lineGoes_40 (by decide) ?_
          refine xa_iadd hx hb (4 * n) 4 rfl rfl d_M_lineGoes_41 ?_
          refine lv_icmp_ge (tgt := 65) hx hb d_M_lineGoes_42 (by decide) (fun c9 => absurd c9 (nI_ge (a := (((4 * n) + 1) + 1)) (b := ((4 * n) + 4)) (by omega) (by omega))) (fun _ => ?_)
          refine lv_aload_n hx hb d_M_lineGoes_45 rfl (lv_at hl 3 rfl) ?_
          refine xm_g2 hx hb hts hown hK hP d_M_lineGoes_46 ?_
          refine lv_iload hx hb d_M_lineGoes_49 (lv_at hl 0 rfl) ?_
          refine lv_aload_n hx hb d_M_lineGoes_51 rfl (lv_at hl 3 rfl) ?_
          refine xm_g0 hx hb hts hown hK hP d_M_lineGoes_52 ?_
          refine lv_iload hx hb d_M_lineGoes_55 (lv_at hl 0 rfl) ?_
          refine xm_l0 hx hb hK hP (((4 * n) + 1) + 1) rfl (by omega) d_M_lineGoes_57 ?_
          refine xm_s2 hx hb hK hP hD hS (((4 * n) + 1) + 1) rfl (by omega) d_M_lineGoes_58 (fun H locs hP hD hS => ?_)
          refine lv_iinc (v := nI ((((4 * n) + 1) + 1) + 1)) (lv' := [(4, .int (nI ((((4 * n) + 1) + 1) + 1))), (3, .int (nI 1)), (2, .int (nI n)), (0, .ref _), (1, .int (nI q))]) hx hb d_M_lineGoes_59 hl (k := 0) rfl (nI_add _ _) (by decide) rfl (fun ls hl => ?_)
          refine lv_goto (tgt := 35) hx hb d_M_lineGoes_62 (by decide) ?_
          refine lv_iload hx hb d_M_lineGoes_35 (lv_at hl 0 rfl) ?_
          refine lv_iconst (v := 4) hx hb d_M_lineGoes_37 (by decide) ?_
          refine lv_iload_n hx hb d_M_lineGoes_38 rfl (lv_at hl 2 rfl) ?_
          refine xa_imul hx hb 4 n rfl rfl d_M_lineGoes_39 ?_
          refine lv_iconst (v := 4) hx hb d_M_lineGoes_40 (by decide) ?_
          refine xa_iadd hx hb (4 * n) 4 rfl rfl d_M_lineGoes_41 ?_
          refine lv_icmp_ge (tgt := 65) hx hb d_M_lineGoes_42 (by decide) (fun c9 => absurd c9 (nI_ge (a := ((((4 * n) + 1) + 1) + 1)) (b := ((4 * n) + 4)) (by omega) (by omega))) (fun _ => ?_)
          refine lv_aload_n hx hb d_M_lineGoes_45 rfl (lv_at hl 3 rfl) ?_
          refine xm_g2 hx hb hts hown hK hP d_M_lineGoes_46 ?_
          refine lv_iload hx hb d_M_lineGoes_49 (lv_at hl 0 rfl) ?_
          refine lv_aload_n hx hb d_M_lineGoes_51 rfl (lv_at hl 3 rfl) ?_
          refine xm_g0 hx hb hts hown hK hP d_M_lineGoes_52 ?_
          refine lv_iload hx hb d_M_lineGoes_55 (lv_at hl 0 rfl) ?_
          refine xm_l0 hx hb hK hP ((((4 * n) + 1) + 1) + 1) rfl (by omega) d_M_lineGoes_57 ?_
          refine xm_s2 hx hb hK hP hD hS ((((4 * n) + 1) + 1) + 1) rfl (by omega) d_M_lineGoes_58 (fun H locs hP hD hS => ?_)
          refine lv_iinc (v := nI (((((4 * n) + 1) + 1) + 1) + 1)) (lv' := [(4, .int (nI (((((4 * n) + 1) + 1) + 1) + 1))), (3, .int (nI 1)), (2, .int (nI n)), (0, .ref _), (1, .int (nI q))]) hx hb d_M_lineGoes_59 hl (k := 0) rfl (nI_add _ _) (by decide) rfl (fun ls hl => ?_)
          refine lv_goto (tgt := 35) hx hb d_M_lineGoes_62 (by decide) ?_
          refine lv_iload hx hb d_M_lineGoes_35 (lv_at hl 0 rfl) ?_
          refine lv_iconst (v := 4) hx hb d_M_lineGoes_37 (by decide) ?_
          refine lv_iload_n hx hb d_M_lineGoes_38 rfl (lv_at hl 2 rfl) ?_
          refine xa_imul hx hb 4 n rfl rfl d_M_lineGoes_39 ?_
          refine lv_iconst (v := 4) hx hb d_M_lineGoes_40 (by decide) ?_
          refine xa_iadd hx hb (4 * n) 4 rfl rfl d_M_lineGoes_41 ?_
          refine lv_icmp_ge (tgt := 65) hx hb d_M_lineGoes_42 (by decide) (fun _ => ?_) (fun c9 => absurd (nI_le (a := ((4 * n) + 4)) (b := (((((4 * n) + 1) + 1) + 1) + 1)) (by omega) (by omega)) c9)
          have hP : va_P D vwCl (wM G kc (gWbL1 u n)) H := hP
          have hD : va_D A (wM G kc (gWbL1 u n)) := hD
          refine lv_iload_n hx hb d_M_lineGoes_65 rfl (lv_at hl 2 rfl) ?_
          refine lv_bipush (v := 16) hx hb d_M_lineGoes_66 (by decide) ?_
          refine xa_idiv hx hb n 16 rfl rfl (by omega) (by decide) (by decide) d_M_lineGoes_68 ?_
          refine lv_istore (lv' := [(4, .int (nI (n / 16))), (3, .int (nI 1)), (2, .int (nI n)), (0, .ref _), (1, .int (nI q))]) hx hb d_M_lineGoes_69 hl (by decide) rfl (fun ls hl => ?_)
          refine lv_aload_n hx hb d_M_lineGoes_71 rfl (lv_at hl 3 rfl) ?_
          refine lv_iload hx hb d_M_lineGoes_72 (lv_at hl 0 rfl) ?_
          refine xc_callv (n := 1) (C := "TagMemoryModel") hx hb hml hown hts (c_M_wantRow l D G kc _ _ (n / 16) (by omega) (by exact mI_wbL1 hI)) (tb_V wm_402 wm_404 ws_20 wm_2 wm_405) rfl rfl rfl (by decide +kernel) ⟨Nat.le_of_ble_eq_true rfl, Nat.le_of_ble_eq_true rfl⟩ hK hP hD hS hA rfl rfl rfl rfl hl.1 rfl (Nat.le_of_ble_eq_true rfl) d_M_lineGoes_74 ⟨Nat.zero_le _, Nat.zero_le _⟩ (fun u1 H locs hw hP hD hS => ?_)
          rw [hw] at hP hD; clear hw u1
          refine lv_iconst (v := 2) hx hb d_M_lineGoes_77 (by decide) ?_
          refine lv_iload_n hx hb d_M_lineGoes_78 rfl (lv_at hl 2 rfl) ?_
          refine xa_imul hx hb 2 n rfl rfl d_M_lineGoes_79 ?_
          refine lv_istore (lv' := [(5, .int (nI (2 * n))), (4, .int (nI (n / 16))), (3, .int (nI 1)), (2, .int (nI n)), (0, .ref _), (1, .int (nI q))]) hx hb d_M_lineGoes_80 hl (by decide) rfl (fun ls hl => ?_)
          refine lv_iload hx hb d_M_lineGoes_82 (lv_at hl 0 rfl) ?_
          refine lv_iconst (v := 2) hx hb d_M_lineGoes_84 (by decide) ?_
          refine lv_iload_n hx hb d_M_lineGoes_85 rfl (lv_at hl 3 rfl) ?_
          refine xa_imul hx hb 2 n rfl rfl d_M_lineGoes_86 ?_
          refine lv_iconst (v := 2) hx hb d_M_lineGoes_87 (by decide) ?_
          refine xa_iadd hx hb (2 * n) 2 rfl rfl d_M_lineGoes_88 ?_
          refine lv_icmp_ge (tgt := 144) hx hb d_M_lineGoes_89 (by decide) (fun c9 => absurd c9 (nI_ge (a := (2 * n)) (b := ((2 * n) + 2)) (by omega) (by omega))) (fun _ => ?_)
          refine lv_aload_n hx hb d_M_lineGoes_92 rfl (lv_at hl 4 rfl) ?_
          refine xm_g3 hx hb hts hown hK hP d_M_lineGoes_93 ?_
          refine lv_iload hx hb d_M_lineGoes_96 (lv_at hl 1 rfl) ?_
          refine lv_aload_n hx hb d_M_lineGoes_98 rfl (lv_at hl 4 rfl) ?_
          refine xm_g3 hx hb hts hown hK hP d_M_lineGoes_99 ?_
          refine lv_iload hx hb d_M_lineGoes_102 (lv_at hl 1 rfl) ?_
          refine xm_l3 hx hb hK hP (n / 16) rfl (by omega) d_M_lineGoes_104 ?_
          refine lv_iconst (v := 1) hx hb d_M_lineGoes_105 (by decide) ?_
          refine lv_iload hx hb d_M_lineGoes_106 (lv_at hl 0 rfl) ?_
          refine lv_bipush (v := 32) hx hb d_M_lineGoes_108 (by decide) ?_
          refine xa_irem hx hb (2 * n) 32 rfl rfl (by omega) (by decide) (by decide) d_M_lineGoes_110 ?_
          refine lv_ishl hx hb d_M_lineGoes_111 ?_
          refine lv_iconst (v := (-1)) hx hb d_M_lineGoes_112 (by decide) ?_
          refine lv_ixor hx hb d_M_lineGoes_113 ?_
          refine lv_iand hx hb d_M_lineGoes_114 ?_
          refine lv_aload_n hx hb d_M_lineGoes_115 rfl (lv_at hl 4 rfl) ?_
          refine xm_g1 hx hb hts hown hK hP d_M_lineGoes_116 ?_
          refine lv_iload hx hb d_M_lineGoes_119 (lv_at hl 0 rfl) ?_
          refine xm_l1 hx hb hK hP (2 * n) rfl (by omega) d_M_lineGoes_121 ?_
          refine lv_if_eq (tgt := 135) hx hb d_M_lineGoes_122 (by decide) (fun _ => ?_) (fun c9 => absurd h3 c9)
          refine lv_iconst (v := 0) hx hb d_M_lineGoes_135 (by decide) ?_
          refine lv_ior hx hb d_M_lineGoes_136 ?_
          refine xm_s3 hx hb hK hP hD hS (n / 16) rfl (by omega) d_M_lineGoes_137 (fun H locs hP hD hS => ?_)
          have hP : va_P D vwCl (wM G kc (gTg1 (gWantRow (gWbL1 u n) (n / 16)) (n / 16) (2 * n))) H := by rw [gTg1_t h3]; exact hP
          have hD : va_D A (wM G kc (gTg1 (gWantRow (gWbL1 u n) (n / 16)) (n / 16) (2 * n))) := by rw [gTg1_t h3]; exact hD
          refine lv_iinc (v := nI ((2 * n) + 1)) (lv' := [(5, .int (nI ((2 * n) + 1))), (4, .int (nI (n / 16))), (3, .int (nI 1)), (2, .int (nI n)), (0, .ref _), (1, .int (nI q))]) hx hb d_M_lineGoes_138 hl (k := 0) rfl (nI_add _ _) (by decide) rfl (fun ls hl => ?_)
          refine lv_goto (tgt := 82) hx hb d_M_lineGoes_141 (by decide) ?_
          refine lv_iload hx hb d_M_lineGoes_82 (lv_at hl 0 rfl) ?_
          refine lv_iconst (v := 2) hx hb d_M_lineGoes_84 (by decide) ?_
          refine lv_iload_n hx hb d_M_lineGoes_85 rfl (lv_at hl 3 rfl) ?_
          refine xa_imul hx hb 2 n rfl rfl d_M_lineGoes_86 ?_
          refine lv_iconst (v := 2) hx hb d_M_lineGoes_87 (by decide) ?_
          refine xa_iadd hx hb (2 * n) 2 rfl rfl d_M_lineGoes_88 ?_
          refine lv_icmp_ge (tgt := 144) hx hb d_M_lineGoes_89 (by decide) (fun c9 => absurd c9 (nI_ge (a := ((2 * n) + 1)) (b := ((2 * n) + 2)) (by omega) (by omega))) (fun _ => ?_)
          refine lv_aload_n hx hb d_M_lineGoes_92 rfl (lv_at hl 4 rfl) ?_
          refine xm_g3 hx hb hts hown hK hP d_M_lineGoes_93 ?_
          refine lv_iload hx hb d_M_lineGoes_96 (lv_at hl 1 rfl) ?_
          refine lv_aload_n hx hb d_M_lineGoes_98 rfl (lv_at hl 4 rfl) ?_
          refine xm_g3 hx hb hts hown hK hP d_M_lineGoes_99 ?_
          refine lv_iload hx hb d_M_lineGoes_102 (lv_at hl 1 rfl) ?_
          refine xm_l3 hx hb hK hP (n / 16) rfl (by omega) d_M_lineGoes_104 ?_
          refine lv_iconst (v := 1) hx hb d_M_lineGoes_105 (by decide) ?_
          refine lv_iload hx hb d_M_lineGoes_106 (lv_at hl 0 rfl) ?_
          refine lv_bipush (v := 32) hx hb d_M_lineGoes_108 (by decide) ?_
          refine xa_irem hx hb ((2 * n) + 1) 32 rfl rfl (by omega) (by decide) (by decide) d_M_lineGoes_110 ?_
          refine lv_ishl hx hb d_M_lineGoes_111 ?_
          refine lv_iconst (v := (-1)) hx hb d_M_lineGoes_112 (by decide) ?_
          refine lv_ixor hx hb d_M_lineGoes_113 ?_
          refine lv_iand hx hb d_M_lineGoes_114 ?_
          refine lv_aload_n hx hb d_M_lineGoes_115 rfl (lv_at hl 4 rfl) ?_
          refine xm_g1 hx hb hts hown hK hP d_M_lineGoes_116 ?_
          refine lv_iload hx hb d_M_lineGoes_119 (lv_at hl 0 rfl) ?_
          refine xm_l1 hx hb hK hP ((2 * n) + 1) rfl (by omega) d_M_lineGoes_121 ?_
          refine lv_if_eq (tgt := 135) hx hb d_M_lineGoes_122 (by decide) (fun _ => ?_) (fun c9 => absurd (show mTg (gTg1 (gWantRow (gWbL1 u n) (n / 16)) (n / 16) (2 * n)) (2 * n + 1) = 0 from h4) c9)
          refine lv_iconst (v := 0) hx hb d_M_lineGoes_135 (by decide) ?_
          refine lv_ior hx hb d_M_lineGoes_136 ?_
          refine xm_s3 hx hb hK hP hD hS (n / 16) rfl (by omega) d_M_lineGoes_137 (fun H locs hP hD hS => ?_)
          have hP : va_P D vwCl (wM G kc (gTg1 (gTg1 (gWantRow (gWbL1 u n) (n / 16)) (n / 16) (2 * n)) (n / 16) (2 * n + 1))) H := by rw [gTg1_t (show mTg (gTg1 (gWantRow (gWbL1 u n) (n / 16)) (n / 16) (2 * n)) (2 * n + 1) = 0 from h4)]; exact hP
          have hD : va_D A (wM G kc (gTg1 (gTg1 (gWantRow (gWbL1 u n) (n / 16)) (n / 16) (2 * n)) (n / 16) (2 * n + 1))) := by rw [gTg1_t (show mTg (gTg1 (gWantRow (gWbL1 u n) (n / 16)) (n / 16) (2 * n)) (2 * n + 1) = 0 from h4)]; exact hD
          refine lv_iinc (v := nI (((2 * n) + 1) + 1)) (lv' := [(5, .int (nI (((2 * n) + 1) + 1))), (4, .int (nI (n / 16))), (3, .int (nI 1)), (2, .int (nI n)), (0, .ref _), (1, .int (nI q))]) hx hb d_M_lineGoes_138 hl (k := 0) rfl (nI_add _ _) (by decide) rfl (fun ls hl => ?_)
          refine lv_goto (tgt := 82) hx hb d_M_lineGoes_141 (by decide) ?_
          refine lv_iload hx hb d_M_lineGoes_82 (lv_at hl 0 rfl) ?_
          refine lv_iconst (v := 2) hx hb d_M_lineGoes_84 (by decide) ?_
          refine lv_iload_n hx hb d_M_lineGoes_85 rfl (lv_at hl 3 rfl) ?_
          refine xa_imul hx hb 2 n rfl rfl d_M_lineGoes_86 ?_
          refine lv_iconst (v := 2) hx hb d_M_lineGoes_87 (by decide) ?_
          refine xa_iadd hx hb (2 * n) 2 rfl rfl d_M_lineGoes_88 ?_
          refine lv_icmp_ge (tgt := 144) hx hb d_M_lineGoes_89 (by decide) (fun _ => ?_) (fun c9 => absurd (nI_le (a := ((2 * n) + 2)) (b := (((2 * n) + 1) + 1)) (by omega) (by omega)) c9)
          refine lv_aload_n hx hb d_M_lineGoes_144 rfl (lv_at hl 4 rfl) ?_
          refine xm_g7 hx hb hts hown hK hP d_M_lineGoes_145 ?_
          refine lv_iload hx hb d_M_lineGoes_148 (lv_at hl 1 rfl) ?_
          refine lv_iconst (v := 4) hx hb d_M_lineGoes_150 (by decide) ?_
          refine xa_irem hx hb (n / 16) 4 rfl rfl (by omega) (by decide) (by decide) d_M_lineGoes_151 ?_
          refine lv_iconst (v := 1) hx hb d_M_lineGoes_152 (by decide) ?_
          refine xm_s7 hx hb hK hP hD hS (Or.inr rfl) ((n / 16) % 4) rfl (by omega) d_M_lineGoes_153 (fun H locs hP hD hS => ?_)
          refine lv_aload_n hx hb d_M_lineGoes_154 rfl (lv_at hl 4 rfl) ?_
          refine xm_g8 hx hb hts hown hK hP d_M_lineGoes_155 ?_
          refine lv_iconst (v := 1) hx hb d_M_lineGoes_158 (by decide) ?_
          refine lv_dup2_11 hx hb d_M_lineGoes_159 rfl rfl ?_
          refine xm_l8 hx hb hK hP 1 rfl (by omega) d_M_lineGoes_160 ?_
          refine lv_iconst (v := 1) hx hb d_M_lineGoes_161 (by decide) ?_
          refine lv_iadd hx hb d_M_lineGoes_162 ?_
          refine xm_s8 hx hb hK hP hD hS 1 rfl (by omega) d_M_lineGoes_163 (fun H locs hP hD hS => ?_)
          refine lv_aload_n hx hb d_M_lineGoes_164 rfl (lv_at hl 4 rfl) ?_
          refine xm_g4 hx hb hts hown hK hP d_M_lineGoes_165 ?_
          refine lv_iload_n hx hb d_M_lineGoes_168 rfl (lv_at hl 5 rfl) ?_
          refine lv_iconst (v := (-1)) hx hb d_M_lineGoes_169 (by decide) ?_
          refine xm_s4 hx hb hK hP hD hS q rfl (by omega) d_M_lineGoes_170 (fun H locs hP hD hS => ?_)
          refine lv_aload_n hx hb d_M_lineGoes_171 rfl (lv_at hl 4 rfl) ?_
          refine xm_g5 hx hb hts hown hK hP d_M_lineGoes_172 ?_
          refine lv_iload_n hx hb d_M_lineGoes_175 rfl (lv_at hl 5 rfl) ?_
          refine lv_iconst (v := 0) hx hb d_M_lineGoes_176 (by decide) ?_
          refine xm_s5 hx hb hK hP hD hS (Or.inl rfl) q rfl (by omega) d_M_lineGoes_177 (fun H locs hP hD hS => ?_)
          refine lv_iload_n hx hb d_M_lineGoes_178 rfl (lv_at hl 2 rfl) ?_
          exact xc_zret hx hb hr hlocks (Or.inr rfl) hP hK hD hS ⟨by unfold rmLineGo; rw [if_neg (fun z => z.elim h1 h2)]; rfl, by unfold gLineGo; rw [if_neg (fun z => z.elim h1 h2), hn1, nI_clamp (by omega)]; rfl⟩ d_M_lineGoes_179
        · skip
          refine lv_aload_n hx hb d_M_lineGoes_0 rfl (lv_at hl 0 rfl) ?_
          refine xm_g4 hx hb hts hown hK hP d_M_lineGoes_1 ?_
          refine lv_iload_n hx hb d_M_lineGoes_4 rfl (lv_at hl 1 rfl) ?_
          refine xm_l4 hx hb hK hP q rfl (by omega) d_M_lineGoes_5 ?_
          refine xa_top (nI n) hn1 ?_
          refine lv_istore_n (lv' := [(2, .int (nI n)), (0, .ref _), (1, .int (nI q))]) hx hb d_M_lineGoes_6 rfl hl (by decide) rfl (fun ls hl => ?_)
          refine lv_iload_n hx hb d_M_lineGoes_7 rfl (lv_at hl 0 rfl) ?_
          refine lv_if_lt (tgt := 24) hx hb d_M_lineGoes_8 (by decide) (fun c9 => absurd c9 (nI_pos (by omega))) (fun _ => ?_)
          refine lv_aload_n hx hb d_M_lineGoes_11 rfl (lv_at hl 1 rfl) ?_
          refine xm_g5 hx hb hts hown hK hP d_M_lineGoes_12 ?_
          refine lv_iload_n hx hb d_M_lineGoes_15 rfl (lv_at hl 2 rfl) ?_
          refine xm_l5 hx hb hK hP q rfl (by omega) d_M_lineGoes_16 ?_
          refine lv_if_eq (tgt := 24) hx hb d_M_lineGoes_17 (by decide) (fun c9 => absurd c9 h2) (fun _ => ?_)
          refine lv_iconst (v := 1) hx hb d_M_lineGoes_20 (by decide) ?_
          refine lv_goto (tgt := 25) hx hb d_M_lineGoes_21 (by decide) ?_
          refine lv_istore_n (lv' := [(3, .int (nI 1)), (2, .int (nI n)), (0, .ref _), (1, .int (nI q))]) hx hb d_M_lineGoes_25 rfl hl (by decide) rfl (fun ls hl => ?_)
          refine lv_iload_n hx hb d_M_lineGoes_26 rfl (lv_at hl 0 rfl) ?_
          refine lv_if_eq (tgt := 164) hx hb d_M_lineGoes_27 (by decide) (fun c9 => absurd c9 (by decide)) (fun _ => ?_)
          refine lv_iconst (v := 4) hx hb d_M_lineGoes_30 (by decide) ?_
          refine lv_iload_n hx hb d_M_lineGoes_31 rfl (lv_at hl 1 rfl) ?_
          refine xa_imul hx hb 4 n rfl rfl d_M_lineGoes_32 ?_
          refine lv_istore (lv' := [(4, .int (nI (4 * n))), (3, .int (nI 1)), (2, .int (nI n)), (0, .ref _), (1, .int (nI q))]) hx hb d_M_lineGoes_33 hl (by decide) rfl (fun ls hl => ?_)
          refine lv_iload hx hb d_M_lineGoes_35 (lv_at hl 0 rfl) ?_
          refine lv_iconst (v := 4) hx hb d_M_lineGoes_37 (by decide) ?_
          refine lv_iload_n hx hb d_M_lineGoes_38 rfl (lv_at hl 2 rfl) ?_
          refine xa_imul hx hb 4 n rfl rfl d_M_lineGoes_39 ?_
          refine lv_iconst (v := 4) hx hb d_M_lineGoes_40 (by decide) ?_
          refine xa_iadd hx hb (4 * n) 4 rfl rfl d_M_lineGoes_41 ?_
          refine lv_icmp_ge (tgt := 65) hx hb d_M_lineGoes_42 (by decide) (fun c9 => absurd c9 (nI_ge (a := (4 * n)) (b := ((4 * n) + 4)) (by omega) (by omega))) (fun _ => ?_)
          refine lv_aload_n hx hb d_M_lineGoes_45 rfl (lv_at hl 3 rfl) ?_
          refine xm_g2 hx hb hts hown hK hP d_M_lineGoes_46 ?_
          refine lv_iload hx hb d_M_lineGoes_49 (lv_at hl 0 rfl) ?_
          refine lv_aload_n hx hb d_M_lineGoes_51 rfl (lv_at hl 3 rfl) ?_
          refine xm_g0 hx hb hts hown hK hP d_M_lineGoes_52 ?_
          refine lv_iload hx hb d_M_lineGoes_55 (lv_at hl 0 rfl) ?_
          refine xm_l0 hx hb hK hP (4 * n) rfl (by omega) d_M_lineGoes_57 ?_
          refine xm_s2 hx hb hK hP hD hS (4 * n) rfl (by omega) d_M_lineGoes_58 (fun H locs hP hD hS => ?_)
          refine lv_iinc (v := nI ((4 * n) + 1)) (lv' := [(4, .int (nI ((4 * n) + 1))), (3, .int (nI 1)), (2, .int (nI n)), (0, .ref _), (1, .int (nI q))]) hx hb d_M_lineGoes_59 hl (k := 0) rfl (nI_add _ _) (by decide) rfl (fun ls hl => ?_)
          refine lv_goto (tgt := 35) hx hb d_M_lineGoes_62 (by decide) ?_
          refine lv_iload hx hb d_M_lineGoes_35 (lv_at hl 0 rfl) ?_
          refine lv_iconst (v := 4) hx hb d_M_lineGoes_37 (by decide) ?_
          refine lv_iload_n hx hb d_M_lineGoes_38 rfl (lv_at hl 2 rfl) ?_
          refine xa_imul hx hb 4 n rfl rfl d_M_lineGoes_39 ?_
          refine lv_iconst (v := 4) hx hb d_M_lineGoes_40 (by decide) ?_
          refine xa_iadd hx hb (4 * n) 4 rfl rfl d_M_lineGoes_41 ?_
          refine lv_icmp_ge (tgt := 65) hx hb d_M_lineGoes_42 (by decide) (fun c9 => absurd c9 (nI_ge (a := ((4 * n) + 1)) (b := ((4 * n) + 4)) (by omega) (by omega))) (fun _ => ?_)
          refine lv_aload_n hx hb d_M_lineGoes_45 rfl (lv_at hl 3 rfl) ?_
          refine xm_g2 hx hb hts hown hK hP d_M_lineGoes_46 ?_
          refine lv_iload hx hb d_M_lineGoes_49 (lv_at hl 0 rfl) ?_
          refine lv_aload_n hx hb d_M_lineGoes_51 rfl (lv_at hl 3 rfl) ?_
          refine xm_g0 hx hb hts hown hK hP d_M_lineGoes_52 ?_
          refine lv_iload hx hb d_M_lineGoes_55 (lv_at hl 0 rfl) ?_
          refine xm_l0 hx hb hK hP ((4 * n) + 1) rfl (by omega) d_M_lineGoes_57 ?_
          refine xm_s2 hx hb hK hP hD hS ((4 * n) + 1) rfl (by omega) d_M_lineGoes_58 (fun H locs hP hD hS => ?_)
          refine lv_iinc (v := nI (((4 * n) + 1) + 1)) (lv' := [(4, .int (nI (((4 * n) + 1) + 1))), (3, .int (nI 1)), (2, .int (nI n)), (0, .ref _), (1, .int (nI q))]) hx hb d_M_lineGoes_59 hl (k := 0) rfl (nI_add _ _) (by decide) rfl (fun ls hl => ?_)
          refine lv_goto (tgt := 35) hx hb d_M_lineGoes_62 (by decide) ?_
          refine lv_iload hx hb d_M_lineGoes_35 (lv_at hl 0 rfl) ?_
          refine lv_iconst (v := 4) hx hb d_M_lineGoes_37 (by decide) ?_
          refine lv_iload_n hx hb d_M_lineGoes_38 rfl (lv_at hl 2 rfl) ?_
          refine xa_imul hx hb 4 n rfl rfl d_M_lineGoes_39 ?_
          refine lv_iconst (v := 4) hx hb d_M_lineGoes_40 (by decide) ?_
          refine xa_iadd hx hb (4 * n) 4 rfl rfl d_M_lineGoes_41 ?_
          refine lv_icmp_ge (tgt := 65) hx hb d_M_lineGoes_42 (by decide) (fun c9 => absurd c9 (nI_ge (a := (((4 * n) + 1) + 1)) (b := ((4 * n) + 4)) (by omega) (by omega))) (fun _ => ?_)
          refine lv_aload_n hx hb d_M_lineGoes_45 rfl (lv_at hl 3 rfl) ?_
          refine xm_g2 hx hb hts hown hK hP d_M_lineGoes_46 ?_
          refine lv_iload hx hb d_M_lineGoes_49 (lv_at hl 0 rfl) ?_
          refine lv_aload_n hx hb d_M_lineGoes_51 rfl (lv_at hl 3 rfl) ?_
          refine xm_g0 hx hb hts hown hK hP d_M_lineGoes_52 ?_
          refine lv_iload hx hb d_M_lineGoes_55 (lv_at hl 0 rfl) ?_
          refine xm_l0 hx hb hK hP (((4 * n) + 1) + 1) rfl (by omega) d_M_lineGoes_57 ?_
          refine xm_s2 hx hb hK hP hD hS (((4 * n) + 1) + 1) rfl (by omega) d_M_lineGoes_58 (fun H locs hP hD hS => ?_)
          refine lv_iinc (v := nI ((((4 * n) + 1) + 1) + 1)) (lv' := [(4, .int (nI ((((4 * n) + 1) + 1) + 1))), (3, .int (nI 1)), (2, .int (nI n)), (0, .ref _), (1, .int (nI q))]) hx hb d_M_lineGoes_59 hl (k := 0) rfl (nI_add _ _) (by decide) rfl (fun ls hl => ?_)
          refine lv_goto (tgt := 35) hx hb d_M_lineGoes_62 (by decide) ?_
          refine lv_iload hx hb d_M_lineGoes_35 (lv_at hl 0 rfl) ?_
          refine lv_iconst (v := 4) hx hb d_M_lineGoes_37 (by decide) ?_
          refine lv_iload_n hx hb d_M_lineGoes_38 rfl (lv_at hl 2 rfl) ?_
          refine xa_imul hx hb 4 n rfl rfl d_M_lineGoes_39 ?_
          refine lv_iconst (v := 4) hx hb d_M_lineGoes_40 (by decide) ?_
          refine xa_iadd hx hb (4 * n) 4 rfl rfl d_M_lineGoes_41 ?_
          refine lv_icmp_ge (tgt := 65) hx hb d_M_lineGoes_42 (by decide) (fun c9 => absurd c9 (nI_ge (a := ((((4 * n) + 1) + 1) + 1)) (b := ((4 * n) + 4)) (by omega) (by omega))) (fun _ => ?_)
          refine lv_aload_n hx hb d_M_lineGoes_45 rfl (lv_at hl 3 rfl) ?_
          refine xm_g2 hx hb hts hown hK hP d_M_lineGoes_46 ?_
          refine lv_iload hx hb d_M_lineGoes_49 (lv_at hl 0 rfl) ?_
          refine lv_aload_n hx hb d_M_lineGoes_51 rfl (lv_at hl 3 rfl) ?_
          refine xm_g0 hx hb hts hown hK hP d_M_lineGoes_52 ?_
          refine lv_iload hx hb d_M_lineGoes_55 (lv_at hl 0 rfl) ?_
          refine xm_l0 hx hb hK hP ((((4 * n) + 1) + 1) + 1) rfl (by omega) d_M_lineGoes_57 ?_
          refine xm_s2 hx hb hK hP hD hS ((((4 * n) + 1) + 1) + 1) rfl (by omega) d_M_lineGoes_58 (fun H locs hP hD hS => ?_)
          refine lv_iinc (v := nI (((((4 * n) + 1) + 1) + 1) + 1)) (lv' := [(4, .int (nI (((((4 * n) + 1) + 1) + 1) + 1))), (3, .int (nI 1)), (2, .int (nI n)), (0, .ref _), (1, .int (nI q))]) hx hb d_M_lineGoes_59 hl (k := 0) rfl (nI_add _ _) (by decide) rfl (fun ls hl => ?_)
          refine lv_goto (tgt := 35) hx hb d_M_lineGoes_62 (by decide) ?_
          refine lv_iload hx hb d_M_lineGoes_35 (lv_at hl 0 rfl) ?_
          refine lv_iconst (v := 4) hx hb d_M_lineGoes_37 (by decide) ?_
          refine lv_iload_n hx hb d_M_lineGoes_38 rfl (lv_at hl 2 rfl) ?_
          refine xa_imul hx hb 4 n rfl rfl d_M_lineGoes_39 ?_
          refine lv_iconst (v := 4) hx hb d_M_lineGoes_40 (by decide) ?_
          refine xa_iadd hx hb (4 * n) 4 rfl rfl d_M_lineGoes_41 ?_
          refine lv_icmp_ge (tgt := 65) hx hb d_M_lineGoes_42 (by decide) (fun _ => ?_) (fun c9 => absurd (nI_le (a := ((4 * n) + 4)) (b := (((((4 * n) + 1) + 1) + 1) + 1)) (by omega) (by omega)) c9)
          have hP : va_P D vwCl (wM G kc (gWbL1 u n)) H := hP
          have hD : va_D A (wM G kc (gWbL1 u n)) := hD
          refine lv_iload_n hx hb d_M_lineGoes_65 rfl (lv_at hl 2 rfl) ?_
          refine lv_bipush (v := 16) hx hb d_M_lineGoes_66 (by decide) ?_
          refine xa_idiv hx hb n 16 rfl rfl (by omega) (by decide) (by decide) d_M_lineGoes_68 ?_
          refine lv_istore (lv' := [(4, .int (nI (n / 16))), (3, .int (nI 1)), (2, .int (nI n)), (0, .ref _), (1, .int (nI q))]) hx hb d_M_lineGoes_69 hl (by decide) rfl (fun ls hl => ?_)
          refine lv_aload_n hx hb d_M_lineGoes_71 rfl (lv_at hl 3 rfl) ?_
          refine lv_iload hx hb d_M_lineGoes_72 (lv_at hl 0 rfl) ?_
          refine xc_callv (n := 1) (C := "TagMemoryModel") hx hb hml hown hts (c_M_wantRow l D G kc _ _ (n / 16) (by omega) (by exact mI_wbL1 hI)) (tb_V wm_402 wm_404 ws_20 wm_2 wm_405) rfl rfl rfl (by decide +kernel) ⟨Nat.le_of_ble_eq_true rfl, Nat.le_of_ble_eq_true rfl⟩ hK hP hD hS hA rfl rfl rfl rfl hl.1 rfl (Nat.le_of_ble_eq_true rfl) d_M_lineGoes_74 ⟨Nat.zero_le _, Nat.zero_le _⟩ (fun u1 H locs hw hP hD hS => ?_)
          rw [hw] at hP hD; clear hw u1
          refine lv_iconst (v := 2) hx hb d_M_lineGoes_77 (by decide) ?_
          refine lv_iload_n hx hb d_M_lineGoes_78 rfl (lv_at hl 2 rfl) ?_
          refine xa_imul hx hb 2 n rfl rfl d_M_lineGoes_79 ?_
          refine lv_istore (lv' := [(5, .int (nI (2 * n))), (4, .int (nI (n / 16))), (3, .int (nI 1)), (2, .int (nI n)), (0, .ref _), (1, .int (nI q))]) hx hb d_M_lineGoes_80 hl (by decide) rfl (fun ls hl => ?_)
          refine lv_iload hx hb d_M_lineGoes_82 (lv_at hl 0 rfl) ?_
          refine lv_iconst (v := 2) hx hb d_M_lineGoes_84 (by decide) ?_
          refine lv_iload_n hx hb d_M_lineGoes_85 rfl (lv_at hl 3 rfl) ?_
          refine xa_imul hx hb 2 n rfl rfl d_M_lineGoes_86 ?_
          refine lv_iconst (v := 2) hx hb d_M_lineGoes_87 (by decide) ?_
          refine xa_iadd hx hb (2 * n) 2 rfl rfl d_M_lineGoes_88 ?_
          refine lv_icmp_ge (tgt := 144) hx hb d_M_lineGoes_89 (by decide) (fun c9 => absurd c9 (nI_ge (a := (2 * n)) (b := ((2 * n) + 2)) (by omega) (by omega))) (fun _ => ?_)
          refine lv_aload_n hx hb d_M_lineGoes_92 rfl (lv_at hl 4 rfl) ?_
          refine xm_g3 hx hb hts hown hK hP d_M_lineGoes_93 ?_
          refine lv_iload hx hb d_M_lineGoes_96 (lv_at hl 1 rfl) ?_
          refine lv_aload_n hx hb d_M_lineGoes_98 rfl (lv_at hl 4 rfl) ?_
          refine xm_g3 hx hb hts hown hK hP d_M_lineGoes_99 ?_
          refine lv_iload hx hb d_M_lineGoes_102 (lv_at hl 1 rfl) ?_
          refine xm_l3 hx hb hK hP (n / 16) rfl (by omega) d_M_lineGoes_104 ?_
          refine lv_iconst (v := 1) hx hb d_M_lineGoes_105 (by decide) ?_
          refine lv_iload hx hb d_M_lineGoes_106 (lv_at hl 0 rfl) ?_
          refine lv_bipush (v := 32) hx hb d_M_lineGoes_108 (by decide) ?_
          refine xa_irem hx hb (2 * n) 32 rfl rfl (by omega) (by decide) (by decide) d_M_lineGoes_110 ?_
          refine lv_ishl hx hb d_M_lineGoes_111 ?_
          refine lv_iconst (v := (-1)) hx hb d_M_lineGoes_112 (by decide) ?_
          refine lv_ixor hx hb d_M_lineGoes_113 ?_
          refine lv_iand hx hb d_M_lineGoes_114 ?_
          refine lv_aload_n hx hb d_M_lineGoes_115 rfl (lv_at hl 4 rfl) ?_
          refine xm_g1 hx hb hts hown hK hP d_M_lineGoes_116 ?_
          refine lv_iload hx hb d_M_lineGoes_119 (lv_at hl 0 rfl) ?_
          refine xm_l1 hx hb hK hP (2 * n) rfl (by omega) d_M_lineGoes_121 ?_
          refine lv_if_eq (tgt := 135) hx hb d_M_lineGoes_122 (by decide) (fun _ => ?_) (fun c9 => absurd h3 c9)
          refine lv_iconst (v := 0) hx hb d_M_lineGoes_135 (by decide) ?_
          refine lv_ior hx hb d_M_lineGoes_136 ?_
          refine xm_s3 hx hb hK hP hD hS (n / 16) rfl (by omega) d_M_lineGoes_137 (fun H locs hP hD hS => ?_)
          have hP : va_P D vwCl (wM G kc (gTg1 (gWantRow (gWbL1 u n) (n / 16)) (n / 16) (2 * n))) H := by rw [gTg1_t h3]; exact hP
          have hD : va_D A (wM G kc (gTg1 (gWantRow (gWbL1 u n) (n / 16)) (n / 16) (2 * n))) := by rw [gTg1_t h3]; exact hD
          refine lv_iinc (v := nI ((2 * n) + 1)) (lv' := [(5, .int (nI ((2 * n) + 1))), (4, .int (nI (n / 16))), (3, .int (nI 1)), (2, .int (nI n)), (0, .ref _), (1, .int (nI q))]) hx hb d_M_lineGoes_138 hl (k := 0) rfl (nI_add _ _) (by decide) rfl (fun ls hl => ?_)
          refine lv_goto (tgt := 82) hx hb d_M_lineGoes_141 (by decide) ?_
          refine lv_iload hx hb d_M_lineGoes_82 (lv_at hl 0 rfl) ?_
          refine lv_iconst (v := 2) hx hb d_M_lineGoes_84 (by decide) ?_
          refine lv_iload_n hx hb d_M_lineGoes_85 rfl (lv_at hl 3 rfl) ?_
          refine xa_imul hx hb 2 n rfl rfl d_M_lineGoes_86 ?_
          refine lv_iconst (v := 2) hx hb d_M_lineGoes_87 (by decide) ?_
          refine xa_iadd hx hb (2 * n) 2 rfl rfl d_M_lineGoes_88 ?_
          refine lv_icmp_ge (tgt := 144) hx hb d_M_lineGoes_89 (by decide) (fun c9 => absurd c9 (nI_ge (a := ((2 * n) + 1)) (b := ((2 * n) + 2)) (by omega) (by omega))) (fun _ => ?_)
          refine lv_aload_n hx hb d_M_lineGoes_92 rfl (lv_at hl 4 rfl) ?_
          refine xm_g3 hx hb hts hown hK hP d_M_lineGoes_93 ?_
          refine lv_iload hx hb d_M_lineGoes_96 (lv_at hl 1 rfl) ?_
          refine lv_aload_n hx hb d_M_lineGoes_98 rfl (lv_at hl 4 rfl) ?_
          refine xm_g3 hx hb hts hown hK hP d_M_lineGoes_99 ?_
          refine lv_iload hx hb d_M_lineGoes_102 (lv_at hl 1 rfl) ?_
          refine xm_l3 hx hb hK hP (n / 16) rfl (by omega) d_M_lineGoes_104 ?_
          refine lv_iconst (v := 1) hx hb d_M_lineGoes_105 (by decide) ?_
          refine lv_iload hx hb d_M_lineGoes_106 (lv_at hl 0 rfl) ?_
          refine lv_bipush (v := 32) hx hb d_M_lineGoes_108 (by decide) ?_
          refine xa_irem hx hb ((2 * n) + 1) 32 rfl rfl (by omega) (by decide) (by decide) d_M_lineGoes_110 ?_
          refine lv_ishl hx hb d_M_lineGoes_111 ?_
          refine lv_iconst (v := (-1)) hx hb d_M_lineGoes_112 (by decide) ?_
          refine lv_ixor hx hb d_M_lineGoes_113 ?_
          refine lv_iand hx hb d_M_lineGoes_114 ?_
          refine lv_aload_n hx hb d_M_lineGoes_115 rfl (lv_at hl 4 rfl) ?_
          refine xm_g1 hx hb hts hown hK hP d_M_lineGoes_116 ?_
          refine lv_iload hx hb d_M_lineGoes_119 (lv_at hl 0 rfl) ?_
          refine xm_l1 hx hb hK hP ((2 * n) + 1) rfl (by omega) d_M_lineGoes_121 ?_
          refine lv_if_eq (tgt := 135) hx hb d_M_lineGoes_122 (by decide) (fun c9 => absurd c9 (show ¬ mTg (gTg1 (gWantRow (gWbL1 u n) (n / 16)) (n / 16) (2 * n)) (2 * n + 1) = 0 from h4)) (fun _ => ?_)
          refine lv_iconst (v := 1) hx hb d_M_lineGoes_125 (by decide) ?_
          refine lv_iload hx hb d_M_lineGoes_126 (lv_at hl 0 rfl) ?_
          refine lv_bipush (v := 32) hx hb d_M_lineGoes_128 (by decide) ?_
          refine xa_irem hx hb ((2 * n) + 1) 32 rfl rfl (by omega) (by decide) (by decide) d_M_lineGoes_130 ?_
          refine lv_ishl hx hb d_M_lineGoes_131 ?_
          refine lv_goto (tgt := 136) hx hb d_M_lineGoes_132 (by decide) ?_
          refine lv_ior hx hb d_M_lineGoes_136 ?_
          refine xm_s3 hx hb hK hP hD hS (n / 16) rfl (by omega) d_M_lineGoes_137 (fun H locs hP hD hS => ?_)
          have hP : va_P D vwCl (wM G kc (gTg1 (gTg1 (gWantRow (gWbL1 u n) (n / 16)) (n / 16) (2 * n)) (n / 16) (2 * n + 1))) H := by rw [gTg1_f (show ¬ mTg (gTg1 (gWantRow (gWbL1 u n) (n / 16)) (n / 16) (2 * n)) (2 * n + 1) = 0 from h4)]; exact hP
          have hD : va_D A (wM G kc (gTg1 (gTg1 (gWantRow (gWbL1 u n) (n / 16)) (n / 16) (2 * n)) (n / 16) (2 * n + 1))) := by rw [gTg1_f (show ¬ mTg (gTg1 (gWantRow (gWbL1 u n) (n / 16)) (n / 16) (2 * n)) (2 * n + 1) = 0 from h4)]; exact hD
          refine lv_iinc (v := nI (((2 * n) + 1) + 1)) (lv' := [(5, .int (nI (((2 * n) + 1) + 1))), (4, .int (nI (n / 16))), (3, .int (nI 1)), (2, .int (nI n)), (0, .ref _), (1, .int (nI q))]) hx hb d_M_lineGoes_138 hl (k := 0) rfl (nI_add _ _) (by decide) rfl (fun ls hl => ?_)
          refine lv_goto (tgt := 82) hx hb d_M_lineGoes_141 (by decide) ?_
          refine lv_iload hx hb d_M_lineGoes_82 (lv_at hl 0 rfl) ?_
          refine lv_iconst (v := 2) hx hb d_M_lineGoes_84 (by decide) ?_
          refine lv_iload_n hx hb d_M_lineGoes_85 rfl (lv_at hl 3 rfl) ?_
          refine xa_imul hx hb 2 n rfl rfl d_M_lineGoes_86 ?_
          refine lv_iconst (v := 2) hx hb d_M_lineGoes_87 (by decide) ?_
          refine xa_iadd hx hb (2 * n) 2 rfl rfl d_M_lineGoes_88 ?_
          refine lv_icmp_ge (tgt := 144) hx hb d_M_lineGoes_89 (by decide) (fun _ => ?_) (fun c9 => absurd (nI_le (a := ((2 * n) + 2)) (b := (((2 * n) + 1) + 1)) (by omega) (by omega)) c9)
          refine lv_aload_n hx hb d_M_lineGoes_144 rfl (lv_at hl 4 rfl) ?_
          refine xm_g7 hx hb hts hown hK hP d_M_lineGoes_145 ?_
          refine lv_iload hx hb d_M_lineGoes_148 (lv_at hl 1 rfl) ?_
          refine lv_iconst (v := 4) hx hb d_M_lineGoes_150 (by decide) ?_
          refine xa_irem hx hb (n / 16) 4 rfl rfl (by omega) (by decide) (by decide) d_M_lineGoes_151 ?_
          refine lv_iconst (v := 1) hx hb d_M_lineGoes_152 (by decide) ?_
          refine xm_s7 hx hb hK hP hD hS (Or.inr rfl) ((n / 16) % 4) rfl (by omega) d_M_lineGoes_153 (fun H locs hP hD hS => ?_)
          refine lv_aload_n hx hb d_M_lineGoes_154 rfl (lv_at hl 4 rfl) ?_
          refine xm_g8 hx hb hts hown hK hP d_M_lineGoes_155 ?_
          refine lv_iconst (v := 1) hx hb d_M_lineGoes_158 (by decide) ?_
          refine lv_dup2_11 hx hb d_M_lineGoes_159 rfl rfl ?_
          refine xm_l8 hx hb hK hP 1 rfl (by omega) d_M_lineGoes_160 ?_
          refine lv_iconst (v := 1) hx hb d_M_lineGoes_161 (by decide) ?_
          refine lv_iadd hx hb d_M_lineGoes_162 ?_
          refine xm_s8 hx hb hK hP hD hS 1 rfl (by omega) d_M_lineGoes_163 (fun H locs hP hD hS => ?_)
          refine lv_aload_n hx hb d_M_lineGoes_164 rfl (lv_at hl 4 rfl) ?_
          refine xm_g4 hx hb hts hown hK hP d_M_lineGoes_165 ?_
          refine lv_iload_n hx hb d_M_lineGoes_168 rfl (lv_at hl 5 rfl) ?_
          refine lv_iconst (v := (-1)) hx hb d_M_lineGoes_169 (by decide) ?_
          refine xm_s4 hx hb hK hP hD hS q rfl (by omega) d_M_lineGoes_170 (fun H locs hP hD hS => ?_)
          refine lv_aload_n hx hb d_M_lineGoes_171 rfl (lv_at hl 4 rfl) ?_
          refine xm_g5 hx hb hts hown hK hP d_M_lineGoes_172 ?_
          refine lv_iload_n hx hb d_M_lineGoes_175 rfl (lv_at hl 5 rfl) ?_
          refine lv_iconst (v := 0) hx hb d_M_lineGoes_176 (by decide) ?_
          refine xm_s5 hx hb hK hP hD hS (Or.inl rfl) q rfl (by omega) d_M_lineGoes_177 (fun H locs hP hD hS => ?_)
          refine lv_iload_n hx hb d_M_lineGoes_178 rfl (lv_at hl 2 rfl) ?_
          exact xc_zret hx hb hr hlocks (Or.inr rfl) hP hK hD hS ⟨by unfold rmLineGo; rw [if_neg (fun z => z.elim h1 h2)]; rfl, by unfold gLineGo; rw [if_neg (fun z => z.elim h1 h2), hn1, nI_clamp (by omega)]; rfl⟩ d_M_lineGoes_179
      · by_cases h4 : mTg (gWantRow (gWbL1 u n) (n / 16)) (2 * n + 1) = 0
        · skip
          refine lv_aload_n hx hb d_M_lineGoes_0 rfl (lv_at hl 0 rfl) ?_
          refine xm_g4 hx hb hts hown hK hP d_M_lineGoes_1 ?_
          refine lv_iload_n hx hb d_M_lineGoes_4 rfl (lv_at hl 1 rfl) ?_
          refine xm_l4 hx hb hK hP q rfl (by omega) d_M_lineGoes_5 ?_
          refine xa_top (nI n) hn1 ?_
          refine lv_istore_n (lv' := [(2, .int (nI n)), (0, .ref _), (1, .int (nI q))]) hx hb d_M_lineGoes_6 rfl hl (by decide) rfl (fun ls hl => ?_)
          refine lv_iload_n hx hb d_M_lineGoes_7 rfl (lv_at hl 0 rfl) ?_
          refine lv_if_lt (tgt := 24) hx hb d_M_lineGoes_8 (by decide) (fun c9 => absurd c9 (nI_pos (by omega))) (fun _ => ?_)
          refine lv_aload_n hx hb d_M_lineGoes_11 rfl (lv_at hl 1 rfl) ?_
          refine xm_g5 hx hb hts hown hK hP d_M_lineGoes_12 ?_
          refine lv_iload_n hx hb d_M_lineGoes_15 rfl (lv_at hl 2 rfl) ?_
          refine xm_l5 hx hb hK hP q rfl (by omega) d_M_lineGoes_16 ?_
          refine lv_if_eq (tgt := 24) hx hb d_M_lineGoes_17 (by decide) (fun c9 => absurd c9 h2) (fun _ => ?_)
          refine lv_iconst (v := 1) hx hb d_M_lineGoes_20 (by decide) ?_
          refine lv_goto (tgt := 25) hx hb d_M_lineGoes_21 (by decide) ?_
          refine lv_istore_n (lv' := [(3, .int (nI 1)), (2, .int (nI n)), (0, .ref _), (1, .int (nI q))]) hx hb d_M_lineGoes_25 rfl hl (by decide) rfl (fun ls hl => ?_)
          refine lv_iload_n hx hb d_M_lineGoes_26 rfl (lv_at hl 0 rfl) ?_
          refine lv_if_eq (tgt := 164) hx hb d_M_lineGoes_27 (by decide) (fun c9 => absurd c9 (by decide)) (fun _ => ?_)
          refine lv_iconst (v := 4) hx hb d_M_lineGoes_30 (by decide) ?_
          refine lv_iload_n hx hb d_M_lineGoes_31 rfl (lv_at hl 1 rfl) ?_
          refine xa_imul hx hb 4 n rfl rfl d_M_lineGoes_32 ?_
          refine lv_istore (lv' := [(4, .int (nI (4 * n))), (3, .int (nI 1)), (2, .int (nI n)), (0, .ref _), (1, .int (nI q))]) hx hb d_M_lineGoes_33 hl (by decide) rfl (fun ls hl => ?_)
          refine lv_iload hx hb d_M_lineGoes_35 (lv_at hl 0 rfl) ?_
          refine lv_iconst (v := 4) hx hb d_M_lineGoes_37 (by decide) ?_
          refine lv_iload_n hx hb d_M_lineGoes_38 rfl (lv_at hl 2 rfl) ?_
          refine xa_imul hx hb 4 n rfl rfl d_M_lineGoes_39 ?_
          refine lv_iconst (v := 4) hx hb d_M_lineGoes_40 (by decide) ?_
          refine xa_iadd hx hb (4 * n) 4 rfl rfl d_M_lineGoes_41 ?_
          refine lv_icmp_ge (tgt := 65) hx hb d_M_lineGoes_42 (by decide) (fun c9 => absurd c9 (nI_ge (a := (4 * n)) (b := ((4 * n) + 4)) (by omega) (by omega))) (fun _ => ?_)
          refine lv_aload_n hx hb d_M_lineGoes_45 rfl (lv_at hl 3 rfl) ?_
          refine xm_g2 hx hb hts hown hK hP d_M_lineGoes_46 ?_
          refine lv_iload hx hb d_M_lineGoes_49 (lv_at hl 0 rfl) ?_
          refine lv_aload_n hx hb d_M_lineGoes_51 rfl (lv_at hl 3 rfl) ?_
          refine xm_g0 hx hb hts hown hK hP d_M_lineGoes_52 ?_
          refine lv_iload hx hb d_M_lineGoes_55 (lv_at hl 0 rfl) ?_
          refine xm_l0 hx hb hK hP (4 * n) rfl (by omega) d_M_lineGoes_57 ?_
          refine xm_s2 hx hb hK hP hD hS (4 * n) rfl (by omega) d_M_lineGoes_58 (fun H locs hP hD hS => ?_)
          refine lv_iinc (v := nI ((4 * n) + 1)) (lv' := [(4, .int (nI ((4 * n) + 1))), (3, .int (nI 1)), (2, .int (nI n)), (0, .ref _), (1, .int (nI q))]) hx hb d_M_lineGoes_59 hl (k := 0) rfl (nI_add _ _) (by decide) rfl (fun ls hl => ?_)
          refine lv_goto (tgt := 35) hx hb d_M_lineGoes_62 (by decide) ?_
          refine lv_iload hx hb d_M_lineGoes_35 (lv_at hl 0 rfl) ?_
          refine lv_iconst (v := 4) hx hb d_M_lineGoes_37 (by decide) ?_
          refine lv_iload_n hx hb d_M_lineGoes_38 rfl (lv_at hl 2 rfl) ?_
          refine xa_imul hx hb 4 n rfl rfl d_M_lineGoes_39 ?_
          refine lv_iconst (v := 4) hx hb d_M_lineGoes_40 (by decide) ?_
          refine xa_iadd hx hb (4 * n) 4 rfl rfl d_M_lineGoes_41 ?_
          refine lv_icmp_ge (tgt := 65) hx hb d_M_lineGoes_42 (by decide) (fun c9 => absurd c9 (nI_ge (a := ((4 * n) + 1)) (b := ((4 * n) + 4)) (by omega) (by omega))) (fun _ => ?_)
          refine lv_aload_n hx hb d_M_lineGoes_45 rfl (lv_at hl 3 rfl) ?_
          refine xm_g2 hx hb hts hown hK hP d_M_lineGoes_46 ?_
          refine lv_iload hx hb d_M_lineGoes_49 (lv_at hl 0 rfl) ?_
          refine lv_aload_n hx hb d_M_lineGoes_51 rfl (lv_at hl 3 rfl) ?_
          refine xm_g0 hx hb hts hown hK hP d_M_lineGoes_52 ?_
          refine lv_iload hx hb d_M_lineGoes_55 (lv_at hl 0 rfl) ?_
          refine xm_l0 hx hb hK hP ((4 * n) + 1) rfl (by omega) d_M_lineGoes_57 ?_
          refine xm_s2 hx hb hK hP hD hS ((4 * n) + 1) rfl (by omega) d_M_lineGoes_58 (fun H locs hP hD hS => ?_)
          refine lv_iinc (v := nI (((4 * n) + 1) + 1)) (lv' := [(4, .int (nI (((4 * n) + 1) + 1))), (3, .int (nI 1)), (2, .int (nI n)), (0, .ref _), (1, .int (nI q))]) hx hb d_M_lineGoes_59 hl (k := 0) rfl (nI_add _ _) (by decide) rfl (fun ls hl => ?_)
          refine lv_goto (tgt := 35) hx hb d_M_lineGoes_62 (by decide) ?_
          refine lv_iload hx hb d_M_lineGoes_35 (lv_at hl 0 rfl) ?_
          refine lv_iconst (v := 4) hx hb d_M_lineGoes_37 (by decide) ?_
          refine lv_iload_n hx hb d_M_lineGoes_38 rfl (lv_at hl 2 rfl) ?_
          refine xa_imul hx hb 4 n rfl rfl d_M_lineGoes_39 ?_
          refine lv_iconst (v := 4) hx hb d_M_lineGoes_40 (by decide) ?_
          refine xa_iadd hx hb (4 * n) 4 rfl rfl d_M_lineGoes_41 ?_
          refine lv_icmp_ge (tgt := 65) hx hb d_M_lineGoes_42 (by decide) (fun c9 => absurd c9 (nI_ge (a := (((4 * n) + 1) + 1)) (b := ((4 * n) + 4)) (by omega) (by omega))) (fun _ => ?_)
          refine lv_aload_n hx hb d_M_lineGoes_45 rfl (lv_at hl 3 rfl) ?_
          refine xm_g2 hx hb hts hown hK hP d_M_lineGoes_46 ?_
          refine lv_iload hx hb d_M_lineGoes_49 (lv_at hl 0 rfl) ?_
          refine lv_aload_n hx hb d_M_lineGoes_51 rfl (lv_at hl 3 rfl) ?_
          refine xm_g0 hx hb hts hown hK hP d_M_lineGoes_52 ?_
          refine lv_iload hx hb d_M_lineGoes_55 (lv_at hl 0 rfl) ?_
          refine xm_l0 hx hb hK hP (((4 * n) + 1) + 1) rfl (by omega) d_M_lineGoes_57 ?_
          refine xm_s2 hx hb hK hP hD hS (((4 * n) + 1) + 1) rfl (by omega) d_M_lineGoes_58 (fun H locs hP hD hS => ?_)
          refine lv_iinc (v := nI ((((4 * n) + 1) + 1) + 1)) (lv' := [(4, .int (nI ((((4 * n) + 1) + 1) + 1))), (3, .int (nI 1)), (2, .int (nI n)), (0, .ref _), (1, .int (nI q))]) hx hb d_M_lineGoes_59 hl (k := 0) rfl (nI_add _ _) (by decide) rfl (fun ls hl => ?_)
          refine lv_goto (tgt := 35) hx hb d_M_lineGoes_62 (by decide) ?_
          refine lv_iload hx hb d_M_lineGoes_35 (lv_at hl 0 rfl) ?_
          refine lv_iconst (v := 4) hx hb d_M_lineGoes_37 (by decide) ?_
          refine lv_iload_n hx hb d_M_lineGoes_38 rfl (lv_at hl 2 rfl) ?_
          refine xa_imul hx hb 4 n rfl rfl d_M_lineGoes_39 ?_
          refine lv_iconst (v := 4) hx hb d_M_lineGoes_40 (by decide) ?_
          refine xa_iadd hx hb (4 * n) 4 rfl rfl d_M_lineGoes_41 ?_
          refine lv_icmp_ge (tgt := 65) hx hb d_M_lineGoes_42 (by decide) (fun c9 => absurd c9 (nI_ge (a := ((((4 * n) + 1) + 1) + 1)) (b := ((4 * n) + 4)) (by omega) (by omega))) (fun _ => ?_)
          refine lv_aload_n hx hb d_M_lineGoes_45 rfl (lv_at hl 3 rfl) ?_
          refine xm_g2 hx hb hts hown hK hP d_M_lineGoes_46 ?_
          refine lv_iload hx hb d_M_lineGoes_49 (lv_at hl 0 rfl) ?_
          refine lv_aload_n hx hb d_M_lineGoes_51 rfl (lv_at hl 3 rfl) ?_
          refine xm_g0 hx hb hts hown hK hP d_M_lineGoes_52 ?_
          refine lv_iload hx hb d_M_lineGoes_55 (lv_at hl 0 rfl) ?_
          refine xm_l0 hx hb hK hP ((((4 * n) + 1) + 1) + 1) rfl (by omega) d_M_lineGoes_57 ?_
          refine xm_s2 hx hb hK hP hD hS ((((4 * n) + 1) + 1) + 1) rfl (by omega) d_M_lineGoes_58 (fun H locs hP hD hS => ?_)
          refine lv_iinc (v := nI (((((4 * n) + 1) + 1) + 1) + 1)) (lv' := [(4, .int (nI (((((4 * n) + 1) + 1) + 1) + 1))), (3, .int (nI 1)), (2, .int (nI n)), (0, .ref _), (1, .int (nI q))]) hx hb d_M_lineGoes_59 hl (k := 0) rfl (nI_add _ _) (by decide) rfl (fun ls hl => ?_)
          refine lv_goto (tgt := 35) hx hb d_M_lineGoes_62 (by decide) ?_
          refine lv_iload hx hb d_M_lineGoes_35 (lv_at hl 0 rfl) ?_
          refine lv_iconst (v := 4) hx hb d_M_lineGoes_37 (by decide) ?_
          refine lv_iload_n hx hb d_M_lineGoes_38 rfl (lv_at hl 2 rfl) ?_
          refine xa_imul hx hb 4 n rfl rfl d_M_lineGoes_39 ?_
          refine lv_iconst (v := 4) hx hb d_M_lineGoes_40 (by decide) ?_
          refine xa_iadd hx hb (4 * n) 4 rfl rfl d_M_lineGoes_41 ?_
          refine lv_icmp_ge (tgt := 65) hx hb d_M_lineGoes_42 (by decide) (fun _ => ?_) (fun c9 => absurd (nI_le (a := ((4 * n) + 4)) (b := (((((4 * n) + 1) + 1) + 1) + 1)) (by omega) (by omega)) c9)
          have hP : va_P D vwCl (wM G kc (gWbL1 u n)) H := hP
          have hD : va_D A (wM G kc (gWbL1 u n)) := hD
          refine lv_iload_n hx hb d_M_lineGoes_65 rfl (lv_at hl 2 rfl) ?_
          refine lv_bipush (v := 16) hx hb d_M_lineGoes_66 (by decide) ?_
          refine xa_idiv hx hb n 16 rfl rfl (by omega) (by decide) (by decide) d_M_lineGoes_68 ?_
          refine lv_istore (lv' := [(4, .int (nI (n / 16))), (3, .int (nI 1)), (2, .int (nI n)), (0, .ref _), (1, .int (nI q))]) hx hb d_M_lineGoes_69 hl (by decide) rfl (fun ls hl => ?_)
          refine lv_aload_n hx hb d_M_lineGoes_71 rfl (lv_at hl 3 rfl) ?_
          refine lv_iload hx hb d_M_lineGoes_72 (lv_at hl 0 rfl) ?_
          refine xc_callv (n := 1) (C := "TagMemoryModel") hx hb hml hown hts (c_M_wantRow l D G kc _ _ (n / 16) (by omega) (by exact mI_wbL1 hI)) (tb_V wm_402 wm_404 ws_20 wm_2 wm_405) rfl rfl rfl (by decide +kernel) ⟨Nat.le_of_ble_eq_true rfl, Nat.le_of_ble_eq_true rfl⟩ hK hP hD hS hA rfl rfl rfl rfl hl.1 rfl (Nat.le_of_ble_eq_true rfl) d_M_lineGoes_74 ⟨Nat.zero_le _, Nat.zero_le _⟩ (fun u1 H locs hw hP hD hS => ?_)
          rw [hw] at hP hD; clear hw u1
          refine lv_iconst (v := 2) hx hb d_M_lineGoes_77 (by decide) ?_
          refine lv_iload_n hx hb d_M_lineGoes_78 rfl (lv_at hl 2 rfl) ?_
          refine xa_imul hx hb 2 n rfl rfl d_M_lineGoes_79 ?_
          refine lv_istore (lv' := [(5, .int (nI (2 * n))), (4, .int (nI (n / 16))), (3, .int (nI 1)), (2, .int (nI n)), (0, .ref _), (1, .int (nI q))]) hx hb d_M_lineGoes_80 hl (by decide) rfl (fun ls hl => ?_)
          refine lv_iload hx hb d_M_lineGoes_82 (lv_at hl 0 rfl) ?_
          refine lv_iconst (v := 2) hx hb d_M_lineGoes_84 (by decide) ?_
          refine lv_iload_n hx hb d_M_lineGoes_85 rfl (lv_at hl 3 rfl) ?_
          refine xa_imul hx hb 2 n rfl rfl d_M_lineGoes_86 ?_
          refine lv_iconst (v := 2) hx hb d_M_lineGoes_87 (by decide) ?_
          refine xa_iadd hx hb (2 * n) 2 rfl rfl d_M_lineGoes_88 ?_
          refine lv_icmp_ge (tgt := 144) hx hb d_M_lineGoes_89 (by decide) (fun c9 => absurd c9 (nI_ge (a := (2 * n)) (b := ((2 * n) + 2)) (by omega) (by omega))) (fun _ => ?_)
          refine lv_aload_n hx hb d_M_lineGoes_92 rfl (lv_at hl 4 rfl) ?_
          refine xm_g3 hx hb hts hown hK hP d_M_lineGoes_93 ?_
          refine lv_iload hx hb d_M_lineGoes_96 (lv_at hl 1 rfl) ?_
          refine lv_aload_n hx hb d_M_lineGoes_98 rfl (lv_at hl 4 rfl) ?_
          refine xm_g3 hx hb hts hown hK hP d_M_lineGoes_99 ?_
          refine lv_iload hx hb d_M_lineGoes_102 (lv_at hl 1 rfl) ?_
          refine xm_l3 hx hb hK hP (n / 16) rfl (by omega) d_M_lineGoes_104 ?_
          refine lv_iconst (v := 1) hx hb d_M_lineGoes_105 (by decide) ?_
          refine lv_iload hx hb d_M_lineGoes_106 (lv_at hl 0 rfl) ?_
          refine lv_bipush (v := 32) hx hb d_M_lineGoes_108 (by decide) ?_
          refine xa_irem hx hb (2 * n) 32 rfl rfl (by omega) (by decide) (by decide) d_M_lineGoes_110 ?_
          refine lv_ishl hx hb d_M_lineGoes_111 ?_
          refine lv_iconst (v := (-1)) hx hb d_M_lineGoes_112 (by decide) ?_
          refine lv_ixor hx hb d_M_lineGoes_113 ?_
          refine lv_iand hx hb d_M_lineGoes_114 ?_
          refine lv_aload_n hx hb d_M_lineGoes_115 rfl (lv_at hl 4 rfl) ?_
          refine xm_g1 hx hb hts hown hK hP d_M_lineGoes_116 ?_
          refine lv_iload hx hb d_M_lineGoes_119 (lv_at hl 0 rfl) ?_
          refine xm_l1 hx hb hK hP (2 * n) rfl (by omega) d_M_lineGoes_121 ?_
          refine lv_if_eq (tgt := 135) hx hb d_M_lineGoes_122 (by decide) (fun c9 => absurd c9 h3) (fun _ => ?_)
          refine lv_iconst (v := 1) hx hb d_M_lineGoes_125 (by decide) ?_
          refine lv_iload hx hb d_M_lineGoes_126 (lv_at hl 0 rfl) ?_
          refine lv_bipush (v := 32) hx hb d_M_lineGoes_128 (by decide) ?_
          refine xa_irem hx hb (2 * n) 32 rfl rfl (by omega) (by decide) (by decide) d_M_lineGoes_130 ?_
          refine lv_ishl hx hb d_M_lineGoes_131 ?_
          refine lv_goto (tgt := 136) hx hb d_M_lineGoes_132 (by decide) ?_
          refine lv_ior hx hb d_M_lineGoes_136 ?_
          refine xm_s3 hx hb hK hP hD hS (n / 16) rfl (by omega) d_M_lineGoes_137 (fun H locs hP hD hS => ?_)
          have hP : va_P D vwCl (wM G kc (gTg1 (gWantRow (gWbL1 u n) (n / 16)) (n / 16) (2 * n))) H := by rw [gTg1_f h3]; exact hP
          have hD : va_D A (wM G kc (gTg1 (gWantRow (gWbL1 u n) (n / 16)) (n / 16) (2 * n))) := by rw [gTg1_f h3]; exact hD
          refine lv_iinc (v := nI ((2 * n) + 1)) (lv' := [(5, .int (nI ((2 * n) + 1))), (4, .int (nI (n / 16))), (3, .int (nI 1)), (2, .int (nI n)), (0, .ref _), (1, .int (nI q))]) hx hb d_M_lineGoes_138 hl (k := 0) rfl (nI_add _ _) (by decide) rfl (fun ls hl => ?_)
          refine lv_goto (tgt := 82) hx hb d_M_lineGoes_141 (by decide) ?_
          refine lv_iload hx hb d_M_lineGoes_82 (lv_at hl 0 rfl) ?_
          refine lv_iconst (v := 2) hx hb d_M_lineGoes_84 (by decide) ?_
          refine lv_iload_n hx hb d_M_lineGoes_85 rfl (lv_at hl 3 rfl) ?_
          refine xa_imul hx hb 2 n rfl rfl d_M_lineGoes_86 ?_
          refine lv_iconst (v := 2) hx hb d_M_lineGoes_87 (by decide) ?_
          refine xa_iadd hx hb (2 * n) 2 rfl rfl d_M_lineGoes_88 ?_
          refine lv_icmp_ge (tgt := 144) hx hb d_M_lineGoes_89 (by decide) (fun c9 => absurd c9 (nI_ge (a := ((2 * n) + 1)) (b := ((2 * n) + 2)) (by omega) (by omega))) (fun _ => ?_)
          refine lv_aload_n hx hb d_M_lineGoes_92 rfl (lv_at hl 4 rfl) ?_
          refine xm_g3 hx hb hts hown hK hP d_M_lineGoes_93 ?_
          refine lv_iload hx hb d_M_lineGoes_96 (lv_at hl 1 rfl) ?_
          refine lv_aload_n hx hb d_M_lineGoes_98 rfl (lv_at hl 4 rfl) ?_
          refine xm_g3 hx hb hts hown hK hP d_M_lineGoes_99 ?_
          refine lv_iload hx hb d_M_lineGoes_102 (lv_at hl 1 rfl) ?_
          refine xm_l3 hx hb hK hP (n / 16) rfl (by omega) d_M_lineGoes_104 ?_
          refine lv_iconst (v := 1) hx hb d_M_lineGoes_105 (by decide) ?_
          refine lv_iload hx hb d_M_lineGoes_106 (lv_at hl 0 rfl) ?_
          refine lv_bipush (v := 32) hx hb d_M_lineGoes_108 (by decide) ?_
          refine xa_irem hx hb ((2 * n) + 1) 32 rfl rfl (by omega) (by decide) (by decide) d_M_lineGoes_110 ?_
          refine lv_ishl hx hb d_M_lineGoes_111 ?_
          refine lv_iconst (v := (-1)) hx hb d_M_lineGoes_112 (by decide) ?_
          refine lv_ixor hx hb d_M_lineGoes_113 ?_
          refine lv_iand hx hb d_M_lineGoes_114 ?_
          refine lv_aload_n hx hb d_M_lineGoes_115 rfl (lv_at hl 4 rfl) ?_
          refine xm_g1 hx hb hts hown hK hP d_M_lineGoes_116 ?_
          refine lv_iload hx hb d_M_lineGoes_119 (lv_at hl 0 rfl) ?_
          refine xm_l1 hx hb hK hP ((2 * n) + 1) rfl (by omega) d_M_lineGoes_121 ?_
          refine lv_if_eq (tgt := 135) hx hb d_M_lineGoes_122 (by decide) (fun _ => ?_) (fun c9 => absurd (show mTg (gTg1 (gWantRow (gWbL1 u n) (n / 16)) (n / 16) (2 * n)) (2 * n + 1) = 0 from h4) c9)
          refine lv_iconst (v := 0) hx hb d_M_lineGoes_135 (by decide) ?_
          refine lv_ior hx hb d_M_lineGoes_136 ?_
          refine xm_s3 hx hb hK hP hD hS (n / 16) rfl (by omega) d_M_lineGoes_137 (fun H locs hP hD hS => ?_)
          have hP : va_P D vwCl (wM G kc (gTg1 (gTg1 (gWantRow (gWbL1 u n) (n / 16)) (n / 16) (2 * n)) (n / 16) (2 * n + 1))) H := by rw [gTg1_t (show mTg (gTg1 (gWantRow (gWbL1 u n) (n / 16)) (n / 16) (2 * n)) (2 * n + 1) = 0 from h4)]; exact hP
          have hD : va_D A (wM G kc (gTg1 (gTg1 (gWantRow (gWbL1 u n) (n / 16)) (n / 16) (2 * n)) (n / 16) (2 * n + 1))) := by rw [gTg1_t (show mTg (gTg1 (gWantRow (gWbL1 u n) (n / 16)) (n / 16) (2 * n)) (2 * n + 1) = 0 from h4)]; exact hD
          refine lv_iinc (v := nI (((2 * n) + 1) + 1)) (lv' := [(5, .int (nI (((2 * n) + 1) + 1))), (4, .int (nI (n / 16))), (3, .int (nI 1)), (2, .int (nI n)), (0, .ref _), (1, .int (nI q))]) hx hb d_M_lineGoes_138 hl (k := 0) rfl (nI_add _ _) (by decide) rfl (fun ls hl => ?_)
          refine lv_goto (tgt := 82) hx hb d_M_lineGoes_141 (by decide) ?_
          refine lv_iload hx hb d_M_lineGoes_82 (lv_at hl 0 rfl) ?_
          refine lv_iconst (v := 2) hx hb d_M_lineGoes_84 (by decide) ?_
          refine lv_iload_n hx hb d_M_lineGoes_85 rfl (lv_at hl 3 rfl) ?_
          refine xa_imul hx hb 2 n rfl rfl d_M_lineGoes_86 ?_
          refine lv_iconst (v := 2) hx hb d_M_lineGoes_87 (by decide) ?_
          refine xa_iadd hx hb (2 * n) 2 rfl rfl d_M_lineGoes_88 ?_
          refine lv_icmp_ge (tgt := 144) hx hb d_M_lineGoes_89 (by decide) (fun _ => ?_) (fun c9 => absurd (nI_le (a := ((2 * n) + 2)) (b := (((2 * n) + 1) + 1)) (by omega) (by omega)) c9)
          refine lv_aload_n hx hb d_M_lineGoes_144 rfl (lv_at hl 4 rfl) ?_
          refine xm_g7 hx hb hts hown hK hP d_M_lineGoes_145 ?_
          refine lv_iload hx hb d_M_lineGoes_148 (lv_at hl 1 rfl) ?_
          refine lv_iconst (v := 4) hx hb d_M_lineGoes_150 (by decide) ?_
          refine xa_irem hx hb (n / 16) 4 rfl rfl (by omega) (by decide) (by decide) d_M_lineGoes_151 ?_
          refine lv_iconst (v := 1) hx hb d_M_lineGoes_152 (by decide) ?_
          refine xm_s7 hx hb hK hP hD hS (Or.inr rfl) ((n / 16) % 4) rfl (by omega) d_M_lineGoes_153 (fun H locs hP hD hS => ?_)
          refine lv_aload_n hx hb d_M_lineGoes_154 rfl (lv_at hl 4 rfl) ?_
          refine xm_g8 hx hb hts hown hK hP d_M_lineGoes_155 ?_
          refine lv_iconst (v := 1) hx hb d_M_lineGoes_158 (by decide) ?_
          refine lv_dup2_11 hx hb d_M_lineGoes_159 rfl rfl ?_
          refine xm_l8 hx hb hK hP 1 rfl (by omega) d_M_lineGoes_160 ?_
          refine lv_iconst (v := 1) hx hb d_M_lineGoes_161 (by decide) ?_
          refine lv_iadd hx hb d_M_lineGoes_162 ?_
          refine xm_s8 hx hb hK hP hD hS 1 rfl (by omega) d_M_lineGoes_163 (fun H locs hP hD hS => ?_)
          refine lv_aload_n hx hb d_M_lineGoes_164 rfl (lv_at hl 4 rfl) ?_
          refine xm_g4 hx hb hts hown hK hP d_M_lineGoes_165 ?_
          refine lv_iload_n hx hb d_M_lineGoes_168 rfl (lv_at hl 5 rfl) ?_
          refine lv_iconst (v := (-1)) hx hb d_M_lineGoes_169 (by decide) ?_
          refine xm_s4 hx hb hK hP hD hS q rfl (by omega) d_M_lineGoes_170 (fun H locs hP hD hS => ?_)
          refine lv_aload_n hx hb d_M_lineGoes_171 rfl (lv_at hl 4 rfl) ?_
          refine xm_g5 hx hb hts hown hK hP d_M_lineGoes_172 ?_
          refine lv_iload_n hx hb d_M_lineGoes_175 rfl (lv_at hl 5 rfl) ?_
          refine lv_iconst (v := 0) hx hb d_M_lineGoes_176 (by decide) ?_
          refine xm_s5 hx hb hK hP hD hS (Or.inl rfl) q rfl (by omega) d_M_lineGoes_177 (fun H locs hP hD hS => ?_)
          refine lv_iload_n hx hb d_M_lineGoes_178 rfl (lv_at hl 2 rfl) ?_
          exact xc_zret hx hb hr hlocks (Or.inr rfl) hP hK hD hS ⟨by unfold rmLineGo; rw [if_neg (fun z => z.elim h1 h2)]; rfl, by unfold gLineGo; rw [if_neg (fun z => z.elim h1 h2), hn1, nI_clamp (by omega)]; rfl⟩ d_M_lineGoes_179
        · skip
          refine lv_aload_n hx hb d_M_lineGoes_0 rfl (lv_at hl 0 rfl) ?_
          refine xm_g4 hx hb hts hown hK hP d_M_lineGoes_1 ?_
          refine lv_iload_n hx hb d_M_lineGoes_4 rfl (lv_at hl 1 rfl) ?_
          refine xm_l4 hx hb hK hP q rfl (by omega) d_M_lineGoes_5 ?_
          refine xa_top (nI n) hn1 ?_
          refine lv_istore_n (lv' := [(2, .int (nI n)), (0, .ref _), (1, .int (nI q))]) hx hb d_M_lineGoes_6 rfl hl (by decide) rfl (fun ls hl => ?_)
          refine lv_iload_n hx hb d_M_lineGoes_7 rfl (lv_at hl 0 rfl) ?_
          refine lv_if_lt (tgt := 24) hx hb d_M_lineGoes_8 (by decide) (fun c9 => absurd c9 (nI_pos (by omega))) (fun _ => ?_)
          refine lv_aload_n hx hb d_M_lineGoes_11 rfl (lv_at hl 1 rfl) ?_
          refine xm_g5 hx hb hts hown hK hP d_M_lineGoes_12 ?_
          refine lv_iload_n hx hb d_M_lineGoes_15 rfl (lv_at hl 2 rfl) ?_
          refine xm_l5 hx hb hK hP q rfl (by omega) d_M_lineGoes_16 ?_
          refine lv_if_eq (tgt := 24) hx hb d_M_lineGoes_17 (by decide) (fun c9 => absurd c9 h2) (fun _ => ?_)
          refine lv_iconst (v := 1) hx hb d_M_lineGoes_20 (by decide) ?_
          refine lv_goto (tgt := 25) hx hb d_M_lineGoes_21 (by decide) ?_
          refine lv_istore_n (lv' := [(3, .int (nI 1)), (2, .int (nI n)), (0, .ref _), (1, .int (nI q))]) hx hb d_M_lineGoes_25 rfl hl (by decide) rfl (fun ls hl => ?_)
          refine lv_iload_n hx hb d_M_lineGoes_26 rfl (lv_at hl 0 rfl) ?_
          refine lv_if_eq (tgt := 164) hx hb d_M_lineGoes_27 (by decide) (fun c9 => absurd c9 (by decide)) (fun _ => ?_)
          refine lv_iconst (v := 4) hx hb d_M_lineGoes_30 (by decide) ?_
          refine lv_iload_n hx hb d_M_lineGoes_31 rfl (lv_at hl 1 rfl) ?_
          refine xa_imul hx hb 4 n rfl rfl d_M_lineGoes_32 ?_
          refine lv_istore (lv' := [(4, .int (nI (4 * n))), (3, .int (nI 1)), (2, .int (nI n)), (0, .ref _), (1, .int (nI q))]) hx hb d_M_lineGoes_33 hl (by decide) rfl (fun ls hl => ?_)
          refine lv_iload hx hb d_M_lineGoes_35 (lv_at hl 0 rfl) ?_
          refine lv_iconst (v := 4) hx hb d_M_lineGoes_37 (by decide) ?_
          refine lv_iload_n hx hb d_M_lineGoes_38 rfl (lv_at hl 2 rfl) ?_
          refine xa_imul hx hb 4 n rfl rfl d_M_lineGoes_39 ?_
          refine lv_iconst (v := 4) hx hb d_M_lineGoes_40 (by decide) ?_
          refine xa_iadd hx hb (4 * n) 4 rfl rfl d_M_lineGoes_41 ?_
          refine lv_icmp_ge (tgt := 65) hx hb d_M_lineGoes_42 (by decide) (fun c9 => absurd c9 (nI_ge (a := (4 * n)) (b := ((4 * n) + 4)) (by omega) (by omega))) (fun _ => ?_)
          refine lv_aload_n hx hb d_M_lineGoes_45 rfl (lv_at hl 3 rfl) ?_
          refine xm_g2 hx hb hts hown hK hP d_M_lineGoes_46 ?_
          refine lv_iload hx hb d_M_lineGoes_49 (lv_at hl 0 rfl) ?_
          refine lv_aload_n hx hb d_M_lineGoes_51 rfl (lv_at hl 3 rfl) ?_
          refine xm_g0 hx hb hts hown hK hP d_M_lineGoes_52 ?_
          refine lv_iload hx hb d_M_lineGoes_55 (lv_at hl 0 rfl) ?_
          refine xm_l0 hx hb hK hP (4 * n) rfl (by omega) d_M_lineGoes_57 ?_
          refine xm_s2 hx hb hK hP hD hS (4 * n) rfl (by omega) d_M_lineGoes_58 (fun H locs hP hD hS => ?_)
          refine lv_iinc (v := nI ((4 * n) + 1)) (lv' := [(4, .int (nI ((4 * n) + 1))), (3, .int (nI 1)), (2, .int (nI n)), (0, .ref _), (1, .int (nI q))]) hx hb d_M_lineGoes_59 hl (k := 0) rfl (nI_add _ _) (by decide) rfl (fun ls hl => ?_)
          refine lv_goto (tgt := 35) hx hb d_M_lineGoes_62 (by decide) ?_
          refine lv_iload hx hb d_M_lineGoes_35 (lv_at hl 0 rfl) ?_
          refine lv_iconst (v := 4) hx hb d_M_lineGoes_37 (by decide) ?_
          refine lv_iload_n hx hb d_M_lineGoes_38 rfl (lv_at hl 2 rfl) ?_
          refine xa_imul hx hb 4 n rfl rfl d_M_lineGoes_39 ?_
          refine lv_iconst (v := 4) hx hb d_M_lineGoes_40 (by decide) ?_
          refine xa_iadd hx hb (4 * n) 4 rfl rfl d_M_lineGoes_41 ?_
          refine lv_icmp_ge (tgt := 65) hx hb d_M_lineGoes_42 (by decide) (fun c9 => absurd c9 (nI_ge (a := ((4 * n) + 1)) (b := ((4 * n) + 4)) (by omega) (by omega))) (fun _ => ?_)
          refine lv_aload_n hx hb d_M_lineGoes_45 rfl (lv_at hl 3 rfl) ?_
          refine xm_g2 hx hb hts hown hK hP d_M_lineGoes_46 ?_
          refine lv_iload hx hb d_M_lineGoes_49 (lv_at hl 0 rfl) ?_
          refine lv_aload_n hx hb d_M_lineGoes_51 rfl (lv_at hl 3 rfl) ?_
          refine xm_g0 hx hb hts hown hK hP d_M_lineGoes_52 ?_
          refine lv_iload hx hb d_M_lineGoes_55 (lv_at hl 0 rfl) ?_
          refine xm_l0 hx hb hK hP ((4 * n) + 1) rfl (by omega) d_M_lineGoes_57 ?_
          refine xm_s2 hx hb hK hP hD hS ((4 * n) + 1) rfl (by omega) d_M_lineGoes_58 (fun H locs hP hD hS => ?_)
          refine lv_iinc (v := nI (((4 * n) + 1) + 1)) (lv' := [(4, .int (nI (((4 * n) + 1) + 1))), (3, .int (nI 1)), (2, .int (nI n)), (0, .ref _), (1, .int (nI q))]) hx hb d_M_lineGoes_59 hl (k := 0) rfl (nI_add _ _) (by decide) rfl (fun ls hl => ?_)
          refine lv_goto (tgt := 35) hx hb d_M_lineGoes_62 (by decide) ?_
          refine lv_iload hx hb d_M_lineGoes_35 (lv_at hl 0 rfl) ?_
          refine lv_iconst (v := 4) hx hb d_M_lineGoes_37 (by decide) ?_
          refine lv_iload_n hx hb d_M_lineGoes_38 rfl (lv_at hl 2 rfl) ?_
          refine xa_imul hx hb 4 n rfl rfl d_M_lineGoes_39 ?_
          refine lv_iconst (v := 4) hx hb d_M_lineGoes_40 (by decide) ?_
          refine xa_iadd hx hb (4 * n) 4 rfl rfl d_M_lineGoes_41 ?_
          refine lv_icmp_ge (tgt := 65) hx hb d_M_lineGoes_42 (by decide) (fun c9 => absurd c9 (nI_ge (a := (((4 * n) + 1) + 1)) (b := ((4 * n) + 4)) (by omega) (by omega))) (fun _ => ?_)
          refine lv_aload_n hx hb d_M_lineGoes_45 rfl (lv_at hl 3 rfl) ?_
          refine xm_g2 hx hb hts hown hK hP d_M_lineGoes_46 ?_
          refine lv_iload hx hb d_M_lineGoes_49 (lv_at hl 0 rfl) ?_
          refine lv_aload_n hx hb d_M_lineGoes_51 rfl (lv_at hl 3 rfl) ?_
          refine xm_g0 hx hb hts hown hK hP d_M_lineGoes_52 ?_
          refine lv_iload hx hb d_M_lineGoes_55 (lv_at hl 0 rfl) ?_
          refine xm_l0 hx hb hK hP (((4 * n) + 1) + 1) rfl (by omega) d_M_lineGoes_57 ?_
          refine xm_s2 hx hb hK hP hD hS (((4 * n) + 1) + 1) rfl (by omega) d_M_lineGoes_58 (fun H locs hP hD hS => ?_)
          refine lv_iinc (v := nI ((((4 * n) + 1) + 1) + 1)) (lv' := [(4, .int (nI ((((4 * n) + 1) + 1) + 1))), (3, .int (nI 1)), (2, .int (nI n)), (0, .ref _), (1, .int (nI q))]) hx hb d_M_lineGoes_59 hl (k := 0) rfl (nI_add _ _) (by decide) rfl (fun ls hl => ?_)
          refine lv_goto (tgt := 35) hx hb d_M_lineGoes_62 (by decide) ?_
          refine lv_iload hx hb d_M_lineGoes_35 (lv_at hl 0 rfl) ?_
          refine lv_iconst (v := 4) hx hb d_M_lineGoes_37 (by decide) ?_
          refine lv_iload_n hx hb d_M_lineGoes_38 rfl (lv_at hl 2 rfl) ?_
          refine xa_imul hx hb 4 n rfl rfl d_M_lineGoes_39 ?_
          refine lv_iconst (v := 4) hx hb d_M_lineGoes_40 (by decide) ?_
          refine xa_iadd hx hb (4 * n) 4 rfl rfl d_M_lineGoes_41 ?_
          refine lv_icmp_ge (tgt := 65) hx hb d_M_lineGoes_42 (by decide) (fun c9 => absurd c9 (nI_ge (a := ((((4 * n) + 1) + 1) + 1)) (b := ((4 * n) + 4)) (by omega) (by omega))) (fun _ => ?_)
          refine lv_aload_n hx hb d_M_lineGoes_45 rfl (lv_at hl 3 rfl) ?_
          refine xm_g2 hx hb hts hown hK hP d_M_lineGoes_46 ?_
          refine lv_iload hx hb d_M_lineGoes_49 (lv_at hl 0 rfl) ?_
          refine lv_aload_n hx hb d_M_lineGoes_51 rfl (lv_at hl 3 rfl) ?_
          refine xm_g0 hx hb hts hown hK hP d_M_lineGoes_52 ?_
          refine lv_iload hx hb d_M_lineGoes_55 (lv_at hl 0 rfl) ?_
          refine xm_l0 hx hb hK hP ((((4 * n) + 1) + 1) + 1) rfl (by omega) d_M_lineGoes_57 ?_
          refine xm_s2 hx hb hK hP hD hS ((((4 * n) + 1) + 1) + 1) rfl (by omega) d_M_lineGoes_58 (fun H locs hP hD hS => ?_)
          refine lv_iinc (v := nI (((((4 * n) + 1) + 1) + 1) + 1)) (lv' := [(4, .int (nI (((((4 * n) + 1) + 1) + 1) + 1))), (3, .int (nI 1)), (2, .int (nI n)), (0, .ref _), (1, .int (nI q))]) hx hb d_M_lineGoes_59 hl (k := 0) rfl (nI_add _ _) (by decide) rfl (fun ls hl => ?_)
          refine lv_goto (tgt := 35) hx hb d_M_lineGoes_62 (by decide) ?_
          refine lv_iload hx hb d_M_lineGoes_35 (lv_at hl 0 rfl) ?_
          refine lv_iconst (v := 4) hx hb d_M_lineGoes_37 (by decide) ?_
          refine lv_iload_n hx hb d_M_lineGoes_38 rfl (lv_at hl 2 rfl) ?_
          refine xa_imul hx hb 4 n rfl rfl d_M_lineGoes_39 ?_
          refine lv_iconst (v := 4) hx hb d_M_lineGoes_40 (by decide) ?_
          refine xa_iadd hx hb (4 * n) 4 rfl rfl d_M_lineGoes_41 ?_
          refine lv_icmp_ge (tgt := 65) hx hb d_M_lineGoes_42 (by decide) (fun _ => ?_) (fun c9 => absurd (nI_le (a := ((4 * n) + 4)) (b := (((((4 * n) + 1) + 1) + 1) + 1)) (by omega) (by omega)) c9)
          have hP : va_P D vwCl (wM G kc (gWbL1 u n)) H := hP
          have hD : va_D A (wM G kc (gWbL1 u n)) := hD
          refine lv_iload_n hx hb d_M_lineGoes_65 rfl (lv_at hl 2 rfl) ?_
          refine lv_bipush (v := 16) hx hb d_M_lineGoes_66 (by decide) ?_
          refine xa_idiv hx hb n 16 rfl rfl (by omega) (by decide) (by decide) d_M_lineGoes_68 ?_
          refine lv_istore (lv' := [(4, .int (nI (n / 16))), (3, .int (nI 1)), (2, .int (nI n)), (0, .ref _), (1, .int (nI q))]) hx hb d_M_lineGoes_69 hl (by decide) rfl (fun ls hl => ?_)
          refine lv_aload_n hx hb d_M_lineGoes_71 rfl (lv_at hl 3 rfl) ?_
          refine lv_iload hx hb d_M_lineGoes_72 (lv_at hl 0 rfl) ?_
          refine xc_callv (n := 1) (C := "TagMemoryModel") hx hb hml hown hts (c_M_wantRow l D G kc _ _ (n / 16) (by omega) (by exact mI_wbL1 hI)) (tb_V wm_402 wm_404 ws_20 wm_2 wm_405) rfl rfl rfl (by decide +kernel) ⟨Nat.le_of_ble_eq_true rfl, Nat.le_of_ble_eq_true rfl⟩ hK hP hD hS hA rfl rfl rfl rfl hl.1 rfl (Nat.le_of_ble_eq_true rfl) d_M_lineGoes_74 ⟨Nat.zero_le _, Nat.zero_le _⟩ (fun u1 H locs hw hP hD hS => ?_)
          rw [hw] at hP hD; clear hw u1
          refine lv_iconst (v := 2) hx hb d_M_lineGoes_77 (by decide) ?_
          refine lv_iload_n hx hb d_M_lineGoes_78 rfl (lv_at hl 2 rfl) ?_
          refine xa_imul hx hb 2 n rfl rfl d_M_lineGoes_79 ?_
          refine lv_istore (lv' := [(5, .int (nI (2 * n))), (4, .int (nI (n / 16))), (3, .int (nI 1)), (2, .int (nI n)), (0, .ref _), (1, .int (nI q))]) hx hb d_M_lineGoes_80 hl (by decide) rfl (fun ls hl => ?_)
          refine lv_iload hx hb d_M_lineGoes_82 (lv_at hl 0 rfl) ?_
          refine lv_iconst (v := 2) hx hb d_M_lineGoes_84 (by decide) ?_
          refine lv_iload_n hx hb d_M_lineGoes_85 rfl (lv_at hl 3 rfl) ?_
          refine xa_imul hx hb 2 n rfl rfl d_M_lineGoes_86 ?_
          refine lv_iconst (v := 2) hx hb d_M_lineGoes_87 (by decide) ?_
          refine xa_iadd hx hb (2 * n) 2 rfl rfl d_M_lineGoes_88 ?_
          refine lv_icmp_ge (tgt := 144) hx hb d_M_lineGoes_89 (by decide) (fun c9 => absurd c9 (nI_ge (a := (2 * n)) (b := ((2 * n) + 2)) (by omega) (by omega))) (fun _ => ?_)
          refine lv_aload_n hx hb d_M_lineGoes_92 rfl (lv_at hl 4 rfl) ?_
          refine xm_g3 hx hb hts hown hK hP d_M_lineGoes_93 ?_
          refine lv_iload hx hb d_M_lineGoes_96 (lv_at hl 1 rfl) ?_
          refine lv_aload_n hx hb d_M_lineGoes_98 rfl (lv_at hl 4 rfl) ?_
          refine xm_g3 hx hb hts hown hK hP d_M_lineGoes_99 ?_
          refine lv_iload hx hb d_M_lineGoes_102 (lv_at hl 1 rfl) ?_
          refine xm_l3 hx hb hK hP (n / 16) rfl (by omega) d_M_lineGoes_104 ?_
          refine lv_iconst (v := 1) hx hb d_M_lineGoes_105 (by decide) ?_
          refine lv_iload hx hb d_M_lineGoes_106 (lv_at hl 0 rfl) ?_
          refine lv_bipush (v := 32) hx hb d_M_lineGoes_108 (by decide) ?_
          refine xa_irem hx hb (2 * n) 32 rfl rfl (by omega) (by decide) (by decide) d_M_lineGoes_110 ?_
          refine lv_ishl hx hb d_M_lineGoes_111 ?_
          refine lv_iconst (v := (-1)) hx hb d_M_lineGoes_112 (by decide) ?_
          refine lv_ixor hx hb d_M_lineGoes_113 ?_
          refine lv_iand hx hb d_M_lineGoes_114 ?_
          refine lv_aload_n hx hb d_M_lineGoes_115 rfl (lv_at hl 4 rfl) ?_
          refine xm_g1 hx hb hts hown hK hP d_M_lineGoes_116 ?_
          refine lv_iload hx hb d_M_lineGoes_119 (lv_at hl 0 rfl) ?_
          refine xm_l1 hx hb hK hP (2 * n) rfl (by omega) d_M_lineGoes_121 ?_
          refine lv_if_eq (tgt := 135) hx hb d_M_lineGoes_122 (by decide) (fun c9 => absurd c9 h3) (fun _ => ?_)
          refine lv_iconst (v := 1) hx hb d_M_lineGoes_125 (by decide) ?_
          refine lv_iload hx hb d_M_lineGoes_126 (lv_at hl 0 rfl) ?_
          refine lv_bipush (v := 32) hx hb d_M_lineGoes_128 (by decide) ?_
          refine xa_irem hx hb (2 * n) 32 rfl rfl (by omega) (by decide) (by decide) d_M_lineGoes_130 ?_
          refine lv_ishl hx hb d_M_lineGoes_131 ?_
          refine lv_goto (tgt := 136) hx hb d_M_lineGoes_132 (by decide) ?_
          refine lv_ior hx hb d_M_lineGoes_136 ?_
          refine xm_s3 hx hb hK hP hD hS (n / 16) rfl (by omega) d_M_lineGoes_137 (fun H locs hP hD hS => ?_)
          have hP : va_P D vwCl (wM G kc (gTg1 (gWantRow (gWbL1 u n) (n / 16)) (n / 16) (2 * n))) H := by rw [gTg1_f h3]; exact hP
          have hD : va_D A (wM G kc (gTg1 (gWantRow (gWbL1 u n) (n / 16)) (n / 16) (2 * n))) := by rw [gTg1_f h3]; exact hD
          refine lv_iinc (v := nI ((2 * n) + 1)) (lv' := [(5, .int (nI ((2 * n) + 1))), (4, .int (nI (n / 16))), (3, .int (nI 1)), (2, .int (nI n)), (0, .ref _), (1, .int (nI q))]) hx hb d_M_lineGoes_138 hl (k := 0) rfl (nI_add _ _) (by decide) rfl (fun ls hl => ?_)
          refine lv_goto (tgt := 82) hx hb d_M_lineGoes_141 (by decide) ?_
          refine lv_iload hx hb d_M_lineGoes_82 (lv_at hl 0 rfl) ?_
          refine lv_iconst (v := 2) hx hb d_M_lineGoes_84 (by decide) ?_
          refine lv_iload_n hx hb d_M_lineGoes_85 rfl (lv_at hl 3 rfl) ?_
          refine xa_imul hx hb 2 n rfl rfl d_M_lineGoes_86 ?_
          refine lv_iconst (v := 2) hx hb d_M_lineGoes_87 (by decide) ?_
          refine xa_iadd hx hb (2 * n) 2 rfl rfl d_M_lineGoes_88 ?_
          refine lv_icmp_ge (tgt := 144) hx hb d_M_lineGoes_89 (by decide) (fun c9 => absurd c9 (nI_ge (a := ((2 * n) + 1)) (b := ((2 * n) + 2)) (by omega) (by omega))) (fun _ => ?_)
          refine lv_aload_n hx hb d_M_lineGoes_92 rfl (lv_at hl 4 rfl) ?_
          refine xm_g3 hx hb hts hown hK hP d_M_lineGoes_93 ?_
          refine lv_iload hx hb d_M_lineGoes_96 (lv_at hl 1 rfl) ?_
          refine lv_aload_n hx hb d_M_lineGoes_98 rfl (lv_at hl 4 rfl) ?_
          refine xm_g3 hx hb hts hown hK hP d_M_lineGoes_99 ?_
          refine lv_iload hx hb d_M_lineGoes_102 (lv_at hl 1 rfl) ?_
          refine xm_l3 hx hb hK hP (n / 16) rfl (by omega) d_M_lineGoes_104 ?_
          refine lv_iconst (v := 1) hx hb d_M_lineGoes_105 (by decide) ?_
          refine lv_iload hx hb d_M_lineGoes_106 (lv_at hl 0 rfl) ?_
          refine lv_bipush (v := 32) hx hb d_M_lineGoes_108 (by decide) ?_
          refine xa_irem hx hb ((2 * n) + 1) 32 rfl rfl (by omega) (by decide) (by decide) d_M_lineGoes_110 ?_
          refine lv_ishl hx hb d_M_lineGoes_111 ?_
          refine lv_iconst (v := (-1)) hx hb d_M_lineGoes_112 (by decide) ?_
          refine lv_ixor hx hb d_M_lineGoes_113 ?_
          refine lv_iand hx hb d_M_lineGoes_114 ?_
          refine lv_aload_n hx hb d_M_lineGoes_115 rfl (lv_at hl 4 rfl) ?_
          refine xm_g1 hx hb hts hown hK hP d_M_lineGoes_116 ?_
          refine lv_iload hx hb d_M_lineGoes_119 (lv_at hl 0 rfl) ?_
          refine xm_l1 hx hb hK hP ((2 * n) + 1) rfl (by omega) d_M_lineGoes_121 ?_
          refine lv_if_eq (tgt := 135) hx hb d_M_lineGoes_122 (by decide) (fun c9 => absurd c9 (show ¬ mTg (gTg1 (gWantRow (gWbL1 u n) (n / 16)) (n / 16) (2 * n)) (2 * n + 1) = 0 from h4)) (fun _ => ?_)
          refine lv_iconst (v := 1) hx hb d_M_lineGoes_125 (by decide) ?_
          refine lv_iload hx hb d_M_lineGoes_126 (lv_at hl 0 rfl) ?_
          refine lv_bipush (v := 32) hx hb d_M_lineGoes_128 (by decide) ?_
          refine xa_irem hx hb ((2 * n) + 1) 32 rfl rfl (by omega) (by decide) (by decide) d_M_lineGoes_130 ?_
          refine lv_ishl hx hb d_M_lineGoes_131 ?_
          refine lv_goto (tgt := 136) hx hb d_M_lineGoes_132 (by decide) ?_
          refine lv_ior hx hb d_M_lineGoes_136 ?_
          refine xm_s3 hx hb hK hP hD hS (n / 16) rfl (by omega) d_M_lineGoes_137 (fun H locs hP hD hS => ?_)
          have hP : va_P D vwCl (wM G kc (gTg1 (gTg1 (gWantRow (gWbL1 u n) (n / 16)) (n / 16) (2 * n)) (n / 16) (2 * n + 1))) H := by rw [gTg1_f (show ¬ mTg (gTg1 (gWantRow (gWbL1 u n) (n / 16)) (n / 16) (2 * n)) (2 * n + 1) = 0 from h4)]; exact hP
          have hD : va_D A (wM G kc (gTg1 (gTg1 (gWantRow (gWbL1 u n) (n / 16)) (n / 16) (2 * n)) (n / 16) (2 * n + 1))) := by rw [gTg1_f (show ¬ mTg (gTg1 (gWantRow (gWbL1 u n) (n / 16)) (n / 16) (2 * n)) (2 * n + 1) = 0 from h4)]; exact hD
          refine lv_iinc (v := nI (((2 * n) + 1) + 1)) (lv' := [(5, .int (nI (((2 * n) + 1) + 1))), (4, .int (nI (n / 16))), (3, .int (nI 1)), (2, .int (nI n)), (0, .ref _), (1, .int (nI q))]) hx hb d_M_lineGoes_138 hl (k := 0) rfl (nI_add _ _) (by decide) rfl (fun ls hl => ?_)
          refine lv_goto (tgt := 82) hx hb d_M_lineGoes_141 (by decide) ?_
          refine lv_iload hx hb d_M_lineGoes_82 (lv_at hl 0 rfl) ?_
          refine lv_iconst (v := 2) hx hb d_M_lineGoes_84 (by decide) ?_
          refine lv_iload_n hx hb d_M_lineGoes_85 rfl (lv_at hl 3 rfl) ?_
          refine xa_imul hx hb 2 n rfl rfl d_M_lineGoes_86 ?_
          refine lv_iconst (v := 2) hx hb d_M_lineGoes_87 (by decide) ?_
          refine xa_iadd hx hb (2 * n) 2 rfl rfl d_M_lineGoes_88 ?_
          refine lv_icmp_ge (tgt := 144) hx hb d_M_lineGoes_89 (by decide) (fun _ => ?_) (fun c9 => absurd (nI_le (a := ((2 * n) + 2)) (b := (((2 * n) + 1) + 1)) (by omega) (by omega)) c9)
          refine lv_aload_n hx hb d_M_lineGoes_144 rfl (lv_at hl 4 rfl) ?_
          refine xm_g7 hx hb hts hown hK hP d_M_lineGoes_145 ?_
          refine lv_iload hx hb d_M_lineGoes_148 (lv_at hl 1 rfl) ?_
          refine lv_iconst (v := 4) hx hb d_M_lineGoes_150 (by decide) ?_
          refine xa_irem hx hb (n / 16) 4 rfl rfl (by omega) (by decide) (by decide) d_M_lineGoes_151 ?_
          refine lv_iconst (v := 1) hx hb d_M_lineGoes_152 (by decide) ?_
          refine xm_s7 hx hb hK hP hD hS (Or.inr rfl) ((n / 16) % 4) rfl (by omega) d_M_lineGoes_153 (fun H locs hP hD hS => ?_)
          refine lv_aload_n hx hb d_M_lineGoes_154 rfl (lv_at hl 4 rfl) ?_
          refine xm_g8 hx hb hts hown hK hP d_M_lineGoes_155 ?_
          refine lv_iconst (v := 1) hx hb d_M_lineGoes_158 (by decide) ?_
          refine lv_dup2_11 hx hb d_M_lineGoes_159 rfl rfl ?_
          refine xm_l8 hx hb hK hP 1 rfl (by omega) d_M_lineGoes_160 ?_
          refine lv_iconst (v := 1) hx hb d_M_lineGoes_161 (by decide) ?_
          refine lv_iadd hx hb d_M_lineGoes_162 ?_
          refine xm_s8 hx hb hK hP hD hS 1 rfl (by omega) d_M_lineGoes_163 (fun H locs hP hD hS => ?_)
          refine lv_aload_n hx hb d_M_lineGoes_164 rfl (lv_at hl 4 rfl) ?_
          refine xm_g4 hx hb hts hown hK hP d_M_lineGoes_165 ?_
          refine lv_iload_n hx hb d_M_lineGoes_168 rfl (lv_at hl 5 rfl) ?_
          refine lv_iconst (v := (-1)) hx hb d_M_lineGoes_169 (by decide) ?_
          refine xm_s4 hx hb hK hP hD hS q rfl (by omega) d_M_lineGoes_170 (fun H locs hP hD hS => ?_)
          refine lv_aload_n hx hb d_M_lineGoes_171 rfl (lv_at hl 4 rfl) ?_
          refine xm_g5 hx hb hts hown hK hP d_M_lineGoes_172 ?_
          refine lv_iload_n hx hb d_M_lineGoes_175 rfl (lv_at hl 5 rfl) ?_
          refine lv_iconst (v := 0) hx hb d_M_lineGoes_176 (by decide) ?_
          refine xm_s5 hx hb hK hP hD hS (Or.inl rfl) q rfl (by omega) d_M_lineGoes_177 (fun H locs hP hD hS => ?_)
          refine lv_iload_n hx hb d_M_lineGoes_178 rfl (lv_at hl 2 rfl) ?_
          exact xc_zret hx hb hr hlocks (Or.inr rfl) hP hK hD hS ⟨by unfold rmLineGo; rw [if_neg (fun z => z.elim h1 h2)]; rfl, by unfold gLineGo; rw [if_neg (fun z => z.elim h1 h2), hn1, nI_clamp (by omega)]; rfl⟩ d_M_lineGoes_179
set_option maxHeartbeats 4000000 in
set_option maxRecDepth 100000 in
theorem c_M_want (l : Launch) (D : va_G) (G : Nat → Nat) (kc : Nat → ClassId) (sz : Nat) (u : TM) (n : Nat) (hn : n < 512) (hI : mI u) : XMv l y_M_want k_M_want { frames := 3, cells := 0, slots := 0, locals := 67 } D vwCl (wM G kc) (tyMs kc) u sz [.ref (G 0), .int (nI n)] (fun u1 => u1 = gWant u n) := by
  refine xb_ofv (cc := b_M_want) (maxL := 3) (ret := none) (by decide) rfl (Nat.le_of_ble_eq_true rfl) ?_
  intro p e s m below meth c A ls hsz hx hb hml hr hlocks hts hown hP hK hD hA hl
  have hl : lv_has ls 3 [(0, .ref (G 0)), (1, .int (nI n))] := hl
  have hS : va_S A s.heap s.heap [] := va_S.rf
  by_cases h1 : mLn u (n % 16) = nI n
  · clear hI
    refine lv_iload_n hx hb d_M_want_0 rfl (lv_at hl 1 rfl) ?_
    refine lv_bipush (v := 16) hx hb d_M_want_1 (by decide) ?_
    refine xa_irem hx hb n 16 rfl rfl (by omega) (by decide) (by decide) d_M_want_3 ?_
    refine lv_istore_n (lv' := [(2, .int (nI (n % 16))), (0, .ref _), (1, .int (nI n))]) hx hb d_M_want_4 rfl hl (by decide) rfl (fun ls hl => ?_)
    refine lv_aload_n hx hb d_M_want_5 rfl (lv_at hl 1 rfl) ?_
    refine xm_g4 hx hb hts hown hK hP d_M_want_6 ?_
    refine lv_iload_n hx hb d_M_want_9 rfl (lv_at hl 0 rfl) ?_
    refine xm_l4 hx hb hK hP (n % 16) rfl (by omega) d_M_want_10 ?_
    refine lv_iload_n hx hb d_M_want_11 rfl (lv_at hl 2 rfl) ?_
    refine lv_icmp_ne (tgt := 16) hx hb d_M_want_12 (by decide) (fun c9 => absurd h1 c9) (fun _ => ?_)
    exact xc_vret hx hb hr hlocks hP hK hD hS (by unfold gWant; rw [if_pos h1]) d_M_want_15
  · have hI1 : mI (gLineGo u (n % 16)) := mI_lineGo hI (by omega)
    refine lv_iload_n hx hb d_M_want_0 rfl (lv_at hl 1 rfl) ?_
    refine lv_bipush (v := 16) hx hb d_M_want_1 (by decide) ?_
    refine xa_irem hx hb n 16 rfl rfl (by omega) (by decide) (by decide) d_M_want_3 ?_
    refine lv_istore_n (lv' := [(2, .int (nI (n % 16))), (0, .ref _), (1, .int (nI n))]) hx hb d_M_want_4 rfl hl (by decide) rfl (fun ls hl => ?_)
    refine lv_aload_n hx hb d_M_want_5 rfl (lv_at hl 1 rfl) ?_
    refine xm_g4 hx hb hts hown hK hP d_M_want_6 ?_
    refine lv_iload_n hx hb d_M_want_9 rfl (lv_at hl 0 rfl) ?_
    refine xm_l4 hx hb hK hP (n % 16) rfl (by omega) d_M_want_10 ?_
    refine lv_iload_n hx hb d_M_want_11 rfl (lv_at hl 2 rfl) ?_
    refine lv_icmp_ne (tgt := 16) hx hb d_M_want_12 (by decide) (fun _ => ?_) (fun c9 => absurd c9 h1)
    refine lv_aload_n hx hb d_M_want_16 rfl (lv_at hl 1 rfl) ?_
    refine lv_iload_n hx hb d_M_want_17 rfl (lv_at hl 0 rfl) ?_
    refine xc_calli (n := 1) (C := "TagMemoryModel") hx hb hml hown hts (c_M_lineGoes l D G kc _ _ (n % 16) (by omega) (by exact hI)) (tb_V wm_398 wm_400 ws_19 wm_2 wm_401) rfl rfl rfl (by decide +kernel) ⟨Nat.le_of_ble_eq_true rfl, Nat.le_of_ble_eq_true rfl⟩ hK hP hD hS hA rfl rfl rfl rfl hl.1 rfl (Nat.le_of_ble_eq_true rfl) d_M_want_18 ⟨Nat.zero_le _, Nat.zero_le _⟩ (fun r u1 H locs hw hP hD hS => ?_)
    obtain ⟨e1, e2⟩ := hw
    subst e1
    rw [e2] at hP hD; clear e2 u1
    refine lv_pop hx hb d_M_want_21 rfl ?_
    refine lv_aload_n hx hb d_M_want_22 rfl (lv_at hl 1 rfl) ?_
    refine lv_iload_n hx hb d_M_want_23 rfl (lv_at hl 2 rfl) ?_
    refine lv_bipush (v := 16) hx hb d_M_want_24 (by decide) ?_
    refine xa_idiv hx hb n 16 rfl rfl (by omega) (by decide) (by decide) d_M_want_26 ?_
    refine xc_callv (n := 1) (C := "TagMemoryModel") hx hb hml hown hts (c_M_wantRow l D G kc _ _ (n / 16) (by omega) (by exact hI1)) (tb_V wm_402 wm_404 ws_20 wm_2 wm_405) rfl rfl rfl (by decide +kernel) ⟨Nat.le_of_ble_eq_true rfl, Nat.le_of_ble_eq_true rfl⟩ hK hP hD hS hA rfl rfl rfl rfl hl.1 rfl (Nat.le_of_ble_eq_true rfl) d_M_want_27 ⟨Nat.zero_le _, Nat.zero_le _⟩ (fun u1 H locs hw hP hD hS => ?_)
    rw [hw] at hP hD; clear hw u1
    refine lv_aload_n hx hb d_M_want_30 rfl (lv_at hl 1 rfl) ?_
    refine xm_g4 hx hb hts hown hK hP d_M_want_31 ?_
    refine lv_iload_n hx hb d_M_want_34 rfl (lv_at hl 0 rfl) ?_
    refine lv_iload_n hx hb d_M_want_35 rfl (lv_at hl 2 rfl) ?_
    refine xm_s4 hx hb hK hP hD hS (n % 16) rfl (by omega) d_M_want_36 (fun H locs hP hD hS => ?_)
    refine lv_aload_n hx hb d_M_want_37 rfl (lv_at hl 1 rfl) ?_
    refine xm_g8 hx hb hts hown hK hP d_M_want_38 ?_
    refine lv_iconst (v := 0) hx hb d_M_want_41 (by decide) ?_
    refine lv_dup2_11 hx hb d_M_want_42 rfl rfl ?_
    refine xm_l8 hx hb hK hP 0 rfl (by omega) d_M_want_43 ?_
    refine lv_iconst (v := 1) hx hb d_M_want_44 (by decide) ?_
    refine lv_iadd hx hb d_M_want_45 ?_
    refine xm_s8 hx hb hK hP hD hS 0 rfl (by omega) d_M_want_46 (fun H locs hP hD hS => ?_)
    exact xc_vret hx hb hr hlocks hP hK hD hS (by unfold gWant; rw [if_neg h1]; rfl) d_M_want_47
set_option maxHeartbeats 4000000 in
set_option maxRecDepth 100000 in
theorem c_M_changes (l : Launch) (D : va_G) (G : Nat → Nat) (kc : Nat → ClassId) (sz : Nat) (u : TM) (i : Nat) (hi : i < 2048) (w t : Int32) (ht : t = 0 ∨ t = 1) (hI : mI u) : XMv l y_M_changes k_M_changes { frames := 4, cells := 0, slots := 0, locals := 89 } D vwCl (wM G kc) (tyMs kc) u sz [.ref (G 0), .int (nI i), .int w, .int t] (fun u1 => u1 = gCh u i w t) := by
  refine xb_ofv (cc := b_M_changes) (maxL := 4) (ret := none) (by decide) rfl (Nat.le_of_ble_eq_true rfl) ?_
  intro p e s m below meth c A ls hsz hx hb hml hr hlocks hts hown hP hK hD hA hl
  have hl : lv_has ls 4 [(0, .ref (G 0)), (1, .int (nI i)), (2, .int w), (3, .int t)] := hl
  have hS : va_S A s.heap s.heap [] := va_S.rf
  refine lv_aload_n hx hb d_M_changes_0 rfl (lv_at hl 0 rfl) ?_
  refine lv_iload_n hx hb d_M_changes_1 rfl (lv_at hl 1 rfl) ?_
  refine lv_iconst (v := 4) hx hb d_M_changes_2 (by decide) ?_
  refine xa_idiv hx hb i 4 rfl rfl (by omega) (by decide) (by decide) d_M_changes_3 ?_
  refine xc_callv (n := 1) (C := "TagMemoryModel") hx hb hml hown hts (c_M_want l D G kc _ _ (i / 4) (by omega) (by exact hI)) (tb_V wm_394 wm_396 ws_18 wm_2 wm_397) rfl rfl rfl (by decide +kernel) ⟨Nat.le_of_ble_eq_true rfl, Nat.le_of_ble_eq_true rfl⟩ hK hP hD hS hA rfl rfl rfl rfl hl.1 rfl (Nat.le_of_ble_eq_true rfl) d_M_changes_4 ⟨Nat.zero_le _, Nat.zero_le _⟩ (fun u1 H locs hw hP hD hS => ?_)
  rw [hw] at hP hD; clear hw u1
  refine lv_aload_n hx hb d_M_changes_7 rfl (lv_at hl 0 rfl) ?_
  refine xm_g0 hx hb hts hown hK hP d_M_changes_8 ?_
  refine lv_iload_n hx hb d_M_changes_11 rfl (lv_at hl 1 rfl) ?_
  refine lv_iload_n hx hb d_M_changes_12 rfl (lv_at hl 2 rfl) ?_
  refine xm_s0 hx hb hK hP hD hS i rfl (by omega) d_M_changes_13 (fun H locs hP hD hS => ?_)
  refine lv_aload_n hx hb d_M_changes_14 rfl (lv_at hl 0 rfl) ?_
  refine xm_g1 hx hb hts hown hK hP d_M_changes_15 ?_
  refine lv_iload_n hx hb d_M_changes_18 rfl (lv_at hl 1 rfl) ?_
  refine lv_iconst (v := 2) hx hb d_M_changes_19 (by decide) ?_
  refine xa_idiv hx hb i 2 rfl rfl (by omega) (by decide) (by decide) d_M_changes_20 ?_
  refine lv_iload_n hx hb d_M_changes_21 rfl (lv_at hl 3 rfl) ?_
  refine xm_s1 hx hb hK hP hD hS ht (i / 2) rfl (by omega) d_M_changes_22 (fun H locs hP hD hS => ?_)
  refine lv_aload_n hx hb d_M_changes_23 rfl (lv_at hl 0 rfl) ?_
  refine xm_g5 hx hb hts hown hK hP d_M_changes_24 ?_
  refine lv_iload_n hx hb d_M_changes_27 rfl (lv_at hl 1 rfl) ?_
  refine lv_iconst (v := 4) hx hb d_M_changes_28 (by decide) ?_
  refine xa_idiv hx hb i 4 rfl rfl (by omega) (by decide) (by decide) d_M_changes_29 ?_
  refine lv_bipush (v := 16) hx hb d_M_changes_30 (by decide) ?_
  refine xa_irem hx hb (i / 4) 16 rfl rfl (by omega) (by decide) (by decide) d_M_changes_32 ?_
  refine lv_iconst (v := 1) hx hb d_M_changes_33 (by decide) ?_
  refine xm_s5 hx hb hK hP hD hS (Or.inr rfl) ((i / 4) % 16) rfl (by omega) d_M_changes_34 (fun H locs hP hD hS => ?_)
  exact xc_vret hx hb hr hlocks hP hK hD hS rfl d_M_changes_35
set_option maxHeartbeats 4000000 in
set_option maxRecDepth 100000 in
theorem c_M_bad (l : Launch) (D : va_G) (G : Nat → Nat) (kc : Nat → ClassId) (sz : Nat) (u : TM) (b k : Int32) (hb0 : b = 0 ∨ b = 1) : XMi l y_M_bad k_M_bad { frames := 0, cells := 0, slots := 0, locals := 0 } D vwCl (wM G kc) (tyMs kc) u sz [.ref (G 0), .int b, .int k] (fun r u1 => r = b ∧ u1 = nTh u (if b = 0 then 0 else k)) := by
  refine xb_ofi (cc := b_M_bad) (maxL := 3) (ret := some .boolean) (by decide) rfl (Nat.le_of_ble_eq_true rfl) ?_
  intro p e s m below meth c A ls hsz hx hb hml hr hlocks hts hown hP hK hD hA hl
  have hl : lv_has ls 3 [(0, .ref (G 0)), (1, .int b), (2, .int k)] := hl
  have hS : va_S A s.heap s.heap [] := va_S.rf
  by_cases h1 : b = 0
  · skip
    refine lv_aload_n hx hb d_M_bad_0 rfl (lv_at hl 0 rfl) ?_
    refine lv_iload_n hx hb d_M_bad_1 rfl (lv_at hl 1 rfl) ?_
    refine lv_if_eq (tgt := 9) hx hb d_M_bad_2 (by decide) (fun _ => ?_) (fun c9 => absurd h1 c9)
    refine lv_iconst (v := 0) hx hb d_M_bad_9 (by decide) ?_
    refine xm_p9 hx hb hts hown hK hP hD hS d_M_bad_10 (fun H locs hP hD hS => ?_)
    refine lv_iload_n hx hb d_M_bad_13 rfl (lv_at hl 1 rfl) ?_
    exact xc_zret hx hb hr hlocks hb0 hP hK hD hS ⟨rfl, by rw [if_pos h1]⟩ d_M_bad_14
  · skip
    refine lv_aload_n hx hb d_M_bad_0 rfl (lv_at hl 0 rfl) ?_
    refine lv_iload_n hx hb d_M_bad_1 rfl (lv_at hl 1 rfl) ?_
    refine lv_if_eq (tgt := 9) hx hb d_M_bad_2 (by decide) (fun c9 => absurd c9 h1) (fun _ => ?_)
    refine lv_iload_n hx hb d_M_bad_5 rfl (lv_at hl 2 rfl) ?_
    refine lv_goto (tgt := 10) hx hb d_M_bad_6 (by decide) ?_
    refine xm_p9 hx hb hts hown hK hP hD hS d_M_bad_10 (fun H locs hP hD hS => ?_)
    refine lv_iload_n hx hb d_M_bad_13 rfl (lv_at hl 1 rfl) ?_
    exact xc_zret hx hb hr hlocks hb0 hP hK hD hS ⟨rfl, by rw [if_neg h1]⟩ d_M_bad_14
set_option maxHeartbeats 4000000 in
set_option maxRecDepth 100000 in
theorem c_M_thrown (l : Launch) (D : va_G) (G : Nat → Nat) (kc : Nat → ClassId) (sz : Nat) (u : TM)  : XMi l y_M_thrown k_M_thrown { frames := 0, cells := 0, slots := 0, locals := 0 } D vwCl (wM G kc) (tyMs kc) u sz [.ref (G 0)] (fun r u1 => r = mTh u ∧ u1 = u) := by
  refine xb_ofi (cc := b_M_thrown) (maxL := 1) (ret := some .int) (by decide) rfl (Nat.le_of_ble_eq_true rfl) ?_
  intro p e s m below meth c A ls hsz hx hb hml hr hlocks hts hown hP hK hD hA hl
  have hl : lv_has ls 1 [(0, .ref (G 0))] := hl
  have hS : va_S A s.heap s.heap [] := va_S.rf
  refine lv_aload_n hx hb d_M_thrown_0 rfl (lv_at hl 0 rfl) ?_
  refine xm_g9 hx hb hts hown hK hP d_M_thrown_1 ?_
  exact xc_iret hx hb hr hlocks hP hK hD hS ⟨rfl, rfl⟩ d_M_thrown_4
end
section
set_option maxHeartbeats 4000000 in
set_option maxRecDepth 100000 in
theorem c_M_read (l : Launch) (D : va_G) (G : Nat → Nat) (kc : Nat → ClassId) (sz : Nat) (u : TM) (i : Nat) (hi : i < 2048) (hI : mI u) : XMi l y_M_read k_M_read { frames := 5, cells := 0, slots := 0, locals := 111 } D vwCl (wM G kc) (tyMs kc) u sz [.ref (G 0), .int (nI i)] (fun r u1 => r = mWd (gWant (nTh u 0) (i / 4)) i ∧ u1 = gWant (nTh u 0) (i / 4)) := by
  refine xb_ofi (cc := b_M_read) (maxL := 2) (ret := some .int) (by decide) rfl (Nat.le_of_ble_eq_true rfl) ?_
  intro p e s m below meth c A ls hsz hx hb hml hr hlocks hts hown hP hK hD hA hl
  have hl : lv_has ls 2 [(0, .ref (G 0)), (1, .int (nI i))] := hl
  have hS : va_S A s.heap s.heap [] := va_S.rf
  refine lv_aload_n hx hb d_M_read_0 rfl (lv_at hl 0 rfl) ?_
  refine lv_iload_n hx hb d_M_read_1 rfl (lv_at hl 1 rfl) ?_
  refine lv_if_lt (tgt := 12) hx hb d_M_read_2 (by decide) (fun c9 => absurd c9 (nI_pos (by omega))) (fun _ => ?_)
  refine lv_iload_n hx hb d_M_read_5 rfl (lv_at hl 1 rfl) ?_
  refine lv_sipush (v := 2047) hx hb d_M_read_6 (by decide) ?_
  refine lv_icmp_le (tgt := 16) hx hb d_M_read_9 (by decide) (fun _ => ?_) (fun c9 => absurd (nI_le (a := i) (b := 2047) (by omega) (by decide)) c9)
  refine lv_iconst (v := 0) hx hb d_M_read_16 (by decide) ?_
  refine lv_iconst (v := 1) hx hb d_M_read_17 (by decide) ?_
  refine xc_calli (n := 2) (C := "TagMemoryModel") hx hb hml hown hts (c_M_bad l D G kc _ _ _ _ (Or.inl rfl)) (tb_V wm_390 wm_392 ws_17 wm_2 wm_393) rfl rfl rfl (by decide +kernel) ⟨Nat.le_of_ble_eq_true rfl, Nat.le_of_ble_eq_true rfl⟩ hK hP hD hS hA rfl rfl rfl rfl hl.1 rfl (Nat.le_of_ble_eq_true rfl) d_M_read_18 ⟨Nat.zero_le _, Nat.zero_le _⟩ (fun r u1 H locs hw hP hD hS => ?_)
  obtain ⟨e1, e2⟩ := hw
  subst e1
  rw [e2] at hP hD; clear e2 u1
  have hP : va_P D vwCl (wM G kc (nTh u 0)) H := hP
  have hD : va_D A (wM G kc (nTh u 0)) := hD
  refine lv_if_eq (tgt := 26) hx hb d_M_read_21 (by decide) (fun _ => ?_) (fun c9 => absurd rfl c9)
  refine lv_aload_n hx hb d_M_read_26 rfl (lv_at hl 0 rfl) ?_
  refine lv_iload_n hx hb d_M_read_27 rfl (lv_at hl 1 rfl) ?_
  refine lv_iconst (v := 4) hx hb d_M_read_28 (by decide) ?_
  refine xa_idiv hx hb i 4 rfl rfl (by omega) (by decide) (by decide) d_M_read_29 ?_
  refine xc_callv (n := 1) (C := "TagMemoryModel") hx hb hml hown hts (c_M_want l D G kc _ _ (i / 4) (by omega) (by exact hI)) (tb_V wm_394 wm_396 ws_18 wm_2 wm_397) rfl rfl rfl (by decide +kernel) ⟨Nat.le_of_ble_eq_true rfl, Nat.le_of_ble_eq_true rfl⟩ hK hP hD hS hA rfl rfl rfl rfl hl.1 rfl (Nat.le_of_ble_eq_true rfl) d_M_read_30 ⟨Nat.zero_le _, Nat.zero_le _⟩ (fun u1 H locs hw hP hD hS => ?_)
  rw [hw] at hP hD; clear hw u1
  refine lv_aload_n hx hb d_M_read_33 rfl (lv_at hl 0 rfl) ?_
  refine xm_g0 hx hb hts hown hK hP d_M_read_34 ?_
  refine lv_iload_n hx hb d_M_read_37 rfl (lv_at hl 1 rfl) ?_
  refine xm_l0 hx hb hK hP i rfl (by omega) d_M_read_38 ?_
  exact xc_iret hx hb hr hlocks hP hK hD hS ⟨rfl, rfl⟩ d_M_read_39
set_option maxHeartbeats 4000000 in
set_option maxRecDepth 100000 in
theorem c_M_tag (l : Launch) (D : va_G) (G : Nat → Nat) (kc : Nat → ClassId) (sz : Nat) (u : TM) (i : Nat) (hi : i < 2048) (hI : mI u) : XMi l y_M_tag k_M_tag { frames := 5, cells := 0, slots := 0, locals := 111 } D vwCl (wM G kc) (tyMs kc) u sz [.ref (G 0), .int (nI i)] (fun r u1 => r = mTg (gWant (nTh u 0) (i / 4)) (i / 2) ∧ u1 = gWant (nTh u 0) (i / 4)) := by
  refine xb_ofi (cc := b_M_tag) (maxL := 2) (ret := some .boolean) (by decide) rfl (Nat.le_of_ble_eq_true rfl) ?_
  intro p e s m below meth c A ls hsz hx hb hml hr hlocks hts hown hP hK hD hA hl
  have hl : lv_has ls 2 [(0, .ref (G 0)), (1, .int (nI i))] := hl
  have hS : va_S A s.heap s.heap [] := va_S.rf
  refine lv_aload_n hx hb d_M_tag_0 rfl (lv_at hl 0 rfl) ?_
  refine lv_iload_n hx hb d_M_tag_1 rfl (lv_at hl 1 rfl) ?_
  refine lv_if_lt (tgt := 12) hx hb d_M_tag_2 (by decide) (fun c9 => absurd c9 (nI_pos (by omega))) (fun _ => ?_)
  refine lv_iload_n hx hb d_M_tag_5 rfl (lv_at hl 1 rfl) ?_
  refine lv_sipush (v := 2047) hx hb d_M_tag_6 (by decide) ?_
  refine lv_icmp_le (tgt := 16) hx hb d_M_tag_9 (by decide) (fun _ => ?_) (fun c9 => absurd (nI_le (a := i) (b := 2047) (by omega) (by decide)) c9)
  refine lv_iconst (v := 0) hx hb d_M_tag_16 (by decide) ?_
  refine lv_iconst (v := 1) hx hb d_M_tag_17 (by decide) ?_
  refine xc_calli (n := 2) (C := "TagMemoryModel") hx hb hml hown hts (c_M_bad l D G kc _ _ _ _ (Or.inl rfl)) (tb_V wm_390 wm_392 ws_17 wm_2 wm_393) rfl rfl rfl (by decide +kernel) ⟨Nat.le_of_ble_eq_true rfl, Nat.le_of_ble_eq_true rfl⟩ hK hP hD hS hA rfl rfl rfl rfl hl.1 rfl (Nat.le_of_ble_eq_true rfl) d_M_tag_18 ⟨Nat.zero_le _, Nat.zero_le _⟩ (fun r u1 H locs hw hP hD hS => ?_)
  obtain ⟨e1, e2⟩ := hw
  subst e1
  rw [e2] at hP hD; clear e2 u1
  have hP : va_P D vwCl (wM G kc (nTh u 0)) H := hP
  have hD : va_D A (wM G kc (nTh u 0)) := hD
  refine lv_if_eq (tgt := 26) hx hb d_M_tag_21 (by decide) (fun _ => ?_) (fun c9 => absurd rfl c9)
  refine lv_aload_n hx hb d_M_tag_26 rfl (lv_at hl 0 rfl) ?_
  refine lv_iload_n hx hb d_M_tag_27 rfl (lv_at hl 1 rfl) ?_
  refine lv_iconst (v := 4) hx hb d_M_tag_28 (by decide) ?_
  refine xa_idiv hx hb i 4 rfl rfl (by omega) (by decide) (by decide) d_M_tag_29 ?_
  refine xc_callv (n := 1) (C := "TagMemoryModel") hx hb hml hown hts (c_M_want l D G kc _ _ (i / 4) (by omega) (by exact hI)) (tb_V wm_394 wm_396 ws_18 wm_2 wm_397) rfl rfl rfl (by decide +kernel) ⟨Nat.le_of_ble_eq_true rfl, Nat.le_of_ble_eq_true rfl⟩ hK hP hD hS hA rfl rfl rfl rfl hl.1 rfl (Nat.le_of_ble_eq_true rfl) d_M_tag_30 ⟨Nat.zero_le _, Nat.zero_le _⟩ (fun u1 H locs hw hP hD hS => ?_)
  rw [hw] at hP hD; clear hw u1
  refine lv_aload_n hx hb d_M_tag_33 rfl (lv_at hl 0 rfl) ?_
  refine xm_g1 hx hb hts hown hK hP d_M_tag_34 ?_
  refine lv_iload_n hx hb d_M_tag_37 rfl (lv_at hl 1 rfl) ?_
  refine lv_iconst (v := 2) hx hb d_M_tag_38 (by decide) ?_
  refine xa_idiv hx hb i 2 rfl rfl (by omega) (by decide) (by decide) d_M_tag_39 ?_
  refine xm_l1 hx hb hK hP (i / 2) rfl (by omega) d_M_tag_40 ?_
  exact xc_zret hx hb hr hlocks ((mI_want (v := nTh u 0) (n := i / 4) hI (by omega)).2.2 (i / 2) (by omega)) hP hK hD hS ⟨rfl, rfl⟩ d_M_tag_41
set_option maxHeartbeats 4000000 in
set_option maxRecDepth 100000 in
theorem c_M_write (l : Launch) (D : va_G) (G : Nat → Nat) (kc : Nat → ClassId) (sz : Nat) (u : TM) (i : Nat) (hi : i < 2048) (w : Int32) (hI : mI u) : XMi l y_M_write k_M_write { frames := 5, cells := 0, slots := 0, locals := 112 } D vwCl (wM G kc) (tyMs kc) u sz [.ref (G 0), .int (nI i), .int w] (fun r u1 => r = mWd u i ∧ u1 = gCh (nTh u 0) i w 0) := by
  refine xb_ofi (cc := b_M_write) (maxL := 4) (ret := some .int) (by decide) rfl (Nat.le_of_ble_eq_true rfl) ?_
  intro p e s m below meth c A ls hsz hx hb hml hr hlocks hts hown hP hK hD hA hl
  have hl : lv_has ls 4 [(0, .ref (G 0)), (1, .int (nI i)), (2, .int w)] := hl
  have hS : va_S A s.heap s.heap [] := va_S.rf
  refine lv_aload_n hx hb d_M_write_0 rfl (lv_at hl 0 rfl) ?_
  refine lv_iload_n hx hb d_M_write_1 rfl (lv_at hl 1 rfl) ?_
  refine lv_if_lt (tgt := 12) hx hb d_M_write_2 (by decide) (fun c9 => absurd c9 (nI_pos (by omega))) (fun _ => ?_)
  refine lv_iload_n hx hb d_M_write_5 rfl (lv_at hl 1 rfl) ?_
  refine lv_sipush (v := 2047) hx hb d_M_write_6 (by decide) ?_
  refine lv_icmp_le (tgt := 16) hx hb d_M_write_9 (by decide) (fun _ => ?_) (fun c9 => absurd (nI_le (a := i) (b := 2047) (by omega) (by decide)) c9)
  refine lv_iconst (v := 0) hx hb d_M_write_16 (by decide) ?_
  refine lv_iconst (v := 1) hx hb d_M_write_17 (by decide) ?_
  refine xc_calli (n := 2) (C := "TagMemoryModel") hx hb hml hown hts (c_M_bad l D G kc _ _ _ _ (Or.inl rfl)) (tb_V wm_390 wm_392 ws_17 wm_2 wm_393) rfl rfl rfl (by decide +kernel) ⟨Nat.le_of_ble_eq_true rfl, Nat.le_of_ble_eq_true rfl⟩ hK hP hD hS hA rfl rfl rfl rfl hl.1 rfl (Nat.le_of_ble_eq_true rfl) d_M_write_18 ⟨Nat.zero_le _, Nat.zero_le _⟩ (fun r u1 H locs hw hP hD hS => ?_)
  obtain ⟨e1, e2⟩ := hw
  subst e1
  rw [e2] at hP hD; clear e2 u1
  have hP : va_P D vwCl (wM G kc (nTh u 0)) H := hP
  have hD : va_D A (wM G kc (nTh u 0)) := hD
  refine lv_if_eq (tgt := 26) hx hb d_M_write_21 (by decide) (fun _ => ?_) (fun c9 => absurd rfl c9)
  refine lv_aload_n hx hb d_M_write_26 rfl (lv_at hl 0 rfl) ?_
  refine xm_g0 hx hb hts hown hK hP d_M_write_27 ?_
  refine lv_iload_n hx hb d_M_write_30 rfl (lv_at hl 1 rfl) ?_
  refine xm_l0 hx hb hK hP i rfl (by omega) d_M_write_31 ?_
  refine lv_istore_n (lv' := [(3, .int _), (0, .ref _), (1, .int (nI i)), (2, .int _)]) hx hb d_M_write_32 rfl hl (by decide) rfl (fun ls hl => ?_)
  refine lv_aload_n hx hb d_M_write_33 rfl (lv_at hl 1 rfl) ?_
  refine lv_iload_n hx hb d_M_write_34 rfl (lv_at hl 2 rfl) ?_
  refine lv_iload_n hx hb d_M_write_35 rfl (lv_at hl 3 rfl) ?_
  refine lv_iconst (v := 0) hx hb d_M_write_36 (by decide) ?_
  refine xc_callv (n := 3) (C := "TagMemoryModel") hx hb hml hown hts (c_M_changes l D G kc _ _ i (by omega) _ _ (Or.inl rfl) (by exact hI)) (tb_V wm_418 wm_420 ws_22 wm_2 wm_421) rfl rfl rfl (by decide +kernel) ⟨Nat.le_of_ble_eq_true rfl, Nat.le_of_ble_eq_true rfl⟩ hK hP hD hS hA rfl rfl rfl rfl hl.1 rfl (Nat.le_of_ble_eq_true rfl) d_M_write_37 ⟨Nat.zero_le _, Nat.zero_le _⟩ (fun u1 H locs hw hP hD hS => ?_)
  rw [hw] at hP hD; clear hw u1
  refine lv_iload_n hx hb d_M_write_40 rfl (lv_at hl 0 rfl) ?_
  exact xc_iret hx hb hr hlocks hP hK hD hS ⟨rfl, rfl⟩ d_M_write_41
set_option maxHeartbeats 4000000 in
set_option maxRecDepth 100000 in
theorem c_M_part (l : Launch) (D : va_G) (G : Nat → Nat) (kc : Nat → ClassId) (sz : Nat) (u : TM) (i j n : Nat) (hi : i < 2048) (hj : j < 4) (hn : n = 1 ∨ n = 2) (hd : j % n = 0) (w : Int32) (hI : mI u) : XMi l y_M_part k_M_part { frames := 5, cells := 0, slots := 0, locals := 112 } D vwCl (wM G kc) (tyMs kc) u sz [.ref (G 0), .int (nI i), .int (nI j), .int (nI n), .int w] (fun r u1 => r = mWd (gCh (nTh u 0) i (gPart (mWd u i) j n w) 0) i ∧ u1 = gCh (nTh u 0) i (gPart (mWd u i) j n w) 0) := by
  refine xb_ofi (cc := b_M_part) (maxL := 6) (ret := some .int) (by decide) rfl (Nat.le_of_ble_eq_true rfl) ?_
  intro p e s m below meth c A ls hsz hx hb hml hr hlocks hts hown hP hK hD hA hl
  have hl : lv_has ls 6 [(0, .ref (G 0)), (1, .int (nI i)), (2, .int (nI j)), (3, .int (nI n)), (4, .int w)] := hl
  have hS : va_S A s.heap s.heap [] := va_S.rf
  by_cases h1 : n = 1
  · have hm : fMask n = 255 := by unfold fMask; rw [if_pos h1]
    refine lv_aload_n hx hb d_M_part_0 rfl (lv_at hl 0 rfl) ?_
    refine lv_iload_n hx hb d_M_part_1 rfl (lv_at hl 1 rfl) ?_
    refine lv_if_lt (tgt := 12) hx hb d_M_part_2 (by decide) (fun c9 => absurd c9 (nI_pos (by omega))) (fun _ => ?_)
    refine lv_iload_n hx hb d_M_part_5 rfl (lv_at hl 1 rfl) ?_
    refine lv_sipush (v := 2047) hx hb d_M_part_6 (by decide) ?_
    refine lv_icmp_le (tgt := 16) hx hb d_M_part_9 (by decide) (fun _ => ?_) (fun c9 => absurd (nI_le (a := i) (b := 2047) (by omega) (by decide)) c9)
    refine lv_iconst (v := 0) hx hb d_M_part_16 (by decide) ?_
    refine lv_iconst (v := 1) hx hb d_M_part_17 (by decide) ?_
    refine xc_calli (n := 2) (C := "TagMemoryModel") hx hb hml hown hts (c_M_bad l D G kc _ _ _ _ (Or.inl rfl)) (tb_V wm_390 wm_392 ws_17 wm_2 wm_393) rfl rfl rfl (by decide +kernel) ⟨Nat.le_of_ble_eq_true rfl, Nat.le_of_ble_eq_true rfl⟩ hK hP hD hS hA rfl rfl rfl rfl hl.1 rfl (Nat.le_of_ble_eq_true rfl) d_M_part_18 ⟨Nat.zero_le _, Nat.zero_le _⟩ (fun r u1 H locs hw hP hD hS => ?_)
    obtain ⟨e1, e2⟩ := hw
    subst e1
    rw [e2] at hP hD; clear e2 u1
    have hP : va_P D vwCl (wM G kc (nTh u 0)) H := hP
    have hD : va_D A (wM G kc (nTh u 0)) := hD
    refine lv_if_ne (tgt := 62) hx hb d_M_part_21 (by decide) (fun c9 => absurd rfl c9) (fun _ => ?_)
    refine lv_aload_n hx hb d_M_part_24 rfl (lv_at hl 0 rfl) ?_
    refine lv_iload_n hx hb d_M_part_25 rfl (lv_at hl 3 rfl) ?_
    refine lv_iconst (v := 1) hx hb d_M_part_26 (by decide) ?_
    refine lv_icmp_lt (tgt := 50) hx hb d_M_part_27 (by decide) (fun c9 => absurd c9 (by rcases hn with h | h <;> subst h <;> decide)) (fun _ => ?_)
    refine lv_iload_n hx hb d_M_part_30 rfl (lv_at hl 3 rfl) ?_
    refine lv_iconst (v := 2) hx hb d_M_part_31 (by decide) ?_
    refine lv_icmp_gt (tgt := 50) hx hb d_M_part_32 (by decide) (fun c9 => absurd c9 (by rcases hn with h | h <;> subst h <;> decide)) (fun _ => ?_)
    refine lv_iload_n hx hb d_M_part_35 rfl (lv_at hl 2 rfl) ?_
    refine lv_if_lt (tgt := 50) hx hb d_M_part_36 (by decide) (fun c9 => absurd c9 (nI_pos (by omega))) (fun _ => ?_)
    refine lv_iload_n hx hb d_M_part_39 rfl (lv_at hl 2 rfl) ?_
    refine lv_iconst (v := 3) hx hb d_M_part_40 (by decide) ?_
    refine lv_icmp_gt (tgt := 50) hx hb d_M_part_41 (by decide) (fun c9 => absurd c9 (nI_nlt (a := 3) (b := j) (by omega) (by decide))) (fun _ => ?_)
    refine lv_iload_n hx hb d_M_part_44 rfl (lv_at hl 2 rfl) ?_
    refine lv_iload_n hx hb d_M_part_45 rfl (lv_at hl 3 rfl) ?_
    refine xa_irem hx hb j n rfl rfl (by omega) (by omega) (by omega) d_M_part_46 ?_
    refine lv_if_eq (tgt := 54) hx hb d_M_part_47 (by decide) (fun _ => ?_) (fun c9 => absurd (by rw [hd]; rfl) c9)
    refine lv_iconst (v := 0) hx hb d_M_part_54 (by decide) ?_
    refine lv_iconst (v := 2) hx hb d_M_part_55 (by decide) ?_
    refine xc_calli (n := 2) (C := "TagMemoryModel") hx hb hml hown hts (c_M_bad l D G kc _ _ _ _ (Or.inl rfl)) (tb_V wm_390 wm_392 ws_17 wm_2 wm_393) rfl rfl rfl (by decide +kernel) ⟨Nat.le_of_ble_eq_true rfl, Nat.le_of_ble_eq_true rfl⟩ hK hP hD hS hA rfl rfl rfl rfl hl.1 rfl (Nat.le_of_ble_eq_true rfl) d_M_part_56 ⟨Nat.zero_le _, Nat.zero_le _⟩ (fun r u1 H locs hw hP hD hS => ?_)
    obtain ⟨e1, e2⟩ := hw
    subst e1
    rw [e2] at hP hD; clear e2 u1
    have hP : va_P D vwCl (wM G kc (nTh u 0)) H := hP
    have hD : va_D A (wM G kc (nTh u 0)) := hD
    refine lv_if_eq (tgt := 64) hx hb d_M_part_59 (by decide) (fun _ => ?_) (fun c9 => absurd rfl c9)
    refine lv_iload_n hx hb d_M_part_64 rfl (lv_at hl 3 rfl) ?_
    refine lv_iconst (v := 1) hx hb d_M_part_65 (by decide) ?_
    refine lv_icmp_ne (tgt := 75) hx hb d_M_part_66 (by decide) (fun c9 => absurd (by rw [h1]; rfl) c9) (fun _ => ?_)
    refine lv_sipush (v := 255) hx hb d_M_part_69 (by decide) ?_
    refine lv_goto (tgt := 77) hx hb d_M_part_72 (by decide) ?_
    refine lv_bipush (v := 8) hx hb d_M_part_77 (by decide) ?_
    refine lv_iload_n hx hb d_M_part_79 rfl (lv_at hl 2 rfl) ?_
    refine xa_imul hx hb 8 j rfl rfl d_M_part_80 ?_
    refine lv_ishl hx hb d_M_part_81 ?_
    refine lv_istore (lv' := [(5, .int _), (0, .ref _), (1, .int (nI i)), (2, .int (nI j)), (3, .int (nI n)), (4, .int _)]) hx hb d_M_part_82 hl (by decide) rfl (fun ls hl => ?_)
    refine lv_aload_n hx hb d_M_part_84 rfl (lv_at hl 1 rfl) ?_
    refine lv_iload_n hx hb d_M_part_85 rfl (lv_at hl 2 rfl) ?_
    refine lv_aload_n hx hb d_M_part_86 rfl (lv_at hl 1 rfl) ?_
    refine xm_g0 hx hb hts hown hK hP d_M_part_87 ?_
    refine lv_iload_n hx hb d_M_part_90 rfl (lv_at hl 2 rfl) ?_
    refine xm_l0 hx hb hK hP i rfl (by omega) d_M_part_91 ?_
    refine lv_iload hx hb d_M_part_92 (lv_at hl 0 rfl) ?_
    refine lv_iconst (v := (-1)) hx hb d_M_part_94 (by decide) ?_
    refine lv_ixor hx hb d_M_part_95 ?_
    refine lv_iand hx hb d_M_part_96 ?_
    refine lv_iload hx hb d_M_part_97 (lv_at hl 5 rfl) ?_
    refine lv_bipush (v := 8) hx hb d_M_part_99 (by decide) ?_
    refine lv_iload_n hx hb d_M_part_101 rfl (lv_at hl 3 rfl) ?_
    refine xa_imul hx hb 8 j rfl rfl d_M_part_102 ?_
    refine lv_ishl hx hb d_M_part_103 ?_
    refine lv_iload hx hb d_M_part_104 (lv_at hl 0 rfl) ?_
    refine lv_iand hx hb d_M_part_106 ?_
    refine lv_ior hx hb d_M_part_107 ?_
    refine lv_iconst (v := 0) hx hb d_M_part_108 (by decide) ?_
    refine xc_callv (n := 3) (C := "TagMemoryModel") hx hb hml hown hts (c_M_changes l D G kc _ _ i (by omega) _ _ (Or.inl rfl) (by exact hI)) (tb_V wm_418 wm_420 ws_22 wm_2 wm_421) rfl rfl rfl (by decide +kernel) ⟨Nat.le_of_ble_eq_true rfl, Nat.le_of_ble_eq_true rfl⟩ hK hP hD hS hA rfl rfl rfl rfl hl.1 rfl (Nat.le_of_ble_eq_true rfl) d_M_part_109 ⟨Nat.zero_le _, Nat.zero_le _⟩ (fun u1 H locs hw hP hD hS => ?_)
    rw [hw] at hP hD; clear hw u1
    refine lv_aload_n hx hb d_M_part_112 rfl (lv_at hl 1 rfl) ?_
    refine xm_g0 hx hb hts hown hK hP d_M_part_113 ?_
    refine lv_iload_n hx hb d_M_part_116 rfl (lv_at hl 2 rfl) ?_
    refine xm_l0 hx hb hK hP i rfl (by omega) d_M_part_117 ?_
    exact xc_iret hx hb hr hlocks hP hK hD hS (by unfold gPart; rw [hm]; exact ⟨rfl, rfl⟩) d_M_part_118
  · have hm : fMask n = 65535 := by unfold fMask; rw [if_neg h1]
    have h2 : n = 2 := by omega
    refine lv_aload_n hx hb d_M_part_0 rfl (lv_at hl 0 rfl) ?_
    refine lv_iload_n hx hb d_M_part_1 rfl (lv_at hl 1 rfl) ?_
    refine lv_if_lt (tgt := 12) hx hb d_M_part_2 (by decide) (fun c9 => absurd c9 (nI_pos (by omega))) (fun _ => ?_)
    refine lv_iload_n hx hb d_M_part_5 rfl (lv_at hl 1 rfl) ?_
    refine lv_sipush (v := 2047) hx hb d_M_part_6 (by decide) ?_
    refine lv_icmp_le (tgt := 16) hx hb d_M_part_9 (by decide) (fun _ => ?_) (fun c9 => absurd (nI_le (a := i) (b := 2047) (by omega) (by decide)) c9)
    refine lv_iconst (v := 0) hx hb d_M_part_16 (by decide) ?_
    refine lv_iconst (v := 1) hx hb d_M_part_17 (by decide) ?_
    refine xc_calli (n := 2) (C := "TagMemoryModel") hx hb hml hown hts (c_M_bad l D G kc _ _ _ _ (Or.inl rfl)) (tb_V wm_390 wm_392 ws_17 wm_2 wm_393) rfl rfl rfl (by decide +kernel) ⟨Nat.le_of_ble_eq_true rfl, Nat.le_of_ble_eq_true rfl⟩ hK hP hD hS hA rfl rfl rfl rfl hl.1 rfl (Nat.le_of_ble_eq_true rfl) d_M_part_18 ⟨Nat.zero_le _, Nat.zero_le _⟩ (fun r u1 H locs hw hP hD hS => ?_)
    obtain ⟨e1, e2⟩ := hw
    subst e1
    rw [e2] at hP hD; clear e2 u1
    have hP : va_P D vwCl (wM G kc (nTh u 0)) H := hP
    have hD : va_D A (wM G kc (nTh u 0)) := hD
    refine lv_if_ne (tgt := 62) hx hb d_M_part_21 (by decide) (fun c9 => absurd rfl c9) (fun _ => ?_)
    refine lv_aload_n hx hb d_M_part_24 rfl (lv_at hl 0 rfl) ?_
    refine lv_iload_n hx hb d_M_part_25 rfl (lv_at hl 3 rfl) ?_
    refine lv_iconst (v := 1) hx hb d_M_part_26 (by decide) ?_
    refine lv_icmp_lt (tgt := 50) hx hb d_M_part_27 (by decide) (fun c9 => absurd c9 (by rcases hn with h | h <;> subst h <;> decide)) (fun _ => ?_)
    refine lv_iload_n hx hb d_M_part_30 rfl (lv_at hl 3 rfl) ?_
    refine lv_iconst (v := 2) hx hb d_M_part_31 (by decide) ?_
    refine lv_icmp_gt (tgt := 50) hx hb d_M_part_32 (by decide) (fun c9 => absurd c9 (by rcases hn with h | h <;> subst h <;> decide)) (fun _ => ?_)
    refine lv_iload_n hx hb d_M_part_35 rfl (lv_at hl 2 rfl) ?_
    refine lv_if_lt (tgt := 50) hx hb d_M_part_36 (by decide) (fun c9 => absurd c9 (nI_pos (by omega))) (fun _ => ?_)
    refine lv_iload_n hx hb d_M_part_39 rfl (lv_at hl 2 rfl) ?_
    refine lv_iconst (v := 3) hx hb d_M_part_40 (by decide) ?_
    refine lv_icmp_gt (tgt := 50) hx hb d_M_part_41 (by decide) (fun c9 => absurd c9 (nI_nlt (a := 3) (b := j) (by omega) (by decide))) (fun _ => ?_)
    refine lv_iload_n hx hb d_M_part_44 rfl (lv_at hl 2 rfl) ?_
    refine lv_iload_n hx hb d_M_part_45 rfl (lv_at hl 3 rfl) ?_
    refine xa_irem hx hb j n rfl rfl (by omega) (by omega) (by omega) d_M_part_46 ?_
    refine lv_if_eq (tgt := 54) hx hb d_M_part_47 (by decide) (fun _ => ?_) (fun c9 => absurd (by rw [hd]; rfl) c9)
    refine lv_iconst (v := 0) hx hb d_M_part_54 (by decide) ?_
    refine lv_iconst (v := 2) hx hb d_M_part_55 (by decide) ?_
    refine xc_calli (n := 2) (C := "TagMemoryModel") hx hb hml hown hts (c_M_bad l D G kc _ _ _ _ (Or.inl rfl)) (tb_V wm_390 wm_392 ws_17 wm_2 wm_393) rfl rfl rfl (by decide +kernel) ⟨Nat.le_of_ble_eq_true rfl, Nat.le_of_ble_eq_true rfl⟩ hK hP hD hS hA rfl rfl rfl rfl hl.1 rfl (Nat.le_of_ble_eq_true rfl) d_M_part_56 ⟨Nat.zero_le _, Nat.zero_le _⟩ (fun r u1 H locs hw hP hD hS => ?_)
    obtain ⟨e1, e2⟩ := hw
    subst e1
    rw [e2] at hP hD; clear e2 u1
    have hP : va_P D vwCl (wM G kc (nTh u 0)) H := hP
    have hD : va_D A (wM G kc (nTh u 0)) := hD
    refine lv_if_eq (tgt := 64) hx hb d_M_part_59 (by decide) (fun _ => ?_) (fun c9 => absurd rfl c9)
    refine lv_iload_n hx hb d_M_part_64 rfl (lv_at hl 3 rfl) ?_
    refine lv_iconst (v := 1) hx hb d_M_part_65 (by decide) ?_
    refine lv_icmp_ne (tgt := 75) hx hb d_M_part_66 (by decide) (fun _ => ?_) (fun c9 => absurd (show nI n = nI 1 from c9) (by rw [h2]; decide))
    refine lv_ldc (v := 65535) hx hb hown (hts (Cond.constant "TagMemoryModel" 64 (65535 : Int32)) (List.mem_cons_of_mem _ wm_426)) d_M_part_75 ?_
    refine lv_bipush (v := 8) hx hb d_M_part_77 (by decide) ?_
    refine lv_iload_n hx hb d_M_part_79 rfl (lv_at hl 2 rfl) ?_
    refine xa_imul hx hb 8 j rfl rfl d_M_part_80 ?_
    refine lv_ishl hx hb d_M_part_81 ?_
    refine lv_istore (lv' := [(5, .int _), (0, .ref _), (1, .int (nI i)), (2, .int (nI j)), (3, .int (nI n)), (4, .int _)]) hx hb d_M_part_82 hl (by decide) rfl (fun ls hl => ?_)
    refine lv_aload_n hx hb d_M_part_84 rfl (lv_at hl 1 rfl) ?_
    refine lv_iload_n hx hb d_M_part_85 rfl (lv_at hl 2 rfl) ?_
    refine lv_aload_n hx hb d_M_part_86 rfl (lv_at hl 1 rfl) ?_
    refine xm_g0 hx hb hts hown hK hP d_M_part_87 ?_
    refine lv_iload_n hx hb d_M_part_90 rfl (lv_at hl 2 rfl) ?_
    refine xm_l0 hx hb hK hP i rfl (by omega) d_M_part_91 ?_
    refine lv_iload hx hb d_M_part_92 (lv_at hl 0 rfl) ?_
    refine lv_iconst (v := (-1)) hx hb d_M_part_94 (by decide) ?_
    refine lv_ixor hx hb d_M_part_95 ?_
    refine lv_iand hx hb d_M_part_96 ?_
    refine lv_iload hx hb d_M_part_97 (lv_at hl 5 rfl) ?_
    refine lv_bipush (v := 8) hx hb d_M_part_99 (by decide) ?_
    refine lv_iload_n hx hb d_M_part_101 rfl (lv_at hl 3 rfl) ?_
    refine xa_imul hx hb 8 j rfl rfl d_M_part_102 ?_
    refine lv_ishl hx hb d_M_part_103 ?_
    refine lv_iload hx hb d_M_part_104 (lv_at hl 0 rfl) ?_
    refine lv_iand hx hb d_M_part_106 ?_
    refine lv_ior hx hb d_M_part_107 ?_
    refine lv_iconst (v := 0) hx hb d_M_part_108 (by decide) ?_
    refine xc_callv (n := 3) (C := "TagMemoryModel") hx hb hml hown hts (c_M_changes l D G kc _ _ i (by omega) _ _ (Or.inl rfl) (by exact hI)) (tb_V wm_418 wm_420 ws_22 wm_2 wm_421) rfl rfl rfl (by decide +kernel) ⟨Nat.le_of_ble_eq_true rfl, Nat.le_of_ble_eq_true rfl⟩ hK hP hD hS hA rfl rfl rfl rfl hl.1 rfl (Nat.le_of_ble_eq_true rfl) d_M_part_109 ⟨Nat.zero_le _, Nat.zero_le _⟩ (fun u1 H locs hw hP hD hS => ?_)
    rw [hw] at hP hD; clear hw u1
    refine lv_aload_n hx hb d_M_part_112 rfl (lv_at hl 1 rfl) ?_
    refine xm_g0 hx hb hts hown hK hP d_M_part_113 ?_
    refine lv_iload_n hx hb d_M_part_116 rfl (lv_at hl 2 rfl) ?_
    refine xm_l0 hx hb hK hP i rfl (by omega) d_M_part_117 ?_
    exact xc_iret hx hb hr hlocks hP hK hD hS (by unfold gPart; rw [hm]; exact ⟨rfl, rfl⟩) d_M_part_118
set_option maxHeartbeats 4000000 in
set_option maxRecDepth 100000 in
theorem c_M_put (l : Launch) (D : va_G) (G : Nat → Nat) (kc : Nat → ClassId) (sz : Nat) (u : TM) (g : Nat) (hg : g < 1024) (lo hi t : Int32) (ht : t = 0 ∨ t = 1) (hI : mI u) : XMv l y_M_put k_M_put { frames := 5, cells := 0, slots := 0, locals := 112 } D vwCl (wM G kc) (tyMs kc) u sz [.ref (G 0), .int (nI g), .int lo, .int hi, .int t] (fun u1 => u1 = gPut (nTh u 0) g lo hi t) := by
  refine xb_ofv (cc := b_M_put) (maxL := 5) (ret := none) (by decide) rfl (Nat.le_of_ble_eq_true rfl) ?_
  intro p e s m below meth c A ls hsz hx hb hml hr hlocks hts hown hP hK hD hA hl
  have hl : lv_has ls 5 [(0, .ref (G 0)), (1, .int (nI g)), (2, .int lo), (3, .int hi), (4, .int t)] := hl
  have hS : va_S A s.heap s.heap [] := va_S.rf
  have hI1 : mI (gCh (nTh u 0) (2 * g) lo t) := mI_ch (v := nTh u 0) hI (by omega) ht
  refine lv_aload_n hx hb d_M_put_0 rfl (lv_at hl 0 rfl) ?_
  refine lv_iload_n hx hb d_M_put_1 rfl (lv_at hl 1 rfl) ?_
  refine lv_if_lt (tgt := 12) hx hb d_M_put_2 (by decide) (fun c9 => absurd c9 (nI_pos (by omega))) (fun _ => ?_)
  refine lv_iload_n hx hb d_M_put_5 rfl (lv_at hl 1 rfl) ?_
  refine lv_sipush (v := 1023) hx hb d_M_put_6 (by decide) ?_
  refine lv_icmp_le (tgt := 16) hx hb d_M_put_9 (by decide) (fun _ => ?_) (fun c9 => absurd (nI_le (a := g) (b := 1023) (by omega) (by decide)) c9)
  refine lv_iconst (v := 0) hx hb d_M_put_16 (by decide) ?_
  refine lv_iconst (v := 1) hx hb d_M_put_17 (by decide) ?_
  refine xc_calli (n := 2) (C := "TagMemoryModel") hx hb hml hown hts (c_M_bad l D G kc _ _ _ _ (Or.inl rfl)) (tb_V wm_390 wm_392 ws_17 wm_2 wm_393) rfl rfl rfl (by decide +kernel) ⟨Nat.le_of_ble_eq_true rfl, Nat.le_of_ble_eq_true rfl⟩ hK hP hD hS hA rfl rfl rfl rfl hl.1 rfl (Nat.le_of_ble_eq_true rfl) d_M_put_18 ⟨Nat.zero_le _, Nat.zero_le _⟩ (fun r u1 H locs hw hP hD hS => ?_)
  obtain ⟨e1, e2⟩ := hw
  subst e1
  rw [e2] at hP hD; clear e2 u1
  have hP : va_P D vwCl (wM G kc (nTh u 0)) H := hP
  have hD : va_D A (wM G kc (nTh u 0)) := hD
  refine lv_if_eq (tgt := 25) hx hb d_M_put_21 (by decide) (fun _ => ?_) (fun c9 => absurd rfl c9)
  refine lv_aload_n hx hb d_M_put_25 rfl (lv_at hl 0 rfl) ?_
  refine lv_iconst (v := 2) hx hb d_M_put_26 (by decide) ?_
  refine lv_iload_n hx hb d_M_put_27 rfl (lv_at hl 1 rfl) ?_
  refine xa_imul hx hb 2 g rfl rfl d_M_put_28 ?_
  refine lv_iload_n hx hb d_M_put_29 rfl (lv_at hl 2 rfl) ?_
  refine lv_iload hx hb d_M_put_30 (lv_at hl 4 rfl) ?_
  refine xc_callv (n := 3) (C := "TagMemoryModel") hx hb hml hown hts (c_M_changes l D G kc _ _ (2 * g) (by omega) _ _ ht (by exact hI)) (tb_V wm_418 wm_420 ws_22 wm_2 wm_421) rfl rfl rfl (by decide +kernel) ⟨Nat.le_of_ble_eq_true rfl, Nat.le_of_ble_eq_true rfl⟩ hK hP hD hS hA rfl rfl rfl rfl hl.1 rfl (Nat.le_of_ble_eq_true rfl) d_M_put_32 ⟨Nat.zero_le _, Nat.zero_le _⟩ (fun u1 H locs hw hP hD hS => ?_)
  rw [hw] at hP hD; clear hw u1
  refine lv_aload_n hx hb d_M_put_35 rfl (lv_at hl 0 rfl) ?_
  refine lv_iconst (v := 2) hx hb d_M_put_36 (by decide) ?_
  refine lv_iload_n hx hb d_M_put_37 rfl (lv_at hl 1 rfl) ?_
  refine xa_imul hx hb 2 g rfl rfl d_M_put_38 ?_
  refine lv_iconst (v := 1) hx hb d_M_put_39 (by decide) ?_
  refine xa_iadd hx hb (2 * g) 1 rfl rfl d_M_put_40 ?_
  refine lv_iload_n hx hb d_M_put_41 rfl (lv_at hl 3 rfl) ?_
  refine lv_iload hx hb d_M_put_42 (lv_at hl 4 rfl) ?_
  refine xc_callv (n := 3) (C := "TagMemoryModel") hx hb hml hown hts (c_M_changes l D G kc _ _ ((2 * g) + 1) (by omega) _ _ ht (by exact hI1)) (tb_V wm_418 wm_420 ws_22 wm_2 wm_421) rfl rfl rfl (by decide +kernel) ⟨Nat.le_of_ble_eq_true rfl, Nat.le_of_ble_eq_true rfl⟩ hK hP hD hS hA rfl rfl rfl rfl hl.1 rfl (Nat.le_of_ble_eq_true rfl) d_M_put_44 ⟨Nat.zero_le _, Nat.zero_le _⟩ (fun u1 H locs hw hP hD hS => ?_)
  rw [hw] at hP hD; clear hw u1
  exact xc_vret hx hb hr hlocks hP hK hD hS rfl d_M_put_47
set_option maxHeartbeats 4000000 in
set_option maxRecDepth 100000 in
theorem c_M_copy (l : Launch) (D : va_G) (G : Nat → Nat) (kc : Nat → ClassId) (sz : Nat) (u : TM) (g f : Nat) (hg : g < 1024) (hf : f < 1024) (hI : mI u) : XMi l y_M_copy k_M_copy { frames := 5, cells := 0, slots := 0, locals := 112 } D vwCl (wM G kc) (tyMs kc) u sz [.ref (G 0), .int (nI g), .int (nI f)] (fun r u1 => r = mTg (gWant (nTh u 0) (f / 2)) f ∧ u1 = gCopy (gWant (nTh u 0) (f / 2)) g f) := by
  refine xb_ofi (cc := b_M_copy) (maxL := 4) (ret := some .boolean) (by decide) rfl (Nat.le_of_ble_eq_true rfl) ?_
  intro p e s m below meth c A ls hsz hx hb hml hr hlocks hts hown hP hK hD hA hl
  have hl : lv_has ls 4 [(0, .ref (G 0)), (1, .int (nI g)), (2, .int (nI f))] := hl
  have hS : va_S A s.heap s.heap [] := va_S.rf
  have hI1 : mI (gWant (nTh u 0) (f / 2)) := mI_want (v := nTh u 0) hI (by omega)
  have ht1 : mTg (gWant (nTh u 0) (f / 2)) f = 0 ∨ mTg (gWant (nTh u 0) (f / 2)) f = 1 := hI1.2.2 f hf
  have hI2 : mI (gCopy1 (gWant (nTh u 0) (f / 2)) g f) := mI_ch hI1 (by omega) ht1
  refine lv_aload_n hx hb d_M_copy_0 rfl (lv_at hl 0 rfl) ?_
  refine lv_iload_n hx hb d_M_copy_1 rfl (lv_at hl 2 rfl) ?_
  refine lv_if_lt (tgt := 23) hx hb d_M_copy_2 (by decide) (fun c9 => absurd c9 (nI_pos (by omega))) (fun _ => ?_)
  refine lv_iload_n hx hb d_M_copy_5 rfl (lv_at hl 2 rfl) ?_
  refine lv_sipush (v := 1023) hx hb d_M_copy_6 (by decide) ?_
  refine lv_icmp_gt (tgt := 23) hx hb d_M_copy_9 (by decide) (fun c9 => absurd c9 (nI_nlt (a := 1023) (b := f) (by omega) (by decide))) (fun _ => ?_)
  refine lv_iload_n hx hb d_M_copy_12 rfl (lv_at hl 1 rfl) ?_
  refine lv_if_lt (tgt := 23) hx hb d_M_copy_13 (by decide) (fun c9 => absurd c9 (nI_pos (by omega))) (fun _ => ?_)
  refine lv_iload_n hx hb d_M_copy_16 rfl (lv_at hl 1 rfl) ?_
  refine lv_sipush (v := 1023) hx hb d_M_copy_17 (by decide) ?_
  refine lv_icmp_le (tgt := 27) hx hb d_M_copy_20 (by decide) (fun _ => ?_) (fun c9 => absurd (nI_le (a := g) (b := 1023) (by omega) (by decide)) c9)
  refine lv_iconst (v := 0) hx hb d_M_copy_27 (by decide) ?_
  refine lv_iconst (v := 1) hx hb d_M_copy_28 (by decide) ?_
  refine xc_calli (n := 2) (C := "TagMemoryModel") hx hb hml hown hts (c_M_bad l D G kc _ _ _ _ (Or.inl rfl)) (tb_V wm_390 wm_392 ws_17 wm_2 wm_393) rfl rfl rfl (by decide +kernel) ⟨Nat.le_of_ble_eq_true rfl, Nat.le_of_ble_eq_true rfl⟩ hK hP hD hS hA rfl rfl rfl rfl hl.1 rfl (Nat.le_of_ble_eq_true rfl) d_M_copy_29 ⟨Nat.zero_le _, Nat.zero_le _⟩ (fun r u1 H locs hw hP hD hS => ?_)
  obtain ⟨e1, e2⟩ := hw
  subst e1
  rw [e2] at hP hD; clear e2 u1
  have hP : va_P D vwCl (wM G kc (nTh u 0)) H := hP
  have hD : va_D A (wM G kc (nTh u 0)) := hD
  refine lv_if_eq (tgt := 37) hx hb d_M_copy_32 (by decide) (fun _ => ?_) (fun c9 => absurd rfl c9)
  refine lv_aload_n hx hb d_M_copy_37 rfl (lv_at hl 0 rfl) ?_
  refine lv_iload_n hx hb d_M_copy_38 rfl (lv_at hl 2 rfl) ?_
  refine lv_iconst (v := 2) hx hb d_M_copy_39 (by decide) ?_
  refine xa_idiv hx hb f 2 rfl rfl (by omega) (by decide) (by decide) d_M_copy_40 ?_
  refine xc_callv (n := 1) (C := "TagMemoryModel") hx hb hml hown hts (c_M_want l D G kc _ _ (f / 2) (by omega) (by exact hI)) (tb_V wm_394 wm_396 ws_18 wm_2 wm_397) rfl rfl rfl (by decide +kernel) ⟨Nat.le_of_ble_eq_true rfl, Nat.le_of_ble_eq_true rfl⟩ hK hP hD hS hA rfl rfl rfl rfl hl.1 rfl (Nat.le_of_ble_eq_true rfl) d_M_copy_41 ⟨Nat.zero_le _, Nat.zero_le _⟩ (fun u1 H locs hw hP hD hS => ?_)
  rw [hw] at hP hD; clear hw u1
  refine lv_aload_n hx hb d_M_copy_44 rfl (lv_at hl 0 rfl) ?_
  refine xm_g1 hx hb hts hown hK hP d_M_copy_45 ?_
  refine lv_iload_n hx hb d_M_copy_48 rfl (lv_at hl 2 rfl) ?_
  refine xm_l1 hx hb hK hP f rfl (by omega) d_M_copy_49 ?_
  refine lv_istore_n (lv' := [(3, .int _), (0, .ref _), (1, .int (nI g)), (2, .int (nI f))]) hx hb d_M_copy_50 rfl hl (by decide) rfl (fun ls hl => ?_)
  refine lv_aload_n hx hb d_M_copy_51 rfl (lv_at hl 1 rfl) ?_
  refine lv_iconst (v := 2) hx hb d_M_copy_52 (by decide) ?_
  refine lv_iload_n hx hb d_M_copy_53 rfl (lv_at hl 2 rfl) ?_
  refine xa_imul hx hb 2 g rfl rfl d_M_copy_54 ?_
  refine lv_aload_n hx hb d_M_copy_55 rfl (lv_at hl 1 rfl) ?_
  refine xm_g0 hx hb hts hown hK hP d_M_copy_56 ?_
  refine lv_iconst (v := 2) hx hb d_M_copy_59 (by decide) ?_
  refine lv_iload_n hx hb d_M_copy_60 rfl (lv_at hl 3 rfl) ?_
  refine xa_imul hx hb 2 f rfl rfl d_M_copy_61 ?_
  refine xm_l0 hx hb hK hP (2 * f) rfl (by omega) d_M_copy_62 ?_
  refine lv_iload_n hx hb d_M_copy_63 rfl (lv_at hl 0 rfl) ?_
  refine xc_callv (n := 3) (C := "TagMemoryModel") hx hb hml hown hts (c_M_changes l D G kc _ _ (2 * g) (by omega) _ _ ht1 (by exact hI1)) (tb_V wm_418 wm_420 ws_22 wm_2 wm_421) rfl rfl rfl (by decide +kernel) ⟨Nat.le_of_ble_eq_true rfl, Nat.le_of_ble_eq_true rfl⟩ hK hP hD hS hA rfl rfl rfl rfl hl.1 rfl (Nat.le_of_ble_eq_true rfl) d_M_copy_64 ⟨Nat.zero_le _, Nat.zero_le _⟩ (fun u1 H locs hw hP hD hS => ?_)
  rw [hw] at hP hD; clear hw u1
  refine lv_aload_n hx hb d_M_copy_67 rfl (lv_at hl 1 rfl) ?_
  refine lv_iconst (v := 2) hx hb d_M_copy_68 (by decide) ?_
  refine lv_iload_n hx hb d_M_copy_69 rfl (lv_at hl 2 rfl) ?_
  refine xa_imul hx hb 2 g rfl rfl d_M_copy_70 ?_
  refine lv_iconst (v := 1) hx hb d_M_copy_71 (by decide) ?_
  refine xa_iadd hx hb (2 * g) 1 rfl rfl d_M_copy_72 ?_
  refine lv_aload_n hx hb d_M_copy_73 rfl (lv_at hl 1 rfl) ?_
  refine xm_g0 hx hb hts hown hK hP d_M_copy_74 ?_
  refine lv_iconst (v := 2) hx hb d_M_copy_77 (by decide) ?_
  refine lv_iload_n hx hb d_M_copy_78 rfl (lv_at hl 3 rfl) ?_
  refine xa_imul hx hb 2 f rfl rfl d_M_copy_79 ?_
  refine lv_iconst (v := 1) hx hb d_M_copy_80 (by decide) ?_
  refine xa_iadd hx hb (2 * f) 1 rfl rfl d_M_copy_81 ?_
  refine xm_l0 hx hb hK hP ((2 * f) + 1) rfl (by omega) d_M_copy_82 ?_
  refine lv_iload_n hx hb d_M_copy_83 rfl (lv_at hl 0 rfl) ?_
  refine xc_callv (n := 3) (C := "TagMemoryModel") hx hb hml hown hts (c_M_changes l D G kc _ _ ((2 * g) + 1) (by omega) _ _ ht1 (by exact hI2)) (tb_V wm_418 wm_420 ws_22 wm_2 wm_421) rfl rfl rfl (by decide +kernel) ⟨Nat.le_of_ble_eq_true rfl, Nat.le_of_ble_eq_true rfl⟩ hK hP hD hS hA rfl rfl rfl rfl hl.1 rfl (Nat.le_of_ble_eq_true rfl) d_M_copy_84 ⟨Nat.zero_le _, Nat.zero_le _⟩ (fun u1 H locs hw hP hD hS => ?_)
  rw [hw] at hP hD; clear hw u1
  refine lv_iload_n hx hb d_M_copy_87 rfl (lv_at hl 0 rfl) ?_
  exact xc_zret hx hb hr hlocks ht1 hP hK hD hS ⟨rfl, rfl⟩ d_M_copy_88
set_option maxHeartbeats 4000000 in
set_option maxRecDepth 100000 in
theorem c_M_drop (l : Launch) (D : va_G) (G : Nat → Nat) (kc : Nat → ClassId) (sz : Nat) (u : TM) (q : Nat) (hq : q < 16) (hI : mI u) : XMi l y_M_drop k_M_drop { frames := 3, cells := 0, slots := 0, locals := 67 } D vwCl (wM G kc) (tyMs kc) u sz [.ref (G 0), .int (nI q)] (fun r u1 => r = (if mLn u q = -1 then -1 else rmLineGo (nTh u 0) q) ∧ u1 = (if mLn u q = -1 then nTh u 0 else gLineGo (nTh u 0) q)) := by
  refine xb_ofi (cc := b_M_drop) (maxL := 2) (ret := some .int) (by decide) rfl (Nat.le_of_ble_eq_true rfl) ?_
  intro p e s m below meth c A ls hsz hx hb hml hr hlocks hts hown hP hK hD hA hl
  have hl : lv_has ls 2 [(0, .ref (G 0)), (1, .int (nI q))] := hl
  have hS : va_S A s.heap s.heap [] := va_S.rf
  by_cases h1 : mLn u q = -1
  · skip
    refine lv_aload_n hx hb d_M_drop_0 rfl (lv_at hl 0 rfl) ?_
    refine lv_iload_n hx hb d_M_drop_1 rfl (lv_at hl 1 rfl) ?_
    refine lv_if_lt (tgt := 11) hx hb d_M_drop_2 (by decide) (fun c9 => absurd c9 (nI_pos (by omega))) (fun _ => ?_)
    refine lv_iload_n hx hb d_M_drop_5 rfl (lv_at hl 1 rfl) ?_
    refine lv_bipush (v := 15) hx hb d_M_drop_6 (by decide) ?_
    refine lv_icmp_le (tgt := 15) hx hb d_M_drop_8 (by decide) (fun _ => ?_) (fun c9 => absurd (nI_le (a := q) (b := 15) (by omega) (by decide)) c9)
    refine lv_iconst (v := 0) hx hb d_M_drop_15 (by decide) ?_
    refine lv_iconst (v := 1) hx hb d_M_drop_16 (by decide) ?_
    refine xc_calli (n := 2) (C := "TagMemoryModel") hx hb hml hown hts (c_M_bad l D G kc _ _ _ _ (Or.inl rfl)) (tb_V wm_390 wm_392 ws_17 wm_2 wm_393) rfl rfl rfl (by decide +kernel) ⟨Nat.le_of_ble_eq_true rfl, Nat.le_of_ble_eq_true rfl⟩ hK hP hD hS hA rfl rfl rfl rfl hl.1 rfl (Nat.le_of_ble_eq_true rfl) d_M_drop_17 ⟨Nat.zero_le _, Nat.zero_le _⟩ (fun r u1 H locs hw hP hD hS => ?_)
    obtain ⟨e1, e2⟩ := hw
    subst e1
    rw [e2] at hP hD; clear e2 u1
    have hP : va_P D vwCl (wM G kc (nTh u 0)) H := hP
    have hD : va_D A (wM G kc (nTh u 0)) := hD
    refine lv_if_eq (tgt := 25) hx hb d_M_drop_20 (by decide) (fun _ => ?_) (fun c9 => absurd rfl c9)
    refine lv_aload_n hx hb d_M_drop_25 rfl (lv_at hl 0 rfl) ?_
    refine xm_g4 hx hb hts hown hK hP d_M_drop_26 ?_
    refine lv_iload_n hx hb d_M_drop_29 rfl (lv_at hl 1 rfl) ?_
    refine xm_l4 hx hb hK hP q rfl (by omega) d_M_drop_30 ?_
    refine lv_if_ge (tgt := 36) hx hb d_M_drop_31 (by decide) (fun c9 => absurd c9 (by rw [show mLn (nTh u 0) q = -1 from h1]; decide)) (fun _ => ?_)
    refine lv_iconst (v := (-1)) hx hb d_M_drop_34 (by decide) ?_
    exact xc_iret hx hb hr hlocks hP hK hD hS ⟨by rw [if_pos h1], by rw [if_pos h1]⟩ d_M_drop_35
  · obtain ⟨n, hn, hnq, hn1⟩ : ∃ n, n < 512 ∧ n % 16 = q ∧ mLn u q = nI n := (hI.2.1 q hq).resolve_left h1
    by_cases h2 : rmLineGo (nTh u 0) q = 0
    · skip
      refine lv_aload_n hx hb d_M_drop_0 rfl (lv_at hl 0 rfl) ?_
      refine lv_iload_n hx hb d_M_drop_1 rfl (lv_at hl 1 rfl) ?_
      refine lv_if_lt (tgt := 11) hx hb d_M_drop_2 (by decide) (fun c9 => absurd c9 (nI_pos (by omega))) (fun _ => ?_)
      refine lv_iload_n hx hb d_M_drop_5 rfl (lv_at hl 1 rfl) ?_
      refine lv_bipush (v := 15) hx hb d_M_drop_6 (by decide) ?_
      refine lv_icmp_le (tgt := 15) hx hb d_M_drop_8 (by decide) (fun _ => ?_) (fun c9 => absurd (nI_le (a := q) (b := 15) (by omega) (by decide)) c9)
      refine lv_iconst (v := 0) hx hb d_M_drop_15 (by decide) ?_
      refine lv_iconst (v := 1) hx hb d_M_drop_16 (by decide) ?_
      refine xc_calli (n := 2) (C := "TagMemoryModel") hx hb hml hown hts (c_M_bad l D G kc _ _ _ _ (Or.inl rfl)) (tb_V wm_390 wm_392 ws_17 wm_2 wm_393) rfl rfl rfl (by decide +kernel) ⟨Nat.le_of_ble_eq_true rfl, Nat.le_of_ble_eq_true rfl⟩ hK hP hD hS hA rfl rfl rfl rfl hl.1 rfl (Nat.le_of_ble_eq_true rfl) d_M_drop_17 ⟨Nat.zero_le _, Nat.zero_le _⟩ (fun r u1 H locs hw hP hD hS => ?_)
      obtain ⟨e1, e2⟩ := hw
      subst e1
      rw [e2] at hP hD; clear e2 u1
      have hP : va_P D vwCl (wM G kc (nTh u 0)) H := hP
      have hD : va_D A (wM G kc (nTh u 0)) := hD
      refine lv_if_eq (tgt := 25) hx hb d_M_drop_20 (by decide) (fun _ => ?_) (fun c9 => absurd rfl c9)
      refine lv_aload_n hx hb d_M_drop_25 rfl (lv_at hl 0 rfl) ?_
      refine xm_g4 hx hb hts hown hK hP d_M_drop_26 ?_
      refine lv_iload_n hx hb d_M_drop_29 rfl (lv_at hl 1 rfl) ?_
      refine xm_l4 hx hb hK hP q rfl (by omega) d_M_drop_30 ?_
      refine lv_if_ge (tgt := 36) hx hb d_M_drop_31 (by decide) (fun _ => ?_) (fun c9 => absurd (by rw [show mLn (nTh u 0) q = nI n from hn1]; exact nI_pos' (by omega)) c9)
      refine lv_aload_n hx hb d_M_drop_36 rfl (lv_at hl 0 rfl) ?_
      refine lv_iload_n hx hb d_M_drop_37 rfl (lv_at hl 1 rfl) ?_
      refine xc_calli (n := 1) (C := "TagMemoryModel") hx hb hml hown hts (c_M_lineGoes l D G kc _ _ q (by omega) (by exact hI)) (tb_V wm_398 wm_400 ws_19 wm_2 wm_401) rfl rfl rfl (by decide +kernel) ⟨Nat.le_of_ble_eq_true rfl, Nat.le_of_ble_eq_true rfl⟩ hK hP hD hS hA rfl rfl rfl rfl hl.1 rfl (Nat.le_of_ble_eq_true rfl) d_M_drop_38 ⟨Nat.zero_le _, Nat.zero_le _⟩ (fun r u1 H locs hw hP hD hS => ?_)
      obtain ⟨e1, e2⟩ := hw
      subst e1
      rw [e2] at hP hD; clear e2 u1
      refine lv_if_eq (tgt := 48) hx hb d_M_drop_41 (by decide) (fun _ => ?_) (fun c9 => absurd h2 c9)
      refine lv_iconst (v := 0) hx hb d_M_drop_48 (by decide) ?_
      exact xc_iret hx hb hr hlocks hP hK hD hS ⟨by rw [if_neg h1, h2], by rw [if_neg h1]⟩ d_M_drop_49
    · have h3 : rmLineGo (nTh u 0) q = 1 := (rmLineGo_01 (nTh u 0) q).resolve_left h2
      refine lv_aload_n hx hb d_M_drop_0 rfl (lv_at hl 0 rfl) ?_
      refine lv_iload_n hx hb d_M_drop_1 rfl (lv_at hl 1 rfl) ?_
      refine lv_if_lt (tgt := 11) hx hb d_M_drop_2 (by decide) (fun c9 => absurd c9 (nI_pos (by omega))) (fun _ => ?_)
      refine lv_iload_n hx hb d_M_drop_5 rfl (lv_at hl 1 rfl) ?_
      refine lv_bipush (v := 15) hx hb d_M_drop_6 (by decide) ?_
      refine lv_icmp_le (tgt := 15) hx hb d_M_drop_8 (by decide) (fun _ => ?_) (fun c9 => absurd (nI_le (a := q) (b := 15) (by omega) (by decide)) c9)
      refine lv_iconst (v := 0) hx hb d_M_drop_15 (by decide) ?_
      refine lv_iconst (v := 1) hx hb d_M_drop_16 (by decide) ?_
      refine xc_calli (n := 2) (C := "TagMemoryModel") hx hb hml hown hts (c_M_bad l D G kc _ _ _ _ (Or.inl rfl)) (tb_V wm_390 wm_392 ws_17 wm_2 wm_393) rfl rfl rfl (by decide +kernel) ⟨Nat.le_of_ble_eq_true rfl, Nat.le_of_ble_eq_true rfl⟩ hK hP hD hS hA rfl rfl rfl rfl hl.1 rfl (Nat.le_of_ble_eq_true rfl) d_M_drop_17 ⟨Nat.zero_le _, Nat.zero_le _⟩ (fun r u1 H locs hw hP hD hS => ?_)
      obtain ⟨e1, e2⟩ := hw
      subst e1
      rw [e2] at hP hD; clear e2 u1
      have hP : va_P D vwCl (wM G kc (nTh u 0)) H := hP
      have hD : va_D A (wM G kc (nTh u 0)) := hD
      refine lv_if_eq (tgt := 25) hx hb d_M_drop_20 (by decide) (fun _ => ?_) (fun c9 => absurd rfl c9)
      refine lv_aload_n hx hb d_M_drop_25 rfl (lv_at hl 0 rfl) ?_
      refine xm_g4 hx hb hts hown hK hP d_M_drop_26 ?_
      refine lv_iload_n hx hb d_M_drop_29 rfl (lv_at hl 1 rfl) ?_
      refine xm_l4 hx hb hK hP q rfl (by omega) d_M_drop_30 ?_
      refine lv_if_ge (tgt := 36) hx hb d_M_drop_31 (by decide) (fun _ => ?_) (fun c9 => absurd (by rw [show mLn (nTh u 0) q = nI n from hn1]; exact nI_pos' (by omega)) c9)
      refine lv_aload_n hx hb d_M_drop_36 rfl (lv_at hl 0 rfl) ?_
      refine lv_iload_n hx hb d_M_drop_37 rfl (lv_at hl 1 rfl) ?_
      refine xc_calli (n := 1) (C := "TagMemoryModel") hx hb hml hown hts (c_M_lineGoes l D G kc _ _ q (by omega) (by exact hI)) (tb_V wm_398 wm_400 ws_19 wm_2 wm_401) rfl rfl rfl (by decide +kernel) ⟨Nat.le_of_ble_eq_true rfl, Nat.le_of_ble_eq_true rfl⟩ hK hP hD hS hA rfl rfl rfl rfl hl.1 rfl (Nat.le_of_ble_eq_true rfl) d_M_drop_38 ⟨Nat.zero_le _, Nat.zero_le _⟩ (fun r u1 H locs hw hP hD hS => ?_)
      obtain ⟨e1, e2⟩ := hw
      subst e1
      rw [e2] at hP hD; clear e2 u1
      refine lv_if_eq (tgt := 48) hx hb d_M_drop_41 (by decide) (fun c9 => absurd c9 h2) (fun _ => ?_)
      refine lv_iconst (v := 1) hx hb d_M_drop_44 (by decide) ?_
      refine lv_goto (tgt := 49) hx hb d_M_drop_45 (by decide) ?_
      exact xc_iret hx hb hr hlocks hP hK hD hS ⟨by rw [if_neg h1, h3], by rw [if_neg h1]⟩ d_M_drop_49
set_option maxHeartbeats 4000000 in
set_option maxRecDepth 100000 in
theorem c_M_store (l : Launch) (D : va_G) (G : Nat → Nat) (kc : Nat → ClassId) (sz : Nat) (u : TM) (i : Nat) (hi : i < 2080) : XMi l y_M_store k_M_store { frames := 1, cells := 0, slots := 0, locals := 22 } D vwCl (wM G kc) (tyMs kc) u sz [.ref (G 0), .int (nI i)] (fun r u1 => r = mSo u i ∧ u1 = nTh u 0) := by
  refine xb_ofi (cc := b_M_store) (maxL := 2) (ret := some .int) (by decide) rfl (Nat.le_of_ble_eq_true rfl) ?_
  intro p e s m below meth c A ls hsz hx hb hml hr hlocks hts hown hP hK hD hA hl
  have hl : lv_has ls 2 [(0, .ref (G 0)), (1, .int (nI i))] := hl
  have hS : va_S A s.heap s.heap [] := va_S.rf
  refine lv_aload_n hx hb d_M_store_0 rfl (lv_at hl 0 rfl) ?_
  refine lv_iload_n hx hb d_M_store_1 rfl (lv_at hl 1 rfl) ?_
  refine lv_if_lt (tgt := 12) hx hb d_M_store_2 (by decide) (fun c9 => absurd c9 (nI_pos (by omega))) (fun _ => ?_)
  refine lv_iload_n hx hb d_M_store_5 rfl (lv_at hl 1 rfl) ?_
  refine lv_sipush (v := 2079) hx hb d_M_store_6 (by decide) ?_
  refine lv_icmp_le (tgt := 16) hx hb d_M_store_9 (by decide) (fun _ => ?_) (fun c9 => absurd (nI_le (a := i) (b := 2079) (by omega) (by decide)) c9)
  refine lv_iconst (v := 0) hx hb d_M_store_16 (by decide) ?_
  refine lv_iconst (v := 1) hx hb d_M_store_17 (by decide) ?_
  refine xc_calli (n := 2) (C := "TagMemoryModel") hx hb hml hown hts (c_M_bad l D G kc _ _ _ _ (Or.inl rfl)) (tb_V wm_390 wm_392 ws_17 wm_2 wm_393) rfl rfl rfl (by decide +kernel) ⟨Nat.le_of_ble_eq_true rfl, Nat.le_of_ble_eq_true rfl⟩ hK hP hD hS hA rfl rfl rfl rfl hl.1 rfl (Nat.le_of_ble_eq_true rfl) d_M_store_18 ⟨Nat.zero_le _, Nat.zero_le _⟩ (fun r u1 H locs hw hP hD hS => ?_)
  obtain ⟨e1, e2⟩ := hw
  subst e1
  rw [e2] at hP hD; clear e2 u1
  have hP : va_P D vwCl (wM G kc (nTh u 0)) H := hP
  have hD : va_D A (wM G kc (nTh u 0)) := hD
  refine lv_if_eq (tgt := 28) hx hb d_M_store_21 (by decide) (fun _ => ?_) (fun c9 => absurd rfl c9)
  refine lv_aload_n hx hb d_M_store_28 rfl (lv_at hl 0 rfl) ?_
  refine xm_g2 hx hb hts hown hK hP d_M_store_29 ?_
  refine lv_iload_n hx hb d_M_store_32 rfl (lv_at hl 1 rfl) ?_
  refine xm_l2 hx hb hK hP i rfl (by omega) d_M_store_33 ?_
  exact xc_iret hx hb hr hlocks hP hK hD hS ⟨rfl, rfl⟩ d_M_store_34
set_option maxHeartbeats 4000000 in
set_option maxRecDepth 100000 in
theorem c_M_kept (l : Launch) (D : va_G) (G : Nat → Nat) (kc : Nat → ClassId) (sz : Nat) (u : TM) (q : Nat) (hq : q < 20) : XMi l y_M_kept k_M_kept { frames := 1, cells := 0, slots := 0, locals := 22 } D vwCl (wM G kc) (tyMs kc) u sz [.ref (G 0), .int (nI q)] (fun r u1 => r = (if q < 16 then mLn u q else mKr u (q - 16)) ∧ u1 = nTh u 0) := by
  refine xb_ofi (cc := b_M_kept) (maxL := 2) (ret := some .int) (by decide) rfl (Nat.le_of_ble_eq_true rfl) ?_
  intro p e s m below meth c A ls hsz hx hb hml hr hlocks hts hown hP hK hD hA hl
  have hl : lv_has ls 2 [(0, .ref (G 0)), (1, .int (nI q))] := hl
  have hS : va_S A s.heap s.heap [] := va_S.rf
  by_cases h1 : q < 16
  · skip
    refine lv_aload_n hx hb d_M_kept_0 rfl (lv_at hl 0 rfl) ?_
    refine lv_iload_n hx hb d_M_kept_1 rfl (lv_at hl 1 rfl) ?_
    refine lv_if_lt (tgt := 11) hx hb d_M_kept_2 (by decide) (fun c9 => absurd c9 (nI_pos (by omega))) (fun _ => ?_)
    refine lv_iload_n hx hb d_M_kept_5 rfl (lv_at hl 1 rfl) ?_
    refine lv_bipush (v := 19) hx hb d_M_kept_6 (by decide) ?_
    refine lv_icmp_le (tgt := 15) hx hb d_M_kept_8 (by decide) (fun _ => ?_) (fun c9 => absurd (nI_le (a := q) (b := 19) (by omega) (by decide)) c9)
    refine lv_iconst (v := 0) hx hb d_M_kept_15 (by decide) ?_
    refine lv_iconst (v := 1) hx hb d_M_kept_16 (by decide) ?_
    refine xc_calli (n := 2) (C := "TagMemoryModel") hx hb hml hown hts (c_M_bad l D G kc _ _ _ _ (Or.inl rfl)) (tb_V wm_390 wm_392 ws_17 wm_2 wm_393) rfl rfl rfl (by decide +kernel) ⟨Nat.le_of_ble_eq_true rfl, Nat.le_of_ble_eq_true rfl⟩ hK hP hD hS hA rfl rfl rfl rfl hl.1 rfl (Nat.le_of_ble_eq_true rfl) d_M_kept_17 ⟨Nat.zero_le _, Nat.zero_le _⟩ (fun r u1 H locs hw hP hD hS => ?_)
    obtain ⟨e1, e2⟩ := hw
    subst e1
    rw [e2] at hP hD; clear e2 u1
    have hP : va_P D vwCl (wM G kc (nTh u 0)) H := hP
    have hD : va_D A (wM G kc (nTh u 0)) := hD
    refine lv_if_eq (tgt := 27) hx hb d_M_kept_20 (by decide) (fun _ => ?_) (fun c9 => absurd rfl c9)
    refine lv_iload_n hx hb d_M_kept_27 rfl (lv_at hl 1 rfl) ?_
    refine lv_bipush (v := 16) hx hb d_M_kept_28 (by decide) ?_
    refine lv_icmp_ge (tgt := 42) hx hb d_M_kept_30 (by decide) (fun c9 => absurd c9 (nI_ge (a := q) (b := 16) (by omega) (by omega))) (fun _ => ?_)
    refine lv_aload_n hx hb d_M_kept_33 rfl (lv_at hl 0 rfl) ?_
    refine xm_g4 hx hb hts hown hK hP d_M_kept_34 ?_
    refine lv_iload_n hx hb d_M_kept_37 rfl (lv_at hl 1 rfl) ?_
    refine xm_l4 hx hb hK hP q rfl (by omega) d_M_kept_38 ?_
    refine lv_goto (tgt := 51) hx hb d_M_kept_39 (by decide) ?_
    exact xc_iret hx hb hr hlocks hP hK hD hS ⟨by rw [if_pos h1]; rfl, rfl⟩ d_M_kept_51
  · skip
    refine lv_aload_n hx hb d_M_kept_0 rfl (lv_at hl 0 rfl) ?_
    refine lv_iload_n hx hb d_M_kept_1 rfl (lv_at hl 1 rfl) ?_
    refine lv_if_lt (tgt := 11) hx hb d_M_kept_2 (by decide) (fun c9 => absurd c9 (nI_pos (by omega))) (fun _ => ?_)
    refine lv_iload_n hx hb d_M_kept_5 rfl (lv_at hl 1 rfl) ?_
    refine lv_bipush (v := 19) hx hb d_M_kept_6 (by decide) ?_
    refine lv_icmp_le (tgt := 15) hx hb d_M_kept_8 (by decide) (fun _ => ?_) (fun c9 => absurd (nI_le (a := q) (b := 19) (by omega) (by decide)) c9)
    refine lv_iconst (v := 0) hx hb d_M_kept_15 (by decide) ?_
    refine lv_iconst (v := 1) hx hb d_M_kept_16 (by decide) ?_
    refine xc_calli (n := 2) (C := "TagMemoryModel") hx hb hml hown hts (c_M_bad l D G kc _ _ _ _ (Or.inl rfl)) (tb_V wm_390 wm_392 ws_17 wm_2 wm_393) rfl rfl rfl (by decide +kernel) ⟨Nat.le_of_ble_eq_true rfl, Nat.le_of_ble_eq_true rfl⟩ hK hP hD hS hA rfl rfl rfl rfl hl.1 rfl (Nat.le_of_ble_eq_true rfl) d_M_kept_17 ⟨Nat.zero_le _, Nat.zero_le _⟩ (fun r u1 H locs hw hP hD hS => ?_)
    obtain ⟨e1, e2⟩ := hw
    subst e1
    rw [e2] at hP hD; clear e2 u1
    have hP : va_P D vwCl (wM G kc (nTh u 0)) H := hP
    have hD : va_D A (wM G kc (nTh u 0)) := hD
    refine lv_if_eq (tgt := 27) hx hb d_M_kept_20 (by decide) (fun _ => ?_) (fun c9 => absurd rfl c9)
    refine lv_iload_n hx hb d_M_kept_27 rfl (lv_at hl 1 rfl) ?_
    refine lv_bipush (v := 16) hx hb d_M_kept_28 (by decide) ?_
    refine lv_icmp_ge (tgt := 42) hx hb d_M_kept_30 (by decide) (fun _ => ?_) (fun c9 => absurd (nI_le (a := 16) (b := q) (by omega) (by omega)) c9)
    refine lv_aload_n hx hb d_M_kept_42 rfl (lv_at hl 0 rfl) ?_
    refine xm_g6 hx hb hts hown hK hP d_M_kept_43 ?_
    refine lv_iload_n hx hb d_M_kept_46 rfl (lv_at hl 1 rfl) ?_
    refine lv_bipush (v := 16) hx hb d_M_kept_47 (by decide) ?_
    refine xa_isub hx hb q 16 rfl rfl (by omega) d_M_kept_49 ?_
    refine xm_l6 hx hb hK hP (q - 16) rfl (by omega) d_M_kept_50 ?_
    exact xc_iret hx hb hr hlocks hP hK hD hS ⟨by rw [if_neg h1]; rfl, rfl⟩ d_M_kept_51
set_option maxHeartbeats 4000000 in
set_option maxRecDepth 100000 in
theorem c_M_check (l : Launch) (D : va_G) (G : Nat → Nat) (kc : Nat → ClassId) (sz : Nat) (u : TM)  : XMi l y_M_check k_M_check { frames := 0, cells := 0, slots := 0, locals := 0 } D vwCl (wM G kc) (tyMs kc) u sz [.ref (G 0)] (fun r u1 => r = 0 ∧ u1 = nTh u 0) := by
  refine xb_ofi (cc := b_M_check) (maxL := 1) (ret := some .int) (by decide) rfl (Nat.le_of_ble_eq_true rfl) ?_
  intro p e s m below meth c A ls hsz hx hb hml hr hlocks hts hown hP hK hD hA hl
  have hl : lv_has ls 1 [(0, .ref (G 0))] := hl
  have hS : va_S A s.heap s.heap [] := va_S.rf
  refine lv_aload_n hx hb d_M_check_0 rfl (lv_at hl 0 rfl) ?_
  refine lv_iconst (v := 0) hx hb d_M_check_1 (by decide) ?_
  refine xm_p9 hx hb hts hown hK hP hD hS d_M_check_2 (fun H locs hP hD hS => ?_)
  refine lv_iconst (v := 0) hx hb d_M_check_5 (by decide) ?_
  exact xc_iret hx hb hr hlocks hP hK hD hS ⟨rfl, rfl⟩ d_M_check_6
set_option maxHeartbeats 4000000 in
set_option maxRecDepth 100000 in
theorem x_M_read (l : Launch) (D : va_G) (G : Nat → Nat) (kc : Nat → ClassId) (sz : Nat) (u : TM) (x : Int32) (hbad : xbad 2048 x) : XMi l y_M_read k_M_read { frames := 1, cells := 0, slots := 0, locals := 22 } D vwCl (wM G kc) (tyMs kc) u sz [.ref (G 0), .int x] (fun r u1 => r = 0 ∧ u1 = nTh u 1) := by
  refine xb_ofi (cc := b_M_read) (maxL := 2) (ret := some .int) (by decide) rfl (Nat.le_of_ble_eq_true rfl) ?_
  intro p e s m below meth c A ls hsz hx hb hml hr hlocks hts hown hP hK hD hA hl
  have hl : lv_has ls 2 [(0, .ref (G 0)), (1, .int x)] := hl
  have hS : va_S A s.heap s.heap [] := va_S.rf
  rcases hbad with h1 | ⟨h1, h2⟩
  · skip
    refine lv_aload_n hx hb d_M_read_0 rfl (lv_at hl 0 rfl) ?_
    refine lv_iload_n hx hb d_M_read_1 rfl (lv_at hl 1 rfl) ?_
    refine lv_if_lt (tgt := 12) hx hb d_M_read_2 (by decide) (fun _ => ?_) (fun c9 => absurd h1 c9)
    refine lv_iconst (v := 1) hx hb d_M_read_12 (by decide) ?_
    refine lv_goto (tgt := 17) hx hb d_M_read_13 (by decide) ?_
    refine lv_iconst (v := 1) hx hb d_M_read_17 (by decide) ?_
    refine xc_calli (n := 2) (C := "TagMemoryModel") hx hb hml hown hts (c_M_bad l D G kc _ _ _ _ (Or.inr rfl)) (tb_V wm_390 wm_392 ws_17 wm_2 wm_393) rfl rfl rfl (by decide +kernel) ⟨Nat.le_of_ble_eq_true rfl, Nat.le_of_ble_eq_true rfl⟩ hK hP hD hS hA rfl rfl rfl rfl hl.1 rfl (Nat.le_of_ble_eq_true rfl) d_M_read_18 ⟨Nat.zero_le _, Nat.zero_le _⟩ (fun r u1 H locs hw hP hD hS => ?_)
    obtain ⟨e1, e2⟩ := hw
    subst e1
    rw [e2] at hP hD; clear e2 u1
    have hP : va_P D vwCl (wM G kc (nTh u 1)) H := hP
    have hD : va_D A (wM G kc (nTh u 1)) := hD
    refine lv_if_eq (tgt := 26) hx hb d_M_read_21 (by decide) (fun c9 => absurd c9 (by decide)) (fun _ => ?_)
    refine lv_iconst (v := 0) hx hb d_M_read_24 (by decide) ?_
    exact xc_iret hx hb hr hlocks hP hK hD hS ⟨rfl, rfl⟩ d_M_read_25
  · skip
    refine lv_aload_n hx hb d_M_read_0 rfl (lv_at hl 0 rfl) ?_
    refine lv_iload_n hx hb d_M_read_1 rfl (lv_at hl 1 rfl) ?_
    refine lv_if_lt (tgt := 12) hx hb d_M_read_2 (by decide) (fun c9 => absurd c9 h1) (fun _ => ?_)
    refine lv_iload_n hx hb d_M_read_5 rfl (lv_at hl 1 rfl) ?_
    refine lv_sipush (v := 2047) hx hb d_M_read_6 (by decide) ?_
    refine lv_icmp_le (tgt := 16) hx hb d_M_read_9 (by decide) (fun c9 => absurd (show x ≤ nI 2047 from c9) (xbad_le (by decide) h2)) (fun _ => ?_)
    refine lv_iconst (v := 1) hx hb d_M_read_12 (by decide) ?_
    refine lv_goto (tgt := 17) hx hb d_M_read_13 (by decide) ?_
    refine lv_iconst (v := 1) hx hb d_M_read_17 (by decide) ?_
    refine xc_calli (n := 2) (C := "TagMemoryModel") hx hb hml hown hts (c_M_bad l D G kc _ _ _ _ (Or.inr rfl)) (tb_V wm_390 wm_392 ws_17 wm_2 wm_393) rfl rfl rfl (by decide +kernel) ⟨Nat.le_of_ble_eq_true rfl, Nat.le_of_ble_eq_true rfl⟩ hK hP hD hS hA rfl rfl rfl rfl hl.1 rfl (Nat.le_of_ble_eq_true rfl) d_M_read_18 ⟨Nat.zero_le _, Nat.zero_le _⟩ (fun r u1 H locs hw hP hD hS => ?_)
    obtain ⟨e1, e2⟩ := hw
    subst e1
    rw [e2] at hP hD; clear e2 u1
    have hP : va_P D vwCl (wM G kc (nTh u 1)) H := hP
    have hD : va_D A (wM G kc (nTh u 1)) := hD
    refine lv_if_eq (tgt := 26) hx hb d_M_read_21 (by decide) (fun c9 => absurd c9 (by decide)) (fun _ => ?_)
    refine lv_iconst (v := 0) hx hb d_M_read_24 (by decide) ?_
    exact xc_iret hx hb hr hlocks hP hK hD hS ⟨rfl, rfl⟩ d_M_read_25
set_option maxHeartbeats 4000000 in
set_option maxRecDepth 100000 in
theorem x_M_tag (l : Launch) (D : va_G) (G : Nat → Nat) (kc : Nat → ClassId) (sz : Nat) (u : TM) (x : Int32) (hbad : xbad 2048 x) : XMi l y_M_tag k_M_tag { frames := 1, cells := 0, slots := 0, locals := 22 } D vwCl (wM G kc) (tyMs kc) u sz [.ref (G 0), .int x] (fun r u1 => r = 0 ∧ u1 = nTh u 1) := by
  refine xb_ofi (cc := b_M_tag) (maxL := 2) (ret := some .boolean) (by decide) rfl (Nat.le_of_ble_eq_true rfl) ?_
  intro p e s m below meth c A ls hsz hx hb hml hr hlocks hts hown hP hK hD hA hl
  have hl : lv_has ls 2 [(0, .ref (G 0)), (1, .int x)] := hl
  have hS : va_S A s.heap s.heap [] := va_S.rf
  rcases hbad with h1 | ⟨h1, h2⟩
  · skip
    refine lv_aload_n hx hb d_M_tag_0 rfl (lv_at hl 0 rfl) ?_
    refine lv_iload_n hx hb d_M_tag_1 rfl (lv_at hl 1 rfl) ?_
    refine lv_if_lt (tgt := 12) hx hb d_M_tag_2 (by decide) (fun _ => ?_) (fun c9 => absurd h1 c9)
    refine lv_iconst (v := 1) hx hb d_M_tag_12 (by decide) ?_
    refine lv_goto (tgt := 17) hx hb d_M_tag_13 (by decide) ?_
    refine lv_iconst (v := 1) hx hb d_M_tag_17 (by decide) ?_
    refine xc_calli (n := 2) (C := "TagMemoryModel") hx hb hml hown hts (c_M_bad l D G kc _ _ _ _ (Or.inr rfl)) (tb_V wm_390 wm_392 ws_17 wm_2 wm_393) rfl rfl rfl (by decide +kernel) ⟨Nat.le_of_ble_eq_true rfl, Nat.le_of_ble_eq_true rfl⟩ hK hP hD hS hA rfl rfl rfl rfl hl.1 rfl (Nat.le_of_ble_eq_true rfl) d_M_tag_18 ⟨Nat.zero_le _, Nat.zero_le _⟩ (fun r u1 H locs hw hP hD hS => ?_)
    obtain ⟨e1, e2⟩ := hw
    subst e1
    rw [e2] at hP hD; clear e2 u1
    have hP : va_P D vwCl (wM G kc (nTh u 1)) H := hP
    have hD : va_D A (wM G kc (nTh u 1)) := hD
    refine lv_if_eq (tgt := 26) hx hb d_M_tag_21 (by decide) (fun c9 => absurd c9 (by decide)) (fun _ => ?_)
    refine lv_iconst (v := 0) hx hb d_M_tag_24 (by decide) ?_
    exact xc_zret hx hb hr hlocks (Or.inl rfl) hP hK hD hS ⟨rfl, rfl⟩ d_M_tag_25
  · skip
    refine lv_aload_n hx hb d_M_tag_0 rfl (lv_at hl 0 rfl) ?_
    refine lv_iload_n hx hb d_M_tag_1 rfl (lv_at hl 1 rfl) ?_
    refine lv_if_lt (tgt := 12) hx hb d_M_tag_2 (by decide) (fun c9 => absurd c9 h1) (fun _ => ?_)
    refine lv_iload_n hx hb d_M_tag_5 rfl (lv_at hl 1 rfl) ?_
    refine lv_sipush (v := 2047) hx hb d_M_tag_6 (by decide) ?_
    refine lv_icmp_le (tgt := 16) hx hb d_M_tag_9 (by decide) (fun c9 => absurd (show x ≤ nI 2047 from c9) (xbad_le (by decide) h2)) (fun _ => ?_)
    refine lv_iconst (v := 1) hx hb d_M_tag_12 (by decide) ?_
    refine lv_goto (tgt := 17) hx hb d_M_tag_13 (by decide) ?_
    refine lv_iconst (v := 1) hx hb d_M_tag_17 (by decide) ?_
    refine xc_calli (n := 2) (C := "TagMemoryModel") hx hb hml hown hts (c_M_bad l D G kc _ _ _ _ (Or.inr rfl)) (tb_V wm_390 wm_392 ws_17 wm_2 wm_393) rfl rfl rfl (by decide +kernel) ⟨Nat.le_of_ble_eq_true rfl, Nat.le_of_ble_eq_true rfl⟩ hK hP hD hS hA rfl rfl rfl rfl hl.1 rfl (Nat.le_of_ble_eq_true rfl) d_M_tag_18 ⟨Nat.zero_le _, Nat.zero_le _⟩ (fun r u1 H locs hw hP hD hS => ?_)
    obtain ⟨e1, e2⟩ := hw
    subst e1
    rw [e2] at hP hD; clear e2 u1
    have hP : va_P D vwCl (wM G kc (nTh u 1)) H := hP
    have hD : va_D A (wM G kc (nTh u 1)) := hD
    refine lv_if_eq (tgt := 26) hx hb d_M_tag_21 (by decide) (fun c9 => absurd c9 (by decide)) (fun _ => ?_)
    refine lv_iconst (v := 0) hx hb d_M_tag_24 (by decide) ?_
    exact xc_zret hx hb hr hlocks (Or.inl rfl) hP hK hD hS ⟨rfl, rfl⟩ d_M_tag_25
set_option maxHeartbeats 4000000 in
set_option maxRecDepth 100000 in
theorem x_M_write (l : Launch) (D : va_G) (G : Nat → Nat) (kc : Nat → ClassId) (sz : Nat) (u : TM) (x w : Int32) (hbad : xbad 2048 x) : XMi l y_M_write k_M_write { frames := 1, cells := 0, slots := 0, locals := 22 } D vwCl (wM G kc) (tyMs kc) u sz [.ref (G 0), .int x, .int w] (fun r u1 => r = 0 ∧ u1 = nTh u 1) := by
  refine xb_ofi (cc := b_M_write) (maxL := 4) (ret := some .int) (by decide) rfl (Nat.le_of_ble_eq_true rfl) ?_
  intro p e s m below meth c A ls hsz hx hb hml hr hlocks hts hown hP hK hD hA hl
  have hl : lv_has ls 4 [(0, .ref (G 0)), (1, .int x), (2, .int w)] := hl
  have hS : va_S A s.heap s.heap [] := va_S.rf
  rcases hbad with h1 | ⟨h1, h2⟩
  · skip
    refine lv_aload_n hx hb d_M_write_0 rfl (lv_at hl 0 rfl) ?_
    refine lv_iload_n hx hb d_M_write_1 rfl (lv_at hl 1 rfl) ?_
    refine lv_if_lt (tgt := 12) hx hb d_M_write_2 (by decide) (fun _ => ?_) (fun c9 => absurd h1 c9)
    refine lv_iconst (v := 1) hx hb d_M_write_12 (by decide) ?_
    refine lv_goto (tgt := 17) hx hb d_M_write_13 (by decide) ?_
    refine lv_iconst (v := 1) hx hb d_M_write_17 (by decide) ?_
    refine xc_calli (n := 2) (C := "TagMemoryModel") hx hb hml hown hts (c_M_bad l D G kc _ _ _ _ (Or.inr rfl)) (tb_V wm_390 wm_392 ws_17 wm_2 wm_393) rfl rfl rfl (by decide +kernel) ⟨Nat.le_of_ble_eq_true rfl, Nat.le_of_ble_eq_true rfl⟩ hK hP hD hS hA rfl rfl rfl rfl hl.1 rfl (Nat.le_of_ble_eq_true rfl) d_M_write_18 ⟨Nat.zero_le _, Nat.zero_le _⟩ (fun r u1 H locs hw hP hD hS => ?_)
    obtain ⟨e1, e2⟩ := hw
    subst e1
    rw [e2] at hP hD; clear e2 u1
    have hP : va_P D vwCl (wM G kc (nTh u 1)) H := hP
    have hD : va_D A (wM G kc (nTh u 1)) := hD
    refine lv_if_eq (tgt := 26) hx hb d_M_write_21 (by decide) (fun c9 => absurd c9 (by decide)) (fun _ => ?_)
    refine lv_iconst (v := 0) hx hb d_M_write_24 (by decide) ?_
    exact xc_iret hx hb hr hlocks hP hK hD hS ⟨rfl, rfl⟩ d_M_write_25
  · skip
    refine lv_aload_n hx hb d_M_write_0 rfl (lv_at hl 0 rfl) ?_
    refine lv_iload_n hx hb d_M_write_1 rfl (lv_at hl 1 rfl) ?_
    refine lv_if_lt (tgt := 12) hx hb d_M_write_2 (by decide) (fun c9 => absurd c9 h1) (fun _ => ?_)
    refine lv_iload_n hx hb d_M_write_5 rfl (lv_at hl 1 rfl) ?_
    refine lv_sipush (v := 2047) hx hb d_M_write_6 (by decide) ?_
    refine lv_icmp_le (tgt := 16) hx hb d_M_write_9 (by decide) (fun c9 => absurd (show x ≤ nI 2047 from c9) (xbad_le (by decide) h2)) (fun _ => ?_)
    refine lv_iconst (v := 1) hx hb d_M_write_12 (by decide) ?_
    refine lv_goto (tgt := 17) hx hb d_M_write_13 (by decide) ?_
    refine lv_iconst (v := 1) hx hb d_M_write_17 (by decide) ?_
    refine xc_calli (n := 2) (C := "TagMemoryModel") hx hb hml hown hts (c_M_bad l D G kc _ _ _ _ (Or.inr rfl)) (tb_V wm_390 wm_392 ws_17 wm_2 wm_393) rfl rfl rfl (by decide +kernel) ⟨Nat.le_of_ble_eq_true rfl, Nat.le_of_ble_eq_true rfl⟩ hK hP hD hS hA rfl rfl rfl rfl hl.1 rfl (Nat.le_of_ble_eq_true rfl) d_M_write_18 ⟨Nat.zero_le _, Nat.zero_le _⟩ (fun r u1 H locs hw hP hD hS => ?_)
    obtain ⟨e1, e2⟩ := hw
    subst e1
    rw [e2] at hP hD; clear e2 u1
    have hP : va_P D vwCl (wM G kc (nTh u 1)) H := hP
    have hD : va_D A (wM G kc (nTh u 1)) := hD
    refine lv_if_eq (tgt := 26) hx hb d_M_write_21 (by decide) (fun c9 => absurd c9 (by decide)) (fun _ => ?_)
    refine lv_iconst (v := 0) hx hb d_M_write_24 (by decide) ?_
    exact xc_iret hx hb hr hlocks hP hK hD hS ⟨rfl, rfl⟩ d_M_write_25
set_option maxHeartbeats 4000000 in
set_option maxRecDepth 100000 in
theorem x_M_put (l : Launch) (D : va_G) (G : Nat → Nat) (kc : Nat → ClassId) (sz : Nat) (u : TM) (x lo hi t : Int32) (hbad : xbad 1024 x) : XMv l y_M_put k_M_put { frames := 1, cells := 0, slots := 0, locals := 22 } D vwCl (wM G kc) (tyMs kc) u sz [.ref (G 0), .int x, .int lo, .int hi, .int t] (fun u1 => u1 = nTh u 1) := by
  refine xb_ofv (cc := b_M_put) (maxL := 5) (ret := none) (by decide) rfl (Nat.le_of_ble_eq_true rfl) ?_
  intro p e s m below meth c A ls hsz hx hb hml hr hlocks hts hown hP hK hD hA hl
  have hl : lv_has ls 5 [(0, .ref (G 0)), (1, .int x), (2, .int lo), (3, .int hi), (4, .int t)] := hl
  have hS : va_S A s.heap s.heap [] := va_S.rf
  rcases hbad with h1 | ⟨h1, h2⟩
  · skip
    refine lv_aload_n hx hb d_M_put_0 rfl (lv_at hl 0 rfl) ?_
    refine lv_iload_n hx hb d_M_put_1 rfl (lv_at hl 1 rfl) ?_
    refine lv_if_lt (tgt := 12) hx hb d_M_put_2 (by decide) (fun _ => ?_) (fun c9 => absurd h1 c9)
    refine lv_iconst (v := 1) hx hb d_M_put_12 (by decide) ?_
    refine lv_goto (tgt := 17) hx hb d_M_put_13 (by decide) ?_
    refine lv_iconst (v := 1) hx hb d_M_put_17 (by decide) ?_
    refine xc_calli (n := 2) (C := "TagMemoryModel") hx hb hml hown hts (c_M_bad l D G kc _ _ _ _ (Or.inr rfl)) (tb_V wm_390 wm_392 ws_17 wm_2 wm_393) rfl rfl rfl (by decide +kernel) ⟨Nat.le_of_ble_eq_true rfl, Nat.le_of_ble_eq_true rfl⟩ hK hP hD hS hA rfl rfl rfl rfl hl.1 rfl (Nat.le_of_ble_eq_true rfl) d_M_put_18 ⟨Nat.zero_le _, Nat.zero_le _⟩ (fun r u1 H locs hw hP hD hS => ?_)
    obtain ⟨e1, e2⟩ := hw
    subst e1
    rw [e2] at hP hD; clear e2 u1
    have hP : va_P D vwCl (wM G kc (nTh u 1)) H := hP
    have hD : va_D A (wM G kc (nTh u 1)) := hD
    refine lv_if_eq (tgt := 25) hx hb d_M_put_21 (by decide) (fun c9 => absurd c9 (by decide)) (fun _ => ?_)
    exact xc_vret hx hb hr hlocks hP hK hD hS rfl d_M_put_24
  · skip
    refine lv_aload_n hx hb d_M_put_0 rfl (lv_at hl 0 rfl) ?_
    refine lv_iload_n hx hb d_M_put_1 rfl (lv_at hl 1 rfl) ?_
    refine lv_if_lt (tgt := 12) hx hb d_M_put_2 (by decide) (fun c9 => absurd c9 h1) (fun _ => ?_)
    refine lv_iload_n hx hb d_M_put_5 rfl (lv_at hl 1 rfl) ?_
    refine lv_sipush (v := 1023) hx hb d_M_put_6 (by decide) ?_
    refine lv_icmp_le (tgt := 16) hx hb d_M_put_9 (by decide) (fun c9 => absurd (show x ≤ nI 1023 from c9) (xbad_le (by decide) h2)) (fun _ => ?_)
    refine lv_iconst (v := 1) hx hb d_M_put_12 (by decide) ?_
    refine lv_goto (tgt := 17) hx hb d_M_put_13 (by decide) ?_
    refine lv_iconst (v := 1) hx hb d_M_put_17 (by decide) ?_
    refine xc_calli (n := 2) (C := "TagMemoryModel") hx hb hml hown hts (c_M_bad l D G kc _ _ _ _ (Or.inr rfl)) (tb_V wm_390 wm_392 ws_17 wm_2 wm_393) rfl rfl rfl (by decide +kernel) ⟨Nat.le_of_ble_eq_true rfl, Nat.le_of_ble_eq_true rfl⟩ hK hP hD hS hA rfl rfl rfl rfl hl.1 rfl (Nat.le_of_ble_eq_true rfl) d_M_put_18 ⟨Nat.zero_le _, Nat.zero_le _⟩ (fun r u1 H locs hw hP hD hS => ?_)
    obtain ⟨e1, e2⟩ := hw
    subst e1
    rw [e2] at hP hD; clear e2 u1
    have hP : va_P D vwCl (wM G kc (nTh u 1)) H := hP
    have hD : va_D A (wM G kc (nTh u 1)) := hD
    refine lv_if_eq (tgt := 25) hx hb d_M_put_21 (by decide) (fun c9 => absurd c9 (by decide)) (fun _ => ?_)
    exact xc_vret hx hb hr hlocks hP hK hD hS rfl d_M_put_24
set_option maxHeartbeats 4000000 in
set_option maxRecDepth 100000 in
theorem x_M_drop (l : Launch) (D : va_G) (G : Nat → Nat) (kc : Nat → ClassId) (sz : Nat) (u : TM) (x : Int32) (hbad : xbad 16 x) : XMi l y_M_drop k_M_drop { frames := 1, cells := 0, slots := 0, locals := 22 } D vwCl (wM G kc) (tyMs kc) u sz [.ref (G 0), .int x] (fun r u1 => r = 0 ∧ u1 = nTh u 1) := by
  refine xb_ofi (cc := b_M_drop) (maxL := 2) (ret := some .int) (by decide) rfl (Nat.le_of_ble_eq_true rfl) ?_
  intro p e s m below meth c A ls hsz hx hb hml hr hlocks hts hown hP hK hD hA hl
  have hl : lv_has ls 2 [(0, .ref (G 0)), (1, .int x)] := hl
  have hS : va_S A s.heap s.heap [] := va_S.rf
  rcases hbad with h1 | ⟨h1, h2⟩
  · skip
    refine lv_aload_n hx hb d_M_drop_0 rfl (lv_at hl 0 rfl) ?_
    refine lv_iload_n hx hb d_M_drop_1 rfl (lv_at hl 1 rfl) ?_
    refine lv_if_lt (tgt := 11) hx hb d_M_drop_2 (by decide) (fun _ => ?_) (fun c9 => absurd h1 c9)
    refine lv_iconst (v := 1) hx hb d_M_drop_11 (by decide) ?_
    refine lv_goto (tgt := 16) hx hb d_M_drop_12 (by decide) ?_
    refine lv_iconst (v := 1) hx hb d_M_drop_16 (by decide) ?_
    refine xc_calli (n := 2) (C := "TagMemoryModel") hx hb hml hown hts (c_M_bad l D G kc _ _ _ _ (Or.inr rfl)) (tb_V wm_390 wm_392 ws_17 wm_2 wm_393) rfl rfl rfl (by decide +kernel) ⟨Nat.le_of_ble_eq_true rfl, Nat.le_of_ble_eq_true rfl⟩ hK hP hD hS hA rfl rfl rfl rfl hl.1 rfl (Nat.le_of_ble_eq_true rfl) d_M_drop_17 ⟨Nat.zero_le _, Nat.zero_le _⟩ (fun r u1 H locs hw hP hD hS => ?_)
    obtain ⟨e1, e2⟩ := hw
    subst e1
    rw [e2] at hP hD; clear e2 u1
    have hP : va_P D vwCl (wM G kc (nTh u 1)) H := hP
    have hD : va_D A (wM G kc (nTh u 1)) := hD
    refine lv_if_eq (tgt := 25) hx hb d_M_drop_20 (by decide) (fun c9 => absurd c9 (by decide)) (fun _ => ?_)
    refine lv_iconst (v := 0) hx hb d_M_drop_23 (by decide) ?_
    exact xc_iret hx hb hr hlocks hP hK hD hS ⟨rfl, rfl⟩ d_M_drop_24
  · skip
    refine lv_aload_n hx hb d_M_drop_0 rfl (lv_at hl 0 rfl) ?_
    refine lv_iload_n hx hb d_M_drop_1 rfl (lv_at hl 1 rfl) ?_
    refine lv_if_lt (tgt := 11) hx hb d_M_drop_2 (by decide) (fun c9 => absurd c9 h1) (fun _ => ?_)
    refine lv_iload_n hx hb d_M_drop_5 rfl (lv_at hl 1 rfl) ?_
    refine lv_bipush (v := 15) hx hb d_M_drop_6 (by decide) ?_
    refine lv_icmp_le (tgt := 15) hx hb d_M_drop_8 (by decide) (fun c9 => absurd (show x ≤ nI 15 from c9) (xbad_le (by decide) h2)) (fun _ => ?_)
    refine lv_iconst (v := 1) hx hb d_M_drop_11 (by decide) ?_
    refine lv_goto (tgt := 16) hx hb d_M_drop_12 (by decide) ?_
    refine lv_iconst (v := 1) hx hb d_M_drop_16 (by decide) ?_
    refine xc_calli (n := 2) (C := "TagMemoryModel") hx hb hml hown hts (c_M_bad l D G kc _ _ _ _ (Or.inr rfl)) (tb_V wm_390 wm_392 ws_17 wm_2 wm_393) rfl rfl rfl (by decide +kernel) ⟨Nat.le_of_ble_eq_true rfl, Nat.le_of_ble_eq_true rfl⟩ hK hP hD hS hA rfl rfl rfl rfl hl.1 rfl (Nat.le_of_ble_eq_true rfl) d_M_drop_17 ⟨Nat.zero_le _, Nat.zero_le _⟩ (fun r u1 H locs hw hP hD hS => ?_)
    obtain ⟨e1, e2⟩ := hw
    subst e1
    rw [e2] at hP hD; clear e2 u1
    have hP : va_P D vwCl (wM G kc (nTh u 1)) H := hP
    have hD : va_D A (wM G kc (nTh u 1)) := hD
    refine lv_if_eq (tgt := 25) hx hb d_M_drop_20 (by decide) (fun c9 => absurd c9 (by decide)) (fun _ => ?_)
    refine lv_iconst (v := 0) hx hb d_M_drop_23 (by decide) ?_
    exact xc_iret hx hb hr hlocks hP hK hD hS ⟨rfl, rfl⟩ d_M_drop_24
set_option maxHeartbeats 4000000 in
set_option maxRecDepth 100000 in
theorem x_M_store (l : Launch) (D : va_G) (G : Nat → Nat) (kc : Nat → ClassId) (sz : Nat) (u : TM) (x : Int32) (hbad : xbad 2080 x) : XMi l y_M_store k_M_store { frames := 1, cells := 0, slots := 0, locals := 22 } D vwCl (wM G kc) (tyMs kc) u sz [.ref (G 0), .int x] (fun r u1 => r = 0 ∧ u1 = nTh u 1) := by
  refine xb_ofi (cc := b_M_store) (maxL := 2) (ret := some .int) (by decide) rfl (Nat.le_of_ble_eq_true rfl) ?_
  intro p e s m below meth c A ls hsz hx hb hml hr hlocks hts hown hP hK hD hA hl
  have hl : lv_has ls 2 [(0, .ref (G 0)), (1, .int x)] := hl
  have hS : va_S A s.heap s.heap [] := va_S.rf
  rcases hbad with h1 | ⟨h1, h2⟩
  · skip
    refine lv_aload_n hx hb d_M_store_0 rfl (lv_at hl 0 rfl) ?_
    refine lv_iload_n hx hb d_M_store_1 rfl (lv_at hl 1 rfl) ?_
    refine lv_if_lt (tgt := 12) hx hb d_M_store_2 (by decide) (fun _ => ?_) (fun c9 => absurd h1 c9)
    refine lv_iconst (v := 1) hx hb d_M_store_12 (by decide) ?_
    refine lv_goto (tgt := 17) hx hb d_M_store_13 (by decide) ?_
    refine lv_iconst (v := 1) hx hb d_M_store_17 (by decide) ?_
    refine xc_calli (n := 2) (C := "TagMemoryModel") hx hb hml hown hts (c_M_bad l D G kc _ _ _ _ (Or.inr rfl)) (tb_V wm_390 wm_392 ws_17 wm_2 wm_393) rfl rfl rfl (by decide +kernel) ⟨Nat.le_of_ble_eq_true rfl, Nat.le_of_ble_eq_true rfl⟩ hK hP hD hS hA rfl rfl rfl rfl hl.1 rfl (Nat.le_of_ble_eq_true rfl) d_M_store_18 ⟨Nat.zero_le _, Nat.zero_le _⟩ (fun r u1 H locs hw hP hD hS => ?_)
    obtain ⟨e1, e2⟩ := hw
    subst e1
    rw [e2] at hP hD; clear e2 u1
    have hP : va_P D vwCl (wM G kc (nTh u 1)) H := hP
    have hD : va_D A (wM G kc (nTh u 1)) := hD
    refine lv_if_eq (tgt := 28) hx hb d_M_store_21 (by decide) (fun c9 => absurd c9 (by decide)) (fun _ => ?_)
    refine lv_iconst (v := 0) hx hb d_M_store_24 (by decide) ?_
    refine lv_goto (tgt := 34) hx hb d_M_store_25 (by decide) ?_
    exact xc_iret hx hb hr hlocks hP hK hD hS ⟨rfl, rfl⟩ d_M_store_34
  · skip
    refine lv_aload_n hx hb d_M_store_0 rfl (lv_at hl 0 rfl) ?_
    refine lv_iload_n hx hb d_M_store_1 rfl (lv_at hl 1 rfl) ?_
    refine lv_if_lt (tgt := 12) hx hb d_M_store_2 (by decide) (fun c9 => absurd c9 h1) (fun _ => ?_)
    refine lv_iload_n hx hb d_M_store_5 rfl (lv_at hl 1 rfl) ?_
    refine lv_sipush (v := 2079) hx hb d_M_store_6 (by decide) ?_
    refine lv_icmp_le (tgt := 16) hx hb d_M_store_9 (by decide) (fun c9 => absurd (show x ≤ nI 2079 from c9) (xbad_le (by decide) h2)) (fun _ => ?_)
    refine lv_iconst (v := 1) hx hb d_M_store_12 (by decide) ?_
    refine lv_goto (tgt := 17) hx hb d_M_store_13 (by decide) ?_
    refine lv_iconst (v := 1) hx hb d_M_store_17 (by decide) ?_
    refine xc_calli (n := 2) (C := "TagMemoryModel") hx hb hml hown hts (c_M_bad l D G kc _ _ _ _ (Or.inr rfl)) (tb_V wm_390 wm_392 ws_17 wm_2 wm_393) rfl rfl rfl (by decide +kernel) ⟨Nat.le_of_ble_eq_true rfl, Nat.le_of_ble_eq_true rfl⟩ hK hP hD hS hA rfl rfl rfl rfl hl.1 rfl (Nat.le_of_ble_eq_true rfl) d_M_store_18 ⟨Nat.zero_le _, Nat.zero_le _⟩ (fun r u1 H locs hw hP hD hS => ?_)
    obtain ⟨e1, e2⟩ := hw
    subst e1
    rw [e2] at hP hD; clear e2 u1
    have hP : va_P D vwCl (wM G kc (nTh u 1)) H := hP
    have hD : va_D A (wM G kc (nTh u 1)) := hD
    refine lv_if_eq (tgt := 28) hx hb d_M_store_21 (by decide) (fun c9 => absurd c9 (by decide)) (fun _ => ?_)
    refine lv_iconst (v := 0) hx hb d_M_store_24 (by decide) ?_
    refine lv_goto (tgt := 34) hx hb d_M_store_25 (by decide) ?_
    exact xc_iret hx hb hr hlocks hP hK hD hS ⟨rfl, rfl⟩ d_M_store_34
set_option maxHeartbeats 4000000 in
set_option maxRecDepth 100000 in
theorem x_M_kept (l : Launch) (D : va_G) (G : Nat → Nat) (kc : Nat → ClassId) (sz : Nat) (u : TM) (x : Int32) (hbad : xbad 20 x) : XMi l y_M_kept k_M_kept { frames := 1, cells := 0, slots := 0, locals := 22 } D vwCl (wM G kc) (tyMs kc) u sz [.ref (G 0), .int x] (fun r u1 => r = 0 ∧ u1 = nTh u 1) := by
  refine xb_ofi (cc := b_M_kept) (maxL := 2) (ret := some .int) (by decide) rfl (Nat.le_of_ble_eq_true rfl) ?_
  intro p e s m below meth c A ls hsz hx hb hml hr hlocks hts hown hP hK hD hA hl
  have hl : lv_has ls 2 [(0, .ref (G 0)), (1, .int x)] := hl
  have hS : va_S A s.heap s.heap [] := va_S.rf
  rcases hbad with h1 | ⟨h1, h2⟩
  · skip
    refine lv_aload_n hx hb d_M_kept_0 rfl (lv_at hl 0 rfl) ?_
    refine lv_iload_n hx hb d_M_kept_1 rfl (lv_at hl 1 rfl) ?_
    refine lv_if_lt (tgt := 11) hx hb d_M_kept_2 (by decide) (fun _ => ?_) (fun c9 => absurd h1 c9)
    refine lv_iconst (v := 1) hx hb d_M_kept_11 (by decide) ?_
    refine lv_goto (tgt := 16) hx hb d_M_kept_12 (by decide) ?_
    refine lv_iconst (v := 1) hx hb d_M_kept_16 (by decide) ?_
    refine xc_calli (n := 2) (C := "TagMemoryModel") hx hb hml hown hts (c_M_bad l D G kc _ _ _ _ (Or.inr rfl)) (tb_V wm_390 wm_392 ws_17 wm_2 wm_393) rfl rfl rfl (by decide +kernel) ⟨Nat.le_of_ble_eq_true rfl, Nat.le_of_ble_eq_true rfl⟩ hK hP hD hS hA rfl rfl rfl rfl hl.1 rfl (Nat.le_of_ble_eq_true rfl) d_M_kept_17 ⟨Nat.zero_le _, Nat.zero_le _⟩ (fun r u1 H locs hw hP hD hS => ?_)
    obtain ⟨e1, e2⟩ := hw
    subst e1
    rw [e2] at hP hD; clear e2 u1
    have hP : va_P D vwCl (wM G kc (nTh u 1)) H := hP
    have hD : va_D A (wM G kc (nTh u 1)) := hD
    refine lv_if_eq (tgt := 27) hx hb d_M_kept_20 (by decide) (fun c9 => absurd c9 (by decide)) (fun _ => ?_)
    refine lv_iconst (v := 0) hx hb d_M_kept_23 (by decide) ?_
    refine lv_goto (tgt := 51) hx hb d_M_kept_24 (by decide) ?_
    exact xc_iret hx hb hr hlocks hP hK hD hS ⟨rfl, rfl⟩ d_M_kept_51
  · skip
    refine lv_aload_n hx hb d_M_kept_0 rfl (lv_at hl 0 rfl) ?_
    refine lv_iload_n hx hb d_M_kept_1 rfl (lv_at hl 1 rfl) ?_
    refine lv_if_lt (tgt := 11) hx hb d_M_kept_2 (by decide) (fun c9 => absurd c9 h1) (fun _ => ?_)
    refine lv_iload_n hx hb d_M_kept_5 rfl (lv_at hl 1 rfl) ?_
    refine lv_bipush (v := 19) hx hb d_M_kept_6 (by decide) ?_
    refine lv_icmp_le (tgt := 15) hx hb d_M_kept_8 (by decide) (fun c9 => absurd (show x ≤ nI 19 from c9) (xbad_le (by decide) h2)) (fun _ => ?_)
    refine lv_iconst (v := 1) hx hb d_M_kept_11 (by decide) ?_
    refine lv_goto (tgt := 16) hx hb d_M_kept_12 (by decide) ?_
    refine lv_iconst (v := 1) hx hb d_M_kept_16 (by decide) ?_
    refine xc_calli (n := 2) (C := "TagMemoryModel") hx hb hml hown hts (c_M_bad l D G kc _ _ _ _ (Or.inr rfl)) (tb_V wm_390 wm_392 ws_17 wm_2 wm_393) rfl rfl rfl (by decide +kernel) ⟨Nat.le_of_ble_eq_true rfl, Nat.le_of_ble_eq_true rfl⟩ hK hP hD hS hA rfl rfl rfl rfl hl.1 rfl (Nat.le_of_ble_eq_true rfl) d_M_kept_17 ⟨Nat.zero_le _, Nat.zero_le _⟩ (fun r u1 H locs hw hP hD hS => ?_)
    obtain ⟨e1, e2⟩ := hw
    subst e1
    rw [e2] at hP hD; clear e2 u1
    have hP : va_P D vwCl (wM G kc (nTh u 1)) H := hP
    have hD : va_D A (wM G kc (nTh u 1)) := hD
    refine lv_if_eq (tgt := 27) hx hb d_M_kept_20 (by decide) (fun c9 => absurd c9 (by decide)) (fun _ => ?_)
    refine lv_iconst (v := 0) hx hb d_M_kept_23 (by decide) ?_
    refine lv_goto (tgt := 51) hx hb d_M_kept_24 (by decide) ?_
    exact xc_iret hx hb hr hlocks hP hK hD hS ⟨rfl, rfl⟩ d_M_kept_51
set_option maxHeartbeats 4000000 in
set_option maxRecDepth 100000 in
theorem x_M_count (l : Launch) (D : va_G) (G : Nat → Nat) (kc : Nat → ClassId) (sz : Nat) (u : TM) (x : Int32) (hbad : xbad 9 x) : XMi l y_M_count k_M_count { frames := 1, cells := 0, slots := 0, locals := 22 } D vwCl (wM G kc) (tyMs kc) u sz [.ref (G 0), .int x] (fun r u1 => r = 0 ∧ u1 = nTh u 1) := by
  refine xb_ofi (cc := b_M_count) (maxL := 4) (ret := some .int) (by decide) rfl (Nat.le_of_ble_eq_true rfl) ?_
  intro p e s m below meth c A ls hsz hx hb hml hr hlocks hts hown hP hK hD hA hl
  have hl : lv_has ls 4 [(0, .ref (G 0)), (1, .int x)] := hl
  have hS : va_S A s.heap s.heap [] := va_S.rf
  rcases hbad with h1 | ⟨h1, h2⟩
  · skip
    refine lv_aload_n hx hb d_M_count_0 rfl (lv_at hl 0 rfl) ?_
    refine lv_iload_n hx hb d_M_count_1 rfl (lv_at hl 1 rfl) ?_
    refine lv_if_lt (tgt := 11) hx hb d_M_count_2 (by decide) (fun _ => ?_) (fun c9 => absurd h1 c9)
    refine lv_iconst (v := 1) hx hb d_M_count_11 (by decide) ?_
    refine lv_goto (tgt := 16) hx hb d_M_count_12 (by decide) ?_
    refine lv_iconst (v := 1) hx hb d_M_count_16 (by decide) ?_
    refine xc_calli (n := 2) (C := "TagMemoryModel") hx hb hml hown hts (c_M_bad l D G kc _ _ _ _ (Or.inr rfl)) (tb_V wm_390 wm_392 ws_17 wm_2 wm_393) rfl rfl rfl (by decide +kernel) ⟨Nat.le_of_ble_eq_true rfl, Nat.le_of_ble_eq_true rfl⟩ hK hP hD hS hA rfl rfl rfl rfl hl.1 rfl (Nat.le_of_ble_eq_true rfl) d_M_count_17 ⟨Nat.zero_le _, Nat.zero_le _⟩ (fun r u1 H locs hw hP hD hS => ?_)
    obtain ⟨e1, e2⟩ := hw
    subst e1
    rw [e2] at hP hD; clear e2 u1
    have hP : va_P D vwCl (wM G kc (nTh u 1)) H := hP
    have hD : va_D A (wM G kc (nTh u 1)) := hD
    refine lv_if_eq (tgt := 25) hx hb d_M_count_20 (by decide) (fun c9 => absurd c9 (by decide)) (fun _ => ?_)
    refine lv_iconst (v := 0) hx hb d_M_count_23 (by decide) ?_
    exact xc_iret hx hb hr hlocks hP hK hD hS ⟨rfl, rfl⟩ d_M_count_24
  · skip
    refine lv_aload_n hx hb d_M_count_0 rfl (lv_at hl 0 rfl) ?_
    refine lv_iload_n hx hb d_M_count_1 rfl (lv_at hl 1 rfl) ?_
    refine lv_if_lt (tgt := 11) hx hb d_M_count_2 (by decide) (fun c9 => absurd c9 h1) (fun _ => ?_)
    refine lv_iload_n hx hb d_M_count_5 rfl (lv_at hl 1 rfl) ?_
    refine lv_bipush (v := 8) hx hb d_M_count_6 (by decide) ?_
    refine lv_icmp_le (tgt := 15) hx hb d_M_count_8 (by decide) (fun c9 => absurd (show x ≤ nI 8 from c9) (xbad_le (by decide) h2)) (fun _ => ?_)
    refine lv_iconst (v := 1) hx hb d_M_count_11 (by decide) ?_
    refine lv_goto (tgt := 16) hx hb d_M_count_12 (by decide) ?_
    refine lv_iconst (v := 1) hx hb d_M_count_16 (by decide) ?_
    refine xc_calli (n := 2) (C := "TagMemoryModel") hx hb hml hown hts (c_M_bad l D G kc _ _ _ _ (Or.inr rfl)) (tb_V wm_390 wm_392 ws_17 wm_2 wm_393) rfl rfl rfl (by decide +kernel) ⟨Nat.le_of_ble_eq_true rfl, Nat.le_of_ble_eq_true rfl⟩ hK hP hD hS hA rfl rfl rfl rfl hl.1 rfl (Nat.le_of_ble_eq_true rfl) d_M_count_17 ⟨Nat.zero_le _, Nat.zero_le _⟩ (fun r u1 H locs hw hP hD hS => ?_)
    obtain ⟨e1, e2⟩ := hw
    subst e1
    rw [e2] at hP hD; clear e2 u1
    have hP : va_P D vwCl (wM G kc (nTh u 1)) H := hP
    have hD : va_D A (wM G kc (nTh u 1)) := hD
    refine lv_if_eq (tgt := 25) hx hb d_M_count_20 (by decide) (fun c9 => absurd c9 (by decide)) (fun _ => ?_)
    refine lv_iconst (v := 0) hx hb d_M_count_23 (by decide) ?_
    exact xc_iret hx hb hr hlocks hP hK hD hS ⟨rfl, rfl⟩ d_M_count_24
set_option maxHeartbeats 4000000 in
set_option maxRecDepth 100000 in
theorem x_M_part (l : Launch) (D : va_G) (G : Nat → Nat) (kc : Nat → ClassId) (sz : Nat) (u : TM) (x j n v : Int32) (hbad : xbad 2048 x) : XMi l y_M_part k_M_part { frames := 1, cells := 0, slots := 0, locals := 22 } D vwCl (wM G kc) (tyMs kc) u sz [.ref (G 0), .int x, .int j, .int n, .int v] (fun r u1 => r = 0 ∧ u1 = nTh u 1) := by
  refine xb_ofi (cc := b_M_part) (maxL := 6) (ret := some .int) (by decide) rfl (Nat.le_of_ble_eq_true rfl) ?_
  intro p e s m below meth c A ls hsz hx hb hml hr hlocks hts hown hP hK hD hA hl
  have hl : lv_has ls 6 [(0, .ref (G 0)), (1, .int x), (2, .int j), (3, .int n), (4, .int v)] := hl
  have hS : va_S A s.heap s.heap [] := va_S.rf
  rcases hbad with h1 | ⟨h1, h2⟩
  · skip
    refine lv_aload_n hx hb d_M_part_0 rfl (lv_at hl 0 rfl) ?_
    refine lv_iload_n hx hb d_M_part_1 rfl (lv_at hl 1 rfl) ?_
    refine lv_if_lt (tgt := 12) hx hb d_M_part_2 (by decide) (fun _ => ?_) (fun c9 => absurd h1 c9)
    refine lv_iconst (v := 1) hx hb d_M_part_12 (by decide) ?_
    refine lv_goto (tgt := 17) hx hb d_M_part_13 (by decide) ?_
    refine lv_iconst (v := 1) hx hb d_M_part_17 (by decide) ?_
    refine xc_calli (n := 2) (C := "TagMemoryModel") hx hb hml hown hts (c_M_bad l D G kc _ _ _ _ (Or.inr rfl)) (tb_V wm_390 wm_392 ws_17 wm_2 wm_393) rfl rfl rfl (by decide +kernel) ⟨Nat.le_of_ble_eq_true rfl, Nat.le_of_ble_eq_true rfl⟩ hK hP hD hS hA rfl rfl rfl rfl hl.1 rfl (Nat.le_of_ble_eq_true rfl) d_M_part_18 ⟨Nat.zero_le _, Nat.zero_le _⟩ (fun r u1 H locs hw hP hD hS => ?_)
    obtain ⟨e1, e2⟩ := hw
    subst e1
    rw [e2] at hP hD; clear e2 u1
    have hP : va_P D vwCl (wM G kc (nTh u 1)) H := hP
    have hD : va_D A (wM G kc (nTh u 1)) := hD
    refine lv_if_ne (tgt := 62) hx hb d_M_part_21 (by decide) (fun _ => ?_) (fun c9 => absurd c9 (by decide))
    refine lv_iconst (v := 0) hx hb d_M_part_62 (by decide) ?_
    exact xc_iret hx hb hr hlocks hP hK hD hS ⟨rfl, rfl⟩ d_M_part_63
  · skip
    refine lv_aload_n hx hb d_M_part_0 rfl (lv_at hl 0 rfl) ?_
    refine lv_iload_n hx hb d_M_part_1 rfl (lv_at hl 1 rfl) ?_
    refine lv_if_lt (tgt := 12) hx hb d_M_part_2 (by decide) (fun c9 => absurd c9 h1) (fun _ => ?_)
    refine lv_iload_n hx hb d_M_part_5 rfl (lv_at hl 1 rfl) ?_
    refine lv_sipush (v := 2047) hx hb d_M_part_6 (by decide) ?_
    refine lv_icmp_le (tgt := 16) hx hb d_M_part_9 (by decide) (fun c9 => absurd (show x ≤ nI 2047 from c9) (xbad_le (by decide) h2)) (fun _ => ?_)
    refine lv_iconst (v := 1) hx hb d_M_part_12 (by decide) ?_
    refine lv_goto (tgt := 17) hx hb d_M_part_13 (by decide) ?_
    refine lv_iconst (v := 1) hx hb d_M_part_17 (by decide) ?_
    refine xc_calli (n := 2) (C := "TagMemoryModel") hx hb hml hown hts (c_M_bad l D G kc _ _ _ _ (Or.inr rfl)) (tb_V wm_390 wm_392 ws_17 wm_2 wm_393) rfl rfl rfl (by decide +kernel) ⟨Nat.le_of_ble_eq_true rfl, Nat.le_of_ble_eq_true rfl⟩ hK hP hD hS hA rfl rfl rfl rfl hl.1 rfl (Nat.le_of_ble_eq_true rfl) d_M_part_18 ⟨Nat.zero_le _, Nat.zero_le _⟩ (fun r u1 H locs hw hP hD hS => ?_)
    obtain ⟨e1, e2⟩ := hw
    subst e1
    rw [e2] at hP hD; clear e2 u1
    have hP : va_P D vwCl (wM G kc (nTh u 1)) H := hP
    have hD : va_D A (wM G kc (nTh u 1)) := hD
    refine lv_if_ne (tgt := 62) hx hb d_M_part_21 (by decide) (fun _ => ?_) (fun c9 => absurd c9 (by decide))
    refine lv_iconst (v := 0) hx hb d_M_part_62 (by decide) ?_
    exact xc_iret hx hb hr hlocks hP hK hD hS ⟨rfl, rfl⟩ d_M_part_63
end
section
def pbad (a n : Int32) : Prop := n < 1 ∨ (¬ n < 1 ∧ 2 < n) ∨ ∃ k : Nat, (k = 1 ∨ k = 2) ∧ n = nI k ∧ (a < 0 ∨ (¬ a < 0 ∧ 3 < a) ∨ ∃ j : Nat, j < 4 ∧ a = nI j ∧ j % k ≠ 0)
def cbad (g f : Int32) : Prop := xbad 1024 f ∨ ∃ k : Nat, k < 1024 ∧ f = nI k ∧ xbad 1024 g
set_option maxHeartbeats 4000000 in
set_option maxRecDepth 100000 in
theorem x_M_copy (l : Launch) (D : va_G) (G : Nat → Nat) (kc : Nat → ClassId) (sz : Nat) (u : TM) (x y : Int32) (hbad : cbad x y) : XMi l y_M_copy k_M_copy { frames := 1, cells := 0, slots := 0, locals := 22 } D vwCl (wM G kc) (tyMs kc) u sz [.ref (G 0), .int x, .int y] (fun r u1 => r = 0 ∧ u1 = nTh u 1) := by
  rcases hbad with h | ⟨k, hk, rfl, h⟩
  · rcases h with h1 | ⟨h1, h2⟩
    · skip
      refine xb_ofi (cc := b_M_copy) (maxL := 4) (ret := some .boolean) (by decide) rfl (Nat.le_of_ble_eq_true rfl) ?_
      intro p e s m below meth c A ls hsz hx hb hml hr hlocks hts hown hP hK hD hA hl
      have hl : lv_has ls 4 [(0, .ref (G 0)), (1, .int x), (2, .int y)] := hl
      have hS : va_S A s.heap s.heap [] := va_S.rf
      refine lv_aload_n hx hb d_M_copy_0 rfl (lv_at hl 0 rfl) ?_
      refine lv_iload_n hx hb d_M_copy_1 rfl (lv_at hl 2 rfl) ?_
      refine lv_if_lt (tgt := 23) hx hb d_M_copy_2 (by decide) (fun _ => ?_) (fun c9 => absurd h1 c9)
      refine lv_iconst (v := 1) hx hb d_M_copy_23 (by decide) ?_
      refine lv_goto (tgt := 28) hx hb d_M_copy_24 (by decide) ?_
      refine lv_iconst (v := 1) hx hb d_M_copy_28 (by decide) ?_
      refine xc_calli (n := 2) (C := "TagMemoryModel") hx hb hml hown hts (c_M_bad l D G kc _ _ _ _ (Or.inr rfl)) (tb_V wm_390 wm_392 ws_17 wm_2 wm_393) rfl rfl rfl (by decide +kernel) ⟨Nat.le_of_ble_eq_true rfl, Nat.le_of_ble_eq_true rfl⟩ hK hP hD hS hA rfl rfl rfl rfl hl.1 rfl (Nat.le_of_ble_eq_true rfl) d_M_copy_29 ⟨Nat.zero_le _, Nat.zero_le _⟩ (fun r u1 H locs hw hP hD hS => ?_)
      obtain ⟨e1, e2⟩ := hw
      subst e1
      rw [e2] at hP hD; clear e2 u1
      have hP : va_P D vwCl (wM G kc (nTh u 1)) H := hP
      have hD : va_D A (wM G kc (nTh u 1)) := hD
      refine lv_if_eq (tgt := 37) hx hb d_M_copy_32 (by decide) (fun c9 => absurd c9 (by decide)) (fun _ => ?_)
      refine lv_iconst (v := 0) hx hb d_M_copy_35 (by decide) ?_
      exact xc_zret hx hb hr hlocks (Or.inl rfl) hP hK hD hS ⟨rfl, rfl⟩ d_M_copy_36
    · skip
      refine xb_ofi (cc := b_M_copy) (maxL := 4) (ret := some .boolean) (by decide) rfl (Nat.le_of_ble_eq_true rfl) ?_
      intro p e s m below meth c A ls hsz hx hb hml hr hlocks hts hown hP hK hD hA hl
      have hl : lv_has ls 4 [(0, .ref (G 0)), (1, .int x), (2, .int y)] := hl
      have hS : va_S A s.heap s.heap [] := va_S.rf
      refine lv_aload_n hx hb d_M_copy_0 rfl (lv_at hl 0 rfl) ?_
      refine lv_iload_n hx hb d_M_copy_1 rfl (lv_at hl 2 rfl) ?_
      refine lv_if_lt (tgt := 23) hx hb d_M_copy_2 (by decide) (fun c9 => absurd c9 h1) (fun _ => ?_)
      refine lv_iload_n hx hb d_M_copy_5 rfl (lv_at hl 2 rfl) ?_
      refine lv_sipush (v := 1023) hx hb d_M_copy_6 (by decide) ?_
      refine lv_icmp_gt (tgt := 23) hx hb d_M_copy_9 (by decide) (fun _ => ?_) (fun c9 => absurd (show nI 1023 < y from by rw [Int32.lt_iff_toInt_lt, nI_toInt (by decide)]; rw [Int32.le_iff_toInt_le, nI_toInt (by decide)] at h2; omega) c9)
      refine lv_iconst (v := 1) hx hb d_M_copy_23 (by decide) ?_
      refine lv_goto (tgt := 28) hx hb d_M_copy_24 (by decide) ?_
      refine lv_iconst (v := 1) hx hb d_M_copy_28 (by decide) ?_
      refine xc_calli (n := 2) (C := "TagMemoryModel") hx hb hml hown hts (c_M_bad l D G kc _ _ _ _ (Or.inr rfl)) (tb_V wm_390 wm_392 ws_17 wm_2 wm_393) rfl rfl rfl (by decide +kernel) ⟨Nat.le_of_ble_eq_true rfl, Nat.le_of_ble_eq_true rfl⟩ hK hP hD hS hA rfl rfl rfl rfl hl.1 rfl (Nat.le_of_ble_eq_true rfl) d_M_copy_29 ⟨Nat.zero_le _, Nat.zero_le _⟩ (fun r u1 H locs hw hP hD hS => ?_)
      obtain ⟨e1, e2⟩ := hw
      subst e1
      rw [e2] at hP hD; clear e2 u1
      have hP : va_P D vwCl (wM G kc (nTh u 1)) H := hP
      have hD : va_D A (wM G kc (nTh u 1)) := hD
      refine lv_if_eq (tgt := 37) hx hb d_M_copy_32 (by decide) (fun c9 => absurd c9 (by decide)) (fun _ => ?_)
      refine lv_iconst (v := 0) hx hb d_M_copy_35 (by decide) ?_
      exact xc_zret hx hb hr hlocks (Or.inl rfl) hP hK hD hS ⟨rfl, rfl⟩ d_M_copy_36
  · rcases h with h1 | ⟨h1, h2⟩
    · skip
      refine xb_ofi (cc := b_M_copy) (maxL := 4) (ret := some .boolean) (by decide) rfl (Nat.le_of_ble_eq_true rfl) ?_
      intro p e s m below meth c A ls hsz hx hb hml hr hlocks hts hown hP hK hD hA hl
      have hl : lv_has ls 4 [(0, .ref (G 0)), (1, .int x), (2, .int (nI k))] := hl
      have hS : va_S A s.heap s.heap [] := va_S.rf
      refine lv_aload_n hx hb d_M_copy_0 rfl (lv_at hl 0 rfl) ?_
      refine lv_iload_n hx hb d_M_copy_1 rfl (lv_at hl 2 rfl) ?_
      refine lv_if_lt (tgt := 23) hx hb d_M_copy_2 (by decide) (fun c9 => absurd c9 (nI_pos (by omega))) (fun _ => ?_)
      refine lv_iload_n hx hb d_M_copy_5 rfl (lv_at hl 2 rfl) ?_
      refine lv_sipush (v := 1023) hx hb d_M_copy_6 (by decide) ?_
      refine lv_icmp_gt (tgt := 23) hx hb d_M_copy_9 (by decide) (fun c9 => absurd c9 (nI_nlt (a := 1023) (b := k) (by omega) (by decide))) (fun _ => ?_)
      refine lv_iload_n hx hb d_M_copy_12 rfl (lv_at hl 1 rfl) ?_
      refine lv_if_lt (tgt := 23) hx hb d_M_copy_13 (by decide) (fun _ => ?_) (fun c9 => absurd h1 c9)
      refine lv_iconst (v := 1) hx hb d_M_copy_23 (by decide) ?_
      refine lv_goto (tgt := 28) hx hb d_M_copy_24 (by decide) ?_
      refine lv_iconst (v := 1) hx hb d_M_copy_28 (by decide) ?_
      refine xc_calli (n := 2) (C := "TagMemoryModel") hx hb hml hown hts (c_M_bad l D G kc _ _ _ _ (Or.inr rfl)) (tb_V wm_390 wm_392 ws_17 wm_2 wm_393) rfl rfl rfl (by decide +kernel) ⟨Nat.le_of_ble_eq_true rfl, Nat.le_of_ble_eq_true rfl⟩ hK hP hD hS hA rfl rfl rfl rfl hl.1 rfl (Nat.le_of_ble_eq_true rfl) d_M_copy_29 ⟨Nat.zero_le _, Nat.zero_le _⟩ (fun r u1 H locs hw hP hD hS => ?_)
      obtain ⟨e1, e2⟩ := hw
      subst e1
      rw [e2] at hP hD; clear e2 u1
      have hP : va_P D vwCl (wM G kc (nTh u 1)) H := hP
      have hD : va_D A (wM G kc (nTh u 1)) := hD
      refine lv_if_eq (tgt := 37) hx hb d_M_copy_32 (by decide) (fun c9 => absurd c9 (by decide)) (fun _ => ?_)
      refine lv_iconst (v := 0) hx hb d_M_copy_35 (by decide) ?_
      exact xc_zret hx hb hr hlocks (Or.inl rfl) hP hK hD hS ⟨rfl, rfl⟩ d_M_copy_36
    · skip
      refine xb_ofi (cc := b_M_copy) (maxL := 4) (ret := some .boolean) (by decide) rfl (Nat.le_of_ble_eq_true rfl) ?_
      intro p e s m below meth c A ls hsz hx hb hml hr hlocks hts hown hP hK hD hA hl
      have hl : lv_has ls 4 [(0, .ref (G 0)), (1, .int x), (2, .int (nI k))] := hl
      have hS : va_S A s.heap s.heap [] := va_S.rf
      refine lv_aload_n hx hb d_M_copy_0 rfl (lv_at hl 0 rfl) ?_
      refine lv_iload_n hx hb d_M_copy_1 rfl (lv_at hl 2 rfl) ?_
      refine lv_if_lt (tgt := 23) hx hb d_M_copy_2 (by decide) (fun c9 => absurd c9 (nI_pos (by omega))) (fun _ => ?_)
      refine lv_iload_n hx hb d_M_copy_5 rfl (lv_at hl 2 rfl) ?_
      refine lv_sipush (v := 1023) hx hb d_M_copy_6 (by decide) ?_
      refine lv_icmp_gt (tgt := 23) hx hb d_M_copy_9 (by decide) (fun c9 => absurd c9 (nI_nlt (a := 1023) (b := k) (by omega) (by decide))) (fun _ => ?_)
      refine lv_iload_n hx hb d_M_copy_12 rfl (lv_at hl 1 rfl) ?_
      refine lv_if_lt (tgt := 23) hx hb d_M_copy_13 (by decide) (fun c9 => absurd c9 h1) (fun _ => ?_)
      refine lv_iload_n hx hb d_M_copy_16 rfl (lv_at hl 1 rfl) ?_
      refine lv_sipush (v := 1023) hx hb d_M_copy_17 (by decide) ?_
      refine lv_icmp_le (tgt := 27) hx hb d_M_copy_20 (by decide) (fun c9 => absurd (show x ≤ nI 1023 from c9) (xbad_le (by decide) h2)) (fun _ => ?_)
      refine lv_iconst (v := 1) hx hb d_M_copy_23 (by decide) ?_
      refine lv_goto (tgt := 28) hx hb d_M_copy_24 (by decide) ?_
      refine lv_iconst (v := 1) hx hb d_M_copy_28 (by decide) ?_
      refine xc_calli (n := 2) (C := "TagMemoryModel") hx hb hml hown hts (c_M_bad l D G kc _ _ _ _ (Or.inr rfl)) (tb_V wm_390 wm_392 ws_17 wm_2 wm_393) rfl rfl rfl (by decide +kernel) ⟨Nat.le_of_ble_eq_true rfl, Nat.le_of_ble_eq_true rfl⟩ hK hP hD hS hA rfl rfl rfl rfl hl.1 rfl (Nat.le_of_ble_eq_true rfl) d_M_copy_29 ⟨Nat.zero_le _, Nat.zero_le _⟩ (fun r u1 H locs hw hP hD hS => ?_)
      obtain ⟨e1, e2⟩ := hw
      subst e1
      rw [e2] at hP hD; clear e2 u1
      have hP : va_P D vwCl (wM G kc (nTh u 1)) H := hP
      have hD : va_D A (wM G kc (nTh u 1)) := hD
      refine lv_if_eq (tgt := 37) hx hb d_M_copy_32 (by decide) (fun c9 => absurd c9 (by decide)) (fun _ => ?_)
      refine lv_iconst (v := 0) hx hb d_M_copy_35 (by decide) ?_
      exact xc_zret hx hb hr hlocks (Or.inl rfl) hP hK hD hS ⟨rfl, rfl⟩ d_M_copy_36
set_option maxHeartbeats 4000000 in
set_option maxRecDepth 100000 in
theorem x_M_part2 (l : Launch) (D : va_G) (G : Nat → Nat) (kc : Nat → ClassId) (sz : Nat) (u : TM) (i : Nat) (hi : i < 2048) (a n v : Int32) (hbad : pbad a n) : XMi l y_M_part k_M_part { frames := 1, cells := 0, slots := 0, locals := 22 } D vwCl (wM G kc) (tyMs kc) u sz [.ref (G 0), .int (nI i), .int a, .int n, .int v] (fun r u1 => r = 0 ∧ u1 = nTh u 2) := by
  rcases hbad with h1 | ⟨h1, h2⟩ | ⟨k, hk, rfl, h⟩
  · skip
    refine xb_ofi (cc := b_M_part) (maxL := 6) (ret := some .int) (by decide) rfl (Nat.le_of_ble_eq_true rfl) ?_
    intro p e s m below meth c A ls hsz hx hb hml hr hlocks hts hown hP hK hD hA hl
    have hl : lv_has ls 6 [(0, .ref (G 0)), (1, .int (nI i)), (2, .int a), (3, .int n), (4, .int v)] := hl
    have hS : va_S A s.heap s.heap [] := va_S.rf
    refine lv_aload_n hx hb d_M_part_0 rfl (lv_at hl 0 rfl) ?_
    refine lv_iload_n hx hb d_M_part_1 rfl (lv_at hl 1 rfl) ?_
    refine lv_if_lt (tgt := 12) hx hb d_M_part_2 (by decide) (fun c9 => absurd c9 (nI_pos (by omega))) (fun _ => ?_)
    refine lv_iload_n hx hb d_M_part_5 rfl (lv_at hl 1 rfl) ?_
    refine lv_sipush (v := 2047) hx hb d_M_part_6 (by decide) ?_
    refine lv_icmp_le (tgt := 16) hx hb d_M_part_9 (by decide) (fun _ => ?_) (fun c9 => absurd (nI_le (a := i) (b := 2047) (by omega) (by decide)) c9)
    refine lv_iconst (v := 0) hx hb d_M_part_16 (by decide) ?_
    refine lv_iconst (v := 1) hx hb d_M_part_17 (by decide) ?_
    refine xc_calli (n := 2) (C := "TagMemoryModel") hx hb hml hown hts (c_M_bad l D G kc _ _ _ _ (Or.inl rfl)) (tb_V wm_390 wm_392 ws_17 wm_2 wm_393) rfl rfl rfl (by decide +kernel) ⟨Nat.le_of_ble_eq_true rfl, Nat.le_of_ble_eq_true rfl⟩ hK hP hD hS hA rfl rfl rfl rfl hl.1 rfl (Nat.le_of_ble_eq_true rfl) d_M_part_18 ⟨Nat.zero_le _, Nat.zero_le _⟩ (fun r u1 H locs hw hP hD hS => ?_)
    obtain ⟨e1, e2⟩ := hw
    subst e1
    rw [e2] at hP hD; clear e2 u1
    have hP : va_P D vwCl (wM G kc (nTh u 0)) H := hP
    have hD : va_D A (wM G kc (nTh u 0)) := hD
    refine lv_if_ne (tgt := 62) hx hb d_M_part_21 (by decide) (fun c9 => absurd rfl c9) (fun _ => ?_)
    refine lv_aload_n hx hb d_M_part_24 rfl (lv_at hl 0 rfl) ?_
    refine lv_iload_n hx hb d_M_part_25 rfl (lv_at hl 3 rfl) ?_
    refine lv_iconst (v := 1) hx hb d_M_part_26 (by decide) ?_
    refine lv_icmp_lt (tgt := 50) hx hb d_M_part_27 (by decide) (fun _ => ?_) (fun c9 => absurd h1 c9)
    refine lv_iconst (v := 1) hx hb d_M_part_50 (by decide) ?_
    refine lv_goto (tgt := 55) hx hb d_M_part_51 (by decide) ?_
    refine lv_iconst (v := 2) hx hb d_M_part_55 (by decide) ?_
    refine xc_calli (n := 2) (C := "TagMemoryModel") hx hb hml hown hts (c_M_bad l D G kc _ _ _ _ (Or.inr rfl)) (tb_V wm_390 wm_392 ws_17 wm_2 wm_393) rfl rfl rfl (by decide +kernel) ⟨Nat.le_of_ble_eq_true rfl, Nat.le_of_ble_eq_true rfl⟩ hK hP hD hS hA rfl rfl rfl rfl hl.1 rfl (Nat.le_of_ble_eq_true rfl) d_M_part_56 ⟨Nat.zero_le _, Nat.zero_le _⟩ (fun r u1 H locs hw hP hD hS => ?_)
    obtain ⟨e1, e2⟩ := hw
    subst e1
    rw [e2] at hP hD; clear e2 u1
    have hP : va_P D vwCl (wM G kc (nTh u 2)) H := hP
    have hD : va_D A (wM G kc (nTh u 2)) := hD
    refine lv_if_eq (tgt := 64) hx hb d_M_part_59 (by decide) (fun c9 => absurd c9 (by decide)) (fun _ => ?_)
    refine lv_iconst (v := 0) hx hb d_M_part_62 (by decide) ?_
    exact xc_iret hx hb hr hlocks hP hK hD hS ⟨rfl, rfl⟩ d_M_part_63
  · skip
    refine xb_ofi (cc := b_M_part) (maxL := 6) (ret := some .int) (by decide) rfl (Nat.le_of_ble_eq_true rfl) ?_
    intro p e s m below meth c A ls hsz hx hb hml hr hlocks hts hown hP hK hD hA hl
    have hl : lv_has ls 6 [(0, .ref (G 0)), (1, .int (nI i)), (2, .int a), (3, .int n), (4, .int v)] := hl
    have hS : va_S A s.heap s.heap [] := va_S.rf
    refine lv_aload_n hx hb d_M_part_0 rfl (lv_at hl 0 rfl) ?_
    refine lv_iload_n hx hb d_M_part_1 rfl (lv_at hl 1 rfl) ?_
    refine lv_if_lt (tgt := 12) hx hb d_M_part_2 (by decide) (fun c9 => absurd c9 (nI_pos (by omega))) (fun _ => ?_)
    refine lv_iload_n hx hb d_M_part_5 rfl (lv_at hl 1 rfl) ?_
    refine lv_sipush (v := 2047) hx hb d_M_part_6 (by decide) ?_
    refine lv_icmp_le (tgt := 16) hx hb d_M_part_9 (by decide) (fun _ => ?_) (fun c9 => absurd (nI_le (a := i) (b := 2047) (by omega) (by decide)) c9)
    refine lv_iconst (v := 0) hx hb d_M_part_16 (by decide) ?_
    refine lv_iconst (v := 1) hx hb d_M_part_17 (by decide) ?_
    refine xc_calli (n := 2) (C := "TagMemoryModel") hx hb hml hown hts (c_M_bad l D G kc _ _ _ _ (Or.inl rfl)) (tb_V wm_390 wm_392 ws_17 wm_2 wm_393) rfl rfl rfl (by decide +kernel) ⟨Nat.le_of_ble_eq_true rfl, Nat.le_of_ble_eq_true rfl⟩ hK hP hD hS hA rfl rfl rfl rfl hl.1 rfl (Nat.le_of_ble_eq_true rfl) d_M_part_18 ⟨Nat.zero_le _, Nat.zero_le _⟩ (fun r u1 H locs hw hP hD hS => ?_)
    obtain ⟨e1, e2⟩ := hw
    subst e1
    rw [e2] at hP hD; clear e2 u1
    have hP : va_P D vwCl (wM G kc (nTh u 0)) H := hP
    have hD : va_D A (wM G kc (nTh u 0)) := hD
    refine lv_if_ne (tgt := 62) hx hb d_M_part_21 (by decide) (fun c9 => absurd rfl c9) (fun _ => ?_)
    refine lv_aload_n hx hb d_M_part_24 rfl (lv_at hl 0 rfl) ?_
    refine lv_iload_n hx hb d_M_part_25 rfl (lv_at hl 3 rfl) ?_
    refine lv_iconst (v := 1) hx hb d_M_part_26 (by decide) ?_
    refine lv_icmp_lt (tgt := 50) hx hb d_M_part_27 (by decide) (fun c9 => absurd c9 h1) (fun _ => ?_)
    refine lv_iload_n hx hb d_M_part_30 rfl (lv_at hl 3 rfl) ?_
    refine lv_iconst (v := 2) hx hb d_M_part_31 (by decide) ?_
    refine lv_icmp_gt (tgt := 50) hx hb d_M_part_32 (by decide) (fun _ => ?_) (fun c9 => absurd h2 c9)
    refine lv_iconst (v := 1) hx hb d_M_part_50 (by decide) ?_
    refine lv_goto (tgt := 55) hx hb d_M_part_51 (by decide) ?_
    refine lv_iconst (v := 2) hx hb d_M_part_55 (by decide) ?_
    refine xc_calli (n := 2) (C := "TagMemoryModel") hx hb hml hown hts (c_M_bad l D G kc _ _ _ _ (Or.inr rfl)) (tb_V wm_390 wm_392 ws_17 wm_2 wm_393) rfl rfl rfl (by decide +kernel) ⟨Nat.le_of_ble_eq_true rfl, Nat.le_of_ble_eq_true rfl⟩ hK hP hD hS hA rfl rfl rfl rfl hl.1 rfl (Nat.le_of_ble_eq_true rfl) d_M_part_56 ⟨Nat.zero_le _, Nat.zero_le _⟩ (fun r u1 H locs hw hP hD hS => ?_)
    obtain ⟨e1, e2⟩ := hw
    subst e1
    rw [e2] at hP hD; clear e2 u1
    have hP : va_P D vwCl (wM G kc (nTh u 2)) H := hP
    have hD : va_D A (wM G kc (nTh u 2)) := hD
    refine lv_if_eq (tgt := 64) hx hb d_M_part_59 (by decide) (fun c9 => absurd c9 (by decide)) (fun _ => ?_)
    refine lv_iconst (v := 0) hx hb d_M_part_62 (by decide) ?_
    exact xc_iret hx hb hr hlocks hP hK hD hS ⟨rfl, rfl⟩ d_M_part_63
  · rcases h with h1 | ⟨h1, h2⟩ | ⟨j, hj, rfl, hjk⟩
    · skip
      refine xb_ofi (cc := b_M_part) (maxL := 6) (ret := some .int) (by decide) rfl (Nat.le_of_ble_eq_true rfl) ?_
      intro p e s m below meth c A ls hsz hx hb hml hr hlocks hts hown hP hK hD hA hl
      have hl : lv_has ls 6 [(0, .ref (G 0)), (1, .int (nI i)), (2, .int a), (3, .int (nI k)), (4, .int v)] := hl
      have hS : va_S A s.heap s.heap [] := va_S.rf
      refine lv_aload_n hx hb d_M_part_0 rfl (lv_at hl 0 rfl) ?_
      refine lv_iload_n hx hb d_M_part_1 rfl (lv_at hl 1 rfl) ?_
      refine lv_if_lt (tgt := 12) hx hb d_M_part_2 (by decide) (fun c9 => absurd c9 (nI_pos (by omega))) (fun _ => ?_)
      refine lv_iload_n hx hb d_M_part_5 rfl (lv_at hl 1 rfl) ?_
      refine lv_sipush (v := 2047) hx hb d_M_part_6 (by decide) ?_
      refine lv_icmp_le (tgt := 16) hx hb d_M_part_9 (by decide) (fun _ => ?_) (fun c9 => absurd (nI_le (a := i) (b := 2047) (by omega) (by decide)) c9)
      refine lv_iconst (v := 0) hx hb d_M_part_16 (by decide) ?_
      refine lv_iconst (v := 1) hx hb d_M_part_17 (by decide) ?_
      refine xc_calli (n := 2) (C := "TagMemoryModel") hx hb hml hown hts (c_M_bad l D G kc _ _ _ _ (Or.inl rfl)) (tb_V wm_390 wm_392 ws_17 wm_2 wm_393) rfl rfl rfl (by decide +kernel) ⟨Nat.le_of_ble_eq_true rfl, Nat.le_of_ble_eq_true rfl⟩ hK hP hD hS hA rfl rfl rfl rfl hl.1 rfl (Nat.le_of_ble_eq_true rfl) d_M_part_18 ⟨Nat.zero_le _, Nat.zero_le _⟩ (fun r u1 H locs hw hP hD hS => ?_)
      obtain ⟨e1, e2⟩ := hw
      subst e1
      rw [e2] at hP hD; clear e2 u1
      have hP : va_P D vwCl (wM G kc (nTh u 0)) H := hP
      have hD : va_D A (wM G kc (nTh u 0)) := hD
      refine lv_if_ne (tgt := 62) hx hb d_M_part_21 (by decide) (fun c9 => absurd rfl c9) (fun _ => ?_)
      refine lv_aload_n hx hb d_M_part_24 rfl (lv_at hl 0 rfl) ?_
      refine lv_iload_n hx hb d_M_part_25 rfl (lv_at hl 3 rfl) ?_
      refine lv_iconst (v := 1) hx hb d_M_part_26 (by decide) ?_
      refine lv_icmp_lt (tgt := 50) hx hb d_M_part_27 (by decide) (fun c9 => absurd c9 (by rcases hk with h | h <;> subst h <;> decide)) (fun _ => ?_)
      refine lv_iload_n hx hb d_M_part_30 rfl (lv_at hl 3 rfl) ?_
      refine lv_iconst (v := 2) hx hb d_M_part_31 (by decide) ?_
      refine lv_icmp_gt (tgt := 50) hx hb d_M_part_32 (by decide) (fun c9 => absurd c9 (by rcases hk with h | h <;> subst h <;> decide)) (fun _ => ?_)
      refine lv_iload_n hx hb d_M_part_35 rfl (lv_at hl 2 rfl) ?_
      refine lv_if_lt (tgt := 50) hx hb d_M_part_36 (by decide) (fun _ => ?_) (fun c9 => absurd h1 c9)
      refine lv_iconst (v := 1) hx hb d_M_part_50 (by decide) ?_
      refine lv_goto (tgt := 55) hx hb d_M_part_51 (by decide) ?_
      refine lv_iconst (v := 2) hx hb d_M_part_55 (by decide) ?_
      refine xc_calli (n := 2) (C := "TagMemoryModel") hx hb hml hown hts (c_M_bad l D G kc _ _ _ _ (Or.inr rfl)) (tb_V wm_390 wm_392 ws_17 wm_2 wm_393) rfl rfl rfl (by decide +kernel) ⟨Nat.le_of_ble_eq_true rfl, Nat.le_of_ble_eq_true rfl⟩ hK hP hD hS hA rfl rfl rfl rfl hl.1 rfl (Nat.le_of_ble_eq_true rfl) d_M_part_56 ⟨Nat.zero_le _, Nat.zero_le _⟩ (fun r u1 H locs hw hP hD hS => ?_)
      obtain ⟨e1, e2⟩ := hw
      subst e1
      rw [e2] at hP hD; clear e2 u1
      have hP : va_P D vwCl (wM G kc (nTh u 2)) H := hP
      have hD : va_D A (wM G kc (nTh u 2)) := hD
      refine lv_if_eq (tgt := 64) hx hb d_M_part_59 (by decide) (fun c9 => absurd c9 (by decide)) (fun _ => ?_)
      refine lv_iconst (v := 0) hx hb d_M_part_62 (by decide) ?_
      exact xc_iret hx hb hr hlocks hP hK hD hS ⟨rfl, rfl⟩ d_M_part_63
    · skip
      refine xb_ofi (cc := b_M_part) (maxL := 6) (ret := some .int) (by decide) rfl (Nat.le_of_ble_eq_true rfl) ?_
      intro p e s m below meth c A ls hsz hx hb hml hr hlocks hts hown hP hK hD hA hl
      have hl : lv_has ls 6 [(0, .ref (G 0)), (1, .int (nI i)), (2, .int a), (3, .int (nI k)), (4, .int v)] := hl
      have hS : va_S A s.heap s.heap [] := va_S.rf
      refine lv_aload_n hx hb d_M_part_0 rfl (lv_at hl 0 rfl) ?_
      refine lv_iload_n hx hb d_M_part_1 rfl (lv_at hl 1 rfl) ?_
      refine lv_if_lt (tgt := 12) hx hb d_M_part_2 (by decide) (fun c9 => absurd c9 (nI_pos (by omega))) (fun _ => ?_)
      refine lv_iload_n hx hb d_M_part_5 rfl (lv_at hl 1 rfl) ?_
      refine lv_sipush (v := 2047) hx hb d_M_part_6 (by decide) ?_
      refine lv_icmp_le (tgt := 16) hx hb d_M_part_9 (by decide) (fun _ => ?_) (fun c9 => absurd (nI_le (a := i) (b := 2047) (by omega) (by decide)) c9)
      refine lv_iconst (v := 0) hx hb d_M_part_16 (by decide) ?_
      refine lv_iconst (v := 1) hx hb d_M_part_17 (by decide) ?_
      refine xc_calli (n := 2) (C := "TagMemoryModel") hx hb hml hown hts (c_M_bad l D G kc _ _ _ _ (Or.inl rfl)) (tb_V wm_390 wm_392 ws_17 wm_2 wm_393) rfl rfl rfl (by decide +kernel) ⟨Nat.le_of_ble_eq_true rfl, Nat.le_of_ble_eq_true rfl⟩ hK hP hD hS hA rfl rfl rfl rfl hl.1 rfl (Nat.le_of_ble_eq_true rfl) d_M_part_18 ⟨Nat.zero_le _, Nat.zero_le _⟩ (fun r u1 H locs hw hP hD hS => ?_)
      obtain ⟨e1, e2⟩ := hw
      subst e1
      rw [e2] at hP hD; clear e2 u1
      have hP : va_P D vwCl (wM G kc (nTh u 0)) H := hP
      have hD : va_D A (wM G kc (nTh u 0)) := hD
      refine lv_if_ne (tgt := 62) hx hb d_M_part_21 (by decide) (fun c9 => absurd rfl c9) (fun _ => ?_)
      refine lv_aload_n hx hb d_M_part_24 rfl (lv_at hl 0 rfl) ?_
      refine lv_iload_n hx hb d_M_part_25 rfl (lv_at hl 3 rfl) ?_
      refine lv_iconst (v := 1) hx hb d_M_part_26 (by decide) ?_
      refine lv_icmp_lt (tgt := 50) hx hb d_M_part_27 (by decide) (fun c9 => absurd c9 (by rcases hk with h | h <;> subst h <;> decide)) (fun _ => ?_)
      refine lv_iload_n hx hb d_M_part_30 rfl (lv_at hl 3 rfl) ?_
      refine lv_iconst (v := 2) hx hb d_M_part_31 (by decide) ?_
      refine lv_icmp_gt (tgt := 50) hx hb d_M_part_32 (by decide) (fun c9 => absurd c9 (by rcases hk with h | h <;> subst h <;> decide)) (fun _ => ?_)
      refine lv_iload_n hx hb d_M_part_35 rfl (lv_at hl 2 rfl) ?_
      refine lv_if_lt (tgt := 50) hx hb d_M_part_36 (by decide) (fun c9 => absurd c9 h1) (fun _ => ?_)
      refine lv_iload_n hx hb d_M_part_39 rfl (lv_at hl 2 rfl) ?_
      refine lv_iconst (v := 3) hx hb d_M_part_40 (by decide) ?_
      refine lv_icmp_gt (tgt := 50) hx hb d_M_part_41 (by decide) (fun _ => ?_) (fun c9 => absurd h2 c9)
      refine lv_iconst (v := 1) hx hb d_M_part_50 (by decide) ?_
      refine lv_goto (tgt := 55) hx hb d_M_part_51 (by decide) ?_
      refine lv_iconst (v := 2) hx hb d_M_part_55 (by decide) ?_
      refine xc_calli (n := 2) (C := "TagMemoryModel") hx hb hml hown hts (c_M_bad l D G kc _ _ _ _ (Or.inr rfl)) (tb_V wm_390 wm_392 ws_17 wm_2 wm_393) rfl rfl rfl (by decide +kernel) ⟨Nat.le_of_ble_eq_true rfl, Nat.le_of_ble_eq_true rfl⟩ hK hP hD hS hA rfl rfl rfl rfl hl.1 rfl (Nat.le_of_ble_eq_true rfl) d_M_part_56 ⟨Nat.zero_le _, Nat.zero_le _⟩ (fun r u1 H locs hw hP hD hS => ?_)
      obtain ⟨e1, e2⟩ := hw
      subst e1
      rw [e2] at hP hD; clear e2 u1
      have hP : va_P D vwCl (wM G kc (nTh u 2)) H := hP
      have hD : va_D A (wM G kc (nTh u 2)) := hD
      refine lv_if_eq (tgt := 64) hx hb d_M_part_59 (by decide) (fun c9 => absurd c9 (by decide)) (fun _ => ?_)
      refine lv_iconst (v := 0) hx hb d_M_part_62 (by decide) ?_
      exact xc_iret hx hb hr hlocks hP hK hD hS ⟨rfl, rfl⟩ d_M_part_63
    · skip
      refine xb_ofi (cc := b_M_part) (maxL := 6) (ret := some .int) (by decide) rfl (Nat.le_of_ble_eq_true rfl) ?_
      intro p e s m below meth c A ls hsz hx hb hml hr hlocks hts hown hP hK hD hA hl
      have hl : lv_has ls 6 [(0, .ref (G 0)), (1, .int (nI i)), (2, .int (nI j)), (3, .int (nI k)), (4, .int v)] := hl
      have hS : va_S A s.heap s.heap [] := va_S.rf
      refine lv_aload_n hx hb d_M_part_0 rfl (lv_at hl 0 rfl) ?_
      refine lv_iload_n hx hb d_M_part_1 rfl (lv_at hl 1 rfl) ?_
      refine lv_if_lt (tgt := 12) hx hb d_M_part_2 (by decide) (fun c9 => absurd c9 (nI_pos (by omega))) (fun _ => ?_)
      refine lv_iload_n hx hb d_M_part_5 rfl (lv_at hl 1 rfl) ?_
      refine lv_sipush (v := 2047) hx hb d_M_part_6 (by decide) ?_
      refine lv_icmp_le (tgt := 16) hx hb d_M_part_9 (by decide) (fun _ => ?_) (fun c9 => absurd (nI_le (a := i) (b := 2047) (by omega) (by decide)) c9)
      refine lv_iconst (v := 0) hx hb d_M_part_16 (by decide) ?_
      refine lv_iconst (v := 1) hx hb d_M_part_17 (by decide) ?_
      refine xc_calli (n := 2) (C := "TagMemoryModel") hx hb hml hown hts (c_M_bad l D G kc _ _ _ _ (Or.inl rfl)) (tb_V wm_390 wm_392 ws_17 wm_2 wm_393) rfl rfl rfl (by decide +kernel) ⟨Nat.le_of_ble_eq_true rfl, Nat.le_of_ble_eq_true rfl⟩ hK hP hD hS hA rfl rfl rfl rfl hl.1 rfl (Nat.le_of_ble_eq_true rfl) d_M_part_18 ⟨Nat.zero_le _, Nat.zero_le _⟩ (fun r u1 H locs hw hP hD hS => ?_)
      obtain ⟨e1, e2⟩ := hw
      subst e1
      rw [e2] at hP hD; clear e2 u1
      have hP : va_P D vwCl (wM G kc (nTh u 0)) H := hP
      have hD : va_D A (wM G kc (nTh u 0)) := hD
      refine lv_if_ne (tgt := 62) hx hb d_M_part_21 (by decide) (fun c9 => absurd rfl c9) (fun _ => ?_)
      refine lv_aload_n hx hb d_M_part_24 rfl (lv_at hl 0 rfl) ?_
      refine lv_iload_n hx hb d_M_part_25 rfl (lv_at hl 3 rfl) ?_
      refine lv_iconst (v := 1) hx hb d_M_part_26 (by decide) ?_
      refine lv_icmp_lt (tgt := 50) hx hb d_M_part_27 (by decide) (fun c9 => absurd c9 (by rcases hk with h | h <;> subst h <;> decide)) (fun _ => ?_)
      refine lv_iload_n hx hb d_M_part_30 rfl (lv_at hl 3 rfl) ?_
      refine lv_iconst (v := 2) hx hb d_M_part_31 (by decide) ?_
      refine lv_icmp_gt (tgt := 50) hx hb d_M_part_32 (by decide) (fun c9 => absurd c9 (by rcases hk with h | h <;> subst h <;> decide)) (fun _ => ?_)
      refine lv_iload_n hx hb d_M_part_35 rfl (lv_at hl 2 rfl) ?_
      refine lv_if_lt (tgt := 50) hx hb d_M_part_36 (by decide) (fun c9 => absurd c9 (nI_pos (by omega))) (fun _ => ?_)
      refine lv_iload_n hx hb d_M_part_39 rfl (lv_at hl 2 rfl) ?_
      refine lv_iconst (v := 3) hx hb d_M_part_40 (by decide) ?_
      refine lv_icmp_gt (tgt := 50) hx hb d_M_part_41 (by decide) (fun c9 => absurd c9 (nI_nlt (a := 3) (b := j) (by omega) (by decide))) (fun _ => ?_)
      refine lv_iload_n hx hb d_M_part_44 rfl (lv_at hl 2 rfl) ?_
      refine lv_iload_n hx hb d_M_part_45 rfl (lv_at hl 3 rfl) ?_
      refine xa_irem hx hb j k rfl rfl (by omega) (by omega) (by omega) d_M_part_46 ?_
      refine lv_if_eq (tgt := 54) hx hb d_M_part_47 (by decide) (fun c9 => absurd c9 (nI_ne0 (by omega) (Nat.lt_of_le_of_lt (Nat.mod_le j k) (by omega)))) (fun _ => ?_)
      refine lv_iconst (v := 1) hx hb d_M_part_50 (by decide) ?_
      refine lv_goto (tgt := 55) hx hb d_M_part_51 (by decide) ?_
      refine lv_iconst (v := 2) hx hb d_M_part_55 (by decide) ?_
      refine xc_calli (n := 2) (C := "TagMemoryModel") hx hb hml hown hts (c_M_bad l D G kc _ _ _ _ (Or.inr rfl)) (tb_V wm_390 wm_392 ws_17 wm_2 wm_393) rfl rfl rfl (by decide +kernel) ⟨Nat.le_of_ble_eq_true rfl, Nat.le_of_ble_eq_true rfl⟩ hK hP hD hS hA rfl rfl rfl rfl hl.1 rfl (Nat.le_of_ble_eq_true rfl) d_M_part_56 ⟨Nat.zero_le _, Nat.zero_le _⟩ (fun r u1 H locs hw hP hD hS => ?_)
      obtain ⟨e1, e2⟩ := hw
      subst e1
      rw [e2] at hP hD; clear e2 u1
      have hP : va_P D vwCl (wM G kc (nTh u 2)) H := hP
      have hD : va_D A (wM G kc (nTh u 2)) := hD
      refine lv_if_eq (tgt := 64) hx hb d_M_part_59 (by decide) (fun c9 => absurd c9 (by decide)) (fun _ => ?_)
      refine lv_iconst (v := 0) hx hb d_M_part_62 (by decide) ?_
      exact xc_iret hx hb hr hlocks hP hK hD hS ⟨rfl, rfl⟩ d_M_part_63
set_option maxHeartbeats 4000000 in
set_option maxRecDepth 100000 in
theorem lp_M_count4 {p : Program} {l : Launch} {e : Env} {s : State} {m : MethodId} {args : Array Value} {below : List Frame} {meth : Method} {c : Code} {Q : State → Prop} {D : va_G} {A : Nat → Prop} {G : Nat → Nat} {kc : Nat → ClassId} {c1 : Cond} (hx : p.tables.exec = Jvm.exec) (hb : c.code = b_M_count) (hml : c.maxLocals = 4) (hown : s.vm.findClass "TagMemoryModel" = some m.cls) (hts : ∀ w ∈ c1 :: TB, w.before args s = true) (hK : va_K D vwCl (tyMs kc) s) (hA : ∀ q, s.heap.size ≤ q → A q) (u : TM) (kk : ∀ (acc : Int32) (H : Heap) (locs : List Loc) (ls : Array Slot), acc = fCntNe 0 (mTg u) 1024 0 0 → va_P D vwCl (wM G kc u) H → va_D A (wM G kc u) → va_S A s.heap H locs → lv_has ls 4 [(3, .int (nI 1024)), (2, .int acc), (1, .int (nI 4)), (0, .ref (G 0))] → W p l e ({ frames := 1, cells := 0, slots := 0, locals := 22 }) s m args below meth c H locs 0 0 Q (F0 m 71 ls [])) : ∀ (d i : Nat), i + d = 1024 → ∀ (acc : Int32) (H : Heap) (locs : List Loc) (ls : Array Slot), fCntNe 0 (mTg u) d i acc = fCntNe 0 (mTg u) 1024 0 0 → va_P D vwCl (wM G kc u) H → va_D A (wM G kc u) → va_S A s.heap H locs → lv_has ls 4 [(3, .int (nI i)), (2, .int acc), (1, .int (nI 4)), (0, .ref (G 0))] → W p l e ({ frames := 1, cells := 0, slots := 0, locals := 22 }) s m args below meth c H locs 0 0 Q (F0 m 46 ls []) := by
  intro d
  induction d with
  | zero =>
    intro i hi acc H locs ls hu hP hD hS hl
    obtain rfl : i = 1024 := by omega
    refine lv_iload_n hx hb d_M_count_46 rfl (lv_at hl 0 rfl) ?_
    refine lv_sipush (v := 1024) hx hb d_M_count_47 (by decide) ?_
    refine lv_icmp_ge (tgt := 71) hx hb d_M_count_50 (by decide) (fun _ => ?_) (fun c9 => absurd (nI_le (a := 1024) (b := 1024) (by omega) (by omega)) c9)
    exact kk acc H locs ls hu hP hD hS hl
  | succ d ih =>
    intro i hi acc H locs ls hu hP hD hS hl
    have hiN : i < 1024 := by omega
    by_cases h2 : mTg u i = 0
    · skip
      refine lv_iload_n hx hb d_M_count_46 rfl (lv_at hl 0 rfl) ?_
      refine lv_sipush (v := 1024) hx hb d_M_count_47 (by decide) ?_
      refine lv_icmp_ge (tgt := 71) hx hb d_M_count_50 (by decide) (fun c9 => absurd c9 (nI_ge (a := i) (b := 1024) (by omega) (by omega))) (fun _ => ?_)
      refine lv_aload_n hx hb d_M_count_53 rfl (lv_at hl 3 rfl) ?_
      refine xm_g1 hx hb hts hown hK hP d_M_count_54 ?_
      refine lv_iload_n hx hb d_M_count_57 rfl (lv_at hl 0 rfl) ?_
      refine xm_l1 hx hb hK hP i rfl (by omega) d_M_count_58 ?_
      refine lv_if_eq (tgt := 65) hx hb d_M_count_59 (by decide) (fun _ => ?_) (fun c9 => absurd h2 c9)
      refine lv_iinc (v := nI (i + 1)) (lv' := [(3, .int (nI (i + 1))), (2, .int _), (1, .int (nI 4)), (0, .ref _)]) hx hb d_M_count_65 hl (k := 0) rfl (nI_add _ _) (by decide) rfl (fun ls hl => ?_)
      refine lv_goto (tgt := 46) hx hb d_M_count_68 (by decide) ?_
      exact ih (i + 1) (by omega) _ _ _ _ (by rw [← hu]; show _ = fCntNe 0 (mTg u) d (i + 1) (if mTg u i = 0 then acc else acc + 1); rw [if_pos h2]) hP hD hS (lv_sub hl [0, 1, 2, 3] rfl)
    · skip
      refine lv_iload_n hx hb d_M_count_46 rfl (lv_at hl 0 rfl) ?_
      refine lv_sipush (v := 1024) hx hb d_M_count_47 (by decide) ?_
      refine lv_icmp_ge (tgt := 71) hx hb d_M_count_50 (by decide) (fun c9 => absurd c9 (nI_ge (a := i) (b := 1024) (by omega) (by omega))) (fun _ => ?_)
      refine lv_aload_n hx hb d_M_count_53 rfl (lv_at hl 3 rfl) ?_
      refine xm_g1 hx hb hts hown hK hP d_M_count_54 ?_
      refine lv_iload_n hx hb d_M_count_57 rfl (lv_at hl 0 rfl) ?_
      refine xm_l1 hx hb hK hP i rfl (by omega) d_M_count_58 ?_
      refine lv_if_eq (tgt := 65) hx hb d_M_count_59 (by decide) (fun c9 => absurd c9 h2) (fun _ => ?_)
      refine lv_iinc (lv' := [(2, .int _), (3, .int (nI i)), (1, .int (nI 4)), (0, .ref _)]) hx hb d_M_count_62 hl (k := 1) rfl rfl (by decide) rfl (fun ls hl => ?_)
      refine lv_iinc (v := nI (i + 1)) (lv' := [(3, .int (nI (i + 1))), (2, .int _), (1, .int (nI 4)), (0, .ref _)]) hx hb d_M_count_65 hl (k := 1) rfl (nI_add _ _) (by decide) rfl (fun ls hl => ?_)
      refine lv_goto (tgt := 46) hx hb d_M_count_68 (by decide) ?_
      exact ih (i + 1) (by omega) _ _ _ _ (by rw [← hu]; show _ = fCntNe 0 (mTg u) d (i + 1) (if mTg u i = 0 then acc else acc + 1); rw [if_neg h2]; rfl) hP hD hS (lv_sub hl [0, 1, 2, 3] rfl)
set_option maxHeartbeats 4000000 in
set_option maxRecDepth 100000 in
theorem lp_M_count5 {p : Program} {l : Launch} {e : Env} {s : State} {m : MethodId} {args : Array Value} {below : List Frame} {meth : Method} {c : Code} {Q : State → Prop} {D : va_G} {A : Nat → Prop} {G : Nat → Nat} {kc : Nat → ClassId} {c1 : Cond} (hx : p.tables.exec = Jvm.exec) (hb : c.code = b_M_count) (hml : c.maxLocals = 4) (hown : s.vm.findClass "TagMemoryModel" = some m.cls) (hts : ∀ w ∈ c1 :: TB, w.before args s = true) (hK : va_K D vwCl (tyMs kc) s) (hA : ∀ q, s.heap.size ≤ q → A q) (u : TM) (hI : mI u) (kk : ∀ (acc : Int32) (H : Heap) (locs : List Loc) (ls : Array Slot), acc = fCntNe (-1) (mLn u) 16 0 0 → va_P D vwCl (wM G kc u) H → va_D A (wM G kc u) → va_S A s.heap H locs → lv_has ls 4 [(3, .int (nI 16)), (2, .int acc), (1, .int (nI 5)), (0, .ref (G 0))] → W p l e ({ frames := 1, cells := 0, slots := 0, locals := 22 }) s m args below meth c H locs 0 0 Q (F0 m 102 ls [])) : ∀ (d i : Nat), i + d = 16 → ∀ (acc : Int32) (H : Heap) (locs : List Loc) (ls : Array Slot), fCntNe (-1) (mLn u) d i acc = fCntNe (-1) (mLn u) 16 0 0 → va_P D vwCl (wM G kc u) H → va_D A (wM G kc u) → va_S A s.heap H locs → lv_has ls 4 [(3, .int (nI i)), (2, .int acc), (1, .int (nI 5)), (0, .ref (G 0))] → W p l e ({ frames := 1, cells := 0, slots := 0, locals := 22 }) s m args below meth c H locs 0 0 Q (F0 m 73 ls []) := by
  intro d
  induction d with
  | zero =>
    intro i hi acc H locs ls hu hP hD hS hl
    obtain rfl : i = 16 := by omega
    refine lv_iload_n hx hb d_M_count_73 rfl (lv_at hl 2 rfl) ?_
    refine lv_iconst (v := 5) hx hb d_M_count_74 (by decide) ?_
    refine lv_icmp_ne (tgt := 102) hx hb d_M_count_75 (by decide) (fun c9 => absurd (show nI 5 = nI 5 from rfl) c9) (fun _ => ?_)
    refine lv_iload_n hx hb d_M_count_78 rfl (lv_at hl 0 rfl) ?_
    refine lv_bipush (v := 16) hx hb d_M_count_79 (by decide) ?_
    refine lv_icmp_ge (tgt := 102) hx hb d_M_count_81 (by decide) (fun _ => ?_) (fun c9 => absurd (nI_le (a := 16) (b := 16) (by omega) (by omega)) c9)
    exact kk acc H locs ls hu hP hD hS hl
  | succ d ih =>
    intro i hi acc H locs ls hu hP hD hS hl
    have hiN : i < 16 := by omega
    by_cases h2 : mLn u i = (-1)
    · skip
      refine lv_iload_n hx hb d_M_count_73 rfl (lv_at hl 2 rfl) ?_
      refine lv_iconst (v := 5) hx hb d_M_count_74 (by decide) ?_
      refine lv_icmp_ne (tgt := 102) hx hb d_M_count_75 (by decide) (fun c9 => absurd (show nI 5 = nI 5 from rfl) c9) (fun _ => ?_)
      refine lv_iload_n hx hb d_M_count_78 rfl (lv_at hl 0 rfl) ?_
      refine lv_bipush (v := 16) hx hb d_M_count_79 (by decide) ?_
      refine lv_icmp_ge (tgt := 102) hx hb d_M_count_81 (by decide) (fun c9 => absurd c9 (nI_ge (a := i) (b := 16) (by omega) (by omega))) (fun _ => ?_)
      refine lv_aload_n hx hb d_M_count_84 rfl (lv_at hl 3 rfl) ?_
      refine xm_g4 hx hb hts hown hK hP d_M_count_85 ?_
      refine lv_iload_n hx hb d_M_count_88 rfl (lv_at hl 0 rfl) ?_
      refine xm_l4 hx hb hK hP i rfl (by omega) d_M_count_89 ?_
      refine lv_if_lt (tgt := 96) hx hb d_M_count_90 (by decide) (fun _ => ?_) (fun c9 => absurd (by rw [h2]; decide) c9)
      refine lv_iinc (v := nI (i + 1)) (lv' := [(3, .int (nI (i + 1))), (2, .int _), (1, .int (nI 5)), (0, .ref _)]) hx hb d_M_count_96 hl (k := 0) rfl (nI_add _ _) (by decide) rfl (fun ls hl => ?_)
      refine lv_goto (tgt := 73) hx hb d_M_count_99 (by decide) ?_
      exact ih (i + 1) (by omega) _ _ _ _ (by rw [← hu]; show _ = fCntNe (-1) (mLn u) d (i + 1) (if mLn u i = (-1) then acc else acc + 1); rw [if_pos h2]) hP hD hS (lv_sub hl [0, 1, 2, 3] rfl)
    · skip
      obtain ⟨k, hk0, hk1⟩ : ∃ k, k < 512 ∧ mLn u i = nI k := by obtain ⟨k, a, _, b⟩ := (hI.2.1 i hiN).resolve_left h2; exact ⟨k, a, b⟩
      refine lv_iload_n hx hb d_M_count_73 rfl (lv_at hl 2 rfl) ?_
      refine lv_iconst (v := 5) hx hb d_M_count_74 (by decide) ?_
      refine lv_icmp_ne (tgt := 102) hx hb d_M_count_75 (by decide) (fun c9 => absurd (show nI 5 = nI 5 from rfl) c9) (fun _ => ?_)
      refine lv_iload_n hx hb d_M_count_78 rfl (lv_at hl 0 rfl) ?_
      refine lv_bipush (v := 16) hx hb d_M_count_79 (by decide) ?_
      refine lv_icmp_ge (tgt := 102) hx hb d_M_count_81 (by decide) (fun c9 => absurd c9 (nI_ge (a := i) (b := 16) (by omega) (by omega))) (fun _ => ?_)
      refine lv_aload_n hx hb d_M_count_84 rfl (lv_at hl 3 rfl) ?_
      refine xm_g4 hx hb hts hown hK hP d_M_count_85 ?_
      refine lv_iload_n hx hb d_M_count_88 rfl (lv_at hl 0 rfl) ?_
      refine xm_l4 hx hb hK hP i rfl (by omega) d_M_count_89 ?_
      refine lv_if_lt (tgt := 96) hx hb d_M_count_90 (by decide) (fun c9 => absurd c9 (by rw [hk1]; exact nI_pos (by omega))) (fun _ => ?_)
      refine lv_iinc (lv' := [(2, .int _), (3, .int (nI i)), (1, .int (nI 5)), (0, .ref _)]) hx hb d_M_count_93 hl (k := 1) rfl rfl (by decide) rfl (fun ls hl => ?_)
      refine lv_iinc (v := nI (i + 1)) (lv' := [(3, .int (nI (i + 1))), (2, .int _), (1, .int (nI 5)), (0, .ref _)]) hx hb d_M_count_96 hl (k := 1) rfl (nI_add _ _) (by decide) rfl (fun ls hl => ?_)
      refine lv_goto (tgt := 73) hx hb d_M_count_99 (by decide) ?_
      exact ih (i + 1) (by omega) _ _ _ _ (by rw [← hu]; show _ = fCntNe (-1) (mLn u) d (i + 1) (if mLn u i = (-1) then acc else acc + 1); rw [if_neg h2]; rfl) hP hD hS (lv_sub hl [0, 1, 2, 3] rfl)
set_option maxHeartbeats 4000000 in
set_option maxRecDepth 100000 in
theorem lp_M_count6 {p : Program} {l : Launch} {e : Env} {s : State} {m : MethodId} {args : Array Value} {below : List Frame} {meth : Method} {c : Code} {Q : State → Prop} {D : va_G} {A : Nat → Prop} {G : Nat → Nat} {kc : Nat → ClassId} {c1 : Cond} (hx : p.tables.exec = Jvm.exec) (hb : c.code = b_M_count) (hml : c.maxLocals = 4) (hown : s.vm.findClass "TagMemoryModel" = some m.cls) (hts : ∀ w ∈ c1 :: TB, w.before args s = true) (hK : va_K D vwCl (tyMs kc) s) (hA : ∀ q, s.heap.size ≤ q → A q) (u : TM) (kk : ∀ (acc : Int32) (H : Heap) (locs : List Loc) (ls : Array Slot), acc = fCntNe 0 (mLc u) 16 0 0 → va_P D vwCl (wM G kc u) H → va_D A (wM G kc u) → va_S A s.heap H locs → lv_has ls 4 [(3, .int (nI 16)), (2, .int acc), (1, .int (nI 6)), (0, .ref (G 0))] → W p l e ({ frames := 1, cells := 0, slots := 0, locals := 22 }) s m args below meth c H locs 0 0 Q (F0 m 134 ls [])) : ∀ (d i : Nat), i + d = 16 → ∀ (acc : Int32) (H : Heap) (locs : List Loc) (ls : Array Slot), fCntNe 0 (mLc u) d i acc = fCntNe 0 (mLc u) 16 0 0 → va_P D vwCl (wM G kc u) H → va_D A (wM G kc u) → va_S A s.heap H locs → lv_has ls 4 [(3, .int (nI i)), (2, .int acc), (1, .int (nI 6)), (0, .ref (G 0))] → W p l e ({ frames := 1, cells := 0, slots := 0, locals := 22 }) s m args below meth c H locs 0 0 Q (F0 m 104 ls []) := by
  intro d
  induction d with
  | zero =>
    intro i hi acc H locs ls hu hP hD hS hl
    obtain rfl : i = 16 := by omega
    refine lv_iload_n hx hb d_M_count_104 rfl (lv_at hl 2 rfl) ?_
    refine lv_bipush (v := 6) hx hb d_M_count_105 (by decide) ?_
    refine lv_icmp_ne (tgt := 134) hx hb d_M_count_107 (by decide) (fun c9 => absurd (show nI 6 = nI 6 from rfl) c9) (fun _ => ?_)
    refine lv_iload_n hx hb d_M_count_110 rfl (lv_at hl 0 rfl) ?_
    refine lv_bipush (v := 16) hx hb d_M_count_111 (by decide) ?_
    refine lv_icmp_ge (tgt := 134) hx hb d_M_count_113 (by decide) (fun _ => ?_) (fun c9 => absurd (nI_le (a := 16) (b := 16) (by omega) (by omega)) c9)
    exact kk acc H locs ls hu hP hD hS hl
  | succ d ih =>
    intro i hi acc H locs ls hu hP hD hS hl
    have hiN : i < 16 := by omega
    by_cases h2 : mLc u i = 0
    · skip
      refine lv_iload_n hx hb d_M_count_104 rfl (lv_at hl 2 rfl) ?_
      refine lv_bipush (v := 6) hx hb d_M_count_105 (by decide) ?_
      refine lv_icmp_ne (tgt := 134) hx hb d_M_count_107 (by decide) (fun c9 => absurd (show nI 6 = nI 6 from rfl) c9) (fun _ => ?_)
      refine lv_iload_n hx hb d_M_count_110 rfl (lv_at hl 0 rfl) ?_
      refine lv_bipush (v := 16) hx hb d_M_count_111 (by decide) ?_
      refine lv_icmp_ge (tgt := 134) hx hb d_M_count_113 (by decide) (fun c9 => absurd c9 (nI_ge (a := i) (b := 16) (by omega) (by omega))) (fun _ => ?_)
      refine lv_aload_n hx hb d_M_count_116 rfl (lv_at hl 3 rfl) ?_
      refine xm_g5 hx hb hts hown hK hP d_M_count_117 ?_
      refine lv_iload_n hx hb d_M_count_120 rfl (lv_at hl 0 rfl) ?_
      refine xm_l5 hx hb hK hP i rfl (by omega) d_M_count_121 ?_
      refine lv_if_eq (tgt := 128) hx hb d_M_count_122 (by decide) (fun _ => ?_) (fun c9 => absurd h2 c9)
      refine lv_iinc (v := nI (i + 1)) (lv' := [(3, .int (nI (i + 1))), (2, .int _), (1, .int (nI 6)), (0, .ref _)]) hx hb d_M_count_128 hl (k := 0) rfl (nI_add _ _) (by decide) rfl (fun ls hl => ?_)
      refine lv_goto (tgt := 104) hx hb d_M_count_131 (by decide) ?_
      exact ih (i + 1) (by omega) _ _ _ _ (by rw [← hu]; show _ = fCntNe 0 (mLc u) d (i + 1) (if mLc u i = 0 then acc else acc + 1); rw [if_pos h2]) hP hD hS (lv_sub hl [0, 1, 2, 3] rfl)
    · skip
      refine lv_iload_n hx hb d_M_count_104 rfl (lv_at hl 2 rfl) ?_
      refine lv_bipush (v := 6) hx hb d_M_count_105 (by decide) ?_
      refine lv_icmp_ne (tgt := 134) hx hb d_M_count_107 (by decide) (fun c9 => absurd (show nI 6 = nI 6 from rfl) c9) (fun _ => ?_)
      refine lv_iload_n hx hb d_M_count_110 rfl (lv_at hl 0 rfl) ?_
      refine lv_bipush (v := 16) hx hb d_M_count_111 (by decide) ?_
      refine lv_icmp_ge (tgt := 134) hx hb d_M_count_113 (by decide) (fun c9 => absurd c9 (nI_ge (a := i) (b := 16) (by omega) (by omega))) (fun _ => ?_)
      refine lv_aload_n hx hb d_M_count_116 rfl (lv_at hl 3 rfl) ?_
      refine xm_g5 hx hb hts hown hK hP d_M_count_117 ?_
      refine lv_iload_n hx hb d_M_count_120 rfl (lv_at hl 0 rfl) ?_
      refine xm_l5 hx hb hK hP i rfl (by omega) d_M_count_121 ?_
      refine lv_if_eq (tgt := 128) hx hb d_M_count_122 (by decide) (fun c9 => absurd c9 h2) (fun _ => ?_)
      refine lv_iinc (lv' := [(2, .int _), (3, .int (nI i)), (1, .int (nI 6)), (0, .ref _)]) hx hb d_M_count_125 hl (k := 1) rfl rfl (by decide) rfl (fun ls hl => ?_)
      refine lv_iinc (v := nI (i + 1)) (lv' := [(3, .int (nI (i + 1))), (2, .int _), (1, .int (nI 6)), (0, .ref _)]) hx hb d_M_count_128 hl (k := 1) rfl (nI_add _ _) (by decide) rfl (fun ls hl => ?_)
      refine lv_goto (tgt := 104) hx hb d_M_count_131 (by decide) ?_
      exact ih (i + 1) (by omega) _ _ _ _ (by rw [← hu]; show _ = fCntNe 0 (mLc u) d (i + 1) (if mLc u i = 0 then acc else acc + 1); rw [if_neg h2]; rfl) hP hD hS (lv_sub hl [0, 1, 2, 3] rfl)
set_option maxHeartbeats 4000000 in
set_option maxRecDepth 100000 in
theorem lp_M_count7 {p : Program} {l : Launch} {e : Env} {s : State} {m : MethodId} {args : Array Value} {below : List Frame} {meth : Method} {c : Code} {Q : State → Prop} {D : va_G} {A : Nat → Prop} {G : Nat → Nat} {kc : Nat → ClassId} {c1 : Cond} (hx : p.tables.exec = Jvm.exec) (hb : c.code = b_M_count) (hml : c.maxLocals = 4) (hown : s.vm.findClass "TagMemoryModel" = some m.cls) (hts : ∀ w ∈ c1 :: TB, w.before args s = true) (hK : va_K D vwCl (tyMs kc) s) (hA : ∀ q, s.heap.size ≤ q → A q) (u : TM) (hI : mI u) (kk : ∀ (acc : Int32) (H : Heap) (locs : List Loc) (ls : Array Slot), acc = fCntNe (-1) (mKr u) 4 0 0 → va_P D vwCl (wM G kc u) H → va_D A (wM G kc u) → va_S A s.heap H locs → lv_has ls 4 [(3, .int (nI 4)), (2, .int acc), (1, .int (nI 7)), (0, .ref (G 0))] → W p l e ({ frames := 1, cells := 0, slots := 0, locals := 22 }) s m args below meth c H locs 0 0 Q (F0 m 165 ls [])) : ∀ (d i : Nat), i + d = 4 → ∀ (acc : Int32) (H : Heap) (locs : List Loc) (ls : Array Slot), fCntNe (-1) (mKr u) d i acc = fCntNe (-1) (mKr u) 4 0 0 → va_P D vwCl (wM G kc u) H → va_D A (wM G kc u) → va_S A s.heap H locs → lv_has ls 4 [(3, .int (nI i)), (2, .int acc), (1, .int (nI 7)), (0, .ref (G 0))] → W p l e ({ frames := 1, cells := 0, slots := 0, locals := 22 }) s m args below meth c H locs 0 0 Q (F0 m 136 ls []) := by
  intro d
  induction d with
  | zero =>
    intro i hi acc H locs ls hu hP hD hS hl
    obtain rfl : i = 4 := by omega
    refine lv_iload_n hx hb d_M_count_136 rfl (lv_at hl 2 rfl) ?_
    refine lv_bipush (v := 7) hx hb d_M_count_137 (by decide) ?_
    refine lv_icmp_ne (tgt := 165) hx hb d_M_count_139 (by decide) (fun c9 => absurd (show nI 7 = nI 7 from rfl) c9) (fun _ => ?_)
    refine lv_iload_n hx hb d_M_count_142 rfl (lv_at hl 0 rfl) ?_
    refine lv_iconst (v := 4) hx hb d_M_count_143 (by decide) ?_
    refine lv_icmp_ge (tgt := 165) hx hb d_M_count_144 (by decide) (fun _ => ?_) (fun c9 => absurd (nI_le (a := 4) (b := 4) (by omega) (by omega)) c9)
    exact kk acc H locs ls hu hP hD hS hl
  | succ d ih =>
    intro i hi acc H locs ls hu hP hD hS hl
    have hiN : i < 4 := by omega
    by_cases h2 : mKr u i = (-1)
    · skip
      refine lv_iload_n hx hb d_M_count_136 rfl (lv_at hl 2 rfl) ?_
      refine lv_bipush (v := 7) hx hb d_M_count_137 (by decide) ?_
      refine lv_icmp_ne (tgt := 165) hx hb d_M_count_139 (by decide) (fun c9 => absurd (show nI 7 = nI 7 from rfl) c9) (fun _ => ?_)
      refine lv_iload_n hx hb d_M_count_142 rfl (lv_at hl 0 rfl) ?_
      refine lv_iconst (v := 4) hx hb d_M_count_143 (by decide) ?_
      refine lv_icmp_ge (tgt := 165) hx hb d_M_count_144 (by decide) (fun c9 => absurd c9 (nI_ge (a := i) (b := 4) (by omega) (by omega))) (fun _ => ?_)
      refine lv_aload_n hx hb d_M_count_147 rfl (lv_at hl 3 rfl) ?_
      refine xm_g6 hx hb hts hown hK hP d_M_count_148 ?_
      refine lv_iload_n hx hb d_M_count_151 rfl (lv_at hl 0 rfl) ?_
      refine xm_l6 hx hb hK hP i rfl (by omega) d_M_count_152 ?_
      refine lv_if_lt (tgt := 159) hx hb d_M_count_153 (by decide) (fun _ => ?_) (fun c9 => absurd (by rw [h2]; decide) c9)
      refine lv_iinc (v := nI (i + 1)) (lv' := [(3, .int (nI (i + 1))), (2, .int _), (1, .int (nI 7)), (0, .ref _)]) hx hb d_M_count_159 hl (k := 0) rfl (nI_add _ _) (by decide) rfl (fun ls hl => ?_)
      refine lv_goto (tgt := 136) hx hb d_M_count_162 (by decide) ?_
      exact ih (i + 1) (by omega) _ _ _ _ (by rw [← hu]; show _ = fCntNe (-1) (mKr u) d (i + 1) (if mKr u i = (-1) then acc else acc + 1); rw [if_pos h2]) hP hD hS (lv_sub hl [0, 1, 2, 3] rfl)
    · skip
      obtain ⟨k, hk0, hk1⟩ : ∃ k, k < 512 ∧ mKr u i = nI k := by obtain ⟨k, a, _, b⟩ := (hI.1 i hiN).resolve_left h2; exact ⟨k, by omega, b⟩
      refine lv_iload_n hx hb d_M_count_136 rfl (lv_at hl 2 rfl) ?_
      refine lv_bipush (v := 7) hx hb d_M_count_137 (by decide) ?_
      refine lv_icmp_ne (tgt := 165) hx hb d_M_count_139 (by decide) (fun c9 => absurd (show nI 7 = nI 7 from rfl) c9) (fun _ => ?_)
      refine lv_iload_n hx hb d_M_count_142 rfl (lv_at hl 0 rfl) ?_
      refine lv_iconst (v := 4) hx hb d_M_count_143 (by decide) ?_
      refine lv_icmp_ge (tgt := 165) hx hb d_M_count_144 (by decide) (fun c9 => absurd c9 (nI_ge (a := i) (b := 4) (by omega) (by omega))) (fun _ => ?_)
      refine lv_aload_n hx hb d_M_count_147 rfl (lv_at hl 3 rfl) ?_
      refine xm_g6 hx hb hts hown hK hP d_M_count_148 ?_
      refine lv_iload_n hx hb d_M_count_151 rfl (lv_at hl 0 rfl) ?_
      refine xm_l6 hx hb hK hP i rfl (by omega) d_M_count_152 ?_
      refine lv_if_lt (tgt := 159) hx hb d_M_count_153 (by decide) (fun c9 => absurd c9 (by rw [hk1]; exact nI_pos (by omega))) (fun _ => ?_)
      refine lv_iinc (lv' := [(2, .int _), (3, .int (nI i)), (1, .int (nI 7)), (0, .ref _)]) hx hb d_M_count_156 hl (k := 1) rfl rfl (by decide) rfl (fun ls hl => ?_)
      refine lv_iinc (v := nI (i + 1)) (lv' := [(3, .int (nI (i + 1))), (2, .int _), (1, .int (nI 7)), (0, .ref _)]) hx hb d_M_count_159 hl (k := 1) rfl (nI_add _ _) (by decide) rfl (fun ls hl => ?_)
      refine lv_goto (tgt := 136) hx hb d_M_count_162 (by decide) ?_
      exact ih (i + 1) (by omega) _ _ _ _ (by rw [← hu]; show _ = fCntNe (-1) (mKr u) d (i + 1) (if mKr u i = (-1) then acc else acc + 1); rw [if_neg h2]; rfl) hP hD hS (lv_sub hl [0, 1, 2, 3] rfl)
set_option maxHeartbeats 4000000 in
set_option maxRecDepth 100000 in
theorem lp_M_count8 {p : Program} {l : Launch} {e : Env} {s : State} {m : MethodId} {args : Array Value} {below : List Frame} {meth : Method} {c : Code} {Q : State → Prop} {D : va_G} {A : Nat → Prop} {G : Nat → Nat} {kc : Nat → ClassId} {c1 : Cond} (hx : p.tables.exec = Jvm.exec) (hb : c.code = b_M_count) (hml : c.maxLocals = 4) (hown : s.vm.findClass "TagMemoryModel" = some m.cls) (hts : ∀ w ∈ c1 :: TB, w.before args s = true) (hK : va_K D vwCl (tyMs kc) s) (hA : ∀ q, s.heap.size ≤ q → A q) (u : TM) (kk : ∀ (acc : Int32) (H : Heap) (locs : List Loc) (ls : Array Slot), acc = fCntNe 0 (mRc u) 4 0 0 → va_P D vwCl (wM G kc u) H → va_D A (wM G kc u) → va_S A s.heap H locs → lv_has ls 4 [(3, .int (nI 4)), (2, .int acc), (1, .int (nI 8)), (0, .ref (G 0))] → W p l e ({ frames := 1, cells := 0, slots := 0, locals := 22 }) s m args below meth c H locs 0 0 Q (F0 m 196 ls [])) : ∀ (d i : Nat), i + d = 4 → ∀ (acc : Int32) (H : Heap) (locs : List Loc) (ls : Array Slot), fCntNe 0 (mRc u) d i acc = fCntNe 0 (mRc u) 4 0 0 → va_P D vwCl (wM G kc u) H → va_D A (wM G kc u) → va_S A s.heap H locs → lv_has ls 4 [(3, .int (nI i)), (2, .int acc), (1, .int (nI 8)), (0, .ref (G 0))] → W p l e ({ frames := 1, cells := 0, slots := 0, locals := 22 }) s m args below meth c H locs 0 0 Q (F0 m 167 ls []) := by
  intro d
  induction d with
  | zero =>
    intro i hi acc H locs ls hu hP hD hS hl
    obtain rfl : i = 4 := by omega
    refine lv_iload_n hx hb d_M_count_167 rfl (lv_at hl 2 rfl) ?_
    refine lv_bipush (v := 8) hx hb d_M_count_168 (by decide) ?_
    refine lv_icmp_ne (tgt := 196) hx hb d_M_count_170 (by decide) (fun c9 => absurd (show nI 8 = nI 8 from rfl) c9) (fun _ => ?_)
    refine lv_iload_n hx hb d_M_count_173 rfl (lv_at hl 0 rfl) ?_
    refine lv_iconst (v := 4) hx hb d_M_count_174 (by decide) ?_
    refine lv_icmp_ge (tgt := 196) hx hb d_M_count_175 (by decide) (fun _ => ?_) (fun c9 => absurd (nI_le (a := 4) (b := 4) (by omega) (by omega)) c9)
    exact kk acc H locs ls hu hP hD hS hl
  | succ d ih =>
    intro i hi acc H locs ls hu hP hD hS hl
    have hiN : i < 4 := by omega
    by_cases h2 : mRc u i = 0
    · skip
      refine lv_iload_n hx hb d_M_count_167 rfl (lv_at hl 2 rfl) ?_
      refine lv_bipush (v := 8) hx hb d_M_count_168 (by decide) ?_
      refine lv_icmp_ne (tgt := 196) hx hb d_M_count_170 (by decide) (fun c9 => absurd (show nI 8 = nI 8 from rfl) c9) (fun _ => ?_)
      refine lv_iload_n hx hb d_M_count_173 rfl (lv_at hl 0 rfl) ?_
      refine lv_iconst (v := 4) hx hb d_M_count_174 (by decide) ?_
      refine lv_icmp_ge (tgt := 196) hx hb d_M_count_175 (by decide) (fun c9 => absurd c9 (nI_ge (a := i) (b := 4) (by omega) (by omega))) (fun _ => ?_)
      refine lv_aload_n hx hb d_M_count_178 rfl (lv_at hl 3 rfl) ?_
      refine xm_g7 hx hb hts hown hK hP d_M_count_179 ?_
      refine lv_iload_n hx hb d_M_count_182 rfl (lv_at hl 0 rfl) ?_
      refine xm_l7 hx hb hK hP i rfl (by omega) d_M_count_183 ?_
      refine lv_if_eq (tgt := 190) hx hb d_M_count_184 (by decide) (fun _ => ?_) (fun c9 => absurd h2 c9)
      refine lv_iinc (v := nI (i + 1)) (lv' := [(3, .int (nI (i + 1))), (2, .int _), (1, .int (nI 8)), (0, .ref _)]) hx hb d_M_count_190 hl (k := 0) rfl (nI_add _ _) (by decide) rfl (fun ls hl => ?_)
      refine lv_goto (tgt := 167) hx hb d_M_count_193 (by decide) ?_
      exact ih (i + 1) (by omega) _ _ _ _ (by rw [← hu]; show _ = fCntNe 0 (mRc u) d (i + 1) (if mRc u i = 0 then acc else acc + 1); rw [if_pos h2]) hP hD hS (lv_sub hl [0, 1, 2, 3] rfl)
    · skip
      refine lv_iload_n hx hb d_M_count_167 rfl (lv_at hl 2 rfl) ?_
      refine lv_bipush (v := 8) hx hb d_M_count_168 (by decide) ?_
      refine lv_icmp_ne (tgt := 196) hx hb d_M_count_170 (by decide) (fun c9 => absurd (show nI 8 = nI 8 from rfl) c9) (fun _ => ?_)
      refine lv_iload_n hx hb d_M_count_173 rfl (lv_at hl 0 rfl) ?_
      refine lv_iconst (v := 4) hx hb d_M_count_174 (by decide) ?_
      refine lv_icmp_ge (tgt := 196) hx hb d_M_count_175 (by decide) (fun c9 => absurd c9 (nI_ge (a := i) (b := 4) (by omega) (by omega))) (fun _ => ?_)
      refine lv_aload_n hx hb d_M_count_178 rfl (lv_at hl 3 rfl) ?_
      refine xm_g7 hx hb hts hown hK hP d_M_count_179 ?_
      refine lv_iload_n hx hb d_M_count_182 rfl (lv_at hl 0 rfl) ?_
      refine xm_l7 hx hb hK hP i rfl (by omega) d_M_count_183 ?_
      refine lv_if_eq (tgt := 190) hx hb d_M_count_184 (by decide) (fun c9 => absurd c9 h2) (fun _ => ?_)
      refine lv_iinc (lv' := [(2, .int _), (3, .int (nI i)), (1, .int (nI 8)), (0, .ref _)]) hx hb d_M_count_187 hl (k := 1) rfl rfl (by decide) rfl (fun ls hl => ?_)
      refine lv_iinc (v := nI (i + 1)) (lv' := [(3, .int (nI (i + 1))), (2, .int _), (1, .int (nI 8)), (0, .ref _)]) hx hb d_M_count_190 hl (k := 1) rfl (nI_add _ _) (by decide) rfl (fun ls hl => ?_)
      refine lv_goto (tgt := 167) hx hb d_M_count_193 (by decide) ?_
      exact ih (i + 1) (by omega) _ _ _ _ (by rw [← hu]; show _ = fCntNe 0 (mRc u) d (i + 1) (if mRc u i = 0 then acc else acc + 1); rw [if_neg h2]; rfl) hP hD hS (lv_sub hl [0, 1, 2, 3] rfl)
set_option maxHeartbeats 4000000 in
set_option maxRecDepth 100000 in
theorem c_M_count (l : Launch) (D : va_G) (G : Nat → Nat) (kc : Nat → ClassId) (sz : Nat) (u : TM) (w : Nat) (hw : w < 9) (hI : mI u) : XMi l y_M_count k_M_count { frames := 1, cells := 0, slots := 0, locals := 22 } D vwCl (wM G kc) (tyMs kc) u sz [.ref (G 0), .int (nI w)] (fun r u1 => r = rmCount u w ∧ u1 = nTh u 0) := by
  by_cases h4 : w < 4
  · skip
    refine xb_ofi (cc := b_M_count) (maxL := 4) (ret := some .int) (by decide) rfl (Nat.le_of_ble_eq_true rfl) ?_
    intro p e s m below meth c A ls hsz hx hb hml hr hlocks hts hown hP hK hD hA hl
    have hl : lv_has ls 4 [(0, .ref (G 0)), (1, .int (nI w))] := hl
    have hS : va_S A s.heap s.heap [] := va_S.rf
    refine lv_aload_n hx hb d_M_count_0 rfl (lv_at hl 0 rfl) ?_
    refine lv_iload_n hx hb d_M_count_1 rfl (lv_at hl 1 rfl) ?_
    refine lv_if_lt (tgt := 11) hx hb d_M_count_2 (by decide) (fun c9 => absurd c9 (nI_pos (by omega))) (fun _ => ?_)
    refine lv_iload_n hx hb d_M_count_5 rfl (lv_at hl 1 rfl) ?_
    refine lv_bipush (v := 8) hx hb d_M_count_6 (by decide) ?_
    refine lv_icmp_le (tgt := 15) hx hb d_M_count_8 (by decide) (fun _ => ?_) (fun c9 => absurd (nI_le (a := w) (b := 8) (by omega) (by decide)) c9)
    refine lv_iconst (v := 0) hx hb d_M_count_15 (by decide) ?_
    refine lv_iconst (v := 1) hx hb d_M_count_16 (by decide) ?_
    refine xc_calli (n := 2) (C := "TagMemoryModel") hx hb hml hown hts (c_M_bad l D G kc _ _ _ _ (Or.inl rfl)) (tb_V wm_390 wm_392 ws_17 wm_2 wm_393) rfl rfl rfl (by decide +kernel) ⟨Nat.le_of_ble_eq_true rfl, Nat.le_of_ble_eq_true rfl⟩ hK hP hD hS hA rfl rfl rfl rfl hl.1 rfl (Nat.le_of_ble_eq_true rfl) d_M_count_17 ⟨Nat.zero_le _, Nat.zero_le _⟩ (fun r u1 H locs hw hP hD hS => ?_)
    obtain ⟨e1, e2⟩ := hw
    subst e1
    rw [e2] at hP hD; clear e2 u1
    have hP : va_P D vwCl (wM G kc (nTh u 0)) H := hP
    have hD : va_D A (wM G kc (nTh u 0)) := hD
    refine lv_if_eq (tgt := 25) hx hb d_M_count_20 (by decide) (fun _ => ?_) (fun c9 => absurd rfl c9)
    refine lv_iload_n hx hb d_M_count_25 rfl (lv_at hl 1 rfl) ?_
    refine lv_iconst (v := 4) hx hb d_M_count_26 (by decide) ?_
    refine lv_icmp_ge (tgt := 37) hx hb d_M_count_27 (by decide) (fun c9 => absurd c9 (nI_ge (a := w) (b := 4) (by omega) (by omega))) (fun _ => ?_)
    refine lv_aload_n hx hb d_M_count_30 rfl (lv_at hl 0 rfl) ?_
    refine xm_g8 hx hb hts hown hK hP d_M_count_31 ?_
    refine lv_iload_n hx hb d_M_count_34 rfl (lv_at hl 1 rfl) ?_
    refine xm_l8 hx hb hK hP w rfl (by omega) d_M_count_35 ?_
    exact xc_iret hx hb hr hlocks hP hK hD hS ⟨by unfold rmCount; rw [if_pos h4]; rfl, rfl⟩ d_M_count_36
  · obtain rfl | rfl | rfl | rfl | rfl : w = 4 ∨ w = 5 ∨ w = 6 ∨ w = 7 ∨ w = 8 := by omega
    · skip
      refine xb_ofi (cc := b_M_count) (maxL := 4) (ret := some .int) (by decide) rfl (Nat.le_of_ble_eq_true rfl) ?_
      intro p e s m below meth c A ls hsz hx hb hml hr hlocks hts hown hP hK hD hA hl
      have hl : lv_has ls 4 [(0, .ref (G 0)), (1, .int (nI 4))] := hl
      have hS : va_S A s.heap s.heap [] := va_S.rf
      refine lv_aload_n hx hb d_M_count_0 rfl (lv_at hl 0 rfl) ?_
      refine lv_iload_n hx hb d_M_count_1 rfl (lv_at hl 1 rfl) ?_
      refine lv_if_lt (tgt := 11) hx hb d_M_count_2 (by decide) (fun c9 => absurd c9 (nI_pos (by omega))) (fun _ => ?_)
      refine lv_iload_n hx hb d_M_count_5 rfl (lv_at hl 1 rfl) ?_
      refine lv_bipush (v := 8) hx hb d_M_count_6 (by decide) ?_
      refine lv_icmp_le (tgt := 15) hx hb d_M_count_8 (by decide) (fun _ => ?_) (fun c9 => absurd (nI_le (a := 4) (b := 8) (by omega) (by decide)) c9)
      refine lv_iconst (v := 0) hx hb d_M_count_15 (by decide) ?_
      refine lv_iconst (v := 1) hx hb d_M_count_16 (by decide) ?_
      refine xc_calli (n := 2) (C := "TagMemoryModel") hx hb hml hown hts (c_M_bad l D G kc _ _ _ _ (Or.inl rfl)) (tb_V wm_390 wm_392 ws_17 wm_2 wm_393) rfl rfl rfl (by decide +kernel) ⟨Nat.le_of_ble_eq_true rfl, Nat.le_of_ble_eq_true rfl⟩ hK hP hD hS hA rfl rfl rfl rfl hl.1 rfl (Nat.le_of_ble_eq_true rfl) d_M_count_17 ⟨Nat.zero_le _, Nat.zero_le _⟩ (fun r u1 H locs hw hP hD hS => ?_)
      obtain ⟨e1, e2⟩ := hw
      subst e1
      rw [e2] at hP hD; clear e2 u1
      have hP : va_P D vwCl (wM G kc (nTh u 0)) H := hP
      have hD : va_D A (wM G kc (nTh u 0)) := hD
      refine lv_if_eq (tgt := 25) hx hb d_M_count_20 (by decide) (fun _ => ?_) (fun c9 => absurd rfl c9)
      refine lv_iload_n hx hb d_M_count_25 rfl (lv_at hl 1 rfl) ?_
      refine lv_iconst (v := 4) hx hb d_M_count_26 (by decide) ?_
      refine lv_icmp_ge (tgt := 37) hx hb d_M_count_27 (by decide) (fun _ => ?_) (fun c9 => absurd (nI_le (a := 4) (b := 4) (by omega) (by omega)) c9)
      refine lv_iconst (v := 0) hx hb d_M_count_37 (by decide) ?_
      refine lv_istore_n (lv' := [(2, .int (nI 0)), (0, .ref _), (1, .int (nI 4))]) hx hb d_M_count_38 rfl hl (by decide) rfl (fun ls hl => ?_)
      refine lv_iload_n hx hb d_M_count_39 rfl (lv_at hl 2 rfl) ?_
      refine lv_iconst (v := 4) hx hb d_M_count_40 (by decide) ?_
      refine lv_icmp_ne (tgt := 71) hx hb d_M_count_41 (by decide) (fun c9 => absurd (show nI 4 = nI 4 from rfl) c9) (fun _ => ?_)
      refine lv_iconst (v := 0) hx hb d_M_count_44 (by decide) ?_
      refine lv_istore_n (lv' := [(3, .int (nI 0)), (2, .int (nI 0)), (0, .ref _), (1, .int (nI 4))]) hx hb d_M_count_45 rfl hl (by decide) rfl (fun ls hl => ?_)
      refine lp_M_count4 hx hb hml hown hts hK hA (nTh u 0) ?_ 1024 0 rfl _ _ _ _ rfl hP hD hS (lv_sub hl [0, 1, 3, 2] rfl)
      intro acc H locs ls he hP hD hS hl
      refine lv_iconst (v := 0) hx hb d_M_count_71 (by decide) ?_
      refine lv_istore_n (lv' := [(3, .int (nI 0)), (2, .int _), (1, .int (nI 4)), (0, .ref _)]) hx hb d_M_count_72 rfl hl (by decide) rfl (fun ls hl => ?_)
      refine lv_iload_n hx hb d_M_count_73 rfl (lv_at hl 2 rfl) ?_
      refine lv_iconst (v := 5) hx hb d_M_count_74 (by decide) ?_
      refine lv_icmp_ne (tgt := 102) hx hb d_M_count_75 (by decide) (fun _ => ?_) (fun c9 => absurd c9 (show ¬ nI 4 = nI 5 from by decide))
      refine lv_iconst (v := 0) hx hb d_M_count_102 (by decide) ?_
      refine lv_istore_n (lv' := [(3, .int (nI 0)), (2, .int _), (1, .int (nI 4)), (0, .ref _)]) hx hb d_M_count_103 rfl hl (by decide) rfl (fun ls hl => ?_)
      refine lv_iload_n hx hb d_M_count_104 rfl (lv_at hl 2 rfl) ?_
      refine lv_bipush (v := 6) hx hb d_M_count_105 (by decide) ?_
      refine lv_icmp_ne (tgt := 134) hx hb d_M_count_107 (by decide) (fun _ => ?_) (fun c9 => absurd c9 (show ¬ nI 4 = nI 6 from by decide))
      refine lv_iconst (v := 0) hx hb d_M_count_134 (by decide) ?_
      refine lv_istore_n (lv' := [(3, .int (nI 0)), (2, .int _), (1, .int (nI 4)), (0, .ref _)]) hx hb d_M_count_135 rfl hl (by decide) rfl (fun ls hl => ?_)
      refine lv_iload_n hx hb d_M_count_136 rfl (lv_at hl 2 rfl) ?_
      refine lv_bipush (v := 7) hx hb d_M_count_137 (by decide) ?_
      refine lv_icmp_ne (tgt := 165) hx hb d_M_count_139 (by decide) (fun _ => ?_) (fun c9 => absurd c9 (show ¬ nI 4 = nI 7 from by decide))
      refine lv_iconst (v := 0) hx hb d_M_count_165 (by decide) ?_
      refine lv_istore_n (lv' := [(3, .int (nI 0)), (2, .int _), (1, .int (nI 4)), (0, .ref _)]) hx hb d_M_count_166 rfl hl (by decide) rfl (fun ls hl => ?_)
      refine lv_iload_n hx hb d_M_count_167 rfl (lv_at hl 2 rfl) ?_
      refine lv_bipush (v := 8) hx hb d_M_count_168 (by decide) ?_
      refine lv_icmp_ne (tgt := 196) hx hb d_M_count_170 (by decide) (fun _ => ?_) (fun c9 => absurd c9 (show ¬ nI 4 = nI 8 from by decide))
      refine lv_iload_n hx hb d_M_count_196 rfl (lv_at hl 1 rfl) ?_
      exact xc_iret hx hb hr hlocks hP hK hD hS ⟨by unfold rmCount; rw [if_neg (by decide), if_pos rfl]; exact he, rfl⟩ d_M_count_197
    · skip
      refine xb_ofi (cc := b_M_count) (maxL := 4) (ret := some .int) (by decide) rfl (Nat.le_of_ble_eq_true rfl) ?_
      intro p e s m below meth c A ls hsz hx hb hml hr hlocks hts hown hP hK hD hA hl
      have hl : lv_has ls 4 [(0, .ref (G 0)), (1, .int (nI 5))] := hl
      have hS : va_S A s.heap s.heap [] := va_S.rf
      refine lv_aload_n hx hb d_M_count_0 rfl (lv_at hl 0 rfl) ?_
      refine lv_iload_n hx hb d_M_count_1 rfl (lv_at hl 1 rfl) ?_
      refine lv_if_lt (tgt := 11) hx hb d_M_count_2 (by decide) (fun c9 => absurd c9 (nI_pos (by omega))) (fun _ => ?_)
      refine lv_iload_n hx hb d_M_count_5 rfl (lv_at hl 1 rfl) ?_
      refine lv_bipush (v := 8) hx hb d_M_count_6 (by decide) ?_
      refine lv_icmp_le (tgt := 15) hx hb d_M_count_8 (by decide) (fun _ => ?_) (fun c9 => absurd (nI_le (a := 5) (b := 8) (by omega) (by decide)) c9)
      refine lv_iconst (v := 0) hx hb d_M_count_15 (by decide) ?_
      refine lv_iconst (v := 1) hx hb d_M_count_16 (by decide) ?_
      refine xc_calli (n := 2) (C := "TagMemoryModel") hx hb hml hown hts (c_M_bad l D G kc _ _ _ _ (Or.inl rfl)) (tb_V wm_390 wm_392 ws_17 wm_2 wm_393) rfl rfl rfl (by decide +kernel) ⟨Nat.le_of_ble_eq_true rfl, Nat.le_of_ble_eq_true rfl⟩ hK hP hD hS hA rfl rfl rfl rfl hl.1 rfl (Nat.le_of_ble_eq_true rfl) d_M_count_17 ⟨Nat.zero_le _, Nat.zero_le _⟩ (fun r u1 H locs hw hP hD hS => ?_)
      obtain ⟨e1, e2⟩ := hw
      subst e1
      rw [e2] at hP hD; clear e2 u1
      have hP : va_P D vwCl (wM G kc (nTh u 0)) H := hP
      have hD : va_D A (wM G kc (nTh u 0)) := hD
      refine lv_if_eq (tgt := 25) hx hb d_M_count_20 (by decide) (fun _ => ?_) (fun c9 => absurd rfl c9)
      refine lv_iload_n hx hb d_M_count_25 rfl (lv_at hl 1 rfl) ?_
      refine lv_iconst (v := 4) hx hb d_M_count_26 (by decide) ?_
      refine lv_icmp_ge (tgt := 37) hx hb d_M_count_27 (by decide) (fun _ => ?_) (fun c9 => absurd (nI_le (a := 4) (b := 5) (by omega) (by omega)) c9)
      refine lv_iconst (v := 0) hx hb d_M_count_37 (by decide) ?_
      refine lv_istore_n (lv' := [(2, .int (nI 0)), (0, .ref _), (1, .int (nI 5))]) hx hb d_M_count_38 rfl hl (by decide) rfl (fun ls hl => ?_)
      refine lv_iload_n hx hb d_M_count_39 rfl (lv_at hl 2 rfl) ?_
      refine lv_iconst (v := 4) hx hb d_M_count_40 (by decide) ?_
      refine lv_icmp_ne (tgt := 71) hx hb d_M_count_41 (by decide) (fun _ => ?_) (fun c9 => absurd c9 (show ¬ nI 5 = nI 4 from by decide))
      refine lv_iconst (v := 0) hx hb d_M_count_71 (by decide) ?_
      refine lv_istore_n (lv' := [(3, .int (nI 0)), (2, .int (nI 0)), (0, .ref _), (1, .int (nI 5))]) hx hb d_M_count_72 rfl hl (by decide) rfl (fun ls hl => ?_)
      refine lp_M_count5 hx hb hml hown hts hK hA (nTh u 0) (by exact hI) ?_ 16 0 rfl _ _ _ _ rfl hP hD hS (lv_sub hl [0, 1, 3, 2] rfl)
      intro acc H locs ls he hP hD hS hl
      refine lv_iconst (v := 0) hx hb d_M_count_102 (by decide) ?_
      refine lv_istore_n (lv' := [(3, .int (nI 0)), (2, .int _), (1, .int (nI 5)), (0, .ref _)]) hx hb d_M_count_103 rfl hl (by decide) rfl (fun ls hl => ?_)
      refine lv_iload_n hx hb d_M_count_104 rfl (lv_at hl 2 rfl) ?_
      refine lv_bipush (v := 6) hx hb d_M_count_105 (by decide) ?_
      refine lv_icmp_ne (tgt := 134) hx hb d_M_count_107 (by decide) (fun _ => ?_) (fun c9 => absurd c9 (show ¬ nI 5 = nI 6 from by decide))
      refine lv_iconst (v := 0) hx hb d_M_count_134 (by decide) ?_
      refine lv_istore_n (lv' := [(3, .int (nI 0)), (2, .int _), (1, .int (nI 5)), (0, .ref _)]) hx hb d_M_count_135 rfl hl (by decide) rfl (fun ls hl => ?_)
      refine lv_iload_n hx hb d_M_count_136 rfl (lv_at hl 2 rfl) ?_
      refine lv_bipush (v := 7) hx hb d_M_count_137 (by decide) ?_
      refine lv_icmp_ne (tgt := 165) hx hb d_M_count_139 (by decide) (fun _ => ?_) (fun c9 => absurd c9 (show ¬ nI 5 = nI 7 from by decide))
      refine lv_iconst (v := 0) hx hb d_M_count_165 (by decide) ?_
      refine lv_istore_n (lv' := [(3, .int (nI 0)), (2, .int _), (1, .int (nI 5)), (0, .ref _)]) hx hb d_M_count_166 rfl hl (by decide) rfl (fun ls hl => ?_)
      refine lv_iload_n hx hb d_M_count_167 rfl (lv_at hl 2 rfl) ?_
      refine lv_bipush (v := 8) hx hb d_M_count_168 (by decide) ?_
      refine lv_icmp_ne (tgt := 196) hx hb d_M_count_170 (by decide) (fun _ => ?_) (fun c9 => absurd c9 (show ¬ nI 5 = nI 8 from by decide))
      refine lv_iload_n hx hb d_M_count_196 rfl (lv_at hl 1 rfl) ?_
      exact xc_iret hx hb hr hlocks hP hK hD hS ⟨by unfold rmCount; rw [if_neg (by decide), if_neg (by decide), if_pos rfl]; exact he, rfl⟩ d_M_count_197
    · skip
      refine xb_ofi (cc := b_M_count) (maxL := 4) (ret := some .int) (by decide) rfl (Nat.le_of_ble_eq_true rfl) ?_
      intro p e s m below meth c A ls hsz hx hb hml hr hlocks hts hown hP hK hD hA hl
      have hl : lv_has ls 4 [(0, .ref (G 0)), (1, .int (nI 6))] := hl
      have hS : va_S A s.heap s.heap [] := va_S.rf
      refine lv_aload_n hx hb d_M_count_0 rfl (lv_at hl 0 rfl) ?_
      refine lv_iload_n hx hb d_M_count_1 rfl (lv_at hl 1 rfl) ?_
      refine lv_if_lt (tgt := 11) hx hb d_M_count_2 (by decide) (fun c9 => absurd c9 (nI_pos (by omega))) (fun _ => ?_)
      refine lv_iload_n hx hb d_M_count_5 rfl (lv_at hl 1 rfl) ?_
      refine lv_bipush (v := 8) hx hb d_M_count_6 (by decide) ?_
      refine lv_icmp_le (tgt := 15) hx hb d_M_count_8 (by decide) (fun _ => ?_) (fun c9 => absurd (nI_le (a := 6) (b := 8) (by omega) (by decide)) c9)
      refine lv_iconst (v := 0) hx hb d_M_count_15 (by decide) ?_
      refine lv_iconst (v := 1) hx hb d_M_count_16 (by decide) ?_
      refine xc_calli (n := 2) (C := "TagMemoryModel") hx hb hml hown hts (c_M_bad l D G kc _ _ _ _ (Or.inl rfl)) (tb_V wm_390 wm_392 ws_17 wm_2 wm_393) rfl rfl rfl (by decide +kernel) ⟨Nat.le_of_ble_eq_true rfl, Nat.le_of_ble_eq_true rfl⟩ hK hP hD hS hA rfl rfl rfl rfl hl.1 rfl (Nat.le_of_ble_eq_true rfl) d_M_count_17 ⟨Nat.zero_le _, Nat.zero_le _⟩ (fun r u1 H locs hw hP hD hS => ?_)
      obtain ⟨e1, e2⟩ := hw
      subst e1
      rw [e2] at hP hD; clear e2 u1
      have hP : va_P D vwCl (wM G kc (nTh u 0)) H := hP
      have hD : va_D A (wM G kc (nTh u 0)) := hD
      refine lv_if_eq (tgt := 25) hx hb d_M_count_20 (by decide) (fun _ => ?_) (fun c9 => absurd rfl c9)
      refine lv_iload_n hx hb d_M_count_25 rfl (lv_at hl 1 rfl) ?_
      refine lv_iconst (v := 4) hx hb d_M_count_26 (by decide) ?_
      refine lv_icmp_ge (tgt := 37) hx hb d_M_count_27 (by decide) (fun _ => ?_) (fun c9 => absurd (nI_le (a := 4) (b := 6) (by omega) (by omega)) c9)
      refine lv_iconst (v := 0) hx hb d_M_count_37 (by decide) ?_
      refine lv_istore_n (lv' := [(2, .int (nI 0)), (0, .ref _), (1, .int (nI 6))]) hx hb d_M_count_38 rfl hl (by decide) rfl (fun ls hl => ?_)
      refine lv_iload_n hx hb d_M_count_39 rfl (lv_at hl 2 rfl) ?_
      refine lv_iconst (v := 4) hx hb d_M_count_40 (by decide) ?_
      refine lv_icmp_ne (tgt := 71) hx hb d_M_count_41 (by decide) (fun _ => ?_) (fun c9 => absurd c9 (show ¬ nI 6 = nI 4 from by decide))
      refine lv_iconst (v := 0) hx hb d_M_count_71 (by decide) ?_
      refine lv_istore_n (lv' := [(3, .int (nI 0)), (2, .int (nI 0)), (0, .ref _), (1, .int (nI 6))]) hx hb d_M_count_72 rfl hl (by decide) rfl (fun ls hl => ?_)
      refine lv_iload_n hx hb d_M_count_73 rfl (lv_at hl 3 rfl) ?_
      refine lv_iconst (v := 5) hx hb d_M_count_74 (by decide) ?_
      refine lv_icmp_ne (tgt := 102) hx hb d_M_count_75 (by decide) (fun _ => ?_) (fun c9 => absurd c9 (show ¬ nI 6 = nI 5 from by decide))
      refine lv_iconst (v := 0) hx hb d_M_count_102 (by decide) ?_
      refine lv_istore_n (lv' := [(3, .int (nI 0)), (2, .int (nI 0)), (0, .ref _), (1, .int (nI 6))]) hx hb d_M_count_103 rfl hl (by decide) rfl (fun ls hl => ?_)
      refine lp_M_count6 hx hb hml hown hts hK hA (nTh u 0) ?_ 16 0 rfl _ _ _ _ rfl hP hD hS (lv_sub hl [0, 1, 3, 2] rfl)
      intro acc H locs ls he hP hD hS hl
      refine lv_iconst (v := 0) hx hb d_M_count_134 (by decide) ?_
      refine lv_istore_n (lv' := [(3, .int (nI 0)), (2, .int _), (1, .int (nI 6)), (0, .ref _)]) hx hb d_M_count_135 rfl hl (by decide) rfl (fun ls hl => ?_)
      refine lv_iload_n hx hb d_M_count_136 rfl (lv_at hl 2 rfl) ?_
      refine lv_bipush (v := 7) hx hb d_M_count_137 (by decide) ?_
      refine lv_icmp_ne (tgt := 165) hx hb d_M_count_139 (by decide) (fun _ => ?_) (fun c9 => absurd c9 (show ¬ nI 6 = nI 7 from by decide))
      refine lv_iconst (v := 0) hx hb d_M_count_165 (by decide) ?_
      refine lv_istore_n (lv' := [(3, .int (nI 0)), (2, .int _), (1, .int (nI 6)), (0, .ref _)]) hx hb d_M_count_166 rfl hl (by decide) rfl (fun ls hl => ?_)
      refine lv_iload_n hx hb d_M_count_167 rfl (lv_at hl 2 rfl) ?_
      refine lv_bipush (v := 8) hx hb d_M_count_168 (by decide) ?_
      refine lv_icmp_ne (tgt := 196) hx hb d_M_count_170 (by decide) (fun _ => ?_) (fun c9 => absurd c9 (show ¬ nI 6 = nI 8 from by decide))
      refine lv_iload_n hx hb d_M_count_196 rfl (lv_at hl 1 rfl) ?_
      exact xc_iret hx hb hr hlocks hP hK hD hS ⟨by unfold rmCount; rw [if_neg (by decide), if_neg (by decide), if_neg (by decide), if_pos rfl]; exact he, rfl⟩ d_M_count_197
    · skip
      refine xb_ofi (cc := b_M_count) (maxL := 4) (ret := some .int) (by decide) rfl (Nat.le_of_ble_eq_true rfl) ?_
      intro p e s m below meth c A ls hsz hx hb hml hr hlocks hts hown hP hK hD hA hl
      have hl : lv_has ls 4 [(0, .ref (G 0)), (1, .int (nI 7))] := hl
      have hS : va_S A s.heap s.heap [] := va_S.rf
      refine lv_aload_n hx hb d_M_count_0 rfl (lv_at hl 0 rfl) ?_
      refine lv_iload_n hx hb d_M_count_1 rfl (lv_at hl 1 rfl) ?_
      refine lv_if_lt (tgt := 11) hx hb d_M_count_2 (by decide) (fun c9 => absurd c9 (nI_pos (by omega))) (fun _ => ?_)
      refine lv_iload_n hx hb d_M_count_5 rfl (lv_at hl 1 rfl) ?_
      refine lv_bipush (v := 8) hx hb d_M_count_6 (by decide) ?_
      refine lv_icmp_le (tgt := 15) hx hb d_M_count_8 (by decide) (fun _ => ?_) (fun c9 => absurd (nI_le (a := 7) (b := 8) (by omega) (by decide)) c9)
      refine lv_iconst (v := 0) hx hb d_M_count_15 (by decide) ?_
      refine lv_iconst (v := 1) hx hb d_M_count_16 (by decide) ?_
      refine xc_calli (n := 2) (C := "TagMemoryModel") hx hb hml hown hts (c_M_bad l D G kc _ _ _ _ (Or.inl rfl)) (tb_V wm_390 wm_392 ws_17 wm_2 wm_393) rfl rfl rfl (by decide +kernel) ⟨Nat.le_of_ble_eq_true rfl, Nat.le_of_ble_eq_true rfl⟩ hK hP hD hS hA rfl rfl rfl rfl hl.1 rfl (Nat.le_of_ble_eq_true rfl) d_M_count_17 ⟨Nat.zero_le _, Nat.zero_le _⟩ (fun r u1 H locs hw hP hD hS => ?_)
      obtain ⟨e1, e2⟩ := hw
      subst e1
      rw [e2] at hP hD; clear e2 u1
      have hP : va_P D vwCl (wM G kc (nTh u 0)) H := hP
      have hD : va_D A (wM G kc (nTh u 0)) := hD
      refine lv_if_eq (tgt := 25) hx hb d_M_count_20 (by decide) (fun _ => ?_) (fun c9 => absurd rfl c9)
      refine lv_iload_n hx hb d_M_count_25 rfl (lv_at hl 1 rfl) ?_
      refine lv_iconst (v := 4) hx hb d_M_count_26 (by decide) ?_
      refine lv_icmp_ge (tgt := 37) hx hb d_M_count_27 (by decide) (fun _ => ?_) (fun c9 => absurd (nI_le (a := 4) (b := 7) (by omega) (by omega)) c9)
      refine lv_iconst (v := 0) hx hb d_M_count_37 (by decide) ?_
      refine lv_istore_n (lv' := [(2, .int (nI 0)), (0, .ref _), (1, .int (nI 7))]) hx hb d_M_count_38 rfl hl (by decide) rfl (fun ls hl => ?_)
      refine lv_iload_n hx hb d_M_count_39 rfl (lv_at hl 2 rfl) ?_
      refine lv_iconst (v := 4) hx hb d_M_count_40 (by decide) ?_
      refine lv_icmp_ne (tgt := 71) hx hb d_M_count_41 (by decide) (fun _ => ?_) (fun c9 => absurd c9 (show ¬ nI 7 = nI 4 from by decide))
      refine lv_iconst (v := 0) hx hb d_M_count_71 (by decide) ?_
      refine lv_istore_n (lv' := [(3, .int (nI 0)), (2, .int (nI 0)), (0, .ref _), (1, .int (nI 7))]) hx hb d_M_count_72 rfl hl (by decide) rfl (fun ls hl => ?_)
      refine lv_iload_n hx hb d_M_count_73 rfl (lv_at hl 3 rfl) ?_
      refine lv_iconst (v := 5) hx hb d_M_count_74 (by decide) ?_
      refine lv_icmp_ne (tgt := 102) hx hb d_M_count_75 (by decide) (fun _ => ?_) (fun c9 => absurd c9 (show ¬ nI 7 = nI 5 from by decide))
      refine lv_iconst (v := 0) hx hb d_M_count_102 (by decide) ?_
      refine lv_istore_n (lv' := [(3, .int (nI 0)), (2, .int (nI 0)), (0, .ref _), (1, .int (nI 7))]) hx hb d_M_count_103 rfl hl (by decide) rfl (fun ls hl => ?_)
      refine lv_iload_n hx hb d_M_count_104 rfl (lv_at hl 3 rfl) ?_
      refine lv_bipush (v := 6) hx hb d_M_count_105 (by decide) ?_
      refine lv_icmp_ne (tgt := 134) hx hb d_M_count_107 (by decide) (fun _ => ?_) (fun c9 => absurd c9 (show ¬ nI 7 = nI 6 from by decide))
      refine lv_iconst (v := 0) hx hb d_M_count_134 (by decide) ?_
      refine lv_istore_n (lv' := [(3, .int (nI 0)), (2, .int (nI 0)), (0, .ref _), (1, .int (nI 7))]) hx hb d_M_count_135 rfl hl (by decide) rfl (fun ls hl => ?_)
      refine lp_M_count7 hx hb hml hown hts hK hA (nTh u 0) (by exact hI) ?_ 4 0 rfl _ _ _ _ rfl hP hD hS (lv_sub hl [0, 1, 3, 2] rfl)
      intro acc H locs ls he hP hD hS hl
      refine lv_iconst (v := 0) hx hb d_M_count_165 (by decide) ?_
      refine lv_istore_n (lv' := [(3, .int (nI 0)), (2, .int _), (1, .int (nI 7)), (0, .ref _)]) hx hb d_M_count_166 rfl hl (by decide) rfl (fun ls hl => ?_)
      refine lv_iload_n hx hb d_M_count_167 rfl (lv_at hl 2 rfl) ?_
      refine lv_bipush (v := 8) hx hb d_M_count_168 (by decide) ?_
      refine lv_icmp_ne (tgt := 196) hx hb d_M_count_170 (by decide) (fun _ => ?_) (fun c9 => absurd c9 (show ¬ nI 7 = nI 8 from by decide))
      refine lv_iload_n hx hb d_M_count_196 rfl (lv_at hl 1 rfl) ?_
      exact xc_iret hx hb hr hlocks hP hK hD hS ⟨by unfold rmCount; rw [if_neg (by decide), if_neg (by decide), if_neg (by decide), if_neg (by decide), if_pos rfl]; exact he, rfl⟩ d_M_count_197
    · skip
      refine xb_ofi (cc := b_M_count) (maxL := 4) (ret := some .int) (by decide) rfl (Nat.le_of_ble_eq_true rfl) ?_
      intro p e s m below meth c A ls hsz hx hb hml hr hlocks hts hown hP hK hD hA hl
      have hl : lv_has ls 4 [(0, .ref (G 0)), (1, .int (nI 8))] := hl
      have hS : va_S A s.heap s.heap [] := va_S.rf
      refine lv_aload_n hx hb d_M_count_0 rfl (lv_at hl 0 rfl) ?_
      refine lv_iload_n hx hb d_M_count_1 rfl (lv_at hl 1 rfl) ?_
      refine lv_if_lt (tgt := 11) hx hb d_M_count_2 (by decide) (fun c9 => absurd c9 (nI_pos (by omega))) (fun _ => ?_)
      refine lv_iload_n hx hb d_M_count_5 rfl (lv_at hl 1 rfl) ?_
      refine lv_bipush (v := 8) hx hb d_M_count_6 (by decide) ?_
      refine lv_icmp_le (tgt := 15) hx hb d_M_count_8 (by decide) (fun _ => ?_) (fun c9 => absurd (nI_le (a := 8) (b := 8) (by omega) (by decide)) c9)
      refine lv_iconst (v := 0) hx hb d_M_count_15 (by decide) ?_
      refine lv_iconst (v := 1) hx hb d_M_count_16 (by decide) ?_
      refine xc_calli (n := 2) (C := "TagMemoryModel") hx hb hml hown hts (c_M_bad l D G kc _ _ _ _ (Or.inl rfl)) (tb_V wm_390 wm_392 ws_17 wm_2 wm_393) rfl rfl rfl (by decide +kernel) ⟨Nat.le_of_ble_eq_true rfl, Nat.le_of_ble_eq_true rfl⟩ hK hP hD hS hA rfl rfl rfl rfl hl.1 rfl (Nat.le_of_ble_eq_true rfl) d_M_count_17 ⟨Nat.zero_le _, Nat.zero_le _⟩ (fun r u1 H locs hw hP hD hS => ?_)
      obtain ⟨e1, e2⟩ := hw
      subst e1
      rw [e2] at hP hD; clear e2 u1
      have hP : va_P D vwCl (wM G kc (nTh u 0)) H := hP
      have hD : va_D A (wM G kc (nTh u 0)) := hD
      refine lv_if_eq (tgt := 25) hx hb d_M_count_20 (by decide) (fun _ => ?_) (fun c9 => absurd rfl c9)
      refine lv_iload_n hx hb d_M_count_25 rfl (lv_at hl 1 rfl) ?_
      refine lv_iconst (v := 4) hx hb d_M_count_26 (by decide) ?_
      refine lv_icmp_ge (tgt := 37) hx hb d_M_count_27 (by decide) (fun _ => ?_) (fun c9 => absurd (nI_le (a := 4) (b := 8) (by omega) (by omega)) c9)
      refine lv_iconst (v := 0) hx hb d_M_count_37 (by decide) ?_
      refine lv_istore_n (lv' := [(2, .int (nI 0)), (0, .ref _), (1, .int (nI 8))]) hx hb d_M_count_38 rfl hl (by decide) rfl (fun ls hl => ?_)
      refine lv_iload_n hx hb d_M_count_39 rfl (lv_at hl 2 rfl) ?_
      refine lv_iconst (v := 4) hx hb d_M_count_40 (by decide) ?_
      refine lv_icmp_ne (tgt := 71) hx hb d_M_count_41 (by decide) (fun _ => ?_) (fun c9 => absurd c9 (show ¬ nI 8 = nI 4 from by decide))
      refine lv_iconst (v := 0) hx hb d_M_count_71 (by decide) ?_
      refine lv_istore_n (lv' := [(3, .int (nI 0)), (2, .int (nI 0)), (0, .ref _), (1, .int (nI 8))]) hx hb d_M_count_72 rfl hl (by decide) rfl (fun ls hl => ?_)
      refine lv_iload_n hx hb d_M_count_73 rfl (lv_at hl 3 rfl) ?_
      refine lv_iconst (v := 5) hx hb d_M_count_74 (by decide) ?_
      refine lv_icmp_ne (tgt := 102) hx hb d_M_count_75 (by decide) (fun _ => ?_) (fun c9 => absurd c9 (show ¬ nI 8 = nI 5 from by decide))
      refine lv_iconst (v := 0) hx hb d_M_count_102 (by decide) ?_
      refine lv_istore_n (lv' := [(3, .int (nI 0)), (2, .int (nI 0)), (0, .ref _), (1, .int (nI 8))]) hx hb d_M_count_103 rfl hl (by decide) rfl (fun ls hl => ?_)
      refine lv_iload_n hx hb d_M_count_104 rfl (lv_at hl 3 rfl) ?_
      refine lv_bipush (v := 6) hx hb d_M_count_105 (by decide) ?_
      refine lv_icmp_ne (tgt := 134) hx hb d_M_count_107 (by decide) (fun _ => ?_) (fun c9 => absurd c9 (show ¬ nI 8 = nI 6 from by decide))
      refine lv_iconst (v := 0) hx hb d_M_count_134 (by decide) ?_
      refine lv_istore_n (lv' := [(3, .int (nI 0)), (2, .int (nI 0)), (0, .ref _), (1, .int (nI 8))]) hx hb d_M_count_135 rfl hl (by decide) rfl (fun ls hl => ?_)
      refine lv_iload_n hx hb d_M_count_136 rfl (lv_at hl 3 rfl) ?_
      refine lv_bipush (v := 7) hx hb d_M_count_137 (by decide) ?_
      refine lv_icmp_ne (tgt := 165) hx hb d_M_count_139 (by decide) (fun _ => ?_) (fun c9 => absurd c9 (show ¬ nI 8 = nI 7 from by decide))
      refine lv_iconst (v := 0) hx hb d_M_count_165 (by decide) ?_
      refine lv_istore_n (lv' := [(3, .int (nI 0)), (2, .int (nI 0)), (0, .ref _), (1, .int (nI 8))]) hx hb d_M_count_166 rfl hl (by decide) rfl (fun ls hl => ?_)
      refine lp_M_count8 hx hb hml hown hts hK hA (nTh u 0) ?_ 4 0 rfl _ _ _ _ rfl hP hD hS (lv_sub hl [0, 1, 3, 2] rfl)
      intro acc H locs ls he hP hD hS hl
      refine lv_iload_n hx hb d_M_count_196 rfl (lv_at hl 1 rfl) ?_
      exact xc_iret hx hb hr hlocks hP hK hD hS ⟨by unfold rmCount; rw [if_neg (by decide), if_neg (by decide), if_neg (by decide), if_neg (by decide), if_neg (by decide)]; exact he, rfl⟩ d_M_count_197
set_option maxHeartbeats 4000000 in
set_option maxRecDepth 100000 in
theorem lp_M_flush1 {p : Program} {l : Launch} {e : Env} {s : State} {m : MethodId} {args : Array Value} {below : List Frame} {meth : Method} {c : Code} {Q : State → Prop} {D : va_G} {A : Nat → Prop} {G : Nat → Nat} {kc : Nat → ClassId} {c1 : Cond} (hx : p.tables.exec = Jvm.exec) (hb : c.code = b_M_flush) (hml : c.maxLocals = 3) (hown : s.vm.findClass "TagMemoryModel" = some m.cls) (hts : ∀ w ∈ c1 :: TB, w.before args s = true) (hK : va_K D vwCl (tyMs kc) s) (hA : ∀ q, s.heap.size ≤ q → A q) (u : TM) (kk : ∀ (acc : Int32) (u1 : TM) (H : Heap) (locs : List Loc) (ls : Array Slot), (u1, acc) = gFlL 16 0 u 0 → va_P D vwCl (wM G kc u1) H → va_D A (wM G kc u1) → va_S A s.heap H locs → lv_has ls 3 [(2, .int (nI 16)), (1, .int acc), (0, .ref (G 0))] → W p l e ({ frames := 3, cells := 0, slots := 0, locals := 67 }) s m args below meth c H locs 0 0 Q (F0 m 32 ls [])) : ∀ (d i : Nat), i + d = 16 → ∀ (acc : Int32) (u1 : TM) (H : Heap) (locs : List Loc) (ls : Array Slot), gFlL d i u1 acc = gFlL 16 0 u 0 → mI u1 → va_P D vwCl (wM G kc u1) H → va_D A (wM G kc u1) → va_S A s.heap H locs → lv_has ls 3 [(2, .int (nI i)), (1, .int acc), (0, .ref (G 0))] → W p l e ({ frames := 3, cells := 0, slots := 0, locals := 67 }) s m args below meth c H locs 0 0 Q (F0 m 9 ls []) := by
  intro d
  induction d with
  | zero =>
    intro i hi acc u1 H locs ls hu hI hP hD hS hl
    obtain rfl : i = 16 := by omega
    refine lv_iload_n hx hb d_M_flush_9 rfl (lv_at hl 0 rfl) ?_
    refine lv_bipush (v := 16) hx hb d_M_flush_10 (by decide) ?_
    refine lv_icmp_ge (tgt := 32) hx hb d_M_flush_12 (by decide) (fun _ => ?_) (fun c9 => absurd (nI_le (a := 16) (b := 16) (by omega) (by omega)) c9)
    exact kk acc u1 H locs ls hu hP hD hS hl
  | succ d ih =>
    intro i hi acc u1 H locs ls hu hI hP hD hS hl
    have hi16 : i < 16 := by omega
    by_cases h2 : rmLineGo u1 i = 0
    · skip
      refine lv_iload_n hx hb d_M_flush_9 rfl (lv_at hl 0 rfl) ?_
      refine lv_bipush (v := 16) hx hb d_M_flush_10 (by decide) ?_
      refine lv_icmp_ge (tgt := 32) hx hb d_M_flush_12 (by decide) (fun c9 => absurd c9 (nI_ge (a := i) (b := 16) (by omega) (by omega))) (fun _ => ?_)
      refine lv_aload_n hx hb d_M_flush_15 rfl (lv_at hl 2 rfl) ?_
      refine lv_iload_n hx hb d_M_flush_16 rfl (lv_at hl 0 rfl) ?_
      refine xc_calli (n := 1) (C := "TagMemoryModel") hx hb hml hown hts (c_M_lineGoes l D G kc _ _ i (by omega) (by exact hI)) (tb_V wm_398 wm_400 ws_19 wm_2 wm_401) rfl rfl rfl (by decide +kernel) ⟨Nat.le_of_ble_eq_true rfl, Nat.le_of_ble_eq_true rfl⟩ hK hP hD hS hA rfl rfl rfl rfl hl.1 rfl (Nat.le_of_ble_eq_true rfl) d_M_flush_17 ⟨Nat.zero_le _, Nat.zero_le _⟩ (fun r u1 H locs hw hP hD hS => ?_)
      obtain ⟨e1, e2⟩ := hw
      subst e1
      rw [e2] at hP hD; clear e2 u1
      refine lv_if_eq (tgt := 26) hx hb d_M_flush_20 (by decide) (fun _ => ?_) (fun c9 => absurd h2 c9)
      refine lv_iinc (v := nI (i + 1)) (lv' := [(2, .int (nI (i + 1))), (1, .int _), (0, .ref _)]) hx hb d_M_flush_26 hl (k := 0) rfl (nI_add _ _) (by decide) rfl (fun ls hl => ?_)
      refine lv_goto (tgt := 9) hx hb d_M_flush_29 (by decide) ?_
      exact ih (i + 1) (by omega) _ _ _ _ _ (by rw [← hu]; show _ = gFlL d (i + 1) (gLineGo u1 i) (acc + rmLineGo u1 i); rw [h2, Int32.add_zero]) (mI_lineGo hI hi16) hP hD hS (lv_sub hl [0, 1, 2] rfl)
    · have h3 : rmLineGo u1 i = 1 := (rmLineGo_01 u1 i).resolve_left h2
      refine lv_iload_n hx hb d_M_flush_9 rfl (lv_at hl 0 rfl) ?_
      refine lv_bipush (v := 16) hx hb d_M_flush_10 (by decide) ?_
      refine lv_icmp_ge (tgt := 32) hx hb d_M_flush_12 (by decide) (fun c9 => absurd c9 (nI_ge (a := i) (b := 16) (by omega) (by omega))) (fun _ => ?_)
      refine lv_aload_n hx hb d_M_flush_15 rfl (lv_at hl 2 rfl) ?_
      refine lv_iload_n hx hb d_M_flush_16 rfl (lv_at hl 0 rfl) ?_
      refine xc_calli (n := 1) (C := "TagMemoryModel") hx hb hml hown hts (c_M_lineGoes l D G kc _ _ i (by omega) (by exact hI)) (tb_V wm_398 wm_400 ws_19 wm_2 wm_401) rfl rfl rfl (by decide +kernel) ⟨Nat.le_of_ble_eq_true rfl, Nat.le_of_ble_eq_true rfl⟩ hK hP hD hS hA rfl rfl rfl rfl hl.1 rfl (Nat.le_of_ble_eq_true rfl) d_M_flush_17 ⟨Nat.zero_le _, Nat.zero_le _⟩ (fun r u1 H locs hw hP hD hS => ?_)
      obtain ⟨e1, e2⟩ := hw
      subst e1
      rw [e2] at hP hD; clear e2 u1
      refine lv_if_eq (tgt := 26) hx hb d_M_flush_20 (by decide) (fun c9 => absurd c9 h2) (fun _ => ?_)
      refine lv_iinc (lv' := [(1, .int _), (2, .int (nI i)), (0, .ref _)]) hx hb d_M_flush_23 hl (k := 1) rfl rfl (by decide) rfl (fun ls hl => ?_)
      refine lv_iinc (v := nI (i + 1)) (lv' := [(2, .int (nI (i + 1))), (1, .int _), (0, .ref _)]) hx hb d_M_flush_26 hl (k := 1) rfl (nI_add _ _) (by decide) rfl (fun ls hl => ?_)
      refine lv_goto (tgt := 9) hx hb d_M_flush_29 (by decide) ?_
      exact ih (i + 1) (by omega) _ _ _ _ _ (by rw [← hu]; show _ = gFlL d (i + 1) (gLineGo u1 i) (acc + rmLineGo u1 i); rw [h3]; rfl) (mI_lineGo hI hi16) hP hD hS (lv_sub hl [0, 1, 2] rfl)
set_option maxHeartbeats 4000000 in
set_option maxRecDepth 100000 in
theorem lp_M_flush2 {p : Program} {l : Launch} {e : Env} {s : State} {m : MethodId} {args : Array Value} {below : List Frame} {meth : Method} {c : Code} {Q : State → Prop} {D : va_G} {A : Nat → Prop} {G : Nat → Nat} {kc : Nat → ClassId} {c1 : Cond} (hx : p.tables.exec = Jvm.exec) (hb : c.code = b_M_flush) (hml : c.maxLocals = 3) (hown : s.vm.findClass "TagMemoryModel" = some m.cls) (hts : ∀ w ∈ c1 :: TB, w.before args s = true) (hK : va_K D vwCl (tyMs kc) s) (hA : ∀ q, s.heap.size ≤ q → A q) (u : TM) (acc : Int32) (kk : ∀ (u1 : TM) (H : Heap) (locs : List Loc) (ls : Array Slot), u1 = gFlR 4 0 u → va_P D vwCl (wM G kc u1) H → va_D A (wM G kc u1) → va_S A s.heap H locs → lv_has ls 3 [(2, .int (nI 4)), (1, .int acc), (0, .ref (G 0))] → W p l e ({ frames := 3, cells := 0, slots := 0, locals := 67 }) s m args below meth c H locs 0 0 Q (F0 m 50 ls [])) : ∀ (d i : Nat), i + d = 4 → ∀ (u1 : TM) (H : Heap) (locs : List Loc) (ls : Array Slot), gFlR d i u1 = gFlR 4 0 u → mI u1 → va_P D vwCl (wM G kc u1) H → va_D A (wM G kc u1) → va_S A s.heap H locs → lv_has ls 3 [(2, .int (nI i)), (1, .int acc), (0, .ref (G 0))] → W p l e ({ frames := 3, cells := 0, slots := 0, locals := 67 }) s m args below meth c H locs 0 0 Q (F0 m 34 ls []) := by
  intro d
  induction d with
  | zero =>
    intro i hi u1 H locs ls hu hI hP hD hS hl
    obtain rfl : i = 4 := by omega
    refine lv_iload_n hx hb d_M_flush_34 rfl (lv_at hl 0 rfl) ?_
    refine lv_iconst (v := 4) hx hb d_M_flush_35 (by decide) ?_
    refine lv_icmp_ge (tgt := 50) hx hb d_M_flush_36 (by decide) (fun _ => ?_) (fun c9 => absurd (nI_le (a := 4) (b := 4) (by omega) (by omega)) c9)
    exact kk u1 H locs ls hu hP hD hS hl
  | succ d ih =>
    intro i hi u1 H locs ls hu hI hP hD hS hl
    have hi4 : i < 4 := by omega
    refine lv_iload_n hx hb d_M_flush_34 rfl (lv_at hl 0 rfl) ?_
    refine lv_iconst (v := 4) hx hb d_M_flush_35 (by decide) ?_
    refine lv_icmp_ge (tgt := 50) hx hb d_M_flush_36 (by decide) (fun c9 => absurd c9 (nI_ge (a := i) (b := 4) (by omega) (by omega))) (fun _ => ?_)
    refine lv_aload_n hx hb d_M_flush_39 rfl (lv_at hl 2 rfl) ?_
    refine lv_iload_n hx hb d_M_flush_40 rfl (lv_at hl 0 rfl) ?_
    refine xc_callv (n := 1) (C := "TagMemoryModel") hx hb hml hown hts (c_M_rowGoes l D G kc _ _ i (by omega) (by exact hI)) (tb_V wm_406 wm_408 ws_21 wm_2 wm_409) rfl rfl rfl (by decide +kernel) ⟨Nat.le_of_ble_eq_true rfl, Nat.le_of_ble_eq_true rfl⟩ hK hP hD hS hA rfl rfl rfl rfl hl.1 rfl (Nat.le_of_ble_eq_true rfl) d_M_flush_41 ⟨Nat.zero_le _, Nat.zero_le _⟩ (fun u1 H locs hw hP hD hS => ?_)
    rw [hw] at hP hD; clear hw u1
    refine lv_iinc (v := nI (i + 1)) (lv' := [(2, .int (nI (i + 1))), (1, .int _), (0, .ref _)]) hx hb d_M_flush_44 hl (k := 0) rfl (nI_add _ _) (by decide) rfl (fun ls hl => ?_)
    refine lv_goto (tgt := 34) hx hb d_M_flush_47 (by decide) ?_
    exact ih (i + 1) (by omega) _ _ _ _ hu (mI_rowGo hI) hP hD hS (lv_sub hl [0, 1, 2] rfl)
set_option maxHeartbeats 4000000 in
set_option maxRecDepth 100000 in
theorem c_M_flush (l : Launch) (D : va_G) (G : Nat → Nat) (kc : Nat → ClassId) (sz : Nat) (u : TM) (hI : mI u) : XMi l y_M_flush k_M_flush { frames := 3, cells := 0, slots := 0, locals := 67 } D vwCl (wM G kc) (tyMs kc) u sz [.ref (G 0)] (fun r u1 => r = rmFlush u ∧ u1 = gFlush u) := by
  refine xb_ofi (cc := b_M_flush) (maxL := 3) (ret := some .int) (by decide) rfl (Nat.le_of_ble_eq_true rfl) ?_
  intro p e s m below meth c A ls hsz hx hb hml hr hlocks hts hown hP hK hD hA hl
  have hl : lv_has ls 3 [(0, .ref (G 0))] := hl
  have hS : va_S A s.heap s.heap [] := va_S.rf
  refine lv_aload_n hx hb d_M_flush_0 rfl (lv_at hl 0 rfl) ?_
  refine lv_iconst (v := 0) hx hb d_M_flush_1 (by decide) ?_
  refine xm_p9 hx hb hts hown hK hP hD hS d_M_flush_2 (fun H locs hP hD hS => ?_)
  refine lv_iconst (v := 0) hx hb d_M_flush_5 (by decide) ?_
  refine lv_istore_n (lv' := [(1, .int (nI 0)), (0, .ref _)]) hx hb d_M_flush_6 rfl hl (by decide) rfl (fun ls hl => ?_)
  refine lv_iconst (v := 0) hx hb d_M_flush_7 (by decide) ?_
  refine lv_istore_n (lv' := [(2, .int (nI 0)), (1, .int (nI 0)), (0, .ref _)]) hx hb d_M_flush_8 rfl hl (by decide) rfl (fun ls hl => ?_)
  refine lp_M_flush1 hx hb hml hown hts hK hA (nTh u 0) ?_ 16 0 rfl _ _ _ _ _ rfl hI hP hD hS (lv_sub hl [0, 1, 2] rfl)
  intro acc u1 H locs ls he hP hD hS hl
  have hI1 : mI u1 := by have := mI_flL 16 0 (nTh u 0) 0 (by omega) hI; rw [← he] at this; exact this
  refine lv_iconst (v := 0) hx hb d_M_flush_32 (by decide) ?_
  refine lv_istore_n (lv' := [(2, .int (nI 0)), (1, .int _), (0, .ref _)]) hx hb d_M_flush_33 rfl hl (by decide) rfl (fun ls hl => ?_)
  refine lp_M_flush2 hx hb hml hown hts hK hA u1 acc ?_ 4 0 rfl _ _ _ _ rfl hI1 hP hD hS (lv_sub hl [0, 1, 2] rfl)
  intro u2 H locs ls he2 hP hD hS hl
  refine lv_iload_n hx hb d_M_flush_50 rfl (lv_at hl 1 rfl) ?_
  exact xc_iret hx hb hr hlocks hP hK hD hS ⟨by show acc = (gFlL 16 0 (nTh u 0) 0).2; rw [← he], by rw [he2]; show gFlR 4 0 u1 = gFlR 4 0 (gFlL 16 0 (nTh u 0) 0).1; rw [← he]⟩ d_M_flush_51
end
section
theorem zz_end : True := trivial
end
