/-! The class's steps as functions of its state; what it keeps of itself. -/
def okR (p : Nat) (x : Int32) : Prop := x = -1 ∨ ∃ k, k < 32 ∧ k % 4 = p ∧ x = nI k
def okL (p : Nat) (x : Int32) : Prop := x = -1 ∨ ∃ n, n < 512 ∧ n % 16 = p ∧ x = nI n
def tI (u : TC) : Prop := (∀ p, p < 4 → okR p (tRa u p)) ∧ (∀ p, p < 16 → okL p (tLa u p))
def fClrR (u : TC) (p : Nat) : TC := sRc (sRa u (upd (tRa u) p (-1))) (upd (tRc u) p 0)
def fWbR (u : TC) (p k : Nat) : TC := sN3 (sSt u (upd (tSt u) (2048 + k) (tRt u p))) (tN3 u + 1)
def fRowGo (u : TC) (p : Nat) : TC := if tRa u p = -1 ∨ tRc u p = 0 then fClrR u p else fClrR (fWbR u p (tRa u p).toNatClampNeg) p
def fRowIn (v : TC) (k : Nat) : TC := sN2 (sRa (sRt v (upd (tRt v) (k % 4) (tSt v (2048 + k)))) (upd (tRa v) (k % 4) (nI k))) (tN2 v + 1)
def fWantRow (u : TC) (k : Nat) : TC := if tRa u (k % 4) = nI k then u else fRowIn (fRowGo u (k % 4)) k
def ftol (n : Nat) (x : Int32) : Int32 := (x.toUInt32 >>> ((nI (n % 16 * 2)).toUInt32 &&& Int32.toUInt32 31)).toInt32 &&& 3
def fTagW (n : Nat) (x t : Int32) : Int32 := (x &&& ((3 <<< (nI (n % 16 * 2) &&& 31)) ^^^ (-1))) ||| (t <<< (nI (n % 16 * 2) &&& 31))
def fWbL2 (v : TC) (n p : Nat) : TC := sN1 (sRc (sRt v (upd (tRt v) (n / 16 % 4) (fTagW n (tRt v (n / 16 % 4)) (tLt v p)))) (upd (tRc v) (n / 16 % 4) 1)) (tN1 v + 1)
def fWbL1 (u : TC) (n p : Nat) : TC := sSt u (va_cpy (tLw u) (tSt u) (p * 4) (n * 4) 4)
def fWbL (u : TC) (n p : Nat) : TC := fWbL2 (fWantRow (fWbL1 u n p) (n / 16)) n p
def fClrL (u : TC) (p : Nat) : TC := sLc (sLa u (upd (tLa u) p (-1))) (upd (tLc u) p 0)
def fLineGo (u : TC) (p : Nat) : TC := if tLa u p = -1 ∨ tLc u p = 0 then fClrL u p else fClrL (fWbL u (tLa u p).toNatClampNeg p) p
def rLineGo (u : TC) (p : Nat) : Int32 := if tLa u p = -1 ∨ tLc u p = 0 then 0 else 1
def fBring2 (v : TC) (n p : Nat) : TC := sN0 (sLc (sLa (sLt v (upd (tLt v) p (ftol n (tRt v (n / 16 % 4))))) (upd (tLa v) p (nI n))) (upd (tLc v) p 0)) (tN0 v + 1)
def fBring1 (u : TC) (n p : Nat) : TC := sLw u (va_cpy (tSt u) (tLw u) (n * 4) (p * 4) 4)
def fBring (u : TC) (n p : Nat) : TC := fBring2 (fWantRow (fBring1 u n p) (n / 16)) n p
def fWant (u : TC) (n : Nat) : TC := if tLa u (n % 16) = nI n then u else fBring (fLineGo u (n % 16)) n (n % 16)
def ftb (g : Nat) : Int32 := 1 <<< (nI (g % 2) &&& 31)
def fChTag (u : TC) (g : Nat) (t : Int32) : TC := sLc (sLt u (upd (tLt u) (g / 2 % 16) (if t = 0 then tLt u (g / 2 % 16) &&& (ftb g ^^^ (-1)) else tLt u (g / 2 % 16) &&& (ftb g ^^^ (-1)) ||| ftb g))) (upd (tLc u) (g / 2 % 16) 1)
def fChWord (u : TC) (i : Nat) (w : Int32) : TC := fChTag (sLw u (upd (tLw u) (i % 64) w)) (i / 2) 0
def fChGran1 (u : TC) (g : Nat) (lo hi : Int32) : TC := sLw (sLw u (upd (tLw u) (2 * g % 64) lo)) (upd (upd (tLw u) (2 * g % 64) lo) ((2 * g + 1) % 64) hi)
def fChGran (u : TC) (g : Nat) (lo hi t : Int32) : TC := fChTag (fChGran1 u g lo hi) g t
def rTag (u : TC) (g : Nat) : Int32 := if tLt u (g / 2 % 16) &&& ftb g = 0 then 0 else 1
def fPeek (u : TC) (k : Nat) : Int32 := if tRa u (k % 4) = nI k then tRt u (k % 4) else tSt u (2048 + k)
theorem nI_neg1 {n : Nat} (h : n < 2 ^ 31) : nI n ≠ -1 := fun q => by
  have a := nI_toInt h
  rw [q, show (-1 : Int32).toInt = -1 from by decide +kernel] at a
  omega
theorem tI_clrR {u : TC} {p : Nat} (h : tI u) : tI (fClrR u p) := ⟨fun q hq => by
  show okR q (upd (tRa u) p (-1) q)
  unfold upd
  by_cases e : q = p
  · rw [if_pos e]; exact Or.inl rfl
  · rw [if_neg e]; exact h.1 q hq, h.2⟩
theorem tI_rowGo {u : TC} {p : Nat} (h : tI u) : tI (fRowGo u p) := by
  unfold fRowGo
  by_cases e : tRa u p = -1 ∨ tRc u p = 0
  · rw [if_pos e]; exact tI_clrR h
  · rw [if_neg e]; exact tI_clrR (u := fWbR u p _) h
theorem tI_rowIn {u : TC} {k : Nat} (h : tI u) (hk : k < 32) : tI (fRowIn u k) := ⟨fun q hq => by
  show okR q (upd (tRa u) (k % 4) (nI k) q)
  unfold upd
  by_cases e : q = k % 4
  · rw [if_pos e]; exact Or.inr ⟨k, hk, e.symm, rfl⟩
  · rw [if_neg e]; exact h.1 q hq, h.2⟩
theorem tI_wantRow {u : TC} {k : Nat} (h : tI u) (hk : k < 32) : tI (fWantRow u k) := by
  unfold fWantRow
  by_cases e : tRa u (k % 4) = nI k
  · rw [if_pos e]; exact h
  · rw [if_neg e]; exact tI_rowIn (tI_rowGo h) hk
theorem tI_wbL {u : TC} {n p : Nat} (h : tI u) (hn : n < 512) : tI (fWbL u n p) := tI_wantRow (u := fWbL1 u n p) (k := n / 16) h (by omega)
theorem tI_clrL {u : TC} {p : Nat} (h : tI u) : tI (fClrL u p) := ⟨h.1, fun q hq => by
  show okL q (upd (tLa u) p (-1) q)
  unfold upd
  by_cases e : q = p
  · rw [if_pos e]; exact Or.inl rfl
  · rw [if_neg e]; exact h.2 q hq⟩
theorem tI_lineGo {u : TC} {p : Nat} (h : tI u) (hp : p < 16) : tI (fLineGo u p) := by
  unfold fLineGo
  by_cases e : tLa u p = -1 ∨ tLc u p = 0
  · rw [if_pos e]; exact tI_clrL h
  · rw [if_neg e]
    rcases h.2 p hp with h1 | ⟨n, hn, -, h1⟩
    · exact absurd (Or.inl h1) e
    · rw [h1, nI_clamp (by omega)]; exact tI_clrL (tI_wbL h hn)
theorem tI_bring {u : TC} {n p : Nat} (h : tI u) (hn : n < 512) (hp : n % 16 = p) : tI (fBring u n p) := by
  have h1 := tI_wantRow (u := fBring1 u n p) (k := n / 16) h (by omega)
  refine ⟨h1.1, fun q hq => ?_⟩
  show okL q (upd (tLa (fWantRow (fBring1 u n p) (n / 16))) p (nI n) q)
  unfold upd
  by_cases e : q = p
  · rw [if_pos e]; exact Or.inr ⟨n, hn, by omega, rfl⟩
  · rw [if_neg e]; exact h1.2 q hq
theorem tI_want {u : TC} {n : Nat} (h : tI u) (hn : n < 512) : tI (fWant u n) := by
  unfold fWant
  by_cases e : tLa u (n % 16) = nI n
  · rw [if_pos e]; exact h
  · rw [if_neg e]; exact tI_bring (tI_lineGo h (by omega)) hn rfl
section XD
variable {p : Program} {l : Launch} {e : Env} {R : Room} {s : State} {m : MethodId} {args : Array Value} {below : List Frame} {meth : Method} {c : Code} {H : Heap} {locs : List Loc} {cells slots : Nat} {Q : State → Prop}
variable {cc : ByteArray} {pc : Nat} {ls : Array Slot} {rest : List Value} {D : va_G} {cl : List vw_C} {A : Nat → Prop} {a : Nat} {tys : List (ClassId × FieldType)} {ws : va_W} {H0 : Heap}
theorem xa_copy (hx : p.tables.exec = Jvm.exec) (hb : c.code = cc) (hml : c.maxLocals = ls.size) {own : String} {index : Nat} (hown : s.vm.findClass own = some m.cls) (hlink : (Cond.methodLink own index arraycopyName).before args s = true) (hnat : (Cond.native arraycopyName).before args s = true) (hstat : (Cond.static arraycopyName).before args s = true) (hini : (Cond.initialized "java/lang/System").before args s = true)
    (hK : va_K D cl tys s) (hP : va_P D cl ws H) (hD : va_D A ws) (hS : va_S A H0 H locs) (q0 q1 t0 t1 : Nat) {a0 : Nat} {c0 c1 : ClassId} {n0 n1 : Nat} {f g : Nat → Int32} (ha0 : ws[q0]? = some (a0, .inl (c0, n0, .inl f))) (ha1 : ws[q1]? = some (a, .inl (c1, n1, .inl g))) (ht0 : tys[t0]? = some (c0, .int)) (ht1 : tys[t1]? = some (c1, .int))
    {x y z : Int32} (sp dp n : Nat) (es : x = nI sp) (ed : y = nI dp) (en : z = nI n) (h4 : sp + n ≤ n0) (h5 : dp + n ≤ n1) (hn0 : n0 < 2 ^ 31) (hn1 : n1 < 2 ^ 31)
    (hframes : 1 ≤ R.frames) (hlocals : (rest.map fun v => v.category).sum + (nativeFrameWords "java/lang/System" "arraycopy" 5 + 11) ≤ R.locals) (hdg : decode cc pc = .ok (.invokestatic index, 3))
    (kk : ∀ (H1 : Heap) (locs1 : List Loc), va_P D cl (ws.set q1 (a, .inl (c1, n1, .inl (va_cpy f g sp dp n)))) H1 → va_D A (ws.set q1 (a, .inl (c1, n1, .inl (va_cpy f g sp dp n)))) → va_S A H0 H1 locs1 → W p l e R s m args below meth c H1 locs1 cells slots Q (F0 m (pc + 3) ls rest)) : W p l e R s m args below meth c H locs cells slots Q (F0 m pc ls (.int z :: .int y :: .ref a :: .int x :: .ref a0 :: rest)) := by
  subst es; subst ed; subst en
  have e1 : (nI sp).toNatClampNeg = sp := nI_clamp (by omega)
  have e2 : (nI dp).toNatClampNeg = dp := nI_clamp (by omega)
  have e3 : (nI n).toNatClampNeg = n := nI_clamp (by omega)
  refine va_copyi hx hb hml hown hlink hnat hstat hini hK hP hD hS q0 q1 t0 t1 ha0 ha1 ht0 ht1 rfl (nI_pos (by omega)) (nI_pos (by omega)) (nI_pos (by omega)) (by rw [e1, e3]; exact h4) (by rw [e2, e3]; exact h5) (fun i _ => rfl) hframes hlocals hdg ?_
  rw [e1, e2, e3]
  exact kk
end XD
