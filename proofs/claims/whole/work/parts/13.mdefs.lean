/-! The reference's steps as functions of its state. -/
def mI (v : TM) : Prop := (∀ p, p < 4 → okR p (mKr v p)) ∧ (∀ p, p < 16 → okL p (mLn v p)) ∧ (∀ g, g < 1024 → mTg v g = 0 ∨ mTg v g = 1)
def gClrR (v : TM) (p : Nat) : TM := nRc (nKr v (upd (mKr v) p (-1))) (upd (mRc v) p 0)
def gWbR (v : TM) (k : Nat) : TM := nCs (nSo v (upd (mSo v) (2048 + k) (mRw v k))) (upd (mCs v) 3 (mCs v 3 + 1))
def gRowGo (v : TM) (p : Nat) : TM := if mKr v p = -1 ∨ mRc v p = 0 then gClrR v p else gClrR (gWbR v (mKr v p).toNatClampNeg) p
def gRowIn (v : TM) (k : Nat) : TM := nCs (nRw (nKr v (upd (mKr v) (k % 4) (nI k))) (upd (mRw v) k (mSo v (2048 + k)))) (upd (mCs v) 2 (mCs v 2 + 1))
def gWantRow (v : TM) (k : Nat) : TM := if mKr v (k % 4) = nI k then v else gRowIn (gRowGo v (k % 4)) k
def gSt1 (v : TM) (i : Nat) : TM := nSo v (upd (mSo v) i (mWd v i))
def gWbL1 (v : TM) (n : Nat) : TM := gSt1 (gSt1 (gSt1 (gSt1 v (4 * n)) (4 * n + 1)) (4 * n + 1 + 1)) (4 * n + 1 + 1 + 1)
def gTg1 (v : TM) (k g : Nat) : TM := nRw v (upd (mRw v) k ((mRw v k &&& (((1 : Int32) <<< (nI (g % 32) &&& 31)) ^^^ (-1))) ||| (if mTg v g = 0 then (0 : Int32) else (1 : Int32) <<< (nI (g % 32) &&& 31))))
def gWbL3 (v : TM) (n : Nat) : TM := nCs (nRc v (upd (mRc v) (n / 16 % 4) 1)) (upd (mCs v) 1 (mCs v 1 + 1))
def gWbL2 (v : TM) (n : Nat) : TM := gWbL3 (gTg1 (gTg1 v (n / 16) (2 * n)) (n / 16) (2 * n + 1)) n
def gWbL (v : TM) (n : Nat) : TM := gWbL2 (gWantRow (gWbL1 v n) (n / 16)) n
def gClrL (v : TM) (p : Nat) : TM := nLc (nLn v (upd (mLn v) p (-1))) (upd (mLc v) p 0)
def gLineGo (v : TM) (p : Nat) : TM := if mLn v p = -1 ∨ mLc v p = 0 then gClrL v p else gClrL (gWbL v (mLn v p).toNatClampNeg) p
def rmLineGo (v : TM) (p : Nat) : Int32 := if mLn v p = -1 ∨ mLc v p = 0 then 0 else 1
def gWant2 (v : TM) (n : Nat) : TM := nCs (nLn v (upd (mLn v) (n % 16) (nI n))) (upd (mCs v) 0 (mCs v 0 + 1))
def gWant (v : TM) (n : Nat) : TM := if mLn v (n % 16) = nI n then v else gWant2 (gWantRow (gLineGo v (n % 16)) (n / 16)) n
def gCh2 (v : TM) (i : Nat) (w t : Int32) : TM := nLc (nTg (nWd v (upd (mWd v) i w)) (upd (mTg v) (i / 2) t)) (upd (mLc v) (i / 4 % 16) 1)
def gCh (v : TM) (i : Nat) (w t : Int32) : TM := gCh2 (gWant v (i / 4)) i w t
theorem mI_clrR {v : TM} {p : Nat} (h : mI v) : mI (gClrR v p) := ⟨fun q hq => by
  show okR q (upd (mKr v) p (-1) q)
  unfold upd
  by_cases e : q = p
  · rw [if_pos e]; exact Or.inl rfl
  · rw [if_neg e]; exact h.1 q hq, h.2⟩
theorem mI_rowGo {v : TM} {p : Nat} (h : mI v) : mI (gRowGo v p) := by
  unfold gRowGo
  by_cases e : mKr v p = -1 ∨ mRc v p = 0
  · rw [if_pos e]; exact mI_clrR h
  · rw [if_neg e]; exact mI_clrR (v := gWbR v _) h
theorem mI_rowIn {v : TM} {k : Nat} (h : mI v) (hk : k < 32) : mI (gRowIn v k) := ⟨fun q hq => by
  show okR q (upd (mKr v) (k % 4) (nI k) q)
  unfold upd
  by_cases e : q = k % 4
  · rw [if_pos e]; exact Or.inr ⟨k, hk, e.symm, rfl⟩
  · rw [if_neg e]; exact h.1 q hq, h.2⟩
theorem mI_wantRow {v : TM} {k : Nat} (h : mI v) (hk : k < 32) : mI (gWantRow v k) := by
  unfold gWantRow
  by_cases e : mKr v (k % 4) = nI k
  · rw [if_pos e]; exact h
  · rw [if_neg e]; exact mI_rowIn (mI_rowGo h) hk
theorem mI_st1 {v : TM} {i : Nat} (h : mI v) : mI (gSt1 v i) := h
theorem mI_tg1 {v : TM} {k g : Nat} (h : mI v) : mI (gTg1 v k g) := h
theorem mI_wbL3 {v : TM} {n : Nat} (h : mI v) : mI (gWbL3 v n) := h
theorem mI_wbL1 {v : TM} {n : Nat} (h : mI v) : mI (gWbL1 v n) := mI_st1 (mI_st1 (mI_st1 (mI_st1 h)))
theorem mI_wbL {v : TM} {n : Nat} (h : mI v) (hn : n < 512) : mI (gWbL v n) := mI_wbL3 (mI_tg1 (mI_tg1 (mI_wantRow (k := n / 16) (mI_wbL1 h) (by omega))))
theorem mI_clrL {v : TM} {p : Nat} (h : mI v) : mI (gClrL v p) := ⟨h.1, fun q hq => by
  show okL q (upd (mLn v) p (-1) q)
  unfold upd
  by_cases e : q = p
  · rw [if_pos e]; exact Or.inl rfl
  · rw [if_neg e]; exact h.2.1 q hq, h.2.2⟩
theorem mI_lineGo {v : TM} {p : Nat} (h : mI v) (hp : p < 16) : mI (gLineGo v p) := by
  unfold gLineGo
  by_cases e : mLn v p = -1 ∨ mLc v p = 0
  · rw [if_pos e]; exact mI_clrL h
  · rw [if_neg e]
    rcases h.2.1 p hp with h1 | ⟨n, hn, -, h1⟩
    · exact absurd (Or.inl h1) e
    · rw [h1, nI_clamp (by omega)]; exact mI_clrL (mI_wbL h hn)
theorem mI_want {v : TM} {n : Nat} (h : mI v) (hn : n < 512) : mI (gWant v n) := by
  unfold gWant
  by_cases e : mLn v (n % 16) = nI n
  · rw [if_pos e]; exact h
  · rw [if_neg e]
    have h1 := mI_wantRow (mI_lineGo (p := n % 16) h (by omega)) (k := n / 16) (by omega)
    refine ⟨h1.1, fun q hq => ?_, h1.2.2⟩
    show okL q (upd (mLn (gWantRow (gLineGo v (n % 16)) (n / 16))) (n % 16) (nI n) q)
    unfold upd
    by_cases e : q = n % 16
    · rw [if_pos e]; exact Or.inr ⟨n, hn, e.symm, rfl⟩
    · rw [if_neg e]; exact h1.2.1 q hq
theorem mI_ch {v : TM} {i : Nat} {w t : Int32} (h : mI v) (hi : i < 2048) (ht : t = 0 ∨ t = 1) : mI (gCh v i w t) := by
  have h1 := mI_want (n := i / 4) h (by omega)
  refine ⟨h1.1, h1.2.1, fun g hg => ?_⟩
  show upd (mTg (gWant v (i / 4))) (i / 2) t g = 0 ∨ upd (mTg (gWant v (i / 4))) (i / 2) t g = 1
  unfold upd
  by_cases e : g = i / 2
  · rw [if_pos e]; exact ht
  · rw [if_neg e]; exact h1.2.2 g hg
theorem rmLineGo_01 (u : TM) (p : Nat) : rmLineGo u p = 0 ∨ rmLineGo u p = 1 := by
  unfold rmLineGo
  by_cases h : mLn u p = -1 ∨ mLc u p = 0
  · rw [if_pos h]; exact Or.inl rfl
  · rw [if_neg h]; exact Or.inr rfl
def gFlL : Nat → Nat → TM → Int32 → TM × Int32
  | 0, _, u, a => (u, a)
  | d + 1, i, u, a => gFlL d (i + 1) (gLineGo u i) (a + rmLineGo u i)
def gFlR : Nat → Nat → TM → TM
  | 0, _, u => u
  | d + 1, i, u => gFlR d (i + 1) (gRowGo u i)
def gFlush (u : TM) : TM := gFlR 4 0 (gFlL 16 0 (nTh u 0) 0).1
def rmFlush (u : TM) : Int32 := (gFlL 16 0 (nTh u 0) 0).2
theorem mI_flL : ∀ (d i : Nat) (u : TM) (a : Int32), i + d ≤ 16 → mI u → mI (gFlL d i u a).1
  | 0, _, _, _, _, h => h
  | d + 1, i, u, a, hi, h => mI_flL d (i + 1) (gLineGo u i) (a + rmLineGo u i) (by omega) (mI_lineGo h (by omega))
theorem mI_flR : ∀ (d i : Nat) (u : TM), mI u → mI (gFlR d i u)
  | 0, _, _, h => h
  | d + 1, i, u, h => mI_flR d (i + 1) (gRowGo u i) (mI_rowGo h)
def gPart (x : Int32) (i n : Nat) (v : Int32) : Int32 := (x &&& ((fMask n <<< (nI (8 * i) &&& 31)) ^^^ (-1))) ||| ((v <<< (nI (8 * i) &&& 31)) &&& (fMask n <<< (nI (8 * i) &&& 31)))
def gPut (v : TM) (g : Nat) (lo hi t : Int32) : TM := gCh (gCh v (2 * g) lo t) (2 * g + 1) hi t
def gCopy1 (v : TM) (g f : Nat) : TM := gCh v (2 * g) (mWd v (2 * f)) (mTg v f)
def gCopy2 (v : TM) (g f : Nat) (t : Int32) : TM := gCh v (2 * g + 1) (mWd v (2 * f + 1)) t
def gCopy (v : TM) (g f : Nat) : TM := gCopy2 (gCopy1 v g f) g f (mTg v f)
def rmCount (v : TM) (w : Nat) : Int32 := if w < 4 then mCs v w else if w = 4 then fCntNe 0 (mTg v) 1024 0 0 else if w = 5 then fCntNe (-1) (mLn v) 16 0 0 else if w = 6 then fCntNe 0 (mLc v) 16 0 0 else if w = 7 then fCntNe (-1) (mKr v) 4 0 0 else fCntNe 0 (mRc v) 4 0 0
/-- a number out of range, as the two sides' looks see it -/
def xbad (N : Nat) (x : Int32) : Prop := x < 0 ∨ (¬ x < 0 ∧ nI N ≤ x)
theorem xbad_lt {N : Nat} {x : Int32} (h : nI N ≤ x) : ¬ x < nI N := Int32.not_lt.mpr h
theorem xbad_le {N : Nat} {x : Int32} (hN : N + 1 < 2 ^ 31) (h : nI (N + 1) ≤ x) : ¬ x ≤ nI N := fun q => by
  rw [Int32.le_iff_toInt_le, nI_toInt (by omega)] at q
  rw [Int32.le_iff_toInt_le, nI_toInt (by omega)] at h
  omega
theorem xbad_or {N : Nat} (hN : N < 2 ^ 31) (x : Int32) : xbad N x ∨ ∃ j, j < N ∧ x = nI j := by
  rcases pk_ix x hN with h | h | h
  · exact Or.inl (Or.inl h)
  · by_cases h1 : x < 0
    · exact Or.inl (Or.inl h1)
    · exact Or.inl (Or.inr ⟨h1, h⟩)
  · exact Or.inr h
theorem gTg1_t {v : TM} {k g : Nat} (h : mTg v g = 0) : gTg1 v k g = nRw v (upd (mRw v) k ((mRw v k &&& (((1 : Int32) <<< (nI (g % 32) &&& 31)) ^^^ (-1))) ||| 0)) := by unfold gTg1; rw [if_pos h]
theorem gTg1_f {v : TM} {k g : Nat} (h : ¬ mTg v g = 0) : gTg1 v k g = nRw v (upd (mRw v) k ((mRw v k &&& (((1 : Int32) <<< (nI (g % 32) &&& 31)) ^^^ (-1))) ||| ((1 : Int32) <<< (nI (g % 32) &&& 31)))) := by unfold gTg1; rw [if_neg h]
