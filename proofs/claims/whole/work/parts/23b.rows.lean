/-! what the steps leave alone -/
theorem mWd_st1 (v : TM) (i : Nat) : mWd (gSt1 v i) = mWd v := rfl
theorem mWd_tg1 (v : TM) (k g : Nat) : mWd (gTg1 v k g) = mWd v := rfl
theorem mWd_wbL3 (v : TM) (n : Nat) : mWd (gWbL3 v n) = mWd v := rfl
theorem mWd_wbL1 (v : TM) (n : Nat) : mWd (gWbL1 v n) = mWd v := by unfold gWbL1; rw [mWd_st1, mWd_st1, mWd_st1, mWd_st1]
theorem mWd_wbL2 (v : TM) (n : Nat) : mWd (gWbL2 v n) = mWd v := by unfold gWbL2; rw [mWd_wbL3, mWd_tg1, mWd_tg1]
theorem mTg_st1 (v : TM) (i : Nat) : mTg (gSt1 v i) = mTg v := rfl
theorem mTg_tg1 (v : TM) (k g : Nat) : mTg (gTg1 v k g) = mTg v := rfl
theorem mTg_wbL3 (v : TM) (n : Nat) : mTg (gWbL3 v n) = mTg v := rfl
theorem mTg_wbL1 (v : TM) (n : Nat) : mTg (gWbL1 v n) = mTg v := by unfold gWbL1; rw [mTg_st1, mTg_st1, mTg_st1, mTg_st1]
theorem mTg_wbL2 (v : TM) (n : Nat) : mTg (gWbL2 v n) = mTg v := by unfold gWbL2; rw [mTg_wbL3, mTg_tg1, mTg_tg1]
theorem mSo_tg1 (v : TM) (k g : Nat) : mSo (gTg1 v k g) = mSo v := rfl
theorem mSo_wbL3 (v : TM) (n : Nat) : mSo (gWbL3 v n) = mSo v := rfl
theorem mSo_wbL2 (v : TM) (n : Nat) : mSo (gWbL2 v n) = mSo v := by unfold gWbL2; rw [mSo_wbL3, mSo_tg1, mSo_tg1]
theorem mRw_st1 (v : TM) (i : Nat) : mRw (gSt1 v i) = mRw v := rfl
theorem mRw_wbL3 (v : TM) (n : Nat) : mRw (gWbL3 v n) = mRw v := rfl
theorem mRw_wbL1 (v : TM) (n : Nat) : mRw (gWbL1 v n) = mRw v := by unfold gWbL1; rw [mRw_st1, mRw_st1, mRw_st1, mRw_st1]
theorem mLn_st1 (v : TM) (i : Nat) : mLn (gSt1 v i) = mLn v := rfl
theorem mLn_tg1 (v : TM) (k g : Nat) : mLn (gTg1 v k g) = mLn v := rfl
theorem mLn_wbL3 (v : TM) (n : Nat) : mLn (gWbL3 v n) = mLn v := rfl
theorem mLn_wbL1 (v : TM) (n : Nat) : mLn (gWbL1 v n) = mLn v := by unfold gWbL1; rw [mLn_st1, mLn_st1, mLn_st1, mLn_st1]
theorem mLn_wbL2 (v : TM) (n : Nat) : mLn (gWbL2 v n) = mLn v := by unfold gWbL2; rw [mLn_wbL3, mLn_tg1, mLn_tg1]
theorem mLc_st1 (v : TM) (i : Nat) : mLc (gSt1 v i) = mLc v := rfl
theorem mLc_tg1 (v : TM) (k g : Nat) : mLc (gTg1 v k g) = mLc v := rfl
theorem mLc_wbL3 (v : TM) (n : Nat) : mLc (gWbL3 v n) = mLc v := rfl
theorem mLc_wbL1 (v : TM) (n : Nat) : mLc (gWbL1 v n) = mLc v := by unfold gWbL1; rw [mLc_st1, mLc_st1, mLc_st1, mLc_st1]
theorem mLc_wbL2 (v : TM) (n : Nat) : mLc (gWbL2 v n) = mLc v := by unfold gWbL2; rw [mLc_wbL3, mLc_tg1, mLc_tg1]
theorem mKr_st1 (v : TM) (i : Nat) : mKr (gSt1 v i) = mKr v := rfl
theorem mKr_tg1 (v : TM) (k g : Nat) : mKr (gTg1 v k g) = mKr v := rfl
theorem mKr_wbL3 (v : TM) (n : Nat) : mKr (gWbL3 v n) = mKr v := rfl
theorem mKr_wbL1 (v : TM) (n : Nat) : mKr (gWbL1 v n) = mKr v := by unfold gWbL1; rw [mKr_st1, mKr_st1, mKr_st1, mKr_st1]
theorem mKr_wbL2 (v : TM) (n : Nat) : mKr (gWbL2 v n) = mKr v := by unfold gWbL2; rw [mKr_wbL3, mKr_tg1, mKr_tg1]
theorem mRc_st1 (v : TM) (i : Nat) : mRc (gSt1 v i) = mRc v := rfl
theorem mRc_tg1 (v : TM) (k g : Nat) : mRc (gTg1 v k g) = mRc v := rfl
theorem mRc_wbL1 (v : TM) (n : Nat) : mRc (gWbL1 v n) = mRc v := by unfold gWbL1; rw [mRc_st1, mRc_st1, mRc_st1, mRc_st1]
theorem mCs_st1 (v : TM) (i : Nat) : mCs (gSt1 v i) = mCs v := rfl
theorem mCs_tg1 (v : TM) (k g : Nat) : mCs (gTg1 v k g) = mCs v := rfl
theorem mCs_wbL1 (v : TM) (n : Nat) : mCs (gWbL1 v n) = mCs v := by unfold gWbL1; rw [mCs_st1, mCs_st1, mCs_st1, mCs_st1]
theorem mTh_st1 (v : TM) (i : Nat) : mTh (gSt1 v i) = mTh v := rfl
theorem mTh_tg1 (v : TM) (k g : Nat) : mTh (gTg1 v k g) = mTh v := rfl
theorem mTh_wbL3 (v : TM) (n : Nat) : mTh (gWbL3 v n) = mTh v := rfl
theorem mTh_wbL1 (v : TM) (n : Nat) : mTh (gWbL1 v n) = mTh v := by unfold gWbL1; rw [mTh_st1, mTh_st1, mTh_st1, mTh_st1]
theorem mTh_wbL2 (v : TM) (n : Nat) : mTh (gWbL2 v n) = mTh v := by unfold gWbL2; rw [mTh_wbL3, mTh_tg1, mTh_tg1]
theorem mRc_wbL2 (v : TM) (n : Nat) : mRc (gWbL2 v n) = upd (mRc v) (n / 16 % 4) 1 := by
  unfold gWbL2
  show upd (mRc (gTg1 (gTg1 v (n / 16) (2 * n)) (n / 16) (2 * n + 1))) (n / 16 % 4) 1 = _
  rw [mRc_tg1, mRc_tg1]
theorem mCs_wbL2 (v : TM) (n : Nat) : mCs (gWbL2 v n) = upd (mCs v) 1 (mCs v 1 + 1) := by
  unfold gWbL2
  show upd (mCs (gTg1 (gTg1 v (n / 16) (2 * n)) (n / 16) (2 * n + 1))) 1 (mCs (gTg1 (gTg1 v (n / 16) (2 * n)) (n / 16) (2 * n + 1)) 1 + 1) = _
  rw [mCs_tg1, mCs_tg1]
theorem mSo_st1 (v : TM) (i j : Nat) : mSo (gSt1 v i) j = if j = i then mWd v i else mSo v j := rfl
theorem mSo_wbL1 (v : TM) (n i : Nat) : mSo (gWbL1 v n) i = if n * 4 ≤ i ∧ i < n * 4 + 4 then mWd v i else mSo v i := by
  unfold gWbL1
  rw [mSo_st1, mSo_st1, mSo_st1, mSo_st1, mWd_st1, mWd_st1, mWd_st1]
  by_cases h3 : i = 4 * n + 1 + 1 + 1
  · rw [if_pos h3, if_pos (by omega), h3]
  · rw [if_neg h3]
    by_cases h2 : i = 4 * n + 1 + 1
    · rw [if_pos h2, if_pos (by omega), h2]
    · rw [if_neg h2]
      by_cases h1 : i = 4 * n + 1
      · rw [if_pos h1, if_pos (by omega), h1]
      · rw [if_neg h1]
        by_cases h0 : i = 4 * n
        · rw [if_pos h0, if_pos (by omega), h0]
        · rw [if_neg h0, if_neg (by omega)]
theorem mRw_tg1 (v : TM) (k g j : Nat) : mRw (gTg1 v k g) j = if j = k then ((mRw v k &&& (((1 : Int32) <<< (nI (g % 32) &&& 31)) ^^^ (-1))) ||| gbit (g % 32) (mTg v g)) else mRw v j := rfl
theorem mRw_wbL2 (v : TM) (n j : Nat) (ha : mTg v (2 * n) = 0 ∨ mTg v (2 * n) = 1) (hb : mTg v (2 * n + 1) = 0 ∨ mTg v (2 * n + 1) = 1) : mRw (gWbL2 v n) j = if j = n / 16 then fTagW n (mRw v (n / 16)) (tags2 (mTg v (2 * n)) (mTg v (2 * n + 1))) else mRw v j := by
  unfold gWbL2
  rw [mRw_wbL3, mRw_tg1, mRw_tg1, mTg_tg1]
  by_cases h : j = n / 16
  · rw [if_pos h, if_pos h, if_pos rfl]
    exact tagW_eq ha hb _
  · rw [if_neg h, if_neg h, mRw_tg1, if_neg h]
theorem mWd_rowGo (v : TM) (p : Nat) : mWd (gRowGo v p) = mWd v := by
  unfold gRowGo
  by_cases e : mKr v p = -1 ∨ mRc v p = 0
  · rw [if_pos e]; rfl
  · rw [if_neg e]; rfl
theorem mWd_wantRow (v : TM) (k : Nat) : mWd (gWantRow v k) = mWd v := by
  unfold gWantRow
  by_cases e : mKr v (k % 4) = nI k
  · rw [if_pos e]
  · rw [if_neg e]
    show mWd (gRowGo v (k % 4)) = _
    exact mWd_rowGo v _
theorem mWd_lineGo (v : TM) (p : Nat) : mWd (gLineGo v p) = mWd v := by
  unfold gLineGo
  by_cases e : mLn v p = -1 ∨ mLc v p = 0
  · rw [if_pos e]; rfl
  · rw [if_neg e]
    show mWd (gWbL v (mLn v p).toNatClampNeg) = _
    unfold gWbL
    rw [mWd_wbL2, mWd_wantRow, mWd_wbL1]
theorem mWd_want (v : TM) (n : Nat) : mWd (gWant v n) = mWd v := by
  unfold gWant
  by_cases e : mLn v (n % 16) = nI n
  · rw [if_pos e]
  · rw [if_neg e]
    show mWd (gWantRow (gLineGo v (n % 16)) (n / 16)) = _
    rw [mWd_wantRow, mWd_lineGo]
theorem mTg_rowGo (v : TM) (p : Nat) : mTg (gRowGo v p) = mTg v := by
  unfold gRowGo
  by_cases e : mKr v p = -1 ∨ mRc v p = 0
  · rw [if_pos e]; rfl
  · rw [if_neg e]; rfl
theorem mTg_wantRow (v : TM) (k : Nat) : mTg (gWantRow v k) = mTg v := by
  unfold gWantRow
  by_cases e : mKr v (k % 4) = nI k
  · rw [if_pos e]
  · rw [if_neg e]
    show mTg (gRowGo v (k % 4)) = _
    exact mTg_rowGo v _
theorem mTg_lineGo (v : TM) (p : Nat) : mTg (gLineGo v p) = mTg v := by
  unfold gLineGo
  by_cases e : mLn v p = -1 ∨ mLc v p = 0
  · rw [if_pos e]; rfl
  · rw [if_neg e]
    show mTg (gWbL v (mLn v p).toNatClampNeg) = _
    unfold gWbL
    rw [mTg_wbL2, mTg_wantRow, mTg_wbL1]
theorem mTg_want (v : TM) (n : Nat) : mTg (gWant v n) = mTg v := by
  unfold gWant
  by_cases e : mLn v (n % 16) = nI n
  · rw [if_pos e]
  · rw [if_neg e]
    show mTg (gWantRow (gLineGo v (n % 16)) (n / 16)) = _
    rw [mTg_wantRow, mTg_lineGo]
theorem mTh_rowGo (v : TM) (p : Nat) : mTh (gRowGo v p) = mTh v := by
  unfold gRowGo
  by_cases e : mKr v p = -1 ∨ mRc v p = 0
  · rw [if_pos e]; rfl
  · rw [if_neg e]; rfl
theorem mTh_wantRow (v : TM) (k : Nat) : mTh (gWantRow v k) = mTh v := by
  unfold gWantRow
  by_cases e : mKr v (k % 4) = nI k
  · rw [if_pos e]
  · rw [if_neg e]
    show mTh (gRowGo v (k % 4)) = _
    exact mTh_rowGo v _
theorem mTh_lineGo (v : TM) (p : Nat) : mTh (gLineGo v p) = mTh v := by
  unfold gLineGo
  by_cases e : mLn v p = -1 ∨ mLc v p = 0
  · rw [if_pos e]; rfl
  · rw [if_neg e]
    show mTh (gWbL v (mLn v p).toNatClampNeg) = _
    unfold gWbL
    rw [mTh_wbL2, mTh_wantRow, mTh_wbL1]
theorem mTh_want (v : TM) (n : Nat) : mTh (gWant v n) = mTh v := by
  unfold gWant
  by_cases e : mLn v (n % 16) = nI n
  · rw [if_pos e]
  · rw [if_neg e]
    show mTh (gWantRow (gLineGo v (n % 16)) (n / 16)) = _
    rw [mTh_wantRow, mTh_lineGo]
theorem fr_rowGo (u : TC) (p : Nat) : tLa (fRowGo u p) = tLa u ∧ tLc (fRowGo u p) = tLc u ∧ tLw (fRowGo u p) = tLw u ∧ tLt (fRowGo u p) = tLt u := by
  unfold fRowGo
  by_cases e : tRa u p = -1 ∨ tRc u p = 0
  · rw [if_pos e]; exact ⟨rfl, rfl, rfl, rfl⟩
  · rw [if_neg e]; exact ⟨rfl, rfl, rfl, rfl⟩
theorem st_rowGo (u : TC) (p : Nat) {i : Nat} (hi : i < 2048) : tSt (fRowGo u p) i = tSt u i := by
  unfold fRowGo
  by_cases e : tRa u p = -1 ∨ tRc u p = 0
  · rw [if_pos e]; rfl
  · rw [if_neg e]
    show upd (tSt u) (2048 + (tRa u p).toNatClampNeg) (tRt u p) i = tSt u i
    exact pk_un (by omega)
theorem fr_wantRow (u : TC) (k : Nat) : tLa (fWantRow u k) = tLa u ∧ tLc (fWantRow u k) = tLc u ∧ tLw (fWantRow u k) = tLw u ∧ tLt (fWantRow u k) = tLt u := by
  unfold fWantRow
  by_cases e : tRa u (k % 4) = nI k
  · rw [if_pos e]; exact ⟨rfl, rfl, rfl, rfl⟩
  · rw [if_neg e]; exact fr_rowGo u (k % 4)
theorem st_wantRow (u : TC) (k : Nat) {i : Nat} (hi : i < 2048) : tSt (fWantRow u k) i = tSt u i := by
  unfold fWantRow
  by_cases e : tRa u (k % 4) = nI k
  · rw [if_pos e]
  · rw [if_neg e]; exact st_rowGo u (k % 4) hi
theorem upd_ne2 {f : Nat → Int32} {k j : Nat} {x y : Int32} (h : upd f k x j = y) (hx : x ≠ y) : j ≠ k ∧ f j = y := by
  unfold upd at h
  by_cases e : j = k
  · rw [if_pos e] at h; exact absurd h hx
  · rw [if_neg e] at h; exact ⟨e, h⟩
theorem upd_cg {f g : Nat → Int32} {k j : Nat} {x : Int32} (h : f j = g j) : upd f k x j = upd g k x j := by
  unfold upd
  by_cases e : j = k
  · rw [if_pos e, if_pos e]
  · rw [if_neg e, if_neg e]; exact h
/-! rows -/
theorem REL_clrR {u : TC} {v : TM} {p : Nat} (h : REL u v) (hp : p < 4) (hs : ∀ k, k < 32 → k % 4 = p → tRa u p = nI k → tRt u p = tSt u (2048 + k)) : REL (fClrR u p) (gClrR v p) := by
  obtain ⟨hI, hM, hSt, hLn, hRw, hC, hK, hN, hX, hY⟩ := h
  have pk : ∀ k, k < 32 → fPeek (fClrR u p) k = fPeek u k := fun k hk => by
    show (if upd (tRa u) p (-1) (k % 4) = nI k then tRt u (k % 4) else tSt u (2048 + k)) = (if tRa u (k % 4) = nI k then tRt u (k % 4) else tSt u (2048 + k))
    by_cases e : k % 4 = p
    · rw [e, pk_us, if_neg (fun z => nI_neg1 (n := k) (by omega) z.symm)]
      by_cases e2 : tRa u p = nI k
      · rw [if_pos e2]; exact (hs k hk e e2).symm
      · rw [if_neg e2]
    · rw [pk_un e]
  refine ⟨tI_clrR hI, mI_clrR hM, hSt, hLn, fun q hq => ⟨upd_cg (hRw q hq).1, upd_cg (hRw q hq).2⟩, hC, fun k hk h1 => ?_, fun k hk h1 h2 => ?_, hX, fun n hn h1 => ?_⟩
  · obtain ⟨_, h3⟩ := upd_ne2 (show upd (tRa u) p (-1) (k % 4) = nI k from h1) (fun z => nI_neg1 (n := k) (by omega) z.symm)
    exact hK k hk h3
  · obtain ⟨e, h3⟩ := upd_ne2 (show upd (tRa u) p (-1) (k % 4) = nI k from h1) (fun z => nI_neg1 (n := k) (by omega) z.symm)
    have h2 : upd (tRc u) p 0 (k % 4) = 0 := h2
    rw [pk_un e] at h2
    exact hN k hk h3 h2
  · rw [pk (n / 16) (by omega)]; exact hY n hn h1
theorem REL_wbR {u : TC} {v : TM} {p k : Nat} (h : REL u v) (hk : k < 32) (hkp : k % 4 = p) (hra : tRa u p = nI k) : REL (fWbR u p k) (gWbR v k) := by
  obtain ⟨hI, hM, hSt, hLn, hRw, hC, hK, hN, hX, hY⟩ := h
  subst hkp
  have e1 := hK k hk hra
  refine ⟨hI, hM, fun i hi => ?_, hLn, hRw, ⟨hC.1, hC.2.1, hC.2.2.1, ?_⟩, hK, fun j hj h1 h2 => ?_, hX, fun n hn h1 => ?_⟩
  · show upd (tSt u) (2048 + k) (tRt u (k % 4)) i = upd (mSo v) (2048 + k) (mRw v k) i
    rw [e1]; exact upd_cg (hSt i hi)
  · show tN3 u + 1 = upd (mCs v) 3 (mCs v 3 + 1) 3
    rw [pk_us, hC.2.2.2]
  · show tRt u (j % 4) = upd (tSt u) (2048 + k) (tRt u (k % 4)) (2048 + j)
    by_cases e : j = k
    · rw [e, pk_us]
    · rw [pk_un (by omega)]; exact hN j hj h1 h2
  · obtain ⟨y1, y2⟩ := hY n hn h1
    refine ⟨fun w hw => ?_, ?_⟩
    · show mWd v (n * 4 + w) = upd (tSt u) (2048 + k) (tRt u (k % 4)) (n * 4 + w)
      rw [pk_un (by omega)]; exact y1 w hw
    · show tags2 (mTg v (2 * n)) (mTg v (2 * n + 1)) = ftol n (if tRa u (n / 16 % 4) = nI (n / 16) then tRt u (n / 16 % 4) else upd (tSt u) (2048 + k) (tRt u (k % 4)) (2048 + n / 16))
      rw [y2]
      unfold fPeek
      by_cases e : tRa u (n / 16 % 4) = nI (n / 16)
      · rw [if_pos e, if_pos e]
      · rw [if_neg e, if_neg e, pk_un (fun z => e (by rw [show n / 16 = k by omega]; exact hra))]
theorem sim_rowGo {u : TC} {v : TM} {p : Nat} (h : REL u v) (hp : p < 4) : REL (fRowGo u p) (gRowGo v p) ∧ tRa (fRowGo u p) p = -1 ∧ tRc (fRowGo u p) p = 0 := by
  have h0 := h
  obtain ⟨hI, hM, hSt, hLn, hRw, hC, hK, hN, hX, hY⟩ := h
  have hpe := hRw p hp
  unfold fRowGo gRowGo
  by_cases e : tRa u p = -1 ∨ tRc u p = 0
  · rw [if_pos e, if_pos (by rw [← hpe.1, ← hpe.2]; exact e)]
    refine ⟨REL_clrR h0 hp (fun k hk e1 e2 => ?_), pk_us, pk_us⟩
    rcases e with e | e
    · exact absurd (e.symm.trans e2) (fun z => nI_neg1 (n := k) (by omega) z.symm)
    · have := hN k hk (by rw [e1]; exact e2) (by rw [e1]; exact e)
      rw [e1] at this; exact this
  · rw [if_neg e, if_neg (by rw [← hpe.1, ← hpe.2]; exact e)]
    obtain ⟨k, hk, hkp, hk1⟩ : ∃ k, k < 32 ∧ k % 4 = p ∧ tRa u p = nI k := (hI.1 p hp).resolve_left (fun z => e (Or.inl z))
    rw [← hpe.1, hk1, nI_clamp (by omega)]
    refine ⟨REL_clrR (REL_wbR h0 hk hkp hk1) hp (fun j hj e1 e2 => ?_), pk_us, pk_us⟩
    have e3 : nI k = nI j := hk1.symm.trans e2
    have e4 : k = j := (nI_eq (by omega) (by omega)).mp e3
    subst e4
    show tRt u p = upd (tSt u) (2048 + k) (tRt u p) (2048 + k)
    rw [pk_us]
theorem REL_rowIn {u : TC} {v : TM} {k : Nat} (h : REL u v) (hk : k < 32) (h0 : tRa u (k % 4) = -1) : REL (fRowIn u k) (gRowIn v k) := by
  obtain ⟨hI, hM, hSt, hLn, hRw, hC, hK, hN, hX, hY⟩ := h
  have pk : ∀ j, j < 32 → fPeek (fRowIn u k) j = fPeek u j := fun j hj => by
    show (if upd (tRa u) (k % 4) (nI k) (j % 4) = nI j then upd (tRt u) (k % 4) (tSt u (2048 + k)) (j % 4) else tSt u (2048 + j)) = (if tRa u (j % 4) = nI j then tRt u (j % 4) else tSt u (2048 + j))
    by_cases e : j % 4 = k % 4
    · have en : ¬ ((-1 : Int32) = nI j) := fun z => nI_neg1 (n := j) (by omega) z.symm
      rw [e, pk_us, pk_us, h0]
      by_cases e2 : k = j
      · rw [e2, if_pos rfl, if_neg en]
      · rw [if_neg (fun z => e2 ((nI_eq (by omega) (by omega)).mp z)), if_neg en]
    · rw [pk_un e, pk_un e]
  refine ⟨tI_rowIn hI hk, mI_rowIn hM hk, hSt, hLn, fun q hq => ⟨upd_cg (hRw q hq).1, (hRw q hq).2⟩, ⟨hC.1, hC.2.1, ?_, hC.2.2.2⟩, fun j hj h1 => ?_, fun j hj h1 h2 => ?_, hX, fun n hn h1 => ?_⟩
  · show tN2 u + 1 = upd (mCs v) 2 (mCs v 2 + 1) 2
    rw [pk_us, hC.2.2.1]
  · have h1 : upd (tRa u) (k % 4) (nI k) (j % 4) = nI j := h1
    show upd (tRt u) (k % 4) (tSt u (2048 + k)) (j % 4) = upd (mRw v) k (mSo v (2048 + k)) j
    by_cases e : j % 4 = k % 4
    · rw [e, pk_us] at h1
      have e4 : k = j := (nI_eq (by omega) (by omega)).mp h1
      rw [e, pk_us, ← e4, pk_us]; exact hSt _ (by omega)
    · rw [pk_un e] at h1
      rw [pk_un e, pk_un (fun z => e (by rw [z]))]; exact hK j hj h1
  · have h1 : upd (tRa u) (k % 4) (nI k) (j % 4) = nI j := h1
    show upd (tRt u) (k % 4) (tSt u (2048 + k)) (j % 4) = tSt u (2048 + j)
    by_cases e : j % 4 = k % 4
    · rw [e, pk_us] at h1
      have e4 : k = j := (nI_eq (by omega) (by omega)).mp h1
      rw [e, pk_us, ← e4]
    · rw [pk_un e] at h1
      rw [pk_un e]; exact hN j hj h1 h2
  · rw [pk (n / 16) (by omega)]; exact hY n hn h1
theorem sim_wantRow {u : TC} {v : TM} {k : Nat} (h : REL u v) (hk : k < 32) : REL (fWantRow u k) (gWantRow v k) ∧ tRa (fWantRow u k) (k % 4) = nI k := by
  have hp := (h.2.2.2.2.1 (k % 4) (by omega)).1
  unfold fWantRow gWantRow
  by_cases e : tRa u (k % 4) = nI k
  · rw [if_pos e, if_pos (by rw [← hp]; exact e)]; exact ⟨h, e⟩
  · rw [if_neg e, if_neg (by rw [← hp]; exact e)]
    obtain ⟨h1, h2, -⟩ := sim_rowGo (p := k % 4) h (by omega)
    exact ⟨REL_rowIn h1 hk h2, pk_us⟩
