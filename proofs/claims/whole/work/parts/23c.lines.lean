/-! lines -/
theorem REL_clrL {u : TC} {v : TM} {p : Nat} (h : REL u v) (hs : ∀ n, n < 512 → n % 16 = p → tLa u p = nI n → (∀ w, w < 4 → mWd v (n * 4 + w) = tSt u (n * 4 + w)) ∧ tags2 (mTg v (2 * n)) (mTg v (2 * n + 1)) = ftol n (fPeek u (n / 16))) : REL (fClrL u p) (gClrL v p) := by
  obtain ⟨hI, hM, hSt, hLn, hRw, hC, hK, hN, hX, hY⟩ := h
  refine ⟨tI_clrL hI, mI_clrL hM, hSt, fun q hq => ⟨upd_cg (hLn q hq).1, upd_cg (hLn q hq).2⟩, hRw, hC, hK, hN, fun n hn h1 => ?_, fun n hn h1 => ?_⟩
  · obtain ⟨_, h3⟩ := upd_ne2 (show upd (tLa u) p (-1) (n % 16) = nI n from h1) (fun z => nI_neg1 (n := n) (by omega) z.symm)
    exact hX n hn h3
  · show (∀ w, w < 4 → mWd v (n * 4 + w) = tSt u (n * 4 + w)) ∧ tags2 (mTg v (2 * n)) (mTg v (2 * n + 1)) = ftol n (fPeek u (n / 16))
    by_cases e : n % 16 = p
    · by_cases e2 : tLa u p = nI n
      · exact hs n hn e e2
      · exact hY n hn (Or.inl (by rw [e]; exact e2))
    · have h1 : upd (tLa u) p (-1) (n % 16) ≠ nI n ∨ upd (tLc u) p 0 (n % 16) = 0 := h1
      rw [pk_un e, pk_un e] at h1
      exact hY n hn h1
theorem REL_wbL1 {u : TC} {v : TM} {n p : Nat} (h : REL u v) (hn : n < 512) (hnp : n % 16 = p) (hla : tLa u p = nI n) : REL (fWbL1 u n p) (gWbL1 v n) := by
  obtain ⟨hI, hM, hSt, hLn, hRw, hC, hK, hN, hX, hY⟩ := h
  have hx := hX n hn (by rw [hnp]; exact hla)
  rw [hnp] at hx
  have pk : ∀ k, k < 32 → fPeek (fWbL1 u n p) k = fPeek u k := fun k hk => by
    show (if tRa u (k % 4) = nI k then tRt u (k % 4) else va_cpy (tLw u) (tSt u) (p * 4) (n * 4) 4 (2048 + k)) = (if tRa u (k % 4) = nI k then tRt u (k % 4) else tSt u (2048 + k))
    rw [pk_cpy_out (by omega)]
  refine ⟨hI, mI_wbL1 hM, fun i hi => ?_, fun q hq => ?_, fun q hq => ?_, ?_, fun k hk h1 => ?_, fun k hk h1 h2 => ?_, fun j hj h1 => ?_, fun j hj h1 => ?_⟩
  · show va_cpy (tLw u) (tSt u) (p * 4) (n * 4) 4 i = mSo (gWbL1 v n) i
    rw [mSo_wbL1]
    by_cases e : n * 4 ≤ i ∧ i < n * 4 + 4
    · rw [if_pos e, pk_cpy_in e.1 e.2, hx.1 (i - n * 4) (by omega), show n * 4 + (i - n * 4) = i by omega]
    · rw [if_neg e, pk_cpy_out (by omega)]; exact hSt i hi
  · rw [mLn_wbL1, mLc_wbL1]; exact hLn q hq
  · rw [mKr_wbL1, mRc_wbL1]; exact hRw q hq
  · rw [mCs_wbL1]; exact hC
  · rw [mRw_wbL1]; exact hK k hk h1
  · show tRt u (k % 4) = va_cpy (tLw u) (tSt u) (p * 4) (n * 4) 4 (2048 + k)
    rw [pk_cpy_out (by omega)]; exact hN k hk h1 h2
  · rw [mWd_wbL1, mTg_wbL1]; exact hX j hj h1
  · rw [mWd_wbL1, mTg_wbL1, pk (j / 16) (by omega)]
    obtain ⟨y1, y2⟩ := hY j hj h1
    refine ⟨fun w hw => ?_, y2⟩
    show mWd v (j * 4 + w) = va_cpy (tLw u) (tSt u) (p * 4) (n * 4) 4 (j * 4 + w)
    by_cases e : j = n
    · rw [e, pk_cpy_in (by omega) (by omega), hx.1 (n * 4 + w - n * 4) (by omega), show n * 4 + (n * 4 + w - n * 4) = n * 4 + w by omega]
    · rw [pk_cpy_out (by omega)]; exact y1 w hw
theorem REL_wbL2 {u : TC} {v : TM} {n p : Nat} (h : REL u v) (hn : n < 512) (hnp : n % 16 = p) (hla : tLa u p = nI n) (hlc : tLc u p ≠ 0) (hra : tRa u (n / 16 % 4) = nI (n / 16)) : REL (fWbL2 u n p) (gWbL2 v n) := by
  obtain ⟨hI, hM, hSt, hLn, hRw, hC, hK, hN, hX, hY⟩ := h
  have hx := (hX n hn (by rw [hnp]; exact hla)).2
  rw [hnp] at hx
  have ha := hM.2.2 (2 * n) (by omega)
  have hb := hM.2.2 (2 * n + 1) (by omega)
  obtain ⟨t, ht, e6⟩ := t2_lt ha hb
  have hk := hK (n / 16) (by omega) hra
  refine ⟨hI, mI_wbL3 (mI_tg1 (mI_tg1 hM)), fun i hi => ?_, fun q hq => ?_, fun q hq => ?_, ?_, fun k hk1 h1 => ?_, fun k hk1 h1 h2 => ?_, fun j hj h1 => ?_, fun j hj h1 => ?_⟩
  · rw [mSo_wbL2]; exact hSt i hi
  · rw [mLn_wbL2, mLc_wbL2]; exact hLn q hq
  · rw [mKr_wbL2, mRc_wbL2]; exact ⟨(hRw q hq).1, upd_cg (hRw q hq).2⟩
  · rw [mCs_wbL2]
    refine ⟨?_, ?_, ?_, ?_⟩
    · rw [pk_un (by omega)]; exact hC.1
    · rw [pk_us]; show tN1 u + 1 = _; rw [hC.2.1]
    · rw [pk_un (by omega)]; exact hC.2.2.1
    · rw [pk_un (by omega)]; exact hC.2.2.2
  · have h1 : tRa u (k % 4) = nI k := h1
    rw [mRw_wbL2 v n k ha hb]
    show upd (tRt u) (n / 16 % 4) (fTagW n (tRt u (n / 16 % 4)) (tLt u p)) (k % 4) = _
    by_cases e : k = n / 16
    · rw [if_pos e, e, pk_us, hk, hx]
    · have e2 : k % 4 ≠ n / 16 % 4 := fun z => e (by
        rw [z, hra] at h1
        exact ((nI_eq (by omega) (by omega)).mp h1).symm)
      rw [if_neg e, pk_un e2]; exact hK k hk1 h1
  · have h1 : tRa u (k % 4) = nI k := h1
    have h2 : upd (tRc u) (n / 16 % 4) 1 (k % 4) = 0 := h2
    show upd (tRt u) (n / 16 % 4) (fTagW n (tRt u (n / 16 % 4)) (tLt u p)) (k % 4) = tSt u (2048 + k)
    obtain ⟨e, h3⟩ := upd_ne2 h2 (by decide)
    rw [pk_un e]; exact hN k hk1 h1 h3
  · rw [mWd_wbL2, mTg_wbL2]; exact hX j hj h1
  · have h1 : tLa u (j % 16) ≠ nI j ∨ tLc u (j % 16) = 0 := h1
    rw [mWd_wbL2, mTg_wbL2]
    obtain ⟨y1, y2⟩ := hY j hj h1
    refine ⟨y1, ?_⟩
    show _ = ftol j (if tRa u (j / 16 % 4) = nI (j / 16) then upd (tRt u) (n / 16 % 4) (fTagW n (tRt u (n / 16 % 4)) (tLt u p)) (j / 16 % 4) else tSt u (2048 + j / 16))
    rw [y2]
    unfold fPeek
    have ejn : j ≠ n := fun z => by
      subst z
      rw [hnp] at h1
      rcases h1 with h1 | h1
      · exact h1 hla
      · exact hlc h1
    by_cases e : tRa u (j / 16 % 4) = nI (j / 16)
    · rw [if_pos e, if_pos e]
      by_cases e2 : j / 16 = n / 16
      · rw [e2, pk_us, hx, e6, ftol_other ht (by omega)]
      · rw [pk_un (fun z => e2 (by
          rw [z, hra] at e
          exact ((nI_eq (by omega) (by omega)).mp e).symm))]
    · rw [if_neg e, if_neg e]
theorem sim_lineGo {u : TC} {v : TM} {p : Nat} (h : REL u v) (hp : p < 16) : REL (fLineGo u p) (gLineGo v p) ∧ rLineGo u p = rmLineGo v p ∧ tLa (fLineGo u p) p = -1 ∧ tLc (fLineGo u p) p = 0 := by
  have h0 := h
  obtain ⟨hI, hM, hSt, hLn, hRw, hC, hK, hN, hX, hY⟩ := h
  have hpe := hLn p hp
  unfold fLineGo gLineGo rLineGo rmLineGo
  by_cases e : tLa u p = -1 ∨ tLc u p = 0
  · have e' : mLn v p = -1 ∨ mLc v p = 0 := by rw [← hpe.1, ← hpe.2]; exact e
    rw [if_pos e, if_pos e', if_pos e, if_pos e']
    refine ⟨REL_clrL h0 (fun n hn e1 e2 => ?_), rfl, pk_us, pk_us⟩
    rcases e with e | e
    · exact absurd (e.symm.trans e2) (fun z => nI_neg1 (n := n) (by omega) z.symm)
    · exact hY n hn (Or.inr (by rw [e1]; exact e))
  · have e' : ¬ (mLn v p = -1 ∨ mLc v p = 0) := by rw [← hpe.1, ← hpe.2]; exact e
    rw [if_neg e, if_neg e', if_neg e, if_neg e']
    obtain ⟨n, hn, hnp, hn1⟩ : ∃ n, n < 512 ∧ n % 16 = p ∧ tLa u p = nI n := (hI.2 p hp).resolve_left (fun z => e (Or.inl z))
    rw [← hpe.1, hn1, nI_clamp (by omega)]
    unfold fWbL gWbL
    have h1 := REL_wbL1 h0 hn hnp hn1
    obtain ⟨h2, h3⟩ := sim_wantRow (k := n / 16) h1 (by omega)
    obtain ⟨f1, f2, f3, f4⟩ := fr_wantRow (fWbL1 u n p) (n / 16)
    have hla : tLa (fWantRow (fWbL1 u n p) (n / 16)) p = nI n := by rw [f1]; exact hn1
    have hlc : tLc (fWantRow (fWbL1 u n p) (n / 16)) p ≠ 0 := by rw [f2]; exact fun z => e (Or.inr z)
    have hx := hX n hn (by rw [hnp]; exact hn1)
    rw [hnp] at hx
    refine ⟨REL_clrL (REL_wbL2 h2 hn hnp hla hlc h3) (fun j hj e1 e2 => ?_), rfl, pk_us, pk_us⟩
    have e4 : n = j := (nI_eq (by omega) (by omega)).mp (hla.symm.trans e2)
    subst e4
    refine ⟨fun w hw => ?_, ?_⟩
    · rw [mWd_wbL2, mWd_wantRow, mWd_wbL1]
      show mWd v (n * 4 + w) = tSt (fWantRow (fWbL1 u n p) (n / 16)) (n * 4 + w)
      rw [st_wantRow _ _ (by omega)]
      show _ = va_cpy (tLw u) (tSt u) (p * 4) (n * 4) 4 (n * 4 + w)
      rw [pk_cpy_in (by omega) (by omega), show n * 4 + w - n * 4 = w by omega]
      exact (hx.1 w hw).symm
    · rw [mTg_wbL2, mTg_wantRow, mTg_wbL1]
      show _ = ftol n (if tRa (fWantRow (fWbL1 u n p) (n / 16)) (n / 16 % 4) = nI (n / 16) then upd (tRt (fWantRow (fWbL1 u n p) (n / 16))) (n / 16 % 4) (fTagW n (tRt (fWantRow (fWbL1 u n p) (n / 16)) (n / 16 % 4)) (tLt (fWantRow (fWbL1 u n p) (n / 16)) p)) (n / 16 % 4) else tSt (fWantRow (fWbL1 u n p) (n / 16)) (2048 + n / 16))
      rw [if_pos h3, pk_us, f4]
      show _ = ftol n (fTagW n _ (tLt u p))
      obtain ⟨t, ht, e6⟩ := t2_lt (hM.2.2 (2 * n) (by omega)) (hM.2.2 (2 * n + 1) (by omega))
      rw [hx.2, e6, ftol_same ht]
theorem REL_bring1 {u : TC} {v : TM} {n p : Nat} (h : REL u v) (hla : tLa u p = -1) : REL (fBring1 u n p) v := by
  obtain ⟨hI, hM, hSt, hLn, hRw, hC, hK, hN, hX, hY⟩ := h
  refine ⟨hI, hM, hSt, hLn, hRw, hC, hK, hN, fun j hj h1 => ?_, hY⟩
  have h1 : tLa u (j % 16) = nI j := h1
  obtain ⟨x1, x2⟩ := hX j hj h1
  refine ⟨fun w hw => ?_, x2⟩
  show va_cpy (tSt u) (tLw u) (n * 4) (p * 4) 4 (j % 16 * 4 + w) = _
  have e : j % 16 ≠ p := fun z => by
    rw [z, hla] at h1
    exact nI_neg1 (n := j) (by omega) h1.symm
  rw [pk_cpy_out (by omega)]; exact x1 w hw
theorem REL_bring2 {u : TC} {v : TM} {n : Nat} (h : REL u v) (hn : n < 512) (hla : tLa u (n % 16) = -1) (hlc : tLc u (n % 16) = 0) (hra : tRa u (n / 16 % 4) = nI (n / 16)) (hw : ∀ w, w < 4 → tLw u (n % 16 * 4 + w) = tSt u (n * 4 + w)) : REL (fBring2 u n (n % 16)) (gWant2 v n) := by
  obtain ⟨hI, hM, hSt, hLn, hRw, hC, hK, hN, hX, hY⟩ := h
  have ne1 : ∀ j, j < 512 → (-1 : Int32) ≠ nI j := fun j hj z => nI_neg1 (n := j) (by omega) z.symm
  refine ⟨⟨hI.1, fun q hq => ?_⟩, ⟨hM.1, fun q hq => ?_, hM.2.2⟩, hSt, fun q hq => ⟨upd_cg (hLn q hq).1, ?_⟩, hRw, ⟨?_, hC.2.1, hC.2.2.1, hC.2.2.2⟩, hK, hN, fun j hj h1 => ?_, fun j hj h1 => ?_⟩
  · show okL q (upd (tLa u) (n % 16) (nI n) q)
    unfold upd
    by_cases e : q = n % 16
    · rw [if_pos e]; exact Or.inr ⟨n, hn, e.symm, rfl⟩
    · rw [if_neg e]; exact hI.2 q hq
  · show okL q (upd (mLn v) (n % 16) (nI n) q)
    unfold upd
    by_cases e : q = n % 16
    · rw [if_pos e]; exact Or.inr ⟨n, hn, e.symm, rfl⟩
    · rw [if_neg e]; exact hM.2.1 q hq
  · show upd (tLc u) (n % 16) 0 q = mLc v q
    by_cases e : q = n % 16
    · rw [e, pk_us, ← (hLn (n % 16) (by omega)).2, hlc]
    · rw [pk_un e]; exact (hLn q hq).2
  · show tN0 u + 1 = upd (mCs v) 0 (mCs v 0 + 1) 0
    rw [pk_us, hC.1]
  · have h1 : upd (tLa u) (n % 16) (nI n) (j % 16) = nI j := h1
    show (∀ w, w < 4 → tLw u (j % 16 * 4 + w) = mWd v (j * 4 + w)) ∧ upd (tLt u) (n % 16) (ftol n (tRt u (n / 16 % 4))) (j % 16) = tags2 (mTg v (2 * j)) (mTg v (2 * j + 1))
    by_cases e : j % 16 = n % 16
    · rw [e, pk_us] at h1
      have e4 : n = j := (nI_eq (by omega) (by omega)).mp h1
      subst e4
      obtain ⟨y1, y2⟩ := hY n hn (Or.inl (by rw [hla]; exact ne1 n hn))
      refine ⟨fun w h2 => (hw w h2).trans (y1 w h2).symm, ?_⟩
      rw [pk_us, y2]
      unfold fPeek
      rw [if_pos hra]
    · rw [pk_un e] at h1
      rw [pk_un e]; exact hX j hj h1
  · show (∀ w, w < 4 → mWd v (j * 4 + w) = tSt u (j * 4 + w)) ∧ tags2 (mTg v (2 * j)) (mTg v (2 * j + 1)) = ftol j (fPeek u (j / 16))
    have h1 : upd (tLa u) (n % 16) (nI n) (j % 16) ≠ nI j ∨ upd (tLc u) (n % 16) 0 (j % 16) = 0 := h1
    by_cases e : j % 16 = n % 16
    · exact hY j hj (Or.inl (by rw [e, hla]; exact ne1 j hj))
    · rw [pk_un e, pk_un e] at h1
      exact hY j hj h1
theorem sim_want {u : TC} {v : TM} {n : Nat} (h : REL u v) (hn : n < 512) : REL (fWant u n) (gWant v n) ∧ tLa (fWant u n) (n % 16) = nI n := by
  have hp := (h.2.2.2.1 (n % 16) (by omega)).1
  unfold fWant gWant
  by_cases e : tLa u (n % 16) = nI n
  · rw [if_pos e, if_pos (by rw [← hp]; exact e)]; exact ⟨h, e⟩
  · rw [if_neg e, if_neg (by rw [← hp]; exact e)]
    obtain ⟨h1, -, h2, h3⟩ := sim_lineGo (p := n % 16) h (by omega)
    have h4 := REL_bring1 (n := n) h1 h2
    obtain ⟨h5, h6⟩ := sim_wantRow (k := n / 16) h4 (by omega)
    obtain ⟨f1, f2, f3, f4⟩ := fr_wantRow (fBring1 (fLineGo u (n % 16)) n (n % 16)) (n / 16)
    refine ⟨REL_bring2 h5 hn (by rw [f1]; exact h2) (by rw [f2]; exact h3) h6 (fun w hw => ?_), pk_us⟩
    rw [f3, st_wantRow _ _ (by omega)]
    show va_cpy (tSt (fLineGo u (n % 16))) (tLw (fLineGo u (n % 16))) (n * 4) (n % 16 * 4) 4 (n % 16 * 4 + w) = tSt (fLineGo u (n % 16)) (n * 4 + w)
    rw [pk_cpy_in (by omega) (by omega), show n % 16 * 4 + w - n % 16 * 4 = w by omega]
