/-! the start -/
theorem iTL_fr : ∀ (d i : Nat) (u : TC), tSt (iTL d i u) = tSt u ∧ tLc (iTL d i u) = tLc u ∧ tRa (iTL d i u) = tRa u ∧ tRc (iTL d i u) = tRc u ∧ tN0 (iTL d i u) = tN0 u ∧ tN1 (iTL d i u) = tN1 u ∧ tN2 (iTL d i u) = tN2 u ∧ tN3 (iTL d i u) = tN3 u
  | 0, _, _ => ⟨rfl, rfl, rfl, rfl, rfl, rfl, rfl, rfl⟩
  | d + 1, i, u => by rw [iTL]; exact iTL_fr d (i + 1) (sLa u (upd (tLa u) i (-1)))
theorem iTR_fr : ∀ (d i : Nat) (u : TC), tSt (iTR d i u) = tSt u ∧ tLc (iTR d i u) = tLc u ∧ tLa (iTR d i u) = tLa u ∧ tRc (iTR d i u) = tRc u ∧ tN0 (iTR d i u) = tN0 u ∧ tN1 (iTR d i u) = tN1 u ∧ tN2 (iTR d i u) = tN2 u ∧ tN3 (iTR d i u) = tN3 u
  | 0, _, _ => ⟨rfl, rfl, rfl, rfl, rfl, rfl, rfl, rfl⟩
  | d + 1, i, u => by rw [iTR]; exact iTR_fr d (i + 1) (sRa u (upd (tRa u) i (-1)))
theorem iTL_la : ∀ (d i : Nat) (u : TC) (q : Nat), (q < i → tLa u q = -1) → q < i + d → tLa (iTL d i u) q = -1
  | 0, _, _, _, h, hq => h hq
  | d + 1, i, u, q, h, hq => by
    rw [iTL]
    refine iTL_la d (i + 1) _ q (fun h1 => ?_) (by omega)
    show upd (tLa u) i (-1) q = -1
    by_cases e : q = i
    · rw [e, pk_us]
    · rw [pk_un e]; exact h (by omega)
theorem iTR_ra : ∀ (d i : Nat) (u : TC) (q : Nat), (q < i → tRa u q = -1) → q < i + d → tRa (iTR d i u) q = -1
  | 0, _, _, _, h, hq => h hq
  | d + 1, i, u, q, h, hq => by
    rw [iTR]
    refine iTR_ra d (i + 1) _ q (fun h1 => ?_) (by omega)
    show upd (tRa u) i (-1) q = -1
    by_cases e : q = i
    · rw [e, pk_us]
    · rw [pk_un e]; exact h (by omega)
theorem iML_fr : ∀ (d i : Nat) (u : TM), mSo (iML d i u) = mSo u ∧ mLc (iML d i u) = mLc u ∧ mKr (iML d i u) = mKr u ∧ mRc (iML d i u) = mRc u ∧ mCs (iML d i u) = mCs u ∧ mWd (iML d i u) = mWd u ∧ mTg (iML d i u) = mTg u
  | 0, _, _ => ⟨rfl, rfl, rfl, rfl, rfl, rfl, rfl⟩
  | d + 1, i, u => by rw [iML]; exact iML_fr d (i + 1) (nLn u (upd (mLn u) i (-1)))
theorem iMR_fr : ∀ (d i : Nat) (u : TM), mSo (iMR d i u) = mSo u ∧ mLc (iMR d i u) = mLc u ∧ mLn (iMR d i u) = mLn u ∧ mRc (iMR d i u) = mRc u ∧ mCs (iMR d i u) = mCs u ∧ mWd (iMR d i u) = mWd u ∧ mTg (iMR d i u) = mTg u
  | 0, _, _ => ⟨rfl, rfl, rfl, rfl, rfl, rfl, rfl⟩
  | d + 1, i, u => by rw [iMR]; exact iMR_fr d (i + 1) (nKr u (upd (mKr u) i (-1)))
theorem iML_la : ∀ (d i : Nat) (u : TM) (q : Nat), (q < i → mLn u q = -1) → q < i + d → mLn (iML d i u) q = -1
  | 0, _, _, _, h, hq => h hq
  | d + 1, i, u, q, h, hq => by
    rw [iML]
    refine iML_la d (i + 1) _ q (fun h1 => ?_) (by omega)
    show upd (mLn u) i (-1) q = -1
    by_cases e : q = i
    · rw [e, pk_us]
    · rw [pk_un e]; exact h (by omega)
theorem iMR_ra : ∀ (d i : Nat) (u : TM) (q : Nat), (q < i → mKr u q = -1) → q < i + d → mKr (iMR d i u) q = -1
  | 0, _, _, _, h, hq => h hq
  | d + 1, i, u, q, h, hq => by
    rw [iMR]
    refine iMR_ra d (i + 1) _ q (fun h1 => ?_) (by omega)
    show upd (mKr u) i (-1) q = -1
    by_cases e : q = i
    · rw [e, pk_us]
    · rw [pk_un e]; exact h (by omega)
theorem ftol_00 : ∀ m, m < 16 → ((0 : Int32).toUInt32 >>> ((nI (m * 2)).toUInt32 &&& Int32.toUInt32 31)).toInt32 &&& 3 = 0 := by decide +kernel
theorem ftol_0 (n : Nat) : ftol n 0 = 0 := by
  unfold ftol
  exact ftol_00 (n % 16) (by omega)
theorem t2_00 : tags2 0 0 = 0 := by decide +kernel
theorem REL_empty {u : TC} {v : TM} (hla : ∀ q, q < 16 → tLa u q = -1) (hra : ∀ q, q < 4 → tRa u q = -1) (hln : ∀ q, q < 16 → mLn v q = -1) (hkr : ∀ q, q < 4 → mKr v q = -1)
    (hst : tSt u = fun _ => 0) (hlc : tLc u = fun _ => 0) (hrc : tRc u = fun _ => 0) (hso : mSo v = fun _ => 0) (hmc : mLc v = fun _ => 0) (hmr : mRc v = fun _ => 0) (hcs : mCs v = fun _ => 0) (hwd : mWd v = fun _ => 0) (htg : mTg v = fun _ => 0)
    (hn : tN0 u = 0 ∧ tN1 u = 0 ∧ tN2 u = 0 ∧ tN3 u = 0) : REL u v := by
  refine ⟨⟨fun q hq => Or.inl (hra q hq), fun q hq => Or.inl (hla q hq)⟩, ⟨fun q hq => Or.inl (hkr q hq), fun q hq => Or.inl (hln q hq), fun g _ => Or.inl (by rw [htg])⟩, fun i _ => by rw [hst, hso], fun q hq => ⟨(hla q hq).trans (hln q hq).symm, by rw [hlc, hmc]⟩, fun q hq => ⟨(hra q hq).trans (hkr q hq).symm, by rw [hrc, hmr]⟩, ?_, fun k hk h1 => ?_, fun k hk h1 => ?_, fun n hn h1 => ?_, fun n hn h1 => ?_⟩
  · rw [hcs]; exact hn
  · exact absurd ((hra _ (by omega)).symm.trans h1) (fun z => nI_neg1 (n := k) (by omega) z.symm)
  · exact absurd ((hra _ (by omega)).symm.trans h1) (fun z => nI_neg1 (n := k) (by omega) z.symm)
  · exact absurd ((hla _ (by omega)).symm.trans h1) (fun z => nI_neg1 (n := n) (by omega) z.symm)
  · refine ⟨fun w _ => by rw [hwd, hst], ?_⟩
    unfold fPeek
    rw [hra _ (by omega), if_neg (fun z => nI_neg1 (n := n / 16) (by omega) z.symm), hst, htg]
    show tags2 0 0 = ftol n 0
    rw [t2_00, ftol_0]
theorem sim_start : REL startT startM := by
  unfold startT startM
  obtain ⟨a1, a2, a3, a4, a5, a6, a7, a8⟩ := iTL_fr 16 0 zT
  obtain ⟨b1, b2, b3, b4, b5, b6, b7, b8⟩ := iTR_fr 4 0 (iTL 16 0 zT)
  obtain ⟨c1, c2, c3, c4, c5, c6, c7⟩ := iML_fr 16 0 zM
  obtain ⟨d1, d2, d3, d4, d5, d6, d7⟩ := iMR_fr 4 0 (iML 16 0 zM)
  refine REL_empty (fun q hq => ?_) (fun q hq => iTR_ra 4 0 _ q (fun h => absurd h (by omega)) (by omega)) (fun q hq => ?_) (fun q hq => iMR_ra 4 0 _ q (fun h => absurd h (by omega)) (by omega)) ?_ ?_ ?_ ?_ ?_ ?_ ?_ ?_ ?_ ⟨?_, ?_, ?_, ?_⟩
  · rw [b3]; exact iTL_la 16 0 _ q (fun h => absurd h (by omega)) (by omega)
  · rw [d3]; exact iML_la 16 0 _ q (fun h => absurd h (by omega)) (by omega)
  · rw [b1, a1]; rfl
  · rw [b2, a2]; rfl
  · rw [b4, a4]; rfl
  · rw [d1, c1]; rfl
  · rw [d2, c2]; rfl
  · rw [d4, c4]; rfl
  · rw [d5, c5]; rfl
  · rw [d6, c6]; rfl
  · rw [d7, c7]; rfl
  · rw [b5, a5]; rfl
  · rw [b6, a6]; rfl
  · rw [b7, a7]; rfl
  · rw [b8, a8]; rfl
