/-! changes -/
theorem REL_chg {u : TC} {v : TM} {n : Nat} {lw wd tg lcu lcv : Nat → Int32} {x : Int32} (h : REL u v) (hn : n < 512) (hla : tLa u (n % 16) = nI n)
    (hlw : ∀ i, i / 4 ≠ n % 16 → lw i = tLw u i) (hwd : ∀ i, i / 4 ≠ n → wd i = mWd v i) (htg : ∀ g, g / 2 ≠ n → tg g = mTg v g) (h01 : ∀ g, g < 1024 → tg g = 0 ∨ tg g = 1)
    (hlu : lcu = upd (tLc u) (n % 16) 1) (hlv : ∀ q, lcv q = upd (mLc v) (n % 16) 1 q)
    (hw : ∀ w, w < 4 → lw (n % 16 * 4 + w) = wd (n * 4 + w)) (hx : x = tags2 (tg (2 * n)) (tg (2 * n + 1))) :
    REL (sLc (sLt (sLw u lw) (upd (tLt u) (n % 16) x)) lcu) (nLc (nTg (nWd v wd) tg) lcv) := by
  obtain ⟨hI, hM, hSt, hLn, hRw, hC, hK, hN, hX, hY⟩ := h
  subst hlu
  have same : ∀ j, j < 512 → tLa u (j % 16) = nI j → j ≠ n → j % 16 ≠ n % 16 := fun j hj h1 h2 z => h2 (by
    rw [z, hla] at h1
    exact ((nI_eq (by omega) (by omega)).mp h1).symm)
  refine ⟨hI, ⟨hM.1, hM.2.1, h01⟩, hSt, fun q hq => ⟨(hLn q hq).1, ?_⟩, hRw, hC, hK, hN, fun j hj h1 => ?_, fun j hj h1 => ?_⟩
  · show upd (tLc u) (n % 16) 1 q = lcv q
    rw [hlv q]; exact upd_cg (hLn q hq).2
  · have h1 : tLa u (j % 16) = nI j := h1
    show (∀ w, w < 4 → lw (j % 16 * 4 + w) = wd (j * 4 + w)) ∧ upd (tLt u) (n % 16) x (j % 16) = tags2 (tg (2 * j)) (tg (2 * j + 1))
    by_cases e : j = n
    · subst e
      exact ⟨hw, by rw [pk_us]; exact hx⟩
    · have e2 := same j hj h1 e
      obtain ⟨x1, x2⟩ := hX j hj h1
      refine ⟨fun w h2 => ?_, ?_⟩
      · rw [hlw _ (by omega), hwd _ (by omega)]; exact x1 w h2
      · rw [pk_un e2, htg _ (by omega), htg _ (by omega)]; exact x2
  · have h1 : tLa u (j % 16) ≠ nI j ∨ upd (tLc u) (n % 16) 1 (j % 16) = 0 := h1
    show (∀ w, w < 4 → wd (j * 4 + w) = tSt u (j * 4 + w)) ∧ tags2 (tg (2 * j)) (tg (2 * j + 1)) = ftol j (fPeek u (j / 16))
    have ejn : j ≠ n := fun z => by
      subst z
      rw [pk_us] at h1
      rcases h1 with h1 | h1
      · exact h1 hla
      · exact absurd h1 (by decide)
    have h3 : tLa u (j % 16) ≠ nI j ∨ tLc u (j % 16) = 0 := by
      rcases h1 with h1 | h1
      · exact Or.inl h1
      · exact Or.inr (upd_ne2 h1 (by decide)).2
    obtain ⟨y1, y2⟩ := hY j hj h3
    refine ⟨fun w h2 => ?_, ?_⟩
    · rw [hwd _ (by omega)]; exact y1 w h2
    · rw [htg _ (by omega), htg _ (by omega)]; exact y2
theorem tagset {tg : Nat → Int32} {g n : Nat} {t x : Int32} (hn : g / 2 = n) (ha : tg (2 * n) = 0 ∨ tg (2 * n) = 1) (hb : tg (2 * n + 1) = 0 ∨ tg (2 * n + 1) = 1) (ht : t = 0 ∨ t = 1) (hx : x = tags2 (tg (2 * n)) (tg (2 * n + 1))) : (if t = 0 then x &&& (ftb g ^^^ (-1)) else x &&& (ftb g ^^^ (-1)) ||| ftb g) = tags2 (upd tg g t (2 * n)) (upd tg g t (2 * n + 1)) := by
  obtain ⟨a, ha, ea⟩ := n01 ha
  obtain ⟨b, hb, eb⟩ := n01 hb
  unfold ftb
  rcases Nat.mod_two_eq_zero_or_one g with e | e
  · have eg : g = 2 * n := by omega
    subst eg
    rw [pk_us, pk_un (show 2 * n + 1 ≠ 2 * n by omega), hx, ea, eb, e]
    rcases ht with ht | ht <;> subst ht
    · rw [if_pos rfl]; exact (tb_even a ha b hb).1
    · rw [if_neg (by decide)]; exact (tb_even a ha b hb).2
  · have eg : g = 2 * n + 1 := by omega
    subst eg
    rw [pk_us, pk_un (show 2 * n ≠ 2 * n + 1 by omega), hx, ea, eb, e]
    rcases ht with ht | ht <;> subst ht
    · rw [if_pos rfl]; exact (tb_odd a ha b hb).1
    · rw [if_neg (by decide)]; exact (tb_odd a ha b hb).2
theorem rd_w {u : TC} {v : TM} {i : Nat} (h : REL u v) (hi : i < 2048) (hla : tLa u (i / 4 % 16) = nI (i / 4)) : tLw u (i % 64) = mWd v i := by
  have x := (h.2.2.2.2.2.2.2.2.1 (i / 4) (by omega) hla).1 (i % 4) (by omega)
  rw [show i / 4 % 16 * 4 + i % 4 = i % 64 by omega, show i / 4 * 4 + i % 4 = i by omega] at x
  exact x
theorem rd_t {u : TC} {v : TM} {g : Nat} (h : REL u v) (hg : g < 1024) (hla : tLa u (g / 2 % 16) = nI (g / 2)) : rTag u g = mTg v g := by
  have x := (h.2.2.2.2.2.2.2.2.1 (g / 2) (by omega) hla).2
  obtain ⟨a, ha, ea⟩ := n01 (h.2.1.2.2 (2 * (g / 2)) (by omega))
  obtain ⟨b, hb, eb⟩ := n01 (h.2.1.2.2 (2 * (g / 2) + 1) (by omega))
  unfold rTag ftb
  rcases Nat.mod_two_eq_zero_or_one g with e | e
  · rw [x, ea, eb, e, (tb_get a ha b hb).1, ← ea, show 2 * (g / 2) = g by omega]
  · rw [x, ea, eb, e, (tb_get a ha b hb).2, ← eb, show 2 * (g / 2) + 1 = g by omega]
theorem mI_tgu {v : TM} {g : Nat} {t : Int32} (h : mI v) (ht : t = 0 ∨ t = 1) : ∀ q, q < 1024 → upd (mTg v) g t q = 0 ∨ upd (mTg v) g t q = 1 := fun q hq => by
  unfold upd
  by_cases e : q = g
  · rw [if_pos e]; exact ht
  · rw [if_neg e]; exact h.2.2 q hq
theorem sim_chw {u : TC} {v : TM} {i : Nat} {w : Int32} (h : REL u v) (hi : i < 2048) (hla : tLa u (i / 4 % 16) = nI (i / 4)) : REL (fChWord u i w) (gCh2 v i w 0) := by
  have x := h.2.2.2.2.2.2.2.2.1 (i / 4) (by omega) hla
  have hM := h.2.1
  unfold fChWord fChTag gCh2
  rw [show i / 2 / 2 = i / 4 by omega]
  refine REL_chg (n := i / 4) h (by omega) hla (fun j hj => pk_un (by omega)) (fun j hj => pk_un (by omega)) (fun g hg => pk_un (by omega)) (mI_tgu hM (Or.inl rfl)) rfl (fun q => rfl) (fun w1 hw => ?_) (tagset (tg := mTg v) (by omega) (hM.2.2 _ (by omega)) (hM.2.2 _ (by omega)) (Or.inl rfl) x.2)
  by_cases e : w1 = i % 4
  · rw [show i / 4 % 16 * 4 + w1 = i % 64 by omega, show i / 4 * 4 + w1 = i by omega, pk_us, pk_us]
  · rw [pk_un (by omega), pk_un (by omega)]; exact x.1 w1 hw
theorem mTh_ch (v : TM) (i : Nat) (w t : Int32) : mTh (gCh v i w t) = mTh v := by
  show mTh (gWant v (i / 4)) = _
  exact mTh_want v _
theorem sim_read {u : TC} {v : TM} {i : Nat} (h : REL u v) (hi : i < 2048) : REL (fWant u (i / 4)) (gWant (nTh v 0) (i / 4)) ∧ tLw (fWant u (i / 4)) (i % 64) = mWd (gWant (nTh v 0) (i / 4)) i ∧ mTh (gWant (nTh v 0) (i / 4)) = 0 := by
  obtain ⟨h1, h2⟩ := sim_want (n := i / 4) (h.th (x := 0)) (by omega)
  exact ⟨h1, rd_w h1 hi h2, mTh_want (nTh v 0) _⟩
theorem sim_tag {u : TC} {v : TM} {i : Nat} (h : REL u v) (hi : i < 2048) : REL (fWant u (i / 2 / 2)) (gWant (nTh v 0) (i / 4)) ∧ rTag (fWant u (i / 2 / 2)) (i / 2) = mTg (gWant (nTh v 0) (i / 4)) (i / 2) ∧ mTh (gWant (nTh v 0) (i / 4)) = 0 := by
  obtain ⟨h1, h2⟩ := sim_want (n := i / 2 / 2) (h.th (x := 0)) (by omega)
  rw [show i / 4 = i / 2 / 2 by omega]
  exact ⟨h1, rd_t h1 (by omega) h2, mTh_want (nTh v 0) _⟩
theorem sim_write {u : TC} {v : TM} {i : Nat} {w : Int32} (h : REL u v) (hi : i < 2048) : REL (fChWord (fWant u (i / 4)) i w) (gCh (nTh v 0) i w 0) ∧ tLw (fWant u (i / 4)) (i % 64) = mWd v i ∧ mTh (gCh (nTh v 0) i w 0) = 0 := by
  obtain ⟨h1, h2⟩ := sim_want (n := i / 4) (h.th (x := 0)) (by omega)
  have h3 := rd_w h1 hi h2
  rw [mWd_want] at h3
  exact ⟨sim_chw h1 hi h2, h3, mTh_ch (nTh v 0) i w 0⟩
theorem sim_part {u : TC} {v : TM} {i j n : Nat} {w : Int32} (h : REL u v) (hi : i < 2048) (hj : j < 4) (hn : n = 1 ∨ n = 2) (hd : j % n = 0) : REL (fChWord (fWant u (i / 4)) i (fPart (tLw (fWant u (i / 4)) (i % 64)) j n w)) (gCh (nTh v 0) i (gPart (mWd v i) j n w) 0) ∧ fPart (tLw (fWant u (i / 4)) (i % 64)) j n w = mWd (gCh (nTh v 0) i (gPart (mWd v i) j n w) 0) i ∧ mTh (gCh (nTh v 0) i (gPart (mWd v i) j n w) 0) = 0 := by
  obtain ⟨-, h3, -⟩ := sim_write (w := 0) h hi
  rw [h3, part_eq _ _ hj]
  obtain ⟨h1, -, h4⟩ := sim_write (w := gPart (mWd v i) j n w) h hi
  refine ⟨h1, ?_, h4⟩
  show _ = upd (mWd (gWant (nTh v 0) (i / 4))) i (gPart (mWd v i) j n w) i
  rw [pk_us]
theorem gPut_eq {v : TM} {g : Nat} {lo hi t : Int32} (hk : mLn (gWant v (g / 2)) (g / 2 % 16) = nI (g / 2)) : gPut v g lo hi t = gCh2 (gCh2 (gWant v (g / 2)) (2 * g) lo t) (2 * g + 1) hi t := by
  unfold gPut gCh
  rw [show 2 * g / 4 = g / 2 by omega, show (2 * g + 1) / 4 = g / 2 by omega]
  have e : gWant (gCh2 (gWant v (g / 2)) (2 * g) lo t) (g / 2) = gCh2 (gWant v (g / 2)) (2 * g) lo t := by
    rw [gWant]
    exact if_pos hk
  rw [e]
theorem sim_put2 {u : TC} {v : TM} {g : Nat} {lo hi t : Int32} (h : REL u v) (hg : g < 1024) (ht : t = 0 ∨ t = 1) : REL (fChGran (fWant u (g / 2)) g lo hi t) (gPut v g lo hi t) := by
  obtain ⟨h1, hla⟩ := sim_want (n := g / 2) h (by omega)
  rw [gPut_eq (by rw [← (h1.2.2.2.1 (g / 2 % 16) (by omega)).1]; exact hla)]
  generalize fWant u (g / 2) = u at h1 hla
  generalize gWant v (g / 2) = v at h1
  have x := h1.2.2.2.2.2.2.2.2.1 (g / 2) (by omega) hla
  have hM := h1.2.1
  unfold fChGran fChGran1 fChTag gCh2
  rw [show 2 * g / 2 = g by omega, show (2 * g + 1) / 2 = g by omega, show 2 * g / 4 = g / 2 by omega, show (2 * g + 1) / 4 = g / 2 by omega]
  refine REL_chg (u := u) (v := v) (n := g / 2) (lw := upd (upd (tLw u) (2 * g % 64) lo) ((2 * g + 1) % 64) hi) (wd := upd (upd (mWd v) (2 * g) lo) (2 * g + 1) hi) (tg := upd (upd (mTg v) g t) g t) (lcv := upd (upd (mLc v) (g / 2 % 16) 1) (g / 2 % 16) 1) h1 (by omega) hla (fun j hj => ?_) (fun j hj => ?_) (fun j hj => ?_) (fun j hj => ?_) rfl (fun q => ?_) (fun w hw => ?_) ?_
  · rw [pk_un (by omega), pk_un (by omega)]
  · rw [pk_un (by omega), pk_un (by omega)]
  · rw [pk_un (by omega), pk_un (by omega)]
  · unfold upd
    by_cases e : j = g
    · rw [if_pos e]; exact ht
    · rw [if_neg e, if_neg e]; exact hM.2.2 j hj
  · unfold upd
    by_cases e : q = g / 2 % 16
    · rw [if_pos e, if_pos e]
    · rw [if_neg e, if_neg e]
  · by_cases e : g / 2 * 4 + w = 2 * g + 1
    · rw [e, show g / 2 % 16 * 4 + w = (2 * g + 1) % 64 by omega, pk_us, pk_us]
    · rw [pk_un (show g / 2 % 16 * 4 + w ≠ (2 * g + 1) % 64 by omega), pk_un e]
      by_cases e2 : g / 2 * 4 + w = 2 * g
      · rw [e2, show g / 2 % 16 * 4 + w = 2 * g % 64 by omega, pk_us, pk_us]
      · rw [pk_un (show g / 2 % 16 * 4 + w ≠ 2 * g % 64 by omega), pk_un e2]; exact x.1 w hw
  · have e : upd (upd (mTg v) g t) g t = upd (mTg v) g t := funext (fun q => by
      unfold upd
      by_cases e : q = g
      · rw [if_pos e, if_pos e]
      · rw [if_neg e, if_neg e])
    rw [e]
    exact tagset (tg := mTg v) rfl (hM.2.2 _ (by omega)) (hM.2.2 _ (by omega)) ht x.2
theorem mTh_put (v : TM) (g : Nat) (lo hi t : Int32) : mTh (gPut v g lo hi t) = mTh v := by
  unfold gPut
  rw [mTh_ch, mTh_ch]
theorem sim_put {u : TC} {v : TM} {g : Nat} {lo hi t : Int32} (h : REL u v) (hg : g < 1024) (ht : t = 0 ∨ t = 1) : REL (fChGran (fWant u (g / 2)) g lo hi t) (gPut (nTh v 0) g lo hi t) ∧ mTh (gPut (nTh v 0) g lo hi t) = 0 := ⟨sim_put2 (h.th (x := 0)) hg ht, mTh_put (nTh v 0) g lo hi t⟩
theorem gCopy_eq (v : TM) (g f : Nat) : gCopy v g f = gPut v g (mWd v (2 * f)) (mWd v (2 * f + 1)) (mTg v f) := by
  unfold gCopy gCopy2 gPut
  have e : mWd (gCopy1 v g f) (2 * f + 1) = mWd v (2 * f + 1) := by
    show upd (mWd (gWant v (2 * g / 4))) (2 * g) (mWd v (2 * f)) (2 * f + 1) = _
    rw [pk_un (by omega), mWd_want]
  rw [e]
  rfl
theorem sim_copy {u : TC} {v : TM} {g f : Nat} (h : REL u v) (hg : g < 1024) (hf : f < 1024) : REL (fCopy2 (fWant u (f / 2)) g f) (gCopy (gWant (nTh v 0) (f / 2)) g f) ∧ rTag (fWant u (f / 2)) f = mTg (gWant (nTh v 0) (f / 2)) f ∧ mTh (gCopy (gWant (nTh v 0) (f / 2)) g f) = 0 := by
  obtain ⟨h1, hla⟩ := sim_want (n := f / 2) (h.th (x := 0)) (by omega)
  have h2 := rd_t h1 hf hla
  have e1 := rd_w (i := 2 * f) h1 (by omega) (by rw [show 2 * f / 4 = f / 2 by omega]; exact hla)
  have e2 := rd_w (i := 2 * f + 1) h1 (by omega) (by rw [show (2 * f + 1) / 4 = f / 2 by omega]; exact hla)
  rw [gCopy_eq]
  refine ⟨?_, h2, by rw [mTh_put, mTh_want]; rfl⟩
  unfold fCopy2
  rw [e1, e2, h2]
  exact sim_put2 h1 hg (h1.2.1.2.2 f hf)
theorem sim_drop {u : TC} {v : TM} {q : Nat} (h : REL u v) (hq : q < 16) : REL (if tLa u q = -1 then u else fLineGo u q) (if mLn v q = -1 then nTh v 0 else gLineGo (nTh v 0) q) ∧ (if tLa u q = -1 then (-1 : Int32) else rLineGo u q) = (if mLn v q = -1 then (-1 : Int32) else rmLineGo (nTh v 0) q) ∧ mTh (if mLn v q = -1 then nTh v 0 else gLineGo (nTh v 0) q) = 0 := by
  have e1 := (h.2.2.2.1 q hq).1
  rw [← e1]
  by_cases e : tLa u q = -1
  · rw [if_pos e, if_pos e, if_pos e, if_pos e]; exact ⟨h.th, rfl, rfl⟩
  · rw [if_neg e, if_neg e, if_neg e, if_neg e]
    obtain ⟨h1, h2, -, -⟩ := sim_lineGo (h.th (x := 0)) hq
    exact ⟨h1, h2, mTh_lineGo (nTh v 0) q⟩
theorem sim_flL : ∀ (d i : Nat) (u : TC) (v : TM) (a : Int32), i + d ≤ 16 → REL u v → REL (fFlL d i u a).1 (gFlL d i v a).1 ∧ (fFlL d i u a).2 = (gFlL d i v a).2
  | 0, _, _, _, _, _, h => ⟨h, rfl⟩
  | d + 1, i, u, v, a, hi, h => by
    obtain ⟨h1, h2, -, -⟩ := sim_lineGo (p := i) h (by omega)
    rw [fFlL, gFlL, h2]
    exact sim_flL d (i + 1) (fLineGo u i) (gLineGo v i) (a + rmLineGo v i) (by omega) h1
theorem sim_flR : ∀ (d i : Nat) (u : TC) (v : TM), i + d ≤ 4 → REL u v → REL (fFlR d i u) (gFlR d i v)
  | 0, _, _, _, _, h => h
  | d + 1, i, u, v, hi, h => by
    rw [fFlR, gFlR]
    exact sim_flR d (i + 1) (fRowGo u i) (gRowGo v i) (by omega) (sim_rowGo (p := i) h (by omega)).1
theorem sim_flush {u : TC} {v : TM} (h : REL u v) : REL (fFlush u) (gFlush v) ∧ rFlush u = rmFlush v := by
  obtain ⟨h1, h2⟩ := sim_flL 16 0 u (nTh v 0) 0 (by omega) h.th
  exact ⟨sim_flR 4 0 _ _ (by omega) h1, h2⟩
theorem sim_store {u : TC} {v : TM} {i : Nat} (h : REL u v) (hi : i < 2080) : tSt u i = mSo v i := h.2.2.1 i hi
theorem sim_kept {u : TC} {v : TM} {q : Nat} (h : REL u v) (hq : q < 20) : (if q < 16 then tLa u q else tRa u (q - 16)) = (if q < 16 then mLn v q else mKr v (q - 16)) := by
  by_cases h1 : q < 16
  · rw [if_pos h1, if_pos h1]; exact (h.2.2.2.1 q h1).1
  · rw [if_neg h1, if_neg h1]; exact (h.2.2.2.2.1 (q - 16) (by omega)).1
theorem sim_check {u : TC} {v : TM} (h : REL u v) : tG u := by
  obtain ⟨hI, hM, hSt, hLn, hRw, hC, hK, hN, hX, hY⟩ := h
  refine ⟨fun q n hq hn h1 h2 => ?_, fun q k hq hk h1 h2 => ?_⟩
  · have e : n % 16 = q := by
      rcases hI.2 q hq with h3 | ⟨j, hj, hjq, h3⟩
      · exact absurd (h3.symm.trans h1) (fun z => nI_neg1 (n := n) (by omega) z.symm)
      · have := (nI_eq (by omega) (by omega)).mp (h3.symm.trans h1)
        omega
    subst e
    obtain ⟨x1, x2⟩ := hX n hn h1
    obtain ⟨y1, y2⟩ := hY n hn (Or.inr h2)
    exact ⟨fun w hw => (x1 w hw).trans (y1 w hw), x2.trans y2⟩
  · have e : k % 4 = q := by
      rcases hI.1 q hq with h3 | ⟨j, hj, hjq, h3⟩
      · exact absurd (h3.symm.trans h1) (fun z => nI_neg1 (n := k) (by omega) z.symm)
      · have := (nI_eq (by omega) (by omega)).mp (h3.symm.trans h1)
        omega
    subst e
    exact hN k hk h1 h2
