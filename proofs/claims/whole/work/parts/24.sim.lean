/-! each pair of steps keeps the relation, and answers alike -/
theorem sim_read {u : TC} {v : TM} {i : Nat} (h : REL u v) (hi : i < 2048) : REL (fWant u (i / 4)) (gWant (nTh v 0) (i / 4)) ∧ tLw (fWant u (i / 4)) (i % 64) = mWd (gWant (nTh v 0) (i / 4)) i ∧ mTh (gWant (nTh v 0) (i / 4)) = 0 := sorry
theorem sim_tag {u : TC} {v : TM} {i : Nat} (h : REL u v) (hi : i < 2048) : REL (fWant u (i / 2 / 2)) (gWant (nTh v 0) (i / 4)) ∧ rTag (fWant u (i / 2 / 2)) (i / 2) = mTg (gWant (nTh v 0) (i / 4)) (i / 2) ∧ mTh (gWant (nTh v 0) (i / 4)) = 0 := sorry
theorem sim_write {u : TC} {v : TM} {i : Nat} {w : Int32} (h : REL u v) (hi : i < 2048) : REL (fChWord (fWant u (i / 4)) i w) (gCh (nTh v 0) i w 0) ∧ tLw (fWant u (i / 4)) (i % 64) = mWd v i ∧ mTh (gCh (nTh v 0) i w 0) = 0 := sorry
theorem sim_part {u : TC} {v : TM} {i j n : Nat} {w : Int32} (h : REL u v) (hi : i < 2048) (hj : j < 4) (hn : n = 1 ∨ n = 2) (hd : j % n = 0) : REL (fChWord (fWant u (i / 4)) i (fPart (tLw (fWant u (i / 4)) (i % 64)) j n w)) (gCh (nTh v 0) i (gPart (mWd v i) j n w) 0) ∧ fPart (tLw (fWant u (i / 4)) (i % 64)) j n w = mWd (gCh (nTh v 0) i (gPart (mWd v i) j n w) 0) i ∧ mTh (gCh (nTh v 0) i (gPart (mWd v i) j n w) 0) = 0 := sorry
theorem sim_put {u : TC} {v : TM} {g : Nat} {lo hi t : Int32} (h : REL u v) (hg : g < 1024) (ht : t = 0 ∨ t = 1) : REL (fChGran (fWant u (g / 2)) g lo hi t) (gPut (nTh v 0) g lo hi t) ∧ mTh (gPut (nTh v 0) g lo hi t) = 0 := sorry
theorem sim_copy {u : TC} {v : TM} {g f : Nat} (h : REL u v) (hg : g < 1024) (hf : f < 1024) : REL (fCopy2 (fWant u (f / 2)) g f) (gCopy (gWant (nTh v 0) (f / 2)) g f) ∧ rTag (fWant u (f / 2)) f = mTg (gWant (nTh v 0) (f / 2)) f ∧ mTh (gCopy (gWant (nTh v 0) (f / 2)) g f) = 0 := sorry
theorem sim_drop {u : TC} {v : TM} {q : Nat} (h : REL u v) (hq : q < 16) : REL (if tLa u q = -1 then u else fLineGo u q) (if mLn v q = -1 then nTh v 0 else gLineGo (nTh v 0) q) ∧ (if tLa u q = -1 then (-1 : Int32) else rLineGo u q) = (if mLn v q = -1 then (-1 : Int32) else rmLineGo (nTh v 0) q) ∧ mTh (if mLn v q = -1 then nTh v 0 else gLineGo (nTh v 0) q) = 0 := sorry
theorem sim_flush {u : TC} {v : TM} (h : REL u v) : REL (fFlush u) (gFlush v) ∧ rFlush u = rmFlush v := sorry
theorem sim_store {u : TC} {v : TM} {i : Nat} (h : REL u v) (hi : i < 2080) : tSt u i = mSo v i := h.2.2.1 i hi
theorem sim_kept {u : TC} {v : TM} {q : Nat} (h : REL u v) (hq : q < 20) : (if q < 16 then tLa u q else tRa u (q - 16)) = (if q < 16 then mLn v q else mKr v (q - 16)) := by
  by_cases h1 : q < 16
  · rw [if_pos h1, if_pos h1]; exact (h.2.2.2.1 q h1).1
  · rw [if_neg h1, if_neg h1]; exact (h.2.2.2.2.1 (q - 16) (by omega)).1
theorem sim_count {u : TC} {v : TM} {w : Nat} (h : REL u v) (hw : w < 9) : rCount u w = rmCount v w := sorry
theorem sim_check {u : TC} {v : TM} (h : REL u v) : tG u := sorry
theorem sim_start : REL startT startM := sorry
