/-! THE RELATION between the class's state and the reference's. -/
def tags2 (a b : Int32) : Int32 := a ||| (b <<< ((1 : Int32) &&& 31))
def REL (u : TC) (v : TM) : Prop :=
  tI u ∧ mI v ∧ (∀ i, i < 2080 → tSt u i = mSo v i) ∧ (∀ p, p < 16 → tLa u p = mLn v p ∧ tLc u p = mLc v p) ∧ (∀ p, p < 4 → tRa u p = mKr v p ∧ tRc u p = mRc v p) ∧
  (tN0 u = mCs v 0 ∧ tN1 u = mCs v 1 ∧ tN2 u = mCs v 2 ∧ tN3 u = mCs v 3) ∧
  (∀ k, k < 32 → tRa u (k % 4) = nI k → tRt u (k % 4) = mRw v k) ∧
  (∀ k, k < 32 → tRa u (k % 4) = nI k → tRc u (k % 4) = 0 → tRt u (k % 4) = tSt u (2048 + k)) ∧
  (∀ n, n < 512 → tLa u (n % 16) = nI n → (∀ w, w < 4 → tLw u (n % 16 * 4 + w) = mWd v (n * 4 + w)) ∧ tLt u (n % 16) = tags2 (mTg v (2 * n)) (mTg v (2 * n + 1))) ∧
  (∀ n, n < 512 → (tLa u (n % 16) ≠ nI n ∨ tLc u (n % 16) = 0) → (∀ w, w < 4 → mWd v (n * 4 + w) = tSt u (n * 4 + w)) ∧ tags2 (mTg v (2 * n)) (mTg v (2 * n + 1)) = ftol n (fPeek u (n / 16)))
theorem REL.tI {u : TC} {v : TM} (h : REL u v) : tI u := h.1
theorem REL.mI {u : TC} {v : TM} (h : REL u v) : mI v := h.2.1
theorem REL.th {u : TC} {v : TM} {x : Int32} (h : REL u v) : REL u (nTh v x) := h
