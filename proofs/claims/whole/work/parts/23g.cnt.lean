/-! the count of all tags -/
theorem iS_cg {f g : Nat → Int32} : ∀ d, (∀ j, j < d → f j = g j) → iS f d = iS g d
  | 0, _ => rfl
  | d + 1, h => by rw [iS, iS, iS_cg d (fun j hj => h j (by omega)), h d (by omega)]
theorem iS_add (f : Nat → Int32) (n : Nat) : ∀ d, iS f (n + d) = iS f n + iS (fun j => f (n + j)) d
  | 0 => by rw [iS]; exact (Int32.add_zero _).symm
  | d + 1 => by
    show iS f (n + d) + f (n + d) = iS f n + (iS (fun j => f (n + j)) d + f (n + d))
    rw [iS_add f n d, Int32.add_assoc]
theorem i_as (x y : Int32) : x + (y - x) = y := by rw [Int32.add_comm, Int32.sub_add_cancel]
theorem iS_one {f g : Nat → Int32} {n : Nat} : ∀ d, n < d → (∀ j, j < d → j ≠ n → g j = f j) → iS g d = iS f d + (g n - f n)
  | 0, h, _ => absurd h (by omega)
  | d + 1, h, hj => by
    rw [iS, iS]
    by_cases e : n = d
    · subst e
      rw [iS_cg n (fun j h1 => hj j (by omega) (by omega)), Int32.add_assoc, i_as]
    · rw [iS_one d (by omega) (fun j h1 h2 => hj j (by omega) h2), hj d (by omega) (by omega), Int32.add_assoc, Int32.add_comm (g n - f n), ← Int32.add_assoc]
theorem sumR_S (u : TC) : ∀ d i, fSumR u d i (iS (fun k => fBc (fPeek u k)) i) = iS (fun k => fBc (fPeek u k)) (i + d)
  | 0, _ => rfl
  | d + 1, i => by
    rw [fSumR, show i + (d + 1) = i + 1 + d by omega]
    exact sumR_S u d (i + 1)
theorem cnt_S (x : Int32) (f : Nat → Int32) : ∀ d i, fCntNe x f d i (iS (fun k => if f k = x then 0 else 1) i) = iS (fun k => if f k = x then 0 else 1) (i + d)
  | 0, _ => rfl
  | d + 1, i => by
    have e : (if f i = x then iS (fun k => if f k = x then 0 else 1) i else iS (fun k => if f k = x then 0 else 1) i + 1) = iS (fun k => if f k = x then 0 else 1) (i + 1) := by
      show _ = iS (fun k => if f k = x then 0 else 1) i + (if f i = x then 0 else 1)
      by_cases h : f i = x
      · rw [if_pos h, if_pos h, Int32.add_zero]
      · rw [if_neg h, if_neg h]
    rw [fCntNe, e, show i + (d + 1) = i + 1 + d by omega]
    exact cnt_S x f d (i + 1)
theorem cnt_cg {x : Int32} {f g : Nat → Int32} : ∀ d i a, (∀ j, j < i + d → f j = g j) → fCntNe x f d i a = fCntNe x g d i a
  | 0, _, _, _ => rfl
  | d + 1, i, a, h => by
    rw [fCntNe, fCntNe, h i (by omega)]
    exact cnt_cg d (i + 1) _ (fun j hj => h j (by omega))
def bL (u : TC) (n : Nat) : Int32 := fBc (ftol n (fPeek u (n / 16)))
def cL (v : TM) (n : Nat) : Int32 := fBc (tags2 (mTg v (2 * n)) (mTg v (2 * n + 1)))
def bq (u : TC) (v : TM) (q n : Nat) : Int32 := if n % 16 < q ∧ tLa u (n % 16) = nI n then cL v n else bL u n
theorem ftol_lo {k j : Nat} (x : Int32) : ftol (16 * k + j) x = ftol j x := by
  unfold ftol
  rw [show (16 * k + j) % 16 = j % 16 by omega]
theorem iS_0 (f : Nat → Int32) : iS f 0 = 0 := rfl
theorem iS_1 (f : Nat → Int32) (d : Nat) : iS f (d + 1) = iS f d + f d := rfl
theorem row_S (u : TC) (k : Nat) : iS (fun j => bL u (16 * k + j)) 16 = fBc (fPeek u k) := by
  rw [← bc_sum (fPeek u k)]
  refine iS_cg 16 (fun j hj => ?_)
  unfold bL
  rw [ftol_lo, show (16 * k + j) / 16 = k by omega]
theorem rows_S (u : TC) : ∀ k, iS (fun k => fBc (fPeek u k)) k = iS (bL u) (16 * k)
  | 0 => by rw [Nat.mul_zero, iS_0, iS_0]
  | k + 1 => by
    rw [iS_1, rows_S u k, Nat.mul_succ, iS_add, row_S]
theorem c_2 : ∀ a, a < 2 → ∀ b, b < 2 → fBc (tags2 (nI a) (nI b)) = (if nI a = 0 then (0 : Int32) else 1) + (if nI b = 0 then (0 : Int32) else 1) := by decide +kernel
theorem tags_S (v : TM) (hM : mI v) : ∀ n, n ≤ 512 → iS (fun k => if mTg v k = 0 then 0 else 1) (2 * n) = iS (cL v) n
  | 0, _ => rfl
  | n + 1, h => by
    obtain ⟨a, ha, ea⟩ := n01 (hM.2.2 (2 * n) (by omega))
    obtain ⟨b, hb, eb⟩ := n01 (hM.2.2 (2 * n + 1) (by omega))
    rw [show 2 * (n + 1) = 2 * n + 1 + 1 by omega, iS, iS, iS, tags_S v hM n (by omega), Int32.add_assoc]
    congr 1
    unfold cL
    rw [ea, eb, c_2 a ha b hb]
theorem bq_step {u : TC} {v : TM} {q : Nat} (h : REL u v) (hq : q < 16) : (if tLa u q = -1 then iS (bq u v q) 512 else iS (bq u v q) 512 + (fBc (tLt u q) - fBc (fBehind u (tLa u q).toNatClampNeg))) = iS (bq u v (q + 1)) 512 := by
  obtain ⟨hI, hM, hSt, hLn, hRw, hC, hK, hN, hX, hY⟩ := h
  have eq2 : ∀ j, ¬ (j % 16 = q ∧ tLa u (j % 16) = nI j) → bq u v (q + 1) j = bq u v q j := fun j hj => by
    unfold bq
    by_cases e : j % 16 < q ∧ tLa u (j % 16) = nI j
    · rw [if_pos e, if_pos ⟨by omega, e.2⟩]
    · rw [if_neg e, if_neg (fun z => by
        by_cases e2 : j % 16 = q
        · exact hj ⟨e2, z.2⟩
        · exact e ⟨by omega, z.2⟩)]
  rcases hI.2 q hq with h1 | ⟨n, hn, hnq, h1⟩
  · rw [if_pos h1]
    refine (iS_cg 512 (fun j hj => eq2 j (fun z => ?_))).symm
    rw [z.1, h1] at z
    exact nI_neg1 (n := j) (by omega) z.2.symm
  · have e : ¬ tLa u q = -1 := by rw [h1]; exact nI_neg1 (by omega)
    have hla : tLa u (n % 16) = nI n := by rw [hnq]; exact h1
    rw [if_neg e, h1, nI_clamp (by omega), iS_one (f := bq u v q) (g := bq u v (q + 1)) 512 hn (fun j hj h2 => eq2 j (fun z => h2 (by
      rw [z.1, h1] at z
      exact ((nI_eq (by omega) (by omega)).mp z.2).symm)))]
    congr 2
    · unfold bq
      rw [if_pos ⟨by omega, hla⟩]
      unfold cL
      rw [← (hX n hn hla).2, hnq]
    · unfold bq
      rw [if_neg (fun z => by omega)]
      rfl
theorem sumL_S {u : TC} {v : TM} (h : REL u v) : ∀ d q, q + d ≤ 16 → fSumL u d q (iS (bq u v q) 512) = iS (bq u v (q + d)) 512
  | 0, _, _ => rfl
  | d + 1, q, hq => by
    rw [fSumL, bq_step h (by omega), show q + (d + 1) = q + 1 + d by omega]
    exact sumL_S h d (q + 1) (by omega)
theorem sim_all {u : TC} {v : TM} (h : REL u v) : fAll u = fCntNe 0 (mTg v) 1024 0 0 := by
  have e1 := sumR_S u 32 0
  rw [rows_S u (0 + 32)] at e1
  have e2 := cnt_S 0 (mTg v) 1024 0
  have e3 := tags_S v h.2.1 512 (by omega)
  have e4 := sumL_S h 16 0 (by omega)
  have e5 : iS (bL u) 512 = iS (bq u v 0) 512 := iS_cg 512 (fun j hj => by
    unfold bq
    rw [if_neg (fun z => by omega)])
  have e6 : iS (bq u v 16) 512 = iS (cL v) 512 := iS_cg 512 (fun j hj => by
    unfold bq
    by_cases e : j % 16 < 16 ∧ tLa u (j % 16) = nI j
    · rw [if_pos e]
    · rw [if_neg e]
      unfold bL cL
      rw [(h.2.2.2.2.2.2.2.2.2 j hj (Or.inl (fun z => e ⟨by omega, z⟩))).2])
  unfold fAll
  refine (congrArg (fSumL u 16 0) e1).trans ?_
  refine (congrArg (fSumL u 16 0) e5).trans ?_
  refine e4.trans ?_
  refine e6.trans ?_
  refine e3.symm.trans ?_
  exact e2.symm
theorem sim_count {u : TC} {v : TM} {w : Nat} (h : REL u v) (hw : w < 9) : rCount u w = rmCount v w := by
  have h0 := h
  obtain ⟨hI, hM, hSt, hLn, hRw, hC, hK, hN, hX, hY⟩ := h
  unfold rCount rmCount
  by_cases w0 : w = 0
  · subst w0; rw [if_pos rfl, if_pos (by omega)]; exact hC.1
  by_cases w1 : w = 1
  · subst w1; rw [if_neg w0, if_pos rfl, if_pos (by omega)]; exact hC.2.1
  by_cases w2 : w = 2
  · subst w2; rw [if_neg w0, if_neg w1, if_pos rfl, if_pos (by omega)]; exact hC.2.2.1
  by_cases w3 : w = 3
  · subst w3; rw [if_neg w0, if_neg w1, if_neg w2, if_pos rfl, if_pos (by omega)]; exact hC.2.2.2
  rw [if_neg w0, if_neg w1, if_neg w2, if_neg w3, if_neg (show ¬ w < 4 by omega)]
  by_cases w4 : w = 4
  · rw [if_pos w4, if_pos w4]; exact sim_all h0
  rw [if_neg w4, if_neg w4]
  by_cases w5 : w = 5
  · rw [if_pos w5, if_pos w5]; exact cnt_cg 16 0 0 (fun j hj => (hLn j (by omega)).1)
  rw [if_neg w5, if_neg w5]
  by_cases w6 : w = 6
  · rw [if_pos w6, if_pos w6]; exact cnt_cg 16 0 0 (fun j hj => (hLn j (by omega)).2)
  rw [if_neg w6, if_neg w6]
  by_cases w7 : w = 7
  · rw [if_pos w7, if_pos w7]; exact cnt_cg 4 0 0 (fun j hj => (hRw j (by omega)).1)
  · rw [if_neg w7, if_neg w7]; exact cnt_cg 4 0 0 (fun j hj => (hRw j (by omega)).2)
