/-! bits: rows of kit/laws/BITS (the family 'Int32 by its bits'), and what the tags need of them -/
def bt (x : Int32) (i : Nat) : Bool := x.toBitVec.getLsbD i
theorem b_ext {x y : Int32} (h : ∀ i, i < 32 → bt x i = bt y i) : x = y := Int32.toBitVec_inj.mp (BitVec.eq_of_getLsbD_eq (fun i hi => h i hi))
theorem b_or (x y : Int32) (i : Nat) : bt (x ||| y) i = (bt x i || bt y i) := by unfold bt; rw [Int32.toBitVec_or, BitVec.getLsbD_or]
theorem b_and (x y : Int32) (i : Nat) : bt (x &&& y) i = (bt x i && bt y i) := by unfold bt; rw [Int32.toBitVec_and, BitVec.getLsbD_and]
theorem s_l : ∀ n, n < 32 → ((nI n &&& 31).toBitVec.smod 32).toNat = n := by decide +kernel
theorem s_u : ∀ n, n < 32 → (((nI n).toUInt32 &&& Int32.toUInt32 31).toBitVec % 32).toNat = n := by decide +kernel
theorem b_shl (n : Nat) (hn : n < 32) (x : Int32) {i : Nat} (hi : i < 32) : bt (x <<< (nI n &&& 31)) i = (decide (n ≤ i) && bt x (i - n)) := by
  unfold bt
  rw [Int32.toBitVec_shiftLeft]
  show (x.toBitVec <<< ((nI n &&& 31).toBitVec.smod 32).toNat).getLsbD i = _
  rw [s_l n hn, BitVec.getLsbD_shiftLeft]
  rcases Nat.lt_or_ge i n with h | h
  · simp [h, Nat.not_le.mpr h]
  · simp [hi, h, Nat.not_lt.mpr h]
theorem b_ushr (n : Nat) (hn : n < 32) (x : Int32) (i : Nat) : bt ((x.toUInt32 >>> ((nI n).toUInt32 &&& Int32.toUInt32 31)).toInt32) i = bt x (n + i) := by
  show (x.toUInt32 >>> ((nI n).toUInt32 &&& Int32.toUInt32 31)).toBitVec.getLsbD i = x.toUInt32.toBitVec.getLsbD (n + i)
  rw [UInt32.toBitVec_shiftRight]
  show (x.toUInt32.toBitVec >>> (((nI n).toUInt32 &&& Int32.toUInt32 31).toBitVec % 32).toNat).getLsbD i = _
  rw [s_u n hn, BitVec.getLsbD_ushiftRight]
theorem b_3 : ∀ i, i < 32 → bt 3 i = decide (i < 2) := by decide +kernel
/-- two bits of a row, by their numbers -/
theorem ftol_bt (n : Nat) (x : Int32) {i : Nat} (hi : i < 32) : bt (ftol n x) i = (bt x (n % 16 * 2 + i) && decide (i < 2)) := by
  unfold ftol
  rw [b_and, b_ushr _ (by omega), b_3 i hi]
theorem tw_k1 : ∀ m, m < 16 → ∀ q, q < 16 → ∀ i, i < 2 → bt ((3 <<< (nI (m * 2) &&& 31)) ^^^ (-1)) (q * 2 + i) = decide (m ≠ q) := by decide +kernel
theorem tw_k2 : ∀ t, t < 4 → ∀ m, m < 16 → ∀ q, q < 16 → ∀ i, i < 2 → bt (nI t <<< (nI (m * 2) &&& 31)) (q * 2 + i) = (decide (m = q) && bt (nI t) i) := by decide +kernel
theorem t2_lt {a b : Int32} (ha : a = 0 ∨ a = 1) (hb : b = 0 ∨ b = 1) : ∃ t, t < 4 ∧ tags2 a b = nI t := by
  rcases ha with h | h <;> subst h <;> rcases hb with h | h <;> subst h
  · exact ⟨0, by omega, by decide +kernel⟩
  · exact ⟨2, by omega, by decide +kernel⟩
  · exact ⟨1, by omega, by decide +kernel⟩
  · exact ⟨3, by omega, by decide +kernel⟩
theorem bt_t4 : ∀ t, t < 4 → ∀ i, i < 32 → 2 ≤ i → bt (nI t) i = false := by decide +kernel
/-- what was written is read -/
theorem ftol_same {n t : Nat} (ht : t < 4) (x : Int32) : ftol n (fTagW n x (nI t)) = nI t := by
  refine b_ext (fun i hi => ?_)
  rw [ftol_bt n _ hi]
  by_cases h2 : i < 2
  · unfold fTagW
    rw [b_or, b_and, tw_k1 _ (by omega) _ (by omega) i h2, tw_k2 t ht _ (by omega) _ (by omega) i h2]
    simp [h2]
  · rw [bt_t4 t ht i hi (by omega)]
    simp [h2]
/-- .. and the other lines' tags stay -/
theorem ftol_other {n q t : Nat} (ht : t < 4) (hq : q % 16 ≠ n % 16) (x : Int32) : ftol q (fTagW n x (nI t)) = ftol q x := by
  refine b_ext (fun i hi => ?_)
  rw [ftol_bt q _ hi, ftol_bt q _ hi]
  by_cases h2 : i < 2
  · unfold fTagW
    rw [b_or, b_and, tw_k1 _ (by omega) _ (by omega) i h2, tw_k2 t ht _ (by omega) _ (by omega) i h2]
    simp [h2, Ne.symm hq]
  · simp [h2]
theorem alg_ao (x M1 C1 M2 C2 : Int32) : (((x &&& M1) ||| C1) &&& M2) ||| C2 = (x &&& (M1 &&& M2)) ||| ((C1 &&& M2) ||| C2) := b_ext (fun i _ => by
  rw [b_or, b_and, b_or, b_and, b_or, b_and, b_and, b_or, b_and]
  cases bt x i <;> cases bt M1 i <;> cases bt C1 i <;> cases bt M2 i <;> cases bt C2 i <;> rfl)
abbrev gbit (m : Nat) (a : Int32) : Int32 := if a = 0 then (0 : Int32) else (1 : Int32) <<< (nI m &&& 31)
theorem gw_k : ∀ m, m < 16 → ((((1 : Int32) <<< (nI (m * 2) &&& 31)) ^^^ (-1)) &&& (((1 : Int32) <<< (nI (m * 2 + 1) &&& 31)) ^^^ (-1))) = (((3 : Int32) <<< (nI (m * 2) &&& 31)) ^^^ (-1)) := by decide +kernel
theorem gw_c : ∀ m, m < 16 → ∀ a, a < 2 → ∀ b, b < 2 → ((gbit (m * 2) (nI a) &&& (((1 : Int32) <<< (nI (m * 2 + 1) &&& 31)) ^^^ (-1))) ||| gbit (m * 2 + 1) (nI b)) = (tags2 (nI a) (nI b) <<< (nI (m * 2) &&& 31)) := by decide +kernel
/-- the reference's two writes are the class's one -/
theorem tagW_eq {n : Nat} {a b : Int32} (ha : a = 0 ∨ a = 1) (hb : b = 0 ∨ b = 1) (x : Int32) :
    ((((x &&& (((1 : Int32) <<< (nI (2 * n % 32) &&& 31)) ^^^ (-1))) ||| gbit (2 * n % 32) a) &&& (((1 : Int32) <<< (nI ((2 * n + 1) % 32) &&& 31)) ^^^ (-1))) ||| gbit ((2 * n + 1) % 32) b) = fTagW n x (tags2 a b) := by
  have e1 : 2 * n % 32 = n % 16 * 2 := by omega
  have e2 : (2 * n + 1) % 32 = n % 16 * 2 + 1 := by omega
  have ea : ∃ k, k < 2 ∧ a = nI k := by rcases ha with h | h; exact ⟨0, by omega, h⟩; exact ⟨1, by omega, h⟩
  have eb : ∃ k, k < 2 ∧ b = nI k := by rcases hb with h | h; exact ⟨0, by omega, h⟩; exact ⟨1, by omega, h⟩
  obtain ⟨p, hp, rfl⟩ := ea
  obtain ⟨q, hq, rfl⟩ := eb
  rw [e1, e2, alg_ao, gw_k _ (by omega), gw_c _ (by omega) p hp q hq]
  rfl
/-- a part, either way -/
theorem shl_and (x y : Int32) (k : Nat) (hk : k < 32) : (x &&& y) <<< (nI k &&& 31) = (x <<< (nI k &&& 31)) &&& (y <<< (nI k &&& 31)) := b_ext (fun i hi => by
  rw [b_shl k hk _ hi, b_and, b_and, b_shl k hk _ hi, b_shl k hk _ hi]
  cases decide (k ≤ i) <;> cases bt x (i - k) <;> cases bt y (i - k) <;> rfl)
theorem part_eq (x : Int32) {j n : Nat} (v : Int32) (hj : j < 4) : fPart x j n v = gPart x j n v := by
  unfold fPart gPart
  rw [shl_and v (fMask n) (8 * j) (by omega)]
/-- a granule's own bit in its line's two -/
theorem tb_even : ∀ a, a < 2 → ∀ b, b < 2 → (tags2 (nI a) (nI b) &&& (((1 : Int32) <<< (nI 0 &&& 31)) ^^^ (-1)) = tags2 0 (nI b)) ∧ (tags2 (nI a) (nI b) &&& (((1 : Int32) <<< (nI 0 &&& 31)) ^^^ (-1)) ||| ((1 : Int32) <<< (nI 0 &&& 31)) = tags2 1 (nI b)) := by decide +kernel
theorem tb_odd : ∀ a, a < 2 → ∀ b, b < 2 → (tags2 (nI a) (nI b) &&& (((1 : Int32) <<< (nI 1 &&& 31)) ^^^ (-1)) = tags2 (nI a) 0) ∧ (tags2 (nI a) (nI b) &&& (((1 : Int32) <<< (nI 1 &&& 31)) ^^^ (-1)) ||| ((1 : Int32) <<< (nI 1 &&& 31)) = tags2 (nI a) 1) := by decide +kernel
theorem tb_get : ∀ a, a < 2 → ∀ b, b < 2 → (if tags2 (nI a) (nI b) &&& ((1 : Int32) <<< (nI 0 &&& 31)) = 0 then (0 : Int32) else 1) = nI a ∧ (if tags2 (nI a) (nI b) &&& ((1 : Int32) <<< (nI 1 &&& 31)) = 0 then (0 : Int32) else 1) = nI b := by decide +kernel
theorem n01 {a : Int32} (h : a = 0 ∨ a = 1) : ∃ k, k < 2 ∧ a = nI k := by
  rcases h with h | h
  · exact ⟨0, by omega, h⟩
  · exact ⟨1, by omega, h⟩
