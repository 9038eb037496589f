/-! counting bits: by bytes -/
theorem n_and (a b : Nat) : nI a &&& nI b = nI (a &&& b) := Int32.toBitVec_inj.mp (by
  rw [Int32.toBitVec_and]
  show BitVec.ofNat 32 a &&& BitVec.ofNat 32 b = BitVec.ofNat 32 (a &&& b)
  refine BitVec.eq_of_getLsbD_eq (fun i hi => ?_)
  rw [BitVec.getLsbD_and, BitVec.getLsbD_ofNat, BitVec.getLsbD_ofNat, BitVec.getLsbD_ofNat, Nat.testBit_and]
  simp [hi])
theorem n_sub {a b : Nat} (h : b ≤ a) : nI a - nI b = nI (a - b) := by
  have e : nI (a - b) + nI b = nI a := by rw [nI_add, Nat.sub_add_cancel h]
  rw [← e, Int32.add_sub_cancel]
theorem and_p {b r c s : Nat} (hb : b < 256) (hc : c < 256) : (b + 256 * r) &&& (c + 256 * s) = (b &&& c) + 256 * (r &&& s) := by
  have hb : b < 2 ^ 8 := hb
  have hc : c < 2 ^ 8 := hc
  have hbc : b &&& c < 2 ^ 8 := Nat.and_lt_two_pow b hc
  have e1 : b + 256 * r = 2 ^ 8 * r + b := Nat.add_comm _ _
  have e2 : c + 256 * s = 2 ^ 8 * s + c := Nat.add_comm _ _
  have e3 : (b &&& c) + 256 * (r &&& s) = 2 ^ 8 * (r &&& s) + (b &&& c) := Nat.add_comm _ _
  rw [e1, e2, e3]
  refine Nat.eq_of_testBit_eq (fun i => ?_)
  rw [Nat.testBit_and, Nat.testBit_two_pow_mul_add _ hb, Nat.testBit_two_pow_mul_add _ hc, Nat.testBit_two_pow_mul_add _ hbc]
  by_cases h : i < 8
  · rw [if_pos h, if_pos h, if_pos h, Nat.testBit_and]
  · rw [if_neg h, if_neg h, if_neg h, Nat.testBit_and]
def pB (a b c d : Nat) : Nat := a + 256 * (b + 256 * (c + 256 * d))
theorem pB_lt {a b c d : Nat} (ha : a < 256) (hb : b < 256) (hc : c < 256) (hd : d < 256) : pB a b c d < 2 ^ 32 := by
  show pB a b c d < 4294967296
  unfold pB; omega
theorem and_P {a b c d m : Nat} (ha : a < 256) (hb : b < 256) (hc : c < 256) (hm : m < 256) : pB a b c d &&& pB m m m m = pB (a &&& m) (b &&& m) (c &&& m) (d &&& m) := by
  unfold pB
  rw [and_p ha hm, and_p hb hm, and_p hc hm]
theorem pB_add (a b c d a1 b1 c1 d1 : Nat) : pB a b c d + pB a1 b1 c1 d1 = pB (a + a1) (b + b1) (c + c1) (d + d1) := by unfold pB; omega
def Yb (b : Nat) : Nat := b - (b / 2 &&& 85)
def Zb (y : Nat) : Nat := (y &&& 51) + (y / 4 &&& 51)
def Wb (z : Nat) : Nat := (z + z / 16) % 16
theorem m85 : ∀ a, a < 128 → ∀ c, c < 2 → (a + 128 * c) &&& 85 = a &&& 85 := by decide +kernel
theorem m51 : ∀ a, a < 64 → ∀ c, c < 4 → (a + 64 * c) &&& 51 = a &&& 51 := by decide +kernel
theorem a15 (x : Nat) : x &&& 15 = x % 16 := Nat.and_two_pow_sub_one_eq_mod x 4
theorem k85 : (1431655765 : Int32) = nI (pB 85 85 85 85) := by decide +kernel
theorem k51 : (858993459 : Int32) = nI (pB 51 51 51 51) := by decide +kernel
theorem k15 : (252645135 : Int32) = nI (pB 15 15 15 15) := by decide +kernel
theorem us1 {n : Nat} (h : n < 2 ^ 32) : fUsh (nI n) 1 = nI (n / 2) := pk_ushrN h 1 1 (by decide +kernel)
theorem us2 {n : Nat} (h : n < 2 ^ 32) : fUsh (nI n) 2 = nI (n / 4) := pk_ushrN h 2 2 (by decide +kernel)
theorem us4 {n : Nat} (h : n < 2 ^ 32) : fUsh (nI n) 4 = nI (n / 16) := pk_ushrN h 4 4 (by decide +kernel)
theorem us8 {n : Nat} (h : n < 2 ^ 32) : fUsh (nI n) 8 = nI (n / 256) := pk_ushrN h 8 8 (by decide +kernel)
theorem us16 {n : Nat} (h : n < 2 ^ 32) : fUsh (nI n) 16 = nI (n / 65536) := pk_ushrN h 16 16 (by decide +kernel)
theorem sub_P {a b c d e f g h : Nat} (h1 : e ≤ a) (h2 : f ≤ b) (h3 : g ≤ c) (h4 : h ≤ d) : nI (pB a b c d) - nI (pB e f g h) = nI (pB (a - e) (b - f) (c - g) (d - h)) := by
  rw [n_sub (by unfold pB; omega)]
  congr 1
  unfold pB; omega
theorem y_le (b : Nat) : (b / 2 &&& 85) ≤ b := Nat.le_trans Nat.and_le_left (Nat.div_le_self _ _)
theorem bc1 {a b c d : Nat} (ha : a < 256) (hb : b < 256) (hc : c < 256) (hd : d < 256) : fBc1 (nI (pB a b c d)) = nI (pB (Yb a) (Yb b) (Yb c) (Yb d)) := by
  unfold fBc1
  have e2 : pB a b c d / 2 = pB (a / 2 + 128 * (b % 2)) (b / 2 + 128 * (c % 2)) (c / 2 + 128 * (d % 2)) (d / 2) := by unfold pB; omega
  rw [us1 (pB_lt ha hb hc hd), k85, n_and, e2, and_P (by omega) (by omega) (by omega) (by omega), m85 (a / 2) (by omega) (b % 2) (by omega), m85 (b / 2) (by omega) (c % 2) (by omega), m85 (c / 2) (by omega) (d % 2) (by omega), sub_P (y_le a) (y_le b) (y_le c) (y_le d)]
  rfl
theorem bc2 {a b c d : Nat} (ha : a < 256) (hb : b < 256) (hc : c < 256) (hd : d < 256) : fBc2 (nI (pB a b c d)) = nI (pB (Zb a) (Zb b) (Zb c) (Zb d)) := by
  unfold fBc2
  have e2 : pB a b c d / 4 = pB (a / 4 + 64 * (b % 4)) (b / 4 + 64 * (c % 4)) (c / 4 + 64 * (d % 4)) (d / 4) := by unfold pB; omega
  rw [us2 (pB_lt ha hb hc hd), k51, n_and, n_and, e2, and_P (by omega) (by omega) (by omega) (by omega), and_P (by omega) (by omega) (by omega) (by omega), m51 (a / 4) (by omega) (b % 4) (by omega), m51 (b / 4) (by omega) (c % 4) (by omega), m51 (c / 4) (by omega) (d % 4) (by omega), nI_add, pB_add]
  rfl
theorem bc3 {a b c d : Nat} (ha : a % 16 ≤ 4 ∧ a / 16 ≤ 4) (hb : b % 16 ≤ 4 ∧ b / 16 ≤ 4) (hc : c % 16 ≤ 4 ∧ c / 16 ≤ 4) (hd : d % 16 ≤ 4 ∧ d / 16 ≤ 4) : fBc3 (nI (pB a b c d)) = nI (pB (Wb a) (Wb b) (Wb c) (Wb d)) := by
  unfold fBc3
  have e2 : pB a b c d / 16 = pB (a / 16 + 16 * (b % 16)) (b / 16 + 16 * (c % 16)) (c / 16 + 16 * (d % 16)) (d / 16) := by unfold pB; omega
  rw [us4 (pB_lt (by omega) (by omega) (by omega) (by omega)), k15, nI_add, e2, pB_add, n_and, and_P (by omega) (by omega) (by omega) (by omega), a15, a15, a15, a15]
  unfold Wb
  rw [show (a + (a / 16 + 16 * (b % 16))) % 16 = (a + a / 16) % 16 by omega, show (b + (b / 16 + 16 * (c % 16))) % 16 = (b + b / 16) % 16 by omega, show (c + (c / 16 + 16 * (d % 16))) % 16 = (c + c / 16) % 16 by omega]
theorem bc4 {a b c d : Nat} (ha : a < 256) (hb : b < 256) (hc : c < 256) (hd : d < 256) : fBc4 (nI (pB a b c d)) = nI (pB (a + b) (b + c) (c + d) d) := by
  unfold fBc4
  have e2 : pB a b c d / 256 = pB b c d 0 := by unfold pB; omega
  rw [us8 (pB_lt ha hb hc hd), e2, nI_add, pB_add]
  rfl
theorem bc5 {a b c d : Nat} (ha : a < 256) (hb : b < 256) (hc : c < 256) (hd : d < 256) : fBc5 (nI (pB a b c d)) = nI (pB (a + c) (b + d) c d) := by
  unfold fBc5
  have e2 : pB a b c d / 65536 = pB c d 0 0 := by unfold pB; omega
  rw [us16 (pB_lt ha hb hc hd), e2, nI_add, pB_add]
  rfl
theorem bc6 {a b c d : Nat} (ha : a < 64) (hb : b < 256) (hc : c < 256) (hd : d < 256) : nI (pB a b c d) &&& 63 = nI a := by
  rw [pk_andN (pB_lt (by omega) hb hc hd) 6 (by decide +kernel), show pB a b c d % 2 ^ 6 = a by show pB a b c d % 64 = a; unfold pB; omega]
def Qb (b : Nat) : Nat := Wb (Zb (Yb b))
theorem q_y : ∀ b, b < 256 → Yb b < 256 := by decide +kernel
theorem q_z : ∀ b, b < 256 → Zb (Yb b) % 16 ≤ 4 ∧ Zb (Yb b) / 16 ≤ 4 := by decide +kernel
theorem q_w : ∀ b, b < 256 → Qb b ≤ 8 := by decide +kernel
theorem q_q : ∀ b, b < 256 → Qb b = (b / 1 % 4 + 1) / 2 + (b / 4 % 4 + 1) / 2 + (b / 16 % 4 + 1) / 2 + (b / 64 % 4 + 1) / 2 := by decide +kernel
theorem bc {a b c d : Nat} (ha : a < 256) (hb : b < 256) (hc : c < 256) (hd : d < 256) : fBc (nI (pB a b c d)) = nI (Qb a + Qb b + (Qb c + Qb d)) := by
  unfold fBc
  have wa := q_w a ha
  have wb := q_w b hb
  have wc := q_w c hc
  have wd := q_w d hd
  rw [bc1 ha hb hc hd, bc2 (q_y a ha) (q_y b hb) (q_y c hc) (q_y d hd), bc3 (q_z a ha) (q_z b hb) (q_z c hc) (q_z d hd)]
  show fBc5 (fBc4 (nI (pB (Qb a) (Qb b) (Qb c) (Qb d)))) &&& 63 = _
  rw [bc4 (by omega) (by omega) (by omega) (by omega), bc5 (by omega) (by omega) (by omega) (by omega), bc6 (by omega) (by omega) (by omega) (by omega)]
def iS (f : Nat → Int32) : Nat → Int32
  | 0 => 0
  | d + 1 => iS f d + f d
def nS (f : Nat → Nat) : Nat → Nat
  | 0 => 0
  | d + 1 => nS f d + f d
theorem iS_n {f : Nat → Int32} {c : Nat → Nat} : ∀ d, (∀ j, j < d → f j = nI (c j)) → iS f d = nI (nS c d)
  | 0, _ => rfl
  | d + 1, h => by rw [iS, nS, iS_n d (fun j hj => h j (by omega)), h d (by omega), nI_add]
theorem ftol_n {n m : Nat} (hn : n < 2 ^ 32) (hm : m < 16) : ftol m (nI n) = nI (n / 2 ^ (m * 2) % 4) := by
  unfold ftol
  rw [Nat.mod_eq_of_lt hm, pk_ushrN hn (nI (m * 2)) (m * 2) (s_u (m * 2) (by omega)), pk_andN (Nat.lt_of_le_of_lt (Nat.div_le_self _ _) hn) 2 (by decide +kernel)]
theorem fBc_4 : ∀ t, t < 4 → fBc (nI t) = nI ((t + 1) / 2) := by decide +kernel
theorem x_of (x : Int32) : ∃ n, n < 2 ^ 32 ∧ x = nI n := ⟨x.toBitVec.toNat, x.toBitVec.isLt, Int32.toBitVec_inj.mp (BitVec.eq_of_toNat_eq (pk_tn x.toBitVec.isLt).symm)⟩
theorem dg0 (a R : Nat) : (a + 256 * R) / 1 % 4 = a / 1 % 4 := by omega
theorem dg1 (a R : Nat) : (a + 256 * R) / 4 % 4 = a / 4 % 4 := by omega
theorem dg2 (a R : Nat) : (a + 256 * R) / 16 % 4 = a / 16 % 4 := by omega
theorem dg3 (a R : Nat) : (a + 256 * R) / 64 % 4 = a / 64 % 4 := by omega
theorem bc_bytes {a b c d : Nat} (ha : a < 256) (hb : b < 256) (hc : c < 256) (hd : d < 256) : iS (fun m => fBc (ftol m (nI (pB a b c d)))) 16 = fBc (nI (pB a b c d)) := by
  rw [bc ha hb hc hd, iS_n (c := fun m => (pB a b c d / 2 ^ (m * 2) % 4 + 1) / 2) 16 (fun j hj => by
    show fBc (ftol j (nI (pB a b c d))) = _
    rw [ftol_n (pB_lt ha hb hc hd) hj, fBc_4 _ (Nat.mod_lt _ (by omega))])]
  congr 1
  have e1 : pB a b c d / 256 = pB b c d 0 := by unfold pB; omega
  have e2 : pB a b c d / 65536 = pB c d 0 0 := by unfold pB; omega
  have e3 : pB a b c d / 16777216 = pB d 0 0 0 := by unfold pB; omega
  have t0 : pB a b c d / 2 ^ (0 * 2) % 4 = a / 1 % 4 := dg0 a _
  have t1 : pB a b c d / 2 ^ (1 * 2) % 4 = a / 4 % 4 := dg1 a _
  have t2 : pB a b c d / 2 ^ (2 * 2) % 4 = a / 16 % 4 := dg2 a _
  have t3 : pB a b c d / 2 ^ (3 * 2) % 4 = a / 64 % 4 := dg3 a _
  have t4 : pB a b c d / 2 ^ (4 * 2) % 4 = b / 1 % 4 := by
    show pB a b c d / (256 * 1) % 4 = _
    rw [← Nat.div_div_eq_div_mul, e1]
    exact dg0 b _
  have t5 : pB a b c d / 2 ^ (5 * 2) % 4 = b / 4 % 4 := by
    show pB a b c d / (256 * 4) % 4 = _
    rw [← Nat.div_div_eq_div_mul, e1]
    exact dg1 b _
  have t6 : pB a b c d / 2 ^ (6 * 2) % 4 = b / 16 % 4 := by
    show pB a b c d / (256 * 16) % 4 = _
    rw [← Nat.div_div_eq_div_mul, e1]
    exact dg2 b _
  have t7 : pB a b c d / 2 ^ (7 * 2) % 4 = b / 64 % 4 := by
    show pB a b c d / (256 * 64) % 4 = _
    rw [← Nat.div_div_eq_div_mul, e1]
    exact dg3 b _
  have t8 : pB a b c d / 2 ^ (8 * 2) % 4 = c / 1 % 4 := by
    show pB a b c d / (65536 * 1) % 4 = _
    rw [← Nat.div_div_eq_div_mul, e2]
    exact dg0 c _
  have t9 : pB a b c d / 2 ^ (9 * 2) % 4 = c / 4 % 4 := by
    show pB a b c d / (65536 * 4) % 4 = _
    rw [← Nat.div_div_eq_div_mul, e2]
    exact dg1 c _
  have t10 : pB a b c d / 2 ^ (10 * 2) % 4 = c / 16 % 4 := by
    show pB a b c d / (65536 * 16) % 4 = _
    rw [← Nat.div_div_eq_div_mul, e2]
    exact dg2 c _
  have t11 : pB a b c d / 2 ^ (11 * 2) % 4 = c / 64 % 4 := by
    show pB a b c d / (65536 * 64) % 4 = _
    rw [← Nat.div_div_eq_div_mul, e2]
    exact dg3 c _
  have t12 : pB a b c d / 2 ^ (12 * 2) % 4 = d / 1 % 4 := by
    show pB a b c d / (16777216 * 1) % 4 = _
    rw [← Nat.div_div_eq_div_mul, e3]
    exact dg0 d _
  have t13 : pB a b c d / 2 ^ (13 * 2) % 4 = d / 4 % 4 := by
    show pB a b c d / (16777216 * 4) % 4 = _
    rw [← Nat.div_div_eq_div_mul, e3]
    exact dg1 d _
  have t14 : pB a b c d / 2 ^ (14 * 2) % 4 = d / 16 % 4 := by
    show pB a b c d / (16777216 * 16) % 4 = _
    rw [← Nat.div_div_eq_div_mul, e3]
    exact dg2 d _
  have t15 : pB a b c d / 2 ^ (15 * 2) % 4 = d / 64 % 4 := by
    show pB a b c d / (16777216 * 64) % 4 = _
    rw [← Nat.div_div_eq_div_mul, e3]
    exact dg3 d _
  show 0 + (pB a b c d / 2 ^ (0 * 2) % 4 + 1) / 2 + (pB a b c d / 2 ^ (1 * 2) % 4 + 1) / 2 + (pB a b c d / 2 ^ (2 * 2) % 4 + 1) / 2 + (pB a b c d / 2 ^ (3 * 2) % 4 + 1) / 2 + (pB a b c d / 2 ^ (4 * 2) % 4 + 1) / 2 + (pB a b c d / 2 ^ (5 * 2) % 4 + 1) / 2 + (pB a b c d / 2 ^ (6 * 2) % 4 + 1) / 2 + (pB a b c d / 2 ^ (7 * 2) % 4 + 1) / 2 + (pB a b c d / 2 ^ (8 * 2) % 4 + 1) / 2 + (pB a b c d / 2 ^ (9 * 2) % 4 + 1) / 2 + (pB a b c d / 2 ^ (10 * 2) % 4 + 1) / 2 + (pB a b c d / 2 ^ (11 * 2) % 4 + 1) / 2 + (pB a b c d / 2 ^ (12 * 2) % 4 + 1) / 2 + (pB a b c d / 2 ^ (13 * 2) % 4 + 1) / 2 + (pB a b c d / 2 ^ (14 * 2) % 4 + 1) / 2 + (pB a b c d / 2 ^ (15 * 2) % 4 + 1) / 2 = _
  rw [t0, t1, t2, t3, t4, t5, t6, t7, t8, t9, t10, t11, t12, t13, t14, t15, q_q a ha, q_q b hb, q_q c hc, q_q d hd]
  omega
theorem bc_sum (x : Int32) : iS (fun m => fBc (ftol m x)) 16 = fBc x := by
  obtain ⟨n, hn, rfl⟩ := x_of x
  have hn : n < 4294967296 := hn
  have e : n = pB (n % 256) (n / 256 % 256) (n / 65536 % 256) (n / 16777216) := by unfold pB; omega
  rw [e]
  exact bc_bytes (by omega) (by omega) (by omega) (by omega)
