/-! ===== Long.bitCount, byte by byte ===== -/
theorem andsp {lo hi m R : Nat} (h1 : lo < 256) (h2 : m < 256) : (lo + 256 * hi) &&& (m + 256 * R) = (lo &&& m) + 256 * (hi &&& R) := by
  have e1 : lo + 256 * hi = 2 ^ 8 * hi + lo := by omega
  have e2 : m + 256 * R = 2 ^ 8 * R + m := by omega
  have e3 : (lo &&& m) + 256 * (hi &&& R) = 2 ^ 8 * (hi &&& R) + (lo &&& m) := by omega
  rw [e1, e2, e3]
  apply Nat.eq_of_testBit_eq
  intro i
  rw [Nat.testBit_and, Nat.testBit_two_pow_mul_add _ (show lo < 2 ^ 8 from h1), Nat.testBit_two_pow_mul_add _ (show m < 2 ^ 8 from h2), Nat.testBit_two_pow_mul_add _ (show lo &&& m < 2 ^ 8 from and_lt8 h1)]
  split
  · rw [Nat.testBit_and]
  · rw [Nat.testBit_and]
def rp (m : Nat) : Nat → Nat
  | 0 => 0
  | j + 1 => m + 256 * rp m j
def A1 (j M : Nat) : Nat := M - (M / 2 &&& rp 85 j)
def A2 (j a : Nat) : Nat := (a &&& rp 51 j) + (a / 4 &&& rp 51 j)
def A3 (j b : Nat) : Nat := (b + b / 16) &&& rp 15 j
theorem t1 : ∀ b, b < 256 → ∀ t, t < 2 → (b / 2 + 128 * t) &&& 85 = b / 2 &&& 85 := by decide +kernel
theorem t2 : ∀ b, b < 256 → ∀ t, t < 4 → (b / 4 + 64 * t) &&& 51 = b / 4 &&& 51 := by decide +kernel
theorem t3 : ∀ b, b < 69 → ∀ t, t < 5 → (b + b / 16 + 16 * t) &&& 15 = (b + b / 16) &&& 15 := by decide +kernel
theorem t4 : ∀ b, b < 256 → A2 1 (A1 1 b) % 16 ≤ 4 ∧ A2 1 (A1 1 b) < 69 ∧ A3 1 (A2 1 (A1 1 b)) = pop b ∧ A1 1 b < 256 ∧ (b / 2 &&& 85) ≤ b := by decide +kernel
theorem A1_s (j : Nat) {b y : Nat} (hb : b < 256) : A1 (j + 1) (b + 256 * y) = A1 1 b + 256 * A1 j y := by
  unfold A1
  have e : (b + 256 * y) / 2 = (b / 2 + 128 * (y % 2)) + 256 * (y / 2) := by omega
  have h1 : b / 2 + 128 * (y % 2) < 256 := by omega
  rw [e, show rp 85 (j + 1) = 85 + 256 * rp 85 j from rfl, andsp h1 (by decide), t1 b hb (y % 2) (by omega), show rp 85 1 = 85 from rfl]
  have h2 := (t4 b hb).2.2.2.2
  have h3 : y / 2 &&& rp 85 j ≤ y / 2 := Nat.and_le_left
  omega
theorem A2_s (j : Nat) {b y : Nat} (hb : b < 256) : A2 (j + 1) (b + 256 * y) = A2 1 b + 256 * A2 j y := by
  unfold A2
  have e : (b + 256 * y) / 4 = (b / 4 + 64 * (y % 4)) + 256 * (y / 4) := by omega
  have h1 : b / 4 + 64 * (y % 4) < 256 := by omega
  rw [e, show rp 51 (j + 1) = 51 + 256 * rp 51 j from rfl, andsp h1 (by decide), andsp hb (by decide), t2 b hb (y % 4) (by omega), show rp 51 1 = 51 from rfl]
  omega
theorem A3_s (j : Nat) {b y : Nat} (hb : b < 69) (hy : y % 16 ≤ 4) : A3 (j + 1) (b + 256 * y) = A3 1 b + 256 * A3 j y := by
  unfold A3
  have e : b + 256 * y + (b + 256 * y) / 16 = (b + b / 16 + 16 * (y % 16)) + 256 * (y + y / 16) := by omega
  have h1 : b + b / 16 + 16 * (y % 16) < 256 := by omega
  rw [e, show rp 15 (j + 1) = 15 + 256 * rp 15 j from rfl, andsp h1 (by decide), t3 b hb (y % 16) (by omega), show rp 15 1 = 15 from rfl]
def AA (j M : Nat) : Nat := A3 j (A2 j (A1 j M))
theorem A12_lo : ∀ (j M : Nat), A2 j (A1 j M) % 16 ≤ 4
  | 0, M => by simp [A2, rp]
  | j + 1, M => by
    have hb : M % 256 < 256 := Nat.mod_lt _ (by decide)
    have e : M = M % 256 + 256 * (M / 256) := by omega
    rw [e, A1_s j hb, A2_s j (t4 _ hb).2.2.2.1]
    have := (t4 _ hb).1
    omega
theorem AA_s (j M : Nat) : AA (j + 1) M = pop (M % 256) + 256 * AA j (M / 256) := by
  have hb : M % 256 < 256 := Nat.mod_lt _ (by decide)
  have e : M = M % 256 + 256 * (M / 256) := by omega
  unfold AA
  rw [e, A1_s j hb, A2_s j (t4 _ hb).2.2.2.1, A3_s j (t4 _ hb).2.1 (A12_lo j _), (t4 _ hb).2.2.1]
  rw [← e]
theorem AA_0 (M : Nat) : AA 0 M = 0 := by simp [AA, A3, rp]
theorem cn_add (P : Nat → Bool) (a : Nat) : ∀ b, cn P (a + b) = cn P a + cn (fun i => P (a + i)) b
  | 0 => rfl
  | b + 1 => by
    rw [← Nat.add_assoc, cn_s, cn_add P a b, cn_s]
    omega
theorem cn8 : ∀ b, b < 256 → cn (fun i => b.testBit i) 8 = pop b := by decide +kernel
theorem cnB (M j : Nat) : cn (fun i => M.testBit i) (8 + j) = pop (M % 256) + cn (fun i => (M / 256).testBit i) j := by
  have hb : M % 256 < 256 := Nat.mod_lt _ (by decide)
  have e : M = 2 ^ 8 * (M / 256) + M % 256 := by omega
  rw [cn_add, ← cn8 _ hb]
  congr 1
  · apply cn_congr
    intro x hx
    conv => lhs; rw [e, Nat.testBit_two_pow_mul_add _ (show M % 256 < 2 ^ 8 from hb), if_pos hx]
  · apply cn_congr
    intro x hx
    conv => lhs; rw [e, Nat.testBit_two_pow_mul_add _ (show M % 256 < 2 ^ 8 from hb), if_neg (show ¬ 8 + x < 8 by omega), Nat.add_sub_cancel_left]
theorem dv {t S : Nat} (h : t < 256) : (t + 256 * S) / 256 = S := by omega
theorem popS {e0 e1 e2 e3 e4 e5 e6 e7 X0 X1 X2 X3 X4 X5 X6 X7 : Nat} (h0 : e0 ≤ 8) (h1 : e1 ≤ 8) (h2 : e2 ≤ 8) (h3 : e3 ≤ 8) (h4 : e4 ≤ 8) (h5 : e5 ≤ 8) (h6 : e6 ≤ 8) (h7 : e7 ≤ 8)
    (x0 : X0 = e0 + 256 * X1) (x1 : X1 = e1 + 256 * X2) (x2 : X2 = e2 + 256 * X3) (x3 : X3 = e3 + 256 * X4) (x4 : X4 = e4 + 256 * X5) (x5 : X5 = e5 + 256 * X6) (x6 : X6 = e6 + 256 * X7) (x7 : X7 = e7) :
    (X0 + X0 / 256 + (X0 + X0 / 256) / 65536 + (X0 + X0 / 256 + (X0 + X0 / 256) / 65536) / 4294967296) % 128 = e0 + (e1 + (e2 + (e3 + (e4 + (e5 + (e6 + e7)))))) := by
  have d1 : X0 / 256 = X1 := by omega
  rw [d1]
  have d2 : (X0 + X1) / 65536 = X2 + X3 := by
    rw [show (65536 : Nat) = 256 * 256 from rfl, ← Nat.div_div_eq_div_mul]
    have a1 : (X0 + X1) / 256 = X1 + X2 := by omega
    have a2 : (X1 + X2) / 256 = X2 + X3 := by omega
    rw [a1, a2]
  rw [d2]
  have d3 : (X0 + X1 + (X2 + X3)) / 4294967296 = X4 + X5 + (X6 + X7) := by
    rw [show (4294967296 : Nat) = 256 * 256 * (256 * 256) from rfl, ← Nat.div_div_eq_div_mul, ← Nat.div_div_eq_div_mul, ← Nat.div_div_eq_div_mul]
    have a1 : (X0 + X1 + (X2 + X3)) / 256 = X1 + X2 + (X3 + X4) := by omega
    have a2 : (X1 + X2 + (X3 + X4)) / 256 = X2 + X3 + (X4 + X5) := by omega
    have a3 : (X2 + X3 + (X4 + X5)) / 256 = X3 + X4 + (X5 + X6) := by omega
    have a4 : (X3 + X4 + (X5 + X6)) / 256 = X4 + X5 + (X6 + X7) := by omega
    rw [a1, a2, a3, a4]
  rw [d3]
  have d4 : X0 + X1 + (X2 + X3) + (X4 + X5 + (X6 + X7)) = e0 + (e1 + (e2 + (e3 + (e4 + (e5 + (e6 + e7)))))) + 128 * (2 * (X1 + X2 + X3 + X4 + X5 + X6 + X7)) := by omega
  rw [d4, Nat.add_mul_mod_self_left, Nat.mod_eq_of_lt (by omega)]
theorem popN (M : Nat) : (AA 8 M + AA 8 M / 256 + (AA 8 M + AA 8 M / 256) / 65536 + (AA 8 M + AA 8 M / 256 + (AA 8 M + AA 8 M / 256) / 65536) / 4294967296) % 128 = cn (fun i => M.testBit i) 64 := by
  rw [show (64 : Nat) = 8 + (8 + (8 + (8 + (8 + (8 + (8 + (8 + 0))))))) from rfl, cnB, cnB, cnB, cnB, cnB, cnB, cnB, cnB]
  show _ = _ + (_ + (_ + (_ + (_ + (_ + (_ + (_ + 0)))))))
  rw [Nat.add_zero]
  refine popS (pop_le _) (pop_le _) (pop_le _) (pop_le _) (pop_le _) (pop_le _) (pop_le _) (pop_le _) (AA_s 7 M) (AA_s 6 _) (AA_s 5 _) (AA_s 4 _) (AA_s 3 _) (AA_s 2 _) (AA_s 1 _) ?_
  rw [AA_s, AA_0, Nat.mul_zero, Nat.add_zero]
/-! on longs -/
theorem lx_and (a b : Nat) : lN a &&& lN b = lN (a &&& b) := by
  apply Int64.toBitVec_inj.mp
  show BitVec.ofNat 64 a &&& BitVec.ofNat 64 b = BitVec.ofNat 64 (a &&& b)
  apply BitVec.eq_of_getLsbD_eq
  intro i hi
  simp [BitVec.getLsbD_and, BitVec.getLsbD_ofNat, hi]
theorem lx_or (a b : Nat) : lN a ||| lN b = lN (a ||| b) := by
  apply Int64.toBitVec_inj.mp
  show BitVec.ofNat 64 a ||| BitVec.ofNat 64 b = BitVec.ofNat 64 (a ||| b)
  apply BitVec.eq_of_getLsbD_eq
  intro i hi
  simp [BitVec.getLsbD_or, BitVec.getLsbD_ofNat, hi]
def s64 (x : Int64) (m : Int32) : Int64 := (x.toUInt64 >>> (m.toInt64.toUInt64 &&& Int64.toUInt64 63)).toInt64
theorem s64_ok {M j : Nat} {m : Int32} (hM : M < 2 ^ 64) (hj : j < 64) (hm : (m.toInt64.toUInt64 &&& Int64.toUInt64 63).toNat = j) : s64 (lN M) m = lN (M / 2 ^ j) := by
  unfold s64
  apply Int64.toBitVec_inj.mp
  apply BitVec.eq_of_toNat_eq
  show ((lN M).toUInt64 >>> _).toNat = (BitVec.ofNat 64 (M / 2 ^ j)).toNat
  rw [UInt64.toNat_shiftRight, hm, Nat.mod_eq_of_lt hj, BitVec.toNat_ofNat]
  have e : (lN M).toUInt64.toNat = M := by
    show (BitVec.ofNat 64 M).toNat = M
    rw [BitVec.toNat_ofNat, Nat.mod_eq_of_lt hM]
  rw [e, Nat.shiftRight_eq_div_pow, Nat.mod_eq_of_lt (Nat.lt_of_le_of_lt (Nat.div_le_self _ _) hM)]
def q1 (x : Int64) : Int64 := x - (s64 x 1 &&& 6148914691236517205)
def q2 (x : Int64) : Int64 := (x &&& 3689348814741910323) + (s64 x 2 &&& 3689348814741910323)
def q3 (x : Int64) : Int64 := (x + s64 x 4) &&& 1085102592571150095
def q4 (x : Int64) : Int64 := x + s64 x 8
def q5 (x : Int64) : Int64 := x + s64 x 16
def q6 (x : Int64) : Int64 := x + s64 x 32
theorem bitL_eq (x : Int64) : fJ13_bitCount_95d88 x = some ((q6 (q5 (q4 (q3 (q2 (q1 x)))))).toInt32 &&& 127) := rfl
theorem AA8_lt (M : Nat) : AA 8 M < 2 ^ 61 := by
  unfold AA A3
  exact Nat.lt_of_le_of_lt Nat.and_le_right (by decide)
theorem bitL {M : Nat} (hM : M < 2 ^ 64) : fJ13_bitCount_95d88 (lN M) = some (nI (cn (fun i => M.testBit i) 64)) := by
  rw [bitL_eq]
  have e1 : q1 (lN M) = lN (A1 8 M) := by
    unfold q1 A1
    rw [s64_ok hM (j := 1) (by decide) (by decide), show (6148914691236517205 : Int64) = lN (rp 85 8) from rfl, lx_and, lN_sub]
    exact Nat.le_trans Nat.and_le_left (Nat.div_le_self _ _)
  have h1 : A1 8 M < 2 ^ 64 := Nat.lt_of_le_of_lt (Nat.sub_le _ _) hM
  have e2 : q2 (lN (A1 8 M)) = lN (A2 8 (A1 8 M)) := by
    unfold q2 A2
    rw [s64_ok h1 (j := 2) (by decide) (by decide), show (3689348814741910323 : Int64) = lN (rp 51 8) from rfl, lx_and, lx_and, lN_add]
  have h2 : A2 8 (A1 8 M) < 2 ^ 64 := by
    unfold A2
    have a : A1 8 M &&& rp 51 8 ≤ rp 51 8 := Nat.and_le_right
    have b : A1 8 M / 4 &&& rp 51 8 ≤ rp 51 8 := Nat.and_le_right
    have d : rp 51 8 = 3689348814741910323 := by decide
    omega
  have e3 : q3 (lN (A2 8 (A1 8 M))) = lN (AA 8 M) := by
    unfold q3 AA A3
    rw [s64_ok h2 (j := 4) (by decide) (by decide), show (1085102592571150095 : Int64) = lN (rp 15 8) from rfl, lN_add, lx_and]
  have h3 := AA8_lt M
  have e4 : q4 (lN (AA 8 M)) = lN (AA 8 M + AA 8 M / 256) := by
    unfold q4
    rw [s64_ok (by omega) (j := 8) (by decide) (by decide), lN_add]
  have e5 : q5 (lN (AA 8 M + AA 8 M / 256)) = lN (AA 8 M + AA 8 M / 256 + (AA 8 M + AA 8 M / 256) / 65536) := by
    unfold q5
    rw [s64_ok (by omega) (j := 16) (by decide) (by decide), lN_add]
  have e6 : q6 (lN (AA 8 M + AA 8 M / 256 + (AA 8 M + AA 8 M / 256) / 65536)) = lN (AA 8 M + AA 8 M / 256 + (AA 8 M + AA 8 M / 256) / 65536 + (AA 8 M + AA 8 M / 256 + (AA 8 M + AA 8 M / 256) / 65536) / 4294967296) := by
    unfold q6
    rw [s64_ok (by omega) (j := 32) (by decide) (by decide), lN_add]
  rw [e1, e2, e3, e4, e5, e6, lN_i, show (127 : Int32) = nI 127 from rfl, nx_and, show (127 : Nat) = 2 ^ 7 - 1 from rfl, Nat.and_two_pow_sub_one_eq_mod, show (2 ^ 7 : Nat) = 128 from rfl, popN M]
theorem ts_bit {w : Int64} {s : UInt64} {j : Nat} (hj : j < 64) (hs : s.toNat = j) : ((w.toUInt64 >>> s).toInt64 &&& 1) = 0 ↔ w.toBitVec.getLsbD j = false := by
  have e : (w.toUInt64 >>> s).toInt64.toBitVec = w.toBitVec >>> j := by
    apply BitVec.eq_of_toNat_eq
    show (w.toUInt64 >>> s).toNat = _
    rw [UInt64.toNat_shiftRight, hs, Nat.mod_eq_of_lt hj, BitVec.toNat_ushiftRight]
    rfl
  rw [← Int64.toBitVec_inj, Int64.toBitVec_and, e]
  show w.toBitVec >>> j &&& 1#64 = 0#64 ↔ _
  constructor
  · intro h
    have t := congrArg (fun x => x.getLsbD 0) h
    simpa using t
  · intro h
    apply BitVec.eq_of_getLsbD_eq
    intro i hi
    cases i with
    | zero => simp [h]
    | succ i => simp [BitVec.getLsbD_one]
theorem sh64 : ∀ m, m < 64 → ((nI m).toInt64.toUInt64 &&& Int64.toUInt64 63).toNat = m := by decide +kernel
theorem l1sh : ∀ m, m < 64 → (1 : Int64) <<< ((nI m).toInt64 &&& 63) = lN (2 ^ m) := by decide +kernel
theorem lgc0 (x : Int64) : lg_cmp x 0 = 0 ↔ x = 0 := by
  unfold lg_cmp
  by_cases h : x = 0
  · subst h; decide
  · constructor
    · intro e
      split at e
      · exact absurd e (by decide)
      · exact absurd e (by decide)
    · intro e; exact absurd e h
theorem bitT {M m : Nat} (hm : m < 64) : lg_cmp (((lN M).toUInt64 >>> ((nI m).toInt64.toUInt64 &&& Int64.toUInt64 63)).toInt64 &&& 1) 0 = 0 ↔ M.testBit m = false := by
  rw [lgc0, ts_bit hm (sh64 m hm)]
  show (BitVec.ofNat 64 M).getLsbD m = false ↔ _
  rw [BitVec.getLsbD_ofNat]
  simp [hm]
