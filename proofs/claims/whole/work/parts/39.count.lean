/-! Long.bitCount -/
theorem lw_of (y : Int64) : y = lN y.toBitVec.toNat := Int64.toBitVec_inj.mp (by rw [wb_tb, BitVec.ofNat_toNat, BitVec.setWidth_eq])
theorem lw_and {a c : Nat} (ha : a < 2 ^ 64) (hc : c < 2 ^ 64) : lN a &&& lN c = lN (a &&& c) := by
  apply Int64.toBitVec_inj.mp
  rw [Int64.toBitVec_and, wb_tb, wb_tb, wb_tb]
  apply BitVec.eq_of_toNat_eq
  rw [BitVec.toNat_and, BitVec.toNat_ofNat, BitVec.toNat_ofNat, BitVec.toNat_ofNat, Nat.mod_eq_of_lt ha, Nat.mod_eq_of_lt hc, Nat.mod_eq_of_lt (Nat.lt_of_le_of_lt Nat.and_le_left ha)]
theorem lw_add (a c : Nat) : lN a + lN c = lN (a + c) := by
  apply Int64.toBitVec_inj.mp
  rw [Int64.toBitVec_add, wb_tb, wb_tb, wb_tb]
  apply BitVec.eq_of_toNat_eq
  rw [BitVec.toNat_add, BitVec.toNat_ofNat, BitVec.toNat_ofNat, BitVec.toNat_ofNat]
  omega
theorem lw_sub {a c : Nat} (h : c ≤ a) : lN a - lN c = lN (a - c) := by
  have e : lN a = lN (a - c) + lN c := by
    rw [lw_add]
    congr 1
    omega
  rw [e, Int64.add_sub_cancel]
theorem lw_shr {a k : Nat} {s : UInt64} (ha : a < 2 ^ 64) (hk : k < 64) (hs : s.toNat = k) : ((lN a).toUInt64 >>> s).toInt64 = lN (a / 2 ^ k) := by
  apply Int64.toBitVec_inj.mp
  apply BitVec.eq_of_toNat_eq
  show ((lN a).toUInt64 >>> s).toNat = (BitVec.ofNat 64 (a / 2 ^ k)).toNat
  have e : (lN a).toUInt64.toNat = a := by
    show (BitVec.ofNat 64 a).toNat = a
    rw [BitVec.toNat_ofNat, Nat.mod_eq_of_lt ha]
  rw [UInt64.toNat_shiftRight, hs, Nat.mod_eq_of_lt hk, e, Nat.shiftRight_eq_div_pow, BitVec.toNat_ofNat, Nat.mod_eq_of_lt (Nat.lt_of_le_of_lt (Nat.div_le_self _ _) ha)]
theorem lw_i32 {a : Nat} : (lN a).toInt32 &&& 127 = nI (a % 128) := by
  have h := pk_and (lN a).toInt32 (m := 127) 7 (by decide)
  rw [h]
  congr 1
  rw [Int64.toBitVec_toInt32, wb_tb, BitVec.signExtend_eq_setWidth_of_le _ (by decide), BitVec.toNat_setWidth, BitVec.toNat_ofNat]
  omega
def mPn : Nat → Nat → Nat
  | 0, _ => 0
  | n + 1, N => mPn n (N / 256) + mP8 (N % 256)
def mCt (f : Nat → Bool) : Nat → Nat
  | 0 => 0
  | n + 1 => mCt f n + (if f n then 1 else 0)
theorem mCt_add {f : Nat → Bool} {a : Nat} : ∀ c, mCt f (a + c) = mCt f a + mCt (fun j => f (a + j)) c
  | 0 => rfl
  | c + 1 => by
    show mCt f (a + c) + (if f (a + c) then 1 else 0) = mCt f a + (mCt (fun j => f (a + j)) c + (if f (a + c) then 1 else 0))
    rw [mCt_add c, Nat.add_assoc]
theorem mCt_congr {f g : Nat → Bool} : ∀ n, (∀ j, j < n → f j = g j) → mCt f n = mCt g n
  | 0, _ => rfl
  | n + 1, h => by
    show mCt f n + _ = mCt g n + _
    rw [mCt_congr n (fun j hj => h j (by omega)), h n (by omega)]
theorem mCt_zero {f : Nat → Bool} : ∀ n, (∀ j, j < n → f j = false) → mCt f n = 0
  | 0, _ => rfl
  | n + 1, h => by
    show mCt f n + _ = 0
    rw [mCt_zero n (fun j hj => h j (by omega)), h n (by omega)]
    rfl
theorem m_tb (N j : Nat) : (if N.testBit j then 1 else 0) = N / 2 ^ j % 2 := by
  rw [Nat.testBit_eq_decide_div_mod_eq]
  by_cases h : N / 2 ^ j % 2 = 1
  · rw [h]
    rfl
  · rw [decide_eq_false h]
    show 0 = _
    omega
theorem mCt_8 (N : Nat) : mCt (fun j => N.testBit j) 8 = mP8 (N % 256) := by
  have e : mCt (fun j => N.testBit j) 8 = 0 + (if N.testBit 0 then 1 else 0) + (if N.testBit 1 then 1 else 0) + (if N.testBit 2 then 1 else 0) + (if N.testBit 3 then 1 else 0) + (if N.testBit 4 then 1 else 0) + (if N.testBit 5 then 1 else 0) + (if N.testBit 6 then 1 else 0) + (if N.testBit 7 then 1 else 0) := rfl
  rw [e, m_tb, m_tb, m_tb, m_tb, m_tb, m_tb, m_tb, m_tb]
  unfold mP8
  omega
theorem mPn_ct : ∀ (n N : Nat), mPn n N = mCt (fun j => N.testBit j) (8 * n)
  | 0, _ => rfl
  | n + 1, N => by
    show mPn n (N / 256) + mP8 (N % 256) = _
    rw [show 8 * (n + 1) = 8 + 8 * n by omega, mCt_add, mCt_8, mPn_ct n, Nat.add_comm]
    congr 1
    refine mCt_congr _ (fun j _ => ?_)
    rw [Nat.testBit_eq_decide_div_mod_eq, Nat.testBit_eq_decide_div_mod_eq, Nat.pow_add, ← Nat.div_div_eq_div_mul]
theorem mP8_le (r : Nat) : mP8 r ≤ 8 := by
  unfold mP8
  omega
theorem mSp_sum (N : Nat) : ∃ c0 c1 c2 c3 c4 c5 c6 c7 : Nat, c0 ≤ 8 ∧ c1 ≤ 8 ∧ c2 ≤ 8 ∧ c3 ≤ 8 ∧ c4 ≤ 8 ∧ c5 ≤ 8 ∧ c6 ≤ 8 ∧ c7 ≤ 8 ∧ mSp 8 N = c0 + 256 * (c1 + 256 * (c2 + 256 * (c3 + 256 * (c4 + 256 * (c5 + 256 * (c6 + 256 * c7)))))) ∧ mPn 8 N = c0 + c1 + c2 + c3 + c4 + c5 + c6 + c7 := by
  refine ⟨_, _, _, _, _, _, _, _, mP8_le (N % 256), mP8_le (N / 256 % 256), mP8_le (N / 256 / 256 % 256), mP8_le (N / 256 / 256 / 256 % 256), mP8_le (N / 256 / 256 / 256 / 256 % 256), mP8_le (N / 256 / 256 / 256 / 256 / 256 % 256), mP8_le (N / 256 / 256 / 256 / 256 / 256 / 256 % 256), mP8_le (N / 256 / 256 / 256 / 256 / 256 / 256 / 256 % 256), ?_, ?_⟩
  · simp only [mSp]
    omega
  · simp only [mPn]
    omega
theorem m_dv1 {a r : Nat} (h : a ≤ 255) : (a + 256 * r) / 256 = r := by omega
theorem m_dv2 {a c r : Nat} (h : a ≤ 255) (h2 : c ≤ 255) : (a + 256 * (c + 256 * r)) / 65536 = r := by omega
theorem m_dv4 {a c d e r : Nat} (h : a ≤ 255) (h2 : c ≤ 255) (h3 : d ≤ 255) (h4 : e ≤ 255) : (a + 256 * (c + 256 * (d + 256 * (e + 256 * r)))) / 4294967296 = r := by omega
theorem m_dad {a c u v : Nat} : (a + 256 * u) + (c + 256 * v) = (a + c) + 256 * (u + v) := by omega
theorem m_md {a u : Nat} (h : a ≤ 64) : (a + 256 * u) % 128 = a := by omega
theorem mSp_lt : ∀ (n N : Nat), 31 * mSp n N < 256 ^ n
  | 0, _ => Nat.zero_lt_one
  | n + 1, N => by
    have ih := mSp_lt n (N / 256)
    have := mP8_le (N % 256)
    rw [Nat.pow_succ]
    show 31 * (256 * mSp n (N / 256) + mP8 (N % 256)) < _
    omega
