/-! Long.bitCount: what it answers -/
theorem m_bd {c0 c1 c2 c3 c4 c5 c6 c7 : Nat} (l0 : c0 ≤ 8) (l1 : c1 ≤ 8) (l2 : c2 ≤ 8) (l3 : c3 ≤ 8) (l4 : c4 ≤ 8) (l5 : c5 ≤ 8) (l6 : c6 ≤ 8) (l7 : c7 ≤ 8) : c0 ≤ 255 ∧ c0 + c1 ≤ 255 ∧ c1 + c2 ≤ 255 ∧ c0 + c1 + (c2 + c3) ≤ 255 ∧ c1 + c2 + (c3 + c4) ≤ 255 ∧ c2 + c3 + (c4 + c5) ≤ 255 ∧ c3 + c4 + (c5 + c6) ≤ 255 ∧ c0 + c1 + (c2 + c3) + (c4 + c5 + (c6 + c7)) ≤ 64 := by omega
theorem m_es (c0 c1 c2 c3 c4 c5 c6 c7 : Nat) : c0 + c1 + (c2 + c3) + (c4 + c5 + (c6 + c7)) = c0 + c1 + c2 + c3 + c4 + c5 + c6 + c7 := by omega
theorem mSp_mod {N x4 x5 x6 : Nat} (h4 : x4 = mSp 8 N + mSp 8 N / 256) (h5 : x5 = x4 + x4 / 65536) (h6 : x6 = x5 + x5 / 4294967296) : x6 % 128 = mPn 8 N := by
  obtain ⟨c0, c1, c2, c3, c4, c5, c6, c7, l0, l1, l2, l3, l4, l5, l6, l7, e, es⟩ := mSp_sum N
  obtain ⟨b0, b1, b2, d0, d1, d2, d3, z⟩ := m_bd l0 l1 l2 l3 l4 l5 l6 l7
  rw [es, m_fin e b0 b1 b2 d0 d1 d2 d3 z x4 x5 x6 h4 h5 h6, m_es]
theorem mMk_1 : (6148914691236517205 : Int64) = lN (mMk 85 8) := by decide +kernel
theorem mMk_2 : (3689348814741910323 : Int64) = lN (mMk 51 8) := by decide +kernel
theorem mMk_3 : (1085102592571150095 : Int64) = lN (mMk 15 8) := by decide +kernel
theorem mMk_l : mMk 85 8 < 2 ^ 64 ∧ mMk 51 8 < 2 ^ 62 ∧ mMk 15 8 < 2 ^ 60 := by decide +kernel
theorem m_lt2 {a u v : Nat} (h1 : u < 2 ^ 62) (h2 : v < 2 ^ 62) : u + v < 2 ^ 63 ∧ u + v + (u + v) / a < 2 ^ 64 := by
  have := Nat.div_le_self (u + v) a
  omega
section BITCOUNT
variable {S : mS} {I : mF} {L : mFL} {b : Bool}
theorem S143 (y : Int64) : mFn S 143 [.long y] (mSH, I, L, mRk b) (some (.int (nI (mPn 8 y.toBitVec.toNat)))) (mSH, I, L, mRk b) := by
  refine e143 (k143_0 (k143_10 (k143_24 (k143_34 (k143_41 (k143_48 (k143_55 ⟨?_, rfl⟩)))))))
  have hN : y.toBitVec.toNat < 2 ^ 64 := y.toBitVec.isLt
  have hy := lw_of y
  generalize y.toBitVec.toNat = N at hN hy
  subst hy
  obtain ⟨q1, q2, q3⟩ := mMk_l
  obtain ⟨r1, -, r3⟩ := mI_ok 8 N hN
  have n1 : mI1 8 N < 2 ^ 64 := Nat.lt_of_le_of_lt r3 hN
  have i1 : lN N - ((((lN N).toUInt64 >>> ((1 : Int32).toInt64.toUInt64 &&& Int64.toUInt64 63)).toInt64) &&& 6148914691236517205) = lN (mI1 8 N) := by
    rw [lw_shr hN (k := 1) (by decide) (by decide), mMk_1, lw_and (Nat.lt_of_le_of_lt (Nat.div_le_self _ _) hN) q1, lw_sub (Nat.le_trans Nat.and_le_left (Nat.div_le_self _ _))]
    rfl
  have i2 : (lN (mI1 8 N) &&& 3689348814741910323) + ((((lN (mI1 8 N)).toUInt64 >>> ((2 : Int32).toInt64.toUInt64 &&& Int64.toUInt64 63)).toInt64) &&& 3689348814741910323) = lN (mI2 8 (mI1 8 N)) := by
    rw [lw_shr n1 (k := 2) (by decide) (by decide), mMk_2, lw_and n1 (Nat.lt_trans q2 (by decide)), lw_and (Nat.lt_of_le_of_lt (Nat.div_le_self _ _) n1) (Nat.lt_trans q2 (by decide)), lw_add]
    rfl
  obtain ⟨n2, n3⟩ := m_lt2 (a := 16) (Nat.lt_of_le_of_lt (Nat.and_le_right (n := mI1 8 N) (m := mMk 51 8)) q2) (Nat.lt_of_le_of_lt (Nat.and_le_right (n := mI1 8 N / 4) (m := mMk 51 8)) q2)
  have n2 : mI2 8 (mI1 8 N) < 2 ^ 63 := n2
  have n3 : mI2 8 (mI1 8 N) + mI2 8 (mI1 8 N) / 16 < 2 ^ 64 := n3
  have i3 : (lN (mI2 8 (mI1 8 N)) + (((lN (mI2 8 (mI1 8 N))).toUInt64 >>> ((4 : Int32).toInt64.toUInt64 &&& Int64.toUInt64 63)).toInt64)) &&& 1085102592571150095 = lN (mSp 8 N) := by
    rw [lw_shr (Nat.lt_trans n2 (by decide)) (k := 4) (by decide) (by decide), lw_add, mMk_3, lw_and n3 (Nat.lt_trans q3 (by decide)), ← r1]
    rfl
  have s31 : 31 * mSp 8 N < 256 ^ 8 := mSp_lt 8 N
  have m0 : mSp 8 N < 2 ^ 60 := by
    clear i1 i2 i3 r1 r3 n1 n2 n3 q1 q2 q3 hN
    omega
  generalize hx : mSp 8 N = x at i3 m0
  clear s31
  have m1 : x + x / 256 < 2 ^ 61 := by
    clear i1 i2 i3 r1 r3 n1 n2 n3 q1 q2 q3 hN hx
    omega
  have i4 : lN x + (((lN x).toUInt64 >>> ((8 : Int32).toInt64.toUInt64 &&& Int64.toUInt64 63)).toInt64) = lN (x + x / 256) := by
    rw [lw_shr (Nat.lt_trans m0 (by decide)) (k := 8) (by decide) (by decide), lw_add]
  generalize hx4 : x + x / 256 = x4 at i4 m1
  have m2 : x4 + x4 / 65536 < 2 ^ 62 := by
    clear i1 i2 i3 i4 r1 r3 n1 n2 n3 q1 q2 q3 hN hx hx4 m0
    omega
  have i5 : lN x4 + (((lN x4).toUInt64 >>> ((16 : Int32).toInt64.toUInt64 &&& Int64.toUInt64 63)).toInt64) = lN (x4 + x4 / 65536) := by
    rw [lw_shr (Nat.lt_trans m1 (by decide)) (k := 16) (by decide) (by decide), lw_add]
  generalize hx5 : x4 + x4 / 65536 = x5 at i5 m2
  have i6 : lN x5 + (((lN x5).toUInt64 >>> ((32 : Int32).toInt64.toUInt64 &&& Int64.toUInt64 63)).toInt64) = lN (x5 + x5 / 4294967296) := by
    rw [lw_shr (Nat.lt_trans m2 (by decide)) (k := 32) (by decide) (by decide), lw_add]
  rw [i1, i2, i3, i4, i5, i6, lw_i32, mSp_mod (N := N) (x4 := x4) (x5 := x5) (x6 := x5 + x5 / 4294967296) (by rw [hx]; exact hx4.symm) hx5.symm rfl]
end BITCOUNT
