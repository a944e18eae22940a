/-! how many bits a long has -/
def mP8 (r : Nat) : Nat := r % 2 + r / 2 % 2 + r / 4 % 2 + r / 8 % 2 + r / 16 % 2 + r / 32 % 2 + r / 64 % 2 + r / 128 % 2
def mMk (m : Nat) : Nat → Nat
  | 0 => 0
  | n + 1 => 256 * mMk m n + m
def mI1 (n N : Nat) : Nat := N - (N / 2 &&& mMk 85 n)
def mI2 (n x : Nat) : Nat := (x &&& mMk 51 n) + (x / 4 &&& mMk 51 n)
def mI3 (n x : Nat) : Nat := (x + x / 16) &&& mMk 15 n
def mA8 (r : Nat) : Nat := r - (r / 2 &&& 85)
def mC8 (r : Nat) : Nat := (mA8 r &&& 51) + (mA8 r / 4 &&& 51)
def mSp : Nat → Nat → Nat
  | 0, _ => 0
  | n + 1, N => 256 * mSp n (N / 256) + mP8 (N % 256)
theorem m_and256 {q r u v : Nat} (hr : r < 256) (hv : v < 256) : (256 * q + r) &&& (256 * u + v) = 256 * (q &&& u) + (r &&& v) := by
  have h1 : ((256 * q + r) &&& (256 * u + v)) / 2 ^ 8 = q &&& u := by
    rw [Nat.and_div_two_pow, show (256 * q + r) / 2 ^ 8 = q by omega, show (256 * u + v) / 2 ^ 8 = u by omega]
  have h2 : ((256 * q + r) &&& (256 * u + v)) % 2 ^ 8 = r &&& v := by
    rw [Nat.and_mod_two_pow, show (256 * q + r) % 2 ^ 8 = r by omega, show (256 * u + v) % 2 ^ 8 = v by omega]
  omega
theorem mD1 : ∀ r, r < 256 → ∀ p, p < 2 → ((r / 2 + 128 * p) &&& 85) = (r / 2 &&& 85) ∧ (r / 2 &&& 85) ≤ r := by decide +kernel
theorem mD2 : ∀ r, r < 256 → ∀ t, t < 4 → ((mA8 r / 4 + 64 * t) &&& 51) = (mA8 r / 4 &&& 51) ∧ mA8 r < 256 := by decide +kernel
theorem mD3 : ∀ r, r < 256 → mC8 r ≤ 68 ∧ mC8 r % 16 ≤ 4 ∧ mP8 r ≤ 8 := by decide +kernel
theorem mD4 : ∀ r, r < 256 → ∀ t, t < 5 → ((mC8 r + mC8 r / 16 + 16 * t) &&& 15) = mP8 r := by decide +kernel
theorem mI_ok : ∀ (n N : Nat), N < 256 ^ n → mI3 n (mI2 n (mI1 n N)) = mSp n N ∧ mI2 n (mI1 n N) % 16 ≤ 4 ∧ mI1 n N ≤ N
  | 0, N, h => by
    have h : N = 0 := by
      have : N < 1 := h
      omega
    subst h
    exact ⟨rfl, by decide, by decide⟩
  | n + 1, N, h => by
    have hq : N / 256 < 256 ^ n := by
      rw [Nat.pow_succ, Nat.mul_comm] at h
      exact Nat.div_lt_of_lt_mul h
    obtain ⟨ih, ih2, ih3⟩ := mI_ok n (N / 256) hq
    have hr : N % 256 < 256 := Nat.mod_lt _ (by decide)
    have eN : N = 256 * (N / 256) + N % 256 := (Nat.div_add_mod N 256).symm
    generalize N / 256 = q at ih ih2 ih3 eN
    generalize N % 256 = r at hr eN
    obtain ⟨d1, d1'⟩ := mD1 r hr (q % 2) (Nat.mod_lt _ (by decide))
    have e1 : mI1 (n + 1) N = 256 * mI1 n q + mA8 r := by
      unfold mI1 mA8
      have : N / 2 &&& mMk 85 (n + 1) = 256 * (q / 2 &&& mMk 85 n) + (r / 2 &&& 85) := by
        rw [show N / 2 = 256 * (q / 2) + (r / 2 + 128 * (q % 2)) by omega]
        show _ &&& (256 * mMk 85 n + 85) = _
        rw [m_and256 (by omega) (by decide), d1]
      rw [this, eN]
      have : (q / 2 &&& mMk 85 n) ≤ q := Nat.le_trans Nat.and_le_left (Nat.div_le_self _ _)
      omega
    obtain ⟨d2, d2'⟩ := mD2 r hr (mI1 n q % 4) (Nat.mod_lt _ (by decide))
    have e2 : mI2 (n + 1) (mI1 (n + 1) N) = 256 * mI2 n (mI1 n q) + mC8 r := by
      rw [e1]
      unfold mI2 mC8
      rw [show (256 * mI1 n q + mA8 r) / 4 = 256 * (mI1 n q / 4) + (mA8 r / 4 + 64 * (mI1 n q % 4)) by omega]
      show ((256 * mI1 n q + mA8 r) &&& (256 * mMk 51 n + 51)) + (_ &&& (256 * mMk 51 n + 51)) = _
      rw [m_and256 d2' (by decide), m_and256 (by omega) (by decide), d2]
      omega
    obtain ⟨d3, d3', -⟩ := mD3 r hr
    have d4 := mD4 r hr (mI2 n (mI1 n q) % 16) (by omega)
    refine ⟨?_, by rw [e2]; omega, ?_⟩
    · rw [e2]
      unfold mI3
      rw [show 256 * mI2 n (mI1 n q) + mC8 r + (256 * mI2 n (mI1 n q) + mC8 r) / 16 = 256 * (mI2 n (mI1 n q) + mI2 n (mI1 n q) / 16) + (mC8 r + mC8 r / 16 + 16 * (mI2 n (mI1 n q) % 16)) by omega]
      show _ &&& (256 * mMk 15 n + 15) = 256 * mSp n (N / 256) + mP8 (N % 256)
      rw [m_and256 (by omega) (by decide), d4, show N / 256 = q by omega, show N % 256 = r by omega, ← ih]
      rfl
    · exact Nat.sub_le _ _
