/-! numbers; the rows ts_bit, wb_* are the kit's law texts (given for pasting) -/
theorem ts_bit {w : Int64} {s : UInt64} {j : Nat} (hj : j < 64) (hs : s.toNat = j) : ((w.toUInt64 >>> s).toInt64 &&& 1) = 0 ↔ w.toBitVec.getLsbD j = false := by
  have e : (w.toUInt64 >>> s).toInt64.toBitVec = w.toBitVec >>> j := by
    apply BitVec.eq_of_toNat_eq
    show (w.toUInt64 >>> s).toNat = _
    rw [UInt64.toNat_shiftRight, hs, Nat.mod_eq_of_lt hj, BitVec.toNat_ushiftRight]
    rfl
  rw [← Int64.toBitVec_inj, Int64.toBitVec_and, e]
  show w.toBitVec >>> j &&& 1#64 = 0#64 ↔ _
  constructor
  · intro h
    have t := congrArg (fun x => x.getLsbD 0) h
    simpa using t
  · intro h
    apply BitVec.eq_of_getLsbD_eq
    intro i hi
    cases i with
    | zero => simp [h]
    | succ i => simp
theorem wb_tb (n : Nat) : (lN n).toBitVec = BitVec.ofNat 64 n := rfl
theorem wb_c : ∀ k, k < 64 → ((nI k).toInt64 &&& 63) = lN k := by decide +kernel
theorem wb_cu : ∀ k, k < 64 → ((nI k).toInt64.toUInt64 &&& Int64.toUInt64 63) = UInt64.ofNat k := by decide +kernel
theorem wb_sm : ∀ k, k < 64 → (BitVec.ofNat 64 k).smod 64 = BitVec.ofNat 64 k := by decide +kernel
/-- a set of places in a long -/
def mB (y : Int64) (k : Nat) : Bool := y.toBitVec.getLsbD k
theorem mB_0 (k : Nat) : mB 0 k = false := by
  unfold mB
  exact BitVec.getLsbD_zero
theorem lg_0 (z : Int64) : lg_cmp z 0 = 0 ↔ z = 0 := by
  unfold lg_cmp
  constructor
  · intro h
    split at h
    · exact absurd h (by decide)
    · split at h
      · assumption
      · exact absurd h (by decide)
  · rintro rfl
    rfl
theorem mB_t {y : Int64} {k : Nat} (hk : k < 64) : lg_cmp (((y.toUInt64 >>> ((nI k).toInt64.toUInt64 &&& Int64.toUInt64 63)).toInt64) &&& 1) 0 = 0 ↔ mB y k = false := by
  rw [lg_0, wb_cu k hk]
  refine ts_bit hk ?_
  show (BitVec.ofNat 64 k).toNat = k
  rw [BitVec.toNat_ofNat, Nat.mod_eq_of_lt (by omega)]
theorem mB_one {k j : Nat} (hk : k < 64) (hj : j < 64) : mB ((1 : Int64) <<< ((nI k).toInt64 &&& 63)) j = decide (j = k) := by
  unfold mB
  rw [wb_c k hk, Int64.toBitVec_shiftLeft, wb_tb, wb_sm k hk, BitVec.shiftLeft_eq', BitVec.getLsbD_shiftLeft, BitVec.toNat_ofNat, Nat.mod_eq_of_lt (show k < 2 ^ 64 by omega)]
  show (decide (j < 64) && !decide (j < k) && (1#64).getLsbD (j - k)) = _
  by_cases h : j = k
  · subst h
    simp [hj]
  · by_cases h2 : j < k
    · simp [h2, h]
    · have h3 : ¬ j - k = 0 := by omega
      simp [h, BitVec.getLsbD_one, h3]
theorem mB_or (x y : Int64) (j : Nat) : mB (x ||| y) j = (mB x j || mB y j) := by
  unfold mB
  rw [Int64.toBitVec_or, BitVec.getLsbD_or]
theorem mB_and (x y : Int64) (j : Nat) : mB (x &&& y) j = (mB x j && mB y j) := by
  unfold mB
  rw [Int64.toBitVec_and, BitVec.getLsbD_and]
theorem mB_xor (x y : Int64) (j : Nat) : mB (x ^^^ y) j = (mB x j ^^ mB y j) := by
  unfold mB
  rw [Int64.toBitVec_xor, BitVec.getLsbD_xor]
theorem mB_ext {x y : Int64} (h : ∀ j, j < 64 → mB x j = mB y j) : x = y := Int64.toBitVec_inj.mp (BitVec.eq_of_getLsbD_eq (fun i hi => h i hi))
theorem m_lit (n : Nat) : (OfNat.ofNat n : Int32) = nI n := rfl
theorem m_okN {k n : Nat} (h : k < n) (hn : n < 2 ^ 31) : m_ok (nI k) n = true := by
  unfold m_ok
  exact decide_eq_true (nI_in h hn)
theorem m_nz {k : Nat} (h0 : 0 < k) (h : k < 2 ^ 31) : decide (¬ nI k = 0) = true := decide_eq_true (nI_ne0 h0 h)
/-- a number or NONE -/
def mOe (o : Option Nat) : Int32 := match o with
  | none => -9
  | some k => nI k
def mPlace (W H : Nat) (x y : Int32) : Option Nat := if 0 ≤ x.toInt ∧ x.toInt < W ∧ 0 ≤ y.toInt ∧ y.toInt < H then some (7 * y.toInt.toNat + x.toInt.toNat) else none
theorem mPlace_x {W H : Nat} {x y : Int32} (h : x < 0) : mPlace W H x y = none := by
  unfold mPlace
  rw [if_neg]
  rw [Int32.lt_iff_toInt_lt, Int32.toInt_zero] at h
  omega
theorem mPlace_y {W H : Nat} {x y : Int32} (h : y < 0) : mPlace W H x y = none := by
  unfold mPlace
  rw [if_neg]
  rw [Int32.lt_iff_toInt_lt, Int32.toInt_zero] at h
  omega
theorem mPlace_n {W H i j : Nat} (hi : i < 2 ^ 31) (hj : j < 2 ^ 31) : mPlace W H (nI i) (nI j) = if i < W ∧ j < H then some (7 * j + i) else none := by
  unfold mPlace
  rw [nI_toInt hi, nI_toInt hj]
  by_cases h : i < W ∧ j < H
  · rw [if_pos (by omega), if_pos h]
    simp
  · rw [if_neg (by omega), if_neg h]
theorem nI_or (x : Int32) : x < 0 ∨ ∃ k, k < 2 ^ 31 ∧ x = nI k := by
  by_cases h : x < 0
  · exact Or.inl h
  · exact Or.inr (nI_of h)
theorem nI_neg9 {k : Nat} (h : k < 2 ^ 31) : ¬ nI k = -9 := by
  intro q
  have h1 := nI_pos h
  rw [q] at h1
  exact h1 (by decide)
theorem nI_m {k : Nat} {x : Int32} (hx : x < 0) (h : k < 2 ^ 31) : ¬ nI k = x := by
  intro q
  rw [← q] at hx
  exact nI_pos h hx
theorem mOe_neg {o : Option Nat} : o = none → mOe o < 0 := by
  rintro rfl
  decide
