/-! a course: where the strokes of one way end -/
/-- comes to the hole -/
def mHm (K : Nat → Nat) (W H T O : Nat) : Nat → Nat → Nat → Nat → Bool
  | 0, _, _, _ => false
  | m + 1, k, d, t => match mSt K W H T O k d (t + 1) with
    | none => mHm K W H T O m k ((d + 2) % 4) (t + 1)
    | some p => if K p = 2 then false else if K p = 3 then true else mHm K W H T O m p d (t + 1)
/-- lies at q -/
def mLi (K : Nat → Nat) (W H T O : Nat) (q : Nat) : Nat → Nat → Nat → Nat → Bool
  | 0, _, _, _ => false
  | m + 1, k, d, t => match mSt K W H T O k d (t + 1) with
    | none => decide (q = k) || mLi K W H T O q m k ((d + 2) % 4) (t + 1)
    | some p => if K p = 2 then false else if K p = 3 then false else decide (q = p) || mLi K W H T O q m p d (t + 1)
/-- meets a mill -/
def mMm (K : Nat → Nat) (W H T O : Nat) : Nat → Nat → Nat → Nat → Bool
  | 0, _, _, _ => false
  | m + 1, k, d, t => mMt K W H k d || match mSt K W H T O k d (t + 1) with
    | none => mMm K W H T O m k ((d + 2) % 4) (t + 1)
    | some p => if K p = 2 then false else if K p = 3 then false else mMm K W H T O m p d (t + 1)
def mBit (k : Nat) : Int64 := (1 : Int64) <<< ((nI k).toInt64 &&& 63)
def mCo (K : Nat → Nat) (W H T O : Nat) : Nat → Nat → Nat → Nat → Int64 → Int64
  | 0, _, _, _, y => y
  | m + 1, k, d, t, y => match mSt K W H T O k d (t + 1) with
    | none => mCo K W H T O m k ((d + 2) % 4) (t + 1) (y ||| mBit k)
    | some p => if K p = 2 then y else if K p = 3 then 4611686018427387904 else mCo K W H T O m p d (t + 1) (y ||| mBit p)
theorem mHm_roll {K : Nat → Nat} {W H T O : Nat} : ∀ (m k d t : Nat), mHm K W H T O m k d t = true ↔ ∃ n, 1 ≤ n ∧ n ≤ m ∧ (mRoll K W H T O n k d t).1 = 1
  | 0, k, d, t => ⟨fun h => absurd (show false = true from h) (by decide), fun ⟨n, h1, h2, _⟩ => absurd h2 (by omega)⟩
  | m + 1, k, d, t => by
    have step : ∀ (k' d' : Nat), mSt K W H T O k d (t + 1) = none ∧ k' = k ∧ d' = (d + 2) % 4 ∨ (∃ p, mSt K W H T O k d (t + 1) = some p ∧ k' = p ∧ d' = d ∧ ¬ K p = 2 ∧ ¬ K p = 3) → (mHm K W H T O m k' d' (t + 1) = true ↔ ∃ n, 1 ≤ n ∧ n ≤ m + 1 ∧ (mRoll K W H T O n k d t).1 = 1) := by
      intro k' d' h
      have e : ∀ n, mRoll K W H T O (n + 1) k d t = mRoll K W H T O n k' d' (t + 1) := by
        intro n
        rcases h with ⟨h1, rfl, rfl⟩ | ⟨p, h1, rfl, rfl, h2, h3⟩
        · rw [mRoll, h1]
        · rw [mRoll, h1]
          dsimp only
          rw [if_neg (fun z => h3 z.1), if_neg h2]
      rw [mHm_roll m k' d' (t + 1)]
      constructor
      · rintro ⟨n, a1, a2, a3⟩
        exact ⟨n + 1, by omega, by omega, by rw [e]; exact a3⟩
      · rintro ⟨n, a1, a2, a3⟩
        obtain ⟨j, rfl⟩ : ∃ j, n = j + 1 := ⟨n - 1, by omega⟩
        rw [e] at a3
        refine ⟨j, ?_, by omega, a3⟩
        cases j with
        | zero => exact absurd (show (0 : Nat) = 1 from a3) (by decide)
        | succ j => omega
    cases hs : mSt K W H T O k d (t + 1) with
    | none =>
      rw [mHm, hs]
      exact step k _ (Or.inl ⟨hs, rfl, rfl⟩)
    | some p =>
      rw [mHm, hs]
      dsimp only
      by_cases h2 : K p = 2
      · rw [if_pos h2]
        refine ⟨fun h => absurd h (by decide), ?_⟩
        rintro ⟨n, a1, a2, a3⟩
        obtain ⟨j, rfl⟩ : ∃ j, n = j + 1 := ⟨n - 1, by omega⟩
        rw [mRoll, hs] at a3
        dsimp only at a3
        rw [if_neg (by omega), if_pos h2] at a3
        exact absurd (show (2 : Nat) = 1 from a3) (by decide)
      · rw [if_neg h2]
        by_cases h3 : K p = 3
        · rw [if_pos h3]
          refine ⟨fun _ => ⟨1, by omega, by omega, ?_⟩, fun _ => rfl⟩
          rw [mRoll, hs]
          dsimp only
          rw [if_pos ⟨h3, by decide⟩]
        · rw [if_neg h3]
          exact step p d (Or.inr ⟨p, hs, rfl, rfl, h2, h3⟩)
theorem mLi_roll {K : Nat → Nat} {W H T O q : Nat} : ∀ (m k d t : Nat), mHm K W H T O m k d t = false → (mLi K W H T O q m k d t = true ↔ ∃ n, 1 ≤ n ∧ n ≤ m ∧ (mRoll K W H T O n k d t).1 = 0 ∧ (mRoll K W H T O n k d t).2.1 = q)
  | 0, k, d, t, _ => ⟨fun h => absurd (show false = true from h) (by decide), fun ⟨n, h1, h2, _⟩ => absurd h2 (by omega)⟩
  | m + 1, k, d, t, hh => by
    have step : ∀ (k' d' : Nat), mSt K W H T O k d (t + 1) = none ∧ k' = k ∧ d' = (d + 2) % 4 ∨ (∃ p, mSt K W H T O k d (t + 1) = some p ∧ k' = p ∧ d' = d ∧ ¬ K p = 2 ∧ ¬ K p = 3) → mHm K W H T O m k' d' (t + 1) = false → ((decide (q = k') || mLi K W H T O q m k' d' (t + 1)) = true ↔ ∃ n, 1 ≤ n ∧ n ≤ m + 1 ∧ (mRoll K W H T O n k d t).1 = 0 ∧ (mRoll K W H T O n k d t).2.1 = q) := by
      intro k' d' h hf
      have e : ∀ n, mRoll K W H T O (n + 1) k d t = mRoll K W H T O n k' d' (t + 1) := by
        intro n
        rcases h with ⟨h1, rfl, rfl⟩ | ⟨p, h1, rfl, rfl, h2, h3⟩
        · rw [mRoll, h1]
        · rw [mRoll, h1]
          dsimp only
          rw [if_neg (fun z => h3 z.1), if_neg h2]
      rw [Bool.or_eq_true, decide_eq_true_iff, mLi_roll m k' d' (t + 1) hf]
      constructor
      · rintro (rfl | ⟨n, a1, a2, a3, a4⟩)
        · exact ⟨1, by omega, by omega, by rw [e]; rfl, by rw [e]; rfl⟩
        · exact ⟨n + 1, by omega, by omega, by rw [e]; exact a3, by rw [e]; exact a4⟩
      · rintro ⟨n, a1, a2, a3, a4⟩
        obtain ⟨j, rfl⟩ : ∃ j, n = j + 1 := ⟨n - 1, by omega⟩
        rw [e] at a3 a4
        cases j with
        | zero => exact Or.inl (show k' = q from a4).symm
        | succ j => exact Or.inr ⟨j + 1, by omega, by omega, a3, a4⟩
    cases hs : mSt K W H T O k d (t + 1) with
    | none =>
      rw [mHm, hs] at hh
      rw [mLi, hs]
      exact step k _ (Or.inl ⟨hs, rfl, rfl⟩) hh
    | some p =>
      rw [mHm, hs] at hh
      rw [mLi, hs]
      dsimp only at hh ⊢
      by_cases h2 : K p = 2
      · rw [if_pos h2]
        refine ⟨fun h => absurd h (by decide), ?_⟩
        rintro ⟨n, a1, a2, a3, -⟩
        obtain ⟨j, rfl⟩ : ∃ j, n = j + 1 := ⟨n - 1, by omega⟩
        rw [mRoll, hs] at a3
        dsimp only at a3
        rw [if_neg (by omega), if_pos h2] at a3
        exact absurd (show (2 : Nat) = 0 from a3) (by decide)
      · rw [if_neg h2] at hh ⊢
        by_cases h3 : K p = 3
        · rw [if_pos h3] at hh
          exact absurd hh (by decide)
        · rw [if_neg h3] at hh ⊢
          exact step p d (Or.inr ⟨p, hs, rfl, rfl, h2, h3⟩) hh
theorem mBit_t {k j : Nat} (hk : k < 64) (hj : j < 64) : mB (mBit k) j = decide (j = k) := mB_one hk hj
theorem mCo_home {K : Nat → Nat} {W H T O : Nat} : ∀ (m k d t : Nat) (y : Int64), mHm K W H T O m k d t = true → mCo K W H T O m k d t y = 4611686018427387904
  | 0, k, d, t, y, h => absurd (show false = true from h) (by decide)
  | m + 1, k, d, t, y, h => by
    rw [mHm] at h
    rw [mCo]
    cases hs : mSt K W H T O k d (t + 1) with
    | none =>
      rw [hs] at h
      exact mCo_home m k _ _ _ h
    | some p =>
      rw [hs] at h
      dsimp only at h ⊢
      by_cases h2 : K p = 2
      · rw [if_pos h2] at h
        exact absurd h (by decide)
      · rw [if_neg h2] at h ⊢
        by_cases h3 : K p = 3
        · rw [if_pos h3]
        · rw [if_neg h3] at h ⊢
          exact mCo_home m p d _ _ h
theorem mCo_bits {K : Nat → Nat} {W H T O : Nat} (h7 : W ≤ 7 ∧ H ≤ 7) {q : Nat} (hq : q < 64) : ∀ (m k d t : Nat) (y : Int64), mOn W H k → mHm K W H T O m k d t = false → mB (mCo K W H T O m k d t y) q = (mB y q || mLi K W H T O q m k d t)
  | 0, k, d, t, y, _, _ => (Bool.or_false _).symm
  | m + 1, k, d, t, y, ho, h => by
    rw [mHm] at h
    rw [mCo, mLi]
    cases hs : mSt K W H T O k d (t + 1) with
    | none =>
      rw [hs] at h
      dsimp only at h ⊢
      have hk := mOn_lt h7 ho
      rw [mCo_bits h7 hq m k _ _ _ ho h, mB_or, mBit_t (by omega) hq, Bool.or_assoc]
    | some p =>
      rw [hs] at h
      dsimp only at h ⊢
      have hpo := mSt_on h7 ho hs
      have hp := mOn_lt h7 hpo
      by_cases h2 : K p = 2
      · rw [if_pos h2, if_pos h2, Bool.or_false]
      · rw [if_neg h2] at h ⊢
        rw [if_neg h2]
        by_cases h3 : K p = 3
        · rw [if_pos h3] at h
          exact absurd h (by decide)
        · rw [if_neg h3] at h ⊢
          rw [if_neg h3, mCo_bits h7 hq m p d _ _ hpo h, mB_or, mBit_t (by omega) hq, Bool.or_assoc]
