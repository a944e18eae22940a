/-! Reach.spread: all waits of one way -/
theorem mSt_mod {K : Nat → Nat} {W H T O k d t t' : Nat} (h : t % T = t' % T) : mSt K W H T O k d t = mSt K W H T O k d t' := by
  unfold mSt
  rw [h]
theorem mRoll_mod {K : Nat → Nat} {W H T O : Nat} : ∀ (n k d t t' : Nat), t % T = t' % T → (mRoll K W H T O n k d t).1 = (mRoll K W H T O n k d t').1 ∧ (mRoll K W H T O n k d t).2.1 = (mRoll K W H T O n k d t').2.1 ∧ (mRoll K W H T O n k d t).2.2 + t' = (mRoll K W H T O n k d t').2.2 + t
  | 0, k, d, t, t', h => ⟨rfl, rfl, Nat.add_comm _ _⟩
  | n + 1, k, d, t, t', h => by
    have h1 : (t + 1) % T = (t' + 1) % T := by rw [Nat.add_mod, h, ← Nat.add_mod]
    rw [mRoll, mRoll, mSt_mod h1]
    cases mSt K W H T O k d (t' + 1) with
    | none =>
      obtain ⟨a, e, i⟩ := mRoll_mod (K := K) (W := W) (H := H) (O := O) n k ((d + 2) % 4) (t + 1) (t' + 1) h1
      exact ⟨a, e, by dsimp only; omega⟩
    | some p =>
      dsimp only
      split
      · exact ⟨rfl, rfl, by dsimp only; omega⟩
      · split
        · exact ⟨rfl, rfl, by dsimp only; omega⟩
        · obtain ⟨a, e, i⟩ := mRoll_mod (K := K) (W := W) (H := H) (O := O) n p d (t + 1) (t' + 1) h1
          exact ⟨a, e, by omega⟩
theorem mSt_mt {K : Nat → Nat} {W H T O k d t t' : Nat} (h : mMt K W H k d = false) : mSt K W H T O k d t = mSt K W H T O k d t' := by
  unfold mSt
  unfold mMt at h
  cases hn : mNx W H k d with
  | none => rfl
  | some n =>
    rw [hn] at h
    have h : ¬ K n = 4 := of_decide_eq_false h
    dsimp only
    by_cases q : K n = 1
    · rw [if_pos (Or.inl q), if_pos (Or.inl q)]
    · rw [if_neg (by omega), if_neg (by omega)]
theorem mNm {K : Nat → Nat} {W H T O : Nat} : ∀ (m k d t t' : Nat), mMm K W H T O m k d t = false → mHm K W H T O m k d t' = mHm K W H T O m k d t ∧ ∀ q, mLi K W H T O q m k d t' = mLi K W H T O q m k d t
  | 0, k, d, t, t', h => ⟨rfl, fun _ => rfl⟩
  | m + 1, k, d, t, t', h => by
    rw [mMm, Bool.or_eq_false_iff] at h
    obtain ⟨h1, h2⟩ := h
    have e := mSt_mt (T := T) (O := O) (t := t' + 1) (t' := t + 1) h1
    rw [mHm, mHm, e]
    refine ⟨?_, fun q => ?_⟩
    · cases hs : mSt K W H T O k d (t + 1) with
      | none =>
        rw [hs] at h2
        exact (mNm m k _ (t + 1) (t' + 1) h2).1
      | some p =>
        rw [hs] at h2
        dsimp only at h2 ⊢
        by_cases q2 : K p = 2
        · rw [if_pos q2, if_pos q2]
        · rw [if_neg q2] at h2 ⊢
          rw [if_neg q2]
          by_cases q3 : K p = 3
          · rw [if_pos q3, if_pos q3]
          · rw [if_neg q3] at h2 ⊢
            rw [if_neg q3]
            exact (mNm m p d (t + 1) (t' + 1) h2).1
    · rw [mLi, mLi, e]
      cases hs : mSt K W H T O k d (t + 1) with
      | none =>
        rw [hs] at h2
        dsimp only
        rw [(mNm m k _ (t + 1) (t' + 1) h2).2 q]
      | some p =>
        rw [hs] at h2
        dsimp only at h2 ⊢
        by_cases q2 : K p = 2
        · rw [if_pos q2, if_pos q2]
        · rw [if_neg q2] at h2 ⊢
          rw [if_neg q2]
          by_cases q3 : K p = 3
          · rw [if_pos q3, if_pos q3]
          · rw [if_neg q3] at h2 ⊢
            rw [if_neg q3, (mNm m p d (t + 1) (t' + 1) h2).2 q]
theorem mLi_on {K : Nat → Nat} {W H T O q : Nat} (h7 : W ≤ 7 ∧ H ≤ 7) : ∀ (m k d t : Nat), mOn W H k → mLi K W H T O q m k d t = true → mOn W H q
  | 0, k, d, t, ho, h => absurd (show false = true from h) (by decide)
  | m + 1, k, d, t, ho, h => by
    rw [mLi] at h
    cases hs : mSt K W H T O k d (t + 1) with
    | none =>
      rw [hs] at h
      dsimp only at h
      rw [Bool.or_eq_true, decide_eq_true_iff] at h
      rcases h with rfl | h
      · exact ho
      · exact mLi_on h7 m k _ _ ho h
    | some p =>
      rw [hs] at h
      have hpo := mSt_on h7 ho hs
      dsimp only at h
      split at h
      · exact absurd h (by decide)
      · split at h
        · exact absurd h (by decide)
        · rw [Bool.or_eq_true, decide_eq_true_iff] at h
          rcases h with rfl | h
          · exact hpo
          · exact mLi_on h7 m p _ _ hpo h
theorem mB_home : ∀ q, q < 64 → mB 4611686018427387904 q = decide (q = 62) := by decide +kernel
/-- what the long y says of the waits below w: some come to the hole; if none, where they lie -/
def mSa (K : Nat → Nat) (W H T O k d w : Nat) (y : Int64) : Prop := (mB y 62 = true ↔ ∃ v, v < w ∧ mHm K W H T O 6 k d v = true) ∧ ((¬ ∃ v, v < w ∧ mHm K W H T O 6 k d v = true) → ∀ q, q < 49 → (mB y q = true ↔ ∃ v, v < w ∧ mLi K W H T O q 6 k d v = true))
theorem mSa_0 {K : Nat → Nat} {W H T O k d : Nat} : mSa K W H T O k d 0 0 :=
  ⟨⟨fun h => by rw [mB_0] at h; exact absurd h (by decide), fun ⟨v, h, _⟩ => absurd h (Nat.not_lt_zero v)⟩, fun _ q _ => ⟨fun h => by rw [mB_0] at h; exact absurd h (by decide), fun ⟨v, h, _⟩ => absurd h (Nat.not_lt_zero v)⟩⟩
theorem mSa_s {K : Nat → Nat} {W H T O k d w : Nat} {y : Int64} (h7 : W ≤ 7 ∧ H ≤ 7) (ho : mOn W H k) (h : mSa K W H T O k d w y) : mSa K W H T O k d (w + 1) (y ||| mCo K W H T O 6 k d w 0) := by
  obtain ⟨h1, h2⟩ := h
  have lt : ∀ v, v < w + 1 ↔ v < w ∨ v = w := fun v => by omega
  cases hh : mHm K W H T O 6 k d w with
  | true =>
    rw [mCo_home 6 k d w 0 hh]
    refine ⟨?_, fun hn => absurd ⟨w, Nat.lt_succ_self w, hh⟩ hn⟩
    rw [mB_or, mB_home 62 (by decide), decide_eq_true rfl, Bool.or_true]
    exact ⟨fun _ => ⟨w, Nat.lt_succ_self w, hh⟩, fun _ => rfl⟩
  | false =>
    have b := fun q hq => mCo_bits (K := K) (T := T) (O := O) h7 (q := q) hq 6 k d w 0 ho hh
    have z62 : mLi K W H T O 62 6 k d w = false := by
      cases hl : mLi K W H T O 62 6 k d w with
      | false => rfl
      | true =>
        have := mOn_lt h7 (mLi_on h7 _ _ _ _ ho hl)
        omega
    refine ⟨?_, fun hn q hq => ?_⟩
    · rw [mB_or, b 62 (by decide), mB_0, z62, Bool.or_false, Bool.or_false, h1]
      constructor
      · rintro ⟨v, a1, a2⟩
        exact ⟨v, by omega, a2⟩
      · rintro ⟨v, a1, a2⟩
        rcases (lt v).mp a1 with a | rfl
        · exact ⟨v, a, a2⟩
        · rw [hh] at a2
          exact absurd a2 (by decide)
    · rw [mB_or, b q (by omega), mB_0, Bool.false_or, Bool.or_eq_true, h2 (fun ⟨v, a1, a2⟩ => hn ⟨v, by omega, a2⟩) q hq]
      constructor
      · rintro (⟨v, a1, a2⟩ | a)
        · exact ⟨v, by omega, a2⟩
        · exact ⟨w, Nat.lt_succ_self w, a⟩
      · rintro ⟨v, a1, a2⟩
        rcases (lt v).mp a1 with a | rfl
        · exact Or.inl ⟨v, a, a2⟩
        · exact Or.inr a2
/-- a course that meets no mill stands for all waits -/
theorem mSa_all {K : Nat → Nat} {W H T O k d w : Nat} {y : Int64} (hw : w < T) (h : mSa K W H T O k d (w + 1) y) (hm : mMm K W H T O 6 k d w = false) : mSa K W H T O k d T y := by
  have e := fun v => mNm (K := K) (W := W) (H := H) (T := T) (O := O) 6 k d w v hm
  have eh : (∃ v, v < T ∧ mHm K W H T O 6 k d v = true) ↔ ∃ v, v < w + 1 ∧ mHm K W H T O 6 k d v = true := by
    constructor
    · rintro ⟨v, -, a⟩
      rw [(e v).1] at a
      exact ⟨w, Nat.lt_succ_self w, a⟩
    · rintro ⟨v, a1, a⟩
      exact ⟨v, by omega, a⟩
  refine ⟨by rw [eh]; exact h.1, fun hn q hq => ?_⟩
  rw [eh] at hn
  rw [h.2 hn q hq]
  constructor
  · rintro ⟨v, a1, a⟩
    exact ⟨v, by omega, a⟩
  · rintro ⟨v, -, a⟩
    rw [(e v).2 q] at a
    exact ⟨w, Nat.lt_succ_self w, a⟩
