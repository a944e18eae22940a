/-! from the hole outwards: how many strokes a place is away -/
def mAny (f : Nat → Bool) : Nat → Bool
  | 0 => false
  | n + 1 => mAny f n || f n
theorem mAny_t {f : Nat → Bool} : ∀ n, mAny f n = true ↔ ∃ k, k < n ∧ f k = true
  | 0 => ⟨fun h => absurd (show false = true from h) (by decide), fun ⟨k, h, _⟩ => absurd h (Nat.not_lt_zero k)⟩
  | n + 1 => by
    rw [mAny, Bool.or_eq_true, mAny_t n]
    constructor
    · rintro (⟨k, h1, h2⟩ | h)
      · exact ⟨k, by omega, h2⟩
      · exact ⟨n, Nat.lt_succ_self n, h⟩
    · rintro ⟨k, h1, h2⟩
      rcases (by omega : k < n ∨ k = n) with h | rfl
      · exact Or.inl ⟨k, h, h2⟩
      · exact Or.inr h2
def mWi (A : Nat → Bool) (B : Nat → Nat → Bool) : Nat → Nat → Bool
  | 0, _ => false
  | n + 1, k => A k || mAny (fun q => B k q && mWi A B n q) 49
def mFf (A : Nat → Bool) (B : Nat → Nat → Bool) : Nat → Nat → Nat
  | 0, _ => 0
  | n + 1, k => if mFf A B n k = 0 then (if mWi A B (n + 1) k = true then n + 1 else 0) else mFf A B n k
termination_by n _ => n
section FAR
variable {A : Nat → Bool} {B : Nat → Nat → Bool}
theorem mWi_t {n k : Nat} : mWi A B (n + 1) k = true ↔ A k = true ∨ ∃ q, q < 49 ∧ B k q = true ∧ mWi A B n q = true := by
  rw [mWi, Bool.or_eq_true, mAny_t]
  constructor
  · rintro (h | ⟨q, h1, h2⟩)
    · exact Or.inl h
    · rw [Bool.and_eq_true] at h2
      exact Or.inr ⟨q, h1, h2.1, h2.2⟩
  · rintro (h | ⟨q, h1, h2, h3⟩)
    · exact Or.inl h
    · exact Or.inr ⟨q, h1, by rw [Bool.and_eq_true]; exact ⟨h2, h3⟩⟩
theorem mWi_s : ∀ (n k : Nat), mWi A B n k = true → mWi A B (n + 1) k = true
  | 0, k, h => absurd (show false = true from h) (by decide)
  | n + 1, k, h => by
    rw [mWi_t] at h ⊢
    rcases h with h | ⟨q, h1, h2, h3⟩
    · exact Or.inl h
    · exact Or.inr ⟨q, h1, h2, mWi_s n q h3⟩
theorem mFf_z (k : Nat) : mFf A B 0 k = 0 := by rw [mFf]
theorem mFf_c (n k : Nat) : mFf A B (n + 1) k = if mFf A B n k = 0 then (if mWi A B (n + 1) k = true then n + 1 else 0) else mFf A B n k := by rw [mFf]
theorem mFf_le : ∀ (n k : Nat), mFf A B n k ≤ n
  | 0, k => by rw [mFf_z]; exact Nat.le_refl _
  | n + 1, k => by
    have := mFf_le n k
    rw [mFf]
    split
    · split <;> omega
    · omega
theorem mFf_0 : ∀ (n k : Nat), mFf A B n k = 0 ↔ mWi A B n k = false
  | 0, k => ⟨fun _ => rfl, fun _ => mFf_z k⟩
  | n + 1, k => by
    rw [mFf]
    have ih := mFf_0 n k
    by_cases h : mFf A B n k = 0
    · rw [if_pos h]
      by_cases h2 : mWi A B (n + 1) k = true
      · rw [if_pos h2, h2]
        exact ⟨fun q => absurd q (by omega), fun q => absurd q (by decide)⟩
      · rw [if_neg h2]
        exact ⟨fun _ => by cases hw : mWi A B (n + 1) k with
          | false => rfl
          | true => exact absurd hw h2, fun _ => rfl⟩
    · rw [if_neg h]
      have hw : mWi A B n k = true := by
        cases hw : mWi A B n k with
        | true => rfl
        | false => exact absurd (ih.mpr hw) h
      rw [mWi_s n k hw]
      exact ⟨fun q => absurd q h, fun q => absurd q (by decide)⟩
theorem mFf_n0 {n k : Nat} : ¬ mFf A B n k = 0 ↔ mWi A B n k = true := by
  rw [mFf_0]
  cases mWi A B n k <;> simp
theorem mFf_A {n k : Nat} (h : mFf A B (n + 1) k = 0) : A k = false := by
  rw [mFf_0] at h
  cases ha : A k with
  | false => rfl
  | true =>
    rw [mWi_t.mpr (Or.inl ha)] at h
    exact absurd h (by decide)
/-- the first round: a stroke that is in -/
theorem mFf_1 {k : Nat} : mFf A B 1 k = if A k = true then 1 else 0 := by
  have : mWi A B 1 k = A k := by
    rw [mWi]
    cases A k with
    | true => rfl
    | false =>
      rw [Bool.false_or]
      cases h : mAny (fun q => B k q && mWi A B 0 q) 49 with
      | false => rfl
      | true =>
        obtain ⟨q, -, h2⟩ := (mAny_t _).mp h
        rw [Bool.and_eq_true] at h2
        exact absurd (show false = true from h2.2) (by decide)
  rw [show (1 : Nat) = 0 + 1 from rfl, mFf_c, mFf_z, if_pos rfl, Nat.zero_add, this]
/-- a later round: a stroke that ends one nearer -/
theorem mFf_2 {n k : Nat} (h0 : mFf A B (n + 1) k = 0) : mWi A B (n + 2) k = true ↔ ∃ q, q < 49 ∧ B k q = true ∧ mFf A B (n + 1) q = n + 1 := by
  have hA := mFf_A h0
  have hw := (mFf_0 _ _).mp h0
  rw [mWi_t]
  constructor
  · rintro (h | ⟨q, h1, h2, h3⟩)
    · rw [hA] at h
      exact absurd h (by decide)
    · refine ⟨q, h1, h2, ?_⟩
      rw [mFf]
      by_cases hq : mFf A B n q = 0
      · rw [if_pos hq, if_pos h3]
      · exfalso
        have : mWi A B (n + 1) k = true := mWi_t.mpr (Or.inr ⟨q, h1, h2, mFf_n0.mp hq⟩)
        rw [hw] at this
        exact absurd this (by decide)
  · rintro ⟨q, h1, h2, h3⟩
    exact Or.inr ⟨q, h1, h2, mFf_n0.mp (by omega)⟩
theorem mFf_s {n k : Nat} (h0 : mFf A B (n + 1) k = 0) : mFf A B (n + 2) k = n + 2 ↔ ∃ q, q < 49 ∧ B k q = true ∧ mFf A B (n + 1) q = n + 1 := by
  rw [← mFf_2 h0, mFf, if_pos h0]
  by_cases h : mWi A B (n + 1 + 1) k = true
  · rw [if_pos h]
    exact ⟨fun _ => h, fun _ => rfl⟩
  · rw [if_neg h]
    exact ⟨fun q => absurd q (by omega), fun q => absurd q h⟩
/-- nothing is found in a round: nothing ever will be -/
theorem mFf_stop {n : Nat} (h : ∀ k, k < 49 → ¬ mFf A B (n + 1) k = n + 1) : ∀ (j k : Nat), k < 49 → (mWi A B (n + j + 1) k = true → mWi A B n k = true) ∧ mFf A B (n + j) k = mFf A B n k
  | 0, k, hk => by
    refine ⟨fun hw => ?_, rfl⟩
    have := h k hk
    rw [mFf] at this
    by_cases h0 : mFf A B n k = 0
    · rw [if_pos h0, if_pos hw] at this
      exact absurd rfl this
    · exact mFf_n0.mp h0
  | j + 1, k, hk => by
    have ih := mFf_stop h j
    refine ⟨fun hw => ?_, ?_⟩
    · rw [mWi_t] at hw
      rcases hw with hw | ⟨q, h1, h2, h3⟩
      · exact (mFf_stop h 0 k hk).1 (mWi_t.mpr (Or.inl hw))
      · exact (mFf_stop h 0 k hk).1 (mWi_t.mpr (Or.inr ⟨q, h1, h2, (ih q h1).1 h3⟩))
    · rw [show n + (j + 1) = n + j + 1 from rfl, mFf_c, (ih k hk).2]
      by_cases h0 : mFf A B n k = 0
      · rw [if_pos h0, if_neg, h0]
        intro hw
        exact mFf_n0.mpr ((ih k hk).1 hw) h0
      · rw [if_neg h0]
theorem mCt_le {f : Nat → Bool} : ∀ n, mCt f n ≤ n
  | 0 => Nat.le_refl _
  | n + 1 => by
    have := mCt_le (f := f) n
    rw [mCt]
    split <;> omega
theorem mCt_mono {f g : Nat → Bool} : ∀ n, (∀ k, k < n → f k = true → g k = true) → mCt f n ≤ mCt g n
  | 0, _ => Nat.le_refl _
  | n + 1, h => by
    have := mCt_mono n (fun k hk => h k (by omega))
    have hn := h n (by omega)
    rw [mCt, mCt]
    cases hf : f n with
    | false => simp; omega
    | true => rw [hn hf]; omega
theorem mCt_lt {f g : Nat → Bool} : ∀ n, (∀ k, k < n → f k = true → g k = true) → (∃ k, k < n ∧ f k = false ∧ g k = true) → mCt f n < mCt g n
  | 0, _, h => by
    obtain ⟨k, hk, -⟩ := h
    omega
  | n + 1, h, he => by
    have hm := mCt_mono n (fun k hk => h k (by omega))
    have hn := h n (by omega)
    obtain ⟨k, hk, h1, h2⟩ := he
    rw [mCt, mCt]
    rcases (by omega : k < n ∨ k = n) with hk | rfl
    · have := mCt_lt n (fun k hk => h k (by omega)) ⟨k, hk, h1, h2⟩
      cases hf : f n with
      | false => simp; omega
      | true => rw [hn hf]; omega
    · rw [h1, h2]
      simp
      omega
/-- each round that finds something finds a place more -/
theorem mFf_cnt : ∀ n, (∀ j, j < n → ∃ k, k < 49 ∧ mFf A B (j + 1) k = j + 1) → n ≤ mCt (mWi A B n) 49
  | 0, _ => Nat.zero_le _
  | n + 1, h => by
    have ih := mFf_cnt n (fun j hj => h j (by omega))
    obtain ⟨k, hk, e⟩ := h n (Nat.lt_succ_self n)
    have : mCt (mWi A B n) 49 < mCt (mWi A B (n + 1)) 49 := by
      refine mCt_lt 49 (fun k _ => mWi_s n k) ⟨k, hk, ?_, mFf_n0.mp (by omega)⟩
      rw [← mFf_0]
      by_cases h0 : mFf A B n k = 0
      · exact h0
      · rw [mFf, if_neg h0] at e
        have := mFf_le (A := A) (B := B) n k
        omega
    omega
theorem mFf_49 {n : Nat} (h : ∀ j, j < n → ∃ k, k < 49 ∧ mFf A B (j + 1) k = j + 1) : n ≤ 49 :=
  Nat.le_trans (mFf_cnt n h) (mCt_le 49)
end FAR
/-- in at one stroke; to a place by one stroke -/
def mHa (K : Nat → Nat) (W H T O k : Nat) : Bool := decide (mOn W H k ∧ ¬ K k = 1 ∧ ¬ K k = 2) && mAny (fun v => mAny (fun d => mHm K W H T O 6 k d v) 4) T
def mHb (K : Nat → Nat) (W H T O k q : Nat) : Bool := decide (mOn W H k ∧ ¬ K k = 1 ∧ ¬ K k = 2) && mAny (fun v => mAny (fun d => mLi K W H T O q 6 k d v) 4) T
/-- how many strokes; 0: there is no way -/
def mFr (K : Nat → Nat) (W H T O k : Nat) : Nat := mFf (mHa K W H T O) (mHb K W H T O) 49 k
theorem mHa_t {K : Nat → Nat} {W H T O k : Nat} : mHa K W H T O k = true ↔ mVl K W H k ∧ ∃ v d, v < T ∧ d < 4 ∧ mHm K W H T O 6 k d v = true := by
  unfold mHa mVl
  rw [Bool.and_eq_true, decide_eq_true_iff, mAny_t]
  constructor
  · rintro ⟨h, v, hv, h2⟩
    obtain ⟨d, hd, h3⟩ := (mAny_t _).mp h2
    exact ⟨h, v, d, hv, hd, h3⟩
  · rintro ⟨h, v, d, hv, hd, h3⟩
    exact ⟨h, v, hv, (mAny_t _).mpr ⟨d, hd, h3⟩⟩
theorem mHb_t {K : Nat → Nat} {W H T O k q : Nat} : mHb K W H T O k q = true ↔ mVl K W H k ∧ ∃ v d, v < T ∧ d < 4 ∧ mLi K W H T O q 6 k d v = true := by
  unfold mHb mVl
  rw [Bool.and_eq_true, decide_eq_true_iff, mAny_t]
  constructor
  · rintro ⟨h, v, hv, h2⟩
    obtain ⟨d, hd, h3⟩ := (mAny_t _).mp h2
    exact ⟨h, v, d, hv, hd, h3⟩
  · rintro ⟨h, v, d, hv, hd, h3⟩
    exact ⟨h, v, hv, (mAny_t _).mpr ⟨d, hd, h3⟩⟩
/-- what the longs of a place say -/
def mAc (K : Nat → Nat) (W H T O k d e : Nat) (y : Int64) : Prop := ∃ r1 r2 : Int64, y = r1 ||| r2 ∧ (mVl K W H k → mSa K W H T O k d T r1 ∧ mSa K W H T O k e T r2) ∧ (¬ mVl K W H k → r1 = 0 ∧ r2 = 0)
def mRch (K : Nat → Nat) (W H T O : Nat) (L : mFL) : Prop := ∀ k, k < 49 → mAc K W H T O k 1 3 (L 16 k) ∧ mAc K W H T O k 0 2 (L 17 k)
theorem mRch_62 {K : Nat → Nat} {W H T O : Nat} {L : mFL} (h : mRch K W H T O L) {k : Nat} (hk : k < 49) : mB (L 16 k ||| L 17 k) 62 = mHa K W H T O k := by
  obtain ⟨⟨r1, r3, e1, h1, h2⟩, r0, r2, e2, h3, h4⟩ := h k hk
  rw [e1, e2, Bool.eq_iff_iff, mHa_t]
  simp only [mB_or, Bool.or_eq_true]
  by_cases hv : mVl K W H k
  · obtain ⟨a1, a3⟩ := h1 hv
    obtain ⟨a0, a2⟩ := h3 hv
    rw [a1.1, a3.1, a0.1, a2.1]
    constructor
    · rintro ((⟨v, q1, q2⟩ | ⟨v, q1, q2⟩) | ⟨v, q1, q2⟩ | ⟨v, q1, q2⟩)
      · exact ⟨hv, v, 1, q1, by decide, q2⟩
      · exact ⟨hv, v, 3, q1, by decide, q2⟩
      · exact ⟨hv, v, 0, q1, by decide, q2⟩
      · exact ⟨hv, v, 2, q1, by decide, q2⟩
    · rintro ⟨-, v, d, q1, hd, q2⟩
      rcases (by omega : d = 0 ∨ d = 1 ∨ d = 2 ∨ d = 3) with rfl | rfl | rfl | rfl
      · exact Or.inr (Or.inl ⟨v, q1, q2⟩)
      · exact Or.inl (Or.inl ⟨v, q1, q2⟩)
      · exact Or.inr (Or.inr ⟨v, q1, q2⟩)
      · exact Or.inl (Or.inr ⟨v, q1, q2⟩)
  · obtain ⟨rfl, rfl⟩ := h2 hv
    obtain ⟨rfl, rfl⟩ := h4 hv
    rw [mB_0]
    exact ⟨fun q => by simp at q, fun q => absurd q.1 hv⟩
theorem mRch_q {K : Nat → Nat} {W H T O : Nat} {L : mFL} (h : mRch K W H T O L) {k q : Nat} (hk : k < 49) (hq : q < 49) (hn : mHa K W H T O k = false) : mB (L 16 k ||| L 17 k) q = mHb K W H T O k q := by
  obtain ⟨⟨r1, r3, e1, h1, h2⟩, r0, r2, e2, h3, h4⟩ := h k hk
  rw [e1, e2, Bool.eq_iff_iff, mHb_t]
  simp only [mB_or, Bool.or_eq_true]
  by_cases hv : mVl K W H k
  · obtain ⟨a1, a3⟩ := h1 hv
    obtain ⟨a0, a2⟩ := h3 hv
    have no : ∀ d, d < 4 → ¬ ∃ v, v < T ∧ mHm K W H T O 6 k d v = true := by
      rintro d hd ⟨v, q1, q2⟩
      rw [mHa_t.mpr ⟨hv, v, d, q1, hd, q2⟩] at hn
      exact absurd hn (by decide)
    rw [a1.2 (no 1 (by decide)) q hq, a3.2 (no 3 (by decide)) q hq, a0.2 (no 0 (by decide)) q hq, a2.2 (no 2 (by decide)) q hq]
    constructor
    · rintro ((⟨v, q1, q2⟩ | ⟨v, q1, q2⟩) | ⟨v, q1, q2⟩ | ⟨v, q1, q2⟩)
      · exact ⟨hv, v, 1, q1, by decide, q2⟩
      · exact ⟨hv, v, 3, q1, by decide, q2⟩
      · exact ⟨hv, v, 0, q1, by decide, q2⟩
      · exact ⟨hv, v, 2, q1, by decide, q2⟩
    · rintro ⟨-, v, d, q1, hd, q2⟩
      rcases (by omega : d = 0 ∨ d = 1 ∨ d = 2 ∨ d = 3) with rfl | rfl | rfl | rfl
      · exact Or.inr (Or.inl ⟨v, q1, q2⟩)
      · exact Or.inl (Or.inl ⟨v, q1, q2⟩)
      · exact Or.inr (Or.inr ⟨v, q1, q2⟩)
      · exact Or.inl (Or.inr ⟨v, q1, q2⟩)
  · obtain ⟨rfl, rfl⟩ := h2 hv
    obtain ⟨rfl, rfl⟩ := h4 hv
    rw [mB_0]
    exact ⟨fun q => by simp at q, fun q => absurd q.1 hv⟩
