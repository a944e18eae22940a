/-! the way home -/
section WAY
variable {A : Nat → Bool} {B : Nat → Nat → Bool}
theorem mFf_at {m k : Nat} : ∀ n, mFf A B n k = m + 1 → mFf A B (m + 1) k = m + 1 ∧ mFf A B m k = 0
  | 0, h => by
    rw [mFf_z] at h
    omega
  | n + 1, h => by
    have h' := h
    rw [mFf_c] at h
    by_cases q : mFf A B n k = 0
    · rw [if_pos q] at h
      by_cases hw : mWi A B (n + 1) k = true
      · rw [if_pos hw] at h
        have e : m = n := by omega
        subst e
        exact ⟨h', q⟩
      · rw [if_neg hw] at h
        omega
    · rw [if_neg q] at h
      exact mFf_at n h
theorem mFf_up {k n m : Nat} (h : mFf A B n k = m + 1) : ∀ j, mFf A B (n + j) k = m + 1
  | 0 => h
  | j + 1 => by
    have ih := mFf_up h j
    rw [show n + (j + 1) = n + j + 1 from rfl, mFf_c, if_neg (by omega)]
    exact ih
end WAY
theorem mMod_shift {T t v : Nat} (hT : 0 < T) (hv : v < T) : ∃ w, w < T ∧ (t + w) % T = v := by
  refine ⟨(v + (T - t % T)) % T, Nat.mod_lt _ hT, ?_⟩
  have ht := Nat.mod_lt t hT
  rw [Nat.add_mod, Nat.mod_mod]
  by_cases q : v < t % T
  · rw [Nat.mod_eq_of_lt (show v + (T - t % T) < T by omega), show t % T + (v + (T - t % T)) = v + T by omega, Nat.add_mod_right, Nat.mod_eq_of_lt hv]
  · have e : (v + (T - t % T)) % T = v - t % T := by
      rw [show v + (T - t % T) = (v - t % T) + T by omega, Nat.add_mod_right, Nat.mod_eq_of_lt (by omega)]
    rw [e, show t % T + (v - t % T) = v by omega, Nat.mod_eq_of_lt hv]
theorem mMod_sub {T a c x y : Nat} (h : a + y = c + x) (hm : x % T = y % T) : a % T = c % T := by
  have hx := Nat.div_add_mod x T
  have hy := Nat.div_add_mod y T
  have e : a + T * (y / T) = c + T * (x / T) := by omega
  rw [← Nat.add_mul_mod_self_left a T (y / T), e, Nat.add_mul_mod_self_left]
/-- a stroke, one of all that can be told -/
def mRt2 (G : mG) (s : mY) (c t j : Nat) : Nat × Nat × Nat := mRoll (mK G.g s.y) G.W G.H G.T G.O (j % 6 + 1) c (j / 6 % 4) (t + j / 24)
/-- it goes one nearer -/
def mGd (G : mG) (s : mY) (c t lev j : Nat) : Bool := decide ((lev = 1 ∧ (mRt2 G s c t j).1 = 1) ∨ (2 ≤ lev ∧ (mRt2 G s c t j).1 = 0 ∧ mDi G s (mRt2 G s c t j).2.1 = lev - 1))
def mFi (f : Nat → Bool) : Nat → Nat → Nat
  | 0, i => i
  | m + 1, i => if f i = true then i else mFi f m (i + 1)
theorem mFi_spec {f : Nat → Bool} : ∀ m i, (∃ j, i ≤ j ∧ j < i + m ∧ f j = true) → f (mFi f m i) = true ∧ i ≤ mFi f m i ∧ mFi f m i < i + m ∧ ∀ j, i ≤ j → j < mFi f m i → f j = false
  | 0, i, h => by
    obtain ⟨j, h1, h2, -⟩ := h
    omega
  | m + 1, i, h => by
    rw [mFi]
    by_cases q : f i = true
    · rw [if_pos q]
      exact ⟨q, Nat.le_refl _, by omega, fun j h1 h2 => by omega⟩
    · rw [if_neg q]
      obtain ⟨j, h1, h2, h3⟩ := h
      have hj : ¬ j = i := fun e => q (e ▸ h3)
      obtain ⟨a1, a2, a3, a4⟩ := mFi_spec m (i + 1) ⟨j, by omega, by omega, h3⟩
      refine ⟨a1, by omega, by omega, fun j h4 h5 => ?_⟩
      by_cases e : j = i
      · subst e
        cases hf : f j with
        | false => rfl
        | true => exact absurd hf q
      · exact a4 j (by omega) h5
theorem mFi_congr {f g : Nat → Bool} (h : ∀ j, f j = g j) : ∀ m i, mFi f m i = mFi g m i
  | 0, i => rfl
  | m + 1, i => by
    rw [mFi, mFi, h, mFi_congr h m (i + 1)]
def mJ0 (G : mG) (s : mY) (c t lev : Nat) : Nat := mFi (mGd G s c t lev) (24 * G.T) 0
def mCode (j : Nat) : Nat := 100 * (j / 24) + 10 * (j / 6 % 4) + (j % 6 + 1)
def mHk (G : mG) (s : mY) : Nat → Nat → Nat → Nat → Nat
  | 0, c, t, lev => mJ0 G s c t lev
  | k + 1, c, t, lev => mHk G s k (mRt2 G s c t (mJ0 G s c t lev)).2.1 (mRt2 G s c t (mJ0 G s c t lev)).2.2 (lev - 1)
section WAY2
variable {G : mG} {s : mY}
theorem mRt2_mod {c t t' j : Nat} (h : t % G.T = t' % G.T) : (mRt2 G s c t j).1 = (mRt2 G s c t' j).1 ∧ (mRt2 G s c t j).2.1 = (mRt2 G s c t' j).2.1 ∧ (mRt2 G s c t j).2.2 % G.T = (mRt2 G s c t' j).2.2 % G.T := by
  have e : (t + j / 24) % G.T = (t' + j / 24) % G.T := by rw [Nat.add_mod, h, ← Nat.add_mod]
  obtain ⟨h1, h2, h3⟩ := mRoll_mod (K := mK G.g s.y) (W := G.W) (H := G.H) (O := G.O) (j % 6 + 1) c (j / 6 % 4) (t + j / 24) (t' + j / 24) e
  exact ⟨h1, h2, mMod_sub h3 e⟩
theorem mGd_mod {c t t' lev : Nat} (h : t % G.T = t' % G.T) (j : Nat) : mGd G s c t lev j = mGd G s c t' lev j := by
  obtain ⟨h1, h2, -⟩ := mRt2_mod (s := s) (c := c) (j := j) h
  unfold mGd
  rw [h1, h2]
theorem mJ0_mod {c t t' lev : Nat} (h : t % G.T = t' % G.T) : mJ0 G s c t lev = mJ0 G s c t' lev := mFi_congr (mGd_mod h) _ _
theorem mHk_mod : ∀ (k c t t' lev : Nat), t % G.T = t' % G.T → mHk G s k c t lev = mHk G s k c t' lev
  | 0, c, t, t', lev, h => mJ0_mod h
  | k + 1, c, t, t', lev, h => by
    rw [mHk, mHk, mJ0_mod h]
    obtain ⟨-, h2, h3⟩ := mRt2_mod (s := s) (c := c) (j := mJ0 G s c t' lev) h
    rw [h2]
    exact mHk_mod k _ _ _ _ h3
theorem mDi_e {k : Nat} : mDi G s k = mFf (mHa (mK G.g s.y) G.W G.H G.T G.O) (mHb (mK G.g s.y) G.W G.H G.T G.O) 49 k := by
  unfold mDi mFr
  rfl
/-- from two strokes away none goes in -/
theorem mDi_noin {c t j lev : Nat} (hT : 0 < G.T) (h : mDi G s c = lev) (h2 : 2 ≤ lev) : ¬ (mRt2 G s c t j).1 = 1 := by
  intro q
  obtain ⟨m, rfl⟩ : ∃ m, lev = m + 2 := ⟨lev - 2, by omega⟩
  have hv := mDi_vl (G := G) (s := s) (c := c) (by omega)
  rw [mDi_e] at h
  obtain ⟨-, h0⟩ := mFf_at 49 h
  have hA := mFf_A h0
  have e : (t + j / 24) % G.T = ((t + j / 24) % G.T) % G.T := (Nat.mod_mod _ _).symm
  have q2 := (mRoll_mod (K := mK G.g s.y) (W := G.W) (H := G.H) (O := G.O) (j % 6 + 1) c (j / 6 % 4) (t + j / 24) _ e).1
  have q : (mRoll (mK G.g s.y) G.W G.H G.T G.O (j % 6 + 1) c (j / 6 % 4) (t + j / 24)).1 = 1 := q
  rw [q2] at q
  rw [mHa_t.mpr ⟨hv, _, j / 6 % 4, Nat.mod_lt _ hT, Nat.mod_lt _ (by decide), (mHm_roll 6 c _ _).mpr ⟨j % 6 + 1, by omega, by omega, q⟩⟩] at hA
  exact absurd hA (by decide)
theorem mGd_ex {c t lev : Nat} (hT : 0 < G.T) (h7 : G.W ≤ 7 ∧ G.H ≤ 7) (h : mDi G s c = lev) (h1 : 1 ≤ lev) : ∃ j, 0 ≤ j ∧ j < 0 + 24 * G.T ∧ mGd G s c t lev j = true := by
  have hv := mDi_vl (G := G) (s := s) (c := c) (by omega)
  -- a stroke at any wait is a stroke at this tick
  have mv : ∀ j, j < 24 * G.T → ∃ i, i < 24 * G.T ∧ (mRt2 G s c t i).1 = (mRj (mK G.g s.y) G.W G.H G.T G.O c j).1 ∧ (mRt2 G s c t i).2.1 = (mRj (mK G.g s.y) G.W G.H G.T G.O c j).2.1 := by
    intro j hj
    obtain ⟨w, hw, e⟩ := mMod_shift (T := G.T) (t := t) (v := j / 24) hT (by omega)
    refine ⟨24 * w + j % 24, by omega, ?_⟩
    have e2 : (t + w) % G.T = (j / 24) % G.T := by rw [e, Nat.mod_eq_of_lt (by omega)]
    obtain ⟨a1, a2, -⟩ := mRoll_mod (K := mK G.g s.y) (W := G.W) (H := G.H) (O := G.O) (j % 6 + 1) c (j / 6 % 4) (t + w) (j / 24) e2
    unfold mRt2 mRj
    rw [show (24 * w + j % 24) % 6 = j % 6 by omega, show (24 * w + j % 24) / 6 % 4 = j / 6 % 4 by omega, show (24 * w + j % 24) / 24 = w by omega]
    exact ⟨a1, a2⟩
  rw [mDi_e] at h
  match lev, h1, h with
  | 1, _, h =>
    obtain ⟨h2, -⟩ := mFf_at (m := 0) 49 h
    rw [mFf_1] at h2
    have hA : mHa (mK G.g s.y) G.W G.H G.T G.O c = true := by
      by_cases q : mHa (mK G.g s.y) G.W G.H G.T G.O c = true
      · exact q
      · rw [if_neg q] at h2
        omega
    obtain ⟨j, hj, q⟩ := mHm_j.mp (mHa_t.mp hA).2
    obtain ⟨i, hi, a1, -⟩ := mv j hj
    exact ⟨i, Nat.zero_le _, by omega, decide_eq_true (Or.inl ⟨rfl, by rw [a1, q]⟩)⟩
  | m + 2, _, h =>
    obtain ⟨h2, h0⟩ := mFf_at (m := m + 1) 49 h
    obtain ⟨q, hq, hB, hl⟩ := (mFf_s h0).mp h2
    have hA := mFf_A h0
    have hn : ¬ ∃ v d, v < G.T ∧ d < 4 ∧ mHm (mK G.g s.y) G.W G.H G.T G.O 6 c d v = true := by
      intro z
      rw [mHa_t.mpr ⟨hv, z⟩] at hA
      exact absurd hA (by decide)
    obtain ⟨j, hj, q1, q2⟩ := (mLi_j hn).mp (mHb_t.mp hB).2
    obtain ⟨i, hi, a1, a2⟩ := mv j hj
    refine ⟨i, Nat.zero_le _, by omega, decide_eq_true (Or.inr ⟨by omega, by rw [a1, q1], ?_⟩)⟩
    rw [a2, q2, mDi_e]
    have hm : m + 1 ≤ 49 := by
      have := mFf_le (A := mHa (mK G.g s.y) G.W G.H G.T G.O) (B := mHb (mK G.g s.y) G.W G.H G.T G.O) 49 c
      omega
    have := mFf_up hl (49 - (m + 1))
    rw [show m + 1 + (49 - (m + 1)) = 49 by omega] at this
    rw [this]
    rfl
theorem mJ0_spec {c t lev : Nat} (hT : 0 < G.T) (h7 : G.W ≤ 7 ∧ G.H ≤ 7) (h : mDi G s c = lev) (h1 : 1 ≤ lev) : mGd G s c t lev (mJ0 G s c t lev) = true ∧ mJ0 G s c t lev < 24 * G.T ∧ ∀ j, j < mJ0 G s c t lev → mGd G s c t lev j = false := by
  obtain ⟨a1, -, a3, a4⟩ := mFi_spec (f := mGd G s c t lev) (24 * G.T) 0 (mGd_ex hT h7 h h1)
  unfold mJ0
  exact ⟨a1, by omega, fun j hj => a4 j (Nat.zero_le _) hj⟩
/-- the next place is one nearer -/
theorem mJ0_next {c t lev : Nat} (hT : 0 < G.T) (h7 : G.W ≤ 7 ∧ G.H ≤ 7) (h : mDi G s c = lev) (h2 : 2 ≤ lev) : (mRt2 G s c t (mJ0 G s c t lev)).1 = 0 ∧ mDi G s (mRt2 G s c t (mJ0 G s c t lev)).2.1 = lev - 1 := by
  rcases of_decide_eq_true (mJ0_spec (t := t) hT h7 h (by omega)).1 with q | q
  · omega
  · exact q.2
end WAY2
