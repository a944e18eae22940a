/-! what is told makes sense -/
theorem mNb2_t {T : mWd} {lo h : Nat} : mNb2 T lo h = true ↔ T.kd = 2 ∧ lo ≤ T.v ∧ T.v < h := decide_eq_true_iff
theorem mNb2_f {T : mWd} {lo h : Nat} (q : ¬ mNb2 T lo h = false) : T.kd = 2 ∧ lo ≤ T.v ∧ T.v < h := by
  refine mNb2_t.mp ?_
  cases e : mNb2 T lo h with
  | true => rfl
  | false => exact absurd e q
theorem mKc_lt {c q : Nat} (h : mKc c = some q) : q < 5 := by
  unfold mKc at h
  split at h
  · cases h; decide
  · split at h
    · cases h; decide
    · split at h
      · cases h; decide
      · split at h
        · cases h; decide
        · split at h
          · cases h; decide
          · cases h
theorem mKd_lt {T : mWd} {q : Nat} (h : mKd T = some q) : q < 5 := by
  unfold mKd at h
  split at h
  · exact mKc_lt h
  · cases h
theorem mSet_lt {K : Nat → Nat} {a q : Nat} (h : ∀ k, K k < 5) (hq : q < 5) : ∀ k, mSet K a q k < 5 := by
  intro k
  unfold mSet
  split
  · exact hq
  · exact h k
/-- a row's cells: all else stays -/
theorem mRw_wf {tx : mTx} : ∀ (m x : Nat) (D : mDd) (T : mWd), mDwx D x → D.R < 7 → x + m = D.W → (mRw tx m x D T).1 = true → mDwx (mRw tx m x D T).2.1 D.W ∧ (mRw tx m x D T).2.1.1 = D.1 ∧ (mRw tx m x D T).2.1.2.1 = D.2.1 ∧ (mRw tx m x D T).2.1.2.2.1 = D.2.2.1 ∧ (mRw tx m x D T).2.1.2.2.2.1 = D.2.2.2.1 ∧ (mRw tx m x D T).2.1.2.2.2.2.1 = D.2.2.2.2.1 ∧ (mRw tx m x D T).2.1.2.2.2.2.2.1 = D.2.2.2.2.2.1
  | 0, x, D, T, h, hR, hx, _ => by
    have e : x = D.W := by omega
    subst e
    exact ⟨h, rfl, rfl, rfl, rfl, rfl, rfl⟩
  | m + 1, x, D, T, h, hR, hx, ho => by
    rw [mRw] at ho ⊢
    cases hk : mKd (mTok tx T.bh) with
    | none =>
      rw [hk] at ho
      exact absurd (show false = true from ho) (by decide)
    | some q =>
      rw [hk] at ho
      dsimp only at ho ⊢
      by_cases q3 : q = 3 ∧ D.ho = true
      · rw [if_pos q3] at ho
        exact absurd (show false = true from ho) (by decide)
      · rw [if_neg q3] at ho ⊢
        obtain ⟨a1, a2, a3, a4, a5, a6, a7⟩ := h
        refine mRw_wf m (x + 1) (D.W, D.R, D.tu, D.op, D.pl, D.te, (D.ho || decide (q = 3)), mSet D.K (7 * D.R + x) q) _ ⟨a1, a2, a3, a4, a5, mSet_lt a6 (mKd_lt hk), fun k hk0 => ?_⟩ hR (show x + 1 + m = D.W by omega) ho
        have hk0 : ¬ mSet D.K (7 * D.R + x) q k = 0 := hk0
        unfold mSet at hk0
        by_cases e : k = 7 * D.R + x
        · subst e
          right
          refine ⟨?_, ?_, hR⟩
          · show (7 * D.R + x) / 7 = D.R
            omega
          · omega
        · rw [if_neg e] at hk0
          rcases a7 k hk0 with z | z
          · exact Or.inl z
          · exact Or.inr ⟨z.1, by omega, z.2.2⟩
theorem mItem_wf {tx : mTx} {n : Nat} {D : mDd} {T : mWd} (h : mDwx D 0) (ho : (mItem tx n D T).1 = true) (hn : n = 0 → D = (0, 0, 0, 0, 0, none, false, fun _ => 0)) : mDwx (mItem tx n D T).2.1 0 := by
  obtain ⟨a1, a2, a3, a4, a5, a6, a7⟩ := id h
  unfold mItem at ho ⊢
  split at ho
  · next hk =>
    rw [if_pos hk]
    split at ho
    · next hv =>
      rw [if_pos hv]
      unfold mWid at ho ⊢
      split at ho
      · exact absurd (show false = true from ho) (by decide)
      · next h0 =>
        rw [if_neg h0]
        split at ho
        · exact absurd (show false = true from ho) (by decide)
        · next h1 =>
          rw [if_neg h1]
          have q := mNb2_f h1
          have e := hn (by omega)
          subst e
          exact ⟨Nat.le_of_lt_succ q.2.2, Nat.zero_le _, Or.inl ⟨rfl, rfl⟩, Nat.zero_le _, (fun c hc => absurd (show (none : Option Nat) = some c from hc) (by simp)), fun _ => show (0 : Nat) < 5 by decide, fun k hk => absurd rfl hk⟩
    · next hv =>
      rw [if_neg hv]
      split at ho
      · next hv =>
        rw [if_pos hv]
        unfold mRowI at ho ⊢
        split at ho
        · exact absurd (show false = true from ho) (by decide)
        · next h0 =>
          rw [if_neg h0]
          split at ho
          · next h1 =>
            rw [h1] at ho
            exact absurd ho (by decide)
          · next h1 =>
            rw [if_neg h1]
            have hR : D.R < 7 := by omega
            have ht : (mRw tx D.W 0 D T).1 = true := by
              cases e : (mRw tx D.W 0 D T).1 with
              | true => rfl
              | false => exact absurd e h1
            obtain ⟨⟨b1, b2, b3, b4, b5, b6, b7⟩, c1, c2, c3, c4, c5, c6⟩ := mRw_wf (tx := tx) D.W 0 D T h hR (by omega) ht
            have hte : D.te = none := by
              by_cases e : D.te = none
              · exact e
              · exact absurd (Or.inr (Or.inr e)) h0
            refine ⟨b1, ?_, b3, b4, fun c hc => ?_, b6, fun k hk => ?_⟩
            · show (mRw tx D.W 0 D T).2.1.2.1 + 1 ≤ 7
              have c2 : (mRw tx D.W 0 D T).2.1.2.1 = D.R := c2
              omega
            · have hc : (mRw tx D.W 0 D T).2.1.2.2.2.2.2.1 = some c := hc
              rw [c6] at hc
              exact absurd (hte.symm.trans hc) (by simp)
            · left
              have c1 : (mRw tx D.W 0 D T).2.1.1 = D.W := c1
              have c2 : (mRw tx D.W 0 D T).2.1.2.1 = D.R := c2
              show k % 7 < (mRw tx D.W 0 D T).2.1.1 ∧ k / 7 < (mRw tx D.W 0 D T).2.1.2.1 + 1
              rcases b7 k hk with z | z
              · have z1 : k % 7 < (mRw tx D.W 0 D T).2.1.1 := z.1
                have z2 : k / 7 < (mRw tx D.W 0 D T).2.1.2.1 := z.2
                omega
              · have z1 : k / 7 = (mRw tx D.W 0 D T).2.1.2.1 := z.1
                omega
      · next hv =>
        rw [if_neg hv]
        split at ho
        · next hv =>
          rw [if_pos hv]
          unfold mTeI at ho ⊢
          split at ho
          · exact absurd (show false = true from ho) (by decide)
          · next h0 =>
            rw [if_neg h0]
            split at ho
            · exact absurd (show false = true from ho) (by decide)
            · next h1 =>
              rw [if_neg h1]
              split at ho
              · exact absurd (show false = true from ho) (by decide)
              · next h2 =>
                rw [if_neg h2]
                have q1 := mNb2_f h1
                have q2 := mNb2_f (fun z => h2 (Or.inl z))
                refine ⟨a1, a2, a3, a4, fun c hc => ?_, a6, a7⟩
                have hc : some _ = some c := hc
                cases hc
                show _ % 7 < D.W ∧ _ / 7 < D.R
                omega
        · next hv =>
          rw [if_neg hv]
          split at ho
          · next hv =>
            rw [if_pos hv]
            unfold mSaI at ho ⊢
            split at ho
            · exact absurd (show false = true from ho) (by decide)
            · next h0 =>
              rw [if_neg h0]
              split at ho
              · exact absurd (show false = true from ho) (by decide)
              · next h1 =>
                rw [if_neg h1]
                split at ho
                · exact absurd (show false = true from ho) (by decide)
                · next h2 =>
                  rw [if_neg h2]
                  have q1 := mNb2_f h1
                  have q2 := mNb2_f h2
                  exact ⟨a1, a2, Or.inr ⟨q1.2.1, Nat.le_of_lt_succ q1.2.2, q2.2.2⟩, a4, a5, a6, a7⟩
          · next hv =>
            rw [if_neg hv]
            split at ho
            · next hv =>
              rw [if_pos hv]
              unfold mPlI at ho ⊢
              split at ho
              · exact absurd (show false = true from ho) (by decide)
              · next h0 =>
                rw [if_neg h0]
                split at ho
                · exact absurd (show false = true from ho) (by decide)
                · next h1 =>
                  rw [if_neg h1]
                  have q1 := mNb2_f h1
                  exact ⟨a1, a2, a3, Nat.le_of_lt_succ q1.2.2, a5, a6, a7⟩
            · exact absurd (show false = true from ho) (by decide)
  · exact absurd (show false = true from ho) (by decide)
