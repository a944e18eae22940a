/-! Reach.measure, Reach.fewest -/
def mFo (n : Nat) : Int32 := if n = 0 then 1000 else nI n
theorem mFo_0 {n : Nat} (h : n ≤ 49) : mFo n = 1000 ↔ n = 0 := by
  unfold mFo
  by_cases q : n = 0
  · rw [if_pos q]
    exact ⟨fun _ => q, fun _ => rfl⟩
  · rw [if_neg q, show (1000 : Int32) = nI 1000 from rfl, nI_eq (by omega) (by decide)]
    exact ⟨fun z => by omega, fun z => absurd z q⟩
theorem m_and0 {x y : Int64} : x &&& y = 0 ↔ ∀ j, j < 64 → ¬ (mB x j = true ∧ mB y j = true) := by
  constructor
  · rintro h j - ⟨h1, h2⟩
    have : mB (x &&& y) j = true := by rw [mB_and, h1, h2]; rfl
    rw [h, mB_0] at this
    exact absurd this (by decide)
  · intro h
    refine mB_ext fun j hj => ?_
    rw [mB_0, mB_and]
    have := h j hj
    cases h1 : mB x j with
    | false => rfl
    | true => cases h2 : mB y j with
      | false => rfl
      | true => exact absurd ⟨h1, h2⟩ this
/-- the places of the last round; at first the hole's bit -/
def mNe (A : Nat → Bool) (B : Nat → Nat → Bool) (n : Nat) (y : Int64) : Prop := (n = 0 → y = 4611686018427387904) ∧ (0 < n → ∀ j, j < 64 → mB y j = decide (j < 49 ∧ mFf A B n j = n))
section MEASURE
variable {S : mS} {I : mF} {L : mFL} {b : Bool} {A : Nat → Bool} {B : Nat → Nat → Bool}
theorem mNe_hit {n k : Nat} {y z : Int64} (hn : mNe A B n y) (h62 : mB z 62 = A k) (hq : ∀ q, q < 49 → A k = false → mB z q = B k q) (h0 : mFf A B n k = 0) : lg_cmp (z &&& y) 0 = 0 ↔ ¬ mFf A B (n + 1) k = n + 1 := by
  rw [lg_0, m_and0]
  cases n with
  | zero =>
    rw [hn.1 rfl, mFf_1]
    constructor
    · intro h e
      refine h 62 (by decide) ⟨?_, by decide +kernel⟩
      rw [h62]
      cases ha : A k with
      | true => rfl
      | false =>
        rw [ha] at e
        exact absurd e (by decide)
    · rintro h j hj ⟨h1, h2⟩
      rw [mB_home j hj, decide_eq_true_iff] at h2
      subst h2
      rw [← h62, h1] at h
      exact h (if_pos rfl)
  | succ n =>
    have e := hn.2 (Nat.succ_pos n)
    have hA := mFf_A h0
    rw [mFf_s h0]
    constructor
    · rintro h ⟨q, q1, q2, q3⟩
      exact h q (by omega) ⟨by rw [hq q q1 hA]; exact q2, by rw [e q (by omega)]; exact decide_eq_true ⟨q1, q3⟩⟩
    · rintro h j hj ⟨h1, h2⟩
      rw [e j hj, decide_eq_true_iff] at h2
      rw [hq j h2.1 hA] at h1
      exact h ⟨j, h2.1, h1, h2.2⟩
theorem S22 (h62 : ∀ k, k < 49 → mB (L 16 k ||| L 17 k) 62 = A k) (hq : ∀ k q, k < 49 → q < 49 → A k = false → mB (L 16 k ||| L 17 k) q = B k q) :
    ∃ I' : mF, mFn S 22 [.ref 15] (mSH, I, L, mRk b) none (mSH, I', L, mRk b) ∧ mSm [18] I I' ∧ ∀ k, k < 49 → I' 18 k = mFo (mFf A B 49 k) := by
  have inner : ∀ (n : Nat) (y : Int64), n < 49 → mNe A B n y → ∀ (m k : Nat) (f : Int64) (J : mF) (o2 o5 : Option Value), k + m = 49 → mSm [18] I J → (∀ j, j < 49 → J 18 j = mFo (if j < k then mFf A B (n + 1) j else mFf A B n j)) → (∀ j, j < 64 → mB f j = decide (j < k ∧ mFf A B (n + 1) j = n + 1)) → ∀ (Q : Option Value → mW → Prop), (∀ (f : Int64) (J : mF) (o4 o5 o6 : Option Value), mSm [18] I J → (∀ j, j < 49 → J 18 j = mFo (mFf A B (n + 1) j)) → mNe A B (n + 1) f → mWp S 22 29 [some (.ref 15), some (.long f), none, some (.int (nI (n + 2))), o4, o5, o6] [] (mSH, J, L, mRk b) Q) →
      mWp S 22 47 [some (.ref 15), some (.long y), o2, some (.int (nI (n + 1))), some (.long f), o5, some (.int (nI k))] [] (mSH, J, L, mRk b) Q := by
    intro n y hn hy m
    induction m with
    | zero =>
      intro k f J o2 o5 hk hJ h1 h2 Q go
      have hk : k = 49 := by omega
      subst hk
      refine k22_47 (fun _ => k22_112 ?_) (fun q => absurd (by decide) q)
      rw [nI_1]
      refine go f J _ _ _ hJ (fun j hj => ?_) ⟨fun q => absurd q (by omega), fun _ => h2⟩
      have := h1 j hj
      rw [if_pos hj] at this
      exact this
    | succ m ih =>
      intro k f J o2 o5 hk hJ h1 h2 Q go
      have hk9 : k < 49 := by omega
      have ek : (nI k).toNatClampNeg = k := nI_clamp (by omega)
      have hJk : J 18 k = mFo (mFf A B n k) := by
        have := h1 k hk9
        rw [if_neg (Nat.lt_irrefl k)] at this
        exact this
      have next : ∀ (J' : mF) (f' : Int64) (o2 o5 : Option Value), mSm [18] I J' → (∀ j, j < 49 → ¬ j = k → J' 18 j = J 18 j) → J' 18 k = mFo (mFf A B (n + 1) k) → (∀ j, j < 64 → mB f' j = (mB f j || decide (j = k ∧ mFf A B (n + 1) k = n + 1))) → mWp S 22 106 [some (.ref 15), some (.long y), o2, some (.int (nI (n + 1))), some (.long f'), o5, some (.int (nI k))] [] (mSH, J', L, mRk b) Q := by
        intro J' f' o2 o5 hJ' a1 a2 a3
        refine k22_106 ?_
        rw [nI_1]
        refine ih (k + 1) f' J' _ _ (by omega) hJ' (fun j hj => ?_) (fun j hj => ?_) Q go
        · by_cases e : j = k
          · subst e
            rw [if_pos (Nat.lt_succ_self j)]
            exact a2
          · rw [a1 j hj e, h1 j hj]
            congr 1
            by_cases q : j < k
            · rw [if_pos q, if_pos (by omega)]
            · rw [if_neg q, if_neg (by omega)]
        · rw [a3 j hj, h2 j hj, Bool.eq_iff_iff, Bool.or_eq_true, decide_eq_true_iff, decide_eq_true_iff, decide_eq_true_iff]
          constructor
          · rintro (⟨q1, q2⟩ | ⟨rfl, q2⟩)
            · exact ⟨by omega, q2⟩
            · exact ⟨by omega, q2⟩
          · rintro ⟨q1, q2⟩
            rcases (by omega : j < k ∨ j = k) with q | rfl
            · exact Or.inl ⟨q, q2⟩
            · exact Or.inr ⟨rfl, q2⟩
      have stay : ¬ mFf A B (n + 1) k = n + 1 → mFf A B (n + 1) k = mFf A B n k := by
        intro q
        rw [mFf] at q ⊢
        by_cases h0 : mFf A B n k = 0
        · rw [if_pos h0] at q ⊢
          by_cases hw : mWi A B (n + 1) k = true
          · rw [if_pos hw] at q
            exact absurd rfl q
          · rw [if_neg hw, h0]
        · rw [if_neg h0]
      have keep : ∀ o2 o5, ¬ mFf A B (n + 1) k = n + 1 → mWp S 22 106 [some (.ref 15), some (.long y), o2, some (.int (nI (n + 1))), some (.long f), o5, some (.int (nI k))] [] (mSH, J, L, mRk b) Q := by
        intro o2 o5 q
        refine next J f _ _ hJ (fun _ _ _ => rfl) (by rw [stay q]; exact hJk) (fun j hj => ?_)
        rw [decide_eq_false (fun z => q z.2), Bool.or_false]
      refine k22_47 (fun q => ?_) (fun _ => k22_54 (m_okN hk9 (by decide)) (fun q => k22_67 (m_okN hk9 (by decide)) (m_okN hk9 (by decide)) (fun q2 => keep _ _ ?_) (fun q2 => k22_89 (m_okN hk9 (by decide)) ?_)) (fun q => keep _ _ ?_))
      · rw [show (49 : Int32) = nI 49 from rfl, nI_leI (by decide) (by omega)] at q
        omega
      · rw [ek, hJk, mFo_0 (by have := mFf_le (A := A) (B := B) n k; omega)] at q
        rw [ek] at q2
        exact (mNe_hit hy (h62 k hk9) (fun z hz => hq k z hk9 hz) q).mp q2
      · rw [ek] at q q2
        rw [hJk, mFo_0 (by have := mFf_le (A := A) (B := B) n k; omega)] at q
        have q3 : mFf A B (n + 1) k = n + 1 := by
          by_cases z : mFf A B (n + 1) k = n + 1
          · exact z
          · exact absurd ((mNe_hit hy (h62 k hk9) (fun z hz => hq k z hk9 hz) q).mpr z) q2
        rw [ek]
        refine next _ _ _ _ (hJ.up2 (by simp)) (fun j _ hj => m_un hj) ?_ (fun j hj => ?_)
        · rw [m_us, q3, mFo, if_neg (by omega)]
        · rw [mB_or, mB_one (by omega) hj]
          congr 1
          rw [Bool.eq_iff_iff, decide_eq_true_iff, decide_eq_true_iff]
          exact ⟨fun z => ⟨z, q3⟩, fun z => z.1⟩
      · rw [ek, hJk, mFo_0 (by have := mFf_le (A := A) (B := B) n k; omega)] at q
        rw [mFf, if_neg q]
        have := mFf_le (A := A) (B := B) n k
        omega
  have outer : ∀ (m n : Nat) (y : Int64) (J : mF) (o4 o5 o6 : Option Value), n + m = 49 → mSm [18] I J → (∀ k, k < 49 → J 18 k = mFo (mFf A B n k)) → mNe A B n y → mWp S 22 29 [some (.ref 15), some (.long y), none, some (.int (nI (n + 1))), o4, o5, o6] [] (mSH, J, L, mRk b) (fun r2 w2 => ∃ I' : mF, r2 = none ∧ w2 = (mSH, I', L, mRk b) ∧ mSm [18] I I' ∧ ∀ k, k < 49 → I' 18 k = mFo (mFf A B 49 k)) := by
    intro m
    induction m with
    | zero =>
      intro n y J o4 o5 o6 hn hJ h1 hy
      have hn : n = 49 := by omega
      subst hn
      exact k22_29 (fun _ => k22_121 ⟨J, rfl, rfl, hJ, h1⟩) (fun q => absurd (by decide) q)
    | succ m ih =>
      intro n y J o4 o5 o6 hn hJ h1 hy
      refine k22_29 (fun q => ?_) (fun _ => k22_35 (fun q => k22_121 ⟨J, rfl, rfl, hJ, fun k hk => ?_⟩) (fun _ => k22_41 (inner n y (by omega) hy 49 0 0 J _ _ (by omega) hJ (fun j hj => ?_) (fun j hj => ?_) _ ?_)))
      · rw [show (49 : Int32) = nI 49 from rfl, nI_ltI (by decide) (by omega)] at q
        omega
      · rw [lg_0] at q
        cases n with
        | zero =>
          rw [hy.1 rfl] at q
          exact absurd q (by decide)
        | succ n =>
          have no : ∀ k, k < 49 → ¬ mFf A B (n + 1) k = n + 1 := by
            intro k hk e
            have := hy.2 (Nat.succ_pos n) k (by omega)
            rw [q, mB_0, decide_eq_true ⟨hk, e⟩] at this
            exact absurd this (by decide)
          rw [h1 k hk]
          have e1 := (mFf_stop no 1 k hk).2
          have e2 := (mFf_stop no (49 - n) k hk).2
          rw [show n + (49 - n) = 49 by omega] at e2
          rw [e2, e1]
      · rw [if_neg (Nat.not_lt_zero j)]
        exact h1 j hj
      · rw [mB_0, decide_eq_false (fun z => Nat.not_lt_zero j z.1)]
      · intro f J o4 o5 o6 hJ h1 hy
        exact ih (n + 1) f J _ _ _ (by omega) hJ h1 hy
  have first : ∀ (m k : Nat) (J : mF) (o3 o4 o5 o6 : Option Value), k + m = 49 → mSm [18] I J → (∀ j, j < k → J 18 j = 1000) → mWp S 22 2 [some (.ref 15), some (.int (nI k)), none, o3, o4, o5, o6] [] (mSH, J, L, mRk b) (fun r2 w2 => ∃ I' : mF, r2 = none ∧ w2 = (mSH, I', L, mRk b) ∧ mSm [18] I I' ∧ ∀ k, k < 49 → I' 18 k = mFo (mFf A B 49 k)) := by
    intro m
    induction m with
    | zero =>
      intro k J o3 o4 o5 o6 hk hJ h1
      have hk : k = 49 := by omega
      subst hk
      exact k22_2 (fun _ => k22_23 (outer 49 0 _ J _ _ _ (by omega) hJ (fun k hk => by rw [h1 k hk, mFf_z]; rfl) ⟨fun _ => rfl, fun q => absurd q (by omega)⟩)) (fun q => absurd (by decide) q)
    | succ m ih =>
      intro k J o3 o4 o5 o6 hk hJ h1
      refine k22_2 (fun q => ?_) (fun _ => k22_8 (m_okN (by omega) (by decide)) ?_)
      · rw [show (49 : Int32) = nI 49 from rfl, nI_leI (by decide) (by omega)] at q
        omega
      · rw [nI_1, nI_clamp (by omega)]
        refine ih (k + 1) _ _ _ _ _ (by omega) (hJ.up2 (by simp)) (fun j hj => ?_)
        by_cases e : j = k
        · subst e
          exact m_us
        · rw [m_un e]
          exact h1 j (by omega)
  obtain ⟨r, w1, hf, I', rfl, rfl, h1, h2⟩ := ex22 (k22_0 (first 49 0 I none none none none (by omega) mSm.rf (fun j hj => absurd hj (Nat.not_lt_zero j))))
  exact ⟨I', hf, h1, h2⟩
theorem S23 {k : Nat} (hk : k < 49) : mFn S 23 [.ref 15, .int (nI k)] (mSH, I, L, mRk b) (some (.int (I 18 k))) (mSH, I, L, mRk b) := by
  refine e23 (k23_0 (fun h => absurd h (nI_pos (by omega))) (fun _ => k23_4 (fun _ => k23_16 (m_okN hk (by decide)) (k23_22 ⟨?_, rfl⟩)) (fun h => ?_)))
  · rw [nI_clamp (by omega)]
  · rw [show (49 : Int32) = nI 49 from rfl, nI_ltI (by omega) (by decide)] at h
    omega
theorem S23n {x : Int32} (hx : x < 0) : mFn S 23 [.ref 15, .int x] (mSH, I, L, mRk b) (some (.int 1000)) (mSH, I, L, mRk b) :=
  e23 (k23_0 (fun _ => k23_10 (k23_22 ⟨rfl, rfl⟩)) (fun h => absurd hx h))
end MEASURE
