/-! begun anew: the class -/
def mOz (o : Option Nat) : Int32 := match o with
  | none => -9
  | some _ => 0
section BEGIN
variable {S : mS} {b c : Bool}
theorem m_nar0 : vp_nar .boolean 0 = (0 : Int32) := by decide
theorem S11 {I : mF} {L : mFL} {o : Option Nat} (h5 : I (mLa c) 5 = mOe o) (ho : ∀ k, o = some k → k < 49) :
    ∃ I' : mF, mFn S 11 [.ref 8, .ref (mLa c)] (mSH, I, L, mRk b) none (mSH, I', m_up L 8 4 (L (mLa c) 7), mRk b) ∧ mSm [8, 9] I I' ∧ I' 8 0 = 0 ∧ I' 8 1 = mOe o ∧ I' 8 2 = 0 ∧ I' 8 3 = mOz o ∧ ∀ q, q < 4 → I' 9 q = 0 := by
  have nn : mLa c ≠ 8 := by cases c <;> decide
  have e1 : m_up (m_up I 8 0 0) 8 2 0 (mLa c) 5 = mOe o := by rw [m_ux nn, m_ux nn, h5]
  have e2 : m_up (m_up (m_up I 8 0 0) 8 2 0) 8 1 (mOe o) (mLa c) 5 = mOe o := by rw [m_ux nn, e1]
  have loop : ∀ (m k : Nat) (J : mF) (o1 : Option Value) (v : Int32), k + m = 4 → mSm [8, 9] I J → J 8 0 = 0 → J 8 1 = mOe o → J 8 2 = 0 → J 8 3 = v → (∀ j, j < k → J 9 j = 0) → mWp S 11 45 [some (.ref 8), o1, some (.int (nI k))] [] (mSH, J, m_up L 8 4 (L (mLa c) 7), mRk b) (fun r2 w2 => ∃ I' : mF, r2 = none ∧ w2 = (mSH, I', m_up L 8 4 (L (mLa c) 7), mRk b) ∧ mSm [8, 9] I I' ∧ I' 8 0 = 0 ∧ I' 8 1 = mOe o ∧ I' 8 2 = 0 ∧ I' 8 3 = v ∧ ∀ q, q < 4 → I' 9 q = 0) := by
    intro m
    induction m with
    | zero =>
      intro k J o1 v hk hJ a0 a1 a2 a3 a4
      have hk : k = 4 := by omega
      subst hk
      exact k11_45 (fun _ => k11_63 ⟨J, rfl, rfl, hJ, a0, a1, a2, a3, a4⟩) (fun q => absurd (by decide) q)
    | succ m ih =>
      intro k J o1 v hk hJ a0 a1 a2 a3 a4
      refine k11_45 (fun q => ?_) (fun _ => k11_50 (m_okN (by omega) (by decide)) ?_)
      · rw [show (4 : Int32) = nI 4 from rfl, nI_leI (by decide) (by omega)] at q
        omega
      · rw [nI_1, nI_clamp (by omega)]
        refine ih (k + 1) _ o1 v (by omega) (hJ.up2 (by simp)) (by rw [m_ux (by decide)]; exact a0) (by rw [m_ux (by decide)]; exact a1) (by rw [m_ux (by decide)]; exact a2) (by rw [m_ux (by decide)]; exact a3) (fun j hj => ?_)
        by_cases e : j = k
        · subst e
          exact m_us
        · rw [m_un e]
          exact a4 j (by omega)
  have fin : ∀ (v : Int32) (o1 o2 : Option Value), mWp S 11 40 [some (.ref 8), o1, o2] [.int v, .ref 8] (mSH, m_up (m_up (m_up I 8 0 0) 8 2 0) 8 1 (mOe o), m_up L 8 4 (L (mLa c) 7), mRk b) (fun r2 w2 => ∃ I' : mF, r2 = none ∧ w2 = (mSH, I', m_up L 8 4 (L (mLa c) 7), mRk b) ∧ mSm [8, 9] I I' ∧ I' 8 0 = 0 ∧ I' 8 1 = mOe o ∧ I' 8 2 = 0 ∧ I' 8 3 = v ∧ ∀ q, q < 4 → I' 9 q = 0) := by
    intro v o1 o2
    refine k11_40 (loop 4 0 _ o1 v (by omega) ((((mSm.up (by simp)).up2 (by simp)).up2 (by simp)).up2 (by simp)) ?_ ?_ ?_ m_us (fun j hj => absurd hj (Nat.not_lt_zero j)))
    · rw [m_un (by decide), m_un (by decide), m_un (by decide), m_us]
    · rw [m_un (by decide), m_us]
    · rw [m_un (by decide), m_un (by decide), m_us]
  have h31 : ∀ k, o = some k → k < 2 ^ 31 := fun k hk => by have := ho k hk; omega
  have key : mWp S 11 0 [some (.ref 8), some (.ref (mLa c)), none] [] (mSH, I, L, mRk b) (fun r2 w2 => ∃ I' : mF, r2 = none ∧ w2 = (mSH, I', m_up L 8 4 (L (mLa c) 7), mRk b) ∧ mSm [8, 9] I I' ∧ I' 8 0 = 0 ∧ I' 8 1 = mOe o ∧ I' 8 2 = 0 ∧ I' 8 3 = mOz o ∧ ∀ q, q < 4 → I' 9 q = 0) := by
    refine k11_0 (fun q => ?_) (fun q => ?_)
    · rw [e1, e2, mOe_ge h31] at q
      rw [e1]
      cases o with
      | none => exact absurd rfl q
      | some k => exact k11_39 (fin 0 _ _)
    · rw [e1, e2, mOe_ge h31] at q
      rw [e1]
      cases o with
      | none => exact k11_34 (fin (-9) _ _)
      | some k => exact absurd (by simp) q
  obtain ⟨r, w1, hf, I', rfl, rfl, h⟩ := ex11 key
  exact ⟨I', hf, h⟩
theorem S45 {I : mF} {L : mFL} {o : Option Nat} (h5 : I (mLa b) 5 = mOe o) (ho : ∀ k, o = some k → k < 49) :
    ∃ I' : mF, mFn S 45 [.ref 1] (mSH, I, L, mRk b) none (mSH, I', m_up L 8 4 (L (mLa b) 7), mRk b) ∧ (∀ a k, a ≠ 8 → a ≠ 9 → a ≠ 12 → ¬ (a = 1 ∧ (k = 10 ∨ k = 6)) → I' a k = I a k) ∧ I' 8 0 = 0 ∧ I' 8 1 = mOe o ∧ I' 8 2 = 0 ∧ I' 8 3 = mOz o ∧ (∀ q, q < 4 → I' 9 q = 0) ∧ I' 1 10 = 0 ∧ I' 1 6 = 0 ∧ I' 12 0 = 0 ∧ I' 12 1 = 0 := by
  obtain ⟨I1, f, s1, a0, a1, a2, a3, a4⟩ := S11 (S := S) (L := L) (b := b) h5 ho
  have e0 : (nI 0).toNatClampNeg = 0 := rfl
  have e1 : (nI 1).toNatClampNeg = 1 := rfl
  refine ⟨m_up (m_up (m_up (m_up I1 1 10 0) 1 6 0) 12 0 0) 12 1 0, e45 (k45_0 (c45_8 f (k45_11 (k45_23 (fun q => absurd q (by decide)) (fun _ => k45_28 (by decide) (k45_23 (fun q => absurd q (by decide)) (fun _ => k45_28 (by decide) (k45_23 (fun _ => k45_41 ⟨rfl, ?_⟩) (fun q => absurd (by decide) q))))))))), ?_, ?_, ?_, ?_, ?_, ?_, ?_, ?_, ?_, m_us⟩
  · rw [m_nar0]
    rfl
  · intro a k h1 h2 h3 h4
    have h6 : ∀ (F : mF) (j : Nat) (v : Int32), j = 10 ∨ j = 6 → m_up F 1 j v a k = F a k := by
      intro F j v hj
      by_cases e : a = 1
      · subst e
        exact m_un (by omega)
      · exact m_ux e
    rw [m_ux h3, m_ux h3, h6 _ _ _ (Or.inr rfl), h6 _ _ _ (Or.inl rfl), s1 a (by simp; exact ⟨h1, h2⟩)]
  · rw [m_ux (by decide), m_ux (by decide), m_ux (by decide), m_ux (by decide)]; exact a0
  · rw [m_ux (by decide), m_ux (by decide), m_ux (by decide), m_ux (by decide)]; exact a1
  · rw [m_ux (by decide), m_ux (by decide), m_ux (by decide), m_ux (by decide)]; exact a2
  · rw [m_ux (by decide), m_ux (by decide), m_ux (by decide), m_ux (by decide)]; exact a3
  · intro q hq
    rw [m_ux (by decide), m_ux (by decide), m_ux (by decide), m_ux (by decide)]; exact a4 q hq
  · rw [m_ux (by decide), m_ux (by decide), m_un (by decide), m_us]
  · rw [m_ux (by decide), m_ux (by decide), m_us]
  · rw [m_un (by decide), m_us]
/-- told and draft change places -/
theorem mRk_swap (b : Bool) : m_up (m_up (mRk b) 1 1 (some (mLa !b))) 1 2 (some (mLa b)) = mRk (!b) := by
  funext a k
  by_cases ha : a = 1
  · subst ha
    by_cases h2 : k = 2
    · subst h2
      rw [m_us]
      cases b <;> rfl
    · rw [m_un h2]
      by_cases h1 : k = 1
      · subst h1
        rw [m_us]
        cases b <;> rfl
      · rw [m_un h1]
        match k with
        | 0 => cases b <;> rfl
        | 1 => exact absurd rfl h1
        | 2 => exact absurd rfl h2
        | k + 3 => cases b <;> rfl
  · rw [m_ux ha, m_ux ha]
    match a with
    | 0 => cases b <;> rfl
    | 1 => exact absurd rfl ha
    | a + 2 => cases b <;> rfl
theorem k44_18 {I : mF} {L : mFL} {Q : Option Value → mW → Prop} {x1 : Int32} {o2 : Option Value} (h : ∀ o2, mWp S 44 45 [some (.ref 1), some (.int x1), o2] [.ref 1] (mSH, m_up I 2 1 0, L, mRk (!b)) Q) : mWp S 44 18 [some (.ref 1), some (.int x1), o2] [] (mSH, I, L, mRk b) Q := by
  have h := h (some (.ref (mLa b)))
  rw [← mRk_swap b] at h
  cases b with
  | false => exact mWp_blk [(18, .aload_n 0), (19, .getfield 19), (22, .astore_n 2), (23, .aload_n 0), (24, .aload_n 0), (25, .getfield 23), (28, .putfield 19), (31, .aload_n 0), (32, .aload_n 2), (33, .putfield 23), (36, .aload_n 0), (37, .getfield 12), (40, .iconst 0), (41, .putfield 70), (44, .aload_n 0)] (by decide +kernel) h
  | true => exact mWp_blk [(18, .aload_n 0), (19, .getfield 19), (22, .astore_n 2), (23, .aload_n 0), (24, .aload_n 0), (25, .getfield 23), (28, .putfield 19), (31, .aload_n 0), (32, .aload_n 2), (33, .putfield 23), (36, .aload_n 0), (37, .getfield 12), (40, .iconst 0), (41, .putfield 70), (44, .aload_n 0)] (by decide +kernel) h
theorem c44_45 {I : mF} {L : mFL} {Q : Option Value → mW → Prop} {ls : mLs} {r : Option Value} {w1 : mW} (hf : mFn S 45 [.ref 1] (mSH, I, L, mRk b) r w1) (h : mWp S 44 48 ls (r.toList ++ []) w1 Q) : mWp S 44 45 ls [.ref 1] (mSH, I, L, mRk b) Q := mWp_call (i := .invokevirtual 78) (by decide +kernel) ⟨rfl, rfl⟩ hf h
theorem k44_48 {I : mF} {L : mFL} {Q : Option Value → mW → Prop} {x1 : Int32} {o0 o2 : Option Value} (h : Q (some (.int x1)) (mSH, I, L, mRk b)) : mWp S 44 48 [o0, some (.int x1), o2] [] (mSH, I, L, mRk b) Q := mWp_blk [(48, .iload_n 1), (49, .ireturn)] (by decide +kernel) h
end BEGIN
