/-! Reach.course -/
section COURSE
variable {S : mS} {L : mFL} {b c : Bool}
def mU (u : Bool) : Int32 := if u then 1 else 0
theorem S21_loop {W H T O : Nat} {g : Nat → Nat} (h7 : W ≤ 7 ∧ H ≤ 7) (hg1 : ∀ k, k < 49 → ¬ g k = 1) {yb : Int64} {I0 : mF} (hL0 : mLw I0 c W H T O g) : ∀ (m k d t : Nat) (u : Bool) (y : Int64) (I : mF) (o3 o4 o5 o6 o8 o10 : Option Value), mSm [19] I0 I → mBl I true k t d (mU u) → mOn W H k → d < 4 → t + m < 2 ^ 30 → m ≤ 6 →
    mWp S 21 19 [some (.ref 15), some (.ref (mLa c)), some (.long yb), o3, o4, o5, o6, some (.long y), o8, some (.int (nI (7 - m))), o10] [] (mSH, I, L, mRk b) (fun r2 w2 => ∃ I' : mF, r2 = some (.long (mCo (mK g yb) W H T O m k d t y)) ∧ w2 = (mSH, I', L, mRk b) ∧ mSm [19] I0 I' ∧ I' 19 3 = mU (u || mMm (mK g yb) W H T O m k d t)) := by
  intro m
  induction m with
  | zero =>
    intro k d t u y I o3 o4 o5 o6 o8 o10 hs hb ho hd ht hm
    refine k21_19 (fun _ => k21_76 ⟨I, rfl, rfl, hs, ?_⟩) (fun q => absurd (by decide) q)
    rw [show mMm (mK g yb) W H T O 0 k d t = false from rfl, Bool.or_false]
    exact hb.2.2.2
  | succ m ih =>
    intro k d t u y I o3 o4 o5 o6 o8 o10 hs hb ho hd ht hm
    have hL := hL0.roll (d := true) hs
    obtain ⟨x, I', f26, h1, h2⟩ := S26 (S := S) (I := I) (L := L) (b := b) (c := c) (d := true) hL hb (mOn_lt h7 ho) ho hd (by omega) hg1 (y := yb)
    have hs' : mSm [19] I0 I' := hs.tr h1
    have e1 : nI (7 - (m + 1)) + 1 = nI (7 - m) := by
      rw [nI_1]
      congr 1
      omega
    have em : (if mMt (mK g yb) W H k d then (1 : Int32) else mU u) = mU (u || mMt (mK g yb) W H k d) := by
      cases mMt (mK g yb) W H k d <;> cases u <;> rfl
    unfold mAd at h2
    rw [em] at h2
    refine k21_19 (fun q => ?_) (fun _ => k21_26 (c21_32 f26 ?_))
    · rw [show (6 : Int32) = nI 6 from rfl, nI_ltI (by decide) (by omega)] at q
      omega
    rw [mCo, mMm]
    cases hst : mSt (mK g yb) W H T O k d (t + 1) with
    | none =>
      rw [hst] at h2
      obtain ⟨rfl, hb'⟩ := h2
      refine k21_35 (fun q => absurd q (by decide)) (fun _ => k21_46 (fun q => absurd q (by decide)) (fun _ => k21_56 ?_))
      rw [show I' 19 0 = nI k from hb'.1, e1]
      have := ih k ((d + 2) % 4) (t + 1) (u || mMt (mK g yb) W H k d) (y ||| mBit k) I' o3 o4 o5 o6 none (some (.int (-1))) hs' hb' ho (Nat.mod_lt _ (by decide)) (by omega) (by omega)
      rw [Bool.or_assoc] at this
      exact this
    | some p =>
      rw [hst] at h2
      obtain ⟨rfl, hb'⟩ := h2
      have hpo := mSt_on h7 ho hst
      have hp5 : mK g yb p < 5 := mK5 (hL0.2.2.2.2.2.2.2.2 p (mOn_lt h7 hpo)).2
      dsimp only
      by_cases q2 : mK g yb p = 2
      · rw [if_pos q2, if_pos q2, q2]
        refine k21_35 (fun _ => k21_43 ⟨I', rfl, rfl, hs', ?_⟩) (fun q => absurd rfl q)
        rw [Bool.or_false]
        exact hb'.2.2.2
      · rw [if_neg q2, if_neg q2]
        refine k21_35 (fun q => ?_) (fun _ => ?_)
        · rw [show (2 : Int32) = nI 2 from rfl, nI_eq (by omega) (by decide)] at q
          exact absurd q q2
        by_cases q3 : mK g yb p = 3
        · rw [if_pos q3, if_pos q3]
          refine k21_46 (fun _ => k21_52 ⟨I', rfl, rfl, hs', ?_⟩) (fun q => ?_)
          · rw [Bool.or_false]
            exact hb'.2.2.2
          · rw [q3] at q
            exact absurd rfl q
        · rw [if_neg q3, if_neg q3]
          refine k21_46 (fun q => ?_) (fun _ => k21_56 ?_)
          · rw [show (3 : Int32) = nI 3 from rfl, nI_eq (by omega) (by decide)] at q
            exact absurd q q3
          · rw [show I' 19 0 = nI p from hb'.1, e1]
            have := ih p d (t + 1) (u || mMt (mK g yb) W H k d) (y ||| mBit p) I' o3 o4 o5 o6 none (some (.int (nI (mK g yb p)))) hs' hb' hpo hd (by omega) (by omega)
            rw [Bool.or_assoc] at this
            exact this
theorem S21 {W H T O : Nat} {g : Nat → Nat} {I : mF} (hL : mLw I c W H T O g) (hg1 : ∀ k, k < 49 → ¬ g k = 1) {yb : Int64} {k d t : Nat} (ho : mOn W H k) (hd : d < 4) (ht : t + 6 < 2 ^ 30) :
    ∃ I' : mF, mFn S 21 [.ref 15, .ref (mLa c), .long yb, .int (nI k), .int (nI t), .int (nI d)] (mSH, I, L, mRk b) (some (.long (mCo (mK g yb) W H T O 6 k d t 0))) (mSH, I', L, mRk b) ∧ mSm [19] I I' ∧ I' 19 3 = mU (mMm (mK g yb) W H T O 6 k d t) := by
  have h7 := hL.2.2.2.2.1
  have key : mWp S 21 0 [some (.ref 15), some (.ref (mLa c)), some (.long yb), none, some (.int (nI k)), some (.int (nI t)), some (.int (nI d)), none, none, none, none] [] (mSH, I, L, mRk b) (fun r2 w2 => ∃ I' : mF, r2 = some (.long (mCo (mK g yb) W H T O 6 k d t 0)) ∧ w2 = (mSH, I', L, mRk b) ∧ mSm [19] I I' ∧ I' 19 3 = mU (false || mMm (mK g yb) W H T O 6 k d t)) := by
    refine k21_0 (c21_10 (S25 (d := true) _ _ _) (k21_13 ?_))
    exact S21_loop h7 hg1 hL 6 k d t false 0 _ _ _ _ _ _ _ ((((mSm.up (by decide)).up2 (by decide)).up2 (by decide)).up2 (by decide)) ⟨by rw [m_un (by decide), m_un (by decide), m_un (by decide), m_us], by rw [m_un (by decide), m_un (by decide), m_us], by rw [m_un (by decide), m_us], m_us⟩ ho hd ht (Nat.le_refl 6)
  obtain ⟨r, w1, hf, I', rfl, rfl, h1, h2⟩ := ex21 key
  exact ⟨I', hf, h1, h2⟩
end COURSE
