/-! boards: what may be set -/
def mMay (G : mG) (s : mY) (c : Nat) : Bool := decide (mOn G.W G.H c ∧ mK G.g s.y c = 0 ∧ ¬ G.te = some c ∧ ¬ s.ba = some c)
theorem mOe_eq {o : Option Nat} {c : Nat} (ho : ∀ k, o = some k → k < 49) (hc : c < 49) : nI c = mOe o ↔ o = some c := by
  cases o with
  | none => exact ⟨fun q => absurd q (nI_neg9 (by omega)), fun q => absurd q.symm (Option.some_ne_none c)⟩
  | some k =>
    have hk := ho k rfl
    show nI c = nI k ↔ _
    rw [nI_eq (by omega) (by omega)]
    exact ⟨fun q => by rw [q], fun q => (Option.some.inj q).symm⟩
section MAY
variable {S : mS} {I : mF} {L : mFL} {b : Bool}
theorem S57a {s : mY} (hp : mXY s 8 I L) {c : Nat} (hc : c < 49) : mFn S 57 [.ref 1, .int (nI c), .int 0] (mSH, I, L, mRk b) (some (.int (if mB s.y c then 1 else 0))) (mSH, I, L, mRk b) := by
  refine e57 (k57_0 (fun _ => k57_4 (c57_9 (S13 hc) (k57_12 ?_ ⟨?_, rfl⟩))) (fun q => absurd rfl q))
  · rw [hp.2.2.2.2.2]
    cases mB s.y c <;> decide
  · rw [hp.2.2.2.2.2]
theorem S57b {G : mG} {s : mY} (hl : mXL G b I) (hp : mXY s 8 I L) (hg : mGw G) (hs : mYw G s) {c : Nat} (hc : c < 49) : mFn S 57 [.ref 1, .int (nI c), .int 1] (mSH, I, L, mRk b) (some (.int (if mMay G s c then 1 else 0))) (mSH, I, L, mRk b) := by
  have hte : ∀ k, G.te = some k → k < 49 := fun k hk => mOn_lt hg.1 (hg.2.2.2.2.2.1 k hk)
  have hba : ∀ k, s.ba = some k → k < 49 := fun k hk => mOn_lt hg.1 (hs.2.1 k hk)
  have hK : mK G.g s.y c < 5 := mK5 (hg.2.2.2.2.2.2 c hc).2
  obtain ⟨r, f3, t1, t0⟩ := S3 (S := S) (L := L) (b := b) hl.1 hl.2.1 hg.1 (k := c) (by omega)
  have no : ¬ (mOn G.W G.H c ∧ mK G.g s.y c = 0 ∧ ¬ G.te = some c ∧ ¬ s.ba = some c) → mWp S 57 58 [some (.ref 1), some (.int (nI c)), some (.int 1)] [] (mSH, I, L, mRk b) (fun r2 w2 => r2 = some (.int (if mMay G s c then 1 else 0)) ∧ w2 = (mSH, I, L, mRk b)) := by
    intro hn
    refine k57_58 (k57_59 (by decide) ⟨?_, rfl⟩)
    unfold mMay
    rw [decide_eq_false hn]
    rfl
  refine e57 (k57_0 (fun q => absurd q (by decide)) (fun _ => k57_13 (c57_18 f3 (k57_21 (fun q => no ?_) (fun q => k57_24 (c57_26 (S47 hl hp hc) (k57_29 (fun q2 => k57_32 (fun q3 => no ?_) (fun q3 => k57_43 (fun q4 => no ?_) (fun q4 => k57_54 (k57_59 (by decide) ⟨?_, rfl⟩)))) (fun q2 => no ?_))))))))
  · intro h
    rw [t1 h.1] at q
    exact absurd q (by decide)
  · rw [hl.2.2.2.2.2.1, mOe_eq hte hc] at q3
    exact fun h => h.2.2.1 q3
  · rw [hp.2.1, mOe_eq hba hc] at q4
    exact fun h => h.2.2.2 q4
  · rw [hl.2.2.2.2.2.1, mOe_eq hte hc] at q3
    rw [hp.2.1, mOe_eq hba hc] at q4
    rw [show (0 : Int32) = nI 0 from rfl, nI_eq (by omega) (by decide)] at q2
    have ho : mOn G.W G.H c := by
      by_cases h : mOn G.W G.H c
      · exact h
      · exact absurd (t0 h) q
    unfold mMay
    rw [decide_eq_true ⟨ho, q2, q3, q4⟩]
    rfl
  · rw [show (0 : Int32) = nI 0 from rfl, nI_eq (by omega) (by decide)] at q2
    exact fun h => q2 h.2.1
theorem S116 {G : mG} {s : mY} (hl : mML G I) (hp : mMY G s 45 0 I) (hg : mGw G) (hs : mYw G s) {c : Nat} (ho : mOn G.W G.H c) : mFn S 116 [.ref 44, .int (nI c)] (mSH, I, L, mRk b) (some (.int (if mMay G s c then 1 else 0))) (mSH, I, L, mRk b) := by
  have hc := mOn_lt hg.1 ho
  have hte : ∀ k, G.te = some k → k < 49 := fun k hk => mOn_lt hg.1 (hg.2.2.2.2.2.1 k hk)
  have hba : ∀ k, s.ba = some k → k < 49 := fun k hk => mOn_lt hg.1 (hs.2.1 k hk)
  have hK : mK G.g s.y c < 5 := mK5 (hg.2.2.2.2.2.2 c hc).2
  have e8 : (8 + nI c : Int32) = nI (8 + c) := nI_add 8 c
  have eK : I 45 ((8 + nI c : Int32).toNatClampNeg) = nI (mK G.g s.y c) := by rw [e8, nI_clamp (by omega), hp.at ho]
  have z2 : I 45 ((2 : Int32).toNatClampNeg) = mOe s.ba := hp.2.2.1
  have no : ∀ (x : Value), ¬ (mOn G.W G.H c ∧ mK G.g s.y c = 0 ∧ ¬ G.te = some c ∧ ¬ s.ba = some c) → mWp S 116 34 [some (.ref 44), some x] [] (mSH, I, L, mRk b) (fun r2 w2 => r2 = some (.int (if mMay G s c then 1 else 0)) ∧ w2 = (mSH, I, L, mRk b)) := by
    intro x hn
    refine k116_34 (k116_35 (by decide) ⟨?_, rfl⟩)
    unfold mMay
    rw [decide_eq_false hn]
    rfl
  refine e116 (k116_0 (by rw [e8]; exact m_okN (by omega) (by decide)) (fun q => k116_12 (fun q3 => no _ ?_) (fun q3 => k116_20 (fun q4 => no _ ?_) (fun q4 => k116_30 (k116_35 (by decide) ⟨?_, rfl⟩)))) (fun q => no _ ?_))
  · rw [hl.2.2.2.2.2, mOe_eq hte hc] at q3
    exact fun h => h.2.2.1 q3
  · rw [z2, mOe_eq hba hc] at q4
    exact fun h => h.2.2.2 q4
  · rw [eK, show (0 : Int32) = nI 0 from rfl, nI_eq (by omega) (by decide)] at q
    rw [hl.2.2.2.2.2, mOe_eq hte hc] at q3
    rw [z2, mOe_eq hba hc] at q4
    unfold mMay
    rw [decide_eq_true ⟨ho, q, q3, q4⟩]
    rfl
  · rw [eK, show (0 : Int32) = nI 0 from rfl, nI_eq (by omega) (by decide)] at q
    exact fun h => q h.2.1
end MAY
