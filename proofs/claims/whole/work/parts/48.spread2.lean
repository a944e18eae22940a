/-! Reach.spread -/
def mVl (K : Nat → Nat) (W H k : Nat) : Prop := mOn W H k ∧ ¬ K k = 1 ∧ ¬ K k = 2
section SPREAD
variable {S : mS} {L : mFL} {b c : Bool}
theorem S20 {W H T O : Nat} {g : Nat → Nat} {I : mF} (hL : mLw I c W H T O g) (hg1 : ∀ k, k < 49 → ¬ g k = 1) {yb : Int64} {k d : Nat} (hk : k < 49) (hd : d < 4) :
    ∃ (r : Int64) (I' : mF), mFn S 20 [.ref 15, .ref (mLa c), .long yb, .int (nI k), .int (nI d)] (mSH, I, L, mRk b) (some (.long r)) (mSH, I', L, mRk b) ∧ mSm [19] I I' ∧ (mVl (mK g yb) W H k → mSa (mK g yb) W H T O k d T r) ∧ (¬ mVl (mK g yb) W H k → r = 0) := by
  have hLL := hL
  obtain ⟨hW, hH, hT, hO, h7, hT0, hT6, hOT, hgr⟩ := hL
  obtain ⟨x, f3, t1, t0⟩ := S3 (S := S) (L := L) (b := b) hW hH h7 (k := k) (by omega)
  have hKk : (mB yb k = true ∨ g k = 2) ↔ ¬ (¬ mK g yb k = 1 ∧ ¬ mK g yb k = 2) := by
    unfold mK
    cases mB yb k with
    | true => exact ⟨fun _ h => h.1 rfl, fun _ => Or.inl rfl⟩
    | false =>
      constructor
      · rintro (h | h)
        · exact absurd h (by decide)
        · exact fun z => z.2 h
      · intro h
        refine Or.inr ?_
        by_cases q : g k = 2
        · exact q
        · exact absurd ⟨hg1 k hk, q⟩ h
  have bad : ∀ (o0 o1 o2 o3 o4 o5 o6 o7 o8 o9 : Option Value), ¬ mVl (mK g yb) W H k → mWp S 20 42 [o0, o1, o2, o3, o4, o5, o6, o7, o8, o9] [] (mSH, I, L, mRk b) (fun r2 w2 => ∃ (r : Int64) (I' : mF), r2 = some (.long r) ∧ w2 = (mSH, I', L, mRk b) ∧ mSm [19] I I' ∧ (mVl (mK g yb) W H k → mSa (mK g yb) W H T O k d T r) ∧ (¬ mVl (mK g yb) W H k → r = 0)) :=
    fun _ _ _ _ _ _ _ _ _ _ hn => k20_42 ⟨0, I, rfl, rfl, mSm.rf, fun h => absurd h hn, fun _ => rfl⟩
  -- the waits
  have loop : mVl (mK g yb) W H k → ∀ (m w : Nat) (y : Int64) (J : mF) (o3 o6 o8 : Option Value), w + m = T → mSm [19] I J → mSa (mK g yb) W H T O k d w y → mWp S 20 50 [some (.ref 15), some (.ref (mLa c)), some (.long yb), o3, some (.int (nI k)), some (.int (nI d)), o6, some (.long y), o8, some (.int (nI w))] [] (mSH, J, L, mRk b) (fun r2 w2 => ∃ (r : Int64) (I' : mF), r2 = some (.long r) ∧ w2 = (mSH, I', L, mRk b) ∧ mSm [19] I I' ∧ (mVl (mK g yb) W H k → mSa (mK g yb) W H T O k d T r) ∧ (¬ mVl (mK g yb) W H k → r = 0)) := by
    intro hly m
    induction m with
    | zero =>
      intro w y J o3 o6 o8 hwm hJ hS
      have hwm : w = T := by omega
      subst hwm
      have hJL := hLL.roll (d := true) hJ
      refine k20_50 (fun _ => k20_95 ⟨y, J, rfl, rfl, hJ, fun _ => hS, fun h => absurd hly h⟩) (fun q => ?_)
      rw [hJL.2.2.1, nI_leI (by omega) (by omega)] at q
      omega
    | succ m ih =>
      intro w y J o3 o6 o8 hwm hJ hS
      have hJL := hLL.roll (d := true) hJ
      obtain ⟨I', f21, s1, e3⟩ := S21 (S := S) (L := L) (b := b) hJL hg1 (yb := yb) (k := k) (d := d) (t := w) hly.1 hd (by omega)
      have hS' := mSa_s h7 hly.1 hS
      have hJ' := hJ.tr s1
      refine k20_50 (fun q => ?_) (fun _ => k20_59 (c20_70 f21 ?_))
      · rw [hJL.2.2.1, nI_leI (by omega) (by omega)] at q
        omega
      cases hm : mMm (mK g yb) W H T O 6 k d w with
      | true =>
        rw [hm] at e3
        refine k20_73 (fun q => ?_) (fun _ => k20_89 ?_)
        · rw [e3] at q
          exact absurd (show (1 : Int32) = 0 from q) (by decide)
        · rw [nI_1]
          exact ih (w + 1) _ I' _ _ _ (by omega) hJ' hS'
      | false =>
        rw [hm] at e3
        refine k20_73 (fun _ => k20_86 (k20_95 ⟨_, I', rfl, rfl, hJ', fun _ => mSa_all (by omega) hS' hm, fun h => absurd hly h⟩)) (fun q => ?_)
        rw [e3] at q
        exact absurd rfl q
  have key : mWp S 20 0 [some (.ref 15), some (.ref (mLa c)), some (.long yb), none, some (.int (nI k)), some (.int (nI d)), none, none, none, none] [] (mSH, I, L, mRk b) (fun r2 w2 => ∃ (r : Int64) (I' : mF), r2 = some (.long r) ∧ w2 = (mSH, I', L, mRk b) ∧ mSm [19] I I' ∧ (mVl (mK g yb) W H k → mSa (mK g yb) W H T O k d T r) ∧ (¬ mVl (mK g yb) W H k → r = 0)) := by
    have shut : ¬ mVl (mK g yb) W H k → mWp S 20 20 [some (.ref 15), some (.ref (mLa c)), some (.long yb), none, some (.int (nI k)), some (.int (nI d)), none, none, none, none] [] (mSH, I, L, mRk b) (fun r2 w2 => ∃ (r : Int64) (I' : mF), r2 = some (.long r) ∧ w2 = (mSH, I', L, mRk b) ∧ mSm [19] I I' ∧ (mVl (mK g yb) W H k → mSa (mK g yb) W H T O k d T r) ∧ (¬ mVl (mK g yb) W H k → r = 0)) :=
      fun hn => k20_20 (k20_25 (fun q => absurd q (by decide)) (fun _ => bad _ _ _ _ _ _ _ _ _ _ hn))
    refine k20_0 (c20_3 f3 (k20_6 (fun q => shut ?_) (fun q => k20_9 (fun q2 => k20_24 (k20_25 (fun _ => k20_32 (c20_35 (S4 hk) (k20_38 (fun q3 => bad _ _ _ _ _ _ _ _ _ _ ?_) (fun q3 => k20_44 ?_)))) (fun z => absurd rfl z))) (fun q2 => shut ?_))))
    · intro h
      rw [t1 h.1] at q
      exact absurd q (by decide)
    · rw [(hgr k hk).1, show (2 : Int32) = nI 2 from rfl, nI_eq (by have := (hgr k hk).2; omega) (by decide)] at q3
      exact fun h => hKk.mp (Or.inr q3) h.2
    · rw [mB_t (by omega)] at q2
      rw [(hgr k hk).1, show (2 : Int32) = nI 2 from rfl, nI_eq (by have := (hgr k hk).2; omega) (by decide)] at q3
      have ho : mOn W H k := by
        by_cases h : mOn W H k
        · exact h
        · exact absurd (t0 h) q
      have hv : ¬ mK g yb k = 1 ∧ ¬ mK g yb k = 2 := by
        by_cases h : ¬ mK g yb k = 1 ∧ ¬ mK g yb k = 2
        · exact h
        · rcases hKk.mpr h with z | z
          · rw [q2] at z
            exact absurd z (by decide)
          · exact absurd z q3
      exact loop ⟨ho, hv⟩ T 0 0 I _ _ _ (by omega) mSm.rf mSa_0
    · rw [mB_t (by omega)] at q2
      have q2 : mB yb k = true := by
        cases h : mB yb k with
        | true => rfl
        | false => exact absurd h q2
      exact fun h => hKk.mp (Or.inl q2) h.2
  obtain ⟨r, w1, hf, r', I', rfl, rfl, h1, h2, h3⟩ := ex20 key
  exact ⟨r', I', hf, h1, h2, h3⟩
end SPREAD
