/-! a stroke -/
def mRoll (K : Nat → Nat) (W H T O : Nat) : Nat → Nat → Nat → Nat → Nat × Nat × Nat
  | 0, k, _, t => (0, k, t)
  | n + 1, k, d, t => match mSt K W H T O k d (t + 1) with
    | none => mRoll K W H T O n k ((d + 2) % 4) (t + 1)
    | some p => if K p = 3 ∧ n ≤ 1 then (1, p, t + 1) else if K p = 2 then (2, p, t + 1) else mRoll K W H T O n p d (t + 1)
/-- how a place is answered -/
def mPa (k : Nat) : Int32 := nI (k / 7 * 10 + k % 7)
def mRe (r : Nat × Nat × Nat) : Int32 := match r.1 with
  | 0 => mPa r.2.1
  | 1 => -5
  | _ => -6
def mLeft (n : Nat) : Int32 := match n with
  | 0 => -1
  | m + 1 => nI m
theorem mSt_on {K : Nat → Nat} {W H T O k d t n : Nat} (h7 : W ≤ 7 ∧ H ≤ 7) (ho : mOn W H k) (h : mSt K W H T O k d t = some n) : mOn W H n := by
  unfold mSt at h
  cases hn : mNx W H k d with
  | none => rw [hn] at h; cases h
  | some p =>
    rw [hn] at h
    dsimp only at h
    split at h
    · cases h
    · cases h
      exact mNx_on h7 ho hn
theorem mRoll_t {K : Nat → Nat} {W H T O : Nat} : ∀ (n k d t : Nat), (mRoll K W H T O n k d t).2.2 ≤ t + n
  | 0, k, d, t => Nat.le_refl _
  | n + 1, k, d, t => by
    unfold mRoll
    split
    · have := mRoll_t (K := K) (W := W) (H := H) (T := T) (O := O) n k ((d + 2) % 4) (t + 1)
      omega
    · split
      · dsimp only; omega
      · split
        · dsimp only; omega
        · next p _ _ _ =>
          have := mRoll_t (K := K) (W := W) (H := H) (T := T) (O := O) n p d (t + 1)
          omega
theorem mRoll_on {K : Nat → Nat} {W H T O : Nat} (h7 : W ≤ 7 ∧ H ≤ 7) : ∀ (n k d t : Nat), mOn W H k → mOn W H (mRoll K W H T O n k d t).2.1
  | 0, k, d, t, h => h
  | n + 1, k, d, t, h => by
    unfold mRoll
    split
    · exact mRoll_on h7 n k _ _ h
    · next p hp =>
      have hpo := mSt_on h7 h hp
      split
      · exact hpo
      · split
        · exact hpo
        · exact mRoll_on h7 n p _ _ hpo
section STRIKE
variable {S : mS} {I : Nat → Nat → Int32} {L : Nat → Nat → Int64} {b c e : Bool}
theorem S50 {k : Nat} (hk : k < 49) : mFn S 50 [.int (nI k)] (mSH, I, L, mRk b) (some (.int (mPa k))) (mSH, I, L, mRk b) := by
  refine e50 (k50_0 (fun _ => k50_9 (k50_21 ⟨?_, rfl⟩)) (fun h => absurd (nI_pos' (by omega)) h))
  rw [show (7 : Int32) = nI 7 from rfl, show (10 : Int32) = nI 10 from rfl, pk_rem (by omega) (by decide) (by decide), pk_div (by omega) (by decide) (by decide), pk_mul, nI_add]
  rfl
theorem S50n : mFn S 50 [.int (-9)] (mSH, I, L, mRk b) (some (.int (-9))) (mSH, I, L, mRk b) :=
  e50 (k50_0 (fun h => absurd h (by decide)) (fun _ => k50_4 (k50_21 ⟨rfl, rfl⟩)))
theorem mLeft_m1 (n : Nat) : nI n + (-1) = mLeft n := by
  cases n with
  | zero => rfl
  | succ m => exact pk_m1 m
theorem mLeft_s (n : Nat) : nI n - 1 = mLeft n := by
  cases n with
  | zero => rfl
  | succ m => exact nI_pred m
def mSkQ (S : mS) (I0 : Nat → Nat → Int32) (L : Nat → Nat → Int64) (b e : Bool) (k0 : Nat) (r : Nat × Nat × Nat) (r2 : Option Value) (w2 : mW) : Prop := ∃ I' : Nat → Nat → Int32, r2 = some (.int (mRe r)) ∧ w2 = (mSH, I', L, mRk b) ∧ mSm [mRo e] I0 I' ∧ I' (mRo e) 0 = nI (if r.1 = 2 then k0 else r.2.1) ∧ I' (mRo e) 1 = nI r.2.2
theorem S27_loop {W H T O : Nat} {g : Nat → Nat} (h7 : W ≤ 7 ∧ H ≤ 7) (hg1 : ∀ k, k < 49 → ¬ g k = 1) {y : Int64} {k0 : Nat} {I0 : Nat → Nat → Int32} (hL0 : mLw I0 c W H T O g) : ∀ (n k d t : Nat) (m : Int32) (I : Nat → Nat → Int32) (o3 o5 o6 o7 o9 : Option Value), mSm [mRo e] I0 I → mBl I e k t d m → mOn W H k → d < 4 → t + n < 2 ^ 30 →
    mWp S 27 16 [some (.ref (mRo e)), some (.ref (mLa c)), some (.long y), o3, some (.int (nI k0)), o5, o6, o7, some (.int (mLeft n)), o9] [] (mSH, I, L, mRk b) (mSkQ S I0 L b e k0 (mRoll (mK g y) W H T O n k d t)) := by
  intro n
  induction n with
  | zero =>
    intro k d t m I o3 o5 o6 o7 o9 hs hb ho hd ht
    refine k27_16 (fun _ => k27_65 ?_) (fun h => absurd (by decide) h)
    rw [hb.1]
    refine c27_69 (S50 (mOn_lt h7 ho)) (k27_72 ⟨I, rfl, rfl, hs, hb.1, hb.2.1⟩)
  | succ n ih =>
    intro k d t m I o3 o5 o6 o7 o9 hs hb ho hd ht
    have hL := hL0.roll hs
    refine k27_16 (fun h => absurd h (nI_pos (by omega))) (fun _ => k27_21 ?_)
    obtain ⟨x, I', f26, h1, h2⟩ := S26 (S := S) (I := I) (L := L) (b := b) (c := c) (d := e) hL hb (mOn_lt h7 ho) ho hd (by omega) hg1 (y := y)
    refine c27_24 f26 ?_
    have hs' := hs.tr h1
    unfold mAd at h2
    unfold mRoll
    cases hst : mSt (mK g y) W H T O k d (t + 1) with
    | none =>
      rw [hst] at h2
      obtain ⟨rfl, hb'⟩ := h2
      refine k27_27 (fun h => absurd h (by decide)) (fun _ => k27_44 (fun h => absurd h (by decide)) (fun _ => k27_59 ?_))
      show mWp S 27 16 [_, _, _, _, _, _, _, _, some (.int (nI n + (-1))), _] _ _ _
      rw [mLeft_m1]
      exact ih k _ (t + 1) _ I' _ _ _ _ _ hs' hb' ho (Nat.mod_lt _ (by decide)) (by omega)
    | some p =>
      rw [hst] at h2
      obtain ⟨rfl, hb'⟩ := h2
      have hpo := mSt_on h7 ho hst
      have hp5 : mK g y p < 5 := by
        unfold mK
        split
        · decide
        · exact (hL0.2.2.2.2.2.2.2.2 p (mOn_lt h7 hpo)).2
      dsimp only
      have pond : ¬ (mK g y p = 3 ∧ n ≤ 1) → ∀ o9 : Option Value, mWp S 27 44 [some (.ref (mRo e)), some (.ref (mLa c)), some (.long y), o3, some (.int (nI k0)), o5, o6, o7, some (.int (mLeft (n + 1))), some (.int (nI (mK g y p)))] [] (mSH, I', L, mRk b) (mSkQ S I0 L b e k0 (if mK g y p = 3 ∧ n ≤ 1 then (1, p, t + 1) else if mK g y p = 2 then (2, p, t + 1) else mRoll (mK g y) W H T O n p d (t + 1))) := by
        intro hno o9
        rw [if_neg hno]
        refine k27_44 (fun h => ?_) (fun h => ?_)
        · rw [show (2 : Int32) = nI 2 from rfl, nI_eq (by omega) (by decide)] at h
          rw [if_pos h]
          exact k27_50 ⟨_, rfl, rfl, hs'.up2 (by simp), m_us, by rw [m_un (by decide)]; exact hb'.2.1⟩
        · rw [show (2 : Int32) = nI 2 from rfl, nI_eq (by omega) (by decide)] at h
          rw [if_neg h]
          refine k27_59 ?_
          show mWp S 27 16 [_, _, _, _, _, _, _, _, some (.int (nI n + (-1))), _] _ _ _
          rw [mLeft_m1]
          exact ih p d (t + 1) _ I' _ _ _ _ _ hs' hb' hpo hd (by omega)
      refine k27_27 (fun h => ?_) (fun h => ?_)
      · rw [show (3 : Int32) = nI 3 from rfl, nI_eq (by omega) (by decide)] at h
        refine k27_35 (fun h1 => ?_) (fun h1 => ?_)
        · have h1 : nI 1 < nI n := h1
          rw [nI_ltI (by decide) (by omega)] at h1
          exact pond (by omega) none
        · have h1 : ¬ nI 1 < nI n := h1
          rw [nI_ltI (by decide) (by omega)] at h1
          rw [if_pos ⟨h, by omega⟩]
          exact k27_41 ⟨I', rfl, rfl, hs', hb'.1, hb'.2.1⟩
      · rw [show (3 : Int32) = nI 3 from rfl, nI_eq (by omega) (by decide)] at h
        exact pond (fun q => h q.1) none
theorem S27 {W H T O : Nat} {g : Nat → Nat} (hL : mLw I c W H T O g) (hg1 : ∀ k, k < 49 → ¬ g k = 1) {y : Int64} {k d t n : Nat} (ho : mOn W H k) (hd : d < 4) (ht : t + n < 2 ^ 30) :
    ∃ I' : Nat → Nat → Int32, mFn S 27 [.ref (mRo e), .ref (mLa c), .long y, .int (nI k), .int (nI t), .int (nI d), .int (nI n)] (mSH, I, L, mRk b) (some (.int (mRe (mRoll (mK g y) W H T O n k d t)))) (mSH, I', L, mRk b) ∧ mSm [mRo e] I I' ∧
      I' (mRo e) 0 = nI (if (mRoll (mK g y) W H T O n k d t).1 = 2 then k else (mRoll (mK g y) W H T O n k d t).2.1) ∧ I' (mRo e) 1 = nI (mRoll (mK g y) W H T O n k d t).2.2 := by
  have h7 := hL.2.2.2.2.1
  have key : mWp S 27 0 [some (.ref (mRo e)), some (.ref (mLa c)), some (.long y), none, some (.int (nI k)), some (.int (nI t)), some (.int (nI d)), some (.int (nI n)), none, none] [] (mSH, I, L, mRk b) (mSkQ S I L b e k (mRoll (mK g y) W H T O n k d t)) := by
    refine k27_0 (c27_7 (S25 _ _ _) (k27_10 ?_))
    rw [mLeft_s]
    refine S27_loop h7 hg1 hL n k d t 0 _ _ _ _ _ _ (((mSm.up (by simp)).up2 (by simp)).up2 (by simp) |>.up2 (by simp)) ⟨?_, ?_, ?_, m_us⟩ ho hd ht
    · rw [m_un (by decide), m_un (by decide), m_un (by decide), m_us]
    · rw [m_un (by decide), m_un (by decide), m_us]
    · rw [m_un (by decide), m_us]
  obtain ⟨r, w1, hf, I', rfl, rfl, h1, h2, h3⟩ := ex27 key
  exact ⟨I', hf, h1, h2, h3⟩
end STRIKE
