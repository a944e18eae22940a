/-! Lawn: its reads -/
section LAWN
variable {S : mS} {I : Nat → Nat → Int32} {L : Nat → Nat → Int64} {b c : Bool}
theorem S2 {W H : Nat} (hW : I (mLa c) 0 = nI W) (hH : I (mLa c) 1 = nI H) (h7 : W ≤ 7 ∧ H ≤ 7) (x y : Int32) : mFn S 2 [.ref (mLa c), .int x, .int y] (mSH, I, L, mRk b) (some (.int (mOe (mPlace W H x y)))) (mSH, I, L, mRk b) := by
  refine e2 ?_
  have fin : mPlace W H x y = none → mWp S 2 24 [some (.ref (mLa c)), some (.int x), some (.int y)] [] (mSH, I, L, mRk b) (fun r2 w2 => r2 = some (.int (mOe (mPlace W H x y))) ∧ w2 = (mSH, I, L, mRk b)) := fun h => k2_24 (k2_35 ⟨by rw [h]; rfl, rfl⟩)
  refine k2_0 (fun h => fin (mPlace_x h)) (fun h => ?_)
  obtain ⟨i, hi, rfl⟩ := nI_of h
  refine k2_4 (fun h2 => ?_) (fun h2 => ?_)
  · rw [hW, nI_leI (by omega) hi] at h2
    refine fin ?_
    rcases nI_or y with q | ⟨j, hj, rfl⟩
    · exact mPlace_y q
    · rw [mPlace_n hi hj, if_neg (by omega)]
  rw [hW, nI_leI (by omega) hi] at h2
  refine k2_12 (fun h3 => fin (mPlace_y h3)) (fun h3 => ?_)
  obtain ⟨j, hj, rfl⟩ := nI_of h3
  refine k2_16 (fun h4 => ?_) (fun h4 => ?_)
  · rw [hH, nI_ltI hj (by omega)] at h4
    refine k2_29 (k2_35 ⟨?_, rfl⟩)
    rw [mPlace_n hi hj, if_pos (by omega)]
    show some (Value.int (nI j * nI 7 + nI i)) = some (.int (nI (7 * j + i)))
    rw [pk_mul, nI_add, Nat.mul_comm]
  · rw [hH, nI_ltI hj (by omega)] at h4
    exact fin (by rw [mPlace_n hi hj, if_neg (by omega)])
/-- a place is on the lawn -/
abbrev mOn (W H k : Nat) : Prop := k % 7 < W ∧ k / 7 < H
theorem mOn_lt {W H k : Nat} (h7 : W ≤ 7 ∧ H ≤ 7) (h : mOn W H k) : k < 49 := by
  dsimp only [mOn] at h
  omega
theorem S3 {W H : Nat} (hW : I (mLa c) 0 = nI W) (hH : I (mLa c) 1 = nI H) (h7 : W ≤ 7 ∧ H ≤ 7) {k : Nat} (hk : k < 2 ^ 31) : ∃ r : Int32, mFn S 3 [.ref (mLa c), .int (nI k)] (mSH, I, L, mRk b) (some (.int r)) (mSH, I, L, mRk b) ∧ (mOn W H k → r = 1) ∧ (¬ mOn W H k → r = 0) := by
  by_cases ho : mOn W H k
  · refine ⟨1, e3 ?_, fun _ => rfl, fun h => absurd ho h⟩
    refine k3_0 (fun h => absurd h (nI_pos hk)) (fun _ => k3_4 ?_)
    refine c3_13 (S2 hW hH h7 _ _) ?_
    show mWp S 3 16 _ [.int _] _ _
    have e : (mOe (mPlace W H (nI k - nI k / 7 * 7) (nI k / 7))) = nI k := by
      rw [show (7 : Int32) = nI 7 from rfl, pk_rem hk (by decide) (by decide), pk_div hk (by decide) (by decide), mPlace_n (by omega) (by omega), if_pos ho]
      show nI _ = _
      congr 1
      omega
    refine k3_16 (fun _ => k3_20 (k3_25 (by decide) ⟨rfl, rfl⟩)) (fun h => absurd e h)
  · refine ⟨0, e3 ?_, fun h => absurd h ho, fun _ => rfl⟩
    refine k3_0 (fun h => absurd h (nI_pos hk)) (fun _ => k3_4 ?_)
    refine c3_13 (S2 hW hH h7 _ _) ?_
    show mWp S 3 16 _ [.int _] _ _
    have e : (mOe (mPlace W H (nI k - nI k / 7 * 7) (nI k / 7))) = -9 := by
      rw [show (7 : Int32) = nI 7 from rfl, pk_rem hk (by decide) (by decide), pk_div hk (by decide) (by decide), mPlace_n (by omega) (by omega), if_neg ho]
      rfl
    refine k3_16 (fun h => absurd (h.symm.trans e) (nI_neg9 hk)) (fun h => k3_24 (k3_25 (by decide) ⟨rfl, rfl⟩))
theorem S4 {k : Nat} (hk : k < 49) : mFn S 4 [.ref (mLa c), .int (nI k)] (mSH, I, L, mRk b) (some (.int (I (mLg c) k))) (mSH, I, L, mRk b) := by
  refine e4 (k4_0 (fun h => absurd h (nI_pos (by omega))) (fun _ => k4_4 (fun _ => ?_) (fun h => ?_)))
  · refine k4_14 (m_okN hk (by decide)) (k4_20 ⟨?_, rfl⟩)
    rw [nI_clamp (by omega)]
  · rw [show (49 : Int32) = nI 49 from rfl, nI_ltI (by omega) (by decide)] at h
    omega
theorem S4n {x : Int32} (hx : x < 0) : mFn S 4 [.ref (mLa c), .int x] (mSH, I, L, mRk b) (some (.int 1)) (mSH, I, L, mRk b) :=
  e4 (k4_0 (fun _ => k4_10 (k4_20 ⟨rfl, rfl⟩)) (fun h => absurd hx h))
/-- the next place of a way -/
def mNx (W H k d : Nat) : Option Nat := match d with
  | 0 => if 0 < k / 7 then some (k - 7) else none
  | 1 => if k % 7 + 1 < W then some (k + 1) else none
  | 2 => if k / 7 + 1 < H then some (k + 7) else none
  | _ => if 0 < k % 7 then some (k - 1) else none
theorem mNx_on {W H k d n : Nat} (h7 : W ≤ 7 ∧ H ≤ 7) (ho : mOn W H k) (h : mNx W H k d = some n) : mOn W H n := by
  have hk := mOn_lt h7 ho
  dsimp only [mOn] at ho ⊢
  unfold mNx at h
  split at h <;> split at h <;> cases h <;> omega
theorem S5 {W H : Nat} (hW : I (mLa c) 0 = nI W) (hH : I (mLa c) 1 = nI H) (h7 : W ≤ 7 ∧ H ≤ 7) {k d : Nat} (hk : k < 49) (hd : d < 4) : mFn S 5 [.ref (mLa c), .int (nI k), .int (nI d)] (mSH, I, L, mRk b) (some (.int (mOe (mNx W H k d)))) (mSH, I, L, mRk b) := by
  refine e5 (k5_0 ?_)
  have e7 : nI k / 7 = nI (k / 7) := pk_div (by omega) (by decide : 0 < 7) (by decide)
  have m7 : nI k - nI k / 7 * 7 = nI (k % 7) := pk_rem (by omega) (by decide : 0 < 7) (by decide)
  rw [m7, e7]
  rcases (by omega : d = 0 ∨ d = 1 ∨ d = 2 ∨ d = 3) with rfl | rfl | rfl | rfl
  · rw [if_pos (show nI 0 = (0 : Int32) from rfl)]
    refine k5_40 (fun h => ?_) (fun h => ?_)
    · rw [show (0 : Int32) = nI 0 from rfl, nI_leI (by omega) (by decide)] at h
      refine k5_52 (k5_54 ⟨?_, rfl⟩)
      simp only [mNx]
      rw [if_neg (by omega)]
      rfl
    · rw [show (0 : Int32) = nI 0 from rfl, nI_leI (by omega) (by decide)] at h
      refine k5_45 (k5_54 ⟨?_, rfl⟩)
      simp only [mNx]
      rw [if_pos (by omega)]
      show some (Value.int (nI k - nI 7)) = _
      rw [pk_sub (by omega)]
      rfl
  · rw [if_neg (by decide), if_pos (show nI 1 = (1 : Int32) from rfl)]
    have e1 : nI (k % 7) + 1 = nI (k % 7 + 1) := nI_1 _
    refine k5_55 (fun h => ?_) (fun h => ?_)
    · rw [hW, e1, nI_leI (by omega) (by omega)] at h
      refine k5_71 (k5_73 ⟨?_, rfl⟩)
      simp only [mNx]
      rw [if_neg (by omega)]
      rfl
    · rw [hW, e1, nI_leI (by omega) (by omega)] at h
      refine k5_65 (k5_73 ⟨?_, rfl⟩)
      simp only [mNx]
      rw [if_pos (by omega), nI_1]
      rfl
  · rw [if_neg (by decide), if_neg (by decide), if_pos (show nI 2 = (2 : Int32) from rfl)]
    have e1 : nI (k / 7) + 1 = nI (k / 7 + 1) := nI_1 _
    refine k5_74 (fun h => ?_) (fun h => ?_)
    · rw [hH, e1, nI_leI (by omega) (by omega)] at h
      refine k5_92 (k5_94 ⟨?_, rfl⟩)
      simp only [mNx]
      rw [if_neg (by omega)]
      rfl
    · rw [hH, e1, nI_leI (by omega) (by omega)] at h
      refine k5_85 (k5_94 ⟨?_, rfl⟩)
      simp only [mNx]
      rw [if_pos (by omega)]
      show some (Value.int (nI k + nI 7)) = _
      rw [nI_add]
      rfl
  · rw [if_neg (by decide), if_neg (by decide), if_neg (by decide)]
    refine k5_95 (fun h => ?_) (fun h => ?_)
    · rw [show (0 : Int32) = nI 0 from rfl, nI_leI (by omega) (by decide)] at h
      refine k5_105 (k5_107 ⟨?_, rfl⟩)
      simp only [mNx]
      rw [if_neg (by omega)]
      rfl
    · rw [show (0 : Int32) = nI 0 from rfl, nI_leI (by omega) (by decide)] at h
      refine k5_99 (k5_107 ⟨?_, rfl⟩)
      simp only [mNx]
      rw [if_pos (by omega)]
      show some (Value.int (nI k - nI 1)) = _
      rw [pk_sub (by omega)]
      rfl
theorem S6 {T : Nat} (hT : I (mLa c) 2 = nI T) (h0 : 0 < T) (h6 : T ≤ 6) {t : Nat} (ht : t < 2 ^ 31) : mFn S 6 [.ref (mLa c), .int (nI t)] (mSH, I, L, mRk b) (some (.int (nI (t % T)))) (mSH, I, L, mRk b) := by
  refine e6 (k6_0 (fun h => ?_) (fun h => k6_7 ?_ (k6_17 ⟨?_, rfl⟩)))
  · rw [hT] at h
    exact absurd h (nI_nle h0 (by omega))
  · rw [hT]
    exact m_nz h0 (by omega)
  · rw [hT, pk_rem ht h0 (by omega)]
theorem S7 {T O : Nat} (hT : I (mLa c) 2 = nI T) (hO : I (mLa c) 3 = nI O) (h0 : 0 < T) (h6 : T ≤ 6) (hOT : O < T) {t : Nat} (ht : t < 2 ^ 31) : ∃ r : Int32, mFn S 7 [.ref (mLa c), .int (nI t)] (mSH, I, L, mRk b) (some (.int r)) (mSH, I, L, mRk b) ∧ (t % T = O → r = 1) ∧ (¬ t % T = O → r = 0) := by
  have hlt : t % T < T := Nat.mod_lt _ h0
  have e1 : nI t - nI t / nI T * nI T = nI (t % T) := pk_rem ht h0 (by omega)
  by_cases ho : t % T = O
  · refine ⟨1, e7 (k7_0 (fun h => ?_) (fun h => k7_7 ?_ (fun q => k7_20 (k7_25 (by decide) ⟨rfl, rfl⟩)) (fun q => ?_))), fun _ => rfl, fun h => absurd ho h⟩
    · rw [hT] at h
      exact absurd h (nI_nle h0 (by omega))
    · rw [hT]
      exact m_nz h0 (by omega)
    · rw [hT, hO, e1, ho] at q
      exact absurd rfl q
  · refine ⟨0, e7 (k7_0 (fun h => ?_) (fun h => k7_7 ?_ (fun q => ?_) (fun q => k7_24 (k7_25 (by decide) ⟨rfl, rfl⟩)))), fun h => absurd h ho, fun _ => rfl⟩
    · rw [hT] at h
      exact absurd h (nI_nle h0 (by omega))
    · rw [hT]
      exact m_nz h0 (by omega)
    · rw [hT, hO, e1, nI_eq (by omega) (by omega)] at q
      exact absurd q ho
end LAWN
