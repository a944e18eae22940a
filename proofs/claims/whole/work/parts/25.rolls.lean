/-! the reference's ball -/
def mIn (v lo hi : Int32) : Int32 := if v < lo then 0 else if hi < v then 0 else 1
def mLm (I : Nat → Nat → Int32) (W H T O : Nat) (K : Nat → Nat) : Prop := I 44 0 = nI W ∧ I 44 1 = nI H ∧ I 44 2 = nI T ∧ I 44 3 = nI O ∧ (W ≤ 7 ∧ H ≤ 7) ∧ 0 < T ∧ T ≤ 6 ∧ O < T ∧ ∀ k, mOn W H k → I 45 (8 + k) = nI (K k) ∧ K k < 5
theorem mLm.same {I I' : Nat → Nat → Int32} {W H T O : Nat} {K : Nat → Nat} (h : mLm I W H T O K) (h0 : ∀ j, j < 4 → I' 44 j = I 44 j) (h2 : I' 45 = I 45) : mLm I' W H T O K := by
  unfold mLm
  rw [h0 0 (by decide), h0 1 (by decide), h0 2 (by decide), h0 3 (by decide), h2]
  exact h
def mIc (W H : Nat) (x y : Int32) : Int32 := match mPlace W H x y with
  | none => 0
  | some _ => 1
def mDx (d : Nat) : Int32 := if d = 1 then 1 else if d = 3 then -1 else 0
def mDy (d : Nat) : Int32 := if d = 2 then 1 else if d = 0 then -1 else 0
theorem mIn_0 {W : Nat} (h : W ≤ 7) (x : Int32) : mIn x 0 (nI W - 1) = if 0 ≤ x.toInt ∧ x.toInt < W then 1 else 0 := by
  have e : (nI W - 1).toInt = (W : Int) - 1 := pk_sub_toInt (b := 1) (by omega) (by decide)
  have h1 : x < 0 ↔ x.toInt < 0 := by rw [Int32.lt_iff_toInt_lt, Int32.toInt_zero]
  have h2 : nI W - 1 < x ↔ (W : Int) - 1 < x.toInt := by rw [Int32.lt_iff_toInt_lt, e]
  unfold mIn
  by_cases q1 : x < 0
  · have := h1.mp q1
    rw [if_pos q1, if_neg (by omega)]
  · have : ¬ x.toInt < 0 := fun q => q1 (h1.mpr q)
    rw [if_neg q1]
    by_cases q2 : nI W - 1 < x
    · have := h2.mp q2
      rw [if_pos q2, if_neg (by omega)]
    · have : ¬ (W : Int) - 1 < x.toInt := fun q => q2 (h2.mpr q)
      rw [if_neg q2, if_pos (by omega)]
theorem mNx_xy {W H k d : Nat} (h7 : W ≤ 7 ∧ H ≤ 7) (ho : mOn W H k) (hd : d < 4) :
    (mNx W H k d = none → mPlace W H (nI (k % 7) + mDx d) (nI (k / 7) + mDy d) = none) ∧ (∀ n, mNx W H k d = some n → nI (k % 7) + mDx d = nI (n % 7) ∧ nI (k / 7) + mDy d = nI (n / 7) ∧ mPlace W H (nI (n % 7)) (nI (n / 7)) = some n) := by
  have hk := mOn_lt h7 ho
  dsimp only [mOn] at ho
  have pl : ∀ n, mOn W H n → mPlace W H (nI (n % 7)) (nI (n / 7)) = some n := by
    intro n hn
    have := mOn_lt h7 hn
    rw [mPlace_n (by omega) (by omega), if_pos hn]
    congr 1
    omega
  have z : ∀ x : Int32, x + 0 = x := fun x => Int32.add_zero x
  rcases (by omega : d = 0 ∨ d = 1 ∨ d = 2 ∨ d = 3) with rfl | rfl | rfl | rfl
  · show (mNx W H k 0 = none → mPlace W H (nI (k % 7) + 0) (nI (k / 7) + (-1)) = none) ∧ (∀ n, mNx W H k 0 = some n → nI (k % 7) + 0 = nI (n % 7) ∧ nI (k / 7) + (-1) = nI (n / 7) ∧ _)
    rw [z]
    refine ⟨fun h => ?_, fun n h => ?_⟩
    · simp only [mNx] at h
      split at h
      · cases h
      · rw [show k / 7 = 0 by omega]
        exact mPlace_y (by decide)
    · have hn := mNx_on h7 ho h
      simp only [mNx] at h
      split at h
      · cases h
        exact ⟨by congr 1; omega, by rw [show k / 7 = (k - 7) / 7 + 1 by omega]; exact pk_m1 _, pl _ hn⟩
      · cases h
  · show (mNx W H k 1 = none → mPlace W H (nI (k % 7) + 1) (nI (k / 7) + 0) = none) ∧ (∀ n, mNx W H k 1 = some n → nI (k % 7) + 1 = nI (n % 7) ∧ nI (k / 7) + 0 = nI (n / 7) ∧ _)
    rw [z, nI_1]
    refine ⟨fun h => ?_, fun n h => ?_⟩
    · simp only [mNx] at h
      split at h
      · cases h
      · rw [mPlace_n (by omega) (by omega), if_neg (by omega)]
    · have hn := mNx_on h7 ho h
      simp only [mNx] at h
      split at h
      · cases h
        exact ⟨by congr 1; omega, by congr 1; omega, pl _ hn⟩
      · cases h
  · show (mNx W H k 2 = none → mPlace W H (nI (k % 7) + 0) (nI (k / 7) + 1) = none) ∧ (∀ n, mNx W H k 2 = some n → nI (k % 7) + 0 = nI (n % 7) ∧ nI (k / 7) + 1 = nI (n / 7) ∧ _)
    rw [z, nI_1]
    refine ⟨fun h => ?_, fun n h => ?_⟩
    · simp only [mNx] at h
      split at h
      · cases h
      · rw [mPlace_n (by omega) (by omega), if_neg (by omega)]
    · have hn := mNx_on h7 ho h
      simp only [mNx] at h
      split at h
      · cases h
        exact ⟨by congr 1; omega, by congr 1; omega, pl _ hn⟩
      · cases h
  · show (mNx W H k 3 = none → mPlace W H (nI (k % 7) + (-1)) (nI (k / 7) + 0) = none) ∧ (∀ n, mNx W H k 3 = some n → nI (k % 7) + (-1) = nI (n % 7) ∧ nI (k / 7) + 0 = nI (n / 7) ∧ _)
    rw [z]
    refine ⟨fun h => ?_, fun n h => ?_⟩
    · simp only [mNx] at h
      split at h
      · cases h
      · rw [show k % 7 = 0 by omega]
        exact mPlace_x (by decide)
    · have hn := mNx_on h7 ho h
      simp only [mNx] at h
      split at h
      · cases h
        exact ⟨by rw [show k % 7 = (k - 1) % 7 + 1 by omega]; exact pk_m1 _, by congr 1; omega, pl _ hn⟩
      · cases h
def mRm (r : Nat × Nat × Nat) : Int32 := match r.1 with
  | 0 => nI r.2.1
  | 1 => -5
  | _ => -6
section ROLLS
variable {S : mS} {I : Nat → Nat → Int32} {L : Nat → Nat → Int64} {b : Bool}
theorem S88 (v lo hi : Int32) : mFn S 88 [.int v, .int lo, .int hi] (mSH, I, L, mRk b) (some (.int (mIn v lo hi))) (mSH, I, L, mRk b) := by
  refine e88 (k88_0 (fun h => k88_14 (k88_15 (by decide) ⟨?_, rfl⟩)) (fun h => k88_5 (fun h2 => k88_14 (k88_15 (by decide) ⟨?_, rfl⟩)) (fun h2 => k88_10 (k88_15 (by decide) ⟨?_, rfl⟩))))
  · unfold mIn; rw [if_pos h]
  · unfold mIn; rw [if_neg h, if_pos h2]
  · unfold mIn; rw [if_neg h, if_neg h2]
theorem S89 {W H : Nat} (hW : I 44 0 = nI W) (hH : I 44 1 = nI H) (h7 : W ≤ 7 ∧ H ≤ 7) (x y : Int32) : mFn S 89 [.ref 44, .int x, .int y] (mSH, I, L, mRk b) (some (.int (mIc W H x y))) (mSH, I, L, mRk b) := by
  refine e89 (k89_0 (c89_8 (S88 _ _ _) ?_))
  rw [hW, mIn_0 h7.1]
  by_cases hx : 0 ≤ x.toInt ∧ x.toInt < W
  · rw [if_pos hx]
    refine k89_11 (fun h => absurd h (by decide)) (fun _ => k89_14 (c89_22 (S88 _ _ _) ?_))
    rw [hH, mIn_0 h7.2]
    by_cases hy : 0 ≤ y.toInt ∧ y.toInt < H
    · rw [if_pos hy]
      refine k89_25 (fun h => absurd h (by decide)) (fun _ => k89_28 (k89_33 (by decide) ⟨?_, rfl⟩))
      unfold mIc mPlace
      rw [if_pos ⟨hx.1, hx.2, hy⟩]
    · rw [if_neg hy]
      refine k89_25 (fun _ => k89_32 (k89_33 (by decide) ⟨?_, rfl⟩)) (fun h => absurd rfl h)
      unfold mIc mPlace
      rw [if_neg (by omega)]
  · rw [if_neg hx]
    refine k89_11 (fun _ => k89_32 (k89_33 (by decide) ⟨?_, rfl⟩)) (fun h => absurd rfl h)
    unfold mIc mPlace
    rw [if_neg (by omega)]
theorem S105_dir {Q : Option Value → mW → Prop} {k d : Nat} (hd : d < 4) {o1 o2 o3 o4 o8 o9 o10 : Option Value}
    (h : mWp S 105 77 [some (.ref 44), o1, o2, o3, o4, some (.int (nI (k % 7))), some (.int (nI (k / 7))), some (.int (nI d)), some (.int (nI (k % 7) + mDx d)), o9, o10] [.int (mDy d), .int (nI (k / 7))] (mSH, I, L, mRk b) Q) :
    mWp S 105 29 [some (.ref 44), o1, o2, o3, o4, some (.int (nI (k % 7))), some (.int (nI (k / 7))), some (.int (nI d)), o8, o9, o10] [] (mSH, I, L, mRk b) Q := by
  rcases (by omega : d = 0 ∨ d = 1 ∨ d = 2 ∨ d = 3) with rfl | rfl | rfl | rfl
  · exact k105_29 (fun h => absurd h (by decide)) (fun _ => k105_41 (fun h => absurd h (by decide)) (fun _ => k105_51 (k105_52 (fun h => absurd h (by decide)) (fun _ => k105_67 (fun _ => k105_72 h) (fun h => absurd rfl h)))))
  · exact k105_29 (fun _ => k105_37 (k105_52 (fun h => absurd h (by decide)) (fun _ => k105_67 (fun h => absurd h (by decide)) (fun _ => k105_76 h)))) (fun h => absurd rfl h)
  · exact k105_29 (fun h => absurd h (by decide)) (fun _ => k105_41 (fun h => absurd h (by decide)) (fun _ => k105_51 (k105_52 (fun _ => k105_63 h) (fun h => absurd rfl h))))
  · exact k105_29 (fun h => absurd h (by decide)) (fun _ => k105_41 (fun _ => k105_47 (k105_52 (fun h => absurd h (by decide)) (fun _ => k105_67 (fun h => absurd h (by decide)) (fun _ => k105_76 h)))) (fun h => absurd rfl h))
/-- what rolls may change: its own count -/
def mT30 (I I' : Nat → Nat → Int32) : Prop := ∀ a k, ¬ (a = 44 ∧ k = 30) → I' a k = I a k
theorem mT30.rf {I : Nat → Nat → Int32} : mT30 I I := fun _ _ _ => rfl
theorem mT30.up {I I1 : Nat → Nat → Int32} {v : Int32} (h : mT30 I I1) : mT30 I (m_up I1 44 30 v) := by
  intro a k hak
  rw [← h a k hak]
  by_cases ha : a = 44
  · subst ha
    exact m_un (fun q => hak ⟨rfl, q⟩)
  · exact m_ux ha
theorem mLm.t30 {I I' : Nat → Nat → Int32} {W H T O : Nat} {K : Nat → Nat} (h : mLm I W H T O K) (ht : mT30 I I') : mLm I' W H T O K :=
  h.same (fun j hj => ht _ _ (by omega)) (by funext k; exact ht _ _ (by omega))
def mRlQ (I0 : Nat → Nat → Int32) (L : Nat → Nat → Int64) (b : Bool) (t0 : Nat) (r : Nat × Nat × Nat) (r2 : Option Value) (w2 : mW) : Prop := ∃ I' : Nat → Nat → Int32, r2 = some (.int (mRm r)) ∧ w2 = (mSH, I', L, mRk b) ∧ mT30 I0 I' ∧ I' 44 30 = nI (r.2.2 - t0)
set_option maxHeartbeats 1000000 in
theorem S105_loop {W H T O : Nat} {K : Nat → Nat} {I0 : Nat → Nat → Int32} (hL0 : mLm I0 W H T O K) {t0 hd : Nat} (ht : t0 < 2 ^ 29) (hhd : hd ≤ 6) : ∀ (n k d j : Nat) (I : Nat → Nat → Int32) (o1 o3 o8 o9 o10 : Option Value), mT30 I0 I → I 44 30 = nI j → mOn W H k → d < 4 → 0 < j → j + n = hd + 1 →
    mWp S 105 20 [some (.ref 44), o1, some (.int (nI t0)), o3, some (.int (nI hd)), some (.int (nI (k % 7))), some (.int (nI (k / 7))), some (.int (nI d)), o8, o9, o10] [] (mSH, I, L, mRk b) (mRlQ I0 L b t0 (mRoll K W H T O n k d (t0 + j - 1))) := by
  intro n
  have h7 := hL0.2.2.2.2.1
  induction n with
  | zero =>
    intro k d j I o1 o3 o8 o9 o10 hs hj ho hd4 hj0 hjn
    have hk := mOn_lt h7 ho
    refine k105_20 (fun _ => k105_204 ⟨_, ?_, rfl, hs.up, ?_⟩) (fun h => ?_)
    · show some (Value.int (nI 7 * nI (k / 7) + nI (k % 7))) = some (.int (nI k))
      rw [pk_mul, nI_add]
      congr 2
      congr 1
      omega
    · rw [m_us]
      show nI hd = nI (t0 + j - 1 - t0)
      congr 1
      omega
    · rw [hj, nI_ltI (by omega) (by omega)] at h
      omega
  | succ n ih =>
    intro k d j I o1 o3 o8 o9 o10 hs hj ho hd4 hj0 hjn
    have hL := hL0.t30 hs
    obtain ⟨hW, hH, hT, hO, -, hT0, hT6, hOT, hK⟩ := hL
    refine k105_20 (fun h => ?_) (fun _ => ?_)
    · rw [hj, nI_ltI (by omega) (by omega)] at h
      omega
    refine S105_dir hd4 (k105_77 (c105_85 (S89 hW hH h7 _ _) ?_))
    obtain ⟨x1, x2⟩ := mNx_xy h7 ho hd4
    have et : t0 + j - 1 + 1 = t0 + j := by omega
    have next : ∀ (k' d' : Nat) (o8 o9 o10 : Option Value), mOn W H k' → d' < 4 → mRoll K W H T O (n + 1) k d (t0 + j - 1) = mRoll K W H T O n k' d' (t0 + j) →
        mWp S 105 191 [some (.ref 44), o1, some (.int (nI t0)), o3, some (.int (nI hd)), some (.int (nI (k' % 7))), some (.int (nI (k' / 7))), some (.int (nI d')), o8, o9, o10] [] (mSH, I, L, mRk b) (mRlQ I0 L b t0 (mRoll K W H T O (n + 1) k d (t0 + j - 1))) := by
      intro k' d' o8 o9 o10 hk' hd' he
      rw [he]
      refine k105_191 ?_
      rw [hj, nI_1]
      have := ih k' d' (j + 1) (m_up I 44 30 (nI (j + 1))) o1 o3 o8 o9 o10 hs.up m_us hk' hd' (by omega) (by omega)
      rw [show t0 + (j + 1) - 1 = t0 + j by omega] at this
      exact this
    have shut : ∀ (o8 o9 o10 : Option Value), mSt K W H T O k d (t0 + j) = none → mWp S 105 143 [some (.ref 44), o1, some (.int (nI t0)), o3, some (.int (nI hd)), some (.int (nI (k % 7))), some (.int (nI (k / 7))), some (.int (nI d)), o8, o9, o10] [] (mSH, I, L, mRk b) (mRlQ I0 L b t0 (mRoll K W H T O (n + 1) k d (t0 + j - 1))) := by
      intro o8 o9 o10 hst
      refine k105_143 ?_
      rw [show nI d + 2 - (nI d + 2) / 4 * 4 = nI ((d + 2) % 4) from by
        show nI d + nI 2 - (nI d + nI 2) / nI 4 * nI 4 = _
        rw [nI_add, pk_rem (by omega) (by decide) (by decide)]]
      refine next k _ _ _ _ ho (Nat.mod_lt _ (by decide)) ?_
      rw [mRoll, et, hst]
    cases hn : mNx W H k d with
    | none =>
      have hp := x1 hn
      unfold mIc
      rw [hp]
      refine k105_88 (fun _ => k105_110 (k105_111 (fun _ => ?_) (fun h => absurd rfl h))) (fun h => absurd rfl h)
      exact shut _ _ _ (by unfold mSt; rw [hn])
    | some p =>
      obtain ⟨ex, ey, hp⟩ := x2 p hn
      have hpo := mNx_on h7 ho hn
      have hp49 := mOn_lt h7 hpo
      rw [ex, ey]
      unfold mIc
      rw [hp]
      refine k105_88 (fun h => absurd h (show ¬ (1 : Int32) = 0 by decide)) (fun _ => k105_91 ?_ ?_)
      · show m_ok (nI 8 + nI 7 * nI (p / 7) + nI (p % 7)) 57 = true
        rw [pk_mul, nI_add, nI_add]
        exact m_okN (by omega) (by decide)
      have e8 : (8 + 7 * nI (p / 7) + nI (p % 7) : Int32).toNatClampNeg = 8 + p := by
        show (nI 8 + nI 7 * nI (p / 7) + nI (p % 7)).toNatClampNeg = 8 + p
        rw [pk_mul, nI_add, nI_add, nI_clamp (by omega)]
        omega
      rw [e8, (hK p hpo).1]
      have hk5 := (hK p hpo).2
      -- the ball goes on to p
      have go : ∀ (o5 o6 : Option Value), mSt K W H T O k d (t0 + j) = some p → mWp S 105 154 [some (.ref 44), o1, some (.int (nI t0)), o3, some (.int (nI hd)), o5, o6, some (.int (nI d)), some (.int (nI (p % 7))), some (.int (nI (p / 7))), some (.int (nI (K p)))] [] (mSH, I, L, mRk b) (mRlQ I0 L b t0 (mRoll K W H T O (n + 1) k d (t0 + j - 1))) := by
        intro o5 o6 hst
        refine k105_154 (fun h => ?_) (fun h => ?_)
        · rw [show (2 : Int32) = nI 2 from rfl, nI_eq (by omega) (by decide)] at h
          have he : mRoll K W H T O (n + 1) k d (t0 + j - 1) = (2, p, t0 + j) := by
            rw [mRoll, et, hst]
            dsimp only
            rw [if_neg (by omega), if_pos h]
          rw [he]
          exact k105_168 ⟨I, rfl, rfl, hs, by rw [hj]; congr 1; dsimp only; omega⟩
        · rw [show (2 : Int32) = nI 2 from rfl, nI_eq (by omega) (by decide)] at h
          have on : ¬ (K p = 3 ∧ n ≤ 1) → mRoll K W H T O (n + 1) k d (t0 + j - 1) = mRoll K W H T O n p d (t0 + j) := by
            intro hno
            rw [mRoll, et, hst]
            dsimp only
            rw [if_neg hno, if_neg h]
          refine k105_171 (fun h3 => ?_) (fun h3 => ?_)
          · rw [show (3 : Int32) = nI 3 from rfl, nI_eq (by omega) (by decide)] at h3
            refine k105_177 (fun h2 => ?_) (fun h2 => ?_)
            · rw [hj, pk_sub (by omega), show (2 : Int32) = nI 2 from rfl, nI_leI (by decide) (by omega)] at h2
              exact next p d _ _ _ hpo hd4 (on (by omega))
            · rw [hj, pk_sub (by omega), show (2 : Int32) = nI 2 from rfl, nI_leI (by decide) (by omega)] at h2
              have he : mRoll K W H T O (n + 1) k d (t0 + j - 1) = (1, p, t0 + j) := by
                rw [mRoll, et, hst]
                dsimp only
                rw [if_pos (by omega)]
              rw [he]
              exact k105_188 ⟨I, rfl, rfl, hs, by rw [hj]; congr 1; dsimp only; omega⟩
          · rw [show (3 : Int32) = nI 3 from rfl, nI_eq (by omega) (by decide)] at h3
            exact next p d _ _ _ hpo hd4 (on (by omega))
      refine k105_111 (fun h => ?_) (fun h => ?_)
      · rw [show (1 : Int32) = nI 1 from rfl, nI_eq (by omega) (by decide)] at h
        exact shut _ _ _ (by unfold mSt; rw [hn]; dsimp only; rw [if_pos (Or.inl h)])
      · rw [show (1 : Int32) = nI 1 from rfl, nI_eq (by omega) (by decide)] at h
        refine k105_119 (fun h4 => ?_) (fun h4 => ?_)
        · rw [show (4 : Int32) = nI 4 from rfl, nI_eq (by omega) (by decide)] at h4
          refine k105_125 (by rw [hT]; exact m_nz hT0 (by omega)) (fun hq => ?_) (fun hq => ?_)
          · rw [hj, hT, hO, nI_add, pk_rem (by omega) hT0 (by omega), nI_eq (by have := Nat.mod_lt (t0 + j) hT0; omega) (by omega)] at hq
            exact go _ _ (by unfold mSt; rw [hn]; dsimp only; rw [if_neg (by omega)])
          · rw [hj, hT, hO, nI_add, pk_rem (by omega) hT0 (by omega), nI_eq (by have := Nat.mod_lt (t0 + j) hT0; omega) (by omega)] at hq
            exact shut _ _ _ (by unfold mSt; rw [hn]; dsimp only; rw [if_pos (Or.inr ⟨h4, hq⟩)])
        · rw [show (4 : Int32) = nI 4 from rfl, nI_eq (by omega) (by decide)] at h4
          exact go _ _ (by unfold mSt; rw [hn]; dsimp only; rw [if_neg (by omega)])
theorem S105 {W H T O : Nat} {K : Nat → Nat} (hL : mLm I W H T O K) {k t d n : Nat} (ho : mOn W H k) (hd : d < 4) (ht : t < 2 ^ 29) (hn : n ≤ 6) : ∃ I' : Nat → Nat → Int32, mFn S 105 [.ref 44, .int (nI k), .int (nI t), .int (nI d), .int (nI n)] (mSH, I, L, mRk b) (some (.int (mRm (mRoll K W H T O n k d t)))) (mSH, I', L, mRk b) ∧ mT30 I I' ∧ I' 44 30 = nI ((mRoll K W H T O n k d t).2.2 - t) := by
  have hk := mOn_lt hL.2.2.2.2.1 ho
  have key : mWp S 105 0 [some (.ref 44), some (.int (nI k)), some (.int (nI t)), some (.int (nI d)), some (.int (nI n)), none, none, none, none, none, none] [] (mSH, I, L, mRk b) (mRlQ I L b t (mRoll K W H T O n k d t)) := by
    refine k105_0 ?_
    rw [show (7 : Int32) = nI 7 from rfl, pk_rem (by omega) (by decide) (by decide), pk_div (by omega) (by decide) (by decide)]
    exact S105_loop hL ht hn n k d 1 (m_up I 44 30 1) _ _ _ _ _ mT30.rf.up m_us ho hd (by decide) (by omega)
  obtain ⟨r, w1, hf, I', rfl, rfl, h1, h2⟩ := ex105 key
  exact ⟨I', hf, h1, h2⟩
end ROLLS
