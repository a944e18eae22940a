/-! the history and the images -/
theorem S12a_loop {S : mS} {L : mFL} {b : Bool} {i : Nat} (hi : i < 12) : ∀ (n k : Nat) (I : mF), k + n = 4 → mWp S 12 42 [some (.ref (20 + 2 * i)), some (.ref 8), some (.int (nI k))] [] (mSH, I, L, mRk b) (fun r2 w2 => ∃ I' : mF, r2 = none ∧ w2 = (mSH, I', L, mRk b) ∧ (∀ a, a ≠ (21 + 2 * i) → I' a = I a) ∧ (∀ j, j < k → I' (21 + 2 * i) j = I (21 + 2 * i) j) ∧ ∀ j, k ≤ j → j < 4 → I' (21 + 2 * i) j = I 9 j) := by
  intro n
  induction n with
  | zero =>
    intro k I hk
    refine k12_42 (fun _ => k12_65 ⟨I, rfl, rfl, fun _ _ => rfl, fun _ _ => rfl, fun j h1 h2 => by omega⟩) (fun h => ?_)
    rw [show (4 : Int32) = nI 4 from rfl, nI_leI (by decide) (by omega)] at h
    omega
  | succ n ih =>
    intro k I hk
    refine k12_42 (fun h => ?_) (fun _ => k12a_47 hi (m_okN (by omega) (by decide)) ?_)
    · rw [show (4 : Int32) = nI 4 from rfl, nI_leI (by decide) (by omega)] at h
      omega
    · rw [nI_1, nI_clamp (by omega)]
      refine mWp_mono (ih (k + 1) _ (by omega)) ?_
      rintro r w' ⟨I', rfl, rfl, h1, h2, h3⟩
      refine ⟨I', rfl, rfl, fun a ha => by rw [h1 a ha, m_up_ne ha], fun j hj => by rw [h2 j (by omega), m_un (by omega)], fun j h4 h5 => ?_⟩
      by_cases q : j = k
      · subst q
        rw [h2 j (by omega), m_us]
      · rw [h3 j (by omega) h5, m_ux (by omega)]
theorem S12a {S : mS} {I : mF} {L : mFL} {b : Bool} {i : Nat} (hi : i < 12) {s : mY} (h : mXY s 8 I L) : ∃ (I' : mF) (L' : mFL), mFn S 12 [.ref (20 + 2 * i), .ref 8] (mSH, I, L, mRk b) none (mSH, I', L', mRk b) ∧ mXY s (20 + 2 * i) I' L' ∧ ∀ a, a ≠ (20 + 2 * i) → a ≠ (21 + 2 * i) → I' a = I a ∧ L' a = L a := by
  obtain ⟨r, w1, hf, I', rfl, rfl, h1, h2, h3⟩ := ex12 (k12a_0 hi (S12a_loop (S := S) (b := b) hi 4 0 (m_up (m_up (m_up (m_up I (20 + 2 * i) 0 (I 8 0)) (20 + 2 * i) 2 (I 8 2)) (20 + 2 * i) 1 (I 8 1)) (20 + 2 * i) 3 (I 8 3)) rfl))
  refine ⟨I', _, hf, ?_, fun a ha hb => ⟨by rw [h1 a hb, m_up_ne ha, m_up_ne ha, m_up_ne ha, m_up_ne ha], m_up_ne ha⟩⟩
  have e1 : (20 + 2 * i) + 1 = (21 + 2 * i) := by omega
  have e2 : 8 + 1 = 9 := by omega
  obtain ⟨g0, g1, g2, g3, g4, g5⟩ := h
  rw [e2] at g4
  have hne : I' (20 + 2 * i) = _ := h1 (20 + 2 * i) (by omega)
  unfold mXY
  rw [e1, hne]
  refine ⟨?_, ?_, ?_, ?_, fun q hq => ?_, ?_⟩
  · rw [m_un (by decide), m_un (by decide), m_un (by decide), m_us]; exact g0
  · rw [m_un (by decide), m_us]; exact g1
  · rw [m_un (by decide), m_un (by decide), m_us]; exact g2
  · rw [m_us]; exact g3
  · rw [h3 q (by omega) hq, m_ux (by omega), m_ux (by omega), m_ux (by omega), m_ux (by omega)]
    exact g4 q hq
  · rw [m_us]; exact g5
theorem S12b_loop {S : mS} {L : mFL} {b : Bool} {i : Nat} (hi : i < 12) : ∀ (n k : Nat) (I : mF), k + n = 4 → mWp S 12 42 [some (.ref 8), some (.ref (20 + 2 * i)), some (.int (nI k))] [] (mSH, I, L, mRk b) (fun r2 w2 => ∃ I' : mF, r2 = none ∧ w2 = (mSH, I', L, mRk b) ∧ (∀ a, a ≠ 9 → I' a = I a) ∧ (∀ j, j < k → I' 9 j = I 9 j) ∧ ∀ j, k ≤ j → j < 4 → I' 9 j = I (21 + 2 * i) j) := by
  intro n
  induction n with
  | zero =>
    intro k I hk
    refine k12_42 (fun _ => k12_65 ⟨I, rfl, rfl, fun _ _ => rfl, fun _ _ => rfl, fun j h1 h2 => by omega⟩) (fun h => ?_)
    rw [show (4 : Int32) = nI 4 from rfl, nI_leI (by decide) (by omega)] at h
    omega
  | succ n ih =>
    intro k I hk
    refine k12_42 (fun h => ?_) (fun _ => k12b_47 hi (m_okN (by omega) (by decide)) ?_)
    · rw [show (4 : Int32) = nI 4 from rfl, nI_leI (by decide) (by omega)] at h
      omega
    · rw [nI_1, nI_clamp (by omega)]
      refine mWp_mono (ih (k + 1) _ (by omega)) ?_
      rintro r w' ⟨I', rfl, rfl, h1, h2, h3⟩
      refine ⟨I', rfl, rfl, fun a ha => by rw [h1 a ha, m_up_ne ha], fun j hj => by rw [h2 j (by omega), m_un (by omega)], fun j h4 h5 => ?_⟩
      by_cases q : j = k
      · subst q
        rw [h2 j (by omega), m_us]
      · rw [h3 j (by omega) h5, m_ux (by omega)]
theorem S12b {S : mS} {I : mF} {L : mFL} {b : Bool} {i : Nat} (hi : i < 12) {s : mY} (h : mXY s (20 + 2 * i) I L) : ∃ (I' : mF) (L' : mFL), mFn S 12 [.ref 8, .ref (20 + 2 * i)] (mSH, I, L, mRk b) none (mSH, I', L', mRk b) ∧ mXY s 8 I' L' ∧ ∀ a, a ≠ 8 → a ≠ 9 → I' a = I a ∧ L' a = L a := by
  obtain ⟨r, w1, hf, I', rfl, rfl, h1, h2, h3⟩ := ex12 (k12b_0 hi (S12b_loop (S := S) (b := b) hi 4 0 (m_up (m_up (m_up (m_up I 8 0 (I (20 + 2 * i) 0)) 8 2 (I (20 + 2 * i) 2)) 8 1 (I (20 + 2 * i) 1)) 8 3 (I (20 + 2 * i) 3)) rfl))
  refine ⟨I', _, hf, ?_, fun a ha hb => ⟨by rw [h1 a hb, m_up_ne ha, m_up_ne ha, m_up_ne ha, m_up_ne ha], m_up_ne ha⟩⟩
  have e1 : 8 + 1 = 9 := by omega
  have e2 : (20 + 2 * i) + 1 = (21 + 2 * i) := by omega
  obtain ⟨g0, g1, g2, g3, g4, g5⟩ := h
  rw [e2] at g4
  have hne : I' 8 = _ := h1 8 (by omega)
  unfold mXY
  rw [e1, hne]
  refine ⟨?_, ?_, ?_, ?_, fun q hq => ?_, ?_⟩
  · rw [m_un (by decide), m_un (by decide), m_un (by decide), m_us]; exact g0
  · rw [m_un (by decide), m_us]; exact g1
  · rw [m_un (by decide), m_un (by decide), m_us]; exact g2
  · rw [m_us]; exact g3
  · rw [h3 q (by omega) hq, m_ux (by omega), m_ux (by omega), m_ux (by omega), m_ux (by omega)]
    exact g4 q hq
  · rw [m_us]; exact g5
theorem mPr_ne {A B la lb : Nat} (hp : mPr A B la lb) : A ≠ B ∧ la < 1000 ∧ lb < 1000 := by
  unfold mPr at hp
  omega
theorem S90_loop {S : mS} {L : mFL} {b : Bool} {A B la lb : Nat} (hp : mPr A B la lb) {x y : Nat} (hx : x + 57 ≤ la) (hy : y + 57 ≤ lb) : ∀ (n k : Nat) (I : mF), k + n = 57 → mWp S 90 3 [some (.ref A), some (.int (nI x)), some (.ref B), some (.int (nI y)), some (.int (nI k))] [] (mSH, I, L, mRk b) (fun r2 w2 => ∃ I' : mF, r2 = none ∧ w2 = (mSH, I', L, mRk b) ∧ (∀ a, a ≠ A → I' a = I a) ∧ (∀ j, j < x + k ∨ x + 57 ≤ j → I' A j = I A j) ∧ ∀ j, k ≤ j → j < 57 → I' A (x + j) = I B (y + j)) := by
  obtain ⟨hne, h1000, h1001⟩ := mPr_ne hp
  intro n
  induction n with
  | zero =>
    intro k I hk
    refine k90_3 (fun _ => k90_28 ⟨I, rfl, rfl, fun _ _ => rfl, fun _ _ => rfl, fun j h1 h2 => by omega⟩) (fun h => ?_)
    rw [show (57 : Int32) = nI 57 from rfl, nI_leI (by decide) (by omega)] at h
    omega
  | succ n ih =>
    intro k I hk
    refine k90_3 (fun h => ?_) (fun _ => k90_10 hp (by rw [nI_add]; exact m_okN (by omega) (by omega)) (by rw [nI_add]; exact m_okN (by omega) (by omega)) ?_)
    · rw [show (57 : Int32) = nI 57 from rfl, nI_leI (by decide) (by omega)] at h
      omega
    · rw [nI_1, nI_add, nI_add, nI_clamp (by omega), nI_clamp (by omega)]
      refine mWp_mono (ih (k + 1) _ (by omega)) ?_
      rintro r w' ⟨I', rfl, rfl, h1, h2, h3⟩
      refine ⟨I', rfl, rfl, fun a ha => by rw [h1 a ha, m_up_ne ha], fun j hj => by rw [h2 j (by omega), m_un (by omega)], fun j h4 h5 => ?_⟩
      by_cases q : j = k
      · subst q
        rw [h2 (x + j) (by omega), m_us]
      · rw [h3 j (by omega) h5, m_ux (Ne.symm hne)]
theorem S90 {S : mS} {I : mF} {L : mFL} {b : Bool} {A B la lb : Nat} (hp : mPr A B la lb) {x y : Nat} (hx : x + 57 ≤ la) (hy : y + 57 ≤ lb) : ∃ I' : mF, mFn S 90 [.ref A, .int (nI x), .ref B, .int (nI y)] (mSH, I, L, mRk b) none (mSH, I', L, mRk b) ∧ (∀ a, a ≠ A → I' a = I a) ∧ (∀ j, j < x ∨ x + 57 ≤ j → I' A j = I A j) ∧ ∀ j, j < 57 → I' A (x + j) = I B (y + j) := by
  obtain ⟨r, w1, hf, I', rfl, rfl, h1, h2, h3⟩ := ex90 (k90_0 (S90_loop (S := S) (L := L) (b := b) hp hx hy 57 0 I rfl))
  exact ⟨I', hf, h1, h2, fun j hj => h3 j (Nat.zero_le _) hj⟩
theorem mMY.cp {G : mG} {s : mY} {A B x y : Nat} {I I' : mF} (h7 : G.W ≤ 7 ∧ G.H ≤ 7) (h : mMY G s B y I) (hc : ∀ k, k < 57 → I' A (x + k) = I B (y + k)) : mMY G s A x I' :=
  ⟨(hc 0 (by decide)).trans h.1, (hc 1 (by decide)).trans h.2.1, (hc 2 (by decide)).trans h.2.2.1, (hc 3 (by decide)).trans h.2.2.2.1, fun q hq => (hc (4 + q) (by omega)).trans (h.2.2.2.2.1 q hq), fun c ho => (hc (8 + c) (by have := mOn_lt h7 ho; omega)).trans (h.2.2.2.2.2 c ho)⟩
/-- one more that is remembered -/
def mPush (h : mH) (s : mY) : mH := if h.1 = 10 then (10, fun i => if i = 9 then s else h.2 (i + 1)) else (h.1 + 1, fun i => if i = h.1 then s else h.2 i)
theorem mPush_w {G : mG} {h : mH} {s : mY} (hh : h.1 ≤ 10 ∧ ∀ i, i < h.1 → mYw G (h.2 i)) (hs : mYw G s) : (mPush h s).1 ≤ 10 ∧ ∀ i, i < (mPush h s).1 → mYw G ((mPush h s).2 i) := by
  unfold mPush
  split
  · next q =>
    refine ⟨Nat.le_refl _, fun i hi => ?_⟩
    dsimp only at hi ⊢
    split
    · exact hs
    · exact hh.2 _ (by omega)
  · next q =>
    refine ⟨by dsimp only; omega, fun i hi => ?_⟩
    dsimp only at hi ⊢
    split
    · exact hs
    · exact hh.2 _ (by omega)
theorem mXI.play {G : mG} {s s' : mY} {h : mH} {im : mJ} {tx : mTx} {la : mLy} {tr : Int64} {b : Bool} {I I' : mF} {L L' : mFL} (hx : mXI G s h im tx la tr b I L) (hs : mXY s' 8 I' L') (hf : ∀ a, a ≠ 8 → a ≠ 9 → I' a = I a ∧ L' a = L a) : mXI G s' h im tx la tr b I' L' := by
  obtain ⟨x1, x2, x3, x4, x5, x6, x7⟩ := hx
  refine ⟨x1.sm ?_, hs, x3.sm ?_ ?_ ?_, x4.sm ?_ ?_, x5.sm ?_ ?_, x6.sm ?_ ?_, ?_⟩
  · rintro a k (rfl | rfl)
    · rw [(hf _ (by cases b <;> decide) (by cases b <;> decide)).1]
    · rw [(hf _ (by cases b <;> decide) (by cases b <;> decide)).1]
  · rw [(hf 1 (by decide) (by decide)).1]
  · rw [(hf 1 (by decide) (by decide)).1]
  · exact fun a h1 h2 => hf a (by omega) (by omega)
  · exact (hf 12 (by decide) (by decide)).1
  · exact fun a h1 h2 => hf a (by omega) (by omega)
  · rw [(hf 2 (by decide) (by decide)).1]
  · exact (hf 3 (by decide) (by decide)).1
  · rw [(hf 1 (by decide) (by decide)).1]
  · exact (hf 13 (by decide) (by decide)).1
  · rw [(hf 1 (by decide) (by decide)).2]; exact x7
theorem mMI.play {G : mG} {s s' : mY} {h : mH} {im : mJ} {tx : mTx} {la : mLy} {tr : Int64} {I I' : mF} {L L' : mFL} (hx : mMI G s h im tx la tr I L) (hs : mMY G s' 45 0 I') (hf : ∀ a k, mRm2 a k → a ≠ 45 → I' a k = I a k) (hl : L' 44 13 = L 44 13) : mMI G s' h im tx la tr I' L' := by
  obtain ⟨x1, x2, x3, x4, x5, x6, x7⟩ := hx
  have hfa : ∀ a, 46 ≤ a → a ≤ 50 → I' a = I a := fun a h1 h2 => funext fun k => hf a k (Or.inr ⟨by omega, h2⟩) (by omega)
  refine ⟨x1.sm ?_, hs, x3.sm ?_ ?_, x4.sm ?_ ?_, x5.sm ?_ ?_, x6.sm ?_ ?_, ?_⟩
  · exact fun k hk => hf 44 k (Or.inl ⟨rfl, Or.inl hk⟩) (by decide)
  · exact hf 44 8 (by unfold mRm2; simp) (by decide)
  · exact hfa 46 (by decide) (by decide)
  · exact hfa 48 (by decide) (by decide)
  · exact hfa 47 (by decide) (by decide)
  · exact hf 44 15 (by unfold mRm2; simp) (by decide)
  · exact hfa 50 (by decide) (by decide)
  · exact hf 44 11 (by unfold mRm2; simp) (by decide)
  · exact hfa 49 (by decide) (by decide)
  · rw [hl]; exact x7
theorem S54 {S : mS} {G : mG} {s : mY} {h : mH} {im : mJ} {tx : mTx} {la : mLy} {tr : Int64} {b : Bool} {I : mF} {L : mFL} (hh : h.1 ≤ 10) (hx : mXI G s h im tx la tr b I L) : ∃ (I' : mF) (L' : mFL), mFn S 54 [.ref 1] (mSH, I, L, mRk b) none (mSH, I', L', mRk b) ∧ mXI G s (mPush h s) im tx la tr b I' L' ∧ ∀ a, (a < 20 ∨ 40 ≤ a) → a ≠ 1 → I' a = I a ∧ L' a = L a := by
  obtain ⟨x1, x2, ⟨pn, hpn, p5, p6, pi⟩, x4, x5, x6, x7⟩ := hx
  obtain ⟨I1, L1, f1, y1, fr⟩ := S12a (S := S) (b := b) (i := pn) (by omega) x2
  have fI : ∀ a, (a < 20 ∨ 40 ≤ a) → I1 a = I a := fun a ha => (fr a (by omega) (by omega)).1
  have fL : ∀ a, (a < 20 ∨ 40 ≤ a) → L1 a = L a := fun a ha => (fr a (by omega) (by omega)).2
  have e5 : I1 1 5 + 1 - (I1 1 5 + 1) / 10 * 10 = nI ((pn + 1) % 10) := by
    rw [fI 1 (by decide), p5, nI_1]
    exact pk_rem (d := 10) (by omega) (by decide) (by decide)
  have e6 : (if I1 1 6 + 1 < 10 then I1 1 6 + 1 else 10) = nI (mPush h s).1 := by
    rw [fI 1 (by decide), p6, nI_1, show (10 : Int32) = nI 10 from rfl]
    unfold mPush
    by_cases q : h.1 = 10
    · rw [if_pos q, if_neg (by rw [nI_ltI (by omega) (by decide)]; omega)]
    · rw [if_neg q]
      by_cases q2 : h.1 + 1 < 10
      · rw [if_pos (by rw [nI_ltI (by omega) (by decide)]; exact q2)]
      · rw [if_neg (by rw [nI_ltI (by omega) (by decide)]; exact q2)]
        congr 1
        dsimp only
        omega
  have f2 : mFn S 54 [.ref 1] (mSH, I, L, mRk b) none (mSH, m_up (m_up I1 1 5 (nI ((pn + 1) % 10))) 1 6 (nI (mPush h s).1), L1, mRk b) := by
    refine e54 (k54_0 ?_)
    rw [p5]
    refine k54_8 hpn (c54_13 hpn f1 (k54_16 ⟨rfl, ?_⟩))
    rw [e5, e6]
  refine ⟨_, L1, f2, ⟨x1.sm ?_, x2.sm ?_ ?_ ?_, ⟨(pn + 1) % 10, Nat.mod_lt _ (by decide), ?_, m_us, fun i hi => ?_⟩, x4.sm ?_ ?_, x5.sm ?_ ?_, x6.sm ?_ ?_, ?_⟩, fun a ha hb => ⟨?_, fL a ha⟩⟩
  · rintro a k (rfl | rfl)
    · rw [m_ux (by cases b <;> decide), m_ux (by cases b <;> decide), fI _ (by cases b <;> decide)]
    · rw [m_ux (by cases b <;> decide), m_ux (by cases b <;> decide), fI _ (by cases b <;> decide)]
  · rw [m_up_ne (by decide), m_up_ne (by decide), fI _ (by decide)]
  · rw [m_up_ne (by decide), m_up_ne (by decide), fI _ (by decide)]
  · rw [fL _ (by decide)]
  · rw [m_un (by decide), m_us]
  · -- what is remembered
    have old : ∀ j, j < h.1 → (pn + 10 - h.1 + j) % 10 ≠ pn → mXY (h.2 j) (20 + 2 * ((pn + 10 - h.1 + j) % 10)) (m_up (m_up I1 1 5 (nI ((pn + 1) % 10))) 1 6 (nI (mPush h s).1)) L1 := by
      intro j hj hne
      refine (pi j hj).sm ?_ ?_ ?_
      · rw [m_up_ne (by omega), m_up_ne (by omega), (fr _ (by omega) (by omega)).1]
      · rw [m_up_ne (by omega), m_up_ne (by omega), (fr _ (by omega) (by omega)).1]
      · rw [(fr _ (by omega) (by omega)).2]
    have new : mXY s (20 + 2 * pn) (m_up (m_up I1 1 5 (nI ((pn + 1) % 10))) 1 6 (nI (mPush h s).1)) L1 := y1.sm (by rw [m_up_ne (by omega), m_up_ne (by omega)]) (by rw [m_up_ne (by omega), m_up_ne (by omega)]) rfl
    generalize m_up (m_up I1 1 5 (nI ((pn + 1) % 10))) 1 6 (nI (mPush h s).1) = J at old new
    revert hi
    unfold mPush
    split
    · next q =>
      dsimp only
      intro hi
      by_cases q2 : i = 9
      · rw [if_pos q2, show ((pn + 1) % 10 + 10 - 10 + i) % 10 = pn by omega]
        exact new
      · rw [if_neg q2]
        have := old (i + 1) (by omega) (by omega)
        rw [show (pn + 10 - h.1 + (i + 1)) % 10 = ((pn + 1) % 10 + 10 - 10 + i) % 10 by omega] at this
        exact this
    · next q =>
      dsimp only
      intro hi
      by_cases q2 : i = h.1
      · rw [if_pos q2, show ((pn + 1) % 10 + 10 - (h.1 + 1) + i) % 10 = pn by omega]
        exact new
      · rw [if_neg q2]
        have := old i (by omega) (by omega)
        rw [show (pn + 10 - h.1 + i) % 10 = ((pn + 1) % 10 + 10 - (h.1 + 1) + i) % 10 by omega] at this
        exact this
  · rw [m_up_ne (by decide), m_up_ne (by decide), fI _ (by decide)]
  · exact fun a h1 h2 => ⟨by rw [m_up_ne (by omega), m_up_ne (by omega), fI _ (by omega)], fL _ (by omega)⟩
  · rw [m_ux (by decide), m_ux (by decide), fI _ (by decide)]
  · rw [m_up_ne (by decide), m_up_ne (by decide), fI _ (by decide)]
  · rw [m_un (by decide), m_un (by decide), fI _ (by decide)]
  · rw [m_up_ne (by decide), m_up_ne (by decide), fI _ (by decide)]
  · rw [fL _ (by decide)]; exact x7
  · rw [m_up_ne hb, m_up_ne hb, fI _ ha]
theorem S112_shift {S : mS} {L : mFL} {b : Bool} {o0 : Option Value} {Q : Option Value → mW → Prop} : ∀ (n k : Nat) (I : mF), k + n = 513 → (∀ I' : mF, (∀ a, a ≠ 46 → I' a = I a) → (∀ j, j < k → I' 46 j = I 46 j) → (∀ j, k ≤ j → j < 513 → I' 46 j = I 46 (j + 57)) → (∀ x1 : Int32, mWp S 112 39 [some (.ref 44), some (.int x1)] [] (mSH, I', L, mRk b) Q)) → mWp S 112 11 [some (.ref 44), some (.int (nI k))] [] (mSH, I, L, mRk b) Q := by
  intro n
  induction n with
  | zero =>
    intro k I hk hQ
    refine k112_11 (fun _ => hQ I (fun _ _ => rfl) (fun _ _ => rfl) (fun j h1 h2 => by omega) _) (fun h => ?_)
    rw [show (513 : Int32) = nI 513 from rfl, nI_leI (by decide) (by omega)] at h
    omega
  | succ n ih =>
    intro k I hk hQ
    have e57 : nI k + 57 = nI (k + 57) := nI_add k 57
    refine k112_11 (fun h => ?_) (fun _ => k112_18 (by rw [e57]; exact m_okN (by omega) (by decide)) (m_okN (by omega) (by decide)) ?_)
    · rw [show (513 : Int32) = nI 513 from rfl, nI_leI (by decide) (by omega)] at h
      omega
    · rw [nI_1, e57, nI_clamp (by omega), nI_clamp (by omega)]
      refine ih (k + 1) _ (by omega) (fun I' h1 h2 h3 x1 => hQ I' (fun a ha => by rw [h1 a ha, m_up_ne ha]) (fun j hj => by rw [h2 j (by omega), m_un (by omega)]) (fun j h4 h5 => ?_) x1)
      by_cases q : j = k
      · subst q
        rw [h2 j (by omega), m_us]
      · rw [h3 j (by omega) h5, m_un (by omega)]
theorem S112 {S : mS} {G : mG} {s : mY} {h : mH} {im : mJ} {tx : mTx} {la : mLy} {tr : Int64} {b : Bool} {I : mF} {L : mFL} (h7 : G.W ≤ 7 ∧ G.H ≤ 7) (hh : h.1 ≤ 10) (hx : mMI G s h im tx la tr I L) : ∃ I' : mF, mFn S 112 [.ref 44] (mSH, I, L, mRk b) none (mSH, I', L, mRk b) ∧ mMI G s (mPush h s) im tx la tr I' L ∧ (∀ a, a ≠ 44 → a ≠ 46 → I' a = I a) ∧ ∀ k, k ≠ 8 → I' 44 k = I 44 k := by
  obtain ⟨x1, x2, ⟨p8, pi⟩, x4, x5, x6, x7⟩ := hx
  -- from 49 on
  have last : ∀ (n : Nat) (hs : Nat → mY) (J : mF) (o1 : Option Value), n < 10 → (∀ a, a ≠ 44 → a ≠ 46 → J a = I a) → (∀ k, k ≠ 8 → J 44 k = I 44 k) → J 44 8 = nI n → (∀ i, i < n → mMY G (hs i) 46 (57 * i) J) → mPush h s = (n + 1, fun i => if i = n then s else hs i) →
      mWp S 112 49 [some (.ref 44), o1] [] (mSH, J, L, mRk b) (fun r2 w2 => ∃ I' : mF, r2 = none ∧ w2 = (mSH, I', L, mRk b) ∧ mMI G s (mPush h s) im tx la tr I' L ∧ (∀ a, a ≠ 44 → a ≠ 46 → I' a = I a) ∧ ∀ k, k ≠ 8 → I' 44 k = I 44 k) := by
    intro n hs J o1 hn j1 j2 j3 j4 hp
    obtain ⟨I1, f1, g1, g2, g3⟩ := S90 (S := S) (I := J) (L := L) (b := b) (A := 46) (B := 45) (la := 570) (lb := 57) (Or.inl ⟨rfl, rfl, rfl, rfl⟩) (x := 57 * n) (y := 0) (by omega) (by omega)
    refine k112_49 ?_
    rw [j3, show (57 : Int32) = nI 57 from rfl, pk_mul]
    refine c112_65 f1 (k112_68 ⟨_, rfl, rfl, ?_, ?_, ?_⟩)
    · rw [g1 44 (by decide), j3, nI_1, hp]
      have hj : ∀ a, a ≠ 44 → a ≠ 46 → I1 a = I a := fun a h1 h2 => (g1 a h2).trans (j1 a h1 h2)
      have hj4 : ∀ k, k ≠ 8 → I1 44 k = I 44 k := fun k hk => by rw [g1 44 (by decide)]; exact j2 k hk
      refine ⟨x1.sm ?_, x2.sm ?_, ⟨m_us, fun i hi => ?_⟩, x4.sm ?_ ?_, x5.sm ?_ ?_, x6.sm ?_ ?_, x7⟩
      · exact fun k hk => by rw [m_un (by omega), hj4 k (by omega)]
      · rw [m_up_ne (by decide), hj 45 (by decide) (by decide)]
      · have hi : i < n + 1 := hi
        dsimp only
        by_cases q : i = n
        · subst q
          rw [if_pos rfl]
          refine (mMY.cp h7 x2 (fun k hk => ?_)).sm (m_up_ne (by decide))
          rw [g3 k hk, j1 45 (by decide) (by decide)]
        · rw [if_neg q]
          refine (mMY.cp (A := 46) (x := 57 * i) (I' := I1) h7 (j4 i (by omega)) (fun k hk => ?_)).sm (m_up_ne (by decide))
          exact g2 _ (by omega)
      · rw [m_up_ne (by decide), hj 48 (by decide) (by decide)]
      · rw [m_up_ne (by decide), hj 47 (by decide) (by decide)]
      · rw [m_un (by decide), hj4 15 (by decide)]
      · rw [m_up_ne (by decide), hj 50 (by decide) (by decide)]
      · rw [m_un (by decide), hj4 11 (by decide)]
      · rw [m_up_ne (by decide), hj 49 (by decide) (by decide)]
    · exact fun a h1 h2 => by rw [m_up_ne h1, g1 a h2, j1 a h1 h2]
    · exact fun k hk => by rw [m_un hk, g1 44 (by decide), j2 k hk]
  have key : mWp S 112 0 [some (.ref 44), none] [] (mSH, I, L, mRk b) (fun r2 w2 => ∃ I' : mF, r2 = none ∧ w2 = (mSH, I', L, mRk b) ∧ mMI G s (mPush h s) im tx la tr I' L ∧ (∀ a, a ≠ 44 → a ≠ 46 → I' a = I a) ∧ ∀ k, k ≠ 8 → I' 44 k = I 44 k) := by
    refine k112_0 (fun q => ?_) (fun q => ?_)
    · rw [p8, show (10 : Int32) = nI 10 from rfl, nI_eq (by omega) (by decide)] at q
      refine k112_9 (S112_shift (o0 := none) 513 0 I rfl (fun I1 g1 g2 g3 x1 => k112_39 ?_))
      have e9 : I1 44 8 - 1 = nI 9 := by
        rw [g1 44 (by decide), p8, q]
        rfl
      rw [e9]
      refine last 9 (fun i => h.2 (i + 1)) _ _ (by decide) ?_ ?_ m_us ?_ ?_
      · exact fun a h1 h2 => by rw [m_up_ne h1, g1 a h2]
      · exact fun k hk => by rw [m_un hk, g1 44 (by decide)]
      · intro i hi
        refine (mMY.cp (A := 46) (x := 57 * i) (I' := I1) h7 (pi (i + 1) (by omega)) (fun k hk => ?_)).sm (m_up_ne (by decide))
        rw [g3 _ (by omega) (by omega)]
        congr 1
        omega
      · unfold mPush
        rw [if_pos q]
    · rw [p8, show (10 : Int32) = nI 10 from rfl, nI_eq (by omega) (by decide)] at q
      refine last h.1 h.2 I none (by omega) (fun _ _ _ => rfl) (fun _ _ => rfl) p8 pi ?_
      unfold mPush
      rw [if_neg q]
  obtain ⟨r, w1, hf, I', rfl, rfl, h1, h2, h3⟩ := ex112 key
  exact ⟨I', hf, h1, h2, h3⟩
