/-! the calls without a roll: type, clear, cell, score, count, trace, forget, lay -/
theorem mIn_neg {x hi : Int32} {l : Nat} (h : x < 0) (hl : l < 2 ^ 31) : mIn x (nI l) hi = 0 := by
  unfold mIn
  rw [if_pos]
  rw [Int32.lt_iff_toInt_lt, Int32.toInt_zero] at h
  rw [Int32.lt_iff_toInt_lt, nI_toInt hl]
  omega
theorem mIn_n {k l h : Nat} (hk : k < 2 ^ 31) (hl : l < 2 ^ 31) (hh : h < 2 ^ 31) : mIn (nI k) (nI l) (nI h) = if l ≤ k ∧ k ≤ h then 1 else 0 := by
  unfold mIn
  by_cases q : k < l
  · rw [if_pos ((nI_ltI hk hl).mpr q), if_neg (by omega)]
  · rw [if_neg (fun h => q ((nI_ltI hk hl).mp h))]
    by_cases q2 : h < k
    · rw [if_pos ((nI_ltI hh hk).mpr q2), if_neg (by omega)]
    · rw [if_neg (fun h => q2 ((nI_ltI hh hk).mp h)), if_pos (by omega)]
theorem mPlace_some {W H p : Nat} {x y : Int32} (h7 : W ≤ 7 ∧ H ≤ 7) (h : mPlace W H x y = some p) : ∃ i j, x = nI i ∧ y = nI j ∧ i < W ∧ j < H ∧ p = 7 * j + i := by
  rcases nI_or x with q | ⟨i, hi, rfl⟩
  · rw [mPlace_x q] at h; cases h
  · rcases nI_or y with q | ⟨j, hj, rfl⟩
    · rw [mPlace_y q] at h; cases h
    · rw [mPlace_n hi hj] at h
      split at h
      · next q =>
        cases h
        exact ⟨i, j, rfl, rfl, q.1, q.2, rfl⟩
      · cases h
theorem mPlace_on {W H p : Nat} {x y : Int32} (h7 : W ≤ 7 ∧ H ≤ 7) (h : mPlace W H x y = some p) : mOn W H p := by
  obtain ⟨i, j, -, -, h1, h2, rfl⟩ := mPlace_some h7 h
  dsimp only [mOn]
  omega
theorem mK5 {g : Nat → Nat} {y : Int64} {k : Nat} (h : g k < 5) : mK g y k < 5 := by
  unfold mK
  split
  · decide
  · exact h
theorem mXL.lw {G : mG} {b : Bool} {I : mF} (h : mXL G b I) (hg : mGw G) : mLw I b G.W G.H G.T G.O G.g :=
  ⟨h.1, h.2.1, h.2.2.1, h.2.2.2.1, hg.1, hg.2.1, hg.2.2.1, hg.2.2.2.1, fun k hk => ⟨h.2.2.2.2.2.2 k hk, (hg.2.2.2.2.2.2 k hk).2⟩⟩
theorem mMY.at {G : mG} {s : mY} {I : mF} (h : mMY G s 45 0 I) {c : Nat} (hc : mOn G.W G.H c) : I 45 (8 + c) = nI (mK G.g s.y c) := by
  have := h.2.2.2.2.2 c hc
  rw [Nat.zero_add] at this
  exact this
theorem mMY.lm {G : mG} {s : mY} {I : mF} (h : mMY G s 45 0 I) (hl : mML G I) (hg : mGw G) : mLm I G.W G.H G.T G.O (mK G.g s.y) :=
  ⟨hl.1, hl.2.1, hl.2.2.1, hl.2.2.2.1, hg.1, hg.2.1, hg.2.2.1, hg.2.2.2.1, fun k hk => ⟨h.at hk, mK5 (hg.2.2.2.2.2.2 k (mOn_lt hg.1 hk)).2⟩⟩
theorem m_narT : ∀ k, k < 256 → vp_nar .char (((nI k).toUInt32 % 65536).toInt32) = nI k := by decide +kernel
section SIMPLE
variable {S : mS}
theorem Cs_type (x : Int32) : mCs S 42 92 [.int x] := by
  refine mCs_of fun G s h im tx la tr I L b hw hx hm => ?_
  obtain ⟨n, tl⟩ := tx
  have hn : n ≤ 150 := hw.2.2.2.2.1.1
  have hc := hw.2.2.2.2.1.2
  have bad : x < 0 ∨ (∃ k, k < 2 ^ 31 ∧ x = nI k ∧ ¬ k ≤ 255) → (mIn x 0 255 = 0 ∧ mFn S 42 [.ref 1, .int x] (mSH, I, L, mRk b) (some (.int (-1))) (mSH, I, L, mRk b)) := by
    rintro (q | ⟨k, hk, rfl, hk2⟩)
    · exact ⟨mIn_neg q (l := 0) (by decide), e42 (k42_0 (fun _ => k42_11 ⟨rfl, rfl⟩) (fun h => absurd q h))⟩
    · refine ⟨?_, e42 (k42_0 (fun _ => k42_11 ⟨rfl, rfl⟩) (fun _ => k42_4 (fun q => ?_) (fun q => k42_11 ⟨rfl, rfl⟩)))⟩
      · show mIn (nI k) (nI 0) (nI 255) = 0
        rw [mIn_n hk (by decide) (by decide), if_neg (by omega)]
      · rw [show (255 : Int32) = nI 255 from rfl, nI_leI hk (by decide)] at q
        omega
  by_cases hb : x < 0 ∨ (∃ k, k < 2 ^ 31 ∧ x = nI k ∧ ¬ k ≤ 255)
  · obtain ⟨e1, f1⟩ := bad hb
    refine ⟨.int (-1), G, s, h, im, (n, tl), la, tr, hw, ⟨I, L, f1, hx, mFx.rf⟩, fun I1 L1 hm1 => ⟨I1, L1, e92 (k92_0 (c92_5 (S88 _ _ _) ?_)), hm1, mFm.rf⟩⟩
    rw [e1]
    exact k92_8 (fun _ => k92_11 ⟨rfl, rfl⟩) (fun h => absurd rfl h)
  · obtain ⟨k, hk, rfl⟩ := nI_of (fun q => hb (Or.inl q))
    have hk2 : k ≤ 255 := by
      by_cases q : k ≤ 255
      · exact q
      · exact absurd (Or.inr ⟨k, hk, rfl, q⟩) hb
    have e1 : mIn (nI k) 0 255 = 1 := by
      show mIn (nI k) (nI 0) (nI 255) = 1
      rw [mIn_n hk (by decide) (by decide), if_pos (by omega)]
    have hl : I 2 1 = nI n := hx.2.2.2.2.1.1
    by_cases hf : n = 150
    · refine ⟨.int (-3), G, s, h, im, (n, tl), la, tr, hw, ⟨I, L, e42 (k42_0 (fun q => absurd q (nI_pos hk)) (fun _ => k42_4 (fun _ => k42_13 ?_) (fun q => ?_))), hx, mFx.rf⟩, fun I1 L1 hm1 => ⟨I1, L1, e92 (k92_0 (c92_5 (S88 _ _ _) ?_)), hm1, mFm.rf⟩⟩
      · refine c42_19 (e29 (k29_0 (fun q => ?_) (fun _ => k29_10 ⟨rfl, rfl⟩))) (k42_22 (fun _ => k42_35 (k42_37 ⟨rfl, rfl⟩)) (fun q => absurd rfl q))
        rw [hl, show (150 : Int32) = nI 150 from rfl, nI_ltI (by omega) (by decide)] at q
        omega
      · rw [show (255 : Int32) = nI 255 from rfl, nI_leI hk (by decide)] at q
        omega
      · rw [e1]
        refine k92_8 (fun q => absurd q (by decide)) (fun _ => k92_13 (fun _ => k92_23 ⟨rfl, rfl⟩) (fun q => ?_))
        rw [hm1.2.2.2.2.1.1, show (150 : Int32) = nI 150 from rfl, nI_eq (by dsimp only; omega) (by decide)] at q
        exact absurd hf q
    · let tx' : mTx := (n + 1, fun j => if j = n then k else tl j)
      have hw' : mWf G s h im tx' la := by
        refine ⟨hw.1, hw.2.1, hw.2.2.1, hw.2.2.2.1, ⟨by show n + 1 ≤ 150; omega, fun i hi => ?_⟩, hw.2.2.2.2.2⟩
        show (if i = n then k else tl i) < 256
        have hi : i < n + 1 := hi
        split
        · omega
        · exact hc i (by show i < n; omega)
      refine ⟨.int (nI (n + 1)), G, s, h, im, tx', la, tr, hw', ⟨m_up (m_up I 3 n (nI k)) 2 1 (nI (n + 1)), L, e42 (k42_0 (fun q => absurd q (nI_pos hk)) (fun _ => k42_4 (fun _ => k42_13 ?_) (fun q => ?_))), ?_, (mFx.rf.up (by decide)).up (by decide)⟩, fun I1 L1 hm1 => ⟨m_up (m_up I1 50 n (nI k)) 44 15 (nI (n + 1)), L1, e92 (k92_0 (c92_5 (S88 _ _ _) ?_)), ?_, (mFm.rf.up (by decide)).up (by decide)⟩⟩
      · refine c42_19 (e29 (r := some (.int 1)) (w1 := (mSH, m_up (m_up I 3 n (nI k)) 2 1 (nI (n + 1)), L, mRk b)) (k29_0 (fun q => ?_) (fun q => ?_))) (k42_22 (fun q => absurd q (by decide)) (fun _ => k42_25 (k42_37 ⟨by rw [m_us], rfl⟩)))
        · refine k29_12 (by rw [hl]; exact m_okN (by omega) (by decide)) ⟨rfl, ?_⟩
          rw [hl, nI_1, nI_clamp (by omega), m_narT k (by omega)]
        · rw [hl, show (150 : Int32) = nI 150 from rfl, nI_ltI (by omega) (by decide)] at q
          omega
      · rw [show (255 : Int32) = nI 255 from rfl, nI_leI hk (by decide)] at q
        omega
      · obtain ⟨x1, x2, x3, x4, x5, x6, x7⟩ := hx
        refine ⟨x1.sm ?_, x2.sm rfl rfl rfl, x3.sm rfl rfl ?_, x4.sm rfl ?_, ⟨m_us, fun i hi => ?_⟩, x6.sm rfl rfl, x7⟩
        · rintro a k (rfl | rfl)
          · rw [m_ux (by cases b <;> decide), m_ux (by cases b <;> decide)]
          · rw [m_ux (by cases b <;> decide), m_ux (by cases b <;> decide)]
        · exact fun a h1 h2 => ⟨by rw [m_up_ne (by omega), m_up_ne (by omega)], rfl⟩
        · exact fun a h1 h2 => ⟨by rw [m_up_ne (by omega), m_up_ne (by omega)], rfl⟩
        · have hi : i < n + 1 := hi
          show m_up (m_up I 3 n (nI k)) 2 1 (nI (n + 1)) 3 i = nI (if i = n then k else tl i)
          rw [m_ux (by decide)]
          by_cases q : i = n
          · subst q
            rw [m_us, if_pos rfl]
          · rw [m_un q, if_neg q]
            exact x5.2 i (by show i < n; omega)
      · rw [e1]
        refine k92_8 (fun q => absurd q (by decide)) (fun _ => k92_13 (fun q => ?_) (fun _ => k92_26 ?_ ⟨?_, ?_⟩))
        · rw [hm1.2.2.2.2.1.1, show (150 : Int32) = nI 150 from rfl, nI_eq (by dsimp only; omega) (by decide)] at q
          exact absurd q hf
        · rw [hm1.2.2.2.2.1.1]
          exact m_okN (by dsimp only; omega) (by decide)
        · rw [hm1.2.2.2.2.1.1, nI_1]
        · rw [hm1.2.2.2.2.1.1, nI_1, nI_clamp (by dsimp only; omega)]
      · obtain ⟨x1, x2, x3, x4, x5, x6, x7⟩ := hm1
        refine ⟨x1.sm ?_, x2.sm rfl, x3.sm rfl rfl, x4.sm rfl rfl, ⟨m_us, fun i hi => ?_⟩, x6.sm rfl rfl, x7⟩
        · exact fun k hk => by rw [m_un (by omega), m_ux (by decide)]
        · have hi : i < n + 1 := hi
          show m_up (m_up I1 50 n (nI k)) 44 15 (nI (n + 1)) 50 i = nI (if i = n then k else tl i)
          rw [m_ux (by decide)]
          by_cases q : i = n
          · subst q
            rw [m_us, if_pos rfl]
          · rw [m_un q, if_neg q]
            exact x5.2 i (by show i < n; omega)
theorem Cs_clear : mCs S 43 93 [] := by
  refine mCs_of fun G s h im tx la tr I L b hw hx hm => ?_
  have hw' : mWf G s h im (0, tx.2) la := ⟨hw.1, hw.2.1, hw.2.2.1, hw.2.2.2.1, ⟨Nat.zero_le _, fun i hi => absurd hi (Nat.not_lt_zero i)⟩, hw.2.2.2.2.2⟩
  refine ⟨.int (nI tx.1), G, s, h, im, (0, tx.2), la, tr, hw', ⟨m_up I 2 1 0, L, e43 (k43_0 ⟨by rw [hx.2.2.2.2.1.1], rfl⟩), ?_, mFx.rf.up (by decide)⟩, fun I1 L1 hm1 => ⟨m_up I1 44 15 0, L1, e93 (k93_0 ⟨by rw [hm1.2.2.2.2.1.1], rfl⟩), ?_, mFm.rf.up (by decide)⟩⟩
  · obtain ⟨x1, x2, x3, x4, x5, x6, x7⟩ := hx
    refine ⟨x1.sm ?_, x2.sm rfl rfl rfl, x3.sm rfl rfl ?_, x4.sm rfl ?_, ⟨m_us, fun i hi => absurd hi (Nat.not_lt_zero i)⟩, x6.sm rfl rfl, x7⟩
    · rintro a k (rfl | rfl)
      · rw [m_ux (by cases b <;> decide)]
      · rw [m_ux (by cases b <;> decide)]
    · exact fun a h1 h2 => ⟨by rw [m_up_ne (by omega)], rfl⟩
    · exact fun a h1 h2 => ⟨by rw [m_up_ne (by omega)], rfl⟩
  · obtain ⟨x1, x2, x3, x4, x5, x6, x7⟩ := hm1
    refine ⟨x1.sm ?_, x2.sm rfl, x3.sm rfl rfl, x4.sm rfl rfl, ⟨m_us, fun i hi => absurd hi (Nat.not_lt_zero i)⟩, x6.sm rfl rfl, x7⟩
    exact fun k hk => by rw [m_un (by omega)]
theorem Cs_forget : mCs S 69 132 [] := by
  refine mCs_of fun G s h im tx la tr I L b hw hx hm => ?_
  have hw' : mWf G s h im tx (0, la.2) := ⟨hw.1, hw.2.1, hw.2.2.1, hw.2.2.2.1, hw.2.2.2.2.1, ⟨Nat.zero_le _, fun i c hi => absurd hi (Nat.not_lt_zero i)⟩⟩
  refine ⟨.int (nI la.1), G, s, h, im, tx, (0, la.2), tr, hw', ⟨m_up I 1 10 0, L, e69 (k69_0 ⟨by rw [hx.2.2.2.2.2.1.1], rfl⟩), ?_, mFx.rf.up (by decide)⟩, fun I1 L1 hm1 => ⟨m_up I1 44 11 0, L1, e132 (k132_0 ⟨by rw [hm1.2.2.2.2.2.1.1], rfl⟩), ?_, mFm.rf.up (by decide)⟩⟩
  · obtain ⟨x1, x2, x3, x4, x5, x6, x7⟩ := hx
    refine ⟨x1.sm ?_, x2.sm rfl rfl rfl, x3.sm rfl rfl ?_, x4.sm rfl ?_, x5.sm rfl rfl, ⟨m_us, fun i hi => absurd hi (Nat.not_lt_zero i)⟩, x7⟩
    · rintro a k (rfl | rfl)
      · rw [m_ux (by cases b <;> decide)]
      · rw [m_ux (by cases b <;> decide)]
    · exact fun a h1 h2 => ⟨by rw [m_up_ne (by omega)], rfl⟩
    · exact fun a h1 h2 => ⟨by rw [m_up_ne (by omega)], rfl⟩
  · obtain ⟨x1, x2, x3, x4, x5, x6, x7⟩ := hm1
    refine ⟨x1.sm ?_, x2.sm rfl, x3.sm rfl rfl, x4.sm rfl rfl, x5.sm rfl rfl, ⟨m_us, fun i hi => absurd hi (Nat.not_lt_zero i)⟩, x7⟩
    exact fun k hk => by rw [m_un (by omega)]
theorem S13 {I : mF} {L : mFL} {b : Bool} {k : Nat} (hk : k < 49) : mFn S 13 [.ref 8, .int (nI k)] (mSH, I, L, mRk b) (some (.int (if mB (L 8 4) k then 1 else 0))) (mSH, I, L, mRk b) := by
  refine e13 (k13_0 (fun h => absurd h (nI_pos (by omega))) (fun _ => k13_4 (fun h => ?_) (fun h => ?_)))
  · rw [mB_t (by omega)] at h
    refine k13_21 (k13_22 (by decide) ⟨?_, rfl⟩)
    rw [h]
    rfl
  · rw [mB_t (by omega)] at h
    refine k13_17 (k13_22 (by decide) ⟨?_, rfl⟩)
    rw [Bool.not_eq_false] at h
    rw [h]
    rfl
theorem S47 {G : mG} {s : mY} {I : mF} {L : mFL} {b : Bool} (hl : mXL G b I) (hp : mXY s 8 I L) {k : Nat} (hk : k < 49) : mFn S 47 [.ref 1, .int (nI k)] (mSH, I, L, mRk b) (some (.int (nI (mK G.g s.y k)))) (mSH, I, L, mRk b) := by
  refine e47 (k47_0 (c47_5 (S13 hk) ?_))
  rw [hp.2.2.2.2.2]
  unfold mK
  cases mB s.y k
  · refine k47_8 (fun _ => k47_15 (c47_20 (S4 hk) (k47_23 ⟨?_, rfl⟩))) (fun h => absurd rfl h)
    rw [hl.2.2.2.2.2.2 k hk]
    rfl
  · exact k47_8 (fun h => absurd h (show ¬ (1 : Int32) = 0 by decide)) (fun _ => k47_11 (k47_23 ⟨rfl, rfl⟩))
theorem Cs_cell (x y : Int32) : mCs S 46 108 [.int x, .int y] := by
  refine mCs_q fun G s h im tx la tr I L b hw hx => ?_
  have h7 := hw.1.1
  refine ⟨.int (match mPlace G.W G.H x y with | none => -1 | some p => nI (mK G.g s.y p)), ⟨I, L, e46 (k46_0 (c46_6 (S2 hx.1.1 hx.1.2.1 h7 _ _) ?_)), fun _ _ _ => rfl, mFx.rf, fun _ _ => rfl⟩, fun I1 L1 hm1 => ⟨I1, e108 (k108_0 (c108_3 (S89 hm1.1.1 hm1.1.2.1 h7 _ _) ?_)), fun _ _ _ => rfl, mFm.rf⟩⟩
  · cases hp : mPlace G.W G.H x y with
    | none => exact k46_9 (fun h => absurd h (by decide)) (fun _ => k46_14 (k46_23 ⟨rfl, rfl⟩))
    | some p =>
      have hp49 := mOn_lt h7 (mPlace_on h7 hp)
      exact k46_9 (fun _ => k46_18 (c46_20 (S47 hx.1 hx.2.1 hp49) (k46_23 ⟨rfl, rfl⟩))) (fun h => absurd (nI_pos' (by omega)) h)
  · unfold mIc
    cases hp : mPlace G.W G.H x y with
    | none => exact k108_6 (fun _ => k108_26 (k108_27 ⟨rfl, rfl⟩)) (fun h => absurd rfl h)
    | some p =>
      have hpo := mPlace_on h7 hp
      have hp49 := mOn_lt h7 hpo
      obtain ⟨i, j, rfl, rfl, -, -, e⟩ := mPlace_some h7 hp
      have e8 : (8 + (7 * nI j) + nI i : Int32) = nI (8 + p) := by
        show nI 8 + nI 7 * nI j + nI i = _
        rw [pk_mul, nI_add, nI_add]
        congr 1
        omega
      refine k108_6 (fun h => absurd h (show ¬ (1 : Int32) = 0 by decide)) (fun _ => k108_9 ?_ (k108_27 ⟨?_, rfl⟩))
      · rw [e8]
        exact m_okN (by omega) (by decide)
      · rw [e8, nI_clamp (by omega), hm1.2.1.at hpo]
theorem mIn_p {P : Nat} (h0 : 0 < P) (hP : P < 2 ^ 31) (x : Int32) : mIn x 0 (nI P - 1) = if x < 0 then 0 else if x < nI P then 1 else 0 := by
  obtain ⟨q, rfl⟩ : ∃ q, P = q + 1 := ⟨P - 1, by omega⟩
  rw [nI_pred]
  by_cases hx : x < 0
  · rw [if_pos hx]
    exact mIn_neg (l := 0) hx (by decide)
  · rw [if_neg hx]
    obtain ⟨k, hk, rfl⟩ := nI_of hx
    show mIn (nI k) (nI 0) (nI q) = _
    rw [mIn_n hk (by decide) (by omega)]
    by_cases h : k < q + 1
    · rw [if_pos (by omega), if_pos ((nI_ltI hk hP).mpr h)]
    · rw [if_neg (by omega), if_neg (fun h2 => h ((nI_ltI hk hP).mp h2))]
theorem S14 {s : mY} {I : mF} {L : mFL} {b : Bool} (hp : mXY s 8 I L) {k : Nat} (hk : k < 4) : mFn S 14 [.ref 8, .int (nI k)] (mSH, I, L, mRk b) (some (.int (nI (s.sc k)))) (mSH, I, L, mRk b) := by
  refine e14 (k14_0 (fun h => absurd h (nI_pos (by omega))) (fun _ => k14_4 (fun _ => ?_) (fun h => ?_)))
  · refine k14_13 (m_okN hk (by decide)) (k14_19 ⟨?_, rfl⟩)
    rw [nI_clamp (by omega), hp.2.2.2.2.1 k hk]
  · rw [show (4 : Int32) = nI 4 from rfl, nI_ltI (by omega) (by decide)] at h
    omega
theorem Cs_score (x : Int32) : mCs S 48 109 [.int x] := by
  refine mCs_q fun G s h im tx la tr I L b hw hx => ?_
  obtain ⟨hP0, hP4⟩ := hw.1.2.2.2.2.1
  refine ⟨.int (if x < 0 then -1 else if x < nI G.P then nI (s.sc x.toNatClampNeg) else -1), ⟨I, L, e48 (k48_0 (fun q => k48_15 (k48_27 ⟨by rw [if_pos q], rfl⟩)) (fun q => k48_4 (fun q2 => k48_19 ?_) (fun q2 => k48_15 (k48_27 ⟨?_, rfl⟩)))), fun _ _ _ => rfl, mFx.rf, fun _ _ => rfl⟩, fun I1 L1 hm1 => ⟨I1, e109 (k109_0 (c109_8 (S88 _ _ _) ?_)), fun _ _ _ => rfl, mFm.rf⟩⟩
  · rw [hx.1.2.2.2.2.1] at q2
    rw [if_neg q, if_pos q2]
    obtain ⟨k, hk, rfl⟩ := nI_of q
    rw [nI_ltI hk (by omega)] at q2
    refine c48_24 (S14 hx.2.1 (by omega)) (k48_27 ⟨?_, rfl⟩)
    rw [nI_clamp hk]
  · rw [hx.1.2.2.2.2.1] at q2
    rw [if_neg q, if_neg q2]
  · rw [hm1.1.2.2.2.2.1, mIn_p hP0 (by omega)]
    by_cases q : x < 0
    · rw [if_pos q, if_pos q]
      exact k109_11 (fun _ => k109_25 (k109_26 ⟨rfl, rfl⟩)) (fun h => absurd rfl h)
    · rw [if_neg q, if_neg q]
      by_cases q2 : x < nI G.P
      · rw [if_pos q2, if_pos q2]
        obtain ⟨k, hk, rfl⟩ := nI_of q
        rw [nI_ltI hk (by omega)] at q2
        have e4 : (4 + nI k : Int32) = nI (4 + k) := nI_add 4 k
        refine k109_11 (fun h => absurd h (by decide)) (fun _ => k109_14 ?_ (k109_26 ⟨?_, rfl⟩))
        · rw [e4]
          exact m_okN (by omega) (by decide)
        · have := hm1.2.1.2.2.2.2.1 k (by omega)
          rw [Nat.zero_add] at this
          rw [e4, nI_clamp (by omega), nI_clamp hk, this]
      · rw [if_neg q2, if_neg q2]
        exact k109_11 (fun _ => k109_25 (k109_26 ⟨rfl, rfl⟩)) (fun h => absurd rfl h)
theorem Cs_trace : mCs S 86 142 [] := by
  refine mCs_q fun G s h im tx la tr I L b hw hx => ?_
  exact ⟨.long tr, ⟨I, L, e86 (k86_0 ⟨by rw [hx.2.2.2.2.2.2], rfl⟩), fun _ _ _ => rfl, mFx.rf, fun _ _ => rfl⟩, fun I1 L1 hm1 => ⟨I1, e142 (k142_0 ⟨by rw [hm1.2.2.2.2.2.2], rfl⟩), fun _ _ _ => rfl, mFm.rf⟩⟩
def mAn (o : Option Nat) : Int32 := match o with
  | none => -9
  | some k => mPa k
theorem S50o {I : mF} {L : mFL} {b : Bool} {o : Option Nat} (h : ∀ k, o = some k → k < 49) : mFn S 50 [.int (mOe o)] (mSH, I, L, mRk b) (some (.int (mAn o))) (mSH, I, L, mRk b) := by
  cases o with
  | none => exact S50n
  | some k => exact S50 (h k rfl)
theorem S91 {I : mF} {L : mFL} {b : Bool} {k : Nat} (hk : k < 49) : mFn S 91 [.int (nI k)] (mSH, I, L, mRk b) (some (.int (mPa k))) (mSH, I, L, mRk b) := by
  refine e91 (k91_0 (fun _ => k91_8 (k91_20 ⟨?_, rfl⟩)) (fun h => absurd (nI_pos' (by omega)) h))
  rw [show (7 : Int32) = nI 7 from rfl, show (10 : Int32) = nI 10 from rfl, pk_rem (by omega) (by decide) (by decide), pk_div (by omega) (by decide) (by decide), pk_mul, nI_add, Nat.mul_comm 10]
  rfl
theorem S91n {I : mF} {L : mFL} {b : Bool} {x : Int32} (hx : ¬ 0 ≤ x) : mFn S 91 [.int x] (mSH, I, L, mRk b) (some (.int x)) (mSH, I, L, mRk b) :=
  e91 (k91_0 (fun h => absurd h hx) (fun _ => k91_4 (k91_20 ⟨rfl, rfl⟩)))
theorem S91o {I : mF} {L : mFL} {b : Bool} {o : Option Nat} (h : ∀ k, o = some k → k < 49) : mFn S 91 [.int (mOe o)] (mSH, I, L, mRk b) (some (.int (mAn o))) (mSH, I, L, mRk b) := by
  cases o with
  | none => exact S91n (by decide)
  | some k => exact S91 (h k rfl)
def mCnt (G : mG) (n m : Nat) (x : Int32) : Int32 := if x = 0 then nI G.W else if x = 1 then nI G.H else if x = 2 then nI G.T else if x = 3 then nI G.O else if x = 4 then nI G.P else if x = 5 then mAn G.te else if x = 6 then nI m else if x = 7 then nI n else -1
theorem Cs_count (x : Int32) : mCs S 85 141 [.int x] := by
  refine mCs_q fun G s h im tx la tr I L b hw hx => ?_
  have hte : ∀ k, G.te = some k → k < 49 := fun k hk => mOn_lt hw.1.1 (hw.1.2.2.2.2.2.1 k hk)
  refine ⟨.int (mCnt G tx.1 la.1 x), ⟨I, L, e85 (k85_0 ?_), fun _ _ _ => rfl, mFx.rf, fun _ _ => rfl⟩, fun I1 L1 hm1 => ⟨I1, e141 (k141_0 ?_), fun _ _ _ => rfl, mFm.rf⟩⟩
  · obtain ⟨⟨l0, l1, l2, l3, l4, l5, -⟩, -, -, -, x5, x6, -⟩ := hx
    unfold mCnt
    refine mWp_ite (fun h0 => k85_48 ⟨by rw [if_pos h0, l0], rfl⟩) (fun h0 => ?_)
    rw [if_neg h0]
    refine mWp_ite (fun h0 => k85_56 ⟨by rw [if_pos h0, l1], rfl⟩) (fun h0 => ?_)
    rw [if_neg h0]
    refine mWp_ite (fun h0 => k85_64 ⟨by rw [if_pos h0, l2], rfl⟩) (fun h0 => ?_)
    rw [if_neg h0]
    refine mWp_ite (fun h0 => k85_72 ⟨by rw [if_pos h0, l3], rfl⟩) (fun h0 => ?_)
    rw [if_neg h0]
    refine mWp_ite (fun h0 => k85_80 ⟨by rw [if_pos h0, l4], rfl⟩) (fun h0 => ?_)
    rw [if_neg h0]
    refine mWp_ite (fun h0 => k85_88 ?_) (fun h0 => ?_)
    · rw [l5]
      exact c85_95 (S50o hte) (k85_98 ⟨by rw [if_pos h0], rfl⟩)
    rw [if_neg h0]
    refine mWp_ite (fun h0 => k85_99 ⟨by rw [if_pos h0, x6.1], rfl⟩) (fun h0 => ?_)
    rw [if_neg h0]
    refine mWp_ite (fun h0 => k85_104 ⟨by rw [if_pos h0, x5.1], rfl⟩) (fun h0 => ?_)
    rw [if_neg h0]
    exact k85_112 ⟨rfl, rfl⟩
  · obtain ⟨⟨l0, l1, l2, l3, l4, l5⟩, -, -, -, x5, x6, -⟩ := hm1
    unfold mCnt
    refine mWp_ite (fun h0 => k141_48 ⟨by rw [if_pos h0, l0], rfl⟩) (fun h0 => ?_)
    rw [if_neg h0]
    refine mWp_ite (fun h0 => k141_53 ⟨by rw [if_pos h0, l1], rfl⟩) (fun h0 => ?_)
    rw [if_neg h0]
    refine mWp_ite (fun h0 => k141_58 ⟨by rw [if_pos h0, l2], rfl⟩) (fun h0 => ?_)
    rw [if_neg h0]
    refine mWp_ite (fun h0 => k141_63 ⟨by rw [if_pos h0, l3], rfl⟩) (fun h0 => ?_)
    rw [if_neg h0]
    refine mWp_ite (fun h0 => k141_68 ⟨by rw [if_pos h0, l4], rfl⟩) (fun h0 => ?_)
    rw [if_neg h0]
    refine mWp_ite (fun h0 => k141_73 ?_) (fun h0 => ?_)
    · rw [l5]
      exact c141_77 (S91o hte) (k141_80 ⟨by rw [if_pos h0], rfl⟩)
    rw [if_neg h0]
    refine mWp_ite (fun h0 => k141_81 ⟨by rw [if_pos h0, x6.1], rfl⟩) (fun h0 => ?_)
    rw [if_neg h0]
    refine mWp_ite (fun h0 => k141_86 ⟨by rw [if_pos h0, x5.1], rfl⟩) (fun h0 => ?_)
    rw [if_neg h0]
    exact k141_91 ⟨rfl, rfl⟩
theorem Cs_lay (x y : Int32) : mCs S 68 131 [.int x, .int y] := by
  refine mCs_of fun G s h im tx la tr I L b hw hx hm => ?_
  obtain ⟨n, tl⟩ := la
  have h7 := hw.1.1
  have hn : n ≤ 5 := hw.2.2.2.2.2.1
  have hl : I 1 10 = nI n := hx.2.2.2.2.2.1.1
  have main : ∀ (o : Option Nat), (∀ c, o = some c → c < 49) →
      (¬ n = 5 → mFn S 68 [.ref 1, .int x, .int y] (mSH, I, L, mRk b) (some (.int (nI (n + 1)))) (mSH, m_up (m_up I 13 n (mOf o)) 1 10 (nI (n + 1)), L, mRk b)) →
      (n = 5 → mFn S 68 [.ref 1, .int x, .int y] (mSH, I, L, mRk b) (some (.int (-3))) (mSH, I, L, mRk b)) →
      (∀ I1 L1, mMI G s h im tx (n, tl) tr I1 L1 → ¬ n = 5 → mFn S 131 [.ref 44, .int x, .int y] (mSH, I1, L1, mRk b) (some (.int (nI (n + 1)))) (mSH, m_up (m_up I1 49 n (mOf o)) 44 11 (nI (n + 1)), L1, mRk b)) →
      (∀ I1 L1, mMI G s h im tx (n, tl) tr I1 L1 → n = 5 → mFn S 131 [.ref 44, .int x, .int y] (mSH, I1, L1, mRk b) (some (.int (-3))) (mSH, I1, L1, mRk b)) →
      ∃ r G' s' h' im' tx' la' tr', mWf G' s' h' im' tx' la' ∧ mCx S 68 [.int x, .int y] r G' s' h' im' tx' la' tr' I L b ∧ ∀ I1 L1, mMI G s h im tx (n, tl) tr I1 L1 → mCm S 131 [.int x, .int y] r G' s' h' im' tx' la' tr' I1 L1 b := by
    intro o ho f1 f2 f3 f4
    by_cases hf : n = 5
    · exact ⟨.int (-3), G, s, h, im, tx, (n, tl), tr, hw, ⟨I, L, f2 hf, hx, mFx.rf⟩, fun I1 L1 hm1 => ⟨I1, L1, f4 I1 L1 hm1 hf, hm1, mFm.rf⟩⟩
    · have hw' : mWf G s h im tx (n + 1, fun j => if j = n then o else tl j) := by
        refine ⟨hw.1, hw.2.1, hw.2.2.1, hw.2.2.2.1, hw.2.2.2.2.1, ⟨by show n + 1 ≤ 5; omega, fun i c hi hc => ?_⟩⟩
        have hi : i < n + 1 := hi
        have hc : (if i = n then o else tl i) = some c := hc
        split at hc
        · exact ho c hc
        · exact hw.2.2.2.2.2.2 i c (by show i < n; omega) hc
      refine ⟨.int (nI (n + 1)), G, s, h, im, tx, _, tr, hw', ⟨_, L, f1 hf, ?_, (mFx.rf.up (by decide)).up (by decide)⟩, fun I1 L1 hm1 => ⟨_, L1, f3 I1 L1 hm1 hf, ?_, (mFm.rf.up (by decide)).up (by decide)⟩⟩
      · obtain ⟨x1, x2, x3, x4, x5, x6, x7⟩ := hx
        refine ⟨x1.sm ?_, x2.sm rfl rfl rfl, x3.sm rfl rfl ?_, x4.sm rfl ?_, x5.sm rfl rfl, ⟨m_us, fun i hi => ?_⟩, x7⟩
        · rintro a k (rfl | rfl)
          · rw [m_ux (by cases b <;> decide), m_ux (by cases b <;> decide)]
          · rw [m_ux (by cases b <;> decide), m_ux (by cases b <;> decide)]
        · exact fun a h1 h2 => ⟨by rw [m_up_ne (by omega), m_up_ne (by omega)], rfl⟩
        · exact fun a h1 h2 => ⟨by rw [m_up_ne (by omega), m_up_ne (by omega)], rfl⟩
        · have hi : i < n + 1 := hi
          show m_up (m_up I 13 n (mOf o)) 1 10 (nI (n + 1)) 13 i = mOf (if i = n then o else tl i)
          rw [m_ux (by decide)]
          by_cases q : i = n
          · subst q
            rw [m_us, if_pos rfl]
          · rw [m_un q, if_neg q]
            exact x6.2 i (by show i < n; omega)
      · obtain ⟨x1, x2, x3, x4, x5, x6, x7⟩ := hm1
        refine ⟨x1.sm ?_, x2.sm rfl, x3.sm rfl rfl, x4.sm rfl rfl, x5.sm rfl rfl, ⟨m_us, fun i hi => ?_⟩, x7⟩
        · exact fun k hk => by rw [m_un (by omega), m_ux (by decide)]
        · have hi : i < n + 1 := hi
          show m_up (m_up I1 49 n (mOf o)) 44 11 (nI (n + 1)) 49 i = mOf (if i = n then o else tl i)
          rw [m_ux (by decide)]
          by_cases q : i = n
          · subst q
            rw [m_us, if_pos rfl]
          · rw [m_un q, if_neg q]
            exact x6.2 i (by show i < n; omega)
  -- the class from 38, the reference from 31
  have x38 : ∀ (z : Int32) (o4 : Option Value) (o : Option Nat) (o1 o2 : Option Value), (¬ z = 0 → o = none) → (z = 0 → ∃ c, o = some c ∧ o4 = some (.int (nI c))) →
      (¬ n = 5 → mWp S 68 38 [some (.ref 1), o1, o2, some (.int z), o4] [] (mSH, I, L, mRk b) (fun r2 w2 => r2 = some (.int (nI (n + 1))) ∧ w2 = (mSH, m_up (m_up I 13 n (mOf o)) 1 10 (nI (n + 1)), L, mRk b))) ∧
      (n = 5 → mWp S 68 38 [some (.ref 1), o1, o2, some (.int z), o4] [] (mSH, I, L, mRk b) (fun r2 w2 => r2 = some (.int (-3)) ∧ w2 = (mSH, I, L, mRk b))) := by
    intro z o4 o o1 o2 hz1 hz2
    refine ⟨fun hf => k68_38 (fun _ => ?_) (fun q => ?_), fun hf => k68_38 (fun q => ?_) (fun _ => k68_46 ⟨rfl, rfl⟩)⟩
    · have fin : ∀ (v : Int32), v = mOf o → mWp S 68 68 [some (.ref 1), o1, o2, some (.int z), o4] [.int v, .int (I 1 10), .ref 13] (mSH, I, L, mRk b) (fun r2 w2 => r2 = some (.int (nI (n + 1))) ∧ w2 = (mSH, m_up (m_up I 13 n (mOf o)) 1 10 (nI (n + 1)), L, mRk b)) := by
        intro v hv
        refine k68_68 (by rw [hl]; exact m_okN (by omega) (by decide)) ⟨?_, ?_⟩
        · rw [hl, nI_1]
        · rw [hl, nI_1, nI_clamp (by omega), hv]
      refine k68_49 (fun h0 => ?_) (fun h0 => ?_)
      · obtain ⟨c, rfl, rfl⟩ := hz2 h0
        exact k68_66 (fin _ rfl)
      · have := hz1 h0
        subst this
        exact k68_61 (fin _ rfl)
    · rw [hl, show (5 : Int32) = nI 5 from rfl, nI_ltI (by omega) (by decide)] at q
      omega
    · rw [hl, show (5 : Int32) = nI 5 from rfl, nI_ltI (by omega) (by decide)] at q
      omega
  have m31 : ∀ (z x y : Int32) (o : Option Nat), (¬ z = 0 → o = none) → (z = 0 → ∃ c, o = some c ∧ 7 * y + x = nI c) → ∀ I1 L1, mMI G s h im tx (n, tl) tr I1 L1 → 
      (¬ n = 5 → mWp S 131 31 [some (.ref 44), some (.int x), some (.int y), some (.int z)] [] (mSH, I1, L1, mRk b) (fun r2 w2 => r2 = some (.int (nI (n + 1))) ∧ w2 = (mSH, m_up (m_up I1 49 n (mOf o)) 44 11 (nI (n + 1)), L1, mRk b))) ∧
      (n = 5 → mWp S 131 31 [some (.ref 44), some (.int x), some (.int y), some (.int z)] [] (mSH, I1, L1, mRk b) (fun r2 w2 => r2 = some (.int (-3)) ∧ w2 = (mSH, I1, L1, mRk b))) := by
    intro z x y o hz1 hz2 I1 L1 hm1
    have hl : I1 44 11 = nI n := hm1.2.2.2.2.2.1.1
    refine ⟨fun hf => k131_31 (fun q => ?_) (fun q => ?_), fun hf => k131_31 (fun _ => k131_39 ⟨rfl, rfl⟩) (fun q => ?_)⟩
    · rw [hl, show (5 : Int32) = nI 5 from rfl, nI_eq (by omega) (by decide)] at q
      exact absurd q hf
    · have fin : ∀ (v : Int32), v = mOf o → mWp S 131 65 [some (.ref 44), some (.int x), some (.int y), some (.int z)] [.int v, .int (I1 44 11), .ref 49] (mSH, I1, L1, mRk b) (fun r2 w2 => r2 = some (.int (nI (n + 1))) ∧ w2 = (mSH, m_up (m_up I1 49 n (mOf o)) 44 11 (nI (n + 1)), L1, mRk b)) := by
        intro v hv
        refine k131_65 (by rw [hl]; exact m_okN (by omega) (by decide)) ⟨?_, ?_⟩
        · rw [hl, nI_1]
        · rw [hl, nI_1, nI_clamp (by omega), hv]
      refine k131_42 (fun h0 => ?_) (fun h0 => ?_)
      · obtain ⟨c, rfl, he⟩ := hz2 h0
        exact k131_59 (fin _ he)
      · have := hz1 h0
        subst this
        exact k131_54 (fin _ rfl)
    · rw [hl, show (5 : Int32) = nI 5 from rfl, nI_eq (by omega) (by decide)] at q
      exact absurd hf q
  by_cases hin : x = -1 ∧ y = -1
  · obtain ⟨rfl, rfl⟩ := hin
    have X := x38 1 (some (.int (mOe (mPlace G.W G.H (-1) (-1))))) none (some (.int (-1))) (some (.int (-1))) (fun _ => rfl) (fun h => absurd h (by decide))
    have M := m31 1 (-1) (-1) none (fun _ => rfl) (fun h => absurd h (by decide))
    have pre : ∀ {Q : Option Value → mW → Prop}, mWp S 68 38 [some (.ref 1), some (.int (-1)), some (.int (-1)), some (.int 1), some (.int (mOe (mPlace G.W G.H (-1) (-1))))] [] (mSH, I, L, mRk b) Q → mWp S 68 0 [some (.ref 1), some (.int (-1)), some (.int (-1)), none, none] [] (mSH, I, L, mRk b) Q := fun hq => k68_0 (fun _ => k68_5 (fun _ => k68_10 (k68_15 (c68_22 (S2 hx.1.1 hx.1.2.1 h7 _ _) (k68_25 (fun q => absurd q (by decide)) (fun _ => hq))))) (fun q => absurd rfl q)) (fun q => absurd rfl q)
    have prm : ∀ {I1 : mF} {L1 : mFL} {Q : Option Value → mW → Prop}, mWp S 131 31 [some (.ref 44), some (.int (-1)), some (.int (-1)), some (.int 1)] [] (mSH, I1, L1, mRk b) Q → mWp S 131 0 [some (.ref 44), some (.int (-1)), some (.int (-1)), none] [] (mSH, I1, L1, mRk b) Q := fun hq => k131_0 (fun _ => k131_5 (fun _ => k131_10 (k131_15 (fun q => absurd q (by decide)) (fun _ => hq))) (fun q => absurd rfl q)) (fun q => absurd rfl q)
    exact main none (fun c hc => by cases hc) (fun q => e68 (pre (X.1 q))) (fun q => e68 (pre (X.2 q))) (fun I1 L1 hm1 q => e131 (prm ((M I1 L1 hm1).1 q))) (fun I1 L1 hm1 q => e131 (prm ((M I1 L1 hm1).2 q)))
  · have pre : ∀ {Q : Option Value → mW → Prop}, mWp S 68 25 [some (.ref 1), some (.int x), some (.int y), some (.int 0), none] [.int (mOe (mPlace G.W G.H x y))] (mSH, I, L, mRk b) Q → mWp S 68 0 [some (.ref 1), some (.int x), some (.int y), none, none] [] (mSH, I, L, mRk b) Q := by
      intro Q hq
      have h15 : mWp S 68 15 [some (.ref 1), some (.int x), some (.int y), none, none] [.int 0] (mSH, I, L, mRk b) Q := k68_15 (c68_22 (S2 hx.1.1 hx.1.2.1 h7 _ _) hq)
      exact k68_0 (fun q => k68_5 (fun q2 => absurd ⟨q, q2⟩ hin) (fun _ => k68_14 h15)) (fun _ => k68_14 h15)
    have prm : ∀ {I1 : mF} {L1 : mFL} {Q : Option Value → mW → Prop}, mMI G s h im tx (n, tl) tr I1 L1 → mWp S 131 26 [some (.ref 44), some (.int x), some (.int y), some (.int 0)] [.int (mIc G.W G.H x y)] (mSH, I1, L1, mRk b) Q → mWp S 131 0 [some (.ref 44), some (.int x), some (.int y), none] [] (mSH, I1, L1, mRk b) Q := by
      intro I1 L1 Q hm1 hq
      have h15 : mWp S 131 15 [some (.ref 44), some (.int x), some (.int y), none] [.int 0] (mSH, I1, L1, mRk b) Q := k131_15 (fun _ => k131_20 (c131_23 (S89 hm1.1.1 hm1.1.2.1 h7 _ _) hq)) (fun q => absurd rfl q)
      exact k131_0 (fun q => k131_5 (fun q2 => absurd ⟨q, q2⟩ hin) (fun _ => k131_14 h15)) (fun _ => k131_14 h15)
    unfold mIc at prm
    cases hp : mPlace G.W G.H x y with
    | none =>
      rw [hp] at pre prm
      exact ⟨.int (-1), G, s, h, im, tx, (n, tl), tr, hw, ⟨I, L, e68 (pre (k68_25 (fun _ => k68_31 (fun q => absurd q (by decide)) (fun _ => k68_36 ⟨rfl, rfl⟩)) (fun q => absurd rfl q))), hx, mFx.rf⟩, fun I1 L1 hm1 => ⟨I1, L1, e131 (prm hm1 (k131_26 (fun _ => k131_29 ⟨rfl, rfl⟩) (fun q => absurd rfl q))), hm1, mFm.rf⟩⟩
    | some p =>
      have hp49 := mOn_lt h7 (mPlace_on h7 hp)
      rw [hp] at pre prm
      have X := x38 0 (some (.int (nI p))) (some p) (some (.int x)) (some (.int y)) (fun q => absurd rfl q) (fun _ => ⟨p, rfl, rfl⟩)
      obtain ⟨i, j, ex, ey, -, -, e⟩ := mPlace_some h7 hp
      have M := m31 0 x y (some p) (fun q => absurd rfl q) (fun _ => ⟨p, rfl, by rw [ex, ey, e]; show nI 7 * nI j + nI i = _; rw [pk_mul, nI_add]⟩)
      refine main (some p) (fun c hc => by cases hc; exact hp49) (fun q => e68 (pre ?_)) (fun q => e68 (pre ?_)) (fun I1 L1 hm1 q => e131 (prm hm1 ?_)) (fun I1 L1 hm1 q => e131 (prm hm1 ?_))
      · exact k68_25 (fun _ => k68_31 (fun _ => X.1 q) (fun h => absurd (nI_pos' (by omega)) h)) (fun q => absurd rfl q)
      · exact k68_25 (fun _ => k68_31 (fun _ => X.2 q) (fun h => absurd (nI_pos' (by omega)) h)) (fun q => absurd rfl q)
      · exact k131_26 (fun q => absurd q (show ¬ (1 : Int32) = 0 by decide)) (fun _ => (M I1 L1 hm1).1 q)
      · exact k131_26 (fun q => absurd q (show ¬ (1 : Int32) = 0 by decide)) (fun _ => (M I1 L1 hm1).2 q)
end SIMPLE
