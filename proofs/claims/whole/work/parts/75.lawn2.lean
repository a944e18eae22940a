/-! lawn, both -/
theorem mXI.s4 {G : mG} {s : mY} {h : mH} {im : mJ} {tx : mTx} {la : mLy} {tr : Int64} {b : Bool} {I I' : mF} {L L' : mFL} (hx : mXI G s h im tx la tr b I L) (hi : mSx b I I') (hl : ∀ a, (a = 1 ∨ a = 8 ∨ (20 ≤ a ∧ a < 44)) → L' a = L a) : mXI G s h im tx la tr b I' L' := by
  obtain ⟨x1, x2, x3, x4, x5, x6, x7⟩ := hx
  refine ⟨x1.sm ?_, x2.sm ?_ ?_ ?_, x3.sm ?_ ?_ ?_, x4.sm ?_ ?_, x5.sm ?_ ?_, x6.sm ?_ ?_, ?_⟩
  · rintro a k (rfl | rfl)
    · exact hi _ _ (Or.inl rfl)
    · exact hi _ _ (Or.inr (Or.inl rfl))
  · exact hi.a 8 (fun k => by unfold mRx; simp)
  · exact hi.a 9 (fun k => by unfold mRx; simp)
  · rw [hl 8 (by simp)]
  · exact hi 1 5 (by unfold mRx; simp)
  · exact hi 1 6 (by unfold mRx; simp)
  · exact fun a h1 h2 => ⟨hi.a a (fun k => by unfold mRx; omega), hl a (by omega)⟩
  · exact hi.a 12 (fun k => by unfold mRx; simp)
  · exact fun a h1 h2 => ⟨hi.a a (fun k => by unfold mRx; omega), hl a (by omega)⟩
  · exact hi 2 1 (by unfold mRx; simp)
  · exact hi.a 3 (fun k => by unfold mRx; simp)
  · exact hi 1 10 (by unfold mRx; simp)
  · exact hi.a 13 (fun k => by unfold mRx; simp)
  · rw [hl 1 (by simp)]; exact x7
/-- the lawn that is told, and the play that begins -/
def mGn (D : mDd) : mG := (D.W, D.R, (if D.tu = 0 then 3 else D.tu), D.op, (if D.pl = 0 then 2 else D.pl), D.te, fun k => if D.K k = 1 then 0 else D.K k)
def mYn (D : mDd) (y : Int64) : mY := (0, D.te, 0, (match D.te with
  | none => none
  | some _ => some 0), fun _ => 0, y)
theorem mOz_e {o : Option Nat} : mOz o = mOe (match o with
  | none => none
  | some _ => some 0) := by
  cases o <;> rfl
theorem m_ten : ∀ st, st < 151 → ¬ (0 : Int32) ≤ -10 - nI st := by decide +kernel
theorem mGn_w {D : mDd} (hd : mDwx D 0) : mGw (mGn D) := by
  obtain ⟨d0, d1, d2, d3, d4, d5, d6⟩ := hd
  refine ⟨⟨d0, d1⟩, ?_, ?_, ?_, ⟨?_, ?_⟩, d4, fun k hk => ⟨?_, ?_⟩⟩
  · show 0 < if D.tu = 0 then 3 else D.tu
    split <;> omega
  · show (if D.tu = 0 then 3 else D.tu) ≤ 6
    split <;> omega
  · show D.op < if D.tu = 0 then 3 else D.tu
    split <;> omega
  · show 0 < if D.pl = 0 then 2 else D.pl
    split <;> omega
  · show (if D.pl = 0 then 2 else D.pl) ≤ 4
    split <;> omega
  · show ¬ (if D.K k = 1 then 0 else D.K k) = 1
    split
    · decide
    · next h => exact h
  · show (if D.K k = 1 then 0 else D.K k) < 5
    have := d5 k
    split <;> omega
theorem mYn_w {D : mDd} {y : Int64} (hd : mDwx D 0) (hy : ∀ k, k < 64 → mB y k = decide (k < 49 ∧ D.K k = 1)) : mYw (mGn D) (mYn D y) := by
  obtain ⟨d0, d1, d2, d3, d4, d5, d6⟩ := hd
  refine ⟨Nat.zero_le _, d4, ⟨?_, ?_⟩, ?_, Nat.zero_le _, fun _ => Nat.zero_le _, fun k hk => ?_⟩
  · show D.te = none ↔ (match D.te with
      | none => none
      | some _ => some 0) = none
    cases D.te with
    | none => exact ⟨fun _ => rfl, fun _ => rfl⟩
    | some k => exact ⟨fun h => absurd h (by simp), fun h => absurd h (by simp)⟩
  · intro h
    have h : D.te = none := h
    show (match D.te with
      | none => none
      | some _ => some 0) = none
    rw [h]
  · intro p hp
    have hp : (match D.te with
      | none => none
      | some _ => some 0) = some p := hp
    show p < if D.pl = 0 then 2 else D.pl
    cases ht : D.te with
    | none =>
      rw [ht] at hp
      cases hp
    | some k =>
      rw [ht] at hp
      cases hp
      split <;> omega
  · have hk : mB y k = true := hk
    have h64 := mB_lt hk
    rw [hy k h64] at hk
    have hk := of_decide_eq_true hk
    refine ⟨?_, ?_⟩
    · rcases d6 k (by omega) with z | z
      · exact z
      · omega
    · show (if D.K k = 1 then 0 else D.K k) = 0
      rw [if_pos hk.2]
theorem mGn_k {D : mDd} {y : Int64} (hy : ∀ k, k < 64 → mB y k = decide (k < 49 ∧ D.K k = 1)) {k : Nat} (hk : k < 49) : mK (mGn D).g y k = D.K k := by
  unfold mK
  rw [hy k (by omega)]
  show (if decide (k < 49 ∧ D.K k = 1) = true then 1 else if D.K k = 1 then 0 else D.K k) = D.K k
  by_cases h : D.K k = 1
  · rw [if_pos (decide_eq_true ⟨hk, h⟩), h]
  · rw [if_neg (fun z => h (of_decide_eq_true z).2), if_neg h]
section LAWN2
variable {S : mS}
theorem Cs_lawn : mCs S 44 103 [] := by
  intro I L b ⟨G, s, h, im, tx, la, tr, hw, hx, hm⟩
  have htw : mTw tx := hw.2.2.2.2.1
  have hN := htw.1
  have nn := mLa_2 (!b)
  have nb : mLa (!b) ≠ mLa b ∧ mLa (!b) ≠ mLg b ∧ mLg (!b) ≠ mLa b ∧ mLg (!b) ≠ mLg b := by cases b <;> decide
  have n8 : mLa (!b) ≠ 8 ∧ mLg (!b) ≠ 8 ∧ mLa (!b) ≠ 9 ∧ mLg (!b) ≠ 9 ∧ mLa (!b) ≠ 12 ∧ mLg (!b) ≠ 12 ∧ mLa (!b) ≠ 1 ∧ mLg (!b) ≠ 1 ∧ mLa (!b) ≠ 13 ∧ mLg (!b) ≠ 13 ∧ mLa (!b) < 8 ∧ mLg (!b) < 8 := by cases b <;> decide
  obtain ⟨I1, L1, f1, fe, good1⟩ := S30 (S := S) (b := b) (c := !b) (L := L) hx.2.2.2.2.1 htw
  have hfx1 : mFx I L I1 L1 := fun a ha => ⟨funext fun k => fe.1 a k (by omega) (by omega) (by omega), fe.2 a (by omega)⟩
  have hml := mTl_n (tx := tx) (tx.1 + 1) 0 mD0 0 (Nat.zero_le _) (Nat.zero_le _)
  have hml : (mTell tx).2.1 ≤ tx.1 := hml
  -- the reference's beginning
  have ref : ∀ (J : mF) (M : mFL) (b1 : Bool) (Q : Option Value → mW → Prop), mMI G s h im tx la tr J M → ((mTell tx).1 = true → ∀ J' : mF, mGs J J' → mDM (mTell tx).2.2 0 J' → J' 44 21 = nI (mTell tx).2.1 → mWp S 103 101 [some (.ref 44)] [] (mSH, J', M, mRk b1) Q) → ((mTell tx).1 = false → ∀ J' : mF, mGs J J' → Q (some (.int (-10 - nI (mTell tx).2.1))) (mSH, J', M, mRk b1)) → mWp S 103 0 [some (.ref 44)] [] (mSH, J, M, mRk b1) Q := by
    intro J M b1 Q hmJ good bad
    obtain ⟨J0, hJ0⟩ : ∃ J0 : mF, J0 = m_up (m_up (m_up (m_up (m_up (m_up (m_up (m_up (m_up (m_up J 44 16 0) 44 20 0) 44 21 0) 44 22 0) 44 23 0) 44 24 0) 44 25 0) 44 26 0) 44 27 (-9)) 44 28 0 := ⟨_, rfl⟩
    have g0 : mGs J J0 := by
      rw [hJ0]
      exact (((((((((mGs.rf.u (by decide)).u (by decide)).u (by decide)).u (by decide)).u (by decide)).u (by decide)).u (by decide)).u (by decide)).u (by decide)).u (by decide)
    have j16 : J0 44 16 = nI 0 := by rw [hJ0, m_un (by decide), m_un (by decide), m_un (by decide), m_un (by decide), m_un (by decide), m_un (by decide), m_un (by decide), m_un (by decide), m_un (by decide), m_us]; rfl
    have j20 : J0 44 20 = 0 := by rw [hJ0, m_un (by decide), m_un (by decide), m_un (by decide), m_un (by decide), m_un (by decide), m_un (by decide), m_un (by decide), m_un (by decide), m_us]
    have j21 : J0 44 21 = nI 0 := by rw [hJ0, m_un (by decide), m_un (by decide), m_un (by decide), m_un (by decide), m_un (by decide), m_un (by decide), m_un (by decide), m_us]; rfl
    have jD : mDM mD0 0 J0 := by
      refine ⟨?_, ?_, ?_, ?_, ?_, ?_, ?_, fun k hk hm => ?_⟩
      · rw [hJ0, m_un (by decide), m_un (by decide), m_un (by decide), m_un (by decide), m_un (by decide), m_un (by decide), m_us]; rfl
      · rw [hJ0, m_un (by decide), m_un (by decide), m_un (by decide), m_un (by decide), m_un (by decide), m_us]; rfl
      · rw [hJ0, m_un (by decide), m_un (by decide), m_un (by decide), m_un (by decide), m_us]; rfl
      · rw [hJ0, m_un (by decide), m_un (by decide), m_un (by decide), m_us]; rfl
      · rw [hJ0, m_un (by decide), m_un (by decide), m_us]; rfl
      · rw [hJ0, m_un (by decide), m_us]; rfl
      · rw [hJ0, m_us]; rfl
      · exfalso
        have hm : (k % 7 < 0 ∧ k / 7 < 0) ∨ (k / 7 = 0 ∧ k % 7 < 0) := hm
        omega
    obtain ⟨J1, f, r, t⟩ := S96 (S := S) (L := M) (b := b1) (hmJ.2.2.2.2.1.gs g0) htw (Nat.zero_le tx.1) j16
    refine k103_0 ?_
    rw [← hJ0]
    refine c103_52 f ?_
    exact S103_loop (S := S) (L := M) (b := b1) hmJ.2.2.2.2.1 htw (tx.1 + 1) 0 mD0 0 J1 (Nat.zero_le _) (Nat.zero_le _) (show tx.1 < (mTok tx 0).1 + (tx.1 + 1) by omega) (fun _ => rfl) mD0_wf (g0.mr r) (jD.mr r) t (by rw [r 44 20 (by omega)]; exact j20) (by rw [r 44 21 (by omega)]; exact j21) good bad
  have hgs : ∀ {J J' : mF} {M : mFL}, mGs J J' → mSm2 J J' ∧ mFm J M J' M := fun {J J' M} hg => ⟨fun a k hr => hg a k (by unfold mRm2 at hr; omega) (by unfold mRm2 at hr; omega), fun a ha => ⟨funext fun k => hg a k (by omega) (by omega), rfl⟩⟩
  cases hok : (mTell tx).1 with
  | false =>
    -- a fault: nothing is told
    have ea : mTa (mTell tx) = -10 - nI (mTell tx).2.1 := by unfold mTa; rw [hok]; rfl
    rw [ea] at f1
    have hx1 : mXI G s h im tx la tr b I1 L1 := by
      refine hx.s4 (fun a k hr => fe.1 a k ?_ ?_ ?_) (fun a ha => fe.2 a (by omega))
      · unfold mRx at hr
        have := mLa_2 b
        omega
      · unfold mRx at hr
        have := nb
        omega
      · unfold mRx at hr
        have := nb
        omega
    have hm1 := hm.fx hfx1
    obtain ⟨r2, w2, f2, I2, rfl, rfl, g2⟩ := ex103 (ref I1 L1 b (fun r2 w2 => ∃ I2 : mF, r2 = some (.int (-10 - nI (mTell tx).2.1)) ∧ w2 = (mSH, I2, L1, mRk b) ∧ mGs I1 I2) hm1 (fun z => by rw [hok] at z; exact absurd z (by decide)) (fun _ J' hJ' => ⟨J', rfl, rfl, hJ'⟩))
    refine ⟨.int (-10 - nI (mTell tx).2.1), I1, L1, b, I2, L1, e44 (k44_0 (c44_8 f1 (k44_11 (fun q => absurd q (m_ten _ (by omega))) (fun _ => k44_16 ⟨rfl, rfl⟩)))), f2, G, s, h, im, tx, la, tr, hw, hx1.fm (hgs (M := L1) g2).2, hm1.sm (hgs (M := L1) g2).1 rfl⟩
  | true =>
    have ea : mTa (mTell tx) = nI (mTell tx).2.1 := by unfold mTa; rw [hok]; rfl
    rw [ea] at f1
    have hd := mTl_wf (tx := tx) (tx.1 + 1) 0 mD0 0 (Nat.zero_le _) mD0_wf (fun _ => rfl) hok
    have hd : mDwx (mTell tx).2.2 0 := hd
    obtain ⟨a0, a1, a2, a3, a4, a5, a6, a7, a8, -, -⟩ := good1 hok
    have e5 : m_up I1 2 1 0 (mLa (!b)) 5 = mOe (mTell tx).2.2.te := by rw [m_ux nn.1]; exact a5
    obtain ⟨I2, f2, s2, b0, b1, b2, b3, b4, b5, b6, b7, b8⟩ := S45 (S := S) (b := !b) (L := L1) e5 (fun k hk => mOn_lt ⟨hd.1, hd.2.1⟩ (hd.2.2.2.2.1 k hk))
    have i2 : ∀ a k, a ≠ 8 → a ≠ 9 → a ≠ 12 → a ≠ 1 → a ≠ 2 → I2 a k = I1 a k := fun a k h1 h2 h3 h4 h5 => by rw [s2 a k h1 h2 h3 (fun z => h4 z.1), m_ux h5]
    have hfx2 : mFx I L I2 (m_up L1 8 4 (L1 (mLa (!b)) 7)) := fun a ha => ⟨funext fun k => by rw [i2 a k (by omega) (by omega) (by omega) (by omega) (by omega)]; exact congrFun (hfx1 a ha).1 k, by rw [m_up_ne (by omega)]; exact (hfx1 a ha).2⟩
    have hm2 := hm.fx hfx2
    -- the class's new state
    have hX : mXI (mGn (mTell tx).2.2) (mYn (mTell tx).2.2 (L1 (mLa (!b)) 7)) (0, h.2) (fun _ => none) (0, tx.2) (0, la.2) tr (!b) I2 (m_up L1 8 4 (L1 (mLa (!b)) 7)) := by
      obtain ⟨pn, hp, p5, -, -⟩ := hx.2.2.1
      refine ⟨⟨?_, ?_, ?_, ?_, ?_, ?_, fun k hk => ?_⟩, ⟨b0, b1, b2, ?_, b4, m_us⟩, ⟨pn, hp, ?_, b6, fun i hi => absurd hi (Nat.not_lt_zero i)⟩, fun i hi => ?_, ⟨?_, fun i hi => absurd hi (Nat.not_lt_zero i)⟩, ⟨b5, fun i hi => absurd hi (Nat.not_lt_zero i)⟩, ?_⟩
      · rw [i2 _ _ n8.1 n8.2.2.1 n8.2.2.2.2.1 n8.2.2.2.2.2.2.1 nn.1]; exact a0
      · rw [i2 _ _ n8.1 n8.2.2.1 n8.2.2.2.2.1 n8.2.2.2.2.2.2.1 nn.1]; exact a1
      · rw [i2 _ _ n8.1 n8.2.2.1 n8.2.2.2.2.1 n8.2.2.2.2.2.2.1 nn.1]; exact a2
      · rw [i2 _ _ n8.1 n8.2.2.1 n8.2.2.2.2.1 n8.2.2.2.2.2.2.1 nn.1]; exact a3
      · rw [i2 _ _ n8.1 n8.2.2.1 n8.2.2.2.2.1 n8.2.2.2.2.2.2.1 nn.1]; exact a4
      · rw [i2 _ _ n8.1 n8.2.2.1 n8.2.2.2.2.1 n8.2.2.2.2.2.2.1 nn.1]; exact a5
      · rw [i2 _ _ n8.2.1 n8.2.2.2.1 n8.2.2.2.2.2.1 n8.2.2.2.2.2.2.2.1 nn.2.1]; exact a7 k hk
      · rw [b3]; exact mOz_e
      · rw [s2 1 5 (by decide) (by decide) (by decide) (by omega), m_ux (by decide), fe.1 1 5 (by omega) n8.2.2.2.2.2.2.1.symm n8.2.2.2.2.2.2.2.1.symm]; exact p5
      · rcases (by omega : i = 0 ∨ i = 1) with rfl | rfl
        · exact b7
        · exact b8
      · rw [s2 2 1 (by decide) (by decide) (by decide) (by omega), m_us]; rfl
      · rw [m_up_ne (by decide), fe.2 1 n8.2.2.2.2.2.2.1.symm]; exact hx.2.2.2.2.2.2
    have hwf : mWf (mGn (mTell tx).2.2) (mYn (mTell tx).2.2 (L1 (mLa (!b)) 7)) (0, h.2) (fun _ => none) (0, tx.2) (0, la.2) := ⟨mGn_w hd, mYn_w hd a8, ⟨Nat.zero_le _, fun i hi => absurd hi (Nat.not_lt_zero i)⟩, fun i z hz => absurd hz (by simp), ⟨Nat.zero_le _, fun i hi => absurd hi (Nat.not_lt_zero i)⟩, Nat.zero_le _, fun i c hi => absurd hi (Nat.not_lt_zero i)⟩
    -- the reference's new state
    have good3 : ∀ J' : mF, mGs I2 J' → mDM (mTell tx).2.2 0 J' → J' 44 21 = nI (mTell tx).2.1 → mWp S 103 101 [some (.ref 44)] [] (mSH, J', m_up L1 8 4 (L1 (mLa (!b)) 7), mRk (!b)) (fun r2 w2 => ∃ I3 : mF, r2 = some (.int (nI (mTell tx).2.1)) ∧ w2 = (mSH, I3, m_up L1 8 4 (L1 (mLa (!b)) 7), mRk (!b)) ∧ mFm I2 (m_up L1 8 4 (L1 (mLa (!b)) 7)) I3 (m_up L1 8 4 (L1 (mLa (!b)) 7)) ∧ mMI (mGn (mTell tx).2.2) (mYn (mTell tx).2.2 (L1 (mLa (!b)) 7)) (0, h.2) (fun _ => none) (0, tx.2) (0, la.2) tr I3 (m_up L1 8 4 (L1 (mLa (!b)) 7))) := by
      intro J' hJ' hD' h21
      obtain ⟨J3, f4, fm4, c0, c1, c2, c3, c4, c5, c21, t0, t1, t2, t3, t4, t8, z8, z11, z15, z0, z1⟩ := S104 (S := S) (L := m_up L1 8 4 (L1 (mLa (!b)) 7)) (b := !b) hD' hd
      refine k103_101 (c103_102 f4 (k103_105 ⟨J3, ?_, rfl, ((hgs hJ').2).tr fm4, ⟨c0, c1, c2, c3, c4, c5⟩, ⟨t0, ?_, t2, t3, fun q hq => ?_, fun c hc => ?_⟩, ⟨z8, fun i hi => absurd hi (Nat.not_lt_zero i)⟩, fun i hi => ?_, ⟨z15, fun i hi => absurd hi (Nat.not_lt_zero i)⟩, ⟨z11, fun i hi => absurd hi (Nat.not_lt_zero i)⟩, hm2.2.2.2.2.2.2⟩))
      · rw [c21, h21]
      · rw [t1]; exact mOz_e
      · have := t4 q hq
        rw [Nat.zero_add]
        exact this
      · have hc9 : c < 49 := mOn_lt ⟨hd.1, hd.2.1⟩ hc
        rw [Nat.zero_add, t8 c hc9]
        have e := mGn_k (D := (mTell tx).2.2) (y := L1 (mLa (!b)) 7) a8 hc9
        show _ = nI (mK (mGn (mTell tx).2.2).g (L1 (mLa (!b)) 7) c)
        rw [e]
        exact hD'.2.2.2.2.2.2.2 c hc9 (Or.inl hc)
      · rcases (by omega : i = 0 ∨ i = 1) with rfl | rfl
        · exact z0
        · exact z1
    obtain ⟨r3, w3, f3, I3, rfl, rfl, fm3, m3⟩ := ex103 (ref I2 (m_up L1 8 4 (L1 (mLa (!b)) 7)) (!b) (fun r2 w2 => ∃ I3 : mF, r2 = some (.int (nI (mTell tx).2.1)) ∧ w2 = (mSH, I3, m_up L1 8 4 (L1 (mLa (!b)) 7), mRk (!b)) ∧ mFm I2 (m_up L1 8 4 (L1 (mLa (!b)) 7)) I3 (m_up L1 8 4 (L1 (mLa (!b)) 7)) ∧ mMI (mGn (mTell tx).2.2) (mYn (mTell tx).2.2 (L1 (mLa (!b)) 7)) (0, h.2) (fun _ => none) (0, tx.2) (0, la.2) tr I3 (m_up L1 8 4 (L1 (mLa (!b)) 7))) hm2 (fun _ => good3) (fun z => by rw [hok] at z; exact absurd z (by decide)))
    exact ⟨.int (nI (mTell tx).2.1), I2, m_up L1 8 4 (L1 (mLa (!b)) 7), !b, I3, m_up L1 8 4 (L1 (mLa (!b)) 7), e44 (k44_0 (c44_8 f1 (k44_11 (fun _ => k44_18 (fun o2 => c44_45 f2 (k44_48 ⟨rfl, rfl⟩))) (fun q => absurd (nI_pos' (by omega)) q)))), f3, _, _, _, _, _, _, _, hwf, hX.fm fm3, m3⟩
end LAWN2
