/-! ones, best -/
theorem mXI.sv {G : mG} {s : mY} {h : mH} {im : mJ} {tx : mTx} {la : mLy} {tr : Int64} {b : Bool} {I I' : mF} {L L' : mFL} (hx : mXI G s h im tx la tr b I L) (hi : mSm [14, 18, 19] I I') (hl : mS17 L L') : mXI G s h im tx la tr b I' L' := by
  obtain ⟨x1, x2, x3, x4, x5, x6, x7⟩ := hx
  have hc : ∀ a, ¬ a = 14 → ¬ a = 18 → ¬ a = 19 → I' a = I a := fun a h1 h2 h3 => hi a (by simp; exact ⟨h1, h2, h3⟩)
  refine ⟨x1.sm ?_, x2.sm ?_ ?_ ?_, x3.sm ?_ ?_ ?_, x4.sm ?_ ?_, x5.sm ?_ ?_, x6.sm ?_ ?_, ?_⟩
  · rintro a k (rfl | rfl)
    · rw [hc _ (by cases b <;> decide) (by cases b <;> decide) (by cases b <;> decide)]
    · rw [hc _ (by cases b <;> decide) (by cases b <;> decide) (by cases b <;> decide)]
  · exact hc 8 (by decide) (by decide) (by decide)
  · exact hc 9 (by decide) (by decide) (by decide)
  · rw [hl 8 (by decide) (by decide)]
  · rw [hc 1 (by decide) (by decide) (by decide)]
  · rw [hc 1 (by decide) (by decide) (by decide)]
  · exact fun a h1 h2 => ⟨hc a (by omega) (by omega) (by omega), hl a (by omega) (by omega)⟩
  · exact hc 12 (by decide) (by decide) (by decide)
  · exact fun a h1 h2 => ⟨hc a (by omega) (by omega) (by omega), hl a (by omega) (by omega)⟩
  · rw [hc 2 (by decide) (by decide) (by decide)]
  · exact hc 3 (by decide) (by decide) (by decide)
  · rw [hc 1 (by decide) (by decide) (by decide)]
  · exact hc 13 (by decide) (by decide) (by decide)
  · rw [hl 1 (by decide) (by decide)]; exact x7
/-- a call that changes the reach and the reference's findings alone -/
theorem mCs_q2 {S : mS} {fx fm : Nat} {av : List Value} (hh : ∀ G s h im tx la tr I L b, mWf G s h im tx la → mXI G s h im tx la tr b I L → ∃ r, (∃ I1 L1, mFn S fx (.ref 1 :: av) (mSH, I, L, mRk b) (some r) (mSH, I1, L1, mRk b) ∧ mSm [14, 18, 19] I I1 ∧ mS17 L L1) ∧ ∀ I1 L1, mMI G s h im tx la tr I1 L1 → ∃ I2, mFn S fm (.ref 44 :: av) (mSH, I1, L1, mRk b) (some r) (mSH, I2, L1, mRk b) ∧ mFh I1 I2) : mCs S fx fm av := by
  refine mCs_of fun G s h im tx la tr I L b hw hx hm => ?_
  obtain ⟨r, ⟨I1, L1, f1, s1, l1⟩, c2⟩ := hh G s h im tx la tr I L b hw hx
  refine ⟨r, G, s, h, im, tx, la, tr, hw, ⟨I1, L1, f1, hx.sv s1 l1, fun a ha => ⟨s1 a (by simp; omega), l1 a (by omega) (by omega)⟩⟩, fun I2 L2 hm2 => ?_⟩
  obtain ⟨I3, f3, s3⟩ := c2 I2 L2 hm2
  exact ⟨I3, L2, f3, hm2.sm (s3.m2 (L := L2)).1 rfl, s3.m2.2⟩
/-- how far a place is, as things stand -/
def mDi (G : mG) (s : mY) (k : Nat) : Nat := mFr (mK G.g s.y) G.W G.H G.T G.O k
theorem mDi_le {G : mG} {s : mY} {k : Nat} : mDi G s k ≤ 49 := by
  unfold mDi mFr
  exact mFf_le 49 k
section ONES
variable {S : mS} {b : Bool}
theorem S18s {G : mG} {s : mY} {h : mH} {im : mJ} {tx : mTx} {la : mLy} {tr : Int64} {I : mF} {L : mFL} (hw : mWf G s h im tx la) (hx : mXI G s h im tx la tr b I L) :
    ∃ (I' : mF) (L' : mFL), mFn S 18 [.ref 15, .ref (mLa b), .long (L 8 4)] (mSH, I, L, mRk b) none (mSH, I', L', mRk b) ∧ mSm [14, 18, 19] I I' ∧ mS17 L L' ∧ mRch (mK G.g s.y) G.W G.H G.T G.O L' ∧ mXI G s h im tx la tr b I' L' ∧ ∀ k, k < 49 → I' 18 k = mFo (mDi G s k) := by
  obtain ⟨I', L', f, s1, l1, r1, d1⟩ := S18 (S := S) (b := b) (L := L) (hx.1.lw hw.1) (fun k hk => (hw.1.2.2.2.2.2.2 k hk).1) (yb := s.y)
  rw [← hx.2.1.2.2.2.2.2] at f
  have s2 : mSm [14, 18, 19] I I' := s1.mono (by simp)
  exact ⟨I', L', f, s2, l1, r1, hx.sv s2 l1, d1⟩
theorem S124s {G : mG} {s : mY} {h : mH} {im : mJ} {tx : mTx} {la : mLy} {tr : Int64} {I : mF} {L : mFL} (hw : mWf G s h im tx la) (hm : mMI G s h im tx la tr I L) :
    ∃ I' : mF, mFn S 124 [.ref 44] (mSH, I, L, mRk b) none (mSH, I', L, mRk b) ∧ mFh I I' ∧ mMI G s h im tx la tr I' L ∧ (∀ k, k < 49 → I' 53 k = nI (mDi G s k) ∧ mDi G s k ≤ 50) ∧ mLds (mK G.g s.y) G.W G.H G.T G.O 49 I' := by
  obtain ⟨I', f, h1, h2, h3⟩ := S124 (S := S) (L := L) (b := b) (hm.2.1.lm hm.1 hw.1)
  exact ⟨I', f, h1, hm.sm (h1.m2 (L := L)).1 rfl, fun k hk => ⟨h2 k hk, Nat.le_trans mDi_le (by decide)⟩, h3⟩
def mOn1 (G : mG) (s : mY) (c : Nat) : Bool := decide (mK G.g s.y c = 0 ∧ mDi G s c = 1)
theorem mDi_vl {G : mG} {s : mY} {c : Nat} (h : ¬ mDi G s c = 0) : mVl (mK G.g s.y) G.W G.H c := by
  by_cases q : mVl (mK G.g s.y) G.W G.H c
  · exact q
  · have e := mFn2_no (T := G.T) (O := G.O) q 49
    unfold mFn2 at e
    unfold mDi mFr at h
    exact absurd e h
theorem Cs_ones : mCs S 64 128 [] := by
  refine mCs_q2 fun G s h im tx la tr I L b hw hx => ?_
  have hg := hw.1
  obtain ⟨I1, L1, f1, s1, l1, -, hx1, d1⟩ := S18s (S := S) hw hx
  refine ⟨.int (nI (mCt (mOn1 G s) 49)), ⟨I1, L1, ?_, s1, l1⟩, fun I2 L2 hm => ?_⟩
  · have loop : ∀ (m k : Nat), k + m = 49 → mWp S 64 22 [some (.ref 1), some (.int (nI (mCt (mOn1 G s) k))), some (.int (nI k))] [] (mSH, I1, L1, mRk b) (fun r2 w2 => r2 = some (.int (nI (mCt (mOn1 G s) 49))) ∧ w2 = (mSH, I1, L1, mRk b)) := by
      intro m
      induction m with
      | zero =>
        intro k hk
        have hk : k = 49 := by omega
        subst hk
        exact k64_22 (fun _ => k64_57 ⟨rfl, rfl⟩) (fun q => absurd (by decide) q)
      | succ m ih =>
        intro k hk
        have hk9 : k < 49 := by omega
        have f47 := S47 (S := S) (b := b) hx1.1 hx1.2.1 hk9
        have f23 := S23 (S := S) (I := I1) (L := L1) (b := b) hk9
        rw [d1 k hk9] at f23
        have h5 : mK G.g s.y k < 5 := mK5 (hg.2.2.2.2.2.2 k hk9).2
        have c0 : nI (mK G.g s.y k) = 0 ↔ mK G.g s.y k = 0 := nI_eq (by omega) (by decide)
        have hle := mDi_le (G := G) (s := s) (k := k)
        have c1 : mFo (mDi G s k) = 1 ↔ mDi G s k = 1 := by
          unfold mFo
          by_cases q : mDi G s k = 0
          · rw [if_pos q, q]
            exact ⟨fun z => absurd z (by decide), fun z => absurd z (by decide)⟩
          · rw [if_neg q]
            exact nI_eq (by omega) (by decide)
        have no : ¬ mOn1 G s k = true → mWp S 64 51 [some (.ref 1), some (.int (nI (mCt (mOn1 G s) k))), some (.int (nI k))] [] (mSH, I1, L1, mRk b) (fun r2 w2 => r2 = some (.int (nI (mCt (mOn1 G s) 49))) ∧ w2 = (mSH, I1, L1, mRk b)) := by
          intro q
          refine k64_51 ?_
          rw [nI_1]
          have := ih (k + 1) (by omega)
          rw [mCt, if_neg q] at this
          exact this
        refine k64_22 (fun q => ?_) (fun _ => k64_28 (c64_30 f47 (k64_33 (fun q => k64_36 (c64_41 f23 (k64_44 (fun q2 => k64_48 (k64_51 ?_)) (fun q2 => no ?_)))) (fun q => no ?_))))
        · rw [show (49 : Int32) = nI 49 from rfl, nI_leI (by decide) (by omega)] at q
          omega
        · have := ih (k + 1) (by omega)
          rw [mCt, if_pos (show mOn1 G s k = true from decide_eq_true ⟨c0.mp q, c1.mp q2⟩)] at this
          rw [nI_1, nI_1]
          exact this
        · intro z
          exact q2 (c1.mpr (of_decide_eq_true z).2)
        · intro z
          exact q (c0.mpr (of_decide_eq_true z).1)
    exact e64 (k64_0 (c64_15 f1 (k64_18 (loop 49 0 (by omega)))))
  · obtain ⟨I3, f3, s3, hm3, d3, -⟩ := S124s (S := S) (b := b) hw hm
    refine ⟨I3, ?_, s3⟩
    have loop : ∀ (m k : Nat), k + m = 49 → mWp S 128 8 [some (.ref 44), some (.int (nI (mCt (mOn1 G s) k))), some (.int (nI k))] [] (mSH, I3, L2, mRk b) (fun r2 w2 => r2 = some (.int (nI (mCt (mOn1 G s) 49))) ∧ w2 = (mSH, I3, L2, mRk b)) := by
      intro m
      induction m with
      | zero =>
        intro k hk
        have hk : k = 49 := by omega
        subst hk
        exact k128_8 (fun _ => k128_58 ⟨rfl, rfl⟩) (fun q => absurd (by decide) q)
      | succ m ih =>
        intro k hk
        have hk9 : k < 49 := by omega
        have e8 : (8 + nI k : Int32) = nI (8 + k) := nI_add 8 k
        have ok : m_ok (8 + nI k) 57 = true := by rw [e8]; exact m_okN (by omega) (by decide)
        obtain ⟨r, f, t, u⟩ := S121 (S := S) (L := L2) (b := b) (hm3.2.1.lm hm3.1 hg) hk9
        have no : ¬ mOn1 G s k = true → mWp S 128 49 [some (.ref 44), some (.int (nI (mCt (mOn1 G s) k))), some (.int (nI k))] [.int (nI (mCt (mOn1 G s) k))] (mSH, I3, L2, mRk b) (fun r2 w2 => r2 = some (.int (nI (mCt (mOn1 G s) 49))) ∧ w2 = (mSH, I3, L2, mRk b)) := by
          intro q
          refine k128_49 (k128_50 ?_)
          rw [nI_1, show (0 : Int32) = nI 0 from rfl, nI_add]
          have := ih (k + 1) (by omega)
          rw [mCt, if_neg q] at this
          exact this
        refine k128_8 (fun q => ?_) (fun _ => k128_14 (c128_17 f ?_))
        · rw [show (49 : Int32) = nI 49 from rfl, nI_leI (by decide) (by omega)] at q
          omega
        by_cases hv : mVl (mK G.g s.y) G.W G.H k
        · rw [t hv]
          have h5 : mK G.g s.y k < 5 := mK5 (hg.2.2.2.2.2.2 k hk9).2
          have c0 : nI (mK G.g s.y k) = 0 ↔ mK G.g s.y k = 0 := nI_eq (by omega) (by decide)
          have hle := mDi_le (G := G) (s := s) (k := k)
          have c1 : nI (mDi G s k) = 1 ↔ mDi G s k = 1 := nI_eq (by omega) (by decide)
          have eK : I3 45 ((8 + nI k : Int32).toNatClampNeg) = nI (mK G.g s.y k) := by rw [e8, nI_clamp (by omega), hm3.2.1.at hv.1]
          have eD : I3 53 ((nI k).toNatClampNeg) = nI (mDi G s k) := by rw [nI_clamp (by omega), (d3 k hk9).1]
          refine k128_20 (fun q => absurd q (by decide)) (fun _ => k128_23 ok (fun q => k128_35 (m_okN hk9 (by decide)) (fun q2 => k128_45 (k128_50 ?_)) (fun q2 => no ?_)) (fun q => no ?_))
          · rw [eK] at q
            rw [eD] at q2
            rw [nI_1, show (1 : Int32) = nI 1 from rfl, nI_add]
            have := ih (k + 1) (by omega)
            rw [mCt, if_pos (show mOn1 G s k = true from decide_eq_true ⟨c0.mp q, c1.mp q2⟩)] at this
            exact this
          · rw [eD] at q2
            intro z
            exact q2 (c1.mpr (of_decide_eq_true z).2)
          · rw [eK] at q
            intro z
            exact q (c0.mpr (of_decide_eq_true z).1)
        · rw [u hv]
          refine k128_20 (fun _ => no ?_) (fun q => absurd rfl q)
          intro z
          have := (of_decide_eq_true z).2
          exact hv (mDi_vl (by omega))
    exact e128 (k128_0 (c128_1 f3 (k128_4 (loop 49 0 (by omega)))))
end ONES
