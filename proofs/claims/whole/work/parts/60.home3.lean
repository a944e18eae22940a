/-! home: the reference's walk, both -/
theorem mCode_lt {j i : Nat} (h : mCode i < mCode j) : i < j := by
  unfold mCode at h
  have a1 : i / 6 / 4 = i / 24 := Nat.div_div_eq_div_mul i 6 4
  have a2 : j / 6 / 4 = j / 24 := Nat.div_div_eq_div_mul j 6 4
  have b1 : i = 24 * (i / 24) + 6 * (i / 6 % 4) + i % 6 := by omega
  have b2 : j = 24 * (j / 24) + 6 * (j / 6 % 4) + j % 6 := by omega
  have c1 := Nat.mod_lt (i / 6) (show 0 < 4 by decide)
  have c2 := Nat.mod_lt (j / 6) (show 0 < 4 by decide)
  have d1 := Nat.mod_lt i (show 0 < 6 by decide)
  have d2 := Nat.mod_lt j (show 0 < 6 by decide)
  generalize i / 24 = w at *
  generalize j / 24 = w' at *
  generalize i / 6 % 4 = d at *
  generalize j / 6 % 4 = d' at *
  generalize i % 6 = n at *
  generalize j % 6 = n' at *
  rcases Nat.lt_trichotomy w w' with q | q | q
  · omega
  · rcases Nat.lt_trichotomy d d' with q2 | q2 | q2
    · omega
    · omega
    · omega
  · omega
theorem mCode_le {T j : Nat} (h : j < 24 * T) : mCode j < 100 * T := by
  unfold mCode
  omega
section HOMEM
variable {S : mS} {b : Bool}
theorem S127 {G : mG} {s : mY} {h : mH} {im : mJ} {tx : mTx} {la : mLy} {tr : Int64} {I : mF} {L : mFL} (hw : mWf G s h im tx la) (hm : mMI G s h im tx la tr I L) (hd : ∀ k, k < 49 → I 53 k = nI (mDi G s k) ∧ mDi G s k ≤ 50) (hl : mLds (mK G.g s.y) G.W G.H G.T G.O 49 I) {c t lev : Nat} (hc : mDi G s c = lev) (hl1 : 1 ≤ lev) (ht : t < G.T) :
    mFn S 127 [.ref 44, .int (nI c), .int (nI t)] (mSH, I, L, mRk b) (some (.int (nI (mCode (mJ0 G s c t lev))))) (mSH, I, L, mRk b) := by
  have hg := hw.1
  have hT := hg.2.1
  have hT6 := hg.2.2.1
  have h7 := hg.1
  have hv := mDi_vl (G := G) (s := s) (c := c) (by omega)
  have hco := hv.1
  have hc9 := mOn_lt h7 hco
  have hlev : lev ≤ 49 := by rw [← hc]; exact mDi_le
  obtain ⟨g1, g2, g3⟩ := mJ0_spec (t := t) hT h7 hc hl1
  have hcj := mCode_le g2
  have e53c : I 53 ((nI c).toNatClampNeg) = nI lev := by rw [nI_clamp (by omega), (hd c hc9).1, hc]
  have eT : I 44 2 = nI G.T := hm.1.2.2.1
  have key : ∀ (m q : Nat) (o4 o5 o6 : Option Value), q + m = mCode (mJ0 G s c t lev) → mWp S 127 2 [some (.ref 44), some (.int (nI c)), some (.int (nI t)), some (.int (nI q)), o4, o5, o6] [] (mSH, I, L, mRk b) (fun r2 w2 => r2 = some (.int (nI (mCode (mJ0 G s c t lev)))) ∧ w2 = (mSH, I, L, mRk b)) := by
    intro m
    induction m with
    | zero =>
      intro q o4 o5 o6 hq
      have hq : q = mCode (mJ0 G s c t lev) := by omega
      have hq2 := hq
      unfold mCode at hq2
      obtain ⟨r1, f1, t1, u1⟩ := S106 (S := S) (I := I) (L := L) (b := b) (nI (q / 10 % 10)) (nI (q % 10))
      have hk : mIsK (nI (q / 10 % 10)) (nI (q % 10)) := ⟨⟨_, Nat.zero_le _, by omega, rfl⟩, _, by omega, by omega, rfl⟩
      have e100 : (100 * I 44 2) = nI (100 * G.T) := by
        rw [eT, show (100 : Int32) = nI 100 from rfl, pk_mul]
      have ew : (nI q / 10) - (nI q / 10) / 10 * 10 = nI (q / 10 % 10) := by
        rw [show (10 : Int32) = nI 10 from rfl, pk_div (by omega) (by decide) (by decide), pk_rem (by omega) (by decide) (by decide)]
      have en : nI q - nI q / 10 * 10 = nI (q % 10) := by
        rw [show (10 : Int32) = nI 10 from rfl, pk_rem (by omega) (by decide) (by decide)]
      have et : (nI t + (nI q / 100)) - (nI t + (nI q / 100)) / (I 44 2) * (I 44 2) = nI ((t + q / 100) % G.T) := by
        rw [eT, show (100 : Int32) = nI 100 from rfl, pk_div (by omega) (by decide) (by decide), nI_add, pk_rem (by omega) hT (by omega)]
      have htm := Nat.mod_lt (t + q / 100) hT
      have f2 : mFn S 122 [.int (nI c), .int (nI ((t + q / 100) % G.T)), .int (nI (q / 10 % 10)), .int (nI (q % 10))] (mSH, I, L, mRk b) (some (.int (nI (144 * c + (24 * ((t + q / 100) % G.T) + 6 * (q / 10 % 10) + (q % 10 - 1)))))) (mSH, I, L, mRk b) := by
        refine e122 (k122_0 ⟨?_, rfl⟩)
        show some (Value.int (((((nI 144 * nI c) + (nI 24 * nI ((t + q / 100) % G.T))) + (nI 6 * nI (q / 10 % 10))) + nI (q % 10)) - nI 1)) = _
        rw [pk_mul, pk_mul, pk_mul, nI_add, nI_add, nI_add, pk_sub (by omega)]
        congr 3
        omega
      have eR : mRj (mK G.g s.y) G.W G.H G.T G.O c (24 * ((t + q / 100) % G.T) + 6 * (q / 10 % 10) + (q % 10 - 1)) = mRoll (mK G.g s.y) G.W G.H G.T G.O (mJ0 G s c t lev % 6 + 1) c (mJ0 G s c t lev / 6 % 4) ((t + mJ0 G s c t lev / 24) % G.T) := by
        unfold mRj
        rw [show (24 * ((t + q / 100) % G.T) + 6 * (q / 10 % 10) + (q % 10 - 1)) % 6 + 1 = mJ0 G s c t lev % 6 + 1 by omega, show (24 * ((t + q / 100) % G.T) + 6 * (q / 10 % 10) + (q % 10 - 1)) / 6 % 4 = mJ0 G s c t lev / 6 % 4 by omega, show (24 * ((t + q / 100) % G.T) + 6 * (q / 10 % 10) + (q % 10 - 1)) / 24 = (t + q / 100) % G.T by omega, show q / 100 = mJ0 G s c t lev / 24 by omega]
      obtain ⟨m1, m2, -⟩ := mRoll_mod (K := mK G.g s.y) (W := G.W) (H := G.H) (T := G.T) (O := G.O) (mJ0 G s c t lev % 6 + 1) c (mJ0 G s c t lev / 6 % 4) ((t + mJ0 G s c t lev / 24) % G.T) (t + mJ0 G s c t lev / 24) (Nat.mod_mod _ _)
      have eL := hl c hc9 hv (24 * ((t + q / 100) % G.T) + 6 * (q / 10 % 10) + (q % 10 - 1)) (by omega)
      rw [eR] at eL
      have hp : (mRoll (mK G.g s.y) G.W G.H G.T G.O (mJ0 G s c t lev % 6 + 1) c (mJ0 G s c t lev / 6 % 4) ((t + mJ0 G s c t lev / 24) % G.T)).2.1 < 49 := mOn_lt h7 (mRoll_on h7 _ _ _ _ hco)
      refine k127_2 (fun z => ?_) (fun _ => k127_13 ?_)
      · rw [e100, nI_leI (by omega) (by omega)] at z
        omega
      rw [ew, en]
      refine c127_32 f1 (k127_35 (fun z => ?_) (fun _ => k127_38 (by rw [eT]; exact m_nz hT (by omega)) ?_))
      · rw [t1 hk] at z
        exact absurd z (by decide)
      rw [et]
      refine c127_58 f2 ?_
      rw [hq] at *
      have fin : ∀ (o6 : Option Value), mWp S 127 117 [some (.ref 44), some (.int (nI c)), some (.int (nI t)), some (.int (nI (mCode (mJ0 G s c t lev)))), some (.int (nI (mCode (mJ0 G s c t lev) / 10 % 10))), some (.int (nI (mCode (mJ0 G s c t lev) % 10))), o6] [] (mSH, I, L, mRk b) (fun r2 w2 => r2 = some (.int (nI (mCode (mJ0 G s c t lev)))) ∧ w2 = (mSH, I, L, mRk b)) := fun _ => k127_117 ⟨rfl, rfl⟩
      have eLc : I 52 ((nI (144 * c + (24 * ((t + mCode (mJ0 G s c t lev) / 100) % G.T) + 6 * (mCode (mJ0 G s c t lev) / 10 % 10) + (mCode (mJ0 G s c t lev) % 10 - 1)))).toNatClampNeg) = mRm (mRoll (mK G.g s.y) G.W G.H G.T G.O (mJ0 G s c t lev % 6 + 1) c (mJ0 G s c t lev / 6 % 4) ((t + mJ0 G s c t lev / 24) % G.T)) := by
        rw [nI_clamp (by omega), eL]
      rcases of_decide_eq_true g1 with gd | gd
      · have q1 : (mRoll (mK G.g s.y) G.W G.H G.T G.O (mJ0 G s c t lev % 6 + 1) c (mJ0 G s c t lev / 6 % 4) ((t + mJ0 G s c t lev / 24) % G.T)).1 = 1 := m1.trans gd.2
        refine k127_61 (m_okN (by omega) (by decide)) (fun _ => k127_71 (m_okN hc9 (by decide)) (fun _ => k127_81 (fin _)) (fun z => ?_)) (fun z => ?_)
        · rw [e53c, gd.1] at z
          exact absurd rfl z
        · rw [eLc] at z
          exact absurd ((mRm_5 hp).mpr q1) z
      · have q1 : (mRoll (mK G.g s.y) G.W G.H G.T G.O (mJ0 G s c t lev % 6 + 1) c (mJ0 G s c t lev / 6 % 4) ((t + mJ0 G s c t lev / 24) % G.T)).1 = 0 := m1.trans gd.2.1
        rw [mRm_0 q1] at eLc
        refine k127_61 (m_okN (by omega) (by decide)) (fun z => ?_) (fun _ => ?_)
        · rw [eLc] at z
          exact absurd (show nI (mRoll (mK G.g s.y) G.W G.H G.T G.O (mJ0 G s c t lev % 6 + 1) c (mJ0 G s c t lev / 6 % 4) ((t + mJ0 G s c t lev / 24) % G.T)).2.1 < 0 by rw [z]; decide) (nI_pos (by omega))
        rw [eLc]
        refine k127_84 (fun z => absurd z (nI_pos (by omega))) (fun _ => k127_89 (m_okN hc9 (by decide)) (fun z => ?_) (fun _ => k127_99 (m_okN hp (by decide)) (m_okN hc9 (by decide)) (fun _ => fin _) (fun z => ?_)))
        · rw [e53c, show (1 : Int32) = nI 1 from rfl, nI_leI (by omega) (by decide)] at z
          omega
        · have e3 : mDi G s (mRoll (mK G.g s.y) G.W G.H G.T G.O (mJ0 G s c t lev % 6 + 1) c (mJ0 G s c t lev / 6 % 4) ((t + mJ0 G s c t lev / 24) % G.T)).2.1 = lev - 1 := by
            rw [m2]
            exact gd.2.2
          rw [e53c, nI_clamp (by omega), (hd _ hp).1, e3, show (1 : Int32) = nI 1 from rfl, pk_sub hl1] at z
          exact absurd rfl z
    | succ m ih =>
      intro q o4 o5 o6 hq
      have hqs : q < mCode (mJ0 G s c t lev) := by omega
      obtain ⟨r1, f1, t1, u1⟩ := S106 (S := S) (I := I) (L := L) (b := b) (nI (q / 10 % 10)) (nI (q % 10))
      have e100 : (100 * I 44 2) = nI (100 * G.T) := by
        rw [eT, show (100 : Int32) = nI 100 from rfl, pk_mul]
      have ew : (nI q / 10) - (nI q / 10) / 10 * 10 = nI (q / 10 % 10) := by
        rw [show (10 : Int32) = nI 10 from rfl, pk_div (by omega) (by decide) (by decide), pk_rem (by omega) (by decide) (by decide)]
      have en : nI q - nI q / 10 * 10 = nI (q % 10) := by
        rw [show (10 : Int32) = nI 10 from rfl, pk_rem (by omega) (by decide) (by decide)]
      have next : ∀ (o4 o5 o6 : Option Value), mWp S 127 119 [some (.ref 44), some (.int (nI c)), some (.int (nI t)), some (.int (nI q)), o4, o5, o6] [] (mSH, I, L, mRk b) (fun r2 w2 => r2 = some (.int (nI (mCode (mJ0 G s c t lev)))) ∧ w2 = (mSH, I, L, mRk b)) := by
        intro o4 o5 o6
        refine k127_119 ?_
        rw [nI_1]
        exact ih (q + 1) o4 o5 o6 (by omega)
      refine k127_2 (fun z => ?_) (fun _ => k127_13 ?_)
      · rw [e100, nI_leI (by omega) (by omega)] at z
        omega
      rw [ew, en]
      by_cases hk : mIsK (nI (q / 10 % 10)) (nI (q % 10))
      · have hk3 : q / 10 % 10 ≤ 3 ∧ 1 ≤ q % 10 ∧ q % 10 ≤ 6 := by
          obtain ⟨⟨d, -, d3, ed⟩, n, n1, n6, e6⟩ := hk
          rw [nI_eq (by omega) (by omega)] at ed e6
          omega
        obtain ⟨hd3, hn1, hn6⟩ := hk3
        have et : (nI t + (nI q / 100)) - (nI t + (nI q / 100)) / (I 44 2) * (I 44 2) = nI ((t + q / 100) % G.T) := by
          rw [eT, show (100 : Int32) = nI 100 from rfl, pk_div (by omega) (by decide) (by decide), nI_add, pk_rem (by omega) hT (by omega)]
        have htm := Nat.mod_lt (t + q / 100) hT
        have f2 : mFn S 122 [.int (nI c), .int (nI ((t + q / 100) % G.T)), .int (nI (q / 10 % 10)), .int (nI (q % 10))] (mSH, I, L, mRk b) (some (.int (nI (144 * c + (24 * ((t + q / 100) % G.T) + 6 * (q / 10 % 10) + (q % 10 - 1)))))) (mSH, I, L, mRk b) := by
          refine e122 (k122_0 ⟨?_, rfl⟩)
          show some (Value.int (((((nI 144 * nI c) + (nI 24 * nI ((t + q / 100) % G.T))) + (nI 6 * nI (q / 10 % 10))) + nI (q % 10)) - nI 1)) = _
          rw [pk_mul, pk_mul, pk_mul, nI_add, nI_add, nI_add, pk_sub (by omega)]
          congr 3
          omega
        -- which stroke it is
        obtain ⟨j, hj⟩ : ∃ j, j = 24 * (q / 100) + 6 * (q / 10 % 10) + (q % 10 - 1) := ⟨_, rfl⟩
        have jq : mCode j = q := by
          unfold mCode
          omega
        have hjj : j < mJ0 G s c t lev := mCode_lt (by rw [jq]; exact hqs)
        have gd : ¬ ((lev = 1 ∧ (mRt2 G s c t j).1 = 1) ∨ (2 ≤ lev ∧ (mRt2 G s c t j).1 = 0 ∧ mDi G s (mRt2 G s c t j).2.1 = lev - 1)) := of_decide_eq_false (g3 j hjj)
        have eR : mRj (mK G.g s.y) G.W G.H G.T G.O c (24 * ((t + q / 100) % G.T) + 6 * (q / 10 % 10) + (q % 10 - 1)) = mRoll (mK G.g s.y) G.W G.H G.T G.O (j % 6 + 1) c (j / 6 % 4) ((t + j / 24) % G.T) := by
          unfold mRj
          rw [show (24 * ((t + q / 100) % G.T) + 6 * (q / 10 % 10) + (q % 10 - 1)) % 6 + 1 = j % 6 + 1 by omega, show (24 * ((t + q / 100) % G.T) + 6 * (q / 10 % 10) + (q % 10 - 1)) / 6 % 4 = j / 6 % 4 by omega, show (24 * ((t + q / 100) % G.T) + 6 * (q / 10 % 10) + (q % 10 - 1)) / 24 = (t + q / 100) % G.T by omega, show q / 100 = j / 24 by omega]
        obtain ⟨m1, m2, -⟩ := mRoll_mod (K := mK G.g s.y) (W := G.W) (H := G.H) (T := G.T) (O := G.O) (j % 6 + 1) c (j / 6 % 4) ((t + j / 24) % G.T) (t + j / 24) (Nat.mod_mod _ _)
        have m1 : (mRoll (mK G.g s.y) G.W G.H G.T G.O (j % 6 + 1) c (j / 6 % 4) ((t + j / 24) % G.T)).1 = (mRt2 G s c t j).1 := m1
        have m2 : (mRoll (mK G.g s.y) G.W G.H G.T G.O (j % 6 + 1) c (j / 6 % 4) ((t + j / 24) % G.T)).2.1 = (mRt2 G s c t j).2.1 := m2
        have eL := hl c hc9 hv (24 * ((t + q / 100) % G.T) + 6 * (q / 10 % 10) + (q % 10 - 1)) (by omega)
        rw [eR] at eL
        have hp : (mRoll (mK G.g s.y) G.W G.H G.T G.O (j % 6 + 1) c (j / 6 % 4) ((t + j / 24) % G.T)).2.1 < 49 := mOn_lt h7 (mRoll_on h7 _ _ _ _ hco)
        have eLc : I 52 ((nI (144 * c + (24 * ((t + q / 100) % G.T) + 6 * (q / 10 % 10) + (q % 10 - 1)))).toNatClampNeg) = mRm (mRoll (mK G.g s.y) G.W G.H G.T G.O (j % 6 + 1) c (j / 6 % 4) ((t + j / 24) % G.T)) := by
          rw [nI_clamp (by omega), eL]
        refine c127_32 f1 (k127_35 (fun z => ?_) (fun _ => k127_38 (by rw [eT]; exact m_nz hT (by omega)) ?_))
        · exact next _ _ _
        rw [et]
        refine c127_58 f2 (k127_61 (m_okN (by omega) (by decide)) (fun z => k127_71 (m_okN hc9 (by decide)) (fun z2 => ?_) (fun _ => next _ _ _)) (fun z => ?_))
        · rw [eLc, mRm_5 hp, m1] at z
          rw [e53c, show (1 : Int32) = nI 1 from rfl, nI_eq (by omega) (by decide)] at z2
          exact absurd (Or.inl ⟨z2, z⟩) gd
        · rw [eLc, mRm_5 hp] at z
          rw [eLc]
          by_cases q0 : (mRoll (mK G.g s.y) G.W G.H G.T G.O (j % 6 + 1) c (j / 6 % 4) ((t + j / 24) % G.T)).1 = 0
          · rw [mRm_0 q0]
            refine k127_84 (fun z => absurd z (nI_pos (by omega))) (fun _ => k127_89 (m_okN hc9 (by decide)) (fun _ => next _ _ _) (fun z1 => k127_99 (m_okN hp (by decide)) (m_okN hc9 (by decide)) (fun z2 => ?_) (fun _ => next _ _ _)))
            rw [e53c, show (1 : Int32) = nI 1 from rfl, nI_leI (by omega) (by decide)] at z1
            have hb := (hd _ hp).2
            rw [e53c, nI_clamp (by omega), (hd _ hp).1, show (1 : Int32) = nI 1 from rfl, pk_sub hl1, nI_eq (by omega) (by omega)] at z2
            rw [m1] at q0
            rw [m2] at z2
            exact absurd (Or.inr ⟨by omega, q0, z2⟩) gd
          · have n6 : mRm (mRoll (mK G.g s.y) G.W G.H G.T G.O (j % 6 + 1) c (j / 6 % 4) ((t + j / 24) % G.T)) = -6 := by
              rw [mRm_6 hp]
              omega
            rw [n6]
            exact k127_84 (fun _ => next _ _ _) (fun z => absurd (by decide) z)
      · refine c127_32 f1 (k127_35 (fun _ => next _ _ _) (fun z => ?_))
        exact absurd (u1 hk) z
  exact e127 (k127_0 (key _ 0 none none none (Nat.zero_add _)))
end HOMEM
