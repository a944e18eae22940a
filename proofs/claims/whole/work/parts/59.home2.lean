/-! home: the class's walk -/
section HOMEX
variable {S : mS} {b : Bool}
theorem S63 {G : mG} {s : mY} {h : mH} {im : mJ} {tx : mTx} {la : mLy} {tr : Int64} {I : mF} {L : mFL} (hw : mWf G s h im tx la) (hx : mXI G s h im tx la tr b I L) (hd : ∀ k, k < 49 → I 18 k = mFo (mDi G s k)) {c t lev : Nat} (hc : mDi G s c = lev) (hl : 1 ≤ lev) (ht : t < 2 ^ 28) :
    ∃ I' : mF, mFn S 63 [.ref 1, .int (nI c), .int (nI t), .int (nI lev)] (mSH, I, L, mRk b) (some (.int (nI (mCode (mJ0 G s c t lev))))) (mSH, I', L, mRk b) ∧ mSm [14] I I' ∧ I' 14 0 = nI (mRt2 G s c t (mJ0 G s c t lev)).2.1 ∧ I' 14 1 = nI (mRt2 G s c t (mJ0 G s c t lev)).2.2 := by
  have hg := hw.1
  have hT := hg.2.1
  have hT6 := hg.2.2.1
  have h7 := hg.1
  have hv := mDi_vl (G := G) (s := s) (c := c) (by omega)
  have hco := hv.1
  have hc9 := mOn_lt h7 hco
  have hlev : lev ≤ 49 := by rw [← hc]; exact mDi_le
  obtain ⟨g1, g2, g3⟩ := mJ0_spec (t := t) hT h7 hc hl
  have key : ∀ (m j : Nat) (J : mF) (o7 : Option Value), j + m = mJ0 G s c t lev → mSm [14] I J → mWp S 63 27 [some (.ref 1), some (.int (nI c)), some (.int (nI t)), some (.int (nI lev)), some (.int (nI (j / 24))), some (.int (nI (j / 6 % 4))), some (.int (nI (j % 6 + 1))), o7] [] (mSH, J, L, mRk b) (fun r2 w2 => ∃ I' : mF, r2 = some (.int (nI (mCode (mJ0 G s c t lev)))) ∧ w2 = (mSH, I', L, mRk b) ∧ mSm [14] I I' ∧ I' 14 0 = nI (mRt2 G s c t (mJ0 G s c t lev)).2.1 ∧ I' 14 1 = nI (mRt2 G s c t (mJ0 G s c t lev)).2.2) := by
    intro m
    induction m with
    | zero =>
      intro j J o7 hj hJ
      have hj : j = mJ0 G s c t lev := by omega
      have hxJ := hx.sv (hJ.mono (by simp)) mS17.rf
      obtain ⟨I', f, s1, p0, p1⟩ := S27 (S := S) (L := L) (b := b) (e := false) (hxJ.1.lw hg) (fun k hk => (hg.2.2.2.2.2.2 k hk).1) (y := s.y) (k := c) (t := t + j / 24) (d := j / 6 % 4) (n := j % 6 + 1) hco (by omega) (by omega)
      have hJ' := hJ.tr s1
      have hR : mRoll (mK G.g s.y) G.W G.H G.T G.O (j % 6 + 1) c (j / 6 % 4) (t + j / 24) = mRt2 G s c t j := rfl
      rw [hR] at f p0 p1
      have hp : (mRt2 G s c t j).2.1 < 49 := mOn_lt h7 (mRoll_on h7 _ _ _ _ hco)
      have gd : mGd G s c t lev j = true := by rw [hj]; exact g1
      have fin : ∀ o7, mWp S 63 90 [some (.ref 1), some (.int (nI c)), some (.int (nI t)), some (.int (nI lev)), some (.int (nI (j / 24))), some (.int (nI (j / 6 % 4))), some (.int (nI (j % 6 + 1))), o7] [] (mSH, I', L, mRk b) (fun r2 w2 => ∃ I' : mF, r2 = some (.int (nI (mCode (mJ0 G s c t lev)))) ∧ w2 = (mSH, I', L, mRk b) ∧ mSm [14] I I' ∧ I' 14 0 = nI (mRt2 G s c t (mJ0 G s c t lev)).2.1 ∧ I' 14 1 = nI (mRt2 G s c t (mJ0 G s c t lev)).2.2) := by
        intro o7
        refine k63_90 ⟨I', ?_, rfl, hJ', ?_, ?_⟩
        · rw [← hj]
          show some (Value.int ((nI 100 * nI (j / 24) + nI 10 * nI (j / 6 % 4)) + nI (j % 6 + 1))) = _
          rw [pk_mul, pk_mul, nI_add, nI_add]
          rfl
        · rw [← hj]
          refine p0.trans ?_
          rw [if_neg]
          intro z
          rcases of_decide_eq_true gd with q | q
          · omega
          · omega
        · rw [← hj]
          exact p1
      refine k63_27 (fun q => ?_) (fun _ => k63_34 ?_)
      · rw [show (6 : Int32) = nI 6 from rfl, nI_ltI (by decide) (by omega)] at q
        omega
      rw [nI_add, hxJ.2.1.2.2.2.2.2]
      refine c63_58 f (k63_61 (fun _ => fin _) (fun q => k63_70 ?_))
      rw [mRe_5 hp] at q
      rcases of_decide_eq_true gd with q2 | q2
      · exact absurd q2.2 q
      · have e0 : I' 14 0 = nI (mRt2 G s c t j).2.1 := p0.trans (by rw [if_neg (by omega)])
        rw [e0]
        have f23 := S23 (S := S) (I := I') (L := L) (b := b) hp
        have e18 : I' 18 (mRt2 G s c t j).2.1 = nI (lev - 1) := by
          rw [hJ' 18 (by decide), hd _ hp, q2.2.2]
          unfold mFo
          rw [if_neg (by omega)]
        rw [e18] at f23
        refine c63_81 f23 (k63_84 (fun _ => fin _) (fun q3 => ?_))
        rw [show (1 : Int32) = nI 1 from rfl, pk_sub hl] at q3
        exact absurd rfl q3
    | succ m ih =>
      intro j J o7 hj hJ
      have hj1 : j < mJ0 G s c t lev := by omega
      have hxJ := hx.sv (hJ.mono (by simp)) mS17.rf
      obtain ⟨I', f, s1, p0, p1⟩ := S27 (S := S) (L := L) (b := b) (e := false) (hxJ.1.lw hg) (fun k hk => (hg.2.2.2.2.2.2 k hk).1) (y := s.y) (k := c) (t := t + j / 24) (d := j / 6 % 4) (n := j % 6 + 1) hco (by omega) (by omega)
      have hJ' := hJ.tr s1
      have hR : mRoll (mK G.g s.y) G.W G.H G.T G.O (j % 6 + 1) c (j / 6 % 4) (t + j / 24) = mRt2 G s c t j := rfl
      rw [hR] at f p0 p1
      have hp : (mRt2 G s c t j).2.1 < 49 := mOn_lt h7 (mRoll_on h7 _ _ _ _ hco)
      have hr2 : (mRt2 G s c t j).1 ≤ 2 := mRoll_1 (K := mK G.g s.y) (W := G.W) (H := G.H) (T := G.T) (O := G.O) (j % 6 + 1) c (j / 6 % 4) (t + j / 24)
      have gd : ¬ ((lev = 1 ∧ (mRt2 G s c t j).1 = 1) ∨ (2 ≤ lev ∧ (mRt2 G s c t j).1 = 0 ∧ mDi G s (mRt2 G s c t j).2.1 = lev - 1)) := of_decide_eq_false (g3 j hj1)
      -- the next stroke
      have next : ∀ o7, mWp S 63 105 [some (.ref 1), some (.int (nI c)), some (.int (nI t)), some (.int (nI lev)), some (.int (nI (j / 24))), some (.int (nI (j / 6 % 4))), some (.int (nI (j % 6 + 1))), o7] [] (mSH, I', L, mRk b) (fun r2 w2 => ∃ I' : mF, r2 = some (.int (nI (mCode (mJ0 G s c t lev)))) ∧ w2 = (mSH, I', L, mRk b) ∧ mSm [14] I I' ∧ I' 14 0 = nI (mRt2 G s c t (mJ0 G s c t lev)).2.1 ∧ I' 14 1 = nI (mRt2 G s c t (mJ0 G s c t lev)).2.2) := by
        intro o7
        have go := ih (j + 1) I' o7 (by omega) hJ'
        refine k63_105 ?_
        rw [nI_1]
        by_cases q6 : j % 6 < 5
        · rw [show (j + 1) / 24 = j / 24 by omega, show (j + 1) / 6 % 4 = j / 6 % 4 by omega, show (j + 1) % 6 = j % 6 + 1 by omega] at go
          exact go
        · refine k63_27 (fun _ => k63_111 ?_) (fun q => ?_)
          · rw [nI_1]
            by_cases q4 : j / 6 % 4 < 3
            · refine k63_18 (fun q => ?_) (fun _ => k63_24 ?_)
              · rw [show (4 : Int32) = nI 4 from rfl, nI_leI (by decide) (by omega)] at q
                omega
              · rw [show (j + 1) / 24 = j / 24 by omega, show (j + 1) / 6 % 4 = j / 6 % 4 + 1 by omega, show (j + 1) % 6 = 0 by omega] at go
                exact go
            · refine k63_18 (fun _ => k63_117 ?_) (fun q => ?_)
              · rw [nI_1]
                refine k63_3 (fun q => ?_) (fun _ => k63_15 (k63_18 (fun q => absurd q (by decide)) (fun _ => k63_24 ?_)))
                · rw [(hx.sv (hJ'.mono (by simp)) mS17.rf).1.2.2.1, nI_leI (by omega) (by omega)] at q
                  omega
                · rw [show (j + 1) / 24 = j / 24 + 1 by omega, show (j + 1) / 6 % 4 = 0 by omega, show (j + 1) % 6 = 0 by omega] at go
                  exact go
              · rw [show (4 : Int32) = nI 4 from rfl, nI_leI (by decide) (by omega)] at q
                omega
          · rw [show (6 : Int32) = nI 6 from rfl, nI_ltI (by decide) (by omega)] at q
            omega
      refine k63_27 (fun q => ?_) (fun _ => k63_34 ?_)
      · rw [show (6 : Int32) = nI 6 from rfl, nI_ltI (by decide) (by omega)] at q
        omega
      rw [nI_add, hxJ.2.1.2.2.2.2.2]
      refine c63_58 f (k63_61 (fun q => ?_) (fun q => k63_70 ?_))
      · rw [mRe_5 hp] at q
        exfalso
        by_cases z : lev = 1
        · exact gd (Or.inl ⟨z, q⟩)
        · exact mDi_noin hT hc (by omega) q
      · rw [mRe_5 hp] at q
        by_cases z2 : (mRt2 G s c t j).1 = 2
        · have e0 : I' 14 0 = nI c := p0.trans (by rw [if_pos z2])
          rw [e0]
          have f23 := S23 (S := S) (I := I') (L := L) (b := b) hc9
          have e18 : I' 18 c = nI lev := by
            rw [hJ' 18 (by decide), hd _ hc9, hc]
            unfold mFo
            rw [if_neg (by omega)]
          rw [e18] at f23
          refine c63_81 f23 (k63_84 (fun q3 => ?_) (fun _ => next _))
          rw [show (1 : Int32) = nI 1 from rfl, pk_sub hl, nI_eq (by omega) (by omega)] at q3
          omega
        · have e0 : I' 14 0 = nI (mRt2 G s c t j).2.1 := p0.trans (by rw [if_neg z2])
          rw [e0]
          have f23 := S23 (S := S) (I := I') (L := L) (b := b) hp
          rw [hJ' 18 (by decide), hd _ hp] at f23
          refine c63_81 f23 (k63_84 (fun q3 => ?_) (fun _ => next _))
          exfalso
          have hdl := mDi_le (G := G) (s := s) (k := (mRt2 G s c t j).2.1)
          rw [show (1 : Int32) = nI 1 from rfl, pk_sub hl] at q3
          unfold mFo at q3
          by_cases z0 : mDi G s (mRt2 G s c t j).2.1 = 0
          · rw [if_pos z0, show (1000 : Int32) = nI 1000 from rfl, nI_eq (by decide) (by omega)] at q3
            omega
          · rw [if_neg z0, nI_eq (by omega) (by omega)] at q3
            exact gd (Or.inr ⟨by omega, by omega, q3⟩)
  obtain ⟨r, w1, hf, I', rfl, rfl, h1, h2, h3⟩ := ex63 (k63_0 (k63_3 (fun q => by
    rw [hx.1.2.2.1, show (0 : Int32) = nI 0 from rfl, nI_leI (by omega) (by omega)] at q
    exact absurd q (by omega)) (fun _ => k63_15 (k63_18 (fun q => absurd q (by decide)) (fun _ => k63_24 (key _ 0 I none (Nat.zero_add _) mSm.rf))))))
  exact ⟨I', hf, h1, h2, h3⟩
theorem S62 {G : mG} {s : mY} {h : mH} {im : mJ} {tx : mTx} {la : mLy} {tr : Int64} {I : mF} {L : mFL} (hw : mWf G s h im tx la) (hx : mXI G s h im tx la tr b I L) (hd : ∀ k, k < 49 → I 18 k = mFo (mDi G s k)) {c n k : Nat} (hc : s.ba = some c) (hn : mDi G s c = n) (hk : k < n) :
    ∃ I' : mF, mFn S 62 [.ref 1, .int (nI k), .int (nI n)] (mSH, I, L, mRk b) (some (.int (nI (mCode (mHk G s k c s.t n))))) (mSH, I', L, mRk b) ∧ mSm [14] I I' := by
  have hg := hw.1
  have hs := hw.2.1
  have hT := hg.2.1
  have hT6 := hg.2.2.1
  have h7 := hg.1
  have hn49 : n ≤ 49 := by rw [← hn]; exact mDi_le
  have key : ∀ (m i c t : Nat) (J : mF) (o5 : Option Value), i + m = k → mDi G s c = n - i → t + 20 * m < 2 ^ 27 → mSm [14] I J → mWp S 62 24 [some (.ref 1), some (.int (nI k)), some (.int (nI n)), some (.int (nI c)), some (.int (nI t)), o5, some (.int (nI i))] [] (mSH, J, L, mRk b) (fun r2 w2 => ∃ I' : mF, r2 = some (.int (nI (mCode (mHk G s m c t (n - i))))) ∧ w2 = (mSH, I', L, mRk b) ∧ mSm [14] I I') := by
    intro m
    induction m with
    | zero =>
      intro i c t J o5 hi hci ht hJ
      have hi : i = k := by omega
      subst hi
      have hxJ := hx.sv (hJ.mono (by simp)) mS17.rf
      obtain ⟨I', f, s1, p0, p1⟩ := S63 (S := S) (b := b) hw hxJ (fun k hk => by rw [hJ 18 (by decide)]; exact hd k hk) hci (by omega) (t := t) (by omega)
      refine k62_24 (fun q => ?_) (fun _ => k62_30 ?_)
      · rw [nI_ltI (by omega) (by omega)] at q
        omega
      · rw [pk_sub (by omega)]
        refine c62_38 f (k62_41 (k62_24 (fun _ => k62_66 ⟨I', rfl, rfl, hJ.tr s1⟩) (fun q => ?_)))
        rw [nI_1, nI_ltI (by omega) (by omega)] at q
        omega
    | succ m ih =>
      intro i c t J o5 hi hci ht hJ
      have hxJ := hx.sv (hJ.mono (by simp)) mS17.rf
      obtain ⟨I', f, s1, p0, p1⟩ := S63 (S := S) (b := b) hw hxJ (fun k hk => by rw [hJ 18 (by decide)]; exact hd k hk) hci (by omega) (t := t) (by omega)
      obtain ⟨-, hnx⟩ := mJ0_next (t := t) hT h7 hci (by omega)
      have hj0 := (mJ0_spec (t := t) hT h7 hci (by omega)).2.1
      have htn : (mRt2 G s c t (mJ0 G s c t (n - i))).2.2 ≤ t + mJ0 G s c t (n - i) / 24 + (mJ0 G s c t (n - i) % 6 + 1) := mRoll_t _ _ _ _
      refine k62_24 (fun q => ?_) (fun _ => k62_30 ?_)
      · rw [nI_ltI (by omega) (by omega)] at q
        omega
      · rw [pk_sub (by omega)]
        refine c62_38 f (k62_41 ?_)
        rw [p0, p1, nI_1, mHk]
        have := ih (i + 1) (mRt2 G s c t (mJ0 G s c t (n - i))).2.1 (mRt2 G s c t (mJ0 G s c t (n - i))).2.2 I' (some (.int (nI (mCode (mJ0 G s c t (n - i)))))) (by omega) (by rw [hnx]; omega) (by omega) (hJ.tr s1)
        rw [show n - (i + 1) = n - i - 1 by omega] at this
        exact this
  have eb : I 8 1 = nI c := by rw [hx.2.1.2.1, hc]; rfl
  have hts := hs.1
  have go := key k 0 c s.t I (some (.int (-9))) (by omega) (by rw [hn]; rfl) (by omega) mSm.rf
  have go2 : mWp S 62 24 [some (.ref 1), some (.int (nI k)), some (.int (nI n)), some (.int (I 8 1)), some (.int (I 8 0)), some (.int (-9)), some (.int 0)] [] (mSH, I, L, mRk b) (fun r2 w2 => ∃ I' : mF, r2 = some (.int (nI (mCode (mHk G s k c s.t n)))) ∧ w2 = (mSH, I', L, mRk b) ∧ mSm [14] I I') := by
    rw [eb, hx.2.1.1]
    exact go
  obtain ⟨r, w1, hf, I', rfl, rfl, h1⟩ := ex62 (k62_0 go2)
  exact ⟨I', hf, h1⟩
end HOMEX
