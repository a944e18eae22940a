/-! board, both -/
section BOARD2
variable {S : mS} {b : Bool}
theorem Cs_board (x : Int32) : mCs S 74 136 [.int x] := by
  refine mCs_q2 fun G s h im tx la tr I L b hw hx => ?_
  have hg := hw.1
  have hs := hw.2.1
  have ho := hs.on31 hg
  by_cases hb : ∃ k, 0 ≤ k ∧ k ≤ 1 ∧ x = nI k
  · obtain ⟨w, -, hw1, rfl⟩ := hb
    have ew : mIn (nI w) 0 1 = 1 := (mIn_n (by omega) (l := 0) (by decide) (h := 1) (by decide)).trans (if_pos ⟨Nat.zero_le _, hw1⟩)
    have xp : ∀ {Q : Option Value → mW → Prop}, mWp S 74 11 [some (.ref 1), some (.int (nI w)), none, none, none, none] [] (mSH, I, L, mRk b) Q → mWp S 74 0 [some (.ref 1), some (.int (nI w)), none, none, none, none] [] (mSH, I, L, mRk b) Q := by
      intro Q hq
      refine k74_0 (fun q => absurd q (nI_pos (by omega))) (fun _ => k74_4 (fun _ => hq) (fun q => ?_))
      rw [show (1 : Int32) = nI 1 from rfl, nI_leI (by omega) (by decide)] at q
      exact absurd hw1 q
    have mp : ∀ {I1 : mF} {L1 : mFL} {Q : Option Value → mW → Prop}, mWp S 136 11 [some (.ref 44), some (.int (nI w)), none, none, none, none, none, none] [] (mSH, I1, L1, mRk b) Q → mWp S 136 0 [some (.ref 44), some (.int (nI w)), none, none, none, none, none, none] [] (mSH, I1, L1, mRk b) Q := by
      intro I1 L1 Q hq
      refine k136_0 (c136_3 (S88 _ _ _) ?_)
      rw [ew]
      exact k136_6 (fun q => absurd q (show ¬ (1 : Int32) = 0 by decide)) (fun _ => hq)
    by_cases hon : s.on = none
    · refine ⟨.int (-2), ⟨I, L, e74 (xp (k74_11 (fun q => ?_) (fun _ => k74_21 ⟨rfl, rfl⟩))), mSm.rf, mS17.rf⟩, fun I1 L1 hm1 => ?_⟩
      · rw [hx.2.1.2.2.2.1, mOe_ge ho] at q
        exact absurd hon q
      · obtain ⟨r3, f3, t3, -⟩ := S107 (S := S) (L := L1) (b := b) hm1.2.1 ho
        refine ⟨I1, e136 (mp (k136_11 (c136_12 f3 (k136_15 (fun q => ?_) (fun _ => k136_18 ⟨rfl, rfl⟩))))), mFh.rf⟩
        rw [t3 hon] at q
        exact absurd q (by decide)
    · obtain ⟨k, hkb⟩ := hs.ball hon
      have hko : mOn G.W G.H k := hs.2.1 k hkb
      have hk9 : k < 49 := mOn_lt hg.1 hko
      obtain ⟨I1, L1, f1, s1, l1, r1, hx1, d1⟩ := S18s (S := S) hw hx
      have cw0 : nI w = 0 ↔ w = 0 := nI_eq (by omega) (by decide)
      have cw1 : nI w = 1 ↔ w = 1 := nI_eq (by omega) (by decide)
      -- the class
      have done : ∀ (c : Nat) (J : mF) (M : mFL) (o2 o4 o5 : Option Value), mBf G s k w c = mBf G s k w 49 → mSm [14, 18, 19] I J → mS17 L M → mWp S 74 138 [some (.ref 1), some (.int (nI w)), o2, some (.int (mOe (mBf G s k w c).2)), o4, o5] [] (mSH, J, M, mRk b) (fun r2 w2 => ∃ (I' : mF) (L' : mFL), r2 = some (.int (mAn (mBf G s k w 49).2)) ∧ w2 = (mSH, I', L', mRk b) ∧ mSm [14, 18, 19] I I' ∧ mS17 L L') := by
        intro c J M o2 o4 o5 e hJ hM
        rw [e]
        refine k74_138 (c74_139 (S50o (fun p hp => mBf_lt 49 p hp)) (k74_142 ⟨J, M, rfl, rfl, hJ, hM⟩))
      have xl : ∀ (m c : Nat) (J : mF) (M : mFL) (o5 : Option Value), c + m = 49 → mSm [14, 18, 19] I J → mS17 L M → mRch (mK G.g s.y) G.W G.H G.T G.O M → mWp S 74 63 [some (.ref 1), some (.int (nI w)), some (.int (nI (mBf G s k w c).1)), some (.int (mOe (mBf G s k w c).2)), some (.int (nI c)), o5] [] (mSH, J, M, mRk b) (fun r2 w2 => ∃ (I' : mF) (L' : mFL), r2 = some (.int (mAn (mBf G s k w 49).2)) ∧ w2 = (mSH, I', L', mRk b) ∧ mSm [14, 18, 19] I I' ∧ mS17 L L') := by
        intro m
        induction m with
        | zero =>
          intro c J M o5 hc hJ hM hR
          have hc : c = 49 := by omega
          subst hc
          exact k74_63 (fun _ => done 49 J M _ _ _ rfl hJ hM) (fun q => absurd (by decide) q)
        | succ m ih =>
          intro c J M o5 hc hJ hM hR
          have hc9 : c < 49 := by omega
          have hxJ := hx.sv hJ hM
          have hle := mBf_le (G := G) (s := s) (k := k) (w := w) c
          have hdw := mCv_le (mDw_le (G := G) (s := s) (k := k) (c := c))
          have fX : mFn S 57 [.ref 1, .int (nI c), .int (nI w)] (mSH, J, M, mRk b) (some (.int (if mMy G s w c then 1 else 0))) (mSH, J, M, mRk b) := by
            by_cases q : w = 1
            · have e : mMy G s w c = mMay G s c := if_pos q
              rw [e, q]
              exact S57b hxJ.1 hxJ.2.1 hg hs hc9
            · have e : mMy G s w c = mB s.y c := if_neg q
              have : w = 0 := by omega
              rw [e, this]
              exact S57a hxJ.2.1 hc9
          -- the next place
          have next : ∀ (J : mF) (M : mFL) (o5 : Option Value) (v : Nat × Option Nat), mBf G s k w (c + 1) = v → mSm [14, 18, 19] I J → mS17 L M → mRch (mK G.g s.y) G.W G.H G.T G.O M → mWp S 74 132 [some (.ref 1), some (.int (nI w)), some (.int (nI v.1)), some (.int (mOe v.2)), some (.int (nI c)), o5] [] (mSH, J, M, mRk b) (fun r2 w2 => ∃ (I' : mF) (L' : mFL), r2 = some (.int (mAn (mBf G s k w 49).2)) ∧ w2 = (mSH, I', L', mRk b) ∧ mSm [14, 18, 19] I I' ∧ mS17 L L') := by
            intro J M o5 v e hJ hM hR
            refine k74_132 ?_
            rw [nI_1, ← e]
            exact ih (c + 1) J M _ (by omega) hJ hM hR
          have cmp : ∀ (J : mF) (M : mFL) (o5 : Option Value) (n : Nat), n ≤ 1000 → (mBi w n (mBf G s k w c).1 = true → mBf G s k w (c + 1) = (n, some c)) → (¬ mBi w n (mBf G s k w c).1 = true → mBf G s k w (c + 1) = mBf G s k w c) → mSm [14, 18, 19] I J → mS17 L M → mRch (mK G.g s.y) G.W G.H G.T G.O M → mWp S 74 105 [some (.ref 1), some (.int (nI w)), some (.int (nI (mBf G s k w c).1)), some (.int (mOe (mBf G s k w c).2)), some (.int (nI c)), o5] [.int (nI n)] (mSH, J, M, mRk b) (fun r2 w2 => ∃ (I' : mF) (L' : mFL), r2 = some (.int (mAn (mBf G s k w 49).2)) ∧ w2 = (mSH, I', L', mRk b) ∧ mSm [14, 18, 19] I I' ∧ mS17 L L') := by
            intro J M o5 n hn h1 h2 hJ hM hR
            refine k74_105 (fun q => ?_) (fun q => ?_)
            · rw [cw0] at q
              have eb : mBi w n (mBf G s k w c).1 = decide (n < (mBf G s k w c).1) := if_pos q
              refine k74_111 (fun q2 => next J M _ _ (h2 ?_) hJ hM hR) (fun q2 => k74_117 (k74_126 (next J M _ _ (h1 ?_) hJ hM hR)))
              · rw [nI_leI (by omega) (by omega)] at q2
                rw [eb, decide_eq_true_iff]
                omega
              · rw [nI_leI (by omega) (by omega)] at q2
                rw [eb, decide_eq_true_iff]
                omega
            · rw [cw0] at q
              have eb : mBi w n (mBf G s k w c).1 = decide ((mBf G s k w c).1 < n) := if_neg q
              refine k74_120 (fun q2 => next J M _ _ (h2 ?_) hJ hM hR) (fun q2 => k74_126 (next J M _ _ (h1 ?_) hJ hM hR))
              · rw [nI_leI (by omega) (by omega)] at q2
                rw [eb, decide_eq_true_iff]
                omega
              · rw [nI_leI (by omega) (by omega)] at q2
                rw [eb, decide_eq_true_iff]
                omega
          have body : mWp S 74 85 [some (.ref 1), some (.int (nI w)), some (.int (nI (mBf G s k w c).1)), some (.int (mOe (mBf G s k w c).2)), some (.int (nI c)), o5] [] (mSH, J, M, mRk b) (fun r2 w2 => ∃ (I' : mF) (L' : mFL), r2 = some (.int (mAn (mBf G s k w 49).2)) ∧ w2 = (mSH, I', L', mRk b) ∧ mSm [14, 18, 19] I I' ∧ mS17 L L') := by
            refine k74_85 (c74_89 fX ?_)
            cases hmy : mMy G s w c with
            | false =>
              refine k74_92 (fun _ => k74_104 (cmp J M _ _ hle ?_ (fun _ => ?_) hJ hM hR)) (fun q => absurd rfl q)
              · intro q
                exfalso
                unfold mBi at q
                split at q
                · exact Nat.lt_irrefl _ (of_decide_eq_true q)
                · exact Nat.lt_irrefl _ (of_decide_eq_true q)
              · rw [mBf, if_neg (fun z => by rw [hmy] at z; exact absurd z.1 (by decide))]
            | true =>
              obtain ⟨I2, L2, f2, s2, l2, r2⟩ := S75 (S := S) (b := b) hw hxJ hkb hc9 hR
              refine k74_92 (fun q => absurd q (by decide)) (fun _ => k74_95 (c74_98 f2 (k74_101 (cmp I2 L2 _ _ hdw (fun q => ?_) (fun q => ?_) (hJ.tr s2) (hM.tr l2) r2))))
              · rw [mBf, if_pos ⟨hmy, q⟩]
              · rw [mBf, if_neg (fun z => q z.2)]
          refine k74_63 (fun q => ?_) (fun _ => k74_70 (fun q => k74_75 (fun q2 => k74_82 (done c J M _ _ _ ?_ hJ hM)) (fun _ => body)) (fun _ => body))
          · rw [show (49 : Int32) = nI 49 from rfl, nI_leI (by decide) (by omega)] at q
            omega
          · rw [cw1] at q
            subst q
            rw [show (1000 : Int32) = nI 1000 from rfl, nI_eq (by omega) (by decide)] at q2
            have := mBf_end q2 (49 - c)
            rw [show c + (49 - c) = 49 by omega] at this
            exact this.symm
      have eb : I1 8 1 = nI k := by rw [hx1.2.1.2.1, hkb]; rfl
      have f23 := S23 (S := S) (I := I1) (L := L1) (b := b) hk9
      rw [d1 k hk9, mFo_c] at f23
      obtain ⟨r2, w2, f2, I2, L2, rfl, rfl, s2, l2⟩ := ex74 (xp (k74_11 (fun _ => k74_24 (c74_39 f1 (k74_42 (by
        rw [eb]
        exact c74_53 f23 (k74_56 (xl 49 0 I1 L1 _ (by omega) s1 l1 r1)))))) (fun q => by
        rw [hx.2.1.2.2.2.1, mOe_ge ho] at q
        exact absurd hon q)))
      refine ⟨.int (mAn (mBf G s k w 49).2), ⟨I2, L2, f2, s2, l2⟩, fun I3 L3 hm => ?_⟩
      -- the reference
      obtain ⟨r3, f3, -, t3⟩ := S107 (S := S) (L := L3) (b := b) hm.2.1 ho
      have z2 : I3 45 ((2 : Int32).toNatClampNeg) = nI k := by
        have : I3 45 ((2 : Int32).toNatClampNeg) = mOe s.ba := hm.2.1.2.2.1
        rw [this, hkb]
        rfl
      have e8k : (8 + nI k : Int32) = nI (8 + k) := nI_add 8 k
      have eKk : I3 45 ((8 + nI k : Int32).toNatClampNeg) = nI (mK G.g s.y k) := by rw [e8k, nI_clamp (by omega), hm.2.1.at hko]
      obtain ⟨J0, f5, h5⟩ := S135 (S := S) (b := b) hw hm (K' := mK G.g s.y) hkb hko (fun _ _ => rfl) rfl (mK5 (hg.2.2.2.2.2.2 k hk9).2)
      have ml : ∀ (m c : Nat) (J : mF) (o5 o6 o7 : Option Value), c + m = 49 → mFh I3 J → mWp S 136 52 [some (.ref 44), some (.int (nI w)), some (.int (nI (mBf G s k w c).1)), some (.int (mOe (mBf G s k w c).2)), some (.int (nI c)), o5, o6, o7] [] (mSH, J, L3, mRk b) (fun r2 w2 => ∃ I' : mF, r2 = some (.int (mAn (mBf G s k w 49).2)) ∧ w2 = (mSH, I', L3, mRk b) ∧ mFh I3 I') := by
        intro m
        induction m with
        | zero =>
          intro c J o5 o6 o7 hc hJ
          have hc : c = 49 := by omega
          subst hc
          exact k136_52 (fun _ => k136_196 (c136_197 (S91o (fun p hp => mBf_lt 49 p hp)) (k136_200 ⟨J, rfl, rfl, hJ⟩))) (fun q => absurd (by decide) q)
        | succ m ih =>
          intro c J o5 o6 o7 hc hJ
          have hc9 : c < 49 := by omega
          have hmJ := hm.sm (hJ.m2 (L := L3)).1 (L' := L3) rfl
          have hle := mBf_le (G := G) (s := s) (k := k) (w := w) c
          have hdw := mCv_le (mDw_le (G := G) (s := s) (k := k) (c := c))
          have e7 : nI c / 7 = nI (c / 7) := pk_div (by omega) (by decide : 0 < 7) (by decide)
          have m7 : nI c - nI c / 7 * 7 = nI (c % 7) := pk_rem (by omega) (by decide : 0 < 7) (by decide)
          have e8 : (8 + nI c : Int32) = nI (8 + c) := nI_add 8 c
          have ok : m_ok (8 + nI c) 57 = true := by rw [e8]; exact m_okN (by omega) (by decide)
          have next : ∀ (J : mF) (o5 o6 o7 : Option Value) (v : Nat × Option Nat), mBf G s k w (c + 1) = v → mFh I3 J → mWp S 136 190 [some (.ref 44), some (.int (nI w)), some (.int (nI v.1)), some (.int (mOe v.2)), some (.int (nI c)), o5, o6, o7] [] (mSH, J, L3, mRk b) (fun r2 w2 => ∃ I' : mF, r2 = some (.int (mAn (mBf G s k w 49).2)) ∧ w2 = (mSH, I', L3, mRk b) ∧ mFh I3 I') := by
            intro J o5 o6 o7 v e hJ
            refine k136_190 ?_
            rw [nI_1, ← e]
            exact ih (c + 1) J _ _ _ (by omega) hJ
          have no : ∀ (o5 o6 o7 : Option Value), mMy G s w c = false → mWp S 136 111 [some (.ref 44), some (.int (nI w)), some (.int (nI (mBf G s k w c).1)), some (.int (mOe (mBf G s k w c).2)), some (.int (nI c)), o5, o6, o7] [.int 0] (mSH, J, L3, mRk b) (fun r2 w2 => ∃ I' : mF, r2 = some (.int (mAn (mBf G s k w 49).2)) ∧ w2 = (mSH, I', L3, mRk b) ∧ mFh I3 I') := by
            intro o5 o6 o7 hmy
            refine k136_111 (fun _ => next J _ _ _ _ ?_ hJ) (fun q => absurd rfl q)
            rw [mBf, if_neg (fun z => by rw [hmy] at z; exact absurd z.1 (by decide))]
          have yes : ∀ (o5 o6 o7 : Option Value), mOn G.W G.H c → mMy G s w c = true → mWp S 136 111 [some (.ref 44), some (.int (nI w)), some (.int (nI (mBf G s k w c).1)), some (.int (mOe (mBf G s k w c).2)), some (.int (nI c)), o5, o6, o7] [.int 1] (mSH, J, L3, mRk b) (fun r2 w2 => ∃ I' : mF, r2 = some (.int (mAn (mBf G s k w 49).2)) ∧ w2 = (mSH, I', L3, mRk b) ∧ mFh I3 I') := by
            intro o5 o6 o7 hco hmy
            have hkd : mK G.g (mTg s.y c) c = w := by
              have et := mB_tg (y := s.y) (c := c) (k := c) (by omega) (by omega)
              rw [if_pos rfl] at et
              unfold mK
              by_cases q : w = 1
              · have e : mMy G s w c = mMay G s c := if_pos q
                rw [e] at hmy
                have hk0 := (of_decide_eq_true hmy).2.1
                unfold mK at hk0
                cases hB : mB s.y c with
                | true =>
                  rw [hB] at hk0
                  exact absurd (show (1 : Nat) = 0 from hk0) (by decide)
                | false =>
                  rw [hB] at et
                  rw [et, q]
                  rfl
              · have e : mMy G s w c = mB s.y c := if_neg q
                rw [e] at hmy
                rw [hmy] at et
                rw [et]
                have := (hs.2.2.2.2.2.2 c hmy).2
                show G.g c = w
                omega
            obtain ⟨J2, f6, h6⟩ := S135 (S := S) (b := b) hw hmJ (K' := mK G.g (mTg s.y c)) (k := k) (kd := w) hkb hco (fun j hj => mK_tg (by omega) hj) hkd (by omega)
            have hJ2 := hJ.tr h6
            have pick : ∀ (o5 : Option Value) (u : Bool), (u = true ↔ mBi w (mCv (mDw G s k c)) (mBf G s k w c).1 = true) → ∀ o7 : Option Value, mWp S 136 164 [some (.ref 44), some (.int (nI w)), some (.int (nI (mBf G s k w c).1)), some (.int (mOe (mBf G s k w c).2)), some (.int (nI c)), o5, some (.int (nI (mCv (mDw G s k c)))), o7] [.int (mU u)] (mSH, J2, L3, mRk b) (fun r2 w2 => ∃ I' : mF, r2 = some (.int (mAn (mBf G s k w 49).2)) ∧ w2 = (mSH, I', L3, mRk b) ∧ mFh I3 I') := by
              intro o5 u hu o7
              cases u with
              | true =>
                refine k136_164 (fun q => absurd q (by decide)) (fun _ => k136_171 (k136_177 (fun q => absurd q (by decide)) (fun _ => k136_183 (k136_189 (next J2 _ _ _ (mCv (mDw G s k c), some c) ?_ hJ2)))))
                rw [mBf, if_pos ⟨hmy, hu.mp rfl⟩]
              | false =>
                refine k136_164 (fun _ => k136_176 (k136_177 (fun _ => k136_188 (k136_189 (next J2 _ _ _ _ ?_ hJ2))) (fun q => absurd rfl q))) (fun q => absurd rfl q)
                rw [mBf, if_neg (fun z => absurd (hu.mpr z.2) (by decide))]
            have cmp : ∀ (o5 o6 o7 : Option Value), mWp S 136 133 [some (.ref 44), some (.int (nI w)), some (.int (nI (mBf G s k w c).1)), some (.int (mOe (mBf G s k w c).2)), some (.int (nI c)), o5, o6, o7] [.int (nI (mCv (mDw G s k c)))] (mSH, J2, L3, mRk b) (fun r2 w2 => ∃ I' : mF, r2 = some (.int (mAn (mBf G s k w 49).2)) ∧ w2 = (mSH, I', L3, mRk b) ∧ mFh I3 I') := by
              intro o5 o6 o7
              refine k136_133 (fun q => ?_) (fun q => ?_)
              · rw [cw0] at q
                have eb : mBi w (mCv (mDw G s k c)) (mBf G s k w c).1 = decide (mCv (mDw G s k c) < (mBf G s k w c).1) := if_pos q
                refine k136_139 (fun q2 => k136_149 (pick _ false ?_ _)) (fun q2 => k136_145 (pick _ true ?_ _))
                · rw [nI_leI (by omega) (by omega)] at q2
                  rw [eb, decide_eq_true_iff]
                  exact ⟨fun z => absurd z (by decide), fun z => by omega⟩
                · rw [nI_leI (by omega) (by omega)] at q2
                  rw [eb, decide_eq_true_iff]
                  exact ⟨fun _ => by omega, fun _ => rfl⟩
              · rw [cw0] at q
                have eb : mBi w (mCv (mDw G s k c)) (mBf G s k w c).1 = decide ((mBf G s k w c).1 < mCv (mDw G s k c)) := if_neg q
                refine k136_153 (fun q2 => k136_163 (pick _ false ?_ _)) (fun q2 => k136_159 (pick _ true ?_ _))
                · rw [nI_leI (by omega) (by omega)] at q2
                  rw [eb, decide_eq_true_iff]
                  exact ⟨fun z => absurd z (by decide), fun z => by omega⟩
                · rw [nI_leI (by omega) (by omega)] at q2
                  rw [eb, decide_eq_true_iff]
                  exact ⟨fun _ => by omega, fun _ => rfl⟩
            refine k136_111 (fun q => absurd q (by decide)) (fun _ => k136_118 (fun q => k136_125 ?_) (fun q => k136_129 ?_))
            · rw [cw0] at q
              subst q
              exact c136_130 f6 (cmp _ _ _)
            · rw [cw0] at q
              have q : w = 1 := by omega
              subst q
              exact c136_130 f6 (cmp _ _ _)
          have f89 := S89 (S := S) (L := L3) (b := b) hmJ.1.1 hmJ.1.2.1 hg.1 (nI (c % 7)) (nI (c / 7))
          have ei : mIc G.W G.H (nI (c % 7)) (nI (c / 7)) = if mOn G.W G.H c then 1 else 0 := by
            unfold mIc
            rw [mPlace_n (by omega) (by omega)]
            by_cases z : mOn G.W G.H c
            · rw [if_pos z, if_pos z]
            · rw [if_neg z, if_neg z]
          refine k136_52 (fun q => ?_) (fun _ => k136_59 ?_)
          · rw [show (49 : Int32) = nI 49 from rfl, nI_leI (by decide) (by omega)] at q
            omega
          rw [e7]
          rw [e7] at m7
          rw [m7]
          refine c136_70 f89 ?_
          rw [ei]
          by_cases hco : mOn G.W G.H c
          · rw [if_pos hco]
            refine k136_73 (fun q => absurd q (by decide)) (fun _ => k136_76 (fun q => ?_) (fun q => ?_))
            · rw [cw0] at q
              have e : mMy G s w c = mB s.y c := if_neg (by omega)
              have eK : J 45 ((8 + nI c : Int32).toNatClampNeg) = nI (mK G.g s.y c) := by rw [e8, nI_clamp (by omega), hmJ.2.1.at hco]
              have hgc := hg.2.2.2.2.2.2 c hc9
              have h5 : mK G.g s.y c < 5 := mK5 hgc.2
              refine k136_80 ok (fun q2 => k136_94 (k136_106 (yes _ _ _ hco ?_))) (fun q2 => k136_110 (no _ _ _ ?_))
              · rw [eK, show (1 : Int32) = nI 1 from rfl, nI_eq (by omega) (by decide)] at q2
                rw [e]
                unfold mK at q2
                cases hB : mB s.y c with
                | true => rfl
                | false =>
                  rw [hB] at q2
                  exact absurd q2 hgc.1
              · rw [eK, show (1 : Int32) = nI 1 from rfl, nI_eq (by omega) (by decide)] at q2
                rw [e]
                cases hB : mB s.y c with
                | false => rfl
                | true =>
                  unfold mK at q2
                  rw [hB] at q2
                  exact absurd rfl q2
            · rw [cw0] at q
              have e : mMy G s w c = mMay G s c := if_pos (by omega)
              have f116 := S116 (S := S) (L := L3) (b := b) hmJ.1 hmJ.2.1 hg hs hco
              rw [← e] at f116
              refine k136_97 (c136_100 f116 ?_)
              cases hmy : mMy G s w c with
              | true => exact k136_103 (fun q => absurd q (by decide)) (fun _ => k136_106 (yes _ _ _ hco hmy))
              | false => exact k136_103 (fun _ => k136_110 (no _ _ _ hmy)) (fun q => absurd rfl q)
          · rw [if_neg hco]
            refine k136_73 (fun _ => k136_110 (no _ _ _ ?_)) (fun q => absurd rfl q)
            unfold mMy
            split
            · exact decide_eq_false (fun z => hco z.1)
            · cases hB : mB s.y c with
              | false => rfl
              | true => exact absurd (hs.2.2.2.2.2.2 c hB).1 hco
      obtain ⟨r6, w6, f7, I6, rfl, rfl, s6⟩ := ex136 (mp (k136_11 (c136_12 f3 (k136_15 (fun _ => k136_21 (by rw [z2, e8k]; exact m_okN (by omega) (by decide)) (by
        rw [z2, eKk]
        exact c136_42 f5 (k136_45 (ml 49 0 J0 none none none (by omega) h5)))) (fun q => absurd (t3 hon) q)))))
      exact ⟨I6, f7, s6⟩
  · refine ⟨.int (-1), ⟨I, L, e74 (k74_0 (fun _ => k74_9 ⟨rfl, rfl⟩) (fun q => k74_4 (fun q2 => absurd ?_ hb) (fun _ => k74_9 ⟨rfl, rfl⟩))), mSm.rf, mS17.rf⟩, fun I1 L1 hm1 => ⟨I1, e136 (k136_0 (c136_3 (S88 _ _ _) ?_)), mFh.rf⟩⟩
    · obtain ⟨k, hk, rfl⟩ := nI_of q
      rw [show (1 : Int32) = nI 1 from rfl, nI_leI hk (by decide)] at q2
      exact ⟨k, Nat.zero_le _, q2, rfl⟩
    · rcases mCm_in (v := x) (lo := 0) (hi := 1) (by decide) (by decide) with ⟨e, -⟩ | ⟨-, q⟩
      · have e : mIn x 0 1 = 0 := e
        rw [e]
        exact k136_6 (fun _ => k136_9 ⟨rfl, rfl⟩) (fun q => absurd rfl q)
      · exact absurd q hb
end BOARD2
