/-! home, both -/
section HOME
variable {S : mS} {b : Bool}
theorem mLds.t30 {K : Nat → Nat} {W H T O c : Nat} {I I' : mF} (h : mLds K W H T O c I) (ht : mT30 I I') : mLds K W H T O c I' := fun p hp hv j hj => (ht 52 _ (by omega)).trans (h p hp hv j hj)
theorem S126_loop {G : mG} {s : mY} {h : mH} {im : mJ} {tx : mTx} {la : mLy} {tr : Int64} {I : mF} {L : mFL} (hw : mWf G s h im tx la) (hm : mMI G s h im tx la tr I L) (hd : ∀ k, k < 49 → I 53 k = nI (mDi G s k) ∧ mDi G s k ≤ 50) (hl : mLds (mK G.g s.y) G.W G.H G.T G.O 49 I) {k n : Nat} (hk : k < 2 ^ 31) (hn : n ≤ 49) : ∀ (m i c t : Nat) (J : mF) (o4 o6 o7 : Option Value), i + (m + 1) = n → mDi G s c = n - i → (k < n → i ≤ k) → t < G.T → mT30 I J → mWp S 126 65 [some (.ref 44), some (.int (nI k)), some (.int (nI n)), some (.int (nI c)), some (.int (nI t)), some (.int (nI i)), o6, o7] [] (mSH, J, L, mRk b) (fun r2 w2 => ∃ I' : mF, r2 = some (.int (if k < n then nI (mCode (mHk G s (k - i) c t (n - i))) else -5)) ∧ w2 = (mSH, I', L, mRk b) ∧ mT30 I I') := by
  have hg := hw.1
  have hT := hg.2.1
  have hT6 := hg.2.2.1
  have h7 := hg.1
  intro m
  induction m with
  | zero =>
    intro i c t J o4 o6 o7 hi hc hki ht hJ
    have hv := mDi_vl (G := G) (s := s) (c := c) (by omega)
    have hmJ := hm.sm (hJ.m2 (L := L)).1 (L' := L) rfl
    have f := S127 (S := S) (b := b) hw hmJ (fun p hp => ⟨by rw [hJ 53 p (by omega)]; exact (hd p hp).1, (hd p hp).2⟩) (hl.t30 hJ) hc (by omega) ht
    obtain ⟨g1, g2, -⟩ := mJ0_spec (t := t) hT h7 hc (by omega)
    have hcj := mCode_le g2
    refine k126_65 (fun q => ?_) (fun _ => k126_71 (c126_75 f (k126_78 (fun q => k126_86 ⟨J, ?_, rfl, hJ⟩) (fun q => k126_89 ?_))))
    · rw [nI_leI (by omega) (by omega)] at q
      omega
    · rw [nI_eq (by omega) (by omega)] at q
      rw [if_pos (by omega), q, Nat.sub_self]
      rfl
    · rw [nI_eq (by omega) (by omega)] at q
      have hq : mCode (mJ0 G s c t (n - i)) = 100 * (mJ0 G s c t (n - i) / 24) + 10 * (mJ0 G s c t (n - i) / 6 % 4) + (mJ0 G s c t (n - i) % 6 + 1) := rfl
      have ew : (nI (mCode (mJ0 G s c t (n - i))) / 10) - (nI (mCode (mJ0 G s c t (n - i))) / 10) / 10 * 10 = nI (mJ0 G s c t (n - i) / 6 % 4) := by
        rw [show (10 : Int32) = nI 10 from rfl, pk_div (by omega) (by decide) (by decide), pk_rem (by omega) (by decide) (by decide)]
        congr 1
        omega
      have en : nI (mCode (mJ0 G s c t (n - i))) - nI (mCode (mJ0 G s c t (n - i))) / 10 * 10 = nI (mJ0 G s c t (n - i) % 6 + 1) := by
        rw [show (10 : Int32) = nI 10 from rfl, pk_rem (by omega) (by decide) (by decide)]
        congr 1
        omega
      have et : nI t + (nI (mCode (mJ0 G s c t (n - i))) / 100) = nI (t + mJ0 G s c t (n - i) / 24) := by
        rw [show (100 : Int32) = nI 100 from rfl, pk_div (by omega) (by decide) (by decide), nI_add]
        congr 1
        omega
      rw [ew, en, et]
      obtain ⟨J2, f2, h2, -⟩ := S105 (S := S) (L := L) (b := b) (hmJ.2.1.lm hmJ.1 hg) (k := c) (t := t + mJ0 G s c t (n - i) / 24) (d := mJ0 G s c t (n - i) / 6 % 4) (n := mJ0 G s c t (n - i) % 6 + 1) hv.1 (by omega) (by omega) (by omega)
      have hJ2 : mT30 I J2 := fun a j haj => (h2 a j haj).trans (hJ a j haj)
      refine c126_116 f2 (k126_119 ?_ (k126_65 (fun _ => k126_140 ⟨J2, ?_, rfl, hJ2⟩) (fun q2 => ?_)))
      · rw [hJ2 44 2 (by omega), hm.1.2.2.1]
        exact m_nz hT (by omega)
      · rw [if_neg (by omega)]
      · rw [nI_1, nI_leI (by omega) (by omega)] at q2
        omega
  | succ m ih =>
    intro i c t J o4 o6 o7 hi hc hki ht hJ
    have hv := mDi_vl (G := G) (s := s) (c := c) (by omega)
    have hmJ := hm.sm (hJ.m2 (L := L)).1 (L' := L) rfl
    have f := S127 (S := S) (b := b) hw hmJ (fun p hp => ⟨by rw [hJ 53 p (by omega)]; exact (hd p hp).1, (hd p hp).2⟩) (hl.t30 hJ) hc (by omega) ht
    obtain ⟨g1, g2, -⟩ := mJ0_spec (t := t) hT h7 hc (by omega)
    obtain ⟨n0, n1⟩ := mJ0_next (t := t) hT h7 hc (by omega)
    have hcj := mCode_le g2
    refine k126_65 (fun q => ?_) (fun _ => k126_71 (c126_75 f (k126_78 (fun q => k126_86 ⟨J, ?_, rfl, hJ⟩) (fun q => k126_89 ?_))))
    · rw [nI_leI (by omega) (by omega)] at q
      omega
    · rw [nI_eq (by omega) (by omega)] at q
      rw [if_pos (by omega), q, Nat.sub_self]
      rfl
    · rw [nI_eq (by omega) (by omega)] at q
      have hq : mCode (mJ0 G s c t (n - i)) = 100 * (mJ0 G s c t (n - i) / 24) + 10 * (mJ0 G s c t (n - i) / 6 % 4) + (mJ0 G s c t (n - i) % 6 + 1) := rfl
      have ew : (nI (mCode (mJ0 G s c t (n - i))) / 10) - (nI (mCode (mJ0 G s c t (n - i))) / 10) / 10 * 10 = nI (mJ0 G s c t (n - i) / 6 % 4) := by
        rw [show (10 : Int32) = nI 10 from rfl, pk_div (by omega) (by decide) (by decide), pk_rem (by omega) (by decide) (by decide)]
        congr 1
        omega
      have en : nI (mCode (mJ0 G s c t (n - i))) - nI (mCode (mJ0 G s c t (n - i))) / 10 * 10 = nI (mJ0 G s c t (n - i) % 6 + 1) := by
        rw [show (10 : Int32) = nI 10 from rfl, pk_rem (by omega) (by decide) (by decide)]
        congr 1
        omega
      have et : nI t + (nI (mCode (mJ0 G s c t (n - i))) / 100) = nI (t + mJ0 G s c t (n - i) / 24) := by
        rw [show (100 : Int32) = nI 100 from rfl, pk_div (by omega) (by decide) (by decide), nI_add]
        congr 1
        omega
      rw [ew, en, et]
      obtain ⟨J2, f2, h2, h30⟩ := S105 (S := S) (L := L) (b := b) (hmJ.2.1.lm hmJ.1 hg) (k := c) (t := t + mJ0 G s c t (n - i) / 24) (d := mJ0 G s c t (n - i) / 6 % 4) (n := mJ0 G s c t (n - i) % 6 + 1) hv.1 (by omega) (by omega) (by omega)
      have hJ2 : mT30 I J2 := fun a j haj => (h2 a j haj).trans (hJ a j haj)
      have eR : mRoll (mK G.g s.y) G.W G.H G.T G.O (mJ0 G s c t (n - i) % 6 + 1) c (mJ0 G s c t (n - i) / 6 % 4) (t + mJ0 G s c t (n - i) / 24) = mRt2 G s c t (mJ0 G s c t (n - i)) := rfl
      rw [eR] at f2 h30
      rw [mRm_0 n0] at f2
      have hge : t + mJ0 G s c t (n - i) / 24 ≤ (mRt2 G s c t (mJ0 G s c t (n - i))).2.2 := mRoll_ge _ _ _ _
      have hle : (mRt2 G s c t (mJ0 G s c t (n - i))).2.2 ≤ t + mJ0 G s c t (n - i) / 24 + (mJ0 G s c t (n - i) % 6 + 1) := mRoll_t _ _ _ _
      refine c126_116 f2 (k126_119 ?_ ?_)
      · rw [hJ2 44 2 (by omega), hm.1.2.2.1]
        exact m_nz hT (by omega)
      · have e44 : J2 44 2 = nI G.T := by rw [hJ2 44 2 (by omega), hm.1.2.2.1]
        rw [h30, e44, nI_add, show t + mJ0 G s c t (n - i) / 24 + ((mRt2 G s c t (mJ0 G s c t (n - i))).2.2 - (t + mJ0 G s c t (n - i) / 24)) = (mRt2 G s c t (mJ0 G s c t (n - i))).2.2 by omega, pk_rem (by omega) hT (by omega), nI_1]
        have go := ih (i + 1) (mRt2 G s c t (mJ0 G s c t (n - i))).2.1 ((mRt2 G s c t (mJ0 G s c t (n - i))).2.2 % G.T) J2 o4 (some (.int (nI (mCode (mJ0 G s c t (n - i)))))) (some (.int (nI (t + mJ0 G s c t (n - i) / 24)))) (by omega) (by rw [n1]; omega) (fun z => by have := hki z; omega) (Nat.mod_lt _ hT) hJ2
        refine mWp_mono go ?_
        rintro r2 w2 ⟨I', e1, e2, e3⟩
        refine ⟨I', ?_, e2, e3⟩
        rw [e1]
        by_cases z : k < n
        · rw [if_pos z, if_pos z]
          have := hki z
          have ek : k - i = (k - (i + 1)) + 1 := by omega
          rw [ek, mHk, mHk_mod (k - (i + 1)) _ _ _ _ (Nat.mod_mod _ _), show n - (i + 1) = n - i - 1 by omega]
        · rw [if_neg z, if_neg z]
theorem m_m1 {x : Int32} (h1 : -1 ≤ x) (h2 : x < 0) : x = -1 := by
  apply Int32.toInt_inj.mp
  rw [Int32.le_iff_toInt_le] at h1
  rw [Int32.lt_iff_toInt_lt, Int32.toInt_zero] at h2
  have : (-1 : Int32).toInt = -1 := by decide
  rw [this] at h1 ⊢
  omega
theorem Cs_home (x : Int32) : mCs S 61 126 [.int x] := by
  refine mCs_q2 fun G s h im tx la tr I L b hw hx => ?_
  have hg := hw.1
  have hs := hw.2.1
  have ho := hs.on31 hg
  have hT := hg.2.1
  by_cases h1 : -1 ≤ x
  · by_cases hon : s.on = none
    · refine ⟨.int (-2), ⟨I, L, e61 (k61_0 (fun _ => k61_7 (fun q => ?_) (fun _ => k61_17 ⟨rfl, rfl⟩)) (fun q => absurd h1 q)), mSm.rf, mS17.rf⟩, fun I1 L1 hm1 => ?_⟩
      · rw [hx.2.1.2.2.2.1, mOe_ge ho] at q
        exact absurd hon q
      · obtain ⟨r3, f3, t3, -⟩ := S107 (S := S) (L := L1) (b := b) hm1.2.1 ho
        refine ⟨I1, e126 (k126_0 (fun _ => k126_7 (c126_8 f3 (k126_11 (fun q => ?_) (fun _ => k126_14 ⟨rfl, rfl⟩)))) (fun q => absurd h1 q)), mFh.rf⟩
        rw [t3 hon] at q
        exact absurd q (by decide)
    · obtain ⟨c, hcb⟩ := hs.ball hon
      have hco : mOn G.W G.H c := hs.2.1 c hcb
      have hc9 : c < 49 := mOn_lt hg.1 hco
      obtain ⟨I1, L1, f1, s1, l1, -, hx1, d1⟩ := S18s (S := S) hw hx
      have eb : I1 8 1 = nI c := by rw [hx1.2.1.2.1, hcb]; rfl
      have f23 := S23 (S := S) (I := I1) (L := L1) (b := b) hc9
      rw [d1 c hc9] at f23
      have hle := mDi_le (G := G) (s := s) (k := c)
      have xs : ∀ {Q : Option Value → mW → Prop} , mWp S 61 52 [some (.ref 1), some (.int x), none] [.int (mFo (mDi G s c))] (mSH, I1, L1, mRk b) Q → mWp S 61 0 [some (.ref 1), some (.int x), none] [] (mSH, I, L, mRk b) Q := by
        intro Q hq
        refine k61_0 (fun _ => k61_7 (fun _ => k61_20 (c61_35 f1 (k61_38 ?_))) (fun q => ?_)) (fun q => absurd h1 q)
        · rw [eb]
          exact c61_49 f23 hq
        · rw [hx.2.1.2.2.2.1, mOe_ge ho] at q
          exact absurd hon q
      -- the reference's beginning
      have ms : ∀ {I2 : mF} {L2 : mFL}, mMI G s h im tx la tr I2 L2 → ∃ I3 : mF, mFh I2 I3 ∧ mMI G s h im tx la tr I3 L2 ∧ (∀ k, k < 49 → I3 53 k = nI (mDi G s k) ∧ mDi G s k ≤ 50) ∧ mLds (mK G.g s.y) G.W G.H G.T G.O 49 I3 ∧ ∀ {Q : Option Value → mW → Prop}, mWp S 126 31 [some (.ref 44), some (.int x), none, none, none, none, none, none] [.int (if mDi G s c = 0 then -9 else nI (mDi G s c))] (mSH, I3, L2, mRk b) Q → mWp S 126 0 [some (.ref 44), some (.int x), none, none, none, none, none, none] [] (mSH, I2, L2, mRk b) Q := by
        intro I2 L2 hm
        obtain ⟨r3, f3, -, t3⟩ := S107 (S := S) (L := L2) (b := b) hm.2.1 ho
        obtain ⟨I3, f4, s3, hm3, d3, l3⟩ := S124s (S := S) (b := b) hw hm
        refine ⟨I3, s3, hm3, d3, l3, fun {Q} hq => ?_⟩
        have z2 : I3 45 ((2 : Int32).toNatClampNeg) = nI c := by
          have : I3 45 ((2 : Int32).toNatClampNeg) = mOe s.ba := hm3.2.1.2.2.1
          rw [this, hcb]
          rfl
        refine k126_0 (fun _ => k126_7 (c126_8 f3 (k126_11 (fun _ => k126_17 (c126_18 f4 (k126_21 ?_))) (fun q => absurd (t3 hon) q)))) (fun q => absurd h1 q)
        rw [z2]
        exact c126_28 (S125 d3 hc9) hq
      by_cases hd0 : mDi G s c = 0
      · refine ⟨.int (-9), ⟨I1, L1, e61 (xs ?_), s1, l1⟩, fun I2 L2 hm => ?_⟩
        · rw [hd0]
          exact k61_52 (fun _ => k61_60 ⟨rfl, rfl⟩) (fun q => absurd rfl q)
        · obtain ⟨I3, s3, -, -, -, go⟩ := ms hm
          refine ⟨I3, e126 (go ?_), s3⟩
          rw [if_pos hd0]
          exact k126_31 (fun _ => k126_40 ⟨rfl, rfl⟩) (fun q => absurd (by decide) q)
      · have eo : mFo (mDi G s c) = nI (mDi G s c) := by
          unfold mFo
          rw [if_neg hd0]
        rw [eo] at xs
        have n1000 : ¬ nI (mDi G s c) = 1000 := by
          rw [show (1000 : Int32) = nI 1000 from rfl, nI_eq (by omega) (by decide)]
          omega
        by_cases h0 : x < 0
        · have hx1' := m_m1 h1 h0
          subst hx1'
          refine ⟨.int (nI (mDi G s c)), ⟨I1, L1, e61 (xs (k61_52 (fun q => absurd q n1000) (fun _ => k61_63 (fun _ => k61_68 ⟨rfl, rfl⟩) (fun q => absurd rfl q)))), s1, l1⟩, fun I2 L2 hm => ?_⟩
          obtain ⟨I3, s3, -, -, -, go⟩ := ms hm
          refine ⟨I3, e126 (go ?_), s3⟩
          rw [if_neg hd0]
          exact k126_31 (fun q => absurd q (nI_pos (by omega))) (fun _ => k126_36 (fun q => absurd q (by decide)) (fun _ => k126_40 ⟨rfl, rfl⟩))
        · obtain ⟨k, hk, rfl⟩ := nI_of h0
          have nm1 : ¬ nI k = -1 := fun q => absurd (show nI k < 0 by rw [q]; decide) h0
          refine ⟨.int (if k < mDi G s c then nI (mCode (mHk G s k c s.t (mDi G s c))) else -5), ?_, fun I2 L2 hm => ?_⟩
          · by_cases hkd : k < mDi G s c
            · obtain ⟨I2, f2, s2⟩ := S62 (S := S) (b := b) hw hx1 d1 hcb rfl hkd
              refine ⟨I2, L1, e61 (xs (k61_52 (fun q => absurd q n1000) (fun _ => k61_63 (fun q => absurd q nm1) (fun _ => k61_70 (fun _ => k61_80 (c61_83 f2 (k61_86 ⟨?_, rfl⟩))) (fun q => ?_))))), s1.tr (s2.mono (by simp)), l1⟩
              · rw [if_pos hkd]
              · rw [nI_ltI (by omega) (by omega)] at q
                exact absurd hkd q
            · refine ⟨I1, L1, e61 (xs (k61_52 (fun q => absurd q n1000) (fun _ => k61_63 (fun q => absurd q nm1) (fun _ => k61_70 (fun q => ?_) (fun _ => k61_75 (k61_86 ⟨?_, rfl⟩)))))), s1, l1⟩
              · rw [nI_ltI (by omega) (by omega)] at q
                exact absurd q hkd
              · rw [if_neg hkd]
          · obtain ⟨I3, s3, hm3, d3, l3, go⟩ := ms hm
            have hts := hs.1
            have z0 : I3 45 ((0 : Int32).toNatClampNeg) = nI s.t := hm3.2.1.1
            have z2 : I3 45 ((2 : Int32).toNatClampNeg) = nI c := by
              have : I3 45 ((2 : Int32).toNatClampNeg) = mOe s.ba := hm3.2.1.2.2.1
              rw [this, hcb]
              rfl
            have e44 : I3 44 2 = nI G.T := hm3.1.2.2.1
            have hT6 := hg.2.2.1
            obtain ⟨m, em⟩ : ∃ m, mDi G s c = m + 1 := ⟨mDi G s c - 1, by omega⟩
            have lp := S126_loop (S := S) (b := b) hw hm3 d3 l3 (k := k) (n := mDi G s c) hk hle m 0 c (s.t % G.T) I3 (some (.int (nI (s.t % G.T)))) none none (by omega) (by omega) (fun _ => Nat.zero_le _) (Nat.mod_lt _ hT) mT30.rf
            have start : mWp S 126 42 [some (.ref 44), some (.int (nI k)), some (.int (nI (mDi G s c))), none, none, none, none, none] [] (mSH, I3, L2, mRk b) (fun r2 w2 => ∃ I' : mF, r2 = some (.int (if k < mDi G s c then nI (mCode (mHk G s k c s.t (mDi G s c))) else -5)) ∧ w2 = (mSH, I', L2, mRk b) ∧ mT30 I3 I') := by
              refine k126_42 ?_ ?_
              · rw [e44]
                exact m_nz hT (by omega)
              · rw [z0, z2, e44, pk_rem (by omega) hT (by omega)]
                refine mWp_mono lp ?_
                rintro r2 w2 ⟨I', e1, e2, e3⟩
                refine ⟨I', ?_, e2, e3⟩
                rw [e1, mHk_mod (k - 0) _ _ _ _ (Nat.mod_mod _ _)]
                rfl
            obtain ⟨r5, w5, f5, I5, rfl, rfl, s5⟩ := ex126 (go (by
              rw [if_neg hd0]
              exact k126_31 (fun q => absurd q (nI_pos (by omega))) (fun _ => k126_36 (fun _ => start) (fun q => absurd (nI_pos' hk) q))))
            exact ⟨I5, f5, s3.t30 s5⟩
  · refine ⟨.int (-1), ⟨I, L, e61 (k61_0 (fun q => absurd q h1) (fun _ => k61_5 ⟨rfl, rfl⟩)), mSm.rf, mS17.rf⟩, fun I1 L1 hm1 => ⟨I1, e126 (k126_0 (fun q => absurd q h1) (fun _ => k126_5 ⟨rfl, rfl⟩)), mFh.rf⟩⟩
end HOME
