/-! odds -/
def mCd (u : Nat) : Nat → Nat
  | 0 => 1
  | 1 => 1
  | n + 2 => if 10 % (n + 2) = 0 ∧ u % (n + 2) = 0 then n + 2 else mCd u (n + 1)
def mEu : Nat → Nat → Nat → Nat
  | 0, y, _ => y
  | f + 1, y, z => if z = 0 then y else mEu f z (y % z)
theorem mCd_le {u : Nat} : ∀ n, 1 ≤ mCd u n ∧ mCd u n ≤ n + 1
  | 0 => ⟨Nat.le_refl _, Nat.le_refl _⟩
  | 1 => ⟨Nat.le_refl _, Nat.le_succ 1⟩
  | n + 2 => by
    unfold mCd
    split
    · omega
    · have := mCd_le (u := u) (n + 1); omega
theorem mCd_eu : ∀ u, u < 11 → mCd u 10 = mEu 12 u 10 := by decide
theorem mUp_le : ∀ x, x < 6 → ∀ a, a < 2 → ∀ c, c < 2 → ∀ e, e < 2 → x * a + x * c + (10 - 2 * x) * e < 11 ∧ x * a + x * c + (10 - 2 * x) * e = x * (a + c) + (10 - 2 * x) * e := by decide
/-- whether a stroke is in -/
def mIb (G : mG) (s : mY) (k d n : Nat) : Nat := if (mRs G s k 0 d n).1 = 1 then 1 else 0
theorem mIb_lt {G : mG} {s : mY} {k d n : Nat} : mIb G s k d n < 2 := by
  unfold mIb
  split <;> decide
def mUpr (G : mG) (s : mY) (k d n x : Nat) : Nat := x * mIb G s k d (min 6 (n + 1)) + x * mIb G s k d (max 1 (n - 1)) + (10 - 2 * x) * mIb G s k d n
section ODDS
variable {S : mS}
theorem S66 {G : mG} {s : mY} {I : mF} {L : mFL} {b : Bool} (hl : mXL G b I) (hp : mXY s 8 I L) (hg : mGw G) (hs : mYw G s) {k d n : Nat} (hk : s.ba = some k) (hd : d < 4) (hn : n ≤ 6) :
    ∃ I' : mF, mFn S 66 [.ref 1, .int (nI d), .int (nI n)] (mSH, I, L, mRk b) (some (.int (nI (mIb G s k d n)))) (mSH, I', L, mRk b) ∧ mSm [14] I I' := by
  obtain ⟨I2, f2, s2, -⟩ := S53 (S := S) hl hp hg hs hk (w := 0) (d := d) (n := n) (by decide) hd hn
  have e5 := mRe_5 (mRs_lt (w := 0) (d := d) (n := n) hg hs hk)
  refine ⟨I2, e66 (k66_0 (c66_4 f2 (k66_7 (fun q => k66_12 (k66_17 ⟨?_, rfl⟩)) (fun q => k66_16 (k66_17 ⟨?_, rfl⟩))))), s2⟩
  · unfold mIb
    rw [if_pos (e5.mp q)]
    rfl
  · unfold mIb
    rw [if_neg (fun z => q (e5.mpr z))]
    rfl
theorem S129 {G : mG} {s : mY} {I : mF} {L : mFL} {b : Bool} (hl : mML G I) (hp : mMY G s 45 0 I) (hg : mGw G) (hs : mYw G s) {k d n : Nat} {v : Int32} (hk : s.ba = some k) (hd : d < 4) (hn : n ≤ 6) (hv : (v = nI 0 ∧ n = 1) ∨ (v = nI n ∧ 1 ≤ n) ∨ (v = nI 7 ∧ n = 6)) :
    ∃ I' : mF, mFn S 129 [.ref 44, .int (nI d), .int v] (mSH, I, L, mRk b) (some (.int (nI (mIb G s k d n)))) (mSH, I', L, mRk b) ∧ mT30 I I' := by
  obtain ⟨I2, f2, s2, -⟩ := S105s (S := S) (L := L) (b := b) hl hp hg hs hk (w := 0) (d := d) (n := n) (by decide) hd hn
  have e5 := mRm_5 (mRs_lt (w := 0) (d := d) (n := n) hg hs hk)
  have z0 : I 45 ((0 : Int32).toNatClampNeg) = nI s.t := hp.1
  have z2 : I 45 ((2 : Int32).toNatClampNeg) = nI k := by
    have : I 45 ((2 : Int32).toNatClampNeg) = mOe s.ba := hp.2.2.1
    rw [this, hk]
    rfl
  have k21 : ∀ o3, mWp S 129 21 [some (.ref 44), some (.int (nI d)), some (.int v), o3] [.int (nI n)] (mSH, I, L, mRk b) (fun r2 w2 => r2 = some (.int (nI (mIb G s k d n))) ∧ w2 = (mSH, I2, L, mRk b)) := by
    intro o3
    refine k129_21 ?_
    rw [z0, z2]
    refine c129_37 f2 (k129_40 (fun q => k129_45 (k129_50 ⟨?_, rfl⟩)) (fun q => k129_49 (k129_50 ⟨?_, rfl⟩)))
    · unfold mIb
      rw [if_pos (e5.mp q)]
      rfl
    · unfold mIb
      rw [if_neg (fun z => q (e5.mpr z))]
      rfl
  refine ⟨I2, e129 ?_, s2⟩
  rcases hv with ⟨rfl, rfl⟩ | ⟨rfl, h1⟩ | ⟨rfl, rfl⟩
  · exact k129_0 (fun q => absurd q (by decide)) (fun _ => k129_5 (k21 _))
  · refine k129_0 (fun _ => k129_9 (fun _ => k129_20 (k21 _)) (fun q => ?_)) (fun q => ?_)
    · rw [show (6 : Int32) = nI 6 from rfl, nI_leI (by omega) (by decide)] at q
      exact absurd hn q
    · rw [show (1 : Int32) = nI 1 from rfl, nI_leI (by decide) (by omega)] at q
      exact absurd h1 q
  · exact k129_0 (fun _ => k129_9 (fun q => absurd q (by decide)) (fun _ => k129_15 (k21 _))) (fun q => absurd (by decide) q)
theorem S67 {I : mF} {L : mFL} {b : Bool} {u : Nat} (hu : u < 11) : mFn S 67 [.int (nI u)] (mSH, I, L, mRk b) (some (.int (nI (mCd u 10)))) (mSH, I, L, mRk b) := by
  have loop : ∀ n, n ≤ 10 → mWp S 67 3 [some (.int (nI u)), some (.int (nI n))] [] (mSH, I, L, mRk b) (fun r2 w2 => r2 = some (.int (nI (mCd u n))) ∧ w2 = (mSH, I, L, mRk b)) := by
    intro n
    induction n with
    | zero => exact fun _ => k67_3 (fun _ => k67_29 ⟨rfl, rfl⟩) (fun q => absurd (by decide) q)
    | succ m ih =>
      intro hm
      match m, ih with
      | 0, _ => exact k67_3 (fun _ => k67_29 ⟨rfl, rfl⟩) (fun q => absurd (by decide) q)
      | j + 1, ih =>
        have back := ih (by omega)
        have e1 : nI (j + 1 + 1) + (-1) = nI (j + 1) := pk_m1 (j + 1)
        have r10 : (10 : Int32) - 10 / nI (j + 1 + 1) * nI (j + 1 + 1) = nI (10 % (j + 1 + 1)) := pk_rem (a := 10) (by decide) (by omega) (by omega)
        have l1 : 10 % (j + 1 + 1) < j + 1 + 1 := Nat.mod_lt _ (by omega)
        have l2 : u % (j + 1 + 1) < j + 1 + 1 := Nat.mod_lt _ (by omega)
        refine k67_3 (fun q => ?_) (fun _ => k67_8 (m_nz (by omega) (by omega)) (fun q => k67_15 (m_nz (by omega) (by omega)) (fun q2 => k67_21 ⟨?_, rfl⟩) (fun q2 => k67_23 ?_)) (fun q => k67_23 ?_))
        · rw [show (1 : Int32) = nI 1 from rfl, nI_leI (by omega) (by decide)] at q
          omega
        · rw [r10, show (0 : Int32) = nI 0 from rfl, nI_eq (by omega) (by decide)] at q
          rw [pk_rem (by omega) (by omega) (by omega), show (0 : Int32) = nI 0 from rfl, nI_eq (by omega) (by decide)] at q2
          rw [mCd, if_pos ⟨q, q2⟩]
        · rw [pk_rem (by omega) (by omega) (by omega), show (0 : Int32) = nI 0 from rfl, nI_eq (by omega) (by decide)] at q2
          rw [e1, mCd, if_neg (fun z => q2 z.2)]
          exact back
        · rw [r10, show (0 : Int32) = nI 0 from rfl, nI_eq (by omega) (by decide)] at q
          rw [e1, mCd, if_neg (fun z => q z.1)]
          exact back
  exact e67 (k67_0 (loop 10 (Nat.le_refl _)))
theorem S130_eu {Q : Option Value → mW → Prop} {I : mF} {L : mFL} {b : Bool} {o0 o1 o2 o3 o4 o5 : Option Value} : ∀ (f y z : Nat) (o8 : Option Value), y < 11 → z < 11 → z < f → (∀ o8, mWp S 130 105 [o0, o1, o2, o3, o4, o5, some (.int (nI (mEu f y z))), some (.int 0), o8] [] (mSH, I, L, mRk b) Q) → mWp S 130 82 [o0, o1, o2, o3, o4, o5, some (.int (nI y)), some (.int (nI z)), o8] [] (mSH, I, L, mRk b) Q
  | 0, y, z, o8, hy, hz, hf, h => absurd hf (Nat.not_lt_zero _)
  | f + 1, y, z, o8, hy, hz, hf, h => by
    by_cases q : z = 0
    · subst q
      refine k130_82 (fun _ => ?_) (fun q2 => absurd (by decide) q2)
      have := h o8
      rw [mEu, if_pos rfl] at this
      exact this
    · have hlt : y % z < z := Nat.mod_lt _ (by omega)
      refine k130_82 (fun q2 => ?_) (fun _ => k130_87 (m_nz (by omega) (by omega)) ?_)
      · rw [show (0 : Int32) = nI 0 from rfl, nI_leI (by omega) (by decide)] at q2
        omega
      · rw [pk_rem (by omega) (by omega) (by omega)]
        refine S130_eu f z (y % z) _ hz (by omega) (by omega) (fun o8 => ?_)
        have := h o8
        rw [mEu, if_neg q] at this
        exact this
theorem Cs_odds (way hard x what : Int32) : mCs S 65 130 [.int way, .int hard, .int x, .int what] := by
  refine mCs_q fun G s h im tx la tr I L b hw hx => ?_
  have hg := hw.1
  have hs := hw.2.1
  have ho := hs.on31 hg
  obtain ⟨r1, f1, t1, u1⟩ := S52 (S := S) (I := I) (L := L) (b := b) way hard
  by_cases hb : mIsK way hard ∧ (∃ k, 0 ≤ k ∧ k ≤ 5 ∧ x = nI k) ∧ ∃ k, 0 ≤ k ∧ k ≤ 1 ∧ what = nI k
  · obtain ⟨hk, ⟨x, -, hx5, rfl⟩, w, -, hw1, rfl⟩ := hb
    have e1 := t1 hk
    subst e1
    have xp : ∀ {Q : Option Value → mW → Prop}, mWp S 65 30 [some (.ref 1), some (.int way), some (.int hard), some (.int (nI x)), some (.int (nI w)), none, none] [] (mSH, I, L, mRk b) Q → mWp S 65 0 [some (.ref 1), some (.int way), some (.int hard), some (.int (nI x)), some (.int (nI w)), none, none] [] (mSH, I, L, mRk b) Q := by
      intro Q hq
      refine k65_0 (c65_2 f1 (k65_5 (fun q => absurd q (show ¬ (1 : Int32) = 0 by decide)) (fun _ => k65_8 (fun q => absurd q (nI_pos (by omega))) (fun _ => k65_12 (fun q => ?_) (fun _ => k65_17 (fun q => absurd q (nI_pos (by omega))) (fun _ => k65_22 (fun _ => hq) (fun q => ?_)))))))
      · rw [show (5 : Int32) = nI 5 from rfl, nI_ltI (by decide) (by omega)] at q
        omega
      · rw [show (1 : Int32) = nI 1 from rfl, nI_leI (by omega) (by decide)] at q
        exact absurd hw1 q
    have mp : ∀ {I1 : mF} {L1 : mFL} {Q : Option Value → mW → Prop}, mWp S 130 29 [some (.ref 44), some (.int way), some (.int hard), some (.int (nI x)), some (.int (nI w)), none, none, none, none] [] (mSH, I1, L1, mRk b) Q → mWp S 130 0 [some (.ref 44), some (.int way), some (.int hard), some (.int (nI x)), some (.int (nI w)), none, none, none, none] [] (mSH, I1, L1, mRk b) Q := by
      intro I1 L1 Q hq
      obtain ⟨r2, f2, t2, -⟩ := S106 (S := S) (I := I1) (L := L1) (b := b) way hard
      have e2 := t2 hk
      subst e2
      have ea : mIn (nI x) 0 5 = 1 := (mIn_n (by omega) (l := 0) (by decide) (h := 5) (by decide)).trans (if_pos ⟨Nat.zero_le _, hx5⟩)
      have eb : mIn (nI w) 0 1 = 1 := (mIn_n (by omega) (l := 0) (by decide) (h := 1) (by decide)).trans (if_pos ⟨Nat.zero_le _, hw1⟩)
      refine k130_0 (c130_2 f2 (k130_5 (fun q => absurd q (show ¬ (1 : Int32) = 0 by decide)) (fun _ => k130_8 (c130_11 (S88 _ _ _) ?_))))
      rw [ea]
      refine k130_14 (fun q => absurd q (show ¬ (1 : Int32) = 0 by decide)) (fun _ => k130_17 (c130_21 (S88 _ _ _) ?_))
      rw [eb]
      exact k130_24 (fun q => absurd q (show ¬ (1 : Int32) = 0 by decide)) (fun _ => hq)
    by_cases hon : s.on = none
    · refine ⟨.int (-2), ⟨I, L, e65 (xp (k65_30 (fun q => ?_) (fun _ => k65_40 ⟨rfl, rfl⟩))), fun _ _ _ => rfl, mFx.rf, fun _ _ => rfl⟩, fun I1 L1 hm1 => ?_⟩
      · rw [hx.2.1.2.2.2.1, mOe_ge ho] at q
        exact absurd hon q
      · obtain ⟨r3, f3, t3, -⟩ := S107 (S := S) (L := L1) (b := b) hm1.2.1 ho
        refine ⟨I1, e130 (mp (k130_29 (c130_30 f3 (k130_33 (fun q => ?_) (fun _ => k130_36 ⟨rfl, rfl⟩))))), fun _ _ _ => rfl, mFm.rf⟩
        rw [t3 hon] at q
        exact absurd q (by decide)
    · obtain ⟨k, hkb⟩ := hs.ball hon
      obtain ⟨⟨d, -, hd, rfl⟩, n, hn, hn6, rfl⟩ := id hk
      have la := mIb_lt (G := G) (s := s) (k := k) (d := d) (n := min 6 (n + 1))
      have lc := mIb_lt (G := G) (s := s) (k := k) (d := d) (n := max 1 (n - 1))
      have le := mIb_lt (G := G) (s := s) (k := k) (d := d) (n := n)
      have hU := mUp_le x (by omega) _ la _ lc _ le
      have hc := mCd_le (u := mUpr G s k d n x) 10
      have ec := mCd_eu (mUpr G s k d n x) hU.1
      have hcnz : decide (¬ nI (mCd (mUpr G s k d n x) 10) = 0) = true := m_nz (by omega) (by omega)
      refine ⟨.int ((if w = 0 then nI (mUpr G s k d n x) else 10) / nI (mCd (mUpr G s k d n x) 10)), ?_, fun I1 L1 hm1 => ?_⟩
      · obtain ⟨I2, f2, s2⟩ := S66 (S := S) hx.1 hx.2.1 hg hs hkb (d := d) (n := min 6 (n + 1)) (by omega) (Nat.min_le_left _ _)
        have hx2 := hx.sm (s2.x14 (L := L)).1 (fun _ _ => rfl)
        obtain ⟨I3, f3, s3⟩ := S66 (S := S) hx2.1 hx2.2.1 hg hs hkb (d := d) (n := max 1 (n - 1)) (by omega) (by omega)
        have hx3 := hx2.sm (s3.x14 (L := L)).1 (fun _ _ => rfl)
        obtain ⟨I4, f4, s4⟩ := S66 (S := S) hx3.1 hx3.2.1 hg hs hkb (d := d) (n := n) (by omega) (by omega)
        have sA := (s2.tr s3).tr s4
        have e6 : (if nI n + 1 < 6 then nI n + 1 else 6) = nI (min 6 (n + 1)) := by
          rw [nI_1, show (6 : Int32) = nI 6 from rfl]
          by_cases q : n + 1 < 6
          · rw [if_pos ((nI_ltI (by omega) (by decide)).mpr q), Nat.min_eq_right (by omega)]
          · rw [if_neg (fun z => q ((nI_ltI (by omega) (by decide)).mp z)), Nat.min_eq_left (by omega)]
        have e7 : (if (1 : Int32) < nI n - 1 then nI n - 1 else 1) = nI (max 1 (n - 1)) := by
          obtain ⟨m, rfl⟩ : ∃ m, n = m + 1 := ⟨n - 1, by omega⟩
          rw [nI_pred, show (1 : Int32) = nI 1 from rfl]
          by_cases q : 1 < m
          · rw [if_pos ((nI_ltI (by decide) (by omega)).mpr q), Nat.max_eq_right (by omega)]
            rfl
          · rw [if_neg (fun z => q ((nI_ltI (by decide) (by omega)).mp z)), Nat.max_eq_left (by omega)]
        have e10 : (10 : Int32) - 2 * nI x = nI (10 - 2 * x) := by
          show nI 10 - nI 2 * nI x = _
          rw [pk_mul, pk_sub (by omega)]
        have hf : mFn S 65 [.ref 1, .int (nI d), .int (nI n), .int (nI x), .int (nI w)] (mSH, I, L, mRk b) (some (.int ((if w = 0 then nI (mUpr G s k d n x) else 10) / nI (mCd (mUpr G s k d n x) 10)))) (mSH, I4, L, mRk b) := by
          refine e65 (xp (k65_30 (fun _ => k65_43 ?_) (fun q => ?_)))
          · rw [e6]
            refine c65_54 f2 (k65_57 ?_)
            rw [e7]
            refine c65_68 f3 (k65_71 ?_)
            rw [e10]
            refine c65_82 f4 (k65_85 ?_)
            rw [pk_mul, pk_mul, pk_mul, nI_add, nI_add]
            refine c65_91 (S67 hU.1) (k65_94 (fun q => k65_101 (k65_108 hcnz ⟨?_, rfl⟩)) (fun q => k65_106 (k65_108 hcnz ⟨?_, rfl⟩)))
            · rw [show (0 : Int32) = nI 0 from rfl, nI_eq (by omega) (by decide)] at q
              rw [if_pos q]
              rfl
            · rw [show (0 : Int32) = nI 0 from rfl, nI_eq (by omega) (by decide)] at q
              rw [if_neg q]
              rfl
          · rw [hx.2.1.2.2.2.1, mOe_ge ho] at q
            exact absurd hon q
        exact ⟨I4, L, hf, (sA.x14 (b := b) (L := L)).1, (sA.x14 (b := b)).2, fun _ _ => rfl⟩
      · obtain ⟨r0, f0, -, t0⟩ := S107 (S := S) (L := L1) (b := b) hm1.2.1 ho
        obtain ⟨I2, f2, s2⟩ := S129 (S := S) (L := L1) (b := b) hm1.1 hm1.2.1 hg hs hkb (d := d) (n := min 6 (n + 1)) (v := nI (n + 1)) (by omega) (Nat.min_le_left _ _) (by
          by_cases q : n = 6
          · subst q
            exact Or.inr (Or.inr ⟨rfl, rfl⟩)
          · rw [Nat.min_eq_right (by omega)]
            exact Or.inr (Or.inl ⟨rfl, by omega⟩))
        have hm2 := hm1.sm (s2.m2 (L := L1)).1 (L' := L1) rfl
        obtain ⟨I3, f3, s3⟩ := S129 (S := S) (L := L1) (b := b) hm2.1 hm2.2.1 hg hs hkb (d := d) (n := max 1 (n - 1)) (v := nI (n - 1)) (by omega) (by omega) (by
          by_cases q : n = 1
          · subst q
            exact Or.inl ⟨rfl, rfl⟩
          · rw [Nat.max_eq_right (by omega)]
            exact Or.inr (Or.inl ⟨rfl, by omega⟩))
        have hm3 := hm2.sm (s3.m2 (L := L1)).1 (L' := L1) rfl
        obtain ⟨I4, f4, s4⟩ := S129 (S := S) (L := L1) (b := b) hm3.1 hm3.2.1 hg hs hkb (d := d) (n := n) (v := nI n) (by omega) (by omega) (Or.inr (Or.inl ⟨rfl, hn⟩))
        have sA : mT30 I1 I4 := fun a j hj => (s4 a j hj).trans ((s3 a j hj).trans (s2 a j hj))
        have e10 : (10 : Int32) - 2 * nI x = nI (10 - 2 * x) := by
          show nI 10 - nI 2 * nI x = _
          rw [pk_mul, pk_sub (by omega)]
        have em : nI n - 1 = nI (n - 1) := by
          obtain ⟨m, rfl⟩ : ∃ m, n = m + 1 := ⟨n - 1, by omega⟩
          exact nI_pred m
        have hf : mFn S 130 [.ref 44, .int (nI d), .int (nI n), .int (nI x), .int (nI w)] (mSH, I1, L1, mRk b) (some (.int ((if w = 0 then nI (mUpr G s k d n x) else 10) / nI (mCd (mUpr G s k d n x) 10)))) (mSH, I4, L1, mRk b) := by
          refine e130 (mp (k130_29 (c130_30 f0 (k130_33 (fun _ => k130_39 ?_) (fun q => absurd (t0 hon) q)))))
          rw [nI_1]
          refine c130_45 f2 (k130_48 ?_)
          rw [em]
          refine c130_53 f3 (k130_56 ?_)
          rw [e10]
          refine c130_67 f4 (k130_70 ?_)
          rw [nI_add, pk_mul, pk_mul, nI_add]
          have eU : x * (mIb G s k d (min 6 (n + 1)) + mIb G s k d (max 1 (n - 1))) + (10 - 2 * x) * mIb G s k d n = mUpr G s k d n x := hU.2.symm
          rw [eU]
          refine S130_eu 12 (mUpr G s k d n x) 10 _ hU.1 (by decide) (by decide) (fun o8 => ?_)
          rw [← ec]
          refine k130_105 (fun q => k130_110 (k130_117 hcnz ⟨?_, rfl⟩)) (fun q => k130_115 (k130_117 hcnz ⟨?_, rfl⟩))
          · rw [show (0 : Int32) = nI 0 from rfl, nI_eq (by omega) (by decide)] at q
            rw [if_pos q]
          · rw [show (0 : Int32) = nI 0 from rfl, nI_eq (by omega) (by decide)] at q
            rw [if_neg q]
        exact ⟨I4, hf, (sA.m2 (L := L1)).1, (sA.m2 (L := L1)).2⟩
  · refine ⟨.int (-1), ⟨I, L, e65 (k65_0 (c65_2 f1 (k65_5 (fun _ => k65_28 ⟨rfl, rfl⟩) (fun q => k65_8 (fun _ => k65_28 ⟨rfl, rfl⟩) (fun q1 => k65_12 (fun _ => k65_28 ⟨rfl, rfl⟩) (fun q2 => k65_17 (fun _ => k65_28 ⟨rfl, rfl⟩) (fun q3 => k65_22 (fun q4 => absurd ?_ hb) (fun _ => k65_28 ⟨rfl, rfl⟩)))))))), fun _ _ _ => rfl, mFx.rf, fun _ _ => rfl⟩, fun I1 L1 hm1 => ?_⟩
    · obtain ⟨i, hi, rfl⟩ := nI_of q1
      obtain ⟨j, hj, rfl⟩ := nI_of q3
      rw [show (5 : Int32) = nI 5 from rfl, nI_ltI (by decide) hi] at q2
      rw [show (1 : Int32) = nI 1 from rfl, nI_leI hj (by decide)] at q4
      refine ⟨?_, ⟨i, Nat.zero_le _, by omega, rfl⟩, j, Nat.zero_le _, q4, rfl⟩
      by_cases hk : mIsK way hard
      · exact hk
      · exact absurd (u1 hk) q
    · obtain ⟨r2, f2, t2, u2⟩ := S106 (S := S) (I := I1) (L := L1) (b := b) way hard
      refine ⟨I1, e130 (k130_0 (c130_2 f2 (k130_5 (fun _ => k130_27 ⟨rfl, rfl⟩) (fun q => k130_8 (c130_11 (S88 _ _ _) (k130_14 (fun _ => k130_27 ⟨rfl, rfl⟩) (fun q1 => k130_17 (c130_21 (S88 _ _ _) (k130_24 (fun _ => k130_27 ⟨rfl, rfl⟩) (fun q2 => absurd ?_ hb)))))))))), fun _ _ _ => rfl, mFm.rf⟩
      refine ⟨?_, ?_, ?_⟩
      · by_cases hk : mIsK way hard
        · exact hk
        · exact absurd (u2 hk) q
      · rcases mCm_in (v := x) (lo := 0) (hi := 5) (by decide) (by decide) with ⟨e, -⟩ | ⟨-, z⟩
        · exact absurd e q1
        · exact z
      · rcases mCm_in (v := what) (lo := 0) (hi := 1) (by decide) (by decide) with ⟨e, -⟩ | ⟨-, z⟩
        · exact absurd e q2
        · exact z
end ODDS
