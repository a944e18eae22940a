/-! the class's items -/
section ITEMS
variable {S : mS} {b c : Bool}
theorem mU_0 (u : Bool) : mU u = 0 ↔ u = false := by cases u <;> decide
theorem mFd.p {c : Bool} {I I' : mF} {L L' : mFL} (h : ∀ a, a ≠ mLa c → a ≠ mLg c → I' a = I a) (hl : ∀ a, a ≠ mLa c → L' a = L a) : mFd c I L I' L' := ⟨fun a k _ q2 q3 => by rw [h a q2 q3], hl⟩
theorem mTkX.st0 {T : mWd} {I : mF} (h : mTkX T I) : I 2 3 = nI T.st := h.2.1
/-- an item that fails with the word it stands at -/
theorem mIQ.f {D : mDd} {T : mWd} {I0 I : mF} {L0 L : mFL} (hf : mFd c I0 L0 I L) (ht : I 2 3 = nI T.st) : mIQ c b (false, D, T) I0 L0 (some (.int 0)) (mSH, I, L, mRk b) :=
  ⟨I, L, rfl, rfl, hf, ht, fun q => absurd (show false = true from q) (by decide)⟩
theorem S32 {tx : mTx} {I : mF} {L : mFL} {D : mDd} {T : mWd} {n : Nat} (hX : mXT tx I) (hw : mTw tx) (hp : T.bh ≤ tx.1) (ht : mTkX T I) (hD : mDX c D I L) (hn : I 2 6 = nI n) (hn9 : n < 2 ^ 31) :
    ∃ r2 w2, mFn S 32 [.ref 2, .ref (mLa c)] (mSH, I, L, mRk b) r2 w2 ∧ mIQ c b (mWid tx n D T) I L r2 w2 := by
  have nn := mLa_2 c
  refine ex32 ?_
  unfold mWid
  by_cases h0 : n = 0
  · rw [if_neg (show ¬ ¬ n = 0 from fun z => z h0)]
    obtain ⟨I1, f1, r1, t1⟩ := S37 (S := S) (L := L) (b := b) hX hw hp ht.1 (lo := 2) (h := 8) (by decide) (by decide)
    refine k32_0 (fun _ => k32_7 (c32_11 f1 ?_)) (fun q => ?_)
    · cases hb : mNb2 (mTok tx T.bh) 2 8 with
      | false =>
        rw [if_pos rfl]
        exact k32_14 (fun _ => k32_17 (mIQ.f (mFd.rf.xr r1) t1.2.1)) (fun q => absurd rfl q)
      | true =>
        rw [if_neg (show ¬ true = false by decide)]
        obtain ⟨hk2, hlo, hhi⟩ := mNb2_t.mp hb
        have hD1 := hD.xr r1
        have ev : I1 2 5 = nI (mTok tx T.bh).v := t1.2.2.2 hk2
        have hf : mFd c I L (m_up I1 (mLa c) 0 (I1 2 5)) L := (mFd.rf.xr r1).uA
        have hD2 : mDX c ((mTok tx T.bh).v, D.2) (m_up I1 (mLa c) 0 (I1 2 5)) L := by
          obtain ⟨d0, d1, d2, d3, d4, d5, d6, d7, d8, d9, d10⟩ := hD1
          refine ⟨?_, ?_, ?_, ?_, ?_, ?_, ?_, fun k hk => ?_, d8, ?_, ?_⟩
          · rw [m_us, ev]
          · rw [m_un (by decide)]; exact d1
          · rw [m_un (by decide)]; exact d2
          · rw [m_un (by decide)]; exact d3
          · rw [m_un (by decide)]; exact d4
          · rw [m_un (by decide)]; exact d5
          · rw [m_un (by decide)]; exact d6
          · rw [m_ux nn.2.2.2.2.symm]; exact d7 k hk
          · rw [m_ux nn.1.symm]; exact d9
          · rw [m_ux nn.1.symm]; exact d10
        have hp1 := (mTok_le hp).2.2.2.1
        obtain ⟨I2, f2, hf2, s2, g2⟩ := S38 (S := S) (b := b) (hX.fd hf) hw (D := ((mTok tx T.bh).v, D.2)) (T := mTok tx T.bh) hp1 (by rw [m_ux nn.1.symm]; exact t1.1) hf hD2
        refine k32_14 (fun q => absurd q (by decide)) (fun _ => k32_19 (c32_28 f2 (k32_31 ?_ ⟨I2, L, rfl, rfl, hf2, s2, g2⟩)))
        split <;> decide
    · rw [hn, h0] at q
      exact absurd rfl q
  · rw [if_pos h0]
    refine k32_0 (fun q => ?_) (fun _ => k32_17 (mIQ.f mFd.rf ht.2.1))
    rw [hn, show (0 : Int32) = nI 0 from rfl, nI_eq hn9 (by decide)] at q
    exact absurd q h0
theorem S36 {tx : mTx} {I : mF} {L : mFL} {D : mDd} {T : mWd} (hX : mXT tx I) (hw : mTw tx) (hp : T.bh ≤ tx.1) (ht : mTkX T I) (hD : mDX c D I L) :
    ∃ r2 w2, mFn S 36 [.ref 2, .ref (mLa c)] (mSH, I, L, mRk b) r2 w2 ∧ mIQ c b (mPlI tx D T) I L r2 w2 := by
  have nn := mLa_2 c
  refine ex36 ?_
  unfold mPlI
  by_cases h0 : D.pl = 0
  · rw [if_neg (show ¬ ¬ D.pl = 0 from fun z => z h0)]
    obtain ⟨I1, f1, r1, t1⟩ := S37 (S := S) (L := L) (b := b) hX hw hp ht.1 (lo := 1) (h := 5) (by decide) (by decide)
    refine k36_0 (fun _ => k36_7 (c36_10 f1 ?_)) (fun q => ?_)
    · cases hb : mNb2 (mTok tx T.bh) 1 5 with
      | false =>
        rw [if_pos rfl]
        exact k36_13 (fun _ => k36_16 (mIQ.f (mFd.rf.xr r1) t1.2.1)) (fun q => absurd rfl q)
      | true =>
        rw [if_neg (show ¬ true = false by decide)]
        obtain ⟨hk2, hlo, hhi⟩ := mNb2_t.mp hb
        have hD1 := hD.xr r1
        have ev : I1 2 5 = nI (mTok tx T.bh).v := t1.2.2.2 hk2
        have e25 : m_up I1 2 8 1 2 5 = I1 2 5 := m_un (by decide)
        have hf : mFd c I L (m_up (m_up I1 2 8 1) (mLa c) 4 (I1 2 5)) L := ((mFd.rf.xr r1).u2 (by decide)).uA
        have hD2 : mDX c (D.W, D.R, D.tu, D.op, (mTok tx T.bh).v, D.2.2.2.2.2) (m_up (m_up I1 2 8 1) (mLa c) 4 (I1 2 5)) L := by
          obtain ⟨d0, d1, d2, d3, d4, d5, d6, d7, d8, d9, d10⟩ := hD1
          refine ⟨?_, ?_, ?_, ?_, ?_, ?_, ?_, fun k hk => ?_, d8, ?_, ?_⟩
          · rw [m_un (by decide), m_ux nn.1]; exact d0
          · rw [m_un (by decide), m_ux nn.1]; exact d1
          · rw [m_un (by decide), m_ux nn.1]; exact d2
          · rw [m_un (by decide), m_ux nn.1]; exact d3
          · rw [m_us, ev]
            show _ = nI (if (mTok tx T.bh).v = 0 then 2 else (mTok tx T.bh).v)
            rw [if_neg (by omega)]
          · rw [m_un (by decide), m_ux nn.1]; exact d5
          · rw [m_un (by decide), m_ux nn.1]; exact d6
          · rw [m_ux nn.2.2.2.2.symm, m_ux nn.2.1]; exact d7 k hk
          · rw [m_ux nn.1.symm, m_un (by decide)]; exact d9
          · rw [m_ux nn.1.symm, m_us]
            show 1 = mU (decide (¬ (mTok tx T.bh).v = 0))
            rw [decide_eq_true (by omega)]
            rfl
        have hp1 := (mTok_le hp).2.2.2.1
        obtain ⟨I2, f2, hf2, s2, g2⟩ := S38 (S := S) (b := b) (hX.fd hf) hw (D := (D.W, D.R, D.tu, D.op, (mTok tx T.bh).v, D.2.2.2.2.2)) (T := mTok tx T.bh) hp1 (by rw [m_ux nn.1.symm, m_un (by decide)]; exact t1.1) hf hD2
        refine k36_13 (fun q => absurd q (by decide)) (fun _ => k36_18 (c36_32 f2 (k36_35 ?_ ⟨I2, L, rfl, rfl, hf2, s2, g2⟩)))
        split <;> decide
    · rw [hD.2.2.2.2.2.2.2.2.2.2, mU_0] at q
      exact absurd (decide_eq_false (fun z => z h0)) q
  · rw [if_pos h0]
    refine k36_0 (fun q => ?_) (fun _ => k36_16 (mIQ.f mFd.rf ht.2.1))
    rw [hD.2.2.2.2.2.2.2.2.2.2, mU_0] at q
    exact absurd h0 (of_decide_eq_false q)
theorem S35 {tx : mTx} {I : mF} {L : mFL} {D : mDd} {T : mWd} (hX : mXT tx I) (hw : mTw tx) (hp : T.bh ≤ tx.1) (ht : mTkX T I) (hD : mDX c D I L) :
    ∃ r2 w2, mFn S 35 [.ref 2, .ref (mLa c)] (mSH, I, L, mRk b) r2 w2 ∧ mIQ c b (mSaI tx D T) I L r2 w2 := by
  have nn := mLa_2 c
  refine ex35 ?_
  unfold mSaI
  by_cases h0 : D.tu = 0
  · rw [if_neg (show ¬ ¬ D.tu = 0 from fun z => z h0)]
    obtain ⟨I1, f1, r1, t1⟩ := S37 (S := S) (L := L) (b := b) hX hw hp ht.1 (lo := 2) (h := 7) (by decide) (by decide)
    refine k35_0 (fun _ => k35_7 (c35_11 f1 ?_)) (fun q => ?_)
    · cases hb : mNb2 (mTok tx T.bh) 2 7 with
      | false =>
        rw [if_pos rfl]
        exact k35_14 (fun _ => k35_17 (mIQ.f (mFd.rf.xr r1) t1.2.1)) (fun q => absurd rfl q)
      | true =>
        rw [if_neg (show ¬ true = false by decide)]
        obtain ⟨hk2, hlo, hhi⟩ := mNb2_t.mp hb
        have hD1 := hD.xr r1
        have ev : I1 2 5 = nI (mTok tx T.bh).v := t1.2.2.2 hk2
        have hp1 := (mTok_le hp).2.2.2.1
        have hf : mFd c I L (m_up (m_up I1 2 7 1) (mLa c) 2 (I1 2 5)) L := ((mFd.rf.xr r1).u2 (by decide)).uA
        obtain ⟨I2, f2, r2, t2⟩ := S37 (S := S) (L := L) (b := b) (hX.fd hf) hw hp1 (by rw [m_ux nn.1.symm, m_un (by decide)]; exact t1.1) (lo := 0) (h := (mTok tx T.bh).v) (by decide) (by omega)
        have ev1 : m_up (m_up I1 2 7 1) (mLa c) 2 (I1 2 5) 2 5 = nI (mTok tx T.bh).v := by rw [m_ux nn.1.symm, m_un (by decide), ev]
        refine k35_14 (fun q => absurd q (by decide)) (fun _ => k35_19 ?_)
        rw [ev] at f2 ⊢
        refine c35_40 f2 ?_
        rw [ev] at hf r2
        cases hb2 : mNb2 (mTok tx (mTok tx T.bh).bh) 0 (mTok tx T.bh).v with
        | false =>
          rw [if_pos rfl]
          exact k35_43 (fun _ => k35_46 (mIQ.f (hf.xr r2) t2.2.1)) (fun q => absurd rfl q)
        | true =>
          rw [if_neg (show ¬ true = false by decide)]
          obtain ⟨hk3, -, hhi2⟩ := mNb2_t.mp hb2
          have ev2 : I2 2 5 = nI (mTok tx (mTok tx T.bh).bh).v := t2.2.2.2 hk3
          have hf2 : mFd c I L (m_up I2 (mLa c) 3 (I2 2 5)) L := (hf.xr r2).uA
          have ea : ∀ k, I2 (mLa c) k = m_up (m_up I1 2 7 1) (mLa c) 2 (nI (mTok tx T.bh).v) (mLa c) k := fun k => r2 _ _ (fun z => nn.1 z.1)
          have eg : ∀ k, I2 (mLg c) k = m_up (m_up I1 2 7 1) (mLa c) 2 (nI (mTok tx T.bh).v) (mLg c) k := fun k => r2 _ _ (fun z => nn.2.1 z.1)
          have hD2 : mDX c (D.W, D.R, (mTok tx T.bh).v, (mTok tx (mTok tx T.bh).bh).v, D.2.2.2.2) (m_up I2 (mLa c) 3 (I2 2 5)) L := by
            obtain ⟨d0, d1, d2, d3, d4, d5, d6, d7, d8, d9, d10⟩ := hD1
            refine ⟨?_, ?_, ?_, ?_, ?_, ?_, ?_, fun k hk => ?_, d8, ?_, ?_⟩
            · rw [m_un (by decide), ea, m_un (by decide), m_ux nn.1]; exact d0
            · rw [m_un (by decide), ea, m_un (by decide), m_ux nn.1]; exact d1
            · rw [m_un (by decide), ea, m_us]
              show _ = nI (if (mTok tx T.bh).v = 0 then 3 else (mTok tx T.bh).v)
              rw [if_neg (by omega)]
            · rw [m_us, ev2]
            · rw [m_un (by decide), ea, m_un (by decide), m_ux nn.1]; exact d4
            · rw [m_un (by decide), ea, m_un (by decide), m_ux nn.1]; exact d5
            · rw [m_un (by decide), ea, m_un (by decide), m_ux nn.1]; exact d6
            · rw [m_ux nn.2.2.2.2.symm, eg, m_ux nn.2.2.2.2.symm, m_ux nn.2.1]; exact d7 k hk
            · rw [m_ux nn.1.symm, r2 2 7 (by omega), m_ux nn.1.symm, m_us]
              show 1 = mU (decide (¬ (mTok tx T.bh).v = 0))
              rw [decide_eq_true (by omega)]
              rfl
            · rw [m_ux nn.1.symm, r2 2 8 (by omega), m_ux nn.1.symm, m_un (by decide)]; exact d10
          have hp2 := (mTok_le hp1).2.2.2.1
          obtain ⟨I3, f3, hf3, s3, g3⟩ := S38 (S := S) (b := b) (hX.fd hf2) hw (D := (D.W, D.R, (mTok tx T.bh).v, (mTok tx (mTok tx T.bh).bh).v, D.2.2.2.2)) (T := mTok tx (mTok tx T.bh).bh) hp2 (by rw [m_ux nn.1.symm]; exact t2.1) hf2 hD2
          refine k35_43 (fun q => absurd q (by decide)) (fun _ => k35_48 (c35_57 f3 (k35_60 ?_ ⟨I3, L, rfl, rfl, hf3, s3, g3⟩)))
          split <;> decide
    · rw [hD.2.2.2.2.2.2.2.2.2.1, mU_0] at q
      exact absurd (decide_eq_false (fun z => z h0)) q
  · rw [if_pos h0]
    refine k35_0 (fun q => ?_) (fun _ => k35_17 (mIQ.f mFd.rf ht.2.1))
    rw [hD.2.2.2.2.2.2.2.2.2.1, mU_0] at q
    exact absurd h0 (of_decide_eq_false q)
/-- whether a place may be the tee -/
theorem S9 {I : mF} {L : mFL} {D : mDd} (hD : mDX c D I L) (h5 : ∀ k, D.K k < 5) {k : Nat} (hk : k < 49) : mFn S 9 [.ref (mLa c), .int (nI k)] (mSH, I, L, mRk b) (some (.int (if D.K k = 0 then 1 else 0))) (mSH, I, L, mRk b) := by
  have d7 := hD.2.2.2.2.2.2.2.1 k hk
  have d8 := hD.2.2.2.2.2.2.2.2.1 k (by omega)
  have h5 := h5 k
  have f := S4 (S := S) (I := I) (L := L) (b := b) (c := c) hk
  rw [d7] at f
  refine e9 (k9_0 (fun q => absurd q (nI_pos (by omega))) (fun _ => k9_4 (c9_6 f (k9_9 (fun q => k9_12 (fun q2 => k9_25 (k9_30 (by decide) ⟨?_, rfl⟩)) (fun q2 => k9_29 (k9_30 (by decide) ⟨?_, rfl⟩))) (fun q => k9_29 (k9_30 (by decide) ⟨?_, rfl⟩))))))
  · rw [show (0 : Int32) = nI 0 from rfl, nI_eq (by split <;> omega) (by decide)] at q
    rw [mB_t (by omega), d8] at q2
    have q2 := of_decide_eq_false q2
    rw [if_pos]
    by_cases z : D.K k = 1
    · exact absurd ⟨hk, z⟩ q2
    · rw [if_neg z] at q
      exact q
  · rw [mB_t (by omega), d8] at q2
    rw [if_neg]
    intro z
    exact q2 (decide_eq_false (fun w => by omega))
  · rw [show (0 : Int32) = nI 0 from rfl, nI_eq (by split <;> omega) (by decide)] at q
    rw [if_neg]
    intro z
    rw [if_neg (by omega)] at q
    exact q z
theorem S34 {tx : mTx} {I : mF} {L : mFL} {D : mDd} {T : mWd} (hX : mXT tx I) (hw : mTw tx) (hp : T.bh ≤ tx.1) (ht : mTkX T I) (hD : mDX c D I L) (hd : mDwx D 0) :
    ∃ r2 w2, mFn S 34 [.ref 2, .ref (mLa c)] (mSH, I, L, mRk b) r2 w2 ∧ mIQ c b (mTeI tx D T) I L r2 w2 := by
  have nn := mLa_2 c
  have hW7 := hd.1
  have hR7 := hd.2.1
  have hte : mOe D.te = -9 ↔ D.te = none := by
    cases e : D.te with
    | none => exact ⟨fun _ => rfl, fun _ => rfl⟩
    | some k =>
      have hk := mOn_lt ⟨hW7, hR7⟩ (hd.2.2.2.2.1 k e)
      exact ⟨fun q => absurd q (nI_neg9 (by omega)), fun q => absurd q (by simp)⟩
  refine ex34 ?_
  unfold mTeI
  by_cases h0 : D.te = none
  · rw [if_neg (show ¬ ¬ D.te = none from fun z => z h0)]
    obtain ⟨I1, f1, r1, t1⟩ := S37 (S := S) (L := L) (b := b) hX hw hp ht.1 (lo := 0) (h := D.W) (by decide) (by omega)
    refine k34_0 (fun _ => k34_9 ?_) (fun q => ?_)
    · rw [hD.1]
      refine c34_17 f1 ?_
      cases hb : mNb2 (mTok tx T.bh) 0 D.W with
      | false =>
        rw [if_pos rfl]
        exact k34_20 (fun _ => k34_23 (mIQ.f (mFd.rf.xr r1) t1.2.1)) (fun q => absurd rfl q)
      | true =>
        rw [if_neg (show ¬ true = false by decide)]
        obtain ⟨hk2, -, hhi⟩ := mNb2_t.mp hb
        have hD1 := hD.xr r1
        have ev : I1 2 5 = nI (mTok tx T.bh).v := t1.2.2.2 hk2
        have hp1 := (mTok_le hp).2.2.2.1
        have hf : mFd c I L I1 L := mFd.rf.xr r1
        obtain ⟨I2, f2, r2, t2⟩ := S37 (S := S) (L := L) (b := b) (hX.fd hf) hw hp1 t1.1 (lo := 0) (h := D.R) (by decide) (by omega)
        refine k34_20 (fun q => absurd q (by decide)) (fun _ => k34_25 ?_)
        rw [hD1.2.1, ev]
        refine c34_38 f2 ?_
        have hf2 := hf.xr r2
        have hD2 := hD1.xr r2
        cases hb2 : mNb2 (mTok tx (mTok tx T.bh).bh) 0 D.R with
        | false =>
          rw [if_pos (Or.inl rfl)]
          exact k34_41 (fun _ => k34_60 (mIQ.f hf2 t2.2.1)) (fun q => absurd rfl q)
        | true =>
          obtain ⟨hk3, -, hhi2⟩ := mNb2_t.mp hb2
          have ev2 : I2 2 5 = nI (mTok tx (mTok tx T.bh).bh).v := t2.2.2.2 hk3
          have hpl : mOe (mPlace D.W D.R (nI (mTok tx T.bh).v) (nI (mTok tx (mTok tx T.bh).bh).v)) = nI (7 * (mTok tx (mTok tx T.bh).bh).v + (mTok tx T.bh).v) := by
            rw [mPlace_n (by omega) (by omega), if_pos ⟨hhi, hhi2⟩]
            rfl
          have f3 := S2 (S := S) (I := I2) (L := L) (b := b) (c := c) hD2.1 hD2.2.1 ⟨hW7, hR7⟩ (nI (mTok tx T.bh).v) (nI (mTok tx (mTok tx T.bh).bh).v)
          rw [hpl] at f3
          have hpk : 7 * (mTok tx (mTok tx T.bh).bh).v + (mTok tx T.bh).v < 49 := by omega
          have f4 := S9 (S := S) (b := b) hD2 hd.2.2.2.2.2.1 hpk
          refine k34_41 (fun q => absurd q (by decide)) (fun _ => k34_44 ?_)
          rw [ev2]
          refine c34_51 f3 (c34_54 f4 ?_)
          by_cases hK : D.K (7 * (mTok tx (mTok tx T.bh).bh).v + (mTok tx T.bh).v) = 0
          · rw [if_neg (show ¬ (true = false ∨ ¬ D.K (7 * (mTok tx (mTok tx T.bh).bh).v + (mTok tx T.bh).v) = 0) from fun z => z.elim (by decide) (fun w => w hK))]
            rw [if_pos hK]
            refine k34_57 (fun q => absurd q (by decide)) (fun _ => k34_62 ?_)
            rw [ev2]
            refine c34_69 f3 (k34_72 ?_)
            have hf3 : mFd c I L (m_up I2 (mLa c) 5 (nI (7 * (mTok tx (mTok tx T.bh).bh).v + (mTok tx T.bh).v))) L := hf2.uA
            have hD3 : mDX c (D.W, D.R, D.tu, D.op, D.pl, some (7 * (mTok tx (mTok tx T.bh).bh).v + (mTok tx T.bh).v), D.2.2.2.2.2.2) (m_up I2 (mLa c) 5 (nI (7 * (mTok tx (mTok tx T.bh).bh).v + (mTok tx T.bh).v))) L := by
              obtain ⟨d0, d1, d2, d3, d4, d5, d6, d7, d8, d9, d10⟩ := hD2
              refine ⟨?_, ?_, ?_, ?_, ?_, ?_, ?_, fun k hk => ?_, d8, ?_, ?_⟩
              · rw [m_un (by decide)]; exact d0
              · rw [m_un (by decide)]; exact d1
              · rw [m_un (by decide)]; exact d2
              · rw [m_un (by decide)]; exact d3
              · rw [m_un (by decide)]; exact d4
              · rw [m_us]; rfl
              · rw [m_un (by decide)]; exact d6
              · rw [m_ux nn.2.2.2.2.symm]; exact d7 k hk
              · rw [m_ux nn.1.symm]; exact d9
              · rw [m_ux nn.1.symm]; exact d10
            have hp2 := (mTok_le hp1).2.2.2.1
            obtain ⟨I3, f5, hf5, s5, g5⟩ := S38 (S := S) (b := b) (hX.fd hf3) hw (D := (D.W, D.R, D.tu, D.op, D.pl, some (7 * (mTok tx (mTok tx T.bh).bh).v + (mTok tx T.bh).v), D.2.2.2.2.2.2)) (T := mTok tx (mTok tx T.bh).bh) hp2 (by rw [m_ux nn.1.symm]; exact t2.1) hf3 hD3
            refine c34_76 f5 (k34_79 ?_ ⟨I3, L, rfl, rfl, hf5, s5, g5⟩)
            split <;> decide
          · rw [if_pos (Or.inr hK), if_neg hK]
            exact k34_57 (fun _ => k34_60 (mIQ.f hf2 t2.2.1)) (fun q => absurd rfl q)
    · rw [hD.2.2.2.2.2.1, hte] at q
      exact absurd h0 q
  · rw [if_pos h0]
    refine k34_0 (fun q => ?_) (fun _ => k34_23 (mIQ.f mFd.rf ht.2.1))
    rw [hD.2.2.2.2.2.1, hte] at q
    exact absurd q h0
end ITEMS
