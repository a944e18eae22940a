/-! the class's rows of cells, its reading of all -/
def mRowE (tx : mTx) (r : mRz) : mRz := if r.1 = false then r else mEndI tx (r.2.1.1, r.2.1.2.1 + 1, r.2.1.2.2) r.2.2
theorem mRw_put {tx : mTx} {m x : Nat} {D : mDd} {T : mWd} : mRw tx (m + 1) x D T = if (mPut D (mTok tx T.bh) x).1 = true then mRw tx m (x + 1) (mPut D (mTok tx T.bh) x).2 (mTok tx T.bh) else (false, D, mTok tx T.bh) := by
  rw [mRw]
  cases hk : mKd (mTok tx T.bh) with
  | none =>
    have P : mPut D (mTok tx T.bh) x = (false, D) := by
      unfold mPut
      rw [hk]
    rw [P]
    rfl
  | some q =>
    dsimp only
    by_cases h : q = 3 ∧ D.ho = true
    · have P : mPut D (mTok tx T.bh) x = (false, D) := by
        unfold mPut
        rw [hk]
        exact if_pos h
      rw [P, if_pos h]
      rfl
    · have P : mPut D (mTok tx T.bh) x = (true, (D.W, D.R, D.tu, D.op, D.pl, D.te, (D.ho || decide (q = 3)), mSet D.K (7 * D.R + x) q)) := by
        unfold mPut
        rw [hk]
        exact if_neg h
      rw [P, if_neg h]
      rfl
theorem mPut_wf {D : mDd} {T : mWd} {x : Nat} (h : mDwx D x) (hR : D.R < 7) (hx : x < D.W) (ho : (mPut D T x).1 = true) : mDwx (mPut D T x).2 (x + 1) ∧ (mPut D T x).2.1 = D.1 ∧ (mPut D T x).2.2.1 = D.2.1 := by
  unfold mPut at ho ⊢
  cases hk : mKd T with
  | none =>
    rw [hk] at ho
    exact absurd (show false = true from ho) (by decide)
  | some q =>
    rw [hk] at ho
    dsimp only at ho ⊢
    by_cases q3 : q = 3 ∧ D.ho = true
    · rw [if_pos q3] at ho
      exact absurd (show false = true from ho) (by decide)
    · rw [if_neg q3]
      obtain ⟨a1, a2, a3, a4, a5, a6, a7⟩ := h
      refine ⟨⟨a1, a2, a3, a4, a5, mSet_lt a6 (mKd_lt hk), fun k hk0 => ?_⟩, rfl, rfl⟩
      have hk0 : ¬ mSet D.K (7 * D.R + x) q k = 0 := hk0
      unfold mSet at hk0
      by_cases e : k = 7 * D.R + x
      · subst e
        right
        refine ⟨?_, ?_, hR⟩
        · show (7 * D.R + x) / 7 = D.R
          omega
        · omega
      · rw [if_neg e] at hk0
        rcases a7 k hk0 with z | z
        · exact Or.inl z
        · exact Or.inr ⟨z.1, by omega, z.2.2⟩
section TELL2
variable {S : mS} {b c : Bool}
theorem S33_loop {tx : mTx} {I : mF} {L : mFL} (hX : mXT tx I) (hw : mTw tx) : ∀ (m x : Nat) (D : mDd) (T : mWd) (J : mF) (M : mFL), x + m = D.W → mFd c I L J M → mDX c D J M → J 2 2 = nI T.bh → T.bh ≤ tx.1 → mDwx D x → D.R < 7 → mWp S 33 29 [some (.ref 2), some (.ref (mLa c)), some (.int (nI x))] [] (mSH, J, M, mRk b) (mIQ c b (mRowE tx (mRw tx m x D T)) I L) := by
  have nn := mLa_2 c
  intro m
  induction m with
  | zero =>
    intro x D T J M hx hf hD h2 hp hd hR
    have hx : x = D.W := by omega
    subst hx
    have hW7 := hd.1
    refine k33_29 (fun _ => k33_61 ?_) (fun q => ?_)
    · have hf2 : mFd c I L (m_up J (mLa c) 1 (J (mLa c) 1 + 1)) M := hf.uA
      have hD2 : mDX c (D.1, D.2.1 + 1, D.2.2) (m_up J (mLa c) 1 (J (mLa c) 1 + 1)) M := by
        obtain ⟨d0, d1, d2, d3, d4, d5, d6, d7, d8, d9, d10⟩ := hD
        refine ⟨?_, ?_, ?_, ?_, ?_, ?_, ?_, fun k hk => ?_, d8, ?_, ?_⟩
        · rw [m_un (by decide)]; exact d0
        · rw [m_us, d1, nI_1]
        · rw [m_un (by decide)]; exact d2
        · rw [m_un (by decide)]; exact d3
        · rw [m_un (by decide)]; exact d4
        · rw [m_un (by decide)]; exact d5
        · rw [m_un (by decide)]; exact d6
        · rw [m_ux nn.2.2.2.2.symm]; exact d7 k hk
        · rw [m_ux nn.1.symm]; exact d9
        · rw [m_ux nn.1.symm]; exact d10
      obtain ⟨I2, f2, hf3, s2, g2⟩ := S38 (S := S) (b := b) (hX.fd hf2) hw (D := (D.1, D.2.1 + 1, D.2.2)) (T := T) hp (by rw [m_ux nn.1.symm]; exact h2) hf2 hD2
      refine c33_72 f2 (k33_75 ?_ ⟨I2, M, rfl, rfl, hf3, s2, g2⟩)
      split <;> decide
    · rw [hD.1] at q
      exact absurd (Int32.le_refl _) q
  | succ m ih =>
    intro x D T J M hx hf hD h2 hp hd hR
    have hW7 := hd.1
    obtain ⟨I1, f1, r1, t1⟩ := S39 (S := S) (L := M) (b := b) (hX.fd hf) hw hp h2
    have hf1 := hf.xr r1
    have hD1 := hD.xr r1
    have hp1 := (mTok_le hp).2.2.2.1
    obtain ⟨I2, L2, f2, fa, fl, g2⟩ := S8 (S := S) (b := b) (tx := tx) (p := T.bh) hD1 hd hR (show x < 7 by omega)
    have hf2 : mFd c I L I2 L2 := hf1.tr (mFd.p fa fl)
    have e2 : I2 2 = I1 2 := fa 2 nn.1.symm nn.2.1.symm
    refine k33_29 (fun q => ?_) (fun _ => k33_37 (c33_38 f1 (k33_41 ?_)))
    · rw [hD.1, nI_leI (by omega) (by omega)] at q
      omega
    rw [t1.2.2.1]
    refine c33_47 f2 ?_
    rw [mRw_put]
    by_cases hb : (mPut D (mTok tx T.bh) x).1 = true
    · rw [if_pos hb, if_pos hb]
      obtain ⟨w1, w2, w3⟩ := mPut_wf hd hR (by omega) hb
      refine k33_50 (fun q => absurd q (by decide)) (fun _ => k33_55 ?_)
      rw [nI_1]
      refine ih (x + 1) _ (mTok tx T.bh) I2 L2 ?_ hf2 (g2 hb) (by rw [e2]; exact t1.1) hp1 w1 ?_
      · show x + 1 + m = (mPut D (mTok tx T.bh) x).2.1
        rw [w2]
        show x + 1 + m = D.W
        omega
      · show (mPut D (mTok tx T.bh) x).2.2.1 < 7
        rw [w3]
        exact hR
    · rw [if_neg hb, if_neg hb]
      exact k33_50 (fun _ => k33_53 (mIQ.f hf2 (by rw [e2]; exact t1.2.1))) (fun q => absurd rfl q)
theorem S33 {tx : mTx} {I : mF} {L : mFL} {D : mDd} {T : mWd} (hX : mXT tx I) (hw : mTw tx) (hp : T.bh ≤ tx.1) (ht : mTkX T I) (hD : mDX c D I L) (hd : mDwx D 0) :
    ∃ r2 w2, mFn S 33 [.ref 2, .ref (mLa c)] (mSH, I, L, mRk b) r2 w2 ∧ mIQ c b (mRowI tx D T) I L r2 w2 := by
  have hW7 := hd.1
  have hR7 := hd.2.1
  have hte : mOe D.te = -9 ↔ D.te = none := by
    cases e : D.te with
    | none => exact ⟨fun _ => rfl, fun _ => rfl⟩
    | some k =>
      have hk := mOn_lt ⟨hW7, hR7⟩ (hd.2.2.2.2.1 k e)
      exact ⟨fun q => absurd q (nI_neg9 (by omega)), fun q => absurd q (by simp)⟩
  refine ex33 ?_
  unfold mRowI
  have no : D.W = 0 ∨ 7 ≤ D.R ∨ ¬ D.te = none → mWp S 33 25 [some (.ref 2), some (.ref (mLa c)), none] [] (mSH, I, L, mRk b) (mIQ c b (if D.W = 0 ∨ 7 ≤ D.R ∨ ¬ D.te = none then (false, D, T) else if (mRw tx D.W 0 D T).1 = false then mRw tx D.W 0 D T else mEndI tx ((mRw tx D.W 0 D T).2.1.1, (mRw tx D.W 0 D T).2.1.2.1 + 1, (mRw tx D.W 0 D T).2.1.2.2) (mRw tx D.W 0 D T).2.2) I L) := by
    intro h
    rw [if_pos h]
    exact k33_25 (mIQ.f mFd.rf ht.2.1)
  refine k33_0 (fun q => no ?_) (fun q => k33_7 (fun q2 => no ?_) (fun q2 => k33_16 (fun q3 => k33_27 ?_) (fun q3 => no ?_)))
  · rw [hD.1, show (0 : Int32) = nI 0 from rfl, nI_eq (by omega) (by decide)] at q
    exact Or.inl q
  · rw [hD.2.1, show (7 : Int32) = nI 7 from rfl, nI_leI (by decide) (by omega)] at q2
    exact Or.inr (Or.inl q2)
  · rw [hD.1, show (0 : Int32) = nI 0 from rfl, nI_eq (by omega) (by decide)] at q
    rw [hD.2.1, show (7 : Int32) = nI 7 from rfl, nI_leI (by decide) (by omega)] at q2
    rw [hD.2.2.2.2.2.1, hte] at q3
    rw [if_neg (fun z => z.elim q (fun z => z.elim (by omega) (fun z => z q3)))]
    exact S33_loop (S := S) (b := b) hX hw D.W 0 D T I L (by omega) mFd.rf hD ht.1 hp hd (by omega)
  · rw [hD.2.2.2.2.2.1, hte] at q3
    exact Or.inr (Or.inr q3)
theorem S31 {tx : mTx} {I : mF} {L : mFL} {D : mDd} {p n : Nat} (hX : mXT tx I) (hw : mTw tx) (hp : p ≤ tx.1) (ht : mTkX (mTok tx p) I) (hD : mDX c D I L) (hd : mDwx D 0) (hn : I 2 6 = nI n) (hn9 : n < 2 ^ 31) :
    ∃ r2 w2, mFn S 31 [.ref 2, .ref (mLa c)] (mSH, I, L, mRk b) r2 w2 ∧ mIQ c b (mItem tx n D (mTok tx p)) I L r2 w2 := by
  have ck := (mTc_k (tx := tx) (p := p)).2.2.2
  have e4 := ht.2.2.1
  have hb := (mTok_le hp).2.2.2.1
  have c110 := ck 110 (by decide) (by decide)
  have c111 := ck 111 (by decide) (by decide)
  have c112 := ck 112 (by decide) (by decide)
  have c113 := ck 113 (by decide) (by decide)
  have c114 := ck 114 (by decide) (by decide)
  have c115 := ck 115 (by decide) (by decide)
  have c116 := ck 116 (by decide) (by decide)
  have c117 := ck 117 (by decide) (by decide)
  have c118 := ck 118 (by decide) (by decide)
  have c119 := ck 119 (by decide) (by decide)
  have nt : ∀ (k : Nat) (x : Int32), (mTc (mTok tx p) = x ↔ (mTok tx p).kd = 1 ∧ (mTok tx p).v = k) → ¬ (mTok tx p).v = k → ¬ I 2 4 = x := fun k x h h2 z => h2 (h.mp (by rw [← e4]; exact z)).2
  have yt : ∀ (k : Nat) (x : Int32), (mTc (mTok tx p) = x ↔ (mTok tx p).kd = 1 ∧ (mTok tx p).v = k) → (mTok tx p).kd = 1 → (mTok tx p).v = k → I 2 4 = x := fun k x h h1 h2 => by rw [e4]; exact h.mpr ⟨h1, h2⟩
  have bl : ∀ r : mRz, m_bl (if r.1 = true then (1 : Int32) else 0) = true := fun r => by split <;> decide
  refine ex31 (k31_0 ?_)
  unfold mItem
  have other : ¬ I 2 4 = 110 → ¬ I 2 4 = 114 → ¬ I 2 4 = 115 → ¬ I 2 4 = 116 → ¬ I 2 4 = 119 → ∀ {Q : Option Value → mW → Prop}, mWp S 31 90 [some (.ref 2), some (.ref (mLa c))] [] (mSH, I, L, mRk b) Q → mWp S 31 (if (I 2 4) = 110 then 84 else (if (I 2 4) = 111 then 90 else (if (I 2 4) = 112 then 90 else (if (I 2 4) = 113 then 90 else (if (I 2 4) = 114 then 66 else (if (I 2 4) = 115 then 78 else (if (I 2 4) = 116 then 72 else (if (I 2 4) = 117 then 90 else (if (I 2 4) = 118 then 90 else (if (I 2 4) = 119 then 60 else 90)))))))))) [some (.ref 2), some (.ref (mLa c))] [] (mSH, I, L, mRk b) Q := by
    intro h1 h2 h3 h4 h5 Q hq
    rw [if_neg h1, if_neg h2, if_neg h3, if_neg h4, if_neg h5]
    simp only [ite_self]
    exact hq
  by_cases hk : (mTok tx p).kd = 1
  · rw [if_pos hk]
    by_cases h119 : (mTok tx p).v = 119
    · rw [if_pos h119]
      obtain ⟨r2, w2, f, I', L', rfl, rfl, g⟩ := S32 (S := S) (b := b) hX hw hb ht hD hn hn9
      rw [if_neg (nt 110 110 c110 (by omega)), if_neg (nt 111 111 c111 (by omega)), if_neg (nt 112 112 c112 (by omega)), if_neg (nt 113 113 c113 (by omega)), if_neg (nt 114 114 c114 (by omega)), if_neg (nt 115 115 c115 (by omega)), if_neg (nt 116 116 c116 (by omega)), if_neg (nt 117 117 c117 (by omega)), if_neg (nt 118 118 c118 (by omega)), if_pos (yt 119 119 c119 hk h119)]
      exact k31_60 (c31_62 f (k31_65 (bl _) ⟨I', L', rfl, rfl, g⟩))
    · rw [if_neg h119]
      by_cases h114 : (mTok tx p).v = 114
      · rw [if_pos h114]
        obtain ⟨r2, w2, f, I', L', rfl, rfl, g⟩ := S33 (S := S) (b := b) hX hw hb ht hD hd
        rw [if_neg (nt 110 110 c110 (by omega)), if_neg (nt 111 111 c111 (by omega)), if_neg (nt 112 112 c112 (by omega)), if_neg (nt 113 113 c113 (by omega)), if_pos (yt 114 114 c114 hk h114)]
        exact k31_66 (c31_68 f (k31_71 (bl _) ⟨I', L', rfl, rfl, g⟩))
      · rw [if_neg h114]
        by_cases h116 : (mTok tx p).v = 116
        · rw [if_pos h116]
          obtain ⟨r2, w2, f, I', L', rfl, rfl, g⟩ := S34 (S := S) (b := b) hX hw hb ht hD hd
          rw [if_neg (nt 110 110 c110 (by omega)), if_neg (nt 111 111 c111 (by omega)), if_neg (nt 112 112 c112 (by omega)), if_neg (nt 113 113 c113 (by omega)), if_neg (nt 114 114 c114 (by omega)), if_neg (nt 115 115 c115 (by omega)), if_pos (yt 116 116 c116 hk h116)]
          exact k31_72 (c31_74 f (k31_77 (bl _) ⟨I', L', rfl, rfl, g⟩))
        · rw [if_neg h116]
          by_cases h115 : (mTok tx p).v = 115
          · rw [if_pos h115]
            obtain ⟨r2, w2, f, I', L', rfl, rfl, g⟩ := S35 (S := S) (b := b) hX hw hb ht hD
            rw [if_neg (nt 110 110 c110 (by omega)), if_neg (nt 111 111 c111 (by omega)), if_neg (nt 112 112 c112 (by omega)), if_neg (nt 113 113 c113 (by omega)), if_neg (nt 114 114 c114 (by omega)), if_pos (yt 115 115 c115 hk h115)]
            exact k31_78 (c31_80 f (k31_83 (bl _) ⟨I', L', rfl, rfl, g⟩))
          · rw [if_neg h115]
            by_cases h110 : (mTok tx p).v = 110
            · rw [if_pos h110]
              obtain ⟨r2, w2, f, I', L', rfl, rfl, g⟩ := S36 (S := S) (b := b) hX hw hb ht hD
              rw [if_pos (yt 110 110 c110 hk h110)]
              exact k31_84 (c31_86 f (k31_89 (bl _) ⟨I', L', rfl, rfl, g⟩))
            · rw [if_neg h110]
              exact other (nt 110 110 c110 h110) (nt 114 114 c114 h114) (nt 115 115 c115 h115) (nt 116 116 c116 h116) (nt 119 119 c119 h119) (k31_90 (mIQ.f mFd.rf ht.2.1))
  · rw [if_neg hk]
    have nk : ∀ (k : Nat) (x : Int32), (mTc (mTok tx p) = x ↔ (mTok tx p).kd = 1 ∧ (mTok tx p).v = k) → ¬ I 2 4 = x := fun k x h z => hk (h.mp (by rw [← e4]; exact z)).1
    exact other (nk 110 110 c110) (nk 114 114 c114) (nk 115 115 c115) (nk 116 116 c116) (nk 119 119 c119) (k31_90 (mIQ.f mFd.rf ht.2.1))
def mD0 : mDd := (0, 0, 0, 0, 0, none, false, fun _ => 0)
theorem S1 {I : mF} {L : mFL} : ∃ (I' : mF) (L' : mFL), mFn S 1 [.ref (mLa c)] (mSH, I, L, mRk b) none (mSH, I', L', mRk b) ∧ mFd c I L I' L' ∧ I' (mLa c) 0 = 0 ∧ I' (mLa c) 1 = 0 ∧ I' (mLa c) 2 = 3 ∧ I' (mLa c) 3 = 0 ∧ I' (mLa c) 4 = 2 ∧ I' (mLa c) 5 = -9 ∧ I' (mLa c) 6 = 0 ∧ (∀ k, k < 49 → I' (mLg c) k = 0) ∧ L' (mLa c) 7 = 0 := by
  have nn := mLa_2 c
  have loop : ∀ (m k : Nat) (J : mF), k + m = 49 → mFd c I L J (m_up L (mLa c) 7 0) → J (mLa c) 0 = 0 → J (mLa c) 1 = 0 → J (mLa c) 2 = 3 → J (mLa c) 3 = 0 → J (mLa c) 4 = 2 → J (mLa c) 5 = -9 → J (mLa c) 6 = 0 → (∀ j, j < k → J (mLg c) j = 0) → mWp S 1 43 [some (.ref (mLa c)), some (.int (nI k))] [] (mSH, J, m_up L (mLa c) 7 0, mRk b) (fun r2 w2 => ∃ (I' : mF) (L' : mFL), r2 = none ∧ w2 = (mSH, I', L', mRk b) ∧ mFd c I L I' L' ∧ I' (mLa c) 0 = 0 ∧ I' (mLa c) 1 = 0 ∧ I' (mLa c) 2 = 3 ∧ I' (mLa c) 3 = 0 ∧ I' (mLa c) 4 = 2 ∧ I' (mLa c) 5 = -9 ∧ I' (mLa c) 6 = 0 ∧ (∀ k, k < 49 → I' (mLg c) k = 0) ∧ L' (mLa c) 7 = 0) := by
    intro m
    induction m with
    | zero =>
      intro k J hk hJ a0 a1 a2 a3 a4 a5 a6 a7
      have hk : k = 49 := by omega
      subst hk
      exact k1_43 (fun _ => k1_62 ⟨J, _, rfl, rfl, hJ, a0, a1, a2, a3, a4, a5, a6, a7, m_us⟩) (fun q => absurd (by decide) q)
    | succ m ih =>
      intro k J hk hJ a0 a1 a2 a3 a4 a5 a6 a7
      refine k1_43 (fun q => ?_) (fun _ => k1_49 (m_okN (by omega) (by decide)) ?_)
      · rw [show (49 : Int32) = nI 49 from rfl, nI_leI (by decide) (by omega)] at q
        omega
      · rw [nI_1, nI_clamp (by omega)]
        refine ih (k + 1) _ (by omega) hJ.uG (by rw [m_ux nn.2.2.2.2]; exact a0) (by rw [m_ux nn.2.2.2.2]; exact a1) (by rw [m_ux nn.2.2.2.2]; exact a2) (by rw [m_ux nn.2.2.2.2]; exact a3) (by rw [m_ux nn.2.2.2.2]; exact a4) (by rw [m_ux nn.2.2.2.2]; exact a5) (by rw [m_ux nn.2.2.2.2]; exact a6) (fun j hj => ?_)
        by_cases e : j = k
        · subst e
          exact m_us
        · rw [m_un e]
          exact a7 j (by omega)
  obtain ⟨r, w1, hf, I', L', rfl, rfl, h⟩ := ex1 (k1_0 (loop 49 0 _ (by omega) ((((((((mFd.rf.uA).uA).uA).uA).uA).uA).uA).uL) (by rw [m_un (by decide), m_un (by decide), m_un (by decide), m_un (by decide), m_un (by decide), m_un (by decide), m_us]) (by rw [m_un (by decide), m_un (by decide), m_un (by decide), m_un (by decide), m_un (by decide), m_us]) (by rw [m_un (by decide), m_un (by decide), m_un (by decide), m_un (by decide), m_us]) (by rw [m_un (by decide), m_un (by decide), m_un (by decide), m_us]) (by rw [m_un (by decide), m_un (by decide), m_us]) (by rw [m_un (by decide), m_us]) m_us (fun j hj => absurd hj (Nat.not_lt_zero j))))
  exact ⟨I', L', hf, h⟩
end TELL2
