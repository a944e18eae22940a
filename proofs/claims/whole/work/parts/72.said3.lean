/-! the reference's reading of all -/
def mMb (D : mDd) (n c : Nat) : Bool := if c = 119 then decide (n = 0) else if c = 114 then decide (0 < D.W ∧ D.R < 7 ∧ D.te = none) else if c = 116 then decide (D.te = none) else if c = 115 then decide (D.tu = 0) else if c = 110 then decide (D.pl = 0) else false
section SAID3
variable {S : mS} {L : mFL} {b : Bool}
theorem mDM.u21 {D : mDd} {x : Nat} {I : mF} {v : Int32} (h : mDM D x I) : mDM D x (m_up I 44 21 v) := by
  obtain ⟨a0, a1, a2, a3, a4, a5, a6, a7⟩ := h
  refine ⟨?_, ?_, ?_, ?_, ?_, ?_, ?_, fun k hk hm => ?_⟩
  · rw [m_un (by decide)]; exact a0
  · rw [m_un (by decide)]; exact a1
  · rw [m_un (by decide)]; exact a2
  · rw [m_un (by decide)]; exact a3
  · rw [m_un (by decide)]; exact a4
  · rw [m_un (by decide)]; exact a5
  · rw [m_un (by decide)]; exact a6
  · rw [m_ux (by decide)]; exact a7 k hk hm
theorem S101 {I : mF} {D : mDd} {n c : Nat} (hD : mDM D 0 I) (hd : mDwx D 0) (hn : I 44 21 = nI n) (hn9 : n < 2 ^ 31) (hc : c < 256) : mFn S 101 [.ref 44, .int (nI c)] (mSH, I, L, mRk b) (some (.int (mU (mMb D n c)))) (mSH, I, L, mRk b) := by
  obtain ⟨a0, a1, a2, a3, a4, a5, a6, a7⟩ := hD
  obtain ⟨d0, d1, d2, d3, d4, d5, d6⟩ := hd
  have ce : ∀ k, k < 256 → (nI c = nI k ↔ c = k) := fun k hk => nI_eq (by omega) (by omega)
  have c110 : nI c = 110 ↔ c = 110 := ce 110 (by decide)
  have c111 : nI c = 111 ↔ c = 111 := ce 111 (by decide)
  have c112 : nI c = 112 ↔ c = 112 := ce 112 (by decide)
  have c113 : nI c = 113 ↔ c = 113 := ce 113 (by decide)
  have c114 : nI c = 114 ↔ c = 114 := ce 114 (by decide)
  have c115 : nI c = 115 ↔ c = 115 := ce 115 (by decide)
  have c116 : nI c = 116 ↔ c = 116 := ce 116 (by decide)
  have c117 : nI c = 117 ↔ c = 117 := ce 117 (by decide)
  have c118 : nI c = 118 ↔ c = 118 := ce 118 (by decide)
  have c119 : nI c = 119 ↔ c = 119 := ce 119 (by decide)
  have hte : 0 ≤ mOe D.te ↔ ¬ D.te = none := mOe_ge (fun k hk => by have := mOn_lt ⟨d0, d1⟩ (d4 k hk); omega)
  have z0 : ∀ k, k < 2 ^ 31 → (nI k = 0 ↔ k = 0) := fun k hk => nI_eq hk (by decide)
  refine e101 (k101_0 ?_)
  unfold mMb
  by_cases h110 : c = 110
  · rw [if_pos (c110.mpr h110), if_neg (show ¬ c = 119 by omega), if_neg (show ¬ c = 114 by omega), if_neg (show ¬ c = 116 by omega), if_neg (show ¬ c = 115 by omega), if_pos h110]
    refine k101_124 (fun q => k101_131 (k101_136 (by decide) ⟨?_, rfl⟩)) (fun q => k101_135 (k101_136 (by decide) ⟨?_, rfl⟩))
    · rw [a4, z0 _ (by omega)] at q
      rw [decide_eq_true q]
      rfl
    · rw [a4, z0 _ (by omega)] at q
      rw [decide_eq_false q]
      rfl
  · rw [if_neg (fun z => h110 (c110.mp z))]
    by_cases h114 : c = 114
    · rw [if_neg (fun z => absurd (c111.mp z) (by omega)), if_neg (fun z => absurd (c112.mp z) (by omega)), if_neg (fun z => absurd (c113.mp z) (by omega)), if_pos (c114.mpr h114), if_neg (show ¬ c = 119 by omega), if_pos h114]
      refine k101_69 (fun q => k101_96 (k101_97 (by decide) ⟨?_, rfl⟩)) (fun q => k101_76 (fun q2 => k101_96 (k101_97 (by decide) ⟨?_, rfl⟩)) (fun q2 => k101_85 (fun q3 => k101_96 (k101_97 (by decide) ⟨?_, rfl⟩)) (fun q3 => k101_92 (k101_97 (by decide) ⟨?_, rfl⟩))))
      · rw [a0, show (0 : Int32) = nI 0 from rfl, nI_leI (by omega) (by decide)] at q
        rw [decide_eq_false (fun z => by omega)]
        rfl
      · rw [a1, show (7 : Int32) = nI 7 from rfl, nI_leI (by decide) (by omega)] at q2
        rw [decide_eq_false (fun z => by omega)]
        rfl
      · rw [a5, hte] at q3
        rw [decide_eq_false (fun z => q3 z.2.2)]
        rfl
      · rw [a0, show (0 : Int32) = nI 0 from rfl, nI_leI (by omega) (by decide)] at q
        rw [a1, show (7 : Int32) = nI 7 from rfl, nI_leI (by decide) (by omega)] at q2
        rw [a5, hte] at q3
        have q3 : D.te = none := by
          by_cases e : D.te = none
          · exact e
          · exact absurd e q3
        rw [decide_eq_true ⟨by omega, by omega, q3⟩]
        rfl
    · by_cases h115 : c = 115
      · rw [if_neg (fun z => absurd (c111.mp z) (by omega)), if_neg (fun z => absurd (c112.mp z) (by omega)), if_neg (fun z => absurd (c113.mp z) (by omega)), if_neg (fun z => h114 (c114.mp z)), if_pos (c115.mpr h115), if_neg (show ¬ c = 119 by omega), if_neg h114, if_neg (show ¬ c = 116 by omega), if_pos h115]
        refine k101_111 (fun q => k101_118 (k101_123 (by decide) ⟨?_, rfl⟩)) (fun q => k101_122 (k101_123 (by decide) ⟨?_, rfl⟩))
        · rw [a2, z0 _ (by omega)] at q
          rw [decide_eq_true q]
          rfl
        · rw [a2, z0 _ (by omega)] at q
          rw [decide_eq_false q]
          rfl
      · by_cases h116 : c = 116
        · rw [if_neg (fun z => absurd (c111.mp z) (by omega)), if_neg (fun z => absurd (c112.mp z) (by omega)), if_neg (fun z => absurd (c113.mp z) (by omega)), if_neg (fun z => h114 (c114.mp z)), if_neg (fun z => h115 (c115.mp z)), if_pos (c116.mpr h116), if_neg (show ¬ c = 119 by omega), if_neg h114, if_pos h116]
          refine k101_98 (fun q => k101_109 (k101_110 (by decide) ⟨?_, rfl⟩)) (fun q => k101_105 (k101_110 (by decide) ⟨?_, rfl⟩))
          · rw [a5, hte] at q
            rw [decide_eq_false q]
            rfl
          · rw [a5, hte] at q
            have q : D.te = none := by
              by_cases e : D.te = none
              · exact e
              · exact absurd e q
            rw [decide_eq_true q]
            rfl
        · by_cases h119 : c = 119
          · rw [if_neg (fun z => absurd (c111.mp z) (by omega)), if_neg (fun z => absurd (c112.mp z) (by omega)), if_neg (fun z => absurd (c113.mp z) (by omega)), if_neg (fun z => h114 (c114.mp z)), if_neg (fun z => h115 (c115.mp z)), if_neg (fun z => h116 (c116.mp z)), if_neg (fun z => absurd (c117.mp z) (by omega)), if_neg (fun z => absurd (c118.mp z) (by omega)), if_pos (c119.mpr h119), if_pos h119]
            refine k101_56 (fun q => k101_63 (k101_68 (by decide) ⟨?_, rfl⟩)) (fun q => k101_67 (k101_68 (by decide) ⟨?_, rfl⟩))
            · rw [hn, z0 _ hn9] at q
              rw [decide_eq_true q]
              rfl
            · rw [hn, z0 _ hn9] at q
              rw [decide_eq_false q]
              rfl
          · rw [if_neg (show ¬ nI c = 114 from fun z => h114 (c114.mp z)), if_neg (show ¬ nI c = 115 from fun z => h115 (c115.mp z)), if_neg (show ¬ nI c = 116 from fun z => h116 (c116.mp z)), if_neg (show ¬ nI c = 119 from fun z => h119 (c119.mp z)), if_neg h119, if_neg h114, if_neg h116, if_neg h115, if_neg h110]
            simp only [ite_self]
            exact k101_137 ⟨rfl, rfl⟩
theorem mJQ.f {tx : mTx} {D : mDd} {T : mWd} {I : mF} (h17 : I 44 17 = nI T.st) : mJQ tx L b (false, D, T) I none (mSH, m_up I 44 20 1, L, mRk b) :=
  ⟨_, rfl, rfl, mGr.rf.u (by decide), fun z => absurd (show false = true from z) (by decide), fun _ => ⟨m_us, by rw [m_un (by decide)]; exact h17⟩⟩
theorem S102 {tx : mTx} {I : mF} {D : mDd} {p n : Nat} (hX : mMT tx I) (hw : mTw tx) (hp : p ≤ tx.1) (ht : mTkM (mTok tx p) I) (h20 : I 44 20 = 0) (hD : mDM D 0 I) (hd : mDwx D 0) (hn : I 44 21 = nI n) (hn9 : n < 2 ^ 31) (hn0 : n = 0 → D = mD0) :
    ∃ r2 w2, mFn S 102 [.ref 44] (mSH, I, L, mRk b) r2 w2 ∧ mJQ tx L b (mItem tx n D (mTok tx p)) I r2 w2 := by
  have hk4 := mTok_k (tx := tx) (p := p)
  have hv1 := mTok_1 (tx := tx) (p := p)
  have e18 : I 44 18 = nI (mTok tx p).kd := ht.2.2.1
  have ck : nI (mTok tx p).kd = 1 ↔ (mTok tx p).kd = 1 := nI_eq (by omega) (by decide)
  have h17 : I 44 17 = nI (mTok tx p).st := ht.2.1
  refine ex102 ?_
  unfold mItem
  by_cases hk1 : (mTok tx p).kd = 1
  · rw [if_pos hk1]
    have e19 : I 44 19 = nI (mTok tx p).v := ht.2.2.2 (Or.inl hk1)
    have hv := hv1 hk1
    have f101 := S101 (S := S) (L := L) (b := b) (c := (mTok tx p).v) hD hd hn hn9 (by omega)
    have hb1 : (mTok tx p).bh ≤ tx.1 := (mTok_le hp).2.2.2.1
    obtain ⟨I1, f96, r1, t1⟩ := S96 (S := S) (L := L) (b := b) hX hw hb1 ht.1
    have g1 : mGr I I1 := mGr.rf.mr r1
    have h20' : I1 44 20 = 0 := by rw [r1 44 20 (by omega)]; exact h20
    have hD1 : mDM D 0 I1 := hD.mr r1
    have ce : ∀ k, k < 256 → (nI (mTok tx p).v = nI k ↔ (mTok tx p).v = k) := fun k hk => nI_eq (by omega) (by omega)
    have c119 : nI (mTok tx p).v = 119 ↔ (mTok tx p).v = 119 := ce 119 (by decide)
    have c114 : nI (mTok tx p).v = 114 ↔ (mTok tx p).v = 114 := ce 114 (by decide)
    have c116 : nI (mTok tx p).v = 116 ↔ (mTok tx p).v = 116 := ce 116 (by decide)
    have c115 : nI (mTok tx p).v = 115 ↔ (mTok tx p).v = 115 := ce 115 (by decide)
    generalize hT : mTok tx p = T at *
    -- it may not begin
    have no : ∀ r : mRz, mMb D n T.v = false → r = (false, D, T) → mWp S 102 0 [some (.ref 44), none] [] (mSH, I, L, mRk b) (mJQ tx L b r I) := by
      intro r hb hr
      rw [hr]
      refine k102_0 (fun _ => k102_13 ?_) (fun q => absurd (by rw [e18]; exact ck.mpr hk1) q)
      rw [e19]
      refine c102_15 f101 ?_
      rw [hb]
      exact k102_18 (fun _ => k102_21 (mJQ.f h17)) (fun q => absurd rfl q)
    have yes : ∀ {Q : Option Value → mW → Prop}, mMb D n T.v = true → mWp S 102 31 [some (.ref 44), some (.int (nI T.v))] [] (mSH, I1, L, mRk b) Q → mWp S 102 0 [some (.ref 44), none] [] (mSH, I, L, mRk b) Q := by
      intro Q hb hq
      refine k102_0 (fun _ => k102_13 ?_) (fun q => absurd (by rw [e18]; exact ck.mpr hk1) q)
      rw [e19]
      refine c102_15 f101 ?_
      rw [hb]
      exact k102_18 (fun q => absurd q (by decide)) (fun _ => k102_27 (c102_28 f96 hq))
    by_cases h119 : T.v = 119
    · rw [if_pos h119]
      unfold mWid
      by_cases h0 : n = 0
      · rw [if_neg (show ¬ ¬ n = 0 from fun z => z h0)]
        refine yes (by unfold mMb; rw [if_pos h119]; exact decide_eq_true h0) (k102_31 (fun _ => k102_37 ?_) (fun q => absurd (c119.mpr h119) q))
        obtain ⟨I2, f2, r2, t2, u2⟩ := S97 (S := S) (L := L) (b := b) (hX.gr g1) hw hb1 t1 h20' (lo := 2) (h := 8) (by decide) (by decide)
        refine c102_42 f2 ?_
        have g2 : mGr I I2 := (g1.u (by decide)).mr r2
        have e20 := r2 44 20 (by omega)
        rw [m_us] at e20
        cases hb : mNb2 (mTok tx T.bh) 2 8 with
        | false =>
          rw [if_pos rfl]
          rw [hb] at e20
          exact k102_45 (S102_bad (g2.u (by decide)) (by rw [m_un (by decide), e20]; rfl) (by rw [m_un (by decide)]; exact u2 hb))
        | true =>
          rw [if_neg (show ¬ true = false by decide)]
          rw [hb] at e20
          have hp1 : (mTok tx T.bh).bh ≤ tx.1 := (mTok_le hb1).2.2.2.1
          refine k102_45 (S102_end (D := ((mTok tx T.bh).v, D.2)) (T := mTok tx T.bh) hX hw (g2.u (by decide)) (by rw [m_un (by decide), e20]; rfl) ?_ hp1 ((t2 hb).w (by decide)))
          obtain ⟨a0, a1, a2, a3, a4, a5, a6, a7⟩ := (mDM.w (v := (if mNb2 (mTok tx T.bh) 2 8 = true then 0 else 1)) hD1).mr r2
          have e0 := hn0 h0
          refine ⟨?_, ?_, ?_, ?_, ?_, ?_, ?_, fun k hk hm => ?_⟩
          · rw [m_us]; rfl
          · rw [m_un (by decide)]; exact a1
          · rw [m_un (by decide)]; exact a2
          · rw [m_un (by decide)]; exact a3
          · rw [m_un (by decide)]; exact a4
          · rw [m_un (by decide)]; exact a5
          · rw [m_un (by decide)]; exact a6
          · exfalso
            rw [e0] at hm
            have hm : (k % 7 < (mTok tx T.bh).v ∧ k / 7 < 0) ∨ (k / 7 = 0 ∧ k % 7 < 0) := hm
            omega
      · exact no _ (by unfold mMb; rw [if_pos h119]; exact decide_eq_false h0) (if_pos h0)
    · rw [if_neg h119]
      by_cases h114 : T.v = 114
      · rw [if_pos h114]
        unfold mRowI
        have em : mMb D n T.v = decide (0 < D.W ∧ D.R < 7 ∧ D.te = none) := by unfold mMb; rw [if_neg h119, if_pos h114]
        by_cases h0 : D.W = 0 ∨ 7 ≤ D.R ∨ ¬ D.te = none
        · refine no _ ?_ (if_pos h0)
          rw [em]
          refine decide_eq_false (fun z => ?_)
          rcases h0 with w | w | w
          · omega
          · omega
          · exact w z.2.2
        · rw [if_neg h0]
          have hR : D.R < 7 := by omega
          have hte : D.te = none := by
            by_cases e : D.te = none
            · exact e
            · exact absurd (Or.inr (Or.inr e)) h0
          refine yes (by rw [em]; exact decide_eq_true ⟨by omega, hR, hte⟩) (k102_31 (fun q => absurd (c119.mp q) h119) (fun _ => k102_51 (fun _ => k102_57 ?_) (fun q => absurd (c114.mpr h114) q)))
          obtain ⟨I2, f2, g2, t2, u2⟩ := S99 (S := S) (L := L) (b := b) hX hw g1 h20' hD1 hb1 t1 hd hR
          have hps := mRw_pos (tx := tx) D.W 0 D T hb1 (by rw [← hT]; exact (mTok_le hp).2.1)
          refine c102_58 f2 (k102_61 ?_)
          generalize mRw tx D.W 0 D T = r at *
          obtain ⟨u, D', T'⟩ := r
          cases u with
          | true =>
            rw [if_neg (show ¬ true = false by decide)]
            obtain ⟨x1, x2, x3⟩ := t2 rfl
            exact S102_end hX hw g2 x1 x2 hps.2.1 x3
          | false =>
            rw [if_pos rfl]
            obtain ⟨x1, x2⟩ := u2 rfl
            exact S102_bad g2 x1 x2
      · rw [if_neg h114]
        by_cases h116 : T.v = 116
        · rw [if_pos h116]
          unfold mTeI
          have em : mMb D n T.v = decide (D.te = none) := by unfold mMb; rw [if_neg h119, if_neg h114, if_pos h116]
          by_cases h0 : D.te = none
          · rw [if_neg (show ¬ ¬ D.te = none from fun z => z h0)]
            refine yes (by rw [em]; exact decide_eq_true h0) (k102_31 (fun q => absurd (c119.mp q) h119) (fun _ => k102_51 (fun q => absurd (c114.mp q) h114) (fun _ => k102_64 (fun _ => k102_70 ?_) (fun q => absurd (c116.mpr h116) q))))
            obtain ⟨I2, f2, g2, u1, u2, u3⟩ := S100 (S := S) (L := L) (b := b) hX hw g1 h20' hD1 hb1 t1 hd
            refine c102_71 f2 (k102_74 ?_)
            have hp1 : (mTok tx T.bh).bh ≤ tx.1 := (mTok_le hb1).2.2.2.1
            have hp2 : (mTok tx (mTok tx T.bh).bh).bh ≤ tx.1 := (mTok_le hp1).2.2.2.1
            cases hb : mNb2 (mTok tx T.bh) 0 D.W with
            | false =>
              rw [if_pos rfl]
              exact S102_bad g2 (u1 hb).1 (u1 hb).2
            | true =>
              rw [if_neg (show ¬ true = false by decide)]
              by_cases hz : mNb2 (mTok tx (mTok tx T.bh).bh) 0 D.R = false ∨ ¬ D.K (7 * (mTok tx (mTok tx T.bh).bh).v + (mTok tx T.bh).v) = 0
              · rw [if_pos hz]
                exact S102_bad g2 (u2 hb hz).1 (u2 hb hz).2
              · rw [if_neg hz]
                obtain ⟨x1, x2, x3⟩ := u3 hb hz
                exact S102_end hX hw g2 x1 x2 hp2 x3
          · exact no _ (by rw [em]; exact decide_eq_false h0) (if_pos h0)
        · rw [if_neg h116]
          by_cases h115 : T.v = 115
          · rw [if_pos h115]
            unfold mSaI
            have em : mMb D n T.v = decide (D.tu = 0) := by unfold mMb; rw [if_neg h119, if_neg h114, if_neg h116, if_pos h115]
            by_cases h0 : D.tu = 0
            · rw [if_neg (show ¬ ¬ D.tu = 0 from fun z => z h0)]
              refine yes (by rw [em]; exact decide_eq_true h0) (k102_31 (fun q => absurd (c119.mp q) h119) (fun _ => k102_51 (fun q => absurd (c114.mp q) h114) (fun _ => k102_64 (fun q => absurd (c116.mp q) h116) (fun _ => k102_77 (fun _ => k102_83 ?_) (fun q => absurd (c115.mpr h115) q)))))
              obtain ⟨I2, f2, r2, t2, u2⟩ := S97 (S := S) (L := L) (b := b) (hX.gr g1) hw hb1 t1 h20' (lo := 2) (h := 7) (by decide) (by decide)
              refine c102_88 f2 ?_
              have g2 : mGr I I2 := (g1.u (by decide)).mr r2
              have e20 := r2 44 20 (by omega)
              rw [m_us] at e20
              cases hb : mNb2 (mTok tx T.bh) 2 7 with
              | false =>
                rw [if_pos rfl]
                rw [hb] at e20
                have e20' : m_up I2 44 24 0 44 20 = 1 := by rw [m_un (by decide), e20]; rfl
                refine k102_91 (c102_103 (S97w e20') (k102_106 (S102_bad (((g2.u (by decide)).u (by decide)).u (by decide)) ?_ ?_)))
                · rw [m_un (by decide), m_us]
                · rw [m_un (by decide), m_un (by decide), m_un (by decide)]
                  exact u2 hb
              | true =>
                rw [if_neg (show ¬ true = false by decide)]
                rw [hb] at e20
                obtain ⟨hk2, hlo, hhi⟩ := mNb2_t.mp hb
                have t2 := t2 hb
                have hp1 : (mTok tx T.bh).bh ≤ tx.1 := (mTok_le hb1).2.2.2.1
                have hp2 : (mTok tx (mTok tx T.bh).bh).bh ≤ tx.1 := (mTok_le hp1).2.2.2.1
                have e20' : m_up I2 44 24 (nI (mTok tx T.bh).v) 44 20 = 0 := by rw [m_un (by decide), e20]; rfl
                have g3 : mGr I (m_up I2 44 24 (nI (mTok tx T.bh).v)) := g2.u (by decide)
                obtain ⟨I3, f3, r3, t3, u3⟩ := S97 (S := S) (L := L) (b := b) (hX.gr g3) hw hp1 (t2.w (by decide)) e20' (lo := 0) (h := (mTok tx T.bh).v) (by decide) (by omega)
                have g4 : mGr I I3 := (g3.u (by decide)).mr r3
                have e20b := r3 44 20 (by omega)
                rw [m_us] at e20b
                refine k102_91 (c102_103 f3 ?_)
                cases hb2 : mNb2 (mTok tx (mTok tx T.bh).bh) 0 (mTok tx T.bh).v with
                | false =>
                  rw [if_pos rfl]
                  rw [hb2] at e20b
                  exact k102_106 (S102_bad (g4.u (by decide)) (by rw [m_un (by decide), e20b]; rfl) (by rw [m_un (by decide)]; exact u3 hb2))
                | true =>
                  rw [if_neg (show ¬ true = false by decide)]
                  rw [hb2] at e20b
                  refine k102_106 (S102_end (D := (D.W, D.R, (mTok tx T.bh).v, (mTok tx (mTok tx T.bh).bh).v, D.2.2.2.2)) (T := mTok tx (mTok tx T.bh).bh) hX hw (g4.u (by decide)) (by rw [m_un (by decide), e20b]; rfl) ?_ hp2 ((t3 hb2).w (by decide)))
                  obtain ⟨a0, a1, a2, a3, a4, a5, a6, a7⟩ := (mDM.w (v := (if mNb2 (mTok tx T.bh) 2 7 = true then 0 else 1)) hD1).mr r2
                  have eq3 : ∀ j, 20 < j → I3 44 j = m_up I2 44 24 (nI (mTok tx T.bh).v) 44 j := fun j hj => by rw [r3 44 j (by omega), m_un (by omega)]
                  have eq51 : ∀ j, I3 51 j = I2 51 j := fun j => by rw [r3 51 j (by omega), m_ux (by decide), m_ux (by decide)]
                  refine ⟨?_, ?_, ?_, ?_, ?_, ?_, ?_, fun k hk hm => ?_⟩
                  · rw [m_un (by decide), eq3 22 (by decide), m_un (by decide)]; exact a0
                  · rw [m_un (by decide), eq3 23 (by decide), m_un (by decide)]; exact a1
                  · rw [m_un (by decide), eq3 24 (by decide), m_us]
                  · rw [m_us]; rfl
                  · rw [m_un (by decide), eq3 26 (by decide), m_un (by decide)]; exact a4
                  · rw [m_un (by decide), eq3 27 (by decide), m_un (by decide)]; exact a5
                  · rw [m_un (by decide), eq3 28 (by decide), m_un (by decide)]; exact a6
                  · rw [m_ux (by decide), eq51]; exact a7 k hk hm
            · exact no _ (by rw [em]; exact decide_eq_false h0) (if_pos h0)
          · rw [if_neg h115]
            by_cases h110 : T.v = 110
            · rw [if_pos h110]
              unfold mPlI
              have em : mMb D n T.v = decide (D.pl = 0) := by unfold mMb; rw [if_neg h119, if_neg h114, if_neg h116, if_neg h115, if_pos h110]
              by_cases h0 : D.pl = 0
              · rw [if_neg (show ¬ ¬ D.pl = 0 from fun z => z h0)]
                refine yes (by rw [em]; exact decide_eq_true h0) (k102_31 (fun q => absurd (c119.mp q) h119) (fun _ => k102_51 (fun q => absurd (c114.mp q) h114) (fun _ => k102_64 (fun q => absurd (c116.mp q) h116) (fun _ => k102_77 (fun q => absurd (c115.mp q) h115) (fun _ => k102_112 ?_)))))
                obtain ⟨I2, f2, r2, t2, u2⟩ := S97 (S := S) (L := L) (b := b) (hX.gr g1) hw hb1 t1 h20' (lo := 1) (h := 5) (by decide) (by decide)
                refine c102_116 f2 ?_
                have g2 : mGr I I2 := (g1.u (by decide)).mr r2
                have e20 := r2 44 20 (by omega)
                rw [m_us] at e20
                cases hb : mNb2 (mTok tx T.bh) 1 5 with
                | false =>
                  rw [if_pos rfl]
                  rw [hb] at e20
                  exact k102_119 (S102_bad (g2.u (by decide)) (by rw [m_un (by decide), e20]; rfl) (by rw [m_un (by decide)]; exact u2 hb))
                | true =>
                  rw [if_neg (show ¬ true = false by decide)]
                  rw [hb] at e20
                  have hp1 : (mTok tx T.bh).bh ≤ tx.1 := (mTok_le hb1).2.2.2.1
                  refine k102_119 (S102_end (D := (D.W, D.R, D.tu, D.op, (mTok tx T.bh).v, D.2.2.2.2.2)) (T := mTok tx T.bh) hX hw (g2.u (by decide)) (by rw [m_un (by decide), e20]; rfl) ?_ hp1 ((t2 hb).w (by decide)))
                  obtain ⟨a0, a1, a2, a3, a4, a5, a6, a7⟩ := (mDM.w (v := (if mNb2 (mTok tx T.bh) 1 5 = true then 0 else 1)) hD1).mr r2
                  refine ⟨?_, ?_, ?_, ?_, ?_, ?_, ?_, fun k hk hm => ?_⟩
                  · rw [m_un (by decide)]; exact a0
                  · rw [m_un (by decide)]; exact a1
                  · rw [m_un (by decide)]; exact a2
                  · rw [m_un (by decide)]; exact a3
                  · rw [m_us]; rfl
                  · rw [m_un (by decide)]; exact a5
                  · rw [m_un (by decide)]; exact a6
                  · rw [m_ux (by decide)]; exact a7 k hk hm
              · exact no _ (by rw [em]; exact decide_eq_false h0) (if_pos h0)
            · rw [if_neg h110]
              exact no _ (by unfold mMb; rw [if_neg h119, if_neg h114, if_neg h116, if_neg h115, if_neg h110]) rfl
  · rw [if_neg hk1]
    refine k102_0 (fun q => ?_) (fun _ => k102_21 (mJQ.f h17))
    rw [e18, ck] at q
    exact absurd q hk1
end SAID3
