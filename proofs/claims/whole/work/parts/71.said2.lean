/-! the reference's items, all -/
def mJQ (tx : mTx) (L : mFL) (b : Bool) (r : mRz) (I0 : mF) (r2 : Option Value) (w2 : mW) : Prop := ∃ I' : mF, r2 = none ∧ w2 = (mSH, I', L, mRk b) ∧ mGr I0 I' ∧ (r.1 = true → I' 44 20 = 0 ∧ mDM r.2.1 0 I' ∧ mTkM (mTok tx r.2.2.bh) I') ∧ (r.1 = false → I' 44 20 = 1 ∧ I' 44 17 = nI r.2.2.st)
section SAID2
variable {S : mS} {L : mFL} {b : Bool}
/-- the end of an item: told well so far -/
theorem S102_end {tx : mTx} {I J : mF} {D : mDd} {T : mWd} {o1 : Option Value} (hX : mMT tx I) (hw : mTw tx) (hJ : mGr I J) (h20 : J 44 20 = 0) (hD : mDM D 0 J) (hp : T.bh ≤ tx.1) (ht : mTkM (mTok tx T.bh) J) :
    mWp S 102 122 [some (.ref 44), o1] [] (mSH, J, L, mRk b) (mJQ tx L b (mEndI tx D T) I) := by
  have hk4 := mTok_k (tx := tx) (p := T.bh)
  have e18 : J 44 18 = nI (mTok tx T.bh).kd := ht.2.2.1
  have ck : nI (mTok tx T.bh).kd = 3 ↔ (mTok tx T.bh).kd = 3 := nI_eq (by omega) (by decide)
  have hp1 : (mTok tx T.bh).bh ≤ tx.1 := (mTok_le hp).2.2.2.1
  refine k102_122 (fun _ => k102_130 (fun q => k102_142 (k102_143 (by decide) (fun _ => ?_) (fun z => absurd rfl z))) (fun q => k102_138 (k102_143 (by decide) (fun z => absurd z (by decide)) (fun _ => k102_157 ⟨_, rfl, rfl, hJ.u (by decide), ?_, ?_⟩)))) (fun q => absurd h20 q)
  · rw [e18, ck] at q
    obtain ⟨I', f, r, t⟩ := S96 (S := S) (L := L) (b := b) (hX.gr (hJ.u (j := 20) (v := 0) (by decide))) hw hp1 (by rw [m_un (by decide)]; exact ht.1)
    refine k102_153 (c102_154 f (k102_157 ⟨I', rfl, rfl, (hJ.u (by decide)).mr r, fun _ => ⟨?_, ?_, t⟩, fun z => ?_⟩))
    · rw [r 44 20 (by omega), m_us]
    · exact (mDM.w hD).mr r
    · exact absurd q (of_decide_eq_false z)
  · rw [e18, ck] at q
    exact fun z => absurd (of_decide_eq_true z) q
  · intro _
    refine ⟨m_us, ?_⟩
    rw [m_un (by decide)]
    exact ht.2.1
/-- the end of an item: it was wrong -/
theorem S102_bad {tx : mTx} {I J : mF} {D : mDd} {T : mWd} {o1 : Option Value} (hJ : mGr I J) (h20 : J 44 20 = 1) (h17 : J 44 17 = nI T.st) :
    mWp S 102 122 [some (.ref 44), o1] [] (mSH, J, L, mRk b) (mJQ tx L b (false, D, T) I) := by
  refine k102_122 (fun q => ?_) (fun _ => k102_138 (k102_143 (by decide) (fun z => absurd z (by decide)) (fun _ => k102_157 ⟨_, rfl, rfl, hJ.u (by decide), fun z => absurd (show false = true from z) (by decide), fun _ => ⟨m_us, ?_⟩⟩)))
  · rw [h20] at q
    exact absurd q (by decide)
  · rw [m_un (by decide)]
    exact h17
theorem S99 {tx : mTx} {I J : mF} {D : mDd} {T : mWd} (hX : mMT tx I) (hw : mTw tx) (hJ : mGr I J) (h20 : J 44 20 = 0) (hD : mDM D 0 J) (hp : T.bh ≤ tx.1) (ht : mTkM (mTok tx T.bh) J) (hd : mDwx D 0) (hR : D.R < 7) :
    ∃ I' : mF, mFn S 99 [.ref 44] (mSH, J, L, mRk b) none (mSH, I', L, mRk b) ∧ mGr I I' ∧ ((mRw tx D.W 0 D T).1 = true → I' 44 20 = 0 ∧ mDM ((mRw tx D.W 0 D T).2.1.1, (mRw tx D.W 0 D T).2.1.2.1 + 1, (mRw tx D.W 0 D T).2.1.2.2) 0 I' ∧ mTkM (mTok tx (mRw tx D.W 0 D T).2.2.bh) I') ∧ ((mRw tx D.W 0 D T).1 = false → I' 44 20 = 1 ∧ I' 44 17 = nI (mRw tx D.W 0 D T).2.2.st) := by
  obtain ⟨r, w1, hf, I', rfl, rfl, h1, h2, h3⟩ := ex99 (k99_0 (S99_loop (S := S) (L := L) (b := b) hX hw D.W 0 D T J none (by omega) hJ hD h20 ht hp hd hR))
  exact ⟨I', hf, h1, h2, h3⟩
/-- the tee -/
theorem S100 {tx : mTx} {I J : mF} {D : mDd} {T : mWd} (hX : mMT tx I) (hw : mTw tx) (hJ : mGr I J) (h20 : J 44 20 = 0) (hD : mDM D 0 J) (hp : T.bh ≤ tx.1) (ht : mTkM (mTok tx T.bh) J) (hd : mDwx D 0) :
    ∃ I' : mF, mFn S 100 [.ref 44] (mSH, J, L, mRk b) none (mSH, I', L, mRk b) ∧ mGr I I' ∧
      (mNb2 (mTok tx T.bh) 0 D.W = false → I' 44 20 = 1 ∧ I' 44 17 = nI (mTok tx T.bh).st) ∧
      (mNb2 (mTok tx T.bh) 0 D.W = true → (mNb2 (mTok tx (mTok tx T.bh).bh) 0 D.R = false ∨ ¬ D.K (7 * (mTok tx (mTok tx T.bh).bh).v + (mTok tx T.bh).v) = 0) → I' 44 20 = 1 ∧ I' 44 17 = nI (mTok tx (mTok tx T.bh).bh).st) ∧
      (mNb2 (mTok tx T.bh) 0 D.W = true → ¬ (mNb2 (mTok tx (mTok tx T.bh).bh) 0 D.R = false ∨ ¬ D.K (7 * (mTok tx (mTok tx T.bh).bh).v + (mTok tx T.bh).v) = 0) → I' 44 20 = 0 ∧ mDM (D.W, D.R, D.tu, D.op, D.pl, some (7 * (mTok tx (mTok tx T.bh).bh).v + (mTok tx T.bh).v), D.2.2.2.2.2.2) 0 I' ∧ mTkM (mTok tx (mTok tx (mTok tx T.bh).bh).bh) I') := by
  have hW7 := hd.1
  have hR7 := hd.2.1
  obtain ⟨I1, f1, r1, t1, u1⟩ := S97 (S := S) (L := L) (b := b) (hX.gr hJ) hw hp ht h20 (lo := 0) (h := D.W) (by decide) (by omega)
  have hJ1 : mGr I I1 := (hJ.u (by decide)).mr r1
  have hD1 : mDM D 0 I1 := (mDM.w hD).mr r1
  -- wrong
  have wrong : ∀ (o1 : Option Value) (P : Option Value → mW → Prop), P none (mSH, m_up I1 44 20 1, L, mRk b) → mWp S 100 65 [some (.ref 44), o1, none] [] (mSH, I1, L, mRk b) P := by
    intro o1 P hP
    exact k100_65 (k100_66 (fun _ => k100_72 (k100_77 (by decide) (fun _ => k100_101 hP) (fun q => absurd rfl q))) (fun q => absurd rfl q))
  have hw2 : mGr I (m_up I1 44 20 1) := hJ1.u (by decide)
  cases hb : mNb2 (mTok tx T.bh) 0 D.W with
  | false =>
    rw [hb] at f1 r1
    have e20 : I1 44 20 = 1 := by rw [r1 44 20 (by omega), m_us]; rfl
    refine ⟨m_up I1 44 20 1, e100 (k100_0 ?_), hw2, fun _ => ⟨m_us, ?_⟩, fun z => absurd z (by decide), fun z => absurd z (by decide)⟩
    · rw [hD.1]
      refine c100_8 f1 (k100_11 (fun q => ?_) (fun _ => wrong _ _ ⟨rfl, rfl⟩))
      rw [e20] at q
      exact absurd q (by decide)
    · rw [m_un (by decide)]
      exact u1 hb
  | true =>
    rw [hb] at f1 r1
    have e20 : I1 44 20 = 0 := by rw [r1 44 20 (by omega), m_us]; rfl
    obtain ⟨hk1, -, hhi⟩ := mNb2_t.mp hb
    have t1 := t1 hb
    have hp1 : (mTok tx T.bh).bh ≤ tx.1 := (mTok_le hp).2.2.2.1
    have hp2 : (mTok tx (mTok tx T.bh).bh).bh ≤ tx.1 := (mTok_le hp1).2.2.2.1
    have hk4 := mTok_k (tx := tx) (p := (mTok tx T.bh).bh)
    have hv2 := mTok_2 (tx := tx) (p := (mTok tx T.bh).bh)
    have e18 : I1 44 18 = nI (mTok tx (mTok tx T.bh).bh).kd := t1.2.2.1
    have ck : nI (mTok tx (mTok tx T.bh).bh).kd = 2 ↔ (mTok tx (mTok tx T.bh).bh).kd = 2 := nI_eq (by omega) (by decide)
    have e17 : m_up I1 44 20 1 44 17 = nI (mTok tx (mTok tx T.bh).bh).st := by
      rw [m_un (by decide)]
      exact t1.2.1
    have start : ∀ {Q : Option Value → mW → Prop}, mWp S 100 19 [some (.ref 44), some (.int (nI (mTok tx T.bh).v)), none] [] (mSH, I1, L, mRk b) Q → mWp S 100 0 [some (.ref 44), none, none] [] (mSH, J, L, mRk b) Q := by
      intro Q hq
      refine k100_0 ?_
      rw [hD.1]
      exact c100_8 f1 (k100_11 (fun _ => hq) (fun q => absurd e20 q))
    by_cases hk2 : (mTok tx (mTok tx T.bh).bh).kd = 2
    · have e19 : I1 44 19 = nI (mTok tx (mTok tx T.bh).bh).v := t1.2.2.2 (Or.inr hk2)
      have hv2 := hv2 hk2
      have f88 := S88 (S := S) (I := I1) (L := L) (b := b) (nI (mTok tx (mTok tx T.bh).bh).v) 0 (nI D.R - 1)
      have ei := m_inh (v := (mTok tx (mTok tx T.bh).bh).v) (lo := 0) (h := D.R) (by omega) (by decide) (by omega)
      have ei : mIn (nI (mTok tx (mTok tx T.bh).bh).v) 0 (nI D.R - 1) = _ := ei
      rw [ei] at f88
      by_cases hr : (mTok tx (mTok tx T.bh).bh).v < D.R
      · rw [if_pos ⟨Nat.zero_le _, hr⟩] at f88
        have hb2 : mNb2 (mTok tx (mTok tx T.bh).bh) 0 D.R = true := mNb2_t.mpr ⟨hk2, Nat.zero_le _, hr⟩
        have eat : (7 * I1 44 19) + nI (mTok tx T.bh).v = nI (7 * (mTok tx (mTok tx T.bh).bh).v + (mTok tx T.bh).v) := by
          rw [e19, show (7 : Int32) = nI 7 from rfl, pk_mul, nI_add]
        have hk9 : 7 * (mTok tx (mTok tx T.bh).bh).v + (mTok tx T.bh).v < 49 := by omega
        have eC : I1 51 (((7 * I1 44 19) + nI (mTok tx T.bh).v).toNatClampNeg) = nI (D.K (7 * (mTok tx (mTok tx T.bh).bh).v + (mTok tx T.bh).v)) := by
          rw [eat, nI_clamp (by omega)]
          refine hD1.2.2.2.2.2.2.2 _ hk9 (Or.inl ?_)
          show _ % 7 < D.W ∧ _ / 7 < D.R
          omega
        have h5 := hd.2.2.2.2.2.1 (7 * (mTok tx (mTok tx T.bh).bh).v + (mTok tx T.bh).v)
        have c0 : nI (D.K (7 * (mTok tx (mTok tx T.bh).bh).v + (mTok tx T.bh).v)) = 0 ↔ D.K (7 * (mTok tx (mTok tx T.bh).bh).v + (mTok tx T.bh).v) = 0 := nI_eq (by omega) (by decide)
        have okk : m_ok ((7 * I1 44 19) + nI (mTok tx T.bh).v) 49 = true := by rw [eat]; exact m_okN hk9 (by decide)
        have go : ∀ {Q : Option Value → mW → Prop}, mWp S 100 44 [some (.ref 44), some (.int (nI (mTok tx T.bh).v)), none] [] (mSH, I1, L, mRk b) Q → mWp S 100 0 [some (.ref 44), none, none] [] (mSH, J, L, mRk b) Q := by
          intro Q hq
          refine start (k100_19 (fun _ => k100_27 ?_) (fun q => absurd (by rw [e18]; exact ck.mpr hk2) q))
          rw [e19, hD1.2.1]
          exact c100_38 f88 (k100_41 (fun q => absurd q (by decide)) (fun _ => hq))
        by_cases hK : D.K (7 * (mTok tx (mTok tx T.bh).bh).v + (mTok tx T.bh).v) = 0
        · have hno : ¬ (mNb2 (mTok tx (mTok tx T.bh).bh) 0 D.R = false ∨ ¬ D.K (7 * (mTok tx (mTok tx T.bh).bh).v + (mTok tx T.bh).v) = 0) := fun z => z.elim (fun w => by rw [hb2] at w; exact absurd w (by decide)) (fun w => w hK)
          have hg : mGr I (m_up (m_up I1 44 20 0) 44 27 (nI (7 * (mTok tx (mTok tx T.bh).bh).v + (mTok tx T.bh).v))) := (hJ1.u (by decide)).u (by decide)
          obtain ⟨I2, f2, r2, t2⟩ := S96 (S := S) (L := L) (b := b) (hX.gr hg) hw hp2 (by rw [m_un (by decide), m_un (by decide)]; exact t1.1)
          refine ⟨I2, e100 (go (k100_44 okk (fun _ => k100_61 (k100_66 (fun q => absurd q (by decide)) (fun _ => k100_76 (k100_77 (by decide) (fun q => absurd q (by decide)) (fun _ => k100_84 ?_))))) (fun q => ?_))), hg.mr r2, fun z => absurd z (by decide), fun _ z => absurd z hno, fun _ _ => ⟨?_, ?_, t2⟩⟩
          · have e19' : m_up I1 44 20 0 44 19 = I1 44 19 := m_un (by decide)
            rw [e19', eat]
            exact c100_98 f2 (k100_101 ⟨rfl, rfl⟩)
          · rw [eC, c0] at q
            exact absurd hK q
          · rw [r2 44 20 (by omega), m_un (by decide), m_us]
          · refine mDM.mr ?_ r2
            obtain ⟨a0, a1, a2, a3, a4, a5, a6, a7⟩ := hD1
            refine ⟨?_, ?_, ?_, ?_, ?_, ?_, ?_, fun k hk hm => ?_⟩
            · rw [m_un (by decide), m_un (by decide)]; exact a0
            · rw [m_un (by decide), m_un (by decide)]; exact a1
            · rw [m_un (by decide), m_un (by decide)]; exact a2
            · rw [m_un (by decide), m_un (by decide)]; exact a3
            · rw [m_un (by decide), m_un (by decide)]; exact a4
            · rw [m_us]; rfl
            · rw [m_un (by decide), m_un (by decide)]; exact a6
            · rw [m_ux (by decide), m_ux (by decide)]; exact a7 k hk hm
        · refine ⟨m_up I1 44 20 1, e100 (go (k100_44 okk (fun q => ?_) (fun _ => wrong _ _ ⟨rfl, rfl⟩))), hw2, fun z => absurd z (by decide), fun _ _ => ⟨m_us, e17⟩, fun _ z => absurd (Or.inr hK) z⟩
          rw [eC, c0] at q
          exact absurd q hK
      · rw [if_neg (fun z => hr z.2)] at f88
        have hb2 : mNb2 (mTok tx (mTok tx T.bh).bh) 0 D.R = false := decide_eq_false (fun z => hr z.2.2)
        refine ⟨m_up I1 44 20 1, e100 (start (k100_19 (fun _ => k100_27 ?_) (fun q => absurd (by rw [e18]; exact ck.mpr hk2) q))), hw2, fun z => absurd z (by decide), fun _ _ => ⟨m_us, e17⟩, fun _ z => absurd (Or.inl hb2) z⟩
        rw [e19, hD1.2.1]
        exact c100_38 f88 (k100_41 (fun _ => wrong _ _ ⟨rfl, rfl⟩) (fun q => absurd rfl q))
    · have hb2 : mNb2 (mTok tx (mTok tx T.bh).bh) 0 D.R = false := decide_eq_false (fun z => hk2 z.1)
      refine ⟨m_up I1 44 20 1, e100 (start (k100_19 (fun q => ?_) (fun _ => wrong _ _ ⟨rfl, rfl⟩))), hw2, fun z => absurd z (by decide), fun _ _ => ⟨m_us, e17⟩, fun _ z => absurd (Or.inl hb2) z⟩
      rw [e18, ck] at q
      exact absurd q hk2
end SAID2
