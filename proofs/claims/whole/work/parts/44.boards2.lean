/-! boards, both -/
section BOARDS2
variable {S : mS}
theorem Cs_boards (x y is : Int32) : mCs S 56 117 [.int x, .int y, .int is] := by
  refine mCs_of fun G s h im tx la tr I L b hw hx hm => ?_
  have hg := hw.1
  have hs := hw.2.1
  have hh := hw.2.2.1
  have h7 := hg.1
  have x9 : ∀ {Q : Option Value → mW → Prop}, mWp S 56 9 [some (.ref 1), some (.int x), some (.int y), some (.int is), none] [.int (mOe (mPlace G.W G.H x y))] (mSH, I, L, mRk b) Q → mWp S 56 0 [some (.ref 1), some (.int x), some (.int y), some (.int is), none] [] (mSH, I, L, mRk b) Q := fun hq => k56_0 (c56_6 (S2 hx.1.1 hx.1.2.1 h7 _ _) hq)
  have m6 : ∀ {I1 : mF} {L1 : mFL} {Q : Option Value → mW → Prop}, mMI G s h im tx la tr I1 L1 → mWp S 117 6 [some (.ref 44), some (.int x), some (.int y), some (.int is), none, none, none] [.int (mIc G.W G.H x y)] (mSH, I1, L1, mRk b) Q → mWp S 117 0 [some (.ref 44), some (.int x), some (.int y), some (.int is), none, none, none] [] (mSH, I1, L1, mRk b) Q := fun hm1 hq => k117_0 (c117_3 (S89 hm1.1.1 hm1.1.2.1 h7 _ _) hq)
  unfold mIc at m6
  cases hp : mPlace G.W G.H x y with
  | none =>
    rw [hp] at x9 m6
    exact ⟨.int (-1), G, s, h, im, tx, la, tr, hw, ⟨I, L, e56 (x9 (k56_9 (fun _ => k56_25 ⟨rfl, rfl⟩) (fun q => absurd (by decide) q))), hx, mFx.rf⟩, fun I1 L1 hm1 => ⟨I1, L1, e117 (m6 hm1 (k117_6 (fun _ => k117_18 ⟨rfl, rfl⟩) (fun q => absurd rfl q))), hm1, mFm.rf⟩⟩
  | some p =>
    have hpo := mPlace_on h7 hp
    have hp49 := mOn_lt h7 hpo
    rw [hp] at x9 m6
    by_cases hb : ∃ k, 0 ≤ k ∧ k ≤ 1 ∧ is = nI k
    · obtain ⟨w, -, hw1, rfl⟩ := hb
      have ew : mIn (nI w) 0 1 = 1 := (mIn_n (by omega) (l := 0) (by decide) (h := 1) (by decide)).trans (if_pos ⟨Nat.zero_le _, hw1⟩)
      have x31 : ∀ {Q : Option Value → mW → Prop}, mWp S 56 31 [some (.ref 1), some (.int x), some (.int y), some (.int (nI w)), some (.int (nI p))] [.int (nI w), .int (nI p), .ref 1] (mSH, I, L, mRk b) Q → mWp S 56 0 [some (.ref 1), some (.int x), some (.int y), some (.int (nI w)), none] [] (mSH, I, L, mRk b) Q := by
        intro Q hq
        refine x9 (k56_9 (fun q => absurd q (nI_pos (by omega))) (fun _ => k56_16 (fun q => absurd q (nI_pos (by omega))) (fun _ => k56_20 (fun _ => k56_27 hq) (fun q => ?_))))
        rw [show (1 : Int32) = nI 1 from rfl, nI_leI (by omega) (by decide)] at q
        exact absurd hw1 q
      obtain ⟨i, j, ex, ey, hi, hj, ep⟩ := mPlace_some h7 hp
      have m20 : ∀ {I1 : mF} {L1 : mFL} {Q : Option Value → mW → Prop}, mMI G s h im tx la tr I1 L1 → (w = 1 → mWp S 117 33 [some (.ref 44), some (.int x), some (.int y), some (.int (nI w)), some (.int (nI p)), none, none] [] (mSH, I1, L1, mRk b) Q) → (¬ w = 1 → mWp S 117 45 [some (.ref 44), some (.int x), some (.int y), some (.int (nI w)), some (.int (nI p)), none, none] [] (mSH, I1, L1, mRk b) Q) → mWp S 117 0 [some (.ref 44), some (.int x), some (.int y), some (.int (nI w)), none, none, none] [] (mSH, I1, L1, mRk b) Q := by
        intro I1 L1 Q hm1 h1 h2
        have e7 : (7 : Int32) * y + x = nI p := by
          rw [ex, ey, ep]
          show nI 7 * nI j + nI i = _
          rw [pk_mul, nI_add]
        refine m6 hm1 (k117_6 (fun q => absurd q (show ¬ (1 : Int32) = 0 by decide)) (fun _ => k117_9 (c117_12 (S88 _ _ _) ?_)))
        rw [ew]
        refine k117_15 (fun q => absurd q (show ¬ (1 : Int32) = 0 by decide)) (fun _ => k117_20 (fun q => ?_) (fun q => ?_))
        · rw [e7]
          rw [show (1 : Int32) = nI 1 from rfl, nI_eq (by omega) (by decide)] at q
          exact h1 q
        · rw [e7]
          rw [show (1 : Int32) = nI 1 from rfl, nI_eq (by omega) (by decide)] at q
          exact h2 q
      -- whether it may be
      let may : Bool := if w = 1 then mMay G s p else mB s.y p
      have fX : mFn S 57 [.ref 1, .int (nI p), .int (nI w)] (mSH, I, L, mRk b) (some (.int (if may then 1 else 0))) (mSH, I, L, mRk b) := by
        by_cases q : w = 1
        · have e : may = mMay G s p := if_pos q
          rw [e, q]
          exact S57b hx.1 hx.2.1 hg hs hp49
        · have e : may = mB s.y p := if_neg q
          have : w = 0 := by omega
          rw [e, this]
          exact S57a hx.2.1 hp49
      have hgp := hg.2.2.2.2.2.2 p hp49
      have hKp : mK G.g s.y p < 5 := mK5 hgp.2
      have e8 : (8 + nI p : Int32) = nI (8 + p) := nI_add 8 p
      have mM : ∀ {I1 : mF} {L1 : mFL} {Q : Option Value → mW → Prop}, mMI G s h im tx la tr I1 L1 → (may = true → mWp S 117 62 [some (.ref 44), some (.int x), some (.int y), some (.int (nI w)), some (.int (nI p)), none, none] [] (mSH, I1, L1, mRk b) Q) → (may = false → mWp S 117 59 [some (.ref 44), some (.int x), some (.int y), some (.int (nI w)), some (.int (nI p)), none, none] [] (mSH, I1, L1, mRk b) Q) → mWp S 117 0 [some (.ref 44), some (.int x), some (.int y), some (.int (nI w)), none, none, none] [] (mSH, I1, L1, mRk b) Q := by
        intro I1 L1 Q hm1 h1 h2
        refine m20 hm1 (fun q => k117_33 (c117_36 (S116 hm1.1 hm1.2.1 hg hs hpo) ?_)) (fun q => k117_45 (by rw [e8]; exact m_okN (by omega) (by decide)) (fun q2 => h1 ?_) (fun q2 => h2 ?_))
        · have e : may = mMay G s p := if_pos q
          rw [← e]
          cases hmay : may with
          | true => exact k117_39 (fun q => absurd q (show ¬ (1 : Int32) = 0 by decide)) (fun _ => h1 hmay)
          | false => exact k117_39 (fun _ => k117_42 (h2 hmay)) (fun q => absurd rfl q)
        · rw [e8, nI_clamp (by omega), hm1.2.1.at hpo, show (1 : Int32) = nI 1 from rfl, nI_eq (by omega) (by decide)] at q2
          have e : may = mB s.y p := if_neg q
          rw [e]
          unfold mK at q2
          cases hf : mB s.y p with
          | true => rfl
          | false =>
            rw [hf] at q2
            exact absurd q2 hgp.1
        · rw [e8, nI_clamp (by omega), hm1.2.1.at hpo, show (1 : Int32) = nI 1 from rfl, nI_eq (by omega) (by decide)] at q2
          have e : may = mB s.y p := if_neg q
          rw [e]
          unfold mK at q2
          cases hf : mB s.y p with
          | false => rfl
          | true =>
            rw [hf] at q2
            exact absurd rfl q2
      cases hmay : may with
      | false =>
        rw [hmay] at fX
        exact ⟨.int (-2), G, s, h, im, tx, la, tr, hw, ⟨I, L, e56 (x31 (c56_31 fX (k56_34 (fun _ => k56_37 ⟨rfl, rfl⟩) (fun q => absurd rfl q)))), hx, mFx.rf⟩, fun I1 L1 hm1 => ⟨I1, L1, e117 (mM hm1 (fun q => by rw [hmay] at q; cases q) (fun _ => k117_59 ⟨rfl, rfl⟩)), hm1, mFm.rf⟩⟩
      | true =>
        rw [hmay] at fX
        -- what the cell is before and behind
        have g0 : G.g p = 0 ∧ (mB s.y p = true ↔ ¬ w = 1) := by
          by_cases q : w = 1
          · have e : mMay G s p = true := (if_pos q).symm.trans hmay
            have hk := (of_decide_eq_true e).2.1
            unfold mK at hk
            cases hf : mB s.y p with
            | true => rw [hf] at hk; exact absurd (show 1 = 0 from hk) (by decide)
            | false =>
              rw [hf] at hk
              exact ⟨hk, ⟨fun z => absurd z (by decide), fun z => absurd q z⟩⟩
          · have e : mB s.y p = true := (if_neg q).symm.trans hmay
            exact ⟨(hs.2.2.2.2.2.2 p e).2, fun _ => q, fun _ => e⟩
        let s' : mY := (s.t, s.ba, s.k, s.on, s.sc, mTg s.y p)
        have hs' : mYw G s' := by
          refine ⟨hs.1, hs.2.1, hs.2.2.1, hs.2.2.2.1, hs.2.2.2.2.1, hs.2.2.2.2.2.1, fun k hk => ?_⟩
          have hk : mB (mTg s.y p) k = true := hk
          have hk64 := mB_lt hk
          rw [mB_tg (by omega) hk64] at hk
          by_cases q : k = p
          · subst q
            exact ⟨hpo, g0.1⟩
          · rw [if_neg q] at hk
            exact hs.2.2.2.2.2.2 k hk
        have hn := mNb_pn (s := s') hg hs'
        obtain ⟨I1, L1, f1, y1, fr1⟩ := S54 (S := S) hh.1 hx
        have y8 : L1 8 4 = s.y := y1.2.1.2.2.2.2.2
        refine ⟨.int (nI (mNb (mTg s.y p))), G, s', mPush h s, im, tx, la, tr, ⟨hg, hs', mPush_w hh hs, hw.2.2.2⟩, ⟨I1, m_up L1 8 4 (mTg s.y p), e56 (x31 (c56_31 fX (k56_34 (fun q => absurd q (show ¬ (1 : Int32) = 0 by decide)) (fun _ => k56_40 (c56_41 f1 (k56_44 ?_)))))), ?_, ?_⟩, fun I2 L2 hm2 => ?_⟩
        · rw [y8]
          refine c56_67 (S143 _) (k56_70 ⟨?_, rfl⟩)
          exact congrArg (fun z => some (Value.int (nI z))) hn
        · obtain ⟨a0, a1, a2, a3, a4, -⟩ := y1.2.1
          exact y1.play ⟨a0, a1, a2, a3, a4, m_us⟩ (fun a h8 h9 => ⟨rfl, m_up_ne h8⟩)
        · exact mFx.upL (fun a ha => fr1 a (Or.inr (by omega)) (by omega)) (by decide)
        · obtain ⟨I3, f3, y3, fr3, fr4⟩ := S112 (S := S) (b := b) h7 hh.1 hm2
          have yy : ∀ v : Int32, v = nI (mK G.g (mTg s.y p) p) → mMI G s' (mPush h s) im tx la tr (m_up I3 45 (8 + p) v) L2 := by
            intro v hv
            obtain ⟨a0, a1, a2, a3, a4, a5⟩ := y3.2.1
            refine y3.play ⟨?_, ?_, ?_, ?_, fun q hq => ?_, fun c hc => ?_⟩ (fun a k _ h45 => m_ux h45) rfl
            · rw [m_un (by omega)]; exact a0
            · rw [m_un (by omega)]; exact a1
            · rw [m_un (by omega)]; exact a2
            · rw [m_un (by omega)]; exact a3
            · rw [m_un (by omega)]; exact a4 q hq
            · have hc49 := mOn_lt h7 hc
              have a5 := a5 c hc
              rw [Nat.zero_add] at a5 ⊢
              show m_up I3 45 (8 + p) v 45 (8 + c) = nI (mK G.g (mTg s.y p) c)
              by_cases q : c = p
              · subst q
                rw [m_us, hv]
              · rw [m_un (by omega), a5]
                unfold mK
                rw [mB_tg (by omega) (by omega), if_neg q]
          have eb : mB (mTg s.y p) p = !mB s.y p := by rw [mB_tg (by omega) (by omega), if_pos rfl]
          have v1 : w = 1 → (1 : Int32) = nI (mK G.g (mTg s.y p) p) := by
            intro q
            unfold mK
            rw [eb]
            cases hf : mB s.y p with
            | true => exact absurd q (g0.2.mp hf)
            | false => rfl
          have v0 : ¬ w = 1 → (0 : Int32) = nI (mK G.g (mTg s.y p) p) := by
            intro q
            unfold mK
            rw [eb, g0.2.mpr q, g0.1]
            rfl
          have hg85 : m_ok (nI (8 + p)) 57 = true := m_okN (by omega) (by decide)
          have fin : ∀ (v : Int32) (o5 o6 : Option Value), v = nI (mK G.g (mTg s.y p) p) → mWp S 117 85 [some (.ref 44), some (.int x), some (.int y), some (.int (nI w)), some (.int (nI p)), o5, o6] [.int v, .int (nI (8 + p)), .ref 45] (mSH, I3, L2, mRk b) (fun r2 w2 => ∃ I' L', r2 = some (.int (nI (mNb (mTg s.y p)))) ∧ w2 = (mSH, I', L', mRk b) ∧ mMI G s' (mPush h s) im tx la tr I' L' ∧ mFm I2 L2 I' L') := by
            intro v o5 o6 hv
            refine k117_85 hg85 ?_
            rw [nI_clamp (by omega)]
            have h3 := yy v hv
            refine mWp_mono (S117_loop (S := S) (L := L2) (b := b) h3.1 h3.2.1 hg hs' 49 0 rfl) ?_
            rintro r2 w2 ⟨rfl, rfl⟩
            exact ⟨_, L2, rfl, rfl, h3, mFm.up (fun a ha => ⟨fr3 a (by omega) (by omega), rfl⟩) (by decide)⟩
          have key : mWp S 117 0 [some (.ref 44), some (.int x), some (.int y), some (.int (nI w)), none, none, none] [] (mSH, I2, L2, mRk b) (fun r2 w2 => ∃ I' L', r2 = some (.int (nI (mNb (mTg s.y p)))) ∧ w2 = (mSH, I', L', mRk b) ∧ mMI G s' (mPush h s) im tx la tr I' L' ∧ mFm I2 L2 I' L') := by
            refine mM hm2 (fun _ => k117_62 (c117_63 f3 (k117_66 (fun q => k117_80 ?_) (fun q => k117_84 ?_)))) (fun q => by rw [hmay] at q; cases q)
            · rw [show (1 : Int32) = nI 1 from rfl, nI_eq (by omega) (by decide)] at q
              rw [e8]
              exact fin 1 _ _ (v1 q)
            · rw [show (1 : Int32) = nI 1 from rfl, nI_eq (by omega) (by decide)] at q
              rw [e8]
              exact fin 0 _ _ (v0 q)
          obtain ⟨r2, w2, hf, I', L', rfl, rfl, z1, z2⟩ := ex117 key
          exact ⟨I', L', hf, z1, z2⟩
    · refine ⟨.int (-1), G, s, h, im, tx, la, tr, hw, ⟨I, L, e56 (x9 (k56_9 (fun _ => k56_25 ⟨rfl, rfl⟩) (fun _ => k56_16 (fun _ => k56_25 ⟨rfl, rfl⟩) (fun q => k56_20 (fun q2 => absurd ?_ hb) (fun _ => k56_25 ⟨rfl, rfl⟩))))), hx, mFx.rf⟩, fun I1 L1 hm1 => ⟨I1, L1, e117 (m6 hm1 (k117_6 (fun _ => k117_18 ⟨rfl, rfl⟩) (fun _ => k117_9 (c117_12 (S88 _ _ _) ?_)))), hm1, mFm.rf⟩⟩
      · obtain ⟨k, hk, rfl⟩ := nI_of q
        rw [show (1 : Int32) = nI 1 from rfl, nI_leI hk (by decide)] at q2
        exact ⟨k, Nat.zero_le _, q2, rfl⟩
      · rcases mCm_in (v := is) (lo := 0) (hi := 1) (by decide) (by decide) with ⟨e, -⟩ | ⟨-, q⟩
        · have e : mIn is 0 1 = 0 := e
          rw [e]
          exact k117_15 (fun _ => k117_18 ⟨rfl, rfl⟩) (fun q => absurd rfl q)
        · exact absurd q hb
end BOARDS2
