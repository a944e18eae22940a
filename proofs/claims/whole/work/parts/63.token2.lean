/-! the reference's next -/
section TOKEN2
variable {S : mS} {L : mFL} {b : Bool}
theorem mMT.r {tx : mTx} {I I' : mF} (h : mMT tx I) (hr : mMr I I') : mMT tx I' := h.sm (hr 44 15 (by omega)) (funext fun k => hr 50 k (by omega))
theorem S94 {tx : mTx} {I : mF} (hX : mMT tx I) (hw : mTw tx) {p : Nat} (hp : p ≤ tx.1) : mFn S 94 [.ref 44, .int (nI p)] (mSH, I, L, mRk b) (some (.int (if p < tx.1 then nI (tx.2 p) else -1))) (mSH, I, L, mRk b) := by
  have hN := hw.1
  refine e94 (k94_0 (fun q => k94_17 (k94_18 ⟨?_, rfl⟩)) (fun q => k94_8 (m_okN ?_ (by decide)) (k94_18 ⟨?_, rfl⟩)))
  · rw [hX.1, nI_leI (by omega) (by omega)] at q
    rw [if_neg (by omega)]
  · rw [hX.1, nI_leI (by omega) (by omega)] at q
    omega
  · rw [hX.1, nI_leI (by omega) (by omega)] at q
    rw [if_pos (by omega), nI_clamp (by omega), hX.2 p (by omega)]
theorem S95 {I : mF} (x : Int32) : mFn S 95 [.int x] (mSH, I, L, mRk b) (some (.int (mIn x 48 57))) (mSH, I, L, mRk b) := by
  refine e95 (k95_0 (c95_5 (S88 _ _ _) (k95_8 ?_ ⟨rfl, rfl⟩)))
  unfold mIn
  split
  · decide
  · split <;> decide
theorem mIn_c {c : Nat} (hc : c < 256) {l h : Nat} (hl : l < 256) (hh : h < 256) : mIn (nI c) (nI l) (nI h) = if l ≤ c ∧ c ≤ h then 1 else 0 := mIn_n (by omega) (by omega) (by omega)
theorem S96 {tx : mTx} {I : mF} (hX : mMT tx I) (hw : mTw tx) {p : Nat} (hp : p ≤ tx.1) (h2 : I 44 16 = nI p) :
    ∃ I' : mF, mFn S 96 [.ref 44] (mSH, I, L, mRk b) none (mSH, I', L, mRk b) ∧ mMr I I' ∧ mTkM (mTok tx p) I' := by
  have hN := hw.1
  have skip : ∀ (m p : Nat) (J : mF) (Q : Option Value → mW → Prop), p + m = tx.1 → mMr I J → J 44 16 = nI p → (∀ J' : mF, mMr I J' → J' 44 16 = nI (mSkp tx.2 m p) → mWp S 96 26 [some (.ref 44), none] [] (mSH, J', L, mRk b) Q) → mWp S 96 0 [some (.ref 44), none] [] (mSH, J, L, mRk b) Q := by
    intro m
    induction m with
    | zero =>
      intro p J Q hm hJ hJ2 go
      refine k96_0 ?_
      rw [hJ2]
      refine c96_5 (S94 (hX.r hJ) hw (by omega)) ?_
      rw [if_neg (by omega)]
      exact k96_8 (fun q => absurd q (by decide)) (fun _ => go J hJ hJ2)
    | succ m ih =>
      intro p J Q hm hJ hJ2 go
      have hl := hw.2 p (by omega)
      have c32 : nI (tx.2 p) = 32 ↔ tx.2 p = 32 := nI_eq (by omega) (by decide)
      refine k96_0 ?_
      rw [hJ2]
      refine c96_5 (S94 (hX.r hJ) hw (by omega)) ?_
      rw [if_pos (by omega)]
      refine k96_8 (fun q => k96_13 ?_) (fun q => go J hJ ?_)
      · rw [c32] at q
        refine ih (p + 1) _ Q (by omega) (hJ.up (by omega)) (by rw [m_us, hJ2, nI_1]) (fun J' a1 a2 => go J' a1 ?_)
        rw [mSkp, if_pos q]
        exact a2
      · rw [c32] at q
        rw [mSkp, if_neg q]
        exact hJ2
  have figs : ∀ (m p v R : Nat) (c : Option Value) (J : mF) (Q : Option Value → mW → Prop), p + m = tx.1 → R < 1100 → min 100 R = v → mMr I J → J 44 16 = nI p → J 44 19 = nI R → (∀ (J' : mF) (R' : Nat), R' < 1100 → min 100 R' = (mDig tx.2 m p v).2 → mMr I J' → J' 44 17 = J 44 17 → J' 44 16 = nI (mDig tx.2 m p v).1 → J' 44 19 = nI R' → mWp S 96 133 [some (.ref 44), c] [] (mSH, J', L, mRk b) Q) → mWp S 96 67 [some (.ref 44), c] [] (mSH, J, L, mRk b) Q := by
    intro m
    induction m with
    | zero =>
      intro p v R c J Q hm hR hv hJ hJ2 hJ5 go
      refine k96_67 ?_
      rw [hJ2]
      refine c96_72 (S94 (hX.r hJ) hw (by omega)) ?_
      rw [if_neg (by omega)]
      refine c96_75 (S95 _) (k96_78 (fun _ => go J R hR hv hJ rfl hJ2 hJ5) (fun q => absurd (by decide) q))
    | succ m ih =>
      intro p v R c J Q hm hR hv hJ hJ2 hJ5 go
      have hl := hw.2 p (by omega)
      have ed : mIn (nI (tx.2 p)) 48 57 = if 48 ≤ tx.2 p ∧ tx.2 p ≤ 57 then 1 else 0 := mIn_c hl (l := 48) (h := 57) (by decide) (by decide)
      refine k96_67 ?_
      rw [hJ2]
      refine c96_72 (S94 (hX.r hJ) hw (by omega)) ?_
      rw [if_pos (by omega)]
      refine c96_75 (S95 _) ?_
      rw [ed]
      by_cases hd : 48 ≤ tx.2 p ∧ tx.2 p ≤ 57
      · rw [if_pos hd]
        have next : ∀ R', R' < 1100 → min 100 R' = min 100 (10 * v + (tx.2 p - 48)) → mWp S 96 117 [some (.ref 44), c] [.int (nI R'), .ref 44] (mSH, J, L, mRk b) Q := by
          intro R' hR' hv'
          refine k96_117 ?_
          refine ih (p + 1) _ R' c _ Q (by omega) hR' hv' ((hJ.up (by omega)).up (by omega)) (by rw [m_us, hJ2, nI_1]) (by rw [m_un (by decide), m_us]) (fun J' R2 b1 b2 a1 a3 a2 a4 => go J' R2 b1 ?_ a1 ?_ ?_ a4)
          · rw [mDig, if_pos hd]
            exact b2
          · rw [a3, m_un (by decide), m_un (by decide)]
          · rw [mDig, if_pos hd]
            exact a2
        refine k96_78 (fun q => absurd q (by decide)) (fun _ => k96_81 (fun q => k96_98 ?_) (fun q => k96_91 ?_))
        · rw [hJ5, show (99 : Int32) = nI 99 from rfl, nI_leI (by omega) (by decide)] at q
          rw [hJ2]
          refine c96_110 (S94 (hX.r hJ) hw (by omega)) ?_
          rw [if_pos (by omega), hJ5]
          refine k96_113 ?_
          rw [show (10 : Int32) = nI 10 from rfl, pk_mul, nI_add, show (48 : Int32) = nI 48 from rfl, pk_sub (by omega)]
          refine next _ (by omega) ?_
          rw [← hv, Nat.min_eq_right (show R ≤ 100 by omega), show 10 * R + tx.2 p - 48 = 10 * R + (tx.2 p - 48) by omega]
        · rw [hJ5, show (99 : Int32) = nI 99 from rfl, nI_leI (by omega) (by decide)] at q
          rw [hJ5]
          refine next R hR ?_
          rw [← hv, Nat.min_eq_left (show 100 ≤ R by omega), Nat.min_eq_left (by omega)]
      · rw [if_neg hd]
        refine k96_78 (fun _ => go J R hR ?_ hJ rfl ?_ hJ5) (fun q => absurd rfl q)
        · rw [mDig, if_neg hd]
          exact hv
        · rw [mDig, if_neg hd]
          exact hJ2
  have key : mWp S 96 0 [some (.ref 44), none] [] (mSH, I, L, mRk b) (fun r2 w2 => ∃ I' : mF, r2 = none ∧ w2 = (mSH, I', L, mRk b) ∧ mMr I I' ∧ mTkM (mTok tx p) I') := by
    refine skip (tx.1 - p) p I _ (by omega) mMr.rf h2 (fun J hJ hJ2 => ?_)
    have hsl := mSkp_le (f := tx.2) (tx.1 - p) p
    unfold mTok
    obtain ⟨s, es⟩ : ∃ s, s = mSkp tx.2 (tx.1 - p) p := ⟨_, rfl⟩
    rw [← es] at hJ2 hsl ⊢
    have h17 : mMr I (m_up J 44 17 (J 44 16)) := hJ.up (by omega)
    refine k96_26 ?_
    rw [hJ2]
    rw [hJ2] at h17
    refine c96_39 (S94 (hX.r h17) hw (by omega)) ?_
    by_cases q : s < tx.1
    · rw [if_pos q, if_neg (by omega)]
      have hl := hw.2 s q
      have ed : mIn (nI (tx.2 s)) 48 57 = if 48 ≤ tx.2 s ∧ tx.2 s ≤ 57 then 1 else 0 := mIn_c hl (l := 48) (h := 57) (by decide) (by decide)
      have ea : mIn (nI (tx.2 s)) 97 122 = if 97 ≤ tx.2 s ∧ tx.2 s ≤ 122 then 1 else 0 := mIn_c hl (l := 97) (h := 122) (by decide) (by decide)
      refine k96_42 (fun _ => k96_60 (c96_61 (S95 _) ?_)) (fun z => absurd (nI_pos' (by omega)) z)
      rw [ed]
      have hb : mMr I (m_up (m_up J 44 17 (nI s)) 44 19 0) := h17.up (by omega)
      by_cases hd : 48 ≤ tx.2 s ∧ tx.2 s ≤ 57
      · rw [if_pos hd, if_pos hd]
        have hdl := mDig_le (f := tx.2) (tx.1 - s) s 0 (by decide)
        refine k96_64 (fun z => absurd z (by decide)) (fun _ => figs (tx.1 - s) s 0 0 _ _ _ (by omega) (by decide) rfl hb (by rw [m_un (by decide), m_un (by decide), hJ2]) m_us (fun J' R b1 b2 a1 a3 a2 a5 => ?_))
        have a3 : J' 44 17 = nI s := by rw [a3, m_un (by decide), m_us]
        generalize (mDig tx.2 (tx.1 - s) s 0) = r at *
        have fin : ∀ (u : Nat) (o1 : Option Value), (u = 2 ∨ u = 4) → (99 < r.2 ∨ (tx.2 s = 48 ∧ s + 1 < r.1) ↔ u = 4) → mWp S 96 167 [some (.ref 44), o1] [.int (nI u), .ref 44] (mSH, J', L, mRk b) (fun r2 w2 => ∃ I' : mF, r2 = none ∧ w2 = (mSH, I', L, mRk b) ∧ mMr I I' ∧ mTkM (s, (if 99 < r.2 ∨ (tx.2 s = 48 ∧ s + 1 < r.1) then 4 else 2), r.2, r.1) I') := by
          intro u o1 hu hi
          refine k96_167 (k96_218 ⟨_, rfl, rfl, a1.up (by omega), ?_, ?_, ?_, ?_⟩)
          · rw [m_un (by decide)]
            exact a2
          · rw [m_un (by decide)]
            exact a3
          · rw [m_us]
            rcases hu with rfl | rfl
            · rw [if_neg (fun z => absurd (hi.mp z) (by decide))]
            · rw [if_pos (hi.mpr rfl)]
          · intro z
            rw [m_un (by decide)]
            refine a5.trans ?_
            show nI R = nI r.2
            have : ¬ 99 < r.2 := by
              intro w
              rw [if_pos (Or.inl w)] at z
              rcases z with z | z
              · exact absurd (show (4 : Nat) = 1 from z) (by decide)
              · exact absurd (show (4 : Nat) = 2 from z) (by decide)
            congr 1
            omega
        have lead : ∀ o1, ¬ 99 < r.2 → ¬ (tx.2 s = 48 ∧ s + 1 < r.1) → mWp S 96 166 [some (.ref 44), o1] [.ref 44] (mSH, J', L, mRk b) (fun r2 w2 => ∃ I' : mF, r2 = none ∧ w2 = (mSH, I', L, mRk b) ∧ mMr I I' ∧ mTkM (s, (if 99 < r.2 ∨ (tx.2 s = 48 ∧ s + 1 < r.1) then 4 else 2), r.2, r.1) I') :=
          fun o1 h1 h2 => k96_166 (fin 2 _ (Or.inl rfl) ⟨fun w => by omega, fun w => by omega⟩)
        have bad : ∀ o1, (99 < r.2 ∨ (tx.2 s = 48 ∧ s + 1 < r.1)) → mWp S 96 162 [some (.ref 44), o1] [.ref 44] (mSH, J', L, mRk b) (fun r2 w2 => ∃ I' : mF, r2 = none ∧ w2 = (mSH, I', L, mRk b) ∧ mMr I I' ∧ mTkM (s, (if 99 < r.2 ∨ (tx.2 s = 48 ∧ s + 1 < r.1) then 4 else 2), r.2, r.1) I') :=
          fun o1 h1 => k96_162 (fin 4 _ (Or.inr rfl) ⟨fun _ => rfl, fun _ => h1⟩)
        have a2 : J' 44 16 = nI r.1 := a2
        have b2 : min 100 R = r.2 := b2
        refine k96_133 (fun z => bad _ (Or.inl ?_)) (fun z => k96_143 (fun z1 => k96_149 (fun z2 => lead _ ?_ ?_) (fun z2 => bad _ (Or.inr ⟨?_, ?_⟩))) (fun z1 => lead _ ?_ ?_))
        · rw [a5, show (99 : Int32) = nI 99 from rfl, nI_ltI (by decide) (by omega)] at z
          omega
        · rw [a5, show (99 : Int32) = nI 99 from rfl, nI_ltI (by decide) (by omega)] at z
          omega
        · rw [a2, a3, pk_sub (by omega), show (1 : Int32) = nI 1 from rfl, nI_leI (by omega) (by decide)] at z2
          omega
        · rw [show (48 : Int32) = nI 48 from rfl, nI_eq (by omega) (by decide)] at z1
          exact z1
        · rw [a2, a3, pk_sub (by omega), show (1 : Int32) = nI 1 from rfl, nI_leI (by omega) (by decide)] at z2
          omega
        · rw [a5, show (99 : Int32) = nI 99 from rfl, nI_ltI (by decide) (by omega)] at z
          omega
        · rw [show (48 : Int32) = nI 48 from rfl, nI_eq (by omega) (by decide)] at z1
          exact fun w => z1 w.1
      · rw [if_neg hd, if_neg hd]
        have fin : ∀ (u : Nat), ((if 97 ≤ tx.2 s ∧ tx.2 s ≤ 122 then 1 else if tx.2 s = 59 then 3 else 4) = u) → mWp S 96 200 [some (.ref 44), some (.int (nI (tx.2 s)))] [.int (nI u), .ref 44] (mSH, m_up (m_up J 44 17 (nI s)) 44 19 0, L, mRk b) (fun r2 w2 => ∃ I' : mF, r2 = none ∧ w2 = (mSH, I', L, mRk b) ∧ mMr I I' ∧ mTkM (s, (if 97 ≤ tx.2 s ∧ tx.2 s ≤ 122 then 1 else if tx.2 s = 59 then 3 else 4), tx.2 s, s + 1) I') := by
          intro u hu
          rw [hu]
          refine k96_200 (k96_218 ⟨_, rfl, rfl, ((hb.up (by omega)).up (by omega)).up (by omega), ?_, ?_, ?_, fun _ => ?_⟩)
          · rw [m_us, m_un (by decide), m_un (by decide), hJ2, nI_1]
          · rw [m_un (by decide), m_un (by decide), m_un (by decide), m_un (by decide), m_us]
          · rw [m_un (by decide), m_un (by decide), m_us]
          · rw [m_un (by decide), m_us]
        have c59 : nI (tx.2 s) = 59 ↔ tx.2 s = 59 := nI_eq (by omega) (by decide)
        refine k96_64 (fun _ => k96_173 (c96_179 (S88 _ _ _) ?_)) (fun z => absurd rfl z)
        rw [ea]
        by_cases ha : 97 ≤ tx.2 s ∧ tx.2 s ≤ 122
        · rw [if_pos ha]
          exact k96_182 (fun z => absurd z (by decide)) (fun _ => k96_185 (fin 1 (if_pos ha)))
        · rw [if_neg ha]
          refine k96_182 (fun _ => k96_189 (fun z => k96_195 (fin 3 ?_)) (fun z => k96_199 (fin 4 ?_))) (fun z => absurd rfl z)
          · rw [if_neg ha, if_pos (c59.mp z)]
          · rw [if_neg ha, if_neg (fun w => z (c59.mpr w))]
    · rw [if_neg q, if_pos (by omega)]
      refine k96_42 (fun z => absurd z (by decide)) (fun _ => k96_52 (k96_218 ⟨_, rfl, rfl, (h17.up (by omega)).up (by omega), ?_, ?_, m_us, fun z => ?_⟩))
      · rw [m_un (by decide), m_un (by decide), m_un (by decide)]
        exact hJ2
      · rw [m_un (by decide), m_un (by decide), m_us]
      · rcases z with z | z
        · exact absurd (show (0 : Nat) = 1 from z) (by decide)
        · exact absurd (show (0 : Nat) = 2 from z) (by decide)
  obtain ⟨r, w1, hf, I', rfl, rfl, h3, h4⟩ := ex96 key
  exact ⟨I', hf, h3, h4⟩
end TOKEN2
