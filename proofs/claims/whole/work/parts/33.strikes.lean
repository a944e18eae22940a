/-! strikes -/
theorem mRoll_ge {K : Nat → Nat} {W H T O : Nat} : ∀ (n k d t : Nat), t ≤ (mRoll K W H T O n k d t).2.2
  | 0, k, d, t => Nat.le_refl _
  | n + 1, k, d, t => by
    unfold mRoll
    split
    · have := mRoll_ge (K := K) (W := W) (H := H) (T := T) (O := O) n k ((d + 2) % 4) (t + 1)
      omega
    · split
      · dsimp only; omega
      · split
        · dsimp only; omega
        · next p _ _ _ =>
          have := mRoll_ge (K := K) (W := W) (H := H) (T := T) (O := O) n p d (t + 1)
          omega
/-- player p is done -/
def mEnds (G : mG) (s : mY) (p pts : Nat) : mY := (s.t, (if p + 1 < G.P then G.te else none), 0, (if p + 1 < G.P then some (p + 1) else none), fun q => if q = p then pts else s.sc q, s.y)
theorem mEnds_w {G : mG} {s : mY} {p pts : Nat} (hs : mYw G s) (hg : mGw G) (hte : ¬ G.te = none) (hp7 : pts ≤ 7) (ht : s.t ≤ 99999) : mYw G (mEnds G s p pts) := by
  obtain ⟨-, s2, s3, s4, s5, s6, s7⟩ := hs
  refine ⟨ht, fun c hc => ?_, ⟨?_, fun q => absurd q hte⟩, fun q hq => ?_, Nat.zero_le _, fun q => ?_, s7⟩
  · have hc : (if p + 1 < G.P then G.te else none) = some c := hc
    split at hc
    · exact hg.2.2.2.2.2.1 c hc
    · cases hc
  · show (if p + 1 < G.P then G.te else none) = none ↔ (if p + 1 < G.P then some (p + 1) else none) = none
    split
    · exact ⟨fun q => absurd q hte, fun q => by cases q⟩
    · exact Iff.rfl
  · have hq : (if p + 1 < G.P then some (p + 1) else none) = some q := hq
    split at hq
    · cases hq; assumption
    · cases hq
  · show (if q = p then pts else s.sc q) ≤ 7
    split
    · exact hp7
    · exact s6 q
section STRIKES
variable {S : mS}
theorem S16 {G : mG} {s : mY} {I : mF} {L : mFL} {b : Bool} (hl : mXL G b I) (hp : mXY s 8 I L) (hg : mGw G) {p pts : Nat} (hon : s.on = some p) (hpP : p < G.P) : ∃ I' : mF, mFn S 16 [.ref 8, .int (nI pts), .ref (mLa b)] (mSH, I, L, mRk b) none (mSH, I', L, mRk b) ∧ mXY (mEnds G s p pts) 8 I' L ∧ ∀ a, a ≠ 8 → a ≠ 9 → I' a = I a := by
  have hP4 := hg.2.2.2.2.1.2
  obtain ⟨y0, y1, y2, y3, y4, y5⟩ := hp
  have e3 : I 8 3 = nI p := by rw [y3, hon]; rfl
  have lP : I (mLa b) 4 = nI G.P := hl.2.2.2.2.1
  have lT : I (mLa b) 5 = mOe G.te := hl.2.2.2.2.2.1
  have n8 : mLa b ≠ 8 := by cases b <;> decide
  have n9 : mLa b ≠ 9 := by cases b <;> decide
  have fin : ∀ (v1 v3 : Int32), v1 = mOe (mEnds G s p pts).ba → v3 = mOe (mEnds G s p pts).on → mXY (mEnds G s p pts) 8 (m_up (m_up (m_up (m_up I 9 p (nI pts)) 8 3 v3) 8 1 v1) 8 2 0) L := by
    intro v1 v3 h1 h3
    refine ⟨?_, ?_, m_us, ?_, fun q hq => ?_, y5⟩
    · rw [m_un (by decide), m_un (by decide), m_un (by decide), m_ux (by decide)]
      exact y0
    · rw [m_un (by decide), m_us]
      exact h1
    · rw [m_un (by decide), m_un (by decide), m_us]
      exact h3
    · rw [m_ux (by decide), m_ux (by decide), m_ux (by decide)]
      show m_up I 9 p (nI pts) 9 q = nI (if q = p then pts else s.sc q)
      by_cases e : q = p
      · subst e
        rw [m_us, if_pos rfl]
      · rw [m_un e, if_neg e]
        exact y4 q hq
  have frm : ∀ (v1 v3 : Int32) (a : Nat), a ≠ 8 → a ≠ 9 → m_up (m_up (m_up (m_up I 9 p (nI pts)) 8 3 v3) 8 1 v1) 8 2 0 a = I a := fun v1 v3 a h8 h9 => by rw [m_up_ne h8, m_up_ne h8, m_up_ne h8, m_up_ne h9]
  have key : mWp S 16 0 [some (.ref 8), some (.int (nI pts)), some (.ref (mLa b)), none] [] (mSH, I, L, mRk b) (fun r2 w2 => ∃ I' : mF, r2 = none ∧ w2 = (mSH, I', L, mRk b) ∧ mXY (mEnds G s p pts) 8 I' L ∧ ∀ a, a ≠ 8 → a ≠ 9 → I' a = I a) := by
    refine k16_0 (fun q => ?_) (fun _ => k16_7 (fun q => ?_) (fun _ => k16_15 ?_ ?_))
    · rw [e3] at q
      exact absurd q (nI_pos (by omega))
    · rw [e3, show (4 : Int32) = nI 4 from rfl, nI_leI (by decide) (by omega)] at q
      omega
    · rw [e3]
      exact m_okN (by omega) (by decide)
    · rw [e3, nI_clamp (by omega)]
      have f3 : m_up I 9 p (nI pts) 8 3 = nI p := by rw [m_ux (by decide)]; exact e3
      refine k16_25 (fun q => k16_42 (k16_43 (fun _ => k16_58 (k16_60 (fun _ => k16_75 (k16_77 ⟨_, rfl, rfl, fin _ _ ?_ ?_, frm _ _⟩)) (fun q => absurd rfl q))) (fun q => absurd rfl q))) (fun q => k16_38 (k16_43 (fun q => absurd q (by decide)) (fun _ => k16_49 (k16_60 (fun q => absurd q (by decide)) (fun _ => k16_68 (k16_77 ⟨_, rfl, rfl, fin _ _ ?_ ?_, frm _ _⟩))))))
      · rw [f3, nI_1, m_ux n9, lP, nI_leI (by omega) (by omega)] at q
        show (-9 : Int32) = mOe (if p + 1 < G.P then G.te else none)
        rw [if_neg (by omega)]
        rfl
      · rw [f3, nI_1, m_ux n9, lP, nI_leI (by omega) (by omega)] at q
        show (-9 : Int32) = mOe (if p + 1 < G.P then some (p + 1) else none)
        rw [if_neg (by omega)]
        rfl
      · rw [f3, nI_1, m_ux n9, lP, nI_leI (by omega) (by omega)] at q
        rw [m_ux n8, m_ux n9, lT]
        show mOe G.te = mOe (if p + 1 < G.P then G.te else none)
        rw [if_pos (by omega)]
      · rw [f3, nI_1, m_ux n9, lP, nI_leI (by omega) (by omega)] at q
        rw [f3, nI_1]
        show nI (p + 1) = mOe (if p + 1 < G.P then some (p + 1) else none)
        rw [if_pos (by omega)]
        rfl
  obtain ⟨r, w1, hf, I', rfl, rfl, h1, h2⟩ := ex16 key
  exact ⟨I', hf, h1, h2⟩
theorem S113 {G : mG} {s : mY} {I : mF} {L : mFL} {b : Bool} (hl : mML G I) (hp : mMY G s 45 0 I) (hg : mGw G) {p pts : Nat} (hon : s.on = some p) (hpP : p < G.P) (h7 : pts ≤ 7) : ∃ I' : mF, mFn S 113 [.ref 44, .int (nI pts)] (mSH, I, L, mRk b) none (mSH, I', L, mRk b) ∧ mMY G (mEnds G s p pts) 45 0 I' ∧ ∀ a, a ≠ 45 → I' a = I a := by
  have hP4 := hg.2.2.2.2.1.2
  obtain ⟨y0, y1, y2, y3, y4, y5⟩ := hp
  have e1 : I 45 1 = nI p := by
    have : I 45 1 = mOe s.on := y1
    rw [this, hon]
    rfl
  have e1' : I 45 ((1 : Int32).toNatClampNeg) = nI p := e1
  have lP : I 44 4 = nI G.P := hl.2.2.2.2.1
  have lT : I 44 5 = mOe G.te := hl.2.2.2.2.2
  have e4 : (4 + nI p : Int32) = nI (4 + p) := nI_add 4 p
  have fin : ∀ (v1 v2 : Int32), v1 = mOe (mEnds G s p pts).on → v2 = mOe (mEnds G s p pts).ba → mMY G (mEnds G s p pts) 45 0 (m_up (m_up (m_up (m_up I 45 (4 + p) (nI pts)) 45 1 v1) 45 2 v2) 45 3 0) := by
    intro v1 v2 h1 h2
    refine ⟨?_, ?_, ?_, m_us, fun q hq => ?_, fun c hc => ?_⟩
    · rw [m_un (by decide), m_un (by decide), m_un (by decide), m_un (by omega)]
      exact y0
    · rw [m_un (by decide), m_un (by decide), m_us]
      exact h1
    · rw [m_un (by decide), m_us]
      exact h2
    · rw [Nat.zero_add, m_un (by omega), m_un (by omega), m_un (by omega)]
      show m_up I 45 (4 + p) (nI pts) 45 (4 + q) = nI (if q = p then pts else s.sc q)
      by_cases e : q = p
      · subst e
        rw [m_us, if_pos rfl]
      · rw [m_un (by omega), if_neg e]
        have := y4 q hq
        rw [Nat.zero_add] at this
        exact this
    · have := y5 c hc
      rw [Nat.zero_add] at this ⊢
      rw [m_un (by omega), m_un (by omega), m_un (by omega), m_un (by omega)]
      exact this
  have frm : ∀ (v1 v2 : Int32) (a : Nat), a ≠ 45 → m_up (m_up (m_up (m_up I 45 (4 + p) (nI pts)) 45 1 v1) 45 2 v2) 45 3 0 a = I a := fun v1 v2 a h => by rw [m_up_ne h, m_up_ne h, m_up_ne h, m_up_ne h]
  have key : mWp S 113 0 [some (.ref 44), some (.int (nI pts))] [] (mSH, I, L, mRk b) (fun r2 w2 => ∃ I' : mF, r2 = none ∧ w2 = (mSH, I', L, mRk b) ∧ mMY G (mEnds G s p pts) 45 0 I' ∧ ∀ a, a ≠ 45 → I' a = I a) := by
    have f1 : (m_up I 45 (4 + p) (nI pts)) 45 ((1 : Int32).toNatClampNeg) = nI p := by
      show m_up I 45 (4 + p) (nI pts) 45 1 = nI p
      rw [m_un (by omega)]
      exact e1
    refine k113_0 (fun _ => k113_23 (k113_24 ?_ (fun q => ?_) (fun q => ?_))) (fun q => ?_)
    · rw [e1', e4]
      exact m_okN (by omega) (by decide)
    · rw [e1', e4, nI_clamp (by omega), f1, nI_1, lP, nI_eq (by omega) (by omega)] at q
      rw [e1', e4, nI_clamp (by omega)]
      refine k113_45 (k113_58 (by decide) (fun q2 => absurd (show (0 : Int32) ≤ -9 from q2) (by decide)) (fun _ => k113_73 (k113_82 (by decide) ⟨_, rfl, rfl, fin (-9) (-9) ?_ ?_, frm _ _⟩)))
      · show (-9 : Int32) = mOe (if p + 1 < G.P then some (p + 1) else none)
        rw [if_neg (by omega)]
        rfl
      · show (-9 : Int32) = mOe (if p + 1 < G.P then G.te else none)
        rw [if_neg (by omega)]
        rfl
    · rw [e1', e4, nI_clamp (by omega), f1, nI_1, lP, nI_eq (by omega) (by omega)] at q
      rw [e1', e4, nI_clamp (by omega)]
      refine k113_50 ?_
      rw [f1, nI_1]
      refine k113_58 (by decide) (fun _ => k113_78 (k113_82 (by decide) ⟨_, rfl, rfl, fin (nI (p + 1)) _ ?_ ?_, frm _ _⟩)) (fun q2 => absurd (show (0 : Int32) ≤ nI (p + 1) from nI_pos' (by omega)) q2)
      · show nI (p + 1) = mOe (if p + 1 < G.P then some (p + 1) else none)
        rw [if_pos (by omega)]
        rfl
      · show I 44 5 = mOe (if p + 1 < G.P then G.te else none)
        rw [if_pos (by omega)]
        exact lT
    · rw [show (7 : Int32) = nI 7 from rfl, nI_leI (by omega) (by decide)] at q
      exact absurd h7 q
  obtain ⟨r, w1, hf, I', rfl, rfl, h1, h2⟩ := ex113 key
  exact ⟨I', hf, h1, h2⟩
end STRIKES
