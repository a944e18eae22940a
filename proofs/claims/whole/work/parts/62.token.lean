/-! the words of a text -/
def mSkp (f : Nat → Nat) : Nat → Nat → Nat
  | 0, p => p
  | m + 1, p => if f p = 32 then mSkp f m (p + 1) else p
def mDig (f : Nat → Nat) : Nat → Nat → Nat → Nat × Nat
  | 0, p, v => (p, v)
  | m + 1, p, v => if 48 ≤ f p ∧ f p ≤ 57 then mDig f m (p + 1) (min 100 (10 * v + (f p - 48))) else (p, v)
/-- start, kind (0 end, 1 letter, 2 number, 3 stop, 4 bad), value, behind -/
abbrev mWd : Type := Nat × Nat × Nat × Nat
def mTok (tx : mTx) (p : Nat) : mWd :=
  if tx.1 ≤ mSkp tx.2 (tx.1 - p) p then (mSkp tx.2 (tx.1 - p) p, 0, 0, mSkp tx.2 (tx.1 - p) p)
  else if 48 ≤ tx.2 (mSkp tx.2 (tx.1 - p) p) ∧ tx.2 (mSkp tx.2 (tx.1 - p) p) ≤ 57 then
    (mSkp tx.2 (tx.1 - p) p, (if 99 < (mDig tx.2 (tx.1 - mSkp tx.2 (tx.1 - p) p) (mSkp tx.2 (tx.1 - p) p) 0).2 ∨ (tx.2 (mSkp tx.2 (tx.1 - p) p) = 48 ∧ mSkp tx.2 (tx.1 - p) p + 1 < (mDig tx.2 (tx.1 - mSkp tx.2 (tx.1 - p) p) (mSkp tx.2 (tx.1 - p) p) 0).1) then 4 else 2), (mDig tx.2 (tx.1 - mSkp tx.2 (tx.1 - p) p) (mSkp tx.2 (tx.1 - p) p) 0).2, (mDig tx.2 (tx.1 - mSkp tx.2 (tx.1 - p) p) (mSkp tx.2 (tx.1 - p) p) 0).1)
  else (mSkp tx.2 (tx.1 - p) p, (if 97 ≤ tx.2 (mSkp tx.2 (tx.1 - p) p) ∧ tx.2 (mSkp tx.2 (tx.1 - p) p) ≤ 122 then 1 else if tx.2 (mSkp tx.2 (tx.1 - p) p) = 59 then 3 else 4), tx.2 (mSkp tx.2 (tx.1 - p) p), mSkp tx.2 (tx.1 - p) p + 1)
theorem mSkp_le {f : Nat → Nat} : ∀ m p, p ≤ mSkp f m p ∧ mSkp f m p ≤ p + m
  | 0, p => ⟨Nat.le_refl _, Nat.le_refl _⟩
  | m + 1, p => by
    have ih := mSkp_le (f := f) m (p + 1)
    rw [mSkp]
    split <;> omega
theorem mDig_le {f : Nat → Nat} : ∀ m p v, v ≤ 100 → p ≤ (mDig f m p v).1 ∧ (mDig f m p v).1 ≤ p + m ∧ (mDig f m p v).2 ≤ 100
  | 0, p, v, h => ⟨Nat.le_refl _, Nat.le_refl _, h⟩
  | m + 1, p, v, h => by
    have ih := mDig_le (f := f) m (p + 1) (min 100 (10 * v + (f p - 48))) (Nat.min_le_left _ _)
    rw [mDig]
    split
    · omega
    · exact ⟨Nat.le_refl _, by dsimp only; omega, h⟩
theorem mDig_1 {f : Nat → Nat} {m p v : Nat} (hm : 0 < m) (h : 48 ≤ f p ∧ f p ≤ 57) : p + 1 ≤ (mDig f m p v).1 := by
  obtain ⟨k, rfl⟩ : ∃ k, m = k + 1 := ⟨m - 1, by omega⟩
  rw [mDig, if_pos h]
  exact (mDig_le k (p + 1) _ (Nat.min_le_left _ _)).1
theorem mTok_le {tx : mTx} {p : Nat} (hp : p ≤ tx.1) : p ≤ (mTok tx p).1 ∧ (mTok tx p).1 ≤ tx.1 ∧ (mTok tx p).1 ≤ (mTok tx p).2.2.2 ∧ (mTok tx p).2.2.2 ≤ tx.1 ∧ (¬ (mTok tx p).2.1 = 0 → (mTok tx p).1 < tx.1 ∧ (mTok tx p).1 + 1 ≤ (mTok tx p).2.2.2) := by
  have h1 := mSkp_le (f := tx.2) (tx.1 - p) p
  unfold mTok
  split
  · next h =>
    refine ⟨h1.1, by dsimp only; omega, Nat.le_refl _, by dsimp only; omega, fun q => absurd rfl q⟩
  · next h =>
    split
    · next h2 =>
      have h3 := mDig_le (f := tx.2) (tx.1 - mSkp tx.2 (tx.1 - p) p) (mSkp tx.2 (tx.1 - p) p) 0 (by decide)
      have h4 := mDig_1 (f := tx.2) (m := tx.1 - mSkp tx.2 (tx.1 - p) p) (v := 0) (by omega) h2
      refine ⟨h1.1, by dsimp only; omega, by dsimp only; omega, by dsimp only; omega, fun _ => ⟨by dsimp only; omega, by dsimp only; omega⟩⟩
    · refine ⟨h1.1, by dsimp only; omega, by dsimp only; omega, by dsimp only; omega, fun _ => ⟨by dsimp only; omega, by dsimp only; omega⟩⟩
def mTc (T : mWd) : Int32 := if T.2.1 = 0 then -1 else if T.2.1 = 1 then nI T.2.2.1 else if T.2.1 = 2 then -3 else if T.2.1 = 3 then 59 else -2
/-- a word read, in the class, in the reference -/
def mTkX (T : mWd) (I : mF) : Prop := I 2 2 = nI T.2.2.2 ∧ I 2 3 = nI T.1 ∧ I 2 4 = mTc T ∧ (T.2.1 = 2 → I 2 5 = nI T.2.2.1)
def mTkM (T : mWd) (I : mF) : Prop := I 44 16 = nI T.2.2.2 ∧ I 44 17 = nI T.1 ∧ I 44 18 = nI T.2.1 ∧ (T.2.1 = 1 ∨ T.2.1 = 2 → I 44 19 = nI T.2.2.1)
def mXr (I I' : mF) : Prop := ∀ a k, ¬ (a = 2 ∧ (k = 2 ∨ k = 3 ∨ k = 4 ∨ k = 5)) → I' a k = I a k
def mMr (I I' : mF) : Prop := ∀ a k, ¬ (a = 44 ∧ 16 ≤ k ∧ k ≤ 19) → I' a k = I a k
theorem mXr.rf {I : mF} : mXr I I := fun _ _ _ => rfl
theorem mMr.rf {I : mF} : mMr I I := fun _ _ _ => rfl
theorem mXr.tr {I I1 I2 : mF} (h : mXr I I1) (h2 : mXr I1 I2) : mXr I I2 := fun a k q => (h2 a k q).trans (h a k q)
theorem mMr.tr {I I1 I2 : mF} (h : mMr I I1) (h2 : mMr I1 I2) : mMr I I2 := fun a k q => (h2 a k q).trans (h a k q)
theorem mXr.up {I I1 : mF} {j : Nat} {v : Int32} (h : mXr I I1) (hj : j = 2 ∨ j = 3 ∨ j = 4 ∨ j = 5) : mXr I (m_up I1 2 j v) := fun a k q => by
  rw [← h a k q]
  by_cases e : a = 2
  · subst e
    exact m_un (fun z => q ⟨rfl, z ▸ hj⟩)
  · exact m_ux e
theorem mMr.up {I I1 : mF} {j : Nat} {v : Int32} (h : mMr I I1) (hj : 16 ≤ j ∧ j ≤ 19) : mMr I (m_up I1 44 j v) := fun a k q => by
  rw [← h a k q]
  by_cases e : a = 44
  · subst e
    exact m_un (fun z => q ⟨rfl, z ▸ hj⟩)
  · exact m_ux e
def mTw (tx : mTx) : Prop := tx.1 ≤ 150 ∧ ∀ i, i < tx.1 → tx.2 i < 256
section TOKEN
variable {S : mS} {L : mFL} {b : Bool}
theorem S40 {I : mF} {c : Nat} (hc : c < 256) : mFn S 40 [.int (nI c)] (mSH, I, L, mRk b) (some (.int (if 48 ≤ c ∧ c ≤ 57 then 1 else 0))) (mSH, I, L, mRk b) := by
  refine e40 (k40_0 (fun q => k40_16 (k40_17 (by decide) ⟨?_, rfl⟩)) (fun q => k40_6 (fun q2 => k40_16 (k40_17 (by decide) ⟨?_, rfl⟩)) (fun q2 => k40_12 (k40_17 (by decide) ⟨?_, rfl⟩))))
  · rw [show (48 : Int32) = nI 48 from rfl, nI_ltI (by omega) (by decide)] at q
    rw [if_neg (by omega)]
  · rw [show (57 : Int32) = nI 57 from rfl, nI_ltI (by decide) (by omega)] at q2
    rw [if_neg (by omega)]
  · rw [show (48 : Int32) = nI 48 from rfl, nI_ltI (by omega) (by decide)] at q
    rw [show (57 : Int32) = nI 57 from rfl, nI_ltI (by decide) (by omega)] at q2
    rw [if_pos (by omega)]
theorem mXT.r {tx : mTx} {I I' : mF} (h : mXT tx I) (hr : mXr I I') : mXT tx I' := h.sm (hr 2 1 (by omega)) (funext fun k => hr 3 k (by omega))
theorem S39 {tx : mTx} {I : mF} (hX : mXT tx I) (hw : mTw tx) {p : Nat} (hp : p ≤ tx.1) (h2 : I 2 2 = nI p) :
    ∃ I' : mF, mFn S 39 [.ref 2] (mSH, I, L, mRk b) none (mSH, I', L, mRk b) ∧ mXr I I' ∧ mTkX (mTok tx p) I' := by
  have hN := hw.1
  -- the blanks
  have skip : ∀ (m p : Nat) (J : mF) (Q : Option Value → mW → Prop), p + m = tx.1 → mXr I J → J 2 2 = nI p → (∀ J' : mF, mXr I J' → J' 2 2 = nI (mSkp tx.2 m p) → mWp S 39 38 [some (.ref 2), none, none] [] (mSH, J', L, mRk b) Q) → mWp S 39 0 [some (.ref 2), none, none] [] (mSH, J, L, mRk b) Q := by
    intro m
    induction m with
    | zero =>
      intro p J Q hm hJ hJ2 go
      refine k39_0 (fun _ => go J hJ hJ2) (fun q => ?_)
      rw [(hX.r hJ).1, hJ2, nI_leI (by omega) (by omega)] at q
      omega
    | succ m ih =>
      intro p J Q hm hJ hJ2 go
      have hXJ := hX.r hJ
      have hl := hw.2 p (by omega)
      have el : J 3 ((J 2 2).toNatClampNeg) = nI (tx.2 p) := by rw [hJ2, nI_clamp (by omega), hXJ.2 p (by omega)]
      have c32 : nI (tx.2 p) = 32 ↔ tx.2 p = 32 := nI_eq (by omega) (by decide)
      refine k39_0 (fun q => ?_) (fun _ => k39_11 (by rw [hJ2]; exact m_okN (by omega) (by decide)) (fun q => k39_25 ?_) (fun q => go J hJ ?_))
      · rw [hXJ.1, hJ2, nI_leI (by omega) (by omega)] at q
        omega
      · rw [el, c32] at q
        refine ih (p + 1) _ Q (by omega) (hJ.up (Or.inl rfl)) (by rw [m_us, hJ2, nI_1]) (fun J' a1 a2 => go J' a1 ?_)
        rw [mSkp, if_pos q]
        exact a2
      · rw [el, c32] at q
        rw [mSkp, if_neg q]
        exact hJ2
  -- the figures
  have figs : ∀ (m p v : Nat) (c : Option Value) (J : mF) (Q : Option Value → mW → Prop), p + m = tx.1 → v ≤ 100 → mXr I J → J 2 2 = nI p → J 2 5 = nI v → (∀ J' : mF, mXr I J' → J' 2 3 = J 2 3 → J' 2 2 = nI (mDig tx.2 m p v).1 → J' 2 5 = nI (mDig tx.2 m p v).2 → mWp S 39 192 [some (.ref 2), c, none] [] (mSH, J', L, mRk b) Q) → mWp S 39 124 [some (.ref 2), c, none] [] (mSH, J, L, mRk b) Q := by
    intro m
    induction m with
    | zero =>
      intro p v c J Q hm hv hJ hJ2 hJ5 go
      refine k39_124 (fun _ => go J hJ rfl hJ2 hJ5) (fun q => ?_)
      rw [(hX.r hJ).1, hJ2, nI_leI (by omega) (by omega)] at q
      omega
    | succ m ih =>
      intro p v c J Q hm hv hJ hJ2 hJ5 go
      have hXJ := hX.r hJ
      have hl := hw.2 p (by omega)
      have el : J 3 ((J 2 2).toNatClampNeg) = nI (tx.2 p) := by rw [hJ2, nI_clamp (by omega), hXJ.2 p (by omega)]
      have ok : m_ok (J 2 2) 150 = true := by rw [hJ2]; exact m_okN (by omega) (by decide)
      refine k39_124 (fun q => ?_) (fun _ => k39_135 ok ?_)
      · rw [hXJ.1, hJ2, nI_leI (by omega) (by omega)] at q
        omega
      rw [el]
      refine c39_144 (S40 hl) ?_
      by_cases hd : 48 ≤ tx.2 p ∧ tx.2 p ≤ 57
      · rw [if_pos hd]
        refine k39_147 (fun q => absurd q (by decide)) (fun _ => k39_150 ok ?_)
        have ev : (if ((10 * J 2 5) + J 3 ((J 2 2).toNatClampNeg)) - 48 < 100 then ((10 * J 2 5) + J 3 ((J 2 2).toNatClampNeg)) - 48 else 100) = nI (min 100 (10 * v + (tx.2 p - 48))) := by
          rw [el, hJ5, show (10 : Int32) = nI 10 from rfl, pk_mul, nI_add, show (48 : Int32) = nI 48 from rfl, pk_sub (by omega), show 10 * v + tx.2 p - 48 = 10 * v + (tx.2 p - 48) by omega]
          by_cases z : 10 * v + (tx.2 p - 48) < 100
          · rw [if_pos, Nat.min_eq_right (by omega)]
            rw [show (100 : Int32) = nI 100 from rfl, nI_ltI (by omega) (by decide)]
            exact z
          · rw [if_neg, Nat.min_eq_left (by omega)]
            · rfl
            · rw [show (100 : Int32) = nI 100 from rfl, nI_ltI (by omega) (by decide)]
              exact z
        rw [ev]
        refine ih (p + 1) _ c _ Q (by omega) (Nat.min_le_left _ _) ((hJ.up (by omega)).up (by omega)) (by rw [m_us, hJ2, nI_1]) (by rw [m_un (by decide), m_us]) (fun J' a1 a3 a2 a4 => go J' a1 ?_ ?_ ?_)
        · rw [a3, m_un (by decide), m_un (by decide)]
        · rw [mDig, if_pos hd]
          exact a2
        · rw [mDig, if_pos hd]
          exact a4
      · rw [if_neg hd]
        refine k39_147 (fun _ => go J hJ rfl ?_ ?_) (fun q => absurd rfl q)
        · rw [mDig, if_neg hd]
          exact hJ2
        · rw [mDig, if_neg hd]
          exact hJ5
  have key : mWp S 39 0 [some (.ref 2), none, none] [] (mSH, I, L, mRk b) (fun r2 w2 => ∃ I' : mF, r2 = none ∧ w2 = (mSH, I', L, mRk b) ∧ mXr I I' ∧ mTkX (mTok tx p) I') := by
    refine skip (tx.1 - p) p I _ (by omega) mXr.rf h2 (fun J hJ hJ2 => ?_)
    have hXJ := hX.r hJ
    have hsl := mSkp_le (f := tx.2) (tx.1 - p) p
    unfold mTok
    obtain ⟨s, es⟩ : ∃ s, s = mSkp tx.2 (tx.1 - p) p := ⟨_, rfl⟩
    rw [← es] at hJ2 hsl ⊢
    refine k39_38 (fun q => ?_) (fun q => k39_57 ⟨_, rfl, rfl, (hJ.up (by omega)).up (by omega), ?_⟩)
    · rw [hJ2, hXJ.1, nI_ltI (by omega) (by omega)] at q
      rw [if_neg (by omega)]
      have hl := hw.2 s (by omega)
      have e22 : m_up J 2 3 (J 2 2) 2 2 = nI s := by rw [m_un (by decide), hJ2]
      have el : m_up J 2 3 (J 2 2) 3 ((m_up J 2 3 (J 2 2) 2 2).toNatClampNeg) = nI (tx.2 s) := by rw [e22, nI_clamp (by omega), m_ux (by decide), hXJ.2 s (by omega)]
      have ok : m_ok (m_up J 2 3 (J 2 2) 2 2) 150 = true := by rw [e22]; exact m_okN (by omega) (by decide)
      refine k39_63 ok ?_
      rw [el]
      refine c39_74 (S40 hl) ?_
      by_cases hd : 48 ≤ tx.2 s ∧ tx.2 s ≤ 57
      · rw [if_pos hd, if_pos hd]
        have hdl := mDig_le (f := tx.2) (tx.1 - s) s 0 (by decide)
        refine k39_77 (fun z => absurd z (by decide)) (fun _ => k39_119 (figs (tx.1 - s) s 0 _ _ _ (by omega) (by decide) ((hJ.up (by omega)).up (by omega)) (by rw [m_un (by decide), e22]) m_us (fun J' a1 a3 a2 a5 => ?_)))
        have a3 : J' 2 3 = nI s := by rw [a3, m_un (by decide), m_us, hJ2]
        generalize (mDig tx.2 (tx.1 - s) s 0) = r at *
        have fin : ∀ (x : Int32) (u : Nat) (o1 o2 : Option Value), (x = if u = 2 then -3 else -2) → (u = 2 ∨ u = 4) → (99 < r.2 ∨ (tx.2 s = 48 ∧ s + 1 < r.1) ↔ u = 4) → mWp S 39 238 [some (.ref 2), o1, o2] [.int x, .ref 2] (mSH, J', L, mRk b) (fun r2 w2 => ∃ I' : mF, r2 = none ∧ w2 = (mSH, I', L, mRk b) ∧ mXr I I' ∧ mTkX (s, (if 99 < r.2 ∨ (tx.2 s = 48 ∧ s + 1 < r.1) then 4 else 2), r.2, r.1) I') := by
          intro x u o1 o2 hx hu hi
          refine k39_238 ⟨_, rfl, rfl, a1.up (by omega), ?_, ?_, ?_, ?_⟩
          · rw [m_un (by decide)]
            exact a2
          · rw [m_un (by decide)]
            exact a3
          · rw [m_us, hx]
            rcases hu with rfl | rfl
            · rw [if_neg (fun z => absurd (hi.mp z) (by decide))]
              rfl
            · rw [if_pos (hi.mpr rfl)]
              rfl
          · intro _
            rw [m_un (by decide)]
            exact a5
        have lead : ∀ o1, ¬ (tx.2 s = 48 ∧ s + 1 < r.1) → mWp S 39 215 [some (.ref 2), o1, none] [] (mSH, J', L, mRk b) (fun r2 w2 => ∃ I' : mF, r2 = none ∧ w2 = (mSH, I', L, mRk b) ∧ mXr I I' ∧ mTkX (s, (if 99 < r.2 ∨ (tx.2 s = 48 ∧ s + 1 < r.1) then 4 else 2), r.2, r.1) I') := by
          intro o1 hz
          refine k39_215 (k39_216 (fun _ => k39_222 (fun z => k39_236 (fin _ 2 _ _ rfl (Or.inl rfl) ?_)) (fun z => k39_231 (fin _ 4 _ _ rfl (Or.inr rfl) ?_))) (fun z => absurd rfl z))
          · rw [a5, show (99 : Int32) = nI 99 from rfl, nI_leI (by omega) (by decide)] at z
            exact ⟨fun w => by omega, fun w => by omega⟩
          · rw [a5, show (99 : Int32) = nI 99 from rfl, nI_leI (by omega) (by decide)] at z
            exact ⟨fun _ => rfl, fun _ => Or.inl (by omega)⟩
        refine k39_192 (fun z => k39_198 (fun z2 => lead _ ?_) (fun z2 => k39_211 (k39_216 (fun w => absurd w (by decide)) (fun _ => k39_231 (fin _ 4 _ _ rfl (Or.inr rfl) ?_))))) (fun z => lead _ ?_)
        · rw [a2, a3, nI_1, nI_leI (by omega) (by omega)] at z2
          omega
        · rw [a2, a3, nI_1, nI_leI (by omega) (by omega)] at z2
          rw [show (48 : Int32) = nI 48 from rfl, nI_eq (by omega) (by decide)] at z
          exact ⟨fun _ => rfl, fun _ => Or.inr ⟨z, by omega⟩⟩
        · rw [show (48 : Int32) = nI 48 from rfl, nI_eq (by omega) (by decide)] at z
          exact fun w => z w.1
      · rw [if_neg hd, if_neg hd]
        have fin : ∀ (x : Int32) (u : Nat) (o1 o2 : Option Value), (x = mTc (s, u, tx.2 s, s + 1)) → ((if 97 ≤ tx.2 s ∧ tx.2 s ≤ 122 then 1 else if tx.2 s = 59 then 3 else 4) = u) → mWp S 39 115 [o1, o2, none] [.int x, .ref 2] (mSH, m_up (m_up J 2 3 (J 2 2)) 2 2 ((m_up J 2 3 (J 2 2) 2 2) + 1), L, mRk b) (fun r2 w2 => ∃ I' : mF, r2 = none ∧ w2 = (mSH, I', L, mRk b) ∧ mXr I I' ∧ mTkX (s, (if 97 ≤ tx.2 s ∧ tx.2 s ≤ 122 then 1 else if tx.2 s = 59 then 3 else 4), tx.2 s, s + 1) I') := by
          intro x u o1 o2 hx hu
          rw [hu]
          refine k39_115 ⟨_, rfl, rfl, ((hJ.up (by omega)).up (by omega)).up (by omega), ?_, ?_, ?_, ?_⟩
          · rw [m_un (by decide), m_us, e22, nI_1]
          · rw [m_un (by decide), m_un (by decide), m_us, hJ2]
          · rw [m_us, hx]
          · intro z
            have z : u = 2 := z
            split at hu
            · omega
            · split at hu <;> omega
        have c59 : nI (tx.2 s) = 59 ↔ tx.2 s = 59 := nI_eq (by omega) (by decide)
        have not : ¬ (97 ≤ tx.2 s ∧ tx.2 s ≤ 122) → mWp S 39 103 [some (.ref 2), some (.int (nI (tx.2 s))), none] [.ref 2] (mSH, m_up (m_up J 2 3 (J 2 2)) 2 2 ((m_up J 2 3 (J 2 2) 2 2) + 1), L, mRk b) (fun r2 w2 => ∃ I' : mF, r2 = none ∧ w2 = (mSH, I', L, mRk b) ∧ mXr I I' ∧ mTkX (s, (if 97 ≤ tx.2 s ∧ tx.2 s ≤ 122 then 1 else if tx.2 s = 59 then 3 else 4), tx.2 s, s + 1) I') := by
          intro hz
          refine k39_103 (fun z => k39_109 (fin _ 3 _ _ ?_ ?_)) (fun z => k39_113 (fin _ 4 _ _ rfl ?_))
          · rw [z]
            rfl
          · rw [if_neg hz, if_pos (c59.mp z)]
          · rw [if_neg hz, if_neg (fun w => z (c59.mpr w))]
        refine k39_77 (fun _ => k39_80 (fun z => not ?_) (fun z => k39_97 (fun z2 => k39_109 (fin _ 1 _ _ rfl ?_)) (fun z2 => not ?_))) (fun z => absurd rfl z)
        · rw [show (97 : Int32) = nI 97 from rfl, nI_ltI (by omega) (by decide)] at z
          omega
        · rw [show (97 : Int32) = nI 97 from rfl, nI_ltI (by omega) (by decide)] at z
          rw [show (122 : Int32) = nI 122 from rfl, nI_leI (by omega) (by decide)] at z2
          rw [if_pos (by omega)]
        · rw [show (122 : Int32) = nI 122 from rfl, nI_leI (by omega) (by decide)] at z2
          omega
    · rw [hJ2, hXJ.1, nI_ltI (by omega) (by omega)] at q
      rw [if_pos (by omega)]
      refine ⟨?_, ?_, m_us, fun z => absurd (show (0 : Nat) = 2 from z) (by decide)⟩
      · rw [m_un (by decide), m_un (by decide)]
        exact hJ2
      · rw [m_un (by decide), m_us]
        exact hJ2
  obtain ⟨r, w1, hf, I', rfl, rfl, h3, h4⟩ := ex39 key
  exact ⟨I', hf, h3, h4⟩
end TOKEN
