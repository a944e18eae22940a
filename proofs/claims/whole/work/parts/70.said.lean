/-! the reference's items -/
def mGr (I I' : mF) : Prop := ∀ a k, ¬ (a = 44 ∧ 16 ≤ k ∧ k ≤ 28 ∧ ¬ k = 21) → a ≠ 51 → I' a k = I a k
theorem mGr.rf {I : mF} : mGr I I := fun _ _ _ _ => rfl
theorem mGr.tr {I I1 I2 : mF} (h : mGr I I1) (h2 : mGr I1 I2) : mGr I I2 := fun a k q1 q2 => (h2 a k q1 q2).trans (h a k q1 q2)
theorem mGr.mr {I I1 I2 : mF} (h : mGr I I1) (h2 : mMr I1 I2) : mGr I I2 := fun a k q1 q2 => (h2 a k (by omega)).trans (h a k q1 q2)
theorem mGr.u {I I1 : mF} {j : Nat} {v : Int32} (h : mGr I I1) (hj : 16 ≤ j ∧ j ≤ 28 ∧ ¬ j = 21) : mGr I (m_up I1 44 j v) := fun a k q1 q2 => by
  rw [← h a k q1 q2]
  by_cases e : a = 44
  · subst e
    exact m_un (fun z => q1 ⟨rfl, z ▸ hj⟩)
  · exact m_ux e
theorem mGr.c {I I1 : mF} {j : Nat} {v : Int32} (h : mGr I I1) : mGr I (m_up I1 51 j v) := fun a k q1 q2 => by
  rw [← h a k q1 q2]
  exact m_ux q2
theorem mMT.gr {tx : mTx} {I I' : mF} (h : mMT tx I) (hr : mGr I I') : mMT tx I' := h.sm (hr 44 15 (by omega) (by decide)) (funext fun k => hr 50 k (by omega) (by decide))
/-- what is said so far, x cells of a row being read -/
def mDM (D : mDd) (x : Nat) (I : mF) : Prop := I 44 22 = nI D.W ∧ I 44 23 = nI D.R ∧ I 44 24 = nI D.tu ∧ I 44 25 = nI D.op ∧ I 44 26 = nI D.pl ∧ I 44 27 = mOe D.te ∧ I 44 28 = mU D.ho ∧ ∀ k, k < 49 → (mOn D.W D.R k ∨ (k / 7 = D.R ∧ k % 7 < x)) → I 51 k = nI (D.K k)
theorem mDM.mr {D : mDd} {x : Nat} {I I' : mF} (h : mDM D x I) (hr : mMr I I') : mDM D x I' := by
  have e : ∀ k, 20 ≤ k → I' 44 k = I 44 k := fun k hk => hr _ _ (by omega)
  have e1 : ∀ k, I' 51 k = I 51 k := fun k => hr _ _ (by omega)
  unfold mDM
  rw [e 22 (by decide), e 23 (by decide), e 24 (by decide), e 25 (by decide), e 26 (by decide), e 27 (by decide), e 28 (by decide)]
  simp only [e1]
  exact h
theorem mDM.w {D : mDd} {x : Nat} {I : mF} {v : Int32} (h : mDM D x I) : mDM D x (m_up I 44 20 v) := by
  obtain ⟨a0, a1, a2, a3, a4, a5, a6, a7⟩ := h
  refine ⟨?_, ?_, ?_, ?_, ?_, ?_, ?_, fun k hk hm => ?_⟩
  · rw [m_un (by decide)]; exact a0
  · rw [m_un (by decide)]; exact a1
  · rw [m_un (by decide)]; exact a2
  · rw [m_un (by decide)]; exact a3
  · rw [m_un (by decide)]; exact a4
  · rw [m_un (by decide)]; exact a5
  · rw [m_un (by decide)]; exact a6
  · rw [m_ux (by decide)]; exact a7 k hk hm
theorem mTkM.w {T : mWd} {I : mF} {j : Nat} {v : Int32} (h : mTkM T I) (hj : 20 ≤ j) : mTkM T (m_up I 44 j v) := by
  obtain ⟨a0, a1, a2, a3⟩ := h
  refine ⟨?_, ?_, ?_, fun z => ?_⟩
  · rw [m_un (by omega)]; exact a0
  · rw [m_un (by omega)]; exact a1
  · rw [m_un (by omega)]; exact a2
  · rw [m_un (by omega)]; exact a3 z
theorem m_inh {v lo h : Nat} (hv : v < 1000) (hl : lo < 1000) (hh : h < 1000) : mIn (nI v) (nI lo) (nI h - 1) = if lo ≤ v ∧ v < h then 1 else 0 := by
  unfold mIn
  by_cases q : v < lo
  · rw [if_pos ((nI_ltI (by omega) (by omega)).mpr q), if_neg (by omega)]
  · rw [if_neg (fun z => q ((nI_ltI (by omega) (by omega)).mp z))]
    by_cases q2 : h ≤ v
    · rw [if_pos ((m_hm1 (by omega) (by omega)).mpr q2), if_neg (by omega)]
    · rw [if_neg (fun z => q2 ((m_hm1 (by omega) (by omega)).mp z)), if_pos (by omega)]
section SAID
variable {S : mS} {L : mFL} {b : Bool}
theorem S97w {I : mF} {x y : Int32} (h20 : I 44 20 = 1) : mFn S 97 [.ref 44, .int x, .int y] (mSH, I, L, mRk b) (some (.int 0)) (mSH, m_up I 44 20 1, L, mRk b) := by
  refine e97 (k97_0 (fun q => ?_) (fun _ => k97_31 (k97_32 (fun _ => k97_38 (k97_43 (by decide) (fun _ => k97_60 (fun _ => k97_69 (k97_70 ⟨rfl, rfl⟩)) (fun q => absurd rfl q)) (fun q => absurd rfl q))) (fun q => absurd rfl q))))
  rw [h20] at q
  exact absurd q (by decide)
theorem S97 {tx : mTx} {p : Nat} {I : mF} {lo h : Nat} (hX : mMT tx I) (hw : mTw tx) (hp : p ≤ tx.1) (ht : mTkM (mTok tx p) I) (h20 : I 44 20 = 0) (hl : lo < 1000) (hh : h < 1000) :
    ∃ I' : mF, mFn S 97 [.ref 44, .int (nI lo), .int (nI h - 1)] (mSH, I, L, mRk b) (some (.int (if mNb2 (mTok tx p) lo h = true then nI (mTok tx p).v else 0))) (mSH, I', L, mRk b) ∧ mMr (m_up I 44 20 (if mNb2 (mTok tx p) lo h = true then 0 else 1)) I' ∧ (mNb2 (mTok tx p) lo h = true → mTkM (mTok tx (mTok tx p).bh) I') ∧ (mNb2 (mTok tx p) lo h = false → I' 44 17 = nI (mTok tx p).st) := by
  have hv := mTok_2 (tx := tx) (p := p)
  have hk4 := mTok_k (tx := tx) (p := p)
  have ck : nI (mTok tx p).kd = 2 ↔ (mTok tx p).kd = 2 := nI_eq (by omega) (by decide)
  have e18 : I 44 18 = nI (mTok tx p).kd := ht.2.2.1
  cases hb : mNb2 (mTok tx p) lo h with
  | true =>
    obtain ⟨hk2, hlo, hhi⟩ := mNb2_t.mp hb
    have e19 : I 44 19 = nI (mTok tx p).v := ht.2.2.2 (Or.inr hk2)
    have hv := hv hk2
    have ei : mIn (I 44 19) (nI lo) (nI h - 1) = 1 := by rw [e19, m_inh (by omega) hl hh, if_pos ⟨hlo, hhi⟩]
    have hp1 : (mTok tx p).bh ≤ tx.1 := (mTok_le hp).2.2.2.1
    have hX2 : mMT tx (m_up I 44 20 0) := hX.gr (mGr.rf.u (by decide))
    obtain ⟨I', f, hr, t1⟩ := S96 (S := S) (L := L) (b := b) hX2 hw hp1 (by rw [m_un (by decide)]; exact ht.1)
    refine ⟨I', e97 (k97_0 (fun _ => k97_7 (fun _ => k97_15 (c97_21 (S88 _ _ _) ?_)) (fun q => ?_)) (fun q => absurd h20 q)), ?_, fun _ => t1, fun z => absurd z (by decide)⟩
    · rw [ei]
      refine k97_24 (fun q => absurd q (by decide)) (fun _ => k97_27 (k97_32 (fun q => absurd q (by decide)) (fun _ => k97_42 (k97_43 (by decide) (fun q => absurd q (by decide)) (fun _ => k97_56 (c97_57 f (k97_60 (fun q => absurd q (by decide)) (fun _ => k97_64 (k97_70 ⟨?_, rfl⟩)))))))))
      rw [e19, if_pos rfl]
    · rw [e18, ck] at q
      exact absurd hk2 q
    · rw [if_pos rfl]
      exact hr
  | false =>
    have hf := of_decide_eq_false hb
    refine ⟨m_up I 44 20 1, e97 (k97_0 (fun _ => ?_) (fun q => absurd h20 q)), ?_, fun z => absurd z (by decide), fun _ => by rw [m_un (by decide)]; exact ht.2.1⟩
    · rw [if_neg (by decide)]
      have no : mWp S 97 31 [some (.ref 44), some (.int (nI lo)), some (.int (nI h - 1)), none, none] [] (mSH, I, L, mRk b) (fun r2 w2 => r2 = some (.int 0) ∧ w2 = (mSH, m_up I 44 20 1, L, mRk b)) :=
        k97_31 (k97_32 (fun _ => k97_38 (k97_43 (by decide) (fun _ => k97_60 (fun _ => k97_69 (k97_70 ⟨rfl, rfl⟩)) (fun q => absurd rfl q)) (fun q => absurd rfl q))) (fun q => absurd rfl q))
      refine k97_7 (fun q => k97_15 (c97_21 (S88 _ _ _) ?_)) (fun _ => no)
      rw [e18, ck] at q
      have e19 : I 44 19 = nI (mTok tx p).v := ht.2.2.2 (Or.inr q)
      have hv := hv q
      rw [e19, m_inh (by omega) hl hh, if_neg (fun z => hf ⟨q, z.1, z.2⟩)]
      exact k97_24 (fun _ => no) (fun q => absurd rfl q)
    · rw [if_neg (by decide)]
      exact mMr.rf
theorem S98 {I : mF} {c : Nat} (hc : c < 256) : mFn S 98 [.int (nI c)] (mSH, I, L, mRk b) (some (.int (match mKc c with
    | none => -1
    | some q => nI q))) (mSH, I, L, mRk b) := by
  have ce : ∀ k, k < 256 → (nI c = nI k ↔ c = k) := fun k hk => nI_eq (by omega) (by omega)
  have c102 : nI c = 102 ↔ c = 102 := ce 102 (by decide)
  have c104 : nI c = 104 ↔ c = 104 := ce 104 (by decide)
  have c109 : nI c = 109 ↔ c = 109 := ce 109 (by decide)
  have c112 : nI c = 112 ↔ c = 112 := ce 112 (by decide)
  have c120 : nI c = 120 ↔ c = 120 := ce 120 (by decide)
  refine e98 (k98_0 ?_)
  unfold mKc
  by_cases h102 : c = 102
  · rw [if_pos h102, if_pos (c102.mpr h102)]
    exact k98_52 ⟨rfl, rfl⟩
  · rw [if_neg h102, if_neg (fun z => h102 (c102.mp z))]
    by_cases h104 : c = 104
    · rw [if_neg (show ¬ c = 120 by omega), if_neg (show ¬ c = 112 by omega), if_pos h104, if_pos (c104.mpr h104)]
      exact k98_58 ⟨rfl, rfl⟩
    · rw [if_neg (fun z => h104 (c104.mp z)), if_neg h104]
      by_cases h109 : c = 109
      · rw [if_neg (show ¬ c = 120 by omega), if_neg (show ¬ c = 112 by omega), if_pos h109, if_pos (c109.mpr h109)]
        exact k98_60 ⟨rfl, rfl⟩
      · rw [if_neg (fun z => h109 (c109.mp z)), if_neg h109]
        by_cases h112 : c = 112
        · rw [if_neg (show ¬ c = 120 by omega), if_pos h112, if_pos (c112.mpr h112)]
          exact k98_56 ⟨rfl, rfl⟩
        · rw [if_neg (fun z => h112 (c112.mp z)), if_neg h112]
          by_cases h120 : c = 120
          · rw [if_pos h120, if_pos (c120.mpr h120)]
            exact k98_54 ⟨rfl, rfl⟩
          · rw [if_neg (fun z => h120 (c120.mp z)), if_neg h120]
            exact k98_62 ⟨rfl, rfl⟩
/-- the cells of a row -/
theorem S99_loop {tx : mTx} {I : mF} (hX : mMT tx I) (hw : mTw tx) : ∀ (m x : Nat) (D : mDd) (T : mWd) (J : mF) (o2 : Option Value), x + m = D.W → mGr I J → mDM D x J → J 44 20 = 0 → mTkM (mTok tx T.bh) J → T.bh ≤ tx.1 → mDwx D x → D.R < 7 → mWp S 99 2 [some (.ref 44), some (.int (nI x)), o2] [] (mSH, J, L, mRk b) (fun r2 w2 => ∃ I' : mF, r2 = none ∧ w2 = (mSH, I', L, mRk b) ∧ mGr I I' ∧ ((mRw tx m x D T).1 = true → I' 44 20 = 0 ∧ mDM ((mRw tx m x D T).2.1.1, (mRw tx m x D T).2.1.2.1 + 1, (mRw tx m x D T).2.1.2.2) 0 I' ∧ mTkM (mTok tx (mRw tx m x D T).2.2.bh) I') ∧ ((mRw tx m x D T).1 = false → I' 44 20 = 1 ∧ I' 44 17 = nI (mRw tx m x D T).2.2.st)) := by
  intro m
  induction m with
  | zero =>
    intro x D T J o2 hx hJ hD h20 ht hp hd hR
    have hx : x = D.W := by omega
    subst hx
    have hW7 := hd.1
    refine k99_2 (fun _ => k99_115 ⟨_, rfl, rfl, hJ.u (by decide), fun _ => ⟨?_, ?_, ht.w (by decide)⟩, fun z => absurd (show true = false from z) (by decide)⟩) (fun q => ?_)
    · rw [m_un (by decide)]
      exact h20
    · obtain ⟨a0, a1, a2, a3, a4, a5, a6, a7⟩ := hD
      refine ⟨?_, ?_, ?_, ?_, ?_, ?_, ?_, fun k hk hm => ?_⟩
      · rw [m_un (by decide)]; exact a0
      · rw [m_us, a1, nI_1]; rfl
      · rw [m_un (by decide)]; exact a2
      · rw [m_un (by decide)]; exact a3
      · rw [m_un (by decide)]; exact a4
      · rw [m_un (by decide)]; exact a5
      · rw [m_un (by decide)]; exact a6
      · rw [m_ux (by decide)]
        refine a7 k hk ?_
        have hm : (k % 7 < D.W ∧ k / 7 < D.R + 1) ∨ (k / 7 = D.R + 1 ∧ k % 7 < 0) := hm
        rcases hm with z | z
        · by_cases e : k / 7 < D.R
          · exact Or.inl ⟨z.1, e⟩
          · exact Or.inr ⟨by omega, z.1⟩
        · omega
    · rw [hD.1] at q
      exact absurd (Int32.le_refl _) q
  | succ m ih =>
    intro x D T J o2 hx hJ hD h20 ht hp hd hR
    have hW7 := hd.1
    have hk4 := mTok_k (tx := tx) (p := T.bh)
    have hv1 := mTok_1 (tx := tx) (p := T.bh)
    have e18 : J 44 18 = nI (mTok tx T.bh).kd := ht.2.2.1
    have ck : nI (mTok tx T.bh).kd = 1 ↔ (mTok tx T.bh).kd = 1 := nI_eq (by omega) (by decide)
    have hp1 : (mTok tx T.bh).bh ≤ tx.1 := (mTok_le hp).2.2.2.1
    rw [mRw_put]
    -- a cell that is none
    have bad : ∀ o2, (mPut D (mTok tx T.bh) x).1 = false → mWp S 99 54 [some (.ref 44), some (.int (nI x)), o2] [.ref 44] (mSH, J, L, mRk b) (fun r2 w2 => ∃ I' : mF, r2 = none ∧ w2 = (mSH, I', L, mRk b) ∧ mGr I I' ∧ ((if (mPut D (mTok tx T.bh) x).1 = true then mRw tx m (x + 1) (mPut D (mTok tx T.bh) x).2 (mTok tx T.bh) else (false, D, mTok tx T.bh)).1 = true → I' 44 20 = 0 ∧ mDM ((if (mPut D (mTok tx T.bh) x).1 = true then mRw tx m (x + 1) (mPut D (mTok tx T.bh) x).2 (mTok tx T.bh) else (false, D, mTok tx T.bh)).2.1.1, (if (mPut D (mTok tx T.bh) x).1 = true then mRw tx m (x + 1) (mPut D (mTok tx T.bh) x).2 (mTok tx T.bh) else (false, D, mTok tx T.bh)).2.1.2.1 + 1, (if (mPut D (mTok tx T.bh) x).1 = true then mRw tx m (x + 1) (mPut D (mTok tx T.bh) x).2 (mTok tx T.bh) else (false, D, mTok tx T.bh)).2.1.2.2) 0 I' ∧ mTkM (mTok tx (if (mPut D (mTok tx T.bh) x).1 = true then mRw tx m (x + 1) (mPut D (mTok tx T.bh) x).2 (mTok tx T.bh) else (false, D, mTok tx T.bh)).2.2.bh) I') ∧ ((if (mPut D (mTok tx T.bh) x).1 = true then mRw tx m (x + 1) (mPut D (mTok tx T.bh) x).2 (mTok tx T.bh) else (false, D, mTok tx T.bh)).1 = false → I' 44 20 = 1 ∧ I' 44 17 = nI (if (mPut D (mTok tx T.bh) x).1 = true then mRw tx m (x + 1) (mPut D (mTok tx T.bh) x).2 (mTok tx T.bh) else (false, D, mTok tx T.bh)).2.2.st)) := by
      intro o2 hb
      rw [if_neg (show ¬ (mPut D (mTok tx T.bh) x).1 = true by rw [hb]; decide)]
      have fin : ∀ o1 o2, mWp S 99 115 [some (.ref 44), o1, o2] [] (mSH, m_up J 44 20 1, L, mRk b) (fun r2 w2 => ∃ I' : mF, r2 = none ∧ w2 = (mSH, I', L, mRk b) ∧ mGr I I' ∧ ((false, D, mTok tx T.bh).1 = true → I' 44 20 = 0 ∧ mDM ((false, D, mTok tx T.bh).2.1.1, (false, D, mTok tx T.bh).2.1.2.1 + 1, (false, D, mTok tx T.bh).2.1.2.2) 0 I' ∧ mTkM (mTok tx (false, D, mTok tx T.bh).2.2.bh) I') ∧ ((false, D, mTok tx T.bh).1 = false → I' 44 20 = 1 ∧ I' 44 17 = nI (false, D, mTok tx T.bh).2.2.st)) := by
        intro o1 o2
        refine k99_115 ⟨_, rfl, rfl, (hJ.u (by decide)).u (by decide), fun z => absurd (show false = true from z) (by decide), fun _ => ⟨?_, ?_⟩⟩
        · rw [m_un (by decide), m_us]
        · rw [m_un (by decide), m_un (by decide)]
          exact ht.2.1
      refine k99_54 (k99_59 (by decide) (fun q => absurd q (by decide)) (fun _ => k99_109 (k99_2 (fun _ => fin _ _) (fun _ => k99_10 (fun q => ?_) (fun _ => fin _ _)))))
      rw [m_us] at q
      exact absurd q (by decide)
    have start : ∀ {Q : Option Value → mW → Prop}, mWp S 99 17 [some (.ref 44), some (.int (nI x)), o2] [] (mSH, J, L, mRk b) Q → mWp S 99 2 [some (.ref 44), some (.int (nI x)), o2] [] (mSH, J, L, mRk b) Q := by
      intro Q hq
      refine k99_2 (fun q => ?_) (fun _ => k99_10 (fun _ => hq) (fun q => absurd h20 q))
      rw [hD.1, nI_leI (by omega) (by omega)] at q
      omega
    refine start ?_
    by_cases hk1 : (mTok tx T.bh).kd = 1
    · have hv := hv1 hk1
      have e19 : J 44 19 = nI (mTok tx T.bh).v := ht.2.2.2 (Or.inl hk1)
      have ekd : mKd (mTok tx T.bh) = mKc (mTok tx T.bh).v := by unfold mKd; rw [if_pos hk1]
      have f98 := S98 (S := S) (L := L) (b := b) (I := J) (c := (mTok tx T.bh).v) (by omega)
      refine k99_17 (fun _ => k99_25 ?_) (fun q => absurd (by rw [e18]; exact ck.mpr hk1) q)
      rw [e19]
      refine c99_29 f98 (k99_32 ?_)
      cases hkc : mKc (mTok tx T.bh).v with
      | none =>
        refine k99_36 (fun _ => bad _ ?_) (fun q => absurd (by decide) q)
        unfold mPut
        rw [ekd, hkc]
      | some q =>
        have hq5 := mKc_lt hkc
        refine k99_36 (fun z => absurd z (nI_pos (by omega))) (fun _ => ?_)
        have e28 : J 44 28 = mU D.ho := hD.2.2.2.2.2.2.1
        have c3 : nI q = 3 ↔ q = 3 := nI_eq (by omega) (by decide)
        -- a cell
        have good : ¬ (q = 3 ∧ D.ho = true) → ∀ o1 : Option Value, o1 = some (.int (nI x)) → mWp S 99 58 [some (.ref 44), o1, some (.int (nI q))] [.ref 44] (mSH, J, L, mRk b) (fun r2 w2 => ∃ I' : mF, r2 = none ∧ w2 = (mSH, I', L, mRk b) ∧ mGr I I' ∧ ((if (mPut D (mTok tx T.bh) x).1 = true then mRw tx m (x + 1) (mPut D (mTok tx T.bh) x).2 (mTok tx T.bh) else (false, D, mTok tx T.bh)).1 = true → I' 44 20 = 0 ∧ mDM ((if (mPut D (mTok tx T.bh) x).1 = true then mRw tx m (x + 1) (mPut D (mTok tx T.bh) x).2 (mTok tx T.bh) else (false, D, mTok tx T.bh)).2.1.1, (if (mPut D (mTok tx T.bh) x).1 = true then mRw tx m (x + 1) (mPut D (mTok tx T.bh) x).2 (mTok tx T.bh) else (false, D, mTok tx T.bh)).2.1.2.1 + 1, (if (mPut D (mTok tx T.bh) x).1 = true then mRw tx m (x + 1) (mPut D (mTok tx T.bh) x).2 (mTok tx T.bh) else (false, D, mTok tx T.bh)).2.1.2.2) 0 I' ∧ mTkM (mTok tx (if (mPut D (mTok tx T.bh) x).1 = true then mRw tx m (x + 1) (mPut D (mTok tx T.bh) x).2 (mTok tx T.bh) else (false, D, mTok tx T.bh)).2.2.bh) I') ∧ ((if (mPut D (mTok tx T.bh) x).1 = true then mRw tx m (x + 1) (mPut D (mTok tx T.bh) x).2 (mTok tx T.bh) else (false, D, mTok tx T.bh)).1 = false → I' 44 20 = 1 ∧ I' 44 17 = nI (if (mPut D (mTok tx T.bh) x).1 = true then mRw tx m (x + 1) (mPut D (mTok tx T.bh) x).2 (mTok tx T.bh) else (false, D, mTok tx T.bh)).2.2.st)) := by
          intro hno o1 ho1
          subst ho1
          have P : mPut D (mTok tx T.bh) x = (true, (D.W, D.R, D.tu, D.op, D.pl, D.te, (D.ho || decide (q = 3)), mSet D.K (7 * D.R + x) q)) := by
            unfold mPut
            rw [ekd, hkc]
            exact if_neg hno
          have P1 : (mPut D (mTok tx T.bh) x).1 = true := by rw [P]
          obtain ⟨w1, w2, w3⟩ := mPut_wf hd hR (by omega) P1
          rw [if_pos P1]
          rw [P] at w1 w2 w3 ⊢
          have set : ∀ (u : Bool), u = (D.ho || decide (q = 3)) → mWp S 99 87 [some (.ref 44), some (.int (nI x)), some (.int (nI q))] [.int (mU u), .ref 44] (mSH, m_up J 44 20 0, L, mRk b) (fun r2 w2 => ∃ I' : mF, r2 = none ∧ w2 = (mSH, I', L, mRk b) ∧ mGr I I' ∧ ((mRw tx m (x + 1) (true, (D.W, D.R, D.tu, D.op, D.pl, D.te, (D.ho || decide (q = 3)), mSet D.K (7 * D.R + x) q)).2 (mTok tx T.bh)).1 = true → I' 44 20 = 0 ∧ mDM ((mRw tx m (x + 1) (true, (D.W, D.R, D.tu, D.op, D.pl, D.te, (D.ho || decide (q = 3)), mSet D.K (7 * D.R + x) q)).2 (mTok tx T.bh)).2.1.1, (mRw tx m (x + 1) (true, (D.W, D.R, D.tu, D.op, D.pl, D.te, (D.ho || decide (q = 3)), mSet D.K (7 * D.R + x) q)).2 (mTok tx T.bh)).2.1.2.1 + 1, (mRw tx m (x + 1) (true, (D.W, D.R, D.tu, D.op, D.pl, D.te, (D.ho || decide (q = 3)), mSet D.K (7 * D.R + x) q)).2 (mTok tx T.bh)).2.1.2.2) 0 I' ∧ mTkM (mTok tx (mRw tx m (x + 1) (true, (D.W, D.R, D.tu, D.op, D.pl, D.te, (D.ho || decide (q = 3)), mSet D.K (7 * D.R + x) q)).2 (mTok tx T.bh)).2.2.bh) I') ∧ ((mRw tx m (x + 1) (true, (D.W, D.R, D.tu, D.op, D.pl, D.te, (D.ho || decide (q = 3)), mSet D.K (7 * D.R + x) q)).2 (mTok tx T.bh)).1 = false → I' 44 20 = 1 ∧ I' 44 17 = nI (mRw tx m (x + 1) (true, (D.W, D.R, D.tu, D.op, D.pl, D.te, (D.ho || decide (q = 3)), mSet D.K (7 * D.R + x) q)).2 (mTok tx T.bh)).2.2.st)) := by
            intro u hu
            have eat : (7 * m_up J 44 20 0 44 23) + nI x = nI (7 * D.R + x) := by
              rw [m_un (by decide), hD.2.1, show (7 : Int32) = nI 7 from rfl, pk_mul, nI_add]
            refine k99_87 (by cases u <;> decide) (by rw [eat]; exact m_okN (by omega) (by decide)) ?_
            rw [eat, nI_clamp (by omega)]
            have hg : mGr I (m_up (m_up (m_up J 44 20 0) 44 28 (mU u)) 51 (7 * D.R + x) (nI q)) := ((hJ.u (by decide)).u (by decide)).c
            obtain ⟨I1, f1, r1, t1⟩ := S96 (S := S) (L := L) (b := b) (hX.gr hg) hw hp1 (by rw [m_ux (by decide), m_un (by decide), m_un (by decide)]; exact ht.1)
            refine c99_106 f1 (k99_109 ?_)
            rw [nI_1]
            refine ih (x + 1) (D.W, D.R, D.tu, D.op, D.pl, D.te, (D.ho || decide (q = 3)), mSet D.K (7 * D.R + x) q) (mTok tx T.bh) I1 _ (show x + 1 + m = D.W by omega) (hg.mr r1) ?_ ?_ t1 hp1 w1 hR
            · refine mDM.mr ?_ r1
              obtain ⟨a0, a1, a2, a3, a4, a5, a6, a7⟩ := hD
              refine ⟨?_, ?_, ?_, ?_, ?_, ?_, ?_, fun k hk hm => ?_⟩
              · rw [m_ux (by decide), m_un (by decide), m_un (by decide)]; exact a0
              · rw [m_ux (by decide), m_un (by decide), m_un (by decide)]; exact a1
              · rw [m_ux (by decide), m_un (by decide), m_un (by decide)]; exact a2
              · rw [m_ux (by decide), m_un (by decide), m_un (by decide)]; exact a3
              · rw [m_ux (by decide), m_un (by decide), m_un (by decide)]; exact a4
              · rw [m_ux (by decide), m_un (by decide), m_un (by decide)]; exact a5
              · rw [m_ux (by decide), m_us, hu]
              · show _ = nI (mSet D.K (7 * D.R + x) q k)
                unfold mSet
                by_cases e : k = 7 * D.R + x
                · subst e
                  rw [m_us, if_pos rfl]
                · rw [m_un e, if_neg e, m_ux (by decide), m_ux (by decide)]
                  refine a7 k hk ?_
                  have hm : (k % 7 < D.W ∧ k / 7 < D.R) ∨ (k / 7 = D.R ∧ k % 7 < x + 1) := hm
                  rcases hm with z | z
                  · exact Or.inl z
                  · exact Or.inr ⟨z.1, by omega⟩
            · rw [r1 44 20 (by omega), m_ux (by decide), m_un (by decide), m_us]
          refine k99_58 (k99_59 (by decide) (fun _ => k99_69 (fun z => k99_77 (fun z2 => k99_82 ?_) (fun z2 => k99_86 ?_)) (fun z => k99_82 ?_)) (fun z => absurd rfl z))
          · exact set true (by rw [c3] at z2; rw [decide_eq_true z2, Bool.or_true])
          · rw [m_un (by decide), e28, mU_0] at z
            exact set false (by rw [c3] at z2; rw [z, decide_eq_false z2]; rfl)
          · rw [m_un (by decide), e28, mU_0] at z
            have z : D.ho = true := by
              cases e : D.ho with
              | true => rfl
              | false => exact absurd e z
            exact set true (by rw [z]; rfl)
        refine k99_42 (fun z => k99_47 (fun z2 => good ?_ _ rfl) (fun z2 => bad _ ?_)) (fun z => good ?_ _ rfl)
        · rw [e28, mU_0] at z2
          intro w
          rw [z2] at w
          exact absurd w.2 (by decide)
        · rw [e28, mU_0] at z2
          have z2 : D.ho = true := by
            cases e : D.ho with
            | true => rfl
            | false => exact absurd e z2
          unfold mPut
          rw [ekd, hkc]
          show (if q = 3 ∧ D.ho = true then (false, D) else _).1 = false
          rw [if_pos ⟨c3.mp z, z2⟩]
        · intro w
          exact z (c3.mpr w.1)
    · refine k99_17 (fun q => ?_) (fun _ => k99_35 (k99_36 (fun _ => bad _ ?_) (fun q => absurd (by decide) q)))
      · rw [e18, ck] at q
        exact absurd q hk1
      · unfold mPut mKd
        rw [if_neg hk1]
end SAID
