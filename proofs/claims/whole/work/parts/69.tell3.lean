/-! the class's reading of all -/
/-- told well?, how many items or where the fault is, what was told -/
def mTl (tx : mTx) : Nat → Nat → mDd → mWd → Bool × Nat × mDd
  | 0, n, D, _ => (true, n, D)
  | m + 1, n, D, T => if T.kd = 0 then (true, n, D) else if (mItem tx n D T).1 = true then mTl tx m (n + 1) (mItem tx n D T).2.1 (mTok tx (mItem tx n D T).2.2.bh) else (false, (mItem tx n D T).2.2.st, D)
def mTell (tx : mTx) : Bool × Nat × mDd := mTl tx (tx.1 + 1) 0 mD0 (mTok tx 0)
def mTa (r : Bool × Nat × mDd) : Int32 := if r.1 = true then nI r.2.1 else -10 - nI r.2.1
def mFe (c : Bool) (I : mF) (L : mFL) (I' : mF) (L' : mFL) : Prop := (∀ a k, ¬ (a = 2 ∧ 2 ≤ k) → a ≠ mLa c → a ≠ mLg c → I' a k = I a k) ∧ ∀ a, a ≠ mLa c → L' a = L a
theorem mFe.fd {c : Bool} {I I1 I2 : mF} {L L1 L2 : mFL} (h : mFe c I L I1 L1) (h2 : mFd c I1 L1 I2 L2) : mFe c I L I2 L2 := ⟨fun a k q1 q2 q3 => (h2.1 a k (by omega) q2 q3).trans (h.1 a k q1 q2 q3), fun a q => (h2.2 a q).trans (h.2 a q)⟩
theorem mFe.u2 {c : Bool} {I I1 : mF} {L L1 : mFL} {j : Nat} {v : Int32} (h : mFe c I L I1 L1) (hj : 2 ≤ j) : mFe c I L (m_up I1 2 j v) L1 := ⟨fun a k q1 q2 q3 => by
  rw [← h.1 a k q1 q2 q3]
  by_cases e : a = 2
  · subst e
    exact m_un (fun z => q1 ⟨rfl, z ▸ hj⟩)
  · exact m_ux e, h.2⟩
theorem mXT.fe {c : Bool} {tx : mTx} {I I' : mF} {L L' : mFL} (h : mXT tx I) (hr : mFe c I L I' L') : mXT tx I' := by
  have n := mLa_2 c
  exact h.sm (hr.1 2 1 (by omega) n.1.symm n.2.1.symm) (funext fun k => hr.1 3 k (by omega) n.2.2.1.symm n.2.2.2.1.symm)
theorem mTl_wf {tx : mTx} : ∀ (m n : Nat) (D : mDd) (p : Nat), p ≤ tx.1 → mDwx D 0 → (n = 0 → D = mD0) → (mTl tx m n D (mTok tx p)).1 = true → mDwx (mTl tx m n D (mTok tx p)).2.2 0
  | 0, n, D, p, hp, hd, hn, _ => hd
  | m + 1, n, D, p, hp, hd, hn, ho => by
    rw [mTl] at ho ⊢
    by_cases hk : (mTok tx p).kd = 0
    · rw [if_pos hk]
      exact hd
    · rw [if_neg hk] at ho ⊢
      by_cases hi : (mItem tx n D (mTok tx p)).1 = true
      · rw [if_pos hi] at ho ⊢
        have h1 := mTok_le hp
        have h2 := mItem_pos (tx := tx) (n := n) (D := D) (T := mTok tx p) h1.2.2.2.1 h1.2.1
        exact mTl_wf m (n + 1) _ _ h2.2.1 (mItem_wf hd hi hn) (fun z => by omega) ho
      · rw [if_neg hi] at ho
        exact absurd (show false = true from ho) (by decide)
theorem mTl_n {tx : mTx} : ∀ (m n : Nat) (D : mDd) (p : Nat), p ≤ tx.1 → n ≤ (mTok tx p).st → (mTl tx m n D (mTok tx p)).2.1 ≤ tx.1
  | 0, n, D, p, hp, hn => by
    have h1 := mTok_le hp
    exact Nat.le_trans hn h1.2.1
  | m + 1, n, D, p, hp, hn => by
    have h1 := mTok_le hp
    have h2 := mItem_pos (tx := tx) (n := n) (D := D) (T := mTok tx p) h1.2.2.2.1 h1.2.1
    rw [mTl]
    by_cases hk : (mTok tx p).kd = 0
    · rw [if_pos hk]
      exact Nat.le_trans hn h1.2.1
    · rw [if_neg hk]
      by_cases hi : (mItem tx n D (mTok tx p)).1 = true
      · rw [if_pos hi]
        have h3 := (mTok_le h2.2.1).1
        have h4 := (h1.2.2.2.2 hk).2
        have h5 : (mTok tx p).2.2.2 ≤ (mItem tx n D (mTok tx p)).2.2.bh := h2.1
        have hn : n ≤ (mTok tx p).1 := hn
        exact mTl_n m (n + 1) _ _ h2.2.1 (show n + 1 ≤ (mTok tx (mItem tx n D (mTok tx p)).2.2.bh).1 by omega)
      · rw [if_neg hi]
        exact h2.2.2
section TELL3
variable {S : mS} {b c : Bool}
theorem mD0_wf : mDwx mD0 0 := ⟨by decide, by decide, Or.inl ⟨rfl, rfl⟩, by decide, fun c hc => absurd (show (none : Option Nat) = some c from hc) (by simp), fun _ => show (0 : Nat) < 5 by decide, fun k hk => absurd rfl hk⟩
theorem S30 {tx : mTx} {I : mF} {L : mFL} (hX : mXT tx I) (hw : mTw tx) :
    ∃ (I' : mF) (L' : mFL), mFn S 30 [.ref 2, .ref (mLa c)] (mSH, I, L, mRk b) (some (.int (mTa (mTell tx)))) (mSH, I', L', mRk b) ∧ mFe c I L I' L' ∧ ((mTell tx).1 = true → mDX c (mTell tx).2.2 I' L') := by
  have nn := mLa_2 c
  have hN := hw.1
  have loop : ∀ (m n : Nat) (D : mDd) (p : Nat) (J : mF) (M : mFL), p ≤ tx.1 → n ≤ (mTok tx p).st → tx.1 < (mTok tx p).st + m → (n = 0 → D = mD0) → mDwx D 0 → mFe c I L J M → mDX c D J M → mTkX (mTok tx p) J → J 2 6 = nI n → mWp S 30 30 [some (.ref 2), some (.ref (mLa c)), some (.int (nI n))] [] (mSH, J, M, mRk b) (fun r2 w2 => ∃ (I' : mF) (L' : mFL), r2 = some (.int (mTa (mTl tx m n D (mTok tx p)))) ∧ w2 = (mSH, I', L', mRk b) ∧ mFe c I L I' L' ∧ ((mTl tx m n D (mTok tx p)).1 = true → mDX c (mTl tx m n D (mTok tx p)).2.2 I' L')) := by
    intro m
    induction m with
    | zero =>
      intro n D p J M hp _ hm
      have h1 := mTok_le hp
      have hm : tx.1 < (mTok tx p).1 + 0 := hm
      omega
    | succ m ih =>
      intro n D p J M hp hns hm hn0 hd hf hD ht h6
      have h1 := mTok_le hp
      have hns' : n ≤ (mTok tx p).1 := hns
      have hm' : tx.1 < (mTok tx p).1 + (m + 1) := hm
      have hk := (mTc_k (tx := tx) (p := p)).1
      rw [mTl]
      by_cases hk0 : (mTok tx p).kd = 0
      · rw [if_pos hk0]
        have fin : mWp S 30 81 [some (.ref 2), some (.ref (mLa c)), some (.int (nI n))] [] (mSH, J, M, mRk b) (fun r2 w2 => ∃ (I' : mF) (L' : mFL), r2 = some (.int (mTa (true, n, D))) ∧ w2 = (mSH, I', L', mRk b) ∧ mFe c I L I' L' ∧ ((true, n, D).1 = true → mDX c (true, n, D).2.2 I' L')) :=
          k30_81 ⟨J, M, by rw [h6]; rfl, rfl, hf, fun _ => hD⟩
        refine k30_30 (fun _ => fin) (fun _ => k30_37 (fun _ => fin) (fun q => ?_))
        rw [ht.2.2.1, hk] at q
        exact absurd hk0 q
      · rw [if_neg hk0]
        have h2 := h1.2.2.2.2 hk0
        obtain ⟨r2, w2, f, I1, L1, rfl, rfl, f1, s1, g1⟩ := S31 (S := S) (b := b) (n := n) (hX.fe hf) hw hp ht hD hd h6 (by omega)
        refine k30_30 (fun q => ?_) (fun _ => k30_37 (fun q => ?_) (fun _ => k30_45 (c30_47 f ?_)))
        · rw [show (150 : Int32) = nI 150 from rfl, nI_leI (by decide) (by omega)] at q
          omega
        · rw [ht.2.2.1, hk] at q
          exact absurd q hk0
        · have h26 : I1 2 6 = nI n := by rw [f1.1 2 6 (by omega) nn.1.symm nn.2.1.symm]; exact h6
          by_cases hi : (mItem tx n D (mTok tx p)).1 = true
          · rw [if_pos hi, if_pos hi]
            obtain ⟨gD, gT⟩ := g1 hi
            have hps := mItem_pos (tx := tx) (n := n) (D := D) (T := mTok tx p) h1.2.2.2.1 h1.2.1
            have hfe := (hf.fd f1).u2 (j := 6) (v := I1 2 6 + 1) (by decide)
            obtain ⟨I2, f2, r2, t2⟩ := S39 (S := S) (L := L1) (b := b) (hX.fe hfe) hw hps.2.1 (show m_up I1 2 6 (I1 2 6 + 1) 2 2 = _ by rw [m_un (by decide)]; exact gT.1)
            refine k30_50 (fun q => absurd q (by decide)) (fun _ => k30_61 (c30_72 f2 (k30_75 ?_)))
            rw [nI_1]
            have gD2 : mDX c (mItem tx n D (mTok tx p)).2.1 (m_up I1 2 6 (I1 2 6 + 1)) L1 := by
              obtain ⟨d0, d1, d2, d3, d4, d5, d6, d7, d8, d9, d10⟩ := gD
              refine ⟨?_, ?_, ?_, ?_, ?_, ?_, ?_, fun k hk => ?_, d8, ?_, ?_⟩
              · rw [m_ux nn.1]; exact d0
              · rw [m_ux nn.1]; exact d1
              · rw [m_ux nn.1]; exact d2
              · rw [m_ux nn.1]; exact d3
              · rw [m_ux nn.1]; exact d4
              · rw [m_ux nn.1]; exact d5
              · rw [m_ux nn.1]; exact d6
              · rw [m_ux nn.2.1]; exact d7 k hk
              · rw [m_un (by decide)]; exact d9
              · rw [m_un (by decide)]; exact d10
            have h3 := (mTok_le hps.2.1).1
            have h5 : (mTok tx p).2.2.2 ≤ (mItem tx n D (mTok tx p)).2.2.bh := hps.1
            refine ih (n + 1) _ _ I2 L1 hps.2.1 (show n + 1 ≤ (mTok tx (mItem tx n D (mTok tx p)).2.2.bh).1 by omega) (show tx.1 < (mTok tx (mItem tx n D (mTok tx p)).2.2.bh).1 + m by omega) (fun z => by omega) (mItem_wf hd hi hn0) ?_ (gD2.xr r2) t2 ?_
            · exact hfe.fd (mFd.rf.xr r2)
            · rw [r2 2 6 (by omega), m_us, h26, nI_1]
          · rw [if_neg hi, if_neg hi]
            refine k30_50 (fun _ => k30_53 ⟨I1, L1, ?_, rfl, hf.fd f1, fun z => absurd (show false = true from z) (by decide)⟩) (fun q => absurd rfl q)
            rw [s1]
            rfl
  obtain ⟨I1, L1, f1, hf1, a0, a1, a2, a3, a4, a5, a6, a7, a8⟩ := S1 (S := S) (b := b) (c := c) (I := I) (L := L)
  have hfe : mFe c I L (m_up (m_up (m_up (m_up I1 2 2 0) 2 6 0) 2 7 0) 2 8 0) L1 := ((((show mFe c I L I1 L1 from ⟨fun a k q1 q2 q3 => hf1.1 a k (by omega) q2 q3, hf1.2⟩).u2 (by decide)).u2 (by decide)).u2 (by decide)).u2 (by decide)
  obtain ⟨I2, f2, r2, t2⟩ := S39 (S := S) (L := L1) (b := b) (hX.fe hfe) hw (Nat.zero_le tx.1) (show _ = nI 0 by rw [m_un (by decide), m_un (by decide), m_un (by decide), m_us]; rfl)
  have hD0 : mDX c mD0 (m_up (m_up (m_up (m_up I1 2 2 0) 2 6 0) 2 7 0) 2 8 0) L1 := by
    refine ⟨?_, ?_, ?_, ?_, ?_, ?_, ?_, fun k hk => ?_, fun k hk => ?_, ?_, m_us⟩
    · rw [m_ux nn.1, m_ux nn.1, m_ux nn.1, m_ux nn.1]; exact a0
    · rw [m_ux nn.1, m_ux nn.1, m_ux nn.1, m_ux nn.1]; exact a1
    · rw [m_ux nn.1, m_ux nn.1, m_ux nn.1, m_ux nn.1]; exact a2
    · rw [m_ux nn.1, m_ux nn.1, m_ux nn.1, m_ux nn.1]; exact a3
    · rw [m_ux nn.1, m_ux nn.1, m_ux nn.1, m_ux nn.1]; exact a4
    · rw [m_ux nn.1, m_ux nn.1, m_ux nn.1, m_ux nn.1]; exact a5
    · rw [m_ux nn.1, m_ux nn.1, m_ux nn.1, m_ux nn.1]; exact a6
    · rw [m_ux nn.2.1, m_ux nn.2.1, m_ux nn.2.1, m_ux nn.2.1]; exact a7 k hk
    · rw [a8, mB_0]
      exact (decide_eq_false (fun z => absurd (show (0 : Nat) = 1 from z.2) (by decide))).symm
    · rw [m_un (by decide), m_us]
      rfl
  have go := loop (tx.1 + 1) 0 mD0 0 I2 L1 (Nat.zero_le _) (Nat.zero_le _) (show tx.1 < (mTok tx 0).1 + (tx.1 + 1) by omega) (fun _ => rfl) mD0_wf (hfe.fd (mFd.rf.xr r2)) (hD0.xr r2) t2 (by rw [r2 2 6 (by omega), m_un (by decide), m_un (by decide), m_us]; rfl)
  obtain ⟨r, w1, hf, I', L', rfl, rfl, h1, h2⟩ := ex30 (k30_0 (c30_1 f1 (k30_4 (c30_25 f2 (k30_28 go)))))
  exact ⟨I', L', hf, h1, h2⟩
end TELL3
