/-! the reference's reading of all, and what it settles -/
def mGs (I I' : mF) : Prop := ∀ a k, ¬ (a = 44 ∧ 16 ≤ k ∧ k ≤ 28) → a ≠ 51 → I' a k = I a k
theorem mGs.gr {I I1 I2 : mF} (h : mGs I I1) (h2 : mGr I1 I2) : mGs I I2 := fun a k q1 q2 => (h2 a k (by omega) q2).trans (h a k q1 q2)
theorem mGs.mr {I I1 I2 : mF} (h : mGs I I1) (h2 : mMr I1 I2) : mGs I I2 := fun a k q1 q2 => (h2 a k (by omega)).trans (h a k q1 q2)
theorem mGs.u {I I1 : mF} {j : Nat} {v : Int32} (h : mGs I I1) (hj : 16 ≤ j ∧ j ≤ 28) : mGs I (m_up I1 44 j v) := fun a k q1 q2 => by
  rw [← h a k q1 q2]
  by_cases e : a = 44
  · subst e
    exact m_un (fun z => q1 ⟨rfl, z ▸ hj⟩)
  · exact m_ux e
theorem mGs.rf {I : mF} : mGs I I := fun _ _ _ _ => rfl
theorem mMT.gs {tx : mTx} {I I' : mF} (h : mMT tx I) (hr : mGs I I') : mMT tx I' := h.sm (hr 44 15 (by omega) (by decide)) (funext fun k => hr 50 k (by omega) (by decide))
def mS4Q (I : mF) (L : mFL) (b : Bool) (D : mDd) (r2 : Option Value) (w2 : mW) : Prop := ∃ I' : mF, r2 = none ∧ w2 = (mSH, I', L, mRk b) ∧ mFm I L I' L ∧ I' 44 0 = nI D.W ∧ I' 44 1 = nI D.R ∧ I' 44 2 = nI (if D.tu = 0 then 3 else D.tu) ∧ I' 44 3 = nI D.op ∧ I' 44 4 = nI (if D.pl = 0 then 2 else D.pl) ∧ I' 44 5 = mOe D.te ∧ I' 44 21 = I 44 21 ∧ I' 45 0 = 0 ∧ I' 45 1 = mOz D.te ∧ I' 45 2 = mOe D.te ∧ I' 45 3 = 0 ∧ (∀ q, q < 4 → I' 45 (4 + q) = 0) ∧ (∀ c, c < 49 → I' 45 (8 + c) = I 51 c) ∧ I' 44 8 = 0 ∧ I' 44 11 = 0 ∧ I' 44 15 = 0 ∧ I' 48 0 = 0 ∧ I' 48 1 = 0
section SETTLES
variable {S : mS} {L : mFL} {b : Bool}
/-- all items, one after another; then what comes is 'good' or 'bad' -/
theorem S103_loop {tx : mTx} {I : mF} (hX : mMT tx I) (hw : mTw tx) {Q : Option Value → mW → Prop} : ∀ (m n : Nat) (D : mDd) (p : Nat) (J : mF), p ≤ tx.1 → n ≤ (mTok tx p).st → tx.1 < (mTok tx p).st + m → (n = 0 → D = mD0) → mDwx D 0 → mGs I J → mDM D 0 J → mTkM (mTok tx p) J → J 44 20 = 0 → J 44 21 = nI n →
    ((mTl tx m n D (mTok tx p)).1 = true → ∀ J' : mF, mGs I J' → mDM (mTl tx m n D (mTok tx p)).2.2 0 J' → J' 44 21 = nI (mTl tx m n D (mTok tx p)).2.1 → mWp S 103 101 [some (.ref 44)] [] (mSH, J', L, mRk b) Q) →
    ((mTl tx m n D (mTok tx p)).1 = false → ∀ J' : mF, mGs I J' → Q (some (.int (-10 - nI (mTl tx m n D (mTok tx p)).2.1))) (mSH, J', L, mRk b)) →
    mWp S 103 55 [some (.ref 44)] [] (mSH, J, L, mRk b) Q := by
  intro m
  induction m with
  | zero =>
    intro n D p J hp _ hm
    have h1 := mTok_le hp
    have hm : tx.1 < (mTok tx p).1 + 0 := hm
    omega
  | succ m ih =>
    intro n D p J hp hns hm hn0 hd hJ hD ht h20 h21 good bad
    have h1 := mTok_le hp
    have hns' : n ≤ (mTok tx p).1 := hns
    have hm' : tx.1 < (mTok tx p).1 + (m + 1) := hm
    have hk4 := mTok_k (tx := tx) (p := p)
    have e18 : J 44 18 = nI (mTok tx p).kd := ht.2.2.1
    have ck : nI (mTok tx p).kd = 0 ↔ (mTok tx p).kd = 0 := nI_eq (by omega) (by decide)
    rw [mTl] at good bad
    by_cases hk0 : (mTok tx p).kd = 0
    · rw [if_pos hk0] at good
      refine k103_55 (fun _ => k103_86 (fun _ => good rfl J hJ hD h21) (fun q => absurd h20 q)) (fun q => ?_)
      rw [e18, ck] at q
      exact absurd hk0 q
    · rw [if_neg hk0] at good bad
      have h2 := h1.2.2.2.2 hk0
      have hN := hw.1
      obtain ⟨r2, w2, f, I1, rfl, rfl, g1, s1, u1⟩ := S102 (S := S) (L := L) (b := b) (n := n) (hX.gs hJ) hw hp ht h20 hD hd h21 (by omega) hn0
      refine k103_55 (fun q => ?_) (fun _ => k103_62 (fun _ => k103_69 (c103_70 f (k103_73 ?_))) (fun q => absurd h20 q))
      · rw [e18, ck] at q
        exact absurd q hk0
      · have e21 : I1 44 21 = nI n := by rw [g1 44 21 (by omega) (by decide)]; exact h21
        have hJ1 : mGs I (m_up I1 44 21 (I1 44 21 + 1)) := (hJ.gr g1).u (by decide)
        by_cases hi : (mItem tx n D (mTok tx p)).1 = true
        · rw [if_pos hi] at good bad
          obtain ⟨x1, x2, x3⟩ := s1 hi
          have hps := mItem_pos (tx := tx) (n := n) (D := D) (T := mTok tx p) h1.2.2.2.1 h1.2.1
          have h3 := (mTok_le hps.2.1).1
          have h5 : (mTok tx p).2.2.2 ≤ (mItem tx n D (mTok tx p)).2.2.bh := hps.1
          refine ih (n + 1) _ _ _ hps.2.1 (show n + 1 ≤ (mTok tx (mItem tx n D (mTok tx p)).2.2.bh).1 by omega) (show tx.1 < (mTok tx (mItem tx n D (mTok tx p)).2.2.bh).1 + m by omega) (fun z => by omega) (mItem_wf hd hi hn0) hJ1 x2.u21 (x3.w (by decide)) (by rw [m_un (by decide)]; exact x1) (by rw [m_us, e21, nI_1]) good bad
        · rw [if_neg hi] at good bad
          have hi : (mItem tx n D (mTok tx p)).1 = false := by
            cases e : (mItem tx n D (mTok tx p)).1 with
            | false => rfl
            | true => exact absurd e hi
          obtain ⟨x1, x2⟩ := u1 hi
          have e20 : m_up I1 44 21 (I1 44 21 + 1) 44 20 = 1 := by rw [m_un (by decide)]; exact x1
          have e17 : m_up I1 44 21 (I1 44 21 + 1) 44 17 = nI (mItem tx n D (mTok tx p)).2.2.st := by rw [m_un (by decide)]; exact x2
          have fin : mWp S 103 86 [some (.ref 44)] [] (mSH, m_up I1 44 21 (I1 44 21 + 1), L, mRk b) Q := by
            refine k103_86 (fun q => ?_) (fun _ => k103_93 ?_)
            · rw [e20] at q
              exact absurd q (by decide)
            · rw [e17]
              exact bad rfl _ hJ1
          refine k103_55 (fun _ => fin) (fun _ => k103_62 (fun q => ?_) (fun _ => fin))
          rw [e20] at q
          exact absurd q (by decide)
theorem S104 {I : mF} {D : mDd} (hD : mDM D 0 I) (hd : mDwx D 0) :
    ∃ I' : mF, mFn S 104 [.ref 44] (mSH, I, L, mRk b) none (mSH, I', L, mRk b) ∧ mFm I L I' L ∧ I' 44 0 = nI D.W ∧ I' 44 1 = nI D.R ∧ I' 44 2 = nI (if D.tu = 0 then 3 else D.tu) ∧ I' 44 3 = nI D.op ∧ I' 44 4 = nI (if D.pl = 0 then 2 else D.pl) ∧ I' 44 5 = mOe D.te ∧ I' 44 21 = I 44 21 ∧ I' 45 0 = 0 ∧ I' 45 1 = mOz D.te ∧ I' 45 2 = mOe D.te ∧ I' 45 3 = 0 ∧ (∀ q, q < 4 → I' 45 (4 + q) = 0) ∧ (∀ c, c < 49 → I' 45 (8 + c) = I 51 c) ∧ I' 44 8 = 0 ∧ I' 44 11 = 0 ∧ I' 44 15 = 0 ∧ I' 48 0 = 0 ∧ I' 48 1 = 0 := by
  obtain ⟨a0, a1, a2, a3, a4, a5, a6, a7⟩ := hD
  obtain ⟨d0, d1, d2, d3, d4, d5, d6⟩ := hd
  obtain ⟨J0, hJ0⟩ : ∃ J0 : mF, J0 = m_up (m_up (m_up (m_up (m_up (m_up I 44 0 (nI D.W)) 44 1 (nI D.R)) 44 2 (nI (if D.tu = 0 then 3 else D.tu))) 44 3 (nI D.op)) 44 4 (nI (if D.pl = 0 then 2 else D.pl))) 44 5 (mOe D.te) := ⟨_, rfl⟩
  have j0 : J0 44 0 = nI D.W := by rw [hJ0, m_un (by decide), m_un (by decide), m_un (by decide), m_un (by decide), m_un (by decide), m_us]
  have j1 : J0 44 1 = nI D.R := by rw [hJ0, m_un (by decide), m_un (by decide), m_un (by decide), m_un (by decide), m_us]
  have j2 : J0 44 2 = nI (if D.tu = 0 then 3 else D.tu) := by rw [hJ0, m_un (by decide), m_un (by decide), m_un (by decide), m_us]
  have j3 : J0 44 3 = nI D.op := by rw [hJ0, m_un (by decide), m_un (by decide), m_us]
  have j4 : J0 44 4 = nI (if D.pl = 0 then 2 else D.pl) := by rw [hJ0, m_un (by decide), m_us]
  have j5 : J0 44 5 = mOe D.te := by rw [hJ0, m_us]
  have j21 : J0 44 21 = I 44 21 := by rw [hJ0, m_un (by decide), m_un (by decide), m_un (by decide), m_un (by decide), m_un (by decide), m_un (by decide)]
  have jx : ∀ a k, a ≠ 44 → J0 a k = I a k := fun a k ha => by rw [hJ0, m_ux ha, m_ux ha, m_ux ha, m_ux ha, m_ux ha, m_ux ha]
  have hte : 0 ≤ mOe D.te ↔ ¬ D.te = none := mOe_ge (fun k hk => by have := mOn_lt ⟨d0, d1⟩ (d4 k hk); omega)
  -- the cells
  have cells : ∀ (m k : Nat) (J : mF), k + m = 49 → mSm [45] J0 J → (∀ j, j < 8 → J 45 j = 0) → (∀ j, j < k → J 45 (8 + j) = I 51 j) → mWp S 104 93 [some (.ref 44), some (.int (nI k))] [] (mSH, J, L, mRk b) (mS4Q I L b D) := by
    intro m
    induction m with
    | zero =>
      intro k J hk hJ h8 hc
      have hk : k = 49 := by omega
      subst hk
      have q44 : ∀ j, J 44 j = J0 44 j := fun j => by rw [hJ 44 (by decide)]
      have fin : ∀ (v : Int32) (o1 : Option Value), v = mOz D.te → mWp S 104 138 [some (.ref 44), o1] [.int v, .int 1, .ref 45] (mSH, J, L, mRk b) (mS4Q I L b D) := by
        intro v o1 hv
        have e44 : ∀ (F : mF) (j : Nat), ¬ j = 8 → ¬ j = 11 → ¬ j = 15 → ∀ (x1 x2 x3 x4 x5 x6 x7 : Int32) (i1 i2 : Nat), m_up (m_up (m_up (m_up (m_up (m_up (m_up F 45 i1 x1) 45 i2 x2) 44 8 x3) 44 11 x4) 48 ((0 : Int32).toNatClampNeg) x5) 48 ((1 : Int32).toNatClampNeg) x6) 44 15 x7 44 j = F 44 j := fun F j h1 h2 h3 x1 x2 x3 x4 x5 x6 x7 i1 i2 => by
          rw [m_un h3, m_ux (by decide), m_ux (by decide), m_un h2, m_un h1, m_ux (by decide), m_ux (by decide)]
        have e45 : ∀ (F : mF) (j : Nat), ¬ j = 1 → ¬ j = 2 → ∀ (x1 x2 x3 x4 x5 x6 x7 : Int32), m_up (m_up (m_up (m_up (m_up (m_up (m_up F 45 ((1 : Int32).toNatClampNeg) x1) 45 ((2 : Int32).toNatClampNeg) x2) 44 8 x3) 44 11 x4) 48 ((0 : Int32).toNatClampNeg) x5) 48 ((1 : Int32).toNatClampNeg) x6) 44 15 x7 45 j = F 45 j := fun F j h1 h2 x1 x2 x3 x4 x5 x6 x7 => by
          rw [m_ux (by decide), m_ux (by decide), m_ux (by decide), m_ux (by decide), m_ux (by decide), m_un (show j ≠ (2 : Int32).toNatClampNeg from h2), m_un (show j ≠ (1 : Int32).toNatClampNeg from h1)]
        refine k104_138 (by decide) ⟨_, rfl, rfl, fun a ha => ⟨?_, rfl⟩, ?_, ?_, ?_, ?_, ?_, ?_, ?_, ?_, ?_, ?_, ?_, fun q hq => ?_, fun c hc9 => ?_, ?_, ?_, m_us, ?_, ?_⟩
        · rw [m_up_ne (by omega), m_up_ne (by omega), m_up_ne (by omega), m_up_ne (by omega), m_up_ne (by omega), m_up_ne (by omega), m_up_ne (by omega), hJ a (by simp; omega)]
          funext j
          exact jx a j (by omega)
        · rw [e44 _ _ (by decide) (by decide) (by decide), q44, j0]
        · rw [e44 _ _ (by decide) (by decide) (by decide), q44, j1]
        · rw [e44 _ _ (by decide) (by decide) (by decide), q44, j2]
        · rw [e44 _ _ (by decide) (by decide) (by decide), q44, j3]
        · rw [e44 _ _ (by decide) (by decide) (by decide), q44, j4]
        · rw [e44 _ _ (by decide) (by decide) (by decide), q44, j5]
        · rw [e44 _ _ (by decide) (by decide) (by decide), q44, j21]
        · rw [e45 _ _ (by decide) (by decide)]
          exact h8 0 (by decide)
        · rw [m_ux (by decide), m_ux (by decide), m_ux (by decide), m_ux (by decide), m_ux (by decide), m_un (by decide)]
          exact m_us.trans hv
        · rw [m_ux (by decide), m_ux (by decide), m_ux (by decide), m_ux (by decide), m_ux (by decide)]
          refine m_us.trans ?_
          rw [q44, j5]
        · rw [e45 _ _ (by decide) (by decide)]
          exact h8 3 (by decide)
        · rw [e45 _ _ (by omega) (by omega)]
          exact h8 _ (by omega)
        · rw [e45 _ _ (by omega) (by omega)]
          exact hc c hc9
        · rw [m_un (by decide), m_ux (by decide), m_ux (by decide), m_un (by decide), m_us]
        · rw [m_un (by decide), m_ux (by decide), m_ux (by decide), m_us]
        · rw [m_ux (by decide), m_un (by decide)]
          exact m_us.trans m_nar0
        · rw [m_ux (by decide)]
          exact m_us.trans m_nar0
      refine k104_93 (fun _ => k104_120 (fun q => k104_137 (fin 0 _ ?_)) (fun q => k104_132 (fin (-9) _ ?_))) (fun q => absurd (by decide) q)
      · rw [q44, j5, hte] at q
        cases e : D.te with
        | none => exact absurd e q
        | some k => rfl
      · rw [q44, j5, hte] at q
        cases e : D.te with
        | none => rfl
        | some k => exact absurd (by rw [e]; simp) q
    | succ m ih =>
      intro k J hk hJ h8 hc
      have e8 : (8 + nI k : Int32) = nI (8 + k) := nI_add 8 k
      refine k104_93 (fun q => ?_) (fun _ => k104_99 (m_okN (by omega) (by decide)) (by rw [e8]; exact m_okN (by omega) (by decide)) ?_)
      · rw [show (49 : Int32) = nI 49 from rfl, nI_leI (by decide) (by omega)] at q
        omega
      · rw [e8, nI_clamp (by omega), nI_clamp (by omega), nI_1]
        refine ih (k + 1) _ (by omega) (hJ.up2 (by simp)) (fun j hj => ?_) (fun j hj => ?_)
        · rw [m_un (by omega)]
          exact h8 j hj
        · by_cases e : j = k
          · subst e
            rw [m_us, hJ 51 (by decide), jx 51 _ (by decide)]
          · rw [m_un (by omega)]
            exact hc j (by omega)
  have firsts : ∀ (m k : Nat) (J : mF), k + m = 8 → mSm [45] J0 J → (∀ j, j < k → J 45 j = 0) → mWp S 104 72 [some (.ref 44), some (.int (nI k))] [] (mSH, J, L, mRk b) (mS4Q I L b D) := by
    intro m
    induction m with
    | zero =>
      intro k J hk hJ h8
      have hk : k = 8 := by omega
      subst hk
      exact k104_72 (fun _ => k104_91 (cells 49 0 J (by omega) hJ h8 (fun j hj => absurd hj (Nat.not_lt_zero j)))) (fun q => absurd (by decide) q)
    | succ m ih =>
      intro k J hk hJ h8
      refine k104_72 (fun q => ?_) (fun _ => k104_78 (m_okN (by omega) (by decide)) ?_)
      · rw [show (8 : Int32) = nI 8 from rfl, nI_leI (by decide) (by omega)] at q
        omega
      · rw [nI_clamp (by omega), nI_1]
        refine ih (k + 1) _ (by omega) (hJ.up2 (by simp)) (fun j hj => ?_)
        by_cases e : j = k
        · subst e
          exact m_us
        · rw [m_un e]
          exact h8 j (by omega)
  have go : mWp S 104 0 [some (.ref 44), none] [] (mSH, I, L, mRk b) (mS4Q I L b D) := by
    have x24 : m_up (m_up I 44 0 (nI D.W)) 44 1 (nI D.R) 44 24 = nI D.tu := by rw [m_un (by decide), m_un (by decide), a2]
    have x25 : m_up (m_up I 44 0 (nI D.W)) 44 1 (nI D.R) 44 25 = nI D.op := by rw [m_un (by decide), m_un (by decide), a3]
    have x26 : m_up (m_up I 44 0 (nI D.W)) 44 1 (nI D.R) 44 26 = nI D.pl := by rw [m_un (by decide), m_un (by decide), a4]
    have second : ∀ o1, mWp S 104 32 [some (.ref 44), o1] [.int (nI (if D.tu = 0 then 3 else D.tu)), .ref 44] (mSH, m_up (m_up I 44 0 (nI D.W)) 44 1 (nI D.R), L, mRk b) (mS4Q I L b D) := by
      intro o1
      have third : ∀ o1, mWp S 104 59 [some (.ref 44), o1] [.int (nI (if D.pl = 0 then 2 else D.pl)), .ref 44] (mSH, m_up (m_up (m_up (m_up I 44 0 (nI D.W)) 44 1 (nI D.R)) 44 2 (nI (if D.tu = 0 then 3 else D.tu))) 44 3 (nI D.op), L, mRk b) (mS4Q I L b D) := by
        intro o1
        refine k104_59 ?_
        have x27 : m_up (m_up (m_up (m_up (m_up I 44 0 (nI D.W)) 44 1 (nI D.R)) 44 2 (nI (if D.tu = 0 then 3 else D.tu))) 44 3 (nI D.op)) 44 4 (nI (if D.pl = 0 then 2 else D.pl)) 44 27 = mOe D.te := by rw [m_un (by decide), m_un (by decide), m_un (by decide), m_un (by decide), m_un (by decide), a5]
        have x27b : m_up (m_up (m_up (m_up I 44 0 (nI D.W)) 44 1 (nI D.R)) 44 2 (nI (if D.tu = 0 then 3 else D.tu))) 44 3 (nI D.op) 44 27 = mOe D.te := by rw [m_un (by decide), m_un (by decide), m_un (by decide), m_un (by decide), a5]
        first
          | rw [x27]
          | rw [x27b]
        rw [← hJ0]
        exact firsts 8 0 J0 (by omega) mSm.rf (fun j hj => absurd hj (Nat.not_lt_zero j))
      have y26 : ∀ v, m_up (m_up (m_up (m_up I 44 0 (nI D.W)) 44 1 (nI D.R)) 44 2 v) 44 3 (nI D.op) 44 26 = nI D.pl := fun v => by rw [m_un (by decide), m_un (by decide), x26]
      have y25 : ∀ v, m_up (m_up (m_up I 44 0 (nI D.W)) 44 1 (nI D.R)) 44 2 v 44 25 = nI D.op := fun v => by rw [m_un (by decide), x25]
      have c26 : nI D.pl = 0 ↔ D.pl = 0 := nI_eq (by omega) (by decide)
      refine k104_32 (fun q => k104_51 ?_) (fun q => k104_55 ?_)
      · first
          | rw [x26, c26] at q
          | rw [y26, c26] at q
        first
          | rw [x25]
          | rw [y25]
        have := third o1
        rw [if_pos q] at this
        exact this
      · first
          | rw [x26, c26] at q
          | rw [y26, c26] at q
        first
          | rw [x25]
          | rw [y25]
        rw [y26]
        have := third o1
        rw [if_neg q] at this
        exact this
    have c24 : nI D.tu = 0 ↔ D.tu = 0 := nI_eq (by omega) (by decide)
    refine k104_0 (fun q => k104_24 ?_) (fun q => k104_28 ?_)
    · rw [a0, a1]
      first
        | rw [a2, c24] at q
        | rw [a0, a1, x24, c24] at q
      have := second none
      rw [if_pos q] at this
      exact this
    · rw [a0, a1, x24]
      first
        | rw [a2, c24] at q
        | rw [a0, a1, x24, c24] at q
      have := second none
      rw [if_neg q] at this
      exact this
  obtain ⟨r, w1, hf, I', rfl, rfl, h⟩ := ex104 go
  exact ⟨I', hf, h⟩
end SETTLES
