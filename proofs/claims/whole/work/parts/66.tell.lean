/-! the class's reading: numbers, ends, put -/
def mFd (c : Bool) (I : mF) (L : mFL) (I' : mF) (L' : mFL) : Prop := (∀ a k, ¬ (a = 2 ∧ 2 ≤ k ∧ ¬ k = 6) → a ≠ mLa c → a ≠ mLg c → I' a k = I a k) ∧ ∀ a, a ≠ mLa c → L' a = L a
theorem mFd.rf {c : Bool} {I : mF} {L : mFL} : mFd c I L I L := ⟨fun _ _ _ _ _ => rfl, fun _ _ => rfl⟩
theorem mFd.tr {c : Bool} {I I1 I2 : mF} {L L1 L2 : mFL} (h : mFd c I L I1 L1) (h2 : mFd c I1 L1 I2 L2) : mFd c I L I2 L2 := ⟨fun a k q1 q2 q3 => (h2.1 a k q1 q2 q3).trans (h.1 a k q1 q2 q3), fun a q => (h2.2 a q).trans (h.2 a q)⟩
theorem mFd.xr {c : Bool} {I I1 I2 : mF} {L L1 : mFL} (h : mFd c I L I1 L1) (h2 : mXr I1 I2) : mFd c I L I2 L1 := ⟨fun a k q1 q2 q3 => (h2 a k (by omega)).trans (h.1 a k q1 q2 q3), h.2⟩
theorem mFd.u2 {c : Bool} {I I1 : mF} {L L1 : mFL} {j : Nat} {v : Int32} (h : mFd c I L I1 L1) (hj : 2 ≤ j ∧ ¬ j = 6) : mFd c I L (m_up I1 2 j v) L1 := ⟨fun a k q1 q2 q3 => by
  rw [← h.1 a k q1 q2 q3]
  by_cases e : a = 2
  · subst e
    exact m_un (fun z => q1 ⟨rfl, z ▸ hj⟩)
  · exact m_ux e, h.2⟩
theorem mFd.uA {c : Bool} {I I1 : mF} {L L1 : mFL} {j : Nat} {v : Int32} (h : mFd c I L I1 L1) : mFd c I L (m_up I1 (mLa c) j v) L1 := ⟨fun a k q1 q2 q3 => by
  rw [← h.1 a k q1 q2 q3]
  exact m_ux q2, h.2⟩
theorem mFd.uG {c : Bool} {I I1 : mF} {L L1 : mFL} {j : Nat} {v : Int32} (h : mFd c I L I1 L1) : mFd c I L (m_up I1 (mLg c) j v) L1 := ⟨fun a k q1 q2 q3 => by
  rw [← h.1 a k q1 q2 q3]
  exact m_ux q3, h.2⟩
theorem mFd.uL {c : Bool} {I I1 : mF} {L L1 : mFL} {j : Nat} {v : Int64} (h : mFd c I L I1 L1) : mFd c I L I1 (m_up L1 (mLa c) j v) := ⟨h.1, fun a q => by
  rw [← h.2 a q]
  exact m_up_ne q⟩
theorem mLa_2 (c : Bool) : mLa c ≠ 2 ∧ mLg c ≠ 2 ∧ mLa c ≠ 3 ∧ mLg c ≠ 3 ∧ mLa c ≠ mLg c := by cases c <;> decide
/-- the draft is told so far -/
def mDX (c : Bool) (D : mDd) (I : mF) (L : mFL) : Prop := I (mLa c) 0 = nI D.W ∧ I (mLa c) 1 = nI D.R ∧ I (mLa c) 2 = nI (if D.tu = 0 then 3 else D.tu) ∧ I (mLa c) 3 = nI D.op ∧ I (mLa c) 4 = nI (if D.pl = 0 then 2 else D.pl) ∧ I (mLa c) 5 = mOe D.te ∧ I (mLa c) 6 = mU D.ho ∧ (∀ k, k < 49 → I (mLg c) k = nI (if D.K k = 1 then 0 else D.K k)) ∧ (∀ k, k < 64 → mB (L (mLa c) 7) k = decide (k < 49 ∧ D.K k = 1)) ∧ I 2 7 = mU (decide (¬ D.tu = 0)) ∧ I 2 8 = mU (decide (¬ D.pl = 0))
theorem mDX.xr {c : Bool} {D : mDd} {I I' : mF} {L : mFL} (h : mDX c D I L) (hr : mXr I I') : mDX c D I' L := by
  have n := mLa_2 c
  have ea : ∀ k, I' (mLa c) k = I (mLa c) k := fun k => hr _ _ (fun z => n.1 z.1)
  have eg : ∀ k, I' (mLg c) k = I (mLg c) k := fun k => hr _ _ (fun z => n.2.1 z.1)
  have e7 : I' 2 7 = I 2 7 := hr _ _ (by omega)
  have e8 : I' 2 8 = I 2 8 := hr _ _ (by omega)
  unfold mDX
  simp only [ea, eg, e7, e8]
  exact h
theorem mXT.fd {c : Bool} {tx : mTx} {I I' : mF} {L L' : mFL} (h : mXT tx I) (hr : mFd c I L I' L') : mXT tx I' := by
  have n := mLa_2 c
  exact h.sm (hr.1 2 1 (by omega) n.1.symm n.2.1.symm) (funext fun k => hr.1 3 k (by omega) n.2.2.1.symm n.2.2.2.1.symm)
def mIQ (c b : Bool) (r : mRz) (I0 : mF) (L0 : mFL) (r2 : Option Value) (w2 : mW) : Prop := ∃ I' L', r2 = some (.int (if r.1 = true then 1 else 0)) ∧ w2 = (mSH, I', L', mRk b) ∧ mFd c I0 L0 I' L' ∧ I' 2 3 = nI r.2.2.st ∧ (r.1 = true → mDX c r.2.1 I' L' ∧ mTkX r.2.2 I')
theorem m_hm1 {h v : Nat} (hh : h < 2 ^ 30) (hv : v < 2 ^ 30) : nI h - 1 < nI v ↔ h ≤ v := by
  have e : (nI h - 1).toInt = (h : Int) - 1 := pk_sub_toInt (b := 1) hh (by decide)
  rw [Int32.lt_iff_toInt_lt, e, nI_toInt (by omega)]
  omega
section TELL
variable {S : mS} {b c : Bool}
theorem S37 {tx : mTx} {I : mF} {L : mFL} (hX : mXT tx I) (hw : mTw tx) {p : Nat} (hp : p ≤ tx.1) (h2 : I 2 2 = nI p) {lo h : Nat} (hl : lo < 1000) (hh : h < 1000) :
    ∃ I' : mF, mFn S 37 [.ref 2, .int (nI lo), .int (nI h - 1)] (mSH, I, L, mRk b) (some (.int (if mNb2 (mTok tx p) lo h = true then 1 else 0))) (mSH, I', L, mRk b) ∧ mXr I I' ∧ mTkX (mTok tx p) I' := by
  obtain ⟨I', f, hr, ht⟩ := S39 (S := S) (L := L) (b := b) hX hw hp h2
  refine ⟨I', e37 (k37_0 (c37_1 f ?_)), hr, ht⟩
  have hk := (mTc_k (tx := tx) (p := p)).2.1
  have hv := mTok_2 (tx := tx) (p := p)
  obtain ⟨-, -, t3, t4⟩ := ht
  have no : ¬ mNb2 (mTok tx p) lo h = true → mWp S 37 33 [some (.ref 2), some (.int (nI lo)), some (.int (nI h - 1))] [] (mSH, I', L, mRk b) (fun r2 w2 => r2 = some (.int (if mNb2 (mTok tx p) lo h = true then 1 else 0)) ∧ w2 = (mSH, I', L, mRk b)) := by
    intro q
    rw [if_neg q]
    exact k37_33 (k37_34 (by decide) ⟨rfl, rfl⟩)
  refine k37_4 (fun q => ?_) (fun q => no ?_)
  · rw [t3, hk] at q
    have hv := hv q
    have t4 : I' 2 5 = nI (mTok tx p).v := t4 q
    refine k37_13 (fun q2 => no ?_) (fun q2 => k37_21 (fun q3 => no ?_) (fun q3 => k37_29 (k37_34 (by decide) ⟨?_, rfl⟩)))
    · rw [t4, nI_ltI (by omega) (by omega)] at q2
      intro z
      have := mNb2_t.mp z
      omega
    · rw [t4, m_hm1 (by omega) (by omega)] at q3
      intro z
      have := mNb2_t.mp z
      omega
    · rw [t4, nI_ltI (by omega) (by omega)] at q2
      rw [t4, m_hm1 (by omega) (by omega)] at q3
      rw [if_pos (mNb2_t.mpr ⟨q, by omega, by omega⟩)]
  · rw [t3, hk] at q
    exact fun z => q (mNb2_t.mp z).1
theorem S38 {tx : mTx} {I : mF} {L : mFL} (hX : mXT tx I) (hw : mTw tx) {D : mDd} {T : mWd} (hp : T.bh ≤ tx.1) (h2 : I 2 2 = nI T.bh) {I0 : mF} {L0 : mFL} (hf : mFd c I0 L0 I L) (hD : mDX c D I L) :
    ∃ I' : mF, mFn S 38 [.ref 2] (mSH, I, L, mRk b) (some (.int (if (mEndI tx D T).1 = true then 1 else 0))) (mSH, I', L, mRk b) ∧ mFd c I0 L0 I' L ∧ I' 2 3 = nI (mEndI tx D T).2.2.st ∧ ((mEndI tx D T).1 = true → mDX c (mEndI tx D T).2.1 I' L ∧ mTkX (mEndI tx D T).2.2 I') := by
  obtain ⟨I', f, hr, ht⟩ := S39 (S := S) (L := L) (b := b) hX hw hp h2
  refine ⟨I', e38 (k38_0 (c38_1 f ?_)), hf.xr hr, ht.2.1, fun _ => ⟨hD.xr hr, ht⟩⟩
  have hk := (mTc_k (tx := tx) (p := T.bh)).2.2.1
  refine k38_4 (fun q => k38_13 (k38_18 (by decide) ⟨?_, rfl⟩)) (fun q => k38_17 (k38_18 (by decide) ⟨?_, rfl⟩))
  · rw [ht.2.2.1, hk] at q
    rw [if_pos (show (mEndI tx D T).1 = true from decide_eq_true q)]
  · rw [ht.2.2.1, hk] at q
    rw [if_neg (show ¬ (mEndI tx D T).1 = true from fun z => q (of_decide_eq_true z))]
def mPut (D : mDd) (T : mWd) (x : Nat) : Bool × mDd := match mKd T with
  | none => (false, D)
  | some q => if q = 3 ∧ D.ho = true then (false, D) else (true, (D.W, D.R, D.tu, D.op, D.pl, D.te, (D.ho || decide (q = 3)), mSet D.K (7 * D.R + x) q))
theorem S8 {tx : mTx} {p : Nat} {I : mF} {L : mFL} {D : mDd} {x : Nat} (hD : mDX c D I L) (hd : mDwx D x) (hR : D.R < 7) (hx : x < 7) :
    ∃ (I' : mF) (L' : mFL), mFn S 8 [.ref (mLa c), .int (nI x), .int (mTc (mTok tx p))] (mSH, I, L, mRk b) (some (.int (if (mPut D (mTok tx p) x).1 = true then 1 else 0))) (mSH, I', L', mRk b) ∧ (∀ a, a ≠ mLa c → a ≠ mLg c → I' a = I a) ∧ (∀ a, a ≠ mLa c → L' a = L a) ∧ ((mPut D (mTok tx p) x).1 = true → mDX c (mPut D (mTok tx p) x).2 I' L') := by
  obtain ⟨d0, d1, d2, d3, d4, d5, d6, d7, d8, d9, d10⟩ := id hD
  have n := mLa_2 c
  have ck := (mTc_k (tx := tx) (p := p)).2.2.2
  generalize mTok tx p = T at *
  have hk9 : 7 * D.R + x < 49 := by omega
  have hK0 : D.K (7 * D.R + x) = 0 := by
    by_cases z : D.K (7 * D.R + x) = 0
    · exact z
    · rcases hd.2.2.2.2.2.2 _ z with q | q
      · have : (7 * D.R + x) / 7 < D.R := q.2
        omega
      · omega
  have eat : (I (mLa c) 1 * 7) + nI x = nI (7 * D.R + x) := by
    rw [d1, show (7 : Int32) = nI 7 from rfl, pk_mul, nI_add, Nat.mul_comm]
  have ok : m_ok (nI (7 * D.R + x)) 49 = true := m_okN hk9 (by decide)
  have ec : (nI (7 * D.R + x)).toNatClampNeg = 7 * D.R + x := nI_clamp (by omega)
  have go : ∀ {Q : Option Value → mW → Prop}, mWp S 8 (if mTc T = 102 then 72 else (if mTc T = 104 then 106 else (if mTc T = 109 then 97 else (if mTc T = 112 then 88 else (if mTc T = 120 then 74 else 135))))) [some (.ref (mLa c)), some (.int (nI x)), some (.int (mTc T)), some (.int (nI (7 * D.R + x))), none] [] (mSH, I, L, mRk b) Q → mWp S 8 0 [some (.ref (mLa c)), some (.int (nI x)), some (.int (mTc T)), none, none] [] (mSH, I, L, mRk b) Q := by
    intro Q hq
    refine k8_0 (fun q => ?_) (fun _ => ?_)
    · rw [eat] at q
      exact absurd q (nI_pos (by omega))
    · rw [eat]
      refine k8_14 (fun _ => k8_22 hq) (fun q => ?_)
      rw [show (49 : Int32) = nI 49 from rfl, nI_ltI (by omega) (by decide)] at q
      omega
  have c102 := ck 102 (by decide) (by decide)
  have c104 := ck 104 (by decide) (by decide)
  have c109 := ck 109 (by decide) (by decide)
  have c112 := ck 112 (by decide) (by decide)
  have c120 := ck 120 (by decide) (by decide)
  by_cases hk1 : T.kd = 1
  · by_cases h102 : T.v = 102
    · have e : mKd T = some 0 := by unfold mKd mKc; rw [if_pos hk1, if_pos h102]
      have P : mPut D T x = (true, (D.W, D.R, D.tu, D.op, D.pl, D.te, (D.ho || decide (0 = 3)), mSet D.K (7 * D.R + x) 0)) := by
        unfold mPut
        rw [e]
        exact if_neg (fun z => absurd z.1 (by decide))
      rw [P]
      rw [if_pos (show mTc T = 102 from c102.mpr ⟨hk1, h102⟩)] at go
      refine ⟨I, L, e8 (go (k8_72 ⟨rfl, rfl⟩)), fun _ _ _ => rfl, fun _ _ => rfl, fun _ => ?_⟩
      have eK : mSet D.K (7 * D.R + x) 0 = D.K := by
        funext k
        unfold mSet
        by_cases z : k = 7 * D.R + x
        · rw [if_pos z, z, hK0]
        · rw [if_neg z]
      refine ⟨d0, d1, d2, d3, d4, d5, ?_, ?_, ?_, d9, d10⟩
      · rw [d6]
        show mU D.ho = mU (D.ho || decide (0 = 3))
        rw [decide_eq_false (by decide), Bool.or_false]
      · show ∀ k, k < 49 → I (mLg c) k = nI (if mSet D.K (7 * D.R + x) 0 k = 1 then 0 else mSet D.K (7 * D.R + x) 0 k)
        rw [eK]
        exact d7
      · show ∀ k, k < 64 → mB (L (mLa c) 7) k = decide (k < 49 ∧ mSet D.K (7 * D.R + x) 0 k = 1)
        rw [eK]
        exact d8
    · have n102 : ¬ mTc T = 102 := fun z => h102 (c102.mp z).2
      rw [if_neg n102] at go
      by_cases h104 : T.v = 104
      · have e : mKd T = some 3 := by unfold mKd mKc; rw [if_pos hk1, if_neg h102, if_neg (by omega), if_neg (by omega), if_pos h104]
        rw [if_pos (show mTc T = 104 from c104.mpr ⟨hk1, h104⟩)] at go
        have e6 : m_up I (mLg c) (7 * D.R + x) 3 (mLa c) 6 = mU D.ho := by rw [m_ux n.2.2.2.2, d6]
        cases hho : D.ho with
        | true =>
          have P : mPut D T x = (false, D) := by
            unfold mPut
            rw [e]
            exact if_pos ⟨rfl, hho⟩
          rw [P]
          rw [hho] at e6
          refine ⟨m_up (m_up I (mLg c) (7 * D.R + x) 3) (mLa c) 6 1, L, e8 (go (k8_106 ok (fun q => ?_) (fun q => k8_124 (k8_125 (by decide) ⟨rfl, ?_⟩)))), fun a q1 q2 => ?_, fun _ _ => rfl, fun q => absurd (show false = true from q) (by decide)⟩
          · rw [ec, e6] at q
            exact absurd q (by decide)
          · rw [ec]
          · rw [m_up_ne q1, m_up_ne q2]
        | false =>
          have P : mPut D T x = (true, (D.W, D.R, D.tu, D.op, D.pl, D.te, (D.ho || decide (3 = 3)), mSet D.K (7 * D.R + x) 3)) := by
            unfold mPut
            rw [e]
            exact if_neg (fun z => absurd (hho.symm.trans z.2) (by decide))
          rw [P]
          rw [hho] at e6
          refine ⟨m_up (m_up I (mLg c) (7 * D.R + x) 3) (mLa c) 6 1, L, e8 (go (k8_106 ok (fun q => k8_120 (k8_125 (by decide) ⟨rfl, ?_⟩)) (fun q => ?_))), fun a q1 q2 => ?_, fun _ _ => rfl, fun _ => ⟨?_, ?_, ?_, ?_, ?_, ?_, ?_, fun k hk => ?_, fun k hk => ?_, ?_, ?_⟩⟩
          · rw [ec]
          · rw [ec, e6] at q
            exact absurd rfl q
          · rw [m_up_ne q1, m_up_ne q2]
          · rw [m_un (by decide), m_ux n.2.2.2.2]; exact d0
          · rw [m_un (by decide), m_ux n.2.2.2.2]; exact d1
          · rw [m_un (by decide), m_ux n.2.2.2.2]; exact d2
          · rw [m_un (by decide), m_ux n.2.2.2.2]; exact d3
          · rw [m_un (by decide), m_ux n.2.2.2.2]; exact d4
          · rw [m_un (by decide), m_ux n.2.2.2.2]; exact d5
          · rw [m_us]
            show (1 : Int32) = mU (D.ho || decide (3 = 3))
            rw [decide_eq_true rfl, Bool.or_true]
            rfl
          · show _ = nI (if mSet D.K (7 * D.R + x) 3 k = 1 then 0 else mSet D.K (7 * D.R + x) 3 k)
            rw [m_ux n.2.2.2.2.symm]
            unfold mSet
            by_cases z : k = 7 * D.R + x
            · subst z
              rw [m_us, if_pos rfl]
              rfl
            · rw [m_un z, if_neg z]
              exact d7 k hk
          · show _ = decide (k < 49 ∧ mSet D.K (7 * D.R + x) 3 k = 1)
            rw [d8 k hk]
            congr 1
            unfold mSet
            by_cases z : k = 7 * D.R + x
            · subst z
              rw [if_pos rfl, hK0]
              simp
            · rw [if_neg z]
          · rw [m_ux n.1.symm, m_ux n.2.1.symm]; exact d9
          · rw [m_ux n.1.symm, m_ux n.2.1.symm]; exact d10
      · have n104 : ¬ mTc T = 104 := fun z => h104 (c104.mp z).2
        rw [if_neg n104] at go
        -- a kind of ground
        have ground : ∀ (q : Nat) (r : Int32), q = 2 ∨ q = 4 → r = nI q → mKd T = some q → (∀ a, a ≠ mLa c → a ≠ mLg c → m_up I (mLg c) (7 * D.R + x) r a = I a) ∧ (mPut D T x).1 = true ∧ mDX c (mPut D T x).2 (m_up I (mLg c) (7 * D.R + x) r) L := by
          intro q r hq hr e
          have P : mPut D T x = (true, (D.W, D.R, D.tu, D.op, D.pl, D.te, (D.ho || decide (q = 3)), mSet D.K (7 * D.R + x) q)) := by
            unfold mPut
            rw [e]
            exact if_neg (by omega)
          rw [P]
          refine ⟨fun a q1 q2 => m_up_ne q2, rfl, ?_, ?_, ?_, ?_, ?_, ?_, ?_, fun k hk => ?_, fun k hk => ?_, ?_, ?_⟩
          · rw [m_ux n.2.2.2.2]; exact d0
          · rw [m_ux n.2.2.2.2]; exact d1
          · rw [m_ux n.2.2.2.2]; exact d2
          · rw [m_ux n.2.2.2.2]; exact d3
          · rw [m_ux n.2.2.2.2]; exact d4
          · rw [m_ux n.2.2.2.2]; exact d5
          · rw [m_ux n.2.2.2.2, d6]
            show mU D.ho = mU (D.ho || decide (q = 3))
            rw [decide_eq_false (by omega), Bool.or_false]
          · show _ = nI (if mSet D.K (7 * D.R + x) q k = 1 then 0 else mSet D.K (7 * D.R + x) q k)
            unfold mSet
            by_cases z : k = 7 * D.R + x
            · subst z
              rw [m_us, if_pos rfl, if_neg (by omega), hr]
            · rw [m_un z, if_neg z]
              exact d7 k hk
          · show _ = decide (k < 49 ∧ mSet D.K (7 * D.R + x) q k = 1)
            rw [d8 k hk]
            congr 1
            unfold mSet
            by_cases z : k = 7 * D.R + x
            · subst z
              rw [if_pos rfl, hK0]
              simp
              omega
            · rw [if_neg z]
          · rw [m_ux n.2.1.symm]; exact d9
          · rw [m_ux n.2.1.symm]; exact d10
        by_cases h109 : T.v = 109
        · have e : mKd T = some 4 := by unfold mKd mKc; rw [if_pos hk1, if_neg h102, if_neg (by omega), if_neg (by omega), if_neg (by omega), if_pos h109]
          obtain ⟨g1, g2, g3⟩ := ground 4 4 (Or.inr rfl) rfl e
          rw [if_pos (show mTc T = 109 from c109.mpr ⟨hk1, h109⟩)] at go
          refine ⟨_, L, e8 (go (k8_97 ok ⟨?_, ?_⟩)), g1, fun _ _ => rfl, fun _ => g3⟩
          · rw [if_pos g2]
          · rw [ec]
        · have n109 : ¬ mTc T = 109 := fun z => h109 (c109.mp z).2
          rw [if_neg n109] at go
          by_cases h112 : T.v = 112
          · have e : mKd T = some 2 := by unfold mKd mKc; rw [if_pos hk1, if_neg h102, if_neg (by omega), if_pos h112]
            obtain ⟨g1, g2, g3⟩ := ground 2 2 (Or.inl rfl) rfl e
            rw [if_pos (show mTc T = 112 from c112.mpr ⟨hk1, h112⟩)] at go
            refine ⟨_, L, e8 (go (k8_88 ok ⟨?_, ?_⟩)), g1, fun _ _ => rfl, fun _ => g3⟩
            · rw [if_pos g2]
            · rw [ec]
          · have n112 : ¬ mTc T = 112 := fun z => h112 (c112.mp z).2
            rw [if_neg n112] at go
            by_cases h120 : T.v = 120
            · have e : mKd T = some 1 := by unfold mKd mKc; rw [if_pos hk1, if_neg h102, if_pos h120]
              rw [if_pos (show mTc T = 120 from c120.mpr ⟨hk1, h120⟩)] at go
              have P : mPut D T x = (true, (D.W, D.R, D.tu, D.op, D.pl, D.te, (D.ho || decide (1 = 3)), mSet D.K (7 * D.R + x) 1)) := by
                unfold mPut
                rw [e]
                exact if_neg (fun z => absurd z.1 (by decide))
              rw [P]
              refine ⟨I, _, e8 (go (k8_74 ⟨rfl, rfl⟩)), fun _ _ _ => rfl, fun a q => m_up_ne q, fun _ => ⟨d0, d1, d2, d3, d4, d5, ?_, fun k hk => ?_, fun k hk => ?_, d9, d10⟩⟩
              · rw [d6]
                show mU D.ho = mU (D.ho || decide (1 = 3))
                rw [decide_eq_false (by decide), Bool.or_false]
              · show _ = nI (if mSet D.K (7 * D.R + x) 1 k = 1 then 0 else mSet D.K (7 * D.R + x) 1 k)
                unfold mSet
                by_cases z : k = 7 * D.R + x
                · subst z
                  rw [if_pos rfl, d7 _ hk, hK0]
                  rfl
                · rw [if_neg z]
                  exact d7 k hk
              · show _ = decide (k < 49 ∧ mSet D.K (7 * D.R + x) 1 k = 1)
                rw [m_us, mB_or, mB_one (by omega) hk, d8 k hk, ← Bool.decide_or]
                congr 1
                unfold mSet
                by_cases z : k = 7 * D.R + x
                · subst z
                  rw [if_pos rfl]
                  simp
                  omega
                · rw [if_neg z]
                  simp [z]
            · have n120 : ¬ mTc T = 120 := fun z => h120 (c120.mp z).2
              rw [if_neg n120] at go
              have e : mKd T = none := by unfold mKd mKc; rw [if_pos hk1, if_neg h102, if_neg h120, if_neg h112, if_neg h104, if_neg h109]
              have P : mPut D T x = (false, D) := by
                unfold mPut
                rw [e]
              rw [P]
              exact ⟨I, L, e8 (go (k8_135 ⟨rfl, rfl⟩)), fun _ _ _ => rfl, fun _ _ => rfl, fun q => absurd (show false = true from q) (by decide)⟩
  · have e : mKd T = none := by unfold mKd; rw [if_neg hk1]
    have n102 : ¬ mTc T = 102 := fun z => hk1 (c102.mp z).1
    have n104 : ¬ mTc T = 104 := fun z => hk1 (c104.mp z).1
    have n109 : ¬ mTc T = 109 := fun z => hk1 (c109.mp z).1
    have n112 : ¬ mTc T = 112 := fun z => hk1 (c112.mp z).1
    have n120 : ¬ mTc T = 120 := fun z => hk1 (c120.mp z).1
    rw [if_neg n102, if_neg n104, if_neg n109, if_neg n112, if_neg n120] at go
    have P : mPut D T x = (false, D) := by
      unfold mPut
      rw [e]
    rw [P]
    exact ⟨I, L, e8 (go (k8_135 ⟨rfl, rfl⟩)), fun _ _ _ => rfl, fun _ _ => rfl, fun q => absurd (show false = true from q) (by decide)⟩
end TELL
