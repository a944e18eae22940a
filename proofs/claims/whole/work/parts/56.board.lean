/-! board -/
/-- how far, with the board of a place changed; 1000: no way -/
def mCv (n : Nat) : Nat := if n = 0 then 1000 else n
theorem mCv_le {n : Nat} (h : n ≤ 49) : mCv n ≤ 1000 := by
  unfold mCv
  split <;> omega
theorem mFo_c {n : Nat} : mFo n = nI (mCv n) := mFo_n
def mDw (G : mG) (s : mY) (k c : Nat) : Nat := mFr (mK G.g (mTg s.y c)) G.W G.H G.T G.O k
theorem mDw_le {G : mG} {s : mY} {k c : Nat} : mDw G s k c ≤ 49 := by
  unfold mDw mFr
  exact mFf_le 49 k
def mMy (G : mG) (s : mY) (w c : Nat) : Bool := if w = 1 then mMay G s c else mB s.y c
def mBi (w n l : Nat) : Bool := if w = 0 then decide (n < l) else decide (l < n)
/-- the best so far, and where -/
def mBf (G : mG) (s : mY) (k w : Nat) : Nat → Nat × Option Nat
  | 0 => (mCv (mDi G s k), none)
  | c + 1 => if mMy G s w c = true ∧ mBi w (mCv (mDw G s k c)) (mBf G s k w c).1 = true then (mCv (mDw G s k c), some c) else mBf G s k w c
theorem mBf_le {G : mG} {s : mY} {k w : Nat} : ∀ c, (mBf G s k w c).1 ≤ 1000
  | 0 => by
    rw [mBf]
    exact mCv_le mDi_le
  | c + 1 => by
    rw [mBf]
    split
    · exact mCv_le mDw_le
    · exact mBf_le c
theorem mBf_lt {G : mG} {s : mY} {k w : Nat} : ∀ c p, (mBf G s k w c).2 = some p → p < c
  | 0, p, h => absurd (show (none : Option Nat) = some p from h) (by simp)
  | c + 1, p, h => by
    rw [mBf] at h
    split at h
    · have h : some c = some p := h
      cases h
      exact Nat.lt_succ_self c
    · have := mBf_lt c p h
      omega
/-- nothing is longer than no way at all -/
theorem mBf_end {G : mG} {s : mY} {k c : Nat} (h : (mBf G s k 1 c).1 = 1000) : ∀ m, mBf G s k 1 (c + m) = mBf G s k 1 c
  | 0 => rfl
  | m + 1 => by
    have ih := mBf_end h m
    show (if mMy G s 1 (c + m) = true ∧ mBi 1 (mCv (mDw G s k (c + m))) (mBf G s k 1 (c + m)).1 = true then (mCv (mDw G s k (c + m)), some (c + m)) else mBf G s k 1 (c + m)) = _
    rw [ih, if_neg]
    rintro ⟨-, q⟩
    unfold mBi at q
    rw [if_neg (by decide), decide_eq_true_iff, h] at q
    have := mCv_le (mDw_le (G := G) (s := s) (k := k) (c := c + m))
    omega
section BOARD
variable {S : mS} {b : Bool}
theorem mSm.m3 {I I' : mF} (h : mSm [19] I I') : mSm [14, 18, 19] I I' := h.mono (by simp)
theorem mXI.lw2 {G : mG} {s : mY} {h : mH} {im : mJ} {tx : mTx} {la : mLy} {tr : Int64} {I : mF} {L : mFL} (hx : mXI G s h im tx la tr b I L) (hg : mGw G) : mLw I b G.W G.H G.T G.O G.g := hx.1.lw hg
theorem S75 {G : mG} {s : mY} {h : mH} {im : mJ} {tx : mTx} {la : mLy} {tr : Int64} {I : mF} {L : mFL} (hw : mWf G s h im tx la) (hx : mXI G s h im tx la tr b I L) {k c : Nat} (hk : s.ba = some k) (hc : c < 49) (hr : mRch (mK G.g s.y) G.W G.H G.T G.O L) :
    ∃ (I' : mF) (L' : mFL), mFn S 75 [.ref 1, .int (nI c)] (mSH, I, L, mRk b) (some (.int (nI (mCv (mDw G s k c))))) (mSH, I', L', mRk b) ∧ mSm [14, 18, 19] I I' ∧ mS17 L L' ∧ mRch (mK G.g s.y) G.W G.H G.T G.O L' := by
  have hg := hw.1
  have hk9 : k < 49 := mOn_lt hg.1 (hw.2.1.2.1 k hk)
  have hg1 : ∀ k, k < 49 → ¬ G.g k = 1 := fun k hk => (hg.2.2.2.2.2.2 k hk).1
  obtain ⟨I1, L1, f1, s1, l1, r1⟩ := S19 (S := S) (b := b) (L := L) (hx.lw2 hg) hg1 (yb := mTg s.y c) (K0 := mK G.g s.y) hc (fun j hj => (mK_tg (by omega) hj).symm) hr
  obtain ⟨I2, f2, s2, d2⟩ := S22 (S := S) (I := I1) (L := L1) (b := b) (fun k hk => mRch_62 r1 hk) (fun k q hk hq hn => mRch_q r1 hk hq hn)
  have hs2 : mSm [14, 18, 19] I I2 := s1.m3.tr (s2.mono (by simp))
  have hx2 := hx.sv hs2 l1
  have f3 := S23 (S := S) (I := I2) (L := L1) (b := b) hk9
  obtain ⟨I4, L4, f4, s4, l4, r4⟩ := S19 (S := S) (b := b) (L := L1) (hx2.lw2 hg) hg1 (yb := s.y) (K0 := mK G.g (mTg s.y c)) hc (fun j hj => mK_tg (by omega) hj) r1
  have eb : I2 8 1 = nI k := by rw [hx2.2.1.2.1, hk]; rfl
  have ey : L1 8 4 = s.y := hx2.2.1.2.2.2.2.2
  have ed : I2 18 k = nI (mCv (mDw G s k c)) := by
    rw [d2 k hk9, mFo_c]
    unfold mDw mFr
    rfl
  refine ⟨I4, L4, e75 (k75_0 ?_), hs2.tr s4.m3, l1.tr l4, r4⟩
  rw [hx.2.1.2.2.2.2.2]
  refine c75_20 f1 (k75_23 (c75_27 f2 (k75_30 ?_)))
  rw [eb]
  refine c75_41 f3 (k75_44 ?_)
  rw [ey]
  exact c75_61 f4 (k75_64 ⟨by rw [ed], rfl⟩)
theorem S135 {G : mG} {s : mY} {h : mH} {im : mJ} {tx : mTx} {la : mLy} {tr : Int64} {I : mF} {L : mFL} (hw : mWf G s h im tx la) (hm : mMI G s h im tx la tr I L) {K' : Nat → Nat} {k c kd : Nat} (hk : s.ba = some k) (hc : mOn G.W G.H c) (hK : ∀ j, ¬ j = c → K' j = mK G.g s.y j) (hd : K' c = kd) (h5 : kd < 5) :
    ∃ I' : mF, mFn S 135 [.ref 44, .int (nI c), .int (nI kd)] (mSH, I, L, mRk b) (some (.int (nI (mCv (mFr K' G.W G.H G.T G.O k))))) (mSH, I', L, mRk b) ∧ mFh I I' := by
  have hg := hw.1
  have hk9 : k < 49 := mOn_lt hg.1 (hw.2.1.2.1 k hk)
  have hc9 : c < 49 := mOn_lt hg.1 hc
  have e8 : (8 + nI c : Int32) = nI (8 + c) := nI_add 8 c
  have ok : m_ok (8 + nI c) 57 = true := by rw [e8]; exact m_okN (by omega) (by decide)
  have ec : (8 + nI c : Int32).toNatClampNeg = 8 + c := by rw [e8, nI_clamp (by omega)]
  obtain ⟨q1, q2, q3, q4, q5, q6, q7, q8, q9⟩ := hm.2.1.lm hm.1 hg
  have hL : mLm (m_up I 45 (8 + c) (nI kd)) G.W G.H G.T G.O K' := by
    refine ⟨?_, ?_, ?_, ?_, q5, q6, q7, q8, fun j hj => ?_⟩
    · rw [m_ux (by decide)]; exact q1
    · rw [m_ux (by decide)]; exact q2
    · rw [m_ux (by decide)]; exact q3
    · rw [m_ux (by decide)]; exact q4
    · by_cases e : j = c
      · subst e
        rw [m_us, hd]
        exact ⟨rfl, h5⟩
      · rw [m_un (by omega), hK j e]
        exact q9 j hj
  obtain ⟨I1, f1, s1, d1, -⟩ := S124 (S := S) (L := L) (b := b) hL
  have hle : ∀ p, mFr K' G.W G.H G.T G.O p ≤ 49 := fun p => by unfold mFr; exact mFf_le 49 p
  have f2 := S125 (S := S) (I := m_up I1 45 (8 + c) (I 45 (8 + c))) (L := L) (b := b) (F := mFr K' G.W G.H G.T G.O) (fun p hp => ⟨by rw [m_ux (by decide)]; exact d1 p hp, Nat.le_trans (hle p) (by decide)⟩) hk9
  have eb : m_up I1 45 (8 + c) (I 45 (8 + c)) 45 ((2 : Int32).toNatClampNeg) = nI k := by
    have z2 : I 45 ((2 : Int32).toNatClampNeg) = mOe s.ba := hm.2.1.2.2.1
    have e2 : ((2 : Int32).toNatClampNeg) = 2 := rfl
    rw [e2] at z2 ⊢
    rw [m_un (by omega), s1 45 2 (by omega) (by decide) (by decide), m_un (by omega), z2, hk]
    rfl
  refine ⟨m_up I1 45 (8 + c) (I 45 (8 + c)), e135 (k135_0 ok ok ?_), fun a j h1 h2 h3 => ?_⟩
  · rw [ec]
    refine c135_21 f1 (k135_24 ok ?_)
    rw [ec, eb]
    refine c135_41 f2 ?_
    show mWp S 135 44 _ [.int (if mFr K' G.W G.H G.T G.O k = 0 then -9 else nI (mFr K' G.W G.H G.T G.O k))] _ _
    unfold mCv
    by_cases z : mFr K' G.W G.H G.T G.O k = 0
    · rw [if_pos z, if_pos z]
      exact k135_44 (fun q => absurd q (by decide)) (fun _ => k135_51 (k135_59 ⟨rfl, rfl⟩))
    · have := hle k
      rw [if_neg z, if_neg z]
      exact k135_44 (fun _ => k135_57 (k135_59 ⟨rfl, rfl⟩)) (fun q => absurd (nI_pos' (by omega)) q)
  · by_cases e : a = 45 ∧ j = 8 + c
    · obtain ⟨rfl, rfl⟩ := e
      exact m_us
    · have e1 : ∀ (F : mF) (v : Int32), m_up F 45 (8 + c) v a j = F a j := by
        intro F v
        by_cases z : a = 45
        · subst z
          exact m_un (fun z2 => e ⟨rfl, z2⟩)
        · exact m_ux z
      rw [e1, s1 a j h1 h2 h3, e1]
end BOARD
