/-! boards -/
theorem mB_lt {y : Int64} {k : Nat} (h : mB y k = true) : k < 64 := BitVec.lt_of_getLsbD h
/-- the boards with one more or less -/
def mTg (y : Int64) (c : Nat) : Int64 := y ^^^ ((1 : Int64) <<< ((nI c).toInt64 &&& 63))
theorem mB_tg {y : Int64} {c k : Nat} (hc : c < 64) (hk : k < 64) : mB (mTg y c) k = if k = c then !mB y k else mB y k := by
  unfold mTg
  rw [mB_xor, mB_one hc hk]
  by_cases h : k = c
  · rw [if_pos h, decide_eq_true h, Bool.xor_true]
  · rw [if_neg h, decide_eq_false h, Bool.xor_false]
/-- how many boards there are -/
def mNb (y : Int64) : Nat := mCt (fun k => mB y k) 49
theorem mNb_pn {G : mG} {s : mY} (hg : mGw G) (hs : mYw G s) : mPn 8 s.y.toBitVec.toNat = mNb s.y := by
  rw [mPn_ct]
  have e : mCt (fun j => s.y.toBitVec.toNat.testBit j) (8 * 8) = mCt (fun j => mB s.y j) (49 + 15) := rfl
  rw [e, mCt_add, mCt_zero (f := fun j => mB s.y (49 + j)) 15 (fun j hj => ?_)]
  · rfl
  · cases h : mB s.y (49 + j) with
    | false => rfl
    | true =>
      have := mOn_lt hg.1 (hs.2.2.2.2.2.2 _ h).1
      omega
section BOARDS
variable {S : mS}
theorem S117_loop {G : mG} {s : mY} {I : mF} {L : mFL} {b : Bool} {o1 o2 o3 o4 : Option Value} (hl : mML G I) (hp : mMY G s 45 0 I) (hg : mGw G) (hs : mYw G s) : ∀ (m k : Nat), k + m = 49 → mWp S 117 92 [some (.ref 44), o1, o2, o3, o4, some (.int (nI (mCt (fun j => mB s.y j) k))), some (.int (nI k))] [] (mSH, I, L, mRk b) (fun r2 w2 => r2 = some (.int (nI (mNb s.y))) ∧ w2 = (mSH, I, L, mRk b)) := by
  intro m
  induction m with
  | zero =>
    intro k hk
    have hk : k = 49 := by omega
    subst hk
    exact k117_92 (fun _ => k117_146 ⟨rfl, rfl⟩) (fun q => absurd (by decide) q)
  | succ m ih =>
    intro k hk
    have go := ih (k + 1) (by omega)
    have m7 : nI k - nI k / 7 * 7 = nI (k % 7) := pk_rem (d := 7) (by omega) (by decide) (by decide)
    have d7 : nI k / 7 = nI (k / 7) := pk_div (d := 7) (by omega) (by decide) (by decide)
    have e8 : (8 + nI k : Int32) = nI (8 + k) := nI_add 8 k
    refine k117_92 (fun q => ?_) (fun _ => k117_99 ?_)
    · rw [show (49 : Int32) = nI 49 from rfl, nI_leI (by decide) (by omega)] at q
      omega
    rw [m7, d7]
    refine c117_112 (S89 hl.1 hl.2.1 hg.1 _ _) ?_
    have pl : mPlace G.W G.H (nI (k % 7)) (nI (k / 7)) = if mOn G.W G.H k then some k else none := by
      rw [mPlace_n (by omega) (by omega)]
      by_cases h : mOn G.W G.H k
      · rw [if_pos h, if_pos h]
        congr 1
        omega
      · rw [if_neg h, if_neg h]
    have no : mB s.y k = false → mWp S 117 136 [some (.ref 44), o1, o2, o3, o4, some (.int (nI (mCt (fun j => mB s.y j) k))), some (.int (nI k))] [.int (nI (mCt (fun j => mB s.y j) k))] (mSH, I, L, mRk b) (fun r2 w2 => r2 = some (.int (nI (mNb s.y))) ∧ w2 = (mSH, I, L, mRk b)) := by
      intro hf
      refine k117_136 (k117_137 ?_)
      rw [nI_1, show nI (mCt (fun j => mB s.y j) k) + 0 = nI (mCt (fun j => mB s.y j) k) from nI_add _ 0]
      have e : mCt (fun j => mB s.y j) (k + 1) = mCt (fun j => mB s.y j) k := by
        show mCt (fun j => mB s.y j) k + (if mB s.y k then 1 else 0) = _
        rw [hf]
        rfl
      rw [e] at go
      exact go
    unfold mIc
    rw [pl]
    by_cases h : mOn G.W G.H k
    · rw [if_pos h]
      have hgk := hg.2.2.2.2.2.2 k (by omega)
      have hK : mK G.g s.y k < 5 := mK5 hgk.2
      have eK : I 45 ((8 + nI k : Int32).toNatClampNeg) = nI (mK G.g s.y k) := by rw [e8, nI_clamp (by omega), hp.at h]
      refine k117_115 (fun q => absurd q (show ¬ (1 : Int32) = 0 by decide)) (fun _ => k117_118 (by rw [e8]; exact m_okN (by omega) (by decide)) (fun q => k117_132 (k117_137 ?_)) (fun q => no ?_))
      · rw [eK, show (1 : Int32) = nI 1 from rfl, nI_eq (by omega) (by decide)] at q
        have hf : mB s.y k = true := by
          cases hf : mB s.y k with
          | true => rfl
          | false =>
            unfold mK at q
            rw [hf] at q
            exact absurd q hgk.1
        rw [nI_1, nI_1]
        have e : mCt (fun j => mB s.y j) (k + 1) = mCt (fun j => mB s.y j) k + 1 := by
          show mCt (fun j => mB s.y j) k + (if mB s.y k then 1 else 0) = _
          rw [hf]
          rfl
        rw [e] at go
        exact go
      · rw [eK, show (1 : Int32) = nI 1 from rfl, nI_eq (by omega) (by decide)] at q
        cases hf : mB s.y k with
        | false => rfl
        | true =>
          unfold mK at q
          rw [hf] at q
          exact absurd rfl q
    · rw [if_neg h]
      refine k117_115 (fun _ => no ?_) (fun q => absurd rfl q)
      cases hf : mB s.y k with
      | false => rfl
      | true => exact absurd (hs.2.2.2.2.2.2 k hf).1 h
end BOARDS
