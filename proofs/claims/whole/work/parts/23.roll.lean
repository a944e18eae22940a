/-! a ball that rolls -/
/-- what has not changed: all cells but those -/
def mSm (A : List Nat) (I I' : Nat → Nat → Int32) : Prop := ∀ a, a ∉ A → I' a = I a
theorem mSm.rf {A : List Nat} {I : Nat → Nat → Int32} : mSm A I I := fun _ _ => rfl
theorem mSm.tr {A : List Nat} {I I1 I2 : Nat → Nat → Int32} (h : mSm A I I1) (h2 : mSm A I1 I2) : mSm A I I2 := fun a ha => (h2 a ha).trans (h a ha)
theorem mSm.mono {A B : List Nat} {I I1 : Nat → Nat → Int32} (h : mSm A I I1) (hs : ∀ a ∈ A, a ∈ B) : mSm B I I1 := fun a ha => h a (fun q => ha (hs a q))
theorem mSm.up {A : List Nat} {I : Nat → Nat → Int32} {a k : Nat} {v : Int32} (h : a ∈ A) : mSm A I (m_up I a k v) := fun x hx => m_up_ne (fun q => hx (q ▸ h))
theorem mSm.up2 {A : List Nat} {I I1 : Nat → Nat → Int32} {a k : Nat} {v : Int32} (h1 : mSm A I I1) (h : a ∈ A) : mSm A I (m_up I1 a k v) := h1.tr (mSm.up h)
theorem m_us {α : Type} {f : Nat → Nat → α} {a k : Nat} {v : α} : m_up f a k v a k = v := by simp [m_up]
theorem m_un {α : Type} {f : Nat → Nat → α} {a k y : Nat} {v : α} (h : y ≠ k) : m_up f a k v a y = f a y := by simp [m_up, h]
theorem m_ux {α : Type} {f : Nat → Nat → α} {a k x y : Nat} {v : α} (h : x ≠ a) : m_up f a k v x y = f x y := by simp [m_up, h]
/-- a lawn in a world -/
def mLw (I : Nat → Nat → Int32) (c : Bool) (W H T O : Nat) (g : Nat → Nat) : Prop := I (mLa c) 0 = nI W ∧ I (mLa c) 1 = nI H ∧ I (mLa c) 2 = nI T ∧ I (mLa c) 3 = nI O ∧ (W ≤ 7 ∧ H ≤ 7) ∧ 0 < T ∧ T ≤ 6 ∧ O < T ∧ ∀ k, k < 49 → I (mLg c) k = nI (g k) ∧ g k < 5
theorem mLw.same {I I' : Nat → Nat → Int32} {c : Bool} {W H T O : Nat} {g : Nat → Nat} (h : mLw I c W H T O g) (h1 : I' (mLa c) = I (mLa c)) (h2 : I' (mLg c) = I (mLg c)) : mLw I' c W H T O g := by
  unfold mLw
  rw [h1, h2]
  exact h
theorem mLa_ro (c d : Bool) : mLa c ≠ mRo d := by cases c <;> cases d <;> decide
theorem mLg_ro (c d : Bool) : mLg c ≠ mRo d := by cases c <;> cases d <;> decide
theorem mLw.roll {I I' : Nat → Nat → Int32} {c d : Bool} {W H T O : Nat} {g : Nat → Nat} (h : mLw I c W H T O g) (hs : mSm [mRo d] I I') : mLw I' c W H T O g :=
  h.same (hs _ (by simp [mLa_ro])) (hs _ (by simp [mLg_ro]))
/-- what a cell is, with the boards -/
def mK (g : Nat → Nat) (y : Int64) (k : Nat) : Nat := if mB y k then 1 else g k
/-- a tick: where the ball goes, if it does -/
def mSt (K : Nat → Nat) (W H T O k d t : Nat) : Option Nat := match mNx W H k d with
  | none => none
  | some n => if K n = 1 ∨ (K n = 4 ∧ ¬ t % T = O) then none else some n
def mMt (K : Nat → Nat) (W H k d : Nat) : Bool := match mNx W H k d with
  | none => false
  | some n => decide (K n = 4)
section ROLL
variable {S : mS} {I : Nat → Nat → Int32} {L : Nat → Nat → Int64} {b c d : Bool}
theorem S25 (x1 x2 x3 : Int32) : mFn S 25 [.ref (mRo d), .int x1, .int x2, .int x3] (mSH, I, L, mRk b) none (mSH, (m_up (m_up (m_up (m_up I (mRo d) 0 x1) (mRo d) 1 x2) (mRo d) 2 x3) (mRo d) 3 0), L, mRk b) :=
  e25 (k25_0 ⟨rfl, rfl⟩)
/-- the rolling ball -/
def mBl (I : Nat → Nat → Int32) (d : Bool) (k t w : Nat) (m : Int32) : Prop := I (mRo d) 0 = nI k ∧ I (mRo d) 1 = nI t ∧ I (mRo d) 2 = nI w ∧ I (mRo d) 3 = m
def mAd (K : Nat → Nat) (W H T O k t w : Nat) (m : Int32) (I' : Nat → Nat → Int32) (d : Bool) (x : Int32) : Prop := match mSt K W H T O k w (t + 1) with
  | none => x = -1 ∧ mBl I' d k (t + 1) ((w + 2) % 4) (if mMt K W H k w then 1 else m)
  | some n => x = nI (K n) ∧ mBl I' d n (t + 1) w (if mMt K W H k w then 1 else m)
set_option maxHeartbeats 1000000 in
theorem S26 {W H T O : Nat} {g : Nat → Nat} (hL : mLw I c W H T O g) {y : Int64} {k t w : Nat} {m : Int32} (hb : mBl I d k t w m) (hk : k < 49) (ho : mOn W H k) (hw : w < 4) (ht : t < 2 ^ 30) (hg1 : ∀ k, k < 49 → ¬ g k = 1) :
    ∃ (x : Int32) (I' : Nat → Nat → Int32), mFn S 26 [.ref (mRo d), .ref (mLa c), .long y] (mSH, I, L, mRk b) (some (.int x)) (mSH, I', L, mRk b) ∧ mSm [mRo d] I I' ∧ mAd (mK g y) W H T O k t w m I' d x := by
  obtain ⟨b0, b1, b2, b3⟩ := hb
  have key : mWp S 26 0 [some (.ref (mRo d)), some (.ref (mLa c)), some (.long y), none, none, none, none] [] (mSH, I, L, mRk b) (fun r2 w2 => ∃ (x : Int32) (I' : Nat → Nat → Int32), r2 = some (.int x) ∧ w2 = (mSH, I', L, mRk b) ∧ mSm [mRo d] I I' ∧ mAd (mK g y) W H T O k t w m I' d x) := by
    refine k26_0 ?_
    rw [b0, b1, b2]
    have e1 : nI t + 1 = nI (t + 1) := nI_1 t
    rw [e1]
    have s0 : mSm [mRo d] I (m_up I (mRo d) 1 (nI (t + 1))) := mSm.up (by simp)
    have hL0 := hL.roll s0
    generalize hI0 : m_up I (mRo d) 1 (nI (t + 1)) = I0 at s0 hL0 ⊢
    have a0 : mBl I0 d k (t + 1) w m := by
      rw [← hI0]
      exact ⟨by rw [m_un (by decide)]; exact b0, m_us, by rw [m_un (by decide)]; exact b2, by rw [m_un (by decide)]; exact b3⟩
    obtain ⟨hW, hH, hT, hO, h7, hT0, hT6, hOT, hgr⟩ := hL0
    refine c26_19 (S5 hW hH h7 hk hw) ?_
    -- the end, shut: any world that holds the ball's place and tick
    have shut : ∀ (I1 : Nat → Nat → Int32) (m1 : Int32) (o2 o3 o4 o5 o6 : Option Value), mSm [mRo d] I I1 → mBl I1 d k (t + 1) w m1 → mSt (mK g y) W H T O k w (t + 1) = none → m1 = (if mMt (mK g y) W H k w then 1 else m) →
        mWp S 26 94 [some (.ref (mRo d)), some (.ref (mLa c)), o2, o3, o4, o5, o6] [] (mSH, I1, L, mRk b) (fun r2 w2 => ∃ (x : Int32) (I' : Nat → Nat → Int32), r2 = some (.int x) ∧ w2 = (mSH, I', L, mRk b) ∧ mSm [mRo d] I I' ∧ mAd (mK g y) W H T O k t w m I' d x) := by
      intro I1 m1 o2 o3 o4 o5 o6 hs hbl hst hm
      obtain ⟨c0, c1, c2, c3⟩ := hbl
      refine k26_94 ⟨-1, _, rfl, rfl, hs.up2 (by simp), ?_⟩
      unfold mAd
      rw [hst]
      refine ⟨rfl, by rw [m_un (by decide)]; exact c0, by rw [m_un (by decide)]; exact c1, ?_, by rw [m_un (by decide), c3]; exact hm⟩
      rw [m_us, c2]
      show nI w + nI 2 - (nI w + nI 2) / nI 4 * nI 4 = _
      rw [nI_add, pk_rem (by omega) (by decide) (by decide)]
    cases hn : mNx W H k w with
    | none =>
      have hst : mSt (mK g y) W H T O k w (t + 1) = none := by unfold mSt; rw [hn]
      have hmt : mMt (mK g y) W H k w = false := by unfold mMt; rw [hn]
      refine k26_22 (fun _ => k26_40 (k26_45 (c26_50 (S4n (by decide)) ?_))) (fun h => absurd (by decide) h)
      refine k26_53 (fun h => absurd h (by decide)) (fun _ => k26_89 (fun h => absurd h (by decide)) (fun _ => ?_))
      exact shut I0 m _ _ _ _ _ s0 a0 hst (by rw [hmt]; rfl)
    | some n =>
      have hon : mOn W H n := mNx_on h7 ho hn
      have hn49 : n < 49 := mOn_lt h7 hon
      refine k26_22 (fun h => absurd h (nI_pos (by omega))) (fun _ => k26_29 (fun hz => ?_) (fun hz => ?_))
      · -- no board
        have hz : mB y n = false := (mB_t (by omega)).mp hz
        have hKn : mK g y n = g n := by unfold mK; rw [hz]; rfl
        refine k26_44 (k26_45 (c26_50 (S4 hn49) ?_))
        rw [(hgr n hn49).1]
        have g5 := (hgr n hn49).2
        refine k26_53 (fun _ => k26_60 (fun h4 => ?_) (fun h4 => ?_)) (fun h => absurd rfl h)
        · -- a mill
          rw [show (4 : Int32) = nI 4 from rfl, nI_eq (by omega) (by decide)] at h4
          have hmt : mMt (mK g y) W H k w = true := by unfold mMt; rw [hn]; exact decide_eq_true (by rw [hKn]; exact h4)
          refine k26_66 ?_
          obtain ⟨a00, a01, a02, a03⟩ := a0
          rw [a01]
          have s1 : mSm [mRo d] I (m_up I0 (mRo d) 3 1) := s0.up2 (by simp)
          have hL1 := hL.roll s1
          generalize hI1 : m_up I0 (mRo d) 3 1 = I1 at s1 hL1 ⊢
          have a1 : mBl I1 d k (t + 1) w 1 := by
            rw [← hI1]
            exact ⟨by rw [m_un (by decide)]; exact a00, by rw [m_un (by decide)]; exact a01, by rw [m_un (by decide)]; exact a02, m_us⟩
          obtain ⟨-, -, hT1, hO1, -⟩ := hL1
          obtain ⟨r7, f7, o7, c7⟩ := S7 (S := S) (I := I1) (L := L) (b := b) (c := c) hT1 hO1 hT0 hT6 hOT (t := t + 1) (by omega)
          refine c26_76 f7 ?_
          by_cases hop : (t + 1) % T = O
          · rw [o7 hop]
            refine k26_79 (fun h => absurd h (by decide)) (fun _ => k26_86 (k26_87 (k26_89 (fun _ => ?_) (fun h => absurd rfl h))))
            have hst : mSt (mK g y) W H T O k w (t + 1) = some n := by
              unfold mSt
              rw [hn]
              dsimp only
              rw [if_neg (by rw [hKn]; omega)]
            refine k26_108 ⟨nI (g n), _, rfl, rfl, s1.up2 (by simp), ?_⟩
            unfold mAd
            rw [hst]
            obtain ⟨c0, c1, c2, c3⟩ := a1
            exact ⟨by rw [hKn], m_us, by rw [m_un (by decide)]; exact c1, by rw [m_un (by decide)]; exact c2, by rw [m_un (by decide), c3, hmt]; rfl⟩
          · rw [c7 hop]
            refine k26_79 (fun _ => k26_82 (k26_87 (k26_89 (fun h => absurd h (by decide)) (fun _ => ?_)))) (fun h => absurd rfl h)
            exact shut I1 1 _ _ _ _ _ s1 a1 (by unfold mSt; rw [hn]; dsimp only; rw [if_pos (by rw [hKn]; omega)]) (by rw [hmt]; rfl)
        · rw [show (4 : Int32) = nI 4 from rfl, nI_eq (by omega) (by decide)] at h4
          have hmt : mMt (mK g y) W H k w = false := by unfold mMt; rw [hn]; exact decide_eq_false (by rw [hKn]; exact h4)
          have h1 : ¬ g n = 1 := hg1 n hn49
          refine k26_89 (fun _ => ?_) (fun h => absurd rfl h)
          have hst : mSt (mK g y) W H T O k w (t + 1) = some n := by
            unfold mSt
            rw [hn]
            dsimp only
            rw [if_neg (by rw [hKn]; omega)]
          refine k26_108 ⟨nI (g n), _, rfl, rfl, s0.up2 (by simp), ?_⟩
          unfold mAd
          rw [hst]
          obtain ⟨c0, c1, c2, c3⟩ := a0
          exact ⟨by rw [hKn], m_us, by rw [m_un (by decide)]; exact c1, by rw [m_un (by decide)]; exact c2, by rw [m_un (by decide), c3, hmt]; rfl⟩
      · -- a board
        have hz : mB y n = true := by
          cases hb : mB y n with
          | true => rfl
          | false => exact absurd ((mB_t (by omega)).mpr hb) hz
        have hKn : mK g y n = 1 := by unfold mK; rw [hz]; rfl
        have hmt : mMt (mK g y) W H k w = false := by unfold mMt; rw [hn]; exact decide_eq_false (by rw [hKn]; decide)
        refine k26_40 (k26_45 (c26_50 (S4 hn49) ?_))
        refine k26_53 (fun h => absurd h (by decide)) (fun _ => k26_89 (fun h => absurd h (by decide)) (fun _ => ?_))
        exact shut I0 m _ _ _ _ _ s0 a0 (by unfold mSt; rw [hn]; dsimp only; rw [if_pos (Or.inl hKn)]) (by rw [hmt]; rfl)
  obtain ⟨r, w1, hf, x, I', rfl, rfl, h1, h2⟩ := ex26 key
  exact ⟨x, I', hf, h1, h2⟩
end ROLL
