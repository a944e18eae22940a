/-! strikes, both -/
def mS1 (s : mY) (k : Nat) (r : Nat × Nat × Nat) : mY := (r.2.2, some (if r.1 = 2 then k else r.2.1), s.k + (if 2 ≤ r.1 then 2 else 1), s.on, s.sc, s.y)
/-- the play behind a stroke -/
def mAf (G : mG) (s : mY) (k p : Nat) (r : Nat × Nat × Nat) : mY := if r.1 = 1 then mEnds G (mS1 s k r) p (min 7 (s.k + (if 2 ≤ r.1 then 2 else 1))) else if s.k + (if 2 ≤ r.1 then 2 else 1) < 6 then mS1 s k r else mEnds G (mS1 s k r) p 7
theorem mAf_w {G : mG} {s : mY} (hs : mYw G s) (hg : mGw G) {k p : Nat} {r : Nat × Nat × Nat} (hk : s.ba = some k) (hon : s.on = some p) (ho : mOn G.W G.H r.2.1) (ht : r.2.2 ≤ 99999) : mYw G (mAf G s k p r) := by
  have hte : ¬ G.te = none := fun q => by rw [hs.2.2.1.2 q] at hon; cases hon
  obtain ⟨s1, s2, s3, s4, s5, s6, s7⟩ := id hs
  unfold mAf
  by_cases h1 : r.1 = 1
  · rw [if_pos h1]
    exact mEnds_w (s := (r.2.2, s.2)) ⟨ht, hs.2⟩ hg hte (Nat.min_le_left 7 _) ht
  · rw [if_neg h1]
    by_cases h2 : s.k + (if 2 ≤ r.1 then 2 else 1) < 6
    · rw [if_pos h2]
      refine ⟨ht, fun c hc => ?_, ⟨?_, s3.2⟩, s4, ?_, s6, s7⟩
      · have hc : some (if r.1 = 2 then k else r.2.1) = some c := hc
        cases hc
        split
        · exact s2 k hk
        · exact ho
      · show some _ = none ↔ s.on = none
        rw [hon]
        exact ⟨fun q => absurd q (Option.some_ne_none _), fun q => absurd q (Option.some_ne_none _)⟩
      · show s.k + (if 2 ≤ r.1 then 2 else 1) ≤ 5
        omega
    · rw [if_neg h2]
      exact mEnds_w (s := (r.2.2, s.2)) ⟨ht, hs.2⟩ hg hte (Nat.le_refl 7) ht
theorem mRm_0 {r : Nat × Nat × Nat} (h : r.1 = 0) : mRm r = nI r.2.1 := by
  obtain ⟨a, p, t⟩ := r
  have h : a = 0 := h
  subst h
  rfl
theorem m_min7 {a : Nat} (h : a ≤ 100) : (if nI a < 7 then nI a else 7) = nI (min 7 a) := by
  rw [show (7 : Int32) = nI 7 from rfl]
  by_cases q : a < 7
  · rw [if_pos ((nI_ltI (by omega) (by decide)).mpr q), Nat.min_eq_right (by omega)]
  · rw [if_neg (fun z => q ((nI_ltI (by omega) (by decide)).mp z)), Nat.min_eq_left (by omega)]
section STRIKES2
variable {S : mS}
theorem X51 {G : mG} {s : mY} {h : mH} {im : mJ} {tx : mTx} {la : mLy} {tr : Int64} {I : mF} {L : mFL} {b : Bool} (hx : mXI G s h im tx la tr b I L) (hg : mGw G) (hs : mYw G s) (hh : h.1 ≤ 10) {k p d n : Nat} (hk : s.ba = some k) (hon : s.on = some p) (hd : d < 4) (hn1 : 1 ≤ n) (hn6 : n ≤ 6) (hl : (mRs G s k 0 d n).2.2 ≤ 99999) :
    mCx S 51 [.int (nI d), .int (nI n)] (.int (mRe (mRs G s k 0 d n))) G (mAf G s k p (mRs G s k 0 d n)) (mPush h s) im tx la tr I L b := by
  have ho := hs.on31 hg
  have h4 := mRs_lt (w := 0) (d := d) (n := n) hg hs hk
  have hpP := hs.2.2.2.1 p hon
  have hk5 := hs.2.2.2.2.1
  obtain ⟨r1, f1, t1, -⟩ := S52 (S := S) (I := I) (L := L) (b := b) (nI d) (nI n)
  have r1 := t1 ⟨⟨d, Nat.zero_le _, by omega, rfl⟩, n, hn1, hn6, rfl⟩
  subst r1
  obtain ⟨I2, f2, s2, p0, p1⟩ := S53 (S := S) hx.1 hx.2.1 hg hs hk (w := 0) (d := d) (n := n) (by decide) hd hn6
  have hx2 := hx.sm (s2.x14 (L := L)).1 (fun _ _ => rfl)
  obtain ⟨I3, L3, f3, hx3, fr3⟩ := S54 (S := S) hh hx2
  have hr1 := mRoll_1 (K := mK G.g s.y) (W := G.W) (H := G.H) (T := G.T) (O := G.O) n k d (s.t + 0)
  have hr1 : (mRs G s k 0 d n).1 ≤ 2 := hr1
  have e5 := mRe_5 h4
  have e6 := mRe_6 h4
  rw [← (fr3 14 (by decide) (by decide)).1] at p0 p1
  generalize hr : mRs G s k 0 d n = r at *
  -- what has been written
  have y5 : ∀ v : Int32, v = nI (s.k + (if 2 ≤ r.1 then 2 else 1)) → mXI G (mS1 s k r) (mPush h s) im tx la tr b (m_up (m_up (m_up I3 8 0 (I3 14 1)) 8 1 (I3 14 0)) 8 2 v) L3 := by
    intro v hv
    refine hx3.play (s' := mS1 s k r) ⟨?_, ?_, ?_, ?_, fun q hq => ?_, hx3.2.1.2.2.2.2.2⟩ (fun a h8 h9 => ⟨by rw [m_up_ne h8, m_up_ne h8, m_up_ne h8], rfl⟩)
    · rw [m_un (by decide), m_un (by decide), m_us]
      exact p1
    · rw [m_un (by decide), m_us]
      exact p0
    · rw [m_us]
      exact hv
    · rw [m_un (by decide), m_un (by decide), m_un (by decide)]
      exact hx3.2.1.2.2.2.1
    · rw [m_ux (by decide), m_ux (by decide), m_ux (by decide)]
      exact hx3.2.1.2.2.2.2.1 q hq
  have fx : ∀ v : Int32, mFx I L (m_up (m_up (m_up I3 8 0 (I3 14 1)) 8 1 (I3 14 0)) 8 2 v) L3 := by
    intro v a ha
    refine ⟨?_, ?_⟩
    · rw [m_up_ne (by omega), m_up_ne (by omega), m_up_ne (by omega), (fr3 a (Or.inr (by omega)) (by omega)).1, s2 a (by simp; omega)]
    · rw [(fr3 a (Or.inr (by omega)) (by omega)).2]
  have g2 : I3 8 2 = nI s.k := hx3.2.1.2.2.1
  -- from 97 on
  have last : ∀ (J : mF), mXI G (mS1 s k r) (mPush h s) im tx la tr b J L3 → mFx I L J L3 →
      (r.1 = 1 → mWp S 51 107 [some (.ref 1), some (.int (nI d)), some (.int (nI n)), some (.int (mRe r))] [] (mSH, J, L3, mRk b) (fun r2 w2 => ∃ I1 L1, r2 = some (.int (mRe r)) ∧ w2 = (mSH, I1, L1, mRk b) ∧ mXI G (mAf G s k p r) (mPush h s) im tx la tr b I1 L1 ∧ mFx I L I1 L1)) ∧
      (¬ r.1 = 1 → mWp S 51 133 [some (.ref 1), some (.int (nI d)), some (.int (nI n)), some (.int (mRe r))] [] (mSH, J, L3, mRk b) (fun r2 w2 => ∃ I1 L1, r2 = some (.int (mRe r)) ∧ w2 = (mSH, I1, L1, mRk b) ∧ mXI G (mAf G s k p r) (mPush h s) im tx la tr b I1 L1 ∧ mFx I L I1 L1)) := by
    intro J hJ fJ
    have jk : J 8 2 = nI (s.k + (if 2 ≤ r.1 then 2 else 1)) := hJ.2.1.2.2.1
    have hle : s.k + (if 2 ≤ r.1 then 2 else 1) ≤ 7 := by split <;> omega
    have don : ∀ pts, ∃ I' : mF, mFn S 16 [.ref 8, .int (nI pts), .ref (mLa b)] (mSH, J, L3, mRk b) none (mSH, I', L3, mRk b) ∧ mXI G (mEnds G (mS1 s k r) p pts) (mPush h s) im tx la tr b I' L3 ∧ mFx I L I' L3 := by
      intro pts
      obtain ⟨I', f, y, fr⟩ := S16 (S := S) hJ.1 hJ.2.1 hg (p := p) (pts := pts) hon hpP
      exact ⟨I', f, hJ.play y (fun a h8 h9 => ⟨fr a h8 h9, rfl⟩), fJ.tr (fun a ha => ⟨fr a (by omega) (by omega), rfl⟩)⟩
    refine ⟨fun h1 => ?_, fun h1 => ?_⟩
    · obtain ⟨I', f, y, fr⟩ := don (min 7 (s.k + (if 2 ≤ r.1 then 2 else 1)))
      refine k51_107 ?_
      rw [jk, m_min7 (by omega)]
      refine c51_127 f (k51_130 (k51_158 ⟨I', L3, rfl, rfl, ?_, fr⟩))
      unfold mAf
      rw [if_pos h1]
      exact y
    · refine k51_133 (fun q => k51_158 ⟨J, L3, rfl, rfl, ?_, fJ⟩) (fun q => ?_)
      · rw [jk, show (6 : Int32) = nI 6 from rfl, nI_ltI (by omega) (by decide)] at q
        unfold mAf
        rw [if_neg h1, if_pos q]
        exact hJ
      · rw [jk, show (6 : Int32) = nI 6 from rfl, nI_ltI (by omega) (by decide)] at q
        obtain ⟨I', f, y, fr⟩ := don 7
        refine k51_145 (c51_155 f (k51_158 ⟨I', L3, rfl, rfl, ?_, fr⟩))
        unfold mAf
        rw [if_neg h1, if_neg q]
        exact y
  have key : mWp S 51 0 [some (.ref 1), some (.int (nI d)), some (.int (nI n)), none] [] (mSH, I, L, mRk b) (fun r2 w2 => ∃ I1 L1, r2 = some (.int (mRe r)) ∧ w2 = (mSH, I1, L1, mRk b) ∧ mXI G (mAf G s k p r) (mPush h s) im tx la tr b I1 L1 ∧ mFx I L I1 L1) := by
    refine k51_0 (c51_2 f1 (k51_5 (fun q => absurd q (show ¬ (1 : Int32) = 0 by decide)) (fun _ => k51_10 (fun _ => k51_23 (c51_27 f2 (k51_30 (fun _ => k51_46 (c51_47 f3 (k51_50 (fun q => k51_92 ?_) (fun q => k51_96 ?_)))) (fun q => ?_)))) (fun q => ?_))))
    · have e : I3 8 2 + 2 = nI (s.k + (if 2 ≤ r.1 then 2 else 1)) := by
        rw [g2, if_pos (e6.mp q)]
        exact nI_add s.k 2
      exact k51_97 (fun q2 => (last _ (y5 _ e) (fx _)).1 (e5.mp q2)) (fun q2 => (last _ (y5 _ e) (fx _)).2 (fun z => q2 (e5.mpr z)))
    · have e : I3 8 2 + 1 = nI (s.k + (if 2 ≤ r.1 then 2 else 1)) := by
        rw [g2, if_neg (fun z => q (e6.mpr z))]
        exact nI_add s.k 1
      exact k51_97 (fun q2 => (last _ (y5 _ e) (fx _)).1 (e5.mp q2)) (fun q2 => (last _ (y5 _ e) (fx _)).2 (fun z => q2 (e5.mpr z)))
    · exfalso
      rw [← (fr3 14 (by decide) (by decide)).1, p1, show (99999 : Int32) = nI 99999 from rfl, nI_leI (by omega) (by decide)] at q
      exact q hl
    · exfalso
      rw [hx.2.1.2.2.2.1, mOe_ge ho, hon] at q
      exact q (Option.some_ne_none p)
  obtain ⟨r2, w2, hf, I1, L1, rfl, rfl, q1, q2⟩ := ex51 key
  exact ⟨I1, L1, hf, q1, q2⟩
theorem M114 {G : mG} {s : mY} {h : mH} {im : mJ} {tx : mTx} {la : mLy} {tr : Int64} {I : mF} {L : mFL} {b : Bool} (hm : mMI G s h im tx la tr I L) (hg : mGw G) (hs : mYw G s) (hh : h.1 ≤ 10) {k p d n : Nat} (hk : s.ba = some k) (hon : s.on = some p) (hd : d < 4) (hn1 : 1 ≤ n) (hn6 : n ≤ 6) (hl : (mRs G s k 0 d n).2.2 ≤ 99999) :
    mCm S 114 [.int (nI d), .int (nI n)] (.int (mRe (mRs G s k 0 d n))) G (mAf G s k p (mRs G s k 0 d n)) (mPush h s) im tx la tr I L b := by
  have ho := hs.on31 hg
  have h4 := mRs_lt (w := 0) (d := d) (n := n) hg hs hk
  have hpP := hs.2.2.2.1 p hon
  have hk5 := hs.2.2.2.2.1
  have ht := hs.1
  have hkk := mOn_lt hg.1 (hs.2.1 k hk)
  obtain ⟨r1, f1, t1, -⟩ := S106 (S := S) (I := I) (L := L) (b := b) (nI d) (nI n)
  have r1 := t1 ⟨⟨d, Nat.zero_le _, by omega, rfl⟩, n, hn1, hn6, rfl⟩
  subst r1
  obtain ⟨r7, f7, -, t7⟩ := S107 (S := S) (L := L) (b := b) hm.2.1 ho
  have r7 := t7 (by rw [hon]; exact Option.some_ne_none p)
  subst r7
  obtain ⟨I2, f2, s2, p0⟩ := S105s (S := S) (L := L) (b := b) hm.1 hm.2.1 hg hs hk (w := 0) (d := d) (n := n) (by decide) hd hn6
  have hm2 := hm.sm (s2.m2 (L := L)).1 rfl
  obtain ⟨I3, f3, hm3, fr3, fr4⟩ := S112 (S := S) (b := b) hg.1 hh hm2
  have hr1 : (mRs G s k 0 d n).1 ≤ 2 := mRoll_1 (K := mK G.g s.y) (W := G.W) (H := G.H) (T := G.T) (O := G.O) n k d (s.t + 0)
  have hrt : s.t + 0 ≤ (mRs G s k 0 d n).2.2 := mRoll_ge (K := mK G.g s.y) (W := G.W) (H := G.H) (T := G.T) (O := G.O) n k d (s.t + 0)
  have e5 := mRm_5 h4
  have e6 := mRm_6 h4
  have z0 : I 45 ((0 : Int32).toNatClampNeg) = nI s.t := hm.2.1.1
  have z2 : I 45 ((2 : Int32).toNatClampNeg) = nI k := by
    have : I 45 ((2 : Int32).toNatClampNeg) = mOe s.ba := hm.2.1.2.2.1
    rw [this, hk]
    rfl
  have f91 := fun (I1 : mF) => S91r (S := S) (I := I1) (L := L) (b := b) h4
  generalize hr : mRs G s k 0 d n = r at *
  have p30 : I2 45 ((0 : Int32).toNatClampNeg) + I2 44 30 = nI r.2.2 := by
    have : I2 45 ((0 : Int32).toNatClampNeg) = nI s.t := hm2.2.1.1
    rw [this, p0, nI_add]
    congr 1
    omega
  have p31 : I3 45 ((0 : Int32).toNatClampNeg) + I3 44 30 = nI r.2.2 := by
    rw [fr3 45 (by decide) (by decide), fr4 30 (by decide)]
    exact p30
  have q31 : I3 45 ((3 : Int32).toNatClampNeg) = nI s.k := hm3.2.1.2.2.2.1
  have q32 : I3 45 ((2 : Int32).toNatClampNeg) = nI k := by
    have : I3 45 ((2 : Int32).toNatClampNeg) = mOe s.ba := hm3.2.1.2.2.1
    rw [this, hk]
    rfl
  -- the play before it is told whether who is on is done; the ball of a stroke that is in lies where it lay
  have y5 : ∀ (v3 v2 : Int32) (ba : Nat), v3 = nI (s.k + (if 2 ≤ r.1 then 2 else 1)) → v2 = nI ba → mMI G (r.2.2, some ba, s.k + (if 2 ≤ r.1 then 2 else 1), s.on, s.sc, s.y) (mPush h s) im tx la tr (m_up (m_up (m_up I3 45 0 (nI r.2.2)) 45 3 v3) 45 2 v2) L := by
    intro v3 v2 ba h3 h2
    obtain ⟨w0, w1, w2, w3, w4, w5⟩ := hm3.2.1
    refine hm3.play ⟨?_, ?_, ?_, ?_, fun q hq => ?_, fun c hc => ?_⟩ (fun a k _ h45 => by rw [m_ux h45, m_ux h45, m_ux h45]) rfl
    · rw [m_un (by decide), m_un (by decide), m_us]
    · rw [m_un (by decide), m_un (by decide), m_un (by decide)]
      exact w1
    · rw [m_us]
      exact h2
    · rw [m_un (by decide), m_us]
      exact h3
    · rw [m_un (by omega), m_un (by omega), m_un (by omega)]
      exact w4 q hq
    · rw [m_un (by omega), m_un (by omega), m_un (by omega)]
      exact w5 c hc
  have fx : ∀ (v3 v2 : Int32), mFm I L (m_up (m_up (m_up I3 45 0 (nI r.2.2)) 45 3 v3) 45 2 v2) L := by
    intro v3 v2 a ha
    refine ⟨?_, rfl⟩
    rw [m_up_ne (by omega), m_up_ne (by omega), m_up_ne (by omega), fr3 a (by omega) (by omega)]
    funext x
    exact s2 a x (by omega)
  -- the end
  have fin : ∀ (J : mF) (s' : mY), mMI G s' (mPush h s) im tx la tr J L → mFm I L J L → s' = mAf G s k p r → mWp S 114 167 [some (.ref 44), some (.int (nI d)), some (.int (nI n)), some (.int (mRm r))] [] (mSH, J, L, mRk b) (fun r2 w2 => ∃ I1 L1, r2 = some (.int (mRe r)) ∧ w2 = (mSH, I1, L1, mRk b) ∧ mMI G (mAf G s k p r) (mPush h s) im tx la tr I1 L1 ∧ mFm I L I1 L1) := by
    intro J s' h1 h2 h3
    subst h3
    exact k114_167 (c114_168 (f91 J) (k114_171 ⟨J, L, rfl, rfl, h1, h2⟩))
  have don : ∀ (J : mF) (s' : mY) (pts : Nat), mMI G s' (mPush h s) im tx la tr J L → mFm I L J L → s'.on = some p → pts ≤ 7 → ∃ I' : mF, mFn S 113 [.ref 44, .int (nI pts)] (mSH, J, L, mRk b) none (mSH, I', L, mRk b) ∧ mMI G (mEnds G s' p pts) (mPush h s) im tx la tr I' L ∧ mFm I L I' L := by
    intro J s' pts h1 h2 h3 h7
    obtain ⟨I', f, y, fr⟩ := S113 (S := S) (L := L) (b := b) h1.1 h1.2.1 hg (p := p) (pts := pts) h3 hpP h7
    exact ⟨I', f, h1.play y (fun a k _ h45 => by rw [fr a h45]) rfl, h2.tr (fun a ha => ⟨fr a (by omega), rfl⟩)⟩
  have hle : s.k + (if 2 ≤ r.1 then 2 else 1) ≤ 7 := by split <;> omega
  have d93 : ∀ (v : Int32), v = nI (s.k + (if 2 ≤ r.1 then 2 else 1)) → mWp S 114 93 [some (.ref 44), some (.int (nI d)), some (.int (nI n)), some (.int (mRm r))] [.int (v - nI s.k), .int (nI s.k), .int 3, .ref 45] (mSH, m_up I3 45 0 (nI r.2.2), L, mRk b) (fun r2 w2 => ∃ I1 L1, r2 = some (.int (mRe r)) ∧ w2 = (mSH, I1, L1, mRk b) ∧ mMI G (mAf G s k p r) (mPush h s) im tx la tr I1 L1 ∧ mFm I L I1 L1) := by
    intro v hv
    have ev : nI s.k + (v - nI s.k) = nI (s.k + (if 2 ≤ r.1 then 2 else 1)) := by
      rw [hv, ← nI_add, Int32.add_comm (nI s.k) (nI _), Int32.add_sub_cancel, Int32.add_comm]
    -- from 114 with the ball
    have d114 : ∀ (v2 : Int32) (ba : Nat), v2 = nI ba → (¬ r.1 = 1 → ba = if r.1 = 2 then k else r.2.1) → mWp S 114 114 [some (.ref 44), some (.int (nI d)), some (.int (nI n)), some (.int (mRm r))] [.int v2, .int 2, .ref 45] (mSH, m_up (m_up I3 45 0 (nI r.2.2)) 45 3 (nI s.k + (v - nI s.k)), L, mRk b) (fun r2 w2 => ∃ I1 L1, r2 = some (.int (mRe r)) ∧ w2 = (mSH, I1, L1, mRk b) ∧ mMI G (mAf G s k p r) (mPush h s) im tx la tr I1 L1 ∧ mFm I L I1 L1) := by
      intro v2 ba hv2 hba
      have yy := y5 _ v2 ba ev hv2
      have ff := fx (nI s.k + (v - nI s.k)) v2
      have j3 : (m_up (m_up (m_up I3 45 0 (nI r.2.2)) 45 3 (nI s.k + (v - nI s.k))) 45 2 v2) 45 ((3 : Int32).toNatClampNeg) = nI (s.k + (if 2 ≤ r.1 then 2 else 1)) := yy.2.1.2.2.2.1
      refine k114_114 (by decide) (fun q => ?_) (fun q => ?_)
      · show mWp S 114 121 _ _ (mSH, m_up (m_up (m_up I3 45 0 (nI r.2.2)) 45 3 (nI s.k + (v - nI s.k))) 45 2 v2, L, mRk b) _
        have h1 := e5.mp q
        have e7 : mEnds G (r.2.2, some ba, s.k + (if 2 ≤ r.1 then 2 else 1), s.on, s.sc, s.y) p (min 7 (s.k + (if 2 ≤ r.1 then 2 else 1))) = mAf G s k p r := by
          unfold mAf
          rw [if_pos h1]
          rfl
        obtain ⟨I', f, y, fr⟩ := don _ _ (min 7 (s.k + (if 2 ≤ r.1 then 2 else 1))) yy ff hon (Nat.min_le_left 7 _)
        refine k114_121 (fun q2 => k114_138 ?_) (fun q2 => k114_133 ?_)
        · rw [j3, show (6 : Int32) = nI 6 from rfl, nI_leI (by omega) (by decide)] at q2
          rw [j3]
          rw [Nat.min_eq_right (by omega)] at f
          exact c114_144 f (k114_147 (fin I' _ y fr e7))
        · rw [j3, show (6 : Int32) = nI 6 from rfl, nI_leI (by omega) (by decide)] at q2
          rw [Nat.min_eq_left (by omega)] at f
          exact c114_144 f (k114_147 (fin I' _ y fr e7))
      · show mWp S 114 150 _ _ (mSH, m_up (m_up (m_up I3 45 0 (nI r.2.2)) 45 3 (nI s.k + (v - nI s.k))) 45 2 v2, L, mRk b) _
        have h1 : ¬ r.1 = 1 := fun z => q (e5.mpr z)
        have hba := hba h1
        refine k114_150 (fun q2 => fin _ _ yy ff ?_) (fun q2 => k114_161 ?_)
        · rw [j3, show (6 : Int32) = nI 6 from rfl, nI_ltI (by omega) (by decide)] at q2
          unfold mAf
          rw [if_neg h1, if_pos q2, hba]
          rfl
        · rw [j3, show (6 : Int32) = nI 6 from rfl, nI_ltI (by omega) (by decide)] at q2
          obtain ⟨I', f, y, fr⟩ := don _ _ 7 yy ff hon (Nat.le_refl 7)
          refine c114_164 f (fin I' _ y fr ?_)
          unfold mAf
          rw [if_neg h1, if_neg q2]
          rfl
    refine k114_93 (by decide) (fun q => k114_113 ?_) (fun q => k114_104 ?_)
    · have h0 : r.1 = 0 := by
        match hq : r.1 with
        | 0 => rfl
        | 1 => rw [e5.mpr hq] at q; exact absurd q (by decide)
        | j + 2 => rw [e6.mpr (by omega)] at q; exact absurd q (by decide)
      have : mRm r = nI r.2.1 := mRm_0 h0
      exact d114 _ r.2.1 this (fun _ => by rw [h0]; rfl)
    · refine d114 _ k ?_ (fun h1 => ?_)
      · show m_up (m_up I3 45 0 (nI r.2.2)) 45 3 (nI s.k + (v - nI s.k)) 45 2 = nI k
        rw [m_un (by decide), m_un (by decide)]
        exact q32
      · have h0 : ¬ r.1 = 0 := by
          intro h0
          have : mRm r = nI r.2.1 := mRm_0 h0
          rw [this] at q
          exact q (nI_pos' (by omega))
        rw [if_pos (by omega)]
  have key : mWp S 114 0 [some (.ref 44), some (.int (nI d)), some (.int (nI n)), none] [] (mSH, I, L, mRk b) (fun r2 w2 => ∃ I1 L1, r2 = some (.int (mRe r)) ∧ w2 = (mSH, I1, L1, mRk b) ∧ mMI G (mAf G s k p r) (mPush h s) im tx la tr I1 L1 ∧ mFm I L I1 L1) := by
    refine k114_0 (c114_2 f1 (k114_5 (fun q => absurd q (show ¬ (1 : Int32) = 0 by decide)) (fun _ => k114_10 (c114_11 f7 (k114_14 (fun _ => k114_20 ?_) (fun q => absurd rfl q))))))
    rw [z0, z2]
    refine c114_35 f2 (k114_38 (fun _ => k114_58 (c114_59 f3 (k114_62 (fun q => k114_88 ?_) (fun q => k114_92 ?_)))) (fun q => ?_))
    · rw [p31]
      show mWp S 114 93 _ [.int 2, .int ((m_up I3 45 0 (nI r.2.2)) 45 3), .int 3, .ref 45] (mSH, m_up I3 45 0 (nI r.2.2), L, mRk b) _
      rw [m_un (by decide), show I3 45 3 = nI s.k from q31]
      have := d93 (nI s.k + 2) (by rw [if_pos (e6.mp q)]; exact nI_add s.k 2)
      rw [Int32.add_comm (nI s.k) 2, Int32.add_sub_cancel] at this
      exact this
    · rw [p31]
      show mWp S 114 93 _ [.int 1, .int ((m_up I3 45 0 (nI r.2.2)) 45 3), .int 3, .ref 45] (mSH, m_up I3 45 0 (nI r.2.2), L, mRk b) _
      rw [m_un (by decide), show I3 45 3 = nI s.k from q31]
      have := d93 (nI s.k + 1) (by rw [if_neg (fun z => q (e6.mpr z))]; exact nI_add s.k 1)
      rw [Int32.add_comm (nI s.k) 1, Int32.add_sub_cancel] at this
      exact this
    · exfalso
      rw [p30, show (99999 : Int32) = nI 99999 from rfl, nI_leI (by omega) (by decide)] at q
      exact q hl
  obtain ⟨r2, w2, hf, I1, L1, rfl, rfl, q1, q2⟩ := ex114 key
  exact ⟨I1, L1, hf, q1, q2⟩
theorem Cs_strikes (x y : Int32) : mCs S 51 114 [.int x, .int y] := by
  refine mCs_of fun G s h im tx la tr I L b hw hx hm => ?_
  have hg := hw.1
  have hs := hw.2.1
  have hh := hw.2.2.1
  have ho := hs.on31 hg
  have ht := hs.1
  by_cases hk : mIsK x y
  · by_cases hon : s.on = none
    · refine ⟨.int (-2), G, s, h, im, tx, la, tr, hw, ?_, fun I1 L1 hm1 => ?_⟩
      · obtain ⟨r1, f1, t1, -⟩ := S52 (S := S) (I := I) (L := L) (b := b) x y
        refine ⟨I, L, e51 (k51_0 (c51_2 f1 (k51_5 (fun q => ?_) (fun _ => k51_10 (fun q => ?_) (fun _ => k51_20 ⟨rfl, rfl⟩))))), hx, mFx.rf⟩
        · rw [t1 hk] at q
          exact absurd q (by decide)
        · rw [hx.2.1.2.2.2.1, mOe_ge ho] at q
          exact absurd hon q
      · obtain ⟨r2, f2, t2, -⟩ := S106 (S := S) (I := I1) (L := L1) (b := b) x y
        obtain ⟨r3, f3, t3, -⟩ := S107 (S := S) (L := L1) (b := b) hm1.2.1 ho
        refine ⟨I1, L1, e114 (k114_0 (c114_2 f2 (k114_5 (fun q => ?_) (fun _ => k114_10 (c114_11 f3 (k114_14 (fun q => ?_) (fun _ => k114_17 ⟨rfl, rfl⟩))))))), hm1, mFm.rf⟩
        · rw [t2 hk] at q
          exact absurd q (by decide)
        · rw [t3 hon] at q
          exact absurd q (by decide)
    · obtain ⟨k, hkb⟩ := hs.ball hon
      obtain ⟨p, hp⟩ : ∃ p, s.on = some p := by
        cases h : s.on with
        | none => exact absurd h hon
        | some p => exact ⟨p, rfl⟩
      obtain ⟨⟨d, -, hd, rfl⟩, n, hn, hn6, rfl⟩ := id hk
      by_cases hl : (mRs G s k 0 d n).2.2 ≤ 99999
      · exact ⟨_, G, _, _, im, tx, la, tr, ⟨hg, mAf_w hs hg hkb hp (mRs_on hg hs hkb) hl, mPush_w hh hs, hw.2.2.2⟩, X51 hx hg hs hh.1 hkb hp (by omega) hn hn6 hl, fun I1 L1 hm1 => M114 hm1 hg hs hh.1 hkb hp (by omega) hn hn6 hl⟩
      · have htl : (mRs G s k 0 d n).2.2 ≤ s.t + 0 + n := mRoll_t n k d (s.t + 0)
        refine ⟨.int (-2), G, s, h, im, tx, la, tr, hw, ?_, fun I1 L1 hm1 => ?_⟩
        · obtain ⟨r1, f1, t1, -⟩ := S52 (S := S) (I := I) (L := L) (b := b) (nI d) (nI n)
          have r1 := t1 hk
          subst r1
          obtain ⟨I2, f2, s2, p0, p1⟩ := S53 (S := S) hx.1 hx.2.1 hg hs hkb (w := 0) (d := d) (n := n) (by decide) (by omega) hn6
          refine ⟨I2, L, e51 (k51_0 (c51_2 f1 (k51_5 (fun q => absurd q (show ¬ (1 : Int32) = 0 by decide)) (fun _ => k51_10 (fun _ => k51_23 (c51_27 f2 (k51_30 (fun q => ?_) (fun _ => k51_43 ⟨rfl, rfl⟩)))) (fun q => ?_))))), hx.sm (s2.x14 (L := L)).1 (fun _ _ => rfl), (s2.x14 (b := b)).2⟩
          · exfalso
            rw [p1, show (99999 : Int32) = nI 99999 from rfl, nI_leI (by omega) (by decide)] at q
            exact hl q
          · exfalso
            rw [hx.2.1.2.2.2.1, mOe_ge ho] at q
            exact q hon
        · obtain ⟨r2, f2, t2, -⟩ := S106 (S := S) (I := I1) (L := L1) (b := b) (nI d) (nI n)
          have r2 := t2 hk
          subst r2
          obtain ⟨r3, f3, -, t3⟩ := S107 (S := S) (L := L1) (b := b) hm1.2.1 ho
          have r3 := t3 hon
          subst r3
          obtain ⟨I3, f4, h4, p0⟩ := S105s (S := S) (L := L1) (b := b) hm1.1 hm1.2.1 hg hs hkb (w := 0) (d := d) (n := n) (by decide) (by omega) hn6
          have hm3 := hm1.sm (h4.m2 (L := L1)).1 rfl
          have z0 : I1 45 ((0 : Int32).toNatClampNeg) = nI s.t := hm1.2.1.1
          have y0 : I3 45 ((0 : Int32).toNatClampNeg) = nI s.t := hm3.2.1.1
          have z2 : I1 45 ((2 : Int32).toNatClampNeg) = nI k := by
            have : I1 45 ((2 : Int32).toNatClampNeg) = mOe s.ba := hm1.2.1.2.2.1
            rw [this, hkb]
            rfl
          refine ⟨I3, L1, e114 (k114_0 (c114_2 f2 (k114_5 (fun q => absurd q (show ¬ (1 : Int32) = 0 by decide)) (fun _ => k114_10 (c114_11 f3 (k114_14 (fun _ => k114_20 ?_) (fun q => absurd rfl q))))))), hm3, (h4.m2 (L := L1)).2⟩
          rw [z0, z2]
          refine c114_35 f4 (k114_38 (fun q => ?_) (fun _ => k114_55 ⟨rfl, rfl⟩))
          exfalso
          rw [y0, p0, nI_add, show (99999 : Int32) = nI 99999 from rfl, nI_leI (by omega) (by decide)] at q
          omega
  · refine ⟨.int (-1), G, s, h, im, tx, la, tr, hw, ?_, fun I1 L1 hm1 => ?_⟩
    · obtain ⟨r1, f1, -, t1⟩ := S52 (S := S) (I := I) (L := L) (b := b) x y
      exact ⟨I, L, e51 (k51_0 (c51_2 f1 (k51_5 (fun _ => k51_8 ⟨rfl, rfl⟩) (fun q => absurd (t1 hk) q)))), hx, mFx.rf⟩
    · obtain ⟨r2, f2, -, t2⟩ := S106 (S := S) (I := I1) (L := L1) (b := b) x y
      exact ⟨I1, L1, e114 (k114_0 (c114_2 f2 (k114_5 (fun _ => k114_8 ⟨rfl, rfl⟩) (fun q => absurd (t2 hk) q)))), hm1, mFm.rf⟩
end STRIKES2
