/-! what holds between calls -/
/-- wide, rows, turn, open, players, tee, ground -/
abbrev mG : Type := Nat × Nat × Nat × Nat × Nat × Option Nat × (Nat → Nat)
abbrev mG.W (G : mG) : Nat := G.1
abbrev mG.H (G : mG) : Nat := G.2.1
abbrev mG.T (G : mG) : Nat := G.2.2.1
abbrev mG.O (G : mG) : Nat := G.2.2.2.1
abbrev mG.P (G : mG) : Nat := G.2.2.2.2.1
abbrev mG.te (G : mG) : Option Nat := G.2.2.2.2.2.1
abbrev mG.g (G : mG) : Nat → Nat := G.2.2.2.2.2.2
/-- tick, ball, strokes, on, scores, boards -/
abbrev mY : Type := Nat × Option Nat × Nat × Option Nat × (Nat → Nat) × Int64
abbrev mY.t (s : mY) : Nat := s.1
abbrev mY.ba (s : mY) : Option Nat := s.2.1
abbrev mY.k (s : mY) : Nat := s.2.2.1
abbrev mY.on (s : mY) : Option Nat := s.2.2.2.1
abbrev mY.sc (s : mY) : Nat → Nat := s.2.2.2.2.1
abbrev mY.y (s : mY) : Int64 := s.2.2.2.2.2
abbrev mH : Type := Nat × (Nat → mY)
abbrev mJ : Type := Nat → Option mY
abbrev mTx : Type := Nat × (Nat → Nat)
abbrev mLy : Type := Nat × (Nat → Option Nat)
abbrev mF : Type := Nat → Nat → Int32
abbrev mFL : Type := Nat → Nat → Int64
/-- what has been laid: a place, or in -/
def mOf (o : Option Nat) : Int32 := match o with
  | none => -5
  | some k => nI k
def mGw (G : mG) : Prop := (G.W ≤ 7 ∧ G.H ≤ 7) ∧ 0 < G.T ∧ G.T ≤ 6 ∧ G.O < G.T ∧ (0 < G.P ∧ G.P ≤ 4) ∧ (∀ c, G.te = some c → mOn G.W G.H c) ∧ ∀ k, k < 49 → ¬ G.g k = 1 ∧ G.g k < 5
def mYw (G : mG) (s : mY) : Prop := s.t ≤ 99999 ∧ (∀ c, s.ba = some c → mOn G.W G.H c) ∧ ((s.ba = none ↔ s.on = none) ∧ (G.te = none → s.on = none)) ∧ (∀ p, s.on = some p → p < G.P) ∧ s.k ≤ 5 ∧ (∀ q, s.sc q ≤ 7) ∧ ∀ k, mB s.y k = true → mOn G.W G.H k ∧ G.g k = 0
def mWf (G : mG) (s : mY) (h : mH) (im : mJ) (tx : mTx) (la : mLy) : Prop := mGw G ∧ mYw G s ∧ (h.1 ≤ 10 ∧ ∀ i, i < h.1 → mYw G (h.2 i)) ∧ (∀ i z, im i = some z → mYw G z) ∧ (tx.1 ≤ 150 ∧ ∀ i, i < tx.1 → tx.2 i < 256) ∧ (la.1 ≤ 5 ∧ ∀ i c, i < la.1 → la.2 i = some c → c < 49)
-- the class
def mXL (G : mG) (b : Bool) (I : mF) : Prop := I (mLa b) 0 = nI G.W ∧ I (mLa b) 1 = nI G.H ∧ I (mLa b) 2 = nI G.T ∧ I (mLa b) 3 = nI G.O ∧ I (mLa b) 4 = nI G.P ∧ I (mLa b) 5 = mOe G.te ∧ ∀ k, k < 49 → I (mLg b) k = nI (G.g k)
def mXY (s : mY) (p : Nat) (I : mF) (L : mFL) : Prop := I p 0 = nI s.t ∧ I p 1 = mOe s.ba ∧ I p 2 = nI s.k ∧ I p 3 = mOe s.on ∧ (∀ q, q < 4 → I (p + 1) q = nI (s.sc q)) ∧ L p 4 = s.y
def mXH (h : mH) (I : mF) (L : mFL) : Prop := ∃ pn, pn < 10 ∧ I 1 5 = nI pn ∧ I 1 6 = nI h.1 ∧ ∀ i, i < h.1 → mXY (h.2 i) (20 + 2 * ((pn + 10 - h.1 + i) % 10)) I L
def mXM (im : mJ) (I : mF) (L : mFL) : Prop := ∀ i, i < 2 → match im i with
  | none => I 12 i = 0
  | some z => I 12 i = 1 ∧ mXY z (40 + 2 * i) I L
def mXT (tx : mTx) (I : mF) : Prop := I 2 1 = nI tx.1 ∧ ∀ i, i < tx.1 → I 3 i = nI (tx.2 i)
def mXA (la : mLy) (I : mF) : Prop := I 1 10 = nI la.1 ∧ ∀ i, i < la.1 → I 13 i = mOf (la.2 i)
def mXI (G : mG) (s : mY) (h : mH) (im : mJ) (tx : mTx) (la : mLy) (tr : Int64) (b : Bool) (I : mF) (L : mFL) : Prop := mXL G b I ∧ mXY s 8 I L ∧ mXH h I L ∧ mXM im I L ∧ mXT tx I ∧ mXA la I ∧ L 1 13 = tr
-- the reference
def mML (G : mG) (I : mF) : Prop := I 44 0 = nI G.W ∧ I 44 1 = nI G.H ∧ I 44 2 = nI G.T ∧ I 44 3 = nI G.O ∧ I 44 4 = nI G.P ∧ I 44 5 = mOe G.te
def mMY (G : mG) (s : mY) (a o : Nat) (I : mF) : Prop := I a o = nI s.t ∧ I a (o + 1) = mOe s.on ∧ I a (o + 2) = mOe s.ba ∧ I a (o + 3) = nI s.k ∧ (∀ q, q < 4 → I a (o + (4 + q)) = nI (s.sc q)) ∧ ∀ c, mOn G.W G.H c → I a (o + (8 + c)) = nI (mK G.g s.y c)
def mMH (G : mG) (h : mH) (I : mF) : Prop := I 44 8 = nI h.1 ∧ ∀ i, i < h.1 → mMY G (h.2 i) 46 (57 * i) I
def mMM (G : mG) (im : mJ) (I : mF) : Prop := ∀ i, i < 2 → match im i with
  | none => I 48 i = 0
  | some z => I 48 i = 1 ∧ mMY G z 47 (57 * i) I
def mMT (tx : mTx) (I : mF) : Prop := I 44 15 = nI tx.1 ∧ ∀ i, i < tx.1 → I 50 i = nI (tx.2 i)
def mMA (la : mLy) (I : mF) : Prop := I 44 11 = nI la.1 ∧ ∀ i, i < la.1 → I 49 i = mOf (la.2 i)
def mMI (G : mG) (s : mY) (h : mH) (im : mJ) (tx : mTx) (la : mLy) (tr : Int64) (I : mF) (L : mFL) : Prop := mML G I ∧ mMY G s 45 0 I ∧ mMH G h I ∧ mMM G im I ∧ mMT tx I ∧ mMA la I ∧ L 44 13 = tr
/-- where the class's and the reference's parts lie -/
def mRx (b : Bool) (a k : Nat) : Prop := a = mLa b ∨ a = mLg b ∨ a = 8 ∨ a = 9 ∨ (a = 1 ∧ (k = 5 ∨ k = 6 ∨ k = 10)) ∨ a = 3 ∨ (a = 2 ∧ k = 1) ∨ a = 12 ∨ a = 13 ∨ (20 ≤ a ∧ a < 44)
def mRm2 (a k : Nat) : Prop := (a = 44 ∧ (k < 6 ∨ k = 8 ∨ k = 11 ∨ k = 15)) ∨ (45 ≤ a ∧ a ≤ 50)
def mSx (b : Bool) (I I' : mF) : Prop := ∀ a k, mRx b a k → I' a k = I a k
def mSm2 (I I' : mF) : Prop := ∀ a k, mRm2 a k → I' a k = I a k
theorem mLa_lt (b : Bool) : mLa b < 44 ∧ mLg b < 44 := by cases b <;> decide
theorem mXL.sm {G : mG} {b : Bool} {I I' : mF} (h : mXL G b I) (hs : ∀ a k, a = mLa b ∨ a = mLg b → I' a k = I a k) : mXL G b I' := by
  obtain ⟨h0, h1, h2, h3, h4, h5, h6⟩ := h
  refine ⟨?_, ?_, ?_, ?_, ?_, ?_, fun k hk => ?_⟩
  · rw [hs _ _ (Or.inl rfl)]; exact h0
  · rw [hs _ _ (Or.inl rfl)]; exact h1
  · rw [hs _ _ (Or.inl rfl)]; exact h2
  · rw [hs _ _ (Or.inl rfl)]; exact h3
  · rw [hs _ _ (Or.inl rfl)]; exact h4
  · rw [hs _ _ (Or.inl rfl)]; exact h5
  · rw [hs _ _ (Or.inr rfl)]; exact h6 k hk
theorem mXY.sm {s : mY} {p : Nat} {I I' : mF} {L L' : mFL} (h : mXY s p I L) (h1 : I' p = I p) (h2 : I' (p + 1) = I (p + 1)) (h3 : L' p 4 = L p 4) : mXY s p I' L' := by
  unfold mXY
  rw [h1, h2, h3]
  exact h
theorem mXH.sm {h : mH} {I I' : mF} {L L' : mFL} (hh : mXH h I L) (h5 : I' 1 5 = I 1 5) (h6 : I' 1 6 = I 1 6) (h1 : ∀ a, 20 ≤ a → a < 40 → I' a = I a ∧ L' a = L a) : mXH h I' L' := by
  obtain ⟨pn, hp, p5, p6, pi⟩ := hh
  refine ⟨pn, hp, h5.trans p5, h6.trans p6, fun i hi => ?_⟩
  exact (pi i hi).sm (h1 _ (by omega) (by omega)).1 (h1 _ (by omega) (by omega)).1 (by rw [(h1 _ (by omega) (by omega)).2])
theorem mXM.sm {im : mJ} {I I' : mF} {L L' : mFL} (hh : mXM im I L) (h0 : I' 12 = I 12) (h1 : ∀ a, 40 ≤ a → a < 44 → I' a = I a ∧ L' a = L a) : mXM im I' L' := by
  intro i hi
  have := hh i hi
  revert this
  cases im i with
  | none => dsimp only; rw [h0]; exact id
  | some z =>
    dsimp only
    rw [h0]
    rintro ⟨q1, q2⟩
    exact ⟨q1, q2.sm (h1 _ (by omega) (by omega)).1 (h1 _ (by omega) (by omega)).1 (by rw [(h1 _ (by omega) (by omega)).2])⟩
theorem mXT.sm {tx : mTx} {I I' : mF} (h : mXT tx I) (h1 : I' 2 1 = I 2 1) (h2 : I' 3 = I 3) : mXT tx I' := by
  unfold mXT
  rw [h1, h2]
  exact h
theorem mXA.sm {la : mLy} {I I' : mF} (h : mXA la I) (h1 : I' 1 10 = I 1 10) (h2 : I' 13 = I 13) : mXA la I' := by
  unfold mXA
  rw [h1, h2]
  exact h
theorem mSx.a {b : Bool} {I I' : mF} (h : mSx b I I') (a : Nat) (ha : ∀ k, mRx b a k) : I' a = I a := funext fun k => h a k (ha k)
theorem mXI.sm {G : mG} {s : mY} {h : mH} {im : mJ} {tx : mTx} {la : mLy} {tr : Int64} {b : Bool} {I I' : mF} {L L' : mFL} (hx : mXI G s h im tx la tr b I L) (hi : mSx b I I') (hl : ∀ a, a < 44 → L' a = L a) : mXI G s h im tx la tr b I' L' := by
  obtain ⟨x1, x2, x3, x4, x5, x6, x7⟩ := hx
  refine ⟨x1.sm ?_, x2.sm ?_ ?_ ?_, x3.sm ?_ ?_ ?_, x4.sm ?_ ?_, x5.sm ?_ ?_, x6.sm ?_ ?_, ?_⟩
  · rintro a k (rfl | rfl)
    · exact hi _ _ (Or.inl rfl)
    · exact hi _ _ (Or.inr (Or.inl rfl))
  · exact hi.a 8 (fun k => by unfold mRx; simp)
  · exact hi.a 9 (fun k => by unfold mRx; simp)
  · rw [hl 8 (by decide)]
  · exact hi 1 5 (by unfold mRx; simp)
  · exact hi 1 6 (by unfold mRx; simp)
  · exact fun a h1 h2 => ⟨hi.a a (fun k => by unfold mRx; omega), hl a (by omega)⟩
  · exact hi.a 12 (fun k => by unfold mRx; simp)
  · exact fun a h1 h2 => ⟨hi.a a (fun k => by unfold mRx; omega), hl a (by omega)⟩
  · exact hi 2 1 (by unfold mRx; simp)
  · exact hi.a 3 (fun k => by unfold mRx; simp)
  · exact hi 1 10 (by unfold mRx; simp)
  · exact hi.a 13 (fun k => by unfold mRx; simp)
  · rw [hl 1 (by decide)]; exact x7
theorem mML.sm {G : mG} {I I' : mF} (h : mML G I) (h1 : ∀ k, k < 6 → I' 44 k = I 44 k) : mML G I' := by
  unfold mML
  rw [h1 0 (by decide), h1 1 (by decide), h1 2 (by decide), h1 3 (by decide), h1 4 (by decide), h1 5 (by decide)]
  exact h
theorem mMY.sm {G : mG} {s : mY} {a o : Nat} {I I' : mF} (h : mMY G s a o I) (h1 : I' a = I a) : mMY G s a o I' := by
  unfold mMY
  rw [h1]
  exact h
theorem mMH.sm {G : mG} {h : mH} {I I' : mF} (hh : mMH G h I) (h1 : I' 44 8 = I 44 8) (h2 : I' 46 = I 46) : mMH G h I' := ⟨h1.trans hh.1, fun i hi => (hh.2 i hi).sm h2⟩
theorem mMM.sm {G : mG} {im : mJ} {I I' : mF} (hh : mMM G im I) (h1 : I' 48 = I 48) (h2 : I' 47 = I 47) : mMM G im I' := by
  intro i hi
  have := hh i hi
  revert this
  cases im i with
  | none => dsimp only; rw [h1]; exact id
  | some z =>
    dsimp only
    rw [h1]
    rintro ⟨q1, q2⟩
    exact ⟨q1, q2.sm h2⟩
theorem mMT.sm {tx : mTx} {I I' : mF} (h : mMT tx I) (h1 : I' 44 15 = I 44 15) (h2 : I' 50 = I 50) : mMT tx I' := by
  unfold mMT
  rw [h1, h2]
  exact h
theorem mMA.sm {la : mLy} {I I' : mF} (h : mMA la I) (h1 : I' 44 11 = I 44 11) (h2 : I' 49 = I 49) : mMA la I' := by
  unfold mMA
  rw [h1, h2]
  exact h
theorem mSm2.a {I I' : mF} (h : mSm2 I I') (a : Nat) (h1 : 45 ≤ a) (h2 : a ≤ 50) : I' a = I a := funext fun k => h a k (Or.inr ⟨h1, h2⟩)
theorem mMI.sm {G : mG} {s : mY} {h : mH} {im : mJ} {tx : mTx} {la : mLy} {tr : Int64} {I I' : mF} {L L' : mFL} (hx : mMI G s h im tx la tr I L) (hi : mSm2 I I') (hl : L' 44 13 = L 44 13) : mMI G s h im tx la tr I' L' := by
  obtain ⟨x1, x2, x3, x4, x5, x6, x7⟩ := hx
  refine ⟨x1.sm ?_, x2.sm ?_, x3.sm ?_ ?_, x4.sm ?_ ?_, x5.sm ?_ ?_, x6.sm ?_ ?_, ?_⟩
  · exact fun k hk => hi 44 k (Or.inl ⟨rfl, Or.inl hk⟩)
  · exact hi.a 45 (by decide) (by decide)
  · exact hi 44 8 (by unfold mRm2; simp)
  · exact hi.a 46 (by decide) (by decide)
  · exact hi.a 48 (by decide) (by decide)
  · exact hi.a 47 (by decide) (by decide)
  · exact hi 44 15 (by unfold mRm2; simp)
  · exact hi.a 50 (by decide) (by decide)
  · exact hi 44 11 (by unfold mRm2; simp)
  · exact hi.a 49 (by decide) (by decide)
  · rw [hl]; exact x7
/-- what only the class, only the reference may change -/
def mFx (I : mF) (L : mFL) (I' : mF) (L' : mFL) : Prop := ∀ a, 44 ≤ a → I' a = I a ∧ L' a = L a
def mFm (I : mF) (L : mFL) (I' : mF) (L' : mFL) : Prop := ∀ a, a < 44 → I' a = I a ∧ L' a = L a
theorem mFx.rf {I : mF} {L : mFL} : mFx I L I L := fun _ _ => ⟨rfl, rfl⟩
theorem mFm.rf {I : mF} {L : mFL} : mFm I L I L := fun _ _ => ⟨rfl, rfl⟩
theorem mFx.tr {I I1 I2 : mF} {L L1 L2 : mFL} (h : mFx I L I1 L1) (h2 : mFx I1 L1 I2 L2) : mFx I L I2 L2 := fun a ha => ⟨(h2 a ha).1.trans (h a ha).1, (h2 a ha).2.trans (h a ha).2⟩
theorem mFm.tr {I I1 I2 : mF} {L L1 L2 : mFL} (h : mFm I L I1 L1) (h2 : mFm I1 L1 I2 L2) : mFm I L I2 L2 := fun a ha => ⟨(h2 a ha).1.trans (h a ha).1, (h2 a ha).2.trans (h a ha).2⟩
theorem mFx.up {I I1 : mF} {L L1 : mFL} {a k : Nat} {v : Int32} (h : mFx I L I1 L1) (ha : a < 44) : mFx I L (m_up I1 a k v) L1 := fun x hx => ⟨(m_up_ne (by omega)).trans (h x hx).1, (h x hx).2⟩
theorem mFx.upL {I I1 : mF} {L L1 : mFL} {a k : Nat} {v : Int64} (h : mFx I L I1 L1) (ha : a < 44) : mFx I L I1 (m_up L1 a k v) := fun x hx => ⟨(h x hx).1, (m_up_ne (by omega)).trans (h x hx).2⟩
theorem mFm.up {I I1 : mF} {L L1 : mFL} {a k : Nat} {v : Int32} (h : mFm I L I1 L1) (ha : 44 ≤ a) : mFm I L (m_up I1 a k v) L1 := fun x hx => ⟨(m_up_ne (by omega)).trans (h x hx).1, (h x hx).2⟩
theorem mFm.upL {I I1 : mF} {L L1 : mFL} {a k : Nat} {v : Int64} (h : mFm I L I1 L1) (ha : 44 ≤ a) : mFm I L I1 (m_up L1 a k v) := fun x hx => ⟨(h x hx).1, (m_up_ne (by omega)).trans (h x hx).2⟩
theorem mXI.fm {G : mG} {s : mY} {h : mH} {im : mJ} {tx : mTx} {la : mLy} {tr : Int64} {b : Bool} {I I' : mF} {L L' : mFL} (hx : mXI G s h im tx la tr b I L) (hf : mFm I L I' L') : mXI G s h im tx la tr b I' L' := by
  refine hx.sm (fun a k hr => ?_) (fun a ha => (hf a ha).2)
  have : a < 44 := by
    have := mLa_lt b
    unfold mRx at hr
    omega
  rw [(hf a this).1]
theorem mMI.fx {G : mG} {s : mY} {h : mH} {im : mJ} {tx : mTx} {la : mLy} {tr : Int64} {I I' : mF} {L L' : mFL} (hx : mMI G s h im tx la tr I L) (hf : mFx I L I' L') : mMI G s h im tx la tr I' L' := by
  refine hx.sm (fun a k hr => ?_) (by rw [(hf 44 (by decide)).2])
  have : 44 ≤ a := by
    unfold mRm2 at hr
    omega
  rw [(hf a this).1]
def mOk (I : mF) (L : mFL) (b : Bool) : Prop := ∃ G s h im tx la tr, mWf G s h im tx la ∧ mXI G s h im tx la tr b I L ∧ mMI G s h im tx la tr I L
/-- a call, asked of both, is answered alike -/
def mCs (S : mS) (fx fm : Nat) (av : List Value) : Prop := ∀ I L b, mOk I L b → ∃ (r : Value) (I1 : mF) (L1 : mFL) (b1 : Bool) (I2 : mF) (L2 : mFL), mFn S fx (.ref 1 :: av) (mSH, I, L, mRk b) (some r) (mSH, I1, L1, mRk b1) ∧ mFn S fm (.ref 44 :: av) (mSH, I1, L1, mRk b1) (some r) (mSH, I2, L2, mRk b1) ∧ mOk I2 L2 b1
/-- the class's half of a call, the reference's half -/
def mCx (S : mS) (fx : Nat) (av : List Value) (r : Value) (G : mG) (s : mY) (h : mH) (im : mJ) (tx : mTx) (la : mLy) (tr : Int64) (I : mF) (L : mFL) (b : Bool) : Prop := ∃ I1 L1, mFn S fx (.ref 1 :: av) (mSH, I, L, mRk b) (some r) (mSH, I1, L1, mRk b) ∧ mXI G s h im tx la tr b I1 L1 ∧ mFx I L I1 L1
def mCm (S : mS) (fm : Nat) (av : List Value) (r : Value) (G : mG) (s : mY) (h : mH) (im : mJ) (tx : mTx) (la : mLy) (tr : Int64) (I : mF) (L : mFL) (b : Bool) : Prop := ∃ I1 L1, mFn S fm (.ref 44 :: av) (mSH, I, L, mRk b) (some r) (mSH, I1, L1, mRk b) ∧ mMI G s h im tx la tr I1 L1 ∧ mFm I L I1 L1
theorem mCs_of {S : mS} {fx fm : Nat} {av : List Value} (hh : ∀ G s h im tx la tr I L b, mWf G s h im tx la → mXI G s h im tx la tr b I L → mMI G s h im tx la tr I L → ∃ r G' s' h' im' tx' la' tr', mWf G' s' h' im' tx' la' ∧ mCx S fx av r G' s' h' im' tx' la' tr' I L b ∧ ∀ I1 L1, mMI G s h im tx la tr I1 L1 → mCm S fm av r G' s' h' im' tx' la' tr' I1 L1 b) : mCs S fx fm av := by
  intro I L b ⟨G, s, h, im, tx, la, tr, hw, hx, hm⟩
  obtain ⟨r, G', s', h', im', tx', la', tr', hw', ⟨I1, L1, f1, x1, fr1⟩, c2⟩ := hh G s h im tx la tr I L b hw hx hm
  obtain ⟨I2, L2, f2, m2, fr2⟩ := c2 I1 L1 (hm.fx fr1)
  exact ⟨r, I1, L1, b, I2, L2, f1, f2, G', s', h', im', tx', la', tr', hw', x1.fm fr2, m2⟩
/-- a call that changes nothing -/
theorem mCs_q {S : mS} {fx fm : Nat} {av : List Value} (hh : ∀ G s h im tx la tr I L b, mWf G s h im tx la → mXI G s h im tx la tr b I L → ∃ r, (∃ I1 L1, mFn S fx (.ref 1 :: av) (mSH, I, L, mRk b) (some r) (mSH, I1, L1, mRk b) ∧ mSx b I I1 ∧ mFx I L I1 L1 ∧ ∀ a, a < 44 → L1 a = L a) ∧ ∀ I1 L1, mMI G s h im tx la tr I1 L1 → ∃ I2, mFn S fm (.ref 44 :: av) (mSH, I1, L1, mRk b) (some r) (mSH, I2, L1, mRk b) ∧ mSm2 I1 I2 ∧ mFm I1 L1 I2 L1) : mCs S fx fm av := by
  refine mCs_of fun G s h im tx la tr I L b hw hx hm => ?_
  obtain ⟨r, ⟨I1, L1, f1, s1, fr1, l1⟩, c2⟩ := hh G s h im tx la tr I L b hw hx
  refine ⟨r, G, s, h, im, tx, la, tr, hw, ⟨I1, L1, f1, hx.sm s1 l1, fr1⟩, fun I2 L2 hm2 => ?_⟩
  obtain ⟨I3, f3, s3, fr3⟩ := c2 I2 L2 hm2
  exact ⟨I3, L2, f3, hm2.sm s3 rfl, fr3⟩
