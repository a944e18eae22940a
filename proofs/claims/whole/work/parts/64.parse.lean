/-! a text, read -/
/-- wide, rows, turn (0: not told), open, players (0: not told), tee, hole, cells -/
abbrev mDd : Type := Nat × Nat × Nat × Nat × Nat × Option Nat × Bool × (Nat → Nat)
abbrev mDd.W (D : mDd) : Nat := D.1
abbrev mDd.R (D : mDd) : Nat := D.2.1
abbrev mDd.tu (D : mDd) : Nat := D.2.2.1
abbrev mDd.op (D : mDd) : Nat := D.2.2.2.1
abbrev mDd.pl (D : mDd) : Nat := D.2.2.2.2.1
abbrev mDd.te (D : mDd) : Option Nat := D.2.2.2.2.2.1
abbrev mDd.ho (D : mDd) : Bool := D.2.2.2.2.2.2.1
abbrev mDd.K (D : mDd) : Nat → Nat := D.2.2.2.2.2.2.2
abbrev mWd.st (T : mWd) : Nat := T.1
abbrev mWd.kd (T : mWd) : Nat := T.2.1
abbrev mWd.v (T : mWd) : Nat := T.2.2.1
abbrev mWd.bh (T : mWd) : Nat := T.2.2.2
abbrev mRz : Type := Bool × mDd × mWd
def mSet (K : Nat → Nat) (a q : Nat) : Nat → Nat := fun k => if k = a then q else K k
def mEndI (tx : mTx) (D : mDd) (T : mWd) : mRz := (decide ((mTok tx T.bh).kd = 3), D, mTok tx T.bh)
def mNb2 (T : mWd) (lo h : Nat) : Bool := decide (T.kd = 2 ∧ lo ≤ T.v ∧ T.v < h)
def mKc (c : Nat) : Option Nat := if c = 102 then some 0 else if c = 120 then some 1 else if c = 112 then some 2 else if c = 104 then some 3 else if c = 109 then some 4 else none
def mKd (T : mWd) : Option Nat := if T.kd = 1 then mKc T.v else none
def mWid (tx : mTx) (n : Nat) (D : mDd) (T : mWd) : mRz :=
  if ¬ n = 0 then (false, D, T) else if mNb2 (mTok tx T.bh) 2 8 = false then (false, D, mTok tx T.bh)
  else mEndI tx ((mTok tx T.bh).v, D.2) (mTok tx T.bh)
def mRw (tx : mTx) : Nat → Nat → mDd → mWd → mRz
  | 0, _, D, T => (true, D, T)
  | m + 1, x, D, T => match mKd (mTok tx T.bh) with
    | none => (false, D, mTok tx T.bh)
    | some q => if q = 3 ∧ D.ho = true then (false, D, mTok tx T.bh) else mRw tx m (x + 1) (D.W, D.R, D.tu, D.op, D.pl, D.te, (D.ho || decide (q = 3)), mSet D.K (7 * D.R + x) q) (mTok tx T.bh)
def mRowI (tx : mTx) (D : mDd) (T : mWd) : mRz :=
  if D.W = 0 ∨ 7 ≤ D.R ∨ ¬ D.te = none then (false, D, T) else if (mRw tx D.W 0 D T).1 = false then mRw tx D.W 0 D T
  else mEndI tx ((mRw tx D.W 0 D T).2.1.1, (mRw tx D.W 0 D T).2.1.2.1 + 1, (mRw tx D.W 0 D T).2.1.2.2) (mRw tx D.W 0 D T).2.2
def mTeI (tx : mTx) (D : mDd) (T : mWd) : mRz :=
  if ¬ D.te = none then (false, D, T) else if mNb2 (mTok tx T.bh) 0 D.W = false then (false, D, mTok tx T.bh)
  else if mNb2 (mTok tx (mTok tx T.bh).bh) 0 D.R = false ∨ ¬ D.K (7 * (mTok tx (mTok tx T.bh).bh).v + (mTok tx T.bh).v) = 0 then (false, D, mTok tx (mTok tx T.bh).bh)
  else mEndI tx (D.W, D.R, D.tu, D.op, D.pl, some (7 * (mTok tx (mTok tx T.bh).bh).v + (mTok tx T.bh).v), D.2.2.2.2.2.2) (mTok tx (mTok tx T.bh).bh)
def mSaI (tx : mTx) (D : mDd) (T : mWd) : mRz :=
  if ¬ D.tu = 0 then (false, D, T) else if mNb2 (mTok tx T.bh) 2 7 = false then (false, D, mTok tx T.bh)
  else if mNb2 (mTok tx (mTok tx T.bh).bh) 0 (mTok tx T.bh).v = false then (false, D, mTok tx (mTok tx T.bh).bh)
  else mEndI tx (D.W, D.R, (mTok tx T.bh).v, (mTok tx (mTok tx T.bh).bh).v, D.2.2.2.2) (mTok tx (mTok tx T.bh).bh)
def mPlI (tx : mTx) (D : mDd) (T : mWd) : mRz :=
  if ¬ D.pl = 0 then (false, D, T) else if mNb2 (mTok tx T.bh) 1 5 = false then (false, D, mTok tx T.bh)
  else mEndI tx (D.W, D.R, D.tu, D.op, (mTok tx T.bh).v, D.2.2.2.2.2) (mTok tx T.bh)
def mItem (tx : mTx) (n : Nat) (D : mDd) (T : mWd) : mRz :=
  if T.kd = 1 then (if T.v = 119 then mWid tx n D T else if T.v = 114 then mRowI tx D T else if T.v = 116 then mTeI tx D T else if T.v = 115 then mSaI tx D T else if T.v = 110 then mPlI tx D T else (false, D, T)) else (false, D, T)
/-- what is told so far makes sense, x cells of a row being told -/
def mDwx (D : mDd) (x : Nat) : Prop := D.W ≤ 7 ∧ D.R ≤ 7 ∧ (D.tu = 0 ∧ D.op = 0 ∨ 2 ≤ D.tu ∧ D.tu ≤ 6 ∧ D.op < D.tu) ∧ D.pl ≤ 4 ∧ (∀ c, D.te = some c → mOn D.W D.R c) ∧ (∀ k, D.K k < 5) ∧ ∀ k, ¬ D.K k = 0 → mOn D.W D.R k ∨ (k / 7 = D.R ∧ k % 7 < x ∧ D.R < 7)
theorem mTok_1 {tx : mTx} {p : Nat} (h : (mTok tx p).kd = 1) : 97 ≤ (mTok tx p).v ∧ (mTok tx p).v ≤ 122 := by
  unfold mTok at h ⊢
  split at h
  · exact absurd (show (0 : Nat) = 1 from h) (by decide)
  · next h1 =>
    rw [if_neg h1]
    split at h
    · next h2 =>
      exfalso
      have h : (if _ then 4 else 2) = 1 := h
      split at h <;> omega
    · next h2 =>
      rw [if_neg h2]
      have h : (if _ then 1 else if _ then 3 else 4) = 1 := h
      split at h
      · next h3 => exact h3
      · split at h <;> omega
theorem mTok_k {tx : mTx} {p : Nat} : (mTok tx p).kd ≤ 4 := by
  unfold mTok
  split
  · exact Nat.zero_le _
  · split
    · show (if _ then 4 else 2) ≤ 4
      split <;> decide
    · show (if _ then 1 else if _ then 3 else 4) ≤ 4
      split
      · decide
      · split <;> decide
theorem mTok_2 {tx : mTx} {p : Nat} (h : (mTok tx p).kd = 2) : (mTok tx p).v ≤ 99 := by
  unfold mTok at h ⊢
  split at h
  · exact absurd (show (0 : Nat) = 2 from h) (by decide)
  · next h1 =>
    rw [if_neg h1]
    split at h
    · next h2 =>
      rw [if_pos h2]
      have h : (if _ then 4 else 2) = 2 := h
      split at h
      · omega
      · next h3 =>
        show (mDig tx.2 (tx.1 - mSkp tx.2 (tx.1 - p) p) (mSkp tx.2 (tx.1 - p) p) 0).2 ≤ 99
        omega
    · next h2 =>
      exfalso
      have h : (if _ then 1 else if _ then 3 else 4) = 2 := h
      split at h
      · omega
      · split at h <;> omega
theorem mTc_k {tx : mTx} {p : Nat} : (mTc (mTok tx p) = -1 ↔ (mTok tx p).kd = 0) ∧ (mTc (mTok tx p) = -3 ↔ (mTok tx p).kd = 2) ∧ (mTc (mTok tx p) = 59 ↔ (mTok tx p).kd = 3) ∧ ∀ c, 97 ≤ c → c ≤ 122 → (mTc (mTok tx p) = nI c ↔ (mTok tx p).kd = 1 ∧ (mTok tx p).v = c) := by
  have h1 := mTok_1 (tx := tx) (p := p)
  have hk := mTok_k (tx := tx) (p := p)
  generalize mTok tx p = T at *
  obtain ⟨s, k, v, bh⟩ := T
  have h1 : k = 1 → 97 ≤ v ∧ v ≤ 122 := h1
  have hk : k ≤ 4 := hk
  have neg : ∀ c, 97 ≤ c → c ≤ 122 → ∀ x : Int32, x < 0 → ¬ x = nI c := fun c h2 h3 x hx e => nI_pos (show c < 2 ^ 31 by omega) (e ▸ hx)
  rcases (by omega : k = 0 ∨ k = 1 ∨ k = 2 ∨ k = 3 ∨ k = 4) with rfl | rfl | rfl | rfl | rfl
  · exact ⟨⟨fun _ => rfl, fun _ => rfl⟩, ⟨fun q => absurd (show (-1 : Int32) = -3 from q) (by decide), fun q => absurd (show (0 : Nat) = 2 from q) (by decide)⟩, ⟨fun q => absurd (show (-1 : Int32) = 59 from q) (by decide), fun q => absurd (show (0 : Nat) = 3 from q) (by decide)⟩, fun c h2 h3 => ⟨fun q => absurd (show (-1 : Int32) = nI c from q) (neg c h2 h3 _ (by decide)), fun q => absurd (show (0 : Nat) = 1 from q.1) (by decide)⟩⟩
  · obtain ⟨a1, a2⟩ := h1 rfl
    have e : mTc (s, 1, v, bh) = nI v := rfl
    rw [e]
    refine ⟨⟨fun q => absurd q.symm (neg v a1 a2 _ (by decide)), fun q => absurd (show (1 : Nat) = 0 from q) (by decide)⟩, ⟨fun q => absurd q.symm (neg v a1 a2 _ (by decide)), fun q => absurd (show (1 : Nat) = 2 from q) (by decide)⟩, ⟨fun q => ?_, fun q => absurd (show (1 : Nat) = 3 from q) (by decide)⟩, fun c h2 h3 => ?_⟩
    · rw [show (59 : Int32) = nI 59 from rfl, nI_eq (by omega) (by decide)] at q
      omega
    · rw [nI_eq (by omega) (by omega)]
      exact ⟨fun q => ⟨rfl, q⟩, fun q => q.2⟩
  · exact ⟨⟨fun q => absurd (show (-3 : Int32) = -1 from q) (by decide), fun q => absurd (show (2 : Nat) = 0 from q) (by decide)⟩, ⟨fun _ => rfl, fun _ => rfl⟩, ⟨fun q => absurd (show (-3 : Int32) = 59 from q) (by decide), fun q => absurd (show (2 : Nat) = 3 from q) (by decide)⟩, fun c h2 h3 => ⟨fun q => absurd (show (-3 : Int32) = nI c from q) (neg c h2 h3 _ (by decide)), fun q => absurd (show (2 : Nat) = 1 from q.1) (by decide)⟩⟩
  · refine ⟨⟨fun q => absurd (show (59 : Int32) = -1 from q) (by decide), fun q => absurd (show (3 : Nat) = 0 from q) (by decide)⟩, ⟨fun q => absurd (show (59 : Int32) = -3 from q) (by decide), fun q => absurd (show (3 : Nat) = 2 from q) (by decide)⟩, ⟨fun _ => rfl, fun _ => rfl⟩, fun c h2 h3 => ⟨fun q => ?_, fun q => absurd (show (3 : Nat) = 1 from q.1) (by decide)⟩⟩
    have q : nI 59 = nI c := q
    rw [nI_eq (by decide) (by omega)] at q
    omega
  · exact ⟨⟨fun q => absurd (show (-2 : Int32) = -1 from q) (by decide), fun q => absurd (show (4 : Nat) = 0 from q) (by decide)⟩, ⟨fun q => absurd (show (-2 : Int32) = -3 from q) (by decide), fun q => absurd (show (4 : Nat) = 2 from q) (by decide)⟩, ⟨fun q => absurd (show (-2 : Int32) = 59 from q) (by decide), fun q => absurd (show (4 : Nat) = 3 from q) (by decide)⟩, fun c h2 h3 => ⟨fun q => absurd (show (-2 : Int32) = nI c from q) (neg c h2 h3 _ (by decide)), fun q => absurd (show (4 : Nat) = 1 from q.1) (by decide)⟩⟩
/-- positions only grow -/
def mPos (tx : mTx) (T : mWd) (r : mRz) : Prop := T.bh ≤ r.2.2.bh ∧ r.2.2.bh ≤ tx.1 ∧ r.2.2.st ≤ tx.1
theorem mTok_pos {tx : mTx} {T : mWd} {b : Bool} {D : mDd} (h : T.bh ≤ tx.1) : mPos tx T (b, D, mTok tx T.bh) := by
  have := mTok_le h
  exact ⟨show T.bh ≤ (mTok tx T.bh).2.2.2 by omega, this.2.2.2.1, this.2.1⟩
theorem mPos.tr {tx : mTx} {T : mWd} {b : Bool} {D : mDd} {T1 : mWd} {r : mRz} (h : mPos tx T (b, D, T1)) (h2 : mPos tx T1 r) : mPos tx T r := ⟨Nat.le_trans h.1 h2.1, h2.2⟩
theorem mEndI_pos {tx : mTx} {D : mDd} {T : mWd} (h : T.bh ≤ tx.1) : mPos tx T (mEndI tx D T) := mTok_pos h
theorem mRw_pos {tx : mTx} : ∀ (m x : Nat) (D : mDd) (T : mWd), T.bh ≤ tx.1 → T.st ≤ tx.1 → mPos tx T (mRw tx m x D T)
  | 0, x, D, T, h, h2 => ⟨Nat.le_refl _, h, h2⟩
  | m + 1, x, D, T, h, h2 => by
    have t := mTok_pos (b := false) (D := D) h
    rw [mRw]
    cases mKd (mTok tx T.bh) with
    | none => exact t
    | some q =>
      dsimp only
      split
      · exact t
      · exact t.tr (mRw_pos m _ _ _ t.2.1 t.2.2)
theorem mItem_pos {tx : mTx} {n : Nat} {D : mDd} {T : mWd} (h : T.bh ≤ tx.1) (h2 : T.st ≤ tx.1) : mPos tx T (mItem tx n D T) := by
  have t := mTok_pos (b := false) (D := D) h
  have s : mPos tx T (false, D, T) := ⟨Nat.le_refl _, h, h2⟩
  have t2 : mPos tx T (false, D, mTok tx (mTok tx T.bh).bh) := t.tr (mTok_pos t.2.1)
  unfold mItem
  split
  · split
    · unfold mWid
      split
      · exact s
      · split
        · exact t
        · exact t.tr (mEndI_pos t.2.1)
    · split
      · unfold mRowI
        have r := mRw_pos (tx := tx) D.W 0 D T h h2
        split
        · exact s
        · split
          · exact r
          · exact ⟨Nat.le_trans r.1 (mEndI_pos r.2.1).1, (mEndI_pos r.2.1).2⟩
      · split
        · unfold mTeI
          split
          · exact s
          · split
            · exact t
            · split
              · exact t2
              · exact t2.tr (mEndI_pos t2.2.1)
        · split
          · unfold mSaI
            split
            · exact s
            · split
              · exact t
              · split
                · exact t2
                · exact t2.tr (mEndI_pos t2.2.1)
          · split
            · unfold mPlI
              split
              · exact s
              · split
                · exact t
                · exact t.tr (mEndI_pos t.2.1)
            · exact s
  · exact s
