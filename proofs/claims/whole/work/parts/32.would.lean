/-! would, when -/
theorem m_neg_lt {y : Int32} (h : y < 0) {n : Nat} (hn : n < 2 ^ 31) : y < nI n := by
  rw [Int32.lt_iff_toInt_lt, Int32.toInt_zero] at h
  rw [Int32.lt_iff_toInt_lt, nI_toInt hn]
  omega
def mIsK (x y : Int32) : Prop := (∃ d, 0 ≤ d ∧ d ≤ 3 ∧ x = nI d) ∧ ∃ n, 1 ≤ n ∧ n ≤ 6 ∧ y = nI n
theorem mRoll_1 {K : Nat → Nat} {W H T O : Nat} : ∀ (n k d t : Nat), (mRoll K W H T O n k d t).1 ≤ 2
  | 0, k, d, t => Nat.zero_le _
  | n + 1, k, d, t => by
    unfold mRoll
    split
    · exact mRoll_1 n _ _ _
    · split
      · dsimp only; omega
      · split
        · dsimp only; omega
        · exact mRoll_1 n _ _ _
theorem mPa_ge {k : Nat} (hk : k < 49) : ¬ mPa k < 0 := nI_pos (by omega)
theorem mRe_5 {r : Nat × Nat × Nat} (h : r.2.1 < 49) : mRe r = -5 ↔ r.1 = 1 := by
  obtain ⟨a, p, t⟩ := r
  match a with
  | 0 => exact ⟨fun q => absurd (show mPa p < 0 by rw [show mPa p = -5 from q]; decide) (mPa_ge h), fun q => absurd q (by decide : ¬ (0 = 1))⟩
  | 1 => exact ⟨fun _ => rfl, fun _ => rfl⟩
  | a + 2 => exact ⟨fun q => absurd (show (-6 : Int32) = -5 from q) (by decide), fun q => absurd (show a + 2 = 1 from q) (by omega)⟩
theorem mRe_6 {r : Nat × Nat × Nat} (h : r.2.1 < 49) : mRe r = -6 ↔ 2 ≤ r.1 := by
  obtain ⟨a, p, t⟩ := r
  match a with
  | 0 => exact ⟨fun q => absurd (show mPa p < 0 by rw [show mPa p = -6 from q]; decide) (mPa_ge h), fun q => absurd q (by decide : ¬ (2 ≤ 0))⟩
  | 1 => exact ⟨fun q => absurd (show (-5 : Int32) = -6 from q) (by decide), fun q => absurd (show 2 ≤ 1 from q) (by omega)⟩
  | a + 2 => exact ⟨fun _ => Nat.le_add_left 2 a, fun _ => rfl⟩
theorem mRm_5 {r : Nat × Nat × Nat} (h : r.2.1 < 49) : mRm r = -5 ↔ r.1 = 1 := by
  obtain ⟨a, p, t⟩ := r
  match a with
  | 0 => exact ⟨fun q => absurd (show nI p < 0 by rw [show nI p = -5 from q]; decide) (nI_pos (Nat.lt_trans h (by decide))), fun q => absurd q (by decide : ¬ (0 = 1))⟩
  | 1 => exact ⟨fun _ => rfl, fun _ => rfl⟩
  | a + 2 => exact ⟨fun q => absurd (show (-6 : Int32) = -5 from q) (by decide), fun q => absurd (show a + 2 = 1 from q) (by omega)⟩
theorem mRm_6 {r : Nat × Nat × Nat} (h : r.2.1 < 49) : mRm r = -6 ↔ 2 ≤ r.1 := by
  obtain ⟨a, p, t⟩ := r
  match a with
  | 0 => exact ⟨fun q => absurd (show nI p < 0 by rw [show nI p = -6 from q]; decide) (nI_pos (Nat.lt_trans h (by decide))), fun q => absurd q (by decide : ¬ (2 ≤ 0))⟩
  | 1 => exact ⟨fun q => absurd (show (-5 : Int32) = -6 from q) (by decide), fun q => absurd (show 2 ≤ 1 from q) (by omega)⟩
  | a + 2 => exact ⟨fun _ => Nat.le_add_left 2 a, fun _ => rfl⟩
theorem mSm.x14 {I I' : mF} {L : mFL} {b : Bool} (h : mSm [14] I I') : mSx b I I' ∧ mFx I L I' L := by
  refine ⟨fun a k hr => ?_, fun a ha => ⟨h a (by simp; omega), rfl⟩⟩
  rw [h a (by
    have : mLa b ≠ 14 ∧ mLg b ≠ 14 := by cases b <;> decide
    unfold mRx at hr
    simp
    omega)]
theorem mT30.m2 {I I' : mF} {L : mFL} (h : mT30 I I') : mSm2 I I' ∧ mFm I L I' L :=
  ⟨fun a k hr => h a k (by unfold mRm2 at hr; omega), fun a ha => ⟨funext fun k => h a k (by omega), rfl⟩⟩
/-- the roll of the ball of who is on -/
def mRs (G : mG) (s : mY) (k w d n : Nat) : Nat × Nat × Nat := mRoll (mK G.g s.y) G.W G.H G.T G.O n k d (s.t + w)
section WOULD
variable {S : mS} {I : mF} {L : mFL} {b : Bool}
theorem S52 (x y : Int32) : ∃ r : Int32, mFn S 52 [.int x, .int y] (mSH, I, L, mRk b) (some (.int r)) (mSH, I, L, mRk b) ∧ (mIsK x y → r = 1) ∧ (¬ mIsK x y → r = 0) := by
  by_cases hk : mIsK x y
  · refine ⟨1, ?_, fun _ => rfl, fun h => absurd hk h⟩
    obtain ⟨⟨d, -, hd, rfl⟩, n, hn, hn6, rfl⟩ := hk
    refine e52 (k52_0 (fun q => absurd q (nI_pos (by omega))) (fun _ => k52_4 (fun q => ?_) (fun _ => k52_9 (fun q => ?_) (fun _ => k52_14 (fun q => ?_) (fun _ => k52_20 (k52_25 (by decide) ⟨rfl, rfl⟩))))))
    · rw [show (4 : Int32) = nI 4 from rfl, nI_leI (by decide) (by omega)] at q
      omega
    · rw [show (1 : Int32) = nI 1 from rfl, nI_ltI (by omega) (by decide)] at q
      omega
    · rw [show (6 : Int32) = nI 6 from rfl, nI_ltI (by decide) (by omega)] at q
      omega
  · refine ⟨0, ?_, fun h => absurd h hk, fun _ => rfl⟩
    refine e52 (k52_0 (fun _ => k52_24 (k52_25 (by decide) ⟨rfl, rfl⟩)) (fun q1 => k52_4 (fun _ => k52_24 (k52_25 (by decide) ⟨rfl, rfl⟩)) (fun q2 => k52_9 (fun _ => k52_24 (k52_25 (by decide) ⟨rfl, rfl⟩)) (fun q3 => k52_14 (fun _ => k52_24 (k52_25 (by decide) ⟨rfl, rfl⟩)) (fun q4 => absurd ?_ hk)))))
    obtain ⟨d, hd, rfl⟩ := nI_of q1
    rw [show (4 : Int32) = nI 4 from rfl, nI_leI (by decide) hd] at q2
    rcases nI_or y with q | ⟨n, hn, rfl⟩
    · exact absurd (m_neg_lt q (n := 1) (by decide)) q3
    · rw [show (1 : Int32) = nI 1 from rfl, nI_ltI hn (by decide)] at q3
      rw [show (6 : Int32) = nI 6 from rfl, nI_ltI (by decide) hn] at q4
      exact ⟨⟨d, Nat.zero_le _, by omega, rfl⟩, n, by omega, by omega, rfl⟩
theorem S106 (x y : Int32) : ∃ r : Int32, mFn S 106 [.int x, .int y] (mSH, I, L, mRk b) (some (.int r)) (mSH, I, L, mRk b) ∧ (mIsK x y → r = 1) ∧ (¬ mIsK x y → r = 0) := by
  rcases mCm_in (v := x) (lo := 0) (hi := 3) (by decide) (by decide) with ⟨e, q⟩ | ⟨e, q⟩
  · refine ⟨0, e106 (k106_0 (c106_3 (S88 _ _ _) ?_)), fun h => absurd h.1 q, fun _ => rfl⟩
    have e : mIn x 0 3 = 0 := e
    rw [e]
    exact k106_6 (fun _ => k106_23 (k106_24 (by decide) ⟨rfl, rfl⟩)) (fun q => absurd rfl q)
  · have e : mIn x 0 3 = 1 := e
    rcases mCm_in (v := y) (lo := 1) (hi := 6) (by decide) (by decide) with ⟨e2, q2⟩ | ⟨e2, q2⟩
    · refine ⟨0, e106 (k106_0 (c106_3 (S88 _ _ _) ?_)), fun h => absurd h.2 q2, fun _ => rfl⟩
      have e2 : mIn y 1 6 = 0 := e2
      rw [e]
      refine k106_6 (fun q => absurd q (by decide)) (fun _ => k106_9 (c106_13 (S88 _ _ _) ?_))
      rw [e2]
      exact k106_16 (fun _ => k106_23 (k106_24 (by decide) ⟨rfl, rfl⟩)) (fun q => absurd rfl q)
    · refine ⟨1, e106 (k106_0 (c106_3 (S88 _ _ _) ?_)), fun _ => rfl, fun h => absurd ⟨q, q2⟩ h⟩
      have e2 : mIn y 1 6 = 1 := e2
      rw [e]
      refine k106_6 (fun q => absurd q (by decide)) (fun _ => k106_9 (c106_13 (S88 _ _ _) ?_))
      rw [e2]
      exact k106_16 (fun q => absurd q (by decide)) (fun _ => k106_19 (k106_24 (by decide) ⟨rfl, rfl⟩))
theorem mOe_ge {o : Option Nat} (h : ∀ k, o = some k → k < 2 ^ 31) : 0 ≤ mOe o ↔ ¬ o = none := by
  cases o with
  | none => exact ⟨fun q => absurd q (by decide), fun q => absurd rfl q⟩
  | some k => exact ⟨fun _ => Option.some_ne_none k, fun _ => nI_pos' (h k rfl)⟩
theorem mYw.on31 {G : mG} {s : mY} (h : mYw G s) (hg : mGw G) : ∀ k, s.on = some k → k < 2 ^ 31 := fun k hk => by
  have h1 := h.2.2.2.1 k hk
  have h2 := hg.2.2.2.2.1.2
  omega
theorem S107 {G : mG} {s : mY} (hy : mMY G s 45 0 I) (ho : ∀ k, s.on = some k → k < 2 ^ 31) : ∃ r : Int32, mFn S 107 [.ref 44] (mSH, I, L, mRk b) (some (.int r)) (mSH, I, L, mRk b) ∧ (s.on = none → r = 1) ∧ (¬ s.on = none → r = 0) := by
  have z1 : I 45 ((1 : Int32).toNatClampNeg) = mOe s.on := hy.2.1
  by_cases h : s.on = none
  · refine ⟨1, e107 (k107_0 (fun q => ?_) (fun _ => k107_9 (k107_14 (by decide) ⟨rfl, rfl⟩))), fun _ => rfl, fun q => absurd h q⟩
    rw [z1, mOe_ge ho] at q
    exact absurd h q
  · refine ⟨0, e107 (k107_0 (fun q => k107_13 (k107_14 (by decide) ⟨rfl, rfl⟩)) (fun q => ?_)), fun q => absurd q h, fun _ => rfl⟩
    rw [z1, mOe_ge ho] at q
    exact absurd h q
theorem S53 {G : mG} {s : mY} (hl : mXL G b I) (hp : mXY s 8 I L) (hg : mGw G) (hs : mYw G s) {k w d n : Nat} (hk : s.ba = some k) (hw : w ≤ 9) (hd : d < 4) (hn : n ≤ 6) :
    ∃ I' : mF, mFn S 53 [.ref 1, .int (nI w), .int (nI d), .int (nI n)] (mSH, I, L, mRk b) (some (.int (mRe (mRs G s k w d n)))) (mSH, I', L, mRk b) ∧ mSm [14] I I' ∧ I' 14 0 = nI (if (mRs G s k w d n).1 = 2 then k else (mRs G s k w d n).2.1) ∧ I' 14 1 = nI (mRs G s k w d n).2.2 := by
  have ht := hs.1
  obtain ⟨I', f, h1, h2, h3⟩ := S27 (S := S) (L := L) (b := b) (e := false) (hl.lw hg) (fun k hk => (hg.2.2.2.2.2.2 k hk).1) (y := s.y) (k := k) (d := d) (t := s.t + w) (n := n) (hs.2.1 k hk) hd (by omega)
  refine ⟨I', e53 (k53_0 ?_), h1, h2, h3⟩
  rw [hp.1, hp.2.1, hk, hp.2.2.2.2.2, nI_add]
  exact c53_33 f (k53_36 ⟨rfl, rfl⟩)
theorem mRs_on {G : mG} {s : mY} (hg : mGw G) (hs : mYw G s) {k w d n : Nat} (hk : s.ba = some k) : mOn G.W G.H (mRs G s k w d n).2.1 := mRoll_on hg.1 _ _ _ _ (hs.2.1 k hk)
theorem mRs_lt {G : mG} {s : mY} (hg : mGw G) (hs : mYw G s) {k w d n : Nat} (hk : s.ba = some k) : (mRs G s k w d n).2.1 < 49 := mOn_lt hg.1 (mRs_on hg hs hk)
/-- the reference's roll -/
theorem S105s {G : mG} {s : mY} (hl : mML G I) (hy : mMY G s 45 0 I) (hg : mGw G) (hs : mYw G s) {k w d n : Nat} (hk : s.ba = some k) (hw : w ≤ 9) (hd : d < 4) (hn : n ≤ 6) :
    ∃ I' : mF, mFn S 105 [.ref 44, .int (nI k), .int (nI (s.t + w)), .int (nI d), .int (nI n)] (mSH, I, L, mRk b) (some (.int (mRm (mRs G s k w d n)))) (mSH, I', L, mRk b) ∧ mT30 I I' ∧ I' 44 30 = nI ((mRs G s k w d n).2.2 - (s.t + w)) := by
  have ht := hs.1
  exact S105 (hy.lm hl hg) (hs.2.1 k hk) hd (by omega) hn
theorem S91r {r : Nat × Nat × Nat} (h : r.2.1 < 49) : mFn S 91 [.int (mRm r)] (mSH, I, L, mRk b) (some (.int (mRe r))) (mSH, I, L, mRk b) := by
  obtain ⟨a, p, t⟩ := r
  match a with
  | 0 => exact S91 h
  | 1 => exact S91n (x := -5) (by decide)
  | a + 2 => exact S91n (x := -6) (by decide)
theorem mYw.ball {G : mG} {s : mY} (h : mYw G s) (ho : ¬ s.on = none) : ∃ k, s.ba = some k := by
  cases hb : s.ba with
  | none => exact absurd (h.2.2.1.1.mp hb) ho
  | some k => exact ⟨k, rfl⟩
end WOULD
section WOULD2
variable {S : mS}
theorem Cs_would (x y : Int32) : mCs S 59 119 [.int x, .int y] := by
  refine mCs_q fun G s h im tx la tr I L b hw hx => ?_
  have hg := hw.1
  have hs := hw.2.1
  have ho := hs.on31 hg
  obtain ⟨r1, f1, t1, u1⟩ := S52 (S := S) (I := I) (L := L) (b := b) x y
  by_cases hk : mIsK x y
  · have e1 := t1 hk
    subst e1
    by_cases hon : s.on = none
    · refine ⟨.int (-2), ⟨I, L, e59 (k59_0 (c59_2 f1 (k59_5 (fun q => absurd q (show ¬ (1 : Int32) = 0 by decide)) (fun _ => k59_10 (fun q => ?_) (fun _ => k59_20 (k59_32 ⟨rfl, rfl⟩)))))), fun _ _ _ => rfl, mFx.rf, fun _ _ => rfl⟩, fun I1 L1 hm1 => ?_⟩
      · rw [hx.2.1.2.2.2.1, mOe_ge ho] at q
        exact absurd hon q
      · obtain ⟨r2, f2, t2, -⟩ := S106 (S := S) (I := I1) (L := L1) (b := b) x y
        obtain ⟨r3, f3, t3, -⟩ := S107 (S := S) (L := L1) (b := b) hm1.2.1 ho
        refine ⟨I1, e119 (k119_0 (c119_2 f2 (k119_5 (fun q => ?_) (fun _ => k119_10 (c119_11 f3 (k119_14 (fun q => ?_) (fun _ => k119_17 (k119_43 ⟨rfl, rfl⟩)))))))), fun _ _ _ => rfl, mFm.rf⟩
        · rw [t2 hk] at q
          exact absurd q (by decide)
        · rw [t3 hon] at q
          exact absurd q (by decide)
    · obtain ⟨k, hkb⟩ := hs.ball hon
      obtain ⟨⟨d, -, hd, rfl⟩, n, hn, hn6, rfl⟩ := id hk
      obtain ⟨I2, f2, s2, -⟩ := S53 (S := S) hx.1 hx.2.1 hg hs hkb (w := 0) (d := d) (n := n) (by decide) (by omega) hn6
      refine ⟨.int (mRe (mRs G s k 0 d n)), ⟨I2, L, e59 (k59_0 (c59_2 f1 (k59_5 (fun q => absurd q (show ¬ (1 : Int32) = 0 by decide)) (fun _ => k59_10 (fun q => k59_25 (c59_29 f2 (k59_32 ⟨rfl, rfl⟩))) (fun q => ?_))))), (s2.x14 (b := b) (L := L)).1, (s2.x14 (b := b)).2, fun _ _ => rfl⟩, fun I1 L1 hm1 => ?_⟩
      · rw [hx.2.1.2.2.2.1, mOe_ge ho] at q
        exact absurd hon q
      · obtain ⟨r2, f2, t2, -⟩ := S106 (S := S) (I := I1) (L := L1) (b := b) (nI d) (nI n)
        obtain ⟨r3, f3, -, t3⟩ := S107 (S := S) (L := L1) (b := b) hm1.2.1 ho
        obtain ⟨I3, f4, h4, -⟩ := S105s (S := S) (L := L1) (b := b) hm1.1 hm1.2.1 hg hs hkb (w := 0) (d := d) (n := n) (by decide) (by omega) hn6
        have z0 : I1 45 ((0 : Int32).toNatClampNeg) = nI s.t := hm1.2.1.1
        have z2 : I1 45 ((2 : Int32).toNatClampNeg) = mOe s.ba := hm1.2.1.2.2.1
        refine ⟨I3, e119 (k119_0 (c119_2 f2 (k119_5 (fun q => ?_) (fun _ => k119_10 (c119_11 f3 (k119_14 (fun _ => k119_22 ?_) (fun q => ?_))))))), (h4.m2 (L := L1)).1, h4.m2.2⟩
        · rw [t2 hk] at q
          exact absurd q (by decide)
        · rw [z0, z2, hkb]
          exact c119_37 f4 (c119_40 (S91r (mRs_lt hg hs hkb)) (k119_43 ⟨rfl, rfl⟩))
        · rw [t3 hon] at q
          exact absurd rfl q
  · have e1 := u1 hk
    subst e1
    refine ⟨.int (-1), ⟨I, L, e59 (k59_0 (c59_2 f1 (k59_5 (fun _ => k59_8 ⟨rfl, rfl⟩) (fun q => absurd rfl q)))), fun _ _ _ => rfl, mFx.rf, fun _ _ => rfl⟩, fun I1 L1 hm1 => ?_⟩
    obtain ⟨r2, f2, -, t2⟩ := S106 (S := S) (I := I1) (L := L1) (b := b) x y
    refine ⟨I1, e119 (k119_0 (c119_2 f2 (k119_5 (fun _ => k119_8 ⟨rfl, rfl⟩) (fun q => ?_)))), fun _ _ _ => rfl, mFm.rf⟩
    exact absurd (t2 hk) q
/-- the waits by which a stroke is in -/
def mWhen (f : Nat → Nat × Nat × Nat) : Nat → Int32
  | 0 => 0
  | n + 1 => if (f n).1 = 1 then mWhen f n ||| (1 <<< (nI n &&& 31)) else mWhen f n
theorem m_or0 (x : Int32) : x ||| 0 = x := by
  apply Int32.toBitVec_inj.mp
  rw [Int32.toBitVec_or]
  exact BitVec.or_zero
theorem Cs_when (x y : Int32) : mCs S 60 120 [.int x, .int y] := by
  refine mCs_q fun G s h im tx la tr I L b hw hx => ?_
  have hg := hw.1
  have hs := hw.2.1
  have ho := hs.on31 hg
  have hT0 := hg.2.1
  have hT6 := hg.2.2.1
  obtain ⟨r1, f1, t1, u1⟩ := S52 (S := S) (I := I) (L := L) (b := b) x y
  by_cases hk : mIsK x y
  · have e1 := t1 hk
    subst e1
    by_cases hon : s.on = none
    · refine ⟨.int (-2), ⟨I, L, e60 (k60_0 (c60_2 f1 (k60_5 (fun q => absurd q (show ¬ (1 : Int32) = 0 by decide)) (fun _ => k60_10 (fun q => ?_) (fun _ => k60_20 ⟨rfl, rfl⟩))))), fun _ _ _ => rfl, mFx.rf, fun _ _ => rfl⟩, fun I1 L1 hm1 => ?_⟩
      · rw [hx.2.1.2.2.2.1, mOe_ge ho] at q
        exact absurd hon q
      · obtain ⟨r2, f2, t2, -⟩ := S106 (S := S) (I := I1) (L := L1) (b := b) x y
        obtain ⟨r3, f3, t3, -⟩ := S107 (S := S) (L := L1) (b := b) hm1.2.1 ho
        have fin : mWp S 120 74 [some (.ref 44), some (.int x), some (.int y), some (.int 0), some (.int 0)] [] (mSH, I1, L1, mRk b) (fun r2 w2 => r2 = some (.int (-2)) ∧ w2 = (mSH, I1, L1, mRk b)) := by
          refine k120_74 (c120_75 f3 (k120_78 (fun q => ?_) (fun _ => k120_81 (k120_87 ⟨rfl, rfl⟩))))
          rw [t3 hon] at q
          exact absurd q (by decide)
        refine ⟨I1, e120 (k120_0 (c120_2 f2 (k120_5 (fun q => ?_) (fun _ => k120_10 (k120_15 (fun _ => fin) (fun _ => k120_24 (c120_25 f3 (k120_28 (fun q => ?_) (fun _ => fin))))))))), fun _ _ _ => rfl, mFm.rf⟩
        · rw [t2 hk] at q
          exact absurd q (by decide)
        · rw [t3 hon] at q
          exact absurd q (by decide)
    · obtain ⟨k, hkb⟩ := hs.ball hon
      obtain ⟨⟨d, -, hd, rfl⟩, n, hn, hn6, rfl⟩ := id hk
      have xl : ∀ (m w : Nat) (J : mF), w + m = G.T → mSm [14] I J → mWp S 60 28 [some (.ref 1), some (.int (nI d)), some (.int (nI n)), some (.int (mWhen (fun w => mRs G s k w d n) w)), some (.int (nI w))] [] (mSH, J, L, mRk b) (fun r2 w2 => ∃ I' : mF, r2 = some (.int (mWhen (fun w => mRs G s k w d n) G.T)) ∧ w2 = (mSH, I', L, mRk b) ∧ mSm [14] I I') := by
        intro m
        induction m with
        | zero =>
          intro w J hwm hJ
          have hwm : w = G.T := by omega
          subst hwm
          have hJx := hx.sm (hJ.x14 (L := L)).1 (fun _ _ => rfl)
          refine k60_28 (fun _ => k60_66 ⟨J, rfl, rfl, hJ⟩) (fun q => ?_)
          rw [hJx.1.2.2.1, nI_leI (by omega) (by omega)] at q
          omega
        | succ m ih =>
          intro w J hwm hJ
          have hJx := hx.sm (hJ.x14 (L := L)).1 (fun _ _ => rfl)
          obtain ⟨I2, f2, s2, -⟩ := S53 (S := S) hJx.1 hJx.2.1 hg hs hkb (w := w) (d := d) (n := n) (by omega) (by omega) hn6
          have e5 := mRe_5 (mRs_lt (w := w) (d := d) (n := n) hg hs hkb)
          have go := ih (w + 1) I2 (by omega) (hJ.tr s2)
          refine k60_28 (fun q => ?_) (fun _ => k60_40 (c60_45 f2 (k60_48 (fun q => k60_53 (k60_60 ?_)) (fun q => k60_60 ?_))))
          · rw [hJx.1.2.2.1, nI_leI (by omega) (by omega)] at q
            omega
          · rw [nI_1]
            rw [mWhen, if_pos (e5.mp q)] at go
            exact go
          · rw [nI_1]
            rw [mWhen, if_neg (fun z => q (e5.mpr z))] at go
            exact go
      obtain ⟨r2, w2, f2, I2, rfl, rfl, s2⟩ := ex60 (k60_0 (c60_2 f1 (k60_5 (fun q => absurd q (show ¬ (1 : Int32) = 0 by decide)) (fun _ => k60_10 (fun _ => k60_23 (xl G.T 0 I (by omega) mSm.rf)) (fun q => by
        rw [hx.2.1.2.2.2.1, mOe_ge ho] at q
        exact absurd hon q)))))
      refine ⟨.int (mWhen (fun w => mRs G s k w d n) G.T), ⟨I2, L, f2, (s2.x14 (b := b) (L := L)).1, (s2.x14 (b := b)).2, fun _ _ => rfl⟩, fun I1 L1 hm1 => ?_⟩
      obtain ⟨r4, f4, t4, -⟩ := S106 (S := S) (I := I1) (L := L1) (b := b) (nI d) (nI n)
      have ml : ∀ (m w : Nat) (J : mF), w + m = G.T → mT30 I1 J → mWp S 120 15 [some (.ref 44), some (.int (nI d)), some (.int (nI n)), some (.int (mWhen (fun w => mRs G s k w d n) w)), some (.int (nI w))] [] (mSH, J, L1, mRk b) (fun r2 w2 => ∃ I' : mF, r2 = some (.int (mWhen (fun w => mRs G s k w d n) G.T)) ∧ w2 = (mSH, I', L1, mRk b) ∧ mT30 I1 I') := by
        intro m
        induction m with
        | zero =>
          intro w J hwm hJ
          have hwm : w = G.T := by omega
          subst hwm
          have hJm := hm1.sm (hJ.m2 (L := L1)).1 rfl
          obtain ⟨r3, f3, -, t3⟩ := S107 (S := S) (L := L1) (b := b) hJm.2.1 ho
          refine k120_15 (fun _ => k120_74 (c120_75 f3 (k120_78 (fun _ => k120_86 (k120_87 ⟨J, rfl, rfl, hJ⟩)) (fun q => absurd (t3 hon) q)))) (fun q => ?_)
          rw [hJm.1.2.2.1, nI_leI (by omega) (by omega)] at q
          omega
        | succ m ih =>
          intro w J hwm hJ
          have hJm := hm1.sm (hJ.m2 (L := L1)).1 rfl
          obtain ⟨r3, f3, -, t3⟩ := S107 (S := S) (L := L1) (b := b) hJm.2.1 ho
          obtain ⟨I3, f5, h5, -⟩ := S105s (S := S) (L := L1) (b := b) hJm.1 hJm.2.1 hg hs hkb (w := w) (d := d) (n := n) (by omega) (by omega) hn6
          have z0 : J 45 ((0 : Int32).toNatClampNeg) = nI s.t := hJm.2.1.1
          have z2 : J 45 ((2 : Int32).toNatClampNeg) = mOe s.ba := hJm.2.1.2.2.1
          have e5 := mRm_5 (mRs_lt (w := w) (d := d) (n := n) hg hs hkb)
          have h6 : mT30 I1 I3 := fun a k hak => (h5 a k hak).trans (hJ a k hak)
          have go := ih (w + 1) I3 (by omega) h6
          refine k120_15 (fun q => ?_) (fun _ => k120_24 (c120_25 f3 (k120_28 (fun _ => k120_31 ?_) (fun q => absurd (t3 hon) q))))
          · rw [hJm.1.2.2.1, nI_leI (by omega) (by omega)] at q
            omega
          · rw [z0, z2, hkb, nI_add]
            refine c120_50 f5 (k120_53 (fun q => k120_58 (k120_66 ?_)) (fun q => k120_65 (k120_66 ?_)))
            · rw [nI_1]
              rw [mWhen, if_pos (e5.mp q)] at go
              exact go
            · rw [nI_1, m_or0]
              rw [mWhen, if_neg (fun z => q (e5.mpr z))] at go
              exact go
      obtain ⟨r5, w5, f5, I5, rfl, rfl, s5⟩ := ex120 (k120_0 (c120_2 f4 (k120_5 (fun q => by
        rw [t4 hk] at q
        exact absurd q (by decide)) (fun _ => k120_10 (ml G.T 0 I1 (by omega) mT30.rf)))))
      exact ⟨I5, f5, (s5.m2 (L := L1)).1, s5.m2.2⟩
  · have e1 := u1 hk
    subst e1
    refine ⟨.int (-1), ⟨I, L, e60 (k60_0 (c60_2 f1 (k60_5 (fun _ => k60_8 ⟨rfl, rfl⟩) (fun q => absurd rfl q)))), fun _ _ _ => rfl, mFx.rf, fun _ _ => rfl⟩, fun I1 L1 hm1 => ?_⟩
    obtain ⟨r2, f2, -, t2⟩ := S106 (S := S) (I := I1) (L := L1) (b := b) x y
    refine ⟨I1, e120 (k120_0 (c120_2 f2 (k120_5 (fun _ => k120_8 ⟨rfl, rfl⟩) (fun q => ?_)))), fun _ _ _ => rfl, mFm.rf⟩
    exact absurd (t2 hk) q
end WOULD2
