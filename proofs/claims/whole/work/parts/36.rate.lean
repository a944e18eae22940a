/-! rate -/
def mRt (G : mG) (s : mY) (kind : Nat) (x y : Int32) : Int32 := match kind with
  | 1 => x + y
  | 2 => x - nI s.k
  | 3 => 2 * (x + y)
  | 4 => x - nI s.k + (match s.on with | none => 0 | some p => nI p)
  | 5 => x + nI (s.t % G.T)
  | _ => x
def mTr (kind : Nat) : Int64 := match kind with
  | 1 => 11
  | 2 => 101
  | 3 => 1011
  | 4 => 10101
  | 5 => 100001
  | _ => 1
theorem mXI.trc {G : mG} {s : mY} {h : mH} {im : mJ} {tx : mTx} {la : mLy} {tr tr' : Int64} {b : Bool} {I : mF} {L L' : mFL} (hx : mXI G s h im tx la tr b I L) (h1 : L' 1 13 = tr') (h2 : ∀ a, a ≠ 1 → L' a = L a) : mXI G s h im tx la tr' b I L' := by
  obtain ⟨x1, x2, x3, x4, x5, x6, x7⟩ := hx
  exact ⟨x1, x2.sm rfl rfl (by rw [h2 8 (by decide)]), x3.sm rfl rfl (fun a h1 h3 => ⟨rfl, h2 a (by omega)⟩), x4.sm rfl (fun a h1 h3 => ⟨rfl, h2 a (by omega)⟩), x5, x6, h1⟩
theorem mMI.trc {G : mG} {s : mY} {h : mH} {im : mJ} {tx : mTx} {la : mLy} {tr tr' : Int64} {I : mF} {L L' : mFL} (hx : mMI G s h im tx la tr I L) (h1 : L' 44 13 = tr') : mMI G s h im tx la tr' I L' := by
  obtain ⟨x1, x2, x3, x4, x5, x6, x7⟩ := hx
  exact ⟨x1, x2, x3, x4, x5, x6, h1⟩
section RATE
variable {S : mS} {I : mF} {b : Bool}
/-- a trace that has gone up by v -/
def mUp1 (L L' : mFL) (v : Int64) : Prop := L' 1 13 = L 1 13 + v ∧ ∀ a, a ≠ 1 → L' a = L a
theorem mUp1.mk {L : mFL} {v : Int64} : mUp1 L (m_up L 1 13 (L 1 13 + v)) v := ⟨m_us, fun a ha => m_up_ne ha⟩
theorem mUp1.tr {L L1 L2 : mFL} {v u t : Int64} (h : mUp1 L L1 v) (h2 : mUp1 L1 L2 u) (e : v + u = t) : mUp1 L L2 t := ⟨by rw [h2.1, h.1, Int64.add_assoc, e], fun a ha => (h2.2 a ha).trans (h.2 a ha)⟩
theorem S77 {L : mFL} (x : Int32) : ∃ L' : mFL, mFn S 77 [.ref 1, .int x] (mSH, I, L, mRk b) (some (.int x)) (mSH, I, L', mRk b) ∧ mUp1 L L' 1 := ⟨_, e77 (k77_0 ⟨rfl, rfl⟩), mUp1.mk⟩
theorem S78 {L : mFL} (x y : Int32) : ∃ L' : mFL, mFn S 78 [.ref 1, .int x, .int y] (mSH, I, L, mRk b) (some (.int (x + y))) (mSH, I, L', mRk b) ∧ mUp1 L L' 11 := by
  obtain ⟨L1, f1, u1⟩ := S77 (S := S) (I := I) (b := b) (L := m_up L 1 13 (L 1 13 + 10)) x
  exact ⟨L1, e78 (k78_0 (c78_14 f1 (k78_17 ⟨rfl, rfl⟩))), mUp1.mk.tr u1 (by decide)⟩
theorem S79 {s : mY} {L : mFL} (hp : mXY s 8 I L) (x : Int32) : ∃ L' : mFL, mFn S 79 [.ref 1, .int x] (mSH, I, L, mRk b) (some (.int (x - nI s.k))) (mSH, I, L', mRk b) ∧ mUp1 L L' 101 := by
  obtain ⟨L1, f1, u1⟩ := S77 (S := S) (I := I) (b := b) (L := m_up L 1 13 (L 1 13 + 100)) x
  exact ⟨L1, e79 (k79_0 (c79_14 f1 (k79_17 ⟨by rw [hp.2.2.1], rfl⟩))), mUp1.mk.tr u1 (by decide)⟩
theorem S80 {L : mFL} (x y : Int32) : ∃ L' : mFL, mFn S 80 [.ref 1, .int x, .int y] (mSH, I, L, mRk b) (some (.int (2 * (x + y)))) (mSH, I, L', mRk b) ∧ mUp1 L L' 1011 := by
  obtain ⟨L1, f1, u1⟩ := S78 (S := S) (I := I) (b := b) (L := m_up L 1 13 (L 1 13 + 1000)) x y
  exact ⟨L1, e80 (k80_0 (c80_16 f1 (k80_19 ⟨rfl, rfl⟩))), mUp1.mk.tr u1 (by decide)⟩
theorem S81 {s : mY} {L : mFL} (hp : mXY s 8 I L) (ho : ∀ k, s.on = some k → k < 2 ^ 31) (x : Int32) : ∃ L' : mFL, mFn S 81 [.ref 1, .int x] (mSH, I, L, mRk b) (some (.int (x - nI s.k + (match s.on with | none => 0 | some p => nI p)))) (mSH, I, L', mRk b) ∧ mUp1 L L' 10101 := by
  have hp2 : mXY s 8 I (m_up L 1 13 (L 1 13 + 10000)) := hp.sm rfl rfl (by rw [m_up_ne (by decide)])
  obtain ⟨L1, f1, u1⟩ := S79 (S := S) (I := I) (b := b) (L := m_up L 1 13 (L 1 13 + 10000)) hp2 x
  refine ⟨L1, e81 (k81_0 (c81_14 f1 (k81_17 ⟨?_, rfl⟩))), mUp1.mk.tr u1 (by decide)⟩
  rw [hp.2.2.2.1]
  have e : (if 0 < mOe s.on then mOe s.on else 0) = (match s.on with | none => 0 | some p => nI p) := by
    cases h : s.on with
    | none => exact if_neg (by decide)
    | some p =>
      show (if (0 : Int32) < nI p then nI p else 0) = nI p
      by_cases q : p = 0
      · subst q
        rfl
      · exact if_pos ((nI_ltI (a := 0) (by decide) (ho p h)).mpr (by omega))
  rw [e]
theorem S82 {G : mG} {s : mY} {L : mFL} (hl : mXL G b I) (hp : mXY s 8 I L) (hg : mGw G) (ht : s.t ≤ 99999) (x : Int32) : ∃ L' : mFL, mFn S 82 [.ref 1, .int x] (mSH, I, L, mRk b) (some (.int (x + nI (s.t % G.T)))) (mSH, I, L', mRk b) ∧ mUp1 L L' 100001 := by
  obtain ⟨L1, f1, u1⟩ := S77 (S := S) (I := I) (b := b) (L := m_up L 1 13 (L 1 13 + 100000)) x
  refine ⟨L1, e82 (k82_0 (c82_14 f1 (k82_17 ?_))), mUp1.mk.tr u1 (by decide)⟩
  rw [hp.1]
  exact c82_28 (S6 hl.2.2.1 hg.2.1 hg.2.2.1 (by omega)) (k82_31 ⟨rfl, rfl⟩)
theorem S137 {G : mG} {s : mY} {L : mFL} (hl : mML G I) (hp : mMY G s 45 0 I) (hg : mGw G) (hs : mYw G s) {kd : Nat} (hkd : kd ≤ 5) (x y : Int32) : mFn S 137 [.ref 44, .int (nI kd), .int x, .int y] (mSH, I, L, mRk b) (some (.int (mRt G s kd x y))) (mSH, I, m_up L 44 13 (L 44 13 + mTr kd), mRk b) := by
  have ht := hs.1
  have ho := hs.on31 hg
  have z3 : I 45 ((3 : Int32).toNatClampNeg) = nI s.k := hp.2.2.2.1
  have z1 : I 45 ((1 : Int32).toNatClampNeg) = mOe s.on := hp.2.1
  have z0 : I 45 ((0 : Int32).toNatClampNeg) = nI s.t := hp.1
  refine e137 (k137_0 ?_)
  rw [z3]
  rcases (by omega : kd = 0 ∨ kd = 1 ∨ kd = 2 ∨ kd = 3 ∨ kd = 4 ∨ kd = 5) with rfl | rfl | rfl | rfl | rfl | rfl
  · exact k137_156 ⟨rfl, rfl⟩
  · exact k137_44 ⟨rfl, rfl⟩
  · exact k137_60 ⟨rfl, rfl⟩
  · exact k137_77 ⟨rfl, rfl⟩
  · obtain ⟨r3, f3, t3, t0⟩ := S107 (S := S) (I := I) (L := m_up L 44 13 (L 44 13 + 10101)) (b := b) hp ho
    refine k137_95 (c137_112 f3 (k137_115 (fun q => k137_122 (k137_128 ⟨?_, rfl⟩)) (fun q => k137_118 (k137_128 ⟨?_, rfl⟩))))
    · show some (Value.int (x - nI s.k + I 45 ((1 : Int32).toNatClampNeg))) = some (.int (x - nI s.k + (match s.on with | none => 0 | some p => nI p)))
      rw [z1]
      cases h : s.on with
      | none => rw [t3 h] at q; exact absurd q (by decide)
      | some p => rfl
    · show some (Value.int (x - nI s.k + 0)) = some (.int (x - nI s.k + (match s.on with | none => 0 | some p => nI p)))
      cases h : s.on with
      | none => rfl
      | some p => exact absurd (t0 (by rw [h]; exact Option.some_ne_none p)) q
  · refine k137_130 (by rw [hl.2.2.1]; exact m_nz hg.2.1 (by have := hg.2.2.1; omega)) ⟨?_, rfl⟩
    rw [z0, hl.2.2.1, pk_rem (by omega) hg.2.1 (by have := hg.2.2.1; omega)]
    rfl
end RATE
section RATE2
variable {S : mS}
theorem S76 {G : mG} {s : mY} {I : mF} {L : mFL} {b : Bool} (hl : mXL G b I) (hp : mXY s 8 I L) (hg : mGw G) (hs : mYw G s) {kd : Nat} (hkd : kd ≤ 5) (x y : Int32) : ∃ L' : mFL, mWp S 76 25 [some (.ref 1), some (.int (nI kd)), some (.int x), some (.int y)] [] (mSH, I, L, mRk b) (fun r2 w2 => r2 = some (.int (mRt G s kd x y)) ∧ w2 = (mSH, I, L', mRk b)) ∧ mUp1 L L' (mTr kd) := by
  have ho := hs.on31 hg
  rcases (by omega : kd = 0 ∨ kd = 1 ∨ kd = 2 ∨ kd = 3 ∨ kd = 4 ∨ kd = 5) with rfl | rfl | rfl | rfl | rfl | rfl
  · obtain ⟨L', f, u⟩ := S77 (S := S) (I := I) (b := b) (L := L) x
    exact ⟨L', k76_25 (k76_92 (c76_94 f (k76_97 ⟨rfl, rfl⟩))), u⟩
  · obtain ⟨L', f, u⟩ := S78 (S := S) (I := I) (b := b) (L := L) x y
    exact ⟨L', k76_25 (k76_60 (c76_63 f (k76_66 ⟨rfl, rfl⟩))), u⟩
  · obtain ⟨L', f, u⟩ := S79 (S := S) (I := I) (b := b) (L := L) hp x
    exact ⟨L', k76_25 (k76_67 (c76_69 f (k76_72 ⟨rfl, rfl⟩))), u⟩
  · obtain ⟨L', f, u⟩ := S80 (S := S) (I := I) (b := b) (L := L) x y
    exact ⟨L', k76_25 (k76_73 (c76_76 f (k76_79 ⟨rfl, rfl⟩))), u⟩
  · obtain ⟨L', f, u⟩ := S81 (S := S) (I := I) (b := b) (L := L) hp ho x
    exact ⟨L', k76_25 (k76_80 (c76_82 f (k76_85 ⟨rfl, rfl⟩))), u⟩
  · obtain ⟨L', f, u⟩ := S82 (S := S) (I := I) (b := b) (L := L) hl hp hg hs.1 x
    exact ⟨L', k76_25 (k76_86 (c76_88 f (k76_91 ⟨rfl, rfl⟩))), u⟩
theorem Cs_rate (kind x y : Int32) : mCs S 76 138 [.int kind, .int x, .int y] := by
  refine mCs_of fun G s h im tx la tr I L b hw hx hm => ?_
  have hg := hw.1
  have hs := hw.2.1
  by_cases hb : ∃ k, 0 ≤ k ∧ k ≤ 5 ∧ kind = nI k
  · obtain ⟨kd, -, hkd, rfl⟩ := hb
    have ea : mIn (nI kd) 0 5 = 1 := (mIn_n (by omega) (l := 0) (by decide) (h := 5) (by decide)).trans (if_pos ⟨Nat.zero_le _, hkd⟩)
    have xp : ∀ {Q : Option Value → mW → Prop}, mWp S 76 19 [some (.ref 1), some (.int (nI kd)), some (.int x), some (.int y)] [.int (mOe (mPlace G.W G.H x y))] (mSH, I, L, mRk b) Q → mWp S 76 0 [some (.ref 1), some (.int (nI kd)), some (.int x), some (.int y)] [] (mSH, I, L, mRk b) Q := by
      intro Q hq
      refine k76_0 (fun q => absurd q (nI_pos (by omega))) (fun _ => k76_4 (fun q => ?_) (fun _ => k76_10 (c76_16 (S2 hx.1.1 hx.1.2.1 hg.1 _ _) hq)))
      rw [show (6 : Int32) = nI 6 from rfl, nI_leI (by decide) (by omega)] at q
      omega
    have mp : ∀ {I1 : mF} {L1 : mFL} {Q : Option Value → mW → Prop}, mMI G s h im tx la tr I1 L1 → mWp S 138 15 [some (.ref 44), some (.int (nI kd)), some (.int x), some (.int y)] [.int (mIc G.W G.H x y)] (mSH, I1, L1, mRk b) Q → mWp S 138 0 [some (.ref 44), some (.int (nI kd)), some (.int x), some (.int y)] [] (mSH, I1, L1, mRk b) Q := by
      intro I1 L1 Q hm1 hq
      refine k138_0 (c138_3 (S88 _ _ _) ?_)
      rw [ea]
      exact k138_6 (fun q => absurd q (show ¬ (1 : Int32) = 0 by decide)) (fun _ => k138_9 (c138_12 (S89 hm1.1.1 hm1.1.2.1 hg.1 _ _) hq))
    unfold mIc at mp
    cases hp : mPlace G.W G.H x y with
    | none =>
      rw [hp] at xp mp
      exact ⟨.int (-1000000), G, s, h, im, tx, la, tr, hw, ⟨I, L, e76 (xp (k76_19 (fun q => absurd q (by decide)) (fun _ => k76_22 ⟨rfl, rfl⟩))), hx, mFx.rf⟩, fun I1 L1 hm1 => ⟨I1, L1, e138 (mp hm1 (k138_15 (fun _ => k138_28 (k138_30 ⟨rfl, rfl⟩)) (fun q => absurd rfl q))), hm1, mFm.rf⟩⟩
    | some p =>
      rw [hp] at xp mp
      have hp49 := mOn_lt hg.1 (mPlace_on hg.1 hp)
      obtain ⟨L', f, u⟩ := S76 (S := S) hx.1 hx.2.1 hg hs hkd x y
      refine ⟨.int (mRt G s kd x y), G, s, h, im, tx, la, tr + mTr kd, hw, ⟨I, L', e76 (xp (k76_19 (fun _ => f) (fun q => absurd (nI_pos' (by omega)) q))), hx.trc (by rw [u.1, hx.2.2.2.2.2.2]) u.2, fun a ha => ⟨rfl, u.2 a (by omega)⟩⟩, fun I1 L1 hm1 => ⟨I1, _, e138 (mp hm1 (k138_15 (fun q => absurd q (show ¬ (1 : Int32) = 0 by decide)) (fun _ => k138_18 (c138_22 (S137 hm1.1 hm1.2.1 hg hs hkd x y) (k138_25 (k138_30 ⟨rfl, rfl⟩)))))), hm1.trc (by rw [m_us, hm1.2.2.2.2.2.2]), mFm.rf.upL (by decide)⟩⟩
  · refine ⟨.int (-1000000), G, s, h, im, tx, la, tr, hw, ⟨I, L, e76 (k76_0 (fun _ => k76_22 ⟨rfl, rfl⟩) (fun q => k76_4 (fun _ => k76_22 ⟨rfl, rfl⟩) (fun q2 => absurd ?_ hb))), hx, mFx.rf⟩, fun I1 L1 hm1 => ⟨I1, L1, e138 (k138_0 (c138_3 (S88 _ _ _) ?_)), hm1, mFm.rf⟩⟩
    · obtain ⟨k, hk, rfl⟩ := nI_of q
      rw [show (6 : Int32) = nI 6 from rfl, nI_leI (by decide) hk] at q2
      exact ⟨k, Nat.zero_le _, by omega, rfl⟩
    · rcases mCm_in (v := kind) (lo := 0) (hi := 5) (by decide) (by decide) with ⟨e, -⟩ | ⟨-, q⟩
      · have e : mIn kind 0 5 = 0 := e
        rw [e]
        exact k138_6 (fun _ => k138_28 (k138_30 ⟨rfl, rfl⟩)) (fun q => absurd rfl q)
      · exact absurd q hb
end RATE2
