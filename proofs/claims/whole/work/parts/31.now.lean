/-! now -/
/-- who leads, of the first n -/
def mLd (sc : Nat → Nat) : Nat → Option Nat
  | 0 => none
  | n + 1 => match mLd sc n with
    | none => if 0 < sc n then some n else none
    | some f => if 0 < sc n ∧ sc n < sc f then some n else some f
theorem mLd_0 {sc : Nat → Nat} {n : Nat} (h : sc n = 0) : mLd sc (n + 1) = mLd sc n := by
  rw [mLd]
  cases mLd sc n with
  | none => exact if_neg (by omega)
  | some f => exact if_neg (by omega)
theorem mLd_n {sc : Nat → Nat} {n : Nat} (hl : mLd sc n = none) (h : 0 < sc n) : mLd sc (n + 1) = some n := by
  rw [mLd, hl]
  exact if_pos h
theorem mLd_s1 {sc : Nat → Nat} {n f : Nat} (hl : mLd sc n = some f) (h : 0 < sc n) (h2 : sc n < sc f) : mLd sc (n + 1) = some n := by
  rw [mLd, hl]
  exact if_pos ⟨h, h2⟩
theorem mLd_s0 {sc : Nat → Nat} {n f : Nat} (hl : mLd sc n = some f) (h2 : ¬ sc n < sc f) : mLd sc (n + 1) = some f := by
  rw [mLd, hl]
  exact if_neg (fun q => h2 q.2)
theorem mLd_lt {sc : Nat → Nat} : ∀ {n f : Nat}, mLd sc n = some f → f < n
  | 0, f, h => by cases h
  | n + 1, f, h => by
    rw [mLd] at h
    cases hl : mLd sc n with
    | none =>
      rw [hl] at h
      dsimp only at h
      split at h
      · cases h; exact Nat.lt_succ_self n
      · cases h
    | some e =>
      have := mLd_lt hl
      rw [hl] at h
      dsimp only at h
      split at h
      · cases h; exact Nat.lt_succ_self n
      · cases h; omega
section NOW
variable {S : mS}
theorem S15 {G : mG} {s : mY} {I : mF} {L : mFL} {b : Bool} (hp : mXY s 8 I L) (hs : ∀ q, s.sc q ≤ 7) (h4 : G.P ≤ 4) : mFn S 15 [.ref 8, .int (nI G.P)] (mSH, I, L, mRk b) (some (.int (mOe (mLd s.sc G.P)))) (mSH, I, L, mRk b) := by
  have loop : ∀ (n k : Nat), k + n = G.P → mWp S 15 5 [some (.ref 8), some (.int (nI G.P)), some (.int (mOe (mLd s.sc k))), some (.int (nI k))] [] (mSH, I, L, mRk b) (fun r2 w2 => r2 = some (.int (mOe (mLd s.sc G.P))) ∧ w2 = (mSH, I, L, mRk b)) := by
    intro n
    induction n with
    | zero =>
      intro k hk
      have hk : k = G.P := by omega
      subst hk
      refine k15_5 (fun _ => k15_45 ⟨rfl, rfl⟩) (fun q => ?_)
      rw [nI_leI (by omega) (by omega)] at q
      omega
    | succ n ih =>
      intro k hk
      refine k15_5 (fun q => ?_) (fun _ => k15_10 (c15_12 (S14 hp (by omega)) ?_))
      · rw [nI_leI (by omega) (by omega)] at q
        omega
      have hsk := hs k
      have old : ∀ o : mLd s.sc (k + 1) = mLd s.sc k, mWp S 15 39 [some (.ref 8), some (.int (nI G.P)), some (.int (mOe (mLd s.sc k))), some (.int (nI k))] [] (mSH, I, L, mRk b) (fun r2 w2 => r2 = some (.int (mOe (mLd s.sc G.P))) ∧ w2 = (mSH, I, L, mRk b)) := by
        intro o
        refine k15_39 ?_
        have := ih (k + 1) (by omega)
        rw [o] at this
        rw [nI_1]
        exact this
      have new : ∀ (o : mLd s.sc (k + 1) = some k) (o2 : Option Value), mWp S 15 37 [some (.ref 8), some (.int (nI G.P)), o2, some (.int (nI k))] [] (mSH, I, L, mRk b) (fun r2 w2 => r2 = some (.int (mOe (mLd s.sc G.P))) ∧ w2 = (mSH, I, L, mRk b)) := by
        intro o o2
        refine k15_37 (k15_39 ?_)
        have := ih (k + 1) (by omega)
        rw [o] at this
        rw [nI_1]
        exact this
      refine k15_15 (fun q => old ?_) (fun q => ?_)
      · rw [show (0 : Int32) = nI 0 from rfl, nI_leI (by omega) (by decide)] at q
        exact mLd_0 (by omega)
      · rw [show (0 : Int32) = nI 0 from rfl, nI_leI (by omega) (by decide)] at q
        cases hl : mLd s.sc k with
        | none =>
          rw [hl] at old
          refine k15_18 (fun _ => new ?_ _) (fun q2 => absurd rfl q2)
          exact mLd_n hl (by omega)
        | some f =>
          have hf := mLd_lt hl
          have hsf := hs f
          rw [hl] at old
          refine k15_18 (fun q2 => absurd q2 (nI_neg9 (by omega))) (fun _ => k15_24 (c15_26 (S14 hp (by omega)) (k15_29 (c15_31 (S14 hp (by omega)) ?_))))
          refine k15_34 (fun q2 => old ?_) (fun q2 => new ?_ _)
          · rw [nI_leI (by omega) (by omega)] at q2
            exact mLd_s0 hl (by omega)
          · rw [nI_leI (by omega) (by omega)] at q2
            exact mLd_s1 hl (by omega) (by omega)
  exact e15 (k15_0 (loop G.P 0 (by omega)))
theorem S110 {G : mG} {s : mY} {I : mF} {L : mFL} {b : Bool} (hl : mML G I) (hp : mMY G s 45 0 I) (hs : ∀ q, s.sc q ≤ 7) (h4 : G.P ≤ 4) : mFn S 110 [.ref 44] (mSH, I, L, mRk b) (some (.int (mOe (mLd s.sc G.P)))) (mSH, I, L, mRk b) := by
  have hP : I 44 4 = nI G.P := hl.2.2.2.2.1
  have sc : ∀ k, k < 4 → m_ok (4 + nI k) 57 = true ∧ I 45 (4 + nI k : Int32).toNatClampNeg = nI (s.sc k) := by
    intro k hk
    have e4 : (4 + nI k : Int32) = nI (4 + k) := nI_add 4 k
    have := hp.2.2.2.2.1 k hk
    rw [Nat.zero_add] at this
    rw [e4, nI_clamp (by omega)]
    exact ⟨m_okN (by omega) (by decide), this⟩
  have loop : ∀ (n k : Nat) (o3 : Option Value), k + n = G.P → mWp S 110 5 [some (.ref 44), some (.int (mOe (mLd s.sc k))), some (.int (nI k)), o3] [] (mSH, I, L, mRk b) (fun r2 w2 => r2 = some (.int (mOe (mLd s.sc G.P))) ∧ w2 = (mSH, I, L, mRk b)) := by
    intro n
    induction n with
    | zero =>
      intro k o3 hk
      have hk : k = G.P := by omega
      subst hk
      refine k110_5 (fun _ => k110_69 ⟨rfl, rfl⟩) (fun q => ?_)
      rw [hP, nI_leI (by omega) (by omega)] at q
      omega
    | succ n ih =>
      intro k o3 hk
      have hsk := hs k
      have old : ∀ (o : mLd s.sc (k + 1) = mLd s.sc k), mWp S 110 51 [some (.ref 44), some (.int (mOe (mLd s.sc k))), some (.int (nI k)), o3] [] (mSH, I, L, mRk b) (fun r2 w2 => r2 = some (.int (mOe (mLd s.sc G.P))) ∧ w2 = (mSH, I, L, mRk b)) := by
        intro o
        refine k110_51 (k110_52 (fun _ => k110_61 (k110_62 ?_)) (fun q => absurd rfl q))
        have := ih (k + 1) (some (.int 0)) (by omega)
        rw [o] at this
        rw [nI_1]
        exact this
      have new : ∀ (o : mLd s.sc (k + 1) = some k) (o2 : Option Value), mWp S 110 47 [some (.ref 44), o2, some (.int (nI k)), o3] [] (mSH, I, L, mRk b) (fun r2 w2 => r2 = some (.int (mOe (mLd s.sc G.P))) ∧ w2 = (mSH, I, L, mRk b)) := by
        intro o o2
        refine k110_47 (k110_52 (fun q => absurd q (by decide)) (fun _ => k110_57 (k110_62 ?_)))
        have := ih (k + 1) (some (.int 1)) (by omega)
        rw [o] at this
        rw [nI_1]
        exact this
      refine k110_5 (fun q => ?_) (fun _ => k110_13 (sc k (by omega)).1 (fun q => old ?_) (fun q => ?_))
      · rw [hP, nI_leI (by omega) (by omega)] at q
        omega
      · rw [(sc k (by omega)).2, show (0 : Int32) = nI 0 from rfl, nI_leI (by omega) (by decide)] at q
        exact mLd_0 (by omega)
      · rw [(sc k (by omega)).2, show (0 : Int32) = nI 0 from rfl, nI_leI (by omega) (by decide)] at q
        cases hl : mLd s.sc k with
        | none =>
          refine k110_24 (fun _ => new ?_ _) (fun q2 => absurd (show (-9 : Int32) < 0 by decide) q2)
          exact mLd_n hl (by omega)
        | some f =>
          have hf := mLd_lt hl
          have hsf := hs f
          rw [hl] at old
          refine k110_24 (fun q2 => absurd q2 (nI_pos (by omega))) (fun _ => k110_28 (sc k (by omega)).1 (sc f (by omega)).1 (fun q2 => old ?_) (fun q2 => new ?_ _))
          · have q2 : I 45 ((4 + nI f : Int32).toNatClampNeg) ≤ I 45 ((4 + nI k : Int32).toNatClampNeg) := q2
            rw [(sc k (by omega)).2, (sc f (by omega)).2, nI_leI (by omega) (by omega)] at q2
            exact mLd_s0 hl (by omega)
          · have q2 : ¬ I 45 ((4 + nI f : Int32).toNatClampNeg) ≤ I 45 ((4 + nI k : Int32).toNatClampNeg) := q2
            rw [(sc k (by omega)).2, (sc f (by omega)).2, nI_leI (by omega) (by omega)] at q2
            exact mLd_s1 hl (by omega) (by omega)
  exact e110 (k110_0 (loop G.P 0 none (by omega)))
def mNow (G : mG) (s : mY) (n : Nat) (x : Int32) : Int32 := if x = 0 then nI s.t else if x = 1 then mOe s.on else if x = 2 then mAn s.ba else if x = 3 then nI s.k else if x = 4 then (if s.t % G.T = G.O then 1 else 0) else if x = 5 then mOe (mLd s.sc G.P) else if x = 6 then nI n else -1
theorem Cs_now (x : Int32) : mCs S 49 111 [.int x] := by
  refine mCs_q fun G s h im tx la tr I L b hw hx => ?_
  have hba : ∀ k, s.ba = some k → k < 49 := fun k hk => mOn_lt hw.1.1 (hw.2.1.2.1 k hk)
  have ht := hw.2.1.1
  have hs := hw.2.1.2.2.2.2.2.1
  obtain ⟨h7, hT0, hT6, hOT, hP, -⟩ := hw.1
  refine ⟨.int (mNow G s h.1 x), ⟨I, L, e49 (k49_0 ?_), fun _ _ _ => rfl, mFx.rf, fun _ _ => rfl⟩, fun I1 L1 hm1 => ⟨I1, e111 (k111_0 ?_), fun _ _ _ => rfl, mFm.rf⟩⟩
  · have l4 := hx.1.2.2.2.2.1
    have hy := hx.2.1
    obtain ⟨y0, y1, y2, y3, -⟩ := hx.2.1
    obtain ⟨pn, -, -, p6, -⟩ := hx.2.2.1
    unfold mNow
    refine mWp_ite (fun h0 => k49_44 ⟨by rw [if_pos h0, y0], rfl⟩) (fun h0 => ?_)
    rw [if_neg h0]
    refine mWp_ite (fun h0 => k49_52 ⟨by rw [if_pos h0, y3], rfl⟩) (fun h0 => ?_)
    rw [if_neg h0]
    refine mWp_ite (fun h0 => k49_60 ?_) (fun h0 => ?_)
    · rw [y1]
      exact c49_67 (S50o hba) (k49_70 ⟨by rw [if_pos h0], rfl⟩)
    rw [if_neg h0]
    refine mWp_ite (fun h0 => k49_71 ⟨by rw [if_pos h0, y2], rfl⟩) (fun h0 => ?_)
    rw [if_neg h0]
    refine mWp_ite (fun h0 => k49_79 ?_) (fun h0 => ?_)
    · rw [y0, if_pos h0]
      obtain ⟨r, f7, r1, r0⟩ := S7 (S := S) (L := L) (b := b) hx.1.2.2.1 hx.1.2.2.2.1 hT0 hT6 hOT (t := s.t) (by omega)
      refine c49_90 f7 ?_
      by_cases q : s.t % G.T = G.O
      · rw [if_pos q, r1 q]
        exact k49_93 (fun q => absurd q (show ¬ (1 : Int32) = 0 by decide)) (fun _ => k49_96 (k49_101 ⟨rfl, rfl⟩))
      · rw [if_neg q, r0 q]
        exact k49_93 (fun _ => k49_100 (k49_101 ⟨rfl, rfl⟩)) (fun q => absurd rfl q)
    rw [if_neg h0]
    refine mWp_ite (fun h0 => k49_102 ?_) (fun h0 => ?_)
    · rw [l4]
      exact c49_113 (S15 hy hs hP.2) (k49_116 ⟨by rw [if_pos h0], rfl⟩)
    rw [if_neg h0]
    refine mWp_ite (fun h0 => k49_117 ⟨by rw [if_pos h0, p6], rfl⟩) (fun h0 => ?_)
    rw [if_neg h0]
    exact k49_122 ⟨rfl, rfl⟩
  · obtain ⟨l0, l1, l2, l3, l4, l5⟩ := hm1.1
    have hy := hm1.2.1
    obtain ⟨y0, y1, y2, y3, -⟩ := hm1.2.1
    have z0 : I1 45 ((0 : Int32).toNatClampNeg) = nI s.t := y0
    have z1 : I1 45 ((1 : Int32).toNatClampNeg) = mOe s.on := y1
    have z2 : I1 45 ((2 : Int32).toNatClampNeg) = mOe s.ba := y2
    have z3 : I1 45 ((3 : Int32).toNatClampNeg) = nI s.k := y3
    unfold mNow
    refine mWp_ite (fun h0 => k111_44 ⟨by rw [if_pos h0, z0], rfl⟩) (fun h0 => ?_)
    rw [if_neg h0]
    refine mWp_ite (fun h0 => k111_51 ⟨by rw [if_pos h0, z1], rfl⟩) (fun h0 => ?_)
    rw [if_neg h0]
    refine mWp_ite (fun h0 => k111_58 ?_) (fun h0 => ?_)
    · rw [z2]
      exact c111_64 (S91o hba) (k111_67 ⟨by rw [if_pos h0], rfl⟩)
    rw [if_neg h0]
    refine mWp_ite (fun h0 => k111_68 ⟨by rw [if_pos h0, z3], rfl⟩) (fun h0 => ?_)
    rw [if_neg h0]
    refine mWp_ite (fun h0 => ?_) (fun h0 => ?_)
    · rw [if_pos h0]
      have hlt : s.t % G.T < G.T := Nat.mod_lt _ hT0
      refine k111_75 (by rw [l2]; exact m_nz hT0 (by omega)) (fun q => ?_) (fun q => ?_)
      · rw [z0, l2, l3, pk_rem (by omega) hT0 (by omega), nI_eq (by omega) (by omega)] at q
        rw [if_pos q]
        exact k111_93 (k111_98 ⟨rfl, rfl⟩)
      · rw [z0, l2, l3, pk_rem (by omega) hT0 (by omega), nI_eq (by omega) (by omega)] at q
        rw [if_neg q]
        exact k111_97 (k111_98 ⟨rfl, rfl⟩)
    rw [if_neg h0]
    refine mWp_ite (fun h0 => k111_99 ?_) (fun h0 => ?_)
    · exact c111_100 (S110 hm1.1 hy hs hP.2) (k111_103 ⟨by rw [if_pos h0], rfl⟩)
    rw [if_neg h0]
    refine mWp_ite (fun h0 => k111_104 ⟨by rw [if_pos h0, hm1.2.2.1.1], rfl⟩) (fun h0 => ?_)
    rw [if_neg h0]
    exact k111_109 ⟨rfl, rfl⟩
end NOW
