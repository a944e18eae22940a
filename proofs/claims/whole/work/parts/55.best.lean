/-! best -/
def mBh (s : mY) (p : Nat) : Nat := if s.on = some p then s.k else 0
def mBx (G : mG) (s : mY) (p : Nat) : Nat := match (if s.on = some p then s.ba else G.te) with
  | none => 0
  | some c => mDi G s c
def mBv (G : mG) (s : mY) (p : Nat) : Nat := if s.sc p = 0 then (if mBx G s p = 0 then 7 else min 7 (mBh s p + mBx G s p)) else s.sc p
def mBs (G : mG) (s : mY) : Nat → Nat
  | 0 => 0
  | n + 1 => mBs G s n + mBv G s n
theorem mBx_le {G : mG} {s : mY} {p : Nat} : mBx G s p ≤ 49 := by
  unfold mBx
  split
  · exact Nat.zero_le _
  · exact mDi_le
theorem mFo_n {n : Nat} : mFo n = nI (if n = 0 then 1000 else n) := by
  unfold mFo
  by_cases h : n = 0
  · rw [if_pos h, if_pos h]
    rfl
  · rw [if_neg h, if_neg h]
section BEST
variable {S : mS} {b : Bool}
theorem mBx_on {G : mG} {s : mY} {p k : Nat} (h : s.on = some p) (hk : s.ba = some k) : mBx G s p = mDi G s k := by
  unfold mBx
  rw [if_pos h, hk]
theorem S73 {G : mG} {s : mY} {h : mH} {im : mJ} {tx : mTx} {la : mLy} {tr : Int64} {I : mF} {L : mFL} (hw : mWf G s h im tx la) (hx : mXI G s h im tx la tr b I L) (hd : ∀ k, k < 49 → I 18 k = mFo (mDi G s k)) {p : Nat} (hp : p < 4) :
    mFn S 73 [.ref 1, .int (nI p)] (mSH, I, L, mRk b) (some (.int (nI (mBh s p + (if mBx G s p = 0 then 1000 else mBx G s p))))) (mSH, I, L, mRk b) := by
  have hg := hw.1
  have hs := hw.2.1
  have eon : I 8 3 = mOe s.on := hx.2.1.2.2.2.1
  have hon : nI p = mOe s.on ↔ s.on = some p := mOe_eq (fun k hk => by have := hs.2.2.2.1 k hk; have := hg.2.2.2.2.1.2; omega) (by omega)
  by_cases ho : s.on = some p
  · obtain ⟨k, hk⟩ := hs.ball (by rw [ho]; simp)
    have hk9 : k < 49 := mOn_lt hg.1 (hs.2.1 k hk)
    have f := S23 (S := S) (I := I) (L := L) (b := b) hk9
    have eb : I 8 1 = nI k := by rw [hx.2.1.2.1, hk]; rfl
    refine e73 (k73_0 (fun _ => k73_11 ?_) (fun q => absurd (hon.mpr ho) (by rw [← eon]; exact q)))
    rw [eb, hx.2.1.2.2.1]
    refine c73_29 f (k73_32 (k73_50 ⟨?_, rfl⟩))
    rw [hd k hk9, mFo_n, nI_add, mBx_on ho hk, mBh, if_pos ho]
  · have e0 : mBh s p = 0 := by
      unfold mBh
      rw [if_neg ho]
    have ex : mBx G s p = match G.te with
      | none => 0
      | some c => mDi G s c := by
      unfold mBx
      rw [if_neg ho]
    refine e73 (k73_0 (fun q => absurd (hon.mp (by rw [← eon]; exact q)) ho) (fun _ => k73_36 ?_))
    rw [hx.1.2.2.2.2.2.1, e0, ex]
    cases ht : G.te with
    | none => exact c73_47 (S23n (by decide)) (k73_50 ⟨rfl, rfl⟩)
    | some c =>
      have hc9 : c < 49 := mOn_lt hg.1 (hg.2.2.2.2.2.1 c ht)
      refine c73_47 (S23 hc9) (k73_50 ⟨?_, rfl⟩)
      rw [hd c hc9, mFo_n, Nat.zero_add]
theorem mBs_le {G : mG} {s : mY} (hs : ∀ q, s.sc q ≤ 7) : ∀ n, mBs G s n ≤ 7 * n
  | 0 => Nat.le_refl _
  | n + 1 => by
    have := mBs_le (G := G) hs n
    have h7 := hs n
    rw [mBs]
    have : mBv G s n ≤ 7 := by
      unfold mBv
      split
      · split <;> omega
      · exact h7
    omega
theorem Cs_best : mCs S 72 134 [] := by
  refine mCs_q2 fun G s h im tx la tr I L b hw hx => ?_
  have hg := hw.1
  have hs := hw.2.1
  have hP4 := hg.2.2.2.2.1.2
  obtain ⟨I1, L1, f1, s1, l1, -, hx1, d1⟩ := S18s (S := S) hw hx
  refine ⟨.int (nI (mBs G s G.P)), ⟨I1, L1, ?_, s1, l1⟩, fun I2 L2 hm => ?_⟩
  · have loop : ∀ (m k : Nat) (o3 : Option Value), k + m = G.P → mWp S 72 22 [some (.ref 1), some (.int (nI (mBs G s k))), some (.int (nI k)), o3] [] (mSH, I1, L1, mRk b) (fun r2 w2 => r2 = some (.int (nI (mBs G s G.P))) ∧ w2 = (mSH, I1, L1, mRk b)) := by
      intro m
      induction m with
      | zero =>
        intro k o3 hk
        have hk : k = G.P := by omega
        subst hk
        refine k72_22 (fun _ => k72_69 ⟨rfl, rfl⟩) (fun q => ?_)
        rw [hx1.1.2.2.2.2.1] at q
        exact absurd (Int32.le_refl _) q
      | succ m ih =>
        intro k o3 hk
        have hk4 : k < 4 := by omega
        have f14 := S14 (S := S) (b := b) hx1.2.1 hk4
        have f73 := S73 (S := S) (b := b) hw hx1 d1 hk4
        have h7 := hs.2.2.2.2.2.1 k
        have hbx := mBx_le (G := G) (s := s) (p := k)
        have hk5 := hs.2.2.2.2.1
        have hbh : mBh s k ≤ 5 := by
          unfold mBh
          split <;> omega
        have go := ih (k + 1)
        rw [mBs] at go
        refine k72_22 (fun q => ?_) (fun _ => k72_33 (c72_38 f14 (k72_41 (fun q => k72_51 (c72_55 f73 (k72_58 (k72_61 ?_)))) (fun q => k72_47 (k72_61 ?_)))))
        · rw [hx1.1.2.2.2.2.1, nI_leI (by omega) (by omega)] at q
          omega
        · rw [show (0 : Int32) = nI 0 from rfl, nI_leI (by omega) (by decide)] at q
          have e : (if nI (mBh s k + (if mBx G s k = 0 then 1000 else mBx G s k)) < 7 then nI (mBh s k + (if mBx G s k = 0 then 1000 else mBx G s k)) else 7) = nI (mBv G s k) := by
            unfold mBv
            rw [if_pos (show s.sc k = 0 by omega)]
            by_cases z : mBx G s k = 0
            · rw [if_pos z, if_pos z, if_neg]
              · rfl
              · rw [show (7 : Int32) = nI 7 from rfl, nI_ltI (by omega) (by decide)]
                omega
            · rw [if_neg z, if_neg z]
              by_cases z2 : mBh s k + mBx G s k < 7
              · rw [if_pos, Nat.min_eq_right (by omega)]
                rw [show (7 : Int32) = nI 7 from rfl, nI_ltI (by omega) (by decide)]
                exact z2
              · rw [if_neg, Nat.min_eq_left (by omega)]
                · rfl
                · rw [show (7 : Int32) = nI 7 from rfl, nI_ltI (by omega) (by decide)]
                  exact z2
          rw [e, nI_add, nI_1]
          exact go _ (by omega)
        · rw [show (0 : Int32) = nI 0 from rfl, nI_leI (by omega) (by decide)] at q
          have e : mBv G s k = s.sc k := by
            unfold mBv
            rw [if_neg (show ¬ s.sc k = 0 by omega)]
          rw [← e, nI_add, nI_1]
          exact go _ (by omega)
    exact e72 (k72_0 (c72_15 f1 (k72_18 (loop G.P 0 none (by omega)))))
  · obtain ⟨I3, f3, s3, hm3, d3, -⟩ := S124s (S := S) (b := b) hw hm
    refine ⟨I3, ?_, s3⟩
    have z1 : I3 45 ((1 : Int32).toNatClampNeg) = mOe s.on := hm3.2.1.2.1
    have z2 : I3 45 ((2 : Int32).toNatClampNeg) = mOe s.ba := hm3.2.1.2.2.1
    have z3 : I3 45 ((3 : Int32).toNatClampNeg) = nI s.k := hm3.2.1.2.2.2.1
    have loop : ∀ (m k : Nat) (o3 o4 o5 : Option Value), k + m = G.P → mWp S 134 8 [some (.ref 44), some (.int (nI (mBs G s k))), some (.int (nI k)), o3, o4, o5] [] (mSH, I3, L2, mRk b) (fun r2 w2 => r2 = some (.int (nI (mBs G s G.P))) ∧ w2 = (mSH, I3, L2, mRk b)) := by
      intro m
      induction m with
      | zero =>
        intro k o3 o4 o5 hk
        have hk : k = G.P := by omega
        subst hk
        refine k134_8 (fun _ => k134_132 ⟨rfl, rfl⟩) (fun q => ?_)
        rw [hm3.1.2.2.2.2.1] at q
        exact absurd (Int32.le_refl _) q
      | succ m ih =>
        intro k o3 o4 o5 hk
        have hk4 : k < 4 := by omega
        have h7 := hs.2.2.2.2.2.1 k
        have hbx := mBx_le (G := G) (s := s) (p := k)
        have hk5 := hs.2.2.2.2.1
        have hbh : mBh s k ≤ 5 := by
          unfold mBh
          split <;> omega
        have go := ih (k + 1)
        rw [mBs] at go
        have e4 : (4 + nI k : Int32) = nI (4 + k) := nI_add 4 k
        have ok : m_ok (4 + nI k) 57 = true := by rw [e4]; exact m_okN (by omega) (by decide)
        have eS : I3 45 ((4 + nI k : Int32).toNatClampNeg) = nI (s.sc k) := by
          have := hm3.2.1.2.2.2.2.1 k hk4
          rw [Nat.zero_add] at this
          rw [e4, nI_clamp (by omega), this]
        have hon : nI k = mOe s.on ↔ s.on = some k := mOe_eq (fun k hk => by have := hs.2.2.2.1 k hk; omega) (by omega)
        -- the sum goes on
        have sum : ∀ (had more : Nat) (u : Bool) (o5 : Option Value) (om : Option Value), (u = true → om = some (.int (nI more)) ∧ had = mBh s k ∧ more = mBx G s k ∧ ¬ mBx G s k = 0 ∧ mBh s k + mBx G s k ≤ 6) → (u = false → mBx G s k = 0 ∨ 6 < mBh s k + mBx G s k) → mWp S 134 85 [some (.ref 44), some (.int (nI (mBs G s k))), some (.int (nI k)), some (.int (nI had)), om, o5] [.int (mU u)] (mSH, I3, L2, mRk b) (fun r2 w2 => r2 = some (.int (nI (mBs G s G.P))) ∧ w2 = (mSH, I3, L2, mRk b)) := by
          intro had more u o5 om h1 h2
          refine k134_85 ok (fun q => ?_) (fun q => k134_99 ok ?_)
          · rw [eS, show (0 : Int32) = nI 0 from rfl, nI_leI (by omega) (by decide)] at q
            cases u with
            | true =>
              obtain ⟨rfl, rfl, rfl, q1, q2⟩ := h1 rfl
              have e : mBv G s k = mBh s k + mBx G s k := by
                unfold mBv
                rw [if_pos (show s.sc k = 0 by omega), if_neg q1, Nat.min_eq_right (by omega)]
              refine k134_110 (fun q => absurd q (by decide)) (fun _ => k134_115 (k134_124 ?_))
              rw [nI_add, ← e, nI_add, nI_1]
              exact go _ _ _ (by omega)
            | false =>
              have e : mBv G s k = 7 := by
                unfold mBv
                rw [if_pos (show s.sc k = 0 by omega)]
                by_cases z : mBx G s k = 0
                · rw [if_pos z]
                · have := h2 rfl
                  rw [if_neg z, Nat.min_eq_left (by omega)]
              refine k134_110 (fun _ => k134_122 (k134_124 ?_)) (fun q => absurd rfl q)
              rw [show (7 : Int32) = nI 7 from rfl, ← e, nI_add, nI_1]
              exact go _ _ _ (by omega)
          · rw [eS, show (0 : Int32) = nI 0 from rfl, nI_leI (by omega) (by decide)] at q
            have e : mBv G s k = s.sc k := by
              unfold mBv
              rw [if_neg (show ¬ s.sc k = 0 by omega)]
            refine k134_124 ?_
            rw [eS, ← e, nI_add, nI_1]
            exact go _ _ _ (by omega)
        have more : ∀ (had : Nat) (o4 o5 : Option Value), had = mBh s k → mWp S 134 64 [some (.ref 44), some (.int (nI (mBs G s k))), some (.int (nI k)), some (.int (nI had)), o4, o5] [.int (if mBx G s k = 0 then -9 else nI (mBx G s k))] (mSH, I3, L2, mRk b) (fun r2 w2 => r2 = some (.int (nI (mBs G s G.P))) ∧ w2 = (mSH, I3, L2, mRk b)) := by
          intro had o4 o5 hh
          by_cases z : mBx G s k = 0
          · rw [if_pos z]
            exact k134_64 (fun _ => k134_84 (sum had 0 false _ _ (fun q => absurd q (by decide)) (fun _ => Or.inl z))) (fun q => absurd (by decide) q)
          · rw [if_neg z]
            refine k134_64 (fun q => ?_) (fun _ => k134_71 (fun q => k134_84 (sum had 0 false _ _ (fun q => absurd q (by decide)) (fun _ => Or.inr ?_))) (fun q => k134_80 (sum had (mBx G s k) true _ _ (fun _ => ⟨rfl, hh, rfl, z, ?_⟩) (fun q => absurd q (by decide)))))
            · rw [show (0 : Int32) = nI 0 from rfl, nI_leI (by omega) (by decide)] at q
              exact absurd q (by omega)
            · rw [nI_add, show (6 : Int32) = nI 6 from rfl, nI_ltI (by decide) (by omega)] at q
              omega
            · rw [nI_add, show (6 : Int32) = nI 6 from rfl, nI_ltI (by decide) (by omega)] at q
              omega
        by_cases ho : s.on = some k
        · obtain ⟨c, hc⟩ := hs.ball (by rw [ho]; simp)
          have hc9 : c < 49 := mOn_lt hg.1 (hs.2.1 c hc)
          have f := S125 (S := S) (L := L2) (b := b) d3 hc9
          rw [← mBx_on (G := G) ho hc] at f
          refine k134_8 (fun q => ?_) (fun _ => k134_16 (fun _ => k134_26 ?_) (fun q => ?_))
          · rw [hm3.1.2.2.2.2.1, nI_leI (by omega) (by omega)] at q
            omega
          · rw [z3]
            refine k134_36 (fun _ => k134_48 ?_) (fun q => ?_)
            · rw [z2, hc]
              exact c134_61 f (more s.k _ _ (by unfold mBh; rw [if_pos ho]))
            · rw [z1] at q
              exact absurd (hon.mpr ho) q
          · rw [z1] at q
            exact absurd (hon.mpr ho) q
        · have e0 : mBh s k = 0 := by
            unfold mBh
            rw [if_neg ho]
          have ex : mBx G s k = match G.te with
            | none => 0
            | some c => mDi G s c := by
            unfold mBx
            rw [if_neg ho]
          have f : mFn S 125 [.ref 44, .int (mOe G.te)] (mSH, I3, L2, mRk b) (some (.int (if mBx G s k = 0 then -9 else nI (mBx G s k)))) (mSH, I3, L2, mRk b) := by
            rw [ex]
            cases ht : G.te with
            | none => exact S125n (by decide)
            | some c => exact S125 (S := S) (L := L2) (b := b) d3 (mOn_lt hg.1 (hg.2.2.2.2.2.1 c ht))
          refine k134_8 (fun q => ?_) (fun _ => k134_16 (fun q => ?_) (fun _ => k134_35 (k134_36 (fun q => ?_) (fun _ => k134_57 ?_))))
          · rw [hm3.1.2.2.2.2.1, nI_leI (by omega) (by omega)] at q
            omega
          · rw [z1] at q
            exact absurd (hon.mp q) ho
          · rw [z1] at q
            exact absurd (hon.mp q) ho
          · rw [hm3.1.2.2.2.2.2]
            exact c134_61 f (more 0 _ _ e0.symm)
    exact e134 (k134_0 (c134_1 f3 (k134_4 (loop G.P 0 none none none (by omega)))))
end BEST
