/-! which -/
/-- whether all that was laid, of the first i, is v -/
def mAl (la : mLy) (v : Int32) : Nat → Bool
  | 0 => true
  | i + 1 => mAl la v i && decide (mOf (la.2 i) = v)
theorem mAl_f {la : mLy} {v : Int32} {i : Nat} (h : mAl la v i = false) : ∀ m, mAl la v (i + m) = false
  | 0 => h
  | m + 1 => by
    show (mAl la v (i + m) && _) = false
    rw [mAl_f h m]
    rfl
/-- where a stroke ends -/
def mEn (k : Nat) (r : Nat × Nat × Nat) : Int32 := if r.1 = 1 then -5 else nI (if r.1 = 2 then k else r.2.1)
def mWc (f : Nat → Bool) : Nat → Nat × Option Nat
  | 0 => (0, none)
  | j + 1 => if f j then ((mWc f j).1 + 1, match (mWc f j).2 with | none => some (10 * (j / 6) + (j % 6 + 1)) | some c => some c) else mWc f j
theorem mWc_le {f : Nat → Bool} : ∀ j, (mWc f j).1 ≤ j ∧ ∀ c, (mWc f j).2 = some c → c ≤ 10 * j + 10
  | 0 => ⟨Nat.le_refl _, fun c h => by cases h⟩
  | j + 1 => by
    have ih := mWc_le (f := f) j
    unfold mWc
    split
    · refine ⟨by dsimp only; omega, fun c h => ?_⟩
      dsimp only at h
      cases h2 : (mWc f j).2 with
      | none =>
        rw [h2] at h
        cases h
        omega
      | some e =>
        rw [h2] at h
        cases h
        have := ih.2 _ h2
        omega
    · exact ⟨by omega, fun c h => by have := ih.2 c h; omega⟩
/-- the strokes that fit what was laid -/
def mFt (G : mG) (s : mY) (la : mLy) (k j : Nat) : Bool := mAl la (mEn k (mRs G s k 0 (j / 6) (j % 6 + 1))) la.1
def mWa (c : Nat × Option Nat) (w : Nat) : Int32 := if w = 0 then nI c.1 else mOe c.2
section WHICH
variable {S : mS}
theorem S71 {G : mG} {s : mY} {h : mH} {im : mJ} {tx : mTx} {la : mLy} {tr : Int64} {I : mF} {L : mFL} {b : Bool} (hx : mXI G s h im tx la tr b I L) (hg : mGw G) (hs : mYw G s) (hla : la.1 ≤ 5) {k d n : Nat} (hk : s.ba = some k) (hd : d < 4) (hn : n ≤ 6) :
    ∃ I' : mF, mFn S 71 [.ref 1, .int (nI d), .int (nI n)] (mSH, I, L, mRk b) (some (.int (if mAl la (mEn k (mRs G s k 0 d n)) la.1 then 1 else 0))) (mSH, I', L, mRk b) ∧ mSm [14] I I' := by
  obtain ⟨I2, f2, s2, p0, -⟩ := S53 (S := S) hx.1 hx.2.1 hg hs hk (w := 0) (d := d) (n := n) (by decide) hd hn
  have e5 := mRe_5 (mRs_lt (w := 0) (d := d) (n := n) hg hs hk)
  have hx2 := hx.sm (s2.x14 (L := L)).1 (fun _ _ => rfl)
  obtain ⟨a0, a1⟩ := hx2.2.2.2.2.2.1
  generalize hv : mEn k (mRs G s k 0 d n) = v
  have loop : ∀ (m i : Nat), i + m = la.1 → mAl la v i = true → mWp S 71 28 [some (.ref 1), some (.int (nI d)), some (.int (nI n)), some (.int v), some (.int (nI i))] [] (mSH, I2, L, mRk b) (fun r2 w2 => r2 = some (.int (if mAl la v la.1 then 1 else 0)) ∧ w2 = (mSH, I2, L, mRk b)) := by
    intro m
    induction m with
    | zero =>
      intro i him hA
      have him : i = la.1 := by omega
      refine k71_28 (fun _ => k71_56 ⟨?_, rfl⟩) (fun q => ?_)
      · rw [← him, hA]
        rfl
      · rw [a0, nI_leI (by omega) (by omega)] at q
        omega
    | succ m ih =>
      intro i him hA
      refine k71_28 (fun q => ?_) (fun _ => k71_37 (m_okN (by omega) (by decide)) (fun q => k71_50 ?_) (fun q => k71_48 ⟨?_, rfl⟩))
      · rw [a0, nI_leI (by omega) (by omega)] at q
        omega
      · rw [nI_clamp (by omega), a1 i (by omega)] at q
        rw [nI_1]
        refine ih (i + 1) (by omega) ?_
        show (mAl la v i && _) = true
        rw [hA, decide_eq_true q]
        rfl
      · rw [nI_clamp (by omega), a1 i (by omega)] at q
        have : mAl la v (i + 1) = false := by
          show (mAl la v i && _) = false
          rw [decide_eq_false q, Bool.and_false]
        have := mAl_f this m
        rw [show i + 1 + m = la.1 by omega] at this
        rw [this]
        rfl
  have start := loop la.1 0 (by omega) rfl
  refine ⟨I2, e71 (k71_0 (c71_4 f2 (k71_7 (fun q => k71_12 (k71_24 ?_)) (fun q => k71_17 (k71_24 ?_))))), s2⟩
  · have : v = -5 := by
      rw [← hv]
      unfold mEn
      rw [if_pos (e5.mp q)]
    rw [← this]
    exact start
  · have : I2 14 0 = v := by
      rw [p0, ← hv]
      unfold mEn
      rw [if_neg (fun z => q (e5.mpr z))]
    rw [this]
    exact start
theorem Cs_which (x : Int32) : mCs S 70 133 [.int x] := by
  refine mCs_q fun G s h im tx la tr I L b hw hx => ?_
  have hg := hw.1
  have hs := hw.2.1
  have ho := hs.on31 hg
  have hla := hw.2.2.2.2.2.1
  by_cases hb : ∃ k, 0 ≤ k ∧ k ≤ 1 ∧ x = nI k
  · obtain ⟨w, -, hw1, rfl⟩ := hb
    have ew : mIn (nI w) 0 1 = 1 := (mIn_n (by omega) (l := 0) (by decide) (h := 1) (by decide)).trans (if_pos ⟨Nat.zero_le _, hw1⟩)
    have xp : ∀ {Q : Option Value → mW → Prop}, mWp S 70 11 [some (.ref 1), some (.int (nI w)), none, none, none, none] [] (mSH, I, L, mRk b) Q → mWp S 70 0 [some (.ref 1), some (.int (nI w)), none, none, none, none] [] (mSH, I, L, mRk b) Q := by
      intro Q hq
      refine k70_0 (fun q => absurd q (nI_pos (by omega))) (fun _ => k70_4 (fun _ => hq) (fun q => ?_))
      rw [show (1 : Int32) = nI 1 from rfl, nI_leI (by omega) (by decide)] at q
      exact absurd hw1 q
    have mp : ∀ {I1 : mF} {L1 : mFL} {Q : Option Value → mW → Prop}, mWp S 133 11 [some (.ref 44), some (.int (nI w)), none, none, none, none, none, none, none, none] [] (mSH, I1, L1, mRk b) Q → mWp S 133 0 [some (.ref 44), some (.int (nI w)), none, none, none, none, none, none, none, none] [] (mSH, I1, L1, mRk b) Q := by
      intro I1 L1 Q hq
      refine k133_0 (c133_3 (S88 _ _ _) ?_)
      rw [ew]
      exact k133_6 (fun q => absurd q (show ¬ (1 : Int32) = 0 by decide)) (fun _ => hq)
    by_cases hon : s.on = none
    · refine ⟨.int (-2), ⟨I, L, e70 (xp (k70_11 (fun q => ?_) (fun _ => k70_21 ⟨rfl, rfl⟩))), fun _ _ _ => rfl, mFx.rf, fun _ _ => rfl⟩, fun I1 L1 hm1 => ?_⟩
      · rw [hx.2.1.2.2.2.1, mOe_ge ho] at q
        exact absurd hon q
      · obtain ⟨r3, f3, t3, -⟩ := S107 (S := S) (L := L1) (b := b) hm1.2.1 ho
        refine ⟨I1, e133 (mp (k133_11 (c133_12 f3 (k133_15 (fun q => ?_) (fun _ => k133_18 ⟨rfl, rfl⟩))))), fun _ _ _ => rfl, mFm.rf⟩
        rw [t3 hon] at q
        exact absurd q (by decide)
    · obtain ⟨k, hkb⟩ := hs.ball hon
      have hkk := mOn_lt hg.1 (hs.2.1 k hkb)
      let f := mFt G s la k
      have c24 := mWc_le (f := f) 24
      refine ⟨.int (mWa (mWc f 24) w), ?_, fun I1 L1 hm1 => ?_⟩
      · -- the class
        have x96 : ∀ (J : mF) (o4 o5 : Option Value), mSm [14] I J → mWp S 70 96 [some (.ref 1), some (.int (nI w)), some (.int (nI (mWc f 24).1)), some (.int (mOe (mWc f 24).2)), o4, o5] [] (mSH, J, L, mRk b) (fun r2 w2 => ∃ I' : mF, r2 = some (.int (mWa (mWc f 24) w)) ∧ w2 = (mSH, I', L, mRk b) ∧ mSm [14] I I') := by
          intro J o4 o5 hJ
          refine k70_96 (fun q => k70_100 (k70_105 ⟨J, ?_, rfl, hJ⟩)) (fun q => k70_104 (k70_105 ⟨J, ?_, rfl, hJ⟩))
          · rw [show (0 : Int32) = nI 0 from rfl, nI_eq (by omega) (by decide)] at q
            unfold mWa
            rw [if_pos q]
          · rw [show (0 : Int32) = nI 0 from rfl, nI_eq (by omega) (by decide)] at q
            unfold mWa
            rw [if_neg q]
        have xl : ∀ (m d n : Nat) (J : mF), 6 * d + n + m = 24 → n < 6 ∧ d < 4 → mSm [14] I J → mWp S 70 41 [some (.ref 1), some (.int (nI w)), some (.int (nI (mWc f (6 * d + n)).1)), some (.int (mOe (mWc f (6 * d + n)).2)), some (.int (nI d)), some (.int (nI (n + 1)))] [] (mSH, J, L, mRk b) (fun r2 w2 => ∃ I' : mF, r2 = some (.int (mWa (mWc f 24) w)) ∧ w2 = (mSH, I', L, mRk b) ∧ mSm [14] I I') := by
          intro m
          induction m with
          | zero => intro d n J h1 h2; omega
          | succ m ih =>
            intro d n J h1 h2 hJ
            have hJx := hx.sm (hJ.x14 (L := L)).1 (fun _ _ => rfl)
            obtain ⟨I2, f2, s2⟩ := S71 (S := S) hJx hg hs hla hkb (d := d) (n := n + 1) (by omega) (by omega)
            have eF : f (6 * d + n) = mAl la (mEn k (mRs G s k 0 d (n + 1))) la.1 := by
              show mAl la (mEn k (mRs G s k 0 ((6 * d + n) / 6) ((6 * d + n) % 6 + 1))) la.1 = _
              rw [show (6 * d + n) / 6 = d by omega, show (6 * d + n) % 6 = n by omega]
            have cj := mWc_le (f := f) (6 * d + n)
            have hJ2 := hJ.tr s2
            -- the next stroke
            have next : mWp S 70 84 [some (.ref 1), some (.int (nI w)), some (.int (nI (mWc f (6 * d + n + 1)).1)), some (.int (mOe (mWc f (6 * d + n + 1)).2)), some (.int (nI d)), some (.int (nI (n + 1)))] [] (mSH, I2, L, mRk b) (fun r2 w2 => ∃ I' : mF, r2 = some (.int (mWa (mWc f 24) w)) ∧ w2 = (mSH, I', L, mRk b) ∧ mSm [14] I I') := by
              refine k70_84 ?_
              rw [nI_1]
              by_cases hn : n + 1 < 6
              · exact ih d (n + 1) I2 (by omega) ⟨hn, h2.2⟩ hJ2
              · have hn5 : n = 5 := by omega
                subst hn5
                refine k70_41 (fun _ => k70_90 ?_) (fun q => absurd (by decide) q)
                rw [nI_1]
                by_cases hd : d + 1 < 4
                · refine k70_32 (fun q => ?_) (fun _ => k70_38 ?_)
                  · rw [show (4 : Int32) = nI 4 from rfl, nI_leI (by decide) (by omega)] at q
                    omega
                  · have := ih (d + 1) 0 I2 (by omega) ⟨by decide, hd⟩ hJ2
                    rw [show 6 * (d + 1) + 0 = 6 * d + 5 + 1 by omega] at this
                    exact this
                · have hd3 : d = 3 := by have := h2.2; omega
                  subst hd3
                  exact k70_32 (fun _ => x96 I2 _ _ hJ2) (fun q => absurd (by decide) q)
            refine k70_41 (fun q => ?_) (fun _ => k70_48 (c70_53 f2 ?_))
            · rw [show (6 : Int32) = nI 6 from rfl, nI_ltI (by decide) (by omega)] at q
              omega
            rw [← eF]
            cases hf : f (6 * d + n) with
            | false =>
              have e1 : mWc f (6 * d + n + 1) = mWc f (6 * d + n) := by
                rw [mWc, hf]
                rfl
              rw [e1] at next
              exact k70_56 (fun _ => k70_59 next) (fun q => absurd rfl q)
            | true =>
              refine k70_56 (fun q => absurd q (show ¬ (1 : Int32) = 0 by decide)) (fun _ => ?_)
              cases h2 : (mWc f (6 * d + n)).2 with
              | none =>
                have e1 : mWc f (6 * d + n + 1) = ((mWc f (6 * d + n)).1 + 1, some (10 * d + (n + 1))) := by
                  rw [mWc, hf, h2]
                  show ((mWc f (6 * d + n)).1 + 1, some (10 * ((6 * d + n) / 6) + ((6 * d + n) % 6 + 1))) = _
                  rw [show (6 * d + n) / 6 = d by omega, show (6 * d + n) % 6 = n by omega]
                rw [e1] at next
                refine k70_62 (fun _ => k70_71 (k70_83 ?_)) (fun q => absurd rfl q)
                rw [nI_1, show (10 : Int32) * nI d + nI (n + 1) = nI (10 * d + (n + 1)) from by
                  show nI 10 * nI d + nI (n + 1) = _
                  rw [pk_mul, nI_add]]
                exact next
              | some c =>
                have hc := cj.2 c h2
                have e1 : mWc f (6 * d + n + 1) = ((mWc f (6 * d + n)).1 + 1, some c) := by
                  rw [mWc, hf, h2]
                  rfl
                rw [e1] at next
                refine k70_62 (fun q => absurd q (nI_neg9 (by omega))) (fun _ => k70_82 (k70_83 ?_))
                rw [nI_1]
                exact next
        obtain ⟨r2, w2, f2, I2, rfl, rfl, s2⟩ := ex70 (xp (k70_11 (fun _ => k70_24 (k70_32 (fun q => absurd q (by decide)) (fun _ => k70_38 (xl 24 0 0 I rfl (by decide) mSm.rf)))) (fun q => by
          rw [hx.2.1.2.2.2.1, mOe_ge ho] at q
          exact absurd hon q)))
        exact ⟨I2, L, f2, (s2.x14 (b := b) (L := L)).1, (s2.x14 (b := b)).2, fun _ _ => rfl⟩
      · -- the reference
        obtain ⟨r3, f3, -, t3⟩ := S107 (S := S) (L := L1) (b := b) hm1.2.1 ho
        have m179 : ∀ (J : mF) (o4 o5 o6 o7 o8 o9 : Option Value), mT30 I1 J → mWp S 133 179 [some (.ref 44), some (.int (nI w)), some (.int (nI (mWc f 24).1)), some (.int (mOe (mWc f 24).2)), o4, o5, o6, o7, o8, o9] [] (mSH, J, L1, mRk b) (fun r2 w2 => ∃ I' : mF, r2 = some (.int (mWa (mWc f 24) w)) ∧ w2 = (mSH, I', L1, mRk b) ∧ mT30 I1 I') := by
          intro J o4 o5 o6 o7 o8 o9 hJ
          refine k133_179 (fun q => k133_183 (k133_188 ⟨J, ?_, rfl, hJ⟩)) (fun q => k133_187 (k133_188 ⟨J, ?_, rfl, hJ⟩))
          · rw [show (0 : Int32) = nI 0 from rfl, nI_eq (by omega) (by decide)] at q
            unfold mWa
            rw [if_pos q]
          · rw [show (0 : Int32) = nI 0 from rfl, nI_eq (by omega) (by decide)] at q
            unfold mWa
            rw [if_neg q]
        have ml : ∀ (m d n : Nat) (J : mF) (o6 o7 o8 o9 : Option Value), 6 * d + n + m = 24 → n < 6 ∧ d < 4 → mT30 I1 J → mWp S 133 38 [some (.ref 44), some (.int (nI w)), some (.int (nI (mWc f (6 * d + n)).1)), some (.int (mOe (mWc f (6 * d + n)).2)), some (.int (nI d)), some (.int (nI (n + 1))), o6, o7, o8, o9] [] (mSH, J, L1, mRk b) (fun r2 w2 => ∃ I' : mF, r2 = some (.int (mWa (mWc f 24) w)) ∧ w2 = (mSH, I', L1, mRk b) ∧ mT30 I1 I') := by
          intro m
          induction m with
          | zero => intro d n J o6 o7 o8 o9 h1 h2; omega
          | succ m ih =>
            intro d n J o6 o7 o8 o9 h1 h2 hJ
            have hJm := hm1.sm (hJ.m2 (L := L1)).1 (L' := L1) rfl
            have h4 := mRs_lt (w := 0) (d := d) (n := n + 1) hg hs hkb
            obtain ⟨I3, f5, h5, -⟩ := S105s (S := S) (L := L1) (b := b) hJm.1 hJm.2.1 hg hs hkb (w := 0) (d := d) (n := n + 1) (by decide) (by omega) (by omega)
            have z0 : J 45 ((0 : Int32).toNatClampNeg) = nI s.t := hJm.2.1.1
            have z2 : J 45 ((2 : Int32).toNatClampNeg) = nI k := by
              have : J 45 ((2 : Int32).toNatClampNeg) = mOe s.ba := hJm.2.1.2.2.1
              rw [this, hkb]
              rfl
            have e6 := mRm_6 h4
            have e5 := mRm_5 h4
            have hr1 : (mRs G s k 0 d (n + 1)).1 ≤ 2 := mRoll_1 (K := mK G.g s.y) (W := G.W) (H := G.H) (T := G.T) (O := G.O) (n + 1) k d (s.t + 0)
            have h6 : mT30 I1 I3 := fun a k hak => (h5 a k hak).trans (hJ a k hak)
            have hm3 := hm1.sm (h6.m2 (L := L1)).1 (L' := L1) rfl
            have y2 : I3 45 ((2 : Int32).toNatClampNeg) = nI k := by
              have : I3 45 ((2 : Int32).toNatClampNeg) = mOe s.ba := hm3.2.1.2.2.1
              rw [this, hkb]
              rfl
            obtain ⟨a0, a1⟩ := hm3.2.2.2.2.2.1
            have eF : f (6 * d + n) = mAl la (mEn k (mRs G s k 0 d (n + 1))) la.1 := by
              show mAl la (mEn k (mRs G s k 0 ((6 * d + n) / 6) ((6 * d + n) % 6 + 1))) la.1 = _
              rw [show (6 * d + n) / 6 = d by omega, show (6 * d + n) % 6 = n by omega]
            have cj := mWc_le (f := f) (6 * d + n)
            -- the next stroke
            have next : ∀ (o3 o6 o7 o8 o9 : Option Value), mWp S 133 166 [some (.ref 44), some (.int (nI w)), some (.int (nI (mWc f (6 * d + n + 1)).1)), o3, some (.int (nI d)), some (.int (nI (n + 1))), o6, o7, o8, o9] [.int (mOe (mWc f (6 * d + n + 1)).2)] (mSH, I3, L1, mRk b) (fun r2 w2 => ∃ I' : mF, r2 = some (.int (mWa (mWc f 24) w)) ∧ w2 = (mSH, I', L1, mRk b) ∧ mT30 I1 I') := by
              intro o3 o6 o7 o8 o9
              refine k133_166 ?_
              rw [nI_1]
              by_cases hn : n + 1 < 6
              · exact ih d (n + 1) I3 _ _ _ _ (by omega) ⟨hn, h2.2⟩ h6
              · have hn5 : n = 5 := by omega
                subst hn5
                refine k133_38 (fun _ => k133_173 ?_) (fun q => absurd (by decide) q)
                rw [nI_1]
                by_cases hd : d + 1 < 4
                · refine k133_29 (fun q => ?_) (fun _ => k133_35 ?_)
                  · rw [show (4 : Int32) = nI 4 from rfl, nI_leI (by decide) (by omega)] at q
                    omega
                  · have := ih (d + 1) 0 I3 o6 o7 o8 o9 (by omega) ⟨by decide, hd⟩ h6
                    rw [show 6 * (d + 1) + 0 = 6 * d + 5 + 1 by omega] at this
                    exact this
                · have hd3 : d = 3 := by have := h2.2; omega
                  subst hd3
                  exact k133_29 (fun _ => m179 I3 _ _ _ _ _ _ h6) (fun q => absurd (by decide) q)
            -- behind the loop over what was laid
            have after : ∀ (o6 o7 o9 : Option Value), mWp S 133 132 [some (.ref 44), some (.int (nI w)), some (.int (nI (mWc f (6 * d + n)).1)), some (.int (mOe (mWc f (6 * d + n)).2)), some (.int (nI d)), some (.int (nI (n + 1))), o6, o7, some (.int (if f (6 * d + n) then 1 else 0)), o9] [] (mSH, I3, L1, mRk b) (fun r2 w2 => ∃ I' : mF, r2 = some (.int (mWa (mWc f 24) w)) ∧ w2 = (mSH, I', L1, mRk b) ∧ mT30 I1 I') := by
              intro o6 o7 o9
              cases hf : f (6 * d + n) with
              | false =>
                have e1 : mWc f (6 * d + n + 1) = mWc f (6 * d + n) := by
                  rw [mWc, hf]
                  rfl
                rw [e1] at next
                refine k133_132 (fun _ => k133_142 (k133_143 (fun _ => ?_) (fun q => absurd rfl q))) (fun q => absurd rfl q)
                rw [show nI (mWc f (6 * d + n)).1 + 0 = nI (mWc f (6 * d + n)).1 from nI_add _ 0]
                exact k133_165 (next _ _ _ _ _)
              | true =>
                refine k133_132 (fun q => absurd q (show ¬ (1 : Int32) = 0 by decide)) (fun _ => k133_138 (k133_143 (fun q => absurd q (show ¬ (1 : Int32) = 0 by decide)) (fun _ => ?_)))
                rw [nI_1]
                cases h2 : (mWc f (6 * d + n)).2 with
                | none =>
                  have e1 : mWc f (6 * d + n + 1) = ((mWc f (6 * d + n)).1 + 1, some (10 * d + (n + 1))) := by
                    rw [mWc, hf, h2]
                    show ((mWc f (6 * d + n)).1 + 1, some (10 * ((6 * d + n) / 6) + ((6 * d + n) % 6 + 1))) = _
                    rw [show (6 * d + n) / 6 = d by omega, show (6 * d + n) % 6 = n by omega]
                  rw [e1] at next
                  refine k133_150 (fun q => absurd q (by decide)) (fun _ => k133_154 ?_)
                  rw [show (10 : Int32) * nI d + nI (n + 1) = nI (10 * d + (n + 1)) from by
                    show nI 10 * nI d + nI (n + 1) = _
                    rw [pk_mul, nI_add]]
                  exact next _ _ _ _ _
                | some c =>
                  have hc := cj.2 c h2
                  have e1 : mWc f (6 * d + n + 1) = ((mWc f (6 * d + n)).1 + 1, some c) := by
                    rw [mWc, hf, h2]
                    rfl
                  rw [e1] at next
                  exact k133_150 (fun _ => k133_165 (next _ _ _ _ _)) (fun q => absurd (nI_pos' (by omega)) q)
            -- the loop over what was laid
            generalize hv : mEn k (mRs G s k 0 d (n + 1)) = v at eF
            have lp : ∀ (j i : Nat) (o6 : Option Value), i + j = la.1 → mWp S 133 93 [some (.ref 44), some (.int (nI w)), some (.int (nI (mWc f (6 * d + n)).1)), some (.int (mOe (mWc f (6 * d + n)).2)), some (.int (nI d)), some (.int (nI (n + 1))), o6, some (.int v), some (.int (if mAl la v i then 1 else 0)), some (.int (nI i))] [] (mSH, I3, L1, mRk b) (fun r2 w2 => ∃ I' : mF, r2 = some (.int (mWa (mWc f 24) w)) ∧ w2 = (mSH, I', L1, mRk b) ∧ mT30 I1 I') := by
              intro j
              induction j with
              | zero =>
                intro i o6 hij
                have hij : i = la.1 := by omega
                refine k133_93 (fun _ => ?_) (fun q => ?_)
                · rw [hij, ← eF]
                  exact after _ _ _
                · rw [a0, nI_leI (by omega) (by omega)] at q
                  omega
              | succ j ihj =>
                intro i o6 hij
                have go := ihj (i + 1) o6 (by omega)
                refine k133_93 (fun q => ?_) (fun _ => ?_)
                · rw [a0, nI_leI (by omega) (by omega)] at q
                  omega
                · cases hA : mAl la v i with
                  | false =>
                    have e1 : mAl la v (i + 1) = false := mAl_f hA 1
                    rw [e1] at go
                    refine k133_102 (fun _ => k133_123 (k133_124 ?_)) (fun q => absurd rfl q)
                    rw [nI_1]
                    exact go
                  | true =>
                    refine k133_102 (fun q => absurd q (show ¬ (1 : Int32) = 0 by decide)) (fun _ => k133_107 (m_okN (by omega) (by decide)) (fun q => k133_119 (k133_124 ?_)) (fun q => k133_123 (k133_124 ?_)))
                    · rw [nI_clamp (by omega), a1 i (by omega)] at q
                      have e1 : mAl la v (i + 1) = true := by
                        show (mAl la v i && _) = true
                        rw [hA, decide_eq_true q]
                        rfl
                      rw [e1] at go
                      rw [nI_1]
                      exact go
                    · rw [nI_clamp (by omega), a1 i (by omega)] at q
                      have e1 : mAl la v (i + 1) = false := by
                        show (mAl la v i && _) = false
                        rw [decide_eq_false q, Bool.and_false]
                      rw [e1] at go
                      rw [nI_1]
                      exact go
            refine k133_38 (fun q => ?_) (fun _ => k133_45 ?_)
            · rw [show (6 : Int32) = nI 6 from rfl, nI_ltI (by decide) (by omega)] at q
              omega
            rw [z0, z2]
            refine c133_62 f5 (k133_65 (fun q => k133_74 ?_) (fun q => k133_83 ?_))
            · rw [y2]
              have : nI k = v := by
                rw [← hv]
                unfold mEn
                have := e6.mp q
                rw [if_neg (by omega), if_pos (by omega)]
              rw [this]
              exact k133_85 (lp la.1 0 _ (by omega))
            · have : mRm (mRs G s k 0 d (n + 1)) = v := by
                rw [← hv]
                unfold mEn
                by_cases z : (mRs G s k 0 d (n + 1)).1 = 1
                · rw [if_pos z, e5.mpr z]
                · have z2 : ¬ 2 ≤ (mRs G s k 0 d (n + 1)).1 := fun z2 => q (e6.mpr z2)
                  rw [if_neg z, if_neg (by omega), mRm_0 (by omega)]
              rw [this]
              exact k133_85 (lp la.1 0 _ (by omega))
        obtain ⟨r5, w5, f5, I5, rfl, rfl, s5⟩ := ex133 (mp (k133_11 (c133_12 f3 (k133_15 (fun _ => k133_21 (k133_29 (fun q => absurd q (by decide)) (fun _ => k133_35 (ml 24 0 0 I1 _ _ _ _ rfl (by decide) mT30.rf)))) (fun q => absurd (t3 hon) q)))))
        exact ⟨I5, f5, (s5.m2 (L := L1)).1, (s5.m2 (L := L1)).2⟩
  · refine ⟨.int (-1), ⟨I, L, e70 (k70_0 (fun _ => k70_9 ⟨rfl, rfl⟩) (fun q => k70_4 (fun q2 => absurd ?_ hb) (fun _ => k70_9 ⟨rfl, rfl⟩))), fun _ _ _ => rfl, mFx.rf, fun _ _ => rfl⟩, fun I1 L1 hm1 => ⟨I1, e133 (k133_0 (c133_3 (S88 _ _ _) ?_)), fun _ _ _ => rfl, mFm.rf⟩⟩
    · obtain ⟨k, hk, rfl⟩ := nI_of q
      rw [show (1 : Int32) = nI 1 from rfl, nI_leI hk (by decide)] at q2
      exact ⟨k, Nat.zero_le _, q2, rfl⟩
    · rcases mCm_in (v := x) (lo := 0) (hi := 1) (by decide) (by decide) with ⟨e, -⟩ | ⟨-, q⟩
      · have e : mIn x 0 1 = 0 := e
        rw [e]
        exact k133_6 (fun _ => k133_9 ⟨rfl, rfl⟩) (fun q => absurd rfl q)
      · exact absurd q hb
end WHICH
