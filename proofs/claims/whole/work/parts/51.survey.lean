/-! Reach.survey, Reach.surveyBeside -/
/-- what a way of the same line sees of a lawn -/
theorem mHm_eq {K K' : Nat → Nat} {W H T O : Nat} {D P : Nat → Prop} (hD : ∀ d, D d → D ((d + 2) % 4)) (hP : ∀ k d p, D d → P k → mNx W H k d = some p → P p) (hK : ∀ j, P j → K j = K' j) : ∀ (m k d t : Nat), D d → P k → mHm K W H T O m k d t = mHm K' W H T O m k d t ∧ ∀ q, mLi K W H T O q m k d t = mLi K' W H T O q m k d t
  | 0, k, d, t, _, _ => ⟨rfl, fun _ => rfl⟩
  | m + 1, k, d, t, hd, hk => by
    have es : mSt K W H T O k d (t + 1) = mSt K' W H T O k d (t + 1) := by
      unfold mSt
      cases hn : mNx W H k d with
      | none => rfl
      | some n =>
        dsimp only
        rw [hK n (hP k d n hd hk hn)]
    have ep : ∀ p, mSt K' W H T O k d (t + 1) = some p → P p := by
      intro p h
      unfold mSt at h
      cases hn : mNx W H k d with
      | none => rw [hn] at h; cases h
      | some n =>
        rw [hn] at h
        dsimp only at h
        split at h
        · cases h
        · cases h
          exact hP k d _ hd hk hn
    refine ⟨?_, fun q => ?_⟩
    · rw [mHm, mHm, es]
      cases hs : mSt K' W H T O k d (t + 1) with
      | none => exact (mHm_eq hD hP hK m k _ (t + 1) (hD d hd) hk).1
      | some p =>
        dsimp only
        rw [hK p (ep p hs), (mHm_eq hD hP hK m p d (t + 1) hd (ep p hs)).1]
    · rw [mLi, mLi, es]
      cases hs : mSt K' W H T O k d (t + 1) with
      | none =>
        dsimp only
        rw [(mHm_eq hD hP hK m k _ (t + 1) (hD d hd) hk).2 q]
      | some p =>
        dsimp only
        rw [hK p (ep p hs), (mHm_eq hD hP hK m p d (t + 1) hd (ep p hs)).2 q]
theorem mAc_eq {K K' : Nat → Nat} {W H T O : Nat} {D P : Nat → Prop} (hD : ∀ d, D d → D ((d + 2) % 4)) (hP : ∀ k d p, D d → P k → mNx W H k d = some p → P p) (hK : ∀ j, P j → K j = K' j) {k d e : Nat} (hd : D d) (he : D e) (hk : P k) {y : Int64} (h : mAc K W H T O k d e y) : mAc K' W H T O k d e y := by
  obtain ⟨r1, r2, e1, h1, h2⟩ := h
  have ev : mVl K' W H k = mVl K W H k := by
    unfold mVl
    rw [hK k hk]
  have f1 : ∀ v, mHm K' W H T O 6 k d v = mHm K W H T O 6 k d v := fun v => (mHm_eq hD hP hK 6 k d v hd hk).1.symm
  have f2 : ∀ q v, mLi K' W H T O q 6 k d v = mLi K W H T O q 6 k d v := fun q v => ((mHm_eq hD hP hK 6 k d v hd hk).2 q).symm
  have f3 : ∀ v, mHm K' W H T O 6 k e v = mHm K W H T O 6 k e v := fun v => (mHm_eq hD hP hK 6 k e v he hk).1.symm
  have f4 : ∀ q v, mLi K' W H T O q 6 k e v = mLi K W H T O q 6 k e v := fun q v => ((mHm_eq hD hP hK 6 k e v he hk).2 q).symm
  refine ⟨r1, r2, e1, ?_, ?_⟩
  · rw [ev]
    intro hv
    obtain ⟨a1, a2⟩ := h1 hv
    refine ⟨?_, ?_⟩
    · unfold mSa
      simp only [f1, f2]
      exact a1
    · unfold mSa
      simp only [f3, f4]
      exact a2
  · rw [ev]
    exact h2
theorem mAc_row {K K' : Nat → Nat} {W H T O r : Nat} (h7 : W ≤ 7 ∧ H ≤ 7) (hK : ∀ j, j / 7 = r → K j = K' j) {k : Nat} (hk : k / 7 = r) {y : Int64} (h : mAc K W H T O k 1 3 y) : mAc K' W H T O k 1 3 y := by
  refine mAc_eq (D := fun d => d = 1 ∨ d = 3) (P := fun j => j / 7 = r) ?_ ?_ hK (Or.inl rfl) (Or.inr rfl) hk h
  · intro d h
    omega
  · intro k d p hd hk hn
    rcases hd with rfl | rfl
    · have hn : (if k % 7 + 1 < W then some (k + 1) else none) = some p := hn
      split at hn
      · cases hn
        omega
      · cases hn
    · have hn : (if 0 < k % 7 then some (k - 1) else none) = some p := hn
      split at hn
      · cases hn
        omega
      · cases hn
theorem mAc_col {K K' : Nat → Nat} {W H T O r : Nat} (hK : ∀ j, j % 7 = r → K j = K' j) {k : Nat} (hk : k % 7 = r) {y : Int64} (h : mAc K W H T O k 0 2 y) : mAc K' W H T O k 0 2 y := by
  refine mAc_eq (D := fun d => d = 0 ∨ d = 2) (P := fun j => j % 7 = r) ?_ ?_ hK (Or.inl rfl) (Or.inr rfl) hk h
  · intro d h
    omega
  · intro k d p hd hk hn
    rcases hd with rfl | rfl
    · have hn : (if 0 < k / 7 then some (k - 7) else none) = some p := hn
      split at hn
      · cases hn
        omega
      · cases hn
    · have hn : (if k / 7 + 1 < H then some (k + 7) else none) = some p := hn
      split at hn
      · cases hn
        omega
      · cases hn
theorem mK_tg {g : Nat → Nat} {y : Int64} {c j : Nat} (hc : c < 64) (hj : ¬ j = c) : mK g (mTg y c) j = mK g y j := by
  unfold mK
  by_cases h : j < 64
  · rw [mB_tg hc h, if_neg hj]
  · have e : ∀ z : Int64, mB z j = false := fun z => by
      cases q : mB z j with
      | false => rfl
      | true => exact absurd (mB_lt q) h
    rw [e, e]
/-- the longs of the reach change alone -/
def mS17 (L L' : mFL) : Prop := ∀ a, a ≠ 16 → a ≠ 17 → L' a = L a
theorem mS17.rf {L : mFL} : mS17 L L := fun _ _ _ => rfl
theorem mS17.tr {L L1 L2 : mFL} (h : mS17 L L1) (h2 : mS17 L1 L2) : mS17 L L2 := fun a h3 h4 => (h2 a h3 h4).trans (h a h3 h4)
section SURVEY
variable {S : mS} {b c : Bool}
theorem S18 {W H T O : Nat} {g : Nat → Nat} {I : mF} {L : mFL} (hL : mLw I c W H T O g) (hg1 : ∀ k, k < 49 → ¬ g k = 1) {yb : Int64} :
    ∃ (I' : mF) (L' : mFL), mFn S 18 [.ref 15, .ref (mLa c), .long yb] (mSH, I, L, mRk b) none (mSH, I', L', mRk b) ∧ mSm [19, 18] I I' ∧ mS17 L L' ∧ mRch (mK g yb) W H T O L' ∧ ∀ k, k < 49 → I' 18 k = mFo (mFr (mK g yb) W H T O k) := by
  have loop : ∀ (m k : Nat) (J : mF) (M : mFL) (o3 : Option Value), k + m = 49 → mSm [19] I J → mS17 L M → (∀ j, j < k → mAc (mK g yb) W H T O j 1 3 (M 16 j) ∧ mAc (mK g yb) W H T O j 0 2 (M 17 j)) → mWp S 18 3 [some (.ref 15), some (.ref (mLa c)), some (.long yb), o3, some (.int (nI k))] [] (mSH, J, M, mRk b) (fun r2 w2 => ∃ (I' : mF) (L' : mFL), r2 = none ∧ w2 = (mSH, I', L', mRk b) ∧ mSm [19, 18] I I' ∧ mS17 L L' ∧ mRch (mK g yb) W H T O L' ∧ ∀ k, k < 49 → I' 18 k = mFo (mFr (mK g yb) W H T O k)) := by
    intro m
    induction m with
    | zero =>
      intro k J M o3 hk hJ hM h1
      have hk : k = 49 := by omega
      subst hk
      have hr : mRch (mK g yb) W H T O M := h1
      obtain ⟨I', f, s1, s2⟩ := S22 (S := S) (I := J) (L := M) (b := b) (fun k hk => mRch_62 hr hk) (fun k q hk hq hn => mRch_q hr hk hq hn)
      exact k18_3 (fun _ => k18_68 (c18_69 f (k18_72 ⟨I', M, rfl, rfl, (hJ.mono (by simp)).tr (s1.mono (by simp)), hM, hr, fun k hk => by rw [s2 k hk]; unfold mFr; rfl⟩))) (fun q => absurd (by decide) q)
    | succ m ih =>
      intro k J M o3 hk hJ hM h1
      have hk9 : k < 49 := by omega
      have hJL := hL.roll (d := true) hJ
      obtain ⟨r1, J1, f1, s1, a1, z1⟩ := S20 (S := S) (L := M) (b := b) hJL hg1 (yb := yb) hk9 (d := 1) (by decide)
      have hJ1 := hJ.tr s1
      obtain ⟨r3, J3, f3, s3, a3, z3⟩ := S20 (S := S) (L := M) (b := b) (hL.roll (d := true) hJ1) hg1 (yb := yb) hk9 (d := 3) (by decide)
      have hJ3 := hJ1.tr s3
      obtain ⟨r0, J0, f0, s0, a0, z0⟩ := S20 (S := S) (L := m_up M 16 k (r1 ||| r3)) (b := b) (hL.roll (d := true) hJ3) hg1 (yb := yb) hk9 (d := 0) (by decide)
      have hJ0 := hJ3.tr s0
      obtain ⟨r2, J2, f2, s2, a2, z2⟩ := S20 (S := S) (L := m_up M 16 k (r1 ||| r3)) (b := b) (hL.roll (d := true) hJ0) hg1 (yb := yb) hk9 (d := 2) (by decide)
      have hJ2 := hJ0.tr s2
      refine k18_3 (fun q => ?_) (fun _ => k18_10 (c18_22 f1 (k18_25 (c18_31 f3 (k18_34 (m_okN hk9 (by decide)) ?_)))))
      · rw [show (49 : Int32) = nI 49 from rfl, nI_leI (by decide) (by omega)] at q
        omega
      rw [nI_clamp (by omega)]
      refine c18_48 f0 (k18_51 (c18_57 f2 (k18_60 (m_okN hk9 (by decide)) ?_)))
      rw [nI_clamp (by omega), nI_1]
      refine ih (k + 1) J2 _ _ (by omega) hJ2 (hM.tr fun a h3 h4 => (m_up_ne h4).trans (m_up_ne h3)) (fun j hj => ?_)
      by_cases e : j = k
      · subst e
        rw [m_us, m_ux (by decide), m_us]
        exact ⟨⟨r1, r3, rfl, fun hv => ⟨a1 hv, a3 hv⟩, fun hv => ⟨z1 hv, z3 hv⟩⟩, ⟨r0, r2, rfl, fun hv => ⟨a0 hv, a2 hv⟩, fun hv => ⟨z0 hv, z2 hv⟩⟩⟩
      · rw [m_un e, m_ux (by decide), m_un e]
        exact h1 j (by omega)
  obtain ⟨r, w1, hf, I', L', rfl, rfl, h1, h2, h3, h4⟩ := ex18 (k18_0 (loop 49 0 I L none (by omega) mSm.rf mS17.rf (fun j hj => absurd hj (Nat.not_lt_zero j))))
  exact ⟨I', L', hf, h1, h2, h3, h4⟩
theorem S19 {W H T O : Nat} {g : Nat → Nat} {I : mF} {L : mFL} (hL : mLw I c W H T O g) (hg1 : ∀ k, k < 49 → ¬ g k = 1) {yb : Int64} {K0 : Nat → Nat} {at_ : Nat} (hat : at_ < 49) (hK : ∀ j, ¬ j = at_ → K0 j = mK g yb j) (hr : mRch K0 W H T O L) :
    ∃ (I' : mF) (L' : mFL), mFn S 19 [.ref 15, .ref (mLa c), .long yb, .int (nI at_)] (mSH, I, L, mRk b) none (mSH, I', L', mRk b) ∧ mSm [19] I I' ∧ mS17 L L' ∧ mRch (mK g yb) W H T O L' := by
  have h7 := hL.2.2.2.2.1
  have loop : ∀ (m i : Nat) (J : mF) (M : mFL) (o3 o6 o7 : Option Value), i + m = 7 → mSm [19] I J → mS17 L M → (∀ j, j < 49 → (¬ (j / 7 = at_ / 7 ∧ ¬ j % 7 < i) → mAc (mK g yb) W H T O j 1 3 (M 16 j)) ∧ (¬ (j % 7 = at_ % 7 ∧ ¬ j / 7 < i) → mAc (mK g yb) W H T O j 0 2 (M 17 j))) → mWp S 19 3 [some (.ref 15), some (.ref (mLa c)), some (.long yb), o3, some (.int (nI at_)), some (.int (nI i)), o6, o7] [] (mSH, J, M, mRk b) (fun r2 w2 => ∃ (I' : mF) (L' : mFL), r2 = none ∧ w2 = (mSH, I', L', mRk b) ∧ mSm [19] I I' ∧ mS17 L L' ∧ mRch (mK g yb) W H T O L') := by
    intro m
    induction m with
    | zero =>
      intro i J M o3 o6 o7 hi hJ hM h1
      have hi : i = 7 := by omega
      subst hi
      refine k19_3 (fun _ => k19_94 ⟨J, M, rfl, rfl, hJ, hM, fun j hj => ?_⟩) (fun q => absurd (by decide) q)
      exact ⟨(h1 j hj).1 (by omega), (h1 j hj).2 (by omega)⟩
    | succ m ih =>
      intro i J M o3 o6 o7 hi hJ hM h1
      have e1 : (nI at_ - (nI at_ - nI at_ / 7 * 7)) + nI i = nI (at_ / 7 * 7 + i) := by
        rw [show (7 : Int32) = nI 7 from rfl, pk_rem (by omega) (by decide) (by decide), pk_sub (by omega), nI_add]
        congr 1
        omega
      have e2 : (nI at_ - nI at_ / 7 * 7) + (7 * nI i) = nI (at_ % 7 + 7 * i) := by
        rw [show (7 : Int32) = nI 7 from rfl, pk_rem (by omega) (by decide) (by decide), pk_mul, nI_add]
      have hp : at_ / 7 * 7 + i < 49 := by omega
      have hq : at_ % 7 + 7 * i < 49 := by omega
      have hJL := hL.roll (d := true) hJ
      obtain ⟨r1, J1, f1, s1, a1, z1⟩ := S20 (S := S) (L := M) (b := b) hJL hg1 (yb := yb) hp (d := 1) (by decide)
      have hJ1 := hJ.tr s1
      obtain ⟨r3, J3, f3, s3, a3, z3⟩ := S20 (S := S) (L := M) (b := b) (hL.roll (d := true) hJ1) hg1 (yb := yb) hp (d := 3) (by decide)
      have hJ3 := hJ1.tr s3
      obtain ⟨r0, J0, f0, s0, a0, z0⟩ := S20 (S := S) (L := m_up M 16 (at_ / 7 * 7 + i) (r1 ||| r3)) (b := b) (hL.roll (d := true) hJ3) hg1 (yb := yb) hq (d := 0) (by decide)
      have hJ0 := hJ3.tr s0
      obtain ⟨r2, J2, f2, s2, a2, z2⟩ := S20 (S := S) (L := m_up M 16 (at_ / 7 * 7 + i) (r1 ||| r3)) (b := b) (hL.roll (d := true) hJ0) hg1 (yb := yb) hq (d := 2) (by decide)
      have hJ2 := hJ0.tr s2
      refine k19_3 (fun q => ?_) (fun _ => k19_10 ?_)
      · rw [show (7 : Int32) = nI 7 from rfl, nI_leI (by decide) (by omega)] at q
        omega
      rw [e1, e2]
      refine c19_48 f1 (k19_51 (c19_57 f3 (k19_60 (m_okN hp (by decide)) ?_)))
      rw [nI_clamp (by omega)]
      refine c19_74 f0 (k19_77 (c19_83 f2 (k19_86 (m_okN hq (by decide)) ?_)))
      rw [nI_clamp (by omega), nI_1]
      refine ih (i + 1) J2 _ _ _ _ (by omega) hJ2 (hM.tr fun a h3 h4 => (m_up_ne h4).trans (m_up_ne h3)) (fun j hj => ⟨fun h => ?_, fun h => ?_⟩)
      · rw [m_ux (by decide)]
        by_cases e : j = at_ / 7 * 7 + i
        · subst e
          rw [m_us]
          exact ⟨r1, r3, rfl, fun hv => ⟨a1 hv, a3 hv⟩, fun hv => ⟨z1 hv, z3 hv⟩⟩
        · rw [m_un e]
          exact (h1 j hj).1 (by omega)
      · by_cases e : j = at_ % 7 + 7 * i
        · subst e
          rw [m_us]
          exact ⟨r0, r2, rfl, fun hv => ⟨a0 hv, a2 hv⟩, fun hv => ⟨z0 hv, z2 hv⟩⟩
        · rw [m_un e, m_ux (by decide)]
          exact (h1 j hj).2 (by omega)
  have base : ∀ j, j < 49 → (¬ (j / 7 = at_ / 7 ∧ ¬ j % 7 < 0) → mAc (mK g yb) W H T O j 1 3 (L 16 j)) ∧ (¬ (j % 7 = at_ % 7 ∧ ¬ j / 7 < 0) → mAc (mK g yb) W H T O j 0 2 (L 17 j)) := by
    intro j hj
    refine ⟨fun h => ?_, fun h => ?_⟩
    · exact mAc_row h7 (r := j / 7) (fun i hi => hK i (by rintro rfl; omega)) rfl (hr j hj).1
    · exact mAc_col (r := j % 7) (fun i hi => hK i (by rintro rfl; omega)) rfl (hr j hj).2
  obtain ⟨r, w1, hf, I', L', rfl, rfl, h1, h2, h3⟩ := ex19 (k19_0 (loop 7 0 I L none none none (by omega) mSm.rf mS17.rf base))
  exact ⟨I', L', hf, h1, h2, h3⟩
end SURVEY
