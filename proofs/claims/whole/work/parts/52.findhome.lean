/-! the reference's findHome -/
/-- the strokes of a place, one after another -/
def mRj (K : Nat → Nat) (W H T O c j : Nat) : Nat × Nat × Nat := mRoll K W H T O (j % 6 + 1) c (j / 6 % 4) (j / 24)
theorem mHm_j {K : Nat → Nat} {W H T O c : Nat} : (∃ v d, v < T ∧ d < 4 ∧ mHm K W H T O 6 c d v = true) ↔ ∃ j, j < 24 * T ∧ (mRj K W H T O c j).1 = 1 := by
  constructor
  · rintro ⟨v, d, hv, hd, h⟩
    obtain ⟨n, h1, h6, h2⟩ := (mHm_roll 6 c d v).mp h
    refine ⟨24 * v + 6 * d + (n - 1), by omega, ?_⟩
    unfold mRj
    rw [show (24 * v + 6 * d + (n - 1)) % 6 + 1 = n by omega, show (24 * v + 6 * d + (n - 1)) / 6 % 4 = d by omega, show (24 * v + 6 * d + (n - 1)) / 24 = v by omega]
    exact h2
  · rintro ⟨j, hj, h⟩
    exact ⟨j / 24, j / 6 % 4, by omega, by omega, (mHm_roll 6 c _ _).mpr ⟨j % 6 + 1, by omega, by omega, h⟩⟩
theorem mLi_j {K : Nat → Nat} {W H T O c q : Nat} (hn : ¬ ∃ v d, v < T ∧ d < 4 ∧ mHm K W H T O 6 c d v = true) : (∃ v d, v < T ∧ d < 4 ∧ mLi K W H T O q 6 c d v = true) ↔ ∃ j, j < 24 * T ∧ (mRj K W H T O c j).1 = 0 ∧ (mRj K W H T O c j).2.1 = q := by
  have no : ∀ v d, v < T → d < 4 → mHm K W H T O 6 c d v = false := by
    intro v d hv hd
    cases h : mHm K W H T O 6 c d v with
    | false => rfl
    | true => exact absurd ⟨v, d, hv, hd, h⟩ hn
  constructor
  · rintro ⟨v, d, hv, hd, h⟩
    obtain ⟨n, h1, h6, h2, h3⟩ := (mLi_roll 6 c d v (no v d hv hd)).mp h
    refine ⟨24 * v + 6 * d + (n - 1), by omega, ?_⟩
    unfold mRj
    rw [show (24 * v + 6 * d + (n - 1)) % 6 + 1 = n by omega, show (24 * v + 6 * d + (n - 1)) / 6 % 4 = d by omega, show (24 * v + 6 * d + (n - 1)) / 24 = v by omega]
    exact ⟨h2, h3⟩
  · rintro ⟨j, hj, h, h2⟩
    exact ⟨j / 24, j / 6 % 4, by omega, by omega, (mLi_roll 6 c _ _ (no _ _ (by omega) (by omega))).mpr ⟨j % 6 + 1, by omega, by omega, h, h2⟩⟩
/-- how far, round by round -/
def mFn2 (K : Nat → Nat) (W H T O n k : Nat) : Nat := mFf (mHa K W H T O) (mHb K W H T O) n k
theorem mFn2_no {K : Nat → Nat} {W H T O k : Nat} (h : ¬ mVl K W H k) (n : Nat) : mFn2 K W H T O n k = 0 := by
  unfold mFn2
  rw [mFf_0]
  cases n with
  | zero => rfl
  | succ n =>
    cases hw : mWi (mHa K W H T O) (mHb K W H T O) (n + 1) k with
    | false => rfl
    | true =>
      rw [mWi_t, mHa_t] at hw
      rcases hw with hw | ⟨q, -, hw, -⟩
      · exact absurd hw.1 h
      · rw [mHb_t] at hw
        exact absurd hw.1 h
theorem mFn2_near {K : Nat → Nat} {W H T O m c : Nat} {F : Nat → Nat} (h7 : W ≤ 7 ∧ H ≤ 7) (hv : mVl K W H c) (h0 : mFn2 K W H T O m c = 0) (hF : ∀ p, p < 49 → F p = if p < c then mFn2 K W H T O (m + 1) p else mFn2 K W H T O m p) :
    (∃ j, j < 24 * T ∧ (((mRj K W H T O c j).1 = 1 ∧ m + 1 = 1) ∨ ((mRj K W H T O c j).1 = 0 ∧ 1 < m + 1 ∧ F (mRj K W H T O c j).2.1 = m))) ↔ mFn2 K W H T O (m + 1) c = m + 1 := by
  have on : ∀ j, (mRj K W H T O c j).2.1 < 49 := fun j => mOn_lt h7 (mRoll_on h7 _ _ _ _ hv.1)
  cases m with
  | zero =>
    unfold mFn2
    rw [mFf_1]
    constructor
    · rintro ⟨j, hj, h | h⟩
      · rw [if_pos]
        exact mHa_t.mpr ⟨hv, mHm_j.mpr ⟨j, hj, h.1⟩⟩
      · omega
    · intro h
      by_cases q : mHa K W H T O c = true
      · obtain ⟨j, hj, h2⟩ := mHm_j.mp (mHa_t.mp q).2
        exact ⟨j, hj, Or.inl ⟨h2, rfl⟩⟩
      · rw [if_neg q] at h
        omega
  | succ m =>
    have h0' : mFf (mHa K W H T O) (mHb K W H T O) (m + 1) c = 0 := h0
    have hA := mFf_A h0'
    have hn : ¬ ∃ v d, v < T ∧ d < 4 ∧ mHm K W H T O 6 c d v = true := by
      intro h
      rw [mHa_t.mpr ⟨hv, h⟩] at hA
      exact absurd hA (by decide)
    have hFe : ∀ p, p < 49 → (F p = m + 1 ↔ mFf (mHa K W H T O) (mHb K W H T O) (m + 1) p = m + 1) := by
      intro p hp
      rw [hF p hp]
      by_cases q : p < c
      · rw [if_pos q]
        unfold mFn2
        rw [mFf]
        by_cases q0 : mFf (mHa K W H T O) (mHb K W H T O) (m + 1) p = 0
        · rw [if_pos q0, q0]
          by_cases hw : mWi (mHa K W H T O) (mHb K W H T O) (m + 1 + 1) p = true
          · rw [if_pos hw]
            omega
          · rw [if_neg hw]
        · rw [if_neg q0]
      · rw [if_neg q]
        rfl
    show _ ↔ mFf (mHa K W H T O) (mHb K W H T O) (m + 2) c = m + 2
    rw [mFf_s h0']
    constructor
    · rintro ⟨j, hj, h | ⟨h1, -, h2⟩⟩
      · omega
      · exact ⟨_, on j, mHb_t.mpr ⟨hv, (mLi_j hn).mpr ⟨j, hj, h1, rfl⟩⟩, (hFe _ (on j)).mp h2⟩
    · rintro ⟨q, hq, h1, h2⟩
      obtain ⟨j, hj, h3, h4⟩ := (mLi_j hn).mp (mHb_t.mp h1).2
      refine ⟨j, hj, Or.inr ⟨h3, by omega, ?_⟩⟩
      rw [h4]
      exact (hFe q hq).mpr h2
/-- what findHome may change -/
def mFh (I I' : mF) : Prop := ∀ a k, ¬ (a = 44 ∧ k = 30) → a ≠ 52 → a ≠ 53 → I' a k = I a k
theorem mFh.rf {I : mF} : mFh I I := fun _ _ _ _ _ => rfl
theorem mFh.tr {I I1 I2 : mF} (h : mFh I I1) (h2 : mFh I1 I2) : mFh I I2 := fun a k h3 h4 h5 => (h2 a k h3 h4 h5).trans (h a k h3 h4 h5)
theorem mFh.t30 {I I1 I2 : mF} (h : mFh I I1) (h2 : mT30 I1 I2) : mFh I I2 := fun a k h3 h4 h5 => (h2 a k h3).trans (h a k h3 h4 h5)
theorem mFh.up {I I1 : mF} {a k : Nat} {v : Int32} (h : mFh I I1) (ha : a = 52 ∨ a = 53) : mFh I (m_up I1 a k v) := fun x y h3 h4 h5 => by
  rw [m_ux (by omega)]
  exact h x y h3 h4 h5
theorem mFh.lm {I I' : mF} {W H T O : Nat} {K : Nat → Nat} (h : mLm I W H T O K) (hf : mFh I I') : mLm I' W H T O K :=
  h.same (fun j hj => hf _ _ (by omega) (by decide) (by decide)) (by funext k; exact hf _ _ (by omega) (by decide) (by decide))
theorem mFh.m2 {I I' : mF} {L : mFL} (h : mFh I I') : mSm2 I I' ∧ mFm I L I' L :=
  ⟨fun a k hr => h a k (by unfold mRm2 at hr; omega) (by unfold mRm2 at hr; omega) (by unfold mRm2 at hr; omega), fun a ha => ⟨funext fun k => h a k (by omega) (by omega) (by omega), rfl⟩⟩
section FINDHOME
variable {S : mS} {L : mFL} {b : Bool}
theorem S121 {W H T O : Nat} {K : Nat → Nat} {I : mF} (hL : mLm I W H T O K) {k : Nat} (hk : k < 49) : ∃ r : Int32, mFn S 121 [.ref 44, .int (nI k)] (mSH, I, L, mRk b) (some (.int r)) (mSH, I, L, mRk b) ∧ (mVl K W H k → r = 1) ∧ (¬ mVl K W H k → r = 0) := by
  obtain ⟨hW, hH, hT, hO, h7, hT0, hT6, hOT, hK⟩ := hL
  have e7 : nI k / 7 = nI (k / 7) := pk_div (by omega) (by decide : 0 < 7) (by decide)
  have m7 : nI k - nI k / 7 * 7 = nI (k % 7) := pk_rem (by omega) (by decide : 0 < 7) (by decide)
  have f := S89 (S := S) (L := L) (b := b) hW hH h7 (nI (k % 7)) (nI (k / 7))
  have ei : mIc W H (nI (k % 7)) (nI (k / 7)) = if mOn W H k then 1 else 0 := by
    unfold mIc
    rw [mPlace_n (by omega) (by omega)]
    by_cases h : mOn W H k
    · rw [if_pos h, if_pos h]
    · rw [if_neg h, if_neg h]
  have e8 : (8 + nI k : Int32) = nI (8 + k) := nI_add 8 k
  have start : ∀ {Q : Option Value → mW → Prop}, mWp S 121 12 [some (.ref 44), some (.int (nI k))] [.int (if mOn W H k then 1 else 0)] (mSH, I, L, mRk b) Q → mWp S 121 0 [some (.ref 44), some (.int (nI k))] [] (mSH, I, L, mRk b) Q := by
    intro Q h
    refine k121_0 ?_
    rw [e7]
    rw [e7] at m7
    rw [m7]
    refine c121_9 f ?_
    rw [ei]
    exact h
  by_cases ho : mOn W H k
  · obtain ⟨hk1, hk5⟩ := hK k ho
    rw [if_pos ho] at start
    have eK : I 45 ((8 + nI k : Int32).toNatClampNeg) = nI (K k) := by rw [e8, nI_clamp (by omega), hk1]
    have ok : m_ok (8 + nI k) 57 = true := by rw [e8]; exact m_okN (by omega) (by decide)
    have c1 : nI (K k) = 1 ↔ K k = 1 := nI_eq (by omega) (by decide)
    have c2 : nI (K k) = 2 ↔ K k = 2 := nI_eq (by omega) (by decide)
    by_cases h1 : K k = 1
    · refine ⟨0, e121 (start (k121_12 (fun q => absurd q (by decide)) (fun _ => k121_15 ok (fun _ => k121_45 (k121_46 (by decide) ⟨rfl, rfl⟩)) (fun q => ?_)))), fun h => absurd h1 h.2.1, fun _ => rfl⟩
      rw [eK, c1] at q
      exact absurd h1 q
    · by_cases h2 : K k = 2
      · refine ⟨0, e121 (start (k121_12 (fun q => absurd q (by decide)) (fun _ => k121_15 ok (fun _ => k121_45 (k121_46 (by decide) ⟨rfl, rfl⟩)) (fun _ => k121_28 ok (fun _ => k121_45 (k121_46 (by decide) ⟨rfl, rfl⟩)) (fun q => ?_))))), fun h => absurd h2 h.2.2, fun _ => rfl⟩
        rw [eK, c2] at q
        exact absurd h2 q
      · refine ⟨1, e121 (start (k121_12 (fun q => absurd q (by decide)) (fun _ => k121_15 ok (fun q => ?_) (fun _ => k121_28 ok (fun q => ?_) (fun _ => k121_41 (k121_46 (by decide) ⟨rfl, rfl⟩)))))), fun _ => rfl, fun h => absurd ⟨ho, h1, h2⟩ h⟩
        · rw [eK, c1] at q
          exact absurd q h1
        · rw [eK, c2] at q
          exact absurd q h2
  · rw [if_neg ho] at start
    exact ⟨0, e121 (start (k121_12 (fun _ => k121_45 (k121_46 (by decide) ⟨rfl, rfl⟩)) (fun q => absurd rfl q))), fun h => absurd h.1 ho, fun _ => rfl⟩
theorem S123 {I : mF} {T c n : Nat} {R : Nat → Nat × Nat × Nat} {F : Nat → Nat} (hT : I 44 2 = nI T) (hT6 : T ≤ 6) (hc : c < 49) (hn : 1 ≤ n ∧ n ≤ 50) (hR : ∀ j, j < 24 * T → I 52 (144 * c + j) = mRm (R j) ∧ (R j).2.1 < 49) (hF : ∀ p, p < 49 → I 53 p = nI (F p) ∧ F p ≤ 50) :
    ∃ r : Int32, mFn S 123 [.ref 44, .int (nI c), .int (nI n)] (mSH, I, L, mRk b) (some (.int r)) (mSH, I, L, mRk b) ∧ ((∃ j, j < 24 * T ∧ (((R j).1 = 1 ∧ n = 1) ∨ ((R j).1 = 0 ∧ 1 < n ∧ F (R j).2.1 = n - 1))) → r = 1) ∧ ((¬ ∃ j, j < 24 * T ∧ (((R j).1 = 1 ∧ n = 1) ∨ ((R j).1 = 0 ∧ 1 < n ∧ F (R j).2.1 = n - 1))) → r = 0) := by
  have e24 : (144 * nI c) + (24 * I 44 2) = nI (144 * c + 24 * T) := by
    rw [hT]
    show nI 144 * nI c + nI 24 * nI T = _
    rw [pk_mul, pk_mul, nI_add]
  have loop : ∀ (m j : Nat) (o4 : Option Value), j + m = 24 * T → (¬ ∃ i, i < j ∧ (((R i).1 = 1 ∧ n = 1) ∨ ((R i).1 = 0 ∧ 1 < n ∧ F (R i).2.1 = n - 1))) → mWp S 123 6 [some (.ref 44), some (.int (nI c)), some (.int (nI n)), some (.int (nI (144 * c + j))), o4] [] (mSH, I, L, mRk b) (fun r2 w2 => ∃ r : Int32, (r2 = some (.int r) ∧ w2 = (mSH, I, L, mRk b)) ∧ ((∃ j, j < 24 * T ∧ (((R j).1 = 1 ∧ n = 1) ∨ ((R j).1 = 0 ∧ 1 < n ∧ F (R j).2.1 = n - 1))) → r = 1) ∧ ((¬ ∃ j, j < 24 * T ∧ (((R j).1 = 1 ∧ n = 1) ∨ ((R j).1 = 0 ∧ 1 < n ∧ F (R j).2.1 = n - 1))) → r = 0)) := by
    intro m
    induction m with
    | zero =>
      intro j o4 hj h
      have hj : j = 24 * T := by omega
      subst hj
      refine k123_6 (fun _ => k123_77 ⟨0, ⟨rfl, rfl⟩, fun q => absurd q h, fun _ => rfl⟩) (fun q => ?_)
      rw [e24] at q
      exact absurd (Int32.le_refl _) q
    | succ m ih =>
      intro j o4 hj h
      have hj1 : j < 24 * T := by omega
      obtain ⟨hr, hp⟩ := hR j hj1
      have er : I 52 ((nI (144 * c + j)).toNatClampNeg) = mRm (R j) := by rw [nI_clamp (by omega), hr]
      have next : ∀ o4, ¬ (((R j).1 = 1 ∧ n = 1) ∨ ((R j).1 = 0 ∧ 1 < n ∧ F (R j).2.1 = n - 1)) → mWp S 123 71 [some (.ref 44), some (.int (nI c)), some (.int (nI n)), some (.int (nI (144 * c + j))), o4] [] (mSH, I, L, mRk b) (fun r2 w2 => ∃ r : Int32, (r2 = some (.int r) ∧ w2 = (mSH, I, L, mRk b)) ∧ ((∃ j, j < 24 * T ∧ (((R j).1 = 1 ∧ n = 1) ∨ ((R j).1 = 0 ∧ 1 < n ∧ F (R j).2.1 = n - 1))) → r = 1) ∧ ((¬ ∃ j, j < 24 * T ∧ (((R j).1 = 1 ∧ n = 1) ∨ ((R j).1 = 0 ∧ 1 < n ∧ F (R j).2.1 = n - 1))) → r = 0)) := by
        intro o4 hno
        refine k123_71 ?_
        rw [nI_1]
        refine ih (j + 1) o4 (by omega) ?_
        rintro ⟨i, hi, z⟩
        rcases (by omega : i < j ∨ i = j) with q | rfl
        · exact h ⟨i, q, z⟩
        · exact hno z
      have yes : ∀ o4, (((R j).1 = 1 ∧ n = 1) ∨ ((R j).1 = 0 ∧ 1 < n ∧ F (R j).2.1 = n - 1)) → mWp S 123 69 [some (.ref 44), some (.int (nI c)), some (.int (nI n)), some (.int (nI (144 * c + j))), o4] [] (mSH, I, L, mRk b) (fun r2 w2 => ∃ r : Int32, (r2 = some (.int r) ∧ w2 = (mSH, I, L, mRk b)) ∧ ((∃ j, j < 24 * T ∧ (((R j).1 = 1 ∧ n = 1) ∨ ((R j).1 = 0 ∧ 1 < n ∧ F (R j).2.1 = n - 1))) → r = 1) ∧ ((¬ ∃ j, j < 24 * T ∧ (((R j).1 = 1 ∧ n = 1) ∨ ((R j).1 = 0 ∧ 1 < n ∧ F (R j).2.1 = n - 1))) → r = 0)) :=
        fun o4 hy => k123_69 ⟨1, ⟨rfl, rfl⟩, fun _ => rfl, fun q => absurd ⟨j, hj1, hy⟩ q⟩
      refine k123_6 (fun q => ?_) (fun _ => k123_23 (m_okN (by omega) (by decide)) (fun q => ?_) (fun q => ?_))
      · rw [e24, nI_leI (by omega) (by omega)] at q
        omega
      · rw [er, mRm_5 hp] at q
        have c1 : nI n = 1 ↔ n = 1 := nI_eq (by omega) (by decide)
        refine k123_38 (fun q2 => k123_43 (yes _ (Or.inl ⟨q, c1.mp q2⟩))) (fun q2 => next _ ?_)
        rintro (z | z)
        · exact q2 (c1.mpr z.2)
        · omega
      · rw [er, mRm_5 hp] at q
        rw [er]
        by_cases q0 : (R j).1 = 0
        · rw [mRm_0 q0]
          refine k123_46 (fun z => absurd z (nI_pos (by omega))) (fun _ => k123_51 (fun z => next _ ?_) (fun z => k123_56 (m_okN hp (by decide)) (fun z2 => yes _ (Or.inr ⟨q0, ?_, ?_⟩)) (fun z2 => next _ ?_)))
          · rw [show (1 : Int32) = nI 1 from rfl, nI_leI (by omega) (by decide)] at z
            omega
          · rw [show (1 : Int32) = nI 1 from rfl, nI_leI (by omega) (by decide)] at z
            omega
          · rw [nI_clamp (by omega), (hF _ hp).1, show (1 : Int32) = nI 1 from rfl, pk_sub hn.1, nI_eq (by have := (hF _ hp).2; omega) (by omega)] at z2
            exact z2
          · rw [nI_clamp (by omega), (hF _ hp).1, show (1 : Int32) = nI 1 from rfl, pk_sub hn.1, nI_eq (by have := (hF _ hp).2; omega) (by omega)] at z2
            rintro (w | w)
            · omega
            · exact z2 w.2.2
        · have n6 : mRm (R j) = -6 := by
            rw [mRm_6 hp]
            omega
          rw [n6]
          refine k123_46 (fun _ => next _ ?_) (fun z => absurd (by decide) z)
          rintro (w | w)
          · exact q w.1
          · exact q0 w.1
  obtain ⟨r, w1, hf, r', ⟨rfl, rfl⟩, h1, h2⟩ := ex123 (k123_0 (show mWp S 123 6 [some (.ref 44), some (.int (nI c)), some (.int (nI n)), some (.int (nI 144 * nI c)), none] [] (mSH, I, L, mRk b) _ from by
    rw [pk_mul]
    exact loop (24 * T) 0 none (by omega) (fun ⟨i, hi, _⟩ => absurd hi (Nat.not_lt_zero i))))
  exact ⟨r', hf, h1, h2⟩
end FINDHOME
