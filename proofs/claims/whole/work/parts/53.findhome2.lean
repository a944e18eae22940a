/-! findHome itself -/
section FINDHOME2
variable {S : mS} {L : mFL} {b : Bool}
/-- the leads of the places below c -/
def mLds (K : Nat → Nat) (W H T O c : Nat) (I : mF) : Prop := ∀ p, p < c → mVl K W H p → ∀ j, j < 24 * T → I 52 (144 * p + j) = mRm (mRj K W H T O p j)
def mFhQ (K : Nat → Nat) (W H T O : Nat) (I : mF) (L : mFL) (b : Bool) (r2 : Option Value) (w2 : mW) : Prop := ∃ I' : mF, r2 = none ∧ w2 = (mSH, I', L, mRk b) ∧ mFh I I' ∧ (∀ k, k < 49 → I' 53 k = nI (mFr K W H T O k)) ∧ mLds K W H T O 49 I'
/-- the rounds -/
theorem S124_rounds {W H T O : Nat} {K : Nat → Nat} {I : mF} (hL : mLm I W H T O K) : ∀ (u m : Nat) (J : mF) (o3 : Option Value), m + u = 50 → mFh I J → mLds K W H T O 49 J → (∀ k, k < 49 → J 53 k = nI (mFn2 K W H T O m k)) → (∀ j, j < m → ∃ k, k < 49 ∧ mFn2 K W H T O (j + 1) k = j + 1) → mWp S 124 85 [some (.ref 44), some (.int 1), some (.int (nI (m + 1))), o3] [] (mSH, J, L, mRk b) (mFhQ K W H T O I L b) := by
  obtain ⟨hW, hH, hT, hO, h7, hT0, hT6, hOT, hK⟩ := id hL
  intro u
  induction u with
  | zero =>
    intro m J o3 hm _ _ _ hl
    have := mFf_49 (A := mHa K W H T O) (B := mHb K W H T O) hl
    omega
  | succ u ih =>
    intro m J o3 hm hJ hD hf hl
    have hm49 : m ≤ 49 := mFf_49 (A := mHa K W H T O) (B := mHb K W H T O) hl
    have inner : ∀ (v c : Nat) (more : Bool) (J : mF), c + v = 49 → mFh I J → mLds K W H T O 49 J → (∀ p, p < 49 → J 53 p = nI (if p < c then mFn2 K W H T O (m + 1) p else mFn2 K W H T O m p)) → (more = true ↔ ∃ p, p < c ∧ mFn2 K W H T O (m + 1) p = m + 1) → mWp S 124 93 [some (.ref 44), some (.int (mU more)), some (.int (nI (m + 1))), some (.int (nI c))] [] (mSH, J, L, mRk b) (mFhQ K W H T O I L b) := by
      intro v
      induction v with
      | zero =>
        intro c more J hc hJ hD hf hmo
        have hc : c = 49 := by omega
        subst hc
        have hf' : ∀ k, k < 49 → J 53 k = nI (mFn2 K W H T O (m + 1) k) := by
          intro k hk
          have := hf k hk
          rw [if_pos hk] at this
          exact this
        refine k124_93 (fun _ => k124_140 ?_) (fun q => absurd (by decide) q)
        rw [nI_1]
        cases more with
        | false =>
          refine k124_85 (fun _ => k124_146 ⟨J, rfl, rfl, hJ, fun k hk => ?_, hD⟩) (fun q => absurd rfl q)
          have no : ∀ k, k < 49 → ¬ mFf (mHa K W H T O) (mHb K W H T O) (m + 1) k = m + 1 := by
            intro k hk e
            exact absurd (hmo.mpr ⟨k, hk, e⟩) (by decide)
          rw [hf' k hk]
          have e1 := (mFf_stop no 1 k hk).2
          have e2 := (mFf_stop no (49 - m) k hk).2
          rw [show m + (49 - m) = 49 by omega] at e2
          unfold mFn2 mFr
          rw [e2, e1]
        | true =>
          refine ih (m + 1) J _ (by omega) hJ hD hf' (fun j hj => ?_)
          rcases (by omega : j < m ∨ j = m) with q | rfl
          · exact hl j q
          · exact hmo.mp rfl
      | succ v ihv =>
        intro c more J hc hJ hD hf hmo
        have hc9 : c < 49 := by omega
        have hJc : J 53 c = nI (mFn2 K W H T O m c) := by
          have := hf c hc9
          rw [if_neg (Nat.lt_irrefl c)] at this
          exact this
        have hle : mFn2 K W H T O m c ≤ m := mFf_le m c
        have hle1 : ∀ p, mFn2 K W H T O (m + 1) p ≤ m + 1 := fun p => mFf_le (m + 1) p
        have hle2 : ∀ p, mFn2 K W H T O m p ≤ m := fun p => mFf_le m p
        have next : ∀ (more' : Bool) (J' : mF), mFh I J' → mLds K W H T O 49 J' → (∀ p, p < 49 → ¬ p = c → J' 53 p = J 53 p) → J' 53 c = nI (mFn2 K W H T O (m + 1) c) → (more' = true ↔ more = true ∨ mFn2 K W H T O (m + 1) c = m + 1) → mWp S 124 134 [some (.ref 44), some (.int (mU more')), some (.int (nI (m + 1))), some (.int (nI c))] [] (mSH, J', L, mRk b) (mFhQ K W H T O I L b) := by
          intro more' J' hJ' hD' a1 a2 a3
          refine k124_134 ?_
          rw [nI_1]
          refine ihv (c + 1) more' J' (by omega) hJ' hD' (fun p hp => ?_) ?_
          · by_cases e : p = c
            · subst e
              rw [if_pos (Nat.lt_succ_self p)]
              exact a2
            · rw [a1 p hp e, hf p hp]
              congr 1
              by_cases q : p < c
              · rw [if_pos q, if_pos (by omega)]
              · rw [if_neg q, if_neg (by omega)]
          · rw [a3, hmo]
            constructor
            · rintro (⟨p, q1, q2⟩ | q)
              · exact ⟨p, by omega, q2⟩
              · exact ⟨c, Nat.lt_succ_self c, q⟩
            · rintro ⟨p, q1, q2⟩
              rcases (by omega : p < c ∨ p = c) with q | rfl
              · exact Or.inl ⟨p, q, q2⟩
              · exact Or.inr q2
        have keep : mFn2 K W H T O (m + 1) c = mFn2 K W H T O m c → mWp S 124 134 [some (.ref 44), some (.int (mU more)), some (.int (nI (m + 1))), some (.int (nI c))] [] (mSH, J, L, mRk b) (mFhQ K W H T O I L b) := by
          intro e
          refine next more J hJ hD (fun _ _ _ => rfl) (by rw [e]; exact hJc) ?_
          rw [e]
          exact ⟨fun q => Or.inl q, fun q => q.elim id (fun q => by omega)⟩
        obtain ⟨r1, f1, t1, u1⟩ := S121 (S := S) (L := L) (b := b) (mFh.lm hL hJ) hc9
        refine k124_93 (fun q => ?_) (fun _ => k124_99 (c124_101 f1 ?_))
        · rw [show (49 : Int32) = nI 49 from rfl, nI_leI (by decide) (by omega)] at q
          omega
        by_cases hv : mVl K W H c
        · rw [t1 hv]
          by_cases h0 : mFn2 K W H T O m c = 0
          · have hG : ∀ p, p < 49 → J 53 p = nI ((fun p => if p < c then mFn2 K W H T O (m + 1) p else mFn2 K W H T O m p) p) ∧ (fun p => if p < c then mFn2 K W H T O (m + 1) p else mFn2 K W H T O m p) p ≤ 50 := by
              intro p hp
              refine ⟨hf p hp, ?_⟩
              have := hle1 p
              have := hle2 p
              dsimp only
              split <;> omega
            have hRr : ∀ j, j < 24 * T → J 52 (144 * c + j) = mRm (mRj K W H T O c j) ∧ (mRj K W H T O c j).2.1 < 49 := fun j hj => ⟨hD c hc9 hv j hj, mOn_lt h7 (mRoll_on h7 _ _ _ _ hv.1)⟩
            obtain ⟨r2, f2, t2, u2⟩ := S123 (S := S) (L := L) (b := b) (n := m + 1) (show J 44 2 = nI T by rw [hJ 44 2 (by omega) (by decide) (by decide)]; exact hT) hT6 hc9 (by omega) hRr hG
            have near := mFn2_near (T := T) (O := O) (F := fun p => if p < c then mFn2 K W H T O (m + 1) p else mFn2 K W H T O m p) h7 hv h0 (fun p _ => rfl)
            refine k124_104 (fun q => absurd q (by decide)) (fun _ => k124_107 (m_okN hc9 (by decide)) (fun _ => k124_116 (c124_119 f2 ?_)) (fun q => ?_))
            · by_cases hn : mFn2 K W H T O (m + 1) c = m + 1
              · rw [t2 (near.mpr hn)]
                refine k124_122 (fun q => absurd q (by decide)) (fun _ => k124_125 (m_okN hc9 (by decide)) ?_)
                rw [nI_clamp (by omega)]
                refine next true _ (hJ.up (Or.inr rfl)) (fun p hp hvp j hj => ?_) (fun p _ hp => m_un hp) (by rw [m_us, hn]) ⟨fun _ => Or.inr hn, fun _ => rfl⟩
                rw [m_ux (by decide)]
                exact hD p hp hvp j hj
              · rw [u2 (fun z => hn (near.mp z))]
                refine k124_122 (fun _ => keep ?_) (fun q => absurd rfl q)
                unfold mFn2 at hn h0 ⊢
                rw [mFf, if_pos h0] at hn ⊢
                by_cases hw : mWi (mHa K W H T O) (mHb K W H T O) (m + 1) c = true
                · rw [if_pos hw] at hn
                  exact absurd rfl hn
                · rw [if_neg hw, h0]
            · rw [nI_clamp (by omega), hJc, h0] at q
              exact absurd rfl q
          · refine k124_104 (fun q => absurd q (by decide)) (fun _ => k124_107 (m_okN hc9 (by decide)) (fun q => ?_) (fun _ => keep ?_))
            · rw [nI_clamp (by omega), hJc, show (0 : Int32) = nI 0 from rfl, nI_eq (by omega) (by decide)] at q
              exact absurd q h0
            · unfold mFn2 at h0 ⊢
              rw [mFf, if_neg h0]
        · rw [u1 hv]
          exact k124_104 (fun _ => keep (by rw [mFn2_no hv, mFn2_no hv])) (fun q => absurd rfl q)
    refine k124_85 (fun q => absurd q (by decide)) (fun _ => k124_89 (inner 49 0 false J (by omega) hJ hD (fun p hp => ?_) ?_))
    · rw [if_neg (Nat.not_lt_zero p)]
      exact hf p hp
    · exact ⟨fun q => absurd q (by decide), fun ⟨p, hp, _⟩ => absurd hp (Nat.not_lt_zero p)⟩
theorem S124 {W H T O : Nat} {K : Nat → Nat} {I : mF} (hL : mLm I W H T O K) :
    ∃ I' : mF, mFn S 124 [.ref 44] (mSH, I, L, mRk b) none (mSH, I', L, mRk b) ∧ mFh I I' ∧ (∀ k, k < 49 → I' 53 k = nI (mFr K W H T O k)) ∧ mLds K W H T O 49 I' := by
  obtain ⟨hW, hH, hT, hO, h7, hT0, hT6, hOT, hK⟩ := id hL
  have outer : ∀ (m c : Nat) (J : mF) (o2 : Option Value), c + m = 49 → mFh I J → (∀ p, p < c → J 53 p = 0) → mLds K W H T O c J → mWp S 124 2 [some (.ref 44), some (.int (nI c)), o2, none] [] (mSH, J, L, mRk b) (mFhQ K W H T O I L b) := by
    intro m
    induction m with
    | zero =>
      intro c J o2 hc hJ hz hD
      have hc : c = 49 := by omega
      subst hc
      exact k124_2 (fun _ => k124_81 (S124_rounds hL 50 0 J none (by omega) hJ hD (fun k hk => by rw [hz k hk]; unfold mFn2; rw [mFf_z]; rfl) (fun j hj => absurd hj (Nat.not_lt_zero j)))) (fun q => absurd (by decide) q)
    | succ m ih =>
      intro c J o2 hc hJ hz hD
      have hc9 : c < 49 := by omega
      have inner : ∀ (v j : Nat) (J : mF), j + v = 24 * T → mFh I J → (∀ p, p < c + 1 → J 53 p = 0) → mLds K W H T O c J → (mVl K W H c → ∀ i, i < j → J 52 (144 * c + i) = mRm (mRj K W H T O c i)) → mWp S 124 17 [some (.ref 44), some (.int (nI c)), some (.int (nI j)), none] [] (mSH, J, L, mRk b) (mFhQ K W H T O I L b) := by
        intro v
        induction v with
        | zero =>
          intro j J hj hJ hz hD hc2
          have hj : j = 24 * T := by omega
          subst hj
          refine k124_17 (fun _ => k124_75 ?_) (fun q => ?_)
          · rw [nI_1]
            refine ih (c + 1) J _ (by omega) hJ hz (fun p hp hv i hi => ?_)
            rcases (by omega : p < c ∨ p = c) with q | rfl
            · exact hD p q hv i hi
            · exact hc2 hv i hi
          · rw [hJ 44 2 (by omega) (by decide) (by decide), hT, show (24 : Int32) = nI 24 from rfl, pk_mul] at q
            exact absurd (Int32.le_refl _) q
        | succ v ihv =>
          intro j J hj hJ hz hD hc2
          have hj1 : j < 24 * T := by omega
          have hJL := mFh.lm hL hJ
          obtain ⟨r1, f1, t1, u1⟩ := S121 (S := S) (L := L) (b := b) hJL hc9
          refine k124_17 (fun q => ?_) (fun _ => k124_28 (c124_30 f1 ?_))
          · rw [hJ 44 2 (by omega) (by decide) (by decide), hT, show (24 : Int32) = nI 24 from rfl, pk_mul, nI_leI (by omega) (by omega)] at q
            omega
          by_cases hv : mVl K W H c
          · rw [t1 hv]
            refine k124_33 (fun q => absurd q (by decide)) (fun _ => k124_36 ?_)
            have e6 : (nI j - nI j / 6 * 6) + 1 = nI (j % 6 + 1) := by
              rw [show (6 : Int32) = nI 6 from rfl, pk_rem (by omega) (by decide) (by decide), nI_1]
            have e4 : (nI j / 6) - (nI j / 6) / 4 * 4 = nI (j / 6 % 4) := by
              rw [show (6 : Int32) = nI 6 from rfl, pk_div (by omega) (by decide) (by decide), show (4 : Int32) = nI 4 from rfl, pk_rem (by omega) (by decide) (by decide)]
            have e24 : nI j / 24 = nI (j / 24) := by
              rw [show (24 : Int32) = nI 24 from rfl, pk_div (by omega) (by decide) (by decide)]
            have e1 : (144 * nI c) + nI j = nI (144 * c + j) := by
              rw [show (144 : Int32) = nI 144 from rfl, pk_mul, nI_add]
            rw [e6, e4, e24, e1]
            obtain ⟨J1, f2, s1, -⟩ := S105 (S := S) (L := L) (b := b) hJL (k := c) (t := j / 24) (d := j / 6 % 4) (n := j % 6 + 1) hv.1 (by omega) (by omega) (by omega)
            refine c124_65 f2 (k124_68 (m_okN (by omega) (by decide)) ?_)
            rw [nI_1, nI_clamp (by omega)]
            refine ihv (j + 1) _ (by omega) ((hJ.t30 s1).up (Or.inl rfl)) (fun p hp => ?_) (fun p hp hvp i hi => ?_) (fun _ i hi => ?_)
            · rw [m_ux (by decide), s1 53 p (by omega)]
              exact hz p hp
            · rw [m_un (by omega), s1 52 _ (by omega)]
              exact hD p hp hvp i hi
            · by_cases e : i = j
              · subst e
                rw [m_us]
                rfl
              · rw [m_un (by omega), s1 52 _ (by omega)]
                exact hc2 hv i (by omega)
          · rw [u1 hv]
            refine k124_33 (fun _ => k124_75 ?_) (fun q => absurd rfl q)
            rw [nI_1]
            refine ih (c + 1) J _ (by omega) hJ hz (fun p hp hvp i hi => ?_)
            rcases (by omega : p < c ∨ p = c) with q | rfl
            · exact hD p q hvp i hi
            · exact absurd hvp hv
      refine k124_2 (fun q => ?_) (fun _ => k124_8 (m_okN hc9 (by decide)) ?_)
      · rw [show (49 : Int32) = nI 49 from rfl, nI_leI (by decide) (by omega)] at q
        omega
      · rw [nI_clamp (by omega)]
        refine inner (24 * T) 0 _ (by omega) (hJ.up (Or.inr rfl)) (fun p hp => ?_) (fun p hp hv i hi => ?_) (fun _ i hi => absurd hi (Nat.not_lt_zero i))
        · by_cases e : p = c
          · subst e
            exact m_us
          · rw [m_un e]
            exact hz p (by omega)
        · rw [m_ux (by decide)]
          exact hD p hp hv i hi
  obtain ⟨r, w1, hf, I', rfl, rfl, h1, h2, h3⟩ := ex124 (k124_0 (outer 49 0 I none (by omega) mFh.rf (fun p hp => absurd hp (Nat.not_lt_zero p)) (fun p hp => absurd hp (Nat.not_lt_zero p))))
  exact ⟨I', hf, h1, h2, h3⟩
theorem S125 {I : mF} {F : Nat → Nat} (hF : ∀ p, p < 49 → I 53 p = nI (F p) ∧ F p ≤ 50) {k : Nat} (hk : k < 49) : mFn S 125 [.ref 44, .int (nI k)] (mSH, I, L, mRk b) (some (.int (if F k = 0 then -9 else nI (F k)))) (mSH, I, L, mRk b) := by
  obtain ⟨h1, h2⟩ := hF k hk
  have e : I 53 ((nI k).toNatClampNeg) = nI (F k) := by rw [nI_clamp (by omega), h1]
  have c0 : nI (F k) = 0 ↔ F k = 0 := nI_eq (by omega) (by decide)
  refine e125 (k125_0 (fun q => absurd q (nI_pos (by omega))) (fun _ => k125_4 (m_okN hk (by decide)) (fun q => k125_13 (k125_24 ⟨?_, rfl⟩)) (fun q => k125_18 (m_okN hk (by decide)) (k125_24 ⟨?_, rfl⟩))))
  · rw [e, c0] at q
    rw [if_pos q]
  · rw [e, c0] at q
    rw [if_neg q, e]
theorem S125n {I : mF} {x : Int32} (hx : x < 0) : mFn S 125 [.ref 44, .int x] (mSH, I, L, mRk b) (some (.int (-9))) (mSH, I, L, mRk b) :=
  e125 (k125_0 (fun _ => k125_13 (k125_24 ⟨rfl, rfl⟩)) (fun h => absurd hx h))
end FINDHOME2
