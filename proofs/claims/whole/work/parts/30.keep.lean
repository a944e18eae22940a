/-! waits, undo, keep, back, now -/
theorem m_nar1 : vp_nar .boolean 1 = 1 := by decide
section KEEP
variable {S : mS}
theorem mCm_in {v : Int32} {lo hi : Nat} (h1 : lo < 2 ^ 31) (h2 : hi < 2 ^ 31) : (mIn v (nI lo) (nI hi) = 0 ∧ ¬ ∃ k, lo ≤ k ∧ k ≤ hi ∧ v = nI k) ∨ (mIn v (nI lo) (nI hi) = 1 ∧ ∃ k, lo ≤ k ∧ k ≤ hi ∧ v = nI k) := by
  rcases nI_or v with q | ⟨k, hk, rfl⟩
  · refine Or.inl ⟨mIn_neg q h1, ?_⟩
    rintro ⟨k, -, hk, rfl⟩
    exact nI_pos (by omega) q
  · rw [mIn_n hk h1 h2]
    by_cases q : lo ≤ k ∧ k ≤ hi
    · rw [if_pos q]
      exact Or.inr ⟨rfl, k, q.1, q.2, rfl⟩
    · rw [if_neg q]
      refine Or.inl ⟨rfl, ?_⟩
      rintro ⟨j, hj1, hj2, he⟩
      rw [nI_eq hk (by omega)] at he
      exact q (by omega)
theorem Cs_waits (x : Int32) : mCs S 55 115 [.int x] := by
  refine mCs_of fun G s h im tx la tr I L b hw hx hm => ?_
  have h7 := hw.1.1
  have ht := hw.2.1.1
  have hh := hw.2.2.1
  by_cases hb : ∃ k, 1 ≤ k ∧ k ≤ 9 ∧ x = nI k
  · obtain ⟨k, hk1, hk9, rfl⟩ := hb
    have x13 : ∀ {Q : Option Value → mW → Prop}, mWp S 55 13 [some (.ref 1), some (.int (nI k))] [] (mSH, I, L, mRk b) Q → mWp S 55 0 [some (.ref 1), some (.int (nI k))] [] (mSH, I, L, mRk b) Q := by
      intro Q hq
      refine k55_0 (fun q => ?_) (fun _ => k55_5 (fun _ => hq) (fun q => ?_))
      · rw [show (1 : Int32) = nI 1 from rfl, nI_ltI (by omega) (by decide)] at q
        omega
      · rw [show (9 : Int32) = nI 9 from rfl, nI_leI (by omega) (by decide)] at q
        omega
    have m12 : ∀ {I1 : mF} {L1 : mFL} {Q : Option Value → mW → Prop}, mWp S 115 12 [some (.ref 44), some (.int (nI k))] [] (mSH, I1, L1, mRk b) Q → mWp S 115 0 [some (.ref 44), some (.int (nI k))] [] (mSH, I1, L1, mRk b) Q := by
      intro I1 L1 Q hq
      refine k115_0 (c115_4 (S88 _ _ _) ?_)
      have e : mIn (nI k) 1 9 = 1 := (mIn_n (by omega) (l := 1) (by decide) (h := 9) (by decide)).trans (if_pos ⟨hk1, hk9⟩)
      rw [e]
      exact k115_7 (fun q => absurd q (by decide)) (fun _ => hq)
    by_cases hl : s.t + k ≤ 99999
    · have hw' : mWf G ((s.t + k, s.2) : mY) (mPush h s) im tx la := ⟨hw.1, ⟨hl, hw.2.1.2⟩, mPush_w hh hw.2.1, hw.2.2.2⟩
      obtain ⟨I1, L1, f1, y1, fr1⟩ := S54 (S := S) hh.1 hx
      have g0 : I1 8 0 = nI s.t := y1.2.1.1
      refine ⟨.int (nI (s.t + k)), G, (s.t + k, s.2), mPush h s, im, tx, la, tr, hw', ⟨m_up I1 8 0 (nI (s.t + k)), L1, e55 (x13 (k55_13 (fun _ => k55_30 (c55_31 f1 (k55_34 ⟨?_, ?_⟩))) (fun q => ?_))), ?_, ?_⟩, fun I2 L2 hm2 => ?_⟩
      · rw [g0, nI_add]
      · rw [g0, nI_add]
      · rw [hx.2.1.1, nI_add, show (99999 : Int32) = nI 99999 from rfl, nI_leI (by omega) (by decide)] at q
        exact absurd hl q
      · refine y1.play ⟨m_us, ?_, ?_, ?_, ?_, ?_⟩ (fun a h8 h9 => ⟨m_up_ne h8, rfl⟩)
        · rw [m_un (by decide)]; exact y1.2.1.2.1
        · rw [m_un (by decide)]; exact y1.2.1.2.2.1
        · rw [m_un (by decide)]; exact y1.2.1.2.2.2.1
        · exact fun q hq => by rw [m_ux (by decide)]; exact y1.2.1.2.2.2.2.1 q hq
        · exact y1.2.1.2.2.2.2.2
      · exact mFx.up (fun a ha => fr1 a (Or.inr (by omega)) (by omega)) (by decide)
      · obtain ⟨I3, f3, y3, fr3, fr4⟩ := S112 (S := S) (b := b) h7 hh.1 hm2
        have g0 : I3 45 ((0 : Int32).toNatClampNeg) = nI s.t := y3.2.1.1
        refine ⟨m_up I3 45 0 (nI (s.t + k)), L2, e115 (m12 (k115_12 (fun _ => k115_28 (c115_29 f3 (k115_32 ⟨?_, ?_⟩))) (fun q => ?_))), ?_, ?_⟩
        · rw [g0, nI_add]
        · rw [g0, nI_add]
          rfl
        · have e : I2 45 ((0 : Int32).toNatClampNeg) = nI s.t := hm2.2.1.1
          rw [e, nI_add, show (99999 : Int32) = nI 99999 from rfl, nI_leI (by omega) (by decide)] at q
          exact absurd hl q
        · obtain ⟨z0, z1, z2, z3, z4, z5⟩ := y3.2.1
          refine y3.play ⟨m_us, ?_, ?_, ?_, fun q hq => ?_, fun c hc => ?_⟩ (fun a k _ h45 => m_ux h45) rfl
          · rw [m_un (by decide)]; exact z1
          · rw [m_un (by decide)]; exact z2
          · rw [m_un (by decide)]; exact z3
          · rw [m_un (by omega)]; exact z4 q hq
          · rw [m_un (by omega)]; exact z5 c hc
        · exact mFm.up (fun a ha => ⟨fr3 a (by omega) (by omega), rfl⟩) (by decide)
    · refine ⟨.int (-2), G, s, h, im, tx, la, tr, hw, ⟨I, L, e55 (x13 (k55_13 (fun q => ?_) (fun _ => k55_27 ⟨rfl, rfl⟩))), hx, mFx.rf⟩, fun I2 L2 hm2 => ⟨I2, L2, e115 (m12 (k115_12 (fun q => ?_) (fun _ => k115_25 ⟨rfl, rfl⟩))), hm2, mFm.rf⟩⟩
      · rw [hx.2.1.1, nI_add, show (99999 : Int32) = nI 99999 from rfl, nI_leI (by omega) (by decide)] at q
        exact absurd q hl
      · have e : I2 45 ((0 : Int32).toNatClampNeg) = nI s.t := hm2.2.1.1
        rw [e, nI_add, show (99999 : Int32) = nI 99999 from rfl, nI_leI (by omega) (by decide)] at q
        exact absurd q hl
  · refine ⟨.int (-1), G, s, h, im, tx, la, tr, hw, ⟨I, L, e55 (k55_0 (fun _ => k55_11 ⟨rfl, rfl⟩) (fun q => k55_5 (fun q2 => ?_) (fun _ => k55_11 ⟨rfl, rfl⟩))), hx, mFx.rf⟩, fun I2 L2 hm2 => ⟨I2, L2, e115 (k115_0 (c115_4 (S88 _ _ _) ?_)), hm2, mFm.rf⟩⟩
    · rcases nI_or x with q0 | ⟨k, hk, rfl⟩
      · exfalso
        refine q ?_
        rw [Int32.lt_iff_toInt_lt, Int32.toInt_zero] at q0
        rw [Int32.lt_iff_toInt_lt]
        exact Int.lt_trans q0 (by decide)
      · rw [show (9 : Int32) = nI 9 from rfl, nI_leI hk (by decide)] at q2
        rw [show (1 : Int32) = nI 1 from rfl, nI_ltI hk (by decide)] at q
        exact absurd ⟨k, by omega, q2, rfl⟩ hb
    · rcases mCm_in (v := x) (lo := 1) (hi := 9) (by decide) (by decide) with ⟨e, -⟩ | ⟨-, q⟩
      · have e : mIn x 1 9 = 0 := e
        rw [e]
        exact k115_7 (fun _ => k115_10 ⟨rfl, rfl⟩) (fun q => absurd rfl q)
      · exact absurd q hb
theorem Cs_undo : mCs S 58 118 [] := by
  refine mCs_of fun G s h im tx la tr I L b hw hx hm => ?_
  have h7 := hw.1.1
  have hh := hw.2.2.1
  by_cases h0 : h.1 = 0
  · refine ⟨.int (-2), G, s, h, im, tx, la, tr, hw, ⟨I, L, e58 (k58_0 (fun _ => k58_7 ⟨rfl, rfl⟩) (fun q => ?_)), hx, mFx.rf⟩, fun I2 L2 hm2 => ⟨I2, L2, e118 (k118_0 (fun _ => k118_7 ⟨rfl, rfl⟩) (fun q => ?_)), hm2, mFm.rf⟩⟩
    · obtain ⟨-, -, ⟨pn, -, -, p6, -⟩, -⟩ := hx
      rw [p6, h0] at q
      exact absurd rfl q
    · rw [hm2.2.2.1.1, h0] at q
      exact absurd rfl q
  · obtain ⟨n, hn⟩ : ∃ n, h.1 = n + 1 := ⟨h.1 - 1, by omega⟩
    have hw' : mWf G (h.2 n) (n, h.2) im tx la := ⟨hw.1, hh.2 n (by omega), ⟨by dsimp only; omega, fun i hi => hh.2 i (by dsimp only at hi; omega)⟩, hw.2.2.2⟩
    refine ⟨.int (nI n), G, h.2 n, (n, h.2), im, tx, la, tr, hw', ?_, fun I2 L2 hm2 => ?_⟩
    · obtain ⟨x1, x2, ⟨pn, hpn, p5, p6, pi⟩, x4, x5, x6, x7⟩ := hx
      have e5 : I 1 5 + 10 - 1 - (I 1 5 + 10 - 1) / 10 * 10 = nI ((pn + 9) % 10) := by
        rw [p5, show nI pn + 10 = nI (pn + 9 + 1) from nI_add pn 10, nI_pred]
        exact pk_rem (d := 10) (by omega) (by decide) (by decide)
      have e6 : I 1 6 - 1 = nI n := by rw [p6, hn, nI_pred]
      have hx3 : mXI G s (n, h.2) im tx la tr b (m_up (m_up I 1 5 (nI ((pn + 9) % 10))) 1 6 (nI n)) L := by
        refine ⟨x1.sm ?_, x2.sm rfl rfl rfl, ⟨(pn + 9) % 10, Nat.mod_lt _ (by decide), by rw [m_un (by decide), m_us], m_us, fun i hi => ?_⟩, x4.sm rfl ?_, x5.sm rfl rfl, x6.sm rfl rfl, x7⟩
        · rintro a k (rfl | rfl)
          · rw [m_ux (by cases b <;> decide), m_ux (by cases b <;> decide)]
          · rw [m_ux (by cases b <;> decide), m_ux (by cases b <;> decide)]
        · have hi : i < n := hi
          have := pi i (by omega)
          rw [show (pn + 10 - h.1 + i) % 10 = ((pn + 9) % 10 + 10 - n + i) % 10 by omega] at this
          exact this.sm (by rw [m_up_ne (by omega), m_up_ne (by omega)]) (by rw [m_up_ne (by omega), m_up_ne (by omega)]) rfl
        · exact fun a h1 h2 => ⟨by rw [m_up_ne (by omega), m_up_ne (by omega)], rfl⟩
      have y0 := pi n (by omega)
      rw [show (pn + 10 - h.1 + n) % 10 = (pn + 9) % 10 by omega] at y0
      have y0 : mXY (h.2 n) (20 + 2 * ((pn + 9) % 10)) (m_up (m_up I 1 5 (nI ((pn + 9) % 10))) 1 6 (nI n)) L := y0.sm (by rw [m_up_ne (by omega), m_up_ne (by omega)]) (by rw [m_up_ne (by omega), m_up_ne (by omega)]) rfl
      obtain ⟨I1, L1, f1, y1, fr⟩ := S12b (S := S) (b := b) (i := (pn + 9) % 10) (by omega) y0
      refine ⟨I1, L1, e58 (k58_0 (fun q => ?_) (fun _ => k58_10 ?_)), hx3.play y1 fr, fun a ha => ⟨by rw [(fr a (by omega) (by omega)).1, m_up_ne (by omega), m_up_ne (by omega)], (fr a (by omega) (by omega)).2⟩⟩
      · rw [p6, hn] at q
        exact absurd q (nI_ne0 (by omega) (by omega))
      · rw [e5, e6]
        refine k58_48 (by omega) (c58_49 (by omega) f1 (k58_52 ⟨?_, rfl⟩))
        rw [(fr 1 (by decide) (by decide)).1, m_us]
    · obtain ⟨x1, x2, ⟨p8, pi⟩, x4, x5, x6, x7⟩ := hm2
      have e6 : I2 44 8 - 1 = nI n := by rw [p8, hn, nI_pred]
      obtain ⟨I1, f1, g1, g2, g3⟩ := S90 (S := S) (I := m_up I2 44 8 (nI n)) (L := L2) (b := b) (A := 45) (B := 46) (la := 57) (lb := 570) (Or.inr (Or.inl ⟨rfl, rfl, rfl, rfl⟩)) (x := 0) (y := 57 * n) (by omega) (by omega)
      have hx3 : mMI G s (n, h.2) im tx la tr (m_up I2 44 8 (nI n)) L2 := by
        refine ⟨x1.sm ?_, x2.sm rfl, ⟨m_us, fun i hi => (pi i ?_).sm rfl⟩, x4.sm rfl rfl, x5.sm rfl rfl, x6.sm rfl rfl, x7⟩
        · exact fun k hk => m_un (by omega)
        · have hi : i < n := hi
          omega
      refine ⟨I1, L2, e118 (k118_0 (fun q => ?_) (fun _ => k118_10 ?_)), hx3.play ?_ ?_ rfl, fun a ha => ⟨by rw [g1 a (by omega), m_up_ne (by omega)], rfl⟩⟩
      · rw [p8, hn] at q
        exact absurd q (nI_ne0 (by omega) (by omega))
      · rw [e6, show (57 : Int32) = nI 57 from rfl, pk_mul]
        refine c118_36 f1 (k118_39 ⟨?_, rfl⟩)
        rw [g1 44 (by decide), m_us]
      · refine mMY.cp h7 (pi n (by omega)) (fun k hk => ?_)
        rw [g3 k hk]
        exact m_ux (by decide)
      · exact fun a k _ ha => by rw [g1 a ha]
theorem Cs_keep (x : Int32) : mCs S 83 139 [.int x] := by
  refine mCs_of fun G s h im tx la tr I L b hw hx hm => ?_
  have h7 := hw.1.1
  by_cases hb : ∃ k, 0 ≤ k ∧ k ≤ 1 ∧ x = nI k
  · obtain ⟨i, -, hi, rfl⟩ := hb
    have hw' : mWf G s h (fun j => if j = i then some s else im j) tx la := by
      refine ⟨hw.1, hw.2.1, hw.2.2.1, fun j z hz => ?_, hw.2.2.2.2⟩
      dsimp only at hz
      split at hz
      · cases hz; exact hw.2.1
      · exact hw.2.2.2.1 j z hz
    refine ⟨.int (nI s.t), G, s, h, fun j => if j = i then some s else im j, tx, la, tr, hw', ?_, fun I2 L2 hm2 => ?_⟩
    · obtain ⟨x1, x2, x3, x4, x5, x6, x7⟩ := hx
      obtain ⟨I1, L1, f1, y1, fr⟩ := S12a (S := S) (b := b) (i := 10 + i) (by omega) x2
      have e40 : 20 + 2 * (10 + i) = 40 + 2 * i := by omega
      have e41 : 21 + 2 * (10 + i) = 41 + 2 * i := by omega
      rw [e40] at f1 y1
      rw [e40, e41] at fr
      have fI : ∀ a, a < 40 → I1 a = I a := fun a ha => (fr a (by omega) (by omega)).1
      have fL : ∀ a, a < 40 → L1 a = L a := fun a ha => (fr a (by omega) (by omega)).2
      refine ⟨m_up I1 12 i 1, L1, e83 (k83_0 (fun q => absurd q (nI_pos (by omega))) (fun _ => k83_4 (fun _ => k83_11 (by omega) (c83_21 (by omega) f1 (k83_24 (m_okN (by omega) (by decide)) ⟨?_, ?_⟩))) (fun q => ?_))), ⟨x1.sm ?_, x2.sm ?_ ?_ ?_, x3.sm ?_ ?_ ?_, fun j hj => ?_, x5.sm ?_ ?_, x6.sm ?_ ?_, ?_⟩, ?_⟩
      · rw [fI 8 (by decide), x2.1]
      · rw [nI_clamp (by omega), m_nar1]
      · rw [show (2 : Int32) = nI 2 from rfl, nI_ltI (by omega) (by decide)] at q
        omega
      · rintro a k (rfl | rfl)
        · rw [m_ux (by cases b <;> decide), fI _ (by cases b <;> decide)]
        · rw [m_ux (by cases b <;> decide), fI _ (by cases b <;> decide)]
      · rw [m_up_ne (by decide), fI _ (by decide)]
      · rw [m_up_ne (by decide), fI _ (by decide)]
      · rw [fL _ (by decide)]
      · rw [m_ux (by decide), fI _ (by decide)]
      · rw [m_ux (by decide), fI _ (by decide)]
      · exact fun a h1 h2 => ⟨by rw [m_up_ne (by omega), fI _ (by omega)], fL _ (by omega)⟩
      · by_cases q : j = i
        · subst q
          dsimp only
          rw [if_pos rfl]
          exact ⟨m_us, y1.sm (by rw [m_up_ne (by omega)]) (by rw [m_up_ne (by omega)]) rfl⟩
        · have := x4 j hj
          dsimp only
          rw [if_neg q]
          revert this
          cases im j with
          | none =>
            dsimp only
            intro this
            rw [m_un q, fI 12 (by decide), this]
          | some z =>
            dsimp only
            rintro ⟨z1, z2⟩
            refine ⟨by rw [m_un q, fI 12 (by decide), z1], z2.sm ?_ ?_ ?_⟩
            · rw [m_up_ne (by omega), (fr _ (by omega) (by omega)).1]
            · rw [m_up_ne (by omega), (fr _ (by omega) (by omega)).1]
            · rw [(fr _ (by omega) (by omega)).2]
      · rw [m_ux (by decide), fI _ (by decide)]
      · rw [m_up_ne (by decide), fI _ (by decide)]
      · rw [m_ux (by decide), fI _ (by decide)]
      · rw [m_up_ne (by decide), fI _ (by decide)]
      · rw [fL 1 (by decide)]; exact x7
      · exact mFx.up (fun a ha => fr a (by omega) (by omega)) (by decide)
    · obtain ⟨x1, x2, x3, x4, x5, x6, x7⟩ := hm2
      obtain ⟨I1, f1, g1, g2, g3⟩ := S90 (S := S) (I := I2) (L := L2) (b := b) (A := 47) (B := 45) (la := 114) (lb := 57) (Or.inr (Or.inr (Or.inl ⟨rfl, rfl, rfl, rfl⟩))) (x := 57 * i) (y := 0) (by omega) (by omega)
      refine ⟨m_up I1 48 i 1, L2, e139 (k139_0 (c139_3 (S88 _ _ _) ?_)), ⟨x1.sm ?_, x2.sm ?_, x3.sm ?_ ?_, fun j hj => ?_, x5.sm ?_ ?_, x6.sm ?_ ?_, x7⟩, ?_⟩
      · have e : mIn (nI i) 0 1 = 1 := (mIn_n (by omega) (l := 0) (by decide) (h := 1) (by decide)).trans (if_pos ⟨Nat.zero_le _, hi⟩)
        rw [e]
        refine k139_6 (fun q => absurd q (by decide)) (fun _ => k139_11 ?_)
        rw [show (57 : Int32) = nI 57 from rfl, pk_mul]
        refine c139_24 f1 (k139_27 (m_okN (by omega) (by decide)) ⟨?_, ?_⟩)
        · rw [g1 45 (by decide)]
          exact congrArg (fun z => some (Value.int z)) x2.1
        · rw [nI_clamp (by omega), m_nar1]
      · exact fun k hk => by rw [m_ux (by decide), g1 44 (by decide)]
      · rw [m_up_ne (by decide), g1 _ (by decide)]
      · rw [m_ux (by decide), g1 _ (by decide)]
      · rw [m_up_ne (by decide), g1 _ (by decide)]
      · by_cases q : j = i
        · subst q
          dsimp only
          rw [if_pos rfl]
          refine ⟨m_us, (mMY.cp h7 x2 (fun k hk => ?_)).sm (m_up_ne (by decide))⟩
          rw [g3 k hk]
        · have := x4 j hj
          dsimp only
          rw [if_neg q]
          revert this
          cases im j with
          | none =>
            dsimp only
            intro this
            rw [m_un q, g1 48 (by decide), this]
          | some z =>
            dsimp only
            rintro ⟨z1, z2⟩
            refine ⟨by rw [m_un q, g1 48 (by decide), z1], (mMY.cp (A := 47) (x := 57 * j) (I' := I1) h7 z2 (fun k hk => ?_)).sm (m_up_ne (by decide))⟩
            exact g2 _ (by omega)
      · rw [m_ux (by decide), g1 _ (by decide)]
      · rw [m_up_ne (by decide), g1 _ (by decide)]
      · rw [m_ux (by decide), g1 _ (by decide)]
      · rw [m_up_ne (by decide), g1 _ (by decide)]
      · exact mFm.up (fun a ha => ⟨g1 a (by omega), rfl⟩) (by decide)
  · refine ⟨.int (-1), G, s, h, im, tx, la, tr, hw, ⟨I, L, e83 (k83_0 (fun _ => k83_9 ⟨rfl, rfl⟩) (fun q => k83_4 (fun q2 => ?_) (fun _ => k83_9 ⟨rfl, rfl⟩))), hx, mFx.rf⟩, fun I2 L2 hm2 => ⟨I2, L2, e139 (k139_0 (c139_3 (S88 _ _ _) ?_)), hm2, mFm.rf⟩⟩
    · obtain ⟨k, hk, rfl⟩ := nI_of q
      rw [show (2 : Int32) = nI 2 from rfl, nI_ltI hk (by decide)] at q2
      exact absurd ⟨k, Nat.zero_le _, by omega, rfl⟩ hb
    · rcases mCm_in (v := x) (lo := 0) (hi := 1) (by decide) (by decide) with ⟨e, -⟩ | ⟨-, q⟩
      · have e : mIn x 0 1 = 0 := e
        rw [e]
        exact k139_6 (fun _ => k139_9 ⟨rfl, rfl⟩) (fun q => absurd rfl q)
      · exact absurd q hb
theorem Cs_back (x : Int32) : mCs S 84 140 [.int x] := by
  refine mCs_of fun G s h im tx la tr I L b hw hx hm => ?_
  have h7 := hw.1.1
  by_cases hb : ∃ k, 0 ≤ k ∧ k ≤ 1 ∧ x = nI k
  · obtain ⟨i, -, hi, rfl⟩ := hb
    have x11 : ∀ {Q : Option Value → mW → Prop}, mWp S 84 11 [some (.ref 1), some (.int (nI i))] [] (mSH, I, L, mRk b) Q → mWp S 84 0 [some (.ref 1), some (.int (nI i))] [] (mSH, I, L, mRk b) Q := by
      intro Q hq
      refine k84_0 (fun q => absurd q (nI_pos (by omega))) (fun _ => k84_4 (fun _ => hq) (fun q => ?_))
      rw [show (2 : Int32) = nI 2 from rfl, nI_ltI (by omega) (by decide)] at q
      omega
    have m11 : ∀ {I1 : mF} {L1 : mFL} {Q : Option Value → mW → Prop}, mWp S 140 11 [some (.ref 44), some (.int (nI i))] [] (mSH, I1, L1, mRk b) Q → mWp S 140 0 [some (.ref 44), some (.int (nI i))] [] (mSH, I1, L1, mRk b) Q := by
      intro I1 L1 Q hq
      refine k140_0 (c140_3 (S88 _ _ _) ?_)
      have e : mIn (nI i) 0 1 = 1 := (mIn_n (by omega) (l := 0) (by decide) (h := 1) (by decide)).trans (if_pos ⟨Nat.zero_le _, hi⟩)
      rw [e]
      exact k140_6 (fun q => absurd q (by decide)) (fun _ => hq)
    have c4 : ∀ {I1 : mF} {L1 : mFL}, mXM im I1 L1 → (match im i with | none => I1 12 i = 0 | some z => I1 12 i = 1 ∧ mXY z (40 + 2 * i) I1 L1) := fun hq => hq i (by omega)
    have d4 : ∀ {I1 : mF}, mMM G im I1 → (match im i with | none => I1 48 i = 0 | some z => I1 48 i = 1 ∧ mMY G z 47 (57 * i) I1) := fun hq => hq i (by omega)
    have hwi := hw.2.2.2.1 i
    cases hz : im i with
    | none =>
      rw [hz] at c4 d4
      dsimp only at c4 d4
      refine ⟨.int (-2), G, s, h, im, tx, la, tr, hw, ⟨I, L, e84 (x11 (k84_11 (m_okN (by omega) (by decide)) (fun _ => k84_20 ⟨rfl, rfl⟩) (fun q => ?_))), hx, mFx.rf⟩, fun I2 L2 hm2 => ⟨I2, L2, e140 (m11 (k140_11 (m_okN (by omega) (by decide)) (fun _ => k140_20 ⟨rfl, rfl⟩) (fun q => ?_))), hm2, mFm.rf⟩⟩
      · rw [nI_clamp (by omega)] at q
        exact absurd (c4 hx.2.2.2.1) q
      · rw [nI_clamp (by omega)] at q
        exact absurd (d4 hm2.2.2.2.1) q
    | some z =>
      rw [hz] at c4 d4
      dsimp only at c4 d4
      have hw' : mWf G z (0, h.2) im tx la := ⟨hw.1, hwi z hz, ⟨Nat.zero_le _, fun i hi => absurd hi (Nat.not_lt_zero i)⟩, hw.2.2.2⟩
      refine ⟨.int (nI z.t), G, z, (0, h.2), im, tx, la, tr, hw', ?_, fun I2 L2 hm2 => ?_⟩
      · obtain ⟨z1, z2⟩ := c4 hx.2.2.2.1
        have z3 : mXY z (20 + 2 * (10 + i)) I L := by
          rw [show 20 + 2 * (10 + i) = 40 + 2 * i by omega]
          exact z2
        obtain ⟨I1, L1, f1, y1, fr⟩ := S12b (S := S) (b := b) (i := 10 + i) (by omega) z3
        rw [show 20 + 2 * (10 + i) = 40 + 2 * i by omega] at f1
        obtain ⟨x1, x2, ⟨pn, hpn, p5, p6, pi⟩, x4, x5, x6, x7⟩ := hx.play y1 fr
        refine ⟨m_up I1 1 6 0, L1, e84 (x11 (k84_11 (m_okN (by omega) (by decide)) (fun q => ?_) (fun _ => k84_23 (by omega) (c84_33 (by omega) f1 (k84_36 ⟨?_, rfl⟩))))), ⟨x1.sm ?_, x2.sm rfl rfl rfl, ⟨pn, hpn, by rw [m_un (by decide)]; exact p5, m_us, fun i hi => absurd hi (Nat.not_lt_zero i)⟩, x4.sm rfl ?_, x5.sm rfl rfl, x6.sm rfl rfl, x7⟩, ?_⟩
        · rw [nI_clamp (by omega), z1] at q
          exact absurd q (by decide)
        · rw [y1.1]
        · rintro a k (rfl | rfl)
          · rw [m_ux (by cases b <;> decide)]
          · rw [m_ux (by cases b <;> decide)]
        · exact fun a h1 h2 => ⟨by rw [m_up_ne (by omega)], rfl⟩
        · exact mFx.up (fun a ha => fr a (by omega) (by omega)) (by decide)
      · obtain ⟨z1, z2⟩ := d4 hm2.2.2.2.1
        obtain ⟨I1, f1, g1, g2, g3⟩ := S90 (S := S) (I := I2) (L := L2) (b := b) (A := 45) (B := 47) (la := 57) (lb := 114) (Or.inr (Or.inr (Or.inr ⟨rfl, rfl, rfl, rfl⟩))) (x := 0) (y := 57 * i) (by omega) (by omega)
        have y1 : mMY G z 45 0 I1 := mMY.cp h7 z2 g3
        obtain ⟨x1, x2, x3, x4, x5, x6, x7⟩ := hm2.play (s' := z) y1 (fun a k _ ha => by rw [g1 a ha]) rfl
        refine ⟨m_up I1 44 8 0, L2, e140 (m11 (k140_11 (m_okN (by omega) (by decide)) (fun q => ?_) (fun _ => k140_23 ?_))), ⟨x1.sm ?_, x2.sm rfl, ⟨m_us, fun i hi => absurd hi (Nat.not_lt_zero i)⟩, x4.sm rfl rfl, x5.sm rfl rfl, x6.sm rfl rfl, x7⟩, ?_⟩
        · rw [nI_clamp (by omega), z1] at q
          exact absurd q (by decide)
        · rw [show (57 : Int32) = nI 57 from rfl, pk_mul]
          refine c140_36 f1 (k140_39 ⟨?_, rfl⟩)
          exact congrArg (fun z => some (Value.int z)) y1.1
        · exact fun k hk => by rw [m_un (by omega)]
        · exact mFm.up (fun a ha => ⟨g1 a (by omega), rfl⟩) (by decide)
  · refine ⟨.int (-1), G, s, h, im, tx, la, tr, hw, ⟨I, L, e84 (k84_0 (fun _ => k84_9 ⟨rfl, rfl⟩) (fun q => k84_4 (fun q2 => ?_) (fun _ => k84_9 ⟨rfl, rfl⟩))), hx, mFx.rf⟩, fun I2 L2 hm2 => ⟨I2, L2, e140 (k140_0 (c140_3 (S88 _ _ _) ?_)), hm2, mFm.rf⟩⟩
    · obtain ⟨k, hk, rfl⟩ := nI_of q
      rw [show (2 : Int32) = nI 2 from rfl, nI_ltI hk (by decide)] at q2
      exact absurd ⟨k, Nat.zero_le _, by omega, rfl⟩ hb
    · rcases mCm_in (v := x) (lo := 0) (hi := 1) (by decide) (by decide) with ⟨e, -⟩ | ⟨-, q⟩
      · have e : mIn x 0 1 = 0 := e
        rw [e]
        exact k140_6 (fun _ => k140_9 ⟨rfl, rfl⟩) (fun q => absurd rfl q)
      · exact absurd q hb
end KEEP
