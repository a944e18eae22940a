/-! what a call answers is of its kind -/
theorem m_ret_k {mi : Nat} {i : Instr} {st : List Value} {g : Option Bool} {v : Option Value} (h : m_ret mi i st = some (g, v)) : (m_rty mi = some .int → ∃ x, v = some (.int x)) ∧ (m_rty mi = some .long → ∃ x, v = some (.long x)) := by
  unfold m_ret at h
  split at h
  · split at h
    · next hr =>
      cases h
      exact ⟨fun _ => ⟨_, rfl⟩, (fun q => by rw [hr] at q; cases q)⟩
    · next hr =>
      cases h
      exact ⟨(fun q => by rw [hr] at q; cases q), (fun q => by rw [hr] at q; cases q)⟩
    · cases h
  · split at h
    · next hr =>
      cases h
      exact ⟨(fun q => by rw [hr] at q; cases q), fun _ => ⟨_, rfl⟩⟩
    · cases h
  · split at h
    · next hr =>
      cases h
      exact ⟨(fun q => by rw [hr] at q; cases q), (fun q => by rw [hr] at q; cases q)⟩
    · cases h
  · cases h
theorem m_run_k {S : mS} : ∀ (n : Nat) {mi pc : Nat} {ls : mLs} {st : List Value} {w w' : mW} {v : Option Value}, m_run S n mi pc ls st w = some (v, w') → (m_rty mi = some .int → ∃ x, v = some (.int x)) ∧ (m_rty mi = some .long → ∃ x, v = some (.long x)) := by
  intro n
  induction n with
  | zero => intro mi pc ls st w w' v h; cases h
  | succ n ih =>
    intro mi pc ls st w w' v h
    rw [m_run] at h
    split at h
    next => cases h
    next i len hd =>
      split at h
      next => cases h
      next hl =>
        split at h
        next g v0 hr =>
          split at h
          next => cases h
          next =>
            cases h
            exact m_ret_k hr
        next hr =>
          split at h
          next m' av r hc =>
            split at h
            next v1 w1 h1 => exact ih h
            next => cases h
          next =>
            split at h
            next g pc' ls' st' w2 he =>
              split at h
              next => cases h
              next => exact ih h
            next => cases h
theorem m_fn_int {S : mS} {mi : Nat} {av : List Value} {w w' : mW} {r : Value} (ht : m_rty mi = some .int) (h : mFn S mi av w (some r) w') : ∃ x, r = .int x := by
  obtain ⟨n, h⟩ := h
  obtain ⟨x, e⟩ := (m_run_k n h).1 ht
  cases e
  exact ⟨x, rfl⟩
theorem m_fn_long {S : mS} {mi : Nat} {av : List Value} {w w' : mW} {r : Value} (ht : m_rty mi = some .long) (h : mFn S mi av w (some r) w') : ∃ x, r = .long x := by
  obtain ⟨n, h⟩ := h
  obtain ⟨x, e⟩ := (m_run_k n h).2 ht
  cases e
  exact ⟨x, rfl⟩
theorem m_lg_self (x : Int64) : lg_cmp x x = 0 := by
  unfold lg_cmp
  rw [if_neg (show ¬ x > x from Int64.lt_irrefl), if_pos rfl]
/-! the law: case by case -/
section LAWC
variable {S : mS} {I : mF} {L : mFL} {b : Bool} {Q : Option Value → mW → Prop} {i : Int32}
theorem law_type (hcs : mCs S 42 92 [.int (S.2 ((i + Int32.ofInt 1).toNatClampNeg))]) (hok : mOk I L b) (g1 : m_ok (i + Int32.ofInt 1) S.1 = true) (next : ∀ I2 L2 b2, mOk I2 L2 b2 → mWp S 146 774 [some (.ref 0), some (.ref 1), some (.ref 44), some (.int i)] [] (mSH, I2, L2, mRk b2) Q) : mWp S 146 148 [some (.ref 0), some (.ref 1), some (.ref 44), some (.int i)] [] (mSH, I, L, mRk b) Q := by
  obtain ⟨r, I1, L1, b1, I2, L2, f1, f2, ok2⟩ := hcs I L b hok
  obtain ⟨x, rfl⟩ : ∃ x, r = .int x := m_fn_int rfl f1
  exact mWp_blk [(148, .aload_n 1), (149, .aload_n 0), (150, .iload_n 3), (151, .iconst 1), (152, .iadd), (153, .iaload)] (by decide +kernel) ⟨g1, mWp_call (i := .invokevirtual 13) (by decide +kernel) ⟨rfl, rfl⟩ f1 (mWp_blk [(157, .aload_n 2), (158, .aload_n 0), (159, .iload_n 3), (160, .iconst 1), (161, .iadd), (162, .iaload)] (by decide +kernel) ⟨g1, mWp_call (i := .invokevirtual 17) (by decide +kernel) ⟨rfl, rfl⟩ f2 (mWp_blk [(166, .if_icmp .eq 608)] (by decide +kernel) (mWp_ite (fun _ => next I2 L2 b1 ok2) (fun h => absurd rfl h)))⟩)⟩
theorem law_clear (hcs : mCs S 43 93 []) (hok : mOk I L b)  (next : ∀ I2 L2 b2, mOk I2 L2 b2 → mWp S 146 774 [some (.ref 0), some (.ref 1), some (.ref 44), some (.int i)] [] (mSH, I2, L2, mRk b2) Q) : mWp S 146 171 [some (.ref 0), some (.ref 1), some (.ref 44), some (.int i)] [] (mSH, I, L, mRk b) Q := by
  obtain ⟨r, I1, L1, b1, I2, L2, f1, f2, ok2⟩ := hcs I L b hok
  obtain ⟨x, rfl⟩ : ∃ x, r = .int x := m_fn_int rfl f1
  exact mWp_blk [(171, .aload_n 1)] (by decide +kernel) (mWp_call (i := .invokevirtual 18) (by decide +kernel) ⟨rfl, rfl⟩ f1 (mWp_blk [(175, .aload_n 2)] (by decide +kernel) (mWp_call (i := .invokevirtual 22) (by decide +kernel) ⟨rfl, rfl⟩ f2 (mWp_blk [(179, .if_icmp .eq 595)] (by decide +kernel) (mWp_ite (fun _ => next I2 L2 b1 ok2) (fun h => absurd rfl h))))))
theorem law_lawn (hcs : mCs S 44 103 []) (hok : mOk I L b)  (next : ∀ I2 L2 b2, mOk I2 L2 b2 → mWp S 146 774 [some (.ref 0), some (.ref 1), some (.ref 44), some (.int i)] [] (mSH, I2, L2, mRk b2) Q) : mWp S 146 184 [some (.ref 0), some (.ref 1), some (.ref 44), some (.int i)] [] (mSH, I, L, mRk b) Q := by
  obtain ⟨r, I1, L1, b1, I2, L2, f1, f2, ok2⟩ := hcs I L b hok
  obtain ⟨x, rfl⟩ : ∃ x, r = .int x := m_fn_int rfl f1
  exact mWp_blk [(184, .aload_n 1)] (by decide +kernel) (mWp_call (i := .invokevirtual 23) (by decide +kernel) ⟨rfl, rfl⟩ f1 (mWp_blk [(188, .aload_n 2)] (by decide +kernel) (mWp_call (i := .invokevirtual 26) (by decide +kernel) ⟨rfl, rfl⟩ f2 (mWp_blk [(192, .if_icmp .eq 582)] (by decide +kernel) (mWp_ite (fun _ => next I2 L2 b1 ok2) (fun h => absurd rfl h))))))
theorem law_cell (hcs : mCs S 46 108 [.int (S.2 ((i + Int32.ofInt 1).toNatClampNeg)), .int (S.2 ((i + Int32.ofInt 2).toNatClampNeg))]) (hok : mOk I L b) (g1 : m_ok (i + Int32.ofInt 1) S.1 = true) (g2 : m_ok (i + Int32.ofInt 2) S.1 = true) (next : ∀ I2 L2 b2, mOk I2 L2 b2 → mWp S 146 774 [some (.ref 0), some (.ref 1), some (.ref 44), some (.int i)] [] (mSH, I2, L2, mRk b2) Q) : mWp S 146 197 [some (.ref 0), some (.ref 1), some (.ref 44), some (.int i)] [] (mSH, I, L, mRk b) Q := by
  obtain ⟨r, I1, L1, b1, I2, L2, f1, f2, ok2⟩ := hcs I L b hok
  obtain ⟨x, rfl⟩ : ∃ x, r = .int x := m_fn_int rfl f1
  exact mWp_blk [(197, .aload_n 1), (198, .aload_n 0), (199, .iload_n 3), (200, .iconst 1), (201, .iadd), (202, .iaload), (203, .aload_n 0), (204, .iload_n 3), (205, .iconst 2), (206, .iadd), (207, .iaload)] (by decide +kernel) ⟨g1, ⟨g2, mWp_call (i := .invokevirtual 27) (by decide +kernel) ⟨rfl, rfl⟩ f1 (mWp_blk [(211, .aload_n 2), (212, .aload_n 0), (213, .iload_n 3), (214, .iconst 1), (215, .iadd), (216, .iaload), (217, .aload_n 0), (218, .iload_n 3), (219, .iconst 2), (220, .iadd), (221, .iaload)] (by decide +kernel) ⟨g1, ⟨g2, mWp_call (i := .invokevirtual 31) (by decide +kernel) ⟨rfl, rfl⟩ f2 (mWp_blk [(225, .if_icmp .eq 549)] (by decide +kernel) (mWp_ite (fun _ => next I2 L2 b1 ok2) (fun h => absurd rfl h)))⟩⟩)⟩⟩
theorem law_score (hcs : mCs S 48 109 [.int (S.2 ((i + Int32.ofInt 1).toNatClampNeg))]) (hok : mOk I L b) (g1 : m_ok (i + Int32.ofInt 1) S.1 = true) (next : ∀ I2 L2 b2, mOk I2 L2 b2 → mWp S 146 774 [some (.ref 0), some (.ref 1), some (.ref 44), some (.int i)] [] (mSH, I2, L2, mRk b2) Q) : mWp S 146 230 [some (.ref 0), some (.ref 1), some (.ref 44), some (.int i)] [] (mSH, I, L, mRk b) Q := by
  obtain ⟨r, I1, L1, b1, I2, L2, f1, f2, ok2⟩ := hcs I L b hok
  obtain ⟨x, rfl⟩ : ∃ x, r = .int x := m_fn_int rfl f1
  exact mWp_blk [(230, .aload_n 1), (231, .aload_n 0), (232, .iload_n 3), (233, .iconst 1), (234, .iadd), (235, .iaload)] (by decide +kernel) ⟨g1, mWp_call (i := .invokevirtual 32) (by decide +kernel) ⟨rfl, rfl⟩ f1 (mWp_blk [(239, .aload_n 2), (240, .aload_n 0), (241, .iload_n 3), (242, .iconst 1), (243, .iadd), (244, .iaload)] (by decide +kernel) ⟨g1, mWp_call (i := .invokevirtual 35) (by decide +kernel) ⟨rfl, rfl⟩ f2 (mWp_blk [(248, .if_icmp .eq 526)] (by decide +kernel) (mWp_ite (fun _ => next I2 L2 b1 ok2) (fun h => absurd rfl h)))⟩)⟩
theorem law_now (hcs : mCs S 49 111 [.int (S.2 ((i + Int32.ofInt 1).toNatClampNeg))]) (hok : mOk I L b) (g1 : m_ok (i + Int32.ofInt 1) S.1 = true) (next : ∀ I2 L2 b2, mOk I2 L2 b2 → mWp S 146 774 [some (.ref 0), some (.ref 1), some (.ref 44), some (.int i)] [] (mSH, I2, L2, mRk b2) Q) : mWp S 146 253 [some (.ref 0), some (.ref 1), some (.ref 44), some (.int i)] [] (mSH, I, L, mRk b) Q := by
  obtain ⟨r, I1, L1, b1, I2, L2, f1, f2, ok2⟩ := hcs I L b hok
  obtain ⟨x, rfl⟩ : ∃ x, r = .int x := m_fn_int rfl f1
  exact mWp_blk [(253, .aload_n 1), (254, .aload_n 0), (255, .iload_n 3), (256, .iconst 1), (257, .iadd), (258, .iaload)] (by decide +kernel) ⟨g1, mWp_call (i := .invokevirtual 36) (by decide +kernel) ⟨rfl, rfl⟩ f1 (mWp_blk [(262, .aload_n 2), (263, .aload_n 0), (264, .iload_n 3), (265, .iconst 1), (266, .iadd), (267, .iaload)] (by decide +kernel) ⟨g1, mWp_call (i := .invokevirtual 39) (by decide +kernel) ⟨rfl, rfl⟩ f2 (mWp_blk [(271, .if_icmp .eq 503)] (by decide +kernel) (mWp_ite (fun _ => next I2 L2 b1 ok2) (fun h => absurd rfl h)))⟩)⟩
theorem law_strikes (hcs : mCs S 51 114 [.int (S.2 ((i + Int32.ofInt 1).toNatClampNeg)), .int (S.2 ((i + Int32.ofInt 2).toNatClampNeg))]) (hok : mOk I L b) (g1 : m_ok (i + Int32.ofInt 1) S.1 = true) (g2 : m_ok (i + Int32.ofInt 2) S.1 = true) (next : ∀ I2 L2 b2, mOk I2 L2 b2 → mWp S 146 774 [some (.ref 0), some (.ref 1), some (.ref 44), some (.int i)] [] (mSH, I2, L2, mRk b2) Q) : mWp S 146 276 [some (.ref 0), some (.ref 1), some (.ref 44), some (.int i)] [] (mSH, I, L, mRk b) Q := by
  obtain ⟨r, I1, L1, b1, I2, L2, f1, f2, ok2⟩ := hcs I L b hok
  obtain ⟨x, rfl⟩ : ∃ x, r = .int x := m_fn_int rfl f1
  exact mWp_blk [(276, .aload_n 1), (277, .aload_n 0), (278, .iload_n 3), (279, .iconst 1), (280, .iadd), (281, .iaload), (282, .aload_n 0), (283, .iload_n 3), (284, .iconst 2), (285, .iadd), (286, .iaload)] (by decide +kernel) ⟨g1, ⟨g2, mWp_call (i := .invokevirtual 40) (by decide +kernel) ⟨rfl, rfl⟩ f1 (mWp_blk [(290, .aload_n 2), (291, .aload_n 0), (292, .iload_n 3), (293, .iconst 1), (294, .iadd), (295, .iaload), (296, .aload_n 0), (297, .iload_n 3), (298, .iconst 2), (299, .iadd), (300, .iaload)] (by decide +kernel) ⟨g1, ⟨g2, mWp_call (i := .invokevirtual 43) (by decide +kernel) ⟨rfl, rfl⟩ f2 (mWp_blk [(304, .if_icmp .eq 470)] (by decide +kernel) (mWp_ite (fun _ => next I2 L2 b1 ok2) (fun h => absurd rfl h)))⟩⟩)⟩⟩
theorem law_waits (hcs : mCs S 55 115 [.int (S.2 ((i + Int32.ofInt 1).toNatClampNeg))]) (hok : mOk I L b) (g1 : m_ok (i + Int32.ofInt 1) S.1 = true) (next : ∀ I2 L2 b2, mOk I2 L2 b2 → mWp S 146 774 [some (.ref 0), some (.ref 1), some (.ref 44), some (.int i)] [] (mSH, I2, L2, mRk b2) Q) : mWp S 146 309 [some (.ref 0), some (.ref 1), some (.ref 44), some (.int i)] [] (mSH, I, L, mRk b) Q := by
  obtain ⟨r, I1, L1, b1, I2, L2, f1, f2, ok2⟩ := hcs I L b hok
  obtain ⟨x, rfl⟩ : ∃ x, r = .int x := m_fn_int rfl f1
  exact mWp_blk [(309, .aload_n 1), (310, .aload_n 0), (311, .iload_n 3), (312, .iconst 1), (313, .iadd), (314, .iaload)] (by decide +kernel) ⟨g1, mWp_call (i := .invokevirtual 44) (by decide +kernel) ⟨rfl, rfl⟩ f1 (mWp_blk [(318, .aload_n 2), (319, .aload_n 0), (320, .iload_n 3), (321, .iconst 1), (322, .iadd), (323, .iaload)] (by decide +kernel) ⟨g1, mWp_call (i := .invokevirtual 47) (by decide +kernel) ⟨rfl, rfl⟩ f2 (mWp_blk [(327, .if_icmp .eq 447)] (by decide +kernel) (mWp_ite (fun _ => next I2 L2 b1 ok2) (fun h => absurd rfl h)))⟩)⟩
theorem law_boards (hcs : mCs S 56 117 [.int (S.2 ((i + Int32.ofInt 1).toNatClampNeg)), .int (S.2 ((i + Int32.ofInt 2).toNatClampNeg)), .int (S.2 ((i + Int32.ofInt 3).toNatClampNeg))]) (hok : mOk I L b) (g1 : m_ok (i + Int32.ofInt 1) S.1 = true) (g2 : m_ok (i + Int32.ofInt 2) S.1 = true) (g3 : m_ok (i + Int32.ofInt 3) S.1 = true) (next : ∀ I2 L2 b2, mOk I2 L2 b2 → mWp S 146 774 [some (.ref 0), some (.ref 1), some (.ref 44), some (.int i)] [] (mSH, I2, L2, mRk b2) Q) : mWp S 146 332 [some (.ref 0), some (.ref 1), some (.ref 44), some (.int i)] [] (mSH, I, L, mRk b) Q := by
  obtain ⟨r, I1, L1, b1, I2, L2, f1, f2, ok2⟩ := hcs I L b hok
  obtain ⟨x, rfl⟩ : ∃ x, r = .int x := m_fn_int rfl f1
  exact mWp_blk [(332, .aload_n 1), (333, .aload_n 0), (334, .iload_n 3), (335, .iconst 1), (336, .iadd), (337, .iaload), (338, .aload_n 0), (339, .iload_n 3), (340, .iconst 2), (341, .iadd), (342, .iaload), (343, .aload_n 0), (344, .iload_n 3), (345, .iconst 3), (346, .iadd), (347, .iaload)] (by decide +kernel) ⟨g1, ⟨g2, ⟨g3, mWp_call (i := .invokevirtual 48) (by decide +kernel) ⟨rfl, rfl⟩ f1 (mWp_blk [(351, .aload_n 2), (352, .aload_n 0), (353, .iload_n 3), (354, .iconst 1), (355, .iadd), (356, .iaload), (357, .aload_n 0), (358, .iload_n 3), (359, .iconst 2), (360, .iadd), (361, .iaload), (362, .aload_n 0), (363, .iload_n 3), (364, .iconst 3), (365, .iadd), (366, .iaload)] (by decide +kernel) ⟨g1, ⟨g2, ⟨g3, mWp_call (i := .invokevirtual 52) (by decide +kernel) ⟨rfl, rfl⟩ f2 (mWp_blk [(370, .if_icmp .eq 404)] (by decide +kernel) (mWp_ite (fun _ => next I2 L2 b1 ok2) (fun h => absurd rfl h)))⟩⟩⟩)⟩⟩⟩
theorem law_undo (hcs : mCs S 58 118 []) (hok : mOk I L b)  (next : ∀ I2 L2 b2, mOk I2 L2 b2 → mWp S 146 774 [some (.ref 0), some (.ref 1), some (.ref 44), some (.int i)] [] (mSH, I2, L2, mRk b2) Q) : mWp S 146 375 [some (.ref 0), some (.ref 1), some (.ref 44), some (.int i)] [] (mSH, I, L, mRk b) Q := by
  obtain ⟨r, I1, L1, b1, I2, L2, f1, f2, ok2⟩ := hcs I L b hok
  obtain ⟨x, rfl⟩ : ∃ x, r = .int x := m_fn_int rfl f1
  exact mWp_blk [(375, .aload_n 1)] (by decide +kernel) (mWp_call (i := .invokevirtual 53) (by decide +kernel) ⟨rfl, rfl⟩ f1 (mWp_blk [(379, .aload_n 2)] (by decide +kernel) (mWp_call (i := .invokevirtual 56) (by decide +kernel) ⟨rfl, rfl⟩ f2 (mWp_blk [(383, .if_icmp .eq 391)] (by decide +kernel) (mWp_ite (fun _ => next I2 L2 b1 ok2) (fun h => absurd rfl h))))))
theorem law_would (hcs : mCs S 59 119 [.int (S.2 ((i + Int32.ofInt 1).toNatClampNeg)), .int (S.2 ((i + Int32.ofInt 2).toNatClampNeg))]) (hok : mOk I L b) (g1 : m_ok (i + Int32.ofInt 1) S.1 = true) (g2 : m_ok (i + Int32.ofInt 2) S.1 = true) (next : ∀ I2 L2 b2, mOk I2 L2 b2 → mWp S 146 774 [some (.ref 0), some (.ref 1), some (.ref 44), some (.int i)] [] (mSH, I2, L2, mRk b2) Q) : mWp S 146 388 [some (.ref 0), some (.ref 1), some (.ref 44), some (.int i)] [] (mSH, I, L, mRk b) Q := by
  obtain ⟨r, I1, L1, b1, I2, L2, f1, f2, ok2⟩ := hcs I L b hok
  obtain ⟨x, rfl⟩ : ∃ x, r = .int x := m_fn_int rfl f1
  exact mWp_blk [(388, .aload_n 1), (389, .aload_n 0), (390, .iload_n 3), (391, .iconst 1), (392, .iadd), (393, .iaload), (394, .aload_n 0), (395, .iload_n 3), (396, .iconst 2), (397, .iadd), (398, .iaload)] (by decide +kernel) ⟨g1, ⟨g2, mWp_call (i := .invokevirtual 57) (by decide +kernel) ⟨rfl, rfl⟩ f1 (mWp_blk [(402, .aload_n 2), (403, .aload_n 0), (404, .iload_n 3), (405, .iconst 1), (406, .iadd), (407, .iaload), (408, .aload_n 0), (409, .iload_n 3), (410, .iconst 2), (411, .iadd), (412, .iaload)] (by decide +kernel) ⟨g1, ⟨g2, mWp_call (i := .invokevirtual 60) (by decide +kernel) ⟨rfl, rfl⟩ f2 (mWp_blk [(416, .if_icmp .eq 358)] (by decide +kernel) (mWp_ite (fun _ => next I2 L2 b1 ok2) (fun h => absurd rfl h)))⟩⟩)⟩⟩
theorem law_when (hcs : mCs S 60 120 [.int (S.2 ((i + Int32.ofInt 1).toNatClampNeg)), .int (S.2 ((i + Int32.ofInt 2).toNatClampNeg))]) (hok : mOk I L b) (g1 : m_ok (i + Int32.ofInt 1) S.1 = true) (g2 : m_ok (i + Int32.ofInt 2) S.1 = true) (next : ∀ I2 L2 b2, mOk I2 L2 b2 → mWp S 146 774 [some (.ref 0), some (.ref 1), some (.ref 44), some (.int i)] [] (mSH, I2, L2, mRk b2) Q) : mWp S 146 421 [some (.ref 0), some (.ref 1), some (.ref 44), some (.int i)] [] (mSH, I, L, mRk b) Q := by
  obtain ⟨r, I1, L1, b1, I2, L2, f1, f2, ok2⟩ := hcs I L b hok
  obtain ⟨x, rfl⟩ : ∃ x, r = .int x := m_fn_int rfl f1
  exact mWp_blk [(421, .aload_n 1), (422, .aload_n 0), (423, .iload_n 3), (424, .iconst 1), (425, .iadd), (426, .iaload), (427, .aload_n 0), (428, .iload_n 3), (429, .iconst 2), (430, .iadd), (431, .iaload)] (by decide +kernel) ⟨g1, ⟨g2, mWp_call (i := .invokevirtual 61) (by decide +kernel) ⟨rfl, rfl⟩ f1 (mWp_blk [(435, .aload_n 2), (436, .aload_n 0), (437, .iload_n 3), (438, .iconst 1), (439, .iadd), (440, .iaload), (441, .aload_n 0), (442, .iload_n 3), (443, .iconst 2), (444, .iadd), (445, .iaload)] (by decide +kernel) ⟨g1, ⟨g2, mWp_call (i := .invokevirtual 64) (by decide +kernel) ⟨rfl, rfl⟩ f2 (mWp_blk [(449, .if_icmp .eq 325)] (by decide +kernel) (mWp_ite (fun _ => next I2 L2 b1 ok2) (fun h => absurd rfl h)))⟩⟩)⟩⟩
theorem law_home (hcs : mCs S 61 126 [.int (S.2 ((i + Int32.ofInt 1).toNatClampNeg))]) (hok : mOk I L b) (g1 : m_ok (i + Int32.ofInt 1) S.1 = true) (next : ∀ I2 L2 b2, mOk I2 L2 b2 → mWp S 146 774 [some (.ref 0), some (.ref 1), some (.ref 44), some (.int i)] [] (mSH, I2, L2, mRk b2) Q) : mWp S 146 454 [some (.ref 0), some (.ref 1), some (.ref 44), some (.int i)] [] (mSH, I, L, mRk b) Q := by
  obtain ⟨r, I1, L1, b1, I2, L2, f1, f2, ok2⟩ := hcs I L b hok
  obtain ⟨x, rfl⟩ : ∃ x, r = .int x := m_fn_int rfl f1
  exact mWp_blk [(454, .aload_n 1), (455, .aload_n 0), (456, .iload_n 3), (457, .iconst 1), (458, .iadd), (459, .iaload)] (by decide +kernel) ⟨g1, mWp_call (i := .invokevirtual 65) (by decide +kernel) ⟨rfl, rfl⟩ f1 (mWp_blk [(463, .aload_n 2), (464, .aload_n 0), (465, .iload_n 3), (466, .iconst 1), (467, .iadd), (468, .iaload)] (by decide +kernel) ⟨g1, mWp_call (i := .invokevirtual 68) (by decide +kernel) ⟨rfl, rfl⟩ f2 (mWp_blk [(472, .if_icmp .eq 302)] (by decide +kernel) (mWp_ite (fun _ => next I2 L2 b1 ok2) (fun h => absurd rfl h)))⟩)⟩
theorem law_ones (hcs : mCs S 64 128 []) (hok : mOk I L b)  (next : ∀ I2 L2 b2, mOk I2 L2 b2 → mWp S 146 774 [some (.ref 0), some (.ref 1), some (.ref 44), some (.int i)] [] (mSH, I2, L2, mRk b2) Q) : mWp S 146 477 [some (.ref 0), some (.ref 1), some (.ref 44), some (.int i)] [] (mSH, I, L, mRk b) Q := by
  obtain ⟨r, I1, L1, b1, I2, L2, f1, f2, ok2⟩ := hcs I L b hok
  obtain ⟨x, rfl⟩ : ∃ x, r = .int x := m_fn_int rfl f1
  exact mWp_blk [(477, .aload_n 1)] (by decide +kernel) (mWp_call (i := .invokevirtual 69) (by decide +kernel) ⟨rfl, rfl⟩ f1 (mWp_blk [(481, .aload_n 2)] (by decide +kernel) (mWp_call (i := .invokevirtual 72) (by decide +kernel) ⟨rfl, rfl⟩ f2 (mWp_blk [(485, .if_icmp .eq 289)] (by decide +kernel) (mWp_ite (fun _ => next I2 L2 b1 ok2) (fun h => absurd rfl h))))))
theorem law_odds (hcs : mCs S 65 130 [.int (S.2 ((i + Int32.ofInt 1).toNatClampNeg)), .int (S.2 ((i + Int32.ofInt 2).toNatClampNeg)), .int (S.2 ((i + Int32.ofInt 3).toNatClampNeg)), .int (S.2 ((i + Int32.ofInt 4).toNatClampNeg))]) (hok : mOk I L b) (g1 : m_ok (i + Int32.ofInt 1) S.1 = true) (g2 : m_ok (i + Int32.ofInt 2) S.1 = true) (g3 : m_ok (i + Int32.ofInt 3) S.1 = true) (g4 : m_ok (i + Int32.ofInt 4) S.1 = true) (next : ∀ I2 L2 b2, mOk I2 L2 b2 → mWp S 146 774 [some (.ref 0), some (.ref 1), some (.ref 44), some (.int i)] [] (mSH, I2, L2, mRk b2) Q) : mWp S 146 490 [some (.ref 0), some (.ref 1), some (.ref 44), some (.int i)] [] (mSH, I, L, mRk b) Q := by
  obtain ⟨r, I1, L1, b1, I2, L2, f1, f2, ok2⟩ := hcs I L b hok
  obtain ⟨x, rfl⟩ : ∃ x, r = .int x := m_fn_int rfl f1
  exact mWp_blk [(490, .aload_n 1), (491, .aload_n 0), (492, .iload_n 3), (493, .iconst 1), (494, .iadd), (495, .iaload), (496, .aload_n 0), (497, .iload_n 3), (498, .iconst 2), (499, .iadd), (500, .iaload), (501, .aload_n 0), (502, .iload_n 3), (503, .iconst 3), (504, .iadd), (505, .iaload), (506, .aload_n 0), (507, .iload_n 3), (508, .iconst 4), (509, .iadd), (510, .iaload)] (by decide +kernel) ⟨g1, ⟨g2, ⟨g3, ⟨g4, mWp_call (i := .invokevirtual 73) (by decide +kernel) ⟨rfl, rfl⟩ f1 (mWp_blk [(514, .aload_n 2), (515, .aload_n 0), (516, .iload_n 3), (517, .iconst 1), (518, .iadd), (519, .iaload), (520, .aload_n 0), (521, .iload_n 3), (522, .iconst 2), (523, .iadd), (524, .iaload), (525, .aload_n 0), (526, .iload_n 3), (527, .iconst 3), (528, .iadd), (529, .iaload), (530, .aload_n 0), (531, .iload_n 3), (532, .iconst 4), (533, .iadd), (534, .iaload)] (by decide +kernel) ⟨g1, ⟨g2, ⟨g3, ⟨g4, mWp_call (i := .invokevirtual 77) (by decide +kernel) ⟨rfl, rfl⟩ f2 (mWp_blk [(538, .if_icmp .eq 236)] (by decide +kernel) (mWp_ite (fun _ => next I2 L2 b1 ok2) (fun h => absurd rfl h)))⟩⟩⟩⟩)⟩⟩⟩⟩
theorem law_lay (hcs : mCs S 68 131 [.int (S.2 ((i + Int32.ofInt 1).toNatClampNeg)), .int (S.2 ((i + Int32.ofInt 2).toNatClampNeg))]) (hok : mOk I L b) (g1 : m_ok (i + Int32.ofInt 1) S.1 = true) (g2 : m_ok (i + Int32.ofInt 2) S.1 = true) (next : ∀ I2 L2 b2, mOk I2 L2 b2 → mWp S 146 774 [some (.ref 0), some (.ref 1), some (.ref 44), some (.int i)] [] (mSH, I2, L2, mRk b2) Q) : mWp S 146 543 [some (.ref 0), some (.ref 1), some (.ref 44), some (.int i)] [] (mSH, I, L, mRk b) Q := by
  obtain ⟨r, I1, L1, b1, I2, L2, f1, f2, ok2⟩ := hcs I L b hok
  obtain ⟨x, rfl⟩ : ∃ x, r = .int x := m_fn_int rfl f1
  exact mWp_blk [(543, .aload_n 1), (544, .aload_n 0), (545, .iload_n 3), (546, .iconst 1), (547, .iadd), (548, .iaload), (549, .aload_n 0), (550, .iload_n 3), (551, .iconst 2), (552, .iadd), (553, .iaload)] (by decide +kernel) ⟨g1, ⟨g2, mWp_call (i := .invokevirtual 78) (by decide +kernel) ⟨rfl, rfl⟩ f1 (mWp_blk [(557, .aload_n 2), (558, .aload_n 0), (559, .iload_n 3), (560, .iconst 1), (561, .iadd), (562, .iaload), (563, .aload_n 0), (564, .iload_n 3), (565, .iconst 2), (566, .iadd), (567, .iaload)] (by decide +kernel) ⟨g1, ⟨g2, mWp_call (i := .invokevirtual 81) (by decide +kernel) ⟨rfl, rfl⟩ f2 (mWp_blk [(571, .if_icmp .eq 203)] (by decide +kernel) (mWp_ite (fun _ => next I2 L2 b1 ok2) (fun h => absurd rfl h)))⟩⟩)⟩⟩
theorem law_forget (hcs : mCs S 69 132 []) (hok : mOk I L b)  (next : ∀ I2 L2 b2, mOk I2 L2 b2 → mWp S 146 774 [some (.ref 0), some (.ref 1), some (.ref 44), some (.int i)] [] (mSH, I2, L2, mRk b2) Q) : mWp S 146 576 [some (.ref 0), some (.ref 1), some (.ref 44), some (.int i)] [] (mSH, I, L, mRk b) Q := by
  obtain ⟨r, I1, L1, b1, I2, L2, f1, f2, ok2⟩ := hcs I L b hok
  obtain ⟨x, rfl⟩ : ∃ x, r = .int x := m_fn_int rfl f1
  exact mWp_blk [(576, .aload_n 1)] (by decide +kernel) (mWp_call (i := .invokevirtual 82) (by decide +kernel) ⟨rfl, rfl⟩ f1 (mWp_blk [(580, .aload_n 2)] (by decide +kernel) (mWp_call (i := .invokevirtual 85) (by decide +kernel) ⟨rfl, rfl⟩ f2 (mWp_blk [(584, .if_icmp .eq 190)] (by decide +kernel) (mWp_ite (fun _ => next I2 L2 b1 ok2) (fun h => absurd rfl h))))))
theorem law_which (hcs : mCs S 70 133 [.int (S.2 ((i + Int32.ofInt 1).toNatClampNeg))]) (hok : mOk I L b) (g1 : m_ok (i + Int32.ofInt 1) S.1 = true) (next : ∀ I2 L2 b2, mOk I2 L2 b2 → mWp S 146 774 [some (.ref 0), some (.ref 1), some (.ref 44), some (.int i)] [] (mSH, I2, L2, mRk b2) Q) : mWp S 146 589 [some (.ref 0), some (.ref 1), some (.ref 44), some (.int i)] [] (mSH, I, L, mRk b) Q := by
  obtain ⟨r, I1, L1, b1, I2, L2, f1, f2, ok2⟩ := hcs I L b hok
  obtain ⟨x, rfl⟩ : ∃ x, r = .int x := m_fn_int rfl f1
  exact mWp_blk [(589, .aload_n 1), (590, .aload_n 0), (591, .iload_n 3), (592, .iconst 1), (593, .iadd), (594, .iaload)] (by decide +kernel) ⟨g1, mWp_call (i := .invokevirtual 86) (by decide +kernel) ⟨rfl, rfl⟩ f1 (mWp_blk [(598, .aload_n 2), (599, .aload_n 0), (600, .iload_n 3), (601, .iconst 1), (602, .iadd), (603, .iaload)] (by decide +kernel) ⟨g1, mWp_call (i := .invokevirtual 89) (by decide +kernel) ⟨rfl, rfl⟩ f2 (mWp_blk [(607, .if_icmp .eq 167)] (by decide +kernel) (mWp_ite (fun _ => next I2 L2 b1 ok2) (fun h => absurd rfl h)))⟩)⟩
theorem law_best (hcs : mCs S 72 134 []) (hok : mOk I L b)  (next : ∀ I2 L2 b2, mOk I2 L2 b2 → mWp S 146 774 [some (.ref 0), some (.ref 1), some (.ref 44), some (.int i)] [] (mSH, I2, L2, mRk b2) Q) : mWp S 146 612 [some (.ref 0), some (.ref 1), some (.ref 44), some (.int i)] [] (mSH, I, L, mRk b) Q := by
  obtain ⟨r, I1, L1, b1, I2, L2, f1, f2, ok2⟩ := hcs I L b hok
  obtain ⟨x, rfl⟩ : ∃ x, r = .int x := m_fn_int rfl f1
  exact mWp_blk [(612, .aload_n 1)] (by decide +kernel) (mWp_call (i := .invokevirtual 90) (by decide +kernel) ⟨rfl, rfl⟩ f1 (mWp_blk [(616, .aload_n 2)] (by decide +kernel) (mWp_call (i := .invokevirtual 93) (by decide +kernel) ⟨rfl, rfl⟩ f2 (mWp_blk [(620, .if_icmp .eq 154)] (by decide +kernel) (mWp_ite (fun _ => next I2 L2 b1 ok2) (fun h => absurd rfl h))))))
theorem law_board (hcs : mCs S 74 136 [.int (S.2 ((i + Int32.ofInt 1).toNatClampNeg))]) (hok : mOk I L b) (g1 : m_ok (i + Int32.ofInt 1) S.1 = true) (next : ∀ I2 L2 b2, mOk I2 L2 b2 → mWp S 146 774 [some (.ref 0), some (.ref 1), some (.ref 44), some (.int i)] [] (mSH, I2, L2, mRk b2) Q) : mWp S 146 625 [some (.ref 0), some (.ref 1), some (.ref 44), some (.int i)] [] (mSH, I, L, mRk b) Q := by
  obtain ⟨r, I1, L1, b1, I2, L2, f1, f2, ok2⟩ := hcs I L b hok
  obtain ⟨x, rfl⟩ : ∃ x, r = .int x := m_fn_int rfl f1
  exact mWp_blk [(625, .aload_n 1), (626, .aload_n 0), (627, .iload_n 3), (628, .iconst 1), (629, .iadd), (630, .iaload)] (by decide +kernel) ⟨g1, mWp_call (i := .invokevirtual 94) (by decide +kernel) ⟨rfl, rfl⟩ f1 (mWp_blk [(634, .aload_n 2), (635, .aload_n 0), (636, .iload_n 3), (637, .iconst 1), (638, .iadd), (639, .iaload)] (by decide +kernel) ⟨g1, mWp_call (i := .invokevirtual 97) (by decide +kernel) ⟨rfl, rfl⟩ f2 (mWp_blk [(643, .if_icmp .eq 131)] (by decide +kernel) (mWp_ite (fun _ => next I2 L2 b1 ok2) (fun h => absurd rfl h)))⟩)⟩
theorem law_rate (hcs : mCs S 76 138 [.int (S.2 ((i + Int32.ofInt 1).toNatClampNeg)), .int (S.2 ((i + Int32.ofInt 2).toNatClampNeg)), .int (S.2 ((i + Int32.ofInt 3).toNatClampNeg))]) (hok : mOk I L b) (g1 : m_ok (i + Int32.ofInt 1) S.1 = true) (g2 : m_ok (i + Int32.ofInt 2) S.1 = true) (g3 : m_ok (i + Int32.ofInt 3) S.1 = true) (next : ∀ I2 L2 b2, mOk I2 L2 b2 → mWp S 146 774 [some (.ref 0), some (.ref 1), some (.ref 44), some (.int i)] [] (mSH, I2, L2, mRk b2) Q) : mWp S 146 648 [some (.ref 0), some (.ref 1), some (.ref 44), some (.int i)] [] (mSH, I, L, mRk b) Q := by
  obtain ⟨r, I1, L1, b1, I2, L2, f1, f2, ok2⟩ := hcs I L b hok
  obtain ⟨x, rfl⟩ : ∃ x, r = .int x := m_fn_int rfl f1
  exact mWp_blk [(648, .aload_n 1), (649, .aload_n 0), (650, .iload_n 3), (651, .iconst 1), (652, .iadd), (653, .iaload), (654, .aload_n 0), (655, .iload_n 3), (656, .iconst 2), (657, .iadd), (658, .iaload), (659, .aload_n 0), (660, .iload_n 3), (661, .iconst 3), (662, .iadd), (663, .iaload)] (by decide +kernel) ⟨g1, ⟨g2, ⟨g3, mWp_call (i := .invokevirtual 98) (by decide +kernel) ⟨rfl, rfl⟩ f1 (mWp_blk [(667, .aload_n 2), (668, .aload_n 0), (669, .iload_n 3), (670, .iconst 1), (671, .iadd), (672, .iaload), (673, .aload_n 0), (674, .iload_n 3), (675, .iconst 2), (676, .iadd), (677, .iaload), (678, .aload_n 0), (679, .iload_n 3), (680, .iconst 3), (681, .iadd), (682, .iaload)] (by decide +kernel) ⟨g1, ⟨g2, ⟨g3, mWp_call (i := .invokevirtual 101) (by decide +kernel) ⟨rfl, rfl⟩ f2 (mWp_blk [(686, .if_icmp .eq 88)] (by decide +kernel) (mWp_ite (fun _ => next I2 L2 b1 ok2) (fun h => absurd rfl h)))⟩⟩⟩)⟩⟩⟩
theorem law_keep (hcs : mCs S 83 139 [.int (S.2 ((i + Int32.ofInt 1).toNatClampNeg))]) (hok : mOk I L b) (g1 : m_ok (i + Int32.ofInt 1) S.1 = true) (next : ∀ I2 L2 b2, mOk I2 L2 b2 → mWp S 146 774 [some (.ref 0), some (.ref 1), some (.ref 44), some (.int i)] [] (mSH, I2, L2, mRk b2) Q) : mWp S 146 691 [some (.ref 0), some (.ref 1), some (.ref 44), some (.int i)] [] (mSH, I, L, mRk b) Q := by
  obtain ⟨r, I1, L1, b1, I2, L2, f1, f2, ok2⟩ := hcs I L b hok
  obtain ⟨x, rfl⟩ : ∃ x, r = .int x := m_fn_int rfl f1
  exact mWp_blk [(691, .aload_n 1), (692, .aload_n 0), (693, .iload_n 3), (694, .iconst 1), (695, .iadd), (696, .iaload)] (by decide +kernel) ⟨g1, mWp_call (i := .invokevirtual 102) (by decide +kernel) ⟨rfl, rfl⟩ f1 (mWp_blk [(700, .aload_n 2), (701, .aload_n 0), (702, .iload_n 3), (703, .iconst 1), (704, .iadd), (705, .iaload)] (by decide +kernel) ⟨g1, mWp_call (i := .invokevirtual 105) (by decide +kernel) ⟨rfl, rfl⟩ f2 (mWp_blk [(709, .if_icmp .eq 65)] (by decide +kernel) (mWp_ite (fun _ => next I2 L2 b1 ok2) (fun h => absurd rfl h)))⟩)⟩
theorem law_back (hcs : mCs S 84 140 [.int (S.2 ((i + Int32.ofInt 1).toNatClampNeg))]) (hok : mOk I L b) (g1 : m_ok (i + Int32.ofInt 1) S.1 = true) (next : ∀ I2 L2 b2, mOk I2 L2 b2 → mWp S 146 774 [some (.ref 0), some (.ref 1), some (.ref 44), some (.int i)] [] (mSH, I2, L2, mRk b2) Q) : mWp S 146 714 [some (.ref 0), some (.ref 1), some (.ref 44), some (.int i)] [] (mSH, I, L, mRk b) Q := by
  obtain ⟨r, I1, L1, b1, I2, L2, f1, f2, ok2⟩ := hcs I L b hok
  obtain ⟨x, rfl⟩ : ∃ x, r = .int x := m_fn_int rfl f1
  exact mWp_blk [(714, .aload_n 1), (715, .aload_n 0), (716, .iload_n 3), (717, .iconst 1), (718, .iadd), (719, .iaload)] (by decide +kernel) ⟨g1, mWp_call (i := .invokevirtual 106) (by decide +kernel) ⟨rfl, rfl⟩ f1 (mWp_blk [(723, .aload_n 2), (724, .aload_n 0), (725, .iload_n 3), (726, .iconst 1), (727, .iadd), (728, .iaload)] (by decide +kernel) ⟨g1, mWp_call (i := .invokevirtual 109) (by decide +kernel) ⟨rfl, rfl⟩ f2 (mWp_blk [(732, .if_icmp .eq 42)] (by decide +kernel) (mWp_ite (fun _ => next I2 L2 b1 ok2) (fun h => absurd rfl h)))⟩)⟩
theorem law_count (hcs : mCs S 85 141 [.int (S.2 ((i + Int32.ofInt 1).toNatClampNeg))]) (hok : mOk I L b) (g1 : m_ok (i + Int32.ofInt 1) S.1 = true) (next : ∀ I2 L2 b2, mOk I2 L2 b2 → mWp S 146 774 [some (.ref 0), some (.ref 1), some (.ref 44), some (.int i)] [] (mSH, I2, L2, mRk b2) Q) : mWp S 146 737 [some (.ref 0), some (.ref 1), some (.ref 44), some (.int i)] [] (mSH, I, L, mRk b) Q := by
  obtain ⟨r, I1, L1, b1, I2, L2, f1, f2, ok2⟩ := hcs I L b hok
  obtain ⟨x, rfl⟩ : ∃ x, r = .int x := m_fn_int rfl f1
  exact mWp_blk [(737, .aload_n 1), (738, .aload_n 0), (739, .iload_n 3), (740, .iconst 1), (741, .iadd), (742, .iaload)] (by decide +kernel) ⟨g1, mWp_call (i := .invokevirtual 110) (by decide +kernel) ⟨rfl, rfl⟩ f1 (mWp_blk [(746, .aload_n 2), (747, .aload_n 0), (748, .iload_n 3), (749, .iconst 1), (750, .iadd), (751, .iaload)] (by decide +kernel) ⟨g1, mWp_call (i := .invokevirtual 113) (by decide +kernel) ⟨rfl, rfl⟩ f2 (mWp_blk [(755, .if_icmp .eq 19)] (by decide +kernel) (mWp_ite (fun _ => next I2 L2 b1 ok2) (fun h => absurd rfl h)))⟩)⟩
theorem law_trace (hcs : mCs S 86 142 []) (hok : mOk I L b)  (next : ∀ I2 L2 b2, mOk I2 L2 b2 → mWp S 146 774 [some (.ref 0), some (.ref 1), some (.ref 44), some (.int i)] [] (mSH, I2, L2, mRk b2) Q) : mWp S 146 760 [some (.ref 0), some (.ref 1), some (.ref 44), some (.int i)] [] (mSH, I, L, mRk b) Q := by
  obtain ⟨r, I1, L1, b1, I2, L2, f1, f2, ok2⟩ := hcs I L b hok
  obtain ⟨x, rfl⟩ : ∃ x, r = .long x := m_fn_long rfl f1
  exact mWp_blk [(760, .aload_n 1)] (by decide +kernel) (mWp_call (i := .invokevirtual 114) (by decide +kernel) ⟨rfl, rfl⟩ f1 (mWp_blk [(764, .aload_n 2)] (by decide +kernel) (mWp_call (i := .invokevirtual 118) (by decide +kernel) ⟨rfl, rfl⟩ f2 (mWp_blk [(768, .lcmp), (769, .ifCond .eq 5)] (by decide +kernel) (mWp_ite (fun _ => next I2 L2 b1 ok2) (fun h => absurd ((m_lg_self x)) h))))))
end LAWC
