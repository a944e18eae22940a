/-! the constructors -/
def mHp (n : Nat) : List (Nat × Nat) := mSH.take n
/-- n cells of an array of whole numbers set to 0 -/
def mGz (I : mF) (a : Nat) : Nat → mF
  | 0 => I
  | n + 1 => m_up (mGz I a n) a n 0
section MAKE
variable {S : mS} {I : mF} {L : mFL} {R : Nat → Nat → Option Nat}
theorem N28 : mFn S 28 [.ref 2] (mHp 2, I, L, R) none (mHp 3, m_z I 3 0, m_z L 3 0, m_up (m_z R 3 none) 2 0 (some 3)) :=
  mFn_of (mWp_blk [(0, .aload_n 0), (1, .invokespecial 3), (4, .aload_n 0), (5, .sipush 150), (8, .newarray .char), (10, .putfield 9), (13, .return_)] (by decide +kernel) ⟨rfl, rfl⟩)
theorem N10 {n : Nat} (hn : n = 8 ∨ n = 20 ∨ n = 22 ∨ n = 24 ∨ n = 26 ∨ n = 28 ∨ n = 30 ∨ n = 32 ∨ n = 34 ∨ n = 36 ∨ n = 38 ∨ n = 40 ∨ n = 42) : mFn S 10 [.ref n] (mHp n, I, L, R) none (mHp (n + 1), m_z I (n + 1) 0, m_z L (n + 1) 0, m_up (m_z R (n + 1) none) n 5 (some (n + 1))) := by
  rcases hn with rfl | rfl | rfl | rfl | rfl | rfl | rfl | rfl | rfl | rfl | rfl | rfl | rfl <;>
    exact mFn_of (mWp_blk [(0, .aload_n 0), (1, .invokespecial 3), (4, .aload_n 0), (5, .iconst 4), (6, .newarray .int), (8, .putfield 9), (11, .return_)] (by decide +kernel) ⟨rfl, rfl⟩)
theorem N24 {n : Nat} (hn : n = 14 ∨ n = 19) : mFn S 24 [.ref n] (mHp n, I, L, R) none (mHp n, I, L, R) := by
  rcases hn with rfl | rfl <;>
    exact mFn_of (mWp_blk [(0, .aload_n 0), (1, .invokespecial 3), (4, .return_)] (by decide +kernel) ⟨rfl, rfl⟩)
/-- blank, as the heap is then -/
def mBk9 (I : mF) (a : Nat) : mF := m_up (m_up (m_up (m_up (m_up (m_up (m_up I a 0 0) a 1 0) a 2 3) a 3 0) a 4 2) a 5 (-9)) a 6 0
theorem N1_loop {c : Bool} {J : mF} {M : mFL} : ∀ (m k : Nat), k + m = 49 → mWp S 1 43 [some (.ref (mLa c)), some (.int (nI k))] [] (mHp (mLg c), mGz J (mLg c) k, M, m_up R (mLa c) 8 (some (mLg c))) (fun r1 w1 => r1 = none ∧ w1 = (mHp (mLg c), mGz J (mLg c) 49, M, m_up R (mLa c) 8 (some (mLg c)))) := by
  intro m
  induction m with
  | zero =>
    intro k hk
    have hk : k = 49 := by omega
    subst hk
    have fin : mWp S 1 62 [some (.ref (mLa c)), some (.int (nI 49))] [] (mHp (mLg c), mGz J (mLg c) 49, M, m_up R (mLa c) 8 (some (mLg c))) (fun r1 w1 => r1 = none ∧ w1 = (mHp (mLg c), mGz J (mLg c) 49, M, m_up R (mLa c) 8 (some (mLg c)))) := mWp_blk [(62, .return_)] (by decide +kernel) ⟨rfl, rfl⟩
    have no : ¬ (49 : Int32) ≤ nI 49 → mWp S 1 49 [some (.ref (mLa c)), some (.int (nI 49))] [] (mHp (mLg c), mGz J (mLg c) 49, M, m_up R (mLa c) 8 (some (mLg c))) (fun r1 w1 => r1 = none ∧ w1 = (mHp (mLg c), mGz J (mLg c) 49, M, m_up R (mLa c) 8 (some (mLg c)))) := fun h2 => absurd (by decide) h2
    exact mWp_blk [(43, .iload_n 1), (44, .bipush 49), (46, .if_icmp .ge 16)] (by decide +kernel) (mWp_ite (fun _ => fin) no)
  | succ m ih =>
    intro k hk
    have h := ih (k + 1) (by omega)
    have e1 : nI (k + 1) = nI k + 1 := by rw [nI_1]
    have e2 : (nI k).toNatClampNeg = k := nI_clamp (by omega)
    have e3 : mGz J (mLg c) (k + 1) = m_up (mGz J (mLg c) k) (mLg c) ((nI k).toNatClampNeg) 0 := by rw [e2]; rfl
    rw [e1, e3] at h
    have g0 : m_ok (nI k) 49 = true := m_okN (by omega) (by decide)
    have step : mWp S 1 49 [some (.ref (mLa c)), some (.int (nI k))] [] (mHp (mLg c), mGz J (mLg c) k, M, m_up R (mLa c) 8 (some (mLg c))) (fun r1 w1 => r1 = none ∧ w1 = (mHp (mLg c), mGz J (mLg c) 49, M, m_up R (mLa c) 8 (some (mLg c)))) := by
      cases c <;> exact mWp_blk [(49, .aload_n 0), (50, .getfield 9), (53, .iload_n 1), (54, .iconst 0), (55, .iastore), (56, .iinc 1 1), (59, .goto (Int.negSucc 15))] (by decide +kernel) (And.intro g0 h)
    refine mWp_blk [(43, .iload_n 1), (44, .bipush 49), (46, .if_icmp .ge 16)] (by decide +kernel) (mWp_ite (fun h2 => ?_) (fun _ => step))
    have h2 : nI 49 ≤ nI k := h2
    rw [nI_leI (by decide) (by omega)] at h2
    omega
theorem N1 {c : Bool} : mFn S 1 [.ref (mLa c)] (mHp (mLg c), I, L, m_up R (mLa c) 8 (some (mLg c))) none (mHp (mLg c), mGz (mBk9 I (mLa c)) (mLg c) 49, m_up L (mLa c) 7 0, m_up R (mLa c) 8 (some (mLg c))) := by
  have h := N1_loop (S := S) (R := R) (c := c) (J := mBk9 I (mLa c)) (M := m_up L (mLa c) 7 0) 49 0 (by omega)
  refine mFn_of ?_
  cases c <;> exact mWp_blk [(0, .aload_n 0), (1, .iconst 0), (2, .putfield 18), (5, .aload_n 0), (6, .iconst 0), (7, .putfield 22), (10, .aload_n 0), (11, .iconst 3), (12, .putfield 25), (15, .aload_n 0), (16, .iconst 0), (17, .putfield 28), (20, .aload_n 0), (21, .iconst 2), (22, .putfield 31), (25, .aload_n 0), (26, .bipush (Int.negSucc 8)), (28, .putfield 34), (31, .aload_n 0), (32, .iconst 0), (33, .putfield 37), (36, .aload_n 0), (37, .lconst 0), (38, .putfield 41), (41, .iconst 0), (42, .istore_n 1)] (by decide +kernel) (And.intro (by decide : m_bl 0 = true) h)
theorem N0 {c : Bool} : mFn S 0 [.ref (mLa c)] (mHp (mLa c), I, L, R) none (mHp (mLg c), mGz (mBk9 (m_z I (mLg c) 0) (mLa c)) (mLg c) 49, m_up (m_z L (mLg c) 0) (mLa c) 7 0, m_up (m_z R (mLg c) none) (mLa c) 8 (some (mLg c))) := by
  have f := N1 (S := S) (I := m_z I (mLg c) 0) (L := m_z L (mLg c) 0) (R := m_z R (mLg c) none) (c := c)
  refine mFn_of ?_
  cases c with
  | false => exact mWp_blk [(0, .aload_n 0), (1, .invokespecial 3), (4, .aload_n 0), (5, .bipush 49), (7, .newarray .int), (9, .putfield 9), (12, .aload_n 0)] (by decide +kernel) (mWp_call (i := .invokevirtual 15) (by decide +kernel) ⟨rfl, rfl⟩ f (mWp_blk [(16, .return_)] (by decide +kernel) ⟨rfl, rfl⟩))
  | true => exact mWp_blk [(0, .aload_n 0), (1, .invokespecial 3), (4, .aload_n 0), (5, .bipush 49), (7, .newarray .int), (9, .putfield 9), (12, .aload_n 0)] (by decide +kernel) (mWp_call (i := .invokevirtual 15) (by decide +kernel) ⟨rfl, rfl⟩ f (mWp_blk [(16, .return_)] (by decide +kernel) ⟨rfl, rfl⟩))
theorem N17 : mFn S 17 [.ref 15] (mHp 15, I, L, R) none (mHp 19, m_z (m_z (m_z (m_z I 16 0) 17 0) 18 0) 19 0, m_z (m_z (m_z (m_z L 16 0) 17 0) 18 0) 19 0, m_up (m_z (m_up (m_z (m_up (m_z (m_up (m_z R 16 none) 15 0 (some 16)) 17 none) 15 1 (some 17)) 18 none) 15 2 (some 18)) 19 none) 15 3 (some 19)) :=
  mFn_of (mWp_blk [(0, .aload_n 0), (1, .invokespecial 3), (4, .aload_n 0), (5, .bipush 49), (7, .newarray .long), (9, .putfield 9), (12, .aload_n 0), (13, .bipush 49), (15, .newarray .long), (17, .putfield 15), (20, .aload_n 0), (21, .bipush 49), (23, .newarray .int), (25, .putfield 18), (28, .aload_n 0), (29, .new 22), (32, .dup)] (by decide +kernel) (mWp_call (i := .invokespecial 24) (by decide +kernel) ⟨rfl, rfl⟩ (N24 (n := 19) (by decide)) (mWp_blk [(36, .putfield 25), (39, .return_)] (by decide +kernel) ⟨rfl, rfl⟩)))
end MAKE
