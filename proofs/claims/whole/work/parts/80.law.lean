/-! the law: all calls of a script -/
theorem m_tsw_all {pc : Nat} {x : Int32} {d : Int} {P : Nat → Prop} : ∀ (os : List Int) (lo : Int), (∀ o ∈ os, P (((pc : Int) + o).toNat)) → P (((pc : Int) + d).toNat) → P (m_tsw pc x d lo os)
  | [], lo, _, hd => hd
  | o :: os, lo, h, hd => by
    unfold m_tsw
    split
    · exact h o List.mem_cons_self
    · exact m_tsw_all os (lo + 1) (fun o2 h2 => h o2 (List.mem_cons_of_mem _ h2)) hd
section LAWALL
variable {S : mS}
def mLq (r : Option Value) (w : mW) : Prop := r = some (.int 1) ∧ w.1 = mSH
theorem law_all (hN : S.1 ≤ 320) : ∀ (m q : Nat) (I : mF) (L : mFL) (b : Bool), mOk I L b → S.1 < 5 * q + 5 + 5 * m → q ≤ 64 → mWp S 146 18 [some (.ref 0), some (.ref 1), some (.ref 44), some (.int (nI (5 * q)))] [] (mSH, I, L, mRk b) mLq := by
  intro m
  induction m with
  | zero =>
    intro q I L b hok hm hq
    have fin : mWp S 146 780 [some (.ref 0), some (.ref 1), some (.ref 44), some (.int (nI (5 * q)))] [] (mSH, I, L, mRk b) mLq := mWp_blk [(780, .iconst 1), (781, .ireturn)] (by decide +kernel) ⟨rfl, rfl, rfl⟩
    have e : (nI S.1 - nI 5 < nI (5 * q)) ↔ S.1 < 5 * q + 5 := by
      rw [Int32.lt_iff_toInt_lt, pk_sub_toInt (by omega) (by decide), nI_toInt (by omega)]
      omega
    refine mWp_blk [(18, .iload_n 3), (19, .aload_n 0), (20, .arraylength), (21, .iconst 5), (22, .isub), (23, .if_icmp .gt 757)] (by decide +kernel) (mWp_ite (fun _ => fin) (fun h => ?_))
    exact absurd (e.mpr (by omega)) h
  | succ m ih =>
    intro q I L b hok hm hq
    have fin : mWp S 146 780 [some (.ref 0), some (.ref 1), some (.ref 44), some (.int (nI (5 * q)))] [] (mSH, I, L, mRk b) mLq := mWp_blk [(780, .iconst 1), (781, .ireturn)] (by decide +kernel) ⟨rfl, rfl, rfl⟩
    have e : (nI S.1 - nI 5 < nI (5 * q)) ↔ S.1 < 5 * q + 5 := by
      rw [Int32.lt_iff_toInt_lt, pk_sub_toInt (by omega) (by decide), nI_toInt (by omega)]
      omega
    have go : ¬ S.1 < 5 * q + 5 → mWp S 146 26 [some (.ref 0), some (.ref 1), some (.ref 44), some (.int (nI (5 * q)))] [] (mSH, I, L, mRk b) mLq := by
      intro hq5
      have g : ∀ j : Nat, j < 5 → m_ok (nI (5 * q) + Int32.ofInt j) S.1 = true := by
        intro j hj
        have e1 : nI (5 * q) + Int32.ofInt j = nI (5 * q + j) := nI_add (5 * q) j
        rw [e1]
        exact m_okN (by omega) (by omega)
      have g0 : m_ok (nI (5 * q)) S.1 = true := m_okN (by omega) (by omega)
      have next : ∀ I2 L2 b2, mOk I2 L2 b2 → mWp S 146 774 [some (.ref 0), some (.ref 1), some (.ref 44), some (.int (nI (5 * q)))] [] (mSH, I2, L2, mRk b2) mLq := by
        intro I2 L2 b2 hok2
        have h := ih (q + 1) I2 L2 b2 hok2 (by omega) (by omega)
        have e2 : nI (5 * (q + 1)) = nI (5 * q) + Int32.ofInt 5 := (nI_add (5 * q) 5).symm
        rw [e2] at h
        exact mWp_blk [(774, .iinc 3 5), (777, .goto (Int.negSucc 758))] (by decide +kernel) h
      have all : ∀ x : Int32, mWp S 146 (m_tsw 32 x 742 0 [116, 139, 152, 165, 198, 221, 244, 277, 300, 343, 356, 389, 422, 445, 458, 511, 544, 557, 580, 593, 616, 659, 682, 705, 728]) [some (.ref 0), some (.ref 1), some (.ref 44), some (.int (nI (5 * q)))] [] (mSH, I, L, mRk b) mLq := by
        intro x
        refine m_tsw_all (P := fun t => mWp S 146 t [some (.ref 0), some (.ref 1), some (.ref 44), some (.int (nI (5 * q)))] [] (mSH, I, L, mRk b) mLq) [116, 139, 152, 165, 198, 221, 244, 277, 300, 343, 356, 389, 422, 445, 458, 511, 544, 557, 580, 593, 616, 659, 682, 705, 728] 0 ?_ (next I L b hok)
        exact List.forall_mem_cons.mpr ⟨law_type (Cs_type _) hok (g 1 (by decide)) next, List.forall_mem_cons.mpr ⟨law_clear (Cs_clear) hok  next, List.forall_mem_cons.mpr ⟨law_lawn (Cs_lawn) hok  next, List.forall_mem_cons.mpr ⟨law_cell (Cs_cell _ _) hok (g 1 (by decide)) (g 2 (by decide)) next, List.forall_mem_cons.mpr ⟨law_score (Cs_score _) hok (g 1 (by decide)) next, List.forall_mem_cons.mpr ⟨law_now (Cs_now _) hok (g 1 (by decide)) next, List.forall_mem_cons.mpr ⟨law_strikes (Cs_strikes _ _) hok (g 1 (by decide)) (g 2 (by decide)) next, List.forall_mem_cons.mpr ⟨law_waits (Cs_waits _) hok (g 1 (by decide)) next, List.forall_mem_cons.mpr ⟨law_boards (Cs_boards _ _ _) hok (g 1 (by decide)) (g 2 (by decide)) (g 3 (by decide)) next, List.forall_mem_cons.mpr ⟨law_undo (Cs_undo) hok  next, List.forall_mem_cons.mpr ⟨law_would (Cs_would _ _) hok (g 1 (by decide)) (g 2 (by decide)) next, List.forall_mem_cons.mpr ⟨law_when (Cs_when _ _) hok (g 1 (by decide)) (g 2 (by decide)) next, List.forall_mem_cons.mpr ⟨law_home (Cs_home _) hok (g 1 (by decide)) next, List.forall_mem_cons.mpr ⟨law_ones (Cs_ones) hok  next, List.forall_mem_cons.mpr ⟨law_odds (Cs_odds _ _ _ _) hok (g 1 (by decide)) (g 2 (by decide)) (g 3 (by decide)) (g 4 (by decide)) next, List.forall_mem_cons.mpr ⟨law_lay (Cs_lay _ _) hok (g 1 (by decide)) (g 2 (by decide)) next, List.forall_mem_cons.mpr ⟨law_forget (Cs_forget) hok  next, List.forall_mem_cons.mpr ⟨law_which (Cs_which _) hok (g 1 (by decide)) next, List.forall_mem_cons.mpr ⟨law_best (Cs_best) hok  next, List.forall_mem_cons.mpr ⟨law_board (Cs_board _) hok (g 1 (by decide)) next, List.forall_mem_cons.mpr ⟨law_rate (Cs_rate _ _ _) hok (g 1 (by decide)) (g 2 (by decide)) (g 3 (by decide)) next, List.forall_mem_cons.mpr ⟨law_keep (Cs_keep _) hok (g 1 (by decide)) next, List.forall_mem_cons.mpr ⟨law_back (Cs_back _) hok (g 1 (by decide)) next, List.forall_mem_cons.mpr ⟨law_count (Cs_count _) hok (g 1 (by decide)) next, List.forall_mem_cons.mpr ⟨law_trace (Cs_trace) hok  next, List.forall_mem_nil _⟩⟩⟩⟩⟩⟩⟩⟩⟩⟩⟩⟩⟩⟩⟩⟩⟩⟩⟩⟩⟩⟩⟩⟩⟩
      exact mWp_blk [(26, .aload_n 0), (27, .iload_n 3), (28, .iaload), (29, .bipush 31), (31, .iand), (32, .tableswitch 742 0 24 #[116, 139, 152, 165, 198, 221, 244, 277, 300, 343, 356, 389, 422, 445, 458, 511, 544, 557, 580, 593, 616, 659, 682, 705, 728])] (by decide +kernel) ⟨g0, all _⟩
    refine mWp_blk [(18, .iload_n 3), (19, .aload_n 0), (20, .arraylength), (21, .iconst 5), (22, .isub), (23, .if_icmp .gt 757)] (by decide +kernel) (mWp_ite (fun _ => fin) (fun h => go (fun z => h (e.mpr z))))
theorem law_start (hN : S.1 ≤ 320) : mWp S 146 0 (m_ent 146 [.ref 0]) [] ([], fun _ _ => 0, fun _ _ => 0, fun _ _ => none) mLq := by
  have h := law_all (S := S) hN 64 0 mIs61 mLs61 false mOk_0 (by omega) (by decide)
  rw [← mRs_end, ← mHp_53] at h
  exact mWp_blk [(0, .new 7), (3, .dup)] (by decide +kernel) (mWp_call (i := .invokespecial 9) (by decide +kernel) ⟨rfl, rfl⟩ N41 (mWp_blk [(7, .astore_n 1), (8, .new 10), (11, .dup)] (by decide +kernel) (mWp_call (i := .invokespecial 12) (by decide +kernel) ⟨rfl, rfl⟩ N87 (mWp_blk [(15, .astore_n 2), (16, .iconst 0), (17, .istore_n 3)] (by decide +kernel) h))))
end LAWALL
