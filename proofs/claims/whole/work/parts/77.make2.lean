/-! the class is made -/
def mIs0 : mF := m_z (fun _ _ => 0) 1 0
def mLs0 : mFL := m_z (fun _ _ => 0) 1 0
def mRs0 : Nat → Nat → Option Nat := m_z (fun _ _ => none) 1 none
def mIs1 : mF := m_z (mIs0) 2 0
def mLs1 : mFL := m_z (mLs0) 2 0
def mRs1 : Nat → Nat → Option Nat := m_z (mRs0) 2 none
theorem T41_0 {S : mS} {Q : Option Value → mW → Prop} (h : mWp S 41 9 [some (.ref 1), none] [.ref 2, .ref 2, .ref 1] (mHp 2, mIs1, mLs1, mRs1) Q) : mWp S 41 0 [some (.ref 1), none] [] (mHp 1, mIs0, mLs0, mRs0) Q := mWp_blk [(0, .aload_n 0), (1, .invokespecial 3), (4, .aload_n 0), (5, .new 9), (8, .dup)] (by decide +kernel) h
def mIs2 : mF := m_z (mIs1) 3 0
def mLs2 : mFL := m_z (mLs1) 3 0
def mRs2 : Nat → Nat → Option Nat := m_up (m_z (mRs1) 3 none) 2 0 (some 3)
theorem T41_9 {S : mS} {Q : Option Value → mW → Prop} (h : mWp S 41 12 [some (.ref 1), none] [.ref 2, .ref 1] (mHp 3, mIs2, mLs2, mRs2) Q) : mWp S 41 9 [some (.ref 1), none] [.ref 2, .ref 2, .ref 1] (mHp 2, mIs1, mLs1, mRs1) Q := mWp_call (i := .invokespecial 11) (by decide +kernel) ⟨rfl, rfl⟩ N28 h
def mIs3 : mF := m_z (mIs2) 4 0
def mLs3 : mFL := m_z (mLs2) 4 0
def mRs3 : Nat → Nat → Option Nat := m_z (m_up (mRs2) 1 0 (some 2)) 4 none
theorem T41_12 {S : mS} {Q : Option Value → mW → Prop} (h : mWp S 41 20 [some (.ref 1), none] [.ref 4, .ref 4, .ref 1] (mHp 4, mIs3, mLs3, mRs3) Q) : mWp S 41 12 [some (.ref 1), none] [.ref 2, .ref 1] (mHp 3, mIs2, mLs2, mRs2) Q := mWp_blk [(12, .putfield 12), (15, .aload_n 0), (16, .new 16), (19, .dup)] (by decide +kernel) h
def mIs4 : mF := mGz (mBk9 (m_z (mIs3) 5 0) 4) 5 49
def mLs4 : mFL := m_up (m_z (mLs3) 5 0) 4 7 0
def mRs4 : Nat → Nat → Option Nat := m_up (m_z (mRs3) 5 none) 4 8 (some 5)
theorem T41_20 {S : mS} {Q : Option Value → mW → Prop} (h : mWp S 41 23 [some (.ref 1), none] [.ref 4, .ref 1] (mHp 5, mIs4, mLs4, mRs4) Q) : mWp S 41 20 [some (.ref 1), none] [.ref 4, .ref 4, .ref 1] (mHp 4, mIs3, mLs3, mRs3) Q := mWp_call (i := .invokespecial 18) (by decide +kernel) ⟨rfl, rfl⟩ (N0 (c := false)) h
def mIs5 : mF := m_z (mIs4) 6 0
def mLs5 : mFL := m_z (mLs4) 6 0
def mRs5 : Nat → Nat → Option Nat := m_z (m_up (mRs4) 1 1 (some 4)) 6 none
theorem T41_23 {S : mS} {Q : Option Value → mW → Prop} (h : mWp S 41 31 [some (.ref 1), none] [.ref 6, .ref 6, .ref 1] (mHp 6, mIs5, mLs5, mRs5) Q) : mWp S 41 23 [some (.ref 1), none] [.ref 4, .ref 1] (mHp 5, mIs4, mLs4, mRs4) Q := mWp_blk [(23, .putfield 19), (26, .aload_n 0), (27, .new 16), (30, .dup)] (by decide +kernel) h
def mIs6 : mF := mGz (mBk9 (m_z (mIs5) 7 0) 6) 7 49
def mLs6 : mFL := m_up (m_z (mLs5) 7 0) 6 7 0
def mRs6 : Nat → Nat → Option Nat := m_up (m_z (mRs5) 7 none) 6 8 (some 7)
theorem T41_31 {S : mS} {Q : Option Value → mW → Prop} (h : mWp S 41 34 [some (.ref 1), none] [.ref 6, .ref 1] (mHp 7, mIs6, mLs6, mRs6) Q) : mWp S 41 31 [some (.ref 1), none] [.ref 6, .ref 6, .ref 1] (mHp 6, mIs5, mLs5, mRs5) Q := mWp_call (i := .invokespecial 18) (by decide +kernel) ⟨rfl, rfl⟩ (N0 (c := true)) h
def mIs7 : mF := m_z (mIs6) 8 0
def mLs7 : mFL := m_z (mLs6) 8 0
def mRs7 : Nat → Nat → Option Nat := m_z (m_up (mRs6) 1 2 (some 6)) 8 none
theorem T41_34 {S : mS} {Q : Option Value → mW → Prop} (h : mWp S 41 42 [some (.ref 1), none] [.ref 8, .ref 8, .ref 1] (mHp 8, mIs7, mLs7, mRs7) Q) : mWp S 41 34 [some (.ref 1), none] [.ref 6, .ref 1] (mHp 7, mIs6, mLs6, mRs6) Q := mWp_blk [(34, .putfield 23), (37, .aload_n 0), (38, .new 26), (41, .dup)] (by decide +kernel) h
def mIs8 : mF := m_z (mIs7) 9 0
def mLs8 : mFL := m_z (mLs7) 9 0
def mRs8 : Nat → Nat → Option Nat := m_up (m_z (mRs7) 9 none) 8 5 (some 9)
theorem T41_42 {S : mS} {Q : Option Value → mW → Prop} (h : mWp S 41 45 [some (.ref 1), none] [.ref 8, .ref 1] (mHp 9, mIs8, mLs8, mRs8) Q) : mWp S 41 42 [some (.ref 1), none] [.ref 8, .ref 8, .ref 1] (mHp 8, mIs7, mLs7, mRs7) Q := mWp_call (i := .invokespecial 28) (by decide +kernel) ⟨rfl, rfl⟩ (N10 (n := 8) (by decide)) h
def mIs9 : mF := m_z (m_z (m_z (m_z (m_z (mIs8) 10 0) 11 0) 12 0) 13 0) 14 0
def mLs9 : mFL := m_z (m_z (m_z (m_z (m_z (mLs8) 10 0) 11 0) 12 0) 13 0) 14 0
def mRs9 : Nat → Nat → Option Nat := m_z (m_up (m_z (m_up (m_z (m_up (m_z (m_up (m_z (m_up (mRs8) 1 3 (some 8)) 10 none) 1 4 (some 10)) 11 none) 1 7 (some 11)) 12 none) 1 8 (some 12)) 13 none) 1 9 (some 13)) 14 none
theorem T41_45 {S : mS} {Q : Option Value → mW → Prop} (h : mWp S 41 84 [some (.ref 1), none] [.ref 14, .ref 14, .ref 1] (mHp 14, mIs9, mLs9, mRs9) Q) : mWp S 41 45 [some (.ref 1), none] [.ref 8, .ref 1] (mHp 9, mIs8, mLs8, mRs8) Q := mWp_blk [(45, .putfield 29), (48, .aload_n 0), (49, .bipush 10), (51, .anewarray 26), (54, .putfield 33), (57, .aload_n 0), (58, .iconst 2), (59, .anewarray 26), (62, .putfield 37), (65, .aload_n 0), (66, .iconst 2), (67, .newarray .boolean), (69, .putfield 40), (72, .aload_n 0), (73, .iconst 5), (74, .newarray .int), (76, .putfield 44), (79, .aload_n 0), (80, .new 48), (83, .dup)] (by decide +kernel) h
theorem T41_84 {S : mS} {Q : Option Value → mW → Prop} (h : mWp S 41 87 [some (.ref 1), none] [.ref 14, .ref 1] (mHp 14, mIs9, mLs9, mRs9) Q) : mWp S 41 84 [some (.ref 1), none] [.ref 14, .ref 14, .ref 1] (mHp 14, mIs9, mLs9, mRs9) Q := mWp_call (i := .invokespecial 50) (by decide +kernel) ⟨rfl, rfl⟩ (N24 (n := 14) (by decide)) h
def mIs10 : mF := m_z (mIs9) 15 0
def mLs10 : mFL := m_z (mLs9) 15 0
def mRs10 : Nat → Nat → Option Nat := m_z (m_up (mRs9) 1 11 (some 14)) 15 none
theorem T41_87 {S : mS} {Q : Option Value → mW → Prop} (h : mWp S 41 95 [some (.ref 1), none] [.ref 15, .ref 15, .ref 1] (mHp 15, mIs10, mLs10, mRs10) Q) : mWp S 41 87 [some (.ref 1), none] [.ref 14, .ref 1] (mHp 14, mIs9, mLs9, mRs9) Q := mWp_blk [(87, .putfield 51), (90, .aload_n 0), (91, .new 55), (94, .dup)] (by decide +kernel) h
def mIs11 : mF := m_z (m_z (m_z (m_z (mIs10) 16 0) 17 0) 18 0) 19 0
def mLs11 : mFL := m_z (m_z (m_z (m_z (mLs10) 16 0) 17 0) 18 0) 19 0
def mRs11 : Nat → Nat → Option Nat := m_up (m_z (m_up (m_z (m_up (m_z (m_up (m_z (mRs10) 16 none) 15 0 (some 16)) 17 none) 15 1 (some 17)) 18 none) 15 2 (some 18)) 19 none) 15 3 (some 19)
theorem T41_95 {S : mS} {Q : Option Value → mW → Prop} (h : mWp S 41 98 [some (.ref 1), none] [.ref 15, .ref 1] (mHp 19, mIs11, mLs11, mRs11) Q) : mWp S 41 95 [some (.ref 1), none] [.ref 15, .ref 15, .ref 1] (mHp 15, mIs10, mLs10, mRs10) Q := mWp_call (i := .invokespecial 57) (by decide +kernel) ⟨rfl, rfl⟩ N17 h
def mIs12 : mF := mIs11
def mLs12 : mFL := mLs11
def mRs12 : Nat → Nat → Option Nat := m_up (mRs11) 1 12 (some 15)
theorem T41_98 {S : mS} {Q : Option Value → mW → Prop} (h : mWp S 41 103 [some (.ref 1), some (.int (nI 0))] [] (mHp 19, mIs12, mLs12, mRs12) Q) : mWp S 41 98 [some (.ref 1), none] [.ref 15, .ref 1] (mHp 19, mIs11, mLs11, mRs11) Q := mWp_blk [(98, .putfield 58), (101, .iconst 0), (102, .istore_n 1)] (by decide +kernel) h
theorem T41_103p0 {S : mS} {Q : Option Value → mW → Prop} (h : mWp S 41 109 [some (.ref 1), some (.int (nI 0))] [] (mHp 19, mIs12, mLs12, mRs12) Q) : mWp S 41 103 [some (.ref 1), some (.int (nI 0))] [] (mHp 19, mIs12, mLs12, mRs12) Q := mWp_blk [(103, .iload_n 1), (104, .bipush 10), (106, .if_icmp .ge 22)] (by decide +kernel) h
def mIs13 : mF := m_z (mIs12) 20 0
def mLs13 : mFL := m_z (mLs12) 20 0
def mRs13 : Nat → Nat → Option Nat := m_z (mRs12) 20 none
theorem T41_109p0 {S : mS} {Q : Option Value → mW → Prop} (h : mWp S 41 118 [some (.ref 1), some (.int (nI 0))] [.ref 20, .ref 20, .int (nI 0), .ref 10] (mHp 20, mIs13, mLs13, mRs13) Q) : mWp S 41 109 [some (.ref 1), some (.int (nI 0))] [] (mHp 19, mIs12, mLs12, mRs12) Q := mWp_blk [(109, .aload_n 0), (110, .getfield 33), (113, .iload_n 1), (114, .new 26), (117, .dup)] (by decide +kernel) h
def mIs14 : mF := m_z (mIs13) 21 0
def mLs14 : mFL := m_z (mLs13) 21 0
def mRs14 : Nat → Nat → Option Nat := m_up (m_z (mRs13) 21 none) 20 5 (some 21)
theorem T41_118p0 {S : mS} {Q : Option Value → mW → Prop} (h : mWp S 41 121 [some (.ref 1), some (.int (nI 0))] [.ref 20, .int (nI 0), .ref 10] (mHp 21, mIs14, mLs14, mRs14) Q) : mWp S 41 118 [some (.ref 1), some (.int (nI 0))] [.ref 20, .ref 20, .int (nI 0), .ref 10] (mHp 20, mIs13, mLs13, mRs13) Q := mWp_call (i := .invokespecial 28) (by decide +kernel) ⟨rfl, rfl⟩ (N10 (n := 20) (by decide)) h
def mIs15 : mF := mIs14
def mLs15 : mFL := mLs14
def mRs15 : Nat → Nat → Option Nat := m_up (mRs14) 10 0 (some 20)
theorem T41_121p0 {S : mS} {Q : Option Value → mW → Prop} (h : mWp S 41 103 [some (.ref 1), some (.int (nI 1))] [] (mHp 21, mIs15, mLs15, mRs15) Q) : mWp S 41 121 [some (.ref 1), some (.int (nI 0))] [.ref 20, .int (nI 0), .ref 10] (mHp 21, mIs14, mLs14, mRs14) Q := mWp_blk [(121, .aastore), (122, .iinc 1 1), (125, .goto (Int.negSucc 21))] (by decide +kernel) (And.intro (by decide) h)
theorem T41_103p1 {S : mS} {Q : Option Value → mW → Prop} (h : mWp S 41 109 [some (.ref 1), some (.int (nI 1))] [] (mHp 21, mIs15, mLs15, mRs15) Q) : mWp S 41 103 [some (.ref 1), some (.int (nI 1))] [] (mHp 21, mIs15, mLs15, mRs15) Q := mWp_blk [(103, .iload_n 1), (104, .bipush 10), (106, .if_icmp .ge 22)] (by decide +kernel) h
def mIs16 : mF := m_z (mIs15) 22 0
def mLs16 : mFL := m_z (mLs15) 22 0
def mRs16 : Nat → Nat → Option Nat := m_z (mRs15) 22 none
theorem T41_109p1 {S : mS} {Q : Option Value → mW → Prop} (h : mWp S 41 118 [some (.ref 1), some (.int (nI 1))] [.ref 22, .ref 22, .int (nI 1), .ref 10] (mHp 22, mIs16, mLs16, mRs16) Q) : mWp S 41 109 [some (.ref 1), some (.int (nI 1))] [] (mHp 21, mIs15, mLs15, mRs15) Q := mWp_blk [(109, .aload_n 0), (110, .getfield 33), (113, .iload_n 1), (114, .new 26), (117, .dup)] (by decide +kernel) h
def mIs17 : mF := m_z (mIs16) 23 0
def mLs17 : mFL := m_z (mLs16) 23 0
def mRs17 : Nat → Nat → Option Nat := m_up (m_z (mRs16) 23 none) 22 5 (some 23)
theorem T41_118p1 {S : mS} {Q : Option Value → mW → Prop} (h : mWp S 41 121 [some (.ref 1), some (.int (nI 1))] [.ref 22, .int (nI 1), .ref 10] (mHp 23, mIs17, mLs17, mRs17) Q) : mWp S 41 118 [some (.ref 1), some (.int (nI 1))] [.ref 22, .ref 22, .int (nI 1), .ref 10] (mHp 22, mIs16, mLs16, mRs16) Q := mWp_call (i := .invokespecial 28) (by decide +kernel) ⟨rfl, rfl⟩ (N10 (n := 22) (by decide)) h
def mIs18 : mF := mIs17
def mLs18 : mFL := mLs17
def mRs18 : Nat → Nat → Option Nat := m_up (mRs17) 10 1 (some 22)
theorem T41_121p1 {S : mS} {Q : Option Value → mW → Prop} (h : mWp S 41 103 [some (.ref 1), some (.int (nI 2))] [] (mHp 23, mIs18, mLs18, mRs18) Q) : mWp S 41 121 [some (.ref 1), some (.int (nI 1))] [.ref 22, .int (nI 1), .ref 10] (mHp 23, mIs17, mLs17, mRs17) Q := mWp_blk [(121, .aastore), (122, .iinc 1 1), (125, .goto (Int.negSucc 21))] (by decide +kernel) (And.intro (by decide) h)
theorem T41_103p2 {S : mS} {Q : Option Value → mW → Prop} (h : mWp S 41 109 [some (.ref 1), some (.int (nI 2))] [] (mHp 23, mIs18, mLs18, mRs18) Q) : mWp S 41 103 [some (.ref 1), some (.int (nI 2))] [] (mHp 23, mIs18, mLs18, mRs18) Q := mWp_blk [(103, .iload_n 1), (104, .bipush 10), (106, .if_icmp .ge 22)] (by decide +kernel) h
def mIs19 : mF := m_z (mIs18) 24 0
def mLs19 : mFL := m_z (mLs18) 24 0
def mRs19 : Nat → Nat → Option Nat := m_z (mRs18) 24 none
theorem T41_109p2 {S : mS} {Q : Option Value → mW → Prop} (h : mWp S 41 118 [some (.ref 1), some (.int (nI 2))] [.ref 24, .ref 24, .int (nI 2), .ref 10] (mHp 24, mIs19, mLs19, mRs19) Q) : mWp S 41 109 [some (.ref 1), some (.int (nI 2))] [] (mHp 23, mIs18, mLs18, mRs18) Q := mWp_blk [(109, .aload_n 0), (110, .getfield 33), (113, .iload_n 1), (114, .new 26), (117, .dup)] (by decide +kernel) h
def mIs20 : mF := m_z (mIs19) 25 0
def mLs20 : mFL := m_z (mLs19) 25 0
def mRs20 : Nat → Nat → Option Nat := m_up (m_z (mRs19) 25 none) 24 5 (some 25)
theorem T41_118p2 {S : mS} {Q : Option Value → mW → Prop} (h : mWp S 41 121 [some (.ref 1), some (.int (nI 2))] [.ref 24, .int (nI 2), .ref 10] (mHp 25, mIs20, mLs20, mRs20) Q) : mWp S 41 118 [some (.ref 1), some (.int (nI 2))] [.ref 24, .ref 24, .int (nI 2), .ref 10] (mHp 24, mIs19, mLs19, mRs19) Q := mWp_call (i := .invokespecial 28) (by decide +kernel) ⟨rfl, rfl⟩ (N10 (n := 24) (by decide)) h
def mIs21 : mF := mIs20
def mLs21 : mFL := mLs20
def mRs21 : Nat → Nat → Option Nat := m_up (mRs20) 10 2 (some 24)
theorem T41_121p2 {S : mS} {Q : Option Value → mW → Prop} (h : mWp S 41 103 [some (.ref 1), some (.int (nI 3))] [] (mHp 25, mIs21, mLs21, mRs21) Q) : mWp S 41 121 [some (.ref 1), some (.int (nI 2))] [.ref 24, .int (nI 2), .ref 10] (mHp 25, mIs20, mLs20, mRs20) Q := mWp_blk [(121, .aastore), (122, .iinc 1 1), (125, .goto (Int.negSucc 21))] (by decide +kernel) (And.intro (by decide) h)
theorem T41_103p3 {S : mS} {Q : Option Value → mW → Prop} (h : mWp S 41 109 [some (.ref 1), some (.int (nI 3))] [] (mHp 25, mIs21, mLs21, mRs21) Q) : mWp S 41 103 [some (.ref 1), some (.int (nI 3))] [] (mHp 25, mIs21, mLs21, mRs21) Q := mWp_blk [(103, .iload_n 1), (104, .bipush 10), (106, .if_icmp .ge 22)] (by decide +kernel) h
def mIs22 : mF := m_z (mIs21) 26 0
def mLs22 : mFL := m_z (mLs21) 26 0
def mRs22 : Nat → Nat → Option Nat := m_z (mRs21) 26 none
theorem T41_109p3 {S : mS} {Q : Option Value → mW → Prop} (h : mWp S 41 118 [some (.ref 1), some (.int (nI 3))] [.ref 26, .ref 26, .int (nI 3), .ref 10] (mHp 26, mIs22, mLs22, mRs22) Q) : mWp S 41 109 [some (.ref 1), some (.int (nI 3))] [] (mHp 25, mIs21, mLs21, mRs21) Q := mWp_blk [(109, .aload_n 0), (110, .getfield 33), (113, .iload_n 1), (114, .new 26), (117, .dup)] (by decide +kernel) h
def mIs23 : mF := m_z (mIs22) 27 0
def mLs23 : mFL := m_z (mLs22) 27 0
def mRs23 : Nat → Nat → Option Nat := m_up (m_z (mRs22) 27 none) 26 5 (some 27)
theorem T41_118p3 {S : mS} {Q : Option Value → mW → Prop} (h : mWp S 41 121 [some (.ref 1), some (.int (nI 3))] [.ref 26, .int (nI 3), .ref 10] (mHp 27, mIs23, mLs23, mRs23) Q) : mWp S 41 118 [some (.ref 1), some (.int (nI 3))] [.ref 26, .ref 26, .int (nI 3), .ref 10] (mHp 26, mIs22, mLs22, mRs22) Q := mWp_call (i := .invokespecial 28) (by decide +kernel) ⟨rfl, rfl⟩ (N10 (n := 26) (by decide)) h
def mIs24 : mF := mIs23
def mLs24 : mFL := mLs23
def mRs24 : Nat → Nat → Option Nat := m_up (mRs23) 10 3 (some 26)
theorem T41_121p3 {S : mS} {Q : Option Value → mW → Prop} (h : mWp S 41 103 [some (.ref 1), some (.int (nI 4))] [] (mHp 27, mIs24, mLs24, mRs24) Q) : mWp S 41 121 [some (.ref 1), some (.int (nI 3))] [.ref 26, .int (nI 3), .ref 10] (mHp 27, mIs23, mLs23, mRs23) Q := mWp_blk [(121, .aastore), (122, .iinc 1 1), (125, .goto (Int.negSucc 21))] (by decide +kernel) (And.intro (by decide) h)
theorem T41_103p4 {S : mS} {Q : Option Value → mW → Prop} (h : mWp S 41 109 [some (.ref 1), some (.int (nI 4))] [] (mHp 27, mIs24, mLs24, mRs24) Q) : mWp S 41 103 [some (.ref 1), some (.int (nI 4))] [] (mHp 27, mIs24, mLs24, mRs24) Q := mWp_blk [(103, .iload_n 1), (104, .bipush 10), (106, .if_icmp .ge 22)] (by decide +kernel) h
def mIs25 : mF := m_z (mIs24) 28 0
def mLs25 : mFL := m_z (mLs24) 28 0
def mRs25 : Nat → Nat → Option Nat := m_z (mRs24) 28 none
theorem T41_109p4 {S : mS} {Q : Option Value → mW → Prop} (h : mWp S 41 118 [some (.ref 1), some (.int (nI 4))] [.ref 28, .ref 28, .int (nI 4), .ref 10] (mHp 28, mIs25, mLs25, mRs25) Q) : mWp S 41 109 [some (.ref 1), some (.int (nI 4))] [] (mHp 27, mIs24, mLs24, mRs24) Q := mWp_blk [(109, .aload_n 0), (110, .getfield 33), (113, .iload_n 1), (114, .new 26), (117, .dup)] (by decide +kernel) h
def mIs26 : mF := m_z (mIs25) 29 0
def mLs26 : mFL := m_z (mLs25) 29 0
def mRs26 : Nat → Nat → Option Nat := m_up (m_z (mRs25) 29 none) 28 5 (some 29)
theorem T41_118p4 {S : mS} {Q : Option Value → mW → Prop} (h : mWp S 41 121 [some (.ref 1), some (.int (nI 4))] [.ref 28, .int (nI 4), .ref 10] (mHp 29, mIs26, mLs26, mRs26) Q) : mWp S 41 118 [some (.ref 1), some (.int (nI 4))] [.ref 28, .ref 28, .int (nI 4), .ref 10] (mHp 28, mIs25, mLs25, mRs25) Q := mWp_call (i := .invokespecial 28) (by decide +kernel) ⟨rfl, rfl⟩ (N10 (n := 28) (by decide)) h
def mIs27 : mF := mIs26
def mLs27 : mFL := mLs26
def mRs27 : Nat → Nat → Option Nat := m_up (mRs26) 10 4 (some 28)
theorem T41_121p4 {S : mS} {Q : Option Value → mW → Prop} (h : mWp S 41 103 [some (.ref 1), some (.int (nI 5))] [] (mHp 29, mIs27, mLs27, mRs27) Q) : mWp S 41 121 [some (.ref 1), some (.int (nI 4))] [.ref 28, .int (nI 4), .ref 10] (mHp 29, mIs26, mLs26, mRs26) Q := mWp_blk [(121, .aastore), (122, .iinc 1 1), (125, .goto (Int.negSucc 21))] (by decide +kernel) (And.intro (by decide) h)
theorem T41_103p5 {S : mS} {Q : Option Value → mW → Prop} (h : mWp S 41 109 [some (.ref 1), some (.int (nI 5))] [] (mHp 29, mIs27, mLs27, mRs27) Q) : mWp S 41 103 [some (.ref 1), some (.int (nI 5))] [] (mHp 29, mIs27, mLs27, mRs27) Q := mWp_blk [(103, .iload_n 1), (104, .bipush 10), (106, .if_icmp .ge 22)] (by decide +kernel) h
def mIs28 : mF := m_z (mIs27) 30 0
def mLs28 : mFL := m_z (mLs27) 30 0
def mRs28 : Nat → Nat → Option Nat := m_z (mRs27) 30 none
theorem T41_109p5 {S : mS} {Q : Option Value → mW → Prop} (h : mWp S 41 118 [some (.ref 1), some (.int (nI 5))] [.ref 30, .ref 30, .int (nI 5), .ref 10] (mHp 30, mIs28, mLs28, mRs28) Q) : mWp S 41 109 [some (.ref 1), some (.int (nI 5))] [] (mHp 29, mIs27, mLs27, mRs27) Q := mWp_blk [(109, .aload_n 0), (110, .getfield 33), (113, .iload_n 1), (114, .new 26), (117, .dup)] (by decide +kernel) h
def mIs29 : mF := m_z (mIs28) 31 0
def mLs29 : mFL := m_z (mLs28) 31 0
def mRs29 : Nat → Nat → Option Nat := m_up (m_z (mRs28) 31 none) 30 5 (some 31)
theorem T41_118p5 {S : mS} {Q : Option Value → mW → Prop} (h : mWp S 41 121 [some (.ref 1), some (.int (nI 5))] [.ref 30, .int (nI 5), .ref 10] (mHp 31, mIs29, mLs29, mRs29) Q) : mWp S 41 118 [some (.ref 1), some (.int (nI 5))] [.ref 30, .ref 30, .int (nI 5), .ref 10] (mHp 30, mIs28, mLs28, mRs28) Q := mWp_call (i := .invokespecial 28) (by decide +kernel) ⟨rfl, rfl⟩ (N10 (n := 30) (by decide)) h
def mIs30 : mF := mIs29
def mLs30 : mFL := mLs29
def mRs30 : Nat → Nat → Option Nat := m_up (mRs29) 10 5 (some 30)
theorem T41_121p5 {S : mS} {Q : Option Value → mW → Prop} (h : mWp S 41 103 [some (.ref 1), some (.int (nI 6))] [] (mHp 31, mIs30, mLs30, mRs30) Q) : mWp S 41 121 [some (.ref 1), some (.int (nI 5))] [.ref 30, .int (nI 5), .ref 10] (mHp 31, mIs29, mLs29, mRs29) Q := mWp_blk [(121, .aastore), (122, .iinc 1 1), (125, .goto (Int.negSucc 21))] (by decide +kernel) (And.intro (by decide) h)
theorem T41_103p6 {S : mS} {Q : Option Value → mW → Prop} (h : mWp S 41 109 [some (.ref 1), some (.int (nI 6))] [] (mHp 31, mIs30, mLs30, mRs30) Q) : mWp S 41 103 [some (.ref 1), some (.int (nI 6))] [] (mHp 31, mIs30, mLs30, mRs30) Q := mWp_blk [(103, .iload_n 1), (104, .bipush 10), (106, .if_icmp .ge 22)] (by decide +kernel) h
def mIs31 : mF := m_z (mIs30) 32 0
def mLs31 : mFL := m_z (mLs30) 32 0
def mRs31 : Nat → Nat → Option Nat := m_z (mRs30) 32 none
theorem T41_109p6 {S : mS} {Q : Option Value → mW → Prop} (h : mWp S 41 118 [some (.ref 1), some (.int (nI 6))] [.ref 32, .ref 32, .int (nI 6), .ref 10] (mHp 32, mIs31, mLs31, mRs31) Q) : mWp S 41 109 [some (.ref 1), some (.int (nI 6))] [] (mHp 31, mIs30, mLs30, mRs30) Q := mWp_blk [(109, .aload_n 0), (110, .getfield 33), (113, .iload_n 1), (114, .new 26), (117, .dup)] (by decide +kernel) h
def mIs32 : mF := m_z (mIs31) 33 0
def mLs32 : mFL := m_z (mLs31) 33 0
def mRs32 : Nat → Nat → Option Nat := m_up (m_z (mRs31) 33 none) 32 5 (some 33)
theorem T41_118p6 {S : mS} {Q : Option Value → mW → Prop} (h : mWp S 41 121 [some (.ref 1), some (.int (nI 6))] [.ref 32, .int (nI 6), .ref 10] (mHp 33, mIs32, mLs32, mRs32) Q) : mWp S 41 118 [some (.ref 1), some (.int (nI 6))] [.ref 32, .ref 32, .int (nI 6), .ref 10] (mHp 32, mIs31, mLs31, mRs31) Q := mWp_call (i := .invokespecial 28) (by decide +kernel) ⟨rfl, rfl⟩ (N10 (n := 32) (by decide)) h
def mIs33 : mF := mIs32
def mLs33 : mFL := mLs32
def mRs33 : Nat → Nat → Option Nat := m_up (mRs32) 10 6 (some 32)
theorem T41_121p6 {S : mS} {Q : Option Value → mW → Prop} (h : mWp S 41 103 [some (.ref 1), some (.int (nI 7))] [] (mHp 33, mIs33, mLs33, mRs33) Q) : mWp S 41 121 [some (.ref 1), some (.int (nI 6))] [.ref 32, .int (nI 6), .ref 10] (mHp 33, mIs32, mLs32, mRs32) Q := mWp_blk [(121, .aastore), (122, .iinc 1 1), (125, .goto (Int.negSucc 21))] (by decide +kernel) (And.intro (by decide) h)
theorem T41_103p7 {S : mS} {Q : Option Value → mW → Prop} (h : mWp S 41 109 [some (.ref 1), some (.int (nI 7))] [] (mHp 33, mIs33, mLs33, mRs33) Q) : mWp S 41 103 [some (.ref 1), some (.int (nI 7))] [] (mHp 33, mIs33, mLs33, mRs33) Q := mWp_blk [(103, .iload_n 1), (104, .bipush 10), (106, .if_icmp .ge 22)] (by decide +kernel) h
def mIs34 : mF := m_z (mIs33) 34 0
def mLs34 : mFL := m_z (mLs33) 34 0
def mRs34 : Nat → Nat → Option Nat := m_z (mRs33) 34 none
theorem T41_109p7 {S : mS} {Q : Option Value → mW → Prop} (h : mWp S 41 118 [some (.ref 1), some (.int (nI 7))] [.ref 34, .ref 34, .int (nI 7), .ref 10] (mHp 34, mIs34, mLs34, mRs34) Q) : mWp S 41 109 [some (.ref 1), some (.int (nI 7))] [] (mHp 33, mIs33, mLs33, mRs33) Q := mWp_blk [(109, .aload_n 0), (110, .getfield 33), (113, .iload_n 1), (114, .new 26), (117, .dup)] (by decide +kernel) h
def mIs35 : mF := m_z (mIs34) 35 0
def mLs35 : mFL := m_z (mLs34) 35 0
def mRs35 : Nat → Nat → Option Nat := m_up (m_z (mRs34) 35 none) 34 5 (some 35)
theorem T41_118p7 {S : mS} {Q : Option Value → mW → Prop} (h : mWp S 41 121 [some (.ref 1), some (.int (nI 7))] [.ref 34, .int (nI 7), .ref 10] (mHp 35, mIs35, mLs35, mRs35) Q) : mWp S 41 118 [some (.ref 1), some (.int (nI 7))] [.ref 34, .ref 34, .int (nI 7), .ref 10] (mHp 34, mIs34, mLs34, mRs34) Q := mWp_call (i := .invokespecial 28) (by decide +kernel) ⟨rfl, rfl⟩ (N10 (n := 34) (by decide)) h
def mIs36 : mF := mIs35
def mLs36 : mFL := mLs35
def mRs36 : Nat → Nat → Option Nat := m_up (mRs35) 10 7 (some 34)
theorem T41_121p7 {S : mS} {Q : Option Value → mW → Prop} (h : mWp S 41 103 [some (.ref 1), some (.int (nI 8))] [] (mHp 35, mIs36, mLs36, mRs36) Q) : mWp S 41 121 [some (.ref 1), some (.int (nI 7))] [.ref 34, .int (nI 7), .ref 10] (mHp 35, mIs35, mLs35, mRs35) Q := mWp_blk [(121, .aastore), (122, .iinc 1 1), (125, .goto (Int.negSucc 21))] (by decide +kernel) (And.intro (by decide) h)
theorem T41_103p8 {S : mS} {Q : Option Value → mW → Prop} (h : mWp S 41 109 [some (.ref 1), some (.int (nI 8))] [] (mHp 35, mIs36, mLs36, mRs36) Q) : mWp S 41 103 [some (.ref 1), some (.int (nI 8))] [] (mHp 35, mIs36, mLs36, mRs36) Q := mWp_blk [(103, .iload_n 1), (104, .bipush 10), (106, .if_icmp .ge 22)] (by decide +kernel) h
def mIs37 : mF := m_z (mIs36) 36 0
def mLs37 : mFL := m_z (mLs36) 36 0
def mRs37 : Nat → Nat → Option Nat := m_z (mRs36) 36 none
theorem T41_109p8 {S : mS} {Q : Option Value → mW → Prop} (h : mWp S 41 118 [some (.ref 1), some (.int (nI 8))] [.ref 36, .ref 36, .int (nI 8), .ref 10] (mHp 36, mIs37, mLs37, mRs37) Q) : mWp S 41 109 [some (.ref 1), some (.int (nI 8))] [] (mHp 35, mIs36, mLs36, mRs36) Q := mWp_blk [(109, .aload_n 0), (110, .getfield 33), (113, .iload_n 1), (114, .new 26), (117, .dup)] (by decide +kernel) h
def mIs38 : mF := m_z (mIs37) 37 0
def mLs38 : mFL := m_z (mLs37) 37 0
def mRs38 : Nat → Nat → Option Nat := m_up (m_z (mRs37) 37 none) 36 5 (some 37)
theorem T41_118p8 {S : mS} {Q : Option Value → mW → Prop} (h : mWp S 41 121 [some (.ref 1), some (.int (nI 8))] [.ref 36, .int (nI 8), .ref 10] (mHp 37, mIs38, mLs38, mRs38) Q) : mWp S 41 118 [some (.ref 1), some (.int (nI 8))] [.ref 36, .ref 36, .int (nI 8), .ref 10] (mHp 36, mIs37, mLs37, mRs37) Q := mWp_call (i := .invokespecial 28) (by decide +kernel) ⟨rfl, rfl⟩ (N10 (n := 36) (by decide)) h
def mIs39 : mF := mIs38
def mLs39 : mFL := mLs38
def mRs39 : Nat → Nat → Option Nat := m_up (mRs38) 10 8 (some 36)
theorem T41_121p8 {S : mS} {Q : Option Value → mW → Prop} (h : mWp S 41 103 [some (.ref 1), some (.int (nI 9))] [] (mHp 37, mIs39, mLs39, mRs39) Q) : mWp S 41 121 [some (.ref 1), some (.int (nI 8))] [.ref 36, .int (nI 8), .ref 10] (mHp 37, mIs38, mLs38, mRs38) Q := mWp_blk [(121, .aastore), (122, .iinc 1 1), (125, .goto (Int.negSucc 21))] (by decide +kernel) (And.intro (by decide) h)
theorem T41_103p9 {S : mS} {Q : Option Value → mW → Prop} (h : mWp S 41 109 [some (.ref 1), some (.int (nI 9))] [] (mHp 37, mIs39, mLs39, mRs39) Q) : mWp S 41 103 [some (.ref 1), some (.int (nI 9))] [] (mHp 37, mIs39, mLs39, mRs39) Q := mWp_blk [(103, .iload_n 1), (104, .bipush 10), (106, .if_icmp .ge 22)] (by decide +kernel) h
def mIs40 : mF := m_z (mIs39) 38 0
def mLs40 : mFL := m_z (mLs39) 38 0
def mRs40 : Nat → Nat → Option Nat := m_z (mRs39) 38 none
theorem T41_109p9 {S : mS} {Q : Option Value → mW → Prop} (h : mWp S 41 118 [some (.ref 1), some (.int (nI 9))] [.ref 38, .ref 38, .int (nI 9), .ref 10] (mHp 38, mIs40, mLs40, mRs40) Q) : mWp S 41 109 [some (.ref 1), some (.int (nI 9))] [] (mHp 37, mIs39, mLs39, mRs39) Q := mWp_blk [(109, .aload_n 0), (110, .getfield 33), (113, .iload_n 1), (114, .new 26), (117, .dup)] (by decide +kernel) h
def mIs41 : mF := m_z (mIs40) 39 0
def mLs41 : mFL := m_z (mLs40) 39 0
def mRs41 : Nat → Nat → Option Nat := m_up (m_z (mRs40) 39 none) 38 5 (some 39)
theorem T41_118p9 {S : mS} {Q : Option Value → mW → Prop} (h : mWp S 41 121 [some (.ref 1), some (.int (nI 9))] [.ref 38, .int (nI 9), .ref 10] (mHp 39, mIs41, mLs41, mRs41) Q) : mWp S 41 118 [some (.ref 1), some (.int (nI 9))] [.ref 38, .ref 38, .int (nI 9), .ref 10] (mHp 38, mIs40, mLs40, mRs40) Q := mWp_call (i := .invokespecial 28) (by decide +kernel) ⟨rfl, rfl⟩ (N10 (n := 38) (by decide)) h
def mIs42 : mF := mIs41
def mLs42 : mFL := mLs41
def mRs42 : Nat → Nat → Option Nat := m_up (mRs41) 10 9 (some 38)
theorem T41_121p9 {S : mS} {Q : Option Value → mW → Prop} (h : mWp S 41 103 [some (.ref 1), some (.int (nI 10))] [] (mHp 39, mIs42, mLs42, mRs42) Q) : mWp S 41 121 [some (.ref 1), some (.int (nI 9))] [.ref 38, .int (nI 9), .ref 10] (mHp 39, mIs41, mLs41, mRs41) Q := mWp_blk [(121, .aastore), (122, .iinc 1 1), (125, .goto (Int.negSucc 21))] (by decide +kernel) (And.intro (by decide) h)
theorem T41_103p10 {S : mS} {Q : Option Value → mW → Prop} (h : mWp S 41 128 [some (.ref 1), some (.int (nI 10))] [] (mHp 39, mIs42, mLs42, mRs42) Q) : mWp S 41 103 [some (.ref 1), some (.int (nI 10))] [] (mHp 39, mIs42, mLs42, mRs42) Q := mWp_blk [(103, .iload_n 1), (104, .bipush 10), (106, .if_icmp .ge 22)] (by decide +kernel) h
theorem T41_128 {S : mS} {Q : Option Value → mW → Prop} (h : mWp S 41 130 [some (.ref 1), some (.int (nI 0))] [] (mHp 39, mIs42, mLs42, mRs42) Q) : mWp S 41 128 [some (.ref 1), some (.int (nI 10))] [] (mHp 39, mIs42, mLs42, mRs42) Q := mWp_blk [(128, .iconst 0), (129, .istore_n 1)] (by decide +kernel) h
theorem T41_130q0 {S : mS} {Q : Option Value → mW → Prop} (h : mWp S 41 135 [some (.ref 1), some (.int (nI 0))] [] (mHp 39, mIs42, mLs42, mRs42) Q) : mWp S 41 130 [some (.ref 1), some (.int (nI 0))] [] (mHp 39, mIs42, mLs42, mRs42) Q := mWp_blk [(130, .iload_n 1), (131, .iconst 2), (132, .if_icmp .ge 22)] (by decide +kernel) h
def mIs43 : mF := m_z (mIs42) 40 0
def mLs43 : mFL := m_z (mLs42) 40 0
def mRs43 : Nat → Nat → Option Nat := m_z (mRs42) 40 none
theorem T41_135q0 {S : mS} {Q : Option Value → mW → Prop} (h : mWp S 41 144 [some (.ref 1), some (.int (nI 0))] [.ref 40, .ref 40, .int (nI 0), .ref 11] (mHp 40, mIs43, mLs43, mRs43) Q) : mWp S 41 135 [some (.ref 1), some (.int (nI 0))] [] (mHp 39, mIs42, mLs42, mRs42) Q := mWp_blk [(135, .aload_n 0), (136, .getfield 37), (139, .iload_n 1), (140, .new 26), (143, .dup)] (by decide +kernel) h
def mIs44 : mF := m_z (mIs43) 41 0
def mLs44 : mFL := m_z (mLs43) 41 0
def mRs44 : Nat → Nat → Option Nat := m_up (m_z (mRs43) 41 none) 40 5 (some 41)
theorem T41_144q0 {S : mS} {Q : Option Value → mW → Prop} (h : mWp S 41 147 [some (.ref 1), some (.int (nI 0))] [.ref 40, .int (nI 0), .ref 11] (mHp 41, mIs44, mLs44, mRs44) Q) : mWp S 41 144 [some (.ref 1), some (.int (nI 0))] [.ref 40, .ref 40, .int (nI 0), .ref 11] (mHp 40, mIs43, mLs43, mRs43) Q := mWp_call (i := .invokespecial 28) (by decide +kernel) ⟨rfl, rfl⟩ (N10 (n := 40) (by decide)) h
def mIs45 : mF := mIs44
def mLs45 : mFL := mLs44
def mRs45 : Nat → Nat → Option Nat := m_up (mRs44) 11 0 (some 40)
theorem T41_147q0 {S : mS} {Q : Option Value → mW → Prop} (h : mWp S 41 130 [some (.ref 1), some (.int (nI 1))] [] (mHp 41, mIs45, mLs45, mRs45) Q) : mWp S 41 147 [some (.ref 1), some (.int (nI 0))] [.ref 40, .int (nI 0), .ref 11] (mHp 41, mIs44, mLs44, mRs44) Q := mWp_blk [(147, .aastore), (148, .iinc 1 1), (151, .goto (Int.negSucc 20))] (by decide +kernel) (And.intro (by decide) h)
theorem T41_130q1 {S : mS} {Q : Option Value → mW → Prop} (h : mWp S 41 135 [some (.ref 1), some (.int (nI 1))] [] (mHp 41, mIs45, mLs45, mRs45) Q) : mWp S 41 130 [some (.ref 1), some (.int (nI 1))] [] (mHp 41, mIs45, mLs45, mRs45) Q := mWp_blk [(130, .iload_n 1), (131, .iconst 2), (132, .if_icmp .ge 22)] (by decide +kernel) h
def mIs46 : mF := m_z (mIs45) 42 0
def mLs46 : mFL := m_z (mLs45) 42 0
def mRs46 : Nat → Nat → Option Nat := m_z (mRs45) 42 none
theorem T41_135q1 {S : mS} {Q : Option Value → mW → Prop} (h : mWp S 41 144 [some (.ref 1), some (.int (nI 1))] [.ref 42, .ref 42, .int (nI 1), .ref 11] (mHp 42, mIs46, mLs46, mRs46) Q) : mWp S 41 135 [some (.ref 1), some (.int (nI 1))] [] (mHp 41, mIs45, mLs45, mRs45) Q := mWp_blk [(135, .aload_n 0), (136, .getfield 37), (139, .iload_n 1), (140, .new 26), (143, .dup)] (by decide +kernel) h
def mIs47 : mF := m_z (mIs46) 43 0
def mLs47 : mFL := m_z (mLs46) 43 0
def mRs47 : Nat → Nat → Option Nat := m_up (m_z (mRs46) 43 none) 42 5 (some 43)
theorem T41_144q1 {S : mS} {Q : Option Value → mW → Prop} (h : mWp S 41 147 [some (.ref 1), some (.int (nI 1))] [.ref 42, .int (nI 1), .ref 11] (mHp 43, mIs47, mLs47, mRs47) Q) : mWp S 41 144 [some (.ref 1), some (.int (nI 1))] [.ref 42, .ref 42, .int (nI 1), .ref 11] (mHp 42, mIs46, mLs46, mRs46) Q := mWp_call (i := .invokespecial 28) (by decide +kernel) ⟨rfl, rfl⟩ (N10 (n := 42) (by decide)) h
def mIs48 : mF := mIs47
def mLs48 : mFL := mLs47
def mRs48 : Nat → Nat → Option Nat := m_up (mRs47) 11 1 (some 42)
theorem T41_147q1 {S : mS} {Q : Option Value → mW → Prop} (h : mWp S 41 130 [some (.ref 1), some (.int (nI 2))] [] (mHp 43, mIs48, mLs48, mRs48) Q) : mWp S 41 147 [some (.ref 1), some (.int (nI 1))] [.ref 42, .int (nI 1), .ref 11] (mHp 43, mIs47, mLs47, mRs47) Q := mWp_blk [(147, .aastore), (148, .iinc 1 1), (151, .goto (Int.negSucc 20))] (by decide +kernel) (And.intro (by decide) h)
theorem T41_130q2 {S : mS} {Q : Option Value → mW → Prop} (h : mWp S 41 154 [some (.ref 1), some (.int (nI 2))] [] (mHp 43, mIs48, mLs48, mRs48) Q) : mWp S 41 130 [some (.ref 1), some (.int (nI 2))] [] (mHp 43, mIs48, mLs48, mRs48) Q := mWp_blk [(130, .iload_n 1), (131, .iconst 2), (132, .if_icmp .ge 22)] (by decide +kernel) h
theorem T41_154 {S : mS} {Q : Option Value → mW → Prop} (h : mWp S 41 162 [some (.ref 1), some (.int (nI 2))] [.ref 4, .ref 8] (mHp 43, mIs48, mLs48, mRs48) Q) : mWp S 41 154 [some (.ref 1), some (.int (nI 2))] [] (mHp 43, mIs48, mLs48, mRs48) Q := mWp_blk [(154, .aload_n 0), (155, .getfield 29), (158, .aload_n 0), (159, .getfield 19)] (by decide +kernel) h
def mIs49 : mF := mGz (m_up (m_up (m_up (m_up (mIs48) 8 0 0) 8 2 0) 8 1 (-9)) 8 3 (-9)) 9 4
def mLs49 : mFL := m_up (mLs48) 8 4 0
def mRs49 : Nat → Nat → Option Nat := mRs48
theorem N11_loop {S : mS} {J : mF} {M : mFL} : ∀ (m k : Nat), k + m = 4 → mWp S 11 45 [some (.ref 8), some (.ref 4), some (.int (nI k))] [] (mHp 43, mGz J 9 k, M, mRs48) (fun r1 w1 => r1 = none ∧ w1 = (mHp 43, mGz J 9 4, M, mRs48)) := by
  intro m
  induction m with
  | zero =>
    intro k hk
    have hk : k = 4 := by omega
    subst hk
    have fin : mWp S 11 63 [some (.ref 8), some (.ref 4), some (.int (nI 4))] [] (mHp 43, mGz J 9 4, M, mRs48) (fun r1 w1 => r1 = none ∧ w1 = (mHp 43, mGz J 9 4, M, mRs48)) := mWp_blk [(63, .return_)] (by decide +kernel) ⟨rfl, rfl⟩
    have no : ¬ (4 : Int32) ≤ nI 4 → mWp S 11 50 [some (.ref 8), some (.ref 4), some (.int (nI 4))] [] (mHp 43, mGz J 9 4, M, mRs48) (fun r1 w1 => r1 = none ∧ w1 = (mHp 43, mGz J 9 4, M, mRs48)) := fun h2 => absurd (by decide) h2
    exact mWp_blk [(45, .iload_n 2), (46, .iconst 4), (47, .if_icmp .ge 16)] (by decide +kernel) (mWp_ite (fun _ => fin) no)
  | succ m ih =>
    intro k hk
    have h := ih (k + 1) (by omega)
    have e1 : nI (k + 1) = nI k + 1 := by rw [nI_1]
    have e2 : (nI k).toNatClampNeg = k := nI_clamp (by omega)
    have e3 : mGz J 9 (k + 1) = m_up (mGz J 9 k) 9 ((nI k).toNatClampNeg) 0 := by rw [e2]; rfl
    rw [e1, e3] at h
    have g0 : m_ok (nI k) 4 = true := m_okN (by omega) (by decide)
    have step : mWp S 11 50 [some (.ref 8), some (.ref 4), some (.int (nI k))] [] (mHp 43, mGz J 9 k, M, mRs48) (fun r1 w1 => r1 = none ∧ w1 = (mHp 43, mGz J 9 4, M, mRs48)) := mWp_blk [(50, .aload_n 0), (51, .getfield 9), (54, .iload_n 2), (55, .iconst 0), (56, .iastore), (57, .iinc 2 1), (60, .goto (Int.negSucc 14))] (by decide +kernel) (And.intro g0 h)
    refine mWp_blk [(45, .iload_n 2), (46, .iconst 4), (47, .if_icmp .ge 16)] (by decide +kernel) (mWp_ite (fun h2 => ?_) (fun _ => step))
    have h2 : nI 4 ≤ nI k := h2
    rw [nI_leI (by decide) (by omega)] at h2
    omega
theorem mI48_tee : mIs48 4 5 = -9 := by decide +kernel
theorem mL48_pl : mLs48 4 7 = 0 := by decide +kernel
theorem N11g {S : mS} {I : mF} {L : mFL} (hI : I 4 5 = -9) (hL : L 4 7 = 0) : mFn S 11 [.ref 8, .ref 4] (mHp 43, I, L, mRs48) none (mHp 43, mGz (m_up (m_up (m_up (m_up I 8 0 0) 8 2 0) 8 1 (-9)) 8 3 (-9)) 9 4, m_up L 8 4 0, mRs48) := by
  have h := N11_loop (S := S) (J := m_up (m_up (m_up (m_up I 8 0 0) 8 2 0) 8 1 (-9)) 8 3 (-9)) (M := m_up L 8 4 0) 4 0 (by omega)
  have e : m_up (m_up I 8 0 0) 8 2 0 4 5 = -9 := by rw [m_ux (by decide), m_ux (by decide), hI]
  have e2 : m_up (m_up (m_up I 8 0 0) 8 2 0) 8 1 (-9) 4 5 = -9 := by rw [m_ux (by decide), e]
  have h34 : mWp S 11 34 [some (.ref 8), some (.ref 4), none] [.ref 8] (mHp 43, m_up (m_up (m_up I 8 0 0) 8 2 0) 8 1 (-9), m_up L 8 4 0, mRs48) (fun r1 w1 => r1 = none ∧ w1 = (mHp 43, mGz (m_up (m_up (m_up (m_up I 8 0 0) 8 2 0) 8 1 (-9)) 8 3 (-9)) 9 4, m_up L 8 4 0, mRs48)) := mWp_blk [(34, .bipush (Int.negSucc 8)), (36, .goto 4), (40, .putfield 35), (43, .iconst 0), (44, .istore_n 2)] (by decide +kernel) h
  have h34b : mWp S 11 34 [some (.ref 8), some (.ref 4), none] [.ref 8] (mHp 43, m_up (m_up (m_up I 8 0 0) 8 2 0) 8 1 (m_up (m_up I 8 0 0) 8 2 0 4 5), m_up L 8 4 (L 4 7), mRs48) (fun r1 w1 => r1 = none ∧ w1 = (mHp 43, mGz (m_up (m_up (m_up (m_up I 8 0 0) 8 2 0) 8 1 (-9)) 8 3 (-9)) 9 4, m_up L 8 4 0, mRs48)) := by
    rw [e, hL]
    exact h34
  refine mFn_of (mWp_blk [(0, .aload_n 0), (1, .iconst 0), (2, .putfield 15), (5, .aload_n 0), (6, .aload_n 1), (7, .getfield 19), (10, .putfield 25), (13, .aload_n 0), (14, .iconst 0), (15, .putfield 26), (18, .aload_n 0), (19, .aload_n 1), (20, .getfield 29), (23, .putfield 32), (26, .aload_n 0), (27, .aload_n 1), (28, .getfield 29), (31, .ifCond .ge 8)] (by decide +kernel) (mWp_ite (fun h2 => ?_) (fun _ => h34b)))
  have h2 : 0 ≤ m_up (m_up (m_up I 8 0 0) 8 2 0) 8 1 (m_up (m_up I 8 0 0) 8 2 0 4 5) 4 5 := h2
  rw [e, e2] at h2
  exact absurd h2 (by decide)
theorem N11 {S : mS} : mFn S 11 [.ref 8, .ref 4] (mHp 43, mIs48, mLs48, mRs48) none (mHp 43, mIs49, mLs49, mRs49) := N11g mI48_tee mL48_pl
theorem T41_162 {S : mS} {Q : Option Value → mW → Prop} (h : mWp S 41 165 [some (.ref 1), some (.int (nI 2))] [] (mHp 43, mIs49, mLs49, mRs49) Q) : mWp S 41 162 [some (.ref 1), some (.int (nI 2))] [.ref 4, .ref 8] (mHp 43, mIs48, mLs48, mRs48) Q := mWp_call (i := .invokevirtual 62) (by decide +kernel) ⟨rfl, rfl⟩ N11 h
theorem T41_165 {S : mS} {Q : Option Value → mW → Prop} (h : Q none (mHp 43, mIs49, mLs49, mRs49)) : mWp S 41 165 [some (.ref 1), some (.int (nI 2))] [] (mHp 43, mIs49, mLs49, mRs49) Q := mWp_blk [(165, .return_)] (by decide +kernel) h
theorem N41 {S : mS} : mFn S 41 [.ref 1] (mHp 1, mIs0, mLs0, mRs0) none (mHp 43, mIs49, mLs49, mRs49) := mFn_of (T41_0 (T41_9 (T41_12 (T41_20 (T41_23 (T41_31 (T41_34 (T41_42 (T41_45 (T41_84 (T41_87 (T41_95 (T41_98 (T41_103p0 (T41_109p0 (T41_118p0 (T41_121p0 (T41_103p1 (T41_109p1 (T41_118p1 (T41_121p1 (T41_103p2 (T41_109p2 (T41_118p2 (T41_121p2 (T41_103p3 (T41_109p3 (T41_118p3 (T41_121p3 (T41_103p4 (T41_109p4 (T41_118p4 (T41_121p4 (T41_103p5 (T41_109p5 (T41_118p5 (T41_121p5 (T41_103p6 (T41_109p6 (T41_118p6 (T41_121p6 (T41_103p7 (T41_109p7 (T41_118p7 (T41_121p7 (T41_103p8 (T41_109p8 (T41_118p8 (T41_121p8 (T41_103p9 (T41_109p9 (T41_118p9 (T41_121p9 (T41_103p10 (T41_128 (T41_130q0 (T41_135q0 (T41_144q0 (T41_147q0 (T41_130q1 (T41_135q1 (T41_144q1 (T41_147q1 (T41_130q2 (T41_154 (T41_162 (T41_165 (⟨rfl, rfl⟩))))))))))))))))))))))))))))))))))))))))))))))))))))))))))))))))))))
