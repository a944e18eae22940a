/-! the reference is made; what both are at first -/
def mSup (R : Nat → Nat → Option Nat) (A K : Nat) : Prop := ∀ a k, ¬ (a < A ∧ k < K) → R a k = none
theorem mSup.z {R : Nat → Nat → Option Nat} {A K a : Nat} (h : mSup R A K) : mSup (m_z R a none) A K := fun x y q => by
  unfold m_z
  split
  · rfl
  · exact h x y q
theorem mSup.up {R : Nat → Nat → Option Nat} {A K a j : Nat} {v : Option Nat} (h : mSup R A K) (ha : a < A ∧ j < K) : mSup (m_up R a j v) A K := fun x y q => by
  unfold m_up
  split
  · next e =>
    subst e
    split
    · next e2 =>
      subst e2
      exact absurd ha q
    · exact h x y q
  · exact h x y q
def mIs50 : mF := m_z (mIs49) 44 0
def mLs50 : mFL := m_z (mLs49) 44 0
def mRs50 : Nat → Nat → Option Nat := m_z (mRs49) 44 none
def mIs51 : mF := m_up (m_up (m_up (mIs50) 44 2 3) 44 4 2) 44 5 (-9)
def mLs51 : mFL := mLs50
def mRs51 : Nat → Nat → Option Nat := mRs50
theorem T87_0 {S : mS} {Q : Option Value → mW → Prop} (h : mWp S 87 20 [some (.ref 44)] [] (mHp 44, mIs51, mLs51, mRs51) Q) : mWp S 87 0 [some (.ref 44)] [] (mHp 44, mIs50, mLs50, mRs50) Q := mWp_blk [(0, .aload_n 0), (1, .invokespecial 1), (4, .aload_n 0), (5, .iconst 3), (6, .putfield 7), (9, .aload_n 0), (10, .iconst 2), (11, .putfield 13), (14, .aload_n 0), (15, .bipush (Int.negSucc 8)), (17, .putfield 16)] (by decide +kernel) h
def mIs52 : mF := m_z (mIs51) 45 0
def mLs52 : mFL := m_z (mLs51) 45 0
def mRs52 : Nat → Nat → Option Nat := m_up (m_z (mRs51) 45 none) 44 6 (some 45)
theorem T87_20 {S : mS} {Q : Option Value → mW → Prop} (h : mWp S 87 28 [some (.ref 44)] [] (mHp 45, mIs52, mLs52, mRs52) Q) : mWp S 87 20 [some (.ref 44)] [] (mHp 44, mIs51, mLs51, mRs51) Q := mWp_blk [(20, .aload_n 0), (21, .bipush 57), (23, .newarray .int), (25, .putfield 19)] (by decide +kernel) h
def mIs53 : mF := m_z (mIs52) 46 0
def mLs53 : mFL := m_z (mLs52) 46 0
def mRs53 : Nat → Nat → Option Nat := m_up (m_z (mRs52) 46 none) 44 7 (some 46)
theorem T87_28 {S : mS} {Q : Option Value → mW → Prop} (h : mWp S 87 37 [some (.ref 44)] [] (mHp 46, mIs53, mLs53, mRs53) Q) : mWp S 87 28 [some (.ref 44)] [] (mHp 45, mIs52, mLs52, mRs52) Q := mWp_blk [(28, .aload_n 0), (29, .sipush 570), (32, .newarray .int), (34, .putfield 23)] (by decide +kernel) h
def mIs54 : mF := m_z (mIs53) 47 0
def mLs54 : mFL := m_z (mLs53) 47 0
def mRs54 : Nat → Nat → Option Nat := m_up (m_z (mRs53) 47 none) 44 9 (some 47)
theorem T87_37 {S : mS} {Q : Option Value → mW → Prop} (h : mWp S 87 45 [some (.ref 44)] [] (mHp 47, mIs54, mLs54, mRs54) Q) : mWp S 87 37 [some (.ref 44)] [] (mHp 46, mIs53, mLs53, mRs53) Q := mWp_blk [(37, .aload_n 0), (38, .bipush 114), (40, .newarray .int), (42, .putfield 26)] (by decide +kernel) h
def mIs55 : mF := m_z (mIs54) 48 0
def mLs55 : mFL := m_z (mLs54) 48 0
def mRs55 : Nat → Nat → Option Nat := m_up (m_z (mRs54) 48 none) 44 10 (some 48)
theorem T87_45 {S : mS} {Q : Option Value → mW → Prop} (h : mWp S 87 52 [some (.ref 44)] [] (mHp 48, mIs55, mLs55, mRs55) Q) : mWp S 87 45 [some (.ref 44)] [] (mHp 47, mIs54, mLs54, mRs54) Q := mWp_blk [(45, .aload_n 0), (46, .iconst 2), (47, .newarray .boolean), (49, .putfield 29)] (by decide +kernel) h
def mIs56 : mF := m_z (mIs55) 49 0
def mLs56 : mFL := m_z (mLs55) 49 0
def mRs56 : Nat → Nat → Option Nat := m_up (m_z (mRs55) 49 none) 44 12 (some 49)
theorem T87_52 {S : mS} {Q : Option Value → mW → Prop} (h : mWp S 87 59 [some (.ref 44)] [] (mHp 49, mIs56, mLs56, mRs56) Q) : mWp S 87 52 [some (.ref 44)] [] (mHp 48, mIs55, mLs55, mRs55) Q := mWp_blk [(52, .aload_n 0), (53, .iconst 5), (54, .newarray .int), (56, .putfield 33)] (by decide +kernel) h
def mIs57 : mF := m_z (mIs56) 50 0
def mLs57 : mFL := m_z (mLs56) 50 0
def mRs57 : Nat → Nat → Option Nat := m_up (m_z (mRs56) 50 none) 44 14 (some 50)
theorem T87_59 {S : mS} {Q : Option Value → mW → Prop} (h : mWp S 87 68 [some (.ref 44)] [] (mHp 50, mIs57, mLs57, mRs57) Q) : mWp S 87 59 [some (.ref 44)] [] (mHp 49, mIs56, mLs56, mRs56) Q := mWp_blk [(59, .aload_n 0), (60, .sipush 150), (63, .newarray .int), (65, .putfield 36)] (by decide +kernel) h
def mIs58 : mF := m_z (mIs57) 51 0
def mLs58 : mFL := m_z (mLs57) 51 0
def mRs58 : Nat → Nat → Option Nat := m_up (m_z (mRs57) 51 none) 44 29 (some 51)
theorem T87_68 {S : mS} {Q : Option Value → mW → Prop} (h : mWp S 87 76 [some (.ref 44)] [] (mHp 51, mIs58, mLs58, mRs58) Q) : mWp S 87 68 [some (.ref 44)] [] (mHp 50, mIs57, mLs57, mRs57) Q := mWp_blk [(68, .aload_n 0), (69, .bipush 49), (71, .newarray .int), (73, .putfield 39)] (by decide +kernel) h
def mIs59 : mF := m_z (mIs58) 52 0
def mLs59 : mFL := m_z (mLs58) 52 0
def mRs59 : Nat → Nat → Option Nat := m_up (m_z (mRs58) 52 none) 44 31 (some 52)
theorem T87_76 {S : mS} {Q : Option Value → mW → Prop} (h : mWp S 87 85 [some (.ref 44)] [] (mHp 52, mIs59, mLs59, mRs59) Q) : mWp S 87 76 [some (.ref 44)] [] (mHp 51, mIs58, mLs58, mRs58) Q := mWp_blk [(76, .aload_n 0), (77, .sipush 7056), (80, .newarray .int), (82, .putfield 42)] (by decide +kernel) h
def mIs60 : mF := m_z (mIs59) 53 0
def mLs60 : mFL := m_z (mLs59) 53 0
def mRs60 : Nat → Nat → Option Nat := m_up (m_z (mRs59) 53 none) 44 32 (some 53)
theorem T87_85 {S : mS} {Q : Option Value → mW → Prop} (h : mWp S 87 93 [some (.ref 44)] [] (mHp 53, mIs60, mLs60, mRs60) Q) : mWp S 87 85 [some (.ref 44)] [] (mHp 52, mIs59, mLs59, mRs59) Q := mWp_blk [(85, .aload_n 0), (86, .bipush 49), (88, .newarray .int), (90, .putfield 45)] (by decide +kernel) h
def mIs61 : mF := m_up (m_up (mIs60) 45 1 (-9)) 45 2 (-9)
def mLs61 : mFL := mLs60
def mRs61 : Nat → Nat → Option Nat := mRs60
theorem T87_93 {S : mS} {Q : Option Value → mW → Prop} (h : Q none (mHp 53, mIs61, mLs61, mRs61)) : mWp S 87 93 [some (.ref 44)] [] (mHp 53, mIs60, mLs60, mRs60) Q := mWp_blk [(93, .aload_n 0), (94, .getfield 19), (97, .iconst 1), (98, .bipush (Int.negSucc 8)), (100, .iastore), (101, .aload_n 0), (102, .getfield 19), (105, .iconst 2), (106, .bipush (Int.negSucc 8)), (108, .iastore), (109, .return_)] (by decide +kernel) ⟨by decide, by decide, h⟩
theorem N87 {S : mS} : mFn S 87 [.ref 44] (mHp 44, mIs50, mLs50, mRs50) none (mHp 53, mIs61, mLs61, mRs61) := mFn_of (T87_0 (T87_20 (T87_28 (T87_37 (T87_45 (T87_52 (T87_59 (T87_68 (T87_76 (T87_85 (T87_93 (⟨rfl, rfl⟩))))))))))))
theorem mSp0 : mSup mRs0 54 34 := fun a k h => by unfold mRs0 m_z; split <;> rfl
theorem mSp1 : mSup mRs1 54 34 := (mSp0).z
theorem mSp2 : mSup mRs2 54 34 := ((mSp1).z).up (by decide)
theorem mSp3 : mSup mRs3 54 34 := ((mSp2).up (by decide)).z
theorem mSp4 : mSup mRs4 54 34 := ((mSp3).z).up (by decide)
theorem mSp5 : mSup mRs5 54 34 := ((mSp4).up (by decide)).z
theorem mSp6 : mSup mRs6 54 34 := ((mSp5).z).up (by decide)
theorem mSp7 : mSup mRs7 54 34 := ((mSp6).up (by decide)).z
theorem mSp8 : mSup mRs8 54 34 := ((mSp7).z).up (by decide)
theorem mSp9 : mSup mRs9 54 34 := ((((((((((mSp8).up (by decide)).z).up (by decide)).z).up (by decide)).z).up (by decide)).z).up (by decide)).z
theorem mSp10 : mSup mRs10 54 34 := ((mSp9).up (by decide)).z
theorem mSp11 : mSup mRs11 54 34 := ((((((((mSp10).z).up (by decide)).z).up (by decide)).z).up (by decide)).z).up (by decide)
theorem mSp12 : mSup mRs12 54 34 := (mSp11).up (by decide)
theorem mSp13 : mSup mRs13 54 34 := (mSp12).z
theorem mSp14 : mSup mRs14 54 34 := ((mSp13).z).up (by decide)
theorem mSp15 : mSup mRs15 54 34 := (mSp14).up (by decide)
theorem mSp16 : mSup mRs16 54 34 := (mSp15).z
theorem mSp17 : mSup mRs17 54 34 := ((mSp16).z).up (by decide)
theorem mSp18 : mSup mRs18 54 34 := (mSp17).up (by decide)
theorem mSp19 : mSup mRs19 54 34 := (mSp18).z
theorem mSp20 : mSup mRs20 54 34 := ((mSp19).z).up (by decide)
theorem mSp21 : mSup mRs21 54 34 := (mSp20).up (by decide)
theorem mSp22 : mSup mRs22 54 34 := (mSp21).z
theorem mSp23 : mSup mRs23 54 34 := ((mSp22).z).up (by decide)
theorem mSp24 : mSup mRs24 54 34 := (mSp23).up (by decide)
theorem mSp25 : mSup mRs25 54 34 := (mSp24).z
theorem mSp26 : mSup mRs26 54 34 := ((mSp25).z).up (by decide)
theorem mSp27 : mSup mRs27 54 34 := (mSp26).up (by decide)
theorem mSp28 : mSup mRs28 54 34 := (mSp27).z
theorem mSp29 : mSup mRs29 54 34 := ((mSp28).z).up (by decide)
theorem mSp30 : mSup mRs30 54 34 := (mSp29).up (by decide)
theorem mSp31 : mSup mRs31 54 34 := (mSp30).z
theorem mSp32 : mSup mRs32 54 34 := ((mSp31).z).up (by decide)
theorem mSp33 : mSup mRs33 54 34 := (mSp32).up (by decide)
theorem mSp34 : mSup mRs34 54 34 := (mSp33).z
theorem mSp35 : mSup mRs35 54 34 := ((mSp34).z).up (by decide)
theorem mSp36 : mSup mRs36 54 34 := (mSp35).up (by decide)
theorem mSp37 : mSup mRs37 54 34 := (mSp36).z
theorem mSp38 : mSup mRs38 54 34 := ((mSp37).z).up (by decide)
theorem mSp39 : mSup mRs39 54 34 := (mSp38).up (by decide)
theorem mSp40 : mSup mRs40 54 34 := (mSp39).z
theorem mSp41 : mSup mRs41 54 34 := ((mSp40).z).up (by decide)
theorem mSp42 : mSup mRs42 54 34 := (mSp41).up (by decide)
theorem mSp43 : mSup mRs43 54 34 := (mSp42).z
theorem mSp44 : mSup mRs44 54 34 := ((mSp43).z).up (by decide)
theorem mSp45 : mSup mRs45 54 34 := (mSp44).up (by decide)
theorem mSp46 : mSup mRs46 54 34 := (mSp45).z
theorem mSp47 : mSup mRs47 54 34 := ((mSp46).z).up (by decide)
theorem mSp48 : mSup mRs48 54 34 := (mSp47).up (by decide)
theorem mSp49 : mSup mRs49 54 34 := mSp48
theorem mSp50 : mSup mRs50 54 34 := (mSp49).z
theorem mSp51 : mSup mRs51 54 34 := mSp50
theorem mSp52 : mSup mRs52 54 34 := ((mSp51).z).up (by decide)
theorem mSp53 : mSup mRs53 54 34 := ((mSp52).z).up (by decide)
theorem mSp54 : mSup mRs54 54 34 := ((mSp53).z).up (by decide)
theorem mSp55 : mSup mRs55 54 34 := ((mSp54).z).up (by decide)
theorem mSp56 : mSup mRs56 54 34 := ((mSp55).z).up (by decide)
theorem mSp57 : mSup mRs57 54 34 := ((mSp56).z).up (by decide)
theorem mSp58 : mSup mRs58 54 34 := ((mSp57).z).up (by decide)
theorem mSp59 : mSup mRs59 54 34 := ((mSp58).z).up (by decide)
theorem mSp60 : mSup mRs60 54 34 := ((mSp59).z).up (by decide)
theorem mSp61 : mSup mRs61 54 34 := mSp60
theorem mHp_53 : mHp 53 = mSH := by decide +kernel
theorem mRk_sup : mSup (mRk false) 54 34 := by
  have l1 : (mRkT false).length = 54 := by decide +kernel
  have l2 : ∀ a, a < 54 → ((mRkT false).getD a []).length ≤ 34 := by decide +kernel
  intro a k h
  unfold mRk
  by_cases ha : a < 54
  · rw [List.getD_eq_getElem?_getD, List.getElem?_eq_none (by have := l2 a ha; omega)]
    rfl
  · rw [List.getD_eq_getElem?_getD (l := mRkT false), List.getElem?_eq_none (by omega)]
    rfl
theorem mRs_end : mRs61 = mRk false := by
  have d : ∀ a, a < 54 → ∀ k, k < 34 → mRs61 a k = mRk false a k := by decide +kernel
  funext a k
  by_cases h : a < 54 ∧ k < 34
  · exact d a h.1 k h.2
  · rw [mSp61 a k h, mRk_sup a k h]
def mG0 : mG := (0, 0, 3, 0, 2, none, fun _ => 0)
def mY0 : mY := (0, none, 0, none, fun _ => 0, 0)
theorem mOk_0 : mOk mIs61 mLs61 false := by
  have g5 : ∀ k, k < 49 → mIs61 5 k = 0 := by decide +kernel
  have g9 : ∀ q, q < 4 → mIs61 9 q = 0 := by decide +kernel
  have s4 : ∀ q, q < 4 → mIs61 45 (0 + (4 + q)) = 0 := by decide +kernel
  refine ⟨mG0, mY0, (0, fun _ => mY0), fun _ => none, (0, fun _ => 0), (0, fun _ => none), 0, ⟨?_, ?_, ⟨Nat.zero_le _, fun i hi => absurd hi (Nat.not_lt_zero i)⟩, fun i z hz => absurd hz (by simp), ⟨Nat.zero_le _, fun i hi => absurd hi (Nat.not_lt_zero i)⟩, Nat.zero_le _, fun i c hi => absurd hi (Nat.not_lt_zero i)⟩, ⟨⟨by decide +kernel, by decide +kernel, by decide +kernel, by decide +kernel, by decide +kernel, by decide +kernel, g5⟩, ⟨by decide +kernel, by decide +kernel, by decide +kernel, by decide +kernel, g9, by decide +kernel⟩, ⟨0, by decide, by decide +kernel, by decide +kernel, fun i hi => absurd hi (Nat.not_lt_zero i)⟩, fun i hi => ?_, ⟨by decide +kernel, fun i hi => absurd hi (Nat.not_lt_zero i)⟩, ⟨by decide +kernel, fun i hi => absurd hi (Nat.not_lt_zero i)⟩, by decide +kernel⟩, ⟨⟨by decide +kernel, by decide +kernel, by decide +kernel, by decide +kernel, by decide +kernel, by decide +kernel⟩, ⟨by decide +kernel, by decide +kernel, by decide +kernel, by decide +kernel, s4, fun c hc => absurd hc.1 (Nat.not_lt_zero _)⟩, ⟨by decide +kernel, fun i hi => absurd hi (Nat.not_lt_zero i)⟩, fun i hi => ?_, ⟨by decide +kernel, fun i hi => absurd hi (Nat.not_lt_zero i)⟩, ⟨by decide +kernel, fun i hi => absurd hi (Nat.not_lt_zero i)⟩, by decide +kernel⟩⟩
  · exact ⟨⟨by decide, by decide⟩, by decide, by decide, by decide, ⟨by decide, by decide⟩, fun c hc => absurd (show (none : Option Nat) = some c from hc) (by simp), fun k hk => ⟨show ¬ (0 : Nat) = 1 by decide, show (0 : Nat) < 5 by decide⟩⟩
  · refine ⟨by decide, fun c hc => absurd (show (none : Option Nat) = some c from hc) (by simp), ⟨⟨fun _ => rfl, fun _ => rfl⟩, fun _ => rfl⟩, fun p hp => absurd (show (none : Option Nat) = some p from hp) (by simp), by decide, fun _ => show (0 : Nat) ≤ 7 by decide, fun k hk => ?_⟩
    have hk : mB 0 k = true := hk
    rw [mB_0] at hk
    exact absurd hk (by decide)
  · have : ∀ i, i < 2 → mIs61 12 i = 0 := by decide +kernel
    exact this i hi
  · have : ∀ i, i < 2 → mIs61 48 i = 0 := by decide +kernel
    exact this i hi
