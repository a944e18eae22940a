/-! what a run comes to, by blocks -/
def mWp (S : mS) (mi pc : Nat) (ls : mLs) (st : List Value) (w : mW) (Q : Option Value → mW → Prop) : Prop := ∃ n r w', m_run S n mi pc ls st w = some (r, w') ∧ Q r w'
def mFn (S : mS) (mi : Nat) (av : List Value) (w : mW) (r : Option Value) (w' : mW) : Prop := ∃ n, m_run S n mi 0 (m_ent mi av) [] w = some (r, w')
def mwp (S : mS) (mi : Nat) (Q : Option Value → mW → Prop) : List (Nat × Instr) → Nat → mLs → List Value → mW → Prop
  | [], pc, ls, st, w => mWp S mi pc ls st w Q
  | (p, i) :: is, pc, ls, st, w => match Nat.beq pc p with
    | false => False
    | true => match m_ret mi i st with
      | some (none, v) => Q v w
      | some (some g, v) => g = true ∧ Q v w
      | none => match m_cal mi i st w with
        | some _ => False
        | none => match m_exe S mi i pc ls st w with
          | some (none, pc', ls', st', w') => mwp S mi Q is pc' ls' st' w'
          | some (some g, pc', ls', st', w') => g = true ∧ mwp S mi Q is pc' ls' st' w'
          | none => False
def m_dec1 (mi : Nat) (p : Nat) (i : Instr) : Bool := match decode (m_cod mi) p with
  | .ok (j, len) => decide (j = i) && m_lenOk i len
  | .error _ => false
def m_dec (mi : Nat) (l : List (Nat × Instr)) : Bool := l.all fun q => m_dec1 mi q.1 q.2
theorem m_dec1_ok {mi p : Nat} {i : Instr} (h : m_dec1 mi p i = true) : ∃ len, decode (m_cod mi) p = .ok (i, len) ∧ m_lenOk i len = true := by
  unfold m_dec1 at h
  split at h
  next j len hd =>
    obtain ⟨h1, h2⟩ := Bool.and_eq_true_iff.mp h
    have h1 := of_decide_eq_true h1
    subst h1
    exact ⟨len, hd, h2⟩
  next => cases h
theorem m_run_more {S : mS} : ∀ (n : Nat) {mi pc : Nat} {ls : mLs} {st : List Value} {w : mW} {x : Option Value × mW}, m_run S n mi pc ls st w = some x → m_run S (n + 1) mi pc ls st w = some x := by
  intro n
  induction n with
  | zero => intro mi pc ls st w x h; cases h
  | succ n ih =>
    intro mi pc ls st w x h
    rw [m_run] at h ⊢
    split at h
    next => cases h
    next i len hd =>
      try rw [hd]
      try dsimp only
      split at h
      next => cases h
      next hl =>
        try rw [hl]
        try dsimp only
        split at h
        next g v0 hr =>
          try rw [hr]
          try dsimp only
          exact h
        next hr =>
          try rw [hr]
          try dsimp only
          split at h
          next m' av r hc =>
            try rw [hc]
            try dsimp only
            split at h
            next v1 w1 h1 =>
              rw [ih h1]
              try dsimp only
              exact ih h
            next => cases h
          next hc =>
            try rw [hc]
            try dsimp only
            split at h
            next g pc' ls' st' w1 he =>
              try rw [he]
              try dsimp only
              split at h
              next => cases h
              next hg =>
                exact ih h
            next => cases h
theorem m_run_le {S : mS} {n k mi pc : Nat} {ls : mLs} {st : List Value} {w : mW} {x : Option Value × mW} (h : m_run S n mi pc ls st w = some x) : m_run S (n + k) mi pc ls st w = some x := by
  induction k with
  | zero => exact h
  | succ k ih => exact m_run_more _ ih
theorem m_run_max {S : mS} {n k mi pc : Nat} {ls : mLs} {st : List Value} {w : mW} {x : Option Value × mW} (h : m_run S n mi pc ls st w = some x) (hk : n ≤ k) : m_run S k mi pc ls st w = some x := by
  obtain ⟨j, rfl⟩ : ∃ j, k = n + j := ⟨k - n, by omega⟩
  exact m_run_le h
theorem m_run_det {S : mS} {n k mi pc : Nat} {ls : mLs} {st : List Value} {w : mW} {x y : Option Value × mW} (h : m_run S n mi pc ls st w = some x) (h2 : m_run S k mi pc ls st w = some y) : x = y := by
  have a := m_run_max h (Nat.le_max_left n k)
  have b := m_run_max h2 (Nat.le_max_right n k)
  rw [a] at b
  exact Option.some.inj b
theorem mFn_det {S : mS} {mi : Nat} {av : List Value} {w w1 w2 : mW} {r1 r2 : Option Value} (h : mFn S mi av w r1 w1) (h2 : mFn S mi av w r2 w2) : r1 = r2 ∧ w1 = w2 := by
  obtain ⟨n, h⟩ := h
  obtain ⟨k, h2⟩ := h2
  have := m_run_det h h2
  cases this
  exact ⟨rfl, rfl⟩
theorem mFn_of {S : mS} {mi : Nat} {av : List Value} {w w' : mW} {r : Option Value} (h : mWp S mi 0 (m_ent mi av) [] w (fun r1 w1 => r1 = r ∧ w1 = w')) : mFn S mi av w r w' := by
  obtain ⟨n, r1, w1, h, rfl, rfl⟩ := h
  exact ⟨n, h⟩
theorem mFn_ex {S : mS} {mi : Nat} {av : List Value} {w : mW} {Q : Option Value → mW → Prop} (h : mWp S mi 0 (m_ent mi av) [] w Q) : ∃ r w', mFn S mi av w r w' ∧ Q r w' := by
  obtain ⟨n, r1, w1, h, hq⟩ := h
  exact ⟨r1, w1, ⟨n, h⟩, hq⟩
theorem mWp_mono {S : mS} {mi pc : Nat} {ls : mLs} {st : List Value} {w : mW} {Q Q' : Option Value → mW → Prop} (h : mWp S mi pc ls st w Q) (hq : ∀ r w', Q r w' → Q' r w') : mWp S mi pc ls st w Q' := by
  obtain ⟨n, r, w', h1, h2⟩ := h
  exact ⟨n, r, w', h1, hq _ _ h2⟩
theorem mWp_blk {S : mS} {mi : Nat} {Q : Option Value → mW → Prop} : ∀ (l : List (Nat × Instr)) {pc : Nat} {ls : mLs} {st : List Value} {w : mW}, m_dec mi l = true → (mwp S mi Q l pc ls st w) → mWp S mi pc ls st w Q
  | [], _, _, _, _, _, h => h
  | (p, i) :: is, pc, ls, st, w, hd, h => by
    obtain ⟨hd1, hd2⟩ := Bool.and_eq_true_iff.mp (show (m_dec1 mi p i && m_dec mi is) = true from hd)
    obtain ⟨len, hd, hl⟩ := m_dec1_ok hd1
    unfold mwp at h
    split at h
    next => exact absurd h (fun h => h)
    next hp =>
      have hp := Nat.eq_of_beq_eq_true hp
      subst hp
      have go : ∀ (n : Nat) (r : Option Value) (w' : mW), (m_run S (n + 1) mi pc ls st w = some (r, w')) → Q r w' → mWp S mi pc ls st w Q := fun n r w' h1 h2 => ⟨n + 1, r, w', h1, h2⟩
      split at h
      next v hr =>
        exact go 0 v w (by rw [m_run, hd]; simp only [hl, hr]) h
      next g v hr =>
        exact go 0 v w (by rw [m_run, hd]; simp only [hl, hr, h.1]) h.2
      next hr =>
        split at h
        next => exact absurd h (fun h => h)
        next hc =>
          split at h
          next pc' ls' st' w' he =>
            obtain ⟨n, r, w2, h1, h2⟩ := mWp_blk is hd2 h
            exact go n r w2 (by rw [m_run, hd]; simp only [hl, hr, hc, he]; exact h1) h2
          next g pc' ls' st' w' he =>
            obtain ⟨hg, h⟩ := h
            subst hg
            obtain ⟨n, r, w2, h1, h2⟩ := mWp_blk is hd2 h
            exact go n r w2 (by rw [m_run, hd]; simp only [hl, hr, hc, he]; exact h1) h2
          next => exact absurd h (fun h => h)
theorem mWp_call {S : mS} {mi m' pc : Nat} {i : Instr} {ls : mLs} {st av rest : List Value} {w w' : mW} {r : Option Value} {Q : Option Value → mW → Prop} (hd : m_dec1 mi pc i = true) (hc : m_ret mi i st = none ∧ m_cal mi i st w = some (m', av, rest)) (hf : mFn S m' av w r w')
    (h : mWp S mi (pc + 3) ls (r.toList ++ rest) w' Q) : mWp S mi pc ls st w Q := by
  obtain ⟨len, hd, hl⟩ := m_dec1_ok hd
  obtain ⟨n, hf⟩ := hf
  obtain ⟨k, r2, w2, h1, h2⟩ := h
  refine ⟨max n k + 1, r2, w2, ?_, h2⟩
  rw [m_run, hd]
  simp only [hl, hc.1, hc.2, m_run_max hf (Nat.le_max_left n k)]
  exact m_run_max h1 (Nat.le_max_right n k)
theorem mWp_ite {S : mS} {mi a b : Nat} {ls : mLs} {st : List Value} {w : mW} {Q : Option Value → mW → Prop} {c : Prop} [Decidable c] (h1 : c → mWp S mi a ls st w Q) (h2 : ¬ c → mWp S mi b ls st w Q) : mWp S mi (if c then a else b) ls st w Q := by
  by_cases h : c
  · rw [if_pos h]; exact h1 h
  · rw [if_neg h]; exact h2 h
