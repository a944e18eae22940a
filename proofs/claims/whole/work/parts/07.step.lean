/-! one instruction of the interpreter is one of the machine -/
def m_Cx (S : mS) (B b : Nat) (cA : Nat → ClassId) (D : va_G) (mi : Nat) (p : Program) (R : Room) (s : State) (m : MethodId) (args : Array Value) (meth : Method) (c : Code) : Prop :=
  p.tables.exec = Jvm.exec ∧ c.code = m_cod mi ∧ c.maxLocals = m_mxl mi ∧ s.vm.findClass (m_own mi) = some m.cls ∧ (∀ w ∈ m_gw, w.before args s = true) ∧ m_Sx S B b cA D s ∧ (m_isI mi = true → meth.name = "<init>") ∧ m_rF mi ≤ R.frames ∧ m_rL mi ≤ R.locals
def m_FW (B b : Nat) (cA : Nat → ClassId) (D : va_G) (mi : Nat) (p : Program) (l : Launch) (e : Env) (R : Room) (s : State) (m : MethodId) (args : Array Value) (below : List Frame) (meth : Method) (c : Code) (cells slots : Nat) (Q : State → Prop) (pc : Nat) (ls : mLs) (st : List Value) (w : mW) : Prop :=
  m_lgo mi ls → ∀ (H : Heap) (locs : List Loc) (la : Array Slot), m_Wo B b cA D w H → va_S (fun q => B ≤ q) s.heap H locs → lv_has la (m_mxl mi) (m_tl B b ls) →
    W p l e R s m args below meth c H locs cells slots Q (F0 m pc la (st.map (m_cv B b)))
theorem m_lk {i : Instr} {len n : Nat} (hl : m_lenOk i len = true) (h : m_len i = n) (h0 : ¬ n = 0) : n = len := by
  unfold m_lenOk at hl
  rw [h] at hl
  rcases Bool.or_eq_true_iff.mp hl with h1 | h1
  · exact absurd (Nat.eq_of_beq_eq_true h1) h0
  · exact Nat.eq_of_beq_eq_true h1
theorem m_i1_inv {α : Type} {st : List Value} {f : Int32 → List Value → Option α} {x : α} (h : m_i1 st f = some x) : ∃ a r, st = .int a :: r ∧ f a r = some x := by
  unfold m_i1 at h
  split at h
  · exact ⟨_, _, rfl, h⟩
  · cases h
theorem m_i2_inv {α : Type} {st : List Value} {f : Int32 → Int32 → List Value → Option α} {x : α} (h : m_i2 st f = some x) : ∃ a b r, st = .int b :: .int a :: r ∧ f a b r = some x := by
  unfold m_i2 at h
  split at h
  · exact ⟨_, _, _, rfl, h⟩
  · cases h
theorem m_l1_inv {α : Type} {st : List Value} {f : Int64 → List Value → Option α} {x : α} (h : m_l1 st f = some x) : ∃ a r, st = .long a :: r ∧ f a r = some x := by
  unfold m_l1 at h
  split at h
  · exact ⟨_, _, rfl, h⟩
  · cases h
theorem m_l2_inv {α : Type} {st : List Value} {f : Int64 → Int64 → List Value → Option α} {x : α} (h : m_l2 st f = some x) : ∃ a b r, st = .long b :: .long a :: r ∧ f a b r = some x := by
  unfold m_l2 at h
  split at h
  · exact ⟨_, _, _, rfl, h⟩
  · cases h
theorem m_li_inv {α : Type} {st : List Value} {f : Int64 → Int32 → List Value → Option α} {x : α} (h : m_li st f = some x) : ∃ a b r, st = .int b :: .long a :: r ∧ f a b r = some x := by
  unfold m_li at h
  split at h
  · exact ⟨_, _, _, rfl, h⟩
  · cases h
theorem m_a1_inv {α : Type} {st : List Value} {f : Nat → List Value → Option α} {x : α} (h : m_a1 st f = some x) : ∃ a r, st = .ref a :: r ∧ f a r = some x := by
  unfold m_a1 at h
  split at h
  · exact ⟨_, _, rfl, h⟩
  · cases h
theorem m_ai_inv {α : Type} {st : List Value} {f : Nat → Int32 → List Value → Option α} {x : α} (h : m_ai st f = some x) : ∃ a j r, st = .int j :: .ref a :: r ∧ f a j r = some x := by
  unfold m_ai at h
  split at h
  · exact ⟨_, _, _, rfl, h⟩
  · cases h
theorem m_aii_inv {α : Type} {st : List Value} {f : Nat → Int32 → Int32 → List Value → Option α} {x : α} (h : m_aii st f = some x) : ∃ a j v r, st = .int v :: .int j :: .ref a :: r ∧ f a j v r = some x := by
  unfold m_aii at h
  split at h
  · exact ⟨_, _, _, _, rfl, h⟩
  · cases h
theorem m_ail_inv {α : Type} {st : List Value} {f : Nat → Int32 → Int64 → List Value → Option α} {x : α} (h : m_ail st f = some x) : ∃ a j v r, st = .long v :: .int j :: .ref a :: r ∧ f a j v r = some x := by
  unfold m_ail at h
  split at h
  · exact ⟨_, _, _, _, rfl, h⟩
  · cases h
theorem m_aia_inv {α : Type} {st : List Value} {f : Nat → Int32 → Nat → List Value → Option α} {x : α} (h : m_aia st f = some x) : ∃ a j v r, st = .ref v :: .int j :: .ref a :: r ∧ f a j v r = some x := by
  unfold m_aia at h
  split at h
  · exact ⟨_, _, _, _, rfl, h⟩
  · cases h
theorem m_kd_inv {w : mW} {a k : Nat} {α : Type} {y : Option α} {x : α} (h : m_kd w a k y = some x) : Nat.beq (m_sh w a).1 k = true ∧ y = some x := by
  unfold m_kd at h
  split at h
  next hb => exact ⟨hb, h⟩
  next => cases h
theorem m_fnd_mem {α : Type} {l : List (Nat × α)} {k : Nat} {x : α} (h : m_fnd l k = some x) : (k, x) ∈ l := by
  induction l with
  | nil => cases h
  | cons q l ih =>
    obtain ⟨i, y⟩ := q
    unfold m_fnd at h
    split at h
    next hb =>
      cases h
      rw [Nat.eq_of_beq_eq_true hb]
      exact List.mem_cons_self
    next => exact List.mem_cons_of_mem _ (ih h)
theorem m_val_inv {ls : mLs} {k n pc t : Nat} {st : List Value} {w : mW} {x : Option Bool × mC} (h : m_val ls k n pc st w t = some x) : ∃ v, m_ld ls k = some v ∧ x = (none, pc + n, ls, v :: st, w) ∧ ((t = 0 ∧ ∃ y, v = .int y) ∨ (t = 1 ∧ ∃ y, v = .long y) ∨ (t = 2 ∧ ∃ y, v = .ref y)) := by
  unfold m_val at h
  split at h
  next y hv => cases h; exact ⟨_, hv, rfl, Or.inl ⟨rfl, _, rfl⟩⟩
  next y hv => cases h; exact ⟨_, hv, rfl, Or.inr (Or.inl ⟨rfl, _, rfl⟩)⟩
  next y hv => cases h; exact ⟨_, hv, rfl, Or.inr (Or.inr ⟨rfl, _, rfl⟩)⟩
  next => cases h
theorem m_put_inv {mi k n pc : Nat} {ls : mLs} {v : Value} {r : List Value} {w : mW} {x : Option Bool × mC} (h : m_put mi ls k n pc v r w = some x) : k < m_mxl mi ∧ (∀ j ∈ m_lg mi, ¬ j + 1 = k) ∧ x = (none, pc + n, ls.set k (some v), r, w) := by
  unfold m_put at h
  split at h
  next ls' hs =>
    cases h
    obtain ⟨rfl, h1, h2⟩ := m_sto_ok hs
    exact ⟨h1, h2, rfl⟩
  next => cases h
theorem m_put2_inv {mi k n pc : Nat} {ls : mLs} {v : Value} {r : List Value} {w : mW} {x : Option Bool × mC} (h : m_put2 mi ls k n pc v r w = some x) : k + 1 < m_mxl mi ∧ k ∈ m_lg mi ∧ (∀ j ∈ m_lg mi, ¬ j + 1 = k ∧ ¬ j = k + 1) ∧ x = (none, pc + n, (ls.set k (some v)).set (k + 1) none, r, w) := by
  unfold m_put2 at h
  split at h
  next ls' hs =>
    cases h
    obtain ⟨rfl, h1, h2, h3⟩ := m_sto2_ok hs
    exact ⟨h1, h2, h3, rfl⟩
  next => cases h
theorem m_tgt_ok {pc t : Nat} {off : Int} (h : m_tgt pc off = some t) : (pc : Int) + off = (t : Int) := by
  unfold m_tgt at h
  split at h
  next n hn => cases h; exact hn
  next => cases h
theorem m_offs_ok {pc : Nat} {os : List Int} (h : m_offs pc os = true) {o : Int} (ho : o ∈ os) : (pc : Int) + o = (((pc : Int) + o).toNat : Int) := by
  have := of_decide_eq_true (List.all_eq_true.mp h o ho)
  omega
theorem m_ofInt {x : Int32} {k : Int} (h1 : -2147483648 ≤ k) (h2 : k ≤ 2147483647) : x = Int32.ofInt k ↔ x.toInt = k := by
  have e : (Int32.ofInt k).toInt = k := Int32.toInt_ofInt_of_le (by simpa using h1) (by simp; omega)
  rw [← Int32.toInt_inj, e]
theorem m_tsw_ok (pc : Nat) (x : Int32) (d : Int) : ∀ (offs : List Int) (lo : Int), -2147483648 ≤ lo → lo + (offs.length : Int) - 1 ≤ 2147483647 →
    ((x.toInt < lo ∨ lo + (offs.length : Int) - 1 < x.toInt) → m_tsw pc x d lo offs = ((pc : Int) + d).toNat) ∧ (∀ o, lo ≤ x.toInt → offs[(x.toInt - lo).toNat]? = some o → m_tsw pc x d lo offs = ((pc : Int) + o).toNat)
  | [], lo, _, _ => ⟨fun _ => rfl, fun o _ h => by simp at h⟩
  | o :: os, lo, h1, h2 => by
    simp only [List.length_cons, Int.natCast_add] at h2 ⊢
    have ih := m_tsw_ok pc x d os (lo + 1) (by omega) (by omega)
    have hx : x = Int32.ofInt lo ↔ x.toInt = lo := m_ofInt h1 (by omega)
    refine ⟨fun h => ?_, fun u h3 h4 => ?_⟩
    · unfold m_tsw
      rw [if_neg (fun q => by have := hx.mp q; omega)]
      exact ih.1 (by omega)
    · unfold m_tsw
      by_cases hq : x.toInt = lo
      · rw [if_pos (hx.mpr hq)]
        rw [show (x.toInt - lo).toNat = 0 by omega] at h4
        cases h4
        rfl
      · rw [if_neg (fun q => hq (hx.mp q))]
        refine ih.2 u (by omega) ?_
        rw [show (x.toInt - lo).toNat = (x.toInt - (lo + 1)).toNat + 1 by omega, List.getElem?_cons_succ] at h4
        exact h4
theorem m_lsw_ok (pc : Nat) (x : Int32) (d : Int) : ∀ (ps : List (Int × Int)), (∀ q ∈ ps, -2147483648 ≤ q.1 ∧ q.1 ≤ 2147483647) → m_lsw pc x d ps = ((pc : Int) + Op.lookupswitch.offset ps d x.toInt).toNat
  | [], _ => by rw [Op.lookupswitch.offset_nil]; rfl
  | (k, o) :: ps, h => by
    have hk := h (k, o) List.mem_cons_self
    have hx : x = Int32.ofInt k ↔ x.toInt = k := m_ofInt hk.1 hk.2
    rw [Op.lookupswitch.offset_cons]
    unfold m_lsw
    by_cases hq : x.toInt = k
    · rw [if_pos (hx.mpr hq)]
      first | rw [if_pos hq] | rw [if_pos hq.symm]
    · rw [if_neg (fun q => hq (hx.mp q))]
      first | rw [if_neg hq] | rw [if_neg (fun q => hq q.symm)]
      exact m_lsw_ok pc x d ps (fun q hq => h q (List.mem_cons_of_mem _ hq))
theorem m_offmem (d : Int) (x : Int) : ∀ (ps : List (Int × Int)), Op.lookupswitch.offset ps d x ∈ d :: ps.map Prod.snd
  | [] => by rw [Op.lookupswitch.offset_nil]; exact List.mem_cons_self
  | (k, o) :: ps => by
    rw [Op.lookupswitch.offset_cons]
    split
    · exact List.mem_cons_of_mem _ List.mem_cons_self
    · rcases List.mem_cons.mp (m_offmem d x ps) with h | h
      · rw [h]; exact List.mem_cons_self
      · exact List.mem_cons_of_mem _ (List.mem_cons_of_mem _ h)
section STEP
variable {S : mS} {B b : Nat} {cA : Nat → ClassId} {D : va_G} {mi : Nat} {p : Program} {l : Launch} {e : Env} {R : Room} {s : State} {m : MethodId} {args : Array Value} {below : List Frame} {meth : Method} {c : Code} {cells slots : Nat} {Q : State → Prop}
theorem m_stp {pc pc' : Nat} {ls : mLs} {st st' : List Value} {w : mW} (h : ∀ (H : Heap) (locs : List Loc) (la : Array Slot), m_Wo B b cA D w H → va_S (fun q => B ≤ q) s.heap H locs → lv_has la (m_mxl mi) (m_tl B b ls) → W p l e R s m args below meth c H locs cells slots Q (F0 m pc' la (st'.map (m_cv B b))) → W p l e R s m args below meth c H locs cells slots Q (F0 m pc la (st.map (m_cv B b))))
    (k : m_FW B b cA D mi p l e R s m args below meth c (cells + (w.1.length - w.1.length)) (slots + (m_szs w - m_szs w)) Q pc' ls st' w) : m_FW B b cA D mi p l e R s m args below meth c cells slots Q pc ls st w := by
  rw [Nat.sub_self, Nat.sub_self, Nat.add_zero, Nat.add_zero] at k
  exact fun hg H locs la hW hS hL => h H locs la hW hS hL (k hg H locs la hW hS hL)
theorem m_stl {pc pc' k : Nat} {ls : mLs} {v : Value} {st st' : List Value} {w : mW} (hv : v.category = 1) (hk : ∀ j ∈ m_lg mi, ¬ j + 1 = k)
    (h : ∀ (H : Heap) (locs : List Loc) (la : Array Slot), lv_has la (m_mxl mi) (m_tl B b ls) → (∀ la' : Array Slot, lv_has la' (m_mxl mi) ((k, m_cv B b v) :: (m_tl B b ls).filter (fun q => !(q.1 == k) && !(q.1 + 1 == k && q.2.category == 2))) → W p l e R s m args below meth c H locs cells slots Q (F0 m pc' la' (st'.map (m_cv B b)))) → W p l e R s m args below meth c H locs cells slots Q (F0 m pc la (st.map (m_cv B b))))
    (kk : m_FW B b cA D mi p l e R s m args below meth c (cells + (w.1.length - w.1.length)) (slots + (m_szs w - m_szs w)) Q pc' (ls.set k (some v)) st' w) : m_FW B b cA D mi p l e R s m args below meth c cells slots Q pc ls st w := by
  rw [Nat.sub_self, Nat.sub_self, Nat.add_zero, Nat.add_zero] at kk
  exact fun hg H locs la hW hS hL => h H locs la hL (fun la' hL' => kk (m_lgo_set hg hv) H locs la' hW hS (m_has_set hg hk hL'))
theorem m_stl2 {pc pc' k : Nat} {ls : mLs} {v : Value} {st st' : List Value} {w : mW} (hk0 : k ∈ m_lg mi) (hk : ∀ j ∈ m_lg mi, ¬ j + 1 = k ∧ ¬ j = k + 1)
    (h : ∀ (H : Heap) (locs : List Loc) (la : Array Slot), lv_has la (m_mxl mi) (m_tl B b ls) → (∀ la' : Array Slot, lv_has la' (m_mxl mi) ((k, m_cv B b v) :: (m_tl B b ls).filter (fun q => !(q.1 == k) && (!(q.1 == k + 1) && !(q.1 + 1 == k && q.2.category == 2)))) → W p l e R s m args below meth c H locs cells slots Q (F0 m pc' la' (st'.map (m_cv B b)))) → W p l e R s m args below meth c H locs cells slots Q (F0 m pc la (st.map (m_cv B b))))
    (kk : m_FW B b cA D mi p l e R s m args below meth c (cells + (w.1.length - w.1.length)) (slots + (m_szs w - m_szs w)) Q pc' ((ls.set k (some v)).set (k + 1) none) st' w) : m_FW B b cA D mi p l e R s m args below meth c cells slots Q pc ls st w := by
  rw [Nat.sub_self, Nat.sub_self, Nat.add_zero, Nat.add_zero] at kk
  exact fun hg H locs la hW hS hL => h H locs la hL (fun la' hL' => kk (m_lgo_set2 hg hk0) H locs la' hW hS (m_has_set2 hg hk hL'))
/-- a step that changes the world, not what was made -/
theorem m_stw {pc pc' : Nat} {ls : mLs} {st st' : List Value} {w w' : mW} (hw1 : w'.1 = w.1) (h : ∀ (H : Heap) (locs : List Loc) (la : Array Slot), m_Wo B b cA D w H → va_S (fun q => B ≤ q) s.heap H locs → (∀ (H1 : Heap) (locs1 : List Loc), m_Wo B b cA D w' H1 → va_S (fun q => B ≤ q) s.heap H1 locs1 → W p l e R s m args below meth c H1 locs1 cells slots Q (F0 m pc' la (st'.map (m_cv B b)))) → W p l e R s m args below meth c H locs cells slots Q (F0 m pc la (st.map (m_cv B b))))
    (k : m_FW B b cA D mi p l e R s m args below meth c (cells + (w'.1.length - w.1.length)) (slots + (m_szs w' - m_szs w)) Q pc' ls st' w') : m_FW B b cA D mi p l e R s m args below meth c cells slots Q pc ls st w := by
  unfold m_szs at k
  rw [hw1, Nat.sub_self, Nat.sub_self, Nat.add_zero, Nat.add_zero] at k
  exact fun hg H locs la hW hS hL => h H locs la hW hS (fun H1 locs1 hW1 hS1 => k hg H1 locs1 la hW1 hS1 hL)
end STEP
