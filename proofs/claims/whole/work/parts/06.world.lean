/-! abstract worlds and the machine's heap -/
def m_ad (B b : Nat) (i : Nat) : Nat := match i with
  | 0 => b
  | i + 1 => B + i
def m_cv (B b : Nat) (v : Value) : Value := match v with
  | .ref a => .ref (m_ad B b a)
  | v => v
def m_ce (B b : Nat) (cA : Nat → ClassId) (w : mW) (q : Nat × Nat) (a : Nat) : va_E :=
  if q.1 < 7 then .inr (q.1, (List.range (m_N q.1)).map fun j => m_cv B b (m_fv w a j (m_tco (m_ty q.1 j))))
  else .inl (cA q.1, (q.2, if q.1 = 9 then .inr (.inl (w.2.2.1 a)) else if q.1 = 11 then .inr (.inr (.inr (.inr fun j => (w.2.2.2 a j).map (m_ad B b)))) else .inl (w.2.1 a)))
def m_wl (B b : Nat) (cA : Nat → ClassId) (w : mW) : va_W := w.1.mapIdx (fun i q => (B + i, m_ce B b cA w q (i + 1)))
def m_tyl (cA : Nat → ClassId) : List (ClassId × FieldType) := [(cA 7, .char), (cA 8, .int), (cA 9, .long), (cA 10, .boolean), (cA 11, .object RX1)]
def m_Wo (B b : Nat) (cA : Nat → ClassId) (D : va_G) (w : mW) (H : Heap) : Prop := H.size = B + w.1.length ∧ va_P D vwCl (m_wl B b cA w) H
def m_Sx (S : mS) (B b : Nat) (cA : Nat → ClassId) (D : va_G) (s : State) : Prop := va_K D vwCl (m_tyl cA) s ∧ (∀ w ∈ m_nw, va_Nw w s) ∧ va_AO RX1 s ∧ va_X b S.1 S.2 s s.heap ∧ b < B ∧ B ≤ s.heap.size
def m_tl (B b : Nat) (ls : mLs) : List (Nat × Value) := (List.range ls.length).filterMap fun j => (m_ld ls j).map fun v => (j, m_cv B b v)
def m_szs (w : mW) : Nat := (w.1.map fun q => if q.1 < 7 then m_N q.1 else q.2).sum
theorem m_cv_cat (B b : Nat) (v : Value) : (m_cv B b v).category = v.category := by cases v <;> rfl
theorem m_cv_rf (B b : Nat) (r : Option Nat) : m_cv B b (va_rf r) = va_rf (r.map (m_ad B b)) := by cases r <;> rfl
theorem m_cs_cv (B b : Nat) (st : List Value) : ((st.map (m_cv B b)).map fun v => v.category).sum = m_cs st := by
  unfold m_cs
  rw [List.map_map]
  congr 1
  exact List.map_congr_left fun v _ => m_cv_cat B b v
theorem m_wl_get {B b : Nat} {cA : Nat → ClassId} {w : mW} {i : Nat} {q : Nat × Nat} (h : w.1[i]? = some q) : (m_wl B b cA w)[i]? = some (B + i, m_ce B b cA w q (i + 1)) := by
  unfold m_wl
  rw [List.getElem?_mapIdx, h]
  rfl
theorem m_wl_some {B b : Nat} {cA : Nat → ClassId} {w : mW} {i : Nat} {x : Nat × va_E} (h : (m_wl B b cA w)[i]? = some x) : ∃ q, w.1[i]? = some q ∧ x = (B + i, m_ce B b cA w q (i + 1)) := by
  unfold m_wl at h
  rw [List.getElem?_mapIdx] at h
  cases hq : w.1[i]? with
  | none => rw [hq] at h; cases h
  | some q => rw [hq] at h; exact ⟨q, rfl, (Option.some.inj h).symm⟩
theorem m_D {B b : Nat} {cA : Nat → ClassId} {w : mW} : va_D (fun q => B ≤ q) (m_wl B b cA w) := by
  refine ⟨fun i j x y hi hj h => ?_, fun k x hk => ?_⟩
  · obtain ⟨q, -, rfl⟩ := m_wl_some hi
    obtain ⟨q', -, rfl⟩ := m_wl_some hj
    have h : B + i = B + j := h
    omega
  · obtain ⟨q, -, rfl⟩ := m_wl_some hk
    exact Nat.le_add_right _ _
theorem m_sh_get {w : mW} {a k : Nat} (h : Nat.beq (m_sh w a).1 k = true) (hk : k < 99) : ∃ i n, a = i + 1 ∧ w.1[i]? = some (k, n) ∧ (m_sh w a).2 = n := by
  have h := Nat.eq_of_beq_eq_true h
  cases a with
  | zero => have h : 99 = k := h; omega
  | succ i =>
    simp only [m_sh] at h ⊢
    rw [List.getD_eq_getElem?_getD] at h ⊢
    cases hq : w.1[i]? with
    | none => rw [hq] at h; have h : 99 = k := h; omega
    | some q =>
      obtain ⟨x, n⟩ := q
      rw [hq] at h
      have h : x = k := h
      subst h
      exact ⟨i, n, rfl, hq, rfl⟩
theorem m_ce_obj {B b : Nat} {cA : Nat → ClassId} {w : mW} {k n a : Nat} (h : k < 7) : m_ce B b cA w (k, n) a = .inr (k, (List.range (m_N k)).map fun j => m_cv B b (m_fv w a j (m_tco (m_ty k j)))) := by
  simp [m_ce, h]
theorem m_ce_c {B b : Nat} {cA : Nat → ClassId} {w : mW} {n a : Nat} : m_ce B b cA w (7, n) a = .inl (cA 7, n, .inl (w.2.1 a)) := by simp [m_ce]
theorem m_ce_i {B b : Nat} {cA : Nat → ClassId} {w : mW} {n a : Nat} : m_ce B b cA w (8, n) a = .inl (cA 8, n, .inl (w.2.1 a)) := by simp [m_ce]
theorem m_ce_l {B b : Nat} {cA : Nat → ClassId} {w : mW} {n a : Nat} : m_ce B b cA w (9, n) a = .inl (cA 9, n, .inr (.inl (w.2.2.1 a))) := by simp [m_ce]
theorem m_ce_z {B b : Nat} {cA : Nat → ClassId} {w : mW} {n a : Nat} : m_ce B b cA w (10, n) a = .inl (cA 10, n, .inl (w.2.1 a)) := by simp [m_ce]
theorem m_ce_q {B b : Nat} {cA : Nat → ClassId} {w : mW} {n a : Nat} : m_ce B b cA w (11, n) a = .inl (cA 11, n, .inr (.inr (.inr (.inr fun j => (w.2.2.2 a j).map (m_ad B b))))) := by simp [m_ce]
theorem m_ce_congr {B b : Nat} {cA : Nat → ClassId} {w w' : mW} {q : Nat × Nat} {a : Nat} (h : w'.2.1 a = w.2.1 a ∧ w'.2.2.1 a = w.2.2.1 a ∧ w'.2.2.2 a = w.2.2.2 a) : m_ce B b cA w' q a = m_ce B b cA w q a := by
  obtain ⟨h1, h2, h3⟩ := h
  unfold m_ce m_fv
  rw [h1, h2, h3]
theorem m_Wo_set {B b : Nat} {cA : Nat → ClassId} {D : va_G} {w w' : mW} {H H1 : Heap} {i : Nat} {q : Nat × Nat} (hW : m_Wo B b cA D w H) (hq : w.1[i]? = some q) (hw1 : w'.1 = w.1)
    (hsame : ∀ a, a ≠ i + 1 → w'.2.1 a = w.2.1 a ∧ w'.2.2.1 a = w.2.2.1 a ∧ w'.2.2.2 a = w.2.2.2 a) (he : va_at D vwCl (B + i, m_ce B b cA w' q (i + 1)) H1) (z : H1.size = H.size) (oq : ∀ x : Nat, x ≠ B + i → H1[x]? = H[x]?) : m_Wo B b cA D w' H1 := by
  refine ⟨by rw [z, hw1]; exact hW.1, fun k x hk => ?_⟩
  obtain ⟨q', h1, rfl⟩ := m_wl_some hk
  by_cases hki : k = i
  · subst hki
    rw [hw1, hq] at h1
    cases h1
    exact he
  · rw [hw1] at h1
    rw [m_ce_congr (hsame (k + 1) (by omega))]
    exact (hW.2 k _ (m_wl_get h1)).kept (oq _ (by show B + k ≠ B + i; omega))
theorem m_up_ne {α : Type} {f : Nat → Nat → α} {a k x : Nat} {v : α} (h : x ≠ a) : m_up f a k v x = f x := by
  funext y
  simp [m_up, h]
theorem m_up_eq {α : Type} {f : Nat → Nat → α} {a k : Nat} {v : α} (y : Nat) : m_up f a k v a y = if y = k then v else f a y := by simp [m_up]
theorem m_z_ne {α : Type} {f : Nat → Nat → α} {a x : Nat} {v : α} (h : x ≠ a) : m_z f a v x = f x := by
  funext y
  simp [m_z, h]
theorem m_z_eq {α : Type} {f : Nat → Nat → α} {a : Nat} {v : α} (y : Nat) : m_z f a v a y = v := by simp [m_z]
theorem m_Wo_new {B b : Nat} {cA : Nat → ClassId} {D : va_G} {w : mW} {H H1 : Heap} {q : Nat × Nat} (hW : m_Wo B b cA D w H) (he : va_at D vwCl (H.size, m_ce B b cA (m_new w q) q (w.1.length + 1)) H1) (z : H1.size = H.size + 1) (oq : ∀ x : Nat, x < H.size → H1[x]? = H[x]?) : m_Wo B b cA D (m_new w q) H1 := by
  refine ⟨by rw [z, hW.1]; simp [m_new]; omega, fun k x hk => ?_⟩
  obtain ⟨q', h1, rfl⟩ := m_wl_some hk
  by_cases hl : k < w.1.length
  · have h2 : w.1[k]? = some q' := by rw [← h1]; exact (List.getElem?_append_left hl).symm
    rw [m_ce_congr (w := w) ⟨m_z_ne (by omega), m_z_ne (by omega), m_z_ne (by omega)⟩]
    have h3 := hW.2 k _ (m_wl_get h2)
    exact h3.kept (oq _ h3.lt)
  · have h2 : (w.1 ++ [q])[k]? = some q' := h1
    rw [List.getElem?_append_right (by omega)] at h2
    have hz : k - w.1.length < 1 := (List.getElem?_eq_some_iff.mp h2).1
    have hk0 : k = w.1.length := by omega
    subst hk0
    rw [Nat.sub_self] at h2
    cases h2
    rw [← hW.1]
    exact he
theorem m_tl_mem {B b : Nat} {ls : mLs} {x : Nat × Value} : x ∈ m_tl B b ls ↔ ∃ v, m_ld ls x.1 = some v ∧ x.2 = m_cv B b v := by
  unfold m_tl
  rw [List.mem_filterMap]
  constructor
  · rintro ⟨j, -, h⟩
    cases hv : m_ld ls j with
    | none => rw [hv] at h; cases h
    | some v =>
      rw [hv] at h
      have h := Option.some.inj h
      subst h
      exact ⟨v, hv, rfl⟩
  · rintro ⟨v, h1, h2⟩
    refine ⟨x.1, ?_, by rw [h1]; show some (x.1, m_cv B b v) = some x; rw [← h2]⟩
    rw [List.mem_range]
    unfold m_ld at h1
    cases hq : ls[x.1]? with
    | none => rw [hq] at h1; cases h1
    | some o => exact (List.getElem?_eq_some_iff.mp hq).1
theorem m_has_at {B b : Nat} {la : Array Slot} {n : Nat} {ls : mLs} {k : Nat} {v : Value} (h : lv_has la n (m_tl B b ls)) (hv : m_ld ls k = some v) : la[k]? = some (.val (m_cv B b v)) := h.2.2 (k, m_cv B b v) (m_tl_mem.mpr ⟨v, hv, rfl⟩)
theorem m_has_mono {la : Array Slot} {n : Nat} {l l' : List (Nat × Value)} (h : lv_has la n l) (hs : ∀ q ∈ l', q ∈ l) : lv_has la n l' := ⟨h.1, h.2.1, fun q hq => h.2.2 q (hs q hq)⟩
theorem m_ld_set {ls : mLs} {k j : Nat} {v u : Value} (h : m_ld (ls.set k (some v)) j = some u) : (j = k ∧ u = v) ∨ (j ≠ k ∧ m_ld ls j = some u) := by
  unfold m_ld at h ⊢
  by_cases hjk : j = k
  · subst hjk
    rw [List.getElem?_set] at h
    split at h
    next x hx =>
      split at hx
      · split at hx
        · cases hx
          cases h
          exact Or.inl ⟨rfl, rfl⟩
        · cases hx
      · exact absurd rfl ‹_›
    next => cases h
  · rw [List.getElem?_set_ne (Ne.symm hjk)] at h
    exact Or.inr ⟨hjk, h⟩
theorem m_ld_setn {ls : mLs} {k j : Nat} {u : Value} (h : m_ld (ls.set k none) j = some u) : j ≠ k ∧ m_ld ls j = some u := by
  unfold m_ld at h ⊢
  by_cases hjk : j = k
  · subst hjk
    rw [List.getElem?_set] at h
    split at h
    next x hx =>
      split at hx
      · split at hx <;> cases hx
      · exact absurd rfl ‹_›
    next => cases h
  · rw [List.getElem?_set_ne (Ne.symm hjk)] at h
    exact ⟨hjk, h⟩
/-- longs lie where they may -/
def m_lgo (mi : Nat) (ls : mLs) : Prop := ∀ (i : Nat) (v : Value), m_ld ls i = some v → v.category = 2 → i ∈ m_lg mi
theorem m_sto_ok {mi k : Nat} {ls ls' : mLs} {v : Value} (h : m_sto mi ls k v = some ls') : ls' = ls.set k (some v) ∧ k < m_mxl mi ∧ ∀ j ∈ m_lg mi, ¬ j + 1 = k := by
  unfold m_sto at h
  split at h
  next => cases h
  next hb =>
    rw [Bool.or_eq_false_iff, List.any_eq_false] at hb
    refine ⟨(Option.some.inj h).symm, ?_, fun j hj e => hb.1 j hj (by rw [e]; exact Nat.beq_refl k)⟩
    have h2 := hb.2
    simp only [Bool.not_eq_false'] at h2
    exact Nat.le_of_ble_eq_true h2
theorem m_sto2_ok {mi k : Nat} {ls ls' : mLs} {v : Value} (h : m_sto2 mi ls k v = some ls') : ls' = (ls.set k (some v)).set (k + 1) none ∧ k + 1 < m_mxl mi ∧ k ∈ m_lg mi ∧ ∀ j ∈ m_lg mi, ¬ j + 1 = k ∧ ¬ j = k + 1 := by
  unfold m_sto2 at h
  split at h
  next => cases h
  next hb =>
    rw [Bool.or_eq_false_iff, Bool.or_eq_false_iff, List.any_eq_false] at hb
    obtain ⟨⟨h1, h2⟩, h3⟩ := hb
    simp only [Bool.not_eq_false'] at h2 h3
    refine ⟨(Option.some.inj h).symm, Nat.le_of_ble_eq_true h3, ?_, fun j hj => ⟨fun e => ?_, fun e => ?_⟩⟩
    · obtain ⟨j, hj, e⟩ := List.any_eq_true.mp h2
      rw [← Nat.eq_of_beq_eq_true e]
      exact hj
    · exact h1 j hj (by rw [e, Nat.beq_refl]; rfl)
    · exact h1 j hj (by rw [e, Nat.beq_refl, Bool.or_true])
theorem m_lgo_set {mi k : Nat} {ls : mLs} {v : Value} (h : m_lgo mi ls) (hv : v.category = 1) : m_lgo mi (ls.set k (some v)) := by
  intro i u hu hc
  rcases m_ld_set hu with ⟨-, rfl⟩ | ⟨-, h1⟩
  · omega
  · exact h i u h1 hc
theorem m_lgo_set2 {mi k : Nat} {ls : mLs} {v : Value} (h : m_lgo mi ls) (hk : k ∈ m_lg mi) : m_lgo mi ((ls.set k (some v)).set (k + 1) none) := by
  intro i u hu hc
  rcases m_ld_set (m_ld_setn hu).2 with ⟨rfl, -⟩ | ⟨-, h1⟩
  · exact hk
  · exact h i u h1 hc
theorem m_has_set {B b mi k : Nat} {la : Array Slot} {n : Nat} {ls : mLs} {v : Value} (hg : m_lgo mi ls) (hk : ∀ j ∈ m_lg mi, ¬ j + 1 = k) (h : lv_has la n ((k, m_cv B b v) :: (m_tl B b ls).filter (fun q => !(q.1 == k) && !(q.1 + 1 == k && q.2.category == 2)))) : lv_has la n (m_tl B b (ls.set k (some v))) := by
  refine m_has_mono h fun q hq => ?_
  obtain ⟨u, h1, h2⟩ := m_tl_mem.mp hq
  rcases m_ld_set h1 with ⟨e1, rfl⟩ | ⟨e1, h3⟩
  · obtain ⟨x, y⟩ := q
    dsimp only at e1 h2
    subst e1; subst h2
    exact List.mem_cons_self
  · refine List.mem_cons_of_mem _ (List.mem_filter.mpr ⟨m_tl_mem.mpr ⟨u, h3, h2⟩, ?_⟩)
    by_cases hc : q.1 + 1 = k
    · have hn : ¬ u.category = 2 := fun hc2 => hk q.1 (hg _ _ h3 hc2) hc
      have hn2 : ¬ q.2.category = 2 := by rw [h2, m_cv_cat]; exact hn
      simp [e1, hn2]
    · simp [e1, hc]
theorem m_has_set2 {B b mi k : Nat} {la : Array Slot} {n : Nat} {ls : mLs} {v : Value} (hg : m_lgo mi ls) (hk : ∀ j ∈ m_lg mi, ¬ j + 1 = k ∧ ¬ j = k + 1) (h : lv_has la n ((k, m_cv B b v) :: (m_tl B b ls).filter (fun q => !(q.1 == k) && (!(q.1 == k + 1) && !(q.1 + 1 == k && q.2.category == 2))))) : lv_has la n (m_tl B b ((ls.set k (some v)).set (k + 1) none)) := by
  refine m_has_mono h fun q hq => ?_
  obtain ⟨u, h1, h2⟩ := m_tl_mem.mp hq
  obtain ⟨e0, h1⟩ := m_ld_setn h1
  rcases m_ld_set h1 with ⟨e1, rfl⟩ | ⟨e1, h3⟩
  · obtain ⟨x, y⟩ := q
    dsimp only at e1 h2
    subst e1; subst h2
    exact List.mem_cons_self
  · refine List.mem_cons_of_mem _ (List.mem_filter.mpr ⟨m_tl_mem.mpr ⟨u, h3, h2⟩, ?_⟩)
    by_cases hc : q.1 + 1 = k
    · have hn : ¬ u.category = 2 := fun hc2 => (hk q.1 (hg _ _ h3 hc2)).1 hc
      have hn2 : ¬ q.2.category = 2 := by rw [h2, m_cv_cat]; exact hn
      simp [e1, e0, hn2]
    · simp [e1, e0, hc]
theorem m_slots_lg (B b : Nat) (vs : List Value) : (lg_sl (vs.map (m_cv B b))).length = (m_slots vs).length := by
  induction vs with
  | nil => rfl
  | cons v l ih =>
    simp only [lg_sl, m_slots, List.map_cons, List.flatMap_cons, List.length_append, m_cv_cat] at ih ⊢
    rw [ih]
    congr 1
    by_cases hc : v.category = 2
    · rw [if_pos hc, hc]; rfl
    · rw [if_neg hc]
      have : Nat.beq v.category 2 = false := by
        cases hb : Nat.beq v.category 2 with
        | false => rfl
        | true => exact absurd (Nat.eq_of_beq_eq_true hb) hc
      rw [this]; rfl
theorem m_slots_len (vs : List Value) : (m_slots vs).length = m_cs vs := by
  induction vs with
  | nil => rfl
  | cons v l ih =>
    have e : m_slots (v :: l) = (match Nat.beq v.category 2 with | true => [some v, none] | false => [some v]) ++ m_slots l := rfl
    have e2 : m_cs (v :: l) = v.category + m_cs l := by simp [m_cs]
    rw [e, e2, List.length_append, ih]
    congr 1
    cases v <;> rfl
theorem m_ld_ent {vs : List Value} {k j : Nat} {u : Value} : ∀ (pre : mLs), m_ld (pre ++ m_slots vs ++ List.replicate k none) j = some u → (∃ v, pre[j]? = some v) ∨ (j, u) ∈ lv_args pre.length vs := by
  induction vs with
  | nil =>
    intro pre h
    left
    simp only [m_slots, List.flatMap_nil, List.append_nil] at h
    unfold m_ld at h
    by_cases hl : j < pre.length
    · exact ⟨_, List.getElem?_eq_getElem hl⟩
    · rw [List.getElem?_append_right (by omega), List.getElem?_replicate] at h
      split at h
      next x hx => split at hx <;> cases hx
      next => cases h
  | cons v l ih =>
    intro pre h
    by_cases hc : v.category = 2
    · have e : m_slots (v :: l) = [some v, none] ++ m_slots l := by simp [m_slots, hc]
      have e3 : lv_args pre.length (v :: l) = (pre.length, v) :: lv_args (pre.length + 2) l := by simp [lv_args, hc]
      rw [e, ← List.append_assoc] at h
      rcases ih (pre ++ [some v, none]) h with ⟨x, hx⟩ | h1
      · by_cases hl : j < pre.length
        · exact Or.inl ⟨_, List.getElem?_eq_getElem hl⟩
        · right
          unfold m_ld at h
          rw [List.append_assoc, List.getElem?_append_left (List.getElem?_eq_some_iff.mp hx).1, List.getElem?_append_right (by omega)] at h
          have hl2 := (List.getElem?_eq_some_iff.mp hx).1
          simp only [List.length_append, List.length_cons, List.length_nil] at hl2
          rcases (by omega : j - pre.length = 0 ∨ j - pre.length = 1) with z | z
          · rw [z] at h
            have h : some v = some u := h
            cases h
            rw [e3, show j = pre.length by omega]
            exact List.mem_cons_self
          · rw [z] at h
            cases h
      · right
        rw [e3]
        refine List.mem_cons_of_mem _ ?_
        simpa using h1
    · have e : m_slots (v :: l) = [some v] ++ m_slots l := by
        have hb : Nat.beq v.category 2 = false := by
          cases hb : Nat.beq v.category 2 with
          | false => rfl
          | true => exact absurd (Nat.eq_of_beq_eq_true hb) hc
        simp [m_slots, hb]
      have e3 : lv_args pre.length (v :: l) = (pre.length, v) :: lv_args (pre.length + 1) l := by simp [lv_args, hc]
      rw [e, ← List.append_assoc] at h
      rcases ih (pre ++ [some v]) h with ⟨x, hx⟩ | h1
      · by_cases hl : j < pre.length
        · exact Or.inl ⟨_, List.getElem?_eq_getElem hl⟩
        · right
          unfold m_ld at h
          rw [List.append_assoc, List.getElem?_append_left (List.getElem?_eq_some_iff.mp hx).1, List.getElem?_append_right (by omega)] at h
          have hl2 := (List.getElem?_eq_some_iff.mp hx).1
          simp only [List.length_append, List.length_cons, List.length_nil] at hl2
          have z : j - pre.length = 0 := by omega
          rw [z] at h
          have h : some v = some u := h
          cases h
          rw [e3, show j = pre.length by omega]
          exact List.mem_cons_self
      · right
        rw [e3]
        refine List.mem_cons_of_mem _ ?_
        simpa using h1
theorem m_args_cv (B b : Nat) (vs : List Value) : ∀ (i j : Nat) (u : Value), (j, u) ∈ lv_args i vs → (j, m_cv B b u) ∈ lv_args i (vs.map (m_cv B b)) := by
  induction vs with
  | nil => intro i j u h; cases h
  | cons v l ih =>
    intro i j u h
    rcases List.mem_cons.mp h with h | h
    · cases h
      exact List.mem_cons_self
    · refine List.mem_cons_of_mem _ ?_
      rw [m_cv_cat]
      exact ih _ _ _ h
theorem m_ent_has {B b mi : Nat} {vs : List Value} (h : m_cs vs ≤ m_mxl mi) : lv_has ((lg_sl (vs.map (m_cv B b)) ++ List.replicate (m_mxl mi - (lg_sl (vs.map (m_cv B b))).length) Slot.unset).toArray) (m_mxl mi) (m_tl B b (m_ent mi vs)) := by
  refine m_has_mono (lv_entry (vs.map (m_cv B b)) (by rw [m_slots_lg, m_slots_len]; exact h)) fun q hq => ?_
  obtain ⟨u, h1, h2⟩ := m_tl_mem.mp hq
  unfold m_ent at h1
  rcases m_ld_ent (pre := []) (by simpa using h1) with ⟨x, hx⟩ | h3
  · simp at hx
  · have h4 := m_args_cv B b vs 0 _ _ h3
    rw [← h2] at h4
    exact h4
theorem m_lgc_ok {lg : List Nat} : ∀ (vs : List Value) (i j : Nat) (u : Value), m_lgc lg i vs = true → (j, u) ∈ lv_args i vs → u.category = 2 → j ∈ lg
  | [], _, _, _, _, h, _ => by cases h
  | v :: vs, i, j, u, hb, h, hc => by
    unfold m_lgc at hb
    rcases List.mem_cons.mp h with h | h
    · cases h
      rw [show Nat.beq v.category 2 = true by rw [hc]; rfl] at hb
      obtain ⟨k, hk, e⟩ := List.any_eq_true.mp (Bool.and_eq_true_iff.mp hb).1
      rw [← Nat.eq_of_beq_eq_true e]
      exact hk
    · by_cases hv : v.category = 2
      · rw [show Nat.beq v.category 2 = true by rw [hv]; rfl] at hb
        rw [if_pos hv] at h
        exact m_lgc_ok vs _ j u (Bool.and_eq_true_iff.mp hb).2 h hc
      · have hf : Nat.beq v.category 2 = false := by
          cases hb : Nat.beq v.category 2 with
          | false => rfl
          | true => exact absurd (Nat.eq_of_beq_eq_true hb) hv
        rw [hf] at hb
        rw [if_neg hv] at h
        exact m_lgc_ok vs _ j u hb h hc
theorem m_ent_lgo {mi : Nat} {vs : List Value} (h : m_lgc (m_lg mi) 0 vs = true) : m_lgo mi (m_ent mi vs) := by
  intro i v hv hc
  rcases m_ld_ent (pre := []) (by simpa [m_ent] using hv) with ⟨x, hx⟩ | h3
  · simp at hx
  · exact m_lgc_ok vs 0 i v h h3 hc
