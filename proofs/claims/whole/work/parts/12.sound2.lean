/-! a run of the interpreter is a run of the machine: methods and calls -/
/-- what a run of n steps at most is worth -/
def m_Snd (S : mS) (B b : Nat) (cA : Nat → ClassId) (D : va_G) (l : Launch) (n : Nat) : Prop :=
  ∀ (mi pc : Nat) (ls : mLs) (st : List Value) (w : mW) (v : Option Value) (w' : mW), m_run S n mi pc ls st w = some (v, w') →
  ∀ (p : Program) (e : Env) (R : Room) (s : State) (m : MethodId) (args : Array Value) (below : List Frame) (meth : Method) (c : Code) (cells slots : Nat) (Q : State → Prop), m_Cx S B b cA D mi p R s m args meth c →
  ∀ (cells' slots' : Nat), cells' = cells + (w'.1.length - w.1.length) → slots' = slots + (m_szs w' - m_szs w) → cells' ≤ R.cells → slots' ≤ R.slots →
  (∀ (pc' : Nat) (la' : Array Slot) (H' : Heap) (locs' : List Loc), m_retAt mi pc' v → m_Wo B b cA D w' H' → va_S (fun q => B ≤ q) s.heap H' locs' → W p l e R s m args below meth c H' locs' cells' slots' Q (F0 m pc' la' (v.toList.map (m_cv B b)))) →
  m_FW B b cA D mi p l e R s m args below meth c cells slots Q pc ls st w
theorem m_met {S : mS} {B b : Nat} {cA : Nat → ClassId} {D : va_G} {l : Launch} {n : Nat} (ih : m_Snd S B b cA D l n) {mi : Nat} (hmi : mi < 144) {av : List Value} {w w' : mW} {v : Option Value} (hr : m_run S n mi 0 (m_ent mi av) [] w = some (v, w')) (hcs : m_cs av ≤ m_mxl mi) (hlg : m_lgc (m_lg mi) 0 av = true) :
    Met l (m_y mi) (m_wsq mi) ({ frames := m_rF mi, cells := w'.1.length - w.1.length, slots := m_szs w' - m_szs w, locals := m_rL mi }) (m_Pre S B b cA D w av) (m_Qv B b cA D w' v) (w'.1.length - w.1.length) (m_szs w' - m_szs w) (fun q => B ≤ q) := by
  have hgd := m_e_lt hmi
  refine Met.ofW (cc := m_cod mi) (maxL := m_mxl mi) (ret := m_rty mi) hgd.1 rfl ?_
  intro p e s m args below meth c s₁ Bo hml hv
  obtain ⟨rfl, hW, hSx⟩ := hv
  have hx := Bo.exec
  have hb := Bo.bytes
  have hrt := Bo.returns
  have hts0 := atoms_spec (ws := m_wsq mi) Bo.pre
  have hts : ∀ w ∈ m_gw, w.before ((av.map (m_cv B b)).toArray) s = true := fun w h => hts0 w (List.mem_cons_of_mem _ h)
  have hown0 : s.vm.findClass (m_y mi).cls = some m.cls := findClass_of_methodNamed Bo.named
  have hown : s.vm.findClass (m_own mi) = some m.cls := by
    rw [← hown0]
    exact congrArg (fun x => s.vm.findClass x) hgd.2.2.1.symm
  have hlocks := Bo.notSynchronized
  have hin : meth.name = (m_y mi).name := (name_of_methodNamed Bo.named Bo.method).1
  have C : m_Cx S B b cA D mi p ({ frames := m_rF mi, cells := w'.1.length - w.1.length, slots := m_szs w' - m_szs w, locals := m_rL mi } : Room) s m ((av.map (m_cv B b)).toArray) meth c :=
    ⟨hx, hb, hml, hown, hts, hSx, fun h => by rw [hin]; exact of_decide_eq_true h, Nat.le_refl _, Nat.le_refl _⟩
  rw [lg_entry_eq]
  refine ih mi 0 (m_ent mi av) [] w v w' hr p e _ s m _ below meth c 0 0 _ C (w'.1.length - w.1.length) (m_szs w' - m_szs w) (Nat.zero_add _).symm (Nat.zero_add _).symm (Nat.le_refl _) (Nat.le_refl _) ?_ (m_ent_lgo hlg) s.heap [] _ hW va_S.rf (m_ent_has hcs)
  intro pc' la' H' locs' hret hW' hS'
  cases v with
  | none => exact W.vret hx hb (hrt.trans hret.2) (fun t ht hWm => ⟨⟨(), rfl, trivial, by show m_Wo B b cA D w' t.heap; rw [ht]; exact hW'⟩, hS'.F ht⟩) hS'.2.2 hret.1
  | some u =>
    cases u with
    | int x =>
      obtain ⟨hd, hty⟩ := hret
      rcases hty with h1 | ⟨h1, h2⟩
      · exact W.iret (v := x) hx hb (hrt.trans h1) (fun t ht hWm => ⟨⟨x, (), rfl, rfl, by show m_Wo B b cA D w' t.heap; rw [ht]; exact hW'⟩, hS'.F ht⟩) hS'.2.2 hd
      · exact W.zret (v := x) hx hb (hrt.trans h1) (m_bl_ok h2).1 (fun t ht hWm => ⟨⟨x, (), rfl, rfl, by show m_Wo B b cA D w' t.heap; rw [ht]; exact hW'⟩, hS'.F ht⟩) hS'.2.2 hd
    | long x => exact W.lret (v := x) hx hb (hrt.trans hret.2) (fun t ht hWm => ⟨⟨x, (), rfl, rfl, by show m_Wo B b cA D w' t.heap; rw [ht]; exact hW'⟩, hS'.F ht⟩) hS'.2.2 hret.1
    | _ => exact absurd hret (fun h => h)
theorem m_wsV_in {own C : String} {k m' : Nat} {y : MethodName} (hm : m' < 144) (h1 : Cond.methodLink own k y ∈ m_gw) (h2 : Cond.instanceMethod y ∈ m_gw) (h3 : Cond.selects C y y ∈ m_gw) (h4 : Cond.initialized C ∈ m_gw) : GoodIn m_gw (wsV own k C y (m_wsq m')) := by
  intro w hw
  rcases List.mem_append.mp hw with h | h
  · simp only [List.mem_cons, List.not_mem_nil, or_false] at h
    rcases h with rfl | rfl | rfl | rfl
    · exact ⟨h1, m_gw_good h1⟩
    · exact ⟨h2, m_gw_good h2⟩
    · exact ⟨h3, m_gw_good h3⟩
    · exact ⟨h4, m_gw_good h4⟩
  · exact m_wsq_good hm w h
theorem m_wsS_in {own : String} {k m' : Nat} {y : MethodName} (hm : m' < 144) (h1 : Cond.methodLink own k y ∈ m_gw) (h2 : Cond.static y ∈ m_gw) (h4 : Cond.initialized y.cls ∈ m_gw) : GoodIn m_gw (va_wsS own k y (m_wsq m')) := by
  intro w hw
  rcases List.mem_append.mp hw with h | h
  · simp only [List.mem_cons, List.not_mem_nil, or_false] at h
    rcases h with rfl | rfl | rfl
    · exact ⟨h1, m_gw_good h1⟩
    · exact ⟨h2, m_gw_good h2⟩
    · exact ⟨h4, m_gw_good h4⟩
  · exact m_wsq_good hm w h
theorem m_kV {own : String} {q : Nat × Nat × Nat × Nat × MethodName} (h : m_callOk own q) (hk : q.2.2.1 = 0) : Cond.methodLink own q.1 q.2.2.2.2 ∈ m_gw ∧ Cond.instanceMethod q.2.2.2.2 ∈ m_gw ∧ Cond.selects q.2.2.2.2.cls q.2.2.2.2 q.2.2.2.2 ∈ m_gw := by
  obtain ⟨-, -, -, h⟩ := h
  rcases h with h | h | h | h | h | h | h
  · exact h.2
  all_goals exact absurd (hk.symm.trans h.1) (by decide)
theorem m_kS {own : String} {q : Nat × Nat × Nat × Nat × MethodName} (h : m_callOk own q) (hk : q.2.2.1 = 1) : Cond.methodLink own q.1 q.2.2.2.2 ∈ m_gw ∧ Cond.static q.2.2.2.2 ∈ m_gw := by
  obtain ⟨-, -, -, h⟩ := h
  rcases h with h | h | h | h | h | h | h
  case inr.inl => exact h.2
  all_goals exact absurd (hk.symm.trans h.1) (by decide)
theorem m_kI {own : String} {q : Nat × Nat × Nat × Nat × MethodName} (h : m_callOk own q) (hk : q.2.2.1 = 2) : Cond.methodLink own q.1 q.2.2.2.2 ∈ m_gw ∧ q.2.2.2.2.name = "<init>" ∧ Cond.instanceMethod q.2.2.2.2 ∈ m_gw ∧ (m_e q.2.1).2.2.2.1 = none := by
  obtain ⟨-, -, -, h⟩ := h
  rcases h with h | h | h | h | h | h | h
  case inr.inr.inl => exact h.2
  all_goals exact absurd (hk.symm.trans h.1) (by decide)
theorem m_kIN {own : String} {q : Nat × Nat × Nat × Nat × MethodName} (h : m_callOk own q) (hk : q.2.2.1 = 3) : (∃ h, Cond.methodLinkNest own q.1 q.2.2.2.2 h ∈ m_nw) ∧ q.2.2.2.2.name = "<init>" ∧ Cond.instanceMethod q.2.2.2.2 ∈ m_gw ∧ (m_e q.2.1).2.2.2.1 = none := by
  obtain ⟨-, -, -, h⟩ := h
  rcases h with h | h | h | h | h | h | h
  case inr.inr.inr.inl => exact h.2
  all_goals exact absurd (hk.symm.trans h.1) (by decide)
theorem m_kSN {own : String} {q : Nat × Nat × Nat × Nat × MethodName} (h : m_callOk own q) (hk : q.2.2.1 = 4) : (∃ h, Cond.methodLinkNest own q.1 q.2.2.2.2 h ∈ m_nw) ∧ Cond.static q.2.2.2.2 ∈ m_gw := by
  obtain ⟨-, -, -, h⟩ := h
  rcases h with h | h | h | h | h | h | h
  case inr.inr.inr.inr.inl => exact h.2
  all_goals exact absurd (hk.symm.trans h.1) (by decide)
section CALLS
variable {S : mS} {B b : Nat} {cA : Nat → ClassId} {D : va_G} {mi : Nat} {p : Program} {l : Launch} {e : Env} {R : Room} {s : State} {m : MethodId} {args : Array Value} {below : List Frame} {meth : Method} {c : Code} {cells slots : Nat} {Q : State → Prop}
theorem m_callrun {n : Nat} (ih : m_Snd S B b cA D l n) (C : m_Cx S B b cA D mi p R s m args meth c) {i : Instr} {pc len : Nat} {st : List Value} {w w1 : mW} {m' : Nat} {av r : List Value} {v1 : Option Value} (hd : decode (m_cod mi) pc = .ok (i, len)) (hl : m_lenOk i len = true) (hc : m_cal mi i st w = some (m', av, r)) (hr : m_run S n m' 0 (m_ent m' av) [] w = some (v1, w1))
    {H : Heap} {locs : List Loc} {la : Array Slot} (hW : m_Wo B b cA D w H) (hS : va_S (fun q => B ≤ q) s.heap H locs) (hsz : la.size = m_mxl mi) (hcl : cells + (w1.1.length - w.1.length) ≤ R.cells) (hsl : slots + (m_szs w1 - m_szs w) ≤ R.slots) :
    ∃ a, va_Run p l e R s m args below meth c H locs cells slots (w1.1.length - w.1.length) (m_szs w1 - m_szs w) (F0 m pc la (st.map (m_cv B b))) (r.map (m_cv B b)) (m_Qv B b cA D w1 v1 a) (fun q => B ≤ q) := by
  obtain ⟨hx, hb, hml, hown, hts, hSx, -, hrF, hrL⟩ := C
  have hNw : ∀ w ∈ m_nw, va_Nw w s := hSx.2.1
  unfold m_cal at hc
  split at hc
  next k =>
    obtain rfl := m_lk (n := 3) hl rfl (by decide)
    split at hc
    next q hq =>
      obtain ⟨rfl, hk, hcr, hfr, hlo, hca, hlg, hcase⟩ := m_cal1_inv hc
      have hk0 : q.2.1 = 0 := by simpa using hk
      have hok := m_calls_ok (m_owi mi) _ (m_fnd_mem hq)
      have hm : q.1 < 144 := hok.2.1 (by show q.2.1 < 5; rw [hk0]; decide)
      have hgd := m_e_lt hm
      have hyy : m_y q.1 = q.2.2.2 := hok.1
      have hpar := hok.2.2.1
      obtain ⟨h1, h2, h3⟩ := m_kV hok hk0
      dsimp only at h1 h2 h3 hpar
      rw [← hyy] at h1 h2 h3 hpar
      rcases hcase with ⟨h, -⟩ | ⟨-, a, as, rfl, hlen, rfl, hsh, howi⟩
      · rw [hk0] at h; exact absurd h (by decide)
      obtain ⟨i0, n0, rfl, hq1, -⟩ := m_sh_get hsh (by omega)
      have hM := m_met ih hm hr hca hlg
      have hcls : (m_y q.1).cls = m_C (m_owi q.1) := hgd.2.2.1
      refine ⟨_, va_runV (b := m_ad B b (i0 + 1)) (As := as.map (m_cv B b)) (n := q.2.2.1) ⟨hx, hb, hml, hown, hts⟩ hM (cwV q.2.2.1 hts (m_wsV_in hm h1 h2 h3 hgd.2.2.2.1) rfl rfl rfl ⟨rfl, hgd.2.2.2.2.1, hgd.2.2.2.2.2, hpar⟩ ⟨by dsimp only; omega, by dsimp only; omega⟩) ⟨m_blind, ?_, fun U hU hWm => ⟨by simp [m_cv], by rw [hU]; exact hW, m_Sx_warm hSx hS hU hWm⟩⟩ rfl (by simpa using hlen) hsz (by simp [m_cv]) (lv_room (by rw [m_cs_cv]; exact hcr)) hd ⟨hcl, hsl⟩⟩
      rw [hcls]
      exact va_recv hSx.1 hW.2 (m_cl_ok howi).1 (by rw [m_wl_get hq1, m_ce_obj howi]; rfl)
    next => cases hc
  next k =>
    obtain rfl := m_lk (n := 3) hl rfl (by decide)
    split at hc
    next q hq =>
      obtain ⟨rfl, hk, hcr, hfr, hlo, hca, hlg, hcase⟩ := m_cal1_inv hc
      have hk0 : q.2.1 = 1 ∨ q.2.1 = 4 := by simpa using hk
      have hok := m_calls_ok (m_owi mi) _ (m_fnd_mem hq)
      have hm : q.1 < 144 := hok.2.1 (by show q.2.1 < 5; rcases hk0 with h | h <;> rw [h] <;> decide)
      have hgd := m_e_lt hm
      have hyy : m_y q.1 = q.2.2.2 := hok.1
      have hpar := hok.2.2.1
      dsimp only at hpar
      rw [← hyy] at hpar
      rcases hcase with ⟨-, rfl, hlen⟩ | ⟨h, -⟩
      case inr => exact absurd hk0 h
      have hM := m_met ih hm hr hca hlg
      rcases hk0 with hk0 | hk0
      · obtain ⟨h1, h2⟩ := m_kS hok hk0
        dsimp only at h1 h2
        rw [← hyy] at h1 h2
        exact ⟨_, va_runS (As := av.map (m_cv B b)) (n := q.2.2.1) ⟨hx, hb, hml, hown, hts⟩ hM (va_cwS q.2.2.1 hts (m_wsS_in hm h1 h2 hgd.2.2.2.1) rfl rfl rfl ⟨hgd.2.2.2.2.1, hgd.2.2.2.2.2, hpar⟩ ⟨by dsimp only; omega, by dsimp only; omega⟩) ⟨m_blind, fun U hU hWm => ⟨rfl, by rw [hU]; exact hW, m_Sx_warm hSx hS hU hWm⟩⟩ rfl (by simpa using hlen) hsz (by simp) (lv_room (by rw [m_cs_cv]; exact hcr)) hd ⟨hcl, hsl⟩⟩
      · obtain ⟨⟨hh, h1⟩, h2⟩ := m_kSN hok hk0
        dsimp only at h1 h2
        rw [← hyy] at h1 h2
        exact ⟨_, va_runSN (As := av.map (m_cv B b)) (n := q.2.2.1) ⟨hx, hb, hml, hown, hts⟩ hM ⟨va_cnB q.2.2.1 hts (m_wsq_good hm) rfl rfl rfl (hNw _ h1) (hts _ hgd.2.2.2.1) ⟨hgd.2.2.2.2.1, hgd.2.2.2.2.2, hpar⟩ ⟨by dsimp only; omega, by dsimp only; omega⟩, hts _ h2, trivial⟩ ⟨m_blind, fun U hU hWm => ⟨rfl, by rw [hU]; exact hW, m_Sx_warm hSx hS hU hWm⟩⟩ rfl (by simpa using hlen) hsz (by simp) (lv_room (by rw [m_cs_cv]; exact hcr)) hd ⟨hcl, hsl⟩⟩
    next => cases hc
  next k =>
    obtain rfl := m_lk (n := 3) hl rfl (by decide)
    split at hc
    next q hq =>
      obtain ⟨rfl, hk, hcr, hfr, hlo, hca, hlg, hcase⟩ := m_cal1_inv hc
      have hk0 : q.2.1 = 2 ∨ q.2.1 = 3 := by simpa using hk
      have hok := m_calls_ok (m_owi mi) _ (m_fnd_mem hq)
      have hm : q.1 < 144 := hok.2.1 (by show q.2.1 < 5; rcases hk0 with h | h <;> rw [h] <;> decide)
      have hgd := m_e_lt hm
      have hyy : m_y q.1 = q.2.2.2 := hok.1
      have hpar := hok.2.2.1
      dsimp only at hpar
      rw [← hyy] at hpar
      rcases hcase with ⟨h, -⟩ | ⟨-, a, as, rfl, hlen, rfl, -⟩
      · rcases hk0 with hk0 | hk0 <;> rw [hk0] at h <;> exact absurd h (by decide)
      have hM := m_met ih hm hr hca hlg
      rcases hk0 with hk0 | hk0
      · obtain ⟨h1, h2, h3, h4⟩ := m_kI hok hk0
        dsimp only at h1 h2 h3 h4
        rw [← hyy] at h1 h2 h3
        have h4 : m_rty q.1 = none := h4
        exact ⟨_, va_runI (b := m_ad B b a) (As := as.map (m_cv B b)) (n := q.2.2.1) ⟨hx, hb, hml, hown, hts⟩ hM (cwI (ws' := m_gw) (bytes := m_cod q.1) (maxL := m_mxl q.1) q.2.2.1 hts (m_wsq_good hm) (by unfold m_wsq; rw [h4]) rfl rfl (hts _ hgd.2.2.2.1) (hts _ h1) (hts _ h3) h2 ⟨hgd.2.2.2.2.1, hgd.2.2.2.2.2, hpar⟩ ⟨by dsimp only; omega, by dsimp only; omega⟩) ⟨m_blind, fun U hU hWm => ⟨by simp [m_cv], by rw [hU]; exact hW, m_Sx_warm hSx hS hU hWm⟩⟩ rfl (by simpa using hlen) hsz (by simp [m_cv]) (lv_room (by rw [m_cs_cv]; exact hcr)) hd ⟨hcl, hsl⟩⟩
      · obtain ⟨⟨hh, h1⟩, h2, h3, h4⟩ := m_kIN hok hk0
        dsimp only at h1 h2 h3 h4
        rw [← hyy] at h1 h2 h3
        have h4 : m_rty q.1 = none := h4
        exact ⟨_, va_runIN (b := m_ad B b a) (As := as.map (m_cv B b)) (n := q.2.2.1) ⟨hx, hb, hml, hown, hts⟩ hM ⟨va_cnB (ws' := m_gw) (bytes := m_cod q.1) (maxL := m_mxl q.1) q.2.2.1 hts (m_wsq_good hm) (by unfold m_wsq; rw [h4]) rfl rfl (hNw _ h1) (hts _ hgd.2.2.2.1) ⟨hgd.2.2.2.2.1, hgd.2.2.2.2.2, hpar⟩ ⟨by dsimp only; omega, by dsimp only; omega⟩, h2, hts _ h3⟩ ⟨m_blind, fun U hU hWm => ⟨by simp [m_cv], by rw [hU]; exact hW, m_Sx_warm hSx hS hU hWm⟩⟩ rfl (by simpa using hlen) hsz (by simp [m_cv]) (lv_room (by rw [m_cs_cv]; exact hcr)) hd ⟨hcl, hsl⟩⟩
    next => cases hc
  next => cases hc
end CALLS
/-- THE RUN: what the interpreter answers, the machine does -/
theorem m_sound (S : mS) (B b : Nat) (cA : Nat → ClassId) (D : va_G) (l : Launch) : ∀ n, m_Snd S B b cA D l n := by
  intro n
  induction n with
  | zero => intro mi pc ls st w v w' h; cases h
  | succ n ih =>
    intro mi pc ls st w v w' h p e R s m args below meth c cells slots Q C cells' slots' ec es hc hs k
    unfold m_run at h
    split at h
    next => cases h
    next i len hd =>
      split at h
      next => cases h
      next hl =>
        split at h
        next g v0 hr =>
          have hg : g ≠ some false := by
            intro hg
            rw [hg] at h
            cases h
          split at h
          next => cases h
          next =>
            cases h
            obtain ⟨h1, rfl⟩ := m_ret_inv hd hl hr hg
            rw [Nat.sub_self, Nat.add_zero] at ec es
            subst ec; subst es
            exact fun _ H locs la hW hS _ => k pc la H locs h1 hW hS
        next =>
          split at h
          next m' av r hcl =>
            split at h
            next v1 w1 h1 =>
              obtain ⟨t1, e1⟩ := m_run_mono _ _ _ _ _ _ _ _ h1
              obtain ⟨t2, e2⟩ := m_run_mono _ _ _ _ _ _ _ _ h
              obtain ⟨a1, b1⟩ := m_szs_app e1
              obtain ⟨a2, b2⟩ := m_szs_app e2
              intro hg H locs la hW hS hL
              obtain ⟨a, hrun⟩ := m_callrun (cells := cells) (slots := slots) ih C hd hl hcl h1 hW hS hL.1 (by omega) (by omega)
              refine m_after hrun hS fun H1 locs1 hW1 hS1 => ?_
              exact ih mi (pc + 3) ls (v1.toList ++ r) w1 v w' h p e R s m args below meth c _ _ Q C cells' slots' (by omega) (by omega) hc hs k hg H1 locs1 la hW1 hS1 hL
            next => cases h
          next =>
            split at h
            next g pc' ls' st' w1 he =>
              have hg : g ≠ some false := by
                intro hg
                rw [hg] at h
                cases h
              split at h
              next => cases h
              next =>
                obtain ⟨t1, e1⟩ := m_exe_mono he
                obtain ⟨t2, e2⟩ := m_run_mono _ _ _ _ _ _ _ _ h
                obtain ⟨a1, b1⟩ := m_szs_app e1
                obtain ⟨a2, b2⟩ := m_szs_app e2
                refine m_exe_ok C hd hl he hg (by omega) (by omega) ?_
                exact ih mi pc' ls' st' w1 v w' h p e R s m args below meth c _ _ Q C cells' slots' (by omega) (by omega) hc hs k
            next => cases h
