/-! a run of the interpreter is a run of the machine -/
theorem m_gw_good {w : Cond} (h : w ∈ m_gw) : (w.onTables && w.keeps) = true ∨ ∃ ty, w = .arrayClass ty := good_of_word (List.mem_filter.mp h).2
def m_wsq (mi : Nat) : List Cond := .code (m_y mi) (m_cod mi) (m_mxl mi) (m_rty mi) :: m_gw
theorem m_e_lt {mi : Nat} (h : mi < 144) : m_good (m_e mi) := by
  have hl : mTX.length = 144 := by decide +kernel
  refine mT_ok _ ?_
  have e : mT[mi]? = some (m_e mi) := by
    unfold m_e
    rw [List.getD_eq_getElem?_getD]
    have h2 : mi < mT.length := by
      have : mT.length = 147 := by decide +kernel
      omega
    rw [List.getElem?_eq_getElem h2]
    rfl
  have e2 : mTX[mi]? = some (m_e mi) := by
    rw [← e]
    unfold mT
    rw [List.append_assoc, List.getElem?_append_left (by omega)]
  exact List.mem_of_getElem? e2
theorem m_wsq_good {mi : Nat} (h : mi < 144) : GoodIn m_gw (m_wsq mi) := by
  intro w hw
  have h1 : w ∈ m_gw := by
    rcases List.mem_cons.mp hw with rfl | h2
    · exact (m_e_lt h).2.1
    · exact h2
  exact ⟨h1, m_gw_good h1⟩
theorem m_gi {ws : List Cond} (h : ∀ w ∈ ws, w ∈ m_gw) : GoodIn m_gw ws := fun w hw => ⟨h w hw, m_gw_good (h w hw)⟩
set_option maxHeartbeats 4000000 in
theorem m_exe_mono {S : mS} {mi pc : Nat} {i : Instr} {ls ls' : mLs} {st st' : List Value} {w w' : mW} {g : Option Bool} {pc' : Nat} (he : m_exe S mi i pc ls st w = some (g, pc', ls', st', w')) : ∃ t, w'.1 = w.1 ++ t := by
  cases i <;> (try (cases he; done)) <;> (simp only [m_exe, m_i1, m_i2, m_l1, m_l2, m_li, m_a1, m_ai, m_aii, m_ail, m_aia, m_put, m_put2, m_val, m_getf, m_putf, m_kd, m_alen] at he) <;> (repeat' split at he) <;> first | (cases he; done) | (cases he; exact ⟨[], (List.append_nil _).symm⟩) | (cases he; exact ⟨_, rfl⟩)
theorem m_szs_app {w w' : mW} {t : List (Nat × Nat)} (h : w'.1 = w.1 ++ t) : w'.1.length = w.1.length + t.length ∧ m_szs w' = m_szs w + (t.map fun q => if q.1 < 7 then m_N q.1 else q.2).sum := by
  unfold m_szs
  rw [h]
  simp
theorem m_run_mono {S : mS} : ∀ (n mi pc : Nat) (ls : mLs) (st : List Value) (w : mW) (v : Option Value) (w' : mW), m_run S n mi pc ls st w = some (v, w') → ∃ t, w'.1 = w.1 ++ t := by
  intro n
  induction n with
  | zero => intro mi pc ls st w v w' h; cases h
  | succ n ih =>
    intro mi pc ls st w v w' h
    unfold m_run at h
    split at h
    next => cases h
    next i len hd =>
      split at h
      next => cases h
      next =>
        split at h
        next g v0 hr =>
          split at h
          next => cases h
          next => cases h; exact ⟨[], by simp⟩
        next =>
          split at h
          next m' av r hc =>
            split at h
            next v1 w1 h1 =>
              obtain ⟨t1, e1⟩ := ih _ _ _ _ _ _ _ h1
              obtain ⟨t2, e2⟩ := ih _ _ _ _ _ _ _ h
              exact ⟨t1 ++ t2, by rw [e2, e1, List.append_assoc]⟩
            next => cases h
          next =>
            split at h
            next g pc' ls' st' w1 he =>
              split at h
              next => cases h
              next =>
                obtain ⟨t1, e1⟩ := m_exe_mono he
                obtain ⟨t2, e2⟩ := ih _ _ _ _ _ _ _ h
                exact ⟨t1 ++ t2, by rw [e2, e1, List.append_assoc]⟩
            next => cases h
def m_retAt (mi pc : Nat) (v : Option Value) : Prop := match v with
  | none => decode (m_cod mi) pc = .ok (.return_, 1) ∧ m_rty mi = none
  | some (.int x) => decode (m_cod mi) pc = .ok (.ireturn, 1) ∧ (m_rty mi = some .int ∨ (m_rty mi = some .boolean ∧ m_bl x = true))
  | some (.long _) => decode (m_cod mi) pc = .ok (.lreturn, 1) ∧ m_rty mi = some .long
  | _ => False
theorem m_ret_inv {mi pc len : Nat} {i : Instr} {st : List Value} {g : Option Bool} {v : Option Value} (hd : decode (m_cod mi) pc = .ok (i, len)) (hl : m_lenOk i len = true) (h : m_ret mi i st = some (g, v)) (hg : g ≠ some false) : m_retAt mi pc v ∧ st = v.toList := by
  unfold m_ret at h
  split at h
  next x =>
    obtain rfl := m_lk (n := 1) hl rfl (by decide)
    split at h
    next hr => cases h; exact ⟨⟨hd, Or.inl hr⟩, rfl⟩
    next hr =>
      cases h
      refine ⟨⟨hd, Or.inr ⟨hr, ?_⟩⟩, rfl⟩
      cases hb : m_bl x with
      | true => rfl
      | false => rw [hb] at hg; exact absurd rfl hg
    next => cases h
  next x =>
    obtain rfl := m_lk (n := 1) hl rfl (by decide)
    split at h
    next hr => cases h; exact ⟨⟨hd, hr⟩, rfl⟩
    next => cases h
  next =>
    obtain rfl := m_lk (n := 1) hl rfl (by decide)
    split at h
    next hr => cases h; exact ⟨⟨hd, hr⟩, rfl⟩
    next => cases h
  next => cases h
theorem m_cal1_inv {mi : Nat} {st : List Value} {w : mW} {q : Nat × Nat × Nat × MethodName} {ks : List Nat} {m' : Nat} {av r : List Value} (h : m_cal1 mi st w q ks = some (m', av, r)) :
    m' = q.1 ∧ q.2.1 ∈ ks ∧ m_cs r ≤ 8 ∧ m_rF m' + 1 ≤ m_rF mi ∧ 8 + (m_mxl m' + 11) + m_rL m' ≤ m_rL mi ∧ m_cs av ≤ m_mxl m' ∧ m_lgc (m_lg m') 0 av = true ∧
    (((q.2.1 = 1 ∨ q.2.1 = 4) ∧ st = av.reverse ++ r ∧ av.length = q.2.2.1) ∨ (¬ (q.2.1 = 1 ∨ q.2.1 = 4) ∧ ∃ a as, av = .ref a :: as ∧ as.length = q.2.2.1 ∧ st = as.reverse ++ .ref a :: r ∧ Nat.beq (m_sh w a).1 (m_owi m') = true ∧ m_owi m' < 7)) := by
  unfold m_cal1 at h
  split at h
  next => cases h
  next hk =>
    have hk2 : q.2.1 ∈ ks := by
      obtain ⟨k, h1, h2⟩ := List.any_eq_true.mp hk
      rw [← Nat.eq_of_beq_eq_true h2]; exact h1
    dsimp only at h
    split at h
    next => cases h
    next hb =>
      simp only [Bool.and_eq_true] at hb
      obtain ⟨⟨⟨⟨⟨h1, h2⟩, h3⟩, h4⟩, h5⟩, h6⟩ := hb
      have h1 := Nat.eq_of_beq_eq_true h1
      have h2 := Nat.le_of_ble_eq_true h2
      have h3 := Nat.le_of_ble_eq_true h3
      have h4 := Nat.le_of_ble_eq_true h4
      have h5 := Nat.le_of_ble_eq_true h5
      split at h
      next hq =>
        rw [show m_nar q.2.1 q.2.2.1 = q.2.2.1 by rw [hq]; rfl] at h1 h2 h5 h6 h
        cases h
        exact ⟨rfl, hk2, h2, h3, h4, h5, h6, Or.inl ⟨Or.inl hq, by rw [List.reverse_reverse, List.take_append_drop], h1⟩⟩
      next hq =>
        rw [show m_nar q.2.1 q.2.2.1 = q.2.2.1 by rw [hq]; rfl] at h1 h2 h5 h6 h
        cases h
        exact ⟨rfl, hk2, h2, h3, h4, h5, h6, Or.inl ⟨Or.inr hq, by rw [List.reverse_reverse, List.take_append_drop], h1⟩⟩
      next hq1 hq4 =>
        have hN : m_nar q.2.1 q.2.2.1 = q.2.2.1 + 1 := by
          unfold m_nar
          split
          next hh => exact absurd hh hq1
          next hh => exact absurd hh hq4
          next => rfl
        rw [hN] at h1 h2 h5 h6 h
        split at h
        next a as hav =>
          split at h
          next h9 =>
           obtain ⟨h7, h8⟩ := m_kd_inv h
           cases h8
           have hst : st = (st.take (q.2.2.1 + 1)).reverse.reverse ++ st.drop (q.2.2.1 + 1) := by rw [List.reverse_reverse, List.take_append_drop]
           refine ⟨rfl, hk2, h2, h3, h4, h5, h6, Or.inr ⟨fun hh => hh.elim hq1 hq4, a, as, hav, ?_, ?_, h7, Nat.le_of_ble_eq_true h9⟩⟩
           · rw [hav] at h1
             simpa using h1
           · rw [hav, List.reverse_cons, List.append_assoc] at hst
             exact hst
          next => cases h
        next => cases h
def m_Qv (B b : Nat) (cA : Nat → ClassId) (D : va_G) (w : mW) (v : Option Value) : Array Value → State → Outcome → State → Prop := match v with
  | none => va_Qv (fun _ : Unit => True) (fun _ t => m_Wo B b cA D w t.heap) (fun q => B ≤ q)
  | some (.int x) => va_Qi (fun (r : Int32) (_ : Unit) => r = x) (fun _ t => m_Wo B b cA D w t.heap) (fun q => B ≤ q)
  | some (.long x) => va_Ql (fun (r : Int64) (_ : Unit) => r = x) (fun _ t => m_Wo B b cA D w t.heap) (fun q => B ≤ q)
  | _ => fun _ _ _ _ => False
def m_Pre (S : mS) (B b : Nat) (cA : Nat → ClassId) (D : va_G) (w : mW) (av : List Value) : Array Value → State → Prop := va_Pc (av.map (m_cv B b)) (fun U => m_Wo B b cA D w U.heap ∧ m_Sx S B b cA D U)
section SOUND
variable {S : mS} {B b : Nat} {cA : Nat → ClassId} {D : va_G} {mi : Nat} {p : Program} {l : Launch} {e : Env} {R : Room} {s : State} {m : MethodId} {args : Array Value} {below : List Frame} {meth : Method} {c : Code} {cells slots : Nat} {Q : State → Prop}
theorem m_Sx_warm {U : State} (h : m_Sx S B b cA D s) {H : Heap} {locs : List Loc} (hS : va_S (fun q => B ≤ q) s.heap H locs) (hU : U.heap = H) (hW : s.WarmedH U.vm) : m_Sx S B b cA D U := by
  obtain ⟨h1, h2, h3, h4, h5, h6⟩ := h
  refine ⟨va_K.moved hW.alike h1, fun w hw => ?_, va_AO.moved hW.alike h3, va_X.moved hW.alike (h4.kept ?_), h5, by rw [hU]; exact Nat.le_trans h6 hS.1⟩
  · have h7 := h2 w hw
    unfold m_nw at hw
    simp only [List.mem_cons, List.not_mem_nil, or_false] at hw
    rcases hw with rfl | rfl | rfl | rfl | rfl | rfl <;> exact va_Nw.warmM hW h7
  · rw [hU]
    exact hS.2.1 b (Nat.lt_of_lt_of_le h5 h6) (Nat.not_le.mpr h5)
theorem m_blind {w : mW} {av : List Value} : FrameBlind (m_Pre S B b cA D w av) := by
  intro a U g mk h
  obtain ⟨h1, h2, h3, h4, h5, h6⟩ := h
  refine ⟨h1, h2, va_K.moved (u := U) (U := U.calling g mk a) (Vm.Alike.refl U.vm) h3, fun w hw => ?_, va_AO.moved (u := U) (U := U.calling g mk a) (Vm.Alike.refl U.vm) h5, ?_⟩
  · have h7 := h4 w hw
    unfold m_nw at hw
    simp only [List.mem_cons, List.not_mem_nil, or_false] at hw
    rcases hw with rfl | rfl | rfl | rfl | rfl | rfl <;> exact va_Nw.same rfl rfl h7
  · exact ⟨va_X.moved (u := U) (U := U.calling g mk a) (Vm.Alike.refl U.vm) h6.1, h6.2⟩
theorem m_after {pc : Nat} {la : Array Slot} {H : Heap} {locs : List Loc} {stk r : List Value} {mc ms : Nat} {w1 : mW} {v1 : Option Value} {a : Array Value} (hr : va_Run p l e R s m args below meth c H locs cells slots mc ms (F0 m pc la stk) (r.map (m_cv B b)) (m_Qv B b cA D w1 v1 a) (fun q => B ≤ q)) (hS : va_S (fun q => B ≤ q) s.heap H locs)
    (kk : ∀ (H1 : Heap) (locs1 : List Loc), m_Wo B b cA D w1 H1 → va_S (fun q => B ≤ q) s.heap H1 locs1 → W p l e R s m args below meth c H1 locs1 (cells + mc) (slots + ms) Q (F0 m (pc + 3) la ((v1.toList ++ r).map (m_cv B b)))) : W p l e R s m args below meth c H locs cells slots Q (F0 m pc la stk) := by
  cases v1 with
  | none =>
    refine va_callv (a := a) hr hS (fun _ _ h => h) (fun _ h => h) fun u t H1 locs1 ht _ _ hB _ _ hS1 => ?_
    exact kk H1 locs1 (by rw [← ht]; exact hB) hS1
  | some v =>
    cases v with
    | int x =>
      refine va_calli (a := a) hr hS (fun _ _ h => h) (fun _ h => h) fun r u t H1 locs1 ht _ hp hB _ _ hS1 => ?_
      rw [hp]
      exact kk H1 locs1 (by rw [← ht]; exact hB) hS1
    | long x =>
      refine va_calll (a := a) hr hS (fun _ _ h => h) (fun _ h => h) fun r u t H1 locs1 ht _ hp hB _ _ hS1 => ?_
      rw [hp]
      exact kk H1 locs1 (by rw [← ht]; exact hB) hS1
    | _ =>
      intro T hT X
      obtain ⟨v, st₀, t, T', L, h0, X', hL, e1, e2, hQ, st⟩ := hr T hT X
      exact absurd hQ (fun h => h)
end SOUND
