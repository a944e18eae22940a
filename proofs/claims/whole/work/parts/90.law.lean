/-! THE CLAIM OUT OF ONE WALK OF THE LAW'S BODY. Your part is whole_start (and what it stands on); all else here is the same for every law, but numbers. -/
def R_law : String := "MillSailsLaw"
def lw_P (b : Addr) (xs : List Int32) (args : Array Value) (s : State) : Prop := args = #[.ref b] ∧ s.IntsAt b xs ∧ xs.length ≤ 320 ∧ (Jvm.Cond.and given_1 narrow_1).before args s = true
def lw_Q (_ : Array Value) (s : State) (o : Outcome) (t : State) : Prop := o = .returned (some (.int 1)) ∧ Framed s o t [] 600000 7302250
def lw_Z (below : List Frame) (a : Array Value) (s : State) : State → Prop := fun t => ∃ o, t.status = .running ∧ Ended t below o ∧ lw_Q a s o t
/-- the law's own end, with 1 on the stack, nothing written that was there before, its room as the claim has it -/
theorem lw_ret {p : Program} {l : Launch} {e : Env} {s : State} {m : MethodId} {below : List Frame} {meth : Method} {c : Code} {b : Nat} (hx : p.tables.exec = Jvm.exec) (hb : c.code = code) (hr : meth.sig.returnType = ret) (hlocks : meth.locks = false) {pc : Nat} {H : Heap} {ls : Array Slot} (hdg : decode code pc = .ok (.ireturn, 1)) : W p l e room_1 s m #[Value.ref b] below meth c H [] 600000 7302250 (lw_Z below #[Value.ref b] s) (F0 m pc ls [.int 1]) := by
  intro T hT X
  obtain ⟨fs, hret, hrun, hended, hW, hframe⟩ := X.leave (v := some (.int 1)) (hlocks := hlocks) (fun h => by rw [hr] at h; cases h)
  have hmeth' : T.vm.method? m = some meth := X.method'
  refine ⟨T.setFrames fs, ?_, .returned (some (.int 1)), hrun, hended, rfl, ⟨_, rfl⟩, hW, hframe⟩
  jvm_step X.here [X.here.top, hx, hb, hdg, hmeth', hr, ret, narrow_b1]
  (try refine ⟨rfl, ?_⟩); (try refine ⟨rfl, ?_⟩)
  first | (intro acts; rw [hret _ acts rfl rfl rfl]) | rw [hret _ _ rfl rfl rfl]
  exact Steps.refl _
/-- what holds at the law's entry: the machine, the code, the tables' words (any of lw_tbl by 'hts w (by decide +kernel)'), the script of L ints xs at the cell b, what the Statement gives of the start (any of its parts by flat_of_before) -/
def lw_At (p : Program) (s : State) (m : MethodId) (meth : Method) (c : Code) (b L : Nat) (xs : Nat → Int32) : Prop :=
  p.tables.exec = Jvm.exec ∧ c.code = code ∧ meth.sig.returnType = ret ∧ c.maxLocals = 4 ∧ s.vm.findClass R_law = some m.cls ∧ (∀ w ∈ lw_tbl, w.before #[Value.ref b] s = true) ∧ va_X b L xs s s.heap ∧ b < s.heap.size ∧ meth.locks = false ∧ (Jvm.Cond.and given_1 narrow_1).before #[Value.ref b] s = true
/-- the empty world -/
def m_w0 : mW := ([], fun _ _ => 0, fun _ _ => 0, fun _ _ => none)
/-- what the law's run must be: for every script -/
def m_goal : Prop := ∀ (L : Nat) (xs : Nat → Int32), L ≤ 320 → ∃ (n : Nat) (w' : mW), m_run (L, xs) n 146 0 (m_ent 146 [.ref 0]) [] m_w0 = some (some (.int 1), w') ∧ w'.1.length ≤ 600000 ∧ m_szs w' ≤ 7302250
theorem m_arr_at {s : State} {args : Array Value} {ty : FieldType} (h : (Cond.arrayClass ty).before args s = true) (hr : ∀ x : ClassId, s.vm.findClass ("[" ++ ty.toString) = some x → va_RA s x ty) : ∃ x, ArrOfT s x ty ∧ va_RA s x ty := by
  obtain ⟨c, k, comp, h1, h2, h3⟩ := Cond.arrayClass_spec h
  exact ⟨c, fun n z => ⟨(fun k h => by cases h), k, h2, comp, h3⟩, hr c h1⟩
set_option maxHeartbeats 4000000 in
set_option maxRecDepth 100000 in
theorem m_start (hgoal : m_goal) {p : Program} {e : Env} {s : State} {m : MethodId} {below : List Frame} {meth : Method} {c : Code} (l : Launch) {b L : Nat} {xs : Nat → Int32} (hL : L ≤ 320) (C0 : lw_At p s m meth c b L xs) : W p l e room_1 s m #[Value.ref b] below meth c s.heap [] 0 0 (lw_Z below #[Value.ref b] s) (entryFrame m ([Value.ref b] : List Value).toArray 4) := by
  obtain ⟨hx, hb, hr, hml, hown, hts, hX, hbl, hlocks, hgv⟩ := C0
  obtain ⟨n, w', hrun, hlen, hszs⟩ := hgoal L xs hL
  have htg : ∀ w ∈ m_gw, w.before #[Value.ref b] s = true := fun w h => hts w (List.mem_filter.mp h).1
  have hcls : ∀ ci : Nat, ∃ (cC : ClassId) (iS : Nat → Nat), ci < 7 → u_Kn s (m_C ci) (m_T ci) (m_N ci) cC iS := by
    intro ci
    by_cases h : ci < 7
    · obtain ⟨h1, h2, h3, h4, h5, h6⟩ := m_cl_ok h
      obtain ⟨cC, iS, hk⟩ := u_known (C := m_C ci) (T := m_T ci) (N := m_N ci) htg h2 (htg _ h5)
      exact ⟨cC, iS, fun _ => hk⟩
    · exact ⟨0, fun _ => 0, fun h2 => absurd h2 h⟩
  obtain ⟨c7, h7⟩ := m_arr_at (htg _ m_ac_char) (fun x h => h)
  obtain ⟨c8, h8⟩ := m_arr_at (htg _ m_ac_int) (fun x h => h)
  obtain ⟨c9, h9⟩ := m_arr_at (htg _ m_ac_long) (fun x h => h)
  obtain ⟨c10, h10⟩ := m_arr_at (htg _ m_ac_boolean) (fun x h => h)
  obtain ⟨c11, h11⟩ : ∃ x, ArrOfT s x (.object RX1) ∧ va_RA s x (.object RX1) := by
    obtain ⟨comp, cc, k, h1, h2, h3, h4, h5⟩ := Cond.arrayOver_spec (hts _ m_ao_ok)
    exact ⟨cc, fun n z => ⟨(fun k h => by cases h), k, h3, comp, h4⟩, k, comp, h3, h4, h1, h5⟩
  let cA : Nat → ClassId := fun k => if k = 7 then c7 else if k = 8 then c8 else if k = 9 then c9 else if k = 10 then c10 else c11
  let D : va_G := (fun ci => Classical.choose (hcls ci), fun ci => Classical.choose (Classical.choose_spec (hcls ci)))
  have hK : va_K D vwCl (m_tyl cA) s := by
    refine ⟨fun ci q hq => ?_, fun k q hq => ?_⟩
    · have hci : ci < 7 := (List.getElem?_eq_some_iff.mp hq).1
      have h1 := (m_cl_ok hci).1
      rw [hq] at h1
      cases h1
      exact Classical.choose_spec (Classical.choose_spec (hcls ci)) hci
    · match k, hq with
      | 0, hq => cases hq; exact h7
      | 1, hq => cases hq; exact h8
      | 2, hq => cases hq; exact h9
      | 3, hq => cases hq; exact h10
      | 4, hq => cases hq; exact h11
      | k + 5, hq => simp [m_tyl] at hq
  have hSx : m_Sx (L, xs) s.heap.size b cA D s := ⟨hK, fun w hw => va_Nw.of (by
      unfold m_nw at hw
      simp only [List.mem_cons, List.not_mem_nil, or_false] at hw
      rcases hw with rfl | rfl | rfl | rfl | rfl | rfl <;> rfl) (hts w (m_nw_ok w hw)), va_AO.of (A := #[Value.ref b]) (hts _ m_ao_ok), hX, hbl, Nat.le_refl _⟩
  have C : m_Cx (L, xs) s.heap.size b cA D 146 p room_1 s m #[Value.ref b] meth c := ⟨hx, hb, hml, hown, htg, hSx, fun h => absurd h (by decide +kernel), by decide, by decide⟩
  rw [lg_entry_eq]
  refine m_sound (L, xs) s.heap.size b cA D l n 146 0 _ [] m_w0 _ w' hrun p e room_1 s m _ below meth c 0 0 _ C _ _ rfl rfl ?_ ?_ ?_ (m_ent_lgo (by decide)) s.heap [] _ ⟨rfl, fun k q h => ?_⟩ va_S.rf (m_ent_has (B := s.heap.size) (b := b) (mi := 146) (vs := [.ref 0]) (by decide))
  · show 0 + (w'.1.length - 0) ≤ 600000
    omega
  · show 0 + (m_szs w' - 0) ≤ 7302250
    omega
  · intro pc' la' H' locs' hret hW' hS'
    refine va_forget (fun q hq => hS'.2.2 q hq) ?_
    refine W.widen (k := 600000) (n := 7302250) ?_ ?_ ?_
    · show 0 + (w'.1.length - 0) ≤ 600000
      omega
    · show 0 + (m_szs w' - 0) ≤ 7302250
      omega
    · exact lw_ret hx hb hr hlocks hret.1
  · exact absurd h (by simp [m_wl, m_w0])
