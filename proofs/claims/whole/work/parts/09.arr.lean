/-! arrays and making, proved of the machine -/
section ARR
variable {S : mS} {B b : Nat} {cA : Nat → ClassId} {D : va_G} {mi : Nat} {p : Program} {l : Launch} {e : Env} {R : Room} {s : State} {m : MethodId} {args : Array Value} {below : List Frame} {meth : Method} {c : Code} {cells slots : Nat} {Q : State → Prop}
theorem m_okin {j : Int32} {n : Nat} {g : Option Bool} (hg : some (m_ok j n) ≠ some false) : vp_in j n := by
  have h : m_ok j n = true := by
    cases hb : m_ok j n with
    | true => rfl
    | false => rw [hb] at hg; exact absurd rfl hg
  exact (of_decide_eq_true (p := ¬ (j < 0 ∨ n ≤ j.toNatClampNeg)) h : ¬ (j < 0 ∨ n ≤ j.toNatClampNeg))
theorem m_okin2 {j : Int32} {n : Nat} (hg : some (m_ok j n) ≠ some false) : vp_in j n := m_okin (g := none) hg
theorem m_at_i {H1 : Heap} {a n k : Nat} {cI : ClassId} {f g : Nat → Int32} {v : Value} {x : Int32} (hv : v = .int x) (e : H1[a]? = some ((vp_cell cI (n, .inl f)).setSlot k v)) (hg : ∀ y, g y = if y = k then x else f y) : H1[a]? = some (vp_cell cI (n, .inl g)) := by
  rw [e, hv, vp_cell_i, vp_cell_i, arrV_store]
  congr 2
  funext q
  unfold updV
  rw [hg]
  by_cases hq : q = k
  · rw [if_pos hq, if_pos hq]
  · rw [if_neg hq, if_neg hq]
theorem m_at_l {H1 : Heap} {a n k : Nat} {cI : ClassId} {f g : Nat → Int64} {x : Int64} (e : H1[a]? = some ((vp_cell cI (n, .inr (.inl f))).setSlot k (.long x))) (hg : ∀ y, g y = if y = k then x else f y) : H1[a]? = some (vp_cell cI (n, .inr (.inl g))) := by
  rw [e, vp_cell_l, vp_cell_l, arrV_store]
  congr 2
  funext q
  unfold updV
  rw [hg]
  by_cases hq : q = k
  · rw [if_pos hq, if_pos hq]
  · rw [if_neg hq, if_neg hq]
theorem m_at_q {H1 : Heap} {a n k : Nat} {cI : ClassId} {f g : Nat → Option Nat} {x : Nat} (e : H1[a]? = some ((vp_cell cI (n, .inr (.inr (.inr (.inr f))))).setSlot k (.ref x))) (hg : ∀ y, g y = if y = k then some x else f y) : H1[a]? = some (vp_cell cI (n, .inr (.inr (.inr (.inr g))))) := by
  rw [e, vp_cell_q, vp_cell_q, arrV_store]
  congr 2
  funext q
  unfold updV
  rw [hg]
  by_cases hq : q = k
  · rw [if_pos hq, if_pos hq]; rfl
  · rw [if_neg hq, if_neg hq]
theorem m_arrin {n : Nat} {cI : ClassId} {f : Nat → Int32} {j : Int32} (h : vp_in j n) : ¬ (j < 0 ∨ (vp_cell cI (n, .inl f)).slots.size ≤ j.toNatClampNeg) := by
  rw [vp_cell_i, arrV_size]; exact h
theorem m_arrinl {n : Nat} {cI : ClassId} {f : Nat → Int64} {j : Int32} (h : vp_in j n) : ¬ (j < 0 ∨ (vp_cell cI (n, .inr (.inl f))).slots.size ≤ j.toNatClampNeg) := by
  rw [vp_cell_l, arrV_size]; exact h
theorem m_x_iast (C : m_Cx S B b cA D mi p R s m args meth c) {pc i n : Nat} {ls : mLs} {r : List Value} {w : mW} {j x : Int32} (hd : decode (m_cod mi) pc = .ok (.iastore, 1)) (hq : w.1[i]? = some (8, n)) (hin : vp_in j n)
    (kk : m_FW B b cA D mi p l e R s m args below meth c (cells + ((m_sI w (i + 1) j.toNatClampNeg x).1.length - w.1.length)) (slots + (m_szs (m_sI w (i + 1) j.toNatClampNeg x) - m_szs w)) Q (pc + 1) ls r (m_sI w (i + 1) j.toNatClampNeg x)) : m_FW B b cA D mi p l e R s m args below meth c cells slots Q pc ls (.int x :: .int j :: .ref (i + 1) :: r) w := by
  obtain ⟨hx, hb, hml, hown, hts, ⟨hK, -⟩, -⟩ := C
  refine m_stw (w' := m_sI w (i + 1) j.toNatClampNeg x) rfl (fun H locs la hW hS k9 => ?_) kk
  have ha := hW.2 i _ (m_wl_get hq)
  rw [m_ce_i] at ha
  refine W.iast hx hb ha ((hK.2 1 _ rfl).1 n (fun j => .int (w.2.1 (i + 1) j))) (fun q => by cases q) (m_arrin hin) rfl rfl hd fun H1 e1 e2 e3 => ?_
  refine k9 H1 _ (m_Wo_set (w' := m_sI w (i + 1) j.toNatClampNeg x) hW hq rfl (fun a ha => m_sI_ne ha) ?_ e2 e3) (hS.put e2 e3 (Nat.le_add_right _ _))
  rw [m_ce_i]
  exact m_at_i rfl e1 (fun y => m_up_eq y)
theorem m_x_cast (C : m_Cx S B b cA D mi p R s m args meth c) {pc i n : Nat} {ls : mLs} {r : List Value} {w : mW} {j x : Int32} (hd : decode (m_cod mi) pc = .ok (.castore, 1)) (hq : w.1[i]? = some (7, n)) (hin : vp_in j n)
    (kk : m_FW B b cA D mi p l e R s m args below meth c (cells + ((m_sI w (i + 1) j.toNatClampNeg (vp_nar .char x)).1.length - w.1.length)) (slots + (m_szs (m_sI w (i + 1) j.toNatClampNeg (vp_nar .char x)) - m_szs w)) Q (pc + 1) ls r (m_sI w (i + 1) j.toNatClampNeg (vp_nar .char x))) : m_FW B b cA D mi p l e R s m args below meth c cells slots Q pc ls (.int x :: .int j :: .ref (i + 1) :: r) w := by
  obtain ⟨hx, hb, hml, hown, hts, ⟨hK, -⟩, -⟩ := C
  refine m_stw (w' := m_sI w (i + 1) j.toNatClampNeg (vp_nar .char x)) rfl (fun H locs la hW hS k9 => ?_) kk
  have ha := hW.2 i _ (m_wl_get hq)
  rw [m_ce_c] at ha
  refine W.cast hx hb ha ((hK.2 0 _ rfl).1 n (fun j => .int (w.2.1 (i + 1) j))) (fun q => by cases q) (m_arrin hin) rfl rfl hd fun H1 e1 e2 e3 => ?_
  refine k9 H1 _ (m_Wo_set (w' := m_sI w (i + 1) j.toNatClampNeg (vp_nar .char x)) hW hq rfl (fun a ha => m_sI_ne ha) ?_ e2 e3) (hS.put e2 e3 (Nat.le_add_right _ _))
  rw [m_ce_c]
  exact m_at_i (x := vp_nar .char x) rfl e1 (fun y => m_up_eq y)
theorem m_x_zast (C : m_Cx S B b cA D mi p R s m args meth c) {pc i n : Nat} {ls : mLs} {r : List Value} {w : mW} {j x : Int32} (hd : decode (m_cod mi) pc = .ok (.bastore, 1)) (hq : w.1[i]? = some (10, n)) (hin : vp_in j n)
    (kk : m_FW B b cA D mi p l e R s m args below meth c (cells + ((m_sI w (i + 1) j.toNatClampNeg (vp_nar .boolean x)).1.length - w.1.length)) (slots + (m_szs (m_sI w (i + 1) j.toNatClampNeg (vp_nar .boolean x)) - m_szs w)) Q (pc + 1) ls r (m_sI w (i + 1) j.toNatClampNeg (vp_nar .boolean x))) : m_FW B b cA D mi p l e R s m args below meth c cells slots Q pc ls (.int x :: .int j :: .ref (i + 1) :: r) w := by
  obtain ⟨hx, hb, hml, hown, hts, ⟨hK, -⟩, -⟩ := C
  refine m_stw (w' := m_sI w (i + 1) j.toNatClampNeg (vp_nar .boolean x)) rfl (fun H locs la hW hS k9 => ?_) kk
  have ha := hW.2 i _ (m_wl_get hq)
  rw [m_ce_z] at ha
  refine W.zast hx hb ha ((hK.2 3 _ rfl).1 n (fun j => .int (w.2.1 (i + 1) j))) (fun q => by cases q) (m_arrin hin) rfl rfl hd fun H1 e1 e2 e3 => ?_
  refine k9 H1 _ (m_Wo_set (w' := m_sI w (i + 1) j.toNatClampNeg (vp_nar .boolean x)) hW hq rfl (fun a ha => m_sI_ne ha) ?_ e2 e3) (hS.put e2 e3 (Nat.le_add_right _ _))
  rw [m_ce_z]
  exact m_at_i (x := vp_nar .boolean x) rfl e1 (fun y => m_up_eq y)
theorem m_x_last (C : m_Cx S B b cA D mi p R s m args meth c) {pc i n : Nat} {ls : mLs} {r : List Value} {w : mW} {j : Int32} {x : Int64} (hd : decode (m_cod mi) pc = .ok (.lastore, 1)) (hq : w.1[i]? = some (9, n)) (hin : vp_in j n)
    (kk : m_FW B b cA D mi p l e R s m args below meth c (cells + ((m_sL w (i + 1) j.toNatClampNeg x).1.length - w.1.length)) (slots + (m_szs (m_sL w (i + 1) j.toNatClampNeg x) - m_szs w)) Q (pc + 1) ls r (m_sL w (i + 1) j.toNatClampNeg x)) : m_FW B b cA D mi p l e R s m args below meth c cells slots Q pc ls (.long x :: .int j :: .ref (i + 1) :: r) w := by
  obtain ⟨hx, hb, hml, hown, hts, ⟨hK, -⟩, -⟩ := C
  refine m_stw (w' := m_sL w (i + 1) j.toNatClampNeg x) rfl (fun H locs la hW hS k9 => ?_) kk
  have ha := hW.2 i _ (m_wl_get hq)
  rw [m_ce_l] at ha
  refine W.last hx hb ha ((hK.2 2 _ rfl).1 n (fun j => .long (w.2.2.1 (i + 1) j))) (fun q => by cases q) (m_arrinl hin) rfl rfl hd fun H1 e1 e2 e3 => ?_
  refine k9 H1 _ (m_Wo_set (w' := m_sL w (i + 1) j.toNatClampNeg x) hW hq rfl (fun a ha => m_sL_ne ha) ?_ e2 e3) (hS.put e2 e3 (Nat.le_add_right _ _))
  rw [m_ce_l]
  exact m_at_l e1 (fun y => m_up_eq y)
theorem m_x_qast (C : m_Cx S B b cA D mi p R s m args meth c) {pc i n v n2 : Nat} {ls : mLs} {r : List Value} {w : mW} {j : Int32} (hd : decode (m_cod mi) pc = .ok (.aastore, 1)) (hq : w.1[i]? = some (11, n)) (hv : w.1[v]? = some (1, n2)) (hin : vp_in j n)
    (kk : m_FW B b cA D mi p l e R s m args below meth c (cells + ((m_sR w (i + 1) j.toNatClampNeg (some (v + 1))).1.length - w.1.length)) (slots + (m_szs (m_sR w (i + 1) j.toNatClampNeg (some (v + 1))) - m_szs w)) Q (pc + 1) ls r (m_sR w (i + 1) j.toNatClampNeg (some (v + 1)))) : m_FW B b cA D mi p l e R s m args below meth c cells slots Q pc ls (.ref (v + 1) :: .int j :: .ref (i + 1) :: r) w := by
  obtain ⟨hx, hb, hml, hown, hts, ⟨hK, -⟩, -⟩ := C
  refine m_stw (w' := m_sR w (i + 1) j.toNatClampNeg (some (v + 1))) rfl (fun H locs la hW hS k9 => ?_) kk
  have ha := hW.2 i _ (m_wl_get hq)
  rw [m_ce_q] at ha
  have hav := hW.2 v _ (m_wl_get hv)
  rw [m_ce_obj (by decide)] at hav
  obtain ⟨r', hr', cellV, g1, g2, g3, -⟩ := hav
  have hcls := (hK.1 1 _ (m_cl_ok (ci := 1) (by decide)).1).2
  obtain ⟨kA, comp, k1, k2, k3, -⟩ := (hK.2 4 _ rfl).2
  have hcomp : comp = D.1 1 := Option.some.inj (k3.symm.trans hcls.1)
  subst hcomp
  obtain ⟨kC, hkC, hkk⟩ := hcls.2
  have h0 : ¬ j < 0 := fun q => hin (Or.inl q)
  have hlt : j.toNatClampNeg < n := Nat.not_le.mp fun q => hin (Or.inr q)
  refine W.aast hx hb ha (fun q h => by cases h) (fun h => by cases h) k1 k2 rfl hkC ⟨h0, by rw [vp_cell_q, arrV_size]; exact hlt⟩ g1 (fun q h => by rw [g3] at h; cases h) (by rw [g2]; exact hkC) (by rw [g2]; exact va_assign (C := m_C 1) ⟨hcls.1, kC, hkC, hkk⟩) rfl rfl hd fun H1 e1 e2 e3 => ?_
  refine k9 H1 _ (m_Wo_set (w' := m_sR w (i + 1) j.toNatClampNeg (some (v + 1))) hW hq rfl (fun a ha => m_sR_ne ha) ?_ e2 e3) (hS.put e2 e3 (Nat.le_add_right _ _))
  rw [m_ce_q]
  refine m_at_q e1 (fun y => ?_)
  show (m_up w.2.2.2 (i + 1) j.toNatClampNeg (some (v + 1)) (i + 1) y).map _ = _
  rw [m_up_eq]
  by_cases hy : y = j.toNatClampNeg
  · rw [if_pos hy, if_pos hy]; rfl
  · rw [if_neg hy, if_neg hy]
theorem m_szs_new (w : mW) (q : Nat × Nat) : m_szs (m_new w q) - m_szs w = (if q.1 < 7 then m_N q.1 else q.2) := by
  simp [m_szs, m_new]
theorem m_len_new (w : mW) (q : Nat × Nat) : (m_new w q).1.length - w.1.length = 1 := by
  simp [m_new]
theorem m_S_new {H0 H H1 : Heap} {locs : List Loc} (hS : va_S (fun q => B ≤ q) H0 H locs) (z : H1.size = H.size + 1) (oq : ∀ x : Nat, x < H.size → H1[x]? = H[x]?) : va_S (fun q => B ≤ q) H0 H1 locs :=
  ⟨Nat.le_trans hS.1 (by omega), fun x h1 h2 => (oq x (Nat.lt_of_lt_of_le h1 hS.1)).trans (hS.2.1 x h1 h2), hS.2.2⟩
theorem m_stn {pc pc' : Nat} {ls : mLs} {r st : List Value} {w : mW} {q : Nat × Nat} (hc : cells + ((m_new w q).1.length - w.1.length) ≤ R.cells) (hs : slots + (m_szs (m_new w q) - m_szs w) ≤ R.slots)
    (h : ∀ (H : Heap) (locs : List Loc) (la : Array Slot), m_Wo B b cA D w H → cells + 1 ≤ R.cells → slots + (if q.1 < 7 then m_N q.1 else q.2) ≤ R.slots → (∀ H1 : Heap, H1.size = H.size + 1 → (∀ x : Nat, x < H.size → H1[x]? = H[x]?) → va_at D vwCl (H.size, m_ce B b cA (m_new w q) q (w.1.length + 1)) H1 → W p l e R s m args below meth c H1 locs (cells + 1) (slots + (if q.1 < 7 then m_N q.1 else q.2)) Q (F0 m pc' la (.ref H.size :: r.map (m_cv B b)))) → W p l e R s m args below meth c H locs cells slots Q (F0 m pc la (st.map (m_cv B b))))
    (k : m_FW B b cA D mi p l e R s m args below meth c (cells + ((m_new w q).1.length - w.1.length)) (slots + (m_szs (m_new w q) - m_szs w)) Q pc' ls (.ref (w.1.length + 1) :: r) (m_new w q)) : m_FW B b cA D mi p l e R s m args below meth c cells slots Q pc ls st w := by
  rw [m_len_new] at k hc
  rw [m_szs_new] at k hs
  intro hg H locs la hW hS hL
  refine h H locs la hW hc hs fun H1 z oq he => ?_
  have h2 := k hg H1 locs la (m_Wo_new hW he z oq) (m_S_new hS z oq) hL
  have e9 : H.size = B + w.1.length := hW.1
  rw [e9]
  exact h2
theorem m_dv {ci : Nat} (h : ci < 7) : ∀ k, k < m_N ci → defaultValue (m_ty ci k) = (match m_tco (m_ty ci k) with | 1 => .long 0 | 2 => .null | _ => .int 0) := by
  match ci, h with
  | 0, _ => decide +kernel
  | 1, _ => decide +kernel
  | 2, _ => decide +kernel
  | 3, _ => decide +kernel
  | 4, _ => decide +kernel
  | 5, _ => decide +kernel
  | 6, _ => decide +kernel
  | ci + 7, h => exact absurd h (by omega)
theorem m_x_new (C : m_Cx S B b cA D mi p R s m args meth c) {k pc ci : Nat} {ls : mLs} {st : List Value} {w : mW} (hd : decode (m_cod mi) pc = .ok (.new k, 3)) (hf : m_clsOk (m_own mi) (k, ci))
    (hc : cells + ((m_new w (ci, m_N ci)).1.length - w.1.length) ≤ R.cells) (hs : slots + (m_szs (m_new w (ci, m_N ci)) - m_szs w) ≤ R.slots)
    (kk : m_FW B b cA D mi p l e R s m args below meth c (cells + ((m_new w (ci, m_N ci)).1.length - w.1.length)) (slots + (m_szs (m_new w (ci, m_N ci)) - m_szs w)) Q (pc + 3) ls (.ref (w.1.length + 1) :: st) (m_new w (ci, m_N ci))) : m_FW B b cA D mi p l e R s m args below meth c cells slots Q pc ls st w := by
  obtain ⟨hx, hb, hml, hown, hts, ⟨hK, -⟩, -⟩ := C
  have hci : ci < 7 := hf.1
  obtain ⟨h1, h2, h3, h4, h5, h6⟩ := m_cl_ok hci
  refine m_stn hc hs (fun H locs la hW hc1 hs1 k9 => ?_) kk
  rw [if_pos (show (ci, m_N ci).1 < 7 from hci)] at hs1 k9
  have hKn := hK.1 ci _ h1
  refine W.newcK hx hb hown (hts _ hf.2) (hts _ h5) (hts _ h6) rfl hd hc1 hs1 hKn.2.1 rfl fun H1 kC hkC e1 z1 o1 => ?_
  refine k9 H1 z1 o1 ?_
  rw [m_ce_obj hci]
  refine ⟨_, h1, (u_born (m_ty ci) hts h2 hKn hkC e1 h3).to (fun j hj => ?_)⟩
  unfold vp_V
  rw [List.getD_eq_getElem?_getD, m_cells_ge (w := w) hj, m_dv hci j hj]
  show _ = m_cv B b (m_fv (m_new w (ci, m_N ci)) (w.1.length + 1) j (m_tco (m_ty ci j)))
  unfold m_fv m_new
  dsimp only
  rw [m_z_eq, m_z_eq, m_z_eq]
  generalize m_tco (m_ty ci j) = t
  rcases t with _ | _ | _ | t <;> rfl
theorem m_x_newa (C : m_Cx S B b cA D mi p R s m args meth c) {pc t k : Nat} {ty : FieldType} {at0 : ArrayType} {n : Int32} {ls : mLs} {r : List Value} {w : mW} (hd : decode (m_cod mi) pc = .ok (.newarray at0, 2)) (hat : Cond.arrayClass (newarray.typeOf at0) ∈ m_gw) (hty : newarray.typeOf at0 = ty) (hk : ¬ k < 7) (htl : (m_tyl cA)[t]? = some (cA k, ty)) (hra : ∀ U : State, ∀ x : ClassId, va_RA U x ty → U.vm.findClass ("[" ++ ty.toString) = some x)
    (hv : ∀ a : Nat, va_at D vwCl (a, m_ce B b cA (m_new w (k, n.toNatClampNeg)) (k, n.toNatClampNeg) (w.1.length + 1)) = fun H1 => H1[a]? = some (arrV (cA k) n.toNatClampNeg (fun _ => defaultValue ty))) (hn : ¬ (n < 0 ∨ 65536 < n.toNatClampNeg)) (hby : componentBytes ty ≤ 8)
    (hc : cells + ((m_new w (k, n.toNatClampNeg)).1.length - w.1.length) ≤ R.cells) (hs : slots + (m_szs (m_new w (k, n.toNatClampNeg)) - m_szs w) ≤ R.slots)
    (kk : m_FW B b cA D mi p l e R s m args below meth c (cells + ((m_new w (k, n.toNatClampNeg)).1.length - w.1.length)) (slots + (m_szs (m_new w (k, n.toNatClampNeg)) - m_szs w)) Q (pc + 2) ls (.ref (w.1.length + 1) :: r) (m_new w (k, n.toNatClampNeg))) : m_FW B b cA D mi p l e R s m args below meth c cells slots Q pc ls (.int n :: r) w := by
  obtain ⟨hx, hb, hml, hown, hts, ⟨hK, -⟩, -⟩ := C
  subst hty
  refine m_stn hc hs (fun H locs la hW hc1 hs1 k9 => ?_) kk
  rw [if_neg (show ¬ (k, n.toNatClampNeg).1 < 7 from hk)] at hs1 k9
  have hbytes : n.toNatClampNeg * componentBytes (newarray.typeOf at0) ≤ 536870912 := by
    have h1 : n.toNatClampNeg ≤ 65536 := by omega
    calc n.toNatClampNeg * componentBytes (newarray.typeOf at0) ≤ 65536 * 8 := Nat.mul_le_mul h1 hby
      _ ≤ 536870912 := Nat.le_of_ble_eq_true rfl
  refine va_newaK hx hb (hts _ hat) rfl hd rfl (fun q => hn (Or.inl q)) rfl hbytes hc1 hs1 rfl fun H1 cA' e1 z1 o1 hAr hNm => ?_
  have hcA : cA' = cA k := Option.some.inj (hNm.symm.trans (hra s _ (hK.2 t _ htl).2))
  subst hcA
  refine k9 H1 z1 o1 ?_
  rw [hv]
  exact e1
theorem m_x_newq (C : m_Cx S B b cA D mi p R s m args meth c) {pc k : Nat} {n : Int32} {ls : mLs} {r : List Value} {w : mW} (hd : decode (m_cod mi) pc = .ok (.anewarray k, 3)) (hf : m_clsOk (m_own mi) (k, 1)) (hn : ¬ (n < 0 ∨ 65536 < n.toNatClampNeg))
    (hc : cells + ((m_new w (11, n.toNatClampNeg)).1.length - w.1.length) ≤ R.cells) (hs : slots + (m_szs (m_new w (11, n.toNatClampNeg)) - m_szs w) ≤ R.slots)
    (kk : m_FW B b cA D mi p l e R s m args below meth c (cells + ((m_new w (11, n.toNatClampNeg)).1.length - w.1.length)) (slots + (m_szs (m_new w (11, n.toNatClampNeg)) - m_szs w)) Q (pc + 3) ls (.ref (w.1.length + 1) :: r) (m_new w (11, n.toNatClampNeg))) : m_FW B b cA D mi p l e R s m args below meth c cells slots Q pc ls (.int n :: r) w := by
  obtain ⟨hx, hb, hml, hown, hts, ⟨hK, -, hAO, -⟩, -⟩ := C
  refine m_stn hc hs (fun H locs la hW hc1 hs1 k9 => ?_) kk
  rw [if_neg (show ¬ (11, n.toNatClampNeg).1 < 7 from (by decide : ¬ (11 : Nat) < 7))] at hs1 k9
  have hbytes : n.toNatClampNeg * 4 ≤ 536870912 := by
    have h1 : n.toNatClampNeg ≤ 65536 := by omega
    calc n.toNatClampNeg * 4 ≤ 65536 * 4 := Nat.mul_le_mul_right 4 h1
      _ ≤ 536870912 := Nat.le_of_ble_eq_true rfl
  refine W.anew (C := RX1) hx hb hown (hts _ hf.2) (va_AO.use hAO) rfl hd rfl (fun q => hn (Or.inl q)) hbytes hc1 hs1 fun cA' kA comp f1 f2 f3 f4 => ?_
  have hcA : cA' = cA 11 := by
    obtain ⟨_, _, -, -, -, h4⟩ := (hK.2 4 _ rfl).2
    exact Option.some.inj (f1.symm.trans h4)
  subst hcA
  refine k9 _ (by rw [Array.size_push]) (fun x hx => by rw [Array.getElem?_push, if_neg (Nat.ne_of_lt hx)]) ?_
  have e9 : m_ce B b cA (m_new w (11, n.toNatClampNeg)) (11, n.toNatClampNeg) (w.1.length + 1) = .inl (cA 11, n.toNatClampNeg, .inr (.inr (.inr (.inr fun _ => none)))) := by
    rw [m_ce_q]
    simp [m_new, m_z]
  rw [e9]
  show (H.push _)[H.size]? = some (vp_cell _ _)
  rw [Array.getElem?_push_size, vp_cell_q]
  show some _ = some (arrV (cA 11) n.toNatClampNeg (fun _ => Value.null))
  rw [← arrV_new]
end ARR
