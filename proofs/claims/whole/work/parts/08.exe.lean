/-! every instruction of the interpreter, proved of the machine -/
section EXE
variable {S : mS} {B b : Nat} {cA : Nat → ClassId} {D : va_G} {mi : Nat} {p : Program} {l : Launch} {e : Env} {R : Room} {s : State} {m : MethodId} {args : Array Value} {below : List Frame} {meth : Method} {c : Code} {cells slots : Nat} {Q : State → Prop}
theorem m_cells_ge {w : mW} {k : Nat} {f : Nat → Value} {j : Nat} (hj : j < m_N k) : ((List.range (m_N k)).map f)[j]? = some (f j) := by
  rw [List.getElem?_map, List.getElem?_range hj]
  rfl
theorem m_x_get (C : m_Cx S B b cA D mi p R s m args meth c) {k pc i n ci j t : Nat} {ls : mLs} {r : List Value} {w : mW} (hd : decode (m_cod mi) pc = .ok (.getfield k, 3)) (hq : w.1[i]? = some (ci, n)) (hf : m_fldOk (m_own mi) (k, ci, j, t))
    (kk : m_FW B b cA D mi p l e R s m args below meth c (cells + (w.1.length - w.1.length)) (slots + (m_szs w - m_szs w)) Q (pc + 3) ls (m_fv w (i + 1) j t :: r) w) : m_FW B b cA D mi p l e R s m args below meth c cells slots Q pc ls (.ref (i + 1) :: r) w := by
  obtain ⟨hx, hb, hml, hown, hts, ⟨hK, -⟩, -⟩ := C
  obtain ⟨hci, hj, htc, -, hlink, -⟩ := hf
  dsimp only at hci hj htc hlink
  obtain ⟨h1, h2, -⟩ := m_cl_ok hci
  refine m_stp (fun H locs la hW hS hL k9 => ?_) kk
  show W p l e R s m args below meth c H locs cells slots Q (F0 m pc la (.ref (B + i) :: r.map (m_cv B b)))
  refine va_get (D := D) (cl := vwCl) (v := m_cv B b (m_fv w (i + 1) j t)) hx hb hts h2 hown hK hW.2 i ((m_wl_get hq).trans (by rw [m_ce_obj hci])) h1 j hj (hts _ hlink) (fun _ h9 => h9) ?_ hd k9
  rw [m_cells_ge (w := w) hj, htc]
theorem m_putW {k pc i n ci j t : Nat} {w w' : mW} {H : Heap} {locs : List Loc} {la : Array Slot} {v : Value} {rest : List Value} (C : m_Cx S B b cA D mi p R s m args meth c) (hW : m_Wo B b cA D w H) (hS : va_S (fun q => B ≤ q) s.heap H locs) (hd : decode (m_cod mi) pc = .ok (.putfield k, 3)) (hq : w.1[i]? = some (ci, n)) (hf : m_fldOk (m_own mi) (k, ci, j, t)) (hfin : (m_T ci j).2.2.2 = false ∨ (meth.name = "<init>" ∧ ci = m_owi mi))
    (hn : narrow (m_ty ci j) v = v) (hfit : fits (m_ty ci j) v = true) (hw1 : w'.1 = w.1) (hsame : ∀ a, a ≠ i + 1 → w'.2.1 a = w.2.1 a ∧ w'.2.2.1 a = w.2.2.1 a ∧ w'.2.2.2 a = w.2.2.2 a)
    (hv : ∀ y, y < m_N ci → m_cv B b (m_fv w' (i + 1) y (m_tco (m_ty ci y))) = if y = j then v else m_cv B b (m_fv w (i + 1) y (m_tco (m_ty ci y))))
    (kk : ∀ (H1 : Heap) (locs1 : List Loc), m_Wo B b cA D w' H1 → va_S (fun q => B ≤ q) s.heap H1 locs1 → W p l e R s m args below meth c H1 locs1 cells slots Q (F0 m (pc + 3) la rest)) : W p l e R s m args below meth c H locs cells slots Q (F0 m pc la (v :: .ref (B + i) :: rest)) := by
  obtain ⟨hx, hb, hml, hown, hts, ⟨hK, -⟩, -⟩ := C
  obtain ⟨hci, hj, htc, -, hlink, hdecl⟩ := hf
  dsimp only at hci hj htc hlink hdecl
  obtain ⟨hc, hin, hty, hnm, -⟩ := m_cl_ok hci
  have hap := va_apart (own := m_own mi) hts hin (m_ty ci) hty hnm hK hc
  have hat := hW.2 i _ (m_wl_get hq)
  rw [m_ce_obj hci] at hat
  obtain ⟨r, hr, cell, q1, q2, q3, q4⟩ := hat
  have hr2 := Option.some.inj (hr.symm.trans hc)
  subst hr2
  obtain ⟨hSl, hfc, kC, hkC, hkind⟩ := hK.1 ci _ hc
  obtain ⟨cf, kf, fi, f, hi, hsl⟩ := hSl j hj
  have hfacts := u_facts hfc hkC (u_lays hts hin hj) hi
  have hlt : f.slot < cell.slots.size := by rw [hsl]; exact k2_hasslot (q4 j hj)
  have fin : ∀ H1 : Heap, H1[B + i]? = some (cell.setSlot f.slot v) → H1.size = H.size → (∀ q, q ≠ B + i → H1[q]? = H[q]?) → m_Wo B b cA D w' H1 := by
    intro H1 e1 e2 e3
    refine m_Wo_set hW hq hw1 hsame ?_ e2 e3
    rw [m_ce_obj hci]
    rw [hsl] at e1
    refine ⟨_, hc, t_OB.to (V := updV (vp_V ((List.range (m_N ci)).map fun j => m_cv B b (m_fv w (i + 1) j (m_tco (m_ty ci j))))) j v) ⟨_, e1, q2, q3, t_set q4 hap hj v⟩ (fun y hy => ?_)⟩
    have e5 : ∀ g : Nat → Value, vp_V ((List.range (m_N ci)).map g) y = g y := by
      intro g
      unfold vp_V
      rw [List.getD_eq_getElem?_getD, m_cells_ge (w := w) hy]
      rfl
    unfold updV
    rw [e5, e5, hv y hy]
  have hlay := hts _ (hin _ (u_in_lay hj))
  unfold u_lay at hlay
  by_cases hff : (m_T ci j).2.2.2 = true
  · rw [if_pos hff] at hlay
    have hin2 : meth.name = "<init>" ∧ ci = m_owi mi := by
      rcases hfin with h | h
      · rw [hff] at h; cases h
      · exact h
    have h6 := u_fits hfc hkC hkind (Or.inr hlay) hi (hty j hj) hn hfit
    have hcf : m.cls = cf := by
      obtain ⟨_, _, c', _, _, _, -, -, hf', -, -, -, hown2, -⟩ := Cond.laysFinal_spec hlay
      have e1 : c' = cf := by have := hi.symm.trans hf'; simp at this; exact this.1.symm
      have hO : (m_T ci j).1 = m_own mi := by rw [hdecl, hin2.2]; rfl
      rw [hO] at hown2
      rw [← e1]; exact Option.some.inj (hown.symm.trans hown2)
    exact W.putFinK hx hb hown (hts _ hlink) hi hfacts.1 hcf hin2.1 (by rw [q2]; exact h6) q1 q3 hlt rfl rfl hd fun H1 e1 e2 e3 => kk H1 _ (fin H1 e1 e2 e3) (hS.put e2 e3 (Nat.le_add_right _ _))
  · have hff : (m_T ci j).2.2.2 = false := by simpa using hff
    rw [if_neg (by rw [hff]; decide)] at hlay
    have h6 := u_store hfc hkC hkind hlay hi (hty j hj) hn hfit
    exact W.putK hx hb (f := f) ⟨hown, hts _ hlink, ⟨_, _, _, hi⟩, hfacts.1⟩ (by rw [q2]; exact h6) q1 q3 hlt rfl rfl hd fun H1 e1 e2 e3 => kk H1 _ (fin H1 e1 e2 e3) (hS.put e2 e3 (Nat.le_add_right _ _))
theorem m_tco2 {t : FieldType} (h : m_tco t = 2) (a : Nat) : narrow t (.ref a) = .ref a ∧ fits t (.ref a) = true := by
  cases t <;> first | (exact ⟨rfl, rfl⟩) | (simp [m_tco] at h; done)
theorem m_tco1 {t : FieldType} (h : m_tco t = 1) : t = .long := by
  cases t <;> first | rfl | (simp [m_tco] at h; done)
theorem m_tco3 {t : FieldType} (h : m_tco t = 3) : t = .boolean := by
  cases t <;> first | rfl | (simp [m_tco] at h; done)
theorem m_bl_ok {x : Int32} (h : m_bl x = true) : narrow .boolean (.int x) = .int x ∧ fits .boolean (.int x) = true := by
  rcases of_decide_eq_true h with rfl | rfl
  · exact ⟨by decide +kernel, by decide +kernel⟩
  · exact ⟨by decide +kernel, by decide +kernel⟩
theorem m_fv_I {w : mW} {a j y t k : Nat} {x : Int32} (ht : t = 0 ∨ t = 3) (hk : k = j → t = m_tco (m_ty y j)) : m_fv (m_sI w a j x) a k (m_tco (m_ty y k)) = if k = j then .int x else m_fv w a k (m_tco (m_ty y k)) := by
  by_cases h : k = j
  · subst h
    rw [if_pos rfl, ← hk rfl]
    rcases ht with rfl | rfl <;> simp [m_fv, m_sI, m_up]
  · rw [if_neg h]
    unfold m_fv m_sI
    dsimp only
    rw [m_up_eq, if_neg h]
theorem m_fv_L {w : mW} {a j y k : Nat} {x : Int64} (hk : m_tco (m_ty y j) = 1) : m_fv (m_sL w a j x) a k (m_tco (m_ty y k)) = if k = j then .long x else m_fv w a k (m_tco (m_ty y k)) := by
  by_cases h : k = j
  · subst h
    rw [if_pos rfl, hk]
    simp [m_fv, m_sL, m_up]
  · rw [if_neg h]
    unfold m_fv m_sL
    dsimp only
    rw [m_up_eq, if_neg h]
theorem m_fv_R {w : mW} {a j y k : Nat} {x : Nat} (hk : m_tco (m_ty y j) = 2) : m_fv (m_sR w a j (some x)) a k (m_tco (m_ty y k)) = if k = j then .ref x else m_fv w a k (m_tco (m_ty y k)) := by
  by_cases h : k = j
  · subst h
    rw [if_pos rfl, hk]
    simp [m_fv, m_sR, m_up, va_rf]
  · rw [if_neg h]
    unfold m_fv m_sR
    dsimp only
    rw [m_up_eq, if_neg h]
theorem m_sI_ne {w : mW} {i k a : Nat} {x : Int32} (h : a ≠ i + 1) : (m_sI w (i + 1) k x).2.1 a = w.2.1 a ∧ (m_sI w (i + 1) k x).2.2.1 a = w.2.2.1 a ∧ (m_sI w (i + 1) k x).2.2.2 a = w.2.2.2 a := ⟨m_up_ne h, rfl, rfl⟩
theorem m_sL_ne {w : mW} {i k a : Nat} {x : Int64} (h : a ≠ i + 1) : (m_sL w (i + 1) k x).2.1 a = w.2.1 a ∧ (m_sL w (i + 1) k x).2.2.1 a = w.2.2.1 a ∧ (m_sL w (i + 1) k x).2.2.2 a = w.2.2.2 a := ⟨rfl, m_up_ne h, rfl⟩
theorem m_sR_ne {w : mW} {i k a : Nat} {x : Option Nat} (h : a ≠ i + 1) : (m_sR w (i + 1) k x).2.1 a = w.2.1 a ∧ (m_sR w (i + 1) k x).2.2.1 a = w.2.2.1 a ∧ (m_sR w (i + 1) k x).2.2.2 a = w.2.2.2 a := ⟨rfl, rfl, m_up_ne h⟩
theorem m_x_putf (C : m_Cx S B b cA D mi p R s m args meth c) {k pc : Nat} {ls ls' : mLs} {st st' : List Value} {w w' : mW} {g : Option Bool} {pc' : Nat} (hd : decode (m_cod mi) pc = .ok (.putfield k, 3)) (he : m_putf mi k pc ls st w = some (g, pc', ls', st', w')) (hg : g ≠ some false)
    (kk : m_FW B b cA D mi p l e R s m args below meth c (cells + (w'.1.length - w.1.length)) (slots + (m_szs w' - m_szs w)) Q pc' ls' st' w') : m_FW B b cA D mi p l e R s m args below meth c cells slots Q pc ls st w := by
  unfold m_putf at he
  split at he
  next v a r =>
    split at he
    next ci j t hf0 =>
      have hf : m_fldOk (m_own mi) (k, ci, j, t) := m_flds_ok (m_owi mi) _ (m_fnd_mem hf0)
      split at he
      next hb =>
        obtain ⟨h1, h2⟩ := Bool.and_eq_true_iff.mp hb
        have hci : ci < 7 := hf.1
        obtain ⟨i, n, rfl, hq, -⟩ := m_sh_get h1 (by omega)
        have hfin : (m_T ci j).2.2.2 = false ∨ (meth.name = "<init>" ∧ ci = m_owi mi) := by
          rcases Bool.or_eq_true_iff.mp h2 with h | h
          · left; simpa using h
          · right
            obtain ⟨h3, h4⟩ := Bool.and_eq_true_iff.mp h
            exact ⟨C.2.2.2.2.2.2.1 h3, Nat.eq_of_beq_eq_true h4⟩
        have htc : m_tco (m_ty ci j) = t := hf.2.2.1
        clear hf0
        split at he
        next x =>
          cases he
          have hty : m_ty ci j = .int := hf.2.2.2.1 rfl
          refine m_stw (w' := m_sI w (i + 1) j x) rfl (fun H locs la hW hS k9 => ?_) kk
          refine m_putW (w' := m_sI w (i + 1) j x) C hW hS hd hq hf hfin (v := .int x) (by rw [hty]; exact vp_nar_int x) (by rw [hty]; rfl) rfl (fun a ha => m_sI_ne ha) (fun y hy => ?_) k9
          rw [m_fv_I (Or.inl rfl) (fun _ => htc.symm)]
          by_cases hyj : y = j
          · rw [if_pos hyj, if_pos hyj]; rfl
          · rw [if_neg hyj, if_neg hyj]
        next x =>
          cases he
          have hty : m_ty ci j = .boolean := m_tco3 htc
          have hx : m_bl x = true := by
            cases hb : m_bl x with
            | true => rfl
            | false => rw [hb] at hg; exact absurd rfl hg
          refine m_stw (w' := m_sI w (i + 1) j x) rfl (fun H locs la hW hS k9 => ?_) kk
          refine m_putW (w' := m_sI w (i + 1) j x) C hW hS hd hq hf hfin (v := .int x) (by rw [hty]; exact (m_bl_ok hx).1) (by rw [hty]; exact (m_bl_ok hx).2) rfl (fun a ha => m_sI_ne ha) (fun y hy => ?_) k9
          rw [m_fv_I (Or.inr rfl) (fun _ => htc.symm)]
          by_cases hyj : y = j
          · rw [if_pos hyj, if_pos hyj]; rfl
          · rw [if_neg hyj, if_neg hyj]
        next x =>
          cases he
          have hty : m_ty ci j = .long := m_tco1 htc
          refine m_stw (w' := m_sL w (i + 1) j x) rfl (fun H locs la hW hS k9 => ?_) kk
          refine m_putW (w' := m_sL w (i + 1) j x) C hW hS hd hq hf hfin (v := .long x) (by rw [hty]; rfl) (by rw [hty]; rfl) rfl (fun a ha => m_sL_ne ha) (fun y hy => ?_) k9
          rw [m_fv_L htc]
          by_cases hyj : y = j
          · rw [if_pos hyj, if_pos hyj]; rfl
          · rw [if_neg hyj, if_neg hyj]
        next x =>
          cases he
          refine m_stw (w' := m_sR w (i + 1) j (some x)) rfl (fun H locs la hW hS k9 => ?_) kk
          refine m_putW (w' := m_sR w (i + 1) j (some x)) C hW hS hd hq hf hfin (v := .ref (m_ad B b x)) (m_tco2 htc _).1 (m_tco2 htc _).2 rfl (fun a ha => m_sR_ne ha) (fun y hy => ?_) k9
          rw [m_fv_R htc]
          by_cases hyj : y = j
          · rw [if_pos hyj, if_pos hyj]; rfl
          · rw [if_neg hyj, if_neg hyj]
        next => cases he
      next => cases he
    next => cases he
  next => cases he
end EXE
