/-! the step theorem -/
section EXOK
variable {S : mS} {B b : Nat} {cA : Nat → ClassId} {D : va_G} {mi : Nat} {p : Program} {l : Launch} {e : Env} {R : Room} {s : State} {m : MethodId} {args : Array Value} {below : List Frame} {meth : Method} {c : Code} {cells slots : Nat} {Q : State → Prop}
theorem m_zfI {w : mW} {q : Nat × Nat} : (m_new w q).2.1 (w.1.length + 1) = fun _ => 0 := by
  funext y
  simp [m_new, m_z]
theorem m_zfL {w : mW} {q : Nat × Nat} : (m_new w q).2.2.1 (w.1.length + 1) = fun _ => 0 := by
  funext y
  simp [m_new, m_z]
set_option maxHeartbeats 4000000 in
set_option maxRecDepth 100000 in
theorem m_exe_ok {pc len : Nat} {i : Instr} {ls ls' : mLs} {st st' : List Value} {w w' : mW} {g : Option Bool} {pc' : Nat} (C : m_Cx S B b cA D mi p R s m args meth c) (hd : decode (m_cod mi) pc = .ok (i, len)) (hl : m_lenOk i len = true) (he : m_exe S mi i pc ls st w = some (g, pc', ls', st', w')) (hg : g ≠ some false)
    (hc : cells + (w'.1.length - w.1.length) ≤ R.cells) (hs : slots + (m_szs w' - m_szs w) ≤ R.slots)
    (k : m_FW B b cA D mi p l e R s m args below meth c (cells + (w'.1.length - w.1.length)) (slots + (m_szs w' - m_szs w)) Q pc' ls' st' w') : m_FW B b cA D mi p l e R s m args below meth c cells slots Q pc ls st w := by
  have hx := C.1
  have hb := C.2.1
  have hml := C.2.2.1
  have hown := C.2.2.2.1
  have hts := C.2.2.2.2.1
  have hK := C.2.2.2.2.2.1.1
  have hX := C.2.2.2.2.2.1.2.2.2.1
  have hbB := C.2.2.2.2.2.1.2.2.2.2.1
  have hBs := C.2.2.2.2.2.1.2.2.2.2.2
  have hrF := C.2.2.2.2.2.2.2.1
  have hrL := C.2.2.2.2.2.2.2.2
  have hbA : ¬ (fun q : Nat => B ≤ q) b := Nat.not_le.mpr hbB
  have hbH : b < s.heap.size := Nat.lt_of_lt_of_le hbB hBs
  cases i with
  | iadd =>
    obtain rfl := m_lk (n := 1) hl rfl (by decide)
    obtain ⟨x, y, r, rfl, h⟩ := m_i2_inv he
    cases h
    exact m_stp (fun H locs la hW hS hL k9 => lv_iadd hx hb hd k9) k
  | isub =>
    obtain rfl := m_lk (n := 1) hl rfl (by decide)
    obtain ⟨x, y, r, rfl, h⟩ := m_i2_inv he
    cases h
    exact m_stp (fun H locs la hW hS hL k9 => lv_isub hx hb hd k9) k
  | imul =>
    obtain rfl := m_lk (n := 1) hl rfl (by decide)
    obtain ⟨x, y, r, rfl, h⟩ := m_i2_inv he
    cases h
    exact m_stp (fun H locs la hW hS hL k9 => lv_imul hx hb hd k9) k
  | iand =>
    obtain rfl := m_lk (n := 1) hl rfl (by decide)
    obtain ⟨x, y, r, rfl, h⟩ := m_i2_inv he
    cases h
    exact m_stp (fun H locs la hW hS hL k9 => lv_iand hx hb hd k9) k
  | ior =>
    obtain rfl := m_lk (n := 1) hl rfl (by decide)
    obtain ⟨x, y, r, rfl, h⟩ := m_i2_inv he
    cases h
    exact m_stp (fun H locs la hW hS hL k9 => lv_ior hx hb hd k9) k
  | ishl =>
    obtain rfl := m_lk (n := 1) hl rfl (by decide)
    obtain ⟨x, y, r, rfl, h⟩ := m_i2_inv he
    cases h
    exact m_stp (fun H locs la hW hS hL k9 => lv_ishl hx hb hd k9) k
  | idiv =>
    obtain rfl := m_lk (n := 1) hl rfl (by decide)
    obtain ⟨x, y, r, rfl, h⟩ := m_i2_inv he
    cases h
    have hy : ¬ y = 0 := by
      intro h0
      apply hg
      rw [h0]
      rfl
    exact m_stp (fun H locs la hW hS hL k9 => lv_idiv hx hb hd hy k9) k
  | irem =>
    obtain rfl := m_lk (n := 1) hl rfl (by decide)
    obtain ⟨x, y, r, rfl, h⟩ := m_i2_inv he
    cases h
    have hy : ¬ y = 0 := by
      intro h0
      apply hg
      rw [h0]
      rfl
    exact m_stp (fun H locs la hW hS hL k9 => lv_irem hx hb hd hy k9) k
  | ladd =>
    obtain rfl := m_lk (n := 1) hl rfl (by decide)
    obtain ⟨x, y, r, rfl, h⟩ := m_l2_inv he
    cases h
    exact m_stp (fun H locs la hW hS hL k9 => lv_ladd hx hb hd k9) k
  | lsub =>
    obtain rfl := m_lk (n := 1) hl rfl (by decide)
    obtain ⟨x, y, r, rfl, h⟩ := m_l2_inv he
    cases h
    exact m_stp (fun H locs la hW hS hL k9 => lv_lsub hx hb hd k9) k
  | land =>
    obtain rfl := m_lk (n := 1) hl rfl (by decide)
    obtain ⟨x, y, r, rfl, h⟩ := m_l2_inv he
    cases h
    exact m_stp (fun H locs la hW hS hL k9 => lv_land hx hb hd k9) k
  | lor =>
    obtain rfl := m_lk (n := 1) hl rfl (by decide)
    obtain ⟨x, y, r, rfl, h⟩ := m_l2_inv he
    cases h
    exact m_stp (fun H locs la hW hS hL k9 => lv_lor hx hb hd k9) k
  | lxor =>
    obtain rfl := m_lk (n := 1) hl rfl (by decide)
    obtain ⟨x, y, r, rfl, h⟩ := m_l2_inv he
    cases h
    exact m_stp (fun H locs la hW hS hL k9 => lv_lxor hx hb hd k9) k
  | lcmp =>
    obtain rfl := m_lk (n := 1) hl rfl (by decide)
    obtain ⟨x, y, r, rfl, h⟩ := m_l2_inv he
    cases h
    exact m_stp (fun H locs la hW hS hL k9 => W.lcmp hx hb hd k9) k
  | lshl =>
    obtain rfl := m_lk (n := 1) hl rfl (by decide)
    obtain ⟨x, y, r, rfl, h⟩ := m_li_inv he
    cases h
    exact m_stp (fun H locs la hW hS hL k9 => lv_lshl hx hb hd rfl k9) k
  | lushr =>
    obtain rfl := m_lk (n := 1) hl rfl (by decide)
    obtain ⟨x, y, r, rfl, h⟩ := m_li_inv he
    cases h
    exact m_stp (fun H locs la hW hS hL k9 => lv_lushr hx hb hd rfl k9) k
  | i2c =>
    obtain rfl := m_lk (n := 1) hl rfl (by decide)
    obtain ⟨x, r, rfl, h⟩ := m_i1_inv he
    cases h
    exact m_stp (fun H locs la hW hS hL k9 => lv_i2c hx hb hd rfl k9) k
  | l2i =>
    obtain rfl := m_lk (n := 1) hl rfl (by decide)
    obtain ⟨x, r, rfl, h⟩ := m_l1_inv he
    cases h
    exact m_stp (fun H locs la hW hS hL k9 => lv_l2i hx hb hd rfl k9) k
  | iconst n =>
    obtain rfl := m_lk (n := 1) hl rfl (by decide)
    cases he
    exact m_stp (fun H locs la hW hS hL k9 => lv_iconst hx hb hd rfl k9) k
  | bipush n =>
    obtain rfl := m_lk (n := 2) hl rfl (by decide)
    cases he
    exact m_stp (fun H locs la hW hS hL k9 => lv_bipush hx hb hd rfl k9) k
  | sipush n =>
    obtain rfl := m_lk (n := 3) hl rfl (by decide)
    cases he
    exact m_stp (fun H locs la hW hS hL k9 => lv_sipush hx hb hd rfl k9) k
  | lconst n =>
    obtain rfl := m_lk (n := 1) hl rfl (by decide)
    cases he
    exact m_stp (fun H locs la hW hS hL k9 => lv_lconst hx hb hd rfl k9) k
  | ldc i0 =>
    obtain rfl := m_lk (n := 2) hl rfl (by decide)
    have he0 := he
    unfold m_exe at he0
    dsimp only at he0
    cases hf : m_fnd (m_csts (m_owi mi)) i0 with
    | none => rw [hf] at he0; cases he0
    | some x =>
      rw [hf] at he0
      cases he0
      have hf2 := m_csts_ok (m_owi mi) _ (m_fnd_mem hf)
      exact m_stp (fun H locs la hW hS hL k9 => lv_ldc hx hb hown (hts _ hf2) hd k9) k
  | ldc2_w i0 =>
    obtain rfl := m_lk (n := 3) hl rfl (by decide)
    have he0 := he
    unfold m_exe at he0
    dsimp only at he0
    cases hf : m_fnd (m_lcss (m_owi mi)) i0 with
    | none => rw [hf] at he0; cases he0
    | some x =>
      rw [hf] at he0
      cases he0
      have hf2 := m_lcss_ok (m_owi mi) _ (m_fnd_mem hf)
      exact m_stp (fun H locs la hW hS hL k9 => lv_ldc2 hx hb hown (hts _ hf2) hd k9) k
  | iload_n i0 =>
    obtain rfl := m_lk (n := 1) hl rfl (by decide)
    obtain ⟨v, hv, h, hcase⟩ := m_val_inv he
    cases h
    rcases hcase with ⟨h0, y, rfl⟩ | ⟨h0, y, rfl⟩ | ⟨h0, y, rfl⟩
    · exact m_stp (fun H locs la hW hS hL k9 => lv_iload_n hx hb hd rfl (m_has_at hL hv) k9) k
    · exact absurd h0 (by decide)
    · exact absurd h0 (by decide)
  | lload_n i0 =>
    obtain rfl := m_lk (n := 1) hl rfl (by decide)
    obtain ⟨v, hv, h, hcase⟩ := m_val_inv he
    cases h
    rcases hcase with ⟨h0, y, rfl⟩ | ⟨h0, y, rfl⟩ | ⟨h0, y, rfl⟩
    · exact absurd h0 (by decide)
    · exact m_stp (fun H locs la hW hS hL k9 => lv_lload_n hx hb hd rfl (m_has_at hL hv) k9) k
    · exact absurd h0 (by decide)
  | aload_n i0 =>
    obtain rfl := m_lk (n := 1) hl rfl (by decide)
    obtain ⟨v, hv, h, hcase⟩ := m_val_inv he
    cases h
    rcases hcase with ⟨h0, y, rfl⟩ | ⟨h0, y, rfl⟩ | ⟨h0, y, rfl⟩
    · exact absurd h0 (by decide)
    · exact absurd h0 (by decide)
    · exact m_stp (fun H locs la hW hS hL k9 => lv_aload_n hx hb hd rfl (m_has_at hL hv) k9) k
  | iload i0 =>
    obtain rfl := m_lk (n := 2) hl rfl (by decide)
    obtain ⟨v, hv, h, hcase⟩ := m_val_inv he
    cases h
    rcases hcase with ⟨h0, y, rfl⟩ | ⟨h0, y, rfl⟩ | ⟨h0, y, rfl⟩
    · exact m_stp (fun H locs la hW hS hL k9 => lv_iload hx hb hd (m_has_at hL hv) k9) k
    · exact absurd h0 (by decide)
    · exact absurd h0 (by decide)
  | lload i0 =>
    obtain rfl := m_lk (n := 2) hl rfl (by decide)
    obtain ⟨v, hv, h, hcase⟩ := m_val_inv he
    cases h
    rcases hcase with ⟨h0, y, rfl⟩ | ⟨h0, y, rfl⟩ | ⟨h0, y, rfl⟩
    · exact absurd h0 (by decide)
    · exact m_stp (fun H locs la hW hS hL k9 => lv_lload hx hb hd (m_has_at hL hv) k9) k
    · exact absurd h0 (by decide)
  | istore_n i0 =>
    obtain rfl := m_lk (n := 1) hl rfl (by decide)
    obtain ⟨x, r, rfl, h⟩ := m_i1_inv he
    obtain ⟨h1, h2, h3⟩ := m_put_inv h
    cases h3
    exact m_stl (v := .int x) rfl h2 (fun H locs la hL k9 => lv_istore_n hx hb hd rfl hL h1 rfl k9) k
  | istore i0 =>
    obtain rfl := m_lk (n := 2) hl rfl (by decide)
    obtain ⟨x, r, rfl, h⟩ := m_i1_inv he
    obtain ⟨h1, h2, h3⟩ := m_put_inv h
    cases h3
    exact m_stl (v := .int x) rfl h2 (fun H locs la hL k9 => lv_istore hx hb hd hL h1 rfl k9) k
  | astore_n i0 =>
    obtain rfl := m_lk (n := 1) hl rfl (by decide)
    obtain ⟨x, r, rfl, h⟩ := m_a1_inv he
    obtain ⟨h1, h2, h3⟩ := m_put_inv h
    cases h3
    exact m_stl (v := .ref x) rfl h2 (fun H locs la hL k9 => lv_astore_n hx hb hd rfl hL h1 rfl k9) k
  | lstore_n i0 =>
    obtain rfl := m_lk (n := 1) hl rfl (by decide)
    obtain ⟨x, r, rfl, h⟩ := m_l1_inv he
    obtain ⟨h1, h4, h2, h3⟩ := m_put2_inv h
    cases h3
    exact m_stl2 (v := .long x) h4 h2 (fun H locs la hL k9 => lv_lstore_n hx hb hd rfl hL h1 rfl k9) k
  | lstore i0 =>
    obtain rfl := m_lk (n := 2) hl rfl (by decide)
    obtain ⟨x, r, rfl, h⟩ := m_l1_inv he
    obtain ⟨h1, h4, h2, h3⟩ := m_put2_inv h
    cases h3
    exact m_stl2 (v := .long x) h4 h2 (fun H locs la hL k9 => lv_lstore hx hb hd hL h1 rfl k9) k
  | iinc i0 n =>
    obtain rfl := m_lk (n := 3) hl rfl (by decide)
    have he0 := he
    unfold m_exe at he0
    dsimp only at he0
    split at he0
    next x hv =>
      obtain ⟨h1, h2, h3⟩ := m_put_inv he0
      cases h3
      refine m_stl rfl h2 (fun H locs la hL k9 => ?_) k
      obtain ⟨q0, hq0⟩ := List.getElem?_of_mem (m_tl_mem.mpr ⟨_, hv, rfl⟩ : (i0, m_cv B b (.int x)) ∈ m_tl B b ls)
      exact lv_iinc hx hb hd hL (k := q0) hq0 rfl h1 rfl k9
    next => cases he0
  | dup =>
    obtain rfl := m_lk (n := 1) hl rfl (by decide)
    have he0 := he
    unfold m_exe at he0
    dsimp only at he0
    split at he0
    next v r =>
      split at he0
      next hv =>
        cases he0
        exact m_stp (fun H locs la hW hS hL k9 => lv_dup hx hb hd (by rw [m_cv_cat]; exact Nat.eq_of_beq_eq_true hv) k9) k
      next => cases he0
    next => cases he0
  | dup2 =>
    obtain rfl := m_lk (n := 1) hl rfl (by decide)
    have he0 := he
    unfold m_exe at he0
    dsimp only at he0
    split at he0
    next v u r =>
      split at he0
      next hv =>
        cases he0
        obtain ⟨h1, h2⟩ := Bool.and_eq_true_iff.mp hv
        exact m_stp (fun H locs la hW hS hL k9 => lv_dup2_11 hx hb hd (by rw [m_cv_cat]; exact Nat.eq_of_beq_eq_true h1) (by rw [m_cv_cat]; exact Nat.eq_of_beq_eq_true h2) k9) k
      next => cases he0
    next => cases he0
  | ifCond cc off =>
    obtain rfl := m_lk (n := 3) hl rfl (by decide)
    obtain ⟨x, r, rfl, h⟩ := m_i1_inv he
    cases ht : m_tgt pc off with
    | none => simp only [ht] at h; cases h
    | some t =>
      simp only [ht] at h
      cases h
      have ht2 := m_tgt_ok ht
      refine m_stp (fun H locs la hW hS hL k9 => ?_) k
      cases cc with
      | eq => exact lv_if_eq hx hb hd ht2 (fun q => by rw [show m_c0 .eq x t (pc + 3) = t from if_pos q] at k9; exact k9) (fun q => by rw [show m_c0 .eq x t (pc + 3) = pc + 3 from if_neg q] at k9; exact k9)
      | ne => exact lv_if_ne hx hb hd ht2 (fun q => by rw [show m_c0 .ne x t (pc + 3) = t from if_neg q] at k9; exact k9) (fun q => by rw [show m_c0 .ne x t (pc + 3) = pc + 3 from if_pos q] at k9; exact k9)
      | lt => exact lv_if_lt hx hb hd ht2 (fun q => by rw [show m_c0 .lt x t (pc + 3) = t from if_pos q] at k9; exact k9) (fun q => by rw [show m_c0 .lt x t (pc + 3) = pc + 3 from if_neg q] at k9; exact k9)
      | ge => exact lv_if_ge hx hb hd ht2 (fun q => by rw [show m_c0 .ge x t (pc + 3) = t from if_pos q] at k9; exact k9) (fun q => by rw [show m_c0 .ge x t (pc + 3) = pc + 3 from if_neg q] at k9; exact k9)
      | gt => exact lv_if_gt hx hb hd ht2 (fun q => by rw [show m_c0 .gt x t (pc + 3) = t from if_pos q] at k9; exact k9) (fun q => by rw [show m_c0 .gt x t (pc + 3) = pc + 3 from if_neg q] at k9; exact k9)
      | le => exact lv_if_le hx hb hd ht2 (fun q => by rw [show m_c0 .le x t (pc + 3) = t from if_pos q] at k9; exact k9) (fun q => by rw [show m_c0 .le x t (pc + 3) = pc + 3 from if_neg q] at k9; exact k9)
  | if_icmp cc off =>
    obtain rfl := m_lk (n := 3) hl rfl (by decide)
    obtain ⟨x, y, r, rfl, h⟩ := m_i2_inv he
    cases ht : m_tgt pc off with
    | none => simp only [ht] at h; cases h
    | some t =>
      simp only [ht] at h
      cases h
      have ht2 := m_tgt_ok ht
      refine m_stp (fun H locs la hW hS hL k9 => ?_) k
      cases cc with
      | eq => exact lv_icmp_eq hx hb hd ht2 (fun q => by rw [show m_c2 .eq x y t (pc + 3) = t from if_pos q] at k9; exact k9) (fun q => by rw [show m_c2 .eq x y t (pc + 3) = pc + 3 from if_neg q] at k9; exact k9)
      | ne => exact lv_icmp_ne hx hb hd ht2 (fun q => by rw [show m_c2 .ne x y t (pc + 3) = t from if_neg q] at k9; exact k9) (fun q => by rw [show m_c2 .ne x y t (pc + 3) = pc + 3 from if_pos q] at k9; exact k9)
      | lt => exact lv_icmp_lt hx hb hd ht2 (fun q => by rw [show m_c2 .lt x y t (pc + 3) = t from if_pos q] at k9; exact k9) (fun q => by rw [show m_c2 .lt x y t (pc + 3) = pc + 3 from if_neg q] at k9; exact k9)
      | ge => exact lv_icmp_ge hx hb hd ht2 (fun q => by rw [show m_c2 .ge x y t (pc + 3) = t from if_pos q] at k9; exact k9) (fun q => by rw [show m_c2 .ge x y t (pc + 3) = pc + 3 from if_neg q] at k9; exact k9)
      | gt => exact lv_icmp_gt hx hb hd ht2 (fun q => by rw [show m_c2 .gt x y t (pc + 3) = t from if_pos q] at k9; exact k9) (fun q => by rw [show m_c2 .gt x y t (pc + 3) = pc + 3 from if_neg q] at k9; exact k9)
      | le => exact lv_icmp_le hx hb hd ht2 (fun q => by rw [show m_c2 .le x y t (pc + 3) = t from if_pos q] at k9; exact k9) (fun q => by rw [show m_c2 .le x y t (pc + 3) = pc + 3 from if_neg q] at k9; exact k9)
  | goto off =>
    obtain rfl := m_lk (n := 3) hl rfl (by decide)
    have he0 := he
    unfold m_exe at he0
    dsimp only at he0
    cases ht : m_tgt pc off with
    | none => rw [ht] at he0; cases he0
    | some t =>
      rw [ht] at he0
      cases he0
      exact m_stp (fun H locs la hW hS hL k9 => lv_goto hx hb hd (m_tgt_ok ht) k9) k
  | tableswitch d lo hi offs =>
    obtain ⟨x, r, rfl, h⟩ := m_i1_inv he
    split at h
    next hk =>
      cases h
      simp only [Bool.and_eq_true, decide_eq_true_eq] at hk
      obtain ⟨⟨⟨h1, h2⟩, h3⟩, h4⟩ := hk
      obtain ⟨t1, t2⟩ := m_tsw_ok pc x d offs.toList lo h2 (by omega)
      refine m_stp (fun H locs la hW hS hL k9 => ?_) k
      by_cases q1 : x.toInt < lo ∨ hi < x.toInt
      · rw [t1 (by omega)] at k9
        exact lv_tableOut hx hb hd q1 (m_offs_ok h1 List.mem_cons_self) k9
      · have q2 : (x.toInt - lo).toNat < offs.toList.length := by omega
        have q3 := List.getElem?_eq_getElem q2
        rw [t2 _ (by omega) q3] at k9
        exact lv_tableIn hx hb hd (by omega) (by omega) (by rw [← Array.getElem?_toList]; exact q3) (m_offs_ok h1 (List.mem_cons_of_mem _ (List.mem_of_getElem? q3))) k9
    next => cases h
  | lookupswitch d ps =>
    obtain ⟨x, r, rfl, h⟩ := m_i1_inv he
    split at h
    next hk =>
      cases h
      obtain ⟨hk1, h3⟩ := Bool.and_eq_true_iff.mp hk
      obtain ⟨h1, h2⟩ := Bool.and_eq_true_iff.mp hk1
      refine m_stp (fun H locs la hW hS hL k9 => ?_) k
      rw [m_lsw_ok pc x d ps.toList (fun q hq => of_decide_eq_true (List.all_eq_true.mp h2 q hq))] at k9
      exact lv_lookup hx hb hd h3 rfl (m_offs_ok h1 (m_offmem d x.toInt ps.toList)) k9
    next => cases h
  | getfield i0 =>
    obtain rfl := m_lk (n := 3) hl rfl (by decide)
    have he0 : m_getf mi i0 pc ls st w = some (g, pc', ls', st', w') := he
    obtain ⟨a, r, rfl, h⟩ := m_a1_inv he0
    split at h
    next ci j t hf =>
      split at h
      next hq =>
        cases h
        have hf2 : m_fldOk (m_own mi) (i0, ci, j, t) := m_flds_ok (m_owi mi) _ (m_fnd_mem hf)
        obtain ⟨i, n, rfl, hq1, -⟩ := m_sh_get hq (by have := hf2.1; dsimp only at this; omega)
        exact m_x_get C hd hq1 hf2 k
      next => cases h
    next => cases h
  | putfield i0 =>
    obtain rfl := m_lk (n := 3) hl rfl (by decide)
    exact m_x_putf C hd he hg k
  | arraylength =>
    obtain rfl := m_lk (n := 1) hl rfl (by decide)
    obtain ⟨a, r, rfl, h⟩ := m_a1_inv he
    cases a with
    | succ a => cases h
    | zero =>
      cases h
      exact m_stp (fun H locs la hW hS hL k9 => va_slen hx hb hX hbH hbA hS hd k9) k
  | iaload =>
    obtain rfl := m_lk (n := 1) hl rfl (by decide)
    obtain ⟨a, j, r, rfl, h⟩ := m_ai_inv he
    cases a with
    | zero =>
      cases h
      exact m_stp (fun H locs la hW hS hL k9 => va_sld hx hb hX hbH hbA hS (m_okin2 hg) hd k9) k
    | succ a =>
      obtain ⟨hq, h⟩ := m_kd_inv h
      cases h
      obtain ⟨i, n, e1, hq1, e2⟩ := m_sh_get hq (by decide)
      cases e1
      rw [e2] at hg
      exact m_stp (fun H locs la hW hS hL k9 => va_iald hx hb hK hW.2 a 1 (by rw [m_wl_get hq1, m_ce_i]; rfl) rfl (m_okin2 hg) hd k9) k
  | caload =>
    obtain rfl := m_lk (n := 1) hl rfl (by decide)
    obtain ⟨a, j, r, rfl, h⟩ := m_ai_inv he
    obtain ⟨hq, h⟩ := m_kd_inv h
    cases h
    obtain ⟨i, n, rfl, hq1, e2⟩ := m_sh_get hq (by decide)
    rw [e2] at hg
    exact m_stp (fun H locs la hW hS hL k9 => va_cald hx hb hK hW.2 i 0 (by rw [m_wl_get hq1, m_ce_c]; rfl) rfl (m_okin2 hg) hd k9) k
  | baload =>
    obtain rfl := m_lk (n := 1) hl rfl (by decide)
    obtain ⟨a, j, r, rfl, h⟩ := m_ai_inv he
    obtain ⟨hq, h⟩ := m_kd_inv h
    cases h
    obtain ⟨i, n, rfl, hq1, e2⟩ := m_sh_get hq (by decide)
    rw [e2] at hg
    exact m_stp (fun H locs la hW hS hL k9 => va_zald hx hb hK hW.2 i 3 (by rw [m_wl_get hq1, m_ce_z]; rfl) rfl (m_okin2 hg) hd k9) k
  | laload =>
    obtain rfl := m_lk (n := 1) hl rfl (by decide)
    obtain ⟨a, j, r, rfl, h⟩ := m_ai_inv he
    obtain ⟨hq, h⟩ := m_kd_inv h
    cases h
    obtain ⟨i, n, rfl, hq1, e2⟩ := m_sh_get hq (by decide)
    rw [e2] at hg
    exact m_stp (fun H locs la hW hS hL k9 => va_lald hx hb hK hW.2 i 2 (by rw [m_wl_get hq1, m_ce_l]; rfl) rfl (m_okin2 hg) hd k9) k
  | aaload =>
    obtain rfl := m_lk (n := 1) hl rfl (by decide)
    obtain ⟨a, j, r, rfl, h⟩ := m_ai_inv he
    obtain ⟨hq, h⟩ := m_kd_inv h
    cases h
    obtain ⟨i, n, rfl, hq1, e2⟩ := m_sh_get hq (by decide)
    rw [e2] at hg
    refine m_stp (fun H locs la hW hS hL k9 => ?_) k
    rw [List.map_cons, m_cv_rf] at k9
    exact va_aldq (f := fun j => (w.2.2.2 (i + 1) j).map (m_ad B b)) hx hb hK hW.2 i 4 (by rw [m_wl_get hq1, m_ce_q]; rfl) rfl (m_okin2 hg) hd k9
  | iastore =>
    obtain rfl := m_lk (n := 1) hl rfl (by decide)
    obtain ⟨a, j, x, r, rfl, h⟩ := m_aii_inv he
    obtain ⟨hq, h⟩ := m_kd_inv h
    cases h
    obtain ⟨i, n, rfl, hq1, e2⟩ := m_sh_get hq (by decide)
    rw [e2] at hg
    exact m_x_iast C hd hq1 (m_okin2 hg) k
  | castore =>
    obtain rfl := m_lk (n := 1) hl rfl (by decide)
    obtain ⟨a, j, x, r, rfl, h⟩ := m_aii_inv he
    obtain ⟨hq, h⟩ := m_kd_inv h
    cases h
    obtain ⟨i, n, rfl, hq1, e2⟩ := m_sh_get hq (by decide)
    rw [e2] at hg
    exact m_x_cast C hd hq1 (m_okin2 hg) k
  | bastore =>
    obtain rfl := m_lk (n := 1) hl rfl (by decide)
    obtain ⟨a, j, x, r, rfl, h⟩ := m_aii_inv he
    obtain ⟨hq, h⟩ := m_kd_inv h
    cases h
    obtain ⟨i, n, rfl, hq1, e2⟩ := m_sh_get hq (by decide)
    rw [e2] at hg
    exact m_x_zast C hd hq1 (m_okin2 hg) k
  | lastore =>
    obtain rfl := m_lk (n := 1) hl rfl (by decide)
    obtain ⟨a, j, x, r, rfl, h⟩ := m_ail_inv he
    obtain ⟨hq, h⟩ := m_kd_inv h
    cases h
    obtain ⟨i, n, rfl, hq1, e2⟩ := m_sh_get hq (by decide)
    rw [e2] at hg
    exact m_x_last C hd hq1 (m_okin2 hg) k
  | aastore =>
    obtain rfl := m_lk (n := 1) hl rfl (by decide)
    obtain ⟨a, j, x, r, rfl, h⟩ := m_aia_inv he
    obtain ⟨hq, h⟩ := m_kd_inv h
    obtain ⟨hv, h⟩ := m_kd_inv h
    cases h
    obtain ⟨i, n, rfl, hq1, e2⟩ := m_sh_get hq (by decide)
    obtain ⟨i2, n2, rfl, hq2, -⟩ := m_sh_get hv (by decide)
    rw [e2] at hg
    exact m_x_qast C hd hq1 hq2 (m_okin2 hg) k
  | new i0 =>
    obtain rfl := m_lk (n := 3) hl rfl (by decide)
    have he0 := he
    unfold m_exe at he0
    dsimp only at he0
    cases hf : m_fnd (m_clss (m_owi mi)) i0 with
    | none => rw [hf] at he0; cases he0
    | some ci =>
      rw [hf] at he0
      cases he0
      exact m_x_new C hd (m_clss_ok (m_owi mi) _ (m_fnd_mem hf)) hc hs k
  | newarray t =>
    obtain rfl := m_lk (n := 2) hl rfl (by decide)
    obtain ⟨n, r, rfl, h⟩ := m_i1_inv he
    cases t with
    | char =>
      unfold m_alen at h
      dsimp only at h
      split at h
      next => cases h
      next hn =>
        cases h
        exact m_x_newa (at0 := .char) (ty := .char) (k := 7) (t := 0) C hd m_ac_char rfl (by decide) rfl (fun U x hr => hr) (fun a => by rw [m_ce_c, m_zfI]; rfl) hn (by decide) hc hs k
    | int =>
      unfold m_alen at h
      dsimp only at h
      split at h
      next => cases h
      next hn =>
        cases h
        exact m_x_newa (at0 := .int) (ty := .int) (k := 8) (t := 1) C hd m_ac_int rfl (by decide) rfl (fun U x hr => hr) (fun a => by rw [m_ce_i, m_zfI]; rfl) hn (by decide) hc hs k
    | long =>
      unfold m_alen at h
      dsimp only at h
      split at h
      next => cases h
      next hn =>
        cases h
        exact m_x_newa (at0 := .long) (ty := .long) (k := 9) (t := 2) C hd m_ac_long rfl (by decide) rfl (fun U x hr => hr) (fun a => by rw [m_ce_l, m_zfL]; rfl) hn (by decide) hc hs k
    | boolean =>
      unfold m_alen at h
      dsimp only at h
      split at h
      next => cases h
      next hn =>
        cases h
        exact m_x_newa (at0 := .boolean) (ty := .boolean) (k := 10) (t := 3) C hd m_ac_boolean rfl (by decide) rfl (fun U x hr => hr) (fun a => by rw [m_ce_z, m_zfI]; rfl) hn (by decide) hc hs k
    | _ => cases h
  | anewarray i0 =>
    obtain rfl := m_lk (n := 3) hl rfl (by decide)
    obtain ⟨n, r, rfl, h⟩ := m_i1_inv he
    split at h
    next hf =>
      split at h
      next => cases h
      next hn =>
        cases h
        exact m_x_newq C hd (m_clss_ok (m_owi mi) _ (m_fnd_mem hf)) hn hc hs k
    next => cases h
  | invokespecial i0 =>
    obtain rfl := m_lk (n := 3) hl rfl (by decide)
    have he0 := he
    unfold m_exe at he0
    dsimp only at he0
    split at he0
    next hq =>
      obtain ⟨hq1, h3⟩ := Bool.and_eq_true_iff.mp hq
      obtain ⟨h1, h2⟩ := Bool.and_eq_true_iff.mp hq1
      obtain ⟨a, r, rfl, h⟩ := m_a1_inv he0
      split at h
      next h4 =>
        cases h
        have h1 := Nat.eq_of_beq_eq_true h1
        have h2 : 1 ≤ i0 := Nat.le_of_ble_eq_true h2
        have h3 : 1 ≤ m_rF mi := Nat.le_of_ble_eq_true h3
        have h4 := Nat.le_of_ble_eq_true h4
        subst h1
        have hlk := m_oi_ok (m_owi mi) (by omega)
        refine m_stp (fun H locs la hW hS hL k9 => ?_) k
        refine W.objInit hx hb hown (hts _ hlk) (hts _ m_oi_in) (hts _ m_oi_code) rfl (by rw [hml]; exact hL.1) rfl hd (by omega) ?_ k9
        rw [m_cs_cv]
        show 2 * 0 + m_cs _ + 12 ≤ R.locals
        omega
      next => cases h
    next => cases he0
  | invokestatic i0 =>
    obtain rfl := m_lk (n := 3) hl rfl (by decide)
    have he0 := he
    unfold m_exe at he0
    dsimp only at he0
    split at he0
    next mi1 q hf =>
      obtain ⟨x, y, r, rfl, h⟩ := m_i2_inv he0
      split at h
      next hq =>
        cases h
        obtain ⟨h1, h2⟩ := Bool.and_eq_true_iff.mp hq
        have h1 : 1 ≤ m_rF mi := Nat.le_of_ble_eq_true h1
        have h2 := Nat.le_of_ble_eq_true h2
        have hf2 := m_calls_ok (m_owi mi) _ (m_fnd_mem hf)
        have hlk : Cond.methodLink (m_own mi) i0 Lib.Math.max.name ∈ m_gw := by
          obtain ⟨-, -, -, h5⟩ := hf2
          rcases h5 with ⟨h6, -⟩ | ⟨h6, -⟩ | ⟨h6, -⟩ | ⟨h6, -⟩ | ⟨h6, -⟩ | ⟨h6, h7⟩ | ⟨h6, h7⟩ <;> first | exact h7 | (exfalso; simp at h6; done)
        refine m_stp (fun H locs la hW hS hL k9 => ?_) k
        exact va_mmax hx hb (by rw [hml]; exact hL.1.symm) hown (hts _ hlk) (hts _ m_max_ok.1) (hts _ m_max_ok.2.1) (hts _ m_max_ok.2.2) (by omega) (by rw [m_cs_cv]; omega) (by omega) (by omega) hd k9
      next => cases h
    next mi1 q hf =>
      obtain ⟨x, y, r, rfl, h⟩ := m_i2_inv he0
      split at h
      next hq =>
        cases h
        obtain ⟨h1, h2⟩ := Bool.and_eq_true_iff.mp hq
        have h1 : 1 ≤ m_rF mi := Nat.le_of_ble_eq_true h1
        have h2 := Nat.le_of_ble_eq_true h2
        have hf2 := m_calls_ok (m_owi mi) _ (m_fnd_mem hf)
        have hlk : Cond.methodLink (m_own mi) i0 Lib.Math.min.name ∈ m_gw := by
          obtain ⟨-, -, -, h5⟩ := hf2
          rcases h5 with ⟨h6, -⟩ | ⟨h6, -⟩ | ⟨h6, -⟩ | ⟨h6, -⟩ | ⟨h6, -⟩ | ⟨h6, h7⟩ | ⟨h6, h7⟩ <;> first | exact h7 | (exfalso; simp at h6; done)
        refine m_stp (fun H locs la hW hS hL k9 => ?_) k
        exact va_mmin hx hb (by rw [hml]; exact hL.1.symm) hown (hts _ hlk) (hts _ m_min_ok.1) (hts _ m_min_ok.2.1) (hts _ m_min_ok.2.2) (by omega) (by rw [m_cs_cv]; omega) (by omega) (by omega) hd k9
      next => cases h
    next => cases he0
  | _ => cases he
end EXOK
