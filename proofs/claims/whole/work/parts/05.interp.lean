/-! an interpreter of the system's bytecode over abstract worlds: a cell is known by a number (0: the script; 1, 2 ..: in the order of making), a world is (kind and length of each cell, its whole numbers, its longs, its references) -/
abbrev mW : Type := List (Nat × Nat) × (Nat → Nat → Int32) × (Nat → Nat → Int64) × (Nat → Nat → Option Nat)
abbrev mLs : Type := List (Option Value)
abbrev mC : Type := Nat × mLs × List Value × mW
abbrev mS : Type := Nat × (Nat → Int32)
abbrev mR : Type := Option (Option Bool × mC)
def m_up {α : Type} (f : Nat → Nat → α) (a k : Nat) (v : α) : Nat → Nat → α := fun x y => if x = a then (if y = k then v else f x y) else f x y
def m_z {α : Type} (f : Nat → Nat → α) (a : Nat) (v : α) : Nat → Nat → α := fun x y => if x = a then v else f x y
def m_sI (w : mW) (a k : Nat) (v : Int32) : mW := (w.1, m_up w.2.1 a k v, w.2.2.1, w.2.2.2)
def m_sL (w : mW) (a k : Nat) (v : Int64) : mW := (w.1, w.2.1, m_up w.2.2.1 a k v, w.2.2.2)
def m_sR (w : mW) (a k : Nat) (v : Option Nat) : mW := (w.1, w.2.1, w.2.2.1, m_up w.2.2.2 a k v)
def m_new (w : mW) (q : Nat × Nat) : mW := (w.1 ++ [q], m_z w.2.1 (w.1.length + 1) 0, m_z w.2.2.1 (w.1.length + 1) 0, m_z w.2.2.2 (w.1.length + 1) none)
def m_sh (w : mW) (a : Nat) : Nat × Nat := match a with
  | 0 => (99, 0)
  | i + 1 => w.1.getD i (99, 0)
def m_ld (ls : mLs) (k : Nat) : Option Value := match ls[k]? with
  | some (some v) => some v
  | _ => none
def m_sto (mi : Nat) (ls : mLs) (k : Nat) (v : Value) : Option mLs :=
  match (m_lg mi).any (fun j => Nat.beq (j + 1) k) || !(Nat.blt k (m_mxl mi)) with
  | true => none
  | false => some (ls.set k (some v))
def m_sto2 (mi : Nat) (ls : mLs) (k : Nat) (v : Value) : Option mLs :=
  match (m_lg mi).any (fun j => Nat.beq (j + 1) k || Nat.beq j (k + 1)) || !((m_lg mi).any (fun j => Nat.beq j k)) || !(Nat.blt (k + 1) (m_mxl mi)) with
  | true => none
  | false => some ((ls.set k (some v)).set (k + 1) none)
def m_ok (j : Int32) (n : Nat) : Bool := decide (¬ (j < 0 ∨ n ≤ j.toNatClampNeg))
def m_bl (x : Int32) : Bool := decide (x = 0 ∨ x = 1)
def m_isI (mi : Nat) : Bool := decide ((m_y mi).name = "<init>")
def m_cs (st : List Value) : Nat := (st.map fun v => v.category).sum
-- what lies on the stack
def m_i1 {α : Type} (st : List Value) (f : Int32 → List Value → Option α) : Option α := match st with
  | .int x :: r => f x r
  | _ => none
def m_i2 {α : Type} (st : List Value) (f : Int32 → Int32 → List Value → Option α) : Option α := match st with
  | .int y :: .int x :: r => f x y r
  | _ => none
def m_l1 {α : Type} (st : List Value) (f : Int64 → List Value → Option α) : Option α := match st with
  | .long x :: r => f x r
  | _ => none
def m_l2 {α : Type} (st : List Value) (f : Int64 → Int64 → List Value → Option α) : Option α := match st with
  | .long y :: .long x :: r => f x y r
  | _ => none
def m_li {α : Type} (st : List Value) (f : Int64 → Int32 → List Value → Option α) : Option α := match st with
  | .int y :: .long x :: r => f x y r
  | _ => none
def m_a1 {α : Type} (st : List Value) (f : Nat → List Value → Option α) : Option α := match st with
  | .ref a :: r => f a r
  | _ => none
def m_ai {α : Type} (st : List Value) (f : Nat → Int32 → List Value → Option α) : Option α := match st with
  | .int j :: .ref a :: r => f a j r
  | _ => none
def m_aii {α : Type} (st : List Value) (f : Nat → Int32 → Int32 → List Value → Option α) : Option α := match st with
  | .int x :: .int j :: .ref a :: r => f a j x r
  | _ => none
def m_ail {α : Type} (st : List Value) (f : Nat → Int32 → Int64 → List Value → Option α) : Option α := match st with
  | .long x :: .int j :: .ref a :: r => f a j x r
  | _ => none
def m_aia {α : Type} (st : List Value) (f : Nat → Int32 → Nat → List Value → Option α) : Option α := match st with
  | .ref v :: .int j :: .ref a :: r => f a j v r
  | _ => none
-- branches
def m_c0 (c : ClassFile.Cond) (x : Int32) (t e : Nat) : Nat := match c with
  | .eq => if x = 0 then t else e
  | .ne => if x = 0 then e else t
  | .lt => if x < 0 then t else e
  | .ge => if 0 ≤ x then t else e
  | .gt => if 0 < x then t else e
  | .le => if x ≤ 0 then t else e
def m_c2 (c : ClassFile.Cond) (x y : Int32) (t e : Nat) : Nat := match c with
  | .eq => if x = y then t else e
  | .ne => if x = y then e else t
  | .lt => if x < y then t else e
  | .ge => if y ≤ x then t else e
  | .gt => if y < x then t else e
  | .le => if x ≤ y then t else e
def m_tgt (pc : Nat) (off : Int) : Option Nat := match (pc : Int) + off with
  | .ofNat n => some n
  | .negSucc _ => none
def m_tsw (pc : Nat) (x : Int32) (d : Int) : Int → List Int → Nat
  | _, [] => ((pc : Int) + d).toNat
  | lo, o :: os => if x = Int32.ofInt lo then ((pc : Int) + o).toNat else m_tsw pc x d (lo + 1) os
def m_lsw (pc : Nat) (x : Int32) (d : Int) : List (Int × Int) → Nat
  | [] => ((pc : Int) + d).toNat
  | (k, o) :: os => if x = Int32.ofInt k then ((pc : Int) + o).toNat else m_lsw pc x d os
def m_offs (pc : Nat) (os : List Int) : Bool := os.all (fun o => decide (0 ≤ (pc : Int) + o))
def m_fv (w : mW) (a j t : Nat) : Value := match t with
  | 1 => .long (w.2.2.1 a j)
  | 2 => va_rf (w.2.2.2 a j)
  | _ => .int (w.2.1 a j)
def m_val (ls : mLs) (k n pc : Nat) (st : List Value) (w : mW) (t : Nat) : mR := match m_ld ls k, t with
  | some (.int x), 0 => some (none, pc + n, ls, .int x :: st, w)
  | some (.long x), 1 => some (none, pc + n, ls, .long x :: st, w)
  | some (.ref x), 2 => some (none, pc + n, ls, .ref x :: st, w)
  | _, _ => none
def m_put (mi : Nat) (ls : mLs) (k n pc : Nat) (v : Value) (r : List Value) (w : mW) : mR := match m_sto mi ls k v with
  | some ls' => some (none, pc + n, ls', r, w)
  | none => none
def m_put2 (mi : Nat) (ls : mLs) (k n pc : Nat) (v : Value) (r : List Value) (w : mW) : mR := match m_sto2 mi ls k v with
  | some ls' => some (none, pc + n, ls', r, w)
  | none => none
def m_fnd {α : Type} : List (Nat × α) → Nat → Option α
  | [], _ => none
  | (i, x) :: l, k => match Nat.beq i k with
    | true => some x
    | false => m_fnd l k
def m_getf (mi k pc : Nat) (ls : mLs) (st : List Value) (w : mW) : mR := m_a1 st fun a r => match m_fnd (m_flds (m_owi mi)) k with
  | some (ci, j, t) => match Nat.beq (m_sh w a).1 ci with
    | true => some (none, pc + 3, ls, m_fv w a j t :: r, w)
    | false => none
  | none => none
def m_putf (mi k pc : Nat) (ls : mLs) (st : List Value) (w : mW) : mR := match st with
  | v :: .ref a :: r => match m_fnd (m_flds (m_owi mi)) k with
    | some (ci, j, t) => match Nat.beq (m_sh w a).1 ci && (!((m_T ci j).2.2.2) || (m_isI mi && Nat.beq ci (m_owi mi))) with
      | true => match v, t with
        | .int x, 0 => some (none, pc + 3, ls, r, m_sI w a j x)
        | .int x, 3 => some (some (m_bl x), pc + 3, ls, r, m_sI w a j x)
        | .long x, 1 => some (none, pc + 3, ls, r, m_sL w a j x)
        | .ref b, 2 => some (none, pc + 3, ls, r, m_sR w a j (some b))
        | _, _ => none
      | false => none
    | none => none
  | _ => none
def m_kd (w : mW) (a k : Nat) {α : Type} (x : Option α) : Option α := match Nat.beq (m_sh w a).1 k with
  | true => x
  | false => none
def m_alen (w : mW) (t : ArrayType) (n : Int32) (pc : Nat) (ls : mLs) (r : List Value) : mR := match t with
  | .char => if n < 0 ∨ 65536 < n.toNatClampNeg then none else some (none, pc + 2, ls, .ref (w.1.length + 1) :: r, m_new w (7, n.toNatClampNeg))
  | .int => if n < 0 ∨ 65536 < n.toNatClampNeg then none else some (none, pc + 2, ls, .ref (w.1.length + 1) :: r, m_new w (8, n.toNatClampNeg))
  | .long => if n < 0 ∨ 65536 < n.toNatClampNeg then none else some (none, pc + 2, ls, .ref (w.1.length + 1) :: r, m_new w (9, n.toNatClampNeg))
  | .boolean => if n < 0 ∨ 65536 < n.toNatClampNeg then none else some (none, pc + 2, ls, .ref (w.1.length + 1) :: r, m_new w (10, n.toNatClampNeg))
  | _ => none
def m_exe (S : mS) (mi : Nat) (i : Instr) (pc : Nat) (ls : mLs) (st : List Value) (w : mW) : mR := match i with
  | .iconst n => some (none, pc + 1, ls, .int (Int32.ofInt n) :: st, w)
  | .bipush n => some (none, pc + 2, ls, .int ((Int8.ofInt n).toInt32) :: st, w)
  | .sipush n => some (none, pc + 3, ls, .int ((Int16.ofInt n).toInt32) :: st, w)
  | .lconst n => some (none, pc + 1, ls, .long (Int64.ofNat (n : Nat)) :: st, w)
  | .ldc k => match m_fnd (m_csts (m_owi mi)) k with
    | some x => some (none, pc + 2, ls, .int x :: st, w)
    | none => none
  | .ldc2_w k => match m_fnd (m_lcss (m_owi mi)) k with
    | some x => some (none, pc + 3, ls, .long x :: st, w)
    | none => none
  | .iload_n k => m_val ls k 1 pc st w 0
  | .iload k => m_val ls k 2 pc st w 0
  | .lload_n k => m_val ls k 1 pc st w 1
  | .lload k => m_val ls k 2 pc st w 1
  | .aload_n k => m_val ls k 1 pc st w 2
  | .istore_n k => m_i1 st fun x r => m_put mi ls k 1 pc (.int x) r w
  | .istore k => m_i1 st fun x r => m_put mi ls k 2 pc (.int x) r w
  | .lstore_n k => m_l1 st fun x r => m_put2 mi ls k 1 pc (.long x) r w
  | .lstore k => m_l1 st fun x r => m_put2 mi ls k 2 pc (.long x) r w
  | .astore_n k => m_a1 st fun x r => m_put mi ls k 1 pc (.ref x) r w
  | .iinc k n => match m_ld ls k with
    | some (.int x) => m_put mi ls k 3 pc (.int (x + Int32.ofInt n)) st w
    | _ => none
  | .iadd => m_i2 st fun x y r => some (none, pc + 1, ls, .int (x + y) :: r, w)
  | .isub => m_i2 st fun x y r => some (none, pc + 1, ls, .int (x - y) :: r, w)
  | .imul => m_i2 st fun x y r => some (none, pc + 1, ls, .int (x * y) :: r, w)
  | .idiv => m_i2 st fun x y r => some (some (decide (¬ y = 0)), pc + 1, ls, .int (x / y) :: r, w)
  | .irem => m_i2 st fun x y r => some (some (decide (¬ y = 0)), pc + 1, ls, .int (x - x / y * y) :: r, w)
  | .iand => m_i2 st fun x y r => some (none, pc + 1, ls, .int (x &&& y) :: r, w)
  | .ior => m_i2 st fun x y r => some (none, pc + 1, ls, .int (x ||| y) :: r, w)
  | .ishl => m_i2 st fun x y r => some (none, pc + 1, ls, .int (x <<< (y &&& 31)) :: r, w)
  | .i2c => m_i1 st fun x r => some (none, pc + 1, ls, .int (x.toUInt32 % 65536).toInt32 :: r, w)
  | .l2i => m_l1 st fun x r => some (none, pc + 1, ls, .int x.toInt32 :: r, w)
  | .ladd => m_l2 st fun x y r => some (none, pc + 1, ls, .long (x + y) :: r, w)
  | .lsub => m_l2 st fun x y r => some (none, pc + 1, ls, .long (x - y) :: r, w)
  | .land => m_l2 st fun x y r => some (none, pc + 1, ls, .long (x &&& y) :: r, w)
  | .lor => m_l2 st fun x y r => some (none, pc + 1, ls, .long (x ||| y) :: r, w)
  | .lxor => m_l2 st fun x y r => some (none, pc + 1, ls, .long (x ^^^ y) :: r, w)
  | .lcmp => m_l2 st fun x y r => some (none, pc + 1, ls, .int (lg_cmp x y) :: r, w)
  | .lshl => m_li st fun x y r => some (none, pc + 1, ls, .long (x <<< (y.toInt64 &&& 63)) :: r, w)
  | .lushr => m_li st fun x y r => some (none, pc + 1, ls, .long (x.toUInt64 >>> (y.toInt64.toUInt64 &&& Int64.toUInt64 63)).toInt64 :: r, w)
  | .dup => match st with
    | v :: r => match Nat.beq v.category 1 with
      | true => some (none, pc + 1, ls, v :: v :: r, w)
      | false => none
    | _ => none
  | .dup2 => match st with
    | v :: u :: r => match Nat.beq v.category 1 && Nat.beq u.category 1 with
      | true => some (none, pc + 1, ls, v :: u :: v :: u :: r, w)
      | false => none
    | _ => none
  | .ifCond c off => m_i1 st fun x r => match m_tgt pc off with
    | some t => some (none, m_c0 c x t (pc + 3), ls, r, w)
    | none => none
  | .if_icmp c off => m_i2 st fun x y r => match m_tgt pc off with
    | some t => some (none, m_c2 c x y t (pc + 3), ls, r, w)
    | none => none
  | .goto off => match m_tgt pc off with
    | some t => some (none, t, ls, st, w)
    | none => none
  | .tableswitch d lo hi offs => m_i1 st fun x r => match m_offs pc (d :: offs.toList) && decide (-2147483648 ≤ lo) && decide (hi ≤ 2147483647) && decide (hi = lo + (offs.toList.length : Int) - 1) with
    | true => some (none, m_tsw pc x d lo offs.toList, ls, r, w)
    | false => none
  | .lookupswitch d ps => m_i1 st fun x r => match m_offs pc (d :: ps.toList.map Prod.snd) && ps.toList.all (fun q => decide (-2147483648 ≤ q.1 ∧ q.1 ≤ 2147483647)) && (ps.toList.zip (ps.toList.drop 1)).all (fun (a, next) => a.1 < next.1) with
    | true => some (none, m_lsw pc x d ps.toList, ls, r, w)
    | false => none
  | .getfield k => m_getf mi k pc ls st w
  | .putfield k => m_putf mi k pc ls st w
  | .arraylength => m_a1 st fun a r => match a with
    | 0 => some (none, pc + 1, ls, .int (Int32.ofNat S.1) :: r, w)
    | _ => none
  | .iaload => m_ai st fun a j r => match a with
    | 0 => some (some (m_ok j S.1), pc + 1, ls, .int (S.2 j.toNatClampNeg) :: r, w)
    | a + 1 => m_kd w (a + 1) 8 (some (some (m_ok j (m_sh w (a + 1)).2), pc + 1, ls, .int (w.2.1 (a + 1) j.toNatClampNeg) :: r, w))
  | .caload => m_ai st fun a j r => m_kd w a 7 (some (some (m_ok j (m_sh w a).2), pc + 1, ls, .int (w.2.1 a j.toNatClampNeg) :: r, w))
  | .baload => m_ai st fun a j r => m_kd w a 10 (some (some (m_ok j (m_sh w a).2), pc + 1, ls, .int (w.2.1 a j.toNatClampNeg) :: r, w))
  | .laload => m_ai st fun a j r => m_kd w a 9 (some (some (m_ok j (m_sh w a).2), pc + 1, ls, .long (w.2.2.1 a j.toNatClampNeg) :: r, w))
  | .aaload => m_ai st fun a j r => m_kd w a 11 (some (some (m_ok j (m_sh w a).2), pc + 1, ls, va_rf (w.2.2.2 a j.toNatClampNeg) :: r, w))
  | .iastore => m_aii st fun a j x r => m_kd w a 8 (some (some (m_ok j (m_sh w a).2), pc + 1, ls, r, m_sI w a j.toNatClampNeg x))
  | .castore => m_aii st fun a j x r => m_kd w a 7 (some (some (m_ok j (m_sh w a).2), pc + 1, ls, r, m_sI w a j.toNatClampNeg (vp_nar .char x)))
  | .bastore => m_aii st fun a j x r => m_kd w a 10 (some (some (m_ok j (m_sh w a).2), pc + 1, ls, r, m_sI w a j.toNatClampNeg (vp_nar .boolean x)))
  | .lastore => m_ail st fun a j x r => m_kd w a 9 (some (some (m_ok j (m_sh w a).2), pc + 1, ls, r, m_sL w a j.toNatClampNeg x))
  | .aastore => m_aia st fun a j v r => m_kd w a 11 (m_kd w v 1 (some (some (m_ok j (m_sh w a).2), pc + 1, ls, r, m_sR w a j.toNatClampNeg (some v))))
  | .new k => match m_fnd (m_clss (m_owi mi)) k with
    | some ci => some (none, pc + 3, ls, .ref (w.1.length + 1) :: st, m_new w (ci, m_N ci))
    | none => none
  | .newarray t => m_i1 st fun n r => m_alen w t n pc ls r
  | .anewarray k => m_i1 st fun n r => match m_fnd (m_clss (m_owi mi)) k with
    | some 1 => if n < 0 ∨ 65536 < n.toNatClampNeg then none else some (none, pc + 3, ls, .ref (w.1.length + 1) :: r, m_new w (11, n.toNatClampNeg))
    | _ => none
  | .invokespecial k => match Nat.beq k (m_oinit (m_owi mi)) && Nat.blt 0 k && Nat.blt 0 (m_rF mi) with
    | true => m_a1 st fun _ r => match Nat.ble (m_cs r + 12) (m_rL mi) with
      | true => some (none, pc + 3, ls, r, w)
      | false => none
    | false => none
  | .invokestatic k => match m_fnd (m_calls (m_owi mi)) k with
    | some (_, 5, _) => m_i2 st fun x y r => match Nat.blt 0 (m_rF mi) && Nat.ble (m_cs r + 13) (m_rL mi) with
      | true => some (none, pc + 3, ls, .int (if x < y then y else x) :: r, w)
      | false => none
    | some (_, 6, _) => m_i2 st fun x y r => match Nat.blt 0 (m_rF mi) && Nat.ble (m_cs r + 13) (m_rL mi) with
      | true => some (none, pc + 3, ls, .int (if y < x then y else x) :: r, w)
      | false => none
    | _ => none
  | _ => none
/-- how long an instruction is (0: any) -/
def m_len (i : Instr) : Nat := match i with
  | .bipush _ | .ldc _ | .iload _ | .lload _ | .istore _ | .lstore _ | .newarray _ => 2
  | .sipush _ | .ldc2_w _ | .iinc _ _ | .ifCond _ _ | .if_icmp _ _ | .goto _ | .getfield _ | .putfield _ | .new _ | .anewarray _ | .invokespecial _ | .invokestatic _ | .invokevirtual _ => 3
  | .tableswitch _ _ _ _ | .lookupswitch _ _ => 0
  | _ => 1
def m_lenOk (i : Instr) (len : Nat) : Bool := Nat.beq (m_len i) 0 || Nat.beq (m_len i) len
/-- a return: what is answered -/
def m_ret (mi : Nat) (i : Instr) (st : List Value) : Option (Option Bool × Option Value) := match i, st with
  | .ireturn, [.int x] => match m_rty mi with
    | some .int => some (none, some (.int x))
    | some .boolean => some (some (m_bl x), some (.int x))
    | _ => none
  | .lreturn, [.long x] => match m_rty mi with
    | some .long => some (none, some (.long x))
    | _ => none
  | .return_, [] => match m_rty mi with
    | none => some (none, none)
    | _ => none
  | _, _ => none
def m_lgc (lg : List Nat) : Nat → List Value → Bool
  | _, [] => true
  | i, v :: vs => match Nat.beq v.category 2 with
    | true => lg.any (fun j => Nat.beq j i) && m_lgc lg (i + 2) vs
    | false => m_lgc lg (i + 1) vs
def m_nar (k n : Nat) : Nat := match k with
  | 1 => n
  | 4 => n
  | _ => n + 1
/-- a call: who, with what, what lies below; n arguments, k: 0 and 2, 3 have a receiver too -/
def m_cal1 (mi : Nat) (st : List Value) (w : mW) (q : Nat × Nat × Nat × MethodName) (ks : List Nat) : Option (Nat × List Value × List Value) :=
  match ks.any (fun k => Nat.beq k q.2.1) with
  | false => none
  | true =>
    let n := m_nar q.2.1 q.2.2.1
    let av := (st.take n).reverse
    let r := st.drop n
    match Nat.beq av.length n && Nat.ble (m_cs r) 8 && Nat.blt (m_rF q.1) (m_rF mi) && Nat.ble (8 + (m_mxl q.1 + 11) + m_rL q.1) (m_rL mi) && Nat.ble (m_cs av) (m_mxl q.1) && m_lgc (m_lg q.1) 0 av with
    | false => none
    | true => match q.2.1 with
      | 1 => some (q.1, av, r)
      | 4 => some (q.1, av, r)
      | _ => match av with
        | .ref a :: _ => match Nat.blt (m_owi q.1) 7 with
          | true => m_kd w a (m_owi q.1) (some (q.1, av, r))
          | false => none
        | _ => none
def m_cal (mi : Nat) (i : Instr) (st : List Value) (w : mW) : Option (Nat × List Value × List Value) := match i with
  | .invokevirtual k => match m_fnd (m_calls (m_owi mi)) k with
    | some q => m_cal1 mi st w q [0]
    | none => none
  | .invokestatic k => match m_fnd (m_calls (m_owi mi)) k with
    | some q => m_cal1 mi st w q [1, 4]
    | none => none
  | .invokespecial k => match m_fnd (m_calls (m_owi mi)) k with
    | some q => m_cal1 mi st w q [2, 3]
    | none => none
  | _ => none
def m_slots (vs : List Value) : mLs := vs.flatMap fun v => match Nat.beq v.category 2 with
  | true => [some v, none]
  | false => [some v]
def m_ent (mi : Nat) (vs : List Value) : mLs := m_slots vs ++ List.replicate (m_mxl mi - (m_slots vs).length) none
def m_run (S : mS) : Nat → Nat → Nat → mLs → List Value → mW → Option (Option Value × mW)
  | 0, _, _, _, _, _ => none
  | n + 1, mi, pc, ls, st, w => match decode (m_cod mi) pc with
    | .error _ => none
    | .ok (i, len) => match m_lenOk i len with
      | false => none
      | true => match m_ret mi i st with
        | some (g, v) => match g with
          | some false => none
          | _ => some (v, w)
        | none => match m_cal mi i st w with
          | some (m', av, r) => match m_run S n m' 0 (m_ent m' av) [] w with
            | some (v, w') => m_run S n mi (pc + 3) ls (v.toList ++ r) w'
            | none => none
          | none => match m_exe S mi i pc ls st w with
            | some (g, pc', ls', st', w') => match g with
              | some false => none
              | _ => m_run S n mi pc' ls' st' w'
            | none => none
