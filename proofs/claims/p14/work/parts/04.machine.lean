/-! THE SMALL MACHINE: one step, and a run. rt_f, rt_c, rt_n, rt_i, rt_l: what a class's pool numbers mean (part 03). -/
/-- a step without cells -/
def ri_px (ci : Nat) (x : Instr × Nat × Nat × Int32) (L : List (Option Value)) (st : List Value) : Option ri_F :=
  match x with
  | (i, np, tg, kv) => match i with
    | .iconst _ => some (np, L, .int kv :: st)
    | .bipush _ => some (np, L, .int kv :: st)
    | .sipush _ => some (np, L, .int kv :: st)
    | .lconst k => some (np, L, .long (lN k) :: st)
    | .ldc k => match rt_i ci k with
      | some v => some (np, L, .int v :: st)
      | none => none
    | .ldc2_w k => match rt_l ci k with
      | some v => some (np, L, .long v :: st)
      | none => none
    | .aconst_null => some (np, L, .null :: st)
    | .iload k => match ri_get L k with
      | some (.int v) => some (np, L, .int v :: st)
      | _ => none
    | .iload_n k => match ri_get L k.val with
      | some (.int v) => some (np, L, .int v :: st)
      | _ => none
    | .lload k => match ri_get L k with
      | some (.long v) => some (np, L, .long v :: st)
      | _ => none
    | .lload_n k => match ri_get L k.val with
      | some (.long v) => some (np, L, .long v :: st)
      | _ => none
    | .aload k => match ri_get L k with
      | some (.ref v) => some (np, L, .ref v :: st)
      | _ => none
    | .aload_n k => match ri_get L k.val with
      | some (.ref v) => some (np, L, .ref v :: st)
      | _ => none
    | .istore k => match st, Nat.blt k L.length with
      | .int v :: r, true => some (np, ri_put L k (.int v), r)
      | _, _ => none
    | .istore_n k => match st, Nat.blt k.val L.length with
      | .int v :: r, true => some (np, ri_put L k.val (.int v), r)
      | _, _ => none
    | .lstore k => match st, Nat.blt (k + 1) L.length with
      | .long v :: r, true => some (np, ri_put L k (.long v), r)
      | _, _ => none
    | .lstore_n k => match st, Nat.blt (k.val + 1) L.length with
      | .long v :: r, true => some (np, ri_put L k.val (.long v), r)
      | _, _ => none
    | .astore k => match st, Nat.blt k L.length with
      | .ref v :: r, true => some (np, ri_put L k (.ref v), r)
      | _, _ => none
    | .astore_n k => match st, Nat.blt k.val L.length with
      | .ref v :: r, true => some (np, ri_put L k.val (.ref v), r)
      | _, _ => none
    | .iinc k _ => match ri_get L k, Nat.blt k L.length with
      | some (.int v), true => some (np, ri_put L k (.int (v + kv)), st)
      | _, _ => none
    | .iadd => match st with
      | .int y :: .int x :: r => some (np, L, .int (x + y) :: r)
      | _ => none
    | .isub => match st with
      | .int y :: .int x :: r => some (np, L, .int (x - y) :: r)
      | _ => none
    | .imul => match st with
      | .int y :: .int x :: r => some (np, L, .int (x * y) :: r)
      | _ => none
    | .iand => match st with
      | .int y :: .int x :: r => some (np, L, .int (x &&& y) :: r)
      | _ => none
    | .ior => match st with
      | .int y :: .int x :: r => some (np, L, .int (x ||| y) :: r)
      | _ => none
    | .ishl => match st with
      | .int y :: .int x :: r => some (np, L, .int (x <<< (y &&& 31)) :: r)
      | _ => none
    | .ishr => match st with
      | .int y :: .int x :: r => some (np, L, .int (x >>> (y &&& 31)) :: r)
      | _ => none
    | .iushr => match st with
      | .int y :: .int x :: r => some (np, L, .int (x.toUInt32 >>> (y.toUInt32 &&& Int32.toUInt32 31)).toInt32 :: r)
      | _ => none
    | .land => match st with
      | .long y :: .long x :: r => some (np, L, .long (x &&& y) :: r)
      | _ => none
    | .lor => match st with
      | .long y :: .long x :: r => some (np, L, .long (x ||| y) :: r)
      | _ => none
    | .lshl => match st with
      | .int y :: .long x :: r => some (np, L, .long (x <<< (y.toInt64 &&& 63)) :: r)
      | _ => none
    | .lushr => match st with
      | .int y :: .long x :: r => some (np, L, .long (x.toUInt64 >>> (y.toInt64.toUInt64 &&& Int64.toUInt64 63)).toInt64 :: r)
      | _ => none
    | .lcmp => match st with
      | .long y :: .long x :: r => some (np, L, .int (lg_cmp x y) :: r)
      | _ => none
    | .i2l => match st with
      | .int x :: r => some (np, L, .long x.toInt64 :: r)
      | _ => none
    | .l2i => match st with
      | .long x :: r => some (np, L, .int x.toInt32 :: r)
      | _ => none
    | .dup => match st with
      | va :: r => if va.category = 1 then some (np, L, va :: va :: r) else none
      | _ => none
    | .pop => match st with
      | va :: r => if va.category = 1 then some (np, L, r) else none
      | _ => none
    | .dup_x1 => match st with
      | va :: vb :: r => if va.category = 1 ∧ vb.category = 1 then some (np, L, va :: vb :: va :: r) else none
      | _ => none
    | .dup_x2 => match st with
      | va :: vb :: vd :: r => if va.category = 1 ∧ vb.category = 1 ∧ vd.category = 1 then some (np, L, va :: vb :: vd :: va :: r) else none
      | _ => none
    | .dup2 => match st with
      | va :: r => if va.category = 2 then some (np, L, va :: va :: r) else match r with
        | vb :: r => if va.category = 1 ∧ vb.category = 1 then some (np, L, va :: vb :: va :: vb :: r) else none
        | _ => none
      | _ => none
    | .ifCond cd _ => match st with
      | .int x :: r => match cd with
        | .eq => some (if x = 0 then tg else np, L, r)
        | .ne => some (if x = 0 then np else tg, L, r)
        | .lt => some (if x < 0 then tg else np, L, r)
        | .ge => some (if 0 ≤ x then tg else np, L, r)
        | .gt => some (if 0 < x then tg else np, L, r)
        | .le => some (if x ≤ 0 then tg else np, L, r)
      | _ => none
    | .if_icmp cd _ => match st with
      | .int y :: .int x :: r => match cd with
        | .eq => some (if x = y then tg else np, L, r)
        | .ne => some (if x = y then np else tg, L, r)
        | .lt => some (if x < y then tg else np, L, r)
        | .ge => some (if y ≤ x then tg else np, L, r)
        | .gt => some (if y < x then tg else np, L, r)
        | .le => some (if x ≤ y then tg else np, L, r)
      | _ => none
    | .goto _ => some (tg, L, st)
    | .tableswitch _ lo hi offs => match st with
      | .int x :: r => if x.toInt < lo ∨ hi < x.toInt then some (tg, L, r) else match offs[(x.toInt - lo).toNat]? with
        | some off => if 0 ≤ (kv.toInt : Int) + off then some (((kv.toInt : Int) + off).toNat, L, r) else none
        | none => none
      | _ => none
    | _ => none
/-- an int array that may be read (the script's type is no real one: it may not be written) -/
def ri_ai (e : ri_E) : Option (Nat × (Nat → Int32)) := match e with
  | .inl (.int, n, .inl f) => some (n, f)
  | .inl (.object _, n, .inl f) => some (n, f)
  | _ => none
/-- the cells of new int[n][m] at q -/
def ri_grid (h : Nat → Option ri_E) (q n m : Nat) : Nat → Option ri_E := fun a => if a = q then some (.inl (.array .int, n, .inr (.inr (.inr (.inr (fun i => if i < n then some (q + 1 + i) else none)))))) else if q < a ∧ a ≤ q + n then some (.inl (.int, m, .inl fun _ => 0)) else h a
/-- a step with cells -/
def ri_hx (M : ri_M) (i : Instr) (st : List Value) (σ : ri_S) : Option (List Value × ri_S) := match i with
  | .getfield k => match st with
    | .ref a :: r => match rt_f M.1 k with
      | some (cj, j, _, _) => match σ.1 a with
        | some (.inr (ck, fs)) => if ck = cj then (match fs[j]? with
          | some v => some (v :: r, σ)
          | none => none) else none
        | _ => none
      | none => none
    | _ => none
  | .putfield k => match st with
    | v :: .ref a :: r => match rt_f M.1 k with
      | some (cj, j, ty, fin) => match σ.1 a with
        | some (.inr (ck, fs)) => if ck = cj ∧ narrow ty v = v ∧ fits ty v = true ∧ j < fs.length ∧ (fin = 0 ∨ fin = 1 ∧ M.2.1.name = "<init>") then some (r, (ri_up σ.1 a (.inr (ck, fs.set j v)), σ.2)) else none
        | _ => none
      | none => none
    | _ => none
  | .iaload => match st with
    | .int j :: .ref a :: r => match σ.1 a with
      | some ea => match ri_ai ea with
        | some (n, f) => if j < 0 ∨ n ≤ j.toNatClampNeg then none else some (.int (f j.toNatClampNeg) :: r, σ)
        | none => none
      | none => none
    | _ => none
  | .laload => match st with
    | .int j :: .ref a :: r => match σ.1 a with
      | some (.inl (.long, n, .inr (.inl f))) => if j < 0 ∨ n ≤ j.toNatClampNeg then none else some (.long (f j.toNatClampNeg) :: r, σ)
      | _ => none
    | _ => none
  | .aaload => match st with
    | .int j :: .ref a :: r => match σ.1 a with
      | some (.inl (.array .int, n, .inr (.inr (.inr (.inr f))))) => if j < 0 ∨ n ≤ j.toNatClampNeg then none else some (va_rf (f j.toNatClampNeg) :: r, σ)
      | _ => none
    | _ => none
  | .iastore => match st with
    | .int x :: .int j :: .ref a :: r => match σ.1 a with
      | some (.inl (.int, n, .inl f)) => if j < 0 ∨ n ≤ j.toNatClampNeg then none else some (r, (ri_up σ.1 a (.inl (.int, n, .inl (upd f j.toNatClampNeg x))), σ.2))
      | _ => none
    | _ => none
  | .lastore => match st with
    | .long x :: .int j :: .ref a :: r => match σ.1 a with
      | some (.inl (.long, n, .inr (.inl f))) => if j < 0 ∨ n ≤ j.toNatClampNeg then none else some (r, (ri_up σ.1 a (.inl (.long, n, .inr (.inl (vp_updL f j.toNatClampNeg x)))), σ.2))
      | _ => none
    | _ => none
  | .baload => match st with
    | .int j :: .ref a :: r => match σ.1 a with
      | some (.inl (.boolean, n, .inl f)) => if j < 0 ∨ n ≤ j.toNatClampNeg then none else some (.int (f j.toNatClampNeg) :: r, σ)
      | _ => none
    | _ => none
  | .bastore => match st with
    | .int x :: .int j :: .ref a :: r => match σ.1 a with
      | some (.inl (.boolean, n, .inl f)) => if j < 0 ∨ n ≤ j.toNatClampNeg then none else some (r, (ri_up σ.1 a (.inl (.boolean, n, .inl (upd f j.toNatClampNeg (vp_nar .boolean x)))), σ.2))
      | _ => none
    | _ => none
  | .aastore => match st with
    | .ref v :: .int j :: .ref a :: r => match σ.1 a with
      | some (.inl (.array .int, n, .inr (.inr (.inr (.inr f))))) => match σ.1 v with
        | some (.inl (.int, _, .inl _)) => if j < 0 ∨ n ≤ j.toNatClampNeg then none else some (r, (ri_up σ.1 a (.inl (.array .int, n, .inr (.inr (.inr (.inr (va_up f j.toNatClampNeg (some v))))))), σ.2))
        | _ => none
      | _ => none
    | _ => none
  | .multianewarray k 2 => match rt_m M.1 k with
    | true => match st with
      | .int m :: .int n :: r => if n < 0 ∨ m < 0 ∨ 67108864 < n.toNatClampNeg ∨ 67108864 < m.toNatClampNeg then none else some (.ref σ.2.1 :: r, (ri_grid σ.1 σ.2.1 n.toNatClampNeg m.toNatClampNeg, σ.2.1 + 1 + n.toNatClampNeg, σ.2.2 + n.toNatClampNeg + n.toNatClampNeg * m.toNatClampNeg))
      | _ => none
    | false => none
  | .arraylength => match st with
    | .ref a :: r => match σ.1 a with
      | some ea => match ri_ai ea with
        | some (n, _) => some (.int (nI n) :: r, σ)
        | none => none
      | none => none
    | _ => none
  | .newarray t => match st with
    | .int n :: r => if n < 0 ∨ 67108864 < n.toNatClampNeg then none else match t with
      | .int => some (.ref σ.2.1 :: r, (ri_up σ.1 σ.2.1 (.inl (.int, n.toNatClampNeg, .inl fun _ => 0)), σ.2.1 + 1, σ.2.2 + n.toNatClampNeg))
      | .boolean => some (.ref σ.2.1 :: r, (ri_up σ.1 σ.2.1 (.inl (.boolean, n.toNatClampNeg, .inl fun _ => 0)), σ.2.1 + 1, σ.2.2 + n.toNatClampNeg))
      | .long => some (.ref σ.2.1 :: r, (ri_up σ.1 σ.2.1 (.inl (.long, n.toNatClampNeg, .inr (.inl fun _ => 0))), σ.2.1 + 1, σ.2.2 + n.toNatClampNeg))
      | _ => none
    | _ => none
  | .new k => match rt_n M.1 k with
    | some (cj, fs) => some (.ref σ.2.1 :: st, (ri_up σ.1 σ.2.1 (.inr (cj, fs)), σ.2.1 + 1, σ.2.2 + fs.length))
    | none => none
  | _ => none
/-- a return -/
def ri_rt (M : ri_M) (i : Instr) (st : List Value) : Option (Option Value) := match i with
  | .ireturn => match st with
    | [.int v] => match M.2.2.2.2.1 with
      | some .int => some (some (.int v))
      | some .boolean => if v = 0 ∨ v = 1 then some (some (.int v)) else none
      | _ => none
    | _ => none
  | .lreturn => match st with
    | [.long v] => match M.2.2.2.2.1 with
      | some .long => some (some (.long v))
      | _ => none
    | _ => none
  | .areturn => match st with
    | [.ref v] => match M.2.2.2.2.1 with
      | some (.array _) => some (some (.ref v))
      | some (.object _) => some (some (.ref v))
      | _ => none
    | _ => none
  | .return_ => match st with
    | [] => match M.2.2.2.2.1 with
      | none => some none
      | some _ => none
    | _ => none
  | _ => none
/-- a call: the callee, its arguments, what stays on the stack. Kinds: 0 virtual, 1 static, 2 constructor, 3 .. 5 the same of a nest mate's private ones -/
def ri_cl (M : ri_M) (i : Instr) (st : List Value) (σ : ri_S) : Option (ri_M × List Value × List Value) := match i with
  | .invokevirtual k => match rt_c M.1 k with
    | some (0, M', n) => match st.drop n with
      | .ref b :: r => match σ.1 b with
        | some (.inr (ck, _)) => if ck = M'.1 ∧ (st.take n).length = n ∧ (r.map fun v => v.category).sum ≤ 8 then some (M', .ref b :: (st.take n).reverse, r) else none
        | _ => none
      | _ => none
    | _ => none
  | .invokestatic k => match rt_c M.1 k with
    | some (1, M', n) => if (st.take n).length = n ∧ ((st.drop n).map fun v => v.category).sum ≤ 8 then some (M', (st.take n).reverse, st.drop n) else none
    | some (4, M', n) => if (st.take n).length = n ∧ ((st.drop n).map fun v => v.category).sum ≤ 8 then some (M', (st.take n).reverse, st.drop n) else none
    | _ => none
  | .invokespecial k => match rt_c M.1 k with
    | some (2, M', n) => match st.drop n with
      | .ref b :: r => if (st.take n).length = n ∧ (r.map fun v => v.category).sum ≤ 8 then some (M', .ref b :: (st.take n).reverse, r) else none
      | _ => none
    | some (5, M', n) => match st.drop n with
      | .ref b :: r => if (st.take n).length = n ∧ (r.map fun v => v.category).sum ≤ 8 then some (M', .ref b :: (st.take n).reverse, r) else none
      | _ => none
    | _ => none
  | _ => none
/-- a call that is done at once: Object's constructor, Math.max, Math.min, System.arraycopy of ints -/
def ri_lf (M : ri_M) (i : Instr) (st : List Value) (σ : ri_S) : Option (List Value × ri_S) := match i with
  | .invokespecial k => match rt_o M.1 k with
    | 1 => match st with
      | .ref _ :: r => if (r.map fun v => v.category).sum ≤ 8 then some (r, σ) else none
      | _ => none
    | _ => none
  | .invokestatic k => match rt_o M.1 k with
    | 2 => match st with
      | .int y :: .int x :: r => if (r.map fun v => v.category).sum ≤ 8 then some (.int (if x < y then y else x) :: r, σ) else none
      | _ => none
    | 3 => match st with
      | .int y :: .int x :: r => if (r.map fun v => v.category).sum ≤ 8 then some (.int (if y < x then y else x) :: r, σ) else none
      | _ => none
    | 4 => match st with
      | .int n :: .int dp :: .ref a :: .int sp :: .ref a0 :: r => match σ.1 a0 with
        | some (.inl (.int, n0, .inl f)) => match σ.1 a with
          | some (.inl (.int, n1, .inl g)) => if (¬ sp < 0 ∧ ¬ dp < 0 ∧ ¬ n < 0) ∧ sp.toNatClampNeg + n.toNatClampNeg ≤ n0 ∧ dp.toNatClampNeg + n.toNatClampNeg ≤ n1 ∧ (r.map fun v => v.category).sum ≤ 8 then some (r, (ri_up σ.1 a (.inl (.int, n1, .inl (va_cpy f g sp.toNatClampNeg dp.toNatClampNeg n.toNatClampNeg))), σ.2)) else none
          | _ => none
        | _ => none
      | _ => none
    | _ => none
  | _ => none
def ri_run : Nat → Nat → ri_M → ri_F → ri_S → Option (Option Value × ri_S)
  | 0, _, _, _, _ => none
  | n + 1, d, M, F, σ => match ri_find F.1 M.2.2.2.2.2 with
    | none => none
    | some x => match ri_rt M x.1 F.2.2 with
      | some v => some (v, σ)
      | none => match ri_cl M x.1 F.2.2 σ with
        | some (M', as, r) => match d, Nat.ble (ri_ent as).length M'.2.2.2.1 with
          | d' + 1, true => match ri_run n d' M' (0, ri_loc M'.2.2.2.1 as, []) σ with
            | none => none
            | some (v, σ') => ri_run n (d' + 1) M (x.2.1, F.2.1, v.toList ++ r) σ'
          | _, _ => none
        | none => match ri_lf M x.1 F.2.2 σ with
          | some (st', σ') => match d with
            | 0 => none
            | d' + 1 => ri_run n (d' + 1) M (x.2.1, F.2.1, st') σ'
          | none => match ri_px M.1 x F.2.1 F.2.2 with
            | some F' => ri_run n d M F' σ
            | none => match ri_hx M x.1 F.2.2 σ with
              | some (st', σ') => ri_run n d M (x.2.1, F.2.1, st') σ'
              | none => none
