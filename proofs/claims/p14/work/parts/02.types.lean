/-! A SMALL MACHINE over cells by address. This part: its words.
ri_E: a cell (an array with its component's type, or an object: class number and fields). ri_S: the cells, the next free address, how many slots were made so far.
ri_I: an instruction of a method: where it stands, the instruction, the next place, the place it jumps to, the number it pushes or adds.
ri_M: a method: class number, name, bytes, locals, return type, instructions. -/
abbrev ri_E : Type := (FieldType × vp_A) ⊕ (Nat × List Value)
abbrev ri_S : Type := (Nat → Option ri_E) × Nat × Nat
abbrev ri_I : Type := Nat × Instr × Nat × Nat × Int32
abbrev ri_M : Type := Nat × MethodName × ByteArray × Nat × Option FieldType × List ri_I
abbrev ri_F : Type := Nat × List (Option Value) × List Value
def ri_find (pc : Nat) : List ri_I → Option (Instr × Nat × Nat × Int32)
  | [] => none
  | x :: r => match Nat.beq x.1 pc with
    | true => some x.2
    | false => ri_find pc r
theorem ri_find_mem {pc : Nat} {x : Instr × Nat × Nat × Int32} : ∀ {l : List ri_I}, ri_find pc l = some x → (pc, x) ∈ l
  | [], h => by cases h
  | y :: r, h => by
    unfold ri_find at h
    split at h
    · rename_i hb
      have e : y.1 = pc := Nat.eq_of_beq_eq_true hb
      cases h
      rw [← e]
      exact List.mem_cons_self
    · exact List.mem_cons_of_mem _ (ri_find_mem h)
/-- what a row of a method's list must be, beside its decoding -/
def ri_sp (x : ri_I) : Bool := match x with
  | (pc, i, np, tg, kv) => match i with
    | .iconst k => np == pc + 1 && Int32.ofInt k == kv
    | .bipush k => np == pc + 2 && (Int8.ofInt k).toInt32 == kv
    | .sipush k => np == pc + 3 && (Int16.ofInt k).toInt32 == kv
    | .iinc _ k => np == pc + 3 && Int32.ofInt k == kv
    | .ifCond _ off => np == pc + 3 && (pc : Int) + off == (tg : Int)
    | .if_icmp _ off => np == pc + 3 && (pc : Int) + off == (tg : Int)
    | .if_acmp _ off => np == pc + 3 && (pc : Int) + off == (tg : Int)
    | .ifnull off => np == pc + 3 && (pc : Int) + off == (tg : Int)
    | .ifnonnull off => np == pc + 3 && (pc : Int) + off == (tg : Int)
    | .goto off => np == pc + 3 && (pc : Int) + off == (tg : Int)
    | .iload _ | .lload _ | .aload _ | .istore _ | .lstore _ | .astore _ | .ldc _ | .newarray _ => np == pc + 2
    | .checkcast _ | .ldc2_w _ | .getfield _ | .putfield _ | .new _ | .anewarray _ | .invokevirtual _ | .invokespecial _ | .invokestatic _ => np == pc + 3
    | .multianewarray _ _ => np == pc + 4
    | .tableswitch d _ _ _ => (pc : Int) + d == (tg : Int) && kv.toInt == (pc : Int)
    | .lookupswitch _ _ => true
    | _ => np == pc + 1
def ri_ck (b : ByteArray) (x : ri_I) : Prop := decode b x.1 = .ok (x.2.1, x.2.2.1 - x.1) ∧ ri_sp x = true
def ri_get (L : List (Option Value)) (i : Nat) : Option Value := match L[i]? with
  | some x => x
  | none => none
def ri_two (L : List (Option Value)) (i : Nat) : Bool := match ri_get L i with
  | some v => v.category == 2
  | none => false
/-- the locals with v at i: a long whose second half lay there is gone; a long takes two -/
def ri_put (L : List (Option Value)) (i : Nat) (v : Value) : List (Option Value) := match i with
  | 0 => bif v.category == 2 then (L.set 0 (some v)).set 1 none else L.set 0 (some v)
  | j + 1 => bif v.category == 2 then (((bif ri_two L j then L.set j none else L).set (j + 1) (some v)).set (j + 2) none) else ((bif ri_two L j then L.set j none else L).set (j + 1) (some v))
def ri_ent : List Value → List (Option Value)
  | [] => []
  | v :: r => bif v.category == 2 then some v :: none :: ri_ent r else some v :: ri_ent r
/-- a method's locals at its entry -/
def ri_loc (n : Nat) (vs : List Value) : List (Option Value) := ri_ent vs ++ List.replicate (n - (ri_ent vs).length) none
def ri_up (h : Nat → Option ri_E) (a : Nat) (e : ri_E) : Nat → Option ri_E := fun q => if q = a then some e else h q
